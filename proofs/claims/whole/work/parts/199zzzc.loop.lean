/-! PURE: the law's loop, case by case -/
section LLP
variable {d N L i i1 i2 : Nat} {M : AmM} {K : AmM → Option (AmV × AmM)}
theorem ll0 (h : jOp d N i1 i2 [] M) (hL : (M 90 1 0).toNat = L) (hi : i + 6 ≤ L) (hLL : L ≤ 3072) (ih : ∀ M2, jI (N + 1) M2 → (∀ s j, M2 90 s j = M 90 s j) → ∃ M', K M2 = some (vI 1, M')) : ∃ M', (amCI (amD amGst d i1 [vR 11 11 0] M) fun v1 M1 => (amCI (amD amGst d i2 [vR 12 12 0] M1) fun v2 M2 => if v1 = v2 then (K M2) else (some (vI 0, M2)))) = some (vI 1, M') := by
  obtain ⟨x, M1, M2, a1, b1, hI, s1, s2⟩ := h
  obtain ⟨M', hK⟩ := ih M2 hI s2
  refine ⟨M', ?_⟩
  rw [a1, amCI_s, b1, amCI_s, if_pos rfl, hK]

theorem ll1 (h : jOp d N i1 i2 [vI (M 90 0 (i + 1))] M) (hL : (M 90 1 0).toNat = L) (hi : i + 6 ≤ L) (hLL : L ≤ 3072) (ih : ∀ M2, jI (N + 1) M2 → (∀ s j, M2 90 s j = M 90 s j) → ∃ M', K M2 = some (vI 1, M')) : ∃ M', (if (0 : Int) ≤ w32 ((i : Int) + 1) ∧ w32 ((i : Int) + 1) < ((M 90 1 0).toNat : Int) then (amCI (amD amGst d i1 [vR 11 11 0, vI (M 90 0 (w32 ((i : Int) + 1)).toNat)] M) fun v1 M1 => (if (0 : Int) ≤ w32 ((i : Int) + 1) ∧ w32 ((i : Int) + 1) < ((M1 90 1 0).toNat : Int) then (amCI (amD amGst d i2 [vR 12 12 0, vI (M1 90 0 (w32 ((i : Int) + 1)).toNat)] M1) fun v2 M2 => if v1 = v2 then (K M2) else (some (vI 0, M2))) else none)) else none) = some (vI 1, M') := by
  obtain ⟨x, M1, M2, a1, b1, hI, s1, s2⟩ := h
  obtain ⟨M', hK⟩ := ih M2 hI s2
  have e1 : w32 ((i : Int) + 1) = ((i + 1 : Nat) : Int) := w32_n (by omega) (by omega)
  have r1 : (0 : Int) ≤ ((i + 1 : Nat) : Int) ∧ ((i + 1 : Nat) : Int) < (L : Int) := by omega
  refine ⟨M', ?_⟩
  simp only [e1, tn_cast, hL]
  rw [if_pos r1, a1, amCI_s, s1 1 0, hL, if_pos r1, s1 0 (i + 1), b1, amCI_s, if_pos rfl, hK]

theorem ll2 (h : jOp d N i1 i2 [vI (M 90 0 (i + 1)), vI (M 90 0 (i + 2))] M) (hL : (M 90 1 0).toNat = L) (hi : i + 6 ≤ L) (hLL : L ≤ 3072) (ih : ∀ M2, jI (N + 1) M2 → (∀ s j, M2 90 s j = M 90 s j) → ∃ M', K M2 = some (vI 1, M')) : ∃ M', (if (0 : Int) ≤ w32 ((i : Int) + 1) ∧ w32 ((i : Int) + 1) < ((M 90 1 0).toNat : Int) then (if (0 : Int) ≤ w32 ((i : Int) + 2) ∧ w32 ((i : Int) + 2) < ((M 90 1 0).toNat : Int) then (amCI (amD amGst d i1 [vR 11 11 0, vI (M 90 0 (w32 ((i : Int) + 1)).toNat), vI (M 90 0 (w32 ((i : Int) + 2)).toNat)] M) fun v1 M1 => (if (0 : Int) ≤ w32 ((i : Int) + 1) ∧ w32 ((i : Int) + 1) < ((M1 90 1 0).toNat : Int) then (if (0 : Int) ≤ w32 ((i : Int) + 2) ∧ w32 ((i : Int) + 2) < ((M1 90 1 0).toNat : Int) then (amCI (amD amGst d i2 [vR 12 12 0, vI (M1 90 0 (w32 ((i : Int) + 1)).toNat), vI (M1 90 0 (w32 ((i : Int) + 2)).toNat)] M1) fun v2 M2 => if v1 = v2 then (K M2) else (some (vI 0, M2))) else none) else none)) else none) else none) = some (vI 1, M') := by
  obtain ⟨x, M1, M2, a1, b1, hI, s1, s2⟩ := h
  obtain ⟨M', hK⟩ := ih M2 hI s2
  have e1 : w32 ((i : Int) + 1) = ((i + 1 : Nat) : Int) := w32_n (by omega) (by omega)
  have r1 : (0 : Int) ≤ ((i + 1 : Nat) : Int) ∧ ((i + 1 : Nat) : Int) < (L : Int) := by omega
  have e2 : w32 ((i : Int) + 2) = ((i + 2 : Nat) : Int) := w32_n (by omega) (by omega)
  have r2 : (0 : Int) ≤ ((i + 2 : Nat) : Int) ∧ ((i + 2 : Nat) : Int) < (L : Int) := by omega
  refine ⟨M', ?_⟩
  simp only [e1, e2, tn_cast, hL]
  rw [if_pos r1, if_pos r2, a1, amCI_s, s1 1 0, hL, if_pos r1, if_pos r2, s1 0 (i + 1), s1 0 (i + 2), b1, amCI_s, if_pos rfl, hK]

theorem ll5 (h : jOp d N i1 i2 [vI (M 90 0 (i + 1)), vI (M 90 0 (i + 2)), vI (M 90 0 (i + 3)), vI (M 90 0 (i + 4)), vI (M 90 0 (i + 5))] M) (hL : (M 90 1 0).toNat = L) (hi : i + 6 ≤ L) (hLL : L ≤ 3072) (ih : ∀ M2, jI (N + 1) M2 → (∀ s j, M2 90 s j = M 90 s j) → ∃ M', K M2 = some (vI 1, M')) : ∃ M', (if (0 : Int) ≤ w32 ((i : Int) + 1) ∧ w32 ((i : Int) + 1) < ((M 90 1 0).toNat : Int) then (if (0 : Int) ≤ w32 ((i : Int) + 2) ∧ w32 ((i : Int) + 2) < ((M 90 1 0).toNat : Int) then (if (0 : Int) ≤ w32 ((i : Int) + 3) ∧ w32 ((i : Int) + 3) < ((M 90 1 0).toNat : Int) then (if (0 : Int) ≤ w32 ((i : Int) + 4) ∧ w32 ((i : Int) + 4) < ((M 90 1 0).toNat : Int) then (if (0 : Int) ≤ w32 ((i : Int) + 5) ∧ w32 ((i : Int) + 5) < ((M 90 1 0).toNat : Int) then (amCI (amD amGst d i1 [vR 11 11 0, vI (M 90 0 (w32 ((i : Int) + 1)).toNat), vI (M 90 0 (w32 ((i : Int) + 2)).toNat), vI (M 90 0 (w32 ((i : Int) + 3)).toNat), vI (M 90 0 (w32 ((i : Int) + 4)).toNat), vI (M 90 0 (w32 ((i : Int) + 5)).toNat)] M) fun v1 M1 => (if (0 : Int) ≤ w32 ((i : Int) + 1) ∧ w32 ((i : Int) + 1) < ((M1 90 1 0).toNat : Int) then (if (0 : Int) ≤ w32 ((i : Int) + 2) ∧ w32 ((i : Int) + 2) < ((M1 90 1 0).toNat : Int) then (if (0 : Int) ≤ w32 ((i : Int) + 3) ∧ w32 ((i : Int) + 3) < ((M1 90 1 0).toNat : Int) then (if (0 : Int) ≤ w32 ((i : Int) + 4) ∧ w32 ((i : Int) + 4) < ((M1 90 1 0).toNat : Int) then (if (0 : Int) ≤ w32 ((i : Int) + 5) ∧ w32 ((i : Int) + 5) < ((M1 90 1 0).toNat : Int) then (amCI (amD amGst d i2 [vR 12 12 0, vI (M1 90 0 (w32 ((i : Int) + 1)).toNat), vI (M1 90 0 (w32 ((i : Int) + 2)).toNat), vI (M1 90 0 (w32 ((i : Int) + 3)).toNat), vI (M1 90 0 (w32 ((i : Int) + 4)).toNat), vI (M1 90 0 (w32 ((i : Int) + 5)).toNat)] M1) fun v2 M2 => if v1 = v2 then (K M2) else (some (vI 0, M2))) else none) else none) else none) else none) else none)) else none) else none) else none) else none) else none) = some (vI 1, M') := by
  obtain ⟨x, M1, M2, a1, b1, hI, s1, s2⟩ := h
  obtain ⟨M', hK⟩ := ih M2 hI s2
  have e1 : w32 ((i : Int) + 1) = ((i + 1 : Nat) : Int) := w32_n (by omega) (by omega)
  have r1 : (0 : Int) ≤ ((i + 1 : Nat) : Int) ∧ ((i + 1 : Nat) : Int) < (L : Int) := by omega
  have e2 : w32 ((i : Int) + 2) = ((i + 2 : Nat) : Int) := w32_n (by omega) (by omega)
  have r2 : (0 : Int) ≤ ((i + 2 : Nat) : Int) ∧ ((i + 2 : Nat) : Int) < (L : Int) := by omega
  have e3 : w32 ((i : Int) + 3) = ((i + 3 : Nat) : Int) := w32_n (by omega) (by omega)
  have r3 : (0 : Int) ≤ ((i + 3 : Nat) : Int) ∧ ((i + 3 : Nat) : Int) < (L : Int) := by omega
  have e4 : w32 ((i : Int) + 4) = ((i + 4 : Nat) : Int) := w32_n (by omega) (by omega)
  have r4 : (0 : Int) ≤ ((i + 4 : Nat) : Int) ∧ ((i + 4 : Nat) : Int) < (L : Int) := by omega
  have e5 : w32 ((i : Int) + 5) = ((i + 5 : Nat) : Int) := w32_n (by omega) (by omega)
  have r5 : (0 : Int) ≤ ((i + 5 : Nat) : Int) ∧ ((i + 5 : Nat) : Int) < (L : Int) := by omega
  refine ⟨M', ?_⟩
  simp only [e1, e2, e3, e4, e5, tn_cast, hL]
  rw [if_pos r1, if_pos r2, if_pos r3, if_pos r4, if_pos r5, a1, amCI_s, s1 1 0, hL, if_pos r1, if_pos r2, if_pos r3, if_pos r4, if_pos r5, s1 0 (i + 1), s1 0 (i + 2), s1 0 (i + 3), s1 0 (i + 4), s1 0 (i + 5), b1, amCI_s, if_pos rfl, hK]

theorem llL (h : jOpL d N i1 i2 [vI (M 90 0 (i + 1)), vI (M 90 0 (i + 2)), vI (M 90 0 (i + 3)), vI (M 90 0 (i + 4)), vI (M 90 0 (i + 5))] M) (hL : (M 90 1 0).toNat = L) (hi : i + 6 ≤ L) (hLL : L ≤ 3072) (ih : ∀ M2, jI (N + 1) M2 → (∀ s j, M2 90 s j = M 90 s j) → ∃ M', K M2 = some (vI 1, M')) : ∃ M', (if (0 : Int) ≤ w32 ((i : Int) + 1) ∧ w32 ((i : Int) + 1) < ((M 90 1 0).toNat : Int) then (if (0 : Int) ≤ w32 ((i : Int) + 2) ∧ w32 ((i : Int) + 2) < ((M 90 1 0).toNat : Int) then (if (0 : Int) ≤ w32 ((i : Int) + 3) ∧ w32 ((i : Int) + 3) < ((M 90 1 0).toNat : Int) then (if (0 : Int) ≤ w32 ((i : Int) + 4) ∧ w32 ((i : Int) + 4) < ((M 90 1 0).toNat : Int) then (if (0 : Int) ≤ w32 ((i : Int) + 5) ∧ w32 ((i : Int) + 5) < ((M 90 1 0).toNat : Int) then (amCL (amD amGst d i1 [vR 11 11 0, vI (M 90 0 (w32 ((i : Int) + 1)).toNat), vI (M 90 0 (w32 ((i : Int) + 2)).toNat), vI (M 90 0 (w32 ((i : Int) + 3)).toNat), vI (M 90 0 (w32 ((i : Int) + 4)).toNat), vI (M 90 0 (w32 ((i : Int) + 5)).toNat)] M) fun v1 M1 => (if (0 : Int) ≤ w32 ((i : Int) + 1) ∧ w32 ((i : Int) + 1) < ((M1 90 1 0).toNat : Int) then (if (0 : Int) ≤ w32 ((i : Int) + 2) ∧ w32 ((i : Int) + 2) < ((M1 90 1 0).toNat : Int) then (if (0 : Int) ≤ w32 ((i : Int) + 3) ∧ w32 ((i : Int) + 3) < ((M1 90 1 0).toNat : Int) then (if (0 : Int) ≤ w32 ((i : Int) + 4) ∧ w32 ((i : Int) + 4) < ((M1 90 1 0).toNat : Int) then (if (0 : Int) ≤ w32 ((i : Int) + 5) ∧ w32 ((i : Int) + 5) < ((M1 90 1 0).toNat : Int) then (amCL (amD amGst d i2 [vR 12 12 0, vI (M1 90 0 (w32 ((i : Int) + 1)).toNat), vI (M1 90 0 (w32 ((i : Int) + 2)).toNat), vI (M1 90 0 (w32 ((i : Int) + 3)).toNat), vI (M1 90 0 (w32 ((i : Int) + 4)).toNat), vI (M1 90 0 (w32 ((i : Int) + 5)).toNat)] M1) fun v2 M2 => if amCmp v1 v2 = 0 then (K M2) else (some (vI 0, M2))) else none) else none) else none) else none) else none)) else none) else none) else none) else none) else none) = some (vI 1, M') := by
  obtain ⟨x, M1, M2, a1, b1, hI, s1, s2⟩ := h
  obtain ⟨M', hK⟩ := ih M2 hI s2
  have e1 : w32 ((i : Int) + 1) = ((i + 1 : Nat) : Int) := w32_n (by omega) (by omega)
  have r1 : (0 : Int) ≤ ((i + 1 : Nat) : Int) ∧ ((i + 1 : Nat) : Int) < (L : Int) := by omega
  have e2 : w32 ((i : Int) + 2) = ((i + 2 : Nat) : Int) := w32_n (by omega) (by omega)
  have r2 : (0 : Int) ≤ ((i + 2 : Nat) : Int) ∧ ((i + 2 : Nat) : Int) < (L : Int) := by omega
  have e3 : w32 ((i : Int) + 3) = ((i + 3 : Nat) : Int) := w32_n (by omega) (by omega)
  have r3 : (0 : Int) ≤ ((i + 3 : Nat) : Int) ∧ ((i + 3 : Nat) : Int) < (L : Int) := by omega
  have e4 : w32 ((i : Int) + 4) = ((i + 4 : Nat) : Int) := w32_n (by omega) (by omega)
  have r4 : (0 : Int) ≤ ((i + 4 : Nat) : Int) ∧ ((i + 4 : Nat) : Int) < (L : Int) := by omega
  have e5 : w32 ((i : Int) + 5) = ((i + 5 : Nat) : Int) := w32_n (by omega) (by omega)
  have r5 : (0 : Int) ≤ ((i + 5 : Nat) : Int) ∧ ((i + 5 : Nat) : Int) < (L : Int) := by omega
  refine ⟨M', ?_⟩
  simp only [e1, e2, e3, e4, e5, tn_cast, hL]
  rw [if_pos r1, if_pos r2, if_pos r3, if_pos r4, if_pos r5, a1, amCL_s, s1 1 0, hL, if_pos r1, if_pos r2, if_pos r3, if_pos r4, if_pos r5, s1 0 (i + 1), s1 0 (i + 2), s1 0 (i + 3), s1 0 (i + 4), s1 0 (i + 5), b1, amCL_s, if_pos (cmp0.2 rfl), hK]

end LLP
