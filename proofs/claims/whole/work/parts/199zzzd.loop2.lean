/-! PURE: the law's loop: wear and who -/
section LLQ
variable {d N L i i1 i2 : Nat} {M : AmM} {K : AmM → Option (AmV × AmM)}
theorem llW (h : ∀ up : Int, up = 0 ∨ up = 1 → jOp d N i1 i2 [vI (M 90 0 (i + 1)), vI (M 90 0 (i + 2)), vI up] M) (hL : (M 90 1 0).toNat = L) (hi : i + 6 ≤ L) (hLL : L ≤ 3072) (ih : ∀ M2, jI (N + 1) M2 → (∀ s j, M2 90 s j = M 90 s j) → ∃ M', K M2 = some (vI 1, M')) : ∃ M', (if (0 : Int) ≤ w32 ((i : Int) + 1) ∧ w32 ((i : Int) + 1) < ((M 90 1 0).toNat : Int) then (if (0 : Int) ≤ w32 ((i : Int) + 2) ∧ w32 ((i : Int) + 2) < ((M 90 1 0).toNat : Int) then (if (0 : Int) ≤ w32 ((i : Int) + 3) ∧ w32 ((i : Int) + 3) < ((M 90 1 0).toNat : Int) then (if M 90 0 (w32 ((i : Int) + 3)).toNat = 0 then (amCI (amD amGst d i1 [vR 11 11 0, vI (M 90 0 (w32 ((i : Int) + 1)).toNat), vI (M 90 0 (w32 ((i : Int) + 2)).toNat), vI 0] M) fun v1 M1 => (if (0 : Int) ≤ w32 ((i : Int) + 1) ∧ w32 ((i : Int) + 1) < ((M1 90 1 0).toNat : Int) then (if (0 : Int) ≤ w32 ((i : Int) + 2) ∧ w32 ((i : Int) + 2) < ((M1 90 1 0).toNat : Int) then (if (0 : Int) ≤ w32 ((i : Int) + 3) ∧ w32 ((i : Int) + 3) < ((M1 90 1 0).toNat : Int) then (if M1 90 0 (w32 ((i : Int) + 3)).toNat = 0 then (amCI (amD amGst d i2 [vR 12 12 0, vI (M1 90 0 (w32 ((i : Int) + 1)).toNat), vI (M1 90 0 (w32 ((i : Int) + 2)).toNat), vI 0] M1) fun v2 M2 => if v1 = v2 then (K M2) else (some (vI 0, M2))) else (amCI (amD amGst d i2 [vR 12 12 0, vI (M1 90 0 (w32 ((i : Int) + 1)).toNat), vI (M1 90 0 (w32 ((i : Int) + 2)).toNat), vI 1] M1) fun v2 M2 => if v1 = v2 then (K M2) else (some (vI 0, M2)))) else none) else none) else none)) else (amCI (amD amGst d i1 [vR 11 11 0, vI (M 90 0 (w32 ((i : Int) + 1)).toNat), vI (M 90 0 (w32 ((i : Int) + 2)).toNat), vI 1] M) fun v1 M1 => (if (0 : Int) ≤ w32 ((i : Int) + 1) ∧ w32 ((i : Int) + 1) < ((M1 90 1 0).toNat : Int) then (if (0 : Int) ≤ w32 ((i : Int) + 2) ∧ w32 ((i : Int) + 2) < ((M1 90 1 0).toNat : Int) then (if (0 : Int) ≤ w32 ((i : Int) + 3) ∧ w32 ((i : Int) + 3) < ((M1 90 1 0).toNat : Int) then (if M1 90 0 (w32 ((i : Int) + 3)).toNat = 0 then (amCI (amD amGst d i2 [vR 12 12 0, vI (M1 90 0 (w32 ((i : Int) + 1)).toNat), vI (M1 90 0 (w32 ((i : Int) + 2)).toNat), vI 0] M1) fun v2 M2 => if v1 = v2 then (K M2) else (some (vI 0, M2))) else (amCI (amD amGst d i2 [vR 12 12 0, vI (M1 90 0 (w32 ((i : Int) + 1)).toNat), vI (M1 90 0 (w32 ((i : Int) + 2)).toNat), vI 1] M1) fun v2 M2 => if v1 = v2 then (K M2) else (some (vI 0, M2)))) else none) else none) else none))) else none) else none) else none) = some (vI 1, M') := by
  have e1 : w32 ((i : Int) + 1) = ((i + 1 : Nat) : Int) := w32_n (by omega) (by omega)
  have r1 : (0 : Int) ≤ ((i + 1 : Nat) : Int) ∧ ((i + 1 : Nat) : Int) < (L : Int) := by omega
  have e2 : w32 ((i : Int) + 2) = ((i + 2 : Nat) : Int) := w32_n (by omega) (by omega)
  have r2 : (0 : Int) ≤ ((i + 2 : Nat) : Int) ∧ ((i + 2 : Nat) : Int) < (L : Int) := by omega
  have e3 : w32 ((i : Int) + 3) = ((i + 3 : Nat) : Int) := w32_n (by omega) (by omega)
  have r3 : (0 : Int) ≤ ((i + 3 : Nat) : Int) ∧ ((i + 3 : Nat) : Int) < (L : Int) := by omega
  simp only [e1, e2, e3, tn_cast, hL]
  by_cases h0 : M 90 0 (i + 3) = 0
  · obtain ⟨x, M1, M2, a1, b1, hI, s1, s2⟩ := h 0 (by decide)
    obtain ⟨M', hK⟩ := ih M2 hI s2
    refine ⟨M', ?_⟩
    rw [if_pos r1, if_pos r2, if_pos r3, if_pos h0, a1, amCI_s, s1 1 0, hL, if_pos r1, if_pos r2, if_pos r3, s1 0 (i + 3), if_pos h0, s1 0 (i + 1), s1 0 (i + 2), b1, amCI_s, if_pos rfl, hK]
  · obtain ⟨x, M1, M2, a1, b1, hI, s1, s2⟩ := h 1 (by decide)
    obtain ⟨M', hK⟩ := ih M2 hI s2
    refine ⟨M', ?_⟩
    rw [if_pos r1, if_pos r2, if_pos r3, if_neg h0, a1, amCI_s, s1 1 0, hL, if_pos r1, if_pos r2, if_pos r3, s1 0 (i + 3), if_neg h0, s1 0 (i + 1), s1 0 (i + 2), b1, amCI_s, if_pos rfl, hK]

theorem llO (h : ∀ up : Int, up = 0 ∨ up = 1 → jOp d N i1 i2 [vI (M 90 0 (i + 1)), vI up] M) (hL : (M 90 1 0).toNat = L) (hi : i + 6 ≤ L) (hLL : L ≤ 3072) (ih : ∀ M2, jI (N + 1) M2 → (∀ s j, M2 90 s j = M 90 s j) → ∃ M', K M2 = some (vI 1, M')) : ∃ M', (if (0 : Int) ≤ w32 ((i : Int) + 1) ∧ w32 ((i : Int) + 1) < ((M 90 1 0).toNat : Int) then (if (0 : Int) ≤ w32 ((i : Int) + 2) ∧ w32 ((i : Int) + 2) < ((M 90 1 0).toNat : Int) then (if M 90 0 (w32 ((i : Int) + 2)).toNat = 0 then (amCI (amD amGst d i1 [vR 11 11 0, vI (M 90 0 (w32 ((i : Int) + 1)).toNat), vI 0] M) fun v1 M1 => (if (0 : Int) ≤ w32 ((i : Int) + 1) ∧ w32 ((i : Int) + 1) < ((M1 90 1 0).toNat : Int) then (if (0 : Int) ≤ w32 ((i : Int) + 2) ∧ w32 ((i : Int) + 2) < ((M1 90 1 0).toNat : Int) then (if M1 90 0 (w32 ((i : Int) + 2)).toNat = 0 then (amCI (amD amGst d i2 [vR 12 12 0, vI (M1 90 0 (w32 ((i : Int) + 1)).toNat), vI 0] M1) fun v2 M2 => if v1 = v2 then (K M2) else (some (vI 0, M2))) else (amCI (amD amGst d i2 [vR 12 12 0, vI (M1 90 0 (w32 ((i : Int) + 1)).toNat), vI 1] M1) fun v2 M2 => if v1 = v2 then (K M2) else (some (vI 0, M2)))) else none) else none)) else (amCI (amD amGst d i1 [vR 11 11 0, vI (M 90 0 (w32 ((i : Int) + 1)).toNat), vI 1] M) fun v1 M1 => (if (0 : Int) ≤ w32 ((i : Int) + 1) ∧ w32 ((i : Int) + 1) < ((M1 90 1 0).toNat : Int) then (if (0 : Int) ≤ w32 ((i : Int) + 2) ∧ w32 ((i : Int) + 2) < ((M1 90 1 0).toNat : Int) then (if M1 90 0 (w32 ((i : Int) + 2)).toNat = 0 then (amCI (amD amGst d i2 [vR 12 12 0, vI (M1 90 0 (w32 ((i : Int) + 1)).toNat), vI 0] M1) fun v2 M2 => if v1 = v2 then (K M2) else (some (vI 0, M2))) else (amCI (amD amGst d i2 [vR 12 12 0, vI (M1 90 0 (w32 ((i : Int) + 1)).toNat), vI 1] M1) fun v2 M2 => if v1 = v2 then (K M2) else (some (vI 0, M2)))) else none) else none))) else none) else none) = some (vI 1, M') := by
  have e1 : w32 ((i : Int) + 1) = ((i + 1 : Nat) : Int) := w32_n (by omega) (by omega)
  have r1 : (0 : Int) ≤ ((i + 1 : Nat) : Int) ∧ ((i + 1 : Nat) : Int) < (L : Int) := by omega
  have e2 : w32 ((i : Int) + 2) = ((i + 2 : Nat) : Int) := w32_n (by omega) (by omega)
  have r2 : (0 : Int) ≤ ((i + 2 : Nat) : Int) ∧ ((i + 2 : Nat) : Int) < (L : Int) := by omega
  simp only [e1, e2, tn_cast, hL]
  by_cases h0 : M 90 0 (i + 2) = 0
  · obtain ⟨x, M1, M2, a1, b1, hI, s1, s2⟩ := h 0 (by decide)
    obtain ⟨M', hK⟩ := ih M2 hI s2
    refine ⟨M', ?_⟩
    rw [if_pos r1, if_pos r2, if_pos h0, a1, amCI_s, s1 1 0, hL, if_pos r1, if_pos r2, s1 0 (i + 2), if_pos h0, s1 0 (i + 1), b1, amCI_s, if_pos rfl, hK]
  · obtain ⟨x, M1, M2, a1, b1, hI, s1, s2⟩ := h 1 (by decide)
    obtain ⟨M', hK⟩ := ih M2 hI s2
    refine ⟨M', ?_⟩
    rw [if_pos r1, if_pos r2, if_neg h0, a1, amCI_s, s1 1 0, hL, if_pos r1, if_pos r2, s1 0 (i + 2), if_neg h0, s1 0 (i + 1), b1, amCI_s, if_pos rfl, hK]

end LLQ
