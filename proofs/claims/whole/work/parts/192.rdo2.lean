/-! PURE: the reference's night, mend, undo, hold, restore -/
section RDO2
variable {D d v : Nat} {τ : Tx} {ρ : Rw} {P : List Rw} {H : Nat → Option Rw} {M : AmM} {N : Nat}
theorem r_nightN (hD : 2 ≤ D) {n : Int} (hn : ¬ (0 ≤ n ∧ n ≤ 100)) : amD amGst D 204 [vR 12 12 0, vI n] M = some (vI (-1), M) := by
  obtain ⟨d, rfl⟩ := dS hD
  rw [n_X12_night, q_X12_night_0, r_inN (by omega) hn, amCI_s, if_pos rfl]
theorem r_night0 (hD : 2 ≤ D) (hS : rNow ρ M) : amD amGst D 204 [vR 12 12 0, vI 0] M = some (vI (ρ 83), M) := by
  obtain ⟨d, rfl⟩ := dS hD
  rw [n_X12_night, q_X12_night_0, r_inY (by omega) (by omega), amCI_s, if_neg (by decide), if_pos rfl, if_pos (show (0 : Int) ≤ 83 ∧ (83 : Int) < 100 by omega), hS 83 (by omega)]
theorem r_nightsLoop (hd : 1 ≤ d) (hτ : tOk τ) {ρ0 : Rw} {P0 : List Rw} : ∀ (k i : Nat) (ρ : Rw) (B : Int) (M : AmM), B + k ≤ 1000000 → i + k ≤ 100 → sOk1 τ B ρ → rTx v τ M → rNow ρ0 M → rPa P0 M → rRow ρ M → ∃ M', e_X12_night_30 d ((i + k : Nat) : Int) (i : Int) M = some (vI ((ntN τ k ρ) 83), M') ∧ amSame fRg M M' ∧ rNow (ntN τ k ρ) M' ∧ rPa ((ρ0 :: P0).take 40) M'
  | 0, i, ρ, B, M, hB, hi, hN, hT, hS, hP, hR => by
    obtain ⟨M3, c1, c2, c3, c4⟩ := r_keeps (D := d) (by omega) hS hR hP
    refine ⟨M3, ?_, c4.mono fKp_fRg, c2, c3⟩
    rw [q_X12_night_30, if_neg (by omega), c1, amCV_s, if_pos (show (0 : Int) ≤ 83 ∧ (83 : Int) < 100 by omega), c2 83 (by omega)]
    rfl
  | k + 1, i, ρ, B, M, hB, hi, hN, hT, hS, hP, hR => by
    obtain ⟨M1, m1, m2, m3⟩ := r_nightGoes (D := d) (by omega) hτ (by omega) hN hT hR
    have s1 : amSame fRo M M1 := m3.mono f160_fRo
    obtain ⟨M2, k1, k2, k3, k4⟩ := r_nightsLoop hd hτ k (i + 1) (ntS τ ρ) (B + 1) M1 (by omega) (by omega) (ntS_ok hτ hN) (hT.ro s1) (hS.ro s1) (hP.ro s1) m2
    refine ⟨M2, ?_, (s1.mono fRo_fRg).trans k2, k3, k4⟩
    have e1 : ((i + (k + 1) : Nat) : Int) = ((i + 1 + k : Nat) : Int) := by omega
    rw [q_X12_night_30, if_pos (by omega), m1, amCV_s, w32_n (x := (i : Int) + 1) (n := i + 1) (by omega) (by omega), e1]
    exact k1
theorem r_night (hD : 2 ≤ D) (hτ : tOk τ) (hN5 : N ≤ 1000) (hN : sOk τ N ρ) (hT : rTx v τ M) (hS : rNow ρ M) (hP : rPa P M) {n : Nat} (h1 : 1 ≤ n) (h2 : n ≤ 100) :
    ∃ M', amD amGst D 204 [vR 12 12 0, vI n] M = some (vI ((ntN τ n ρ) 83), M') ∧ amSame fRg M M' ∧ rNow (ntN τ n ρ) M' ∧ rPa ((ρ :: P).take 40) M' := by
  obtain ⟨d, rfl⟩ := dS hD
  obtain ⟨M1, a1, a2, a3⟩ := r_takes (D := d) (by omega) hS
  have s1 : amSame fRo M M1 := a3.mono f160_fRo
  obtain ⟨M2, k1, k2, k3, k4⟩ := r_nightsLoop (d := d) (by omega) hτ n 0 ρ (100 * (N : Int)) M1 (by omega) (by omega) hN.one (hT.ro s1) (hS.ro s1) (hP.ro s1) a2
  refine ⟨M2, ?_, (s1.mono fRo_fRg).trans k2, k3, k4⟩
  have e0 : ((0 + n : Nat) : Int) = (n : Int) := by omega
  rw [e0] at k1
  rw [n_X12_night, q_X12_night_0, r_inY (by omega) (by omega), amCI_s, if_neg (show ¬ (1 : Int) = 0 by decide), if_neg (show ¬ (n : Int) = 0 by omega), a1, amCV_s]
  exact k1
theorem r_25v (h : rTx v τ M) {j : Nat} (hj : j < 100) : w32 ((w32 (25 * (M 12 0 18))) + (j : Int)) = ((25 * v + j : Nat) : Int) := by
  have hv := h.1
  rw [h.2.1, w32_id (x := 25 * (v : Int)) (by omega) (by omega), w32_id (by omega) (by omega)]
  omega
theorem r_mendN (hD : 3 ≤ D) (hτ : tOk τ) (hT : rTx v τ M) {s m : Int} (h : ¬ ((1 ≤ s ∧ s ≤ tN τ) ∧ 1 ≤ m)) : amD amGst D 205 [vR 12 12 0, vI s, vI m] M = some (vI (-1), M) := by
  obtain ⟨d, rfl⟩ := dS hD
  rw [n_X12_mend, q_X12_mend_0]
  by_cases h1 : 1 ≤ s ∧ s ≤ tN τ
  · rw [r_isStepY (by omega) hτ hT h1, amCI_s, if_neg (by decide), if_pos (by omega)]
  · rw [r_isStepN (by omega) hτ hT h1, amCI_s, if_pos rfl]
theorem r_mendC (hD : 3 ≤ D) (hτ : tOk τ) (hN : sOk τ N ρ) (hT : rTx v τ M) (hS : rNow ρ M) {s : Nat} {m : Int} (hs : 1 ≤ s ∧ s ≤ tN τ) (hm : 1 ≤ m) (h : ¬ (m ≤ ρ 82 ∧ m ≤ tTh τ s - ρ s)) : amD amGst D 205 [vR 12 12 0, vI s, vI m] M = some (vI (-2), M) := by
  obtain ⟨d, rfl⟩ := dS hD
  have hn := hτ.1
  have hv := hT.1
  have a1 := hN.1 s hs.1 hs.2
  have a2 := hτ.2.1 s hs.1 hs.2
  have a3 := hN.2.2.1
  have e82 : (82 : Int).toNat = 82 := rfl
  have e : ((s : Nat) : Int).toNat = s := rfl
  have e2 : (((25 * v + s : Nat) : Int)).toNat = 25 * v + s := rfl
  rw [n_X12_mend, q_X12_mend_0, r_isStepY (by omega) hτ hT (by omega), amCI_s, if_neg (show ¬ (1 : Int) = 0 by decide), if_neg (show ¬ m < 1 by omega), if_pos (show (0 : Int) ≤ 82 ∧ (82 : Int) < 100 by omega), hS 82 (by omega), r_25v hT (by omega), e2, e, hS s (by omega), hT.2.2.2.1 s hs.1 hs.2]
  by_cases h1 : m ≤ ρ 82
  · rw [if_neg (show ¬ ρ 82 < m by omega), if_pos (show (0 : Int) ≤ (s : Int) ∧ (s : Int) < 100 by omega), if_pos (show (0 : Int) ≤ ((25 * v + s : Nat) : Int) ∧ ((25 * v + s : Nat) : Int) < 50 by omega), w32_id (x := ρ s + m) (by omega) (by omega), if_pos (show tTh τ s < ρ s + m by omega)]
  · rw [if_pos (show ρ 82 < m by omega)]
theorem r_mend (hD : 3 ≤ D) (hτ : tOk τ) (hN : sOk τ N ρ) (hT : rTx v τ M) (hS : rNow ρ M) (hP : rPa P M) {s : Nat} {m : Int} (hs : 1 ≤ s ∧ s ≤ tN τ) (hm : 1 ≤ m ∧ m ≤ ρ 82 ∧ m ≤ tTh τ s - ρ s) :
    ∃ M', amD amGst D 205 [vR 12 12 0, vI s, vI m] M = some (vI (ρ 82 - m), M') ∧ amSame fRg M M' ∧ rNow (mdS ρ s m) M' ∧ rPa ((ρ :: P).take 40) M' := by
  obtain ⟨d, rfl⟩ := dS hD
  have hn := hτ.1
  have hv := hT.1
  have a1 := hN.1 s hs.1 hs.2
  have a2 := hτ.2.1 s hs.1 hs.2
  have a3 := hN.2.2.1
  have e82 : (82 : Int).toNat = 82 := rfl
  have e : ((s : Nat) : Int).toNat = s := rfl
  have e2 : (((25 * v + s : Nat) : Int)).toNat = 25 * v + s := rfl
  obtain ⟨M1, b1, b2, b3⟩ := r_takes (D := d) (by omega) hS
  have s1 : amSame fRo M M1 := b3.mono f160_fRo
  have hR2 : rRow (mdS ρ s m) (amUp (amUp M1 160 0 s (ρ s + m)) 160 0 82 (ρ 82 - m)) := fun j hj => by
    rw [up_at, up_at, b2 j hj]
    unfold mdS
    by_cases j82 : j = 82
    · rw [if_pos j82, if_pos j82]
    · rw [if_neg j82, if_neg j82]; rfl
  have s2 : amSame fRo M (amUp (amUp M1 160 0 s (ρ s + m)) 160 0 82 (ρ 82 - m)) := (s1.up (by rfl)).up (by rfl)
  obtain ⟨M3, c1, c2, c3, c4⟩ := r_keeps (D := d) (by omega) (hS.ro s2) hR2 (hP.ro s2)
  refine ⟨M3, ?_, (s2.mono fRo_fRg).trans (c4.mono fKp_fRg), c2, c3⟩
  rw [n_X12_mend, q_X12_mend_0, r_isStepY (by omega) hτ hT (by omega), amCI_s, if_neg (show ¬ (1 : Int) = 0 by decide), if_neg (show ¬ m < 1 by omega), if_pos (show (0 : Int) ≤ 82 ∧ (82 : Int) < 100 by omega), hS 82 (by omega), r_25v hT (by omega), e2, e, hS s (by omega), hT.2.2.2.1 s hs.1 hs.2, if_neg (show ¬ ρ 82 < m by omega), if_pos (show (0 : Int) ≤ (s : Int) ∧ (s : Int) < 100 by omega), if_pos (show (0 : Int) ≤ ((25 * v + s : Nat) : Int) ∧ ((25 * v + s : Nat) : Int) < 50 by omega), w32_id (x := ρ s + m) (by omega) (by omega), if_neg (show ¬ tTh τ s < ρ s + m by omega), b1, amCV_s, if_pos (show (0 : Int) ≤ (s : Int) ∧ (s : Int) < 100 by omega), if_pos (show (0 : Int) ≤ (s : Int) ∧ (s : Int) < 100 by omega), if_pos (show (0 : Int) ≤ 82 ∧ (82 : Int) < 100 by omega), if_pos (show (0 : Int) ≤ 82 ∧ (82 : Int) < 100 by omega), b2 s (by omega), up_j (show 82 ≠ s by omega), b2 82 (by omega), w32_id (x := ρ s + m) (by omega) (by omega), w32_id (x := ρ 82 - m) (by omega) (by omega), q_X12_mend_79, c1, amCV_s, if_pos (show (0 : Int) ≤ 82 ∧ (82 : Int) < 100 by omega), c2 82 (by omega)]
  rfl
theorem r_undoN (hD : 1 ≤ D) (hP : rPa [] M) : amD amGst D 206 [vR 12 12 0] M = some (vI 0, M) := by
  obtain ⟨d, rfl⟩ := dS hD
  have h : M 12 0 53 = 0 := hP.2.1
  rw [n_X12_undo, q_X12_undo_0, if_pos h]
theorem r_undoLoop {u : Nat} (hu : u < 40) : ∀ (k i : Nat) (M : AmM), i + k = 100 → M 12 0 53 = u → (∀ j, j < 100 → M 161 0 (100 * u + j) = ρ j) → (∀ j, j < i → M 159 0 j = ρ j) → ∃ M', e_X12_undo_21 d (i : Int) M = some (vI 1, M') ∧ rNow ρ M' ∧ amSame (fun c _ _ => c == 159) M M'
  | 0, i, M, h, h53, hR, hN => by
    refine ⟨M, ?_, fun j hj => hN j (by omega), amSame.refl⟩
    rw [q_X12_undo_21, if_neg (by omega)]
  | k + 1, i, M, h, h53, hR, hN => by
    have e : ((i : Nat) : Int).toNat = i := rfl
    have e2 : (((100 * u + i : Nat) : Int)).toNat = 100 * u + i := rfl
    obtain ⟨M', m1, m2, m3⟩ := r_undoLoop hu k (i + 1) (amUp M 159 0 i (M 161 0 (100 * u + i))) (by omega) (by rw [up_c (by decide)]; exact h53) (fun j hj => by rw [up_c (by decide)]; exact hR j hj) (fun j hj => by
      by_cases hji : j = i
      · subst hji; rw [up_on]; exact hR j (by omega)
      · rw [up_j hji]; exact hN j (by omega))
    refine ⟨M', ?_, m2, (amSame.refl.up (by rfl)).trans m3⟩
    rw [q_X12_undo_21, e, if_pos (show (i : Int) < 100 by omega), h53, w32_n (x := 100 * (u : Int)) (n := 100 * u) (by omega) (by omega), w32_n (x := ((100 * u : Nat) : Int) + (i : Int)) (n := 100 * u + i) (by omega) (by omega), e2, if_pos (show (0 : Int) ≤ ((100 * u + i : Nat) : Int) ∧ ((100 * u + i : Nat) : Int) < 4000 by omega), if_pos (show (0 : Int) ≤ (i : Int) ∧ (i : Int) < 100 by omega), w32_n (x := (i : Int) + 1) (n := i + 1) (by omega) (by omega)]
    exact m1
theorem r_undo (hD : 1 ≤ D) (hP : rPa (ρ :: P) M) : ∃ M', amD amGst D 206 [vR 12 12 0] M = some (vI 1, M') ∧ amSame fRg M M' ∧ rNow ρ M' ∧ rPa P M' := by
  obtain ⟨d, rfl⟩ := dS hD
  obtain ⟨h1, h2, h3⟩ := hP
  have hl : (ρ :: P).length = P.length + 1 := rfl
  rw [hl] at h1 h2
  have h0 := h3 0 ρ rfl
  rw [hl] at h0
  obtain ⟨M', m1, m2, m3⟩ := r_undoLoop (d := d) (ρ := ρ) (u := P.length) (by omega) 100 0 (amUp M 12 0 53 (P.length : Int)) (by omega) up_on (fun j hj => by
    rw [up_c (by decide)]
    have := h0 j hj
    rw [show P.length + 1 - 1 - 0 = P.length by omega] at this
    exact this) (fun j hj => by omega)
  refine ⟨M', ?_, (amSame.refl.up (by rfl)).trans (m3.mono fun c s j hc => ?_), m2, by omega, by rw [m3 12 0 53 (by rfl), up_on], fun i ρ1 hi j hj => ?_⟩
  · rw [n_X12_undo, q_X12_undo_0, h2, if_neg (show ¬ ((P.length + 1 : Nat) : Int) = 0 by omega), w32_n (x := ((P.length + 1 : Nat) : Int) - 1) (n := P.length) (by omega) (by omega)]
    exact m1
  · have hc : (c == 159) = true := hc
    unfold fRg fKp
    rw [hc]; simp
  · rw [m3 161 0 _ (by rfl), up_c (by decide)]
    have h6 := h3 (i + 1) ρ1 hi j hj
    rw [hl] at h6
    have e3 : P.length + 1 - 1 - (i + 1) = P.length - 1 - i := by omega
    rw [e3] at h6
    exact h6
def fRh : Nat → Nat → Nat → Bool := fun c _ _ => c == 169 || c == 170
theorem r_holdN (hD : 2 ≤ D) {s : Int} (hs : ¬ (0 ≤ s ∧ s < 3)) : amD amGst D 240 [vR 12 12 0, vI s] M = some (vI 0, M) := by
  obtain ⟨d, rfl⟩ := dS hD
  rw [n_X12_hold, q_X12_hold_0, r_inN (by omega) (by omega), amCI_s, if_pos rfl]
theorem r_holdLoop {s : Nat} (hs : s < 3) : ∀ (k i : Nat) (M : AmM), i + k = 100 → rNow ρ M → (∀ j, j < i → M 170 0 (100 * s + j) = ρ j) → ∃ M', e_X12_hold_20 d (s : Int) (i : Int) M = some (vI 1, M') ∧ (∀ j, j < 100 → M' 170 0 (100 * s + j) = ρ j) ∧ (∀ j, j < 100 * s ∨ 100 * s + 100 ≤ j → M' 170 0 j = M 170 0 j) ∧ amSame (fun c _ _ => c == 170) M M'
  | 0, i, M, h, hN, hR => by
    refine ⟨M, ?_, fun j hj => hR j (by omega), fun j hj => rfl, amSame.refl⟩
    rw [q_X12_hold_20, if_neg (by omega)]
  | k + 1, i, M, h, hN, hR => by
    have e : ((i : Nat) : Int).toNat = i := rfl
    have e2 : (((100 * s + i : Nat) : Int)).toNat = 100 * s + i := rfl
    obtain ⟨M', m1, m2, m3, m4⟩ := r_holdLoop hs k (i + 1) (amUp M 170 0 (100 * s + i) (M 159 0 i)) (by omega) (hN.mv fun j => up_c (by decide)) (fun j hj => by
      by_cases hji : j = i
      · subst hji; rw [up_on]; exact hN j (by omega)
      · rw [up_j (by omega)]; exact hR j (by omega))
    refine ⟨M', ?_, m2, fun j hj => by rw [m3 j hj, up_j (by omega)], (amSame.refl.up (by rfl)).trans m4⟩
    rw [q_X12_hold_20, e, if_pos (show (i : Int) < 100 by omega), w32_n (x := 100 * (s : Int)) (n := 100 * s) (by omega) (by omega), w32_n (x := ((100 * s : Nat) : Int) + (i : Int)) (n := 100 * s + i) (by omega) (by omega), e2, if_pos (show (0 : Int) ≤ (i : Int) ∧ (i : Int) < 100 by omega), if_pos (show (0 : Int) ≤ ((100 * s + i : Nat) : Int) ∧ ((100 * s + i : Nat) : Int) < 300 by omega), w32_n (x := (i : Int) + 1) (n := i + 1) (by omega) (by omega)]
    exact m1
theorem r_hold (hD : 2 ≤ D) (hS : rNow ρ M) (hH : rHe H M) {s : Nat} (hs : s < 3) : ∃ M', amD amGst D 240 [vR 12 12 0, vI s] M = some (vI 1, M') ∧ amSame fRh M M' ∧ rHe (fun i => if i = s then some ρ else H i) M' := by
  obtain ⟨d, rfl⟩ := dS hD
  have e : ((s : Nat) : Int).toNat = s := rfl
  obtain ⟨M', m1, m2, m3, m4⟩ := r_holdLoop (d := d) (ρ := ρ) hs 100 0 (amUp M 169 0 s 1) (by omega) (hS.mv fun j => up_c (by decide)) (fun j hj => by omega)
  refine ⟨M', ?_, (amSame.refl.up (by rfl)).trans (m4.mono fun c s j hc => by
    have hc : (c == 170) = true := hc
    unfold fRh; rw [hc]; simp), fun i hi => ?_⟩
  · rw [n_X12_hold, q_X12_hold_0, r_inY (by omega) (by omega), amCI_s, if_neg (show ¬ (1 : Int) = 0 by decide), e, if_pos (show (0 : Int) ≤ (s : Int) ∧ (s : Int) < 3 by omega)]
    exact m1
  · by_cases his : i = s
    · subst his
      dsimp only
      rw [if_pos rfl]
      exact ⟨by rw [m4 169 0 i (by rfl), up_on], m2⟩
    · dsimp only
      rw [if_neg his]
      have h1 := hH i hi
      have e169 : M' 169 0 i = M 169 0 i := by rw [m4 169 0 i (by rfl), up_j his]
      cases hHi : H i with
      | none =>
        rw [hHi] at h1
        show M' 169 0 i = 0
        rw [e169]; exact h1
      | some ρ' =>
        rw [hHi] at h1
        refine ⟨by rw [e169]; exact h1.1, fun j hj => ?_⟩
        rw [m3 _ (by omega), up_c (by decide)]
        exact h1.2 j hj
theorem r_restoreN (hD : 2 ≤ D) (hH : rHe H M) {s : Int} (hs : ¬ (0 ≤ s ∧ s < 3 ∧ (H s.toNat).isSome = true)) : amD amGst D 241 [vR 12 12 0, vI s] M = some (vI 0, M) := by
  obtain ⟨d, rfl⟩ := dS hD
  rw [n_X12_restore, q_X12_restore_0]
  by_cases h3 : 0 ≤ s ∧ s ≤ 2
  · have h1 := hH s.toNat (by omega)
    cases hs2 : H s.toNat with
    | none =>
      rw [hs2] at h1
      have h1 : M 169 0 s.toNat = 0 := h1
      rw [r_inY (by omega) h3, amCI_s, if_neg (show ¬ (1 : Int) = 0 by decide), if_pos (show 0 ≤ s ∧ s < 3 by omega), if_pos h1]
    | some ρ' => exact absurd ⟨by omega, by omega, by rw [hs2]; rfl⟩ hs
  · rw [r_inN (by omega) h3, amCI_s, if_pos rfl]
theorem r_restoreLoop {s : Nat} (hs : s < 3) : ∀ (k i : Nat) (M : AmM), i + k = 100 → (∀ j, j < 100 → M 170 0 (100 * s + j) = ρ j) → (∀ j, j < i → M 159 0 j = ρ j) → ∃ M', e_X12_restore_22 d (s : Int) (i : Int) M = some (vI 1, amUp M' 12 0 53 0) ∧ rNow ρ M' ∧ amSame (fun c _ _ => c == 159) M M'
  | 0, i, M, h, hR, hN => by
    refine ⟨M, ?_, fun j hj => hN j (by omega), amSame.refl⟩
    rw [q_X12_restore_22, if_neg (by omega)]
  | k + 1, i, M, h, hR, hN => by
    have e : ((i : Nat) : Int).toNat = i := rfl
    have e2 : (((100 * s + i : Nat) : Int)).toNat = 100 * s + i := rfl
    obtain ⟨M', m1, m2, m3⟩ := r_restoreLoop hs k (i + 1) (amUp M 159 0 i (M 170 0 (100 * s + i))) (by omega) (fun j hj => by rw [up_c (by decide)]; exact hR j hj) (fun j hj => by
      by_cases hji : j = i
      · subst hji; rw [up_on]; exact hR j (by omega)
      · rw [up_j hji]; exact hN j (by omega))
    refine ⟨M', ?_, m2, (amSame.refl.up (by rfl)).trans m3⟩
    rw [q_X12_restore_22, e, if_pos (show (i : Int) < 100 by omega), w32_n (x := 100 * (s : Int)) (n := 100 * s) (by omega) (by omega), w32_n (x := ((100 * s : Nat) : Int) + (i : Int)) (n := 100 * s + i) (by omega) (by omega), e2, if_pos (show (0 : Int) ≤ ((100 * s + i : Nat) : Int) ∧ ((100 * s + i : Nat) : Int) < 300 by omega), if_pos (show (0 : Int) ≤ (i : Int) ∧ (i : Int) < 100 by omega), w32_n (x := (i : Int) + 1) (n := i + 1) (by omega) (by omega)]
    exact m1
theorem r_restore (hD : 2 ≤ D) (hH : rHe H M) {s : Nat} (hs : s < 3) (hρ : H s = some ρ) : ∃ M', amD amGst D 241 [vR 12 12 0, vI s] M = some (vI 1, M') ∧ amSame fRg M M' ∧ rNow ρ M' ∧ rPa [] M' := by
  obtain ⟨d, rfl⟩ := dS hD
  have e : ((s : Nat) : Int).toNat = s := rfl
  have h1 := hH s hs
  rw [hρ] at h1
  obtain ⟨M', m1, m2, m3⟩ := r_restoreLoop (d := d) (ρ := ρ) hs 100 0 M (by omega) h1.2 (fun j hj => by omega)
  refine ⟨_, ?_, (m3.mono fun c s j hc => by
    have hc : (c == 159) = true := hc
    unfold fRg fKp
    rw [hc]; simp).up (by rfl), m2.mv fun j => up_c (by decide), ⟨by decide, up_on, fun i ρ1 hi => by cases hi⟩⟩
  rw [n_X12_restore, q_X12_restore_0, r_inY (by omega) (by omega), amCI_s, if_neg (show ¬ (1 : Int) = 0 by decide), e, if_pos (show (0 : Int) ≤ (s : Int) ∧ (s : Int) < 3 by omega), if_neg (show ¬ M 169 0 s = 0 by rw [h1.1]; decide)]
  exact m1
end RDO2
