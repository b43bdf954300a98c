/-! PURE: the reference's go, would, night, mend, undo, hold, restore -/
section RDO
variable {D d v : Nat} {τ : Tx} {ρ : Rw} {P : List Rw} {H : Nat → Option Rw} {M : AmM} {N : Nat}
theorem r_goN (hD : 3 ≤ D) (hτ : tOk τ) (hT : rTx v τ M) {p : Int} (hp : ¬ (0 ≤ p ∧ p < tP τ)) : amD amGst D 201 [vR 12 12 0, vI p] M = some (vI (-1), M) := by
  obtain ⟨d, rfl⟩ := dS hD
  rw [n_X12_go, q_X12_go_0, r_isPilN (by omega) hτ hT hp, amCI_s, if_pos rfl]
theorem r_goA (hD : 3 ≤ D) (hτ : tOk τ) (hT : rTx v τ M) (hN : rNow ρ M) {p : Nat} (hp : p < tP τ) (hg : ρ (50 + p) ≠ 0) : amD amGst D 201 [vR 12 12 0, vI p] M = some (vI 3, M) := by
  obtain ⟨d, rfl⟩ := dS hD
  have hP8 := hτ.2.2.2.2.2.2.1
  rw [n_X12_go, q_X12_go_0, r_isPilY (by omega) hτ hT (by omega), amCI_s, if_neg (by decide), r_onGround (by omega) hN (by omega), amCI_s, if_neg hg, if_pos rfl]
theorem r_go (hD : 7 ≤ D) (hτ : tOk τ) (hN : sOk τ N ρ) (hT : rTx v τ M) (hS : rNow ρ M) (hP : rPa P M) {p : Nat} (hp : p < tP τ) (hg : ρ (50 + p) = 0) (h66 : w32 (ρ (66 + p)) = ρ (66 + p)) :
    ∃ M', amD amGst D 201 [vR 12 12 0, vI p] M = some (vI ((goR τ ρ p).1 : Nat), M') ∧ amSame fRg M M' ∧ rNow (goS τ ρ p) M' ∧ rPa ((ρ :: P).take 40) M' := by
  obtain ⟨d, rfl⟩ := dS hD
  have hP8 := hτ.2.2.2.2.2.2.1
  obtain ⟨M1, a1, a2, a3⟩ := r_takes (D := d) (by omega) hS
  have s1 : amSame fRo M M1 := a3.mono f160_fRo
  obtain ⟨M2, b1, b2, b3⟩ := r_sends (D := d) (by omega) hτ (hT.ro s1) a2 hN.1 hN.2.2.2.1 hp ((hN.2.1 p hp).2.2 hg) h66
  have s2 := s1.trans b2
  obtain ⟨M3, c1, c2, c3, c4⟩ := r_keeps (D := d) (by omega) (hS.ro s2) b3 (hP.ro s2)
  refine ⟨M3, ?_, (s2.mono fRo_fRg).trans (c4.mono fKp_fRg), c2, c3⟩
  rw [n_X12_go, q_X12_go_0, r_isPilY (by omega) hτ hT (by omega), amCI_s, if_neg (by decide), r_onGround (by omega) hS (by omega), amCI_s, if_pos hg, if_neg (by decide), a1, amCV_s, b1, amCI_s, c1, amCV_s]
theorem r_would (hD : 6 ≤ D) (hτ : tOk τ) (hN : sOk τ N ρ) (hT : rTx v τ M) (hS : rNow ρ M) {p w : Int} : ∃ M', amD amGst D 202 [vR 12 12 0, vI p, vI w] M = some (vI (wouldS τ ρ p w), M') ∧ amSame fRo M M' := by
  obtain ⟨d, rfl⟩ := dS hD
  have hP8 := hτ.2.2.2.2.2.2.1
  rw [n_X12_would, q_X12_would_0]
  unfold wouldS
  by_cases h1 : 0 ≤ p ∧ p < tP τ
  · rw [r_isPilY (by omega) hτ hT h1, amCI_s, if_neg (by decide)]
    by_cases h2 : 0 ≤ w ∧ w ≤ 2
    · have ep : p = ((p.toNat : Nat) : Int) := by omega
      have hg := r_onGround (D := d) (p := p.toNat) (by omega) hS (by omega)
      rw [← ep] at hg
      rw [r_inY (by omega) h2, amCI_s, if_neg (by decide), hg, amCI_s, if_pos (show (0 ≤ p ∧ p < tP τ) ∧ 0 ≤ w ∧ w ≤ 2 from ⟨h1, h2⟩)]
      by_cases h3 : ρ (50 + p.toNat) = 0
      · obtain ⟨M1, a1, a2, a3⟩ := r_takes (D := d) (by omega) hS
        have s1 : amSame fRo M M1 := a3.mono f160_fRo
        obtain ⟨M2, m1, m2, m3, m4⟩ := r_comesOf (D := d) (by omega) hτ hN.2.2.2.1 (p := p.toNat) (by omega) (hT.ro s1) a2 rfl hN.1
        have hfg : resE (comesS τ (tV τ p.toNat) (tW τ p.toNat) (ρ 83) (ρ, 0, M1 12 0 51)) (goR τ ρ p.toNat) := comesS_fg ⟨rfl, rfl⟩
        obtain ⟨f1, f2, f3, f4⟩ := hfg
        obtain ⟨m31, m32, -⟩ := m3
        rw [f1, ← ep] at m1
        rw [f2] at m4
        rw [f4] at m32
        have e0 : (if ρ (50 + p.toNat) = 0 then (1 : Int) else 0) = 1 := if_pos h3
        rw [e0, if_neg (show ¬ (1 : Int) = 0 by decide), a1, amCV_s, m1, amCI_s, m4, m32, if_pos h3]
        refine ⟨M2, ?_, s1.trans m2⟩
        by_cases w0 : w = 0
        · rw [if_pos w0, if_pos w0]
        · rw [if_neg w0, if_neg w0]
          by_cases w1 : w = 1
          · rw [if_pos w1, if_pos w1]
          · rw [if_neg w1, if_neg w1]
      · have e50 : (((50 + p.toNat : Nat) : Int)).toNat = 50 + p.toNat := rfl
        have e0 : (if ρ (50 + p.toNat) = 0 then (1 : Int) else 0) = 0 := if_neg h3
        rw [e0, if_pos (show (0 : Int) = 0 from rfl), if_neg h3, w32_n (x := 50 + p) (n := 50 + p.toNat) (by omega) (by omega), e50, if_pos (show (0 : Int) ≤ ((50 + p.toNat : Nat) : Int) ∧ ((50 + p.toNat : Nat) : Int) < 100 by omega), hS _ (by omega)]
        refine ⟨M, ?_, amSame.refl⟩
        by_cases w0 : w = 0
        · rw [if_pos w0, if_pos w0]
        · rw [if_neg w0, if_neg w0]
          by_cases w1 : w = 1
          · rw [if_pos w1, if_pos w1]
          · rw [if_neg w1, if_neg w1]
    · rw [r_inN (by omega) h2, amCI_s, if_pos rfl, if_neg (fun q => h2 q.2)]
      exact ⟨_, rfl, amSame.refl⟩
  · rw [r_isPilN (by omega) hτ hT h1, amCI_s, if_pos rfl, if_neg (fun q => h1 q.1)]
    exact ⟨_, rfl, amSame.refl⟩
/-- rain on the row -/
theorem r_nightLoop (hτ : tOk τ) (hr : rOk τ ρ) {B : Int} (hB : B ≤ 1000000) (hN : sOk1 τ B ρ) {u : Int} (hu : 0 ≤ u ∧ u ≤ 1000) (hu2 : u = rainS τ (ρ 83)) : ∀ (k m : Nat) (M : AmM), m + k = tN τ → rTx v τ M → rRow (rnR u ρ m) M → ∃ M', e_X12_nightGoes_49 d u ((m + 1 : Nat) : Int) M = some (vU, M') ∧ rRow (ntS τ ρ) M' ∧ amSame (fun c _ _ => c == 160) M M'
  | 0, m, M, h, hT, hR => by
    have h : m = tN τ := h
    have hv := hT.1
    have hn := hτ.1
    have hG := hτ.2.2.2.2.2.1
    have e : ((v : Nat) : Int).toNat = v := rfl
    have e82 : (82 : Int).toNat = 82 := rfl
    have h82 := hR 82 (by omega)
    have h83 := hR 83 (by omega)
    rw [rnR_hi (by omega)] at h82 h83
    have b82 := hN.2.2.1
    have b83 := hN.2.2.2
    have fin : ∀ x : Int, x = (if ρ 82 + tG τ ≤ 9999 then ρ 82 + tG τ else 9999) → ∃ M', e_X12_nightGoes_160 d u ((m + 1 : Nat) : Int) (amUp (amUp M 160 0 82 x) 160 0 83 (ρ 83 + 1)) = some (vU, M') ∧ rRow (ntS τ ρ) M' ∧ amSame (fun c _ _ => c == 160) M M' := fun x hx => by
      rw [q_X12_nightGoes_160]
      refine ⟨_, rfl, fun j hj => ?_, (amSame.refl.up (by rfl)).up (by rfl)⟩
      rw [up_at, up_at]
      unfold ntS
      by_cases j82 : j = 82
      · rw [if_neg (show ¬ j = 83 by omega), if_pos j82, if_pos j82]; exact hx
      · by_cases j83 : j = 83
        · rw [if_pos j83, if_neg j82, if_pos j83]
        · rw [if_neg j83, if_neg j82, if_neg j82, if_neg j83, hR j hj, h, hu2]
    rw [q_X12_nightGoes_49, hT.2.1, e, hT.2.2.1, hT.2.2.2.2.2.2.2.1, if_pos (show (0 : Int) ≤ (v : Int) ∧ (v : Int) < 2 by omega), if_pos (show ((tN τ : Nat) : Int) < ((m + 1 : Nat) : Int) by omega), if_pos (show (0 : Int) ≤ 82 ∧ (82 : Int) < 100 by omega), if_pos (show (0 : Int) ≤ (v : Int) ∧ (v : Int) < 2 by omega), h82, w32_id (x := ρ 82 + tG τ) (by omega) (by omega), up_j (show 83 ≠ 82 by decide), up_j (show 83 ≠ 82 by decide), h83, w32_id (x := ρ 83 + 1) (by omega) (by omega)]
    by_cases h9 : 9999 < ρ 82 + tG τ
    · rw [if_pos h9, if_pos (show (0 : Int) ≤ 82 ∧ (82 : Int) < 100 by omega), if_pos (show (0 : Int) ≤ 83 ∧ (83 : Int) < 100 by omega), if_pos (show (0 : Int) ≤ 83 ∧ (83 : Int) < 100 by omega)]
      exact fin _ (by rw [if_neg (by omega)])
    · rw [if_neg h9, if_pos (show (0 : Int) ≤ 82 ∧ (82 : Int) < 100 by omega), if_pos (show (0 : Int) ≤ (v : Int) ∧ (v : Int) < 2 by omega), if_pos (show (0 : Int) ≤ 82 ∧ (82 : Int) < 100 by omega), if_pos (show (0 : Int) ≤ 83 ∧ (83 : Int) < 100 by omega), if_pos (show (0 : Int) ≤ 83 ∧ (83 : Int) < 100 by omega)]
      exact fin _ (by rw [if_pos (by omega)])
  | k + 1, m, M, h, hT, hR => by
    have hv := hT.1
    have hn := hτ.1
    have e : ((v : Nat) : Int).toNat = v := rfl
    have e1 : (((m + 1 : Nat) : Int)).toNat = m + 1 := rfl
    have h1 := hR (m + 1) (by omega)
    rw [rnR_nx] at h1
    have b1 := hr (m + 1) (by omega) (by omega)
    have b2 := hτ.2.1 (m + 1) (by omega) (by omega)
    have nx : ∀ x : Int, x = (if ρ (m + 1) < u then 0 else ρ (m + 1) - u) → ∃ M', e_X12_nightGoes_49 d u ((m + 1 + 1 : Nat) : Int) (amUp M 160 0 (m + 1) x) = some (vU, M') ∧ rRow (ntS τ ρ) M' ∧ amSame (fun c _ _ => c == 160) M M' := fun x hx => by
      obtain ⟨M', a1, a2, a3⟩ := r_nightLoop hτ hr hB hN hu hu2 k (m + 1) (amUp M 160 0 (m + 1) x) (by omega) (hT.ro (amSame.refl.up (by rfl))) (fun j hj => by
        rw [rnR_s, up_at]
        by_cases hj1 : j = m + 1
        · subst hj1; rw [if_pos rfl, rUp_on, hx]
        · rw [if_neg hj1, rUp_ne hj1]; exact hR j hj)
      exact ⟨M', a1, a2, (amSame.refl.up (by rfl)).trans a3⟩
    rw [q_X12_nightGoes_49, hT.2.1, e, e1, hT.2.2.1, if_pos (show (0 : Int) ≤ (v : Int) ∧ (v : Int) < 2 by omega), if_neg (show ¬ ((tN τ : Nat) : Int) < ((m + 1 : Nat) : Int) by omega), if_pos (show (0 : Int) ≤ ((m + 1 : Nat) : Int) ∧ ((m + 1 : Nat) : Int) < 100 by omega), h1, w32_n (x := ((m + 1 : Nat) : Int) + 1) (n := m + 1 + 1) (by omega) (by omega)]
    by_cases hlt : u < ρ (m + 1)
    · rw [if_pos hlt, if_pos (show (0 : Int) ≤ ((m + 1 : Nat) : Int) ∧ ((m + 1 : Nat) : Int) < 100 by omega), if_pos (show (0 : Int) ≤ ((m + 1 : Nat) : Int) ∧ ((m + 1 : Nat) : Int) < 100 by omega), w32_id (x := ρ (m + 1) - u) (by omega) (by omega)]
      exact nx _ (by rw [if_neg (by omega)])
    · rw [if_neg hlt, if_pos (show (0 : Int) ≤ ((m + 1 : Nat) : Int) ∧ ((m + 1 : Nat) : Int) < 100 by omega)]
      exact nx _ (by split <;> omega)
theorem r_nightGoes (hD : 1 ≤ D) (hτ : tOk τ) {B : Int} (hB : B ≤ 1000000) (hN : sOk1 τ B ρ) (hT : rTx v τ M) (hR : rRow ρ M) : ∃ M', amD amGst D 203 [vR 12 12 0] M = some (vU, M') ∧ rRow (ntS τ ρ) M' ∧ amSame (fun c _ _ => c == 160) M M' := by
  obtain ⟨d, rfl⟩ := dS hD
  have hv := hT.1
  have hRn := hτ.2.2.1
  have e : ((v : Nat) : Int).toNat = v := rfl
  have e83 : (83 : Int).toNat = 83 := rfl
  have hu := rainS_b hτ hN.2.2.2.1
  obtain ⟨M', a1, a2, a3⟩ := r_nightLoop (d := d) hτ hN.1 hB hN (u := rainS τ (ρ 83)) (by omega) rfl (tN τ) 0 M (by omega) hT (by rw [rnR_0]; exact hR)
  refine ⟨M', ?_, a2, a3⟩
  rw [n_X12_nightGoes, q_X12_nightGoes_0, hT.2.1, e, hT.2.2.2.2.1, if_pos (show (0 : Int) ≤ (v : Int) ∧ (v : Int) < 2 by omega)]
  by_cases h0 : tR τ = 0
  · have e0 : rainS τ (ρ 83) = 0 := if_pos h0
    rw [e0] at a1
    rw [if_pos (by omega)]
    exact a1
  · have e0 : rainS τ (ρ 83) = tRn τ (Int.tmod (ρ 83) (tR τ : Int)).toNat := if_neg h0
    have e1 : Int.tmod (ρ 83) (tR τ : Int) = (ρ 83) % (tR τ : Int) := Int.tmod_eq_emod_of_nonneg hN.2.2.2.1
    have e2 := Int.emod_nonneg (ρ 83) (show (tR τ : Int) ≠ 0 by omega)
    have e3 := Int.emod_lt_of_pos (ρ 83) (show (0 : Int) < (tR τ : Int) by omega)
    have e4 : (((14 * v + (Int.tmod (ρ 83) (tR τ : Int)).toNat : Nat) : Int)).toNat = 14 * v + (Int.tmod (ρ 83) (tR τ : Int)).toNat := rfl
    rw [if_neg (show ¬ ((tR τ : Nat) : Int) = 0 by omega), if_pos (show (0 : Int) ≤ 83 ∧ (83 : Int) < 100 by omega), if_pos (show (0 : Int) ≤ (v : Int) ∧ (v : Int) < 2 by omega), if_neg (show ¬ ((tR τ : Nat) : Int) = 0 by omega), hR 83 (by omega), w32_n (x := 14 * (v : Int)) (n := 14 * v) (by omega) (by omega), w32_n (x := ((14 * v : Nat) : Int) + Int.tmod (ρ 83) (tR τ : Int)) (n := 14 * v + (Int.tmod (ρ 83) (tR τ : Int)).toNat) (by omega) (by omega), e4, if_pos (by omega), hT.2.2.2.2.2.1 _ (by omega), ← e0]
    exact a1
end RDO
