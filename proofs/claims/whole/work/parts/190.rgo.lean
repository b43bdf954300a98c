/-! PURE: the reference's calls that do something: go, would, night, mend, undo, hold, restore -/
/-- what asking changes in the reference -/
def fRg : Nat → Nat → Nat → Bool := fun c s j => fRo c s j || fKp c s j
theorem fRo_fRg : ∀ c s j, fRo c s j = true → fRg c s j = true := fun c s j h => by unfold fRg; rw [h]; rfl
theorem fKp_fRg : ∀ c s j, fKp c s j = true → fRg c s j = true := fun c s j h => by unfold fRg; rw [h]; cases fRo c s j <;> rfl
theorem f160_fRo : ∀ c s j : Nat, (c == 160) = true → fRo c s j = true := fun c s j h => by unfold fRo; rw [h]; simp
theorem sRx_fRg : ∀ c j, sRx c j = true → ∀ s, fRg c s j = false := fun c j h s => by
  unfold fRg
  rw [sRx_fRo c j h s]
  unfold sRx sLw at h
  unfold fKp
  simp only [Bool.or_eq_true, Bool.and_eq_true, beq_iff_eq] at h
  rcases h with (((((((((((rfl | rfl) | rfl) | rfl) | rfl) | rfl) | rfl) | rfl) | rfl) | rfl) | rfl) | h) | ⟨rfl, rfl⟩
  all_goals first | rfl | skip
  rcases h with (((((rfl | rfl) | rfl) | rfl) | rfl) | rfl) | rfl <;> rfl
theorem rTx.rg {v : Nat} {τ : Tx} {M M' : AmM} (h : rTx v τ M) (hs : amSame fRg M M') : rTx v τ M' := h.mv fun c j hc => hs c 0 j (sRx_fRg c j hc 0)
theorem rNow.ro {ρ : Rw} {M M' : AmM} (h : rNow ρ M) (hs : amSame fRo M M') : rNow ρ M' := h.mv fun j => hs _ _ _ (by rfl)
theorem rPa.ro {P : List Rw} {M M' : AmM} (h : rPa P M) (hs : amSame fRo M M') : rPa P M' := h.mv (hs _ _ _ (by rfl)) fun j => hs _ _ _ (by rfl)
theorem rHe.rg {H : Nat → Option Rw} {M M' : AmM} (h : rHe H M) (hs : amSame fRg M M') : rHe H M' := h.mv (fun j => hs _ _ _ (by rfl)) fun j => hs _ _ _ (by rfl)
section RG
variable {D d v : Nat} {τ : Tx} {ρ : Rw} {P : List Rw} {H : Nat → Option Rw} {M : AmM} {N : Nat}
theorem r_isPilY (hD : 2 ≤ D) (hτ : tOk τ) (hT : rTx v τ M) {p : Int} (hp : 0 ≤ p ∧ p < tP τ) : amD amGst D 183 [vR 12 12 0, vI p] M = some (vI 1, M) := by
  obtain ⟨d, rfl⟩ := dS hD
  obtain ⟨d, rfl⟩ := dS (show 0 + 1 ≤ d by omega)
  have hP := hτ.2.2.2.2.2.2.1
  rw [n_X12_isPilgrim, q_X12_isPilgrim_0, r_many (by omega) hT, amCI_s, w32_id (by omega) (by omega), n_X12_in, q_X12_in_0, if_neg (by omega), if_neg (by omega), amCI_s]
  rfl
theorem r_isPilN (hD : 2 ≤ D) (hτ : tOk τ) (hT : rTx v τ M) {p : Int} (hp : ¬ (0 ≤ p ∧ p < tP τ)) : amD amGst D 183 [vR 12 12 0, vI p] M = some (vI 0, M) := by
  obtain ⟨d, rfl⟩ := dS hD
  obtain ⟨d, rfl⟩ := dS (show 0 + 1 ≤ d by omega)
  have hP := hτ.2.2.2.2.2.2.1
  rw [n_X12_isPilgrim, q_X12_isPilgrim_0, r_many (by omega) hT, amCI_s, w32_id (by omega) (by omega), n_X12_in, q_X12_in_0]
  by_cases h : p < 0
  · rw [if_pos h, amCI_s]; rfl
  · rw [if_neg h, if_pos (by omega), amCI_s]; rfl
theorem r_isStepY (hD : 2 ≤ D) (hτ : tOk τ) (hT : rTx v τ M) {s : Int} (hs : 1 ≤ s ∧ s ≤ tN τ) : amD amGst D 182 [vR 12 12 0, vI s] M = some (vI 1, M) := by
  obtain ⟨d, rfl⟩ := dS hD
  obtain ⟨d, rfl⟩ := dS (show 0 + 1 ≤ d by omega)
  have hv := hT.1
  have e : ((v : Nat) : Int).toNat = v := rfl
  rw [n_X12_isStep, q_X12_isStep_0, hT.2.1, e, hT.2.2.1, if_pos ⟨by omega, by omega⟩, n_X12_in, q_X12_in_0, if_neg (by omega), if_neg (by omega), amCI_s]
  rfl
theorem r_isStepN (hD : 2 ≤ D) (hτ : tOk τ) (hT : rTx v τ M) {s : Int} (hs : ¬ (1 ≤ s ∧ s ≤ tN τ)) : amD amGst D 182 [vR 12 12 0, vI s] M = some (vI 0, M) := by
  obtain ⟨d, rfl⟩ := dS hD
  obtain ⟨d, rfl⟩ := dS (show 0 + 1 ≤ d by omega)
  have hv := hT.1
  have e : ((v : Nat) : Int).toNat = v := rfl
  rw [n_X12_isStep, q_X12_isStep_0, hT.2.1, e, hT.2.2.1, if_pos ⟨by omega, by omega⟩, n_X12_in, q_X12_in_0]
  by_cases h : s < 1
  · rw [if_pos h, amCI_s]; rfl
  · rw [if_neg h, if_pos (by omega), amCI_s]; rfl
theorem r_inY (hD : 1 ≤ D) {x a b : Int} (h : a ≤ x ∧ x ≤ b) : amD amGst D 179 [vI x, vI a, vI b] M = some (vI 1, M) := by
  obtain ⟨d, rfl⟩ := dS hD
  rw [n_X12_in, q_X12_in_0, if_neg (by omega), if_neg (by omega)]
theorem r_inN (hD : 1 ≤ D) {x a b : Int} (h : ¬ (a ≤ x ∧ x ≤ b)) : amD amGst D 179 [vI x, vI a, vI b] M = some (vI 0, M) := by
  obtain ⟨d, rfl⟩ := dS hD
  rw [n_X12_in, q_X12_in_0]
  by_cases h1 : x < a
  · rw [if_pos h1]
  · rw [if_neg h1, if_pos (by omega)]
theorem r_onGround (hD : 1 ≤ D) (hN : rNow ρ M) {p : Nat} (hp : p < 8) : amD amGst D 200 [vR 12 12 0, vI p] M = some (vI (if ρ (50 + p) = 0 then 1 else 0), M) := by
  obtain ⟨d, rfl⟩ := dS hD
  have e : (((50 + p : Nat) : Int)).toNat = 50 + p := rfl
  rw [n_X12_onGround, q_X12_onGround_0, w32_n (x := 50 + (p : Int)) (n := 50 + p) (by omega) (by omega), e, if_pos ⟨by omega, by omega⟩, hN _ (by omega)]
  split <;> rfl
/-- a going sent over the row -/
theorem r_sends (hD : 6 ≤ D) (hτ : tOk τ) (hT : rTx v τ M) (hR : rRow ρ M) (hr : rOk τ ρ) (hd : 0 ≤ ρ 83) {p : Nat} (hp : p < tP τ) (h74 : ρ (74 + p) = 0) (h66 : w32 (ρ (66 + p)) = ρ (66 + p)) :
    ∃ M', amD amGst D 195 [vR 12 12 0, vI p] M = some (vI ((goR τ ρ p).1 : Nat), M') ∧ amSame fRo M M' ∧ rRow (goS τ ρ p) M' := by
  obtain ⟨d, rfl⟩ := dS hD
  have hn := hτ.1
  have hP8 := hτ.2.2.2.2.2.2.1
  have hh := (tkWV hτ hp).1
  obtain ⟨M1, m1, m2, m3, m4⟩ := r_comesOf (D := d) (by omega) hτ hd hp hT hR rfl hr
  have hfg : resE (comesS τ (tV τ p) (tW τ p) (ρ 83) (ρ, 0, M 12 0 51)) (goR τ ρ p) := comesS_fg ⟨rfl, rfl⟩
  have hoff : ∀ j, 50 ≤ j → (goR τ ρ p).2.2.1 j = ρ j := fun j hj => comesS_off hh hn hr hj
  have hcode := comesS_code (τ := τ) (vow := tV τ p) (heavy := tW τ p) (day := ρ 83) (x := (ρ, 0, -1))
  have hcode : (goR τ ρ p).1 ≤ 2 := hcode.1
  obtain ⟨f1, f2, f3, f4⟩ := hfg
  obtain ⟨m31, m32, -⟩ := m3
  rw [f1] at m1
  rw [f2] at m4
  rw [f3] at m31
  rw [f4] at m32
  have e50 : (((50 + p : Nat) : Int)).toNat = 50 + p := rfl
  have e58 : (((58 + p : Nat) : Int)).toNat = 58 + p := rfl
  have e66 : (((66 + p : Nat) : Int)).toNat = 66 + p := rfl
  have e74 : (((74 + p : Nat) : Int)).toNat = 74 + p := rfl
  rw [n_X12_sends, q_X12_sends_0, m1, amCI_s, w32_n (x := 50 + (p : Int)) (n := 50 + p) (by omega) (by omega), w32_n (x := 58 + (p : Int)) (n := 58 + p) (by omega) (by omega), e50, e58, if_pos ⟨by omega, by omega⟩, if_pos ⟨by omega, by omega⟩, if_pos ⟨by omega, by omega⟩, up_j (show 58 + p ≠ 50 + p by omega), up_c (show 12 ≠ 160 by decide), m31 _ (by omega), hoff _ (by omega), m32, m4]
  generalize hM2 : amUp (amUp M1 160 0 (50 + p) ((goR τ ρ p).2.1 : Int)) 160 0 (58 + p) (w32 (ρ (58 + p) + (goR τ ρ p).2.2.2.1)) = M2
  have s2 : amSame fRo M M2 := by
    rw [← hM2]
    exact (m2.up (by rfl)).up (by rfl)
  have r2 : ∀ j, j < 100 → M2 160 0 j = if j = 58 + p then w32 (ρ (58 + p) + (goR τ ρ p).2.2.2.1) else if j = 50 + p then ((goR τ ρ p).2.1 : Int) else (goR τ ρ p).2.2.1 j := fun j hj => by
    rw [← hM2, up_at, up_at, m31 j hj]
  -- the last: came and stuck
  have fin : ∀ (o : Nat) (M3 : AmM), (goR τ ρ p).1 = o → amSame fRo M M3 → (∀ j, j < 100 → M3 160 0 j = if j = 66 + p then w32 (ρ (66 + p) + (if o = 0 then 1 else 0)) else M2 160 0 j) → ∃ M', e_X12_sends_52 d p (o : Int) M3 = some (vI (o : Int), M') ∧ amSame fRo M M' ∧ rRow (goS τ ρ p) M' := fun o M3 ho s3 r3 => by
    have row : ∀ (M4 : AmM), (∀ j, j < 100 → M4 160 0 j = if j = 74 + p then (if o = 2 then 1 else 0) else M3 160 0 j) → rRow (goS τ ρ p) M4 := fun M4 r4 j hj => by
      rw [r4 j hj]
      unfold goS setS
      rw [ho]
      by_cases j74 : j = 74 + p
      · subst j74
        rw [if_pos rfl, if_neg (show ¬ 74 + p = 50 + p by omega), if_neg (show ¬ 74 + p = 58 + p by omega), if_neg (show ¬ 74 + p = 66 + p by omega), if_pos rfl]
      · rw [if_neg j74, r3 j hj]
        by_cases j66 : j = 66 + p
        · subst j66
          rw [if_pos rfl, if_neg (show ¬ 66 + p = 50 + p by omega), if_neg (show ¬ 66 + p = 58 + p by omega), if_pos rfl]
        · rw [if_neg j66, r2 j hj]
          by_cases j58 : j = 58 + p
          · subst j58
            rw [if_pos rfl, if_neg (show ¬ 58 + p = 50 + p by omega), if_pos rfl]
          · rw [if_neg j58]
            by_cases j50 : j = 50 + p
            · rw [if_pos j50, if_pos j50]
            · rw [if_neg j50, if_neg j50, if_neg j58, if_neg j66, if_neg j74]
              by_cases h50 : j < 50
              · rw [if_pos h50]
              · rw [if_neg h50, hoff j (by omega)]
    have e0 : M3 160 0 (74 + p) = 0 := by
      rw [r3 _ (by omega), if_neg (by omega), r2 _ (by omega), if_neg (by omega), if_neg (by omega), hoff _ (by omega), h74]
    rw [q_X12_sends_52]
    by_cases h2 : o = 2
    · rw [if_pos (by omega), w32_n (x := 74 + (p : Int)) (n := 74 + p) (by omega) (by omega), e74, if_pos ⟨by omega, by omega⟩]
      exact ⟨_, rfl, s3.up (by rfl), row _ fun j hj => by rw [up_at, if_pos h2]⟩
    · rw [if_neg (by omega)]
      refine ⟨_, rfl, s3, row _ fun j hj => ?_⟩
      by_cases j74 : j = 74 + p
      · rw [if_pos j74, if_neg h2, j74, e0]
      · rw [if_neg j74]
  rw [q_X12_sends_35]
  by_cases h0 : (goR τ ρ p).1 = 0
  · have e66' : M2 160 0 (66 + p) = ρ (66 + p) := by
      rw [r2 _ (by omega), if_neg (by omega), if_neg (by omega), hoff _ (by omega)]
    rw [if_pos (by omega), w32_n (x := 66 + (p : Int)) (n := 66 + p) (by omega) (by omega), e66, if_pos ⟨by omega, by omega⟩, if_pos ⟨by omega, by omega⟩, e66']
    exact fin _ _ rfl (s2.up (by rfl)) fun j hj => by rw [up_at, if_pos h0]
  · rw [if_neg (by omega)]
    refine fin _ _ rfl s2 fun j hj => ?_
    by_cases j66 : j = 66 + p
    · rw [if_pos j66, if_neg h0, j66, r2 _ (by omega), if_neg (by omega), if_neg (by omega), hoff _ (by omega), Int.add_zero, h66]
    · rw [if_neg j66]
end RG
