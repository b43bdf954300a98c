/-! PURE: the reference's step, pilgrim, wear, fair, count -/
section RA
variable {D d v : Nat} {τ : Tx} {ρ : Rw} {P : List Rw} {H : Nat → Option Rw} {M : AmM} {N : Nat}
theorem r_standLoop (hd : 1 ≤ d) (hτ : tOk τ) (hT : rTx v τ M) (hS : rNow ρ M) {s l2 : Int} : ∀ (k i : Nat), i + k = tP τ → e_X12_step_77 d s l2 (sumS (onS ρ s) i) (i : Int) M = some (vI (sumS (onS ρ s) (tP τ)), M)
  | 0, i, h => by
    have h : i = tP τ := h
    subst h
    rw [q_X12_step_77, r_many (by omega) hT, amCI_s, if_neg (by omega)]
  | k + 1, i, h => by
    have hP := hτ.2.2.2.2.2.2.1
    have hb := sumS_b (f := onS ρ s) (b := 1) (by omega) i (fun j _ => by unfold onS; split <;> omega)
    have e : (((50 + i : Nat) : Int)).toNat = 50 + i := rfl
    have ih := r_standLoop hd hτ hT hS (s := s) (l2 := l2) k (i + 1) (by omega)
    have e1 : sumS (onS ρ s) (i + 1) = sumS (onS ρ s) i + onS ρ s i := rfl
    rw [e1] at ih
    rw [q_X12_step_77, r_many (by omega) hT, amCI_s, if_pos (show (i : Int) < ((tP τ : Nat) : Int) by omega), w32_n (x := 50 + (i : Int)) (n := 50 + i) (by omega) (by omega), e, if_pos (show (0 : Int) ≤ ((50 + i : Nat) : Int) ∧ ((50 + i : Nat) : Int) < 100 by omega), hS _ (by omega), w32_n (x := (i : Int) + 1) (n := i + 1) (by omega) (by omega)]
    unfold onS at ih hb ⊢
    by_cases h1 : ρ (50 + i) = s
    · rw [if_pos h1] at ih
      rw [if_pos h1, w32_id (by omega) (by omega)]
      exact ih
    · rw [if_neg h1, Int.add_zero] at ih
      rw [if_neg h1]
      exact ih
theorem r_step (hD : 3 ≤ D) (hτ : tOk τ) (hT : rTx v τ M) (hS : rNow ρ M) {s w : Int} : amD amGst D 196 [vR 12 12 0, vI s, vI w] M = some (vI (stepS τ ρ s w), M) := by
  obtain ⟨d, rfl⟩ := dS hD
  have hn := hτ.1
  have hv := hT.1
  rw [n_X12_step, q_X12_step_0]
  unfold stepS
  by_cases h1 : 1 ≤ s ∧ s ≤ tN τ
  · have es : s = ((s.toNat : Nat) : Int) := by omega
    have e25 : w32 ((w32 (25 * (M 12 0 18))) + s) = ((25 * v + s.toNat : Nat) : Int) := by
      have := r_25v hT (j := s.toNat) (by omega)
      rw [← es] at this
      exact this
    have e2 : (((25 * v + s.toNat : Nat) : Int)).toNat = 25 * v + s.toNat := rfl
    have e3 : (((25 + s.toNat : Nat) : Int)).toNat = 25 + s.toNat := rfl
    rw [r_isStepY (by omega) hτ hT h1, amCI_s, if_neg (show ¬ (1 : Int) = 0 by decide), if_pos h1, e25]
    clear e25
    by_cases w0 : w = 0
    · rw [if_pos w0, if_pos w0, if_pos (by omega), hS _ (by omega)]
    · rw [if_neg w0, if_neg w0]
      by_cases w1 : w = 1
      · rw [if_pos w1, if_pos w1, e2, if_pos (by omega), hT.2.2.2.1 _ (by omega) (by omega)]
      · rw [if_neg w1, if_neg w1]
        by_cases w2 : w = 2
        · rw [if_pos w2, if_pos w2, w32_n (x := 25 + s) (n := 25 + s.toNat) (by omega) (by omega), e3, if_pos (by omega), hS _ (by omega)]
        · rw [if_neg w2, if_neg w2]
          by_cases w3 : w = 3
          · rw [if_pos w3, if_pos w3]
            exact r_standLoop (d := d) (by omega) hτ hT hS (s := s) (tP τ) 0 (by omega)
          · rw [if_neg w3, if_neg w3]
  · rw [r_isStepN (by omega) hτ hT h1, amCI_s, if_pos rfl, if_neg h1]
theorem r_pilgrim (hD : 3 ≤ D) (hτ : tOk τ) (hT : rTx v τ M) (hS : rNow ρ M) {p w : Int} : amD amGst D 197 [vR 12 12 0, vI p, vI w] M = some (vI (pilS τ ρ p w), M) := by
  obtain ⟨d, rfl⟩ := dS hD
  have hP := hτ.2.2.2.2.2.2.1
  have hv := hT.1
  rw [n_X12_pilgrim, q_X12_pilgrim_0]
  unfold pilS
  by_cases h1 : 0 ≤ p ∧ p < tP τ
  · have ep : p = ((p.toNat : Nat) : Int) := by omega
    have ht := hT.2.2.2.2.2.2.2.2.2.1 p.toNat (by omega)
    have e8 : w32 ((w32 (8 * (M 12 0 18))) + p) = ((8 * v + p.toNat : Nat) : Int) := by
      have := r_8v hT (p := p.toNat) (by omega)
      rw [← ep] at this
      exact this
    have hvw := r_vowOf (D := d) (by omega) hτ hT (p := p.toNat) (by omega)
    rw [← ep] at hvw
    have e2 : (((8 * v + p.toNat : Nat) : Int)).toNat = 8 * v + p.toNat := rfl
    have e50 : (((50 + p.toNat : Nat) : Int)).toNat = 50 + p.toNat := rfl
    have e58 : (((58 + p.toNat : Nat) : Int)).toNat = 58 + p.toNat := rfl
    have e66 : (((66 + p.toNat : Nat) : Int)).toNat = 66 + p.toNat := rfl
    have e74 : (((74 + p.toNat : Nat) : Int)).toNat = 74 + p.toNat := rfl
    rw [r_isPilY (by omega) hτ hT h1, amCI_s, if_neg (show ¬ (1 : Int) = 0 by decide), if_pos h1, e8]
    clear e8
    by_cases w0 : w = 0
    · rw [if_pos w0, if_pos w0, w32_n (x := 50 + p) (n := 50 + p.toNat) (by omega) (by omega), e50, if_pos (by omega), hS _ (by omega)]
    · rw [if_neg w0, if_neg w0]
      by_cases w1 : w = 1
      · rw [if_pos w1, if_pos w1, e2, if_pos (by omega), ht.1]
      · rw [if_neg w1, if_neg w1]
        by_cases w2 : w = 2
        · rw [if_pos w2, if_pos w2, hvw, amCI_s]
        · rw [if_neg w2, if_neg w2]
          by_cases w3 : w = 3
          · rw [if_pos w3, if_pos w3, w32_n (x := 58 + p) (n := 58 + p.toNat) (by omega) (by omega), e58, if_pos (by omega), hS _ (by omega)]
          · rw [if_neg w3, if_neg w3]
            by_cases w4 : w = 4
            · rw [if_pos w4, if_pos w4, w32_n (x := 66 + p) (n := 66 + p.toNat) (by omega) (by omega), e66, if_pos (by omega), hS _ (by omega)]
            · rw [if_neg w4, if_neg w4]
              by_cases w5 : w = 5
              · rw [if_pos w5, if_pos w5, w32_n (x := 74 + p) (n := 74 + p.toNat) (by omega) (by omega), e74, if_pos (by omega), hS _ (by omega)]
              · rw [if_neg w5, if_neg w5]
  · rw [r_isPilN (by omega) hτ hT h1, amCI_s, if_pos rfl, if_neg h1]
theorem r_wear (hD : 3 ≤ D) (hτ : tOk τ) (hN : sOk τ N ρ) (hT : rTx v τ M) (hS : rNow ρ M) {p s up : Int} (hup : up = 0 ∨ up = 1) : ∃ M', amD amGst D 198 [vR 12 12 0, vI p, vI s, vI up] M = some (vI (wrS τ ρ p s up), M') ∧ amSame fRo M M' := by
  obtain ⟨d, rfl⟩ := dS hD
  have hn := hτ.1
  have hP := hτ.2.2.2.2.2.2.1
  have hv := hT.1
  rw [n_X12_wear, q_X12_wear_0]
  unfold wrS
  by_cases h1 : 0 ≤ p ∧ p < tP τ
  · rw [r_isPilY (by omega) hτ hT h1, amCI_s, if_neg (show ¬ (1 : Int) = 0 by decide)]
    by_cases h2 : 1 ≤ s ∧ s ≤ tN τ
    · have ep : p = ((p.toNat : Nat) : Int) := by omega
      obtain ⟨M1, a1, a2, a3⟩ := r_takes (D := d) (by omega) hS
      have s1 : amSame fRo M M1 := a3.mono f160_fRo
      have hT1 := hT.ro s1
      have hvw := r_vowOf (D := d) (by omega) hτ hT1 (p := p.toNat) (by omega)
      rw [← ep] at hvw
      have e8 : w32 ((w32 (8 * (M1 12 0 18))) + p) = ((8 * v + p.toNat : Nat) : Int) := by
        have := r_8v hT1 (p := p.toNat) (by omega)
        rw [← ep] at this
        exact this
      have e2 : (((8 * v + p.toNat : Nat) : Int)).toNat = 8 * v + p.toNat := rfl
      have hg := r_goneNow (D := d) (by omega) hτ hT1 a2
      obtain ⟨M2, k1, k2⟩ := r_wearOf (D := d) (M := M1) (vow := tV τ p.toNat) (heavy := tW τ p.toNat) (day := ρ 83) (by omega) hτ hT1 (a2 83 (by omega)) hN.2.2.2.1 (tkWV hτ (p := p.toNat) (by omega)).2 (s := s) (t := ρ s.toNat) (gone := gonS (tN τ) ρ) hup
      rw [r_isStepY (by omega) hτ hT h2, amCI_s, if_neg (show ¬ (1 : Int) = 0 by decide), a1, amCV_s, hvw, amCI_s, e8, e2]
      clear e8
      rw [if_pos (show (0 : Int) ≤ ((8 * v + p.toNat : Nat) : Int) ∧ ((8 * v + p.toNat : Nat) : Int) < 16 by omega), if_pos (show 0 ≤ s ∧ s < 100 by omega), hg, amCI_s, (hT1.2.2.2.2.2.2.2.2.2.1 p.toNat (by omega)).1, a2 _ (by omega), k1, amCI_s, if_pos (show (0 ≤ p ∧ p < tP τ) ∧ 1 ≤ s ∧ s ≤ tN τ from ⟨h1, h2⟩)]
      exact ⟨_, rfl, s1.trans (k2.mono fRw_fRo)⟩
    · rw [r_isStepN (by omega) hτ hT h2, amCI_s, if_pos rfl, if_neg (fun q => h2 q.2)]
      exact ⟨_, rfl, amSame.refl⟩
  · rw [r_isPilN (by omega) hτ hT h1, amCI_s, if_pos rfl, if_neg (fun q => h1 q.1)]
    exact ⟨_, rfl, amSame.refl⟩
theorem r_fairLoop (hd : 1 ≤ d) (hτ : tOk τ) (hT : rTx v τ M) (hS : rNow ρ M) : ∀ (k i : Nat), i + 1 + k = tP τ → e_X12_fair_28 d (mnS (fun p => ρ (58 + p)) i) (mxS (fun p => ρ (58 + p)) i) ((i + 1 : Nat) : Int) M = some (vI (w32 (mxS (fun p => ρ (58 + p)) (tP τ - 1) - mnS (fun p => ρ (58 + p)) (tP τ - 1))), M)
  | 0, i, h => by
    have h : i = tP τ - 1 := by omega
    subst h
    rw [q_X12_fair_28, r_many (by omega) hT, amCI_s, if_neg (by omega)]
  | k + 1, i, h => by
    have hP := hτ.2.2.2.2.2.2.1
    have e : (((58 + (i + 1) : Nat) : Int)).toNat = 58 + (i + 1) := rfl
    have ih := r_fairLoop hd hτ hT hS k (i + 1) (by omega)
    have e1 : mxS (fun p => ρ (58 + p)) (i + 1) = (if mxS (fun p => ρ (58 + p)) i < ρ (58 + (i + 1)) then ρ (58 + (i + 1)) else mxS (fun p => ρ (58 + p)) i) := rfl
    have e2 : mnS (fun p => ρ (58 + p)) (i + 1) = (if ρ (58 + (i + 1)) < mnS (fun p => ρ (58 + p)) i then ρ (58 + (i + 1)) else mnS (fun p => ρ (58 + p)) i) := rfl
    rw [e1, e2] at ih
    have big : ∀ x : Int, x = (if ρ (58 + (i + 1)) < mnS (fun p => ρ (58 + p)) i then ρ (58 + (i + 1)) else mnS (fun p => ρ (58 + p)) i) → e_X12_fair_59 d x (mxS (fun p => ρ (58 + p)) i) ((i + 1 : Nat) : Int) M = some (vI (w32 (mxS (fun p => ρ (58 + p)) (tP τ - 1) - mnS (fun p => ρ (58 + p)) (tP τ - 1))), M) := fun x hx => by
      rw [← hx] at ih
      rw [q_X12_fair_59, w32_n (x := 58 + ((i + 1 : Nat) : Int)) (n := 58 + (i + 1)) (by omega) (by omega), e, if_pos (show (0 : Int) ≤ ((58 + (i + 1) : Nat) : Int) ∧ ((58 + (i + 1) : Nat) : Int) < 100 by omega), hS _ (by omega), w32_n (x := ((i + 1 : Nat) : Int) + 1) (n := i + 1 + 1) (by omega) (by omega)]
      by_cases h1 : mxS (fun p => ρ (58 + p)) i < ρ (58 + (i + 1))
      · rw [if_pos h1] at ih
        rw [if_pos h1, if_pos (show (0 : Int) ≤ ((58 + (i + 1) : Nat) : Int) ∧ ((58 + (i + 1) : Nat) : Int) < 100 by omega)]
        exact ih
      · rw [if_neg h1] at ih
        rw [if_neg h1]
        exact ih
    rw [q_X12_fair_28, r_many (by omega) hT, amCI_s, if_pos (show ((i + 1 : Nat) : Int) < ((tP τ : Nat) : Int) by omega), w32_n (x := 58 + ((i + 1 : Nat) : Int)) (n := 58 + (i + 1)) (by omega) (by omega), e, if_pos (show (0 : Int) ≤ ((58 + (i + 1) : Nat) : Int) ∧ ((58 + (i + 1) : Nat) : Int) < 100 by omega), hS _ (by omega)]
    by_cases h2 : ρ (58 + (i + 1)) < mnS (fun p => ρ (58 + p)) i
    · rw [if_pos h2, if_pos (show (0 : Int) ≤ ((58 + (i + 1) : Nat) : Int) ∧ ((58 + (i + 1) : Nat) : Int) < 100 by omega)]
      exact big _ (by rw [if_pos h2])
    · rw [if_neg h2]
      exact big _ (by rw [if_neg h2])
theorem r_fair (hD : 2 ≤ D) (hτ : tOk τ) (hT : rTx v τ M) (hS : rNow ρ M) : amD amGst D 232 [vR 12 12 0] M = some (vI (fairS τ ρ), M) := by
  obtain ⟨d, rfl⟩ := dS hD
  have hP := hτ.2.2.2.2.2.2.1
  rw [n_X12_fair, q_X12_fair_0, r_many (by omega) hT, amCI_s]
  unfold fairS
  by_cases h0 : tP τ = 0
  · rw [if_pos (by omega), if_pos h0]
  · have := r_fairLoop (d := d) (by omega) hτ hT hS (tP τ - 1) 0 (by omega)
    rw [if_neg (by omega), if_neg h0, if_pos (show (0 : Int) ≤ 58 ∧ (58 : Int) < 100 by omega), if_pos (show (0 : Int) ≤ 58 ∧ (58 : Int) < 100 by omega), hS 58 (by omega)]
    exact this
theorem r_stuckLoop (hd : 1 ≤ d) (hτ : tOk τ) (hN : sOk τ N ρ) (hT : rTx v τ M) (hR : rRow ρ M) : ∀ (k i : Nat), i + k = tP τ → e_X12_stuckNow_4 d (sumS (fun p => ρ (74 + p)) i) (i : Int) M = some (vI (sumS (fun p => ρ (74 + p)) (tP τ)), M)
  | 0, i, h => by
    have h : i = tP τ := h
    subst h
    rw [q_X12_stuckNow_4, r_many (by omega) hT, amCI_s, if_neg (by omega)]
  | k + 1, i, h => by
    have hP := hτ.2.2.2.2.2.2.1
    have hf : ∀ j, j < tP τ → 0 ≤ ρ (74 + j) ∧ ρ (74 + j) ≤ 1 := fun j hj => by
      rcases (hN.2.1 j hj).2.1 with h | h <;> omega
    have hb := sumS_b (f := fun p => ρ (74 + p)) (b := 1) (by omega) i (fun j hj => hf j (by omega))
    have hi := hf i (by omega)
    have e : (((74 + i : Nat) : Int)).toNat = 74 + i := rfl
    have ih := r_stuckLoop hd hτ hN hT hR k (i + 1) (by omega)
    have e1 : sumS (fun p => ρ (74 + p)) (i + 1) = sumS (fun p => ρ (74 + p)) i + ρ (74 + i) := rfl
    rw [e1] at ih
    rw [q_X12_stuckNow_4, r_many (by omega) hT, amCI_s, if_pos (show (i : Int) < ((tP τ : Nat) : Int) by omega), w32_n (x := 74 + (i : Int)) (n := 74 + i) (by omega) (by omega), e, if_pos (show (0 : Int) ≤ ((74 + i : Nat) : Int) ∧ ((74 + i : Nat) : Int) < 100 by omega), hR _ (by omega), w32_n (x := (i : Int) + 1) (n := i + 1) (by omega) (by omega), w32_id (by omega) (by omega)]
    exact ih
theorem r_allLoop (hτ : tOk τ) (hN : sOk τ N ρ) (hT : rTx v τ M) (hR : rRow ρ M) {w : Int} : ∀ (k i : Nat), i + k = tN τ → e_X12_count_183 d w (sumS (fun j => ρ (j + 1)) i) ((i + 1 : Nat) : Int) M = some (vI (sumS (fun j => ρ (j + 1)) (tN τ)), M)
  | 0, i, h => by
    have h : i = tN τ := h
    subst h
    have hv := hT.1
    have e : ((v : Nat) : Int).toNat = v := rfl
    rw [q_X12_count_183, hT.2.1, e, hT.2.2.1, if_pos (show (0 : Int) ≤ (v : Int) ∧ (v : Int) < 2 by omega), if_pos (by omega)]
  | k + 1, i, h => by
    have hn := hτ.1
    have hv := hT.1
    have e : ((v : Nat) : Int).toNat = v := rfl
    have e0 : (((i + 1 : Nat) : Int)).toNat = i + 1 := rfl
    have hf : ∀ j, j < tN τ → 0 ≤ ρ (j + 1) ∧ ρ (j + 1) ≤ 99 := fun j hj => by
      have h1 := hN.1 (j + 1) (by omega) (by omega)
      have h2 := hτ.2.1 (j + 1) (by omega) (by omega)
      omega
    have hb := sumS_b (f := fun j => ρ (j + 1)) (b := 99) (by omega) i (fun j hj => hf j (by omega))
    have hi := hf i (by omega)
    have ih := r_allLoop hτ hN hT hR (w := w) k (i + 1) (by omega)
    have e1 : sumS (fun j => ρ (j + 1)) (i + 1) = sumS (fun j => ρ (j + 1)) i + ρ (i + 1) := rfl
    rw [e1] at ih
    rw [q_X12_count_183, hT.2.1, e, hT.2.2.1, e0, if_pos (show (0 : Int) ≤ (v : Int) ∧ (v : Int) < 2 by omega), if_neg (show ¬ ((tN τ : Nat) : Int) < ((i + 1 : Nat) : Int) by omega), if_pos (show (0 : Int) ≤ ((i + 1 : Nat) : Int) ∧ ((i + 1 : Nat) : Int) < 100 by omega), hR _ (by omega), w32_n (x := ((i + 1 : Nat) : Int) + 1) (n := i + 1 + 1) (by omega) (by omega), w32_id (by omega) (by omega)]
    exact ih
theorem rHe_at (hH : rHe H M) {s : Nat} (hs : s < 3) : M 169 0 s = heldS H s := by
  have h := hH s hs
  unfold heldS
  cases hHs : H s with
  | none => rw [hHs] at h; exact h
  | some ρ' => rw [hHs] at h; exact h.1
theorem r_count (hD : 3 ≤ D) (hτ : tOk τ) (hN : sOk τ N ρ) (hT : rTx v τ M) (hS : rNow ρ M) (hP : rPa P M) (hH : rHe H M) {w : Int} : ∃ M', amD amGst D 242 [vR 12 12 0, vI w] M = some (vI (countS τ ρ H (M 12 0 65) (M 12 0 2) P.length w), M') ∧ amSame fRo M M' := by
  obtain ⟨d, rfl⟩ := dS hD
  have hv := hT.1
  have e : ((v : Nat) : Int).toNat = v := rfl
  obtain ⟨M1, a1, a2, a3⟩ := r_takes (D := d) (by omega) hS
  have s1 : amSame fRo M M1 := a3.mono f160_fRo
  have hT1 := hT.ro s1
  have hH1 : rHe H M1 := hH.mv (fun j => s1 _ _ _ (by rfl)) fun j => s1 _ _ _ (by rfl)
  have k6 : amD amGst d 227 [vR 12 12 0] M1 = some (vI (sumS (fun p => ρ (74 + p)) (tP τ)), M1) := by
    obtain ⟨d, rfl⟩ := dS (show 1 + 1 ≤ d by omega)
    rw [n_X12_stuckNow, q_X12_stuckNow_0]
    exact r_stuckLoop (by omega) hτ hN hT1 a2 (tP τ) 0 (by omega)
  refine ⟨M1, ?_, s1⟩
  rw [n_X12_count, q_X12_count_0, a1, amCV_s]
  unfold countS
  by_cases w0 : w = 0
  · rw [if_pos w0, if_pos w0, hT1.2.1, e, hT1.2.2.1, if_pos (by omega)]
  rw [if_neg w0, if_neg w0]
  by_cases w1 : w = 1
  · rw [if_pos w1, if_pos w1, r_many (by omega) hT1, amCI_s]
  rw [if_neg w1, if_neg w1]
  by_cases w2 : w = 2
  · rw [if_pos w2, if_pos w2, if_pos (by omega), a2 82 (by omega)]
  rw [if_neg w2, if_neg w2]
  by_cases w3 : w = 3
  · rw [if_pos w3, if_pos w3, if_pos (by omega), a2 83 (by omega)]
  rw [if_neg w3, if_neg w3]
  by_cases w4 : w = 4
  · rw [if_pos w4, if_pos w4, hT1.2.1, e, hT1.2.2.2.2.1, if_pos (by omega)]
  rw [if_neg w4, if_neg w4]
  by_cases w5 : w = 5
  · rw [if_pos w5, if_pos w5, r_goneNow (by omega) hτ hT1 a2, amCI_s]
  rw [if_neg w5, if_neg w5]
  by_cases w6 : w = 6
  · rw [if_pos w6, if_pos w6, k6, amCI_s]
  rw [if_neg w6, if_neg w6]
  by_cases w7 : w = 7
  · rw [if_pos w7, if_pos w7, s1 12 0 65 (by rfl)]
  rw [if_neg w7, if_neg w7]
  by_cases w8 : w = 8
  · rw [if_pos w8, if_pos w8, s1 12 0 2 (by rfl)]
  rw [if_neg w8, if_neg w8]
  by_cases w9 : w = 9
  · rw [if_pos w9, if_pos w9, s1 12 0 53 (by rfl), hP.2.1]
  rw [if_neg w9, if_neg w9]
  by_cases w10 : w = 10
  · rw [if_pos w10, if_pos w10]
    have h0 := rHe_at hH1 (s := 0) (by omega)
    have h1 := rHe_at hH1 (s := 1) (by omega)
    have h2 := rHe_at hH1 (s := 2) (by omega)
    have b0 := heldS_b (H := H) 0
    have b1 := heldS_b (H := H) 1
    have b2 := heldS_b (H := H) 2
    have es : sumS (heldS H) 3 = 0 + heldS H 0 + heldS H 1 + heldS H 2 := rfl
    rw [h0, h1, h2, es, if_pos (show (0 : Int) ≤ 0 ∧ (0 : Int) < 3 by omega), if_pos (show (0 : Int) ≤ 1 ∧ (1 : Int) < 3 by omega), if_pos (show (0 : Int) ≤ 2 ∧ (2 : Int) < 3 by omega)]
    generalize heldS H 0 = x0 at b0 ⊢
    generalize heldS H 1 = x1 at b1 ⊢
    generalize heldS H 2 = x2 at b2 ⊢
    have c0 : x0 = 0 ∨ x0 = 1 := by omega
    have c1 : x1 = 0 ∨ x1 = 1 := by omega
    have c2 : x2 = 0 ∨ x2 = 1 := by omega
    rcases c0 with rfl | rfl <;> rcases c1 with rfl | rfl <;> rcases c2 with rfl | rfl <;> rfl
  rw [if_neg w10, if_neg w10]
  by_cases w11 : w = 11
  · rw [if_pos w11, if_pos w11]
    exact r_allLoop hτ hN hT1 a2 (tN τ) 0 (by omega)
  rw [if_neg w11, if_neg w11]
end RA
