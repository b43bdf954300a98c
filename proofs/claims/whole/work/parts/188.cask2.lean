/-! PURE: the class's wear, would, fair, count -/
def countS (τ : Tx) (ρ : Rw) (H : Nat → Option Rw) (told len past w : Int) : Int := if w = 0 then tN τ else if w = 1 then tP τ else if w = 2 then ρ 82 else if w = 3 then ρ 83 else if w = 4 then tR τ else if w = 5 then gonS (tN τ) ρ else if w = 6 then sumS (fun p => ρ (74 + p)) (tP τ) else if w = 7 then told else if w = 8 then len else if w = 9 then past else if w = 10 then sumS (heldS H) 3 else if w = 11 then sumS (fun j => ρ (j + 1)) (tN τ) else -1
theorem tkWV {τ : Tx} (hτ : tOk τ) {p : Nat} (hp : p < tP τ) : (0 ≤ tW τ p ∧ tW τ p ≤ 2000) ∧ 0 ≤ tV τ p ∧ tV τ p ≤ 3 := by
  have h := hτ.2.2.2.2.2.2.2.1 p hp
  omega
section CA2
variable {D d : Nat} {τ : Tx} {ρ : Rw} {P : List Rw} {M M' : AmM} {N : Nat} {H : Nat → Option Rw}
/-- what asking may change -/
def fAs : Nat → Nat → Nat → Bool := fun c s j => c == 10 || c == 125 || (c == 102 && s == 0)
theorem c_wear (hD : 5 ≤ D) (hτ : tOk τ) (hN : sOk τ N ρ) (hT : cTx 0 τ M) (hS : cSc τ 0 ρ M) {p s up : Int} (hup : up = 0 ∨ up = 1) : ∃ M', amD amGst D 113 [vR 11 11 0, vI p, vI s, vI up] M = some (vI (wrS τ ρ p s up), M') ∧ amSame fAs M M' := by
  obtain ⟨d, rfl⟩ := dS hD
  have hn := hτ.1
  rw [n_X11_wear, q_X11_wear_0]
  unfold wrS
  by_cases h1 : 0 ≤ p ∧ p < tP τ
  · rw [c_hasY (by omega) hT h1, amCI_s, if_neg (by decide)]
    by_cases h2 : 1 ≤ s ∧ s ≤ tN τ
    · have ep : p = ((p.toNat : Nat) : Int) := by omega
      have es : s = ((s.toNat : Nat) : Int) := by omega
      have hs := hS.1.2.2 s.toNat (by omega) (by omega)
      obtain ⟨M1, m1, m2, m3, m4⟩ := c_begin (D := d) (day := ρ 83) (by omega) hτ hT hN.2.2.2.1 (p := p.toNat) (by omega)
      rw [← ep] at m1
      have hT1 : cTx 0 τ M1 := hT.mv fun c s j hc => m2 _ _ _ (by
        unfold sTx at hc
        simp only [Bool.and_eq_true, Bool.or_eq_true, beq_iff_eq] at hc
        obtain ⟨rfl, hc⟩ := hc
        rcases hc with (((((rfl | rfl) | rfl) | rfl) | rfl) | rfl) | rfl <;> rfl)
      have o1 : ∀ c s j, c ≠ 10 → c ≠ 125 → M1 c s j = M c s j := fun c s j h1 h2 => m2 _ _ _ (by simp [h1, h2])
      have ht := c_thickAt (D := d) (r := 0) (M := M1) (by omega) (j := s.toNat) (by omega)
      rw [← es] at ht
      obtain ⟨M2, k1, k2⟩ := c_wearOn (D := d) (by omega) hτ hT1 m3 (tkWV hτ (p := p.toNat) (by omega)).2 (s := s) (t := ρ s.toNat) (gone := gonS (tN τ) ρ) hup
      rw [c_isStepY (n := tN τ) (by omega) hS.1.1 h2, amCI_s, if_neg (by decide), if_pos ⟨h1, h2⟩, hS.2.2.2, m1, amCV_s, ht, amCI_s, o1 112 _ _ (by decide) (by decide), hs.1, o1 6 _ _ (by decide) (by decide), hS.1.2.1, k1, amCI_s]
      refine ⟨_, rfl, (m2.mono fun c s j h => ?_).trans (k2.mono fun c s j h => ?_)⟩
      · unfold fAs
        rw [h]; rfl
      · unfold fWr at h
        unfold fAs
        simp only [Bool.and_eq_true, Bool.or_eq_true, beq_iff_eq] at h ⊢
        rcases h with ⟨h, -⟩ | h
        · exact Or.inl (Or.inr h)
        · exact Or.inr h
    · rw [c_isStepN (n := tN τ) (by omega) hS.1.1 h2, amCI_s, if_pos rfl, if_neg (fun q => h2 q.2)]
      exact ⟨_, rfl, amSame.refl⟩
  · rw [c_hasN (by omega) hT h1, amCI_s, if_pos rfl, if_neg (fun q => h1 q.1)]
    exact ⟨_, rfl, amSame.refl⟩
def fWo : Nat → Nat → Nat → Bool := fun c s j => fTh 44 c s j || fSt 44 c s j
theorem c_would (hD : 6 ≤ D) (hτ : tOk τ) (hN : sOk τ N ρ) (hT : cTx 0 τ M) (hS : cSc τ 0 ρ M) {p w : Int} : ∃ M', amD amGst D 115 [vR 11 11 0, vI p, vI w] M = some (vI (wouldS τ ρ p w), M') ∧ amSame fWo M M' := by
  obtain ⟨d, rfl⟩ := dS hD
  have hn := hτ.1
  have hP := hτ.2.2.2.2.2.2.1
  rw [n_X11_would, q_X11_would_0]
  unfold wouldS
  by_cases h1 : 0 ≤ p ∧ p < tP τ
  · rw [c_hasY (by omega) hT h1, amCI_s, if_neg (by decide)]
    by_cases h2 : 0 ≤ w ∧ w ≤ 2
    · have ep : p = ((p.toNat : Nat) : Int) := by omega
      have hp := hS.2.1 p.toNat (by omega)
      have hg := c_onGround (D := d) (s := 0) (p := p.toNat) (by omega) hτ hT hS (by omega)
      rw [← ep] at hg
      rw [if_neg (by omega), if_neg (by omega), if_pos ⟨h1, h2⟩, c_at (n := 8) (by omega) (by decide) (by decide) (by omega) (by omega), amCI_s, hp.1, hg, amCI_s]
      by_cases h3 : ρ (50 + p.toNat) = 0
      · obtain ⟨M1, m1, m2, m3⟩ := c_stCopy (D := d) (r := 44) (by omega) hn hS.1 (by decide)
        have hT1 : cTx 0 τ M1 := hT.mv fun c s j hc => m3 _ _ _ (by
          unfold sTx at hc
          simp only [Bool.and_eq_true, Bool.or_eq_true, beq_iff_eq] at hc
          obtain ⟨rfl, hc⟩ := hc
          rfl)
        have e5 : M1 5 0 7 = ρ 83 := by rw [m3 5 0 7 (by rfl)]; exact hS.2.2.2
        obtain ⟨M4, t1, t2, t3, t4⟩ := c_through (D := d) (r := 44) (by omega) hτ hT1 hN.2.2.2.1 (p := p.toNat) (by omega) m2 hN.1
        rw [← ep] at t1
        rw [if_pos h3, if_neg (by decide), m1, amCV_s, e5, t1, amCI_s, t4, t3.2.1, q_X11_would_103]
        have hF : amSame fWo M M4 := (m3.mono fun c s j h => by unfold fWo; rw [h]; simp).trans (t2.mono fun c s j h => by unfold fWo; rw [h]; rfl)
        rw [if_pos h3]
        show ∃ M', (if w = 0 then some (vI ((goR τ ρ p.toNat).1 : Nat), M4) else if w = 1 then some (vI ((goR τ ρ p.toNat).2.1 : Nat), M4) else some (vI (goR τ ρ p.toNat).2.2.2.1, M4)) = some (vI (if w = 0 then ((goR τ ρ p.toNat).1 : Int) else if w = 1 then ((goR τ ρ p.toNat).2.1 : Int) else (goR τ ρ p.toNat).2.2.2.1), M') ∧ amSame fWo M M'
        refine ⟨M4, ?_, hF⟩
        by_cases w0 : w = 0
        · rw [if_pos w0, if_pos w0]
        · rw [if_neg w0, if_neg w0]
          by_cases w1 : w = 1
          · rw [if_pos w1, if_pos w1]
          · rw [if_neg w1, if_neg w1]
      · rw [if_neg h3, if_pos rfl, q_X11_would_103, if_neg h3]
        refine ⟨M, ?_, amSame.refl⟩
        by_cases w0 : w = 0
        · rw [if_pos w0, if_pos w0]
        · rw [if_neg w0, if_neg w0]
          by_cases w1 : w = 1
          · rw [if_pos w1, if_pos w1]
          · rw [if_neg w1, if_neg w1]
    · rw [if_neg (show ¬ ((0 ≤ p ∧ p < tP τ) ∧ 0 ≤ w ∧ w ≤ 2) from fun q => h2 q.2)]
      refine ⟨M, ?_, amSame.refl⟩
      by_cases w0 : w < 0
      · rw [if_pos w0]
      · rw [if_neg w0, if_pos (by omega)]
  · rw [c_hasN (by omega) hT h1, amCI_s, if_pos rfl, if_neg (fun q => h1 q.1)]
    exact ⟨_, rfl, amSame.refl⟩
theorem c_fairLoop (hd : 1 ≤ d) (hτ : tOk τ) (hT : cTx 0 τ M) (hS : cSc τ 0 ρ M) : ∀ (k i : Nat), i + 1 + k = tP τ → e_X11_fair_29 d (mxS (fun p => ρ (58 + p)) i) (mnS (fun p => ρ (58 + p)) i) ((i + 1 : Nat) : Int) M = some (vI (w32 (mxS (fun p => ρ (58 + p)) (tP τ - 1) - mnS (fun p => ρ (58 + p)) (tP τ - 1))), M)
  | 0, i, h => by
    have h : i = tP τ - 1 := by omega
    subst h
    rw [q_X11_fair_29, hT.2.2.2.2.1, if_neg (by omega)]
  | k + 1, i, h => by
    have hP := hτ.2.2.2.2.2.2.1
    have e : (((i + 1 : Nat) : Int)).toNat = i + 1 := rfl
    have ih := c_fairLoop hd hτ hT hS k (i + 1) (by omega)
    have e1 : mxS (fun p => ρ (58 + p)) (i + 1) = amMax (mxS (fun p => ρ (58 + p)) i) (ρ (58 + (i + 1))) := by
      show (if mxS (fun p => ρ (58 + p)) i < ρ (58 + (i + 1)) then ρ (58 + (i + 1)) else mxS (fun p => ρ (58 + p)) i) = _
      unfold amMax
      split <;> rfl
    have e2 : mnS (fun p => ρ (58 + p)) (i + 1) = amMin (mnS (fun p => ρ (58 + p)) i) (ρ (58 + (i + 1))) := by
      show (if ρ (58 + (i + 1)) < mnS (fun p => ρ (58 + p)) i then ρ (58 + (i + 1)) else mnS (fun p => ρ (58 + p)) i) = _
      unfold amMin
      split <;> rfl
    rw [e1, e2] at ih
    rw [q_X11_fair_29, hT.2.2.2.2.1, if_pos (by omega), c_at (n := 8) (by omega) (by decide) (by decide) (by omega) (by omega), amCI_s, c_at (n := 8) (by omega) (by decide) (by decide) (by omega) (by omega), amCI_s, e, (hS.2.1 (i + 1) (by omega)).2.1, w32_n (x := ((i + 1 : Nat) : Int) + 1) (n := i + 1 + 1) (by omega) (by omega)]
    exact ih
theorem c_fair (hD : 2 ≤ D) (hτ : tOk τ) (hT : cTx 0 τ M) (hS : cSc τ 0 ρ M) : amD amGst D 127 [vR 11 11 0] M = some (vI (fairS τ ρ), M) := by
  obtain ⟨d, rfl⟩ := dS hD
  have hP := hτ.2.2.2.2.2.2.1
  rw [n_X11_fair, q_X11_fair_0, hT.2.2.2.2.1]
  unfold fairS
  by_cases h0 : tP τ = 0
  · rw [if_neg (by omega), if_pos h0]
  · have e : (0 : Int).toNat = 0 := rfl
    have := c_fairLoop (d := d) (by omega) hτ hT hS (tP τ - 1) 0 (by omega)
    rw [if_pos (by omega), if_neg h0, c_at (n := 8) (by omega) (by decide) (by decide) (by omega) (by omega), amCI_s, e, (hS.2.1 0 (by omega)).2.1]
    exact this
theorem heldS_b {H : Nat → Option Rw} (s : Nat) : 0 ≤ heldS H s ∧ heldS H s ≤ 1 := by
  unfold heldS
  split <;> omega
theorem c_heldLoop (hH : cHe τ H M) : ∀ (k i : Nat), i + k = 3 → e_X11_heldSlots_4 d (sumS (heldS H) i) (i : Int) M = some (vI (sumS (heldS H) 3), M)
  | 0, i, h => by
    have h : i = 3 := h
    subst h
    rw [q_X11_heldSlots_4, if_neg (by omega)]
  | k + 1, i, h => by
    have hb := sumS_b (f := heldS H) (b := 1) (by omega) i (fun j _ => heldS_b j)
    have e : ((i : Nat) : Int).toNat = i := rfl
    have ih := c_heldLoop hH k (i + 1) (by omega)
    have e1 : sumS (heldS H) (i + 1) = sumS (heldS H) i + heldS H i := rfl
    have h1 := hH i (by omega)
    rw [e1] at ih
    rw [q_X11_heldSlots_4, e, if_pos (by omega), if_pos ⟨by omega, by omega⟩, w32_n (x := (i : Int) + 1) (n := i + 1) (by omega) (by omega)]
    cases hHi : H i with
    | none =>
      rw [hHi] at h1
      have h1 : M 128 0 i = 0 := h1
      have e2 : heldS H i = 0 := by unfold heldS; rw [hHi]
      rw [e2] at ih
      rw [if_pos h1, w32_id (by omega) (by omega)]
      exact ih
    | some ρ' =>
      rw [hHi] at h1
      have h1 : M 128 0 i = 1 := h1.1
      have e2 : heldS H i = 1 := by unfold heldS; rw [hHi]
      rw [e2] at ih
      rw [if_neg (by omega), w32_id (by omega) (by omega)]
      exact ih
theorem c_count (hD : 3 ≤ D) (hτ : tOk τ) (hN : sOk τ N ρ) (hT : cTx 0 τ M) (hS : cSc τ 0 ρ M) (hP : cPa τ P M) (hH : cHe τ H M) {w : Int} : amD amGst D 135 [vR 11 11 0, vI w] M = some (vI (countS τ ρ H (M 9 0 5) (M 7 0 1) P.length w), M) := by
  obtain ⟨d, rfl⟩ := dS hD
  obtain ⟨d, rfl⟩ := dS (show 1 + 1 ≤ d by omega)
  have k6 : amD amGst (d + 1) 51 [vR 5 5 0] M = some (vI (sumS (fun p => ρ (74 + p)) (tP τ)), M) := by
    rw [n_X5_stuckOnes, q_X5_stuckOnes_0]
    exact c_stuckLoop (by omega) hτ hN hT hS (tP τ) 0 (by omega)
  have k10 : amD amGst (d + 1) 141 [vR 11 11 0] M = some (vI (sumS (heldS H) 3), M) := by
    rw [n_X11_heldSlots, q_X11_heldSlots_0]
    exact c_heldLoop hH 3 0 (by omega)
  have k11 : amD amGst (d + 1) 62 [vR 6 6 0] M = some (vI (sumS (fun j => ρ (j + 1)) (tN τ)), M) := by
    rw [n_X6_allThick, q_X6_allThick_0]
    exact c_allLoop (by omega) hτ hN hS (tN τ) 0 (by omega)
  rw [n_X11_count, q_X11_count_0, hT.1, hT.2.1, hT.2.2.2.2.1, hS.2.2.1, hS.2.2.2, hS.1.2.1, hP.2.1, k6, amCI_s, k10, amCI_s, k11, amCI_s]
  unfold countS
  by_cases w0 : w = 0
  · rw [if_pos w0, if_pos w0]
  rw [if_neg w0, if_neg w0]
  by_cases w1 : w = 1
  · rw [if_pos w1, if_pos w1]
  rw [if_neg w1, if_neg w1]
  by_cases w2 : w = 2
  · rw [if_pos w2, if_pos w2]
  rw [if_neg w2, if_neg w2]
  by_cases w3 : w = 3
  · rw [if_pos w3, if_pos w3]
  rw [if_neg w3, if_neg w3]
  by_cases w4 : w = 4
  · rw [if_pos w4, if_pos w4]
  rw [if_neg w4, if_neg w4]
  by_cases w5 : w = 5
  · rw [if_pos w5, if_pos w5]
  rw [if_neg w5, if_neg w5]
  by_cases w6 : w = 6
  · rw [if_pos w6, if_pos w6]
  rw [if_neg w6, if_neg w6]
  by_cases w7 : w = 7
  · rw [if_pos w7, if_pos w7]
  rw [if_neg w7, if_neg w7]
  by_cases w8 : w = 8
  · rw [if_pos w8, if_pos w8]
  rw [if_neg w8, if_neg w8]
  by_cases w9 : w = 9
  · rw [if_pos w9, if_pos w9]
  rw [if_neg w9, if_neg w9]
  by_cases w10 : w = 10
  · rw [if_pos w10, if_pos w10]
  rw [if_neg w10, if_neg w10]
  by_cases w11 : w = 11
  · rw [if_pos w11, if_pos w11]
  rw [if_neg w11, if_neg w11]
end CA2
