/-! PURE: the class's season -/
/-- what asking for a season changes -/
def fSn : Nat → Nat → Nat → Bool := fun c s j => fTh 53 c s j || (c == 0 && !(j == 3))
theorem fTh_fSn : ∀ c s j, fTh 53 c s j = true → fSn c s j = true := fun c s j h => by unfold fSn; rw [h]; rfl
theorem fNo_fSn : ∀ c s j, fNo c s j = true → fSn c s j = true := fun c s j h => by
  unfold fNo at h
  simp only [Bool.and_eq_true, Bool.or_eq_true, beq_iff_eq] at h
  obtain ⟨rfl, rfl, h⟩ := h
  rcases h with ((rfl | rfl) | rfl) <;> rfl
theorem sTx_fSn : ∀ c s j, sTx 0 c s j = true → fSn c s j = false := fun c s j hc => by
  unfold sTx at hc
  simp only [Bool.and_eq_true, Bool.or_eq_true, beq_iff_eq] at hc
  obtain ⟨rfl, hc⟩ := hc
  rcases hc with ((((((rfl | rfl) | rfl) | rfl) | rfl) | rfl) | rfl) <;> rfl
theorem cTx.sn {τ : Tx} {M M' : AmM} (h : cTx 0 τ M) (hs : amSame fSn M M') : cTx 0 τ M' := h.mv fun c s j hc => hs _ _ _ (sTx_fSn c s j hc)
theorem seaP_0 {i : Nat} {s b w : Int} (h : w = 0) : seaP (some (i, s, b)) w = (i : Int) := by unfold seaP; exact if_pos h
theorem seaP_1 {i : Nat} {s b w : Int} (h0 : ¬ w = 0) (h : w = 1) : seaP (some (i, s, b)) w = s := by unfold seaP; exact (if_neg h0).trans (if_pos h)
theorem seaP_2 {i : Nat} {s b w : Int} (h0 : ¬ w = 0) (h : ¬ w = 1) : seaP (some (i, s, b)) w = b := by unfold seaP; exact (if_neg h0).trans (if_neg h)
section SEA
variable {D d v : Nat} {τ : Tx} {ρ : Rw} {M : AmM} {N : Nat}
theorem cNt.th {o : Nt} {M M' : AmM} (h : cNt o M) (hs : amSame (fTh 53) M M') : cNt o M' := h.mv fun j _ _ => hs 0 0 j (by rfl)
theorem no_sc {s : Nat} {M M' : AmM} (h : cSt (tN τ) s ρ M) (hs : amSame fNo M M') : cSt (tN τ) s ρ M' := h.mv fun c j hc => hs _ _ _ (by rcases hc with rfl | rfl | rfl <;> rfl)
theorem c_dayLoop (hd : 5 ≤ d) (hτ : tOk τ) {i g : Nat} {day B : Int} (hg : g < 256) : ∀ (k p : Nat) (ρ : Rw) (o : Nt) (u6 : AmV) (M : AmM), p + k = 8 → (∀ q, p ≤ q → q < 8 → g.testBit q = (grN τ ρ 8).testBit q) → ρ 83 = day → sOk1 τ B ρ → cTx 0 τ M → cSt (tN τ) 53 ρ M → cNt o M → M 0 0 7 = stkS τ ρ → ∃ M', e_X0_groundBehindDay_6 d (g : Int) (i : Int) day ((grN τ ρ 8 : Nat) : Int) (p : Int) u6 M = some (vI ((grN τ (dayS τ i k p ρ o).1 8 : Nat) : Int), M') ∧ amSame fSn M M' ∧ cSt (tN τ) 53 (dayS τ i k p ρ o).1 M' ∧ cNt (dayS τ i k p ρ o).2 M' ∧ M' 0 0 7 = stkS τ (dayS τ i k p ρ o).1 ∧ sOk1 τ B (dayS τ i k p ρ o).1 ∧ (dayS τ i k p ρ o).1 83 = day
  | 0, p, ρ, o, u6, M, h, hb, hday, hN, hT, hS, ho, hk => by
    have h : p = 8 := h
    subst h
    exact ⟨M, by rw [q_X0_groundBehindDay_6, if_neg (by omega)]; rfl, amSame.refl, hS, ho, hk, hN, hday⟩
  | k + 1, p, ρ, o, u6, M, h, hb, hday, hN, hT, hS, ho, hk => by
    have hP := hτ.2.2.2.2.2.2.1
    have hl := grN_lt τ ρ 8 (by omega)
    rw [q_X0_groundBehindDay_6, if_pos (show (p : Int) < 8 by omega), c_has (by omega) (show (0 : Int) ≤ (g : Int) ∧ (g : Int) < 256 by omega) (show p < 8 by omega), amCI_s, w32_n (x := (p : Int) + 1) (n := p + 1) (by omega) (by omega), tn_cast, hb p (by omega) (by omega), grN_bit]
    unfold dayS
    by_cases hgr : p < tP τ ∧ ρ (50 + p) = 0
    · obtain ⟨hp, hgr⟩ := hgr
      have eB : (if decide (p < 8 ∧ p < tP τ ∧ ρ (50 + p) = 0) = true then (1 : Int) else 0) = 1 := if_pos (decide_eq_true ⟨by omega, hp, hgr⟩)
      obtain ⟨M1, t1, t2, t3, t4⟩ := c_through (D := d) (r := 53) (day := day) (by omega) hτ hT (by rw [← hday]; exact hN.2.2.2.1) hp hS hN.1
      have e : comesS τ (tV τ p) (tW τ p) day (ρ, 0, -1) = goR τ ρ p := by unfold goR; rw [hday]
      rw [e] at t1 t3 t4
      obtain ⟨t3a, -, t3b, t3c⟩ := t3
      obtain ⟨M2, n1, n2, n3⟩ := c_note (D := d) (i := i) (b := (p : Int)) (by omega) t3c (ho.th t2)
      have hcode := (comesS_code (τ := τ) (vow := tV τ p) (heavy := tW τ p) (day := ρ 83) (x := (ρ, 0, -1))).1
      have hS2 : cSt (tN τ) 53 (goS τ ρ p) M2 := no_sc (t3a.row hτ.1 fun j _ hj => setS_lt hj) n3
      have h7 : M2 0 0 7 = stkS τ ρ := by rw [n3 0 0 7 (by rfl), t2 0 0 7 (by rfl)]; exact hk
      have h104 : M2 10 0 4 = ((goR τ ρ p).2.1 : Int) := by rw [n3 10 0 4 (by rfl)]; exact t4
      have hsb := stkS_b hτ hN
      have hst := stkS_go hτ hN hp hgr
      have hgo := grN_go (τ := τ) (ρ := ρ) (show p < 8 by omega) hp hgr
      have hT2 : cTx 0 τ M2 := (hT.th t2).sn (n3.mono fNo_fSn)
      have hb2 : ∀ q, p + 1 ≤ q → q < 8 → g.testBit q = (grN τ (goS τ ρ p) 8).testBit q := fun q h1 h2 => by
        rw [hb q (by omega) h2, grN_bit, grN_bit, goS_50 (by omega) h2, if_neg (show ¬ q = p by omega)]
      have fin : ∀ z : Int, z = stkS τ (goS τ ρ p) → ∃ M', (if amUp M2 0 0 7 z 10 0 4 = 0 then e_X0_groundBehindDay_6 d (g : Int) (i : Int) day (bAnd ((grN τ ρ 8 : Nat) : Int) ((grN τ ρ 8 : Nat) : Int)) ((p + 1 : Nat) : Int) (vI ((goR τ ρ p).1 : Nat)) (amUp M2 0 0 7 z) else e_X0_groundBehindDay_6 d (g : Int) (i : Int) day (bAnd ((grN τ ρ 8 : Nat) : Int) (bXor (bShl 1 (p : Int)) (-1))) ((p + 1 : Nat) : Int) (vI ((goR τ ρ p).1 : Nat)) (amUp M2 0 0 7 z)) = some (vI ((grN τ (dayS τ i k (p + 1) (goS τ ρ p) (ntO i (goR τ ρ p).2.2.2.2 p o)).1 8 : Nat) : Int), M') ∧ amSame fSn M M' ∧ cSt (tN τ) 53 (dayS τ i k (p + 1) (goS τ ρ p) (ntO i (goR τ ρ p).2.2.2.2 p o)).1 M' ∧ cNt (dayS τ i k (p + 1) (goS τ ρ p) (ntO i (goR τ ρ p).2.2.2.2 p o)).2 M' ∧ M' 0 0 7 = stkS τ (dayS τ i k (p + 1) (goS τ ρ p) (ntO i (goR τ ρ p).2.2.2.2 p o)).1 ∧ sOk1 τ B (dayS τ i k (p + 1) (goS τ ρ p) (ntO i (goR τ ρ p).2.2.2.2 p o)).1 ∧ (dayS τ i k (p + 1) (goS τ ρ p) (ntO i (goR τ ρ p).2.2.2.2 p o)).1 83 = day := fun z hz => by
        obtain ⟨M3, a1, a2, a3⟩ := c_dayLoop hd hτ hg k (p + 1) (goS τ ρ p) (ntO i (goR τ ρ p).2.2.2.2 p o) (vI ((goR τ ρ p).1 : Nat)) (amUp M2 0 0 7 z) (by omega) hb2 ((goS_83 (by omega)).trans hday) (goS_ok1 hτ hN hp) (hT2.sn (amSame.refl.up (by rfl))) (hS2.up (by decide)) (n2.mv fun j _ _ => up_j (by omega)) (up_on.trans hz)
        refine ⟨M3, ?_, (((t2.mono fTh_fSn).trans (n3.mono fNo_fSn)).up (by rfl)).trans a2, a3⟩
        rw [up_c (by decide), h104]
        by_cases h0 : (goR τ ρ p).2.1 = 0
        · rw [if_pos h0] at hgo
          rw [if_pos (by omega), bSelf _ hl, ← hgo]
          exact a1
        · rw [if_neg h0] at hgo
          rw [if_neg (by omega), bClr _ hl p (by omega), ← hgo]
          exact a1
      rw [eB, if_neg (show ¬ (1 : Int) = 0 by decide), t1, amCI_s, t3b, n1, amCV_s, h7, if_pos (⟨hp, hgr⟩ : p < tP τ ∧ ρ (50 + p) = 0)]
      by_cases h2 : (goR τ ρ p).1 = 2
      · rw [if_pos h2] at hst
        rw [if_pos (show (((goR τ ρ p).1 : Nat) : Int) = 2 by omega)]
        exact fin _ (by rw [w32_id (by omega) (by omega)]; omega)
      · rw [if_neg h2] at hst
        rw [if_neg (show ¬ (((goR τ ρ p).1 : Nat) : Int) = 2 by omega)]
        exact fin _ (by rw [w32_id (by omega) (by omega)]; omega)
    · have eB : (if decide (p < 8 ∧ p < tP τ ∧ ρ (50 + p) = 0) = true then (1 : Int) else 0) = 0 := if_neg (by
        rw [decide_eq_true_iff]
        exact fun q => hgr q.2)
      rw [eB, if_pos (show (0 : Int) = 0 from rfl), if_neg hgr]
      exact c_dayLoop hd hτ hg k (p + 1) ρ o u6 M (by omega) (fun q h1 h2 => hb q (by omega) h2) hday hN hT hS ho hk
theorem c_dayOf (hD : 6 ≤ D) (hτ : tOk τ) {i : Nat} {o : Nt} {day B : Int} (hday : ρ 83 = day) (hN : sOk1 τ B ρ) (hT : cTx 0 τ M) (hS : cSt (tN τ) 53 ρ M) (ho : cNt o M) (hk : M 0 0 7 = stkS τ ρ) : ∃ M', amD amGst D 7 [vR 0 0 0, vI ((grN τ ρ 8 : Nat) : Int), vI (i : Int), vI day] M = some (vI ((grN τ (dayS τ i 8 0 ρ o).1 8 : Nat) : Int), M') ∧ amSame fSn M M' ∧ cSt (tN τ) 53 (dayS τ i 8 0 ρ o).1 M' ∧ cNt (dayS τ i 8 0 ρ o).2 M' ∧ M' 0 0 7 = stkS τ (dayS τ i 8 0 ρ o).1 ∧ sOk1 τ B (dayS τ i 8 0 ρ o).1 ∧ (dayS τ i 8 0 ρ o).1 83 = day := by
  obtain ⟨d, rfl⟩ := dS hD
  rw [n_X0_groundBehindDay, q_X0_groundBehindDay_0]
  exact c_dayLoop (by omega) hτ (grN_lt τ ρ 8 (by omega)) 8 0 ρ o vU M rfl (fun q _ _ => rfl) hday hN hT hS ho hk
theorem c_seaLoop (hd : 6 ≤ d) (hτ : tOk τ) {n : Nat} {day0 B : Int} (hn : n ≤ 100) (hB : B ≤ 1000000) (hd0 : 0 ≤ day0) : ∀ (k i : Nat) (ρ : Rw) (o : Nt) (M : AmM), i + k = n → ρ 83 = day0 + i → sOk1 τ (B + i) ρ → cTx 0 τ M → M 5 0 7 = day0 → cSt (tN τ) 53 ρ M → cNt o M → M 0 0 7 = stkS τ ρ → ∃ M', e_X0_foresee_59 d 0 (n : Int) ((grN τ ρ 8 : Nat) : Int) (i : Int) M = some (vU, M') ∧ amSame fSn M M' ∧ cNt (seaS τ k i ρ o).2 M' ∧ M' 0 0 7 = stkS τ (seaS τ k i ρ o).1
  | 0, i, ρ, o, M, h, hday, hN, hT, h57, hS, ho, hk => by
    exact ⟨M, by rw [q_X0_foresee_59, if_neg (by omega)], amSame.refl, ho, hk⟩
  | k + 1, i, ρ, o, M, h, hday, hN, hT, h57, hS, ho, hk => by
    have hl := grN_lt τ ρ 8 (by omega)
    have hB2 := hN.2.2.2.2
    obtain ⟨M1, a1, a2, a3, a4, a5, a6, a7⟩ := c_dayOf (D := d) (i := i) (o := o) (by omega) hτ hday hN hT hS ho hk
    generalize hy : dayS τ i 8 0 ρ o = y at a1 a3 a4 a5 a6 a7
    have hT1 : cTx 0 τ M1 := hT.sn a2
    have h571 : M1 5 0 7 = day0 := by rw [a2 5 0 7 (by rfl)]; exact h57
    have h0 : 0 ≤ day0 + (i : Int) := by omega
    have hu := rainS_b hτ h0
    have hρ : ∀ j, 1 ≤ j → j ≤ tN τ → 0 ≤ y.1 j ∧ y.1 j ≤ 99 := fun j h1 h2 => by
      have q1 := a6.1 j h1 h2
      have q2 := hτ.2.1 j h1 h2
      omega
    obtain ⟨M2, b1, b2, b3⟩ := c_rainOn (D := d) (r := 53) (u := rainS τ (day0 + (i : Int))) (by omega) hτ.1 (by omega) hρ a3
    have s2 : amSame fSn M1 M2 := b3.mono fun c s j h => fTh_fSn c s j (by
      unfold fRn at h
      simp only [Bool.and_eq_true, Bool.or_eq_true, beq_iff_eq] at h
      obtain ⟨rfl, h⟩ := h
      rcases h with rfl | ⟨rfl, rfl⟩ <;> rfl)
    have hN2 : cNt y.2 M2 := a4.mv fun j _ _ => b3 0 0 j (by rfl)
    obtain ⟨M3, c1, c2, c3⟩ := c_note (D := d) (i := i) (b := -2) (by omega) (rnF_b (u := rainS τ (day0 + (i : Int))) (ρ := y.1) (tN τ)) hN2
    have hT3 : cTx 0 τ M3 := (hT1.sn s2).sn (c3.mono fNo_fSn)
    have hS3 : cSt (tN τ) 53 (ntS τ y.1) M3 := no_sc (b2.row hτ.1 fun j _ hj => by
      unfold ntS
      rw [if_neg (by omega), if_neg (by omega), a7]) c3
    have hk3 : M3 0 0 7 = stkS τ (ntS τ y.1) := by
      rw [c3 0 0 7 (by rfl), b3 0 0 7 (by rfl), stkS_nt hτ]
      exact a5
    have h573 : M3 5 0 7 = day0 := by rw [c3 5 0 7 (by rfl), b3 5 0 7 (by rfl)]; exact h571
    have ho3 : cNt (seaN τ i y) M3 := by
      unfold seaN
      rw [a7]
      exact c2
    have hok : sOk1 τ (B + ((i + 1 : Nat) : Int)) (ntS τ y.1) := by
      rw [show B + ((i + 1 : Nat) : Int) = B + (i : Int) + 1 by omega]
      exact ntS_ok hτ a6
    have h83 : ntS τ y.1 83 = day0 + ((i + 1 : Nat) : Int) := by
      have e : ntS τ y.1 83 = y.1 83 + 1 := rfl
      rw [e, a7]
      omega
    obtain ⟨M4, f1, f2, f3, f4⟩ := c_seaLoop hd hτ hn hB hd0 k (i + 1) (ntS τ y.1) (seaN τ i y) M3 (by omega) h83 hok hT3 h573 hS3 ho3 hk3
    have eS : seaS τ (k + 1) i ρ o = seaS τ k (i + 1) (ntS τ y.1) (seaN τ i y) := by rw [← hy]; rfl
    rw [eS]
    refine ⟨M4, ?_, ((a2.trans s2).trans (c3.mono fNo_fSn)).trans f2, f3, f4⟩
    rw [q_X0_foresee_59, if_pos (show (i : Int) < (n : Int) by omega), h57, w32_id (x := day0 + (i : Int)) (by omega) (by omega), a1, amCI_s, h571, w32_id (x := day0 + (i : Int)) (by omega) (by omega), c_rainOf (by omega) hτ hT1 h0, amCI_s, b1, amCI_s, c1, amCV_s, w32_n (x := (i : Int) + 1) (n := i + 1) (by omega) (by omega)]
    rw [ntS_ground hτ] at f1
    exact f1
/-- what is kept of a season -/
def cMs (τ : Tx) (ρ : Rw) (M : AmM) : Prop := M 0 0 3 = -1 ∨ ∃ n : Nat, 1 ≤ n ∧ n ≤ 100 ∧ M 0 0 3 = (n : Int) ∧ cNt (seaS τ n 0 ρ none).2 M ∧ M 0 0 7 = stkS τ (seaS τ n 0 ρ none).1
theorem c_foresee (hD : 7 ≤ D) (hτ : tOk τ) (hN5 : N ≤ 1000) (hN : sOk τ N ρ) (hT : cTx 0 τ M) (hS : cSc τ 0 ρ M) (hM : cMs τ ρ M) {n : Nat} (h1 : 1 ≤ n) (h2 : n ≤ 100) : ∃ M', amD amGst D 6 [vR 0 0 0, vR 5 5 0, vI (n : Int)] M = some (vU, M') ∧ amSame (fun c s j => fTh 53 c s j || c == 0) M M' ∧ M' 0 0 3 = (n : Int) ∧ cNt (seaS τ n 0 ρ none).2 M' ∧ M' 0 0 7 = stkS τ (seaS τ n 0 ρ none).1 := by
  obtain ⟨d, rfl⟩ := dS hD
  rw [n_X0_foresee, q_X0_foresee_0]
  by_cases h3 : (n : Int) = M 0 0 3
  · rw [if_pos h3]
    rcases hM with hM | ⟨m, m1, m2, m3, m4, m5⟩
    · omega
    · have e : m = n := by omega
      subst e
      exact ⟨M, rfl, amSame.refl, m3, m4, m5⟩
  · rw [if_neg h3]
    generalize hM0 : amUp (amUp (amUp (amUp M 0 0 3 (n : Int)) 0 0 4 (-3)) 0 0 5 (-3)) 0 0 6 (-3) = M0
    have s0 : amSame (fun c s j => fTh 53 c s j || c == 0) M M0 := by
      rw [← hM0]
      exact (((amSame.refl.up (by rfl)).up (by rfl)).up (by rfl)).up (by rfl)
    have e03 : M0 0 0 3 = (n : Int) := by rw [← hM0, up_j (by decide), up_j (by decide), up_j (by decide), up_on]
    have ho : cNt none M0 := by
      rw [← hM0]
      exact ⟨by rw [up_j (by decide), up_j (by decide), up_on], by rw [up_j (by decide), up_on], by rw [up_on]⟩
    have mvT : ∀ M', amSame (fun c s j => fTh 53 c s j || c == 0) M M' → cTx 0 τ M' := fun M' hs => hT.mv fun c s j hc => hs _ _ _ (by
      unfold sTx at hc
      simp only [Bool.and_eq_true, Bool.or_eq_true, beq_iff_eq] at hc
      obtain ⟨rfl, hc⟩ := hc
      rcases hc with ((((((rfl | rfl) | rfl) | rfl) | rfl) | rfl) | rfl) <;> rfl)
    have mvS : ∀ M', amSame (fun c s j => fTh 53 c s j || c == 0) M M' → cSc τ 0 ρ M' := fun M' hs => hS.mv fun c j hc => hs _ _ _ (by
      rcases hc with rfl | rfl | rfl | rfl | rfl | rfl | rfl | rfl <;> rfl)
    have hst : amD amGst d 51 [vR 5 5 0] M0 = some (vI (stkS τ ρ), M0) := by
      obtain ⟨d', e'⟩ := dS (show 0 + 1 ≤ d by omega)
      rw [e', n_X5_stuckOnes, q_X5_stuckOnes_0]
      exact c_stuckLoop (by omega) hτ hN (mvT M0 s0) (mvS M0 s0) (tP τ) 0 (by omega)
    have s1 : amSame (fun c s j => fTh 53 c s j || c == 0) M (amUp M0 0 0 7 (stkS τ ρ)) := s0.up (by rfl)
    obtain ⟨M2, b1, b2, b3⟩ := c_stCopy (D := d) (r := 53) (by omega) hτ.1 (mvS _ s1).1 (by decide)
    have s2 : amSame (fun c s j => fTh 53 c s j || c == 0) M M2 := s1.trans (b3.mono fun c s j h => by
      unfold fSt at h
      simp only [Bool.and_eq_true, Bool.or_eq_true, beq_iff_eq] at h
      obtain ⟨rfl, h⟩ := h
      rcases h with (rfl | rfl) | rfl <;> rfl)
    have hS2 := mvS M2 s2
    have h83 := hN.2.2.2
    obtain ⟨M3, f1, f2, f3, f4⟩ := c_seaLoop (d := d) (n := n) (B := 100 * (N : Int)) (by omega) hτ h2 (by omega) h83.1 n 0 ρ none M2 (by omega) (by omega) (by
      have := hN.one
      rw [show 100 * (N : Int) + ((0 : Nat) : Int) = 100 * (N : Int) by omega]
      exact this) (mvT M2 s2) hS2.2.2.2 b2 ((ho.mv fun j _ _ => by rw [b3 0 0 j (by rfl), up_j (by omega)])) (by rw [b3 0 0 7 (by rfl), up_on])
    refine ⟨M3, ?_, s2.trans (f2.mono fun c s j h => by
      unfold fSn at h
      rw [Bool.or_eq_true, Bool.and_eq_true] at h
      rcases h with h | h
      · rw [h]; rfl
      · rw [h.1]; exact Bool.or_true _), ?_, f3, f4⟩
    · rw [hst, amCI_s, b1, amCV_s, c_grounded (by omega) hτ (mvT M2 s2) hS2, amCI_s]
      exact f1
    · rw [f2 0 0 3 (by rfl), b3 0 0 3 (by rfl), up_j (by decide)]
      exact e03
theorem c_season (hD : 8 ≤ D) (hτ : tOk τ) (hN5 : N ≤ 1000) (hN : sOk τ N ρ) (hT : cTx 0 τ M) (hS : cSc τ 0 ρ M) (hM : cMs τ ρ M) {n w : Int} : ∃ M', amD amGst D 124 [vR 11 11 0, vI n, vI w] M = some (vI (seasonS τ ρ n w), M') ∧ amSame (fun c s j => fTh 53 c s j || c == 0) M M' ∧ cMs τ ρ M' := by
  obtain ⟨d, rfl⟩ := dS hD
  rw [n_X11_season, q_X11_season_0]
  unfold seasonS
  by_cases hok : (1 ≤ n ∧ n ≤ 100) ∧ 0 ≤ w ∧ w ≤ 3
  · obtain ⟨M1, a1, a2, a3, a4, a5⟩ := c_foresee (D := d) (by omega) hτ hN5 hN hT hS hM (n := n.toNat) (by omega) (by omega)
    rw [show ((n.toNat : Nat) : Int) = n by omega] at a1
    refine ⟨M1, ?_, a2, Or.inr ⟨n.toNat, by omega, by omega, a3, a4, a5⟩⟩
    rw [if_neg (show ¬ n < 1 by omega), if_neg (show ¬ 100 < n by omega), if_neg (show ¬ w < 0 by omega), if_neg (show ¬ 3 < w by omega), a1, amCV_s, if_pos hok]
    generalize seaS τ n.toNat 0 ρ none = y at a4 a5
    obtain ⟨y1, y2⟩ := y
    by_cases w0 : w = 0
    · rw [if_pos w0, if_neg (show ¬ w = 3 by omega)]
      cases y2 with
      | none => rw [a4.1]; rfl
      | some x => exact congrArg (fun z => some (vI z, M1)) (a4.1.trans (seaP_0 w0).symm)
    · rw [if_neg w0]
      by_cases w1 : w = 1
      · rw [if_pos w1, if_neg (show ¬ w = 3 by omega)]
        cases y2 with
        | none => rw [a4.2.1]; rfl
        | some x => exact congrArg (fun z => some (vI z, M1)) (a4.2.1.trans (seaP_1 w0 w1).symm)
      · rw [if_neg w1]
        by_cases w2 : w = 2
        · rw [if_pos w2, if_neg (show ¬ w = 3 by omega)]
          cases y2 with
          | none => rw [a4.2.2]; rfl
          | some x => exact congrArg (fun z => some (vI z, M1)) (a4.2.2.trans (seaP_2 w0 w1).symm)
        · rw [if_neg w2, if_pos (show w = 3 by omega), a5]; rfl
  · refine ⟨M, ?_, amSame.refl, hM⟩
    rw [if_neg hok]
    by_cases h1 : n < 1
    · rw [if_pos h1]
    · rw [if_neg h1]
      by_cases h2 : 100 < n
      · rw [if_pos h2]
      · rw [if_neg h2]
        by_cases h3 : w < 0
        · rw [if_pos h3]
        · rw [if_neg h3, if_pos (show 3 < w by omega)]
end SEA
