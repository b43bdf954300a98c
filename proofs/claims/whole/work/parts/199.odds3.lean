/-! PURE: the reference's odds -/
section OD3
variable {D d v : Nat} {τ : Tx} {ρ : Rw} {M : AmM} {N : Nat}
theorem r_oddsLoop (hd : 7 ≤ d) (hτ : tOk τ) (h83 : 0 ≤ ρ 83 ∧ ρ 83 ≤ 1000000) {s : Int} (hs : 0 ≤ s ∧ s < 256) (hH : thrH τ s.toNat.testBit 0 ρ) {r n a c : Nat} (hr : r ≤ 9) (hn : n ≤ 12) (hac : a + c ≤ 9) : ∀ (m w : Nat) (u1 u2 : AmV) (M : AmM), w + m = n + 1 → rTx v τ M → rNow ρ M → ∃ M', e_X12_odds_60 d s (r : Int) (n : Int) (a : Int) ((a + c : Nat) : Int) (sumS (oddF τ ρ s.toNat.testBit r n a c) w) (w : Int) u1 u2 M = some (vL (sumS (oddF τ ρ s.toNat.testBit r n a c) (n + 1)), M') ∧ amSame fRo M M'
  | 0, w, u1, u2, M, h, hT, hS => by
    have h : w = n + 1 := h
    subst h
    refine ⟨M, ?_, amSame.refl⟩
    rw [q_X12_odds_60, if_pos (by omega)]
  | m + 1, w, u1, u2, M, h, hT, hS => by
    have hb := sumS_b (f := oddF τ ρ s.toNat.testBit r n a c) (b := 260964891708444) (by omega) w (fun i hi => oddF_b hn (by omega) (by omega) (by omega))
    have hF := oddF_b (τ := τ) (ρ := ρ) (S := s.toNat.testBit) (r := r) hn (show a ≤ 9 by omega) (show c ≤ 9 by omega) (show w ≤ n by omega)
    have hch := chC_b n (by omega) w (by omega)
    have eq1 : sumS (oddF τ ρ s.toNat.testBit r n a c) (w + 1) = sumS (oddF τ ρ s.toNat.testBit r n a c) w + oddF τ ρ s.toNat.testBit r n a c w := rfl
    have ih : ∀ u1' u2' M1, amSame fRo M M1 → ∃ M', e_X12_odds_60 d s (r : Int) (n : Int) (a : Int) ((a + c : Nat) : Int) (sumS (oddF τ ρ s.toNat.testBit r n a c) (w + 1)) ((w + 1 : Nat) : Int) u1' u2' M1 = some (vL (sumS (oddF τ ρ s.toNat.testBit r n a c) (n + 1)), M') ∧ amSame fRo M M' := fun u1' u2' M1 h1 => by
      obtain ⟨M', k1, k2⟩ := r_oddsLoop hd hτ h83 hs hH hr hn hac m (w + 1) u1' u2' M1 (by omega) (hT.ro h1) (hS.ro h1)
      exact ⟨M', k1, h1.trans k2⟩
    rw [eq1] at ih
    obtain ⟨M1, a1, a2, a3⟩ := r_takes (D := d) (by omega) hS
    have s1 : amSame fRo M M1 := a3.mono f160_fRo
    have hwr : w * r ≤ 12 * 9 := Nat.mul_le_mul (by omega) hr
    have ewr : (w : Int) * (r : Int) = ((w * r : Nat) : Int) := by rw [Int.natCast_mul]
    have eF : oddF τ ρ s.toNat.testBit r n a c w = if thrB τ s.toNat.testBit (tP τ) 0 (odR τ ρ ((w * r : Nat) : Int) n) = true then ((wayS n a c w : Nat) : Int) else 0 := rfl
    generalize w * r = wr at hwr ewr eF
    obtain ⟨M2, b1, b2, b3⟩ := r_oddRain (d := d) (v := v) (ρ := ρ) (s := s) (r := (r : Int)) (a := (a : Int)) (b := ((a + c : Nat) : Int)) (l6 := sumS (oddF τ ρ s.toNat.testBit r n a c) w) (n := n) (w := w) (wr := wr) hτ hH.1 h83 hn (by rw [ewr]; exact w32_id (by omega) (by omega)) (by omega) u2 (tN τ) 0 M1 (by omega) (hT.ro s1) (by rw [rnR_0]; exact a2)
    have s2 : amSame fRo M M2 := s1.trans (b3.mono f160_fRo)
    obtain ⟨M3, t1, t2⟩ := r_allThrough (D := d) (ρ := odR τ ρ (wr : Int) n) (by omega) hτ hs (odR_H hτ (by omega) hH) (hT.ro s2) b2
    have s3 := s2.trans t2
    have b1 : e_X12_odds_73 d s (r : Int) (n : Int) (a : Int) ((a + c : Nat) : Int) (sumS (oddF τ ρ s.toNat.testBit r n a c) w) (w : Int) 1 u2 M1 = _ := b1
    rw [q_X12_odds_60, if_neg (show ¬ (n : Int) < (w : Int) by omega), a1, amCV_s, b1, t1, amCI_s]
    by_cases hb2 : thrB τ s.toNat.testBit (tP τ) 0 (odR τ ρ ((wr : Nat) : Int) n) = true
    · rw [if_pos hb2] at eF
      have ew := r_waysL (d := d) (M := M3) (s := s) (r := (r : Int)) (l6 := sumS (oddF τ ρ s.toNat.testBit r n a c) w) (u6 := 0) (n := n) (w := w) (a := a) (c := c) (q := (chL (gC n) w).toNat) (by omega) hn (by omega) hac n 0 0 0 (by omega) (by omega) (by omega)
      rw [Nat.pow_zero, Nat.pow_zero, Nat.mul_one, Nat.mul_one, show (((chL (gC n) w).toNat : Nat) : Int) = chL (gC n) w by omega] at ew
      have ew : e_X12_odds_163 d s (r : Int) (n : Int) (a : Int) ((a + c : Nat) : Int) (sumS (oddF τ ρ s.toNat.testBit r n a c) w) (w : Int) (chL (gC n) w) 0 M3 = e_X12_odds_60 d s (r : Int) (n : Int) (a : Int) ((a + c : Nat) : Int) (w64 (sumS (oddF τ ρ s.toNat.testBit r n a c) w + ((wayS n a c w : Nat) : Int))) (w32 ((w : Int) + 1)) (vL ((wayS n a c w : Nat) : Int)) (vI (n : Int)) M3 := ew
      rw [if_pos hb2, if_neg (show ¬ (1 : Int) = 0 by decide), r_choose (by omega) hn (by omega), amCL_s, ew, ← eF, w64_id (by omega) (by omega), w32_n (x := (w : Int) + 1) (n := w + 1) (by omega) (by omega)]
      exact ih _ _ M3 s3
    · rw [if_neg hb2] at eF
      rw [if_neg hb2, if_pos (show (0 : Int) = 0 from rfl), w32_n (x := (w : Int) + 1) (n := w + 1) (by omega) (by omega)]
      have := ih (vI ((tN τ + 1 : Nat) : Int)) u2 M3 s3
      rw [eF, Int.add_zero] at this
      exact this
theorem r_odds (hD : 8 ≤ D) (hτ : tOk τ) (hN5 : N ≤ 1000) (hN : sOk τ N ρ) (h66 : ∀ p, p < tP τ → w32 (ρ (66 + p)) = ρ (66 + p)) (hT : rTx v τ M) (hS : rNow ρ M) {s : Int} (h : onSet τ ρ s) {r n a c : Nat} (hr : r ≤ 9) (hn : n ≤ 12) (hb : 1 ≤ a + c ∧ a + c ≤ 9) : ∃ M', amD amGst D 223 [vR 12 12 0, vI s, vI r, vI n, vI a, vI ((a + c : Nat) : Int)] M = some (vL (sumS (oddF τ ρ s.toNat.testBit r n a c) (n + 1)), M') ∧ amSame fRo M M' := by
  obtain ⟨d, rfl⟩ := dS hD
  have hlt := onSet_lt hτ.2.2.2.2.2.2.1 h
  have h83 := hN.2.2.2
  obtain ⟨M', m1, m2⟩ := r_oddsLoop (d := d) (v := v) (by omega) hτ (by omega) hlt (thrH_of hN h66 h) hr hn (a := a) (c := c) (by omega) (n + 1) 0 vU vU M (by omega) hT hS
  refine ⟨M', ?_, m2⟩
  rw [n_X12_odds, q_X12_odds_0, r_isSetY (by omega) hτ hT hS h, amCI_s, if_neg (show ¬ (1 : Int) = 0 by decide), r_inY (by omega) (by omega), amCI_s, if_neg (show ¬ (1 : Int) = 0 by decide), r_inY (by omega) (by omega), amCI_s, if_neg (show ¬ (1 : Int) = 0 by decide), r_inY (by omega) (by omega), amCI_s, if_neg (show ¬ (1 : Int) = 0 by decide), r_inY (by omega) (by omega), amCI_s, if_neg (show ¬ (1 : Int) = 0 by decide)]
  exact m1
end OD3
