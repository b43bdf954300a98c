/-! PURE: the reference's need -/
section ND3
variable {D d v : Nat} {τ : Tx} {ρ : Rw} {M : AmM} {N : Nat}
theorem r_troLoop (hd : 2 ≤ d) (hτ : tOk τ) {g : Int} (hg : 0 ≤ g ∧ g < 256) {s : Nat} (hs : 1 ≤ s ∧ s ≤ tN τ) (hT : rTx v τ M) : ∀ (k p : Nat), p + k = tP τ → e_X12_isTrodden_2 d g (s : Int) (p : Int) M = some (vI (if troS τ s g.toNat.testBit k p = true then 1 else 0), M)
  | 0, p, h => by
    rw [q_X12_isTrodden_2, r_many (by omega) hT, amCI_s, if_neg (by omega)]
    rfl
  | k + 1, p, h => by
    have hP := hτ.2.2.2.2.2.2.1
    have hbit := bBit g.toNat (by omega) p (by omega)
    rw [show ((g.toNat : Nat) : Int) = g by omega] at hbit
    have ih := r_troLoop hd hτ hg hs hT k (p + 1) (by omega)
    have eT : troS τ s g.toNat.testBit (k + 1) p = if g.toNat.testBit p = true then (if trS τ (tV τ p) s 1 = true then true else if trS τ (tV τ p) s 0 = true then true else troS τ s g.toNat.testBit k (p + 1)) else troS τ s g.toNat.testBit k (p + 1) := rfl
    rw [q_X12_isTrodden_2, r_many (by omega) hT, amCI_s, if_pos (show (p : Int) < ((tP τ : Nat) : Int) by omega), hbit, w32_n (x := (p : Int) + 1) (n := p + 1) (by omega) (by omega)]
    by_cases hb : g.toNat.testBit p = true
    · rw [if_pos hb] at eT
      have eB : (if g.toNat.testBit p = true then (1 : Int) else 0) = 1 := if_pos hb
      rw [eB, if_pos (show (1 : Int) = 1 from rfl), r_treads (by omega) hτ hT (by omega) hs (Or.inr rfl), amCI_s]
      by_cases h1 : trS τ (tV τ p) s 1 = true
      · rw [if_pos h1] at eT
        have e1 : (if trS τ (tV τ p) s 1 = true then (1 : Int) else 0) = 1 := if_pos h1
        rw [e1, if_neg (show ¬ (1 : Int) = 0 by decide), eT, if_pos rfl]
      · rw [if_neg h1] at eT
        have e1 : (if trS τ (tV τ p) s 1 = true then (1 : Int) else 0) = 0 := if_neg h1
        rw [e1, if_pos (show (0 : Int) = 0 from rfl), r_treads (by omega) hτ hT (by omega) hs (Or.inl rfl), amCI_s]
        by_cases h2 : trS τ (tV τ p) s 0 = true
        · rw [if_pos h2] at eT
          have e2 : (if trS τ (tV τ p) s 0 = true then (1 : Int) else 0) = 1 := if_pos h2
          rw [e2, if_neg (show ¬ (1 : Int) = 0 by decide), eT, if_pos rfl]
        · rw [if_neg h2] at eT
          have e2 : (if trS τ (tV τ p) s 0 = true then (1 : Int) else 0) = 0 := if_neg h2
          rw [e2, if_pos (show (0 : Int) = 0 from rfl), ih, eT]
    · rw [if_neg hb] at eT
      have eB : (if g.toNat.testBit p = true then (1 : Int) else 0) = 0 := if_neg hb
      rw [eB, if_neg (show ¬ (0 : Int) = 1 by decide), ih, eT]
theorem r_needLoop (hd : 5 ≤ d) (hτ : tOk τ) (hN : sOk τ N ρ) {g : Int} (hg : 0 ≤ g ∧ g < 256) {s : Nat} (hs : 1 ≤ s ∧ s ≤ tN τ) : ∀ (k m : Nat) (M : AmM), m + k = 101 → rTx v τ M → rRow ρ M → ∃ M', e_X12_needOf_19 d g (s : Int) (gonS (tN τ) ρ) (m : Int) M = some (vI (ndL τ ρ g.toNat.testBit s k m), M') ∧ amSame fRw M M'
  | 0, m, M, h, hT, hR => by
    have hn := hτ.1
    have hv := hT.1
    have b1 := hN.1 s hs.1 hs.2
    have b2 := hτ.2.1 s hs.1 hs.2
    have e : ((s : Nat) : Int).toNat = s := rfl
    have e2 : (((25 * v + s : Nat) : Int)).toNat = 25 * v + s := rfl
    refine ⟨M, ?_, amSame.refl⟩
    rw [q_X12_needOf_19, e, if_pos (show (0 : Int) ≤ (s : Int) ∧ (s : Int) < 100 by omega), r_25v hT (by omega), e2, if_pos (show (0 : Int) ≤ ((25 * v + s : Nat) : Int) ∧ ((25 * v + s : Nat) : Int) < 50 by omega), hT.2.2.2.1 s hs.1 hs.2, hR s (by omega), w32_id (x := ρ s + (m : Int)) (by omega) (by omega), if_pos (show tTh τ s < ρ s + (m : Int) by omega)]
    rfl
  | k + 1, m, M, h, hT, hR => by
    have hn := hτ.1
    have hv := hT.1
    have b1 := hN.1 s hs.1 hs.2
    have b2 := hτ.2.1 s hs.1 hs.2
    have e : ((s : Nat) : Int).toNat = s := rfl
    have e2 : (((25 * v + s : Nat) : Int)).toNat = 25 * v + s := rfl
    rw [q_X12_needOf_19, e, if_pos (show (0 : Int) ≤ (s : Int) ∧ (s : Int) < 100 by omega), r_25v hT (by omega), e2, if_pos (show (0 : Int) ≤ ((25 * v + s : Nat) : Int) ∧ ((25 * v + s : Nat) : Int) < 50 by omega), hT.2.2.2.1 s hs.1 hs.2, hR s (by omega), w32_id (x := ρ s + (m : Int)) (by omega) (by omega)]
    unfold ndL
    by_cases h1 : tTh τ s < ρ s + (m : Int)
    · rw [if_pos h1, if_pos h1]
      exact ⟨M, rfl, amSame.refl⟩
    · obtain ⟨M1, m1, m2⟩ := r_bearsAll (D := d) (v := v) (gone := gonS (tN τ) ρ) (by omega) hτ hN.2.2.2.1 hg hs (t := ρ s + (m : Int)) (by omega) hT (hR 83 (by omega))
      rw [if_neg h1, if_neg h1, if_pos (show (0 : Int) ≤ (s : Int) ∧ (s : Int) < 100 by omega), m1, amCI_s]
      by_cases h2 : bsL τ (ρ 83) (gonS (tN τ) ρ) s g.toNat.testBit (tP τ) 0 (ρ s + (m : Int)) < 0
      · obtain ⟨M2, k1, k2⟩ := r_needLoop hd hτ hN hg hs k (m + 1) M1 (by omega) (hT.ro (m2.mono fRw_fRo)) (fun j hj => by rw [m2 160 0 j (by rfl)]; exact hR j hj)
        have eB : (if bsL τ (ρ 83) (gonS (tN τ) ρ) s g.toNat.testBit (tP τ) 0 (ρ s + (m : Int)) < 0 then (0 : Int) else 1) = 0 := if_pos h2
        rw [eB, if_pos (show (0 : Int) = 0 from rfl), if_pos h2, w32_n (x := (m : Int) + 1) (n := m + 1) (by omega) (by omega)]
        exact ⟨M2, k1, m2.trans k2⟩
      · have eB : (if bsL τ (ρ 83) (gonS (tN τ) ρ) s g.toNat.testBit (tP τ) 0 (ρ s + (m : Int)) < 0 then (0 : Int) else 1) = 1 := if_neg h2
        rw [eB, if_neg (show ¬ (1 : Int) = 0 by decide), if_neg h2]
        exact ⟨M1, rfl, m2⟩
theorem r_needOf (hD : 6 ≤ D) (hτ : tOk τ) (hN : sOk τ N ρ) {g : Int} (hg : 0 ≤ g ∧ g < 256) {s : Nat} (hs : 1 ≤ s ∧ s ≤ tN τ) (hT : rTx v τ M) (hR : rRow ρ M) : ∃ M', amD amGst D 218 [vR 12 12 0, vI g, vI s] M = some (vI (ndL τ ρ g.toNat.testBit s 101 0), M') ∧ amSame fRw M M' := by
  obtain ⟨d, rfl⟩ := dS hD
  have b1 := hN.1 s hs.1 hs.2
  have htro : amD amGst d 216 [vR 12 12 0, vI g, vI s] M = some (vI (if troS τ s g.toNat.testBit (tP τ) 0 = true then 1 else 0), M) := by
    obtain ⟨d, rfl⟩ := dS (show 4 + 1 ≤ d by omega)
    rw [n_X12_isTrodden, q_X12_isTrodden_0]
    exact r_troLoop (d := d) (v := v) (by omega) hτ hg hs hT (tP τ) 0 (by omega)
  rw [n_X12_needOf, q_X12_needOf_0, htro, amCI_s]
  by_cases ht : troS τ s g.toNat.testBit (tP τ) 0 = true
  · have eT : (if troS τ s g.toNat.testBit (tP τ) 0 = true then (1 : Int) else 0) = 1 := if_pos ht
    rw [eT, if_neg (show ¬ (1 : Int) = 0 by decide), r_goneNow (by omega) hτ hT hR, amCI_s]
    exact r_needLoop (d := d) (v := v) (by omega) hτ hN hg hs 101 0 M (by omega) hT hR
  · have eT : (if troS τ s g.toNat.testBit (tP τ) 0 = true then (1 : Int) else 0) = 0 := if_neg ht
    have hf : troS τ s g.toNat.testBit (tP τ) 0 = false := Bool.eq_false_iff.mpr ht
    have e0 : ndL τ ρ g.toNat.testBit s 101 0 = 0 := by
      have hb := bsL_tro (τ := τ) (day := ρ 83) (gone := gonS (tN τ) ρ) (s := s) (S := g.toNat.testBit) (tP τ) 0 (ρ s + ((0 : Nat) : Int)) (by omega) hf
      unfold ndL
      rw [if_neg (by omega), hb, if_neg (by omega)]
      rfl
    rw [eT, if_pos (show (0 : Int) = 0 from rfl), e0]
    exact ⟨M, rfl, amSame.refl⟩
theorem r_allNeedLoop (hd : 6 ≤ d) (hτ : tOk τ) (hN : sOk τ N ρ) {g s : Int} (hg : 0 ≤ g ∧ g < 256) : ∀ (k j : Nat) (acc : Int) (u : AmV) (M : AmM), j + k = tN τ + 1 → 1 ≤ j → (0 ≤ acc ∧ acc ≤ 101 * (j : Int)) → rTx v τ M → rRow ρ M → ∃ M', e_X12_need_44 d g s acc (j : Int) u M = some (vI (nAl τ ρ g.toNat.testBit k j acc), M') ∧ amSame fRw M M'
  | 0, j, acc, u, M, h, h1, ha, hT, hR => by
    have hv := hT.1
    have e : ((v : Nat) : Int).toNat = v := rfl
    refine ⟨M, ?_, amSame.refl⟩
    rw [q_X12_need_44, hT.2.1, e, hT.2.2.1, if_pos (show (0 : Int) ≤ (v : Int) ∧ (v : Int) < 2 by omega), if_pos (by omega)]
    rfl
  | k + 1, j, acc, u, M, h, h1, ha, hT, hR => by
    have hn := hτ.1
    have hv := hT.1
    have e : ((v : Nat) : Int).toNat = v := rfl
    obtain ⟨M1, m1, m2⟩ := r_needOf (D := d) (v := v) (by omega) hτ hN hg (s := j) (by omega) hT hR
    have hb := ndL_b (τ := τ) (ρ := ρ) (S := g.toNat.testBit) (s := j) 101 0
    have e1 : nAl τ ρ g.toNat.testBit (k + 1) j acc = if ndL τ ρ g.toNat.testBit j 101 0 < 0 then -2 else nAl τ ρ g.toNat.testBit k (j + 1) (acc + ndL τ ρ g.toNat.testBit j 101 0) := rfl
    rw [q_X12_need_44, hT.2.1, e, hT.2.2.1, if_pos (show (0 : Int) ≤ (v : Int) ∧ (v : Int) < 2 by omega), if_neg (show ¬ ((tN τ : Nat) : Int) < (j : Int) by omega), m1, amCI_s, e1]
    by_cases h2 : ndL τ ρ g.toNat.testBit j 101 0 < 0
    · rw [if_pos h2, if_pos h2]
      exact ⟨M1, rfl, m2⟩
    · obtain ⟨M2, k1, k2⟩ := r_allNeedLoop hd hτ hN (s := s) hg k (j + 1) (acc + ndL τ ρ g.toNat.testBit j 101 0) (vI (ndL τ ρ g.toNat.testBit j 101 0)) M1 (by omega) (by omega) (by omega) (hT.ro (m2.mono fRw_fRo)) (fun j hj => by rw [m2 160 0 j (by rfl)]; exact hR j hj)
      rw [if_neg h2, if_neg h2, w32_id (x := acc + ndL τ ρ g.toNat.testBit j 101 0) (by omega) (by omega), w32_n (x := (j : Int) + 1) (n := j + 1) (by omega) (by omega)]
      exact ⟨M2, k1, m2.trans k2⟩
theorem r_needN (hD : 3 ≤ D) (hτ : tOk τ) (hT : rTx v τ M) (hS : rNow ρ M) {g s : Int} (h : ¬ onSet τ ρ g) : amD amGst D 219 [vR 12 12 0, vI g, vI s] M = some (vI (-1), M) := by
  obtain ⟨d, rfl⟩ := dS hD
  rw [n_X12_need, q_X12_need_0, r_isSetN (by omega) hτ hT hS h, amCI_s, if_pos rfl]
theorem r_need (hD : 8 ≤ D) (hτ : tOk τ) (hN : sOk τ N ρ) (hT : rTx v τ M) (hS : rNow ρ M) {g s : Int} (h : onSet τ ρ g) : ∃ M', amD amGst D 219 [vR 12 12 0, vI g, vI s] M = some (vI (needS τ ρ g.toNat.testBit s), M') ∧ amSame fRo M M' := by
  obtain ⟨d, rfl⟩ := dS hD
  have hlt := onSet_lt hτ.2.2.2.2.2.2.1 h
  obtain ⟨M1, a1, a2, a3⟩ := r_takes (D := d) (by omega) hS
  have s1 : amSame fRo M M1 := a3.mono f160_fRo
  rw [n_X12_need, q_X12_need_0, r_isSetY (by omega) hτ hT hS h, amCI_s, if_neg (show ¬ (1 : Int) = 0 by decide)]
  unfold needS
  by_cases h1 : s = -1
  · obtain ⟨M', m1, m2⟩ := r_allNeedLoop (d := d) (v := v) (s := s) (by omega) hτ hN hlt (tN τ) 1 0 vU M1 (by omega) (by omega) (by omega) (hT.ro s1) a2
    rw [if_pos h1, if_pos h1, q_X12_need_23, a1, amCV_s, if_pos h1]
    exact ⟨M', m1, s1.trans (m2.mono fRw_fRo)⟩
  · rw [if_neg h1, if_neg h1]
    by_cases h2 : 1 ≤ s ∧ s ≤ tN τ
    · obtain ⟨M', m1, m2⟩ := r_needOf (D := d) (v := v) (by omega) hτ hN hlt (s := s.toNat) (by omega) (hT.ro s1) a2
      rw [show ((s.toNat : Nat) : Int) = s by omega] at m1
      rw [r_isStepY (by omega) hτ hT h2, amCI_s, if_neg (show ¬ (1 : Int) = 0 by decide), q_X12_need_23, a1, amCV_s, if_neg h1, m1, amCI_s, if_pos h2]
      exact ⟨M', rfl, s1.trans (m2.mono fRw_fRo)⟩
    · rw [r_isStepN (by omega) hτ hT h2, amCI_s, if_pos rfl, if_neg h2]
      exact ⟨M, rfl, amSame.refl⟩
end ND3
