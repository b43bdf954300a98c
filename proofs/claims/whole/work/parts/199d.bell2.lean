/-! PURE: the reference's bell -/
section BL2
variable {D d v : Nat} {τ : Tx} {ρ : Rw} {M : AmM} {N : Nat}
/-- one count of hands -/
theorem r_belLoop (hd : 5 ≤ d) (hτ : tOk τ) (hS83 : 0 ≤ ρ 83) {w sh : Int} {h : Nat} (hh : 1 ≤ h ∧ h ≤ 8) (hw : 1 ≤ w ∧ w ≤ 999) (hsh : sh = shS w h) : ∀ (k p c : Nat) (ρ' : Rw) (M : AmM), p + k = tP τ → c ≤ h → ρ' 83 = ρ 83 → rOk τ ρ' → rTx v τ M → rNow ρ M → rRow ρ' M → ∃ (M' : AmM) (u3 u4 u5 : AmV), e_X12_bell_33 d w (h : Int) (c : Int) 1 (p : Int) M = (if (belS τ sh (grN τ ρ 8).testBit k p (h - c) ρ').1 = true ∧ (belS τ sh (grN τ ρ 8).testBit k p (h - c) ρ').2 = 0 then some (vI (h : Int), M') else e_X12_bell_15 d w ((h + 1 : Nat) : Int) u3 u4 u5 M') ∧ amSame fRo M M' := fun k => by
  have hP := hτ.2.2.2.2.2.2.1
  have hb := shS_b hw hh
  rw [← hsh] at hb
  have end1 : ∀ (c : Nat) (l5 : Int) (M : AmM), c ≤ h → e_X12_bell_102 d w (h : Int) (c : Int) 1 l5 M = if h - c = 0 then some (vI (h : Int), M) else e_X12_bell_15 d w ((h + 1 : Nat) : Int) (vI (c : Int)) (vI 1) (vI l5) M := fun c l5 M hc => by
    rw [q_X12_bell_102, if_neg (by decide), w32_n (x := (h : Int) + 1) (n := h + 1) (by omega) (by omega)]
    by_cases hch : c = h
    · rw [if_pos (by omega), if_pos (by omega)]
    · rw [if_neg (by omega), if_neg (by omega)]
  have end0 : ∀ (c : Nat) (l5 : Int) (M : AmM), e_X12_bell_102 d w (h : Int) (c : Int) 0 l5 M = e_X12_bell_15 d w ((h + 1 : Nat) : Int) (vI (c : Int)) (vI 0) (vI l5) M := fun c l5 M => by
    rw [q_X12_bell_102, if_pos rfl, w32_n (x := (h : Int) + 1) (n := h + 1) (by omega) (by omega)]
  induction k with
  | zero =>
    intro p c ρ' M hp hc h83 hr hT hN hR
    refine ⟨M, vI (c : Int), vI 1, vI (p : Int), ?_, amSame.refl⟩
    have hB : belS τ sh (grN τ ρ 8).testBit 0 p (h - c) ρ' = (true, h - c) := rfl
    rw [q_X12_bell_33, r_many (by omega) hT, amCI_s, if_neg (by omega), end1 c _ _ hc, hB]
    by_cases hch : h - c = 0
    · rw [if_pos hch, if_pos ⟨rfl, hch⟩]
    · rw [if_neg hch, if_neg (fun q => hch q.2)]
  | succ k ih =>
    intro p c ρ' M hp hc h83 hr hT hN hR
    have hB : belS τ sh (grN τ ρ 8).testBit (k + 1) p (h - c) ρ' = if h - c = 0 then (true, 0) else if (grN τ ρ 8).testBit p = true then (if (carS τ (tW τ p + sh) ρ').1 = 0 then belS τ sh (grN τ ρ 8).testBit k (p + 1) (h - c - 1) (carS τ (tW τ p + sh) ρ').2.2.1 else (false, h - c - 1)) else belS τ sh (grN τ ρ 8).testBit k (p + 1) (h - c) ρ' := rfl
    rw [q_X12_bell_33, r_many (by omega) hT, amCI_s, if_pos (show (p : Int) < ((tP τ : Nat) : Int) by omega), if_neg (show ¬ (1 : Int) = 0 by decide)]
    by_cases hch : c = h
    · rw [if_pos (by omega)] at hB
      refine ⟨M, vI (c : Int), vI 1, vI (p : Int), ?_, amSame.refl⟩
      rw [if_neg (by omega), end1 c _ _ hc, if_pos (by omega), hB, if_pos ⟨rfl, rfl⟩]
    · rw [if_neg (by omega)] at hB
      have hbit : (grN τ ρ 8).testBit p = decide (ρ (50 + p) = 0) := by
        rw [grN_bit]
        exact decide_eq_decide.mpr ⟨fun q => q.2.2, fun q => ⟨by omega, by omega, q⟩⟩
      rw [if_pos (show (c : Int) < (h : Int) by omega), r_onGround (by omega) hN (by omega), amCI_s, w32_n (x := (p : Int) + 1) (n := p + 1) (by omega) (by omega), w32_n (x := (c : Int) + 1) (n := c + 1) (by omega) (by omega)]
      by_cases hg : ρ (50 + p) = 0
      · have hw2 := hτ.2.2.2.2.2.2.2.1 p (by omega)
        have e8 : (((8 * v + p : Nat) : Int)).toNat = 8 * v + p := rfl
        have hv := hT.1
        have eg : (if ρ (50 + p) = 0 then (1 : Int) else 0) = 1 := if_pos hg
        rw [if_pos (by rw [hbit]; exact decide_eq_true hg)] at hB
        obtain ⟨M1, t1, t2, t3⟩ := r_carries (D := d) (v := v) (heavy := tW τ p + sh) (ρ := ρ') (by omega) hτ (by omega) (by omega) hr hT hR
        rw [eg, if_neg (show ¬ (1 : Int) = 0 by decide), r_8v hT (by omega), e8, if_pos (show (0 : Int) ≤ ((8 * v + p : Nat) : Int) ∧ ((8 * v + p : Nat) : Int) < 16 by omega), if_neg (show ¬ ((h : Nat) : Int) = 0 by omega), (hT.2.2.2.2.2.2.2.2.2.1 p (by omega)).1, w32_id (x := w + (h : Int)) (by omega) (by omega), w32_id (x := w + (h : Int) - 1) (by omega) (by omega)]
        have esh : Int.tdiv (w + (h : Int) - 1) (h : Int) = sh := hsh.symm
        rw [esh, w32_id (x := sh) (by omega) (by omega), w32_id (x := tW τ p + sh) (by omega) (by omega), t1, amCI_s]
        by_cases hcar : (carS τ (tW τ p + sh) ρ').1 = 0
        · have hok : rOk τ (carS τ (tW τ p + sh) ρ').2.2.1 := (upS_ok (τ := τ) (vow := 0) (day := ρ' 83) (heavy := tW τ p + sh) (by omega) hτ.1 26 0 (ρ', 0, -1) (by omega) hr).1
          obtain ⟨M2, u3, u4, u5, n1, n2⟩ := ih (p + 1) (c + 1) (carS τ (tW τ p + sh) ρ').2.2.1 M1 (by omega) (by omega) ((carS_83 hτ).trans h83) hok (hT.ro t2) (hN.ro t2) (t3 hcar)
          have e1 : h - (c + 1) = h - c - 1 := by omega
          rw [e1] at n1
          rw [if_pos hcar] at hB
          have eC : (if (carS τ (tW τ p + sh) ρ').1 = 0 then (1 : Int) else 0) = 1 := if_pos hcar
          rw [eC, hB]
          exact ⟨M2, u3, u4, u5, n1, t2.trans n2⟩
        · rw [if_neg hcar] at hB
          have eC : (if (carS τ (tW τ p + sh) ρ').1 = 0 then (1 : Int) else 0) = 0 := if_neg hcar
          refine ⟨M1, vI ((c + 1 : Nat) : Int), vI 0, vI ((p + 1 : Nat) : Int), ?_, t2⟩
          rw [eC, hB, if_neg (fun q => by cases q.1), q_X12_bell_33, r_many (by omega) (hT.ro t2), amCI_s]
          by_cases hlast : ((p + 1 : Nat) : Int) < ((tP τ : Nat) : Int)
          · rw [if_pos hlast, if_pos rfl, end0]
          · rw [if_neg hlast, end0]
      · have eg : (if ρ (50 + p) = 0 then (1 : Int) else 0) = 0 := if_neg hg
        rw [if_neg (by rw [hbit, decide_eq_false hg]; decide)] at hB
        obtain ⟨M2, u3, u4, u5, n1, n2⟩ := ih (p + 1) c ρ' M (by omega) hc h83 hr hT hN hR
        rw [eg, if_pos (show (0 : Int) = 0 from rfl), hB]
        exact ⟨M2, u3, u4, u5, n1, n2⟩
theorem r_bellLoop (hd : 5 ≤ d) (hτ : tOk τ) (hr : rOk τ ρ) (hS83 : 0 ≤ ρ 83) {w : Int} (hw : 1 ≤ w ∧ w ≤ 999) : ∀ (k h : Nat) (u3 u4 u5 : AmV) (M : AmM), h + k = 9 → 1 ≤ h → rTx v τ M → rNow ρ M → ∃ M', e_X12_bell_15 d w (h : Int) u3 u4 u5 M = some (vI (bellL τ ρ w k h), M') ∧ amSame fRo M M'
  | 0, h, u3, u4, u5, M, hk, h1, hT, hN => by
    refine ⟨M, ?_, amSame.refl⟩
    rw [q_X12_bell_15, if_neg (by omega)]
    rfl
  | k + 1, h, u3, u4, u5, M, hk, h1, hT, hN => by
    have hP := hτ.2.2.2.2.2.2.1
    obtain ⟨M1, a1, a2, a3⟩ := r_takes (D := d) (by omega) hN
    have s1 : amSame fRo M M1 := a3.mono f160_fRo
    obtain ⟨M2, w3, w4, w5, n1, n2⟩ := r_belLoop (d := d) (v := v) hd hτ hS83 (h := h) (by omega) hw rfl (tP τ) 0 0 ρ M1 (by omega) (by omega) rfl hr (hT.ro s1) (hN.ro s1) a2
    have s2 := s1.trans n2
    have e8 : belS τ (shS w h) (grN τ ρ 8).testBit (tP τ) 0 (h - 0) ρ = belS τ (shS w h) (grN τ ρ 8).testBit 8 0 h ρ := by
      have := belS_more (τ := τ) (sh := shS w h) (G := (grN τ ρ 8).testBit) (tP τ) 0 (8 - tP τ) h ρ (fun q hq => grN_P q (by omega))
      rw [show tP τ + (8 - tP τ) = 8 by omega] at this
      exact this.symm
    rw [e8] at n1
    have n1 : e_X12_bell_33 d w (h : Int) 0 1 0 M1 = _ := n1
    rw [q_X12_bell_15, if_pos (by omega), a1, amCV_s, n1]
    unfold bellL
    by_cases hb : belOk τ ρ w h = true
    · rw [if_pos hb, if_pos (belOk_iff.mp hb)]
      exact ⟨M2, rfl, s2⟩
    · obtain ⟨M3, k1, k2⟩ := r_bellLoop hd hτ hr hS83 hw k (h + 1) w3 w4 w5 M2 (by omega) (by omega) (hT.ro s2) (hN.ro s2)
      rw [if_neg hb, if_neg (fun q => hb (belOk_iff.mpr q))]
      exact ⟨M3, k1, s2.trans k2⟩
theorem r_bell (hD : 6 ≤ D) (hτ : tOk τ) (hN : sOk τ N ρ) (hT : rTx v τ M) (hS : rNow ρ M) {w : Int} : ∃ M', amD amGst D 231 [vR 12 12 0, vI w] M = some (vI (bellS τ ρ w), M') ∧ amSame fRo M M' := by
  obtain ⟨d, rfl⟩ := dS hD
  rw [n_X12_bell, q_X12_bell_0]
  unfold bellS
  by_cases hw : 1 ≤ w ∧ w ≤ 999
  · obtain ⟨M', m1, m2⟩ := r_bellLoop (d := d) (v := v) (ρ := ρ) (by omega) hτ hN.1 hN.2.2.2.1 hw 8 1 vU vU vU M (by omega) (by omega) hT hS
    refine ⟨M', ?_, m2⟩
    rw [r_inY (by omega) hw, amCI_s, if_neg (show ¬ (1 : Int) = 0 by decide), if_pos hw]
    exact m1
  · rw [r_inN (by omega) hw, amCI_s, if_pos (show (0 : Int) = 0 from rfl), if_neg hw]
    exact ⟨M, rfl, amSame.refl⟩
end BL2
