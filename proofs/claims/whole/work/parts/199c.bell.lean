/-! PURE: bell -/
def bcE (l0 : Int) : Int := (bAnd (w32 ((w32 ((bAnd (w32 ((w32 ((bAnd (w32 (l0 - (bAnd (bUsh l0 1) 1431655765))) 858993459) + (bAnd (bUsh (w32 (l0 - (bAnd (bUsh l0 1) 1431655765))) 2) 858993459))) + (bUsh (w32 ((bAnd (w32 (l0 - (bAnd (bUsh l0 1) 1431655765))) 858993459) + (bAnd (bUsh (w32 (l0 - (bAnd (bUsh l0 1) 1431655765))) 2) 858993459))) 4))) 252645135) + (bUsh (bAnd (w32 ((w32 ((bAnd (w32 (l0 - (bAnd (bUsh l0 1) 1431655765))) 858993459) + (bAnd (bUsh (w32 (l0 - (bAnd (bUsh l0 1) 1431655765))) 2) 858993459))) + (bUsh (w32 ((bAnd (w32 (l0 - (bAnd (bUsh l0 1) 1431655765))) 858993459) + (bAnd (bUsh (w32 (l0 - (bAnd (bUsh l0 1) 1431655765))) 2) 858993459))) 4))) 252645135) 8))) + (bUsh (w32 ((bAnd (w32 ((w32 ((bAnd (w32 (l0 - (bAnd (bUsh l0 1) 1431655765))) 858993459) + (bAnd (bUsh (w32 (l0 - (bAnd (bUsh l0 1) 1431655765))) 2) 858993459))) + (bUsh (w32 ((bAnd (w32 (l0 - (bAnd (bUsh l0 1) 1431655765))) 858993459) + (bAnd (bUsh (w32 (l0 - (bAnd (bUsh l0 1) 1431655765))) 2) 858993459))) 4))) 252645135) + (bUsh (bAnd (w32 ((w32 ((bAnd (w32 (l0 - (bAnd (bUsh l0 1) 1431655765))) 858993459) + (bAnd (bUsh (w32 (l0 - (bAnd (bUsh l0 1) 1431655765))) 2) 858993459))) + (bUsh (w32 ((bAnd (w32 (l0 - (bAnd (bUsh l0 1) 1431655765))) 858993459) + (bAnd (bUsh (w32 (l0 - (bAnd (bUsh l0 1) 1431655765))) 2) 858993459))) 4))) 252645135) 8))) 16))) 63)
def cntR (G : Nat → Bool) : Nat → Nat → Nat
  | 0, _ => 0
  | k + 1, p => (if G p = true then 1 else 0) + cntR G k (p + 1)
theorem bcE_n : ∀ x : Nat, x < 256 → bcE (x : Int) = ((cntR (Nat.testBit x) 8 0 : Nat) : Int) := by decide +kernel
/-- so many hands, and each his share: (do they carry it, hands left) -/
def belS (τ : Tx) (sh : Int) (G : Nat → Bool) : Nat → Nat → Nat → Rw → Bool × Nat
  | 0, _, left, _ => (true, left)
  | k + 1, p, left, ρ => if left = 0 then (true, 0) else if G p = true then (if (carS τ (tW τ p + sh) ρ).1 = 0 then belS τ sh G k (p + 1) (left - 1) (carS τ (tW τ p + sh) ρ).2.2.1 else (false, left - 1)) else belS τ sh G k (p + 1) left ρ
theorem belS_cnt {τ : Tx} {sh : Int} {G : Nat → Bool} : ∀ (k p left : Nat) (ρ : Rw), (belS τ sh G k p left ρ).1 = true → (belS τ sh G k p left ρ).2 = left - cntR G k p
  | 0, p, left, ρ, _ => by show left = left - 0; omega
  | k + 1, p, left, ρ, h => by
    unfold belS at h ⊢
    unfold cntR
    by_cases h0 : left = 0
    · rw [if_pos h0]; show 0 = _; omega
    · rw [if_neg h0] at h ⊢
      by_cases hG : G p = true
      · rw [if_pos hG] at h ⊢
        rw [if_pos hG]
        by_cases hc : (carS τ (tW τ p + sh) ρ).1 = 0
        · rw [if_pos hc] at h ⊢
          rw [belS_cnt k (p + 1) (left - 1) _ h]
          omega
        · rw [if_neg hc] at h
          cases h
      · rw [if_neg hG] at h ⊢
        rw [if_neg hG, belS_cnt k (p + 1) left _ h]
        omega
theorem belS_more {τ : Tx} {sh : Int} {G : Nat → Bool} : ∀ (k p m left : Nat) (ρ : Rw), (∀ q, p + k ≤ q → G q = false) → belS τ sh G (k + m) p left ρ = belS τ sh G k p left ρ
  | 0, p, 0, left, ρ, h => rfl
  | 0, p, m + 1, left, ρ, h => by
    have h1 := belS_more (τ := τ) (sh := sh) 0 (p + 1) m left ρ (fun q hq => h q (by omega))
    rw [Nat.zero_add] at h1 ⊢
    unfold belS
    by_cases h0 : left = 0
    · rw [if_pos h0, h0]
    · rw [if_neg h0, if_neg (by rw [h p (by omega)]; decide), h1]
      rfl
  | k + 1, p, m, left, ρ, h => by
    rw [show k + 1 + m = k + m + 1 by omega]
    unfold belS
    rw [belS_more k (p + 1) m (left - 1) _ (fun q hq => h q (by omega)), belS_more k (p + 1) m left ρ (fun q hq => h q (by omega))]
def shS (w : Int) (h : Nat) : Int := Int.tdiv (w + (h : Int) - 1) (h : Int)
theorem shS_b {w : Int} {h : Nat} (hw : 1 ≤ w ∧ w ≤ 999) (hh : 1 ≤ h ∧ h ≤ 8) : 0 ≤ shS w h ∧ shS w h ≤ 999 := by
  unfold shS
  rw [Int.tdiv_eq_ediv_of_nonneg (by omega)]
  rcases (show h = 1 ∨ h = 2 ∨ h = 3 ∨ h = 4 ∨ h = 5 ∨ h = 6 ∨ h = 7 ∨ h = 8 by omega) with rfl | rfl | rfl | rfl | rfl | rfl | rfl | rfl <;> omega
def belOk (τ : Tx) (ρ : Rw) (w : Int) (h : Nat) : Bool := (belS τ (shS w h) (grN τ ρ 8).testBit 8 0 h ρ).1 && (belS τ (shS w h) (grN τ ρ 8).testBit 8 0 h ρ).2 == 0
theorem belOk_iff {τ : Tx} {ρ : Rw} {w : Int} {h : Nat} : belOk τ ρ w h = true ↔ ((belS τ (shS w h) (grN τ ρ 8).testBit 8 0 h ρ).1 = true ∧ (belS τ (shS w h) (grN τ ρ 8).testBit 8 0 h ρ).2 = 0) := by
  unfold belOk
  rw [Bool.and_eq_true, beq_iff_eq]
def bellL (τ : Tx) (ρ : Rw) (w : Int) : Nat → Nat → Int
  | 0, _ => -2
  | k + 1, h => if belOk τ ρ w h = true then (h : Int) else bellL τ ρ w k (h + 1)
def bellS (τ : Tx) (ρ : Rw) (w : Int) : Int := if 1 ≤ w ∧ w ≤ 999 then bellL τ ρ w 8 1 else -1
theorem bellL_no {τ : Tx} {ρ : Rw} {w : Int} : ∀ (k h : Nat), cntR (grN τ ρ 8).testBit 8 0 < h → bellL τ ρ w k h = -2
  | 0, h, _ => rfl
  | k + 1, h, hc => by
    unfold bellL
    have hno : ¬ belOk τ ρ w h = true := fun q => by
      have q := belOk_iff.mp q
      have := belS_cnt _ _ _ _ q.1
      have := q.2
      omega
    rw [if_neg hno]
    exact bellL_no k (h + 1) (by omega)
section BL
variable {D d v : Nat} {τ : Tx} {ρ : Rw} {M : AmM} {N : Nat}
theorem carS_83 (hτ : tOk τ) {heavy : Int} {ρ : Rw} : (carS τ heavy ρ).2.2.1 83 = ρ 83 := upS_off (τ := τ) (vow := 0) (heavy := heavy) (day := ρ 83) (j := 83) hτ.1 (by omega) 26 0 (ρ, 0, -1)
theorem c_isCarLoop (hd : 6 ≤ d) (hτ : tOk τ) {g : Nat} (hg : g < 256) (hgP : ∀ q, tP τ ≤ q → g.testBit q = false) {sh day : Int} (hsh : 0 ≤ sh ∧ sh ≤ 999) (hday : 0 ≤ day) {h : Nat} (hh : h ≤ 8) : ∀ (k p c : Nat) (ρ : Rw) (M : AmM), p + k = 8 → c ≤ h → ρ 83 = day → rOk τ ρ → cTx 0 τ M → M 5 0 7 = day → cSt (tN τ) 53 ρ M → ∃ M', e_X0_isCarried_17 d 0 ((g : Nat) : Int) (h : Int) sh (c : Int) (p : Int) M = some (vI (if (belS τ sh g.testBit k p (h - c) ρ).1 = true then 1 else 0), M') ∧ amSame (fTh 53) M M'
  | 0, p, c, ρ, M, hp, hc, h83, hr, hT, h57, hS => by
    refine ⟨M, ?_, amSame.refl⟩
    rw [q_X0_isCarried_17, if_neg (by omega)]
    rfl
  | k + 1, p, c, ρ, M, hp, hc, h83, hr, hT, h57, hS => by
    have e : ((p : Nat) : Int).toNat = p := rfl
    have eg : (((g : Nat) : Int)).toNat = g := rfl
    have hP := hτ.2.2.2.2.2.2.1
    have hB : belS τ sh g.testBit (k + 1) p (h - c) ρ = if h - c = 0 then (true, 0) else if g.testBit p = true then (if (carS τ (tW τ p + sh) ρ).1 = 0 then belS τ sh g.testBit k (p + 1) (h - c - 1) (carS τ (tW τ p + sh) ρ).2.2.1 else (false, h - c - 1)) else belS τ sh g.testBit k (p + 1) (h - c) ρ := rfl
    rw [q_X0_isCarried_17, if_pos (by omega)]
    by_cases hch : c = h
    · rw [if_pos (by omega)] at hB
      refine ⟨M, ?_, amSame.refl⟩
      rw [if_neg (by omega), hB]
      rfl
    · rw [if_neg (by omega)] at hB
      rw [if_pos (by omega), c_has (by omega) (by omega) (by omega), amCI_s, eg, w32_n (x := (p : Int) + 1) (n := p + 1) (by omega) (by omega), w32_n (x := (c : Int) + 1) (n := c + 1) (by omega) (by omega)]
      by_cases hG : g.testBit p = true
      · have hpP : p < tP τ := by
          by_cases q : p < tP τ
          · exact q
          · rw [hgP p (by omega)] at hG; cases hG
        have hw := hτ.2.2.2.2.2.2.2.1 p hpP
        have eB : (if g.testBit p = true then (1 : Int) else 0) = 1 := if_pos hG
        rw [if_pos hG] at hB
        obtain ⟨M1, t1, t2, t3⟩ := c_carriesUp (D := d) (r := 53) (heavy := tW τ p + sh) (day := day) (ρ := ρ) (by omega) hτ (by omega) (by omega) h83 hr hT hS
        rw [eB, if_neg (show ¬ (1 : Int) = 0 by decide), c_at (n := 8) (by omega) (by decide) (by decide) (by omega) (by omega), amCI_s, e, (hT.2.2.2.2.2.2.2.1 p hpP).1, w32_id (x := tW τ p + sh) (by omega) (by omega), h57, t1, amCI_s]
        by_cases hcar : (carS τ (tW τ p + sh) ρ).1 = 0
        · obtain ⟨k1, k2⟩ := t3 hcar
          obtain ⟨M2, n1, n2⟩ := c_isCarLoop hd hτ hg hgP hsh hday hh k (p + 1) (c + 1) (carS τ (tW τ p + sh) ρ).2.2.1 M1 (by omega) (by omega) ((carS_83 hτ).trans h83) k2 (hT.th t2) (by rw [t2 5 0 7 (by rfl)]; exact h57) k1
          have e1 : h - (c + 1) = h - c - 1 := by omega
          rw [e1] at n1
          rw [if_pos hcar] at hB
          have eC : (if (carS τ (tW τ p + sh) ρ).1 = 0 then (1 : Int) else 0) = 1 := if_pos hcar
          rw [eC, if_neg (show ¬ (1 : Int) = 0 by decide), hB]
          exact ⟨M2, n1, t2.trans n2⟩
        · rw [if_neg hcar] at hB
          have eC : (if (carS τ (tW τ p + sh) ρ).1 = 0 then (1 : Int) else 0) = 0 := if_neg hcar
          rw [eC, if_pos (show (0 : Int) = 0 from rfl), hB]
          exact ⟨M1, rfl, t2⟩
      · have eB : (if g.testBit p = true then (1 : Int) else 0) = 0 := if_neg hG
        rw [if_neg hG] at hB
        obtain ⟨M2, n1, n2⟩ := c_isCarLoop hd hτ hg hgP hsh hday hh k (p + 1) c ρ M (by omega) (by omega) h83 hr hT h57 hS
        rw [eB, if_pos (show (0 : Int) = 0 from rfl), hB]
        exact ⟨M2, n1, n2⟩
theorem grN_P (q : Nat) (hq : tP τ ≤ q) : (grN τ ρ 8).testBit q = false := by
  rw [grN_bit]
  exact decide_eq_false (by omega)
theorem c_handsLoop (hd : 7 ≤ d) (hτ : tOk τ) {w : Int} (hw : 1 ≤ w ∧ w ≤ 999) (hr : rOk τ ρ) (h83 : 0 ≤ ρ 83) : ∀ (k h : Nat) (M : AmM), h + k = 9 → 1 ≤ h → cTx 0 τ M → cSc τ 0 ρ M → ∃ M', e_X0_fewestHands_8 d 0 w ((grN τ ρ 8 : Nat) : Int) (h : Int) M = some (vI (bellL τ ρ w k h), M') ∧ amSame fBe M M' := fun k => by
  obtain ⟨d, rfl⟩ := dS (show 6 + 1 ≤ d by omega)
  have hg := grN_lt τ ρ 8 (by omega)
  have hbc : ∀ M, amD amGst (d + 1) 244 [vI ((grN τ ρ 8 : Nat) : Int)] M = some (vI ((cntR (grN τ ρ 8).testBit 8 0 : Nat) : Int), M) := fun M => by
    rw [n_J6_bitCount_0f7a4, q_J6_bitCount_0f7a4_0, ← bcE_n _ hg]
    rfl
  have hc8 : ∀ (G : Nat → Bool) (k p : Nat), cntR G k p ≤ k := fun G k => by
    induction k with
    | zero => intro p; exact Nat.le_refl 0
    | succ k ih =>
      intro p
      have := ih (p + 1)
      unfold cntR
      split <;> omega
  induction k with
  | zero =>
    intro h M hh h1 hT hS
    have := hc8 (grN τ ρ 8).testBit 8 0
    refine ⟨M, ?_, amSame.refl⟩
    rw [q_X0_fewestHands_8, hbc, amCI_s, if_pos (by omega)]
    rfl
  | succ k ih =>
    intro h M hh h1 hT hS
    rw [q_X0_fewestHands_8, hbc, amCI_s]
    by_cases hlt : cntR (grN τ ρ 8).testBit 8 0 < h
    · rw [if_pos (by omega), bellL_no _ _ hlt]
      exact ⟨M, rfl, amSame.refl⟩
    · have hsh := shS_b hw (h := h) (by omega)
      obtain ⟨M1, m1, m2, m3⟩ := c_stCopy (D := d) (r := 53) (by omega) hτ.1 hS.1 (by decide)
      have s1 : amSame fBe M M1 := m3.mono fun c s j h => by unfold fBe; rw [h]; simp
      obtain ⟨M2, t1, t2⟩ := c_isCarLoop (d := d) (by omega) hτ hg (grN_P (τ := τ) (ρ := ρ)) hsh h83 (h := h) (by omega) 8 0 0 ρ M1 (by omega) (by omega) rfl hr (fBe_c hτ hT s1) (by rw [s1 5 0 7 (by rfl)]; exact hS.2.2.2) m2
      have s2 : amSame fBe M M2 := s1.trans (t2.mono fun c s j h => by unfold fBe; rw [h]; rfl)
      have t1 : e_X0_isCarried_17 d 0 ((grN τ ρ 8 : Nat) : Int) (h : Int) (shS w h) 0 0 M1 = some (vI (if (belS τ (shS w h) (grN τ ρ 8).testBit 8 0 h ρ).1 = true then 1 else 0), M2) := t1
      have esh : Int.tdiv (w + (h : Int) - 1) (h : Int) = shS w h := rfl
      rw [if_neg (by omega), if_neg (show ¬ ((h : Nat) : Int) = 0 by omega), w32_id (x := w + (h : Int)) (by omega) (by omega), w32_id (x := w + (h : Int) - 1) (by omega) (by omega), esh, w32_id (x := shS w h) (by omega) (by omega), n_X0_isCarried, q_X0_isCarried_0, m1, amCV_s, t1, amCI_s]
      unfold bellL
      by_cases hb : (belS τ (shS w h) (grN τ ρ 8).testBit 8 0 h ρ).1 = true
      · have h2 := belS_cnt _ _ _ _ hb
        have hok : belOk τ ρ w h = true := belOk_iff.mpr ⟨hb, by omega⟩
        have eB : (if (belS τ (shS w h) (grN τ ρ 8).testBit 8 0 h ρ).1 = true then (1 : Int) else 0) = 1 := if_pos hb
        rw [eB, if_neg (show ¬ (1 : Int) = 0 by decide), if_pos hok]
        exact ⟨M2, rfl, s2⟩
      · have hok : ¬ belOk τ ρ w h = true := fun q => hb (belOk_iff.mp q).1
        have eB : (if (belS τ (shS w h) (grN τ ρ 8).testBit 8 0 h ρ).1 = true then (1 : Int) else 0) = 0 := if_neg hb
        obtain ⟨M3, k1, k2⟩ := ih (h + 1) M2 (by omega) (by omega) (fBe_c hτ hT s2) (fBe_s hS s2)
        rw [eB, if_pos (show (0 : Int) = 0 from rfl), if_neg hok, w32_n (x := (h : Int) + 1) (n := h + 1) (by omega) (by omega)]
        exact ⟨M3, k1, s2.trans k2⟩
theorem c_bell (hD : 9 ≤ D) (hτ : tOk τ) (hN : sOk τ N ρ) (hT : cTx 0 τ M) (hS : cSc τ 0 ρ M) {w : Int} : ∃ M', amD amGst D 126 [vR 11 11 0, vI w] M = some (vI (bellS τ ρ w), M') ∧ amSame fBe M M' := by
  obtain ⟨d, rfl⟩ := dS hD
  rw [n_X11_bell, q_X11_bell_0]
  unfold bellS
  by_cases hw : 1 ≤ w ∧ w ≤ 999
  · obtain ⟨d, rfl⟩ := dS (show 7 + 1 ≤ d by omega)
    obtain ⟨M', m1, m2⟩ := c_handsLoop (d := d) (ρ := ρ) (by omega) hτ hw hN.1 hN.2.2.2.1 8 1 M (by omega) (by omega) hT hS
    have m1 : e_X0_fewestHands_8 d 0 w ((grN τ ρ 8 : Nat) : Int) 1 M = some (vI (bellL τ ρ w 8 1), M') := m1
    refine ⟨M', ?_, m2⟩
    rw [if_neg (by omega), if_neg (by omega), n_X0_fewestHands, q_X0_fewestHands_0, c_grounded (by omega) hτ hT hS, amCI_s, m1, amCI_s, if_pos hw]
  · rw [if_neg hw]
    refine ⟨M, ?_, amSame.refl⟩
    by_cases h1 : w < 1
    · rw [if_pos h1]
    · rw [if_neg h1, if_pos (by omega)]
end BL
