/-! PURE: bears -/
/-- do all of a set come through, one behind the other -/
def thrB (τ : Tx) (S : Nat → Bool) : Nat → Nat → Rw → Bool
  | 0, _, _ => true
  | k + 1, p, ρ => if S p = true then (if (goR τ ρ p).1 = 0 then thrB τ S k (p + 1) (goS τ ρ p) else false) else thrB τ S k (p + 1) ρ
theorem thrB_more {τ : Tx} {S : Nat → Bool} : ∀ (k p m : Nat) (ρ : Rw), (∀ q, p + k ≤ q → S q = false) → thrB τ S (k + m) p ρ = thrB τ S k p ρ
  | 0, p, 0, ρ, h => rfl
  | 0, p, m + 1, ρ, h => by
    rw [Nat.zero_add]
    unfold thrB
    rw [if_neg (by rw [h p (by omega)]; decide)]
    have := thrB_more (τ := τ) 0 (p + 1) m ρ (fun q hq => h q (by omega))
    rw [Nat.zero_add] at this
    rw [this]; rfl
  | k + 1, p, m, ρ, h => by
    rw [show k + 1 + m = k + m + 1 by omega]
    unfold thrB
    rw [thrB_more k (p + 1) m (goS τ ρ p) (fun q hq => h q (by omega)), thrB_more k (p + 1) m ρ (fun q hq => h q (by omega))]
def thrH (τ : Tx) (S : Nat → Bool) (i : Nat) (ρ : Rw) : Prop := rOk τ ρ ∧ 0 ≤ ρ 83 ∧ ∀ p, i ≤ p → p < tP τ → S p = true → ρ (74 + p) = 0 ∧ w32 (ρ (66 + p)) = ρ (66 + p)
theorem thrH.nx {τ : Tx} {S : Nat → Bool} {i : Nat} {ρ : Rw} (h : thrH τ S i ρ) : thrH τ S (i + 1) ρ := ⟨h.1, h.2.1, fun p a b c => h.2.2 p (by omega) b c⟩
theorem thrH.go {τ : Tx} {S : Nat → Bool} {i : Nat} {ρ : Rw} (hτ : tOk τ) (h : thrH τ S i ρ) (hi : i < tP τ) : thrH τ S (i + 1) (goS τ ρ i) := by
  have hP := hτ.2.2.2.2.2.2.1
  have h1 := comesS_ok (τ := τ) (vow := tV τ i) (day := ρ 83) (x := (ρ, 0, -1)) (tkWV hτ hi).1 hτ.1 h.1
  have hn := hτ.1
  refine ⟨fun j a b => ?_, ?_, fun p a b c => ?_⟩
  · unfold goS; rw [setS_lt (by omega)]; exact h1.1 j a b
  · unfold goS; rw [setS_hi (by omega) (by omega)]; exact h.2.1
  · unfold goS; rw [setS_74 (by omega) (by omega), setS_66 (by omega) (by omega), if_neg (show ¬ p = i by omega), if_neg (show ¬ p = i by omega)]
    exact h.2.2 p (by omega) b c
section BE
variable {D d v : Nat} {τ : Tx} {ρ : Rw} {M : AmM} {N : Nat}
theorem bitHi {τ : Tx} {ρ : Rw} {s : Int} (h : onSet τ ρ s) : ∀ q, tP τ ≤ q → s.toNat.testBit q = false := fun q hq => by
  have h5 : ((2 ^ tP τ : Nat) : Int) = (2 : Int) ^ tP τ := by rw [Int.natCast_pow]; rfl
  have h3 : (2 : Nat) ^ tP τ ≤ 2 ^ q := Nat.pow_le_pow_right (by omega) hq
  have h1 := h.1
  have h2 := h.2.1
  exact Nat.testBit_lt_two_pow (by omega)
theorem c_allLoopC (hd : 5 ≤ d) (hτ : tOk τ) {s day : Int} (hs : 0 ≤ s ∧ s < 256) (hhi : ∀ q, tP τ ≤ q → s.toNat.testBit q = false) : ∀ (k i : Nat) (ρ : Rw) (M : AmM), i + k = 8 → ρ 83 = day → thrH τ s.toNat.testBit i ρ → cTx 0 τ M → cSt (tN τ) 53 ρ M → ∃ M', e_X0_allComeOver_2 d s day (i : Int) M = some (vI (if thrB τ s.toNat.testBit k i ρ = true then 1 else 0), M') ∧ amSame (fTh 53) M M'
  | 0, i, ρ, M, h, hday, hH, hT, hS => by
    have h : i = 8 := h
    subst h
    refine ⟨M, ?_, amSame.refl⟩
    rw [q_X0_allComeOver_2, if_neg (by omega)]
    rfl
  | k + 1, i, ρ, M, h, hday, hH, hT, hS => by
    rw [q_X0_allComeOver_2, if_pos (show (i : Int) < 8 by omega), c_has (by omega) hs (by omega), amCI_s, w32_n (x := (i : Int) + 1) (n := i + 1) (by omega) (by omega)]
    unfold thrB
    by_cases hb : s.toNat.testBit i = true
    · have hi : i < tP τ := by
        by_cases hi : i < tP τ
        · exact hi
        · rw [hhi i (by omega)] at hb; cases hb
      obtain ⟨M1, t1, t2, t3, t4⟩ := c_through (D := d) (r := 53) (day := day) (by omega) hτ hT (by rw [← hday]; exact hH.2.1) hi hS hH.1
      have e : comesS τ (tV τ i) (tW τ i) day (ρ, 0, -1) = goR τ ρ i := by unfold goR; rw [hday]
      rw [e] at t1 t3
      have eB : (if s.toNat.testBit i = true then (1 : Int) else 0) = 1 := if_pos hb
      rw [eB, if_neg (show ¬ (1 : Int) = 0 by decide), t1, amCI_s]
      by_cases h0 : (goR τ ρ i).1 = 0
      · have hS1 : cSt (tN τ) 53 (goS τ ρ i) M1 := t3.1.row hτ.1 fun j _ hj => setS_lt hj
        have hP := hτ.2.2.2.2.2.2.1
        have h83 : goS τ ρ i 83 = day := by
          have e83 : goS τ ρ i 83 = ρ 83 := setS_hi (show i < 8 by omega) (by omega)
          exact e83.trans hday
        obtain ⟨M2, k1, k2⟩ := c_allLoopC hd hτ hs hhi k (i + 1) (goS τ ρ i) M1 (by omega) h83 (hH.go hτ hi) (hT.th t2) hS1
        refine ⟨M2, ?_, t2.trans k2⟩
        rw [if_pos (show (((goR τ ρ i).1 : Nat) : Int) = 0 by omega), k1]
        simp only [hb, h0, if_true]
      · refine ⟨M1, ?_, t2⟩
        rw [if_neg (show ¬ (((goR τ ρ i).1 : Nat) : Int) = 0 by omega)]
        simp only [hb, h0, if_true, if_false]
        rfl
    · obtain ⟨M2, k1, k2⟩ := c_allLoopC hd hτ hs hhi k (i + 1) ρ M (by omega) hday hH.nx hT hS
      have eB : (if s.toNat.testBit i = true then (1 : Int) else 0) = 0 := if_neg hb
      refine ⟨M2, ?_, k2⟩
      rw [eB, if_pos (show (0 : Int) = 0 from rfl), k1]
      simp only [hb]
      rfl
def fBe : Nat → Nat → Nat → Bool := fun c s j => fTh 53 c s j || fSt 53 c s j
theorem c_allComeOver (hD : 6 ≤ D) (hτ : tOk τ) {s day : Int} (hs : 0 ≤ s ∧ s < 256) (hhi : ∀ q, tP τ ≤ q → s.toNat.testBit q = false) (hday : ρ 83 = day) (hH : thrH τ s.toNat.testBit 0 ρ) (hT : cTx 0 τ M) (hS : cSt (tN τ) 53 ρ M) : ∃ M', amD amGst D 2 [vR 0 0 0, vI s, vI day] M = some (vI (if thrB τ s.toNat.testBit (tP τ) 0 ρ = true then 1 else 0), M') ∧ amSame (fTh 53) M M' := by
  obtain ⟨d, rfl⟩ := dS hD
  have hP := hτ.2.2.2.2.2.2.1
  obtain ⟨M', m1, m2⟩ := c_allLoopC (d := d) (by omega) hτ (day := day) hs hhi 8 0 ρ M (by omega) hday hH hT hS
  have e : thrB τ s.toNat.testBit 8 0 ρ = thrB τ s.toNat.testBit (tP τ) 0 ρ := by
    have := thrB_more (τ := τ) (S := s.toNat.testBit) (tP τ) 0 (8 - tP τ) ρ (fun q hq => hhi q (by omega))
    rw [show tP τ + (8 - tP τ) = 8 by omega] at this
    exact this
  rw [e] at m1
  exact ⟨M', by rw [n_X0_allComeOver, q_X0_allComeOver_0]; exact m1, m2⟩
theorem thrH_of (hN : sOk τ N ρ) (h66 : ∀ p, p < tP τ → w32 (ρ (66 + p)) = ρ (66 + p)) {s : Int} (h : onSet τ ρ s) : thrH τ s.toNat.testBit 0 ρ := ⟨hN.1, hN.2.2.2.1, fun p _ b c => ⟨(hN.2.1 p b).2.2 (h.2.2 p b c), h66 p b⟩⟩
theorem c_bearsN (hD : 5 ≤ D) (hτ : tOk τ) (hT : cTx 0 τ M) (hS : cSc τ 0 ρ M) {s : Int} (hs : -2147483648 ≤ s ∧ s < 2147483648) (h : ¬ onSet τ ρ s) : amD amGst D 122 [vR 11 11 0, vI s] M = some (vI (-1), M) := by
  obtain ⟨d, rfl⟩ := dS hD
  rw [n_X11_bears, q_X11_bears_0, c_areOnN (by omega) hτ hT hS hs h, amCI_s, if_pos (show (0 : Int) = 0 from rfl)]
theorem c_bears (hD : 8 ≤ D) (hτ : tOk τ) (hN : sOk τ N ρ) (h66 : ∀ p, p < tP τ → w32 (ρ (66 + p)) = ρ (66 + p)) (hT : cTx 0 τ M) (hS : cSc τ 0 ρ M) {s : Int} (h : onSet τ ρ s) : ∃ M', amD amGst D 122 [vR 11 11 0, vI s] M = some (vI (if thrB τ s.toNat.testBit (tP τ) 0 ρ = true then 1 else 0), M') ∧ amSame fBe M M' := by
  obtain ⟨d, rfl⟩ := dS hD
  obtain ⟨d, rfl⟩ := dS (show 6 + 1 ≤ d by omega)
  have hP := hτ.2.2.2.2.2.2.1
  have hlt := onSet_lt hP h
  obtain ⟨M1, m1, m2, m3⟩ := c_stCopy (D := d) (r := 53) (by omega) hτ.1 hS.1 (by decide)
  have hT1 : cTx 0 τ M1 := hT.mv fun c s j hc => m3 _ _ _ (by
    unfold sTx at hc
    simp only [Bool.and_eq_true, Bool.or_eq_true, beq_iff_eq] at hc
    obtain ⟨rfl, hc⟩ := hc
    rfl)
  have e5 : M1 5 0 7 = ρ 83 := by rw [m3 5 0 7 (by rfl)]; exact hS.2.2.2
  obtain ⟨M2, k1, k2⟩ := c_allComeOver (D := d) (day := ρ 83) (by omega) hτ hlt (bitHi h) rfl (thrH_of hN h66 h) hT1 m2
  refine ⟨M2, ?_, (m3.mono fun c s j h => by unfold fBe; rw [h]; simp).trans (k2.mono fun c s j h => by unfold fBe; rw [h]; rfl)⟩
  rw [n_X11_bears, q_X11_bears_0, c_areOnY (by omega) hτ hT hS (by omega) h, amCI_s, if_neg (show ¬ (1 : Int) = 0 by decide), n_X0_allCome, q_X0_allCome_0, m1, amCV_s, e5, k1, amCI_s]
  by_cases hb : thrB τ s.toNat.testBit (tP τ) 0 ρ = true
  · rw [if_pos hb]; rfl
  · rw [if_neg hb]; rfl
theorem r_allLoopT (hd : 6 ≤ d) (hτ : tOk τ) {s : Int} (hs : 0 ≤ s ∧ s < 256) : ∀ (k i : Nat) (ρ : Rw) (M : AmM), i + k = tP τ → thrH τ s.toNat.testBit i ρ → rTx v τ M → rRow ρ M → ∃ M', e_X12_allThrough_2 d s (i : Int) M = some (vI (if thrB τ s.toNat.testBit k i ρ = true then 1 else 0), M') ∧ amSame fRo M M'
  | 0, i, ρ, M, h, hH, hT, hR => by
    have h : i = tP τ := h
    subst h
    refine ⟨M, ?_, amSame.refl⟩
    rw [q_X12_allThrough_2, r_many (by omega) hT, amCI_s, if_neg (by omega)]
    rfl
  | k + 1, i, ρ, M, h, hH, hT, hR => by
    have hP := hτ.2.2.2.2.2.2.1
    have hbit := bBit s.toNat (by omega) i (by omega)
    rw [show ((s.toNat : Nat) : Int) = s by omega] at hbit
    rw [q_X12_allThrough_2, r_many (by omega) hT, amCI_s, if_pos (show (i : Int) < ((tP τ : Nat) : Int) by omega), hbit, w32_n (x := (i : Int) + 1) (n := i + 1) (by omega) (by omega)]
    unfold thrB
    by_cases hb : s.toNat.testBit i = true
    · have h2 := hH.2.2 i (by omega) (by omega) hb
      obtain ⟨M1, t1, t2, t3⟩ := r_sends (D := d) (by omega) hτ hT hR hH.1 hH.2.1 (p := i) (by omega) h2.1 h2.2
      have eB : (if s.toNat.testBit i = true then (1 : Int) else 0) = 1 := if_pos hb
      rw [eB, if_pos (show (1 : Int) = 1 from rfl), t1, amCI_s]
      by_cases h0 : (goR τ ρ i).1 = 0
      · obtain ⟨M2, k1, k2⟩ := r_allLoopT hd hτ hs k (i + 1) (goS τ ρ i) M1 (by omega) (hH.go hτ (by omega)) (hT.ro t2) t3
        refine ⟨M2, ?_, t2.trans k2⟩
        rw [if_pos (show (((goR τ ρ i).1 : Nat) : Int) = 0 by omega), k1]
        simp only [hb, h0, if_true]
      · refine ⟨M1, ?_, t2⟩
        rw [if_neg (show ¬ (((goR τ ρ i).1 : Nat) : Int) = 0 by omega)]
        simp only [hb, h0, if_true, if_false]
        rfl
    · obtain ⟨M2, k1, k2⟩ := r_allLoopT hd hτ hs k (i + 1) ρ M (by omega) hH.nx hT hR
      have eB : (if s.toNat.testBit i = true then (1 : Int) else 0) = 0 := if_neg hb
      refine ⟨M2, ?_, k2⟩
      rw [eB, if_neg (show ¬ (0 : Int) = 1 by decide), k1]
      simp only [hb]
      rfl
theorem r_allThrough (hD : 7 ≤ D) (hτ : tOk τ) {s : Int} (hs : 0 ≤ s ∧ s < 256) (hH : thrH τ s.toNat.testBit 0 ρ) (hT : rTx v τ M) (hR : rRow ρ M) : ∃ M', amD amGst D 220 [vR 12 12 0, vI s] M = some (vI (if thrB τ s.toNat.testBit (tP τ) 0 ρ = true then 1 else 0), M') ∧ amSame fRo M M' := by
  obtain ⟨d, rfl⟩ := dS hD
  obtain ⟨M', m1, m2⟩ := r_allLoopT (d := d) (by omega) hτ hs (tP τ) 0 ρ M (by omega) hH hT hR
  exact ⟨M', by rw [n_X12_allThrough, q_X12_allThrough_0]; exact m1, m2⟩
theorem r_bearsN (hD : 3 ≤ D) (hτ : tOk τ) (hT : rTx v τ M) (hS : rNow ρ M) {s : Int} (h : ¬ onSet τ ρ s) : amD amGst D 221 [vR 12 12 0, vI s] M = some (vI (-1), M) := by
  obtain ⟨d, rfl⟩ := dS hD
  rw [n_X12_bears, q_X12_bears_0, r_isSetN (by omega) hτ hT hS h, amCI_s, if_pos (show (0 : Int) = 0 from rfl)]
theorem r_bears (hD : 8 ≤ D) (hτ : tOk τ) (hN : sOk τ N ρ) (h66 : ∀ p, p < tP τ → w32 (ρ (66 + p)) = ρ (66 + p)) (hT : rTx v τ M) (hS : rNow ρ M) {s : Int} (h : onSet τ ρ s) : ∃ M', amD amGst D 221 [vR 12 12 0, vI s] M = some (vI (if thrB τ s.toNat.testBit (tP τ) 0 ρ = true then 1 else 0), M') ∧ amSame fRo M M' := by
  obtain ⟨d, rfl⟩ := dS hD
  have hlt := onSet_lt hτ.2.2.2.2.2.2.1 h
  obtain ⟨M1, a1, a2, a3⟩ := r_takes (D := d) (by omega) hS
  have s1 : amSame fRo M M1 := a3.mono f160_fRo
  obtain ⟨M2, k1, k2⟩ := r_allThrough (D := d) (by omega) hτ hlt (thrH_of hN h66 h) (hT.ro s1) a2
  refine ⟨M2, ?_, s1.trans k2⟩
  rw [n_X12_bears, q_X12_bears_0, r_isSetY (by omega) hτ hT hS h, amCI_s, if_neg (show ¬ (1 : Int) = 0 by decide), a1, amCV_s, k1, amCI_s]
  by_cases hb : thrB τ s.toNat.testBit (tP τ) 0 ρ = true
  · rw [if_pos hb]; rfl
  · rw [if_neg hb]; rfl
end BE
