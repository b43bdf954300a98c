/-! PURE: does a step bear a set -/
def onS1 (τ : Tx) (day gone : Int) (s p : Nat) (left : Int) : Int := if trS τ (tV τ p) s 1 = true then lbS τ (tV τ p) (tW τ p) day s gone 1 left else left
def onS2 (τ : Tx) (day gone : Int) (s p : Nat) (left : Int) : Int := if left < 0 then left else if trS τ (tV τ p) s 0 = true then lbS τ (tV τ p) (tW τ p) day s gone 0 left else left
def bsL (τ : Tx) (day gone : Int) (s : Nat) (S : Nat → Bool) : Nat → Nat → Int → Int
  | 0, _, left => left
  | k + 1, p, left => if left < 0 then left else if S p = true then bsL τ day gone s S k (p + 1) (onS2 τ day gone s p (onS1 τ day gone s p left)) else bsL τ day gone s S k (p + 1) left
theorem onS1_b {τ : Tx} (hτ : tOk τ) {day gone : Int} {s p : Nat} (hp : p < tP τ) {left : Int} (h : 0 ≤ left) : -1 ≤ onS1 τ day gone s p left ∧ onS1 τ day gone s p left ≤ left := by
  unfold onS1
  split
  · exact lbS_b (tkWV hτ hp).1 h
  · omega
theorem onS2_b {τ : Tx} (hτ : tOk τ) {day gone : Int} {s p : Nat} (hp : p < tP τ) {left : Int} (h : -1 ≤ left) : -1 ≤ onS2 τ day gone s p left ∧ onS2 τ day gone s p left ≤ left := by
  unfold onS2
  split
  · omega
  · split
    · exact lbS_b (tkWV hτ hp).1 (by omega)
    · omega
theorem fWr_fAs : ∀ c s j, fWr c s j = true → fAs c s j = true := fun c s j h => by
  unfold fWr at h
  unfold fAs
  simp only [Bool.and_eq_true, Bool.or_eq_true, beq_iff_eq] at h ⊢
  rcases h with ⟨h, -⟩ | h
  · exact Or.inl (Or.inr h)
  · exact Or.inr h
theorem cTx.fas {τ : Tx} {M M' : AmM} (h : cTx 0 τ M) (hs : amSame fAs M M') : cTx 0 τ M' := h.mv fun c s j hc => hs c s j (by
  unfold sTx at hc
  simp only [Bool.and_eq_true, Bool.or_eq_true, beq_iff_eq] at hc
  obtain ⟨rfl, hc⟩ := hc
  rcases hc with (((((rfl | rfl) | rfl) | rfl) | rfl) | rfl) | rfl <;> rfl)
theorem cSc.fas {τ : Tx} {ρ : Rw} {s : Nat} {M M' : AmM} (h : cSc τ s ρ M) (hs : amSame fAs M M') : cSc τ s ρ M' := h.mv2 fun c j hc => hs _ _ _ (by
  have h10 : c ≠ 10 := by rintro rfl; cases hc
  have h125 : c ≠ 125 := by rintro rfl; cases hc
  have h102 : c ≠ 102 := by rintro rfl; cases hc
  unfold fAs
  simp [h10, h125, h102])
section ND
variable {D d v : Nat} {τ : Tx} {ρ : Rw} {M : AmM} {N : Nat}
theorem c_bears75 (hd : 3 ≤ d) (hτ : tOk τ) {g : Int} (hT : cTx 0 τ M) (hS : cSc τ 0 ρ M) {s p : Nat} (hs : 1 ≤ s ∧ s ≤ tN τ) (hp : p < tP τ) (hW : cWk τ (tV τ p) (tW τ p) (ρ 83) M) {t left : Int} (hl : -1 ≤ left ∧ left ≤ 1000) : ∃ M', e_X2_bearsSet_75 d 0 g (s : Int) t left (p : Int) M = e_X2_bearsSet_7 d 0 g (s : Int) t (onS2 τ (ρ 83) (gonS (tN τ) ρ) s p left) ((p + 1 : Nat) : Int) M' ∧ amSame fAs M M' := by
  have hP := hτ.2.2.2.2.2.2.1
  rw [q_X2_bearsSet_75, w32_n (x := (p : Int) + 1) (n := p + 1) (by omega) (by omega)]
  unfold onS2
  by_cases h0 : left < 0
  · rw [if_pos h0, if_pos h0]
    exact ⟨M, rfl, amSame.refl⟩
  · rw [if_neg h0, if_neg h0, c_treads (by omega) hτ hT hW.2.1 hs (Or.inl rfl), amCI_s]
    by_cases ht : trS τ (tV τ p) s 0 = true
    · obtain ⟨M1, k1, k2⟩ := c_leftBehind (D := d) (s := (s : Int)) (gone := gonS (tN τ) ρ) (up := 0) (t := left) (by omega) hτ (tkWV hτ hp).1 (tkWV hτ hp).2 (Or.inl rfl) (by omega) hT hW
      have eT : (if trS τ (tV τ p) s 0 = true then (1 : Int) else 0) = 1 := if_pos ht
      rw [eT, if_neg (show ¬ (1 : Int) = 0 by decide), hS.1.2.1, k1, amCI_s, if_pos ht]
      exact ⟨M1, rfl, k2.mono fWr_fAs⟩
    · have eT : (if trS τ (tV τ p) s 0 = true then (1 : Int) else 0) = 0 := if_neg ht
      rw [eT, if_pos (show (0 : Int) = 0 from rfl), if_neg ht]
      exact ⟨M, rfl, amSame.refl⟩
theorem c_bearsLoop (hd : 4 ≤ d) (hτ : tOk τ) (h83 : 0 ≤ ρ 83) {g : Int} (hg : 0 ≤ g ∧ g < 256) {s : Nat} (hs : 1 ≤ s ∧ s ≤ tN τ) {t : Int} : ∀ (k p : Nat) (left : Int) (M : AmM), p + k = tP τ → (-1 ≤ left ∧ left ≤ 1000) → cTx 0 τ M → cSc τ 0 ρ M → ∃ M', e_X2_bearsSet_7 d 0 g (s : Int) t left (p : Int) M = some (vI (if bsL τ (ρ 83) (gonS (tN τ) ρ) s g.toNat.testBit k p left < 0 then 0 else 1), M') ∧ amSame fAs M M'
  | 0, p, left, M, h, hl, hT, hS => by
    refine ⟨M, ?_, amSame.refl⟩
    have eL : bsL τ (ρ 83) (gonS (tN τ) ρ) s g.toNat.testBit 0 p left = left := rfl
    rw [q_X2_bearsSet_7, hT.2.2.2.2.1, if_neg (by omega), eL]
    by_cases h0 : left < 0
    · rw [if_pos h0, if_pos h0]
    · rw [if_neg h0, if_neg h0]
  | k + 1, p, left, M, h, hl, hT, hS => by
    have hP := hτ.2.2.2.2.2.2.1
    have eL : bsL τ (ρ 83) (gonS (tN τ) ρ) s g.toNat.testBit (k + 1) p left = if left < 0 then left else if g.toNat.testBit p = true then bsL τ (ρ 83) (gonS (tN τ) ρ) s g.toNat.testBit k (p + 1) (onS2 τ (ρ 83) (gonS (tN τ) ρ) s p (onS1 τ (ρ 83) (gonS (tN τ) ρ) s p left)) else bsL τ (ρ 83) (gonS (tN τ) ρ) s g.toNat.testBit k (p + 1) left := rfl
    rw [q_X2_bearsSet_7, hT.2.2.2.2.1, if_pos (show (p : Int) < ((tP τ : Nat) : Int) by omega)]
    by_cases h0 : left < 0
    · rw [if_pos h0] at eL
      refine ⟨M, ?_, amSame.refl⟩
      rw [if_pos h0, if_pos h0, eL, if_pos h0]
    · rw [if_neg h0] at eL
      rw [if_neg h0, c_has (by omega) hg (by omega), amCI_s]
      by_cases hb : g.toNat.testBit p = true
      · rw [if_pos hb] at eL
        have eB : (if g.toNat.testBit p = true then (1 : Int) else 0) = 1 := if_pos hb
        obtain ⟨M1, m1, m2, m3, m4⟩ := c_begin (D := d) (day := ρ 83) (p := p) (by omega) hτ hT h83 (by omega)
        have s1 : amSame fAs M M1 := m2.mono fun c s j h => by unfold fAs; rw [h]; rfl
        have hT1 := hT.fas s1
        have hS1 := hS.fas s1
        have hb1 := onS1_b (day := ρ 83) (gone := gonS (tN τ) ρ) (s := s) (p := p) hτ (by omega) (show 0 ≤ left by omega)
        have hb2 := onS2_b (day := ρ 83) (gone := gonS (tN τ) ρ) (s := s) (p := p) hτ (by omega) hb1.1
        have fin : ∀ M2, amSame fAs M M2 → cWk τ (tV τ p) (tW τ p) (ρ 83) M2 → ∃ M', e_X2_bearsSet_75 d 0 g (s : Int) t (onS1 τ (ρ 83) (gonS (tN τ) ρ) s p left) (p : Int) M2 = some (vI (if bsL τ (ρ 83) (gonS (tN τ) ρ) s g.toNat.testBit (k + 1) p left < 0 then 0 else 1), M') ∧ amSame fAs M M' := fun M2 s2 hW2 => by
          obtain ⟨M3, a1, a2⟩ := c_bears75 (d := d) (g := g) (t := t) (by omega) hτ (hT.fas s2) (hS.fas s2) hs (show p < tP τ by omega) hW2 (left := onS1 τ (ρ 83) (gonS (tN τ) ρ) s p left) (by omega)
          obtain ⟨M4, b1, b2⟩ := c_bearsLoop hd hτ h83 hg hs (t := t) k (p + 1) (onS2 τ (ρ 83) (gonS (tN τ) ρ) s p (onS1 τ (ρ 83) (gonS (tN τ) ρ) s p left)) M3 (by omega) (by omega) (hT.fas (s2.trans a2)) (hS.fas (s2.trans a2))
          rw [a1, b1, eL]
          exact ⟨M4, rfl, (s2.trans a2).trans b2⟩
        rw [eB, if_neg (show ¬ (1 : Int) = 0 by decide), hS.2.2.2, m1, amCV_s, c_treads (by omega) hτ hT1 m3.2.1 hs (Or.inr rfl), amCI_s]
        by_cases ht : trS τ (tV τ p) s 1 = true
        · obtain ⟨M2, k1, k2⟩ := c_leftBehind (D := d) (s := (s : Int)) (gone := gonS (tN τ) ρ) (up := 1) (t := left) (by omega) hτ (tkWV hτ (p := p) (by omega)).1 (tkWV hτ (p := p) (by omega)).2 (Or.inr rfl) (by omega) hT1 m3
          have eT : (if trS τ (tV τ p) s 1 = true then (1 : Int) else 0) = 1 := if_pos ht
          have e1 : onS1 τ (ρ 83) (gonS (tN τ) ρ) s p left = lbS τ (tV τ p) (tW τ p) (ρ 83) s (gonS (tN τ) ρ) 1 left := if_pos ht
          rw [eT, if_neg (show ¬ (1 : Int) = 0 by decide), hS1.1.2.1, k1, amCI_s, ← e1]
          exact fin M2 (s1.trans (k2.mono fWr_fAs)) (m3.wr k2)
        · have eT : (if trS τ (tV τ p) s 1 = true then (1 : Int) else 0) = 0 := if_neg ht
          have e1 : onS1 τ (ρ 83) (gonS (tN τ) ρ) s p left = left := if_neg ht
          have := fin M1 s1 m3
          rw [e1] at this
          rw [eT, if_pos (show (0 : Int) = 0 from rfl)]
          exact this
      · rw [if_neg hb] at eL
        have eB : (if g.toNat.testBit p = true then (1 : Int) else 0) = 0 := if_neg hb
        obtain ⟨M4, b1, b2⟩ := c_bearsLoop hd hτ h83 hg hs (t := t) k (p + 1) left M (by omega) hl hT hS
        rw [eB, if_pos (show (0 : Int) = 0 from rfl), w32_n (x := (p : Int) + 1) (n := p + 1) (by omega) (by omega), b1, eL]
        exact ⟨M4, rfl, b2⟩
theorem c_bearsSet (hD : 5 ≤ D) (hτ : tOk τ) (h83 : 0 ≤ ρ 83) {g : Int} (hg : 0 ≤ g ∧ g < 256) {s : Nat} (hs : 1 ≤ s ∧ s ≤ tN τ) {t : Int} (ht : -1 ≤ t ∧ t ≤ 1000) (hT : cTx 0 τ M) (hS : cSc τ 0 ρ M) : ∃ M', amD amGst D 20 [vR 2 2 0, vR 5 5 0, vI g, vI s, vI t] M = some (vI (if bsL τ (ρ 83) (gonS (tN τ) ρ) s g.toNat.testBit (tP τ) 0 t < 0 then 0 else 1), M') ∧ amSame fAs M M' := by
  obtain ⟨d, rfl⟩ := dS hD
  rw [n_X2_bearsSet, q_X2_bearsSet_0]
  exact c_bearsLoop (d := d) (by omega) hτ h83 hg hs (t := t) (tP τ) 0 t M (by omega) ht hT hS
/-- the least that a step needs -/
def ndL (τ : Tx) (ρ : Rw) (S : Nat → Bool) (s : Nat) : Nat → Nat → Int
  | 0, _ => -2
  | k + 1, m => if tTh τ s < ρ s + (m : Int) then -2 else if bsL τ (ρ 83) (gonS (tN τ) ρ) s S (tP τ) 0 (ρ s + (m : Int)) < 0 then ndL τ ρ S s k (m + 1) else (m : Int)
theorem c_needLoop (hd : 5 ≤ d) (hτ : tOk τ) (hN : sOk τ N ρ) {g : Int} (hg : 0 ≤ g ∧ g < 256) {s : Nat} (hs : 1 ≤ s ∧ s ≤ tN τ) : ∀ (k m : Nat) (M : AmM), m + k = 101 → cTx 0 τ M → cSc τ 0 ρ M → ∃ M', e_X2_needOf_13 d 0 g (s : Int) (ρ s) (m : Int) M = some (vI (ndL τ ρ g.toNat.testBit s k m), M') ∧ amSame fAs M M'
  | 0, m, M, h, hT, hS => by
    have hn := hτ.1
    have b1 := hN.1 s hs.1 hs.2
    have b2 := hτ.2.1 s hs.1 hs.2
    have e : ((s : Nat) : Int).toNat = s := rfl
    refine ⟨M, ?_, amSame.refl⟩
    rw [q_X2_needOf_13, c_at (n := 26) (by omega) (by decide) (by decide) (by omega) (by omega), amCI_s, e, hT.2.2.2.2.2.1 s hs.1 hs.2, w32_id (x := tTh τ s - ρ s) (by omega) (by omega), if_pos (by omega)]
    rfl
  | k + 1, m, M, h, hT, hS => by
    have hn := hτ.1
    have b1 := hN.1 s hs.1 hs.2
    have b2 := hτ.2.1 s hs.1 hs.2
    have e : ((s : Nat) : Int).toNat = s := rfl
    rw [q_X2_needOf_13, c_at (n := 26) (by omega) (by decide) (by decide) (by omega) (by omega), amCI_s, e, hT.2.2.2.2.2.1 s hs.1 hs.2, w32_id (x := tTh τ s - ρ s) (by omega) (by omega)]
    unfold ndL
    by_cases h1 : tTh τ s < ρ s + (m : Int)
    · rw [if_pos (show tTh τ s - ρ s < (m : Int) by omega), if_pos h1]
      exact ⟨M, rfl, amSame.refl⟩
    · obtain ⟨M1, m1, m2⟩ := c_bearsSet (D := d) (by omega) hτ hN.2.2.2.1 hg hs (t := ρ s + (m : Int)) (by omega) hT hS
      rw [if_neg (show ¬ tTh τ s - ρ s < (m : Int) by omega), if_neg h1, w32_id (x := ρ s + (m : Int)) (by omega) (by omega), m1, amCI_s]
      by_cases h2 : bsL τ (ρ 83) (gonS (tN τ) ρ) s g.toNat.testBit (tP τ) 0 (ρ s + (m : Int)) < 0
      · obtain ⟨M2, k1, k2⟩ := c_needLoop hd hτ hN hg hs k (m + 1) M1 (by omega) (hT.fas m2) (hS.fas m2)
        have eB : (if bsL τ (ρ 83) (gonS (tN τ) ρ) s g.toNat.testBit (tP τ) 0 (ρ s + (m : Int)) < 0 then (0 : Int) else 1) = 0 := if_pos h2
        rw [eB, if_pos (show (0 : Int) = 0 from rfl), if_pos h2, w32_n (x := (m : Int) + 1) (n := m + 1) (by omega) (by omega)]
        exact ⟨M2, k1, m2.trans k2⟩
      · have eB : (if bsL τ (ρ 83) (gonS (tN τ) ρ) s g.toNat.testBit (tP τ) 0 (ρ s + (m : Int)) < 0 then (0 : Int) else 1) = 1 := if_neg h2
        rw [eB, if_neg (show ¬ (1 : Int) = 0 by decide), if_neg h2]
        exact ⟨M1, rfl, m2⟩
theorem c_needOf (hD : 6 ≤ D) (hτ : tOk τ) (hN : sOk τ N ρ) {g : Int} (hg : 0 ≤ g ∧ g < 256) {s : Nat} (hs : 1 ≤ s ∧ s ≤ tN τ) (hT : cTx 0 τ M) (hS : cSc τ 0 ρ M) : ∃ M', amD amGst D 19 [vR 2 2 0, vR 5 5 0, vI g, vI s] M = some (vI (ndL τ ρ g.toNat.testBit s 101 0), M') ∧ amSame fAs M M' := by
  obtain ⟨d, rfl⟩ := dS hD
  have hn := hτ.1
  rw [n_X2_needOf, q_X2_needOf_0, c_thickAt (by omega) (by omega), amCI_s, (hS.1.2.2 s hs.1 hs.2).1]
  exact c_needLoop (d := d) (by omega) hτ hN hg hs 101 0 M (by omega) hT hS
end ND
