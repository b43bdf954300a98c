/-! PURE: need, of both -/
def nAl (τ : Tx) (ρ : Rw) (S : Nat → Bool) : Nat → Nat → Int → Int
  | 0, _, acc => acc
  | k + 1, j, acc => if ndL τ ρ S j 101 0 < 0 then -2 else nAl τ ρ S k (j + 1) (acc + ndL τ ρ S j 101 0)
theorem ndL_b {τ : Tx} {ρ : Rw} {S : Nat → Bool} {s : Nat} : ∀ (k m : Nat), ndL τ ρ S s k m = -2 ∨ (0 ≤ ndL τ ρ S s k m ∧ ndL τ ρ S s k m ≤ ((m + k : Nat) : Int))
  | 0, m => Or.inl rfl
  | k + 1, m => by
    unfold ndL
    split
    · exact Or.inl rfl
    · split
      · have := ndL_b (τ := τ) (ρ := ρ) (S := S) (s := s) k (m + 1)
        omega
      · exact Or.inr (by omega)
def troS (τ : Tx) (s : Nat) (S : Nat → Bool) : Nat → Nat → Bool
  | 0, _ => false
  | k + 1, p => if S p = true then (if trS τ (tV τ p) s 1 = true then true else if trS τ (tV τ p) s 0 = true then true else troS τ s S k (p + 1)) else troS τ s S k (p + 1)
theorem bsL_tro {τ : Tx} {day gone : Int} {s : Nat} {S : Nat → Bool} : ∀ (k p : Nat) (left : Int), 0 ≤ left → troS τ s S k p = false → bsL τ day gone s S k p left = left
  | 0, p, left, _, _ => rfl
  | k + 1, p, left, h0, h => by
    unfold troS at h
    unfold bsL
    rw [if_neg (by omega)]
    by_cases hb : S p = true
    · rw [if_pos hb] at h ⊢
      by_cases h1 : trS τ (tV τ p) s 1 = true
      · rw [if_pos h1] at h; cases h
      · rw [if_neg h1] at h
        by_cases h2 : trS τ (tV τ p) s 0 = true
        · rw [if_pos h2] at h; cases h
        · rw [if_neg h2] at h
          have e1 : onS1 τ day gone s p left = left := if_neg h1
          have e2 : onS2 τ day gone s p left = left := by unfold onS2; rw [if_neg (by omega), if_neg h2]
          rw [e1, e2]
          exact bsL_tro k (p + 1) left h0 h
    · rw [if_neg hb] at h ⊢
      exact bsL_tro k (p + 1) left h0 h
section ND2
variable {D d v : Nat} {τ : Tx} {ρ : Rw} {M : AmM} {N : Nat}
theorem c_allNeedLoop (hd : 6 ≤ d) (hτ : tOk τ) (hN : sOk τ N ρ) {g : Int} (hg : 0 ≤ g ∧ g < 256) : ∀ (k j : Nat) (acc : Int) (u : AmV) (M : AmM), j + k = tN τ + 1 → 1 ≤ j → (0 ≤ acc ∧ acc ≤ 101 * (j : Int)) → cTx 0 τ M → cSc τ 0 ρ M → ∃ M', e_X2_allNeed_5 d 0 g acc (j : Int) u M = some (vI (nAl τ ρ g.toNat.testBit k j acc), M') ∧ amSame fAs M M'
  | 0, j, acc, u, M, h, h1, ha, hT, hS => by
    refine ⟨M, ?_, amSame.refl⟩
    rw [q_X2_allNeed_5, hT.1, if_pos (by omega)]
    rfl
  | k + 1, j, acc, u, M, h, h1, ha, hT, hS => by
    have hn := hτ.1
    obtain ⟨M1, m1, m2⟩ := c_needOf (D := d) (by omega) hτ hN hg (s := j) (by omega) hT hS
    have hb := ndL_b (τ := τ) (ρ := ρ) (S := g.toNat.testBit) (s := j) 101 0
    have e : nAl τ ρ g.toNat.testBit (k + 1) j acc = if ndL τ ρ g.toNat.testBit j 101 0 < 0 then -2 else nAl τ ρ g.toNat.testBit k (j + 1) (acc + ndL τ ρ g.toNat.testBit j 101 0) := rfl
    rw [q_X2_allNeed_5, hT.1, if_neg (by omega), m1, amCI_s, e]
    by_cases h2 : ndL τ ρ g.toNat.testBit j 101 0 = -2
    · rw [if_pos h2, if_pos (by omega)]
      exact ⟨M1, rfl, m2⟩
    · obtain ⟨M2, k1, k2⟩ := c_allNeedLoop hd hτ hN hg k (j + 1) (acc + ndL τ ρ g.toNat.testBit j 101 0) (vI (ndL τ ρ g.toNat.testBit j 101 0)) M1 (by omega) (by omega) (by omega) (hT.fas m2) (hS.fas m2)
      rw [if_neg h2, if_neg (by omega), w32_id (x := acc + ndL τ ρ g.toNat.testBit j 101 0) (by omega) (by omega), w32_n (x := (j : Int) + 1) (n := j + 1) (by omega) (by omega)]
      exact ⟨M2, k1, m2.trans k2⟩
/-- what is asked of a set on the ground -/
def needS (τ : Tx) (ρ : Rw) (S : Nat → Bool) (s : Int) : Int := if s = -1 then nAl τ ρ S (tN τ) 1 0 else if 1 ≤ s ∧ s ≤ tN τ then ndL τ ρ S s.toNat 101 0 else -1
theorem c_needN (hD : 5 ≤ D) (hτ : tOk τ) (hT : cTx 0 τ M) (hS : cSc τ 0 ρ M) {g s : Int} (hg : -2147483648 ≤ g ∧ g < 2147483648) (h : ¬ onSet τ ρ g) : amD amGst D 121 [vR 11 11 0, vI g, vI s] M = some (vI (-1), M) := by
  obtain ⟨d, rfl⟩ := dS hD
  rw [n_X11_need, q_X11_need_0, c_areOnN (by omega) hτ hT hS hg h, amCI_s, if_pos rfl]
theorem c_need (hD : 8 ≤ D) (hτ : tOk τ) (hN : sOk τ N ρ) (hT : cTx 0 τ M) (hS : cSc τ 0 ρ M) {g s : Int} (h : onSet τ ρ g) : ∃ M', amD amGst D 121 [vR 11 11 0, vI g, vI s] M = some (vI (needS τ ρ g.toNat.testBit s), M') ∧ amSame fAs M M' := by
  obtain ⟨d, rfl⟩ := dS hD
  have hlt := onSet_lt hτ.2.2.2.2.2.2.1 h
  rw [n_X11_need, q_X11_need_0, c_areOnY (by omega) hτ hT hS (by omega) h, amCI_s, if_neg (show ¬ (1 : Int) = 0 by decide)]
  unfold needS
  by_cases h1 : s = -1
  · obtain ⟨d, rfl⟩ := dS (show 6 + 1 ≤ d by omega)
    obtain ⟨M', m1, m2⟩ := c_allNeedLoop (d := d) (by omega) hτ hN hlt (tN τ) 1 0 vU M (by omega) (by omega) (by omega) hT hS
    have m1 : e_X2_allNeed_5 d 0 g 0 1 vU M = some (vI (nAl τ ρ g.toNat.testBit (tN τ) 1 0), M') := m1
    rw [if_pos h1, if_pos h1, n_X2_allNeed, q_X2_allNeed_0, m1, amCI_s]
    exact ⟨M', rfl, m2⟩
  · rw [if_neg h1, if_neg h1]
    by_cases h2 : 1 ≤ s ∧ s ≤ tN τ
    · obtain ⟨M', m1, m2⟩ := c_needOf (D := d) (by omega) hτ hN hlt (s := s.toNat) (by omega) hT hS
      rw [show ((s.toNat : Nat) : Int) = s by omega] at m1
      rw [c_isStepY (n := tN τ) (by omega) hS.1.1 h2, amCI_s, if_neg (show ¬ (1 : Int) = 0 by decide), m1, amCI_s, if_pos h2]
      exact ⟨M', rfl, m2⟩
    · rw [c_isStepN (n := tN τ) (by omega) hS.1.1 h2, amCI_s, if_pos rfl, if_neg h2]
      exact ⟨M, rfl, amSame.refl⟩
theorem r_bears57 (hd : 3 ≤ d) (hτ : tOk τ) {g day gone : Int} (hday : 0 ≤ day) (hT : rTx v τ M) (h83 : M 160 0 83 = day) {s p : Nat} (hs : 1 ≤ s ∧ s ≤ tN τ) (hp : p < tP τ) {t left : Int} (hl : -1 ≤ left ∧ left ≤ 1000) : ∃ M', e_X12_bearsAll_57 d g (s : Int) t gone left (p : Int) M = e_X12_bearsAll_6 d g (s : Int) t gone (onS2 τ day gone s p left) ((p + 1 : Nat) : Int) M' ∧ amSame fRw M M' := by
  have hP := hτ.2.2.2.2.2.2.1
  rw [q_X12_bearsAll_57, w32_n (x := (p : Int) + 1) (n := p + 1) (by omega) (by omega)]
  unfold onS2
  by_cases h0 : left < 0
  · rw [if_pos h0, if_pos h0]
    exact ⟨M, rfl, amSame.refl⟩
  · rw [if_neg h0, if_neg h0, r_treads (by omega) hτ hT hp hs (Or.inl rfl), amCI_s]
    by_cases ht : trS τ (tV τ p) s 0 = true
    · obtain ⟨M1, k1, k2⟩ := r_behind (D := d) (v := v) (s := (s : Int)) (gone := gone) (up := 0) (t := left) (by omega) hτ (Or.inl rfl) hp hday (by omega) hT h83
      have eT : (if trS τ (tV τ p) s 0 = true then (1 : Int) else 0) = 1 := if_pos ht
      rw [eT, if_neg (show ¬ (1 : Int) = 0 by decide), k1, amCI_s, if_pos ht]
      exact ⟨M1, rfl, k2⟩
    · have eT : (if trS τ (tV τ p) s 0 = true then (1 : Int) else 0) = 0 := if_neg ht
      rw [eT, if_pos (show (0 : Int) = 0 from rfl), if_neg ht]
      exact ⟨M, rfl, amSame.refl⟩
theorem r_bearsLoop (hd : 4 ≤ d) (hτ : tOk τ) {g day gone : Int} (hday : 0 ≤ day) (hg : 0 ≤ g ∧ g < 256) {s : Nat} (hs : 1 ≤ s ∧ s ≤ tN τ) {t : Int} : ∀ (k p : Nat) (left : Int) (M : AmM), p + k = tP τ → (-1 ≤ left ∧ left ≤ 1000) → rTx v τ M → M 160 0 83 = day → ∃ M', e_X12_bearsAll_6 d g (s : Int) t gone left (p : Int) M = some (vI (if bsL τ day gone s g.toNat.testBit k p left < 0 then 0 else 1), M') ∧ amSame fRw M M'
  | 0, p, left, M, h, hl, hT, h83 => by
    refine ⟨M, ?_, amSame.refl⟩
    have eL : bsL τ day gone s g.toNat.testBit 0 p left = left := rfl
    rw [q_X12_bearsAll_6, r_many (by omega) hT, amCI_s, if_neg (by omega), eL]
    by_cases h0 : left < 0
    · rw [if_pos h0, if_pos h0]
    · rw [if_neg h0, if_neg h0]
  | k + 1, p, left, M, h, hl, hT, h83 => by
    have hP := hτ.2.2.2.2.2.2.1
    have hbit := bBit g.toNat (by omega) p (by omega)
    rw [show ((g.toNat : Nat) : Int) = g by omega] at hbit
    have eL : bsL τ day gone s g.toNat.testBit (k + 1) p left = if left < 0 then left else if g.toNat.testBit p = true then bsL τ day gone s g.toNat.testBit k (p + 1) (onS2 τ day gone s p (onS1 τ day gone s p left)) else bsL τ day gone s g.toNat.testBit k (p + 1) left := rfl
    rw [q_X12_bearsAll_6, r_many (by omega) hT, amCI_s, if_pos (show (p : Int) < ((tP τ : Nat) : Int) by omega)]
    by_cases h0 : left < 0
    · rw [if_pos h0] at eL
      refine ⟨M, ?_, amSame.refl⟩
      rw [if_pos h0, if_pos h0, eL, if_pos h0]
    · rw [if_neg h0] at eL
      rw [if_neg h0, hbit]
      by_cases hb : g.toNat.testBit p = true
      · rw [if_pos hb] at eL
        have eB : (if g.toNat.testBit p = true then (1 : Int) else 0) = 1 := if_pos hb
        have hb1 := onS1_b (day := day) (gone := gone) (s := s) (p := p) hτ (by omega) (show 0 ≤ left by omega)
        have hb2 := onS2_b (day := day) (gone := gone) (s := s) (p := p) hτ (by omega) hb1.1
        have fin : ∀ M2, amSame fRw M M2 → ∃ M', e_X12_bearsAll_57 d g (s : Int) t gone (onS1 τ day gone s p left) (p : Int) M2 = some (vI (if bsL τ day gone s g.toNat.testBit (k + 1) p left < 0 then 0 else 1), M') ∧ amSame fRw M M' := fun M2 s2 => by
          obtain ⟨M3, a1, a2⟩ := r_bears57 (d := d) (v := v) (g := g) (gone := gone) (t := t) (by omega) hτ hday (hT.ro (s2.mono fRw_fRo)) (by rw [s2 160 0 83 (by rfl)]; exact h83) hs (show p < tP τ by omega) (left := onS1 τ day gone s p left) (by omega)
          have s3 := s2.trans a2
          obtain ⟨M4, b1, b2⟩ := r_bearsLoop hd hτ (gone := gone) hday hg hs (t := t) k (p + 1) (onS2 τ day gone s p (onS1 τ day gone s p left)) M3 (by omega) (by omega) (hT.ro (s3.mono fRw_fRo)) (by rw [s3 160 0 83 (by rfl)]; exact h83)
          rw [a1, b1, eL]
          exact ⟨M4, rfl, s3.trans b2⟩
        rw [eB, if_neg (show ¬ (1 : Int) = 0 by decide), r_treads (by omega) hτ hT (by omega) hs (Or.inr rfl), amCI_s]
        by_cases ht : trS τ (tV τ p) s 1 = true
        · obtain ⟨M2, k1, k2⟩ := r_behind (D := d) (v := v) (s := (s : Int)) (gone := gone) (up := 1) (t := left) (by omega) hτ (Or.inr rfl) (show p < tP τ by omega) hday (by omega) hT h83
          have eT : (if trS τ (tV τ p) s 1 = true then (1 : Int) else 0) = 1 := if_pos ht
          have e1 : onS1 τ day gone s p left = lbS τ (tV τ p) (tW τ p) day s gone 1 left := if_pos ht
          rw [eT, if_neg (show ¬ (1 : Int) = 0 by decide), k1, amCI_s, ← e1]
          exact fin M2 k2
        · have eT : (if trS τ (tV τ p) s 1 = true then (1 : Int) else 0) = 0 := if_neg ht
          have e1 : onS1 τ day gone s p left = left := if_neg ht
          have := fin M amSame.refl
          rw [e1] at this
          rw [eT, if_pos (show (0 : Int) = 0 from rfl)]
          exact this
      · rw [if_neg hb] at eL
        have eB : (if g.toNat.testBit p = true then (1 : Int) else 0) = 0 := if_neg hb
        obtain ⟨M4, b1, b2⟩ := r_bearsLoop hd hτ (gone := gone) hday hg hs (t := t) k (p + 1) left M (by omega) hl hT h83
        rw [eB, if_pos (show (0 : Int) = 0 from rfl), w32_n (x := (p : Int) + 1) (n := p + 1) (by omega) (by omega), b1, eL]
        exact ⟨M4, rfl, b2⟩
theorem r_bearsAll (hD : 5 ≤ D) (hτ : tOk τ) {g day gone : Int} (hday : 0 ≤ day) (hg : 0 ≤ g ∧ g < 256) {s : Nat} (hs : 1 ≤ s ∧ s ≤ tN τ) {t : Int} (ht : -1 ≤ t ∧ t ≤ 1000) (hT : rTx v τ M) (h83 : M 160 0 83 = day) : ∃ M', amD amGst D 217 [vR 12 12 0, vI g, vI s, vI t, vI gone] M = some (vI (if bsL τ day gone s g.toNat.testBit (tP τ) 0 t < 0 then 0 else 1), M') ∧ amSame fRw M M' := by
  obtain ⟨d, rfl⟩ := dS hD
  rw [n_X12_bearsAll, q_X12_bearsAll_0]
  exact r_bearsLoop (d := d) (v := v) (by omega) hτ hday hg hs (t := t) (tP τ) 0 t M (by omega) ht hT h83
end ND2
