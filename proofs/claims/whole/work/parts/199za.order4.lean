/-! PURE: the class's order, orderAt -/
def cntB (s : Nat) : Nat := cntR s.testBit 8 0
def ordS (τ : Tx) (ρ : Rw) (s : Nat) : Bs := dfsS τ (cntB s) (bitF s 8 0) [] 0 0 ρ (-1, 0, [])
def fOr : Nat → Nat → Nat → Bool := fun c s j => c == 10 || c == 125 || (c == 102 && s == 0) || ((c == 112 || c == 113 || c == 6) && (Nat.ble 45 s && Nat.ble s 52)) || c == 105 || c == 106 || c == 3
theorem fSe_fOr : ∀ c s j, fSe 0 c s j = true → fOr c s j = true := fun c s j h => by
  unfold fSe at h
  unfold fOr
  simp only [Bool.or_eq_true, Bool.and_eq_true, beq_iff_eq, Nat.ble_eq] at h ⊢
  omega
theorem fSt_fOr : ∀ c s j, fSt 45 c s j = true → fOr c s j = true := fun c s j h => by
  unfold fSt at h
  unfold fOr
  simp only [Bool.or_eq_true, Bool.and_eq_true, beq_iff_eq, Nat.ble_eq] at h ⊢
  omega
theorem sTx_fOr : ∀ c s j, sTx 0 c s j = true → fOr c s j = false := fun c s j hc => by
  unfold sTx at hc
  simp only [Bool.and_eq_true, Bool.or_eq_true, beq_iff_eq] at hc
  obtain ⟨rfl, hc⟩ := hc
  rcases hc with ((((((rfl | rfl) | rfl) | rfl) | rfl) | rfl) | rfl) <;> rfl
theorem cntR_le {G : Nat → Bool} : ∀ k p : Nat, cntR G k p ≤ k
  | 0, _ => Nat.le_refl 0
  | k + 1, p => by
    have := cntR_le (G := G) k (p + 1)
    unfold cntR
    split <;> omega
theorem cntB_b : ∀ s : Nat, s < 256 → bcE (s : Int) = ((cntB s : Nat) : Int) := bcE_n
section ORD
variable {D d v : Nat} {τ : Tx} {ρ : Rw} {M : AmM} {N n : Nat}
theorem c_bitc (hD : 1 ≤ D) {x : Int} : amD amGst D 244 [vI x] M = some (vI (bcE x), M) := by
  obtain ⟨d, rfl⟩ := dS hD
  rw [n_J6_bitCount_0f7a4, q_J6_bitCount_0f7a4_0]
  rfl
theorem c_bitcS (hD : 1 ≤ D) {s : Int} (hs : 0 ≤ s ∧ s < 256) : amD amGst D 244 [vI s] M = some (vI ((cntB s.toNat : Nat) : Int), M) := by
  rw [c_bitc hD]
  have := cntB_b s.toNat (by omega)
  rw [show ((s.toNat : Nat) : Int) = s by omega] at this
  rw [this]
/-- what is kept of the orders -/
def cMo (τ : Tx) (ρ : Rw) (M : AmM) : Prop := M 3 0 4 = -1 ∨ ∃ s : Int, onSet τ ρ s ∧ cntB s.toNat ≤ 7 ∧ M 3 0 4 = s ∧ cBs (ordS τ ρ s.toNat) M
theorem c_seek (hD : 15 ≤ D) (hτ : tOk τ) (hN : sOk τ N ρ) (hT : cTx 0 τ M) (hS : cSc τ 0 ρ M) (hM : cMo τ ρ M) {s : Int} (h : onSet τ ρ s) (h7 : cntB s.toNat ≤ 7) : ∃ M', amD amGst D 26 [vR 3 3 0, vR 5 5 0, vI s] M = some (vU, M') ∧ amSame fOr M M' ∧ M' 3 0 4 = s ∧ cBs (ordS τ ρ s.toNat) M' := by
  obtain ⟨d, rfl⟩ := dS hD
  have hP := hτ.2.2.2.2.2.2.1
  have hlt := onSet_lt hP h
  have h83 := hN.2.2.2
  rw [n_X3_seek, q_X3_seek_0]
  by_cases he : s = M 3 0 4
  · rw [if_pos he]
    rcases hM with hM | ⟨s', o1, o2, o3, o4⟩
    · omega
    · have e : s' = s := by omega
      subst e
      exact ⟨M, rfl, amSame.refl, o3, o4⟩
  · rw [if_neg he, if_neg (show ¬ (8 : Int) < 1 by omega), if_pos (show (0 : Int) ≤ 0 ∧ (0 : Int) < 8 by omega), c_bitcS (by omega) hlt, amCI_s]
    have e57 : amUp (amUp M 3 0 4 s) 3 0 5 ((cntB s.toNat : Nat) : Int) 5 0 7 = ρ 83 := by
      rw [up_c (by decide), up_c (by decide)]; exact hS.2.2.2
    rw [e57]
    generalize hM0 : amUp (amUp (amUp (amUp (amUp M 3 0 4 s) 3 0 5 ((cntB s.toNat : Nat) : Int)) 3 0 6 (ρ 83)) 3 0 7 (-1)) 3 0 8 0 = M0
    have s0 : amSame fOr M M0 := by
      rw [← hM0]
      exact ((((amSame.refl.up (by rfl)).up (by rfl)).up (by rfl)).up (by rfl)).up (by rfl)
    have m4 : M0 3 0 4 = s := by rw [← hM0, up_j (by decide), up_j (by decide), up_j (by decide), up_j (by decide), up_on]
    have m5 : M0 3 0 5 = ((cntB s.toNat : Nat) : Int) := by rw [← hM0, up_j (by decide), up_j (by decide), up_j (by decide), up_on]
    have m6 : M0 3 0 6 = ρ 83 := by rw [← hM0, up_j (by decide), up_j (by decide), up_on]
    have m7 : M0 3 0 7 = -1 := by rw [← hM0, up_j (by decide), up_on]
    have m8 : M0 3 0 8 = 0 := by rw [← hM0, up_on]
    have mvS : ∀ M', amSame fOr M M' → cSc τ 0 ρ M' := fun M' hs => hS.mv fun c j hc => hs _ _ _ (by
      rcases hc with rfl | rfl | rfl | rfl | rfl | rfl | rfl | rfl <;> rfl)
    obtain ⟨M1, a1, a2, a3⟩ := c_stCopy (D := d) (r := 45) (by omega) hτ.1 (mvS M0 s0).1 (by decide)
    have s1 : amSame fOr M M1 := s0.trans (a3.mono fSt_fOr)
    have hH : schH τ (cntB s.toNat) s.toNat 0 [] 0 0 ρ (-1, 0, []) M1 := by
      refine ⟨⟨by omega, bitHi h⟩, bitF_len 8 0, by omega, rfl, ⟨⟨by omega, by omega⟩, by omega, by omega⟩, ?_, ?_, h83.1, hN.1, hT.mv fun c s j hc => s1 _ _ _ (sTx_fOr c s j hc), a2, ⟨?_, ?_, fun j x hx => by cases hx⟩, fun j x hx => by cases hx⟩
      · rw [a3 3 0 5 (by rfl), m5, Nat.zero_add]
      · rw [a3 3 0 6 (by rfl), m6]
      · rw [a3 3 0 7 (by rfl), m7]
      · rw [a3 3 0 8 (by rfl), m8]
    obtain ⟨M2, b1, b2, b3⟩ := c_search hτ (cntB s.toNat) d (by omega) _ _ _ _ _ _ _ _ hH
    refine ⟨M2, ?_, s1.trans (b2.mono fSe_fOr), ?_, b3⟩
    · rw [show ((s.toNat : Nat) : Int) = s by omega, show ((0 : Nat) : Int) = 0 from rfl] at b1
      rw [q_X3_seek_58, if_pos (show (0 : Int) ≤ 0 ∧ (0 : Int) < 8 by omega), show (0 + 45) = 45 from rfl, a1, amCV_s, b1, amCV_s]
    · rw [b2 3 0 4 (by rfl), a3 3 0 4 (by rfl), m4]
theorem c_orderN (hD : 5 ≤ D) (hτ : tOk τ) (hT : cTx 0 τ M) (hS : cSc τ 0 ρ M) {s w : Int} (hs : -2147483648 ≤ s ∧ s < 2147483648) (h : ¬ (onSet τ ρ s ∧ 0 ≤ w ∧ w ≤ 1)) : amD amGst D 119 [vR 11 11 0, vI s, vI w] M = some (vI (-1), M) := by
  obtain ⟨d, rfl⟩ := dS hD
  rw [n_X11_order, q_X11_order_0]
  by_cases h1 : onSet τ ρ s
  · rw [c_areOnY (by omega) hτ hT hS hs h1, amCI_s, if_neg (show ¬ (1 : Int) = 0 by decide)]
    by_cases h2 : w < 0
    · rw [if_pos h2]
    · rw [if_neg h2, if_pos (show 1 < w by
        by_cases h3 : 1 < w
        · exact h3
        · exact absurd ⟨h1, by omega, by omega⟩ h)]
  · rw [c_areOnN (by omega) hτ hT hS hs h1, amCI_s, if_pos (show (0 : Int) = 0 from rfl)]
theorem c_orderM (hD : 5 ≤ D) (hτ : tOk τ) (hT : cTx 0 τ M) (hS : cSc τ 0 ρ M) {s w : Int} (h : onSet τ ρ s) (hw : 0 ≤ w ∧ w ≤ 1) (h7 : 7 < cntB s.toNat) : amD amGst D 119 [vR 11 11 0, vI s, vI w] M = some (vI (-2), M) := by
  obtain ⟨d, rfl⟩ := dS hD
  have hlt := onSet_lt hτ.2.2.2.2.2.2.1 h
  rw [n_X11_order, q_X11_order_0, c_areOnY (by omega) hτ hT hS (by omega) h, amCI_s, if_neg (show ¬ (1 : Int) = 0 by decide), if_neg (show ¬ w < 0 by omega), if_neg (show ¬ 1 < w by omega), c_bitcS (by omega) hlt, amCI_s, if_pos (by omega)]
theorem c_order (hD : 16 ≤ D) (hτ : tOk τ) (hN : sOk τ N ρ) (hT : cTx 0 τ M) (hS : cSc τ 0 ρ M) (hM : cMo τ ρ M) {s w : Int} (h : onSet τ ρ s) (hw : 0 ≤ w ∧ w ≤ 1) (h7 : cntB s.toNat ≤ 7) : ∃ M', amD amGst D 119 [vR 11 11 0, vI s, vI w] M = some (vI (if w = 0 then (ordS τ ρ s.toNat).1 else (ordS τ ρ s.toNat).2.1), M') ∧ amSame fOr M M' ∧ cMo τ ρ M' := by
  obtain ⟨d, rfl⟩ := dS hD
  have hlt := onSet_lt hτ.2.2.2.2.2.2.1 h
  obtain ⟨M1, a1, a2, a3, a4⟩ := c_seek (D := d) (by omega) hτ hN hT hS hM h h7
  refine ⟨M1, ?_, a2, Or.inr ⟨s, h, h7, a3, a4⟩⟩
  rw [n_X11_order, q_X11_order_0, c_areOnY (by omega) hτ hT hS (by omega) h, amCI_s, if_neg (show ¬ (1 : Int) = 0 by decide), if_neg (show ¬ w < 0 by omega), if_neg (show ¬ 1 < w by omega), c_bitcS (by omega) hlt, amCI_s, if_neg (by omega), a1, amCV_s, a4.1, a4.2.1]
  by_cases h0 : w = 0
  · rw [if_pos h0, if_pos h0]
  · rw [if_neg h0, if_neg h0]
theorem c_orderAtN (hD : 5 ≤ D) (hτ : tOk τ) (hT : cTx 0 τ M) (hS : cSc τ 0 ρ M) {s i : Int} (hs : -2147483648 ≤ s ∧ s < 2147483648) (h : ¬ (onSet τ ρ s ∧ 0 ≤ i ∧ i < ((cntB s.toNat : Nat) : Int))) : amD amGst D 120 [vR 11 11 0, vI s, vI i] M = some (vI (-1), M) := by
  obtain ⟨d, rfl⟩ := dS hD
  rw [n_X11_orderAt, q_X11_orderAt_0]
  by_cases h1 : onSet τ ρ s
  · have hlt := onSet_lt hτ.2.2.2.2.2.2.1 h1
    rw [c_bitcS (by omega) hlt, amCI_s, c_areOnY (by omega) hτ hT hS hs h1, amCI_s, if_neg (show ¬ (1 : Int) = 0 by decide)]
    by_cases h2 : i < 0
    · rw [if_pos h2]
    · rw [if_neg h2, if_neg (show ¬ i < ((cntB s.toNat : Nat) : Int) from fun h3 => h ⟨h1, by omega, h3⟩)]
  · rw [c_bitc (by omega), amCI_s, c_areOnN (by omega) hτ hT hS hs h1, amCI_s, if_pos (show (0 : Int) = 0 from rfl)]
theorem c_orderAtM (hD : 5 ≤ D) (hτ : tOk τ) (hT : cTx 0 τ M) (hS : cSc τ 0 ρ M) {s i : Int} (h : onSet τ ρ s) (hi : 0 ≤ i ∧ i < ((cntB s.toNat : Nat) : Int)) (h7 : 7 < cntB s.toNat) : amD amGst D 120 [vR 11 11 0, vI s, vI i] M = some (vI (-2), M) := by
  obtain ⟨d, rfl⟩ := dS hD
  have hlt := onSet_lt hτ.2.2.2.2.2.2.1 h
  rw [n_X11_orderAt, q_X11_orderAt_0, c_bitcS (by omega) hlt, amCI_s, c_areOnY (by omega) hτ hT hS (by omega) h, amCI_s, if_neg (show ¬ (1 : Int) = 0 by decide), if_neg (show ¬ i < 0 by omega), if_pos hi.2, if_pos (by omega)]
theorem c_orderAt (hD : 16 ≤ D) (hτ : tOk τ) (hN : sOk τ N ρ) (hT : cTx 0 τ M) (hS : cSc τ 0 ρ M) (hM : cMo τ ρ M) {s i : Int} (h : onSet τ ρ s) (hi : 0 ≤ i ∧ i < ((cntB s.toNat : Nat) : Int)) (h7 : cntB s.toNat ≤ 7) {x : Nat} (hx : (ordS τ ρ s.toNat).2.2[i.toNat]? = some x) : ∃ M', amD amGst D 120 [vR 11 11 0, vI s, vI i] M = some (vI (x : Int), M') ∧ amSame fOr M M' ∧ cMo τ ρ M' := by
  obtain ⟨d, rfl⟩ := dS hD
  have hlt := onSet_lt hτ.2.2.2.2.2.2.1 h
  obtain ⟨M1, a1, a2, a3, a4⟩ := c_seek (D := d) (by omega) hτ hN hT hS hM h h7
  refine ⟨M1, ?_, a2, Or.inr ⟨s, h, h7, a3, a4⟩⟩
  rw [n_X11_orderAt, q_X11_orderAt_0, c_bitcS (by omega) hlt, amCI_s, c_areOnY (by omega) hτ hT hS (by omega) h, amCI_s, if_neg (show ¬ (1 : Int) = 0 by decide), if_neg (show ¬ i < 0 by omega), if_pos hi.2, if_neg (by omega), a1, amCV_s, c_at (n := 7) (by omega) (by decide) (by decide) (by omega) (by omega), amCI_s, a4.2.2 _ x hx]
end ORD
