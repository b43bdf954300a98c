/-! PURE: what it takes from a place down, of the places below -/
def dcN (τ : Tx) (ρ : Rw) (vow heavy : Int) (a : Nat) (x y : Int) : Int := if vow = 2 then (if a ≤ 1 then 0 else if 0 < ρ (a - 1) then amMin 1000000 (lfL τ ρ vow heavy (a - 1) 101 0 + y) else amMin (amMin 1000000 (lfL τ ρ vow heavy (a - 1) 101 0 + y)) (amMin 1000000 (lfL τ ρ vow heavy a 101 0 + x))) else if a = 0 then 0 else amMin 1000000 (lfL τ ρ vow heavy a 101 0 + x)
/-- (of this place, of the one below) -/
def dcP (τ : Tx) (ρ : Rw) (vow heavy : Int) : Nat → Int × Int
  | 0 => (0, 0)
  | a + 1 => (dcN τ ρ vow heavy a (dcP τ ρ vow heavy a).1 (dcP τ ρ vow heavy a).2, (dcP τ ρ vow heavy a).1)
theorem amMin_b {x : Int} (h : 0 ≤ x) : 0 ≤ amMin 1000000 x ∧ amMin 1000000 x ≤ 1000000 := by
  unfold amMin
  split <;> omega
theorem dcN_b {τ : Tx} {ρ : Rw} {vow heavy : Int} {a : Nat} {x y : Int} (hx : 0 ≤ x) (hy : 0 ≤ y) : 0 ≤ dcN τ ρ vow heavy a x y ∧ dcN τ ρ vow heavy a x y ≤ 1000000 := by
  have h1 := lfL_b (τ := τ) (ρ := ρ) (vow := vow) (heavy := heavy) (s := a - 1) 101 0
  have h2 := lfL_b (τ := τ) (ρ := ρ) (vow := vow) (heavy := heavy) (s := a) 101 0
  have b1 := amMin_b (x := lfL τ ρ vow heavy (a - 1) 101 0 + y) (by omega)
  have b2 := amMin_b (x := lfL τ ρ vow heavy a 101 0 + x) (by omega)
  unfold dcN
  split
  · split
    · omega
    · split
      · exact b1
      · generalize amMin 1000000 (lfL τ ρ vow heavy (a - 1) 101 0 + y) = u at b1 ⊢
        generalize amMin 1000000 (lfL τ ρ vow heavy a 101 0 + x) = w at b2 ⊢
        unfold amMin
        split <;> omega
  · split
    · omega
    · exact b2
theorem dcP_b {τ : Tx} {ρ : Rw} {vow heavy : Int} : ∀ a : Nat, (0 ≤ (dcP τ ρ vow heavy a).1 ∧ (dcP τ ρ vow heavy a).1 ≤ 1000000) ∧ 0 ≤ (dcP τ ρ vow heavy a).2 ∧ (dcP τ ρ vow heavy a).2 ≤ 1000000
  | 0 => by unfold dcP; exact ⟨⟨by decide, by decide⟩, by decide, by decide⟩
  | a + 1 => by
    have h := dcP_b (τ := τ) (ρ := ρ) (vow := vow) (heavy := heavy) a
    exact ⟨dcN_b h.1.1 h.2.1, h.1⟩
section DC
variable {D d v : Nat} {τ : Tx} {ρ : Rw} {M : AmM} {N : Nat} {vow heavy : Int}
theorem c_dearFrom (hD : 5 ≤ D) (hτ : tOk τ) (hN : sOk τ N ρ) (hh : 0 ≤ heavy ∧ heavy ≤ 2000) (hv : 0 ≤ vow ∧ vow ≤ 3) {a : Nat} (ha : a ≤ tN τ) {x y : Int} (hx : 0 ≤ x ∧ x ≤ 1000000) (hy : 0 ≤ y ∧ y ≤ 1000000) (hT : cTx 0 τ M) (hS : cSc τ 0 ρ M) (hW : cWk τ vow heavy (ρ 83) M) (h1 : M 103 0 a = x) (h2 : 1 ≤ a → M 103 0 (a - 1) = y) : ∃ M', amD amGst D 23 [vR 2 2 0, vR 6 6 0, vI ((a + 1 : Nat) : Int)] M = some (vI (dcN τ ρ vow heavy a x y), M') ∧ amSame fWr M M' := by
  obtain ⟨d, rfl⟩ := dS hD
  have hn := hτ.1
  rw [n_X2_dearFrom, q_X2_dearFrom_0, hW.2.1, w32_id (x := ((a + 1 : Nat) : Int) - 2) (by omega) (by omega), w32_n (x := ((a + 1 : Nat) : Int) - 1) (n := a) (by omega) (by omega)]
  unfold dcN
  by_cases hv2 : vow = 2
  · rw [if_pos hv2, if_pos hv2]
    by_cases ha1 : a ≤ 1
    · have e0 : amMax 0 (((a + 1 : Nat) : Int) - 2) = ((0 : Nat) : Int) := by unfold amMax; split <;> omega
      rw [e0, c_dearOver0 (by omega) (by omega), amCI_s, c_isThereY (by omega) hn hS.1 (j := 0) (by omega) (Or.inl rfl), amCI_s, if_neg (show ¬ (1 : Int) = 0 by decide), if_pos ha1]
      exact ⟨M, rfl, amSame.refl⟩
    · have e0 : amMax 0 (((a + 1 : Nat) : Int) - 2) = ((a - 1 : Nat) : Int) := by unfold amMax; split <;> omega
      obtain ⟨M1, m1, m2⟩ := c_dearOver (D := d) (s := a - 1) (by omega) hτ hN hh hv (by omega) hy hT hS hW (h2 (by omega))
      have hS1 := hS.fas (m2.mono fWr_fAs)
      rw [e0, m1, amCI_s, if_neg ha1]
      by_cases h0 : 0 < ρ (a - 1)
      · rw [c_isThereY (by omega) hn hS1.1 (j := a - 1) (by omega) (Or.inr (Or.inr h0)), amCI_s, if_neg (show ¬ (1 : Int) = 0 by decide), if_pos h0]
        exact ⟨M1, rfl, m2⟩
      · obtain ⟨M2, k1, k2⟩ := c_dearOver (D := d) (s := a) (by omega) hτ hN hh hv (by omega) hx (hT.wr m2) hS1 (hW.wr m2) (by rw [m2 103 0 a (by rfl)]; exact h1)
        rw [c_isThereN (by omega) hn hS1.1 (j := a - 1) (by omega) (by omega), amCI_s, if_pos (show (0 : Int) = 0 from rfl), k1, amCI_s, if_neg h0]
        exact ⟨M2, rfl, m2.trans k2⟩
  · rw [if_neg hv2, if_neg hv2]
    by_cases ha0 : a = 0
    · rw [c_dearOver0 (by omega) (by omega), amCI_s, if_pos ha0]
      exact ⟨M, rfl, amSame.refl⟩
    · obtain ⟨M1, m1, m2⟩ := c_dearOver (D := d) (s := a) (by omega) hτ hN hh hv (by omega) hx hT hS hW h1
      rw [m1, amCI_s, if_neg ha0]
      exact ⟨M1, rfl, m2⟩
end DC
