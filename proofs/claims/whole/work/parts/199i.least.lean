/-! PURE: the least that a step needs for one to tread it downwards -/
def lfL (τ : Tx) (ρ : Rw) (vow heavy : Int) (s : Nat) : Nat → Nat → Int
  | 0, _ => 1000000
  | k + 1, m => if tTh τ s < ρ s + (m : Int) then 1000000 else if lbS τ vow heavy (ρ 83) s (gonS (tN τ) ρ) 0 (ρ s + (m : Int)) < 0 then lfL τ ρ vow heavy s k (m + 1) else (m : Int)
section LF
variable {D d v : Nat} {τ : Tx} {ρ : Rw} {M : AmM} {N : Nat} {vow heavy : Int}
theorem lfL_b {s : Nat} : ∀ (k m : Nat), lfL τ ρ vow heavy s k m = 1000000 ∨ (0 ≤ lfL τ ρ vow heavy s k m ∧ lfL τ ρ vow heavy s k m ≤ ((m + k : Nat) : Int))
  | 0, m => Or.inl rfl
  | k + 1, m => by
    unfold lfL
    split
    · exact Or.inl rfl
    · split
      · have := lfL_b (s := s) k (m + 1)
        omega
      · exact Or.inr (by omega)
theorem c_dearOverLoop (hd : 3 ≤ d) (hτ : tOk τ) (hN : sOk τ N ρ) (hh : 0 ≤ heavy ∧ heavy ≤ 2000) (hv : 0 ≤ vow ∧ vow ≤ 3) {s : Nat} (hs : 1 ≤ s ∧ s ≤ tN τ) {dr : Int} (hdr : 0 ≤ dr ∧ dr ≤ 1000000) : ∀ (k m : Nat) (M : AmM), m + k = 101 → cTx 0 τ M → cSc τ 0 ρ M → cWk τ vow heavy (ρ 83) M → M 103 0 s = dr → ∃ M', e_X2_dearOver_15 d 0 (s : Int) (ρ s) (m : Int) M = some (vI (amMin 1000000 (lfL τ ρ vow heavy s k m + dr)), M') ∧ amSame fWr M M'
  | 0, m, M, h, hT, hS, hW, h103 => by
    have hn := hτ.1
    have b1 := hN.1 s hs.1 hs.2
    have b2 := hτ.2.1 s hs.1 hs.2
    have e : ((s : Nat) : Int).toNat = s := rfl
    have e1 : amMin 1000000 (1000000 + dr) = 1000000 := by unfold amMin; split <;> omega
    refine ⟨M, ?_, amSame.refl⟩
    rw [q_X2_dearOver_15, c_at (n := 26) (by omega) (by decide) (by decide) (by omega) (by omega), amCI_s, e, hT.2.2.2.2.2.1 s hs.1 hs.2, w32_id (x := tTh τ s - ρ s) (by omega) (by omega), if_pos (by omega)]
    exact congrArg (fun z => some (vI z, M)) e1.symm
  | k + 1, m, M, h, hT, hS, hW, h103 => by
    have hn := hτ.1
    have b1 := hN.1 s hs.1 hs.2
    have b2 := hτ.2.1 s hs.1 hs.2
    have e : ((s : Nat) : Int).toNat = s := rfl
    rw [q_X2_dearOver_15, c_at (n := 26) (by omega) (by decide) (by decide) (by omega) (by omega), amCI_s, e, hT.2.2.2.2.2.1 s hs.1 hs.2, w32_id (x := tTh τ s - ρ s) (by omega) (by omega)]
    unfold lfL
    by_cases h1 : tTh τ s < ρ s + (m : Int)
    · have e1 : amMin 1000000 (1000000 + dr) = 1000000 := by unfold amMin; split <;> omega
      rw [if_pos (show tTh τ s - ρ s < (m : Int) by omega), if_pos h1, e1]
      exact ⟨M, rfl, amSame.refl⟩
    · obtain ⟨M1, m1, m2⟩ := c_leftBehind (D := d) (s := (s : Int)) (gone := gonS (tN τ) ρ) (up := 0) (t := ρ s + (m : Int)) (by omega) hτ hh hv (Or.inl rfl) (by omega) hT hW
      rw [if_neg (show ¬ tTh τ s - ρ s < (m : Int) by omega), if_neg h1, w32_id (x := ρ s + (m : Int)) (by omega) (by omega), hS.1.2.1, m1, amCI_s]
      by_cases h2 : lbS τ vow heavy (ρ 83) s (gonS (tN τ) ρ) 0 (ρ s + (m : Int)) < 0
      · obtain ⟨M2, k1, k2⟩ := c_dearOverLoop hd hτ hN hh hv hs hdr k (m + 1) M1 (by omega) (hT.wr m2) (hS.fas (m2.mono fWr_fAs)) (hW.wr m2) (by rw [m2 103 0 s (by rfl)]; exact h103)
        rw [if_pos h2, if_pos h2, w32_n (x := (m : Int) + 1) (n := m + 1) (by omega) (by omega)]
        exact ⟨M2, k1, m2.trans k2⟩
      · rw [if_neg h2, if_neg h2, c_at (n := 26) (by omega) (by decide) (by decide) (by omega) (by omega), amCI_s, e, m2 103 0 s (by rfl), h103, w32_id (x := (m : Int) + dr) (by omega) (by omega)]
        exact ⟨M1, rfl, m2⟩
theorem c_dearOver (hD : 4 ≤ D) (hτ : tOk τ) (hN : sOk τ N ρ) (hh : 0 ≤ heavy ∧ heavy ≤ 2000) (hv : 0 ≤ vow ∧ vow ≤ 3) {s : Nat} (hs : 1 ≤ s ∧ s ≤ tN τ) {dr : Int} (hdr : 0 ≤ dr ∧ dr ≤ 1000000) (hT : cTx 0 τ M) (hS : cSc τ 0 ρ M) (hW : cWk τ vow heavy (ρ 83) M) (h103 : M 103 0 s = dr) : ∃ M', amD amGst D 24 [vR 2 2 0, vR 6 6 0, vI s] M = some (vI (amMin 1000000 (lfL τ ρ vow heavy s 101 0 + dr)), M') ∧ amSame fWr M M' := by
  obtain ⟨d, rfl⟩ := dS hD
  have hn := hτ.1
  rw [n_X2_dearOver, q_X2_dearOver_0, if_pos (by omega), c_thickAt (by omega) (by omega), amCI_s, (hS.1.2.2 s hs.1 hs.2).1]
  exact c_dearOverLoop (d := d) (by omega) hτ hN hh hv hs hdr 101 0 M (by omega) hT hS hW h103
theorem c_dearOver0 (hD : 1 ≤ D) {s : Int} (hs : s ≤ 0) : amD amGst D 24 [vR 2 2 0, vR 6 6 0, vI s] M = some (vI 0, M) := by
  obtain ⟨d, rfl⟩ := dS hD
  rw [n_X2_dearOver, q_X2_dearOver_0, if_neg (by omega)]
theorem r_leastLoop (hd : 3 ≤ d) (hτ : tOk τ) (hN : sOk τ N ρ) {p : Nat} (hp : p < tP τ) {s : Nat} (hs : 1 ≤ s ∧ s ≤ tN τ) : ∀ (k m : Nat) (M : AmM), m + k = 101 → rTx v τ M → rRow ρ M → ∃ M', e_X12_leastFor_3 d (p : Int) (s : Int) (gonS (tN τ) ρ) (m : Int) M = some (vI (lfL τ ρ (tV τ p) (tW τ p) s k m), M') ∧ amSame fRw M M'
  | 0, m, M, h, hT, hR => by
    have hn := hτ.1
    have hv := hT.1
    have b1 := hN.1 s hs.1 hs.2
    have b2 := hτ.2.1 s hs.1 hs.2
    have e : ((s : Nat) : Int).toNat = s := rfl
    have e2 : (((25 * v + s : Nat) : Int)).toNat = 25 * v + s := rfl
    refine ⟨M, ?_, amSame.refl⟩
    rw [q_X12_leastFor_3, e, if_pos (show (0 : Int) ≤ (s : Int) ∧ (s : Int) < 100 by omega), r_25v hT (by omega), e2, if_pos (show (0 : Int) ≤ ((25 * v + s : Nat) : Int) ∧ ((25 * v + s : Nat) : Int) < 50 by omega), hT.2.2.2.1 s hs.1 hs.2, hR s (by omega), w32_id (x := ρ s + (m : Int)) (by omega) (by omega), if_pos (show tTh τ s < ρ s + (m : Int) by omega)]
    rfl
  | k + 1, m, M, h, hT, hR => by
    have hn := hτ.1
    have hv := hT.1
    have b1 := hN.1 s hs.1 hs.2
    have b2 := hτ.2.1 s hs.1 hs.2
    have e : ((s : Nat) : Int).toNat = s := rfl
    have e2 : (((25 * v + s : Nat) : Int)).toNat = 25 * v + s := rfl
    rw [q_X12_leastFor_3, e, if_pos (show (0 : Int) ≤ (s : Int) ∧ (s : Int) < 100 by omega), r_25v hT (by omega), e2, if_pos (show (0 : Int) ≤ ((25 * v + s : Nat) : Int) ∧ ((25 * v + s : Nat) : Int) < 50 by omega), hT.2.2.2.1 s hs.1 hs.2, hR s (by omega), w32_id (x := ρ s + (m : Int)) (by omega) (by omega)]
    unfold lfL
    by_cases h1 : tTh τ s < ρ s + (m : Int)
    · rw [if_pos h1, if_pos h1]
      exact ⟨M, rfl, amSame.refl⟩
    · obtain ⟨M1, m1, m2⟩ := r_behind (D := d) (v := v) (s := (s : Int)) (gone := gonS (tN τ) ρ) (up := 0) (t := ρ s + (m : Int)) (by omega) hτ (Or.inl rfl) hp hN.2.2.2.1 (by omega) hT (hR 83 (by omega))
      rw [if_neg h1, if_neg h1, if_pos (show (0 : Int) ≤ (s : Int) ∧ (s : Int) < 100 by omega), m1, amCI_s]
      by_cases h2 : lbS τ (tV τ p) (tW τ p) (ρ 83) s (gonS (tN τ) ρ) 0 (ρ s + (m : Int)) < 0
      · obtain ⟨M2, k1, k2⟩ := r_leastLoop hd hτ hN hp hs k (m + 1) M1 (by omega) (hT.ro (m2.mono fRw_fRo)) (fun j hj => by rw [m2 160 0 j (by rfl)]; exact hR j hj)
        rw [if_pos h2, if_pos h2, w32_n (x := (m : Int) + 1) (n := m + 1) (by omega) (by omega)]
        exact ⟨M2, k1, m2.trans k2⟩
      · rw [if_neg h2, if_neg h2]
        exact ⟨M1, rfl, m2⟩
theorem r_leastFor (hD : 4 ≤ D) (hτ : tOk τ) (hN : sOk τ N ρ) {p : Nat} (hp : p < tP τ) {s : Nat} (hs : 1 ≤ s ∧ s ≤ tN τ) (hT : rTx v τ M) (hR : rRow ρ M) : ∃ M', amD amGst D 228 [vR 12 12 0, vI p, vI s, vI (gonS (tN τ) ρ)] M = some (vI (lfL τ ρ (tV τ p) (tW τ p) s 101 0), M') ∧ amSame fRw M M' := by
  obtain ⟨d, rfl⟩ := dS hD
  rw [n_X12_leastFor, q_X12_leastFor_0]
  exact r_leastLoop (d := d) (v := v) (by omega) hτ hN hp hs 101 0 M (by omega) hT hR
end LF
