/-! PURE: the class's walkers, on -/
/-- the top bit of a small number, by leading zeros -/
def nlzE (x : Int) : Int := if x < 16 then (if x < 4 then w32 (31 - (bUsh x 1)) else w32 ((w32 (31 + (-2))) - (bUsh (bUsh x 2) 1))) else (if bUsh x 4 < 4 then w32 ((w32 (31 + (-4))) - (bUsh (bUsh x 4) 1)) else w32 ((w32 ((w32 (31 + (-4))) + (-2))) - (bUsh (bUsh (bUsh x 4) 2) 1)))
theorem nlzE_n : ∀ x : Nat, x < 256 → 1 ≤ x → w32 (31 - nlzE (x : Int)) = ((Nat.log2 x : Nat) : Int) := by decide +kernel
theorem top_bit : ∀ x : Nat, x < 256 → 1 ≤ x → Nat.testBit x (Nat.log2 x) = true ∧ Nat.log2 x < 8 ∧ clrN x (Nat.log2 x) < x ∧ ∀ q : Nat, q < 8 → Nat.log2 x < q → Nat.testBit x q = false := by decide +kernel
section TLD
variable {D d v : Nat} {τ : Tx} {ρ : Rw} {M : AmM} {N n r : Nat}
theorem c_nlz (hD : 1 ≤ D) {x : Nat} (h0 : 1 ≤ x) (h1 : x < 256) : amD amGst D 243 [vI (x : Int)] M = some (vI (nlzE (x : Int)), M) := by
  obtain ⟨d, rfl⟩ := dS hD
  rw [n_J6_numberOfLeadingZeros_0f7a4, q_J6_numberOfLeadingZeros_0f7a4_0, if_pos (show (0 : Int) < (x : Int) by omega), if_pos (show (x : Int) < 65536 by omega), q_J6_numberOfLeadingZeros_0f7a4_33, if_pos (show (x : Int) < 256 by omega)]
  unfold nlzE
  by_cases h : (x : Int) < 16
  · rw [if_pos h, if_pos h, q_J6_numberOfLeadingZeros_0f7a4_61]
    by_cases h4 : (x : Int) < 4
    · rw [if_pos h4, if_pos h4]
    · rw [if_neg h4, if_neg h4]
  · rw [if_neg h, if_neg h, q_J6_numberOfLeadingZeros_0f7a4_61]
    by_cases h4 : bUsh (x : Int) 4 < 4
    · rw [if_pos h4, if_pos h4]
    · rw [if_neg h4, if_neg h4]
/-- what walking all sets changes -/
def fTl : Nat → Nat → Nat → Bool := fun c s j => fTh 54 c s j || c == 124 || (c == 9 && j == 7)
theorem fTh_fTl : ∀ c s j, fTh 54 c s j = true → fTl c s j = true := fun c s j h => by unfold fTl; rw [h]; rfl
theorem fSt_fTl : ∀ c s j, fSt 54 c s j = true → fTl c s j = true := fun c s j h => fTh_fTl c s j (by
  unfold fSt at h
  unfold fTh
  rw [h]
  simp)
theorem fBh_fTl {s : Nat} : ∀ c r j, fBh s c r j = true → fTl c r j = true := fun c r j h => by
  unfold fBh at h
  simp only [Bool.and_eq_true, beq_iff_eq] at h
  unfold fTl
  rw [h.1]
  simp
theorem sTx_fTl : ∀ c s j, sTx 0 c s j = true → fTl c s j = false := fun c s j hc => by
  unfold sTx at hc
  simp only [Bool.and_eq_true, Bool.or_eq_true, beq_iff_eq] at hc
  obtain ⟨rfl, hc⟩ := hc
  rcases hc with ((((((rfl | rfl) | rfl) | rfl) | rfl) | rfl) | rfl) <;> rfl
theorem cTx.tl {M' : AmM} (h : cTx 0 τ M) (hs : amSame fTl M M') : cTx 0 τ M' := h.mv fun c s j hc => hs _ _ _ (sTx_fTl c s j hc)
theorem c_sets (hD : 1 ≤ D) (hτ : tOk τ) (hT : cTx 0 τ M) : amD amGst D 92 [vR 9 9 0] M = some (vI ((2 ^ tP τ : Nat) : Int), M) := by
  obtain ⟨d, rfl⟩ := dS hD
  have hP := hτ.2.2.2.2.2.2.1
  rw [n_X9_sets, q_X9_sets_0, hT.2.2.2.2.1, bShl1 _ (by omega)]
theorem pw8 (hτ : tOk τ) : 2 ^ tP τ ≤ 256 := by
  have hP := hτ.2.2.2.2.2.2.1
  have : (2 : Nat) ^ tP τ ≤ 2 ^ 8 := Nat.pow_le_pow_right (by omega) hP
  exact this
def cWr (τ : Tx) (m : Nat) (M : AmM) : Prop := ∀ s, s < m → ∀ j, 1 ≤ j → j ≤ tN τ → M 124 0 (26 * s + j) = wrkS τ s j
theorem cWr.mv {m : Nat} {M' : AmM} (h : cWr τ m M) (hs : ∀ j, M' 124 0 j = M 124 0 j) : cWr τ m M' := fun s a j b c => (hs _).trans (h s a j b c)
theorem c_walkSet (hd : 6 ≤ d) (hτ : tOk τ) {s : Nat} (h1 : 1 ≤ s) (h2 : s < 2 ^ tP τ) {B : Rw} (hB : ∀ j, 1 ≤ j → j ≤ tN τ → 0 ≤ B j) {u : AmV} (hT : cTx 0 τ M) (hS : cTs (tN τ) 54 B M) (hW : cWr τ s M) : ∃ (M' : AmM) (u' : AmV), e_X9_walkAllSets_23 d (s : Int) u M = e_X9_walkAllSets_23 d ((s + 1 : Nat) : Int) u' M' ∧ amSame fTl M M' ∧ cTs (tN τ) 54 (wrkS τ s) M' ∧ cWr τ (s + 1) M' ∧ M' 9 0 7 = M 9 0 7 := by
  have hn := hτ.1
  have h8 := pw8 hτ
  have hs : s < 256 := by omega
  obtain ⟨b1, b2, b3, b4⟩ := top_bit s hs h1
  have hl : Nat.log2 s < tP τ := by
    by_cases hl : Nat.log2 s < tP τ
    · exact hl
    · have h5 : (2 : Nat) ^ tP τ ≤ 2 ^ Nat.log2 s := Nat.pow_le_pow_right (by omega) (by omega)
      rw [Nat.testBit_lt_two_pow (by omega)] at b1
      cases b1
  have b5 : ∀ q, Nat.log2 s < q → s.testBit q = false := fun q hq => by
    by_cases hq8 : q < 8
    · exact b4 q hq8 hq
    · have h5 : (2 : Nat) ^ 8 ≤ 2 ^ q := Nat.pow_le_pow_right (by omega) (by omega)
      have h6 : (2 : Nat) ^ 8 = 256 := rfl
      exact Nat.testBit_lt_two_pow (by omega)
  obtain ⟨w1, w2, w3⟩ := wrkS_last hτ hl hs b1 b5
  have hA := (wrkS_H hτ (clrN s (Nat.log2 s))).1.1
  obtain ⟨M1, r1, r2, r3⟩ := c_readRow (D := d) (s := clrN s (Nat.log2 s)) (A := wrkS τ (clrN s (Nat.log2 s))) (by omega) hτ (clrN_lt hs) (fun j a b => (hA j a b).1) hB hT hS (hW _ b3)
  have hT1 : cTx 0 τ M1 := hT.tl (r2.mono fSt_fTl)
  obtain ⟨M2, o, t1, t2, t3⟩ := c_throughT (D := d) (r := 54) (by omega) hτ hT1 hl r3 w2 w3
  rw [← w1] at t3
  have hT2 : cTx 0 τ M2 := hT1.tl (t2.mono fTh_fTl)
  obtain ⟨M3, q1, q2, q3⟩ := c_writeRow (D := d) (s := s) (by omega) hτ hs hT2 t3
  refine ⟨M3, vI ((Nat.log2 s : Nat) : Int), ?_, ((r2.mono fSt_fTl).trans (t2.mono fTh_fTl)).trans (q2.mono fBh_fTl), t3.mv (fun j => q2 6 54 j (by rfl)) (fun j => q2 112 54 j (by rfl)), fun s' a j b c => ?_, ?_⟩
  · rw [q_X9_walkAllSets_23, c_sets (by omega) hτ hT, amCI_s, if_pos (by omega), c_nlz (by omega) h1 hs, amCI_s, nlzE_n s hs h1, bClr s hs _ b2, r1, amCV_s, t1, amCI_s, q1, amCV_s, w32_n (x := (s : Int) + 1) (n := s + 1) (by omega) (by omega)]
  · by_cases e : s' = s
    · subst e; exact q3 j b c
    · rw [q2 124 0 _ (by
        unfold fBh
        rw [show Nat.ble (26 * s) (26 * s' + j) = false from ble_f (by omega)]
        rfl), t2 124 0 _ (by rfl), r2 124 0 _ (by rfl)]
      exact hW s' (by omega) j b c
  · rw [q2 9 0 7 (by rfl), t2 9 0 7 (by rfl), r2 9 0 7 (by rfl)]
theorem c_walkLoop (hd : 6 ≤ d) (hτ : tOk τ) : ∀ (k s : Nat) (B : Rw) (u : AmV) (M : AmM), s + k = 2 ^ tP τ → 1 ≤ s → (∀ j, 1 ≤ j → j ≤ tN τ → 0 ≤ B j) → cTx 0 τ M → cTs (tN τ) 54 B M → cWr τ s M → ∃ M', e_X9_walkAllSets_23 d (s : Int) u M = some (vU, M') ∧ amSame fTl M M' ∧ cWr τ (2 ^ tP τ) M' ∧ M' 9 0 7 = M 9 0 7
  | 0, s, B, u, M, h, h1, hB, hT, hS, hW => by
    have h : s = 2 ^ tP τ := h
    refine ⟨M, ?_, amSame.refl, by rw [← h]; exact hW, rfl⟩
    rw [q_X9_walkAllSets_23, c_sets (by omega) hτ hT, amCI_s, if_neg (by omega)]
  | k + 1, s, B, u, M, h, h1, hB, hT, hS, hW => by
    obtain ⟨M1, u1, a1, a2, a3, a4, a5⟩ := c_walkSet hd hτ h1 (by omega) hB (u := u) hT hS hW
    obtain ⟨M2, b1, b2, b3, b4⟩ := c_walkLoop hd hτ k (s + 1) (wrkS τ s) u1 M1 (by omega) (by omega) (fun j p q => ((wrkS_H hτ s).1.1 j p q).1) (hT.tl a2) a3 a4
    exact ⟨M2, a1.trans b1, a2.trans b2, b3, b4.trans a5⟩
theorem c_walkAll (hD : 7 ≤ D) (hτ : tOk τ) (hT : cTx 0 τ M) : ∃ M', amD amGst D 94 [vR 9 9 0] M = some (vU, M') ∧ amSame fTl M M' ∧ cWr τ (2 ^ tP τ) M' ∧ M' 9 0 7 = 1 := by
  obtain ⟨d, rfl⟩ := dS hD
  have s0 : amSame fTl M (amUp M 9 0 7 1) := amSame.refl.up (by rfl)
  have hT0 := hT.tl s0
  obtain ⟨M1, a1, a2, a3⟩ := c_build (D := d) (r := 54) (by omega) hτ hT0
  have hT1 := hT0.tl (a3.mono fSt_fTl)
  obtain ⟨M2, b1, b2, b3⟩ := c_writeRow (D := d) (s := 0) (by omega) hτ (by omega) hT1 a2.ts
  have hT2 := hT1.tl (b2.mono fBh_fTl)
  have hpos : 1 ≤ 2 ^ tP τ := Nat.one_le_two_pow
  obtain ⟨M3, c1, c2, c3, c4⟩ := c_walkLoop (d := d) (by omega) hτ (2 ^ tP τ - 1) 1 (bgS τ) vU M2 (by omega) (by omega) (fun j p q => ((bgS_H hτ).1.1 j p q).1) hT2 (a2.ts.mv (fun j => b2 6 54 j (by rfl)) (fun j => b2 112 54 j (by rfl))) (fun s' a j b c => by
    have e : s' = 0 := by omega
    subst e
    rw [wrkS_0]
    exact b3 j b c)
  refine ⟨M3, ?_, ((s0.trans (a3.mono fSt_fTl)).trans (b2.mono fBh_fTl)).trans c2, c3, ?_⟩
  · rw [n_X9_walkAllSets, q_X9_walkAllSets_0, a1, amCV_s]
    rw [show ((0 : Nat) : Int) = 0 from rfl] at b1
    rw [b1, amCV_s]
    exact c1
  · rw [c4, b2 9 0 7 (by rfl), a3 9 0 7 (by rfl), up_on]
end TLD
