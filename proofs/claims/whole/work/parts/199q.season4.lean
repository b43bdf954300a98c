/-! PURE: the reference's season, day by day -/
theorem dayS_more {τ : Tx} {i : Nat} : ∀ (k p m : Nat) (ρ : Rw) (o : Nt), tP τ ≤ p + k → dayS τ i (k + m) p ρ o = dayS τ i k p ρ o
  | 0, p, m, ρ, o, h => by
    rw [dayS_rest (0 + m) p ρ o (by omega)]; rfl
  | k + 1, p, m, ρ, o, h => by
    rw [show k + 1 + m = k + m + 1 by omega]
    unfold dayS
    rw [dayS_more k (p + 1) m _ _ (by omega), dayS_more k (p + 1) m ρ o (by omega)]
theorem ntO_b {i : Nat} {s b : Int} {o : Nt} {x : Nat × Int × Int} (h : ntO i s b o = some x) : o = some x ∨ x.1 = i := by
  cases o with
  | some y => exact Or.inl h
  | none =>
    have h : (if s < 0 then none else some (i, s, b)) = some x := h
    by_cases hs : s < 0
    · rw [if_pos hs] at h; cases h
    · rw [if_neg hs] at h; cases h; exact Or.inr rfl
theorem dayS_b {τ : Tx} {i : Nat} {x : Nat × Int × Int} : ∀ (k p : Nat) (ρ : Rw) (o : Nt), (dayS τ i k p ρ o).2 = some x → o = some x ∨ x.1 = i
  | 0, _, _, _, h => Or.inl h
  | k + 1, p, ρ, o, h => by
    unfold dayS at h
    split at h
    · rcases dayS_b k (p + 1) _ _ h with h | h
      · exact ntO_b h
      · exact Or.inr h
    · exact dayS_b k (p + 1) ρ o h
theorem seaS_b {τ : Tx} {x : Nat × Int × Int} : ∀ (k i : Nat) (ρ : Rw) (o : Nt), (seaS τ k i ρ o).2 = some x → o = some x ∨ x.1 < i + k
  | 0, _, _, _, h => Or.inl h
  | k + 1, i, ρ, o, h => by
    unfold seaS at h
    rcases seaS_b k (i + 1) _ _ h with h | h
    · unfold seaN at h
      rcases ntO_b h with h | h
      · rcases dayS_b 8 0 ρ o h with h | h
        · exact Or.inl h
        · exact Or.inr (by omega)
      · exact Or.inr (by omega)
    · exact Or.inr (by omega)
section SEC
variable {D d v : Nat} {τ : Tx} {ρ : Rw} {M : AmM} {N : Nat}
theorem sOk1_toN {B : Int} (h : sOk1 τ B ρ) : sOk τ (ρ 83).toNat ρ := by
  have h83 := h.2.2.2
  exact ⟨h.1, h.2.1, h.2.2.1, h83.1, by omega⟩
theorem f60_fRs : ∀ c s j : Nat, (c == 12 && (j == 60 || j == 61 || j == 62)) = true → fRs c s j = true := fun c s j h => by unfold fRs; rw [h]; exact Bool.or_true _
theorem f164_fRs : ∀ c s j : Nat, (c == 164) = true → fRs c s j = true := fun c s j h => by unfold fRs; rw [h]; simp
theorem f160_fRs : ∀ c s j : Nat, (c == 160) = true → fRs c s j = true := fun c s j h => fRo_fRs c s j (f160_fRo c s j h)
theorem rNow.rs {M' : AmM} (h : rNow ρ M) (hs : amSame fRs M M') : rNow ρ M' := h.mv fun j => hs 159 0 j (by rfl)
theorem rRow.n60 {M' : AmM} (h : rRow ρ M) (hs : amSame (fun c s j => c == 12 && (j == 60 || j == 61 || j == 62)) M M') : rRow ρ M' := fun j hj => (hs 160 0 j (by rfl)).trans (h j hj)
theorem rNt.ro {day0 : Int} {o : Nt} {M' : AmM} (h : rNt day0 o M) (hs : amSame fRo M M') : rNt day0 o M' := h.mv fun j h1 h2 => hs 12 0 j (by
  have : j = 60 ∨ j = 61 ∨ j = 62 := by omega
  rcases this with rfl | rfl | rfl <;> rfl)
theorem r_dayLoop (hd : 6 ≤ d) (hτ : tOk τ) {i : Nat} {n w day0 B : Int} (hd0 : 0 ≤ day0) : ∀ (k p : Nat) (ρ : Rw) (o : Nt) (M : AmM), p + k = tP τ → ρ 83 = day0 + i → sOk1 τ B ρ → s66 τ ρ → rTx v τ M → rRow ρ M → rNt day0 o M → ∃ M', e_X12_season_40 d n w (i : Int) (p : Int) M = e_X12_season_40 d n w (i : Int) (tP τ : Int) M' ∧ amSame fRs M M' ∧ rRow (dayS τ i k p ρ o).1 M' ∧ rNt day0 (dayS τ i k p ρ o).2 M' ∧ sOk1 τ B (dayS τ i k p ρ o).1 ∧ s66 τ (dayS τ i k p ρ o).1 ∧ (dayS τ i k p ρ o).1 83 = day0 + i
  | 0, p, ρ, o, M, h, h83, hN, h66, hT, hR, ho => by
    have h : p = tP τ := h
    subst h
    exact ⟨M, rfl, amSame.refl, hR, ho, hN, h66, h83⟩
  | k + 1, p, ρ, o, M, h, h83, hN, h66, hT, hR, ho => by
    have hP := hτ.2.2.2.2.2.2.1
    have hp : p < tP τ := by omega
    have e50 : (((50 + p : Nat) : Int)).toNat = 50 + p := rfl
    rw [q_X12_season_40, r_many (by omega) hT, amCI_s, if_pos (show (p : Int) < ((tP τ : Nat) : Int) by omega), w32_n (x := 50 + (p : Int)) (n := 50 + p) (by omega) (by omega), e50, hR (50 + p) (by omega), w32_n (x := (p : Int) + 1) (n := p + 1) (by omega) (by omega), if_pos (show (0 : Int) ≤ ((50 + p : Nat) : Int) ∧ ((50 + p : Nat) : Int) < 100 by omega)]
    unfold dayS
    by_cases hg : ρ (50 + p) = 0
    · have h74 := (hN.2.1 p hp).2.2 hg
      have hT0 : rTx v τ (amUp M 12 0 51 (-1)) := hT.ro (amSame.refl.up (by rfl))
      have hR0 : rRow ρ (amUp M 12 0 51 (-1)) := fun j hj => (up_c (by decide)).trans (hR j hj)
      obtain ⟨M1, a1, a2, a3, a4⟩ := r_sendsF (D := d) (by omega) hτ hT0 hR0 hN.1 hN.2.2.2.1 hp h74 (h66 p hp) up_on
      have s1 : amSame fRo M M1 := (amSame.refl.up (by rfl)).trans a2
      have g83 : goS τ ρ p 83 = day0 + i := (goS_83 (by omega)).trans h83
      obtain ⟨M2, b1, b2, b3⟩ := r_notesP (D := d) (p := p) (by omega) hτ (hT.ro s1) a3 hd0 g83 (ho.ro s1)
      rw [a4] at b2
      have s2 : amSame fRs M M2 := (s1.mono fRo_fRs).trans (b3.mono f60_fRs)
      obtain ⟨M3, c1, c2, c3⟩ := r_dayLoop hd hτ hd0 k (p + 1) (goS τ ρ p) (ntO i (goR τ ρ p).2.2.2.2 p o) M2 (by omega) g83 (goS_ok1 hτ hN hp) (h66.go hτ hp) (hT.rs s2) (a3.n60 b3) b2
      rw [if_pos hg, if_pos (⟨hp, hg⟩ : p < tP τ ∧ ρ (50 + p) = 0), a1, amCI_s, b1, amCV_s]
      exact ⟨M3, c1, s2.trans c2, c3⟩
    · rw [if_neg hg, if_neg (fun q : p < tP τ ∧ ρ (50 + p) = 0 => hg q.2)]
      exact r_dayLoop hd hτ hd0 k (p + 1) ρ o M (by omega) h83 hN h66 hT hR ho
/-- a day, and its night -/
theorem r_seaDay (hd : 6 ≤ d) (hτ : tOk τ) {i : Nat} {n w day0 B : Int} (hi : i < 1000) (hd0 : 0 ≤ day0) (hB : B ≤ 1000000) {o : Nt} (h83 : ρ 83 = day0 + i) (hN : sOk1 τ B ρ) (h66 : s66 τ ρ) (hT : rTx v τ M) (hR : rRow ρ M) (ho : rNt day0 o M) : ∃ (M' : AmM) (u : AmV), e_X12_season_40 d n w (i : Int) 0 M = e_X12_season_32 d n w ((i + 1 : Nat) : Int) u M' ∧ amSame fRs M M' ∧ rRow (ntS τ (dayS τ i 8 0 ρ o).1) M' ∧ rNt day0 (seaN τ i (dayS τ i 8 0 ρ o)) M' ∧ sOk1 τ (B + 1) (ntS τ (dayS τ i 8 0 ρ o).1) ∧ s66 τ (ntS τ (dayS τ i 8 0 ρ o).1) ∧ ntS τ (dayS τ i 8 0 ρ o).1 83 = day0 + ((i + 1 : Nat) : Int) := by
  have hP := hτ.2.2.2.2.2.2.1
  have hn := hτ.1
  obtain ⟨M1, a1, a2, a3, a4, a5, a6, a7⟩ := r_dayLoop (i := i) (n := n) (w := w) hd hτ hd0 (tP τ) 0 ρ o M (by omega) h83 hN h66 hT hR ho
  have ed : dayS τ i 8 0 ρ o = dayS τ i (tP τ) 0 ρ o := by
    have := dayS_more (τ := τ) (i := i) (tP τ) 0 (8 - tP τ) ρ o (by omega)
    rw [show tP τ + (8 - tP τ) = 8 by omega] at this
    exact this
  rw [← ed] at a3 a4 a5 a6 a7
  generalize dayS τ i 8 0 ρ o = y at a3 a4 a5 a6 a7
  have hB2 := a5.2.2.2.2
  have hT1 := hT.rs a2
  obtain ⟨M2, b1, b2, b3⟩ := r_marks (D := d) (by omega) hτ hT1 a3
  have hT2 := hT1.rs (b2.mono f164_fRs)
  have hR2 : rRow y.1 M2 := fun j hj => (b2 160 0 j (by rfl)).trans (a3 j hj)
  obtain ⟨M3, c1, c2, c3⟩ := r_nightGoes (D := d) (by omega) hτ hB a5 hT2 hR2
  have c83 : M3 160 0 83 = day0 + i + 1 := by
    rw [c2 83 (by omega)]
    show y.1 83 + 1 = _
    rw [a7]
  have ew : w32 (day0 + i + 1 - 1) = day0 + i := by
    rw [show day0 + (i : Int) + 1 - 1 = day0 + i by omega]
    exact w32_id (by omega) (by omega)
  have s4 : amSame fRs M3 (amUp M3 160 0 83 (day0 + i)) := amSame.refl.up (by rfl)
  have hT4 := (hT2.rs (c3.mono f160_fRs)).rs s4
  have hR4 : rRow (rUp (ntS τ y.1) 83 (day0 + i)) (amUp M3 160 0 83 (day0 + i)) := fun j hj => by
    rw [up_at]
    unfold rUp
    split
    · rfl
    · exact c2 j hj
  have ho4 : rNt day0 y.2 (amUp M3 160 0 83 (day0 + i)) := a4.mv fun j _ _ => by rw [up_c (by decide), c3 12 0 j (by rfl), b2 12 0 j (by rfl)]
  have hu := rainS_b hτ a5.2.2.2.1
  obtain ⟨M5, f1, f2, f3⟩ := r_notesN (D := d) (i := i) (u := rainS τ (y.1 83)) (ρ0 := y.1) (by omega) hτ hT4 hd0 (fun s h1 h2 => by
    refine ⟨(a5.1 s h1 h2).1, ?_, ?_⟩
    · rw [rUp_ne (by omega)]
      unfold ntS
      rw [if_neg (by omega), if_neg (by omega)]
      unfold rnR
      rw [if_pos ⟨h1, h2⟩]
    · rw [up_c (by decide), c3 164 0 s (by rfl)]
      exact b3 s h1 h2) hR4 rUp_on ho4
  have f83 : M5 160 0 83 = day0 + i := by rw [f3 160 0 83 (by rfl), up_on]
  have ew2 : w32 (day0 + i + 1) = day0 + i + 1 := w32_id (by omega) (by omega)
  refine ⟨amUp M5 160 0 83 (day0 + i + 1), vI (tP τ), ?_, ?_, ?_, ?_, ntS_ok hτ a5, a6.nt hτ, ?_⟩
  · have e83 : (83 : Int).toNat = 83 := rfl
    rw [show ((0 : Nat) : Int) = 0 from rfl] at a1
    rw [a1, q_X12_season_40, r_many (by omega) hT1, amCI_s, if_neg (by omega), b1, amCV_s, c1, amCV_s, if_pos ⟨by omega, by omega⟩, if_pos ⟨by omega, by omega⟩, c83, ew, f1, amCV_s, if_pos ⟨by omega, by omega⟩, if_pos ⟨by omega, by omega⟩, f83, ew2, w32_n (x := (i : Int) + 1) (n := i + 1) (by omega) (by omega)]
  · exact (((((a2.trans (b2.mono f164_fRs)).trans (c3.mono f160_fRs)).trans s4).trans (f3.mono f60_fRs)).up (by rfl))
  · intro j hj
    rw [up_at]
    split
    · rename_i h; subst h
      show _ = y.1 83 + 1
      rw [a7]
    · rename_i h
      rw [f3 160 0 j (by rfl), hR4 j hj, rUp_ne h]
  · unfold seaN
    exact f2.mv fun j _ _ => up_c (by decide)
  · show y.1 83 + 1 = _
    rw [a7]
    omega
theorem r_seaLoop (hd : 6 ≤ d) (hτ : tOk τ) {n : Nat} {w day0 B : Int} (hn : n ≤ 100) (hB : B ≤ 900000) (hd0 : 0 ≤ day0) : ∀ (k i : Nat) (ρ : Rw) (o : Nt) (u4 : AmV) (M : AmM), i + k = n → ρ 83 = day0 + i → sOk1 τ (B + i) ρ → s66 τ ρ → rTx v τ M → rRow ρ M → rNt day0 o M → ∃ (M' : AmM) (u : AmV), e_X12_season_32 d (n : Int) w (i : Int) u4 M = e_X12_season_32 d (n : Int) w (n : Int) u M' ∧ amSame fRs M M' ∧ rRow (seaS τ k i ρ o).1 M' ∧ rNt day0 (seaS τ k i ρ o).2 M' ∧ sOk1 τ (B + n) (seaS τ k i ρ o).1
  | 0, i, ρ, o, u4, M, h, h83, hN, h66, hT, hR, ho => by
    have h : i = n := h
    subst h
    exact ⟨M, u4, rfl, amSame.refl, hR, ho, hN⟩
  | k + 1, i, ρ, o, u4, M, h, h83, hN, h66, hT, hR, ho => by
    obtain ⟨M1, u1, a1, a2, a3, a4, a5, a6, a7⟩ := r_seaDay (n := (n : Int)) (w := w) hd hτ (show i < 1000 by omega) hd0 (show B + (i : Int) ≤ 1000000 by omega) h83 hN h66 hT hR ho
    obtain ⟨M2, u2, b1, b2, b3⟩ := r_seaLoop hd hτ (w := w) hn hB hd0 k (i + 1) _ _ u1 M1 (by omega) a7 (by
      rw [show B + ((i + 1 : Nat) : Int) = B + (i : Int) + 1 by omega]
      exact a5) a6 (hT.rs a2) a3 a4
    refine ⟨M2, u2, ?_, a2.trans b2, b3⟩
    rw [q_X12_season_32, if_pos (show (i : Int) < (n : Int) by omega), a1]
    exact b1
theorem r_season (hD : 7 ≤ D) (hτ : tOk τ) (hN5 : N ≤ 1000) (hN : sOk τ N ρ) (h66 : s66 τ ρ) (hT : rTx v τ M) (hS : rNow ρ M) {n w : Int} : ∃ M', amD amGst D 226 [vR 12 12 0, vI n, vI w] M = some (vI (seasonS τ ρ n w), M') ∧ amSame fRs M M' := by
  obtain ⟨d, rfl⟩ := dS hD
  rw [n_X12_season, q_X12_season_0]
  unfold seasonS
  by_cases h1 : 1 ≤ n ∧ n ≤ 100
  · rw [r_inY (by omega) h1, amCI_s, if_neg (show ¬ (1 : Int) = 0 by decide)]
    by_cases h2 : 0 ≤ w ∧ w ≤ 3
    · rw [r_inY (by omega) h2, amCI_s, if_neg (show ¬ (1 : Int) = 0 by decide), if_pos ⟨h1, h2⟩]
      obtain ⟨M1, a1, a2, a3⟩ := r_takes (D := d) (by omega) hS
      have h83 := hN.2.2.2
      have s1 : amSame fRs M (amUp M1 12 0 60 (-1)) := (a3.mono f160_fRs).up (by rfl)
      have hT1 := hT.rs s1
      have hS1 := hS.rs s1
      have hR1 : rRow ρ (amUp M1 12 0 60 (-1)) := fun j hj => (up_c (by decide)).trans (a2 j hj)
      obtain ⟨M2, u2, b1, b2, b3, b4, b5⟩ := r_seaLoop (n := n.toNat) (w := w) (B := 100 * (N : Int)) (d := d) (by omega) hτ (by omega) (by omega) h83.1 n.toNat 0 ρ none vU (amUp M1 12 0 60 (-1)) (by omega) (by omega) (by
        have := hN.one
        rw [show 100 * (N : Int) + ((0 : Nat) : Int) = 100 * (N : Int) by omega]
        exact this) h66 hT1 hR1 up_on
      rw [show ((n.toNat : Nat) : Int) = n by omega] at b1 b5
      rw [a1, amCV_s]
      have hT2 := hT1.rs b2
      have hS2 := hS1.rs b2
      rw [show ((0 : Nat) : Int) = 0 from rfl] at b1
      refine ⟨M2, ?_, s1.trans b2⟩
      rw [b1, q_X12_season_32, if_neg (show ¬ n < n by omega)]
      have hyb := fun x => seaS_b (τ := τ) (x := x) n.toNat 0 ρ none
      generalize seaS τ n.toNat 0 ρ none = y at b3 b4 b5 hyb
      obtain ⟨y1, y2⟩ := y
      by_cases w3 : w = 3
      · obtain ⟨d', e'⟩ := dS (show 1 + 1 ≤ d by omega)
        have hst : amD amGst d 227 [vR 12 12 0] M2 = some (vI (sumS (fun p => y1 (74 + p)) (tP τ)), M2) := by
          rw [e', n_X12_stuckNow, q_X12_stuckNow_0]
          exact r_stuckLoop (by omega) hτ (sOk1_toN b5) hT2 b3 (tP τ) 0 (by omega)
        rw [if_pos w3, if_pos w3, hst, amCI_s]
      · rw [if_neg w3, if_neg w3]
        cases y2 with
        | none =>
          have h4 : M2 12 0 60 = -1 := b4
          rw [h4, if_pos (show (-1 : Int) < 0 by omega)]; rfl
        | some x =>
          obtain ⟨x1, x2, x3⟩ := x
          have e83 : (83 : Int).toNat = 83 := rfl
          have h4 : M2 12 0 60 = ρ 83 + (x1 : Int) := b4.1
          have x1b : w32 (ρ 83 + (x1 : Int) - ρ 83) = w32 (x1 : Int) := by rw [show ρ 83 + (x1 : Int) - ρ 83 = (x1 : Int) by omega]
          rw [h4, if_neg (by omega), hS2 83 (by omega), x1b, b4.2.1, b4.2.2]
          have hx : x1 < 0 + n.toNat := by
            rcases hyb (x1, x2, x3) rfl with h | h
            · cases h
            · exact h
          by_cases w0 : w = 0
          · rw [if_pos w0, if_pos ⟨by omega, by omega⟩]
            exact congrArg (fun z => some (vI z, M2)) ((w32_id (by omega) (by omega)).trans (seaP_0 w0).symm)
          · rw [if_neg w0]
            by_cases w1 : w = 1
            · rw [if_pos w1]
              exact congrArg (fun z => some (vI z, M2)) (seaP_1 w0 w1).symm
            · rw [if_neg w1]
              exact congrArg (fun z => some (vI z, M2)) (seaP_2 w0 w1).symm
    · rw [r_inN (by omega) h2, amCI_s, if_pos (show (0 : Int) = 0 from rfl), if_neg (fun q => h2 q.2)]
      exact ⟨M, rfl, amSame.refl⟩
  · rw [r_inN (by omega) h1, amCI_s, if_pos (show (0 : Int) = 0 from rfl), if_neg (fun q => h1 q.1)]
    exact ⟨M, rfl, amSame.refl⟩
end SEC
