/-! PURE: carrying up, of both -/
section CR
variable {D d v r : Nat} {τ : Tx} {ρ : Rw} {M : AmM} {N : Nat} {vow heavy day : Int}
theorem hold1_rw {w : Int} {s : Nat} {x y : Wk} (h : x.1 = y.1) : (hold1 w s x).1 = (hold1 w s y).1 ∧ (hold1 w s x).2.1 = (hold1 w s y).2.1 := by
  obtain ⟨ρ, m, f⟩ := x
  obtain ⟨ρ', m', f'⟩ := y
  have h : ρ = ρ' := h
  subst h
  unfold hold1
  dsimp only
  split
  · exact ⟨rfl, rfl⟩
  · exact ⟨rfl, rfl⟩
theorem holdS_rw {up : Int} {s : Nat} : ∀ (k : Nat) (x y : Wk), x.1 = y.1 → (holdS τ vow heavy day up s k x).1 = (holdS τ vow heavy day up s k y).1 ∧ (holdS τ vow heavy day up s k x).2.1 = (holdS τ vow heavy day up s k y).2.1
  | 0, x, y, h => ⟨rfl, h⟩
  | k + 1, x, y, h => by
    have h1 := hold1_rw (w := wearS τ vow heavy s (x.1 s) day up (gonS (tN τ) x.1)) (s := s) h
    have e : wearS τ vow heavy s (y.1 s) day up (gonS (tN τ) y.1) = wearS τ vow heavy s (x.1 s) day up (gonS (tN τ) x.1) := by rw [h]
    unfold holdS
    rw [e]
    obtain ⟨b, x', hx⟩ : ∃ b x', hold1 (wearS τ vow heavy s (x.1 s) day up (gonS (tN τ) x.1)) s x = (b, x') := ⟨_, _, rfl⟩
    obtain ⟨b', y', hy⟩ : ∃ b x', hold1 (wearS τ vow heavy s (x.1 s) day up (gonS (tN τ) x.1)) s y = (b, x') := ⟨_, _, rfl⟩
    rw [hx, hy] at h1 ⊢
    obtain ⟨h2, h3⟩ := h1
    have h2 : b = b' := h2
    subst h2
    cases b with
    | false => exact ⟨rfl, h3⟩
    | true => exact holdS_rw k x' y' h3
theorem upS_rw : ∀ (k a : Nat) (x y : Wk), x.1 = y.1 → (upS τ vow heavy day k a x).1 = (upS τ vow heavy day k a y).1 ∧ (upS τ vow heavy day k a x).2.2.1 = (upS τ vow heavy day k a y).2.2.1
  | 0, a, x, y, h => ⟨rfl, h⟩
  | k + 1, a, x, y, h => by
    unfold upS
    rw [← h]
    dsimp only
    split
    · exact ⟨rfl, h⟩
    · split
      · exact ⟨rfl, h⟩
      · split
        · exact ⟨rfl, h⟩
        · have h1 := holdS_rw (τ := τ) (vow := vow) (heavy := heavy) (day := day) (up := 1) (s := nxU (tN τ) x.1 vow a) (kW vow) x y h
          obtain ⟨b, x', hx⟩ : ∃ b x', holdS τ vow heavy day 1 (nxU (tN τ) x.1 vow a) (kW vow) x = (b, x') := ⟨_, _, rfl⟩
          obtain ⟨b', y', hy⟩ : ∃ b x', holdS τ vow heavy day 1 (nxU (tN τ) x.1 vow a) (kW vow) y = (b, x') := ⟨_, _, rfl⟩
          rw [hx, hy] at h1 ⊢
          obtain ⟨h2, h3⟩ := h1
          have h2 : b = b' := h2
          subst h2
          cases b with
          | false => exact ⟨rfl, h3⟩
          | true => exact upS_rw k _ x' y' h3
/-- what a carrier makes of a row -/
def carS (τ : Tx) (heavy : Int) (ρ : Rw) : Nat × Nat × Wk := upS τ 0 heavy (ρ 83) 26 0 (ρ, 0, -1)
theorem c_carriesLoop (hd : 4 ≤ d) (hτ : tOk τ) (hh : 0 ≤ heavy ∧ heavy ≤ 2000) {l2 l3 : Int} : ∀ (k i a : Nat) (x : Wk) (M : AmM), i + k = 26 → a ≤ tN τ + 1 → M 10 0 4 = a → cTx 0 τ M → cWk τ 0 heavy day M → cX τ r x M → rOk τ x.1 →
    ∃ M', e_X10_carriesUp_10 d r l2 l3 (i : Int) M = some (vI (if (upS τ 0 heavy day k a x).1 = 0 then 1 else 0), M') ∧ amSame (fAd r) M M' ∧ ((upS τ 0 heavy day k a x).1 = 0 → cSt (tN τ) r (upS τ 0 heavy day k a x).2.2.1 M' ∧ rOk τ (upS τ 0 heavy day k a x).2.2.1)
  | 0, i, a, x, M, hik, ha, hsp, hT, hW, hX, hr => by
    refine ⟨M, ?_, amSame.refl, fun _ => ⟨hX.1, hr⟩⟩
    rw [q_X10_carriesUp_10, if_neg (by omega)]
    rfl
  | k + 1, i, a, x, M, hik, ha, hsp, hT, hW, hX, hr => by
    have hn := hτ.1
    by_cases htop : tN τ + 1 ≤ a
    · have e : upS τ 0 heavy day (k + 1) a x = (0, a, x) := by
        show (if tN τ + 1 ≤ a then (0, a, x) else _) = _
        rw [if_pos htop]
      rw [e]
      refine ⟨M, ?_, amSame.refl, fun _ => ⟨hX.1, hr⟩⟩
      rw [q_X10_carriesUp_10, if_pos (by omega), c_top (n := tN τ) (by omega) hn hX.1.1, amCI_s, if_neg (by omega)]
      rfl
    · have h1 : (1 : Int) = 1 ∧ a ≤ tN τ ∨ (1 : Int) = 0 ∧ 1 ≤ a ∧ a ≤ tN τ + 1 := Or.inl ⟨rfl, by omega⟩
      obtain ⟨M2, m1, m2, m3, m4⟩ := c_advance (D := d) (r := r) hd hτ hh (show (0 : Int) ≤ 0 ∧ (0 : Int) ≤ 3 by omega) hsp h1 hT hW hX hr
      have hok := advS_ok (vow := 0) (day := day) hτ hh h1 hr
      obtain ⟨s1, s2, s3⟩ := advS_sp (vow := 0) (heavy := heavy) (day := day) (x := x) h1
      have hU := upS_adv (vow := 0) (heavy := heavy) (day := day) (k := k) (x := x) (show a ≤ tN τ by omega)
      obtain ⟨c, to, x', hadv⟩ : ∃ c to x', advS τ 0 heavy day 1 a x = (c, to, x') := ⟨_, _, _, rfl⟩
      rw [hadv] at m1 m3 m4 hok s1 s2 s3 hU
      dsimp only at m1 m3 m4 hok s1 s2 s3
      have hE : e_X10_carriesUp_10 d r l2 l3 (i : Int) M = if (c : Int) = 0 then e_X10_carriesUp_10 d r l2 l3 ((i + 1 : Nat) : Int) M2 else some (vI 0, M2) := by
        rw [q_X10_carriesUp_10, if_pos (by omega), c_top (n := tN τ) (by omega) hn hX.1.1, amCI_s, if_pos (by omega), m1, amCI_s, w32_n (x := (i : Int) + 1) (n := i + 1) (by omega) (by omega)]
      have hb := nxU_b (n := tN τ) (ρ := x.1) (vow := 0) (show a ≤ tN τ by omega)
      rcases (show c = 0 ∨ c = 1 ∨ c = 2 by omega) with rfl | rfl | rfl
      · have hto : to = nxU (tN τ) x.1 0 a := by have := s1 rfl; rw [if_pos rfl] at this; exact this
        have hU : upS τ 0 heavy day (k + 1) a x = if to = tN τ + 1 then (0, to, x') else upS τ 0 heavy day k to x' := hU
        have e : (if to = tN τ + 1 then (0, to, x') else upS τ 0 heavy day k to x') = upS τ 0 heavy day k to x' := by
          by_cases h9 : to = tN τ + 1
          · rw [if_pos h9]
            cases k with
            | zero => rfl
            | succ k =>
              show _ = if tN τ + 1 ≤ to then (0, to, x') else _
              rw [if_pos (by omega)]
          · rw [if_neg h9]
        rw [if_pos (show (((0 : Nat) : Int)) = 0 from rfl)] at hE
        rw [hU, e, hE]
        obtain ⟨M3, k1, k2, k3⟩ := c_carriesLoop hd hτ hh (l2 := l2) (l3 := l3) k (i + 1) to x' M2 (by omega) (by omega) m4 (hT.th (m2.mono fAd_fTh)) (hW.ad m2) m3 hok
        exact ⟨M3, k1, m2.trans k2, k3⟩
      · have hU : upS τ 0 heavy day (k + 1) a x = (1, a, x') := hU
        rw [if_neg (show ¬ (((1 : Nat) : Int)) = 0 by decide)] at hE
        rw [hU, hE]
        exact ⟨M2, rfl, m2, fun h => by cases h⟩
      · have hU : upS τ 0 heavy day (k + 1) a x = (2, a, x') := hU
        rw [if_neg (show ¬ (((2 : Nat) : Int)) = 0 by decide)] at hE
        rw [hU, hE]
        exact ⟨M2, rfl, m2, fun h => by cases h⟩
theorem c_carriesUp (hD : 5 ≤ D) (hτ : tOk τ) (hh : 0 ≤ heavy ∧ heavy ≤ 2000) (hd83 : 0 ≤ ρ 83) (hday : ρ 83 = day) (hr : rOk τ ρ) (hT : cTx 0 τ M) (hS : cSt (tN τ) r ρ M) :
    ∃ M', amD amGst D 100 [vR 10 10 0, vR 6 6 r, vI heavy, vI day] M = some (vI (if (carS τ heavy ρ).1 = 0 then 1 else 0), M') ∧ amSame (fTh r) M M' ∧ ((carS τ heavy ρ).1 = 0 → cSt (tN τ) r (carS τ heavy ρ).2.2.1 M' ∧ rOk τ (carS τ heavy ρ).2.2.1) := by
  subst hday
  obtain ⟨d, rfl⟩ := dS hD
  obtain ⟨M1, m1, m2, m3, m4, m5, m6⟩ := c_beginAs (D := d) (heavy := heavy) (vow := 0) (day := ρ 83) (by omega) hτ hT hd83
  have hs1 : amSame (fTh r) M M1 := m2.mono fun c s j h => by
    unfold fTh
    simp only [Bool.or_eq_true] at h ⊢
    rcases h with h | h
    · exact Or.inl (Or.inl (Or.inl h))
    · exact Or.inl (Or.inl (Or.inr h))
  have hSt1 : cSt (tN τ) r ρ M1 := ⟨by rw [m2 _ _ _ (by rfl)]; exact hS.1, by rw [m2 _ _ _ (by rfl)]; exact hS.2.1, fun j a b => by rw [m2 _ _ _ (by rfl), m2 _ _ _ (by rfl)]; exact hS.2.2 j a b⟩
  have hX1 : cX τ r (ρ, 0, -1) M1 := ⟨hSt1, m5, m6, by show (-1 : Int) ≤ -1; omega⟩
  obtain ⟨M2, k1, k2, k3⟩ := c_carriesLoop (d := d) (r := r) (day := ρ 83) (l2 := heavy) (l3 := ρ 83) (by omega) hτ hh 26 0 0 (ρ, 0, -1) M1 (by omega) (by omega) m4 (hT.th hs1) m3 hX1 hr
  refine ⟨M2, ?_, hs1.trans (k2.mono fAd_fTh), k3⟩
  rw [n_X10_carriesUp, q_X10_carriesUp_0, m1, amCV_s]
  exact k1
theorem holdS_o50 {up : Int} {s j : Nat} (hs : s ≤ 24) (hj : 50 ≤ j) : ∀ (k : Nat) (x : Wk), (holdS τ vow heavy day up s k x).2.1 j = x.1 j
  | 0, x => rfl
  | k + 1, x => by
    have h1 : (hold1 (wearS τ vow heavy s (x.1 s) day up (gonS (tN τ) x.1)) s x).2.1 j = x.1 j := by
      unfold hold1
      dsimp only
      split
      · exact rUp_ne (by omega)
      · show rUp (rUp _ _ _) (25 + s) _ j = _
        rw [rUp_ne (by omega), rUp_ne (by omega)]
    unfold holdS
    obtain ⟨b, x', hx⟩ : ∃ b x', hold1 (wearS τ vow heavy s (x.1 s) day up (gonS (tN τ) x.1)) s x = (b, x') := ⟨_, _, rfl⟩
    rw [hx] at h1 ⊢
    have h1 : x'.1 j = x.1 j := h1
    cases b with
    | false => exact h1
    | true => exact (holdS_o50 hs hj k x').trans h1
theorem r_carriesLoop (hd : 3 ≤ d) (hτ : tOk τ) (hh : 0 ≤ heavy ∧ heavy ≤ 2000) (hday : 0 ≤ day) : ∀ (K a : Nat) (x : Wk) (M : AmM), tN τ + 1 ≤ a + K → a ≤ tN τ → rTx v τ M → rX x M → x.1 83 = day → rOk τ x.1 →
    ∃ M', e_X12_carries_2 d heavy ((a + 1 : Nat) : Int) M = some (vI (if (upS τ 0 heavy day K a x).1 = 0 then 1 else 0), M') ∧ amSame fRo M M' ∧ ((upS τ 0 heavy day K a x).1 = 0 → rRow (upS τ 0 heavy day K a x).2.2.1 M')
  | 0, a, x, M, h, ha, hT, hX, h83, hr => by omega
  | K + 1, a, x, M, h, ha, hT, hX, h83, hr => by
    have hn := hτ.1
    have hv := hT.1
    have e : ((v : Nat) : Int).toNat = v := rfl
    have e1 : (((a + 1 : Nat) : Int)).toNat = a + 1 := rfl
    have hnx : nxU (tN τ) x.1 0 a = a + 1 := by unfold nxU; rw [if_neg (by decide)]
    have hU : upS τ 0 heavy day (K + 1) a x = if tN τ + 1 ≤ a then (0, a, x) else if tN τ + 1 ≤ nxU (tN τ) x.1 0 a then (0, nxU (tN τ) x.1 0 a, x) else if x.1 (nxU (tN τ) x.1 0 a) ≤ 0 then (1, a, x) else match holdS τ 0 heavy day 1 (nxU (tN τ) x.1 0 a) (kW 0) x with
      | (false, x') => (2, a, x')
      | (true, x') => upS τ 0 heavy day K (nxU (tN τ) x.1 0 a) x' := rfl
    rw [hnx, if_neg (show ¬ tN τ + 1 ≤ a by omega)] at hU
    rw [q_X12_carries_2, hT.2.1, e, e1, hT.2.2.1, if_pos (show (0 : Int) ≤ (v : Int) ∧ (v : Int) < 2 by omega)]
    by_cases htop : tN τ < a + 1
    · rw [if_pos (by omega)] at hU
      rw [if_pos (by omega), hU]
      exact ⟨M, rfl, amSame.refl, fun _ => hX.1⟩
    · rw [if_neg (by omega)] at hU
      rw [if_neg (by omega), if_pos (show (0 : Int) ≤ ((a + 1 : Nat) : Int) ∧ ((a + 1 : Nat) : Int) < 100 by omega), hX.1 (a + 1) (by omega)]
      by_cases h0 : x.1 (a + 1) ≤ 0
      · rw [if_pos h0] at hU
        rw [if_pos (by omega), hU]
        exact ⟨M, rfl, amSame.refl, fun h => by cases h⟩
      · rw [if_neg h0] at hU
        obtain ⟨M1, m1, m2, m3⟩ := r_holds (D := d) (v := v) (vow := 0) (heavy := heavy) (day := day) (s := a + 1) (up := 1) (x := x) (by omega) hτ hh (by omega) hday ⟨by omega, by omega⟩ (Or.inr rfl) hT hX h83 hr
        have hoff := holdS_o50 (τ := τ) (vow := 0) (heavy := heavy) (day := day) (up := 1) (s := a + 1) (j := 83) (by omega) (by omega) (kW 0) x
        have hok := holdS_ok (τ := τ) (vow := 0) (day := day) (up := 1) (s := a + 1) hh ⟨by omega, by omega⟩ hn (kW 0) x hr
        rw [if_neg (by omega), m1, amCI_s]
        obtain ⟨b, x', hx⟩ : ∃ b x', holdS τ 0 heavy day 1 (a + 1) (kW 0) x = (b, x') := ⟨_, _, rfl⟩
        rw [hx] at hU m3 hoff hok ⊢
        cases b with
        | false =>
          have hU : upS τ 0 heavy day (K + 1) a x = (2, a, x') := hU
          rw [hU]
          exact ⟨M1, rfl, m2, fun h => by cases h⟩
        | true =>
          have hU : upS τ 0 heavy day (K + 1) a x = upS τ 0 heavy day K (a + 1) x' := hU
          have hoff : x'.1 83 = x.1 83 := hoff
          obtain ⟨M2, k1, k2, k3⟩ := r_carriesLoop hd hτ hh hday K (a + 1) x' M1 (by omega) (by omega) (hT.ro m2) m3 (hoff.trans h83) hok
          rw [hU]
          refine ⟨M2, ?_, m2.trans k2, k3⟩
          show (if (if true = true then (1 : Int) else 0) = 0 then some (vI 0, M1) else e_X12_carries_2 d heavy (w32 (((a + 1 : Nat) : Int) + 1)) M1) = _
          rw [if_pos rfl, if_neg (by decide), w32_n (x := ((a + 1 : Nat) : Int) + 1) (n := a + 1 + 1) (by omega) (by omega)]
          exact k1
theorem r_carries (hD : 4 ≤ D) (hτ : tOk τ) (hh : 0 ≤ heavy ∧ heavy ≤ 2000) (hd83 : 0 ≤ ρ 83) (hr : rOk τ ρ) (hT : rTx v τ M) (hR : rRow ρ M) :
    ∃ M', amD amGst D 230 [vR 12 12 0, vI heavy] M = some (vI (if (carS τ heavy ρ).1 = 0 then 1 else 0), M') ∧ amSame fRo M M' ∧ ((carS τ heavy ρ).1 = 0 → rRow (carS τ heavy ρ).2.2.1 M') := by
  obtain ⟨d, rfl⟩ := dS hD
  have hn := hτ.1
  obtain ⟨M', m1, m2, m3⟩ := r_carriesLoop (d := d) (v := v) (heavy := heavy) (by omega) hτ hh hd83 26 0 (ρ, M 12 0 50, M 12 0 51) M (by omega) (by omega) hT ⟨hR, rfl, rfl⟩ rfl hr
  have h := upS_rw (τ := τ) (vow := 0) (heavy := heavy) (day := ρ 83) 26 0 (ρ, M 12 0 50, M 12 0 51) (ρ, 0, -1) rfl
  have h1 : (upS τ 0 heavy (ρ 83) 26 0 (ρ, M 12 0 50, M 12 0 51)).1 = (carS τ heavy ρ).1 := h.1
  have h2 : (upS τ 0 heavy (ρ 83) 26 0 (ρ, M 12 0 50, M 12 0 51)).2.2.1 = (carS τ heavy ρ).2.2.1 := h.2
  rw [h1] at m1 m3
  rw [h2] at m3
  exact ⟨M', by rw [n_X12_carries, q_X12_carries_0]; exact m1, m2, m3⟩
end CR
