/-! PURE: the class's goings -/
def advS (τ : Tx) (vow heavy day up : Int) (a : Nat) (x : Wk) : Nat × Nat × Wk :=
  let to := if up = 1 then nxU (tN τ) x.1 vow a else nxD x.1 vow a
  if to = 0 ∨ to = tN τ + 1 then (0, to, x) else if x.1 to ≤ 0 then (1, a, x) else match holdS τ vow heavy day up to (kW vow) x with
    | (false, x') => (2, a, x')
    | (true, x') => (0, to, x')
/-- what a step on changes -/
def fAd (r : Nat) : Nat → Nat → Nat → Bool := fun c s j => fWk r c s j || (c == 10 && j == 4)
theorem fWk_fAd {r : Nat} : ∀ c s j, fWk r c s j = true → fAd r c s j = true := fun c s j h => by unfold fAd; rw [h]; rfl
theorem cWk.ad {τ : Tx} {vow heavy day : Int} {r : Nat} {M M' : AmM} (h : cWk τ vow heavy day M) (hs : amSame (fAd r) M M') : cWk τ vow heavy day M' := by
  obtain ⟨h1, h2, h3, h4, h5⟩ := h
  refine ⟨by rw [hs _ _ _ (by simp [fAd, fWk])]; exact h1, by rw [hs _ _ _ (by simp [fAd, fWk])]; exact h2, by rw [hs _ _ _ (by simp [fAd, fWk])]; exact h3, by rw [hs _ _ _ (by simp [fAd, fWk])]; exact h4, by rw [hs _ _ _ (by simp [fAd, fWk])]; exact h5⟩
/-- what a going over the stairs of row r changes -/
def fTh (r : Nat) : Nat → Nat → Nat → Bool := fun c s _ => c == 10 || c == 125 || (c == 102 && s == 0) || (s == r && (c == 112 || c == 113 || c == 6))
theorem fAd_fTh {r : Nat} : ∀ c s j, fAd r c s j = true → fTh r c s j = true := fun c s j h => by
  unfold fAd fWk at h
  unfold fTh
  simp only [Bool.or_eq_true, Bool.and_eq_true] at h ⊢
  rcases h with (((h | h) | h) | h) | h
  · exact Or.inl (Or.inl (Or.inl h.1))
  · exact Or.inl (Or.inl (Or.inr h.1))
  · exact Or.inl (Or.inr h)
  · refine Or.inr ⟨h.1, ?_⟩
    rcases h.2 with (h | h) | h
    · exact Or.inl (Or.inl h)
    · exact Or.inl (Or.inr h)
    · exact Or.inr h.1
  · exact Or.inl (Or.inl (Or.inl h.1))
theorem cTx.th {t r : Nat} {τ : Tx} {M M' : AmM} (h : cTx t τ M) (hs : amSame (fTh r) M M') : cTx t τ M' := h.mv fun c s j hc => hs c s j (by
  unfold sTx at hc
  simp only [Bool.and_eq_true, Bool.or_eq_true, beq_iff_eq] at hc
  obtain ⟨rfl, hc⟩ := hc
  unfold fTh
  rcases hc with (((((rfl | rfl) | rfl) | rfl) | rfl) | rfl) | rfl <;> simp)
section CW3
variable {D d n r : Nat} {τ : Tx} {ρ : Rw} {M : AmM} {vow heavy day : Int}
theorem c_advance (hD : 4 ≤ D) (hτ : tOk τ) (hh : 0 ≤ heavy ∧ heavy ≤ 2000) (hv : 0 ≤ vow ∧ vow ≤ 3) {a : Nat} {x : Wk} (ha : M 10 0 4 = a) {up : Int} (h : up = 1 ∧ a ≤ tN τ ∨ up = 0 ∧ 1 ≤ a ∧ a ≤ tN τ + 1) (hT : cTx 0 τ M) (hW : cWk τ vow heavy day M) (hX : cX τ r x M) (hr : rOk τ x.1) :
    ∃ M', amD amGst D 101 [vR 10 10 0, vR 6 6 r, vI up] M = some (vI ((advS τ vow heavy day up a x).1 : Nat), M') ∧ amSame (fAd r) M M' ∧ cX τ r (advS τ vow heavy day up a x).2.2 M' ∧ M' 10 0 4 = (advS τ vow heavy day up a x).2.1 := by
  obtain ⟨d, rfl⟩ := dS hD
  have hn := hτ.1
  rw [n_X10_advance, q_X10_advance_0, c_nextSpot (by omega) hτ hX.1 hW.2.1 ha h, amCI_s]
  unfold advS
  dsimp only
  generalize hto : (if up = 1 then nxU (tN τ) x.1 vow a else nxD x.1 vow a) = to
  have hb : to ≤ tN τ + 1 := by
    rw [← hto]
    rcases h with ⟨rfl, h⟩ | ⟨rfl, h1, h2⟩
    · rw [if_pos rfl]; exact (nxU_b h).2
    · rw [if_neg (by decide)]; have := nxD_b (ρ := x.1) (vow := vow) h1; omega
  by_cases h0 : to = 0 ∨ to = tN τ + 1
  · rw [c_isThereY (n := tN τ) (by omega) hn hX.1 hb (by omega), amCI_s, if_neg (by decide), c_isStepN (n := tN τ) (by omega) hX.1.1 (by omega), amCI_s, if_pos rfl, if_pos h0]
    exact ⟨_, rfl, amSame.refl.up (by simp [fAd]), ⟨hX.1.up (by decide), by rw [up_j (by decide)]; exact hX.2.1, by rw [up_j (by decide)]; exact hX.2.2.1, hX.2.2.2⟩, up_on⟩
  · rw [if_neg h0]
    by_cases h1 : x.1 to ≤ 0
    · rw [c_isThereN (n := tN τ) (by omega) hn hX.1 ⟨by omega, by omega⟩ h1, amCI_s, if_pos rfl, if_pos h1]
      exact ⟨M, rfl, amSame.refl, hX, ha⟩
    · rw [c_isThereY (n := tN τ) (by omega) hn hX.1 hb (by omega), amCI_s, if_neg (by decide), c_isStepY (n := tN τ) (by omega) hX.1.1 ⟨by omega, by omega⟩, amCI_s, if_neg (by decide), if_neg h1]
      obtain ⟨M4, m1, m2, m3⟩ := c_tread (D := d) (r := r) (s := to) (up := up) (by omega) hτ hh hv ⟨by omega, by omega⟩ (by omega) hT hW hX hr
      rw [m1, amCI_s]
      cases hy : holdS τ vow heavy day up to (kW vow) x with
      | mk b x' =>
        rw [hy] at m3
        cases b with
        | false =>
          exact ⟨M4, rfl, m2.mono fWk_fAd, m3, by rw [m2 _ _ _ (by simp [fWk])]; exact ha⟩
        | true =>
          exact ⟨_, rfl, (m2.mono fWk_fAd).up (by simp [fAd]), ⟨m3.1.up (by decide), by rw [up_j (by decide)]; exact m3.2.1, by rw [up_j (by decide)]; exact m3.2.2.1, m3.2.2.2⟩, up_on⟩
theorem advS_ok (hτ : tOk τ) (hh : 0 ≤ heavy ∧ heavy ≤ 2000) {a : Nat} {x : Wk} {up : Int} (h : up = 1 ∧ a ≤ tN τ ∨ up = 0 ∧ 1 ≤ a ∧ a ≤ tN τ + 1) (hr : rOk τ x.1) : rOk τ (advS τ vow heavy day up a x).2.2.1 := by
  unfold advS
  dsimp only
  generalize hto : (if up = 1 then nxU (tN τ) x.1 vow a else nxD x.1 vow a) = to
  have hb : to ≤ tN τ + 1 := by
    rw [← hto]
    rcases h with ⟨rfl, h⟩ | ⟨rfl, h1, h2⟩
    · rw [if_pos rfl]; exact (nxU_b h).2
    · rw [if_neg (by decide)]; have := nxD_b (ρ := x.1) (vow := vow) h1; omega
  split
  · exact hr
  · split
    · exact hr
    · have h3 := holdS_ok (τ := τ) (vow := vow) (day := day) (up := up) (s := to) hh ⟨by omega, by omega⟩ hτ.1 (kW vow) x hr
      split
      · rename_i x' he; rw [he] at h3; exact h3
      · rename_i x' he; rw [he] at h3; exact h3
theorem upS_adv {k a : Nat} {x : Wk} (ha : a ≤ tN τ) : upS τ vow heavy day (k + 1) a x = match advS τ vow heavy day 1 a x with
    | (0, to, x') => if to = tN τ + 1 then (0, to, x') else upS τ vow heavy day k to x'
    | (c, _, x') => (c, a, x') := by
  have hb := nxU_b (n := tN τ) (ρ := x.1) (vow := vow) ha
  show (if tN τ + 1 ≤ a then (0, a, x) else _) = _
  rw [if_neg (by omega)]
  unfold advS
  dsimp only
  rw [if_pos (rfl : (1 : Int) = 1)]
  generalize nxU (tN τ) x.1 vow a = to at hb ⊢
  by_cases h1 : tN τ + 1 ≤ to
  · have e : to = tN τ + 1 := by omega
    rw [if_pos h1, if_pos (show to = 0 ∨ to = tN τ + 1 from Or.inr e)]
    show _ = if to = tN τ + 1 then _ else _
    rw [if_pos e]
  · rw [if_neg h1, if_neg (show ¬ (to = 0 ∨ to = tN τ + 1) by omega)]
    by_cases h2 : x.1 to ≤ 0
    · rw [if_pos h2, if_pos h2]; rfl
    · rw [if_neg h2, if_neg h2]
      cases holdS τ vow heavy day 1 to (kW vow) x with
      | mk b x' =>
        cases b with
        | false => rfl
        | true =>
          show _ = if to = tN τ + 1 then _ else _
          rw [if_neg (show ¬ to = tN τ + 1 by omega)]
theorem dnS_adv {k a : Nat} {x : Wk} (ha : 1 ≤ a ∧ a ≤ tN τ + 1) : dnS τ vow heavy day (k + 1) a x = match advS τ vow heavy day 0 a x with
    | (0, to, x') => if to = 0 then (0, 0, x') else dnS τ vow heavy day k to x'
    | (_, _, x') => (2, a, x') := by
  have hb := nxD_b (ρ := x.1) (vow := vow) ha.1
  show (if a = 0 then (0, 0, x) else _) = _
  rw [if_neg (by omega)]
  unfold advS
  dsimp only
  rw [if_neg (show ¬ (0 : Int) = 1 by decide)]
  generalize nxD x.1 vow a = to at hb ⊢
  by_cases h1 : to = 0
  · rw [if_pos h1, if_pos (show to = 0 ∨ to = tN τ + 1 from Or.inl h1)]
    show _ = if to = 0 then _ else _
    rw [if_pos h1]
  · rw [if_neg h1, if_neg (show ¬ (to = 0 ∨ to = tN τ + 1) by omega)]
    by_cases h2 : x.1 to ≤ 0
    · rw [if_pos h2, if_pos h2]; rfl
    · rw [if_neg h2, if_neg h2]
      cases holdS τ vow heavy day 0 to (kW vow) x with
      | mk b x' =>
        cases b with
        | false => rfl
        | true =>
          show _ = if to = 0 then _ else _
          rw [if_neg h1]
theorem advS_sp {a : Nat} {x : Wk} {up : Int} (h : up = 1 ∧ a ≤ tN τ ∨ up = 0 ∧ 1 ≤ a ∧ a ≤ tN τ + 1) : ((advS τ vow heavy day up a x).1 = 0 → (advS τ vow heavy day up a x).2.1 = if up = 1 then nxU (tN τ) x.1 vow a else nxD x.1 vow a) ∧ ((advS τ vow heavy day up a x).1 ≠ 0 → (advS τ vow heavy day up a x).2.1 = a) ∧ (advS τ vow heavy day up a x).1 ≤ 2 := by
  unfold advS
  dsimp only
  generalize (if up = 1 then nxU (tN τ) x.1 vow a else nxD x.1 vow a) = to
  split
  · exact ⟨fun _ => rfl, fun h => absurd rfl h, by show 0 ≤ 2; omega⟩
  · split
    · exact ⟨fun h => (by cases h), fun _ => rfl, by show 1 ≤ 2; omega⟩
    · split
      · exact ⟨fun h => (by cases h), fun _ => rfl, by show 2 ≤ 2; omega⟩
      · exact ⟨fun _ => rfl, fun h => absurd rfl h, by show 0 ≤ 2; omega⟩
/-- what the loop up comes to -/
def upP (τ : Tx) (d r : Nat) (l2 l3 : Int) (M : AmM) (R : Nat × Nat × Wk) (lhs : Option (AmV × AmM)) : Prop := ∃ M', amSame (fAd r) M M' ∧ cX τ r R.2.2 M' ∧ M' 10 0 4 = R.2.1 ∧ rOk τ R.2.2.1 ∧ R.2.1 ≤ tN τ + 1 ∧
  ((R.1 = 0 ∧ ∃ (i' : Nat) (w6 : AmV), lhs = e_X10_through_81 d r l2 l3 0 i' w6 M') ∨ (R.1 = 1 ∧ ∃ (i' : Nat) (w6 : AmV), lhs = e_X10_through_81 d r l2 l3 1 i' w6 M') ∨ (R.1 = 2 ∧ lhs = some (vI (if R.2.1 = 0 then 1 else 2), M')))
theorem upP.pre {l2 l3 : Int} {M M2 : AmM} {R : Nat × Nat × Wk} {lhs : Option (AmV × AmM)} (h : amSame (fAd r) M M2) (h2 : upP τ d r l2 l3 M2 R lhs) : upP τ d r l2 l3 M R lhs := by
  obtain ⟨M', k1, k2⟩ := h2
  exact ⟨M', h.trans k1, k2⟩
/-- up, from the i-th try on -/
theorem c_up_loop (hd : 4 ≤ d) (hτ : tOk τ) (hh : 0 ≤ heavy ∧ heavy ≤ 2000) (hv : 0 ≤ vow ∧ vow ≤ 3) {l2 l3 : Int} : ∀ (k i a : Nat) (x : Wk) (u6 : AmV) (M : AmM), i + k = 26 → a ≤ tN τ + 1 → M 10 0 4 = a → cTx 0 τ M → cWk τ vow heavy day M → cX τ r x M → rOk τ x.1 →
    upP τ d r l2 l3 M (upS τ vow heavy day k a x) (e_X10_through_12 d r l2 l3 0 i u6 M)
  | 0, i, a, x, u6, M, hik, ha, hsp, hT, hW, hX, hr => by
    refine ⟨M, amSame.refl, hX, hsp, hr, ha, Or.inl ⟨rfl, i, u6, ?_⟩⟩
    rw [q_X10_through_12, if_neg (by omega)]
  | k + 1, i, a, x, u6, M, hik, ha, hsp, hT, hW, hX, hr => by
    have hn := hτ.1
    by_cases htop : tN τ + 1 ≤ a
    · have e : upS τ vow heavy day (k + 1) a x = (0, a, x) := by
        show (if tN τ + 1 ≤ a then (0, a, x) else _) = _
        rw [if_pos htop]
      rw [e]
      refine ⟨M, amSame.refl, hX, hsp, hr, ha, Or.inl ⟨rfl, i, u6, ?_⟩⟩
      rw [q_X10_through_12, if_pos (by omega), if_pos rfl, c_top (n := tN τ) (by omega) hn hX.1.1, amCI_s, if_neg (by omega)]
    · have h1 : (1 : Int) = 1 ∧ a ≤ tN τ ∨ (1 : Int) = 0 ∧ 1 ≤ a ∧ a ≤ tN τ + 1 := Or.inl ⟨rfl, by omega⟩
      obtain ⟨M2, m1, m2, m3, m4⟩ := c_advance (D := d) (r := r) hd hτ hh hv hsp h1 hT hW hX hr
      have hok := advS_ok (vow := vow) (day := day) hτ hh h1 hr
      obtain ⟨s1, s2, s3⟩ := advS_sp (vow := vow) (heavy := heavy) (day := day) (x := x) h1
      have hU := upS_adv (vow := vow) (heavy := heavy) (day := day) (k := k) (x := x) (show a ≤ tN τ by omega)
      obtain ⟨c, to, x', hadv⟩ : ∃ c to x', advS τ vow heavy day 1 a x = (c, to, x') := ⟨_, _, _, rfl⟩
      rw [hadv] at m1 m3 m4 hok s1 s2 s3 hU
      dsimp only at m1 m3 m4 hok s1 s2 s3
      have hE : e_X10_through_12 d r l2 l3 0 i u6 M = if (c : Int) = 2 then (if M2 10 0 4 = 0 then (some (vI 1, M2)) else (some (vI 2, M2))) else if (c : Int) = 1 then e_X10_through_12 d r l2 l3 1 ((i + 1 : Nat) : Int) (vI c) M2 else e_X10_through_12 d r l2 l3 0 ((i + 1 : Nat) : Int) (vI c) M2 := by
        rw [q_X10_through_12, if_pos (by omega), if_pos rfl, c_top (n := tN τ) (by omega) hn hX.1.1, amCI_s, if_pos (by omega), m1, amCI_s, w32_id (x := (i : Int) + 1) (by omega) (by omega)]
        rfl
      have hb := nxU_b (n := tN τ) (ρ := x.1) (vow := vow) (show a ≤ tN τ by omega)
      rcases (show c = 0 ∨ c = 1 ∨ c = 2 by omega) with rfl | rfl | rfl
      · have hto : to = nxU (tN τ) x.1 vow a := by have := s1 rfl; rw [if_pos rfl] at this; exact this
        have hU : upS τ vow heavy day (k + 1) a x = if to = tN τ + 1 then (0, to, x') else upS τ vow heavy day k to x' := hU
        have e : (if to = tN τ + 1 then (0, to, x') else upS τ vow heavy day k to x') = upS τ vow heavy day k to x' := by
          by_cases h9 : to = tN τ + 1
          · rw [if_pos h9]
            cases k with
            | zero => rfl
            | succ k =>
              show _ = if tN τ + 1 ≤ to then (0, to, x') else _
              rw [if_pos (by omega)]
          · rw [if_neg h9]
        rw [if_neg (by decide), if_neg (by decide)] at hE
        rw [hU, e, hE]
        exact upP.pre m2 (c_up_loop hd hτ hh hv k (i + 1) to x' _ M2 (by omega) (by omega) m4 (hT.th (m2.mono fAd_fTh)) (hW.ad m2) m3 hok)
      · have hto : to = a := s2 (by omega)
        have hU : upS τ vow heavy day (k + 1) a x = (1, a, x') := hU
        rw [if_neg (by decide), if_pos (by decide)] at hE
        rw [hU, hE]
        refine ⟨M2, m2, m3, by rw [m4, hto], hok, ha, Or.inr (Or.inl ⟨rfl, i + 1, vI (1 : Nat), ?_⟩)⟩
        rw [q_X10_through_12]
        by_cases h26 : ((i + 1 : Nat) : Int) < 26
        · rw [if_pos h26, if_neg (by decide)]
        · rw [if_neg h26]
      · have hto : to = a := s2 (by omega)
        have hU : upS τ vow heavy day (k + 1) a x = (2, a, x') := hU
        rw [if_pos (by decide), m4, hto] at hE
        rw [hU, hE]
        refine ⟨M2, m2, m3, by rw [m4, hto], hok, ha, Or.inr (Or.inr ⟨rfl, ?_⟩)⟩
        show (if (a : Int) = 0 then (some (vI 1, M2)) else (some (vI 2, M2))) = some (vI (if a = 0 then 1 else 2), M2)
        by_cases h9 : a = 0
        · rw [if_pos (by omega), if_pos h9]
        · rw [if_neg (by omega), if_neg h9]
/-- down -/
theorem c_dn_loop (hd : 4 ≤ d) (hτ : tOk τ) (hh : 0 ≤ heavy ∧ heavy ≤ 2000) (hv : 0 ≤ vow ∧ vow ≤ 3) {l2 l3 tu : Int} : ∀ (k i a : Nat) (x : Wk) (u6 : AmV) (M : AmM), i + k = 26 → a ≤ tN τ + 1 → M 10 0 4 = a → cTx 0 τ M → cWk τ vow heavy day M → cX τ r x M → rOk τ x.1 →
    ∃ M', amSame (fAd r) M M' ∧ cX τ r (dnS τ vow heavy day k a x).2.2 M' ∧ M' 10 0 4 = (dnS τ vow heavy day k a x).2.1 ∧
      e_X10_through_99 d r l2 l3 tu i u6 M = some (vI (if (dnS τ vow heavy day k a x).1 = 0 then (if tu = 0 then 0 else 1) else 2), M')
  | 0, i, a, x, u6, M, hik, ha, hsp, hT, hW, hX, hr => by
    refine ⟨M, amSame.refl, hX, hsp, ?_⟩
    rw [q_X10_through_99, if_neg (by omega)]
    show _ = some (vI (if (0 : Nat) = 0 then (if tu = 0 then 0 else 1) else 2), M)
    rw [if_pos (rfl : (0 : Nat) = 0)]
    split <;> rfl
  | k + 1, i, a, x, u6, M, hik, ha, hsp, hT, hW, hX, hr => by
    have hn := hτ.1
    by_cases h0 : a = 0
    · have e : dnS τ vow heavy day (k + 1) a x = (0, 0, x) := by
        show (if a = 0 then (0, 0, x) else _) = _
        rw [if_pos h0]
      rw [e]
      refine ⟨M, amSame.refl, hX, by rw [hsp, h0], ?_⟩
      rw [q_X10_through_99, if_pos (by omega), hsp, if_neg (by omega)]
      show _ = some (vI (if (0 : Nat) = 0 then (if tu = 0 then 0 else 1) else 2), M)
      rw [if_pos (rfl : (0 : Nat) = 0)]
      split <;> rfl
    · have h1 : (0 : Int) = 1 ∧ a ≤ tN τ ∨ (0 : Int) = 0 ∧ 1 ≤ a ∧ a ≤ tN τ + 1 := Or.inr ⟨rfl, by omega, ha⟩
      obtain ⟨M2, m1, m2, m3, m4⟩ := c_advance (D := d) (r := r) hd hτ hh hv hsp h1 hT hW hX hr
      have hok := advS_ok (vow := vow) (day := day) hτ hh h1 hr
      obtain ⟨s1, s2, s3⟩ := advS_sp (vow := vow) (heavy := heavy) (day := day) (x := x) h1
      have hU := dnS_adv (τ := τ) (vow := vow) (heavy := heavy) (day := day) (k := k) (x := x) (show 1 ≤ a ∧ a ≤ tN τ + 1 from ⟨by omega, ha⟩)
      obtain ⟨c, to, x', hadv⟩ : ∃ c to x', advS τ vow heavy day 0 a x = (c, to, x') := ⟨_, _, _, rfl⟩
      rw [hadv] at m1 m3 m4 hok s1 s2 s3 hU
      dsimp only at m1 m3 m4 hok s1 s2 s3
      have hE : e_X10_through_99 d r l2 l3 tu i u6 M = if (c : Int) = 0 then e_X10_through_99 d r l2 l3 tu ((i + 1 : Nat) : Int) u6 M2 else some (vI 2, M2) := by
        rw [q_X10_through_99, if_pos (by omega), hsp, if_pos (by omega), m1, amCI_s, w32_id (x := (i : Int) + 1) (by omega) (by omega)]
        rfl
      have hb := nxD_b (ρ := x.1) (vow := vow) (show 1 ≤ a by omega)
      by_cases hc : c = 0
      · subst hc
        have hto : to = nxD x.1 vow a := by have := s1 rfl; rw [if_neg (show ¬ (0 : Int) = 1 by decide)] at this; exact this
        have hU : dnS τ vow heavy day (k + 1) a x = if to = 0 then (0, 0, x') else dnS τ vow heavy day k to x' := hU
        have e : (if to = 0 then (0, 0, x') else dnS τ vow heavy day k to x') = dnS τ vow heavy day k to x' := by
          by_cases h9 : to = 0
          · rw [if_pos h9]
            cases k with
            | zero => rw [h9]; rfl
            | succ k =>
              show _ = if to = 0 then (0, 0, x') else _
              rw [if_pos h9]
          · rw [if_neg h9]
        rw [if_pos (by decide)] at hE
        rw [hU, e, hE]
        obtain ⟨M', k1, k2⟩ := c_dn_loop hd hτ hh hv (l2 := l2) (l3 := l3) (tu := tu) k (i + 1) to x' u6 M2 (by omega) (by omega) m4 (hT.th (m2.mono fAd_fTh)) (hW.ad m2) m3 hok
        exact ⟨M', m2.trans k1, k2⟩
      · have hto : to = a := s2 hc
        have hU : dnS τ vow heavy day (k + 1) a x = (2, a, x') := by
          obtain ⟨c, rfl⟩ : ∃ n, c = n + 1 := ⟨c - 1, by omega⟩
          exact hU
        rw [if_neg (by omega)] at hE
        rw [hU, hE]
        exact ⟨M2, m2, m3, by rw [m4, hto], rfl⟩
theorem upS_c : ∀ (k a : Nat) (x : Wk), (upS τ vow heavy day k a x).1 ≤ 2
  | 0, a, x => by show 0 ≤ 2; omega
  | k + 1, a, x => by
    unfold upS
    dsimp only
    split
    · show 0 ≤ 2; omega
    · split
      · show 0 ≤ 2; omega
      · split
        · show 1 ≤ 2; omega
        · split
          · show 2 ≤ 2; omega
          · exact upS_c k _ _
theorem dnS_c : ∀ (k a : Nat) (x : Wk), (dnS τ vow heavy day k a x).1 = 0 ∨ (dnS τ vow heavy day k a x).1 = 2
  | 0, a, x => Or.inl rfl
  | k + 1, a, x => by
    unfold dnS
    dsimp only
    split
    · exact Or.inl rfl
    · split
      · exact Or.inl rfl
      · split
        · exact Or.inr rfl
        · split
          · exact Or.inr rfl
          · exact dnS_c k _ _
/-- one begins to walk -/
theorem c_beginAs (hD : 3 ≤ D) (hτ : tOk τ) (hT : cTx 0 τ M) (hd : 0 ≤ day) : ∃ M', amD amGst D 98 [vR 10 10 0, vI heavy, vI vow, vI day] M = some (vU, M') ∧ amSame (fun c _ _ => c == 10 || c == 125) M M' ∧ cWk τ vow heavy day M' ∧ M' 10 0 4 = 0 ∧ M' 10 0 5 = 0 ∧ M' 10 0 6 = -1 := by
  obtain ⟨d, rfl⟩ := dS hD
  rw [n_X10_beginAs, q_X10_beginAs_0, c_look (j := 0) (i := 0) (by omega) (by decide) rfl, amCV_s, c_look (j := 3) (i := 3) (by omega) (by decide) rfl, amCV_s]
  generalize hM1 : amUp (amUp (amUp (amUp M 10 0 2 heavy) 10 0 3 vow) 125 0 0 heavy) 125 0 3 day = M1
  have hs1 : amSame (fun c _ _ => c == 10 || c == 125) M M1 := by
    rw [← hM1]
    exact (((amSame.refl.up (by simp)).up (by simp)).up (by simp)).up (by simp)
  have hT1 : cTx 0 τ M1 := hT.mv fun c s j hc => hs1 c s j (by
    unfold sTx at hc
    simp only [Bool.and_eq_true, Bool.or_eq_true, beq_iff_eq] at hc
    rcases hc.2 with (((((rfl | rfl) | rfl) | rfl) | rfl) | rfl) | rfl <;> rfl)
  rw [c_rainOf (by omega) hτ hT1 hd, amCI_s, c_look (j := 4) (i := 4) (by omega) (by decide) rfl, amCV_s]
  refine ⟨_, rfl, ((((hs1.up (by simp)).up (by simp)).up (by simp)).up (by simp)), ⟨?_, ?_, ?_, ?_, ?_⟩, ?_, ?_, ?_⟩
  · rw [up_j (by decide), up_j (by decide), up_j (by decide), up_c (by decide), ← hM1]; rfl
  · rw [up_j (by decide), up_j (by decide), up_j (by decide), up_c (by decide), ← hM1]; rfl
  · rw [up_c (by decide), up_c (by decide), up_c (by decide), up_j (by decide), ← hM1]; rfl
  · rw [up_c (by decide), up_c (by decide), up_c (by decide), up_j (by decide), ← hM1]; rfl
  · rw [up_c (by decide), up_c (by decide), up_c (by decide), up_on]
  · rw [up_j (by decide), up_j (by decide), up_on]
  · rw [up_j (by decide), up_on]
  · rw [up_on]
theorem c_begin (hD : 4 ≤ D) (hτ : tOk τ) (hT : cTx 0 τ M) (hd : 0 ≤ day) {p : Nat} (hp : p < tP τ) : ∃ M', amD amGst D 97 [vR 10 10 0, vI p, vI day] M = some (vU, M') ∧ amSame (fun c _ _ => c == 10 || c == 125) M M' ∧ cWk τ (tV τ p) (tW τ p) day M' ∧ M' 10 0 4 = 0 ∧ M' 10 0 5 = 0 ∧ M' 10 0 6 = -1 := by
  obtain ⟨d, rfl⟩ := dS hD
  have hp8 := hτ.2.2.2.2.2.2.1
  have h8 := hT.2.2.2.2.2.2.2.1 p hp
  rw [n_X10_begin, q_X10_begin_0, c_at (n := 8) (by omega) (by decide) (by decide) (by omega) (by omega), amCI_s, c_at (n := 8) (by omega) (by decide) (by decide) (by omega) (by omega), amCI_s]
  simp only [Int.toNat_natCast]
  rw [h8.1, h8.2]
  obtain ⟨M', m1, m2⟩ := c_beginAs (D := d) (heavy := tW τ p) (vow := tV τ p) (by omega) hτ hT hd
  rw [m1, amCV_s]
  exact ⟨M', rfl, m2⟩
/-- what comes of a going of pilgrim p over the stairs of row r -/
theorem c_through (hD : 5 ≤ D) (hτ : tOk τ) (hT : cTx 0 τ M) (hd : 0 ≤ day) {p : Nat} (hp : p < tP τ) (hSt : cSt (tN τ) r ρ M) (hr : rOk τ ρ) :
    ∃ M', amD amGst D 99 [vR 10 10 0, vR 6 6 r, vI p, vI day] M = some (vI ((comesS τ (tV τ p) (tW τ p) day (ρ, 0, -1)).1 : Nat), M') ∧ amSame (fTh r) M M' ∧ cX τ r (comesS τ (tV τ p) (tW τ p) day (ρ, 0, -1)).2.2 M' ∧ M' 10 0 4 = (comesS τ (tV τ p) (tW τ p) day (ρ, 0, -1)).2.1 := by
  obtain ⟨d, rfl⟩ := dS hD
  have hpp := hτ.2.2.2.2.2.2.2.1 p hp
  have hh : 0 ≤ tW τ p ∧ tW τ p ≤ 2000 := ⟨by omega, by omega⟩
  obtain ⟨M1, m1, m2, m3, m4, m5, m6⟩ := c_begin (D := d) (by omega) hτ hT hd hp
  have hs1 : amSame (fTh r) M M1 := m2.mono fun c s j h => by
    unfold fTh
    simp only [Bool.or_eq_true] at h ⊢
    rcases h with h | h
    · exact Or.inl (Or.inl (Or.inl h))
    · exact Or.inl (Or.inl (Or.inr h))
  have hSt1 : cSt (tN τ) r ρ M1 := ⟨by rw [m2 _ _ _ (by rfl)]; exact hSt.1, by rw [m2 _ _ _ (by rfl)]; exact hSt.2.1, fun j a b => by rw [m2 _ _ _ (by rfl), m2 _ _ _ (by rfl)]; exact hSt.2.2 j a b⟩
  have hX1 : cX τ r (ρ, 0, -1) M1 := ⟨hSt1, m5, m6, by show (-1 : Int) ≤ -1; omega⟩
  rw [n_X10_through, q_X10_through_0, m1, amCV_s]
  have hloop := c_up_loop (d := d) (r := r) (l2 := p) (l3 := day) (by omega) hτ hh hpp.2 26 0 0 (ρ, 0, -1) vU M1 (by omega) (by omega) m4 (hT.th hs1) m3 hX1 hr
  have hcs : comesS τ (tV τ p) (tW τ p) day (ρ, 0, -1) = match upS τ (tV τ p) (tW τ p) day 26 0 (ρ, 0, -1) with
    | (2, at_, x1) => (if at_ = 0 then 1 else 2, at_, x1)
    | (1, at_, x1) => (match dnS τ (tV τ p) (tW τ p) day 26 at_ x1 with
      | (d, at2, x2) => (if d = 0 then 1 else 2, at2, x2))
    | (_, at_, x1) => if tV τ p = 3 then (0, at_, x1) else dnS τ (tV τ p) (tW τ p) day 26 at_ x1 := rfl
  obtain ⟨c, a, x1, hup⟩ : ∃ c a x1, upS τ (tV τ p) (tW τ p) day 26 0 (ρ, 0, -1) = (c, a, x1) := ⟨_, _, _, rfl⟩
  rw [hup] at hloop hcs
  obtain ⟨M2, k1, k2, k3, k4, k5, k6⟩ := hloop
  dsimp only at k2 k3 k4 k5 k6
  have hs2 : amSame (fTh r) M M2 := hs1.trans (k1.mono fAd_fTh)
  have hT2 := hT.th hs2
  have hW2 := m3.ad k1
  rcases k6 with ⟨rfl, i', w6, e12⟩ | ⟨rfl, i', w6, e12⟩ | ⟨rfl, e12⟩
  · have hcs : comesS τ (tV τ p) (tW τ p) day (ρ, 0, -1) = if tV τ p = 3 then (0, a, x1) else dnS τ (tV τ p) (tW τ p) day 26 a x1 := hcs
    rw [hcs]
    by_cases hv3 : tV τ p = 3
    · rw [if_pos hv3]
      refine ⟨M2, Eq.trans e12 ?_, hs2, k2, k3⟩
      rw [q_X10_through_81, hW2.2.1, if_pos hv3, if_pos rfl]
      rfl
    · rw [if_neg hv3]
      obtain ⟨M', n1, n2, n3, n4⟩ := c_dn_loop (d := d) (r := r) (l2 := p) (l3 := day) (tu := 0) (by omega) hτ hh hpp.2 26 0 a x1 w6 M2 (by omega) k5 k3 hT2 hW2 k2 k4
      refine ⟨M', Eq.trans e12 ?_, hs2.trans (n1.mono fAd_fTh), n2, n3⟩
      rw [q_X10_through_81, hW2.2.1, if_neg hv3]
      refine n4.trans ?_
      rcases dnS_c (τ := τ) (vow := tV τ p) (heavy := tW τ p) (day := day) 26 a x1 with h | h <;> rw [h] <;> rfl
  · have hcs : comesS τ (tV τ p) (tW τ p) day (ρ, 0, -1) = (if (dnS τ (tV τ p) (tW τ p) day 26 a x1).1 = 0 then 1 else 2, (dnS τ (tV τ p) (tW τ p) day 26 a x1).2.1, (dnS τ (tV τ p) (tW τ p) day 26 a x1).2.2) := hcs
    rw [hcs]
    obtain ⟨M', n1, n2, n3, n4⟩ := c_dn_loop (d := d) (r := r) (l2 := p) (l3 := day) (tu := 1) (by omega) hτ hh hpp.2 26 0 a x1 w6 M2 (by omega) k5 k3 hT2 hW2 k2 k4
    refine ⟨M', Eq.trans e12 ?_, hs2.trans (n1.mono fAd_fTh), n2, n3⟩
    rw [q_X10_through_81, if_neg (show ¬ (1 : Int) = 0 by decide), ite_self]
    refine n4.trans ?_
    by_cases h : (dnS τ (tV τ p) (tW τ p) day 26 a x1).1 = 0
    · rw [if_pos h, if_pos h]; rfl
    · rw [if_neg h, if_neg h]; rfl
  · have hcs : comesS τ (tV τ p) (tW τ p) day (ρ, 0, -1) = (if a = 0 then 1 else 2, a, x1) := hcs
    rw [hcs]
    refine ⟨M2, Eq.trans e12 ?_, hs2, k2, k3⟩
    by_cases h : a = 0
    · rw [if_pos h, if_pos h]; rfl
    · rw [if_neg h, if_neg h]; rfl
end CW3
