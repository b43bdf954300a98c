/-! PURE: the class's parse -/
section CPR
variable {D d t len L : Nat} {κ ν : Nat → Nat} {Y : Nat → Nat} {M : AmM} {lf : Nat × Nat}
theorem prS_g : ∀ (k t : Nat) (x : Dr), 401 ≤ t + k → gd κ t → lfOk κ x.2.2.2 → match prS κ ν k t x with
    | .inl y => ftG κ y
    | .inr x1 => lfOk κ x1.2.2.2
  | 0, t, x, hk, h, hl => by have := h.1; omega
  | k + 1, t, x, hk, h, hl => by
    unfold prS
    by_cases h21 : κ t = 21
    · rw [if_pos h21]; exact hl
    · rw [if_neg h21]
      have a := stS_g (ν := ν) h hl
      cases ha : stS κ ν t x with
      | inl y => rw [ha] at a; exact a
      | inr y =>
        obtain ⟨t1, x1⟩ := y
        rw [ha] at a
        exact prS_g k t1 x1 (by have := a.2.1; omega) a.1 a.2.2
theorem c_51F (hd : 1 ≤ d) {c q : Nat} {l1 : Int} (h : cFt c q M) : e_X4_parse_51 d l1 M = some (vI (c : Int), M) := by
  have hc := h.1
  have h6 := h.2.1
  rw [q_X4_parse_51, h6, if_neg (show ¬ ((c : Nat) : Int) = 0 by omega), if_neg (show ¬ ((c : Nat) : Int) = 0 by omega)]
  by_cases h4 : 400 < l1
  · rw [if_pos h4]
  · rw [if_neg h4]
/-- what comes of a text -/
def cPo (κ : Nat → Nat) (r : Pr Dr) (o : Option (AmV × AmM)) (M : AmM) : Prop := match r with
  | .inl (c, q) => ∃ M', o = some (vI (c : Int), M') ∧ amSame fPa M M' ∧ cFt c q M'
  | .inr x => ∃ (M' : AmM) (len : Nat), o = some (vI ((x.2.2.2.1 : Nat) : Int), M') ∧ amSame fPa M M' ∧ M' 4 0 6 = 0 ∧ cDr0 x len M' ∧ len ≤ 401 ∧ cLf x.2.2.2 M'
theorem c_parseLoop (hd : 20 ≤ d) (hν : ∀ t, κ t = 20 → ν t < 10000) : ∀ (k t len i : Nat) (x : Dr) (M : AmM), 401 ≤ t + k → i ≤ t → cTk κ ν M → cPs κ t len M → cDr0 x len M → cLf x.2.2.2 M → lfOk κ x.2.2.2 → cPo κ (prS κ ν k t x) (e_X4_parse_51 d (i : Int) M) M
  | 0, t, len, i, x, M, hk, hi, hT, h, hd0, hlf, hlo => by
    have := h.1.1
    omega
  | k + 1, t, len, i, x, M, hk, hi, hT, h, hd0, hlf, hlo => by
    have h400 := h.1.1
    have hg := stS_g (ν := ν) (⟨h400, h.1.2.1⟩ : gd κ t) hlo
    unfold prS
    have e51 : e_X4_parse_51 d (i : Int) M = if ((κ t : Nat) : Int) = 21 then (some (vI (M 4 0 8), M)) else (if ((κ t : Nat) : Int) = 0 then (amCI (amD amGst d 30 [vR 4 4 0, vR 20 118 1, vI 1, vI 24, vI 99] M) fun v3 M3 => amCV (amD amGst d 39 [vR 4 4 0, vI 59] (amUp M3 8 1 5 v3)) fun M4 => e_X4_parse_51 d (w32 ((i : Int) + 1)) M4) else (if ((κ t : Nat) : Int) = 1 then (amCI (amD amGst d 30 [vR 4 4 0, vR 20 119 1, vI 0, vI 14, vI 9] M) fun v5 M5 => amCV (amD amGst d 39 [vR 4 4 0, vI 59] (amUp M5 8 1 6 v5)) fun M6 => e_X4_parse_51 d (w32 ((i : Int) + 1)) M6) else (if ((κ t : Nat) : Int) = 2 then (amCV (amD amGst d 31 [vR 4 4 0] M) fun M7 => amCV (amD amGst d 39 [vR 4 4 0, vI 59] M7) fun M8 => e_X4_parse_51 d (w32 ((i : Int) + 1)) M8) else (if ((κ t : Nat) : Int) = 3 then (amCV (amD amGst d 32 [vR 4 4 0] M) fun M9 => amCV (amD amGst d 39 [vR 4 4 0, vI 59] M9) fun M10 => e_X4_parse_51 d (w32 ((i : Int) + 1)) M10) else (if ((κ t : Nat) : Int) = 4 then (amCV (amD amGst d 34 [vR 4 4 0] M) fun M11 => amCV (amD amGst d 39 [vR 4 4 0, vI 59] M11) fun M12 => e_X4_parse_51 d (w32 ((i : Int) + 1)) M12) else ((amCV (amD amGst d 42 [vR 4 4 0, vI 1] M) fun M1 => amCV (amD amGst d 39 [vR 4 4 0, vI 59] M1) fun M2 => e_X4_parse_51 d (w32 ((i : Int) + 1)) M2))))))) := by
      rw [q_X4_parse_51, h.2.2.2.1, h.2.2.1, if_neg (show ¬ (400 : Int) < (i : Int) by omega), if_pos (show (0 : Int) = 0 from rfl), if_pos (show (0 : Int) = 0 from rfl)]
    rw [e51]
    by_cases h21 : κ t = 21
    · rw [if_pos (show ((κ t : Nat) : Int) = 21 by omega), if_pos h21]
      exact ⟨M, len, by rw [hlf.1], amSame.refl, h.2.2.2.1, hd0, by have := h.1.2.2; omega, hlf⟩
    · rw [if_neg (show ¬ ((κ t : Nat) : Int) = 21 by omega), if_neg h21]
      -- behind a statement
      have go : ∀ (lhs : Option (AmV × AmM)) (r : Pr (Nat × Dr)), r = stS κ ν t x → (∃ M', lhs = e_X4_parse_51 d (w32 ((i : Int) + 1)) M' ∧ cSo κ r M M') → cPo κ (match stS κ ν t x with
          | .inl y => .inl y
          | .inr (t1, x1) => prS κ ν k t1 x1) lhs M := fun lhs r hr hx => by
        obtain ⟨M1, a1, a2, a3⟩ := hx
        subst hr
        rw [a1, w32_n (x := (i : Int) + 1) (n := i + 1) (by omega) (by omega)]
        have hgs : ∀ t1 x1, stS κ ν t x = .inr (t1, x1) → t < t1 ∧ lfOk κ x1.2.2.2 := fun t1 x1 hq => by
          rw [hq] at hg
          exact hg.2
        cases hs : stS κ ν t x with
        | inl y =>
          obtain ⟨c, q⟩ := y
          rw [hs] at a3
          exact ⟨M1, c_51F (by omega) a3, a2, a3⟩
        | inr y =>
          obtain ⟨t1, x1⟩ := y
          rw [hs] at a3
          obtain ⟨len1, b1, b2, b3⟩ := a3
          have hgs1 := hgs t1 x1 hs
          have ih := c_parseLoop hd hν k t1 len1 (i + 1) x1 M1 (by omega) (by omega) (hT.pa a2) b1 b2 b3 hgs1.2
          dsimp only
          revert ih
          cases prS κ ν k t1 x1 with
          | inl y =>
            obtain ⟨c, q⟩ := y
            intro ih
            obtain ⟨M2, c1, c2, c3⟩ := ih
            exact ⟨M2, c1, a2.trans c2, c3⟩
          | inr y =>
            intro ih
            obtain ⟨M2, len2, c1, c2, c3⟩ := ih
            exact ⟨M2, len2, c1, a2.trans c2, c3⟩
      by_cases h0 : κ t = 0
      · rw [if_pos (show ((κ t : Nat) : Int) = 0 by omega)]
        exact go _ (st0 κ ν t x) (if_pos h0).symm (c_st0 (by omega) hν hT h0 h hd0 hlf)
      · rw [if_neg (show ¬ ((κ t : Nat) : Int) = 0 by omega)]
        by_cases h1 : κ t = 1
        · rw [if_pos (show ((κ t : Nat) : Int) = 1 by omega)]
          exact go _ (st1 κ ν t x) ((if_neg h0).trans (if_pos h1)).symm (c_st1 (by omega) hν hT h1 h hd0 hlf)
        · rw [if_neg (show ¬ ((κ t : Nat) : Int) = 1 by omega)]
          by_cases h2 : κ t = 2
          · rw [if_pos (show ((κ t : Nat) : Int) = 2 by omega)]
            exact go _ (st2 κ ν t x) ((if_neg h0).trans ((if_neg h1).trans (if_pos h2))).symm (c_st2 (by omega) hν hT h2 h hd0 hlf)
          · rw [if_neg (show ¬ ((κ t : Nat) : Int) = 2 by omega)]
            by_cases h3 : κ t = 3
            · rw [if_pos (show ((κ t : Nat) : Int) = 3 by omega)]
              exact go _ (st3 κ ν t x) ((if_neg h0).trans ((if_neg h1).trans ((if_neg h2).trans (if_pos h3)))).symm (c_st3 (by omega) hν hT h3 h hd0 hlf)
            · rw [if_neg (show ¬ ((κ t : Nat) : Int) = 3 by omega)]
              by_cases h4 : κ t = 4
              · rw [if_pos (show ((κ t : Nat) : Int) = 4 by omega)]
                exact go _ (st4 κ ν t x) ((if_neg h0).trans ((if_neg h1).trans ((if_neg h2).trans ((if_neg h3).trans (if_pos h4))))).symm (c_st4 hd hν hT h4 h hd0 hlf)
              · rw [if_neg (show ¬ ((κ t : Nat) : Int) = 4 by omega)]
                obtain ⟨M1, a1, a2, a3⟩ := c_fail (D := d) (c := 1) (by omega) (by decide) h.2.2.2.1 h.2.1
                rw [show ((1 : Nat) : Int) = 1 from rfl] at a1
                refine go _ (.inl (1, t)) ((if_neg h0).trans ((if_neg h1).trans ((if_neg h2).trans ((if_neg h3).trans (if_neg h4))))).symm ⟨M1, ?_, a2.mono fTa_fPa, a3⟩
                rw [a1, amCV_s, c_semF (by omega) a3, amCV_s]
/-- an empty draft -/
theorem c_clear (hD : 3 ≤ D) : ∃ M', amD amGst D 81 [vR 8 8 1] M = some (vU, M') ∧ amSame (fun c s _ => s == 1 && (c == 8 || c == 1 || c == 101)) M M' ∧ (M' 8 1 5 = 0 ∧ M' 8 1 6 = 0 ∧ M' 8 1 7 = 0 ∧ M' 8 1 8 = 0 ∧ M' 8 1 9 = 0) ∧ M' 1 1 1 = 0 ∧ ∀ v, v < 4 → M' 101 1 v = -1 := by
  obtain ⟨d, rfl⟩ := dS hD
  obtain ⟨d, rfl⟩ := dS (show 1 + 1 ≤ d by omega)
  have lp : ∀ (k i : Nat) (M : AmM), i + k = 4 → (∀ v, v < i → M 101 1 v = -1) → ∃ M', e_X1_clear_7 d 1 (i : Int) M = some (vU, M') ∧ amSame (fun c s _ => c == 101 && s == 1) M M' ∧ ∀ v, v < 4 → M' 101 1 v = -1 := fun k => by
    induction k with
    | zero =>
      intro i M h hv
      have h : i = 4 := h
      subst h
      exact ⟨M, by rw [q_X1_clear_7, if_neg (by omega)], amSame.refl, hv⟩
    | succ k ih =>
      intro i M h hv
      obtain ⟨M', a1, a2, a3⟩ := ih (i + 1) (amUp M 101 1 i (-1)) (by omega) (fun v hv2 => by
        by_cases e : v = i
        · subst e; rw [up_on]
        · rw [up_j e]; exact hv v (by omega))
      refine ⟨M', ?_, (amSame.refl.up (by rfl)).trans a2, a3⟩
      rw [q_X1_clear_7, if_pos (by omega), if_pos (by omega), tn_cast, w32_n (x := (i : Int) + 1) (n := i + 1) (by omega) (by omega)]
      exact a1
  generalize hM0 : amUp (amUp (amUp (amUp (amUp M 8 1 5 0) 8 1 6 0) 8 1 7 0) 8 1 8 0) 8 1 9 0 = M0
  obtain ⟨M1, a1, a2, a3⟩ := lp 4 0 (amUp M0 1 1 1 0) rfl (fun v hv => by omega)
  have k8 : ∀ j, M1 8 1 j = M0 8 1 j := fun j => by rw [a2 8 1 j (by rfl), up_c (by decide)]
  refine ⟨M1, ?_, ?_, ⟨?_, ?_, ?_, ?_, ?_⟩, ?_, a3⟩
  · rw [n_X8_clear, q_X8_clear_0, hM0, n_X1_clear, q_X1_clear_0]
    rw [show ((0 : Nat) : Int) = 0 from rfl] at a1
    rw [a1, amCV_s]
  · refine amSame.trans (M' := amUp M0 1 1 1 0) ?_ (a2.mono fun c s j h => ?_)
    · rw [← hM0]
      exact (((((amSame.refl.up (by rfl)).up (by rfl)).up (by rfl)).up (by rfl)).up (by rfl)).up (by rfl)
    · rw [Bool.and_eq_true, beq_iff_eq, beq_iff_eq] at h
      show (s == 1 && (c == 8 || c == 1 || c == 101)) = true
      rw [h.1, h.2]; rfl
  · rw [k8, ← hM0, up_j (by decide), up_j (by decide), up_j (by decide), up_j (by decide), up_on]
  · rw [k8, ← hM0, up_j (by decide), up_j (by decide), up_j (by decide), up_on]
  · rw [k8, ← hM0, up_j (by decide), up_j (by decide), up_on]
  · rw [k8, ← hM0, up_j (by decide), up_on]
  · rw [k8, ← hM0, up_on]
  · rw [a2 1 1 1 (by rfl), up_on]
theorem tkV_lt (t : Nat) (h : tkK L Y t = 20) : tkV L Y t < 10000 := by
  have hs : tkP L Y t < L := by
    by_cases hs : tkP L Y t < L
    · exact hs
    · have : tkK L Y t = 21 := kdY_end.2 (by omega)
      omega
  have h2 := h
  unfold tkK kdY at h2
  rw [if_neg (by omega)] at h2
  by_cases hb : isLe (byY L Y (tkP L Y t)) = true
  · rw [if_pos hb] at h2
    have h11 := wdY_le (L := L) (Y := Y) (s := tkP L Y t) (e := tkE L Y t) 19 0 (by omega)
    split at h2 <;> omega
  · rw [if_neg hb] at h2
    by_cases hb2 : isDi (byY L Y (tkP L Y t)) = true
    · rw [if_pos hb2] at h2
      have h4 : tkE L Y t - tkP L Y t ≤ 4 := by
        by_cases h4 : 4 < tkE L Y t - tkP L Y t
        · rw [if_pos h4] at h2; omega
        · omega
      have h5 := vlD_lt (f := fun i => byY L Y (tkP L Y t + i)) (tkE L Y t - tkP L Y t) (fun i hi => tok_dig hs hb2 (tkP L Y t + i) (by omega) (by
        have : tkE L Y t = enY L Y (tkP L Y t) := rfl
        omega))
      have h6 := pw10 (tkE L Y t - tkP L Y t) (by omega)
      unfold tkV
      rw [if_pos hb2]
      omega
    · rw [if_neg hb2] at h2
      by_cases hsg : sigY (byY L Y (tkP L Y t)) = true
      · rw [if_pos hsg] at h2
        have := sigY_40 hsg
        omega
      · rw [if_neg hsg] at h2
        omega
theorem tkK_lt (t : Nat) : tkK L Y t < 62 := by
  unfold tkK kdY
  have h11 := wdY_le (L := L) (Y := Y) (s := tkP L Y t) (e := tkE L Y t) 19 0 (by omega)
  split
  · omega
  · split
    · split <;> omega
    · split
      · split <;> omega
      · split
        · rename_i hsg
          have := sigY_21 hsg
          omega
        · omega
def dr0 : Dr := (tx0, 0, (fun _ => 0), (0, 0))
def fPr : Nat → Nat → Nat → Bool := fun c s j => fPa c s j || fTk1 c s j
theorem fPa_fPr : ∀ c s j, fPa c s j = true → fPr c s j = true := fun c s j h => by unfold fPr; rw [h]; rfl
theorem c_parse (hD : 22 ≤ D) (hB : cBy L Y M) : match prS (tkK L Y) (tkV L Y) 401 0 dr0 with
    | .inl (c, q) => ∃ M', amD amGst D 28 [vR 4 4 0] M = some (vI (c : Int), M') ∧ amSame fPr M M' ∧ cFt c q M' ∧ ∀ p, p ≤ 400 → goK (tkK L Y) p → M' 117 0 p = ((tkP L Y p : Nat) : Int)
    | .inr x => ∃ (M' : AmM) (len : Nat), amD amGst D 28 [vR 4 4 0] M = some (vI ((x.2.2.2.1 : Nat) : Int), M') ∧ amSame fPr M M' ∧ M' 4 0 6 = 0 ∧ cDr0 x len M' ∧ len ≤ 401 ∧ cLf x.2.2.2 M' ∧ ∀ p, p ≤ 400 → goK (tkK L Y) p → M' 117 0 p = ((tkP L Y p : Nat) : Int) := by
  obtain ⟨d, rfl⟩ := dS hD
  obtain ⟨M1, a1, a2, a3⟩ := c_cut (D := d) (by omega) hB
  have hT1 : cTk (tkK L Y) (tkV L Y) M1 := fun q p1 p2 => ⟨(a3 q p1 p2).1, (a3 q p1 p2).2.2⟩
  have hP1 : ∀ p, p ≤ 400 → goK (tkK L Y) p → M1 117 0 p = ((tkP L Y p : Nat) : Int) := fun p p1 p2 => (a3 p p1 p2).2.1
  have hk0 : M1 115 0 0 = ((tkK L Y 0 : Nat) : Int) := (hT1 0 (by omega) (fun p hp => by omega)).1
  generalize hM2 : amUp (amUp (amUp (amUp (amUp M1 4 0 3 0) 4 0 4 ((tkK L Y 0 : Nat) : Int)) 4 0 5 0) 4 0 6 0) 4 0 8 0 = M2
  have s2 : amSame fPa M1 M2 := by
    rw [← hM2]
    exact ((((amSame.refl.up (by rfl)).up (by rfl)).up (by rfl)).up (by rfl)).up (by rfl)
  obtain ⟨M3, b1, b2, ⟨b3, b4, b5, b6, b7⟩, b8, b9⟩ := c_clear (D := d) (M := M2) (by omega)
  have s3 : amSame fPa M2 M3 := b2.mono fun c s j h => by
    have h : (s == 1 && (c == 8 || c == 1 || c == 101)) = true := h
    simp only [Bool.and_eq_true, Bool.or_eq_true, beq_iff_eq] at h
    unfold fPa
    obtain ⟨h1, h2⟩ := h
    rw [h1]
    rcases h2 with (h2 | h2) | h2 <;> rw [h2] <;> rfl
  have k4 : ∀ j, M3 4 0 j = M2 4 0 j := fun j => b2 4 0 j (by rfl)
  have hPs : cPs (tkK L Y) 0 0 M3 := by
    refine ⟨⟨by omega, (fun p hp => by omega), Nat.le_refl 0⟩, ?_, ?_, ?_, b8⟩
    · rw [k4, ← hM2, up_j (by decide), up_j (by decide), up_j (by decide), up_j (by decide), up_on]; rfl
    · rw [k4, ← hM2, up_j (by decide), up_j (by decide), up_j (by decide), up_on]
    · rw [k4, ← hM2, up_j (by decide), up_on]
  have hD0 : cDr0 dr0 0 M3 := by
    refine ⟨⟨Nat.zero_le _, Nat.zero_le _, Nat.zero_le _, Nat.zero_le _⟩, ⟨b3, b4, b5, b6, b7, ?_⟩, fun j p q => ?_, fun j p => ?_, fun p q => ?_, fun v p => b9 v p⟩
    · rw [k4, ← hM2, up_j (by decide), up_j (by decide), up_on]; rfl
    · have q : j ≤ 0 := q
      omega
    · have p : j < 0 := p
      omega
    · have q : p < 0 := q
      omega
  have hLf : cLf dr0.2.2.2 M3 := ⟨by rw [k4, ← hM2, up_on]; rfl, fun q => absurd rfl q⟩
  have hl := c_parseLoop (d := d) (by omega) tkV_lt 401 0 0 0 dr0 M3 (by omega) (Nat.le_refl 0) (hT1.pa (s2.trans s3)) hPs hD0 hLf (fun q => absurd rfl q)
  have e28 : amD amGst (d + 1) 28 [vR 4 4 0] M = e_X4_parse_51 d 0 M3 := by
    rw [n_X4_parse, q_X4_parse_0, a1, amCV_s, up_on, show (0 : Int) = ((0 : Nat) : Int) from rfl, c_kindAt (by omega) (by omega), up_c (show 115 ≠ 4 by decide), hk0, amCI_s, show ((0 : Nat) : Int) = 0 from rfl, hM2, b1, amCV_s]
  have sA : amSame fPr M M3 := (a2.mono fun c s j h => by unfold fPr; rw [h]; exact Bool.or_true _).trans ((s2.trans s3).mono fPa_fPr)
  have hP3 : ∀ M', amSame fPa M3 M' → ∀ p, p ≤ 400 → goK (tkK L Y) p → M' 117 0 p = ((tkP L Y p : Nat) : Int) := fun M' hs p p1 p2 => by
    rw [hs 117 0 p (by rfl), s3 117 0 p (by rfl), s2 117 0 p (by rfl)]
    exact hP1 p p1 p2
  rw [e28]
  revert hl
  cases prS (tkK L Y) (tkV L Y) 401 0 dr0 with
  | inl y =>
    obtain ⟨c, q⟩ := y
    intro hl
    obtain ⟨M4, c1, c2, c3⟩ := hl
    exact ⟨M4, c1, sA.trans (c2.mono fPa_fPr), c3, hP3 M4 c2⟩
  | inr x =>
    intro hl
    obtain ⟨M4, len, c1, c2, c3, c4, c5, c6⟩ := hl
    exact ⟨M4, len, c1, sA.trans (c2.mono fPa_fPr), c3, c4, c5, c6, hP3 M4 c2⟩
theorem c_faultPlace (hD : 3 ≤ D) {q : Nat} (h : ∀ p, p ≤ 400 → goK (tkK L Y) p → M 117 0 p = ((tkP L Y p : Nat) : Int)) (hq : gd (tkK L Y) q) (hM : (M 4 0 6 ≠ 0 ∧ M 4 0 7 = (q : Int)) ∨ (M 4 0 6 = 0 ∧ M 4 0 9 = (q : Int))) : amD amGst D 29 [vR 4 4 0] M = some (vI ((tkP L Y q : Nat) : Int), M) := by
  obtain ⟨d, rfl⟩ := dS hD
  obtain ⟨d, rfl⟩ := dS (show 1 + 1 ≤ d by omega)
  have h4 := hq.1
  rw [n_X4_faultPlace, q_X4_faultPlace_0]
  have e69 : amD amGst (d + 1) 69 [vR 7 7 0, vI (q : Int)] M = some (vI ((tkP L Y q : Nat) : Int), M) := by
    rw [n_X7_startAt, q_X7_startAt_0, c_at (n := 401) (by omega) (by decide) (by decide) (by omega) (by omega), amCI_s, tn_cast, h q hq.1 hq.2]
  rcases hM with ⟨h6, h7⟩ | ⟨h6, h9⟩
  · rw [if_neg h6, h7, e69, amCI_s]
  · rw [if_pos h6, h9, e69, amCI_s]
end CPR
