/-! PURE: the class's pilgrims -/
theorem lfS_again {lf : Nat × Nat} {t : Nat} {b : Bool} : lfS (lfS lf 3 t b) 3 t true = lfS lf 3 t true := by
  unfold lfS
  by_cases h0 : lf.1 = 0
  · by_cases hb : b = true
    · rw [if_pos (⟨hb, h0⟩ : b = true ∧ lf.1 = 0), if_neg (fun q : true = true ∧ (3, t).1 = 0 => by cases q.2), if_pos (⟨rfl, h0⟩ : true = true ∧ lf.1 = 0)]
    · rw [if_neg (fun q : b = true ∧ lf.1 = 0 => hb q.1)]
  · rw [if_neg (fun q : b = true ∧ lf.1 = 0 => h0 q.2)]
section CSW
variable {D d t len : Nat} {κ ν : Nat → Nat} {M : AmM} {lf : Nat × Nat}
def fNm : Nat → Nat → Nat → Bool := fun c s j => fTi c s j || c == 107
theorem fNm_fPa : ∀ c s j, fNm c s j = true → fPa c s j = true := fun c s j hq => by
  unfold fNm at hq
  rw [Bool.or_eq_true] at hq
  rcases hq with hq | hq
  · exact fTi_fPa c s j hq
  · unfold fPa; rw [hq]; simp
/-- the names ahead compared -/
theorem c_nameLoop (hd : 1 ≤ d) {nm : Nat → Nat} {n : Nat} (hn : n ≤ 7) {v : Nat} (hk : κ t = 19) : ∀ (k i : Nat) (lf1 : Nat × Nat) (M1 : AmM), i + k = n → amSame fLt M M1 → (∀ j, j < n → M 107 0 j = ((nm j : Nat) : Int)) → cPz κ t M1 → cLf (lfS lf 3 t (anyN nm v i)) M1 → ∃ M', e_X4_takeName_15 d (n : Int) ((v : Nat) : Int) (i : Int) M1 = e_X4_takeName_63 d (n : Int) ((v : Nat) : Int) (n : Int) M' ∧ amSame fLt M M' ∧ cPz κ t M' ∧ cLf (lfS lf 3 t (anyN nm v n)) M'
  | 0, i, lf1, M1, h, hs, hnm, hz, hlf => by
    have h : i = n := h
    subst h
    exact ⟨M1, by rw [q_X4_takeName_15, if_neg (by omega)], hs, hz, hlf⟩
  | k + 1, i, lf1, M1, h, hs, hnm, hz, hlf => by
    have h4 := hz.2.2.1
    have hm : M1 107 0 i = ((nm i : Nat) : Int) := (hs 107 0 i (by rfl)).trans (hnm i (by omega))
    have ea : anyN nm v (i + 1) = (anyN nm v i || nm i == v) := rfl
    rw [q_X4_takeName_15, if_pos (by omega), if_pos (by omega), h4, if_pos (by omega), if_pos (by omega), tn_cast, hm, w32_n (x := (i : Int) + 1) (n := i + 1) (by omega) (by omega)]
    by_cases he : nm i = v
    · obtain ⟨M2, a1, a2, a3⟩ := c_failLater (D := d) (c := 3) hd (by decide) hlf hz.2.1
      rw [lfS_again] at a3
      rw [if_pos (cmp0.2 (by omega)), show (3 : Int) = ((3 : Nat) : Int) from rfl, a1, amCV_s]
      refine c_nameLoop hd hn hk k (i + 1) lf1 M2 (by omega) (hs.trans a2) hnm (hz.lt a2) ?_
      rw [ea, he, beq_self_eq_true, Bool.or_true]
      exact a3
    · rw [if_neg (fun q => he (by have := cmp0.1 q; omega))]
      refine c_nameLoop hd hn hk k (i + 1) lf1 M1 (by omega) hs hnm hz ?_
      rw [ea, beq_false_of_ne he, Bool.or_false]
      exact hlf
theorem c_nameSkip (hd : 1 ≤ d) {n : Nat} (hn : n ≤ 7) {y : Int} (h4 : M 4 0 4 ≠ 19) : ∀ (k i : Nat), i + k = n → e_X4_takeName_15 d (n : Int) y (i : Int) M = e_X4_takeName_63 d (n : Int) y (n : Int) M
  | 0, i, h => by
    have h : i = n := h
    subst h
    rw [q_X4_takeName_15, if_neg (by omega)]
  | k + 1, i, h => by
    rw [q_X4_takeName_15, if_pos (by omega), if_pos (by omega), if_neg h4, w32_n (x := (i : Int) + 1) (n := i + 1) (by omega) (by omega)]
    exact c_nameSkip hd hn h4 k (i + 1) (by omega)
theorem c_name (hD : 4 ≤ D) (hT : cTk κ ν M) (h : cPz κ t M) (hlf : cLf lf M) {nm : Nat → Nat} {n : Nat} (hn : n ≤ 7) (hnm : ∀ j, j < n → M 107 0 j = ((nm j : Nat) : Int)) : match nmS κ ν nm n t lf with
    | .inl (c, q) => ∃ M', amD amGst D 33 [vR 4 4 0, vI (n : Int)] M = some (vU, M') ∧ amSame fNm M M' ∧ cFt c q M'
    | .inr (t1, lf1) => ∃ M', amD amGst D 33 [vR 4 4 0, vI (n : Int)] M = some (vU, M') ∧ amSame fNm M M' ∧ cPz κ t1 M' ∧ cLf lf1 M' ∧ M' 107 0 n = ((ν t : Nat) : Int) ∧ ∀ j, j ≠ n → M' 107 0 j = M 107 0 j := by
  obtain ⟨d, rfl⟩ := dS hD
  have h0 := h.1
  have e33 : amD amGst (d + 1) 33 [vR 4 4 0, vI (n : Int)] M = e_X4_takeName_15 d (n : Int) (M 116 0 t) 0 M := by
    rw [n_X4_takeName, q_X4_takeName_0, h.2.1, c_valueAt (by omega) h0.1, amCL_s]
  have e63 : ∀ (y : Int) (M1 : AmM), e_X4_takeName_63 d (n : Int) y (n : Int) M1 = (amCV (amD amGst d 39 [vR 4 4 0, vI 19] (amUp M1 107 0 n y)) fun M2 => some (vU, M2)) := fun y M1 => by
    rw [q_X4_takeName_63, if_neg (by omega), if_pos (by omega), if_pos (by omega), tn_cast]
  rw [e33]
  unfold nmS
  by_cases hk : κ t = 19
  · have h116 := (hT t h0.1 h0.2).2 (by omega)
    rw [h116, if_pos hk]
    obtain ⟨M1, a1, a2, a3, a4⟩ := c_nameLoop (d := d) (M := M) (lf := lf) (nm := nm) (n := n) (v := ν t) (by omega) hn hk n 0 lf M (by omega) amSame.refl hnm h (by
      have : lfS lf 3 t (anyN nm (ν t) 0) = lf := lfS_f
      rw [this]; exact hlf)
    rw [show ((0 : Nat) : Int) = 0 from rfl] at a1
    have s1 : amSame fNm M (amUp M1 107 0 n ((ν t : Nat) : Int)) := (a2.mono fun c s j hq => by unfold fNm; rw [fLt_fTi c s j hq]; rfl).up (by unfold fNm; simp)
    obtain ⟨M2, b1, b2, b3⟩ := c_takeZ (D := d) (w := 19) (by omega) (hT.pa (s1.mono fNm_fPa)) (by decide) (a3.mv fun j => up_c (by decide))
    have ek : tkX κ 19 t = if t < 400 then .inr (t + 1) else .inl (2, t) := if_pos hk
    rw [ek] at b3
    rw [show ((19 : Nat) : Int) = 19 from rfl] at b1
    have s2 : amSame fNm M M2 := s1.trans (b2.mono fun c s j hq => by unfold fNm; rw [fTa_fTi c s j hq]; rfl)
    rw [a1, e63, b1, amCV_s]
    by_cases h40 : t < 400
    · rw [if_pos h40] at b3 ⊢
      refine ⟨M2, rfl, s2, b3, (a4.mv fun j => up_c (by decide)).ta b2, ?_, fun j hj => ?_⟩
      · rw [b2 107 0 n (by rfl), up_on]
      · rw [b2 107 0 j (by rfl), up_j hj]
        exact a2 107 0 j (by rfl)
    · rw [if_neg h40] at b3 ⊢
      exact ⟨M2, rfl, s2, b3⟩
  · rw [if_neg hk]
    have e15 := c_nameSkip (d := d) (M := M) (n := n) (y := M 116 0 t) (by omega) hn (by rw [h.2.2.1]; omega) n 0 (by omega)
    rw [show ((0 : Nat) : Int) = 0 from rfl] at e15
    have s1 : amSame fNm M (amUp M 107 0 n (M 116 0 t)) := amSame.refl.up (by unfold fNm; simp)
    obtain ⟨M2, b1, b2, b3⟩ := c_takeZ (D := d) (w := 19) (by omega) (hT.pa (s1.mono fNm_fPa)) (by decide) (h.mv fun j => up_c (by decide))
    have ek : tkX κ 19 t = .inl (1, t) := if_neg hk
    rw [ek] at b3
    rw [show ((19 : Nat) : Int) = 19 from rfl] at b1
    rw [e15, e63, b1, amCV_s]
    exact ⟨M2, rfl, s1.trans (b2.mono fun c s j hq => by unfold fNm; rw [fTa_fTi c s j hq]; rfl), b3⟩
theorem c_nameF (hD : 4 ≤ D) {c q n : Nat} (hn : n ≤ 7) (h : cFt c q M) : ∃ M', amD amGst D 33 [vR 4 4 0, vI (n : Int)] M = some (vU, M') ∧ amSame fNm M M' ∧ cFt c q M' := by
  obtain ⟨d, rfl⟩ := dS hD
  obtain ⟨y, hy⟩ := c_valueAny (D := d) (M := M) (q := M 4 0 3) (by omega)
  have e15 := c_nameSkip (d := d) (M := M) (n := n) (y := y) (by omega) hn (by rw [h.2.2.2]; decide) n 0 (by omega)
  rw [show ((0 : Nat) : Int) = 0 from rfl] at e15
  have hf : cFt c q (amUp M 107 0 n y) := h.mv (up_c (by decide)) (up_c (by decide)) (up_c (by decide))
  refine ⟨_, ?_, amSame.refl.up (by unfold fNm; simp), hf⟩
  rw [n_X4_takeName, q_X4_takeName_0, hy, amCL_s, e15, q_X4_takeName_63, if_neg (by omega), if_pos (by omega), if_pos (by omega), tn_cast, c_takeF (by omega) (by decide) hf, amCV_s]
theorem fC_fPa {c1 : Nat} (hc : c1 = 120 ∨ c1 = 121) : ∀ c s j : Nat, (c == c1 && s == 1) = true → fPa c s j = true := fun c s j hq => by
  rw [Bool.and_eq_true, beq_iff_eq, beq_iff_eq] at hq
  unfold fPa
  rw [hq.1, hq.2]
  rcases hc with rfl | rfl <;> rfl
theorem c_st3 (hd : 6 ≤ d) (hν : ∀ t, κ t = 20 → ν t < 10000) {x : Dr} {l1 : Int} (hT : cTk κ ν M) (hk : κ t = 3) (h : cPs κ t len M) (hd0 : cDr0 x len M) (hlf : cLf x.2.2.2 M) : ∃ M', (amCV (amD amGst d 32 [vR 4 4 0] M) fun M9 => amCV (amD amGst d 39 [vR 4 4 0, vI 59] M9) fun M10 => e_X4_parse_51 d (w32 (l1 + 1)) M10) = e_X4_parse_51 d (w32 (l1 + 1)) M' ∧ cSo κ (st3 κ ν t x) M M' := by
  obtain ⟨d', ed⟩ := dS (show 5 + 1 ≤ d by omega)
  have h819 := hd0.2.1.2.2.2.2.1
  have hP := hd0.1.2.2.1
  unfold st3
  by_cases hp8 : tP x.1 < 8
  · have e32 : amD amGst d 32 [vR 4 4 0] M = (amCV (amD amGst d' 39 [vR 4 4 0, vI 3] M) fun M1 => amCV (amD amGst d' 33 [vR 4 4 0, vI (tP x.1 : Int)] M1) fun M2 => amCI (amD amGst d' 40 [vR 4 4 0, vI 1, vI 30] M2) fun v3 M3 => amCV (amD amGst d' 143 [vR 20 120 1, vI (tP x.1 : Int), vI v3] M3) fun M4 => amCI (amD amGst d' 41 [vR 4 4 0] M4) fun v5 M5 => amCV (amD amGst d' 143 [vR 20 121 1, vI (tP x.1 : Int), vI v5] M5) fun M6 => some (vU, amUp M6 8 1 9 (w32 ((tP x.1 : Int) + 1)))) := by
      rw [ed, n_X4_readPilgrim, q_X4_readPilgrim_0, h819, if_pos (by omega)]
    -- behind a FAULT, from each point on
    have fin2 : ∀ (c q : Nat) (M4 : AmM) (v : Int), amSame fPa M M4 → cFt c q M4 → ∃ M', (amCV (amD amGst d' 143 [vR 20 121 1, vI (tP x.1 : Int), vI v] M4) fun M6 => some (vU, amUp M6 8 1 9 (w32 ((tP x.1 : Int) + 1)))) = some (vU, M') ∧ amSame fPa M M' ∧ cFt c q M' := fun c q M4 v hs hf => by
      obtain ⟨M6, p1, p2⟩ := c_putAny (D := d') (M := M4) (c1 := 121) (r := 1) (n := 8) (j := (tP x.1 : Int)) (v := v) (by omega) (by decide) (by decide)
      exact ⟨_, by rw [p1, amCV_s], (hs.trans (p2.mono (fC_fPa (Or.inr rfl)))).up (by rfl), (hf.col (by decide) p2).up8⟩
    have fin1 : ∀ (c q : Nat) (M3 : AmM) (v : Int), amSame fPa M M3 → cFt c q M3 → ∃ M', (amCV (amD amGst d' 143 [vR 20 120 1, vI (tP x.1 : Int), vI v] M3) fun M4 => amCI (amD amGst d' 41 [vR 4 4 0] M4) fun v5 M5 => amCV (amD amGst d' 143 [vR 20 121 1, vI (tP x.1 : Int), vI v5] M5) fun M6 => some (vU, amUp M6 8 1 9 (w32 ((tP x.1 : Int) + 1)))) = some (vU, M') ∧ amSame fPa M M' ∧ cFt c q M' := fun c q M3 v hs hf => by
      obtain ⟨M4, p1, p2⟩ := c_putAny (D := d') (M := M3) (c1 := 120) (r := 1) (n := 8) (j := (tP x.1 : Int)) (v := v) (by omega) (by decide) (by decide)
      have hf4 := hf.col (by decide) p2
      obtain ⟨M', f1, f2, f3⟩ := fin2 c q M4 0 (hs.trans (p2.mono (fC_fPa (Or.inl rfl)))) hf4
      exact ⟨M', by rw [p1, amCV_s, c_vowF (by omega) hf4, amCI_s]; exact f1, f2, f3⟩
    have fin0 : ∀ (c q : Nat) (M2 : AmM), amSame fPa M M2 → cFt c q M2 → ∃ M', (amCI (amD amGst d' 40 [vR 4 4 0, vI 1, vI 30] M2) fun v3 M3 => amCV (amD amGst d' 143 [vR 20 120 1, vI (tP x.1 : Int), vI v3] M3) fun M4 => amCI (amD amGst d' 41 [vR 4 4 0] M4) fun v5 M5 => amCV (amD amGst d' 143 [vR 20 121 1, vI (tP x.1 : Int), vI v5] M5) fun M6 => some (vU, amUp M6 8 1 9 (w32 ((tP x.1 : Int) + 1)))) = some (vU, M') ∧ amSame fPa M M' ∧ cFt c q M' := fun c q M2 hs hf => by
      obtain ⟨y, hy⟩ := c_takeIntF (D := d') (least := 1) (most := 30) (by omega) hf
      obtain ⟨M', f1, f2, f3⟩ := fin1 c q M2 y hs hf
      exact ⟨M', by rw [hy, amCI_s]; exact f1, f2, f3⟩
    obtain ⟨M1, a1, a2, a3⟩ := c_takeZ (D := d') (w := 3) (by omega) hT (by decide) h.z
    have ek : tkX κ 3 t = if t < 400 then .inr (t + 1) else .inl (2, t) := if_pos hk
    rw [ek] at a3
    rw [show ((3 : Nat) : Int) = 3 from rfl] at a1
    rw [if_pos hp8, e32, a1, amCV_s]
    by_cases h40 : t < 400
    · rw [if_pos h40] at a3 ⊢
      have s1 := a2.mono fTa_fPa
      have hT1 := hT.pa s1
      have hd1 := hd0.ta a2
      have hn := c_name (D := d') (by omega) hT1 a3 (hlf.ta a2) (nm := x.2.2.1) (n := tP x.1) (by omega) (fun j hj => (hd1.2.2.2.2.1 j hj).2.2)
      cases hn1 : nmS κ ν x.2.2.1 (tP x.1) (t + 1) x.2.2.2 with
      | inl y =>
        obtain ⟨c, q⟩ := y
        rw [hn1] at hn
        obtain ⟨M2, b1, b2, b3⟩ := hn
        obtain ⟨M', f1, f2, f3⟩ := fin0 c q M2 (s1.trans (b2.mono fNm_fPa)) b3
        exact ⟨M', by rw [b1, amCV_s, f1, amCV_s, c_semF (by omega) f3, amCV_s], f2, f3⟩
      | inr y =>
        obtain ⟨t1, lf1⟩ := y
        rw [hn1] at hn
        obtain ⟨M2, b1, b2, b3, b4, b5, b6⟩ := hn
        obtain ⟨n1, n2, n3⟩ := nmS_ok hn1
        have et1 : t1 = t + 1 + 1 := congrArg (fun z => z.1) n3
        have s2 := s1.trans (b2.mono fNm_fPa)
        have hT2 := hT.pa s2
        have hi := c_takeInt (D := d') (least := 1) (most := 30) (by omega) hT2 hν b3 b4
        rw [show ((1 : Nat) : Int) = 1 from rfl, show ((30 : Nat) : Int) = 30 from rfl] at hi
        rw [b1, amCV_s]
        show ∃ M', _ ∧ cSo κ (match intS κ ν 1 30 t1 lf1 with
          | .inl y => .inl y
          | .inr (t2, lf2) => (match vwS κ t2 with
            | .inl y => .inl y
            | .inr t3 => semS κ t3 (txP x.1 ((ν t1 : Nat) : Int) ((κ t2 - 8 : Nat) : Int), x.2.1, (fun i => if i = tP x.1 then ν (t + 1) else x.2.2.1 i), lf2))) M M'
        cases hi1 : intS κ ν 1 30 t1 lf1 with
        | inl y =>
          obtain ⟨c, q⟩ := y
          rw [hi1] at hi
          obtain ⟨M3, v, c1, c2, c3⟩ := hi
          obtain ⟨M', f1, f2, f3⟩ := fin1 c q M3 v (s2.trans (c2.mono fTi_fPa)) c3
          exact ⟨M', by rw [c1, amCI_s, f1, amCV_s, c_semF (by omega) f3, amCV_s], f2, f3⟩
        | inr y =>
          obtain ⟨t2, lf2⟩ := y
          rw [hi1] at hi
          obtain ⟨M3, c1, c2, c3, c4⟩ := hi
          obtain ⟨i1, i2, i3⟩ := intS_ok hi1
          have et2 : t2 = t1 + 1 := congrArg (fun z => z.1) i3
          have hput := c_put (D := d') (c := 120) (r := 1) (n := 8) (j := (tP x.1 : Int)) (v := ((ν t1 : Nat) : Int)) (M := M3) (by omega) (by decide) (by decide) (by omega) (by omega)
          rw [tn_cast] at hput
          have s4 : amSame fPa M (amUp M3 120 1 (tP x.1) ((ν t1 : Nat) : Int)) := (s2.trans (c2.mono fTi_fPa)).up (by rfl)
          have hz4 : cPz κ t2 (amUp M3 120 1 (tP x.1) ((ν t1 : Nat) : Int)) := c3.mv fun j => up_c (by decide)
          have hv := c_vow (D := d') (by omega) (hT.pa s4) hz4
          rw [c1, amCI_s, hput, amCV_s]
          show ∃ M', _ ∧ cSo κ (match vwS κ t2 with
            | .inl y => .inl y
            | .inr t3 => semS κ t3 (txP x.1 ((ν t1 : Nat) : Int) ((κ t2 - 8 : Nat) : Int), x.2.1, (fun i => if i = tP x.1 then ν (t + 1) else x.2.2.1 i), lf2)) M M'
          cases hv1 : vwS κ t2 with
          | inl y =>
            obtain ⟨c, q⟩ := y
            rw [hv1] at hv
            obtain ⟨M5, v, e1, e2, e3⟩ := hv
            obtain ⟨M', f1, f2, f3⟩ := fin2 c q M5 v (s4.trans (e2.mono fTa_fPa)) e3
            exact ⟨M', by rw [e1, amCI_s, f1, amCV_s, c_semF (by omega) f3, amCV_s], f2, f3⟩
          | inr t3 =>
            rw [hv1] at hv
            obtain ⟨M5, e1, e2, e3⟩ := hv
            obtain ⟨v1, v2, v3⟩ := vwS_ok hv1
            have hput2 := c_put (D := d') (c := 121) (r := 1) (n := 8) (j := (tP x.1 : Int)) (v := ((κ t2 - 8 : Nat) : Int)) (M := M5) (by omega) (by decide) (by decide) (by omega) (by omega)
            rw [tn_cast] at hput2
            have s6 : amSame fPa M (amUp (amUp M5 121 1 (tP x.1) ((κ t2 - 8 : Nat) : Int)) 8 1 9 ((tP x.1 + 1 : Nat) : Int)) := ((s4.trans (e2.mono fTa_fPa)).up (by rfl)).up (by rfl)
            have hz6 : cPz κ t3 (amUp (amUp M5 121 1 (tP x.1) ((κ t2 - 8 : Nat) : Int)) 8 1 9 ((tP x.1 + 1 : Nat) : Int)) := e3.mv fun j => by rw [up_c (by decide), up_c (by decide)]
            have hlf6 : cLf lf2 (amUp (amUp M5 121 1 (tP x.1) ((κ t2 - 8 : Nat) : Int)) 8 1 9 ((tP x.1 + 1 : Nat) : Int)) := (((c4.up (c := 120) (s := 1) (j := tP x.1) (v := ((ν t1 : Nat) : Int)) (by decide)).ta e2).up (by decide)).up (by decide)
            have hlen := h.1.2.2
            -- what is left as it was
            have same : ∀ c s j, c ≠ 4 ∨ j = 5 → c ≠ 107 → c ≠ 120 → c ≠ 121 → c ≠ 8 → amUp (amUp M5 121 1 (tP x.1) ((κ t2 - 8 : Nat) : Int)) 8 1 9 ((tP x.1 + 1 : Nat) : Int) c s j = M1 c s j := fun c s j p1 p2 p3 p4 p5 => by
              have hti : fTi c s j = false := by
                unfold fTi fTa fLt
                rcases p1 with p1 | p1
                · rw [beq_false_of_ne p1]; rfl
                · rw [p1]; simp
              have hta : fTa c s j = false := by
                cases hq : fTa c s j with
                | false => rfl
                | true => rw [fTa_fTi c s j hq] at hti; cases hti
              rw [up_c p5, up_c p4, e2 c s j hta, up_c p3, c2 c s j hti, b2 c s j (by unfold fNm; rw [hti, beq_false_of_ne p2]; rfl)]
            have same8 : ∀ j, j ≠ 9 → amUp (amUp M5 121 1 (tP x.1) ((κ t2 - 8 : Nat) : Int)) 8 1 9 ((tP x.1 + 1 : Nat) : Int) 8 1 j = M1 8 1 j := fun j hj => by
              rw [up_j hj, up_c (by decide), e2 8 1 j (by rfl), up_c (by decide), c2 8 1 j (by rfl), b2 8 1 j (by rfl)]
            have hd6 : cDr0 (txP x.1 ((ν t1 : Nat) : Int) ((κ t2 - 8 : Nat) : Int), x.2.1, (fun i => if i = tP x.1 then ν (t + 1) else x.2.2.1 i), lf2) len (amUp (amUp M5 121 1 (tP x.1) ((κ t2 - 8 : Nat) : Int)) 8 1 9 ((tP x.1 + 1 : Nat) : Int)) := by
              obtain ⟨g0, ⟨g1, g2, g3, g4, g5, g6⟩, g7, g8, g9, g10⟩ := hd1
              refine ⟨⟨g0.1, g0.2.1, by show tP x.1 + 1 ≤ 8; omega, g0.2.2.2⟩, ⟨(same8 5 (by decide)).trans g1, (same8 6 (by decide)).trans g2, (same8 7 (by decide)).trans g3, (same8 8 (by decide)).trans g4, up_on, (same 4 0 5 (Or.inr rfl) (by decide) (by decide) (by decide) (by decide)).trans g6⟩, fun j p q => (same 118 1 j (Or.inl (by decide)) (by decide) (by decide) (by decide) (by decide)).trans (g7 j p q), fun j p => (same 119 1 j (Or.inl (by decide)) (by decide) (by decide) (by decide) (by decide)).trans (g8 j p), fun p q => ?_, fun v p => ?_⟩
              · have q : p < tP x.1 + 1 := q
                have f120 : amUp (amUp M5 121 1 (tP x.1) ((κ t2 - 8 : Nat) : Int)) 8 1 9 ((tP x.1 + 1 : Nat) : Int) 120 1 p = amUp M3 120 1 (tP x.1) ((ν t1 : Nat) : Int) 120 1 p := by rw [up_c (by decide), up_c (by decide), e2 120 1 p (by rfl)]
                have f107 : amUp (amUp M5 121 1 (tP x.1) ((κ t2 - 8 : Nat) : Int)) 8 1 9 ((tP x.1 + 1 : Nat) : Int) 107 0 p = M2 107 0 p := by rw [up_c (by decide), up_c (by decide), e2 107 0 p (by rfl), up_c (by decide), c2 107 0 p (by rfl)]
                show _ = rUp (tW x.1) (tP x.1) ((ν t1 : Nat) : Int) p ∧ _ = rUp (tV x.1) (tP x.1) ((κ t2 - 8 : Nat) : Int) p ∧ _ = (((if p = tP x.1 then ν (t + 1) else x.2.2.1 p) : Nat) : Int)
                rw [f120, f107, up_c (show 121 ≠ 8 by decide)]
                by_cases ep : p = tP x.1
                · subst ep
                  rw [up_on, up_on, rUp_on, rUp_on, if_pos rfl]
                  exact ⟨rfl, rfl, b5⟩
                · have gp := g9 p (by omega)
                  rw [up_j ep, up_j ep, rUp_ne ep, rUp_ne ep, if_neg ep, b6 p ep, c2 120 1 p (by rfl), b2 120 1 p (by rfl), e2 121 1 p (by rfl), up_c (by decide), c2 121 1 p (by rfl), b2 121 1 p (by rfl)]
                  exact gp
              · have hv := g10 v p
                have e := same 101 1 v (Or.inl (by decide)) (by decide) (by decide) (by decide) (by decide)
                show match tL x.1 v with
                  | none => _
                  | some l => _
                cases hL : tL x.1 v with
                | none => rw [hL] at hv; exact e.trans hv
                | some l =>
                  rw [hL] at hv
                  obtain ⟨i, j1, j2, j3⟩ := hv
                  exact ⟨i, e.trans j1, j2, cLw_mv _ _ _ j3 fun j _ _ => same 100 1 j (Or.inl (by decide)) (by decide) (by decide) (by decide) (by decide)⟩
            obtain ⟨M7, f1, f2⟩ := c_sem (D := d) (M0 := M) (len := len) (x := (txP x.1 ((ν t1 : Nat) : Int) ((κ t2 - 8 : Nat) : Int), x.2.1, (fun i => if i = tP x.1 then ν (t + 1) else x.2.2.1 i), lf2)) (by omega) (hT.pa s6) hz6 (by omega) ((same 1 1 1 (Or.inl (by decide)) (by decide) (by decide) (by decide) (by decide)).trans ((a2 1 1 1 (by rfl)).trans h.2.2.2.2)) hd6 hlf6 s6
            refine ⟨M7, ?_, f2⟩
            rw [e1, amCI_s, hput2, amCV_s, w32_n (x := (tP x.1 : Int) + 1) (n := tP x.1 + 1) (by omega) (by omega), amCV_s, f1, amCV_s]
    · rw [if_neg h40] at a3 ⊢
      obtain ⟨M2, b1, b2, b3⟩ := c_nameF (D := d') (by omega) (show tP x.1 ≤ 7 by omega) a3
      obtain ⟨M', f1, f2, f3⟩ := fin0 2 t M2 ((a2.mono fTa_fPa).trans (b2.mono fNm_fPa)) b3
      exact ⟨M', by rw [b1, amCV_s, f1, amCV_s, c_semF (by omega) f3, amCV_s], f2, f3⟩
  · obtain ⟨M2, a1, a2, a3⟩ := c_fail (D := d') (c := 2) (by omega) (by decide) h.2.2.2.1 h.2.1
    rw [show ((2 : Nat) : Int) = 2 from rfl] at a1
    rw [if_neg hp8]
    refine ⟨M2, ?_, a2.mono fTa_fPa, a3⟩
    rw [ed, n_X4_readPilgrim, q_X4_readPilgrim_0, h819, if_neg (by omega), a1, amCV_s, amCV_s, c_semF (by omega) a3, amCV_s]
end CSW
