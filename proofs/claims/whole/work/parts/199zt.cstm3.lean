/-! PURE: the class's rain, brine, pilgrim -/
section CSV
variable {D d t len : Nat} {κ ν : Nat → Nat} {M : AmM} {lf : Nat × Nat}
theorem fRq1_fPa {c1 : Nat} (hc : c1 = 118 ∨ c1 = 119) : ∀ c s j, fRq1 c1 c s j = true → fPa c s j = true := fun c s j hq => by
  unfold fRq1 at hq
  rw [Bool.or_eq_true] at hq
  rcases hq with hq | hq
  · exact fTi_fPa c s j hq
  · rw [Bool.and_eq_true, beq_iff_eq, beq_iff_eq] at hq
    unfold fPa
    rw [hq.1, hq.2]
    rcases hc with rfl | rfl <;> rfl
theorem c_st1 (hd : 5 ≤ d) (hν : ∀ t, κ t = 20 → ν t < 10000) {x : Dr} {l1 : Int} (hT : cTk κ ν M) (hk : κ t = 1) (h : cPs κ t len M) (hd0 : cDr0 x len M) (hlf : cLf x.2.2.2 M) : ∃ M', (amCI (amD amGst d 30 [vR 4 4 0, vR 20 119 1, vI 0, vI 14, vI 9] M) fun v3 M3 => amCV (amD amGst d 39 [vR 4 4 0, vI 59] (amUp M3 8 1 6 v3)) fun M4 => e_X4_parse_51 d (w32 (l1 + 1)) M4) = e_X4_parse_51 d (w32 (l1 + 1)) M' ∧ cSo κ (st1 κ ν t x) M M' := by
  obtain ⟨d', ed⟩ := dS (show 4 + 1 ≤ d by omega)
  have h4 := h.2.2.1
  obtain ⟨M1, a1, a2, a3⟩ := c_takeZ (D := d') (w := 1) (by omega) hT (by decide) h.z
  have ek : tkX κ 1 t = if t < 400 then .inr (t + 1) else .inl (2, t) := if_pos hk
  rw [ek] at a3
  have e30 : amD amGst d 30 [vR 4 4 0, vR 20 119 1, vI 0, vI 14, vI 9] M = e_X4_readRow_11 d' 119 1 0 14 9 0 M1 := by
    rw [ed, n_X4_readRow, q_X4_readRow_0, h4, hk, a1, amCV_s]
  unfold st1
  by_cases h40 : t < 400
  · rw [if_pos h40] at a3 ⊢
    have hT1 := hT.pa (a2.mono fTa_fPa)
    have hr := c_rowLoop (d := d') (κ := κ) (ν := ν) (f := 0) (room := 14) (most := 9) (by omega) hν (show (119 : Nat) ≠ 90 ∧ (119 : Nat) ≠ 4 ∧ (119 : Nat) ≠ 115 ∧ (119 : Nat) ≠ 116 by decide) (show amLenL.getD 119 0 = 14 by decide) (by omega) (by omega) 14 (t + 1) 0 (tRn x.1) x.2.2.2 M1 rfl hT1 a3 (hlf.ta a2) (fun j hj => by omega)
    revert hr
    cases rwS κ ν 0 9 14 (t + 1) 0 (tRn x.1) x.2.2.2 with
    | inl y =>
      obtain ⟨c, q⟩ := y
      intro hr
      obtain ⟨M2, v, b1, b2, b3⟩ := hr
      have b1' : e_X4_readRow_11 d' 119 1 0 14 9 0 M1 = some (vI v, M2) := b1
      have hf : cFt c q (amUp M2 8 1 6 v) := b3.mv (up_c (by decide)) (up_c (by decide)) (up_c (by decide))
      refine ⟨amUp M2 8 1 6 v, ?_, ?_, hf⟩
      · rw [e30, b1', amCI_s, c_semF (by omega) hf, amCV_s]
      · exact ((a2.mono fTa_fPa).trans (b2.mono (fRq1_fPa (Or.inr rfl)))).up (by rfl)
    | inr y =>
      obtain ⟨t1, n, row, lf1⟩ := y
      intro hr
      obtain ⟨M2, b1, b2, b3, b4, b5, b6, b7⟩ := hr
      have b1' : e_X4_readRow_11 d' 119 1 0 14 9 0 M1 = some (vI (n : Int), M2) := b1
      have s3 : amSame fPa M (amUp M2 8 1 6 (n : Int)) := ((a2.mono fTa_fPa).trans (b2.mono (fRq1_fPa (Or.inr rfl)))).up (by rfl)
      have hlen := h.1.2.2
      have hd1 := hd0.ta a2
      have hd2 : cDr0 (txR x.1 n row, x.2.1, x.2.2.1, lf1) len (amUp M2 8 1 6 (n : Int)) := by
        obtain ⟨g0, ⟨g1, g2, g3, g4, g5, g6⟩, g7, g8, g9, g10⟩ := hd1
        have same : ∀ c s j, c ≠ 8 → c ≠ 119 → (c ≠ 4 ∨ j = 5) → amUp M2 8 1 6 (n : Int) c s j = M1 c s j := fun c s j p1 p2 p3 => by
          rw [up_c p1, b2 c s j (by
            unfold fRq1 fTi fTa fLt
            rw [beq_false_of_ne p2]
            rcases p3 with p3 | p3
            · rw [beq_false_of_ne p3]; rfl
            · rw [p3]; simp)]
        have same8 : ∀ j, j ≠ 6 → amUp M2 8 1 6 (n : Int) 8 1 j = M1 8 1 j := fun j hj => by rw [up_j hj, b2 8 1 j (by rfl)]
        refine ⟨⟨g0.1, by show n ≤ 14; omega, g0.2.2⟩, ⟨(same8 5 (by decide)).trans g1, up_on, (same8 7 (by decide)).trans g3, (same8 8 (by decide)).trans g4, (same8 9 (by decide)).trans g5, (same 4 0 5 (by decide) (by decide) (Or.inr rfl)).trans g6⟩, fun j p q => (same 118 1 j (by decide) (by decide) (Or.inl (by decide))).trans (g7 j p q), fun j p => ?_, fun p q => ⟨(same 120 1 p (by decide) (by decide) (Or.inl (by decide))).trans (g9 p q).1, (same 121 1 p (by decide) (by decide) (Or.inl (by decide))).trans (g9 p q).2.1, (same 107 0 p (by decide) (by decide) (Or.inl (by decide))).trans (g9 p q).2.2⟩, fun v p => ?_⟩
        · have p : j < n := p
          have := b5 j p
          rw [Nat.zero_add] at this
          rw [up_c (by decide)]
          exact this
        · have hv := g10 v p
          have e := same 101 1 v (by decide) (by decide) (Or.inl (by decide))
          show match tL x.1 v with
            | none => _
            | some l => _
          cases hL : tL x.1 v with
          | none => rw [hL] at hv; exact e.trans hv
          | some l =>
            rw [hL] at hv
            obtain ⟨i, i1, i2, i3⟩ := hv
            exact ⟨i, e.trans i1, i2, cLw_mv _ _ _ i3 fun j _ _ => same 100 1 j (by decide) (by decide) (Or.inl (by decide))⟩
      obtain ⟨M3, f1, f2⟩ := c_sem (D := d) (M0 := M) (len := len) (x := (txR x.1 n row, x.2.1, x.2.2.1, lf1)) (by omega) (hT.pa s3) (b3.mv fun j => up_c (by decide)) (by omega) (by rw [up_c (by decide), b2 1 1 1 (by rfl), a2 1 1 1 (by rfl)]; exact h.2.2.2.2) hd2 ⟨(up_c (by decide)).trans b4.1, fun q => (up_c (by decide)).trans (b4.2 q)⟩ s3
      refine ⟨M3, ?_, f2⟩
      rw [e30, b1', amCI_s, f1, amCV_s]
  · rw [if_neg h40] at a3 ⊢
    have hf : cFt 2 t (amUp M1 8 1 6 0) := a3.mv (up_c (by decide)) (up_c (by decide)) (up_c (by decide))
    refine ⟨amUp M1 8 1 6 0, ?_, (a2.mono fTa_fPa).up (by rfl), hf⟩
    rw [e30, c_11F (by omega) a3, amCI_s, c_semF (by omega) hf, amCV_s]
/-- one field of the draft set -/
theorem cFt.up8 {c q s j : Nat} {v : Int} (h : cFt c q M) : cFt c q (amUp M 8 s j v) := h.mv (up_c (by decide)) (up_c (by decide)) (up_c (by decide))
theorem cPz.up8 {s j : Nat} {v : Int} (h : cPz κ t M) : cPz κ t (amUp M 8 s j v) := h.mv fun j => up_c (by decide)
theorem cLf.up {c s j : Nat} {v : Int} (hc : c ≠ 4) (h : cLf lf M) : cLf lf (amUp M c s j v) := ⟨(up_c fun q => hc q.symm).trans h.1, fun q => (up_c fun q => hc q.symm).trans (h.2 q)⟩
theorem cLf.mv {M' : AmM} (h : cLf lf M) (hs : ∀ j, M' 4 0 j = M 4 0 j) : cLf lf M' := ⟨(hs 8).trans h.1, fun q => (hs 9).trans (h.2 q)⟩
theorem c_st2 (hd : 5 ≤ d) (hν : ∀ t, κ t = 20 → ν t < 10000) {x : Dr} {l1 : Int} (hT : cTk κ ν M) (hk : κ t = 2) (h : cPs κ t len M) (hd0 : cDr0 x len M) (hlf : cLf x.2.2.2 M) : ∃ M', (amCV (amD amGst d 31 [vR 4 4 0] M) fun M7 => amCV (amD amGst d 39 [vR 4 4 0, vI 59] M7) fun M8 => e_X4_parse_51 d (w32 (l1 + 1)) M8) = e_X4_parse_51 d (w32 (l1 + 1)) M' ∧ cSo κ (st2 κ ν t x) M M' := by
  obtain ⟨d', ed⟩ := dS (show 4 + 1 ≤ d by omega)
  obtain ⟨M1, a1, a2, a3⟩ := c_takeZ (D := d') (w := 2) (by omega) hT (by decide) h.z
  have ek : tkX κ 2 t = if t < 400 then .inr (t + 1) else .inl (2, t) := if_pos hk
  rw [ek] at a3
  rw [show ((2 : Nat) : Int) = 2 from rfl] at a1
  have e31 : amD amGst d 31 [vR 4 4 0] M = (amCI (amD amGst d' 40 [vR 4 4 0, vI 0, vI 999] M1) fun v2 M2 => amCI (amD amGst d' 40 [vR 4 4 0, vI 0, vI 99] (amUp M2 8 1 7 v2)) fun v3 M3 => some (vU, amUp M3 8 1 8 v3)) := by
    rw [ed, n_X4_readBrine, q_X4_readBrine_0, a1, amCV_s]
  -- behind a FAULT
  have fin : ∀ (c q : Nat) (M2 : AmM) (v : Int), amSame fPa M M2 → cFt c q M2 → ∃ M', (amCI (amD amGst d' 40 [vR 4 4 0, vI 0, vI 99] (amUp M2 8 1 7 v)) fun v3 M3 => some (vU, amUp M3 8 1 8 v3)) = some (vU, M') ∧ amSame fPa M M' ∧ cFt c q M' := fun c q M2 v hs hf => by
    obtain ⟨y, hy⟩ := c_takeIntF (D := d') (least := 0) (most := 99) (by omega) (hf.up8 (s := 1) (j := 7) (v := v))
    exact ⟨_, by rw [hy, amCI_s], (hs.up (by rfl)).up (by rfl), hf.up8.up8⟩
  unfold st2
  by_cases h40 : t < 400
  · rw [if_pos h40] at a3 ⊢
    have hT1 := hT.pa (a2.mono fTa_fPa)
    have hi := c_takeInt (D := d') (least := 0) (most := 999) (by omega) hT1 hν a3 (hlf.ta a2)
    rw [show ((0 : Nat) : Int) = 0 from rfl, show ((999 : Nat) : Int) = 999 from rfl] at hi
    cases hi1 : intS κ ν 0 999 (t + 1) x.2.2.2 with
    | inl y =>
      obtain ⟨c, q⟩ := y
      rw [hi1] at hi
      obtain ⟨M2, v, b1, b2, b3⟩ := hi
      obtain ⟨M3, f1, f2, f3⟩ := fin c q M2 v ((a2.mono fTa_fPa).trans (b2.mono fTi_fPa)) b3
      exact ⟨M3, by rw [e31, b1, amCI_s, f1, amCV_s, c_semF (by omega) f3, amCV_s], f2, f3⟩
    | inr y =>
      obtain ⟨t1, lf1⟩ := y
      rw [hi1] at hi
      obtain ⟨M2, b1, b2, b3, b4⟩ := hi
      obtain ⟨i1, i2, i3⟩ := intS_ok hi1
      have et1 : t1 = t + 1 + 1 := congrArg (fun z => z.1) i3
      have s2 : amSame fPa M (amUp M2 8 1 7 ((ν (t + 1) : Nat) : Int)) := ((a2.mono fTa_fPa).trans (b2.mono fTi_fPa)).up (by rfl)
      have hi2 := c_takeInt (D := d') (least := 0) (most := 99) (by omega) (hT.pa s2) hν b3.up8 (b4.up (c := 8) (by decide))
      rw [show ((0 : Nat) : Int) = 0 from rfl, show ((99 : Nat) : Int) = 99 from rfl] at hi2
      show ∃ M', _ ∧ cSo κ (match intS κ ν 0 99 t1 lf1 with
        | .inl y => .inl y
        | .inr (t2, lf2) => semS κ t2 (txB x.1 ((ν (t + 1) : Nat) : Int) ((ν t1 : Nat) : Int), x.2.1, x.2.2.1, lf2)) M M'
      cases hj1 : intS κ ν 0 99 t1 lf1 with
      | inl y =>
        obtain ⟨c, q⟩ := y
        rw [hj1] at hi2
        obtain ⟨M3, v, c1, c2, c3⟩ := hi2
        exact ⟨amUp M3 8 1 8 v, by rw [e31, b1, amCI_s, c1, amCI_s, amCV_s, c_semF (by omega) c3.up8, amCV_s], (s2.trans (c2.mono fTi_fPa)).up (by rfl), c3.up8⟩
      | inr y =>
        obtain ⟨t2, lf2⟩ := y
        rw [hj1] at hi2
        obtain ⟨M3, c1, c2, c3, c4⟩ := hi2
        obtain ⟨j1, j2, j3⟩ := intS_ok hj1
        have et2 : t2 = t1 + 1 := congrArg (fun z => z.1) j3
        have s3 : amSame fPa M (amUp M3 8 1 8 ((ν t1 : Nat) : Int)) := (s2.trans (c2.mono fTi_fPa)).up (by rfl)
        have hlen := h.1.2.2
        have hd2 : cDr0 (txB x.1 ((ν (t + 1) : Nat) : Int) ((ν t1 : Nat) : Int), x.2.1, x.2.2.1, lf2) len (amUp M3 8 1 8 ((ν t1 : Nat) : Int)) := by
          have hq := ((hd0.ta a2).ti b2)
          obtain ⟨g0, ⟨g1, g2, g3, g4, g5, g6⟩, g7, g8, g9, g10⟩ := hq
          have same : ∀ c s j, c ≠ 8 → (c ≠ 4 ∨ j = 5) → amUp M3 8 1 8 ((ν t1 : Nat) : Int) c s j = M2 c s j := fun c s j p1 p3 => by
            rw [up_c p1, c2 c s j (by
              unfold fTi fTa fLt
              rcases p3 with p3 | p3
              · rw [beq_false_of_ne p3]; rfl
              · rw [p3]; simp), up_c p1]
          have c28 : ∀ j, M3 8 1 j = amUp M2 8 1 7 ((ν (t + 1) : Nat) : Int) 8 1 j := fun j => c2 8 1 j (by rfl)
          have same8 : ∀ j, j ≠ 7 → j ≠ 8 → amUp M3 8 1 8 ((ν t1 : Nat) : Int) 8 1 j = M2 8 1 j := fun j hj hj2 => by rw [up_j hj2, c28, up_j hj]
          refine ⟨g0, ⟨(same8 5 (by decide) (by decide)).trans g1, (same8 6 (by decide) (by decide)).trans g2, ?_, up_on, (same8 9 (by decide) (by decide)).trans g5, (same 4 0 5 (by decide) (Or.inr rfl)).trans g6⟩, fun j p q => (same 118 1 j (by decide) (Or.inl (by decide))).trans (g7 j p q), fun j p => (same 119 1 j (by decide) (Or.inl (by decide))).trans (g8 j p), fun p q => ⟨(same 120 1 p (by decide) (Or.inl (by decide))).trans (g9 p q).1, (same 121 1 p (by decide) (Or.inl (by decide))).trans (g9 p q).2.1, (same 107 0 p (by decide) (Or.inl (by decide))).trans (g9 p q).2.2⟩, fun v p => ?_⟩
          · rw [up_j (by decide), c28, up_on]; rfl
          · have hv := g10 v p
            have e := same 101 1 v (by decide) (Or.inl (by decide))
            show match tL x.1 v with
              | none => _
              | some l => _
            cases hL : tL x.1 v with
            | none => rw [hL] at hv; exact e.trans hv
            | some l =>
              rw [hL] at hv
              obtain ⟨i, i1, i2, i3⟩ := hv
              exact ⟨i, e.trans i1, i2, cLw_mv _ _ _ i3 fun j _ _ => same 100 1 j (by decide) (Or.inl (by decide))⟩
        obtain ⟨M4, f1, f2⟩ := c_sem (D := d) (M0 := M) (len := len) (x := (txB x.1 ((ν (t + 1) : Nat) : Int) ((ν t1 : Nat) : Int), x.2.1, x.2.2.1, lf2)) (by omega) (hT.pa s3) c3.up8 (by omega) (by rw [up_c (by decide), c2 1 1 1 (by rfl), up_c (by decide), b2 1 1 1 (by rfl), a2 1 1 1 (by rfl)]; exact h.2.2.2.2) hd2 (c4.up (by decide)) s3
        refine ⟨M4, ?_, f2⟩
        rw [e31, b1, amCI_s, c1, amCI_s, amCV_s, f1, amCV_s]
  · rw [if_neg h40] at a3 ⊢
    obtain ⟨y, hy⟩ := c_takeIntF (D := d') (least := 0) (most := 999) (by omega) a3
    obtain ⟨M3, f1, f2, f3⟩ := fin 2 t M1 y (a2.mono fTa_fPa) a3
    exact ⟨M3, by rw [e31, hy, amCI_s, f1, amCV_s, c_semF (by omega) f3, amCV_s], f2, f3⟩
end CSV
