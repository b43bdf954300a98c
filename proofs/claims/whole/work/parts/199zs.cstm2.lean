/-! PURE: the class's statements: steps, rain, brine, pilgrim -/
theorem cLw_mv {C C' : Rw} : ∀ (l : List (Ex × Ex × Ex)) (e : Ex) (i : Nat), cLw C i l e → (∀ j, i ≤ j → j < i + lwLen l e → C' j = C j) → cLw C' i l e
  | [], e, i, h, hs => by
    have hl : lwLen [] e = e.length + 1 := rfl
    exact ⟨cAt2_mv e i h.1 fun j a b => hs j a (by omega), (hs _ (by omega) (by omega)).trans h.2⟩
  | (a, b, c) :: r, e, i, h, hs => by
    have hl : lwLen ((a, b, c) :: r) e = a.length + b.length + c.length + 2 + lwLen r e := rfl
    obtain ⟨h1, h2, h3, h4, h5, h6⟩ := h
    refine ⟨cAt2_mv a i h1 fun j x y => hs j x (by omega), cAt2_mv b _ h2 fun j x y => hs j (by omega) (by omega), (hs _ (by omega) (by omega)).trans h3, cAt2_mv c _ h4 fun j x y => hs j (by omega) (by omega), (hs _ (by omega) (by omega)).trans h5, cLw_mv r e _ h6 fun j x y => hs j (by omega) (by omega)⟩
section CSU
variable {D d t len : Nat} {κ ν : Nat → Nat} {M : AmM} {lf : Nat × Nat}
/-- what the class's draft holds -/
def cDr0 (x : Dr) (len : Nat) (M : AmM) : Prop := (tN x.1 ≤ 24 ∧ tR x.1 ≤ 14 ∧ tP x.1 ≤ 8 ∧ x.2.1 ≤ 8) ∧ (M 8 1 5 = tN x.1 ∧ M 8 1 6 = tR x.1 ∧ M 8 1 7 = tB x.1 ∧ M 8 1 8 = tG x.1 ∧ M 8 1 9 = tP x.1 ∧ M 4 0 5 = ((x.2.1 : Nat) : Int)) ∧ (∀ j, 1 ≤ j → j ≤ tN x.1 → M 118 1 j = tTh x.1 j) ∧ (∀ j, j < tR x.1 → M 119 1 j = tRn x.1 j) ∧ (∀ p, p < tP x.1 → M 120 1 p = tW x.1 p ∧ M 121 1 p = tV x.1 p ∧ M 107 0 p = ((x.2.2.1 p : Nat) : Int)) ∧
  ∀ v, v < 4 → match tL x.1 v with
    | none => M 101 1 v = -1
    | some l => ∃ i : Nat, M 101 1 v = i ∧ i + lwLen l.1 l.2 ≤ len ∧ cLw (M 100 1) i l.1 l.2
/-- where it lies -/
def sDr (len : Nat) : Nat → Nat → Nat → Bool := fun c s j => (s == 1 && (c == 8 || c == 118 || c == 119 || c == 120 || c == 121 || c == 101)) || (c == 100 && (s == 1 && Nat.blt j len)) || (c == 4 && (s == 0 && j == 5)) || (c == 107 && s == 0)
theorem cDr0.mv {x : Dr} {len' : Nat} {M' : AmM} (h : cDr0 x len M) (hl : len ≤ len') (hs : ∀ c s j, sDr len c s j = true → M' c s j = M c s j) : cDr0 x len' M' := by
  obtain ⟨h0, ⟨h1, h2, h3, h4, h5, h6⟩, h7, h8, h9, h10⟩ := h
  refine ⟨h0, ⟨(hs 8 1 5 (by rfl)).trans h1, (hs 8 1 6 (by rfl)).trans h2, (hs 8 1 7 (by rfl)).trans h3, (hs 8 1 8 (by rfl)).trans h4, (hs 8 1 9 (by rfl)).trans h5, (hs 4 0 5 (by rfl)).trans h6⟩, fun j a b => (hs 118 1 j (by rfl)).trans (h7 j a b), fun j a => (hs 119 1 j (by rfl)).trans (h8 j a), fun p a => ⟨(hs 120 1 p (by rfl)).trans (h9 p a).1, (hs 121 1 p (by rfl)).trans (h9 p a).2.1, (hs 107 0 p (by rfl)).trans (h9 p a).2.2⟩, fun v a => ?_⟩
  have hv := h10 v a
  have e := hs 101 1 v (by rfl)
  cases hL : tL x.1 v with
  | none => rw [hL] at hv; exact e.trans hv
  | some l =>
    rw [hL] at hv
    obtain ⟨i, i1, i2, i3⟩ := hv
    refine ⟨i, e.trans i1, by omega, cLw_mv _ _ _ i3 fun j p q => hs 100 1 j ?_⟩
    unfold sDr
    have : Nat.blt j len = true := Nat.ble_eq_true_of_le (show j + 1 ≤ len by omega)
    rw [this]; rfl
theorem cDr0.ti {x : Dr} {M' : AmM} (h : cDr0 x len M) (hs : amSame fTi M M') : cDr0 x len M' := h.mv (Nat.le_refl len) fun c s j hc => hs c s j (by
  unfold sDr at hc
  unfold fTi fTa fLt
  simp only [Bool.or_eq_true, Bool.and_eq_true, beq_iff_eq] at hc
  by_cases h4 : c = 4
  · have hj : j = 5 := by omega
    rw [h4, hj]; simp
  · rw [beq_false_of_ne h4]; rfl)
theorem cDr0.ta {x : Dr} {M' : AmM} (h : cDr0 x len M) (hs : amSame fTa M M') : cDr0 x len M' := h.ti (hs.mono fTa_fTi)
/-- what comes of a statement -/
def cSo (κ : Nat → Nat) (r : Pr (Nat × Dr)) (M M' : AmM) : Prop := amSame fPa M M' ∧ match r with
  | .inl (c, q) => cFt c q M'
  | .inr (t1, x1) => ∃ len, cPs κ t1 len M' ∧ cDr0 x1 len M' ∧ cLf x1.2.2.2 M'
/-- a statement's end -/
theorem c_sem (hD : 2 ≤ D) {M0 : AmM} {x : Dr} (hT : cTk κ ν M) (h : cPz κ t M) (hl : len ≤ t) (h1 : M 1 1 1 = (len : Int)) (hd : cDr0 x len M) (hlf : cLf x.2.2.2 M) (hs : amSame fPa M0 M) : ∃ M', amD amGst D 39 [vR 4 4 0, vI 59] M = some (vU, M') ∧ cSo κ (semS κ t x) M0 M' := by
  obtain ⟨M1, a1, a2, a3⟩ := c_takeZ (D := D) (w := 59) hD hT (by decide) h
  refine ⟨M1, a1, hs.trans (a2.mono fTa_fPa), ?_⟩
  unfold semS
  cases hk : tkX κ 59 t with
  | inl y =>
    obtain ⟨c, q⟩ := y
    rw [hk] at a3
    exact a3
  | inr t1 =>
    rw [hk] at a3
    have := (tkX_ok hk).2.2
    exact ⟨len, a3.s (by omega) ((a2 1 1 1 (by rfl)).trans h1), hd.ta a2, hlf.ta a2⟩
theorem c_semF (hD : 2 ≤ D) {c q : Nat} (h : cFt c q M) : amD amGst D 39 [vR 4 4 0, vI 59] M = some (vU, M) := c_takeF hD (by decide) h
theorem c_st0 (hd : 5 ≤ d) (hν : ∀ t, κ t = 20 → ν t < 10000) {x : Dr} {l1 : Int} (hT : cTk κ ν M) (hk : κ t = 0) (h : cPs κ t len M) (hd0 : cDr0 x len M) (hlf : cLf x.2.2.2 M) : ∃ M', (amCI (amD amGst d 30 [vR 4 4 0, vR 20 118 1, vI 1, vI 24, vI 99] M) fun v3 M3 => amCV (amD amGst d 39 [vR 4 4 0, vI 59] (amUp M3 8 1 5 v3)) fun M4 => e_X4_parse_51 d (w32 (l1 + 1)) M4) = e_X4_parse_51 d (w32 (l1 + 1)) M' ∧ cSo κ (st0 κ ν t x) M M' := by
  obtain ⟨d', ed⟩ := dS (show 4 + 1 ≤ d by omega)
  have h4 := h.2.2.1
  obtain ⟨M1, a1, a2, a3⟩ := c_takeZ (D := d') (w := 0) (by omega) hT (by decide) h.z
  have ek : tkX κ 0 t = if t < 400 then .inr (t + 1) else .inl (2, t) := if_pos hk
  rw [ek] at a3
  have e30 : amD amGst d 30 [vR 4 4 0, vR 20 118 1, vI 1, vI 24, vI 99] M = e_X4_readRow_11 d' 118 1 1 24 99 0 M1 := by
    rw [ed, n_X4_readRow, q_X4_readRow_0, h4, hk, a1, amCV_s]
  unfold st0
  by_cases h40 : t < 400
  · rw [if_pos h40] at a3 ⊢
    have hT1 := hT.pa (a2.mono fTa_fPa)
    have hr := c_rowLoop (d := d') (κ := κ) (ν := ν) (f := 1) (room := 24) (most := 99) (by omega) hν (show (118 : Nat) ≠ 90 ∧ (118 : Nat) ≠ 4 ∧ (118 : Nat) ≠ 115 ∧ (118 : Nat) ≠ 116 by decide) (show amLenL.getD 118 0 = 26 by decide) (by omega) (by omega) 24 (t + 1) 0 (tTh x.1) x.2.2.2 M1 rfl hT1 a3 (hlf.ta a2) (fun j hj => by omega)
    revert hr
    cases rwS κ ν 1 99 24 (t + 1) 0 (tTh x.1) x.2.2.2 with
    | inl y =>
      obtain ⟨c, q⟩ := y
      intro hr
      obtain ⟨M2, v, b1, b2, b3⟩ := hr
      have b1' : e_X4_readRow_11 d' 118 1 1 24 99 0 M1 = some (vI v, M2) := b1
      have hf : cFt c q (amUp M2 8 1 5 v) := b3.mv (up_c (by decide)) (up_c (by decide)) (up_c (by decide))
      refine ⟨amUp M2 8 1 5 v, ?_, ?_, hf⟩
      · rw [e30, b1', amCI_s, c_semF (by omega) hf, amCV_s]
      · exact ((a2.mono fTa_fPa).trans (b2.mono fun c s j hq => by
          unfold fRq1 at hq
          rw [Bool.or_eq_true] at hq
          rcases hq with hq | hq
          · exact fTi_fPa c s j hq
          · rw [Bool.and_eq_true, beq_iff_eq, beq_iff_eq] at hq
            unfold fPa; rw [hq.1, hq.2]; rfl)).up (by rfl)
    | inr y =>
      obtain ⟨t1, n, row, lf1⟩ := y
      intro hr
      obtain ⟨M2, b1, b2, b3, b4, b5, b6, b7⟩ := hr
      have b1' : e_X4_readRow_11 d' 118 1 1 24 99 0 M1 = some (vI (n : Int), M2) := b1
      have s2 : amSame fPa M1 M2 := b2.mono fun c s j hq => by
        unfold fRq1 at hq
        rw [Bool.or_eq_true] at hq
        rcases hq with hq | hq
        · exact fTi_fPa c s j hq
        · rw [Bool.and_eq_true, beq_iff_eq, beq_iff_eq] at hq
          unfold fPa; rw [hq.1, hq.2]; rfl
      have s3 : amSame fPa M (amUp M2 8 1 5 (n : Int)) := ((a2.mono fTa_fPa).trans s2).up (by rfl)
      have hlen := h.1.2.2
      have hd1 := hd0.ta a2
      have hd2 : cDr0 (txS x.1 n row, x.2.1, x.2.2.1, lf1) len (amUp M2 8 1 5 (n : Int)) := by
        obtain ⟨g0, ⟨g1, g2, g3, g4, g5, g6⟩, g7, g8, g9, g10⟩ := hd1
        have same : ∀ c s j, c ≠ 8 → c ≠ 118 → (c ≠ 4 ∨ j = 5) → amUp M2 8 1 5 (n : Int) c s j = M1 c s j := fun c s j p1 p2 p3 => by
          rw [up_c p1, b2 c s j (by
            unfold fRq1 fTi fTa fLt
            rw [beq_false_of_ne p2]
            rcases p3 with p3 | p3
            · rw [beq_false_of_ne p3]; rfl
            · rw [p3]; simp)]
        have same8 : ∀ j, j ≠ 5 → amUp M2 8 1 5 (n : Int) 8 1 j = M1 8 1 j := fun j hj => by rw [up_j hj, b2 8 1 j (by rfl)]
        refine ⟨⟨by show n ≤ 24; omega, g0.2⟩, ⟨up_on, (same8 6 (by decide)).trans g2, (same8 7 (by decide)).trans g3, (same8 8 (by decide)).trans g4, (same8 9 (by decide)).trans g5, (same 4 0 5 (by decide) (by decide) (Or.inr rfl)).trans g6⟩, fun j p q => ?_, fun j p => (same 119 1 j (by decide) (by decide) (Or.inl (by decide))).trans (g8 j p), fun p q => ⟨(same 120 1 p (by decide) (by decide) (Or.inl (by decide))).trans (g9 p q).1, (same 121 1 p (by decide) (by decide) (Or.inl (by decide))).trans (g9 p q).2.1, (same 107 0 p (by decide) (by decide) (Or.inl (by decide))).trans (g9 p q).2.2⟩, fun v p => ?_⟩
        · have q : j ≤ n := q
          have := b5 (j - 1) (by omega)
          rw [show 1 + (j - 1) = j by omega] at this
          rw [up_c (by decide)]
          exact this
        · have hv := g10 v p
          have e := same 101 1 v (by decide) (by decide) (Or.inl (by decide))
          show match tL x.1 v with
            | none => _
            | some l => _
          cases hL : tL x.1 v with
          | none => rw [hL] at hv; exact e.trans hv
          | some l =>
            rw [hL] at hv
            obtain ⟨i, i1, i2, i3⟩ := hv
            exact ⟨i, e.trans i1, i2, cLw_mv _ _ _ i3 fun j _ _ => same 100 1 j (by decide) (by decide) (Or.inl (by decide))⟩
      obtain ⟨M3, f1, f2⟩ := c_sem (D := d) (M0 := M) (len := len) (x := (txS x.1 n row, x.2.1, x.2.2.1, lf1)) (by omega) (hT.pa s3) (b3.mv fun j => up_c (by decide)) (by omega) (by rw [up_c (by decide), b2 1 1 1 (by rfl), a2 1 1 1 (by rfl)]; exact h.2.2.2.2) hd2 ⟨(up_c (by decide)).trans b4.1, fun q => (up_c (by decide)).trans (b4.2 q)⟩ s3
      refine ⟨M3, ?_, f2⟩
      rw [e30, b1', amCI_s, f1, amCV_s]
  · rw [if_neg h40] at a3 ⊢
    have hf : cFt 2 t (amUp M1 8 1 5 0) := a3.mv (up_c (by decide)) (up_c (by decide)) (up_c (by decide))
    refine ⟨amUp M1 8 1 5 0, ?_, (a2.mono fTa_fPa).up (by rfl), hf⟩
    rw [e30, c_11F (by omega) a3, amCI_s, c_semF (by omega) hf, amCV_s]
end CSU
