/-! PURE: the class's laws, as statements -/
section CSY
variable {D d t len : Nat} {κ ν : Nat → Nat} {M : AmM} {lf : Nat × Nat}
/-- the last expression of a law -/
theorem c_tlF (hd : 4 ≤ d) {c q : Nat} (h : cFt c q M) : ∃ M', (amCV (amD amGst d 36 [vR 4 4 0, vI 0] M) fun M4 => amCV (amD amGst d 14 [vR 1 1 1, vI 0, vI 0] M4) fun M5 => some (vU, M5)) = some (vU, M') ∧ amSame fEm M M' ∧ cFt c q M' := by
  obtain ⟨M1, a1, a2, a3⟩ := c_sumF (D := d) (n := 0) (by omega) h
  obtain ⟨M2, b1, b2⟩ := c_emitF (D := d) (M := M1) (k := 0) (v := 0) (by omega)
  exact ⟨M2, by rw [a1, amCV_s, b1, amCV_s], a2.trans b2, a3.em b2⟩
theorem c_54F (hd : 4 ≤ d) {c q : Nat} {l1 l2 : Int} (h : cFt c q M) : ∃ M', e_X4_readLaw_54 d l1 l2 M = some (vU, M') ∧ amSame fEm M M' ∧ cFt c q M' := by
  have e77 : e_X4_readLaw_77 d l1 l2 M = (amCV (amD amGst d 36 [vR 4 4 0, vI 0] M) fun M4 => amCV (amD amGst d 14 [vR 1 1 1, vI 0, vI 0] M4) fun M5 => some (vU, M5)) := by
    rw [q_X4_readLaw_77, h.2.2.2, if_neg (by decide)]
  obtain ⟨M', a1, a2, a3⟩ := c_tlF hd h
  refine ⟨M', ?_, a2, a3⟩
  rw [q_X4_readLaw_54, h.2.2.2, if_neg (show ¬ (22 : Int) = 5 by decide), e77]
  by_cases h4 : l2 < 4
  · rw [if_pos h4]; exact a1
  · rw [if_neg h4]; exact a1
theorem c_ifs (hd : 19 ≤ d) (hν : ∀ t, κ t = 20 → ν t < 10000) {i0 : Nat} {v : Int} : ∀ (k n t len : Nat) (l : List (Ex × Ex × Ex)) (M : AmM), n + k = 4 → cTk κ ν M → cPs κ t len M → cPre (M 100 1) i0 l len → match ifS κ ν k t l with
    | .inl (c, q) => ∃ M', e_X4_readLaw_54 d v (n : Int) M = some (vU, M') ∧ amSame fPa M M' ∧ cFt c q M'
    | .inr (t1, l1) => ∃ (M' : AmM) (len1 : Nat), e_X4_readLaw_54 d v (n : Int) M = (amCV (amD amGst d 36 [vR 4 4 0, vI 0] M') fun M4 => amCV (amD amGst d 14 [vR 1 1 1, vI 0, vI 0] M4) fun M5 => some (vU, M5)) ∧ amSame (fEx len) M M' ∧ cPs κ t1 len1 M' ∧ cPre (M' 100 1) i0 l1 len1 ∧ len1 + t ≤ len + t1 ∧ len ≤ len1
  | 0, n, t, len, l, M, hn, hT, h, hp => by
    have h4 := h.2.2.1
    unfold ifS
    rw [q_X4_readLaw_54, if_neg (show ¬ (n : Int) < 4 by omega), q_X4_readLaw_77, h4]
    by_cases hk : κ t = 5
    · obtain ⟨M1, a1, a2, a3⟩ := c_fail (D := d) (c := 2) (by omega) (by decide) h.2.2.2.1 h.2.1
      rw [show ((2 : Nat) : Int) = 2 from rfl] at a1
      obtain ⟨M2, b1, b2, b3⟩ := c_tlF (d := d) (by omega) a3
      rw [if_pos (show ((κ t : Nat) : Int) = 5 by omega), if_pos hk, a1, amCV_s]
      exact ⟨M2, b1, (a2.mono fTa_fPa).trans (b2.mono fEm_fPa), b3⟩
    · rw [if_neg (show ¬ ((κ t : Nat) : Int) = 5 by omega), if_neg hk]
      exact ⟨M, len, rfl, amSame.refl, h, hp, Nat.le_refl _, Nat.le_refl len⟩
  | k + 1, n, t, len, l, M, hn, hT, h, hp => by
    have h4 := h.2.2.1
    unfold ifS
    rw [q_X4_readLaw_54, if_pos (show (n : Int) < 4 by omega), h4]
    by_cases hk : κ t = 5
    · rw [if_pos (show ((κ t : Nat) : Int) = 5 by omega), if_pos hk]
      have hi := c_if1 (D := d) hd hν hT h
      cases hi1 : if1 κ ν t with
      | inl y =>
        obtain ⟨c, q⟩ := y
        rw [hi1] at hi
        obtain ⟨M1, a1, a2, a3⟩ := hi
        obtain ⟨M2, b1, b2, b3⟩ := c_54F (d := d) (l1 := v) (l2 := w32 ((n : Int) + 1)) (by omega) a3
        exact ⟨M2, by rw [a1, amCV_s]; exact b1, a2.trans (b2.mono fEm_fPa), b3⟩
      | inr y =>
        obtain ⟨t1, p⟩ := y
        rw [hi1] at hi
        obtain ⟨M1, a1, a2, a3, a4, a5⟩ := hi
        have hp1 : cPre (M1 100 1) i0 (l ++ [p]) (len + ifN p) := cPre_app l i0 len (cPre_mv l i0 len hp fun j x y => a2 100 1 j (fEx_100 y)) a4
        have ih := c_ifs hd hν (i0 := i0) (v := v) k (n + 1) t1 (len + ifN p) (l ++ [p]) M1 (by omega) (hT.pa (a2.mono fEx_fPa)) a3 hp1
        rw [a1, amCV_s, w32_n (x := (n : Int) + 1) (n := n + 1) (by omega) (by omega)]
        revert ih
        show (match ifS κ ν k t1 (l ++ [p]) with
          | .inl (c, q) => ∃ M', e_X4_readLaw_54 d v ((n + 1 : Nat) : Int) M1 = some (vU, M') ∧ amSame fPa M1 M' ∧ cFt c q M'
          | .inr (t2, l1) => ∃ (M' : AmM) (len1 : Nat), e_X4_readLaw_54 d v ((n + 1 : Nat) : Int) M1 = (amCV (amD amGst d 36 [vR 4 4 0, vI 0] M') fun M4 => amCV (amD amGst d 14 [vR 1 1 1, vI 0, vI 0] M4) fun M5 => some (vU, M5)) ∧ amSame (fEx (len + ifN p)) M1 M' ∧ cPs κ t2 len1 M' ∧ cPre (M' 100 1) i0 l1 len1 ∧ len1 + t1 ≤ len + ifN p + t2 ∧ len + ifN p ≤ len1) → match ifS κ ν k t1 (l ++ [p]) with
          | .inl (c, q) => ∃ M', e_X4_readLaw_54 d v ((n + 1 : Nat) : Int) M1 = some (vU, M') ∧ amSame fPa M M' ∧ cFt c q M'
          | .inr (t2, l1) => ∃ (M' : AmM) (len1 : Nat), e_X4_readLaw_54 d v ((n + 1 : Nat) : Int) M1 = (amCV (amD amGst d 36 [vR 4 4 0, vI 0] M') fun M4 => amCV (amD amGst d 14 [vR 1 1 1, vI 0, vI 0] M4) fun M5 => some (vU, M5)) ∧ amSame (fEx len) M M' ∧ cPs κ t2 len1 M' ∧ cPre (M' 100 1) i0 l1 len1 ∧ len1 + t ≤ len + t2 ∧ len ≤ len1
        cases ifS κ ν k t1 (l ++ [p]) with
        | inl y =>
          obtain ⟨c, q⟩ := y
          intro ih
          obtain ⟨M2, b1, b2, b3⟩ := ih
          exact ⟨M2, b1, (a2.mono fEx_fPa).trans b2, b3⟩
        | inr y =>
          obtain ⟨t2, l1⟩ := y
          intro ih
          obtain ⟨M2, len1, b1, b2, b3, b4, b5, b6⟩ := ih
          exact ⟨M2, len1, b1, a2.trans (b2.mono (fEx_up (by omega))), b3, b4, by omega, by omega⟩
    · rw [if_neg (show ¬ ((κ t : Nat) : Int) = 5 by omega), if_neg hk, q_X4_readLaw_77, h4, if_neg (show ¬ ((κ t : Nat) : Int) = 5 by omega)]
      exact ⟨M, len, rfl, amSame.refl, h, hp, Nat.le_refl _, Nat.le_refl len⟩
theorem c_st4 (hd : 20 ≤ d) (hν : ∀ t, κ t = 20 → ν t < 10000) {x : Dr} {l1 : Int} (hT : cTk κ ν M) (hk : κ t = 4) (h : cPs κ t len M) (hd0 : cDr0 x len M) (hlf : cLf x.2.2.2 M) : ∃ M', (amCV (amD amGst d 34 [vR 4 4 0] M) fun M11 => amCV (amD amGst d 39 [vR 4 4 0, vI 59] M11) fun M12 => e_X4_parse_51 d (w32 (l1 + 1)) M12) = e_X4_parse_51 d (w32 (l1 + 1)) M' ∧ cSo κ (st4 κ ν t x) M M' := by
  obtain ⟨d', ed⟩ := dS (show 19 + 1 ≤ d by omega)
  have h405 := hd0.2.1.2.2.2.2.2
  have hnl := hd0.1.2.2.2
  have hlen := h.1.2.2
  have s0 : amSame fPa M (amUp M 4 0 5 ((x.2.1 + 1 : Nat) : Int)) := amSame.refl.up (by rfl)
  have e34 : amD amGst d 34 [vR 4 4 0] M = if (8 : Int) < ((x.2.1 + 1 : Nat) : Int) then (amCV (amD amGst d' 42 [vR 4 4 0, vI 2] (amUp M 4 0 5 ((x.2.1 + 1 : Nat) : Int))) fun M1 => some (vU, M1)) else (amCV (amD amGst d' 39 [vR 4 4 0, vI 4] (amUp M 4 0 5 ((x.2.1 + 1 : Nat) : Int))) fun M2 => amCI (amD amGst d' 41 [vR 4 4 0] M2) fun v3 M3 => amCV (amD amGst d' 39 [vR 4 4 0, vI 61] M3) fun M4 => amCV (amD amGst d' 13 [vR 1 1 1, vI v3] M4) fun M5 => e_X4_readLaw_54 d' v3 0 M5) := by
    rw [ed, n_X4_readLaw, q_X4_readLaw_0, h405, w32_n (x := ((x.2.1 : Nat) : Int) + 1) (n := x.2.1 + 1) (by omega) (by omega), up_on]
  have hz0 : cPz κ t (amUp M 4 0 5 ((x.2.1 + 1 : Nat) : Int)) := ⟨h.z.1, by rw [up_j (by decide)]; exact h.2.1, by rw [up_j (by decide)]; exact h.2.2.1, by rw [up_j (by decide)]; exact h.2.2.2.1⟩
  rw [e34]
  unfold st4
  by_cases hn8 : x.2.1 < 8
  · rw [if_neg (by omega), if_pos hn8]
    -- behind a FAULT
    have openAny : ∀ (M4 : AmM) (v : Int), ∃ M5, amD amGst d' 13 [vR 1 1 1, vI v] M4 = some (vU, M5) ∧ amSame (fun c s _ => c == 101 && s == 1) M4 M5 := fun M4 v => by
      obtain ⟨d2, ed2⟩ := dS (show 1 + 1 ≤ d' by omega)
      obtain ⟨M5, p1, p2⟩ := c_putAny (D := d2) (M := M4) (c1 := 101) (r := 1) (n := 4) (j := v) (v := M4 1 1 1) (by omega) (by decide) (by decide)
      exact ⟨M5, by rw [ed2, n_X1_open, q_X1_open_0, p1, amCV_s], p2⟩
    have f101 : ∀ c s j : Nat, (c == 101 && s == 1) = true → fPa c s j = true := fun c s j hq => by
      rw [Bool.and_eq_true, beq_iff_eq, beq_iff_eq] at hq
      unfold fPa; rw [hq.1, hq.2]; rfl
    have fin2 : ∀ (c q : Nat) (M4 : AmM) (v : Int), amSame fPa M M4 → cFt c q M4 → ∃ M', (amCV (amD amGst d' 13 [vR 1 1 1, vI v] M4) fun M5 => e_X4_readLaw_54 d' v 0 M5) = some (vU, M') ∧ amSame fPa M M' ∧ cFt c q M' := fun c q M4 v hs hf => by
      obtain ⟨M5, p1, p2⟩ := openAny M4 v
      obtain ⟨M6, p3, p4, p5⟩ := c_54F (d := d') (l1 := v) (l2 := 0) (by omega) (hf.col (by decide) p2)
      exact ⟨M6, by rw [p1, amCV_s]; exact p3, (hs.trans (p2.mono f101)).trans (p4.mono fEm_fPa), p5⟩
    obtain ⟨M1, a1, a2, a3⟩ := c_takeZ (D := d') (w := 4) (by omega) (hT.pa s0) (by decide) hz0
    have ek : tkX κ 4 t = if t < 400 then .inr (t + 1) else .inl (2, t) := if_pos hk
    rw [ek] at a3
    rw [show ((4 : Nat) : Int) = 4 from rfl] at a1
    have s1 : amSame fPa M M1 := s0.trans (a2.mono fTa_fPa)
    rw [a1, amCV_s]
    by_cases h40 : t < 400
    · rw [if_pos h40] at a3 ⊢
      have hT1 := hT.pa s1
      have hv := c_vow (D := d') (by omega) hT1 a3
      cases hv1 : vwS κ (t + 1) with
      | inl y =>
        obtain ⟨c, q⟩ := y
        rw [hv1] at hv
        obtain ⟨M2, v, b1, b2, b3⟩ := hv
        obtain ⟨M', f1, f2, f3⟩ := fin2 c q M2 v (s1.trans (b2.mono fTa_fPa)) b3
        exact ⟨M', by rw [b1, amCI_s, c_takeF (by omega) (by decide) b3, amCV_s, f1, amCV_s, c_semF (by omega) f3, amCV_s], f2, f3⟩
      | inr t1 =>
        rw [hv1] at hv
        obtain ⟨M2, b1, b2, b3⟩ := hv
        obtain ⟨v1, v2, v3⟩ := vwS_ok hv1
        have s2 : amSame fPa M M2 := s1.trans (b2.mono fTa_fPa)
        obtain ⟨M3, c1, c2, c3⟩ := c_takeZ (D := d') (w := 61) (by omega) (hT.pa s2) (by decide) b3
        rw [show ((61 : Nat) : Int) = 61 from rfl] at c1
        have s3 : amSame fPa M M3 := s2.trans (c2.mono fTa_fPa)
        rw [b1, amCI_s, c1, amCV_s]
        dsimp only
        cases hk1 : tkX κ 61 t1 with
        | inl y =>
          obtain ⟨c, q⟩ := y
          rw [hk1] at c3
          obtain ⟨M', f1, f2, f3⟩ := fin2 c q M3 _ s3 c3
          exact ⟨M', by rw [f1, amCV_s, c_semF (by omega) f3, amCV_s], f2, f3⟩
        | inr t2 =>
          rw [hk1] at c3
          obtain ⟨k1, k2, k3⟩ := tkX_ok hk1
          have h111 : M3 1 1 1 = (len : Int) := by
            rw [c2 1 1 1 (by rfl), b2 1 1 1 (by rfl), a2 1 1 1 (by rfl), up_c (by decide)]
            exact h.2.2.2.2
          obtain ⟨d2, ed2⟩ := dS (show 1 + 1 ≤ d' by omega)
          have hop : amD amGst d' 13 [vR 1 1 1, vI ((κ (t + 1) - 8 : Nat) : Int)] M3 = some (vU, amUp M3 101 1 (κ (t + 1) - 8) (len : Int)) := by
            have hput := c_put (D := d2) (c := 101) (r := 1) (n := 4) (j := ((κ (t + 1) - 8 : Nat) : Int)) (v := (len : Int)) (M := M3) (by omega) (by decide) (by decide) (by omega) (by omega)
            rw [tn_cast] at hput
            rw [ed2, n_X1_open, q_X1_open_0, h111, hput, amCV_s]
          have s4 : amSame fPa M (amUp M3 101 1 (κ (t + 1) - 8) (len : Int)) := s3.up (by rfl)
          have hP4 : cPs κ t2 len (amUp M3 101 1 (κ (t + 1) - 8) (len : Int)) := (c3.mv fun j => up_c (by decide)).s (by omega) ((up_c (by decide)).trans h111)
          have hi := c_ifs (d := d') (by omega) hν (i0 := len) (v := ((κ (t + 1) - 8 : Nat) : Int)) 4 0 t2 len [] _ rfl (hT.pa s4) hP4 rfl
          rw [show ((0 : Nat) : Int) = 0 from rfl] at hi
          rw [hop, amCV_s]
          dsimp only
          cases hi1 : ifS κ ν 4 t2 [] with
          | inl y =>
            obtain ⟨c, q⟩ := y
            rw [hi1] at hi
            obtain ⟨M5, e1, e2, e3⟩ := hi
            exact ⟨M5, by rw [e1, amCV_s, c_semF (by omega) e3, amCV_s], s4.trans e2, e3⟩
          | inr y =>
            obtain ⟨t3, l⟩ := y
            rw [hi1] at hi
            obtain ⟨M5, len1, e1, e2, e3, e4, e5, e6⟩ := hi
            have s5 : amSame fPa M M5 := s4.trans (e2.mono fEx_fPa)
            have hs := c_expr hν (D := d') (by omega) t3 len1 M5 (hT.pa s5) e3
            rw [e1]
            dsimp only
            cases hs1 : smX κ ν 6 t3 with
            | inl y =>
              obtain ⟨c, q⟩ := y
              rw [hs1] at hs
              obtain ⟨M6, f1, f2, f3⟩ := hs
              obtain ⟨M7, g1, g2⟩ := c_emitF (D := d') (M := M6) (k := 0) (v := 0) (by omega)
              have f4 := f3.em g2
              exact ⟨M7, by rw [f1, amCV_s, g1, amCV_s, amCV_s, c_semF (by omega) f4, amCV_s], (s5.trans f2).trans (g2.mono fEm_fPa), f4⟩
            | inr y =>
              obtain ⟨t4, e⟩ := y
              rw [hs1] at hs
              obtain ⟨M6, f1, f2, f3, f4⟩ := hs
              have ge := exGood_sum hν 6 t3 t4 e hs1
              have ge1 : t3 < t4 := ge.1
              have ge2 : e.length ≤ t4 - t3 := ge.2.2.1
              have ge3 : t4 ≤ 400 := ge.2.1
              have hl1 := e3.1.2.2
              have h61 := f3.2.2.2.2
              have s7 : amSame fPa M (amUp (amUp M6 100 1 (len1 + e.length) (0 + 8 * 0)) 1 1 1 ((len1 + e.length + 1 : Nat) : Int)) := ((s5.trans (f2.mono fEx_fPa)).up (by rfl)).up (by rfl)
              -- what is left as it was
              have keep : ∀ c s j, (c ≠ 4 ∨ 8 ≤ j) → c ≠ 101 → (c ≠ 100 ∨ j < len) → c ≠ 1 → amUp (amUp M6 100 1 (len1 + e.length) (0 + 8 * 0)) 1 1 1 ((len1 + e.length + 1 : Nat) : Int) c s j = M c s j := fun c s j p1 p2 p3 p4 => by
                have hta : fTa c s j = false := by
                  unfold fTa
                  rcases p1 with p1 | p1
                  · rw [beq_false_of_ne p1]; rfl
                  · rw [beq_false_of_ne (show j ≠ 3 by omega), beq_false_of_ne (show j ≠ 4 by omega), beq_false_of_ne (show j ≠ 6 by omega), beq_false_of_ne (show j ≠ 7 by omega)]; simp
                have hex : ∀ l, len ≤ l → fEx l c s j = false := fun l hl => by
                  unfold fEx
                  rw [hta, beq_false_of_ne p4]
                  rcases p3 with p3 | p3
                  · rw [beq_false_of_ne p3]; rfl
                  · rw [show Nat.ble l j = false from ble_f (by omega)]; simp
                have h5 : amUp M 4 0 5 ((x.2.1 + 1 : Nat) : Int) c s j = M c s j := by
                  rcases p1 with p1 | p1
                  · exact up_c p1
                  · exact up_j (by omega)
                have h100 : amUp (amUp M6 100 1 (len1 + e.length) (0 + 8 * 0)) 1 1 1 ((len1 + e.length + 1 : Nat) : Int) c s j = M6 c s j := by
                  rw [up_c p4]
                  rcases p3 with p3 | p3
                  · exact up_c p3
                  · exact up_j (by omega)
                rw [h100, f2 c s j (hex _ (by omega)), e2 c s j (hex _ (Nat.le_refl len)), up_c p2, c2 c s j hta, b2 c s j hta, a2 c s j hta, h5]
              have hpre7 : cPre (amUp (amUp M6 100 1 (len1 + e.length) (0 + 8 * 0)) 1 1 1 ((len1 + e.length + 1 : Nat) : Int) 100 1) len l len1 := cPre_mv l len len1 e4 fun j p q => by rw [up_c (by decide), up_j (by omega), f2 100 1 j (fEx_100 q)]
              have hat7 : cAt (amUp (amUp M6 100 1 (len1 + e.length) (0 + 8 * 0)) 1 1 1 ((len1 + e.length + 1 : Nat) : Int) 100 1) len1 e := cAt2_mv e len1 f4 fun j p q => by rw [up_c (by decide), up_j (by omega)]
              obtain ⟨w1, w2⟩ := cPre_lw l len len1 hpre7 hat7 (by rw [up_c (by decide), up_on]; rfl)
              have hle := cPre_le l len len1 e4
              have hd7 : cDr0 (txL x.1 (κ (t + 1) - 8) (l, e), x.2.1 + 1, x.2.2.1, x.2.2.2) (len1 + e.length + 1) (amUp (amUp M6 100 1 (len1 + e.length) (0 + 8 * 0)) 1 1 1 ((len1 + e.length + 1 : Nat) : Int)) := by
                obtain ⟨g0, ⟨g1, g2, g3, g4, g5, g6⟩, g7, g8, g9, g10⟩ := hd0
                have k8 : ∀ j, amUp (amUp M6 100 1 (len1 + e.length) (0 + 8 * 0)) 1 1 1 ((len1 + e.length + 1 : Nat) : Int) 8 1 j = M 8 1 j := fun j => keep 8 1 j (Or.inl (by decide)) (by decide) (Or.inl (by decide)) (by decide)
                refine ⟨⟨g0.1, g0.2.1, g0.2.2.1, by show x.2.1 + 1 ≤ 8; omega⟩, ⟨(k8 5).trans g1, (k8 6).trans g2, (k8 7).trans g3, (k8 8).trans g4, (k8 9).trans g5, ?_⟩, fun j p q => (keep 118 1 j (Or.inl (by decide)) (by decide) (Or.inl (by decide)) (by decide)).trans (g7 j p q), fun j p => (keep 119 1 j (Or.inl (by decide)) (by decide) (Or.inl (by decide)) (by decide)).trans (g8 j p), fun p q => ⟨(keep 120 1 p (Or.inl (by decide)) (by decide) (Or.inl (by decide)) (by decide)).trans (g9 p q).1, (keep 121 1 p (Or.inl (by decide)) (by decide) (Or.inl (by decide)) (by decide)).trans (g9 p q).2.1, (keep 107 0 p (Or.inl (by decide)) (by decide) (Or.inl (by decide)) (by decide)).trans (g9 p q).2.2⟩, fun v p => ?_⟩
                · rw [up_c (by decide), up_c (by decide), f2 4 0 5 (by rfl), e2 4 0 5 (by rfl), up_c (by decide), c2 4 0 5 (by rfl), b2 4 0 5 (by rfl), a2 4 0 5 (by rfl), up_on]
                · have hv101 : amUp (amUp M6 100 1 (len1 + e.length) (0 + 8 * 0)) 1 1 1 ((len1 + e.length + 1 : Nat) : Int) 101 1 v = if v = κ (t + 1) - 8 then (len : Int) else M 101 1 v := by
                    rw [up_c (by decide), up_c (by decide), f2 101 1 v (by rfl), e2 101 1 v (by rfl), up_at]
                    split
                    · rfl
                    · rw [c2 101 1 v (by rfl), b2 101 1 v (by rfl), a2 101 1 v (by rfl), up_c (by decide)]
                  show match (if v = κ (t + 1) - 8 then some (l, e) else tL x.1 v) with
                    | none => _
                    | some l => _
                  by_cases ev : v = κ (t + 1) - 8
                  · rw [if_pos ev] at hv101 ⊢
                    exact ⟨len, hv101, by show len + lwLen l e ≤ _; omega, w1⟩
                  · rw [if_neg ev] at hv101 ⊢
                    have hv := g10 v p
                    cases hL : tL x.1 v with
                    | none => rw [hL] at hv; exact hv101.trans hv
                    | some l0 =>
                      rw [hL] at hv
                      obtain ⟨i, j1, j2, j3⟩ := hv
                      exact ⟨i, hv101.trans j1, by omega, cLw_mv _ _ _ j3 fun j p q => keep 100 1 j (Or.inl (by decide)) (by decide) (Or.inr (by omega)) (by decide)⟩
              have hz7 : cPz κ t4 (amUp (amUp M6 100 1 (len1 + e.length) (0 + 8 * 0)) 1 1 1 ((len1 + e.length + 1 : Nat) : Int)) := f3.z.mv fun j => by rw [up_c (by decide), up_c (by decide)]
              have hlf7 : cLf x.2.2.2 (amUp (amUp M6 100 1 (len1 + e.length) (0 + 8 * 0)) 1 1 1 ((len1 + e.length + 1 : Nat) : Int)) := ⟨(keep 4 0 8 (Or.inr (by omega)) (by decide) (Or.inl (by decide)) (by decide)).trans hlf.1, fun q => (keep 4 0 9 (Or.inr (by omega)) (by decide) (Or.inl (by decide)) (by decide)).trans (hlf.2 q)⟩
              obtain ⟨M8, p1, p2⟩ := c_sem (D := d) (M0 := M) (len := len1 + e.length + 1) (x := (txL x.1 (κ (t + 1) - 8) (l, e), x.2.1 + 1, x.2.2.1, x.2.2.2)) (by omega) (hT.pa s7) hz7 (by omega) up_on hd7 hlf7 s7
              refine ⟨M8, ?_, p2⟩
              rw [f1, amCV_s, c_emit (D := d') (k := 0) (v := 0) (by omega) (by omega) h61 (by omega) (by omega), amCV_s, amCV_s, p1, amCV_s]
    · rw [if_neg h40] at a3 ⊢
      obtain ⟨M', f1, f2, f3⟩ := fin2 2 t M1 0 s1 a3
      exact ⟨M', by rw [c_vowF (by omega) a3, amCI_s, c_takeF (by omega) (by decide) a3, amCV_s, f1, amCV_s, c_semF (by omega) f3, amCV_s], f2, f3⟩
  · obtain ⟨M2, a1, a2, a3⟩ := c_fail (D := d') (c := 2) (by omega) (by decide) hz0.2.2.2 hz0.2.1
    rw [show ((2 : Nat) : Int) = 2 from rfl] at a1
    rw [if_pos (by omega), if_neg hn8]
    exact ⟨M2, by rw [a1, amCV_s, amCV_s, c_semF (by omega) a3, amCV_s], s0.trans (a2.mono fTa_fPa), a3⟩
end CSY
