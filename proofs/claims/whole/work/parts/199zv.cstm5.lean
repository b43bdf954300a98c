/-! PURE: the class's laws, read -/
/-- one if, from i on -/
def cIf (C : Rw) (i : Nat) (q : Ex × Ex × Ex) : Prop := cAt C i q.1 ∧ cAt C (i + q.1.length) q.2.1 ∧ C (i + q.1.length + q.2.1.length) = 3 + 8 * ((i + q.1.length + q.2.1.length + q.2.2.length + 2 : Nat) : Int) ∧ cAt C (i + q.1.length + q.2.1.length + 1) q.2.2 ∧ C (i + q.1.length + q.2.1.length + 1 + q.2.2.length) = 0
def ifN (q : Ex × Ex × Ex) : Nat := q.1.length + q.2.1.length + q.2.2.length + 2
/-- ifs, from i to k -/
def cPre (C : Rw) : Nat → List (Ex × Ex × Ex) → Nat → Prop
  | i, [], k => k = i
  | i, q :: r, k => cIf C i q ∧ cPre C (i + ifN q) r k
theorem cIf_mv {C C' : Rw} {i : Nat} {q : Ex × Ex × Ex} (h : cIf C i q) (hs : ∀ j, i ≤ j → j < i + ifN q → C' j = C j) : cIf C' i q := by
  obtain ⟨h1, h2, h3, h4, h5⟩ := h
  unfold ifN at hs
  exact ⟨cAt2_mv _ i h1 fun j a b => hs j a (by omega), cAt2_mv _ _ h2 fun j a b => hs j (by omega) (by omega), (hs _ (by omega) (by omega)).trans h3, cAt2_mv _ _ h4 fun j a b => hs j (by omega) (by omega), (hs _ (by omega) (by omega)).trans h5⟩
theorem cPre_le {C : Rw} : ∀ (l : List (Ex × Ex × Ex)) (i k : Nat), cPre C i l k → i ≤ k
  | [], i, k, h => by have h : k = i := h; omega
  | q :: r, i, k, h => by have := cPre_le r _ k h.2; omega
theorem cPre_mv {C C' : Rw} : ∀ (l : List (Ex × Ex × Ex)) (i k : Nat), cPre C i l k → (∀ j, i ≤ j → j < k → C' j = C j) → cPre C' i l k
  | [], _, _, h, _ => h
  | q :: r, i, k, h, hs => by
    have := cPre_le r _ k h.2
    exact ⟨cIf_mv h.1 fun j a b => hs j a (by omega), cPre_mv r _ k h.2 fun j a b => hs j (by omega) b⟩
theorem cPre_app {C : Rw} {q : Ex × Ex × Ex} : ∀ (l : List (Ex × Ex × Ex)) (i k : Nat), cPre C i l k → cIf C k q → cPre C i (l ++ [q]) (k + ifN q)
  | [], i, k, h, hq => by
    have h : k = i := h
    subst h
    exact ⟨hq, rfl⟩
  | p :: r, i, k, h, hq => ⟨h.1, cPre_app r _ k h.2 hq⟩
theorem cPre_lw {C : Rw} {e : Ex} : ∀ (l : List (Ex × Ex × Ex)) (i k : Nat), cPre C i l k → cAt C k e → C (k + e.length) = 0 → cLw C i l e ∧ i + lwLen l e = k + e.length + 1
  | [], i, k, h, ha, hz => by
    have h : k = i := h
    subst h
    exact ⟨⟨ha, hz⟩, rfl⟩
  | (a, b, c) :: r, i, k, h, ha, hz => by
    obtain ⟨⟨h1, h2, h3, h4, h5⟩, h6⟩ := h
    have ei : i + ifN (a, b, c) = i + a.length + b.length + c.length + 2 := by
      show i + (a.length + b.length + c.length + 2) = _
      omega
    rw [ei] at h6
    obtain ⟨k1, k2⟩ := cPre_lw r _ k h6 ha hz
    refine ⟨⟨h1, h2, h3, h4, h5, k1⟩, ?_⟩
    have hl : lwLen ((a, b, c) :: r) e = a.length + b.length + c.length + 2 + lwLen r e := rfl
    omega
section CSX
variable {D d t len : Nat} {κ ν : Nat → Nat} {M : AmM} {lf : Nat × Nat}
theorem c_elseAny (hD : 2 ≤ D) {k : Int} : ∃ M', amD amGst D 15 [vR 1 1 1, vI k] M = some (vU, M') ∧ amSame fEm M M' := by
  obtain ⟨d, rfl⟩ := dS hD
  obtain ⟨M', a1, a2⟩ := c_putAny (D := d) (M := M) (c1 := 100) (r := 1) (n := 401) (j := k) (v := bOr 3 (bShl (M 1 1 1) 3)) (by omega) (by decide) (by decide)
  refine ⟨M', by rw [n_X1_elseHere, q_X1_elseHere_0, a1, amCV_s], a2.mono fun c s j h => ?_⟩
  rw [Bool.and_eq_true, beq_iff_eq, beq_iff_eq] at h
  unfold fEm
  rw [h.1, h.2]; rfl
/-- readIf behind a FAULT, from each point on -/
theorem c_ifF7 (hd : 4 ≤ d) {c q : Nat} {k : Int} (h : cFt c q M) : ∃ M', (amCV (amD amGst d 39 [vR 4 4 0, vI 7] M) fun M8 => amCV (amD amGst d 14 [vR 1 1 1, vI 0, vI 0] M8) fun M9 => amCV (amD amGst d 15 [vR 1 1 1, vI k] M9) fun M10 => some (vU, M10)) = some (vU, M') ∧ amSame fEm M M' ∧ cFt c q M' := by
  obtain ⟨M1, a1, a2⟩ := c_emitF (D := d) (M := M) (k := 0) (v := 0) (by omega)
  obtain ⟨M2, b1, b2⟩ := c_elseAny (D := d) (M := M1) (k := k) (by omega)
  exact ⟨M2, by rw [c_takeF (by omega) (by decide) h, amCV_s, a1, amCV_s, b1, amCV_s], a2.trans b2, (h.em a2).em b2⟩
theorem c_ifF6 (hd : 4 ≤ d) {c q : Nat} {k : Int} (h : cFt c q M) : ∃ M', (amCV (amD amGst d 36 [vR 4 4 0, vI 0] M) fun M7 => amCV (amD amGst d 39 [vR 4 4 0, vI 7] M7) fun M8 => amCV (amD amGst d 14 [vR 1 1 1, vI 0, vI 0] M8) fun M9 => amCV (amD amGst d 15 [vR 1 1 1, vI k] M9) fun M10 => some (vU, M10)) = some (vU, M') ∧ amSame fEm M M' ∧ cFt c q M' := by
  obtain ⟨M1, a1, a2, a3⟩ := c_sumF (D := d) (n := 0) (by omega) h
  obtain ⟨M2, b1, b2, b3⟩ := c_ifF7 (k := k) hd a3
  exact ⟨M2, by rw [a1, amCV_s]; exact b1, a2.trans b2, b3⟩
theorem c_ifF5 (hd : 4 ≤ d) {c q : Nat} (h : cFt c q M) : ∃ M', (amCV (amD amGst d 14 [vR 1 1 1, vI 3, vI 0] M) fun M6 => amCV (amD amGst d 36 [vR 4 4 0, vI 0] M6) fun M7 => amCV (amD amGst d 39 [vR 4 4 0, vI 7] M7) fun M8 => amCV (amD amGst d 14 [vR 1 1 1, vI 0, vI 0] M8) fun M9 => amCV (amD amGst d 15 [vR 1 1 1, vI (M 1 1 1)] M9) fun M10 => some (vU, M10)) = some (vU, M') ∧ amSame fEm M M' ∧ cFt c q M' := by
  obtain ⟨M1, a1, a2⟩ := c_emitF (D := d) (M := M) (k := 3) (v := 0) (by omega)
  obtain ⟨M2, b1, b2, b3⟩ := c_ifF6 (k := M 1 1 1) hd (h.em a2)
  exact ⟨M2, by rw [a1, amCV_s]; exact b1, a2.trans b2, b3⟩
theorem c_ifF4 (hd : 4 ≤ d) {c q : Nat} (h : cFt c q M) : ∃ M', (amCV (amD amGst d 39 [vR 4 4 0, vI 6] M) fun M5 => amCV (amD amGst d 14 [vR 1 1 1, vI 3, vI 0] M5) fun M6 => amCV (amD amGst d 36 [vR 4 4 0, vI 0] M6) fun M7 => amCV (amD amGst d 39 [vR 4 4 0, vI 7] M7) fun M8 => amCV (amD amGst d 14 [vR 1 1 1, vI 0, vI 0] M8) fun M9 => amCV (amD amGst d 15 [vR 1 1 1, vI (M5 1 1 1)] M9) fun M10 => some (vU, M10)) = some (vU, M') ∧ amSame fEm M M' ∧ cFt c q M' := by
  obtain ⟨M2, b1, b2, b3⟩ := c_ifF5 hd h
  exact ⟨M2, by rw [c_takeF (by omega) (by decide) h, amCV_s]; exact b1, b2, b3⟩
theorem c_ifF3 (hd : 4 ≤ d) {c q : Nat} (h : cFt c q M) : ∃ M', (amCV (amD amGst d 36 [vR 4 4 0, vI 0] M) fun M4 => amCV (amD amGst d 39 [vR 4 4 0, vI 6] M4) fun M5 => amCV (amD amGst d 14 [vR 1 1 1, vI 3, vI 0] M5) fun M6 => amCV (amD amGst d 36 [vR 4 4 0, vI 0] M6) fun M7 => amCV (amD amGst d 39 [vR 4 4 0, vI 7] M7) fun M8 => amCV (amD amGst d 14 [vR 1 1 1, vI 0, vI 0] M8) fun M9 => amCV (amD amGst d 15 [vR 1 1 1, vI (M5 1 1 1)] M9) fun M10 => some (vU, M10)) = some (vU, M') ∧ amSame fEm M M' ∧ cFt c q M' := by
  obtain ⟨M1, a1, a2, a3⟩ := c_sumF (D := d) (n := 0) (by omega) h
  obtain ⟨M2, b1, b2, b3⟩ := c_ifF4 hd a3
  exact ⟨M2, by rw [a1, amCV_s]; exact b1, a2.trans b2, b3⟩
theorem c_ifF2 (hd : 4 ≤ d) {c q : Nat} (h : cFt c q M) : ∃ M', (amCV (amD amGst d 39 [vR 4 4 0, vI 60] M) fun M3 => amCV (amD amGst d 36 [vR 4 4 0, vI 0] M3) fun M4 => amCV (amD amGst d 39 [vR 4 4 0, vI 6] M4) fun M5 => amCV (amD amGst d 14 [vR 1 1 1, vI 3, vI 0] M5) fun M6 => amCV (amD amGst d 36 [vR 4 4 0, vI 0] M6) fun M7 => amCV (amD amGst d 39 [vR 4 4 0, vI 7] M7) fun M8 => amCV (amD amGst d 14 [vR 1 1 1, vI 0, vI 0] M8) fun M9 => amCV (amD amGst d 15 [vR 1 1 1, vI (M5 1 1 1)] M9) fun M10 => some (vU, M10)) = some (vU, M') ∧ amSame fEm M M' ∧ cFt c q M' := by
  obtain ⟨M2, b1, b2, b3⟩ := c_ifF3 hd h
  exact ⟨M2, by rw [c_takeF (by omega) (by decide) h, amCV_s]; exact b1, b2, b3⟩
theorem c_ifF1 (hd : 4 ≤ d) {c q : Nat} (h : cFt c q M) : ∃ M', (amCV (amD amGst d 36 [vR 4 4 0, vI 0] M) fun M2 => amCV (amD amGst d 39 [vR 4 4 0, vI 60] M2) fun M3 => amCV (amD amGst d 36 [vR 4 4 0, vI 0] M3) fun M4 => amCV (amD amGst d 39 [vR 4 4 0, vI 6] M4) fun M5 => amCV (amD amGst d 14 [vR 1 1 1, vI 3, vI 0] M5) fun M6 => amCV (amD amGst d 36 [vR 4 4 0, vI 0] M6) fun M7 => amCV (amD amGst d 39 [vR 4 4 0, vI 7] M7) fun M8 => amCV (amD amGst d 14 [vR 1 1 1, vI 0, vI 0] M8) fun M9 => amCV (amD amGst d 15 [vR 1 1 1, vI (M5 1 1 1)] M9) fun M10 => some (vU, M10)) = some (vU, M') ∧ amSame fEm M M' ∧ cFt c q M' := by
  obtain ⟨M1, a1, a2, a3⟩ := c_sumF (D := d) (n := 0) (by omega) h
  obtain ⟨M2, b1, b2, b3⟩ := c_ifF2 hd a3
  exact ⟨M2, by rw [a1, amCV_s]; exact b1, a2.trans b2, b3⟩
theorem fEx_100 {l j : Nat} (h : j < l) : fEx l 100 1 j = false := by
  unfold fEx fTa
  rw [show Nat.ble l j = false from ble_f h]
  rfl
/-- one if -/
theorem c_if1 (hD : 19 ≤ D) (hν : ∀ t, κ t = 20 → ν t < 10000) (hT : cTk κ ν M) (h : cPs κ t len M) : match if1 κ ν t with
    | .inl (c, q) => ∃ M', amD amGst D 35 [vR 4 4 0] M = some (vU, M') ∧ amSame fPa M M' ∧ cFt c q M'
    | .inr (t1, p) => ∃ M', amD amGst D 35 [vR 4 4 0] M = some (vU, M') ∧ amSame (fEx len) M M' ∧ cPs κ t1 (len + ifN p) M' ∧ cIf (M' 100 1) len p ∧ t + ifN p ≤ t1 := by
  obtain ⟨d, rfl⟩ := dS hD
  have hlen := h.1.2.2
  unfold if1
  obtain ⟨M1, a1, a2, a3⟩ := c_take (D := d) (w := 5) (by omega) hT (by decide) h
  rw [show ((5 : Nat) : Int) = 5 from rfl] at a1
  rw [n_X4_readIf, q_X4_readIf_0, a1, amCV_s]
  have S1 := a2.mono fTa_fPa
  cases hk1 : tkX κ 5 t with
  | inl y =>
    obtain ⟨c, q⟩ := y
    rw [hk1] at a3
    obtain ⟨M', f1, f2, f3⟩ := c_ifF1 (d := d) (by omega) a3
    exact ⟨M', f1, S1.trans (f2.mono fEm_fPa), f3⟩
  | inr t1 =>
    rw [hk1] at a3
    have et1 := (tkX_ok hk1).2.2
    have b := c_expr hν (D := d) (by omega) t1 len M1 (hT.pa S1) a3
    dsimp only
    cases hs1 : smX κ ν 6 t1 with
    | inl y =>
      obtain ⟨c, q⟩ := y
      rw [hs1] at b
      obtain ⟨M2, b1, b2, b3⟩ := b
      obtain ⟨M', f1, f2, f3⟩ := c_ifF2 (d := d) (by omega) b3
      exact ⟨M', by rw [b1, amCV_s]; exact f1, (S1.trans b2).trans (f2.mono fEm_fPa), f3⟩
    | inr y =>
      obtain ⟨t2, a⟩ := y
      rw [hs1] at b
      obtain ⟨M2, b1, b2, b3, b4⟩ := b
      have ga := exGood_sum hν 6 t1 t2 a hs1
      have ga1 : t1 < t2 := ga.1
      have ga2 : a.length ≤ t2 - t1 := ga.2.2.1
      have ga3 : t2 ≤ 400 := ga.2.1
      have E2 : amSame (fEx len) M M2 := (a2.mono fTa_fEx).trans b2
      rw [b1, amCV_s]
      obtain ⟨M3, c1, c2, c3⟩ := c_take (D := d) (w := 60) (by omega) (hT.pa (E2.mono fEx_fPa)) (by decide) b3
      rw [show ((60 : Nat) : Int) = 60 from rfl] at c1
      rw [c1, amCV_s]
      have E3 : amSame (fEx len) M M3 := E2.trans (c2.mono fTa_fEx)
      dsimp only
      cases hk2 : tkX κ 60 t2 with
      | inl y =>
        obtain ⟨c, q⟩ := y
        rw [hk2] at c3
        obtain ⟨M', f1, f2, f3⟩ := c_ifF3 (d := d) (by omega) c3
        exact ⟨M', f1, (E3.mono fEx_fPa).trans (f2.mono fEm_fPa), f3⟩
      | inr t3 =>
        rw [hk2] at c3
        have et3 := (tkX_ok hk2).2.2
        have e := c_expr hν (D := d) (by omega) t3 (len + a.length) M3 (hT.pa (E3.mono fEx_fPa)) c3
        dsimp only
        cases hs2 : smX κ ν 6 t3 with
        | inl y =>
          obtain ⟨c, q⟩ := y
          rw [hs2] at e
          obtain ⟨M4, e1, e2, e3⟩ := e
          obtain ⟨M', f1, f2, f3⟩ := c_ifF4 (d := d) (by omega) e3
          exact ⟨M', by rw [e1, amCV_s]; exact f1, ((E3.mono fEx_fPa).trans e2).trans (f2.mono fEm_fPa), f3⟩
        | inr y =>
          obtain ⟨t4, b⟩ := y
          rw [hs2] at e
          obtain ⟨M4, e1, e2, e3, e4⟩ := e
          have gb := exGood_sum hν 6 t3 t4 b hs2
          have gb1 : t3 < t4 := gb.1
          have gb2 : b.length ≤ t4 - t3 := gb.2.2.1
          have gb3 : t4 ≤ 400 := gb.2.1
          have E4 : amSame (fEx len) M M4 := E3.trans (e2.mono (fEx_up (by omega)))
          rw [e1, amCV_s]
          obtain ⟨M5, g1, g2, g3⟩ := c_take (D := d) (w := 6) (by omega) (hT.pa (E4.mono fEx_fPa)) (by decide) e3
          rw [show ((6 : Nat) : Int) = 6 from rfl] at g1
          rw [g1, amCV_s]
          have E5 : amSame (fEx len) M M5 := E4.trans (g2.mono fTa_fEx)
          dsimp only
          cases hk3 : tkX κ 6 t4 with
          | inl y =>
            obtain ⟨c, q⟩ := y
            rw [hk3] at g3
            obtain ⟨M', f1, f2, f3⟩ := c_ifF5 (d := d) (by omega) g3
            exact ⟨M', f1, (E5.mono fEx_fPa).trans (f2.mono fEm_fPa), f3⟩
          | inr t5 =>
            rw [hk3] at g3
            have et5 := (tkX_ok hk3).2.2
            have h51 : M5 1 1 1 = ((len + a.length + b.length : Nat) : Int) := g3.2.2.2.2
            have hle5 := g3.1.1
            rw [h51, c_emit (D := d) (k := 3) (v := 0) (by omega) (by omega) h51 (by omega) (by omega), amCV_s]
            have hP6 := g3.em (v := 3 + 8 * 0) (show len + a.length + b.length + 1 ≤ t5 by omega)
            have E6 : amSame (fEx len) M (amUp (amUp M5 100 1 (len + a.length + b.length) (3 + 8 * 0)) 1 1 1 ((len + a.length + b.length + 1 : Nat) : Int)) := E5.trans (em_fEx (by omega))
            have i := c_expr hν (D := d) (by omega) t5 (len + a.length + b.length + 1) _ (hT.pa (E6.mono fEx_fPa)) hP6
            dsimp only
            cases hs3 : smX κ ν 6 t5 with
            | inl y =>
              obtain ⟨c, q⟩ := y
              rw [hs3] at i
              obtain ⟨M7, i1, i2, i3⟩ := i
              obtain ⟨M', f1, f2, f3⟩ := c_ifF7 (d := d) (k := ((len + a.length + b.length : Nat) : Int)) (by omega) i3
              exact ⟨M', by rw [i1, amCV_s]; exact f1, ((E6.mono fEx_fPa).trans i2).trans (f2.mono fEm_fPa), f3⟩
            | inr y =>
              obtain ⟨t6, c0⟩ := y
              rw [hs3] at i
              obtain ⟨M7, i1, i2, i3, i4⟩ := i
              have gc := exGood_sum hν 6 t5 t6 c0 hs3
              have gc1 : t5 < t6 := gc.1
              have gc2 : c0.length ≤ t6 - t5 := gc.2.2.1
              have gc3 : t6 ≤ 400 := gc.2.1
              have E7 : amSame (fEx len) M M7 := E6.trans (i2.mono (fEx_up (by omega)))
              rw [i1, amCV_s]
              obtain ⟨M8, k1, k2, k3⟩ := c_take (D := d) (w := 7) (by omega) (hT.pa (E7.mono fEx_fPa)) (by decide) i3
              rw [show ((7 : Nat) : Int) = 7 from rfl] at k1
              rw [k1, amCV_s]
              have E8 : amSame (fEx len) M M8 := E7.trans (k2.mono fTa_fEx)
              dsimp only
              cases hk4 : tkX κ 7 t6 with
              | inl y =>
                obtain ⟨c, q⟩ := y
                rw [hk4] at k3
                obtain ⟨M9, p1, p2⟩ := c_emitF (D := d) (M := M8) (k := 0) (v := 0) (by omega)
                obtain ⟨M10, p3, p4⟩ := c_elseAny (D := d) (M := M9) (k := ((len + a.length + b.length : Nat) : Int)) (by omega)
                exact ⟨M10, by rw [p1, amCV_s, p3, amCV_s], (E8.mono fEx_fPa).trans ((p2.trans p4).mono fEm_fPa), (k3.em p2).em p4⟩
              | inr t7 =>
                rw [hk4] at k3
                have et7 := (tkX_ok hk4).2.2
                have h81 : M8 1 1 1 = ((len + a.length + b.length + 1 + c0.length : Nat) : Int) := k3.2.2.2.2
                have hle8 := k3.1.1
                rw [c_emit (D := d) (k := 0) (v := 0) (by omega) (by omega) h81 (by omega) (by omega), amCV_s]
                have hP9 := k3.em (v := 0 + 8 * 0) (show len + a.length + b.length + 1 + c0.length + 1 ≤ t7 by omega)
                have E9 : amSame (fEx len) M8 (amUp (amUp M8 100 1 (len + a.length + b.length + 1 + c0.length) (0 + 8 * 0)) 1 1 1 ((len + a.length + b.length + 1 + c0.length + 1 : Nat) : Int)) := em_fEx (by omega)
                generalize hM9 : amUp (amUp M8 100 1 (len + a.length + b.length + 1 + c0.length) (0 + 8 * 0)) 1 1 1 ((len + a.length + b.length + 1 + c0.length + 1 : Nat) : Int) = M9 at hP9 E9
                have h91 := hP9.2.2.2.2
                obtain ⟨d', ed⟩ := dS (show 1 + 1 ≤ d by omega)
                have hel : amD amGst d 15 [vR 1 1 1, vI ((len + a.length + b.length : Nat) : Int)] M9 = some (vU, amUp M9 100 1 (len + a.length + b.length) (3 + 8 * ((len + a.length + b.length + 1 + c0.length + 1 : Nat) : Int))) := by
                  have hput := c_put (D := d') (c := 100) (r := 1) (n := 401) (j := ((len + a.length + b.length : Nat) : Int)) (v := 3 + 8 * ((len + a.length + b.length + 1 + c0.length + 1 : Nat) : Int)) (M := M9) (by omega) (by decide) (by decide) (by omega) (by omega)
                  rw [tn_cast] at hput
                  rw [ed, n_X1_elseHere, q_X1_elseHere_0, h91, bOr_cmd (by omega) (by omega) (by omega) (by omega), hput, amCV_s]
                have hble : Nat.ble len (len + a.length + b.length) = true := ble_t (by omega)
                refine ⟨_, by rw [hel, amCV_s], (E8.trans E9).up (by unfold fEx; rw [hble]; simp), ?_, ?_, by show t + (a.length + b.length + c0.length + 2) ≤ t7; omega⟩
                · obtain ⟨⟨q1, q2, q3⟩, q4, q5, q6, q7⟩ := hP9
                  have eN : len + ifN (a, b, c0) = len + a.length + b.length + 1 + c0.length + 1 := by
                    show len + (a.length + b.length + c0.length + 2) = _
                    omega
                  refine ⟨⟨q1, q2, by rw [eN]; exact q3⟩, by rw [up_c (by decide)]; exact q4, by rw [up_c (by decide)]; exact q5, by rw [up_c (by decide)]; exact q6, by rw [up_c (by decide), q7, eN]⟩
                · -- the cells
                  have c100 : ∀ j, j ≠ len + a.length + b.length → j < len + a.length + b.length + 1 + c0.length → amUp M9 100 1 (len + a.length + b.length) (3 + 8 * ((len + a.length + b.length + 1 + c0.length + 1 : Nat) : Int)) 100 1 j = M7 100 1 j := fun j x y => by
                    rw [up_j x, ← hM9, up_c (by decide), up_j (by omega), k2 100 1 j (by rfl)]
                  have m7 : ∀ j, j < len + a.length + b.length → M7 100 1 j = M4 100 1 j := fun j y => by
                    rw [i2 100 1 j (fEx_100 (by omega)), up_c (by decide), up_j (by omega), g2 100 1 j (by rfl)]
                  have m4 : ∀ j, j < len + a.length → M4 100 1 j = M2 100 1 j := fun j y => by
                    rw [e2 100 1 j (fEx_100 (by omega)), c2 100 1 j (by rfl)]
                  refine ⟨cAt2_mv a len b4 fun j x y => ?_, cAt2_mv b _ e4 fun j x y => ?_, ?_, cAt2_mv c0 _ i4 fun j x y => ?_, ?_⟩
                  · rw [c100 j (by omega) (by omega), m7 j (by omega), m4 j (by omega)]
                  · have x : len + a.length ≤ j := x
                    have y : j < len + a.length + b.length := y
                    rw [c100 j (by omega) (by omega), m7 j (by omega)]
                  · show amUp M9 100 1 (len + a.length + b.length) _ 100 1 (len + a.length + b.length) = _
                    rw [up_on]
                    show 3 + 8 * ((len + a.length + b.length + 1 + c0.length + 1 : Nat) : Int) = 3 + 8 * ((len + a.length + b.length + c0.length + 2 : Nat) : Int)
                    omega
                  · have x : len + a.length + b.length + 1 ≤ j := x
                    have y : j < len + a.length + b.length + 1 + c0.length := y
                    rw [c100 j (by omega) (by omega)]
                  · show amUp M9 100 1 (len + a.length + b.length) _ 100 1 (len + a.length + b.length + 1 + c0.length) = 0
                    rw [up_j (by omega), ← hM9, up_c (by decide), up_on]
                    rfl
end CSX
