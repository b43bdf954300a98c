/-! PURE: the class reads numbers, vows, rows -/
section CST
variable {D d t len : Nat} {κ ν : Nat → Nat} {M : AmM} {lf : Nat × Nat}
def cLf (lf : Nat × Nat) (M : AmM) : Prop := M 4 0 8 = ((lf.1 : Nat) : Int) ∧ (lf.1 ≠ 0 → M 4 0 9 = ((lf.2 : Nat) : Int))
def fLt : Nat → Nat → Nat → Bool := fun c s j => c == 4 && (s == 0 && (j == 8 || j == 9))
def fTi : Nat → Nat → Nat → Bool := fun c s j => fTa c s j || fLt c s j
theorem fTa_fTi : ∀ c s j, fTa c s j = true → fTi c s j = true := fun c s j h => by unfold fTi; rw [h]; rfl
theorem fLt_fTi : ∀ c s j, fLt c s j = true → fTi c s j = true := fun c s j h => by unfold fTi; rw [h]; exact Bool.or_true _
theorem fTi_fPa : ∀ c s j, fTi c s j = true → fPa c s j = true := fun c s j h => by
  unfold fTi fTa fLt at h
  simp only [Bool.or_eq_true, Bool.and_eq_true, beq_iff_eq] at h
  have hc : c = 4 := by omega
  unfold fPa
  rw [hc]; rfl
theorem cLf.ta {M' : AmM} (h : cLf lf M) (hs : amSame fTa M M') : cLf lf M' := ⟨(hs 4 0 8 (by rfl)).trans h.1, fun q => (hs 4 0 9 (by rfl)).trans (h.2 q)⟩
theorem cPz.lt {M' : AmM} (h : cPz κ t M) (hs : amSame fLt M M') : cPz κ t M' := ⟨h.1, (hs 4 0 3 (by rfl)).trans h.2.1, (hs 4 0 4 (by rfl)).trans h.2.2.1, (hs 4 0 6 (by rfl)).trans h.2.2.2⟩
theorem c_failLater (hD : 1 ≤ D) {c : Nat} (hc : c ≠ 0) (h : cLf lf M) (h3 : M 4 0 3 = (t : Int)) : ∃ M', amD amGst D 43 [vR 4 4 0, vI (c : Int)] M = some (vU, M') ∧ amSame fLt M M' ∧ cLf (lfS lf c t true) M' := by
  obtain ⟨d, rfl⟩ := dS hD
  rw [n_X4_failLater, q_X4_failLater_0, h.1]
  unfold lfS
  by_cases h0 : lf.1 = 0
  · rw [if_pos (by omega), if_pos ⟨rfl, h0⟩]
    refine ⟨_, rfl, (amSame.refl.up (by rfl)).up (by rfl), ?_, fun _ => ?_⟩
    · rw [up_j (by decide), up_on]
    · rw [up_on, up_j (by decide)]; exact h3
  · rw [if_neg (by omega), if_neg (fun q => h0 q.2)]
    exact ⟨M, rfl, amSame.refl, h⟩
theorem lfS_f {c : Nat} : lfS lf c t false = lf := if_neg (fun q => by cases q.1)
theorem c_takeInt (hD : 3 ≤ D) (hT : cTk κ ν M) (hν : ∀ t, κ t = 20 → ν t < 10000) (h : cPz κ t M) (hlf : cLf lf M) {least most : Nat} : match intS κ ν least most t lf with
    | .inl (c, q) => ∃ (M' : AmM) (v : Int), amD amGst D 40 [vR 4 4 0, vI (least : Int), vI (most : Int)] M = some (vI v, M') ∧ amSame fTi M M' ∧ cFt c q M'
    | .inr (t1, lf1) => ∃ M', amD amGst D 40 [vR 4 4 0, vI (least : Int), vI (most : Int)] M = some (vI ((ν t : Nat) : Int), M') ∧ amSame fTi M M' ∧ cPz κ t1 M' ∧ cLf lf1 M' := by
  obtain ⟨d, rfl⟩ := dS hD
  have h0 := h.1
  have h3 := h.2.1
  have h4 := h.2.2.1
  unfold intS
  have e40 : amD amGst (d + 1) 40 [vR 4 4 0, vI (least : Int), vI (most : Int)] M = (if ((κ t : Nat) : Int) = 20 then (if w32 (M 116 0 t) < (least : Int) then (amCV (amD amGst d 43 [vR 4 4 0, vI 5] M) fun M2 => amCV (amD amGst d 39 [vR 4 4 0, vI 20] M2) fun M3 => some (vI (w32 (M 116 0 t)), M3)) else (if (most : Int) < w32 (M 116 0 t) then (amCV (amD amGst d 43 [vR 4 4 0, vI 5] M) fun M4 => amCV (amD amGst d 39 [vR 4 4 0, vI 20] M4) fun M5 => some (vI (w32 (M 116 0 t)), M5)) else (amCV (amD amGst d 39 [vR 4 4 0, vI 20] M) fun M6 => some (vI (w32 (M 116 0 t)), M6)))) else (amCV (amD amGst d 39 [vR 4 4 0, vI 20] M) fun M7 => some (vI (w32 (M 116 0 t)), M7))) := by
    rw [n_X4_takeInt, q_X4_takeInt_0, h3, c_valueAt (by omega) h0.1, amCL_s, h4]
  rw [e40]
  by_cases hk : κ t = 20
  · have h116 := (hT t h0.1 h0.2).2 (by omega)
    have hv := hν t hk
    rw [if_pos (show ((κ t : Nat) : Int) = 20 by omega), h116, w32_n (x := ((ν t : Nat) : Int)) (n := ν t) rfl (by omega), if_pos hk]
    -- the INT taken, behind what may be noted
    have key : ∀ (M1 : AmM) (lf1 : Nat × Nat), amSame fLt M M1 → cLf lf1 M1 → match (if t < 400 then .inr (t + 1, lf1) else .inl (2, t) : Pr (Nat × Nat × Nat)) with
        | .inl (c, q) => ∃ (M' : AmM) (v : Int), (amCV (amD amGst d 39 [vR 4 4 0, vI 20] M1) fun M3 => some (vI ((ν t : Nat) : Int), M3)) = some (vI v, M') ∧ amSame fTi M M' ∧ cFt c q M'
        | .inr (t1, lf1) => ∃ M', (amCV (amD amGst d 39 [vR 4 4 0, vI 20] M1) fun M3 => some (vI ((ν t : Nat) : Int), M3)) = some (vI ((ν t : Nat) : Int), M') ∧ amSame fTi M M' ∧ cPz κ t1 M' ∧ cLf lf1 M' := fun M1 lf1 hs1 hl1 => by
      obtain ⟨M2, a1, a2, a3⟩ := c_takeZ (D := d) (w := 20) (by omega) (hT.pa (hs1.mono fun c s j q => fTi_fPa c s j (fLt_fTi c s j q))) (by decide) (h.lt hs1)
      have ek : tkX κ 20 t = if t < 400 then .inr (t + 1) else .inl (2, t) := if_pos hk
      rw [ek] at a3
      rw [show ((20 : Nat) : Int) = 20 from rfl] at a1
      rw [a1, amCV_s]
      by_cases h40 : t < 400
      · rw [if_pos h40] at a3 ⊢
        exact ⟨M2, rfl, (hs1.mono fLt_fTi).trans (a2.mono fTa_fTi), a3, hl1.ta a2⟩
      · rw [if_neg h40] at a3 ⊢
        exact ⟨M2, _, rfl, (hs1.mono fLt_fTi).trans (a2.mono fTa_fTi), a3⟩
    by_cases hb : ν t < least ∨ most < ν t
    · obtain ⟨M1, b1, b2, b3⟩ := c_failLater (D := d) (c := 5) (by omega) (by decide) hlf h3
      have := key M1 _ b2 b3
      rw [decide_eq_true hb]
      rw [show ((5 : Nat) : Int) = 5 from rfl] at b1
      by_cases hl : ((ν t : Nat) : Int) < (least : Int)
      · rw [if_pos hl, b1, amCV_s]; exact this
      · rw [if_neg hl, if_pos (show (most : Int) < ((ν t : Nat) : Int) by omega), b1, amCV_s]; exact this
    · have := key M lf amSame.refl hlf
      rw [decide_eq_false hb, lfS_f, if_neg (show ¬ ((ν t : Nat) : Int) < (least : Int) by omega), if_neg (show ¬ (most : Int) < ((ν t : Nat) : Int) by omega)]
      exact this
  · rw [if_neg (show ¬ ((κ t : Nat) : Int) = 20 by omega), if_neg hk]
    obtain ⟨M2, a1, a2, a3⟩ := c_takeZ (D := d) (w := 20) (by omega) hT (by decide) h
    have ek : tkX κ 20 t = .inl (1, t) := if_neg hk
    rw [ek] at a3
    rw [show ((20 : Nat) : Int) = 20 from rfl] at a1
    rw [a1, amCV_s]
    exact ⟨M2, _, rfl, a2.mono fTa_fTi, a3⟩
theorem c_valueAny (hD : 1 ≤ D) {q : Int} : ∃ y, amD amGst D 68 [vR 7 7 0, vI q] M = some (vL y, M) := by
  obtain ⟨d, rfl⟩ := dS hD
  rw [n_X7_valueAt, q_X7_valueAt_0]
  by_cases h0 : q < 0
  · rw [if_pos h0]; exact ⟨_, rfl⟩
  · rw [if_neg h0]
    by_cases h1 : q < 401
    · rw [if_pos h1, if_pos ⟨by omega, h1⟩]; exact ⟨_, rfl⟩
    · rw [if_neg h1]; exact ⟨_, rfl⟩
theorem c_takeIntF (hD : 3 ≤ D) {c q : Nat} {least most : Int} (h : cFt c q M) : ∃ v, amD amGst D 40 [vR 4 4 0, vI least, vI most] M = some (vI v, M) := by
  obtain ⟨d, rfl⟩ := dS hD
  obtain ⟨y, hy⟩ := c_valueAny (D := d) (M := M) (q := M 4 0 3) (by omega)
  rw [n_X4_takeInt, q_X4_takeInt_0, hy, amCL_s, h.2.2.2, if_neg (by decide), c_takeF (by omega) (by decide) h, amCV_s]
  exact ⟨_, rfl⟩
theorem c_vow (hD : 3 ≤ D) (hT : cTk κ ν M) (h : cPz κ t M) : match vwS κ t with
    | .inl (c, q) => ∃ (M' : AmM) (v : Int), amD amGst D 41 [vR 4 4 0] M = some (vI v, M') ∧ amSame fTa M M' ∧ cFt c q M'
    | .inr t1 => ∃ M', amD amGst D 41 [vR 4 4 0] M = some (vI ((κ t - 8 : Nat) : Int), M') ∧ amSame fTa M M' ∧ cPz κ t1 M' := by
  obtain ⟨d, rfl⟩ := dS hD
  have h4 := h.2.2.1
  rw [n_X4_takeVow, q_X4_takeVow_0, h4]
  unfold vwS
  by_cases hv : 8 ≤ κ t ∧ κ t ≤ 11
  · obtain ⟨M2, a1, a2, a3⟩ := c_takeZ (D := d) (w := κ t) (by omega) hT (by omega) h
    have ek : tkX κ (κ t) t = if t < 400 then .inr (t + 1) else .inl (2, t) := if_pos rfl
    rw [ek] at a3
    rw [if_pos hv, if_neg (show ¬ ((κ t : Nat) : Int) < 8 by omega), if_neg (show ¬ (11 : Int) < ((κ t : Nat) : Int) by omega), a1, amCV_s, w32_n (x := ((κ t : Nat) : Int) - 8) (n := κ t - 8) (by omega) (by omega)]
    by_cases h40 : t < 400
    · rw [if_pos h40] at a3 ⊢
      exact ⟨M2, rfl, a2, a3⟩
    · rw [if_neg h40] at a3 ⊢
      exact ⟨M2, _, rfl, a2, a3⟩
  · obtain ⟨M2, a1, a2, a3⟩ := c_fail (D := d) (c := 1) (by omega) (by decide) h.2.2.2 h.2.1
    rw [show ((1 : Nat) : Int) = 1 from rfl] at a1
    rw [if_neg hv]
    by_cases h8 : ((κ t : Nat) : Int) < 8
    · rw [if_pos h8, a1, amCV_s]; exact ⟨M2, _, rfl, a2, a3⟩
    · rw [if_neg h8, if_pos (by omega), a1, amCV_s]; exact ⟨M2, _, rfl, a2, a3⟩
theorem c_vowF (hD : 3 ≤ D) {c q : Nat} (h : cFt c q M) : amD amGst D 41 [vR 4 4 0] M = some (vI 0, M) := by
  obtain ⟨d, rfl⟩ := dS hD
  rw [n_X4_takeVow, q_X4_takeVow_0, h.2.2.2, if_neg (by decide), if_pos (by decide), c_failF (by omega) h, amCV_s]
/-- a row of numbers -/
def fRq1 (c1 : Nat) : Nat → Nat → Nat → Bool := fun c s j => fTi c s j || (c == c1 && s == 1)
theorem fTi_fRq1 {c1 : Nat} : ∀ c s j, fTi c s j = true → fRq1 c1 c s j = true := fun c s j h => by unfold fRq1; rw [h]; rfl
theorem c_putAny {c1 r n : Nat} {j v : Int} (hD : 1 ≤ D) (h90 : c1 ≠ 90) (hn : amLenL.getD c1 0 = n) : ∃ M', amD amGst D 143 [vR 20 c1 r, vI j, vI v] M = some (vU, M') ∧ amSame (fun c s _ => c == c1 && s == r) M M' := by
  by_cases h0 : 0 ≤ j
  · by_cases h1 : j < (n : Int)
    · exact ⟨_, c_put hD h90 hn h0 h1, amSame.refl.up (by simp)⟩
    · exact ⟨M, c_putN hD h90 hn (Or.inr (by omega)), amSame.refl⟩
  · exact ⟨M, c_putN hD h90 hn (Or.inl (by omega)), amSame.refl⟩
theorem cFt.col {c q c1 r : Nat} {M' : AmM} (h : cFt c q M) (hc : c1 ≠ 4) (hs : amSame (fun c s _ => c == c1 && s == r) M M') : cFt c q M' := by
  have e : ∀ j, M' 4 0 j = M 4 0 j := fun j => hs 4 0 j (by show (4 == c1 && 0 == r) = false; rw [beq_false_of_ne (fun q => hc q.symm)]; rfl)
  exact h.mv (e 6) (e 7) (e 4)
theorem c_47F (hd : 1 ≤ d) {c q c1 r1 : Nat} {l2 l3 l4 l5 : Int} (h : cFt c q M) : e_X4_readRow_47 d c1 r1 l2 l3 l4 l5 M = some (vI l5, M) := by
  rw [q_X4_readRow_47, h.2.2.2, if_neg (by decide)]
theorem c_11F (hd : 1 ≤ d) {c q c1 r1 : Nat} {l2 l3 l4 l5 : Int} (h : cFt c q M) : e_X4_readRow_11 d c1 r1 l2 l3 l4 l5 M = some (vI l5, M) := by
  rw [q_X4_readRow_11, h.2.2.2, if_neg (show ¬ (22 : Int) = 20 by decide)]
  by_cases h3 : l5 < l3
  · rw [if_pos h3]; exact c_47F hd h
  · rw [if_neg h3]; exact c_47F hd h
theorem c_rowLoop (hd : 3 ≤ d) (hν : ∀ t, κ t = 20 → ν t < 10000) {c1 n1 f room most : Nat} (h90 : c1 ≠ 90 ∧ c1 ≠ 4 ∧ c1 ≠ 115 ∧ c1 ≠ 116) (hl : amLenL.getD c1 0 = n1) (hr : f + room ≤ n1) (h100 : n1 ≤ 100) : ∀ (k t n : Nat) (row : Rw) (lf : Nat × Nat) (M : AmM), n + k = room → cTk κ ν M → cPz κ t M → cLf lf M → (∀ j, j < n → M c1 1 (f + j) = row (f + j)) → match rwS κ ν f most k t n row lf with
    | .inl (c, q) => ∃ (M' : AmM) (v : Int), e_X4_readRow_11 d c1 1 (f : Int) (room : Int) (most : Int) (n : Int) M = some (vI v, M') ∧ amSame (fRq1 c1) M M' ∧ cFt c q M'
    | .inr (t1, n2, row1, lf1) => ∃ M', e_X4_readRow_11 d c1 1 (f : Int) (room : Int) (most : Int) (n : Int) M = some (vI (n2 : Int), M') ∧ amSame (fRq1 c1) M M' ∧ cPz κ t1 M' ∧ cLf lf1 M' ∧ (∀ j, j < n2 → M' c1 1 (f + j) = row1 (f + j)) ∧ n2 ≤ room ∧ t ≤ t1
  | 0, t, n, row, lf, M, hk, hT, h, hlf, hrow => by
    have h4 := h.2.2.1
    unfold rwS
    rw [q_X4_readRow_11, if_neg (show ¬ (n : Int) < (room : Int) by omega), q_X4_readRow_47, h4]
    by_cases hk2 : κ t = 20
    · obtain ⟨M2, a1, a2, a3⟩ := c_fail (D := d) (c := 2) (by omega) (by decide) h.2.2.2 h.2.1
      rw [show ((2 : Nat) : Int) = 2 from rfl] at a1
      rw [if_pos hk2, if_pos (show ((κ t : Nat) : Int) = 20 by omega), a1, amCV_s]
      exact ⟨M2, _, rfl, (a2.mono fTa_fTi).mono fTi_fRq1, a3⟩
    · rw [if_neg hk2, if_neg (show ¬ ((κ t : Nat) : Int) = 20 by omega)]
      exact ⟨M, rfl, amSame.refl, h, hlf, hrow, by omega, Nat.le_refl t⟩
  | k + 1, t, n, row, lf, M, hk, hT, h, hlf, hrow => by
    have h4 := h.2.2.1
    unfold rwS
    rw [q_X4_readRow_11, if_pos (show (n : Int) < (room : Int) by omega), h4]
    by_cases hk2 : κ t = 20
    · have hi := c_takeInt (D := d) (least := 0) (most := most) (by omega) hT hν h hlf
      unfold intS at hi
      rw [if_pos hk2] at hi
      rw [if_pos hk2, if_pos (show ((κ t : Nat) : Int) = 20 by omega)]
      by_cases h40 : t < 400
      · rw [if_pos h40] at hi ⊢
        obtain ⟨M1, a1, a2, a3, a4⟩ := hi
        have hT1 := hT.pa (a2.mono fTi_fPa)
        rw [show ((0 : Nat) : Int) = 0 from rfl] at a1
        have hput := c_put (D := d) (c := c1) (r := 1) (n := n1) (j := ((f + n : Nat) : Int)) (v := ((ν t : Nat) : Int)) (M := M1) (by omega) h90.1 hl (by omega) (by omega)
        rw [tn_cast] at hput
        have s2 : amSame (fRq1 c1) M (amUp M1 c1 1 (f + n) ((ν t : Nat) : Int)) := (a2.mono fTi_fRq1).up (by unfold fRq1; simp)
        have e4 : ∀ j, amUp M1 c1 1 (f + n) ((ν t : Nat) : Int) 4 0 j = M1 4 0 j := fun j => up_c (fun q => h90.2.1 q.symm)
        have hT2 : cTk κ ν (amUp M1 c1 1 (f + n) ((ν t : Nat) : Int)) := fun q a b => by
          rw [up_c (fun q => h90.2.2.1 q.symm), up_c (fun q => h90.2.2.2 q.symm)]
          exact hT1 q a b
        have ih := c_rowLoop hd hν (most := most) h90 hl hr h100 k (t + 1) (n + 1) (rUp row (f + n) ((ν t : Nat) : Int)) _ (amUp M1 c1 1 (f + n) ((ν t : Nat) : Int)) (by omega) hT2 (a3.mv e4) ⟨(e4 8).trans a4.1, fun q => (e4 9).trans (a4.2 q)⟩ (fun j hj => by
          by_cases ej : j = n
          · subst ej; rw [up_on, rUp_on]
          · rw [up_j (by omega), rUp_ne (by omega), a2 c1 1 (f + j) (by
              unfold fTi fTa fLt
              rw [beq_false_of_ne h90.2.1]; rfl)]
            exact hrow j (by omega))
        rw [a1, amCI_s, w32_n (x := (f : Int) + (n : Int)) (n := f + n) (by omega) (by omega), hput, amCV_s, w32_n (x := (n : Int) + 1) (n := n + 1) (by omega) (by omega)]
        revert ih
        cases rwS κ ν f most k (t + 1) (n + 1) (rUp row (f + n) ((ν t : Nat) : Int)) (lfS lf 5 t (decide (ν t < 0 ∨ most < ν t))) with
        | inl y =>
          obtain ⟨c, q⟩ := y
          intro ih
          obtain ⟨M3, v, b1, b2, b3⟩ := ih
          exact ⟨M3, v, b1, s2.trans b2, b3⟩
        | inr y =>
          obtain ⟨t1, n2, row1, lf1⟩ := y
          intro ih
          obtain ⟨M3, b1, b2, b3, b4, b5, b6, b7⟩ := ih
          exact ⟨M3, b1, s2.trans b2, b3, b4, b5, b6, by omega⟩
      · rw [if_neg h40] at hi ⊢
        obtain ⟨M1, v, a1, a2, a3⟩ := hi
        rw [show ((0 : Nat) : Int) = 0 from rfl] at a1
        obtain ⟨M2, b1, b2⟩ := c_putAny (D := d) (M := M1) (c1 := c1) (r := 1) (n := n1) (j := w32 ((f : Int) + (n : Int))) (v := v) (by omega) h90.1 hl
        have hf2 := a3.col h90.2.1 b2
        rw [a1, amCI_s, b1, amCV_s, c_11F (by omega) hf2]
        exact ⟨M2, _, rfl, (a2.mono fTi_fRq1).trans (b2.mono fun c s j h => by unfold fRq1; rw [h]; exact Bool.or_true _), hf2⟩
    · rw [if_neg hk2, if_neg (show ¬ ((κ t : Nat) : Int) = 20 by omega), q_X4_readRow_47, h4, if_neg (show ¬ ((κ t : Nat) : Int) = 20 by omega)]
      exact ⟨M, rfl, amSame.refl, h, hlf, hrow, by omega, Nat.le_refl t⟩
end CST
