/-! PURE: the reference reads numbers, vows, rows -/
theorem tkP_mono {L : Nat} {Y : Nat → Nat} {i j : Nat} (h : i < j) : tkP L Y i < tkP L Y j := tkP_lt h
section RST
variable {D d t cd br sd : Nat} {κ ν P : Nat → Nat} {M : AmM} {lf : Nat × Nat}
def rLf (P : Nat → Nat) (lf : Nat × Nat) (M : AmM) : Prop := M 12 0 15 = ((lf.1 : Nat) : Int) ∧ (lf.1 ≠ 0 → M 12 0 16 = ((P lf.2 : Nat) : Int))
def fRlt : Nat → Nat → Nat → Bool := fun c _ j => c == 12 && (j == 15 || j == 16)
def fRti : Nat → Nat → Nat → Bool := fun c s j => fRta c s j || fRlt c s j
theorem fRta_fRti : ∀ c s j, fRta c s j = true → fRti c s j = true := fun c s j h => by unfold fRti; rw [h]; rfl
theorem fRlt_fRti : ∀ c s j, fRlt c s j = true → fRti c s j = true := fun c s j h => by unfold fRti; rw [h]; exact Bool.or_true _
theorem rLf.ta {M' : AmM} (h : rLf P lf M) (hs : amSame fRta M M') : rLf P lf M' := ⟨(hs 12 0 15 (by rfl)).trans h.1, fun q => (hs 12 0 16 (by rfl)).trans (h.2 q)⟩
theorem rPs.lt {M' : AmM} (h : rPs κ t M) (hs : amSame fRlt M M') : rPs κ t M' := h.mv (hs 12 0 11 (by rfl)) (hs 12 0 13 (by rfl))
theorem rTk.ti {M' : AmM} (h : rTk κ ν P M) (hs : amSame fRti M M') : rTk κ ν P M' := h.mv fun c j hc => hs _ _ _ (by rcases hc with rfl | rfl | rfl | rfl <;> rfl)
/-- a later FAULT noted -/
theorem r_wrong2 (hD : 1 ≤ D) (hPm : ∀ i j, i < j → P i < P j) (hT : rTk κ ν P M) (h0 : t ≤ 400 ∧ goK κ t) (h13 : M 12 0 13 = 0) {c : Nat} (hc : c ≠ 0) (hlf : rLf P lf M) (hl : lf.1 ≠ 0 → lf.2 < t ∨ (lf.2 = t ∧ lf.1 ≤ c)) : ∃ M', amD amGst D 160 [vR 12 12 0, vI (c : Int), vI (t : Int)] M = some (vU, M') ∧ amSame fRlt M M' ∧ rLf P (lfS lf c t true) M' := by
  obtain ⟨d, rfl⟩ := dS hD
  have h132 := (hT t h0.1 h0.2).2.1
  rw [n_X12_wrong, q_X12_wrong_0, if_pos (by omega), h13, if_neg (show ¬ (0 : Int) < 0 by omega), hlf.1, tn_cast, h132]
  unfold lfS
  by_cases hz : lf.1 = 0
  · rw [if_pos (show ((lf.1 : Nat) : Int) = 0 by omega), if_pos ⟨rfl, hz⟩]
    exact ⟨_, rfl, (amSame.refl.up (by rfl)).up (by rfl), by rw [up_j (by decide), up_on], fun _ => up_on⟩
  · have ez : (if true = true ∧ lf.1 = 0 then (c, t) else lf) = lf := if_neg (fun q : true = true ∧ lf.1 = 0 => hz q.2)
    rw [ez, if_neg (show ¬ ((lf.1 : Nat) : Int) = 0 by omega), hlf.2 hz]
    rcases hl hz with hlt | ⟨heq, hle⟩
    · have := hPm lf.2 t hlt
      rw [if_pos (show ((P lf.2 : Nat) : Int) < ((P t : Nat) : Int) by omega)]
      exact ⟨M, rfl, amSame.refl, hlf⟩
    · rw [heq, if_neg (show ¬ ((P t : Nat) : Int) < ((P t : Nat) : Int) by omega), if_pos (show ((P t : Nat) : Int) = ((P t : Nat) : Int) from rfl), if_neg (show ¬ (c : Int) < ((lf.1 : Nat) : Int) by omega)]
      exact ⟨M, rfl, amSame.refl, hlf⟩
theorem r_wrong (hD : 1 ≤ D) (hPm : ∀ i j, i < j → P i < P j) (hT : rTk κ ν P M) (h : rPs κ t M) {c : Nat} (hc : c ≠ 0) (hlf : rLf P lf M) (hl : lf.1 ≠ 0 → lf.2 < t ∨ (lf.2 = t ∧ lf.1 ≤ c)) : ∃ M', amD amGst D 160 [vR 12 12 0, vI (c : Int), vI (t : Int)] M = some (vU, M') ∧ amSame fRlt M M' ∧ rLf P (lfS lf c t true) M' := r_wrong2 hD hPm hT h.1 h.2.2 hc hlf hl
theorem r_must (hD : 3 ≤ D) (hκ : ∀ q, κ q < 62) (hT : rTk κ ν P M) (h : rPs κ t M) {w k : Nat} (hw : w < 62 ∧ w ≠ 21 ∧ w ≠ 22) (hk : kR w = k) (h3 : k ≠ 3) : ∃ M', amD amGst D 162 [vR 12 12 0, vI (k : Int)] M = some (vU, M') ∧ amSame fRta M M' ∧ match tkX κ w t with
    | .inl (c, q) => rFt P c q M'
    | .inr t1 => rPs κ t1 M' := by
  obtain ⟨d, rfl⟩ := dS hD
  have kk := kRv (hκ t) hw.1 hk h3
  rw [n_X12_must, q_X12_must_0]
  unfold tkX
  by_cases hq : κ t = w
  · obtain ⟨M1, a1, a2, a3⟩ := r_goesOn (D := d) (by omega) hT h (by omega)
    rw [r_isY (by omega) hT h (by have := kk.2 hq; omega), amCI_s, if_neg (show ¬ (1 : Int) = 0 by decide), a1, amCV_s, if_pos hq]
    exact ⟨M1, rfl, a2, a3⟩
  · obtain ⟨M1, a1, a2, a3⟩ := r_fail (D := d) (c := 1) (by omega) hT h (by decide)
    rw [show ((1 : Nat) : Int) = 1 from rfl] at a1
    rw [r_isN (by omega) hT h (fun z => hq (kk.1 (by omega))), amCI_s, if_pos (show (0 : Int) = 0 from rfl), a1, amCV_s, if_neg hq]
    exact ⟨M1, rfl, a2, a3⟩
theorem r_mustF (hD : 3 ≤ D) {c q : Nat} {k : Int} (h : rFt P c q M) : amD amGst D 162 [vR 12 12 0, vI k] M = some (vU, M) := by
  obtain ⟨d, rfl⟩ := dS hD
  rw [n_X12_must, q_X12_must_0, r_isF (by omega) h, amCI_s, if_pos (show (0 : Int) = 0 from rfl), r_failF (by omega) h, amCV_s]
theorem r_bounded (hD : 3 ≤ D) (hκ : ∀ q, κ q < 62) (hPm : ∀ i j, i < j → P i < P j) (hT : rTk κ ν P M) (h : rPs κ t M) (hlf : rLf P lf M) (hl : lf.1 ≠ 0 → lf.2 < t) {least most : Nat} : match intS κ ν least most t lf with
    | .inl (c, q) => ∃ (M' : AmM) (v : Int), amD amGst D 167 [vR 12 12 0, vI (least : Int), vI (most : Int)] M = some (vI v, M') ∧ amSame fRti M M' ∧ rFt P c q M'
    | .inr (t1, lf1) => ∃ M', amD amGst D 167 [vR 12 12 0, vI (least : Int), vI (most : Int)] M = some (vI ((ν t : Nat) : Int), M') ∧ amSame fRti M M' ∧ rPs κ t1 M' ∧ rLf P lf1 M' := by
  obtain ⟨d, rfl⟩ := dS hD
  have h0 := h.1
  have k20 := kRv (hκ t) (show 20 < 62 by decide) (show kR 20 = 2 by rfl) (by decide)
  unfold intS
  rw [n_X12_bounded, q_X12_bounded_0, h.2.2, if_neg (show ¬ (0 : Int) < 0 by omega)]
  by_cases hq : κ t = 20
  · have h133 := (hT t h0.1 h0.2).2.2.1 hq
    rw [r_isY (k := 2) (by omega) hT h (by have := k20.2 hq; omega), amCI_s, if_neg (show ¬ (1 : Int) = 0 by decide), h.2.1, if_pos (show (0 : Int) ≤ (t : Int) ∧ (t : Int) < 403 by omega), tn_cast, h133, if_pos hq]
    have key : ∀ (M1 : AmM) (lf1 : Nat × Nat), amSame fRlt M M1 → rLf P lf1 M1 → match (if t < 400 then .inr (t + 1, lf1) else .inl (2, t) : Pr (Nat × Nat × Nat)) with
        | .inl (c, q) => ∃ (M' : AmM) (v : Int), (amCV (amD amGst d 161 [vR 12 12 0] M1) fun M5 => some (vI ((ν t : Nat) : Int), M5)) = some (vI v, M') ∧ amSame fRti M M' ∧ rFt P c q M'
        | .inr (t1, lf1) => ∃ M', (amCV (amD amGst d 161 [vR 12 12 0] M1) fun M5 => some (vI ((ν t : Nat) : Int), M5)) = some (vI ((ν t : Nat) : Int), M') ∧ amSame fRti M M' ∧ rPs κ t1 M' ∧ rLf P lf1 M' := fun M1 lf1 hs1 hl1 => by
      obtain ⟨M2, a1, a2, a3⟩ := r_goesOn (D := d) (by omega) (hT.ti (hs1.mono fRlt_fRti)) (h.lt hs1) (by omega)
      rw [a1, amCV_s]
      unfold goX at a3
      by_cases h40 : t < 400
      · rw [if_pos h40] at a3 ⊢
        exact ⟨M2, rfl, (hs1.mono fRlt_fRti).trans (a2.mono fRta_fRti), a3, hl1.ta a2⟩
      · rw [if_neg h40] at a3 ⊢
        exact ⟨M2, _, rfl, (hs1.mono fRlt_fRti).trans (a2.mono fRta_fRti), a3⟩
    by_cases hb : ν t < least ∨ most < ν t
    · obtain ⟨M1, b1, b2, b3⟩ := r_wrong (D := d) (c := 5) (by omega) hPm hT h (by decide) hlf (fun q => Or.inl (hl q))
      have := key M1 _ b2 b3
      rw [decide_eq_true hb]
      rw [show ((5 : Nat) : Int) = 5 from rfl] at b1
      by_cases hll : ((ν t : Nat) : Int) < (least : Int)
      · rw [if_pos hll, b1, amCV_s]; exact this
      · rw [if_neg hll, if_pos (show (most : Int) < ((ν t : Nat) : Int) by omega), b1, amCV_s]; exact this
    · have := key M lf amSame.refl hlf
      rw [decide_eq_false hb, lfS_f, if_neg (show ¬ ((ν t : Nat) : Int) < (least : Int) by omega), if_neg (show ¬ (most : Int) < ((ν t : Nat) : Int) by omega)]
      exact this
  · obtain ⟨M1, a1, a2, a3⟩ := r_fail (D := d) (c := 1) (by omega) hT h (by decide)
    rw [show ((1 : Nat) : Int) = 1 from rfl] at a1
    rw [r_isN (k := 2) (by omega) hT h (fun z => hq (k20.1 (by omega))), amCI_s, if_pos (show (0 : Int) = 0 from rfl), a1, amCV_s, if_neg hq]
    exact ⟨M1, _, rfl, a2.mono fRta_fRti, a3⟩
theorem r_boundedF (hD : 3 ≤ D) {c q : Nat} {l1 l2 : Int} (h : rFt P c q M) : amD amGst D 167 [vR 12 12 0, vI l1, vI l2] M = some (vI l1, M) := by
  obtain ⟨d, rfl⟩ := dS hD
  have := h.1
  rw [n_X12_bounded, q_X12_bounded_0, h.2.1, if_pos (by omega), r_failF (by omega) h, amCV_s]
theorem r_vow (hD : 3 ≤ D) (hκ : ∀ q, κ q < 62) (hT : rTk κ ν P M) (h : rPs κ t M) : match vwS κ t with
    | .inl (c, q) => ∃ (M' : AmM) (v : Int), amD amGst D 170 [vR 12 12 0] M = some (vI v, M') ∧ amSame fRta M M' ∧ rFt P c q M'
    | .inr t1 => ∃ M', amD amGst D 170 [vR 12 12 0] M = some (vI ((κ t - 8 : Nat) : Int), M') ∧ amSame fRta M M' ∧ rPs κ t1 M' := by
  obtain ⟨d, rfl⟩ := dS hD
  have h0 := h.1
  have kv := kR_vow (κ t) (hκ t)
  have h131 := (hT t h0.1 h0.2).1
  have e40F : ∀ (c q : Nat) (M1 : AmM), rFt P c q M1 → e_X12_tellVow_40 d M1 = some (vI 0, M1) := fun c q M1 hf => by
    have := hf.1
    rw [q_X12_tellVow_40, hf.2.1, if_pos (by omega)]
  unfold vwS
  rw [n_X12_tellVow, q_X12_tellVow_0, h.2.2, if_neg (show ¬ (0 : Int) < 0 by omega), h.2.1, if_pos (show (0 : Int) ≤ (t : Int) ∧ (t : Int) < 403 by omega), tn_cast, h131]
  by_cases hv : 8 ≤ κ t ∧ κ t ≤ 11
  · have hk := kv.2 hv
    have ek := kR_vow2 (κ t) (by omega) hv.1
    obtain ⟨M1, a1, a2, a3⟩ := r_goesOn (D := d) (by omega) hT h (by omega)
    rw [if_neg (show ¬ ((kR (κ t) : Nat) : Int) < 25 by omega), if_pos (show (0 : Int) ≤ (t : Int) ∧ (t : Int) < 403 by omega), if_neg (show ¬ (28 : Int) < ((kR (κ t) : Nat) : Int) by omega), q_X12_tellVow_40, h.2.2, if_neg (show ¬ (0 : Int) < 0 by omega), a1, amCV_s, if_pos hv]
    unfold goX at a3
    by_cases h40 : t < 400
    · rw [if_pos h40] at a3 ⊢
      have e11 := a3.2.1
      refine ⟨M1, ?_, a2, a3⟩
      rw [e11, w32_n (x := ((t + 1 : Nat) : Int) - 1) (n := t) (by omega) (by omega), if_pos (by omega), tn_cast, a2 131 0 t (by rfl), h131, ek, w32_n (x := ((κ t + 17 : Nat) : Int) - 25) (n := κ t - 8) (by omega) (by omega)]
    · rw [if_neg h40] at a3 ⊢
      have e11 : M1 12 0 11 = (t : Int) := by
        obtain ⟨d', ed⟩ := dS (show 1 + 1 ≤ d by omega)
        obtain ⟨M2, b1, b2, b3, b4⟩ := r_failT (D := d') (c := 2) (by omega) hT h (by decide)
        rw [ed, n_X12_goesOn, q_X12_goesOn_0, h.2.1, if_pos (by omega), show (2 : Int) = ((2 : Nat) : Int) from rfl, b1, amCV_s] at a1
        cases a1
        exact b4
      have ht : t = 400 := by omega
      refine ⟨M1, w32 (M1 131 0 399 - 25), ?_, a2, a3⟩
      rw [e11, w32_n (x := (t : Int) - 1) (n := 399) (by omega) (by omega), if_pos (by decide)]
      rfl
  · obtain ⟨M1, a1, a2, a3⟩ := r_fail (D := d) (c := 1) (by omega) hT h (by decide)
    rw [show ((1 : Nat) : Int) = 1 from rfl] at a1
    rw [if_neg hv]
    by_cases h25 : ((kR (κ t) : Nat) : Int) < 25
    · rw [if_pos h25, a1, amCV_s, e40F _ _ M1 a3]
      exact ⟨M1, 0, rfl, a2, a3⟩
    · have h28 : (28 : Int) < ((kR (κ t) : Nat) : Int) := by
        by_cases h28 : 28 < kR (κ t)
        · omega
        · exact absurd (kv.1 ⟨by omega, by omega⟩) hv
      rw [if_neg h25, if_pos (show (0 : Int) ≤ (t : Int) ∧ (t : Int) < 403 by omega), if_pos h28, a1, amCV_s, e40F _ _ M1 a3]
      exact ⟨M1, 0, rfl, a2, a3⟩
theorem r_vowF (hD : 2 ≤ D) {c q : Nat} (h : rFt P c q M) : amD amGst D 170 [vR 12 12 0] M = some (vI 0, M) := by
  obtain ⟨d, rfl⟩ := dS (show 1 ≤ D by omega)
  have h1 := h.1
  have h2 := h.2.1
  have hp : 0 < M 12 0 13 := by omega
  rw [n_X12_tellVow, q_X12_tellVow_0, if_pos hp, r_failF (by omega) h, amCV_s, q_X12_tellVow_40, if_pos hp]
end RST
