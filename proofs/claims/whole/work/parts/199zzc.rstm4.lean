/-! PURE: the reference's brine and pilgrims, as statements -/
section RSW
variable {D d t v : Nat} {κ ν P : Nat → Nat} {M : AmM} {lf : Nat × Nat}
def fRb : Nat → Nat → Nat → Nat → Bool := fun v c s j => fRti c s j || ((c == 141 || c == 142) && j == v)
theorem fRti_fRb : ∀ c s j, fRti c s j = true → fRb v c s j = true := fun c s j h => by unfold fRb; rw [h]; rfl
theorem fRb_fRP : ∀ c s j, fRb v c s j = true → fRP v c s j = true := fun c s j h => by
  unfold fRb at h
  rw [Bool.or_eq_true] at h
  rcases h with h | h
  · exact fRti_fRP c s j h
  · refine sSd_fRP ?_
    simp only [Bool.or_eq_true, Bool.and_eq_true, beq_iff_eq] at h
    unfold sSd; simp only [Bool.or_eq_true, Bool.and_eq_true, beq_iff_eq]; omega
theorem r_br2F (hd : 3 ≤ d) {c q : Nat} (h : rFt P c q M) : (amCV (amD amGst d 162 [vR 12 12 0, vI 4] M) fun M9 => some (vU, M9)) = some (vU, M) := by rw [r_mustF hd h, amCV_s]
theorem r_br1F (hd : 3 ≤ d) (hv : v ≤ 1) {c q : Nat} (h : rFt P c q M) (h19 : M 12 0 19 = (v : Int)) : (amCI (amD amGst d 167 [vR 12 12 0, vI 0, vI 99] M) fun v8 M8 => if (0 : Int) ≤ M 12 0 19 ∧ M 12 0 19 < 2 then (amCV (amD amGst d 162 [vR 12 12 0, vI 4] (amUp M8 142 0 (M 12 0 19).toNat v8)) fun M9 => some (vU, M9)) else none) = some (vU, amUp M 142 0 v 0) := by
  rw [r_boundedF hd h, amCI_s, h19, if_pos (by omega), tn_cast]
  exact r_br2F hd (h.mv (up_c (by decide)) (up_c (by decide)) (up_c (by decide)))
theorem r_st2 (hd : 3 ≤ d) (hv : v ≤ 1) (hκ : ∀ q, κ q < 62) (hPm : ∀ i j, i < j → P i < P j) {x : Dr} (hT : rTk κ ν P M) (hk : κ t = 2) (hS : rS v κ P t x M) : rO v κ P (st2 κ ν t x) (amCV (amD amGst d 161 [vR 12 12 0] M) fun M6 => amCI (amD amGst d 167 [vR 12 12 0, vI 0, vI 999] M6) fun v7 M7 => if (0 : Int) ≤ M6 12 0 19 ∧ M6 12 0 19 < 2 then (amCI (amD amGst d 167 [vR 12 12 0, vI 0, vI 99] (amUp M7 141 0 (M6 12 0 19).toNat v7)) fun v8 M8 => if (0 : Int) ≤ (amUp M7 141 0 (M6 12 0 19).toNat v7) 12 0 19 ∧ (amUp M7 141 0 (M6 12 0 19).toNat v7) 12 0 19 < 2 then (amCV (amD amGst d 162 [vR 12 12 0, vI 4] (amUp M8 142 0 ((amUp M7 141 0 (M6 12 0 19).toNat v7) 12 0 19).toNat v8)) fun M9 => some (vU, M9)) else none) else none) M := by
  obtain ⟨cd, br, h1, h2, h3, h4, h5, h6, h7⟩ := hS
  obtain ⟨M1, a1, a2, a3⟩ := r_goesOn (D := d) (by omega) hT h1 (by omega)
  have hT1 := hT.ti (a2.mono fRta_fRti)
  have l1 := h4.ta a2
  have q1 : M1 12 0 19 = (v : Int) := (a2 12 0 19 (by rfl)).trans h2.1
  have up12 : ∀ (M : AmM) (c y : Nat) (z : Int) (j : Nat), c = 141 ∨ c = 142 → amUp M c 0 y z 12 0 j = M 12 0 j := fun M c y z j q => up_c (by omega)
  unfold st2
  unfold goX at a3
  rw [a1, amCV_s, q1]
  by_cases h40 : t < 400
  · rw [if_pos h40] at a3 ⊢
    have hb := r_bounded (D := d) (least := 0) (most := 999) hd hκ hPm hT1 a3 l1 (fun q => by have := h5 q; omega)
    revert hb
    cases hx : intS κ ν 0 999 (t + 1) x.2.2.2 with
    | inl y =>
      obtain ⟨c, q⟩ := y
      intro hb
      obtain ⟨M2, y, b1, b2, b3⟩ := hb
      rw [show ((0 : Nat) : Int) = 0 from rfl, show ((999 : Nat) : Int) = 999 from rfl] at b1
      have q2 : amUp M2 141 0 v y 12 0 19 = (v : Int) := (up12 _ _ _ _ _ (Or.inl rfl)).trans ((b2 12 0 19 (by rfl)).trans q1)
      have hf : rFt P c q (amUp M2 141 0 v y) := b3.mv (up12 _ _ _ _ _ (Or.inl rfl)) (up12 _ _ _ _ _ (Or.inl rfl)) (up12 _ _ _ _ _ (Or.inl rfl))
      rw [b1, amCI_s, if_pos (show (0 : Int) ≤ (v : Int) ∧ (v : Int) < 2 by omega), tn_cast, r_br1F hd hv hf q2]
      exact ⟨_, rfl, ((((a2.mono fRta_fRti).trans b2).mono fRti_fRb).up (by unfold fRb; simp)|>.up (by unfold fRb; simp)).mono fRb_fRP, hf.mv (up12 _ _ _ _ _ (Or.inr rfl)) (up12 _ _ _ _ _ (Or.inr rfl)) (up12 _ _ _ _ _ (Or.inr rfl))⟩
    | inr y =>
      obtain ⟨t2, lf1⟩ := y
      intro hb
      have ho := intS_ok hx
      have ho2 : t2 = t + 1 + 1 := congrArg Prod.fst ho.2.2
      have ho3 : lf1 = lfS x.2.2.2 5 (t + 1) (decide (ν (t + 1) < 0 ∨ 999 < ν (t + 1))) := congrArg Prod.snd ho.2.2
      obtain ⟨M2, b1, b2, b3, b4⟩ := hb
      rw [show ((0 : Nat) : Int) = 0 from rfl, show ((999 : Nat) : Int) = 999 from rfl] at b1
      have hl1 : lf1.1 ≠ 0 → lf1.2 < t2 := by rw [ho2, ho3]; exact lfS_lt (fun q => by have := h5 q; omega)
      have s2 : amSame (fRb v) M (amUp M2 141 0 v ((ν (t + 1) : Nat) : Int)) := (((a2.mono fRta_fRti).trans b2).mono fRti_fRb).up (by unfold fRb; simp)
      have q2 : amUp M2 141 0 v ((ν (t + 1) : Nat) : Int) 12 0 19 = (v : Int) := (up12 _ _ _ _ _ (Or.inl rfl)).trans ((b2 12 0 19 (by rfl)).trans q1)
      have hT2 : rTk κ ν P (amUp M2 141 0 v ((ν (t + 1) : Nat) : Int)) := (hT1.ti b2).mv fun c j q => up_c (by omega)
      have p2 : rPs κ t2 (amUp M2 141 0 v ((ν (t + 1) : Nat) : Int)) := b3.mv (up12 _ _ _ _ _ (Or.inl rfl)) (up12 _ _ _ _ _ (Or.inl rfl))
      have l2 : rLf P lf1 (amUp M2 141 0 v ((ν (t + 1) : Nat) : Int)) := ⟨(up12 _ _ _ _ _ (Or.inl rfl)).trans b4.1, fun q => (up12 _ _ _ _ _ (Or.inl rfl)).trans (b4.2 q)⟩
      rw [b1, amCI_s, if_pos (show (0 : Int) ≤ (v : Int) ∧ (v : Int) < 2 by omega), tn_cast, q2]
      have hb2 := r_bounded (D := d) (least := 0) (most := 99) hd hκ hPm hT2 p2 l2 hl1
      show rO v κ P (match intS κ ν 0 99 t2 lf1 with
        | .inl y => .inl y
        | .inr (t3, lf2) => semS κ t3 (txB x.1 ((ν (t + 1) : Nat) : Int) ((ν t2 : Nat) : Int), x.2.1, x.2.2.1, lf2)) _ M
      revert hb2
      cases hx2 : intS κ ν 0 99 t2 lf1 with
      | inl y =>
        obtain ⟨c, q⟩ := y
        intro hb2
        obtain ⟨M3, y, d1, d2, d3⟩ := hb2
        rw [show ((0 : Nat) : Int) = 0 from rfl, show ((99 : Nat) : Int) = 99 from rfl] at d1
        have hf : rFt P c q (amUp M3 142 0 v y) := d3.mv (up12 _ _ _ _ _ (Or.inr rfl)) (up12 _ _ _ _ _ (Or.inr rfl)) (up12 _ _ _ _ _ (Or.inr rfl))
        rw [d1, amCI_s, if_pos (show (0 : Int) ≤ (v : Int) ∧ (v : Int) < 2 by omega), tn_cast, r_br2F hd hf]
        exact ⟨_, rfl, ((s2.trans (d2.mono fRti_fRb)).up (by unfold fRb; simp)).mono fRb_fRP, hf⟩
      | inr y =>
        obtain ⟨t3, lf2⟩ := y
        intro hb2
        have ho4 := intS_ok hx2
        have ho5 : t3 = t2 + 1 := congrArg Prod.fst ho4.2.2
        have ho6 : lf2 = lfS lf1 5 t2 (decide (ν t2 < 0 ∨ 99 < ν t2)) := congrArg Prod.snd ho4.2.2
        obtain ⟨M3, d1, d2, d3, d4⟩ := hb2
        rw [show ((0 : Nat) : Int) = 0 from rfl, show ((99 : Nat) : Int) = 99 from rfl] at d1
        have hl2 : lf2.1 ≠ 0 → lf2.2 < t3 := by rw [ho5, ho6]; exact lfS_lt hl1
        have s3 : amSame (fRb v) M (amUp M3 142 0 v ((ν t2 : Nat) : Int)) := (s2.trans (d2.mono fRti_fRb)).up (by unfold fRb; simp)
        have hT3 : rTk κ ν P (amUp M3 142 0 v ((ν t2 : Nat) : Int)) := (hT2.ti d2).mv fun c j q => up_c (by omega)
        have p3 : rPs κ t3 (amUp M3 142 0 v ((ν t2 : Nat) : Int)) := d3.mv (up12 _ _ _ _ _ (Or.inr rfl)) (up12 _ _ _ _ _ (Or.inr rfl))
        have l3 : rLf P lf2 (amUp M3 142 0 v ((ν t2 : Nat) : Int)) := ⟨(up12 _ _ _ _ _ (Or.inr rfl)).trans d4.1, fun q => (up12 _ _ _ _ _ (Or.inr rfl)).trans (d4.2 q)⟩
        have ne : ∀ c j, c ≠ 12 → c ≠ 141 → c ≠ 142 → amUp M3 142 0 v ((ν t2 : Nat) : Int) c 0 j = M c 0 j := fun c j x y z => s3 c 0 j (by
          unfold fRb fRti fRta fRlt
          rw [beq_false_of_ne x, beq_false_of_ne y, beq_false_of_ne z]; rfl)
        have n12 : ∀ j, fRti 12 0 j = false → amUp M3 142 0 v ((ν t2 : Nat) : Int) 12 0 j = M 12 0 j := fun j hj => s3 12 0 j (by unfold fRb; rw [hj]; rfl)
        have e141 : amUp M3 142 0 v ((ν t2 : Nat) : Int) 141 0 v = ((ν (t + 1) : Nat) : Int) := (up_c (by decide)).trans ((d2 141 0 v (by rfl)).trans up_on)
        have hS3 : rS v κ P t3 (txB x.1 ((ν (t + 1) : Nat) : Int) ((ν t2 : Nat) : Int), x.2.1, x.2.2.1, lf2) (amUp M3 142 0 v ((ν t2 : Nat) : Int)) := by
          obtain ⟨g0, ⟨g1, g2, g3, g4, g5, g6⟩, g7, g8, g9, g10⟩ := h3
          refine ⟨cd, br, p3, ⟨(n12 19 (by rfl)).trans h2.1, (n12 12 (by rfl)).trans h2.2.1, (n12 40 (by rfl)).trans h2.2.2.1, (n12 34 (by rfl)).trans h2.2.2.2.1, (n12 20 (by rfl)).trans h2.2.2.2.2⟩, ⟨g0, ⟨(ne _ _ (by decide) (by decide) (by decide)).trans g1, (ne _ _ (by decide) (by decide) (by decide)).trans g2, e141, up_on, (ne _ _ (by decide) (by decide) (by decide)).trans g5, (ne _ _ (by decide) (by decide) (by decide)).trans g6⟩, fun j a b => (ne _ _ (by decide) (by decide) (by decide)).trans (g7 j a b), fun j a => (ne _ _ (by decide) (by decide) (by decide)).trans (g8 j a), fun p a => ⟨(ne _ _ (by decide) (by decide) (by decide)).trans (g9 p a).1, (ne _ _ (by decide) (by decide) (by decide)).trans (g9 p a).2.1, (ne _ _ (by decide) (by decide) (by decide)).trans (g9 p a).2.2⟩, fun w a => ?_⟩, l3, hl2, by omega, h7⟩
          have hw := g10 w a
          have e7 := ne 147 (4 * v + w) (by decide) (by decide) (by decide)
          have e8 := ne 148 (4 * v + w) (by decide) (by decide) (by decide)
          show match tL x.1 w with
            | none => amUp M3 142 0 v ((ν t2 : Nat) : Int) 147 0 (4 * v + w) = amUp M3 142 0 v ((ν t2 : Nat) : Int) 148 0 (4 * v + w)
            | some l => ∃ f : Nat, amUp M3 142 0 v ((ν t2 : Nat) : Int) 147 0 (4 * v + w) = f ∧ amUp M3 142 0 v ((ν t2 : Nat) : Int) 148 0 (4 * v + w) = (f + l.1.length + 1 : Nat) ∧ f + l.1.length + 1 ≤ 100 ∧ rLz v br cd (amUp M3 142 0 v ((ν t2 : Nat) : Int)) f l.1 l.2
          revert hw
          cases tL x.1 w with
          | none => intro hw; exact e7.trans (Eq.trans hw e8.symm)
          | some l =>
            intro hw
            obtain ⟨f, a1, a2, a3, a4⟩ := hw
            exact ⟨f, e7.trans a1, e8.trans a2, a3, a4.mv (Nat.le_refl _) (Nat.le_refl _) fun c j hz => by rw [sZz_iff] at hz; exact ne c j (by omega) (by omega) (by omega)⟩
        rw [d1, amCI_s, if_pos (show (0 : Int) ≤ (v : Int) ∧ (v : Int) < 2 by omega), tn_cast]
        exact (r_sem hd hκ hT3 hS3).tl (s3.mono fRb_fRP)
  · rw [if_neg h40] at a3 ⊢
    have q2 : amUp M1 141 0 v 0 12 0 19 = (v : Int) := (up12 _ _ _ _ _ (Or.inl rfl)).trans q1
    have hf : rFt P 2 t (amUp M1 141 0 v 0) := a3.mv (up12 _ _ _ _ _ (Or.inl rfl)) (up12 _ _ _ _ _ (Or.inl rfl)) (up12 _ _ _ _ _ (Or.inl rfl))
    rw [r_boundedF hd a3, amCI_s, if_pos (show (0 : Int) ≤ (v : Int) ∧ (v : Int) < 2 by omega), tn_cast, r_br1F hd hv hf q2]
    exact ⟨_, rfl, (((a2.mono fRta_fRti).mono fRti_fRb).up (by unfold fRb; simp)|>.up (by unfold fRb; simp)).mono fRb_fRP, hf.mv (up12 _ _ _ _ _ (Or.inr rfl)) (up12 _ _ _ _ _ (Or.inr rfl)) (up12 _ _ _ _ _ (Or.inr rfl))⟩
end RSW
