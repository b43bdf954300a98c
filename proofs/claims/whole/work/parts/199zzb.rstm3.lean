/-! PURE: the reference's steps and rain, as statements -/
section RSV
variable {D d t v : Nat} {κ ν P : Nat → Nat} {M : AmM} {lf : Nat × Nat}
/-- the position that a statement starts from, one TOKEN on -/
theorem rS.ti {x : Dr} {M' : AmM} {t1 : Nat} (h : rS v κ P t x M) (hs : amSame fRti M M') (hp : rPs κ t1 M') (hl : rLf P x.2.2.2 M') (ht : t ≤ t1) : rS v κ P t1 x M' := by
  obtain ⟨cd, br, h1, h2, h3, h4, h5, h6, h7⟩ := h
  exact ⟨cd, br, hp, h2.ti hs, h3.ti hs, hl, fun q => by have := h5 q; omega, by omega, h7⟩
theorem rS.ta {x : Dr} {M' : AmM} {t1 : Nat} (h : rS v κ P t x M) (hs : amSame fRta M M') (hp : rPs κ t1 M') (ht : t ≤ t1) : rS v κ P t1 x M' := by
  obtain ⟨cd, br, h1, h2, h3, h4, h5, h6, h7⟩ := h
  exact rS.ti ⟨cd, br, h1, h2, h3, h4, h5, h6, h7⟩ (hs.mono fRta_fRti) hp (h4.ta hs) ht
theorem r_tlR (hd : 3 ≤ d) (hv : v ≤ 1) (hκ : ∀ q, κ q < 62) {c2 : Nat} (hc2 : c2 ≠ 12) {n : Int} (hT : rTk κ ν P M) (h : rPs κ t M) (h19 : M 12 0 19 = (v : Int)) : match tkX κ 59 t with
    | .inl (c, q) => ∃ M', tlR c2 d n M = some (vU, M') ∧ amSame (fun c s j => fRta c s j || (c == c2 && j == v)) M M' ∧ rFt P c q M'
    | .inr t1 => ∃ M', tlR c2 d n M = some (vU, amUp M' c2 0 v n) ∧ amSame fRta M M' ∧ rPs κ t1 M' := by
  have hm := r_must (D := d) (w := 59) (k := 4) hd hκ hT h (by decide) (by rfl) (by decide)
  obtain ⟨M2, a1, a2, a3⟩ := hm
  rw [show ((4 : Nat) : Int) = 4 from rfl] at a1
  have e19 := (a2 12 0 19 (by rfl)).trans h19
  have key : tlR c2 d n M = some (vU, amUp M2 c2 0 v n) := by
    unfold tlR
    rw [a1, amCV_s, e19, if_pos (by omega), tn_cast]
  revert a3
  cases tkX κ 59 t with
  | inl y =>
    obtain ⟨c, q⟩ := y
    intro a3
    exact ⟨_, key, (a2.mono fun c s j h => by rw [h]; rfl).up (by simp), a3.mv (up_c (fun q => hc2 q.symm)) (up_c (fun q => hc2 q.symm)) (up_c (fun q => hc2 q.symm))⟩
  | inr t1 =>
    intro a3
    exact ⟨M2, key, a2, a3⟩
theorem r_rowSt (hd : 3 ≤ d) (hv : v ≤ 1) (hκ : ∀ q, κ q < 62) (hPm : ∀ i j, i < j → P i < P j) {E E28 : Int → AmM → Option (AmV × AmM)} {c1 c2 A w f room most : Nat} (hc : c1 = 138 ∨ c1 = 140) (hc2 : c2 = 137 ∨ c2 = 139) (hw : f + room ≤ w)
    (hE : ∀ (n : Int) (M : AmM), E n M = if M 12 0 13 = 0 then (amCI (amD amGst d 158 [vR 12 12 0, vI 2] M) fun v1 M1 => if v1 = 0 then (tlR c2 d n M1) else (if n = (room : Int) then (amCV (amD amGst d 159 [vR 12 12 0, vI 2] M1) fun M3 => E28 n M3) else (E28 n M1))) else (tlR c2 d n M))
    (hF : ∀ (n : Int) (M : AmM), 0 < M 12 0 13 → E28 n M = some (vU, M))
    (hG : ∀ (n : Nat) (M : AmM), n < room → ¬ 0 < M 12 0 13 → M 12 0 19 = (v : Int) → E28 (n : Int) M = amCI (amD amGst d 167 [vR 12 12 0, vI 0, vI (most : Int)] M) fun v1 M1 => E ((n + 1 : Nat) : Int) (amUp M1 c1 0 (A + (f + n)) v1))
    (hFP : ∀ c s j, fRq2 c1 c2 A w v c s j = true → fRP v c s j = true) {x : Dr} (hT : rTk κ ν P M) (hS : rS v κ P t x M) {g : Nat → Rw → Tx} (hgP : ∀ n row, tP (g n row) = tP x.1)
    (hnew : ∀ (n : Nat) (row : Rw) (lf : Nat × Nat) (cd br : Nat) (M' : AmM), n ≤ room → rDm v x cd br M → amSame (fRq2 c1 c2 A w v) M M' → M' c2 0 v = (n : Int) → (∀ j, j < n → M' c1 0 (A + (f + j)) = row (f + j)) → rDm v (g n row, x.2.1, x.2.2.1, lf) cd br M') {row0 : Rw} : rO v κ P (match rwS κ ν f most room t 0 row0 x.2.2.2 with
      | .inl y => .inl y
      | .inr (t1, n, row, lf) => semS κ t1 (g n row, x.2.1, x.2.2.1, lf)) (E 0 M) M := by
  obtain ⟨cd, br, h1, h2, h3, h4, h5, h6, h7⟩ := hS
  have hr := r_rows (most := most) hd hv hκ hPm hc (by omega) hw hE hF hG room t 0 row0 x.2.2.2 M (Nat.zero_add _) hT h1 h4 h5 h2.1 (fun j hj => absurd hj (Nat.not_lt_zero j))
  rw [show ((0 : Nat) : Int) = 0 from rfl] at hr
  revert hr
  cases rwS κ ν f most room t 0 row0 x.2.2.2 with
  | inl y =>
    obtain ⟨c, q⟩ := y
    intro hr
    obtain ⟨M1, a1, a2, a3⟩ := hr
    exact ⟨M1, a1, a2.mono hFP, a3⟩
  | inr y =>
    obtain ⟨t1, n, row, lf1⟩ := y
    intro hr
    obtain ⟨M1, a1, a2, a3, a4, a5, a6, a7, a8⟩ := hr
    have hc12 : c1 ≠ 12 := by omega
    have e12 : ∀ j, M1 12 0 j = M 12 0 j ∨ fRti 12 0 j = true := fun j => by
      by_cases hj : fRti 12 0 j = true
      · exact Or.inr hj
      · refine Or.inl (a2 12 0 j ?_)
        unfold fRr
        rw [beq_false_of_ne (fun q => hc12 q.symm)]
        simpa using hj
    have hT1 : rTk κ ν P M1 := hT.mv fun c j q => a2 c 0 j (by
      unfold fRr fRti fRta fRlt
      rw [beq_false_of_ne (show c ≠ 12 by omega), beq_false_of_ne (show c ≠ c1 by omega)]; rfl)
    have f19 : M1 12 0 19 = (v : Int) := ((e12 19).resolve_right (by decide)).trans h2.1
    have hm := r_tlR (d := d) (c2 := c2) (n := (n : Int)) hd hv hκ (by omega) hT1 a3 f19
    show rO v κ P (semS κ t1 (g n row, x.2.1, x.2.2.1, lf1)) (E 0 M) M
    unfold semS
    rw [a1]
    revert hm
    cases hx : tkX κ 59 t1 with
    | inl y =>
      obtain ⟨c, q⟩ := y
      intro hm
      obtain ⟨M2, b1, b2, b3⟩ := hm
      refine ⟨M2, b1, ((a2.mono fRr_fRq2).trans (b2.mono ?_)).mono hFP, b3⟩
      intro c s j h
      rw [Bool.or_eq_true] at h
      unfold fRq2
      rcases h with h | h
      · rw [fRti_fRr c s j (fRta_fRti c s j h)]; rfl
      · rw [h]; exact Bool.or_true _
    | inr t2 =>
      intro hm
      obtain ⟨M2, b1, b2, b3⟩ := hm
      have hc212 : ∀ (y : Int) (j : Nat), amUp M2 c2 0 v y 12 0 j = M2 12 0 j := fun y j => up_c (by omega)
      have s3 : amSame (fRq2 c1 c2 A w v) M (amUp M2 c2 0 v (n : Int)) := ((a2.mono fRr_fRq2).trans ((b2.mono fRta_fRti).mono fun c s j h => fRr_fRq2 c s j (fRti_fRr c s j h))).up (by unfold fRq2; simp)
      have e12b : ∀ j, fRti 12 0 j = false → amUp M2 c2 0 v (n : Int) 12 0 j = M 12 0 j := fun j hj => (hc212 _ j).trans ((b2 12 0 j (by
        revert hj; unfold fRti; intro hj; exact (Bool.or_eq_false_iff.1 hj).1)).trans ((e12 j).resolve_right (by rw [hj]; decide)))
      have ht2 : t1 ≤ t2 := by
        have := tkX_ok hx
        omega
      refine ⟨_, b1, s3.mono hFP, cd, br, b3.mv (hc212 _ 11) (hc212 _ 13), ?_, ?_, ⟨(hc212 _ 15).trans ((b2 12 0 15 (by rfl)).trans a4.1), fun q => (hc212 _ 16).trans ((b2 12 0 16 (by rfl)).trans (a4.2 q))⟩, fun q => by have := a5 q; show lf1.2 < t2; omega, by omega, h7⟩
      · show rDf v (tP (g n row)) cd br _
        rw [hgP]
        exact ⟨(e12b 19 (by rfl)).trans h2.1, (e12b 12 (by rfl)).trans h2.2.1, (e12b 40 (by rfl)).trans h2.2.2.1, (e12b 34 (by rfl)).trans h2.2.2.2.1, (e12b 20 (by rfl)).trans h2.2.2.2.2⟩
      · refine hnew n row lf1 cd br _ a7 h3 s3 up_on fun j hj => ?_
        rw [up_c (show c1 ≠ c2 by omega), b2 c1 0 _ (by
          unfold fRta
          rw [beq_false_of_ne hc12]; rfl)]
        exact a6 j hj
theorem rO.tl {r : Pr (Nat × Dr)} {o : Option (AmV × AmM)} {M1 : AmM} (h : rO v κ P r o M1) (hs : amSame (fRP v) M M1) : rO v κ P r (amCV o fun M3 => some (vU, M3)) M := by
  revert h
  unfold rO
  cases r with
  | inl y =>
    obtain ⟨c, q⟩ := y
    intro h
    obtain ⟨M2, b1, b2, b3⟩ := h
    exact ⟨M2, by rw [b1, amCV_s], hs.trans b2, b3⟩
  | inr y =>
    obtain ⟨t1, x1⟩ := y
    intro h
    obtain ⟨M2, b1, b2, b3⟩ := h
    exact ⟨M2, by rw [b1, amCV_s], hs.trans b2, b3⟩
theorem rO.pre {r : Pr (Nat × Dr)} {o : Option (AmV × AmM)} {M1 : AmM} (h : rO v κ P r o M1) (hs : amSame (fRP v) M M1) : rO v κ P r o M := by
  revert h
  unfold rO
  cases r with
  | inl y =>
    obtain ⟨c, q⟩ := y
    intro h
    obtain ⟨M2, b1, b2, b3⟩ := h
    exact ⟨M2, b1, hs.trans b2, b3⟩
  | inr y =>
    obtain ⟨t1, x1⟩ := y
    intro h
    obtain ⟨M2, b1, b2, b3⟩ := h
    exact ⟨M2, b1, hs.trans b2, b3⟩
theorem r_sem (hd : 3 ≤ d) (hκ : ∀ q, κ q < 62) {x : Dr} (hT : rTk κ ν P M) (hS : rS v κ P t x M) : rO v κ P (semS κ t x) (amD amGst d 162 [vR 12 12 0, vI 4] M) M := by
  have h := hS.choose_spec.choose_spec
  obtain ⟨M2, a1, a2, a3⟩ := r_must (D := d) (w := 59) (k := 4) hd hκ hT h.1 (by decide) (by rfl) (by decide)
  rw [show ((4 : Nat) : Int) = 4 from rfl] at a1
  unfold semS
  revert a3
  cases hx : tkX κ 59 t with
  | inl y =>
    obtain ⟨c, q⟩ := y
    intro a3
    exact ⟨M2, a1, a2.mono fRta_fRP, a3⟩
  | inr t1 =>
    intro a3
    have := tkX_ok hx
    exact ⟨M2, a1, a2.mono fRta_fRP, hS.ta a2 a3 (by omega)⟩
/-- behind a FAULT, a row -/
theorem r_rowF (hd : 3 ≤ d) (hv : v ≤ 1) {E : Int → AmM → Option (AmV × AmM)} {c2 : Nat} (hc2 : c2 ≠ 12) {room : Nat} {E28 : Int → AmM → Option (AmV × AmM)}
    (hE : ∀ (n : Int) (M : AmM), E n M = if M 12 0 13 = 0 then (amCI (amD amGst d 158 [vR 12 12 0, vI 2] M) fun v1 M1 => if v1 = 0 then (tlR c2 d n M1) else (if n = (room : Int) then (amCV (amD amGst d 159 [vR 12 12 0, vI 2] M1) fun M3 => E28 n M3) else (E28 n M1))) else (tlR c2 d n M)) {c q : Nat} (h : rFt P c q M) (h19 : M 12 0 19 = (v : Int)) {n : Int} : E n M = some (vU, amUp M c2 0 v n) ∧ rFt P c q (amUp M c2 0 v n) := by
  have b1 := h.1
  have b2 := h.2.1
  rw [hE, if_neg (by omega)]
  unfold tlR
  rw [r_mustF (by omega) h, amCV_s, h19, if_pos (by omega), tn_cast]
  exact ⟨rfl, h.mv (up_c (fun q => hc2 q.symm)) (up_c (fun q => hc2 q.symm)) (up_c (fun q => hc2 q.symm))⟩
theorem hE0 (n : Int) (M : AmM) : e_X12_tellSteps_2 d n M = if M 12 0 13 = 0 then (amCI (amD amGst d 158 [vR 12 12 0, vI 2] M) fun v1 M1 => if v1 = 0 then (tlR 137 d n M1) else (if n = ((24 : Nat) : Int) then (amCV (amD amGst d 159 [vR 12 12 0, vI 2] M1) fun M3 => e_X12_tellSteps_28 d n M3) else (e_X12_tellSteps_28 d n M1))) else (tlR 137 d n M) := q_X12_tellSteps_2 d n M
theorem hE1 (n : Int) (M : AmM) : e_X12_tellRain_2 d n M = if M 12 0 13 = 0 then (amCI (amD amGst d 158 [vR 12 12 0, vI 2] M) fun v1 M1 => if v1 = 0 then (tlR 139 d n M1) else (if n = ((14 : Nat) : Int) then (amCV (amD amGst d 159 [vR 12 12 0, vI 2] M1) fun M3 => e_X12_tellRain_28 d n M3) else (e_X12_tellRain_28 d n M1))) else (tlR 139 d n M) := q_X12_tellRain_2 d n M
theorem hF0 (n : Int) (M : AmM) (h : 0 < M 12 0 13) : e_X12_tellSteps_28 d n M = some (vU, M) := by rw [q_X12_tellSteps_28, if_pos h]
theorem hF1 (n : Int) (M : AmM) (h : 0 < M 12 0 13) : e_X12_tellRain_28 d n M = some (vU, M) := by rw [q_X12_tellRain_28, if_pos h]
theorem hG0 (hv : v ≤ 1) (n : Nat) (M : AmM) (hn : n < 24) (h : ¬ 0 < M 12 0 13) (h19 : M 12 0 19 = (v : Int)) : e_X12_tellSteps_28 d (n : Int) M = amCI (amD amGst d 167 [vR 12 12 0, vI 0, vI ((99 : Nat) : Int)] M) fun v1 M1 => e_X12_tellSteps_2 d ((n + 1 : Nat) : Int) (amUp M1 138 0 (25 * v + (1 + n)) v1) := by
  have e1 : w32 ((n : Int) + 1) = ((n + 1 : Nat) : Int) := w32_n (by omega) (by omega)
  have e2 : w32 (25 * (v : Int)) = ((25 * v : Nat) : Int) := w32_n (by omega) (by omega)
  have e3 : w32 (((25 * v : Nat) : Int) + ((n + 1 : Nat) : Int)) = ((25 * v + (1 + n) : Nat) : Int) := w32_n (by omega) (by omega)
  rw [q_X12_tellSteps_28, if_neg h, h19, e1, e2, e3]
  refine congrArg (amCI _) (funext fun v1 => funext fun M1 => ?_)
  rw [if_pos (by omega), tn_cast]
theorem hG1 (hv : v ≤ 1) (n : Nat) (M : AmM) (hn : n < 14) (h : ¬ 0 < M 12 0 13) (h19 : M 12 0 19 = (v : Int)) : e_X12_tellRain_28 d (n : Int) M = amCI (amD amGst d 167 [vR 12 12 0, vI 0, vI ((9 : Nat) : Int)] M) fun v1 M1 => e_X12_tellRain_2 d ((n + 1 : Nat) : Int) (amUp M1 140 0 (14 * v + (0 + n)) v1) := by
  have e1 : w32 ((n : Int) + 1) = ((n + 1 : Nat) : Int) := w32_n (by omega) (by omega)
  have e2 : w32 (14 * (v : Int)) = ((14 * v : Nat) : Int) := w32_n (by omega) (by omega)
  have e3 : w32 (((14 * v : Nat) : Int) + (n : Int)) = ((14 * v + (0 + n) : Nat) : Int) := w32_n (by omega) (by omega)
  rw [q_X12_tellRain_28, if_neg h, h19, e1, e2, e3]
  refine congrArg (amCI _) (funext fun v1 => funext fun M1 => ?_)
  rw [if_pos (by omega), tn_cast]
theorem fRq_a : ∀ c s j, fRq2 138 137 (25 * v) 25 v c s j = true → fRP v c s j = true := fun c s j h => by
  unfold fRq2 fRr at h
  simp only [Bool.or_eq_true, Bool.and_eq_true, beq_iff_eq, inR_iff] at h
  rcases h with (h | h) | h
  · exact fRti_fRP c s j h
  · refine sSd_fRP ?_
    unfold sSd; simp only [Bool.or_eq_true, Bool.and_eq_true, beq_iff_eq, inR_iff]; omega
  · refine sSd_fRP ?_
    unfold sSd; simp only [Bool.or_eq_true, Bool.and_eq_true, beq_iff_eq, inR_iff]; omega
theorem fRq_b : ∀ c s j, fRq2 140 139 (14 * v) 14 v c s j = true → fRP v c s j = true := fun c s j h => by
  unfold fRq2 fRr at h
  simp only [Bool.or_eq_true, Bool.and_eq_true, beq_iff_eq, inR_iff] at h
  rcases h with (h | h) | h
  · exact fRti_fRP c s j h
  · refine sSd_fRP ?_
    unfold sSd; simp only [Bool.or_eq_true, Bool.and_eq_true, beq_iff_eq, inR_iff]; omega
  · refine sSd_fRP ?_
    unfold sSd; simp only [Bool.or_eq_true, Bool.and_eq_true, beq_iff_eq, inR_iff]; omega
theorem fRq2_no {c1 c2 A w c s j : Nat} (h12 : c ≠ 12) (h1 : c ≠ c1) (h2 : c ≠ c2) : fRq2 c1 c2 A w v c s j = false := by
  unfold fRq2 fRr fRti fRta fRlt
  rw [beq_false_of_ne h12, beq_false_of_ne h1, beq_false_of_ne h2]; rfl
theorem r_st0 (hd : 4 ≤ d) (hv : v ≤ 1) (hκ : ∀ q, κ q < 62) (hPm : ∀ i j, i < j → P i < P j) {x : Dr} (hT : rTk κ ν P M) (hk : κ t = 0) (hS : rS v κ P t x M) : rO v κ P (st0 κ ν t x) (amCV (amD amGst d 161 [vR 12 12 0] M) fun M2 => amCV (amD amGst d 168 [vR 12 12 0] M2) fun M3 => some (vU, M3)) M := by
  obtain ⟨d', rfl⟩ := dS (show 1 ≤ d by omega)
  have h := hS.choose_spec.choose_spec
  obtain ⟨M1, a1, a2, a3⟩ := r_goesOn (D := d' + 1) (by omega) hT h.1 (by omega)
  unfold st0
  unfold goX at a3
  rw [a1, amCV_s, n_X12_tellSteps, q_X12_tellSteps_0]
  by_cases h40 : t < 400
  · rw [if_pos h40] at a3 ⊢
    have hS1 : rS v κ P (t + 1) x M1 := hS.ta a2 a3 (by omega)
    have hr := r_rowSt (d := d') (E := e_X12_tellSteps_2 d') (E28 := e_X12_tellSteps_28 d') (c1 := 138) (c2 := 137) (A := 25 * v) (w := 25) (f := 1) (room := 24) (most := 99) (by omega) hv hκ hPm (Or.inl rfl) (Or.inl rfl) (by decide) hE0 hF0 (hG0 hv) fRq_a (hT.ti (a2.mono fRta_fRti)) hS1 (g := fun n row => txS x.1 n row) (fun _ _ => rfl) (by
      intro n row lf cd br M' hn hD hs hc hrow
      obtain ⟨g0, ⟨g1, g2, g3, g4, g5, g6⟩, g7, g8, g9, g10⟩ := hD
      have ne : ∀ c j, c ≠ 12 → c ≠ 138 → c ≠ 137 → M' c 0 j = M1 c 0 j := fun c j x y z => hs c 0 j (fRq2_no x y z)
      refine ⟨⟨hn, g0.2⟩, ⟨hc, (ne _ _ (by decide) (by decide) (by decide)).trans g2, (ne _ _ (by decide) (by decide) (by decide)).trans g3, (ne _ _ (by decide) (by decide) (by decide)).trans g4, (ne _ _ (by decide) (by decide) (by decide)).trans g5, (ne _ _ (by decide) (by decide) (by decide)).trans g6⟩, fun j a b => ?_, fun j a => (ne _ _ (by decide) (by decide) (by decide)).trans (g8 j a), fun p a => ⟨(ne _ _ (by decide) (by decide) (by decide)).trans (g9 p a).1, (ne _ _ (by decide) (by decide) (by decide)).trans (g9 p a).2.1, (ne _ _ (by decide) (by decide) (by decide)).trans (g9 p a).2.2⟩, fun w a => ?_⟩
      · have b : j ≤ n := b
        have := hrow (j - 1) (by omega)
        rw [show 1 + (j - 1) = j by omega] at this
        exact this
      · have hw := g10 w a
        have e7 := ne 147 (4 * v + w) (by decide) (by decide) (by decide)
        have e8 := ne 148 (4 * v + w) (by decide) (by decide) (by decide)
        show match tL x.1 w with
          | none => M' 147 0 (4 * v + w) = M' 148 0 (4 * v + w)
          | some l => ∃ f : Nat, M' 147 0 (4 * v + w) = f ∧ M' 148 0 (4 * v + w) = (f + l.1.length + 1 : Nat) ∧ f + l.1.length + 1 ≤ 100 ∧ rLz v br cd M' f l.1 l.2
        revert hw
        cases tL x.1 w with
        | none => intro hw; exact e7.trans (Eq.trans hw e8.symm)
        | some l =>
          intro hw
          obtain ⟨f, a1, a2, a3, a4⟩ := hw
          exact ⟨f, e7.trans a1, e8.trans a2, a3, a4.mv (Nat.le_refl _) (Nat.le_refl _) fun c j hz => by rw [sZz_iff] at hz; exact ne c j (by omega) (by omega) (by omega)⟩) (row0 := tTh x.1)
    exact hr.tl (a2.mono fRta_fRP)
  · rw [if_neg h40] at a3 ⊢
    have hf := r_rowF (d := d') (c2 := 137) (room := 24) (E := e_X12_tellSteps_2 d') (E28 := e_X12_tellSteps_28 d') (n := 0) (by omega) hv (by decide) hE0 a3 ((a2 12 0 19 (by rfl)).trans h.2.1.1)
    exact ⟨_, by rw [hf.1, amCV_s], (a2.mono fRta_fRP).up (sSd_fRP (by unfold sSd; simp)), hf.2⟩
theorem r_st1 (hd : 4 ≤ d) (hv : v ≤ 1) (hκ : ∀ q, κ q < 62) (hPm : ∀ i j, i < j → P i < P j) {x : Dr} (hT : rTk κ ν P M) (hk : κ t = 1) (hS : rS v κ P t x M) : rO v κ P (st1 κ ν t x) (amCV (amD amGst d 161 [vR 12 12 0] M) fun M2 => amCV (amD amGst d 169 [vR 12 12 0] M2) fun M3 => some (vU, M3)) M := by
  obtain ⟨d', rfl⟩ := dS (show 1 ≤ d by omega)
  have h := hS.choose_spec.choose_spec
  obtain ⟨M1, a1, a2, a3⟩ := r_goesOn (D := d' + 1) (by omega) hT h.1 (by omega)
  unfold st1
  unfold goX at a3
  rw [a1, amCV_s, n_X12_tellRain, q_X12_tellRain_0]
  by_cases h40 : t < 400
  · rw [if_pos h40] at a3 ⊢
    have hS1 : rS v κ P (t + 1) x M1 := hS.ta a2 a3 (by omega)
    have hr := r_rowSt (d := d') (E := e_X12_tellRain_2 d') (E28 := e_X12_tellRain_28 d') (c1 := 140) (c2 := 139) (A := 14 * v) (w := 14) (f := 0) (room := 14) (most := 9) (by omega) hv hκ hPm (Or.inr rfl) (Or.inr rfl) (by decide) hE1 hF1 (hG1 hv) fRq_b (hT.ti (a2.mono fRta_fRti)) hS1 (g := fun n row => txR x.1 n row) (fun _ _ => rfl) (by
      intro n row lf cd br M' hn hD hs hc hrow
      obtain ⟨g0, ⟨g1, g2, g3, g4, g5, g6⟩, g7, g8, g9, g10⟩ := hD
      have ne : ∀ c j, c ≠ 12 → c ≠ 140 → c ≠ 139 → M' c 0 j = M1 c 0 j := fun c j x y z => hs c 0 j (fRq2_no x y z)
      refine ⟨⟨g0.1, hn, g0.2.2⟩, ⟨(ne _ _ (by decide) (by decide) (by decide)).trans g1, hc, (ne _ _ (by decide) (by decide) (by decide)).trans g3, (ne _ _ (by decide) (by decide) (by decide)).trans g4, (ne _ _ (by decide) (by decide) (by decide)).trans g5, (ne _ _ (by decide) (by decide) (by decide)).trans g6⟩, fun j a b => (ne _ _ (by decide) (by decide) (by decide)).trans (g7 j a b), fun j a => ?_, fun p a => ⟨(ne _ _ (by decide) (by decide) (by decide)).trans (g9 p a).1, (ne _ _ (by decide) (by decide) (by decide)).trans (g9 p a).2.1, (ne _ _ (by decide) (by decide) (by decide)).trans (g9 p a).2.2⟩, fun w a => ?_⟩
      · have := hrow j a
        rw [Nat.zero_add] at this
        exact this
      · have hw := g10 w a
        have e7 := ne 147 (4 * v + w) (by decide) (by decide) (by decide)
        have e8 := ne 148 (4 * v + w) (by decide) (by decide) (by decide)
        show match tL x.1 w with
          | none => M' 147 0 (4 * v + w) = M' 148 0 (4 * v + w)
          | some l => ∃ f : Nat, M' 147 0 (4 * v + w) = f ∧ M' 148 0 (4 * v + w) = (f + l.1.length + 1 : Nat) ∧ f + l.1.length + 1 ≤ 100 ∧ rLz v br cd M' f l.1 l.2
        revert hw
        cases tL x.1 w with
        | none => intro hw; exact e7.trans (Eq.trans hw e8.symm)
        | some l =>
          intro hw
          obtain ⟨f, a1, a2, a3, a4⟩ := hw
          exact ⟨f, e7.trans a1, e8.trans a2, a3, a4.mv (Nat.le_refl _) (Nat.le_refl _) fun c j hz => by rw [sZz_iff] at hz; exact ne c j (by omega) (by omega) (by omega)⟩) (row0 := tRn x.1)
    exact hr.tl (a2.mono fRta_fRP)
  · rw [if_neg h40] at a3 ⊢
    have hf := r_rowF (d := d') (c2 := 139) (room := 14) (E := e_X12_tellRain_2 d') (E28 := e_X12_tellRain_28 d') (n := 0) (by omega) hv (by decide) hE1 a3 ((a2 12 0 19 (by rfl)).trans h.2.1.1)
    exact ⟨_, by rw [hf.1, amCV_s], (a2.mono fRta_fRP).up (sSd_fRP (by unfold sSd; simp)), hf.2⟩
end RSV
