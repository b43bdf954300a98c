/-! PURE: the reference's pilgrims, as statements -/
section RSX
variable {D d t v : Nat} {κ ν P : Nat → Nat} {M : AmM} {lf : Nat × Nat}
theorem r_room (hd : 3 ≤ d) {n : Nat} (hT : rTk κ ν P M) (h : rPs κ t M) (hk : κ t ≠ 21 ∧ κ t ≠ 22) : ∃ M', amD amGst d 165 [vR 12 12 0, vI (n : Int), vI 8] M = some (vU, M') ∧ amSame fRta M M' ∧ match (if n = 8 then .inl (2, t) else goX t : Pr Nat) with
    | .inl (c, q) => rFt P c q M'
    | .inr t1 => rPs κ t1 M' := by
  obtain ⟨d, rfl⟩ := dS (show 1 ≤ d by omega)
  rw [n_X12_roomFor, q_X12_roomFor_0]
  by_cases h8 : n = 8
  · obtain ⟨M1, a1, a2, a3⟩ := r_fail (D := d) (c := 2) (by omega) hT h (by decide)
    have b1 := a3.1
    have b2 := a3.2.1
    rw [show ((2 : Nat) : Int) = 2 from rfl] at a1
    rw [if_pos (show (n : Int) = 8 by omega), a1, amCV_s, if_neg (by omega), if_pos h8]
    exact ⟨M1, rfl, a2, a3⟩
  · obtain ⟨M1, a1, a2, a3⟩ := r_goesOn (D := d) (by omega) hT h hk
    rw [if_neg (show ¬ (n : Int) = 8 by omega), if_pos h.2.2, a1, amCV_s, if_neg h8]
    exact ⟨M1, rfl, a2, a3⟩
theorem lfS_is {c t : Nat} {b : Bool} (h : lf.1 ≠ 0 → lf.2 < t) : (lfS lf c t b).1 ≠ 0 → (lfS lf c t b).2 < t ∨ ((lfS lf c t b).2 = t ∧ (lfS lf c t b).1 ≤ c) := by
  unfold lfS
  split
  · intro _; exact Or.inr ⟨rfl, Nat.le_refl _⟩
  · intro q; exact Or.inl (h q)
theorem r_names (hd : 1 ≤ d) (hPm : ∀ i j, i < j → P i < P j) {nm : Nat → Nat} {n tk : Nat} (hn : n ≤ 8) {l1 : Int} (hT : rTk κ ν P M) (htk : tk ≤ 400 ∧ goK κ tk) (hk : κ tk = 19) (h13 : M 12 0 13 = 0) (h20 : M 12 0 20 = (n : Int)) (hnm : ∀ j, j < n → M 136 0 j = ((nm j : Nat) : Int)) (hll : lf.1 ≠ 0 → lf.2 < tk) : ∀ (k i : Nat) (M1 : AmM), i + k = n → amSame fRlt M M1 → rLf P (lfS lf 3 tk (anyN nm (ν tk) i)) M1 → ∃ M', e_X12_tellPilgrim_30 d l1 (tk : Int) (i : Int) M1 = e_X12_tellPilgrim_73 d l1 (tk : Int) (n : Int) M' ∧ amSame fRlt M M' ∧ rLf P (lfS lf 3 tk (anyN nm (ν tk) n)) M'
  | 0, i, M1, h, hs, hlf => by
    have h : i = n := h
    subst h
    exact ⟨M1, by rw [q_X12_tellPilgrim_30, hs 12 0 20 (by rfl), h20, if_neg (by omega)], hs, hlf⟩
  | k + 1, i, M1, h, hs, hlf => by
    have hm : M1 136 0 i = ((nm i : Nat) : Int) := (hs 136 0 i (by rfl)).trans (hnm i (by omega))
    have hv : M1 134 0 tk = ((ν tk : Nat) : Int) := (hs 134 0 tk (by rfl)).trans ((hT tk htk.1 htk.2).2.2.2 (by omega))
    have ea : anyN nm (ν tk) (i + 1) = (anyN nm (ν tk) i || nm i == ν tk) := rfl
    have e13 : M1 12 0 13 = 0 := (hs 12 0 13 (by rfl)).trans h13
    have hT1 : rTk κ ν P M1 := hT.ti (hs.mono fRlt_fRti)
    rw [q_X12_tellPilgrim_30, hs 12 0 20 (by rfl), h20, if_pos (show (i : Int) < (n : Int) by omega), if_pos e13, if_pos (show (0 : Int) ≤ (i : Int) ∧ (i : Int) < 8 by omega), if_pos (show (0 : Int) ≤ (tk : Int) ∧ (tk : Int) < 403 by omega), tn_cast, tn_cast, hm, hv, w32_n (x := (i : Int) + 1) (n := i + 1) (by omega) (by omega)]
    by_cases he : nm i = ν tk
    · obtain ⟨M2, a1, a2, a3⟩ := r_wrong2 (D := d) (c := 3) hd hPm hT1 htk e13 (by decide) hlf (lfS_is hll)
      rw [lfS_again] at a3
      rw [if_pos (cmp0.2 (by omega)), show (3 : Int) = ((3 : Nat) : Int) from rfl, a1, amCV_s]
      refine r_names hd hPm hn hT htk hk h13 h20 hnm hll k (i + 1) M2 (by omega) (hs.trans a2) ?_
      rw [ea, he, beq_self_eq_true, Bool.or_true]
      exact a3
    · rw [if_neg (fun q => he (by have := cmp0.1 q; omega))]
      refine r_names hd hPm hn hT htk hk h13 h20 hnm hll k (i + 1) M1 (by omega) hs ?_
      rw [ea, beq_false_of_ne he, Bool.or_false]
      exact hlf
theorem r_30F {c q : Nat} (h : rFt P c q M) {l1 l2 l3 : Int} : e_X12_tellPilgrim_30 d l1 l2 l3 M = e_X12_tellPilgrim_73 d l1 l2 l3 M := by
  have b1 := h.1
  have b2 := h.2.1
  rw [q_X12_tellPilgrim_30]
  by_cases hl : l3 < M 12 0 20
  · rw [if_pos hl, if_neg (by omega)]
  · rw [if_neg hl]
/-- the tails of a pilgrim -/
noncomputable def pT3 (d : Nat) (l1 l2 l3 : Int) (M : AmM) : Option (AmV × AmM) := amCV (amD amGst d 162 [vR 12 12 0, vI 4] M) fun M3 => if 0 < M3 12 0 13 then (some (vU, M3)) else (if (0 : Int) ≤ l2 ∧ l2 < 403 then (if (0 : Int) ≤ M3 12 0 20 ∧ M3 12 0 20 < 8 then (e_X12_tellPilgrim_134 d l1 l2 l3 (amUp (amUp M3 136 0 (M3 12 0 20).toNat (M3 134 0 (l2).toNat)) 12 0 20 (w32 (((amUp M3 136 0 (M3 12 0 20).toNat (M3 134 0 (l2).toNat)) 12 0 20) + 1)))) else none) else none)
noncomputable def pT2 (d : Nat) (l1 l2 l3 : Int) (M : AmM) : Option (AmV × AmM) := amCI (amD amGst d 170 [vR 12 12 0] M) fun v2 M2 => if (0 : Int) ≤ l1 ∧ l1 < 16 then (pT3 d l1 l2 l3 (amUp M2 145 0 (l1).toNat v2)) else none
theorem q_73 {l1 l2 l3 : Int} : e_X12_tellPilgrim_73 d l1 l2 l3 M = amCI (amD amGst d 167 [vR 12 12 0, vI 1, vI 30] M) fun v1 M1 => if (0 : Int) ≤ l1 ∧ l1 < 16 then (pT2 d l1 l2 l3 (amUp M1 144 0 (l1).toNat v1)) else none := q_X12_tellPilgrim_73 d l1 l2 l3 M
theorem r_pT3F (hd : 3 ≤ d) {c q : Nat} (h : rFt P c q M) {l1 l2 l3 : Int} : pT3 d l1 l2 l3 M = some (vU, M) := by
  have b1 := h.1
  have b2 := h.2.1
  unfold pT3
  rw [r_mustF hd h, amCV_s, if_pos (by omega)]
theorem r_pT2F (hd : 3 ≤ d) {c q l : Nat} (h : rFt P c q M) {l2 l3 : Int} (hl : l < 16) : pT2 d (l : Int) l2 l3 M = some (vU, amUp M 145 0 l 0) := by
  unfold pT2
  rw [r_vowF (by omega) h, amCI_s, if_pos (show (0 : Int) ≤ (l : Int) ∧ (l : Int) < 16 by omega), tn_cast]
  exact r_pT3F hd (h.mv (up_c (by decide)) (up_c (by decide)) (up_c (by decide)))
theorem r_73F (hd : 3 ≤ d) {c q l : Nat} (h : rFt P c q M) {l2 l3 : Int} (hl : l < 16) : e_X12_tellPilgrim_73 d (l : Int) l2 l3 M = some (vU, amUp (amUp M 144 0 l 1) 145 0 l 0) := by
  rw [q_73, r_boundedF hd h, amCI_s, if_pos (show (0 : Int) ≤ (l : Int) ∧ (l : Int) < 16 by omega), tn_cast]
  exact r_pT2F hd (h.mv (up_c (by decide)) (up_c (by decide)) (up_c (by decide))) hl
def fRpi : Nat → Nat → Nat → Nat → Bool := fun v c s j => fRti c s j || (c == 12 && j == 20) || c == 136 || (c == 143 && j == v) || ((c == 144 || c == 145) && inR (8 * v) 8 j)
theorem fRti_fRpi : ∀ c s j, fRti c s j = true → fRpi v c s j = true := fun c s j h => by unfold fRpi; rw [h]; rfl
theorem fRpi_fRP : ∀ c s j, fRpi v c s j = true → fRP v c s j = true := fun c s j h => by
  unfold fRpi at h
  rw [Bool.or_eq_true, Bool.or_eq_true, Bool.or_eq_true, Bool.or_eq_true] at h
  rcases h with (((h | h) | h) | h) | h
  · exact fRti_fRP c s j h
  · unfold fRP; simp only [Bool.or_eq_true, Bool.and_eq_true, beq_iff_eq] at h ⊢; omega
  · unfold fRP; simp only [Bool.or_eq_true, Bool.and_eq_true, beq_iff_eq] at h ⊢; omega
  · refine sSd_fRP ?_
    simp only [Bool.and_eq_true, beq_iff_eq] at h
    unfold sSd; simp only [Bool.or_eq_true, Bool.and_eq_true, beq_iff_eq]; omega
  · refine sSd_fRP ?_
    simp only [Bool.or_eq_true, Bool.and_eq_true, beq_iff_eq, inR_iff] at h
    unfold sSd; simp only [Bool.or_eq_true, Bool.and_eq_true, beq_iff_eq, inR_iff]; omega
theorem fRpi_W {c n : Nat} (hc : c = 144 ∨ c = 145) (hn : n < 8) : fRpi v c 0 (8 * v + n) = true := by
  unfold fRpi
  simp only [Bool.or_eq_true, Bool.and_eq_true, beq_iff_eq, inR_iff]; omega
/-- from the weight on -/
theorem r_st3b (hd : 3 ≤ d) (hv : v ≤ 1) (hκ : ∀ q, κ q < 62) (hPm : ∀ i j, i < j → P i < P j) {x : Dr} {M1 : AmM} {tk t1 cd br n : Nat} {lf : Nat × Nat} {l3 : Int} (hn : n = tP x.1) (hn8 : n < 8) (hk : κ tk = 19) (htk : tk ≤ 400 ∧ goK κ tk) (hs0 : amSame fRti M M1) (hT : rTk κ ν P M1) (h : rPs κ t1 M1) (hlf : rLf P lf M1) (hll : lf.1 ≠ 0 → lf.2 < t1) (h2 : rDf v n cd br M) (h3 : rDm v x cd br M) (h6 : 420 * v ≤ cd ∧ cd ≤ 420 * v + t1) (h7 : 50 * v ≤ br ∧ br ≤ 50 * v + 5 * x.2.1) : rO v κ P (match intS κ ν 1 30 t1 lf with
      | .inl y => .inl y
      | .inr (t2, lf2) => (match vwS κ t2 with
        | .inl y => .inl y
        | .inr t3 => semS κ t3 (txP x.1 ((ν t1 : Nat) : Int) ((κ t2 - 8 : Nat) : Int), x.2.1, (fun i => if i = tP x.1 then ν tk else x.2.2.1 i), lf2))) (e_X12_tellPilgrim_73 d ((8 * v + n : Nat) : Int) (tk : Int) l3 M1) M := by
  have hl16 : 8 * v + n < 16 := by omega
  have hb := r_bounded (D := d) (least := 1) (most := 30) hd hκ hPm hT h hlf hll
  have u12 : ∀ (M : AmM) (c y : Nat) (z : Int) (j : Nat), c = 144 ∨ c = 145 → amUp M c 0 y z 12 0 j = M 12 0 j := fun M c y z j q => up_c (by omega)
  rw [q_73]
  revert hb
  cases hx : intS κ ν 1 30 t1 lf with
  | inl y =>
    obtain ⟨c, q⟩ := y
    intro hb
    obtain ⟨M2, y, b1, b2, b3⟩ := hb
    rw [show ((1 : Nat) : Int) = 1 from rfl, show ((30 : Nat) : Int) = 30 from rfl] at b1
    have hf : rFt P c q (amUp M2 144 0 (8 * v + n) y) := b3.mv (u12 _ _ _ _ _ (Or.inl rfl)) (u12 _ _ _ _ _ (Or.inl rfl)) (u12 _ _ _ _ _ (Or.inl rfl))
    rw [b1, amCI_s, if_pos (show (0 : Int) ≤ ((8 * v + n : Nat) : Int) ∧ ((8 * v + n : Nat) : Int) < 16 by omega), tn_cast, r_pT2F hd hf hl16]
    exact ⟨_, rfl, ((((hs0.trans b2).mono fRti_fRpi).up (fRpi_W (Or.inl rfl) hn8)).up (fRpi_W (Or.inr rfl) hn8)).mono fRpi_fRP, hf.mv (u12 _ _ _ _ _ (Or.inr rfl)) (u12 _ _ _ _ _ (Or.inr rfl)) (u12 _ _ _ _ _ (Or.inr rfl))⟩
  | inr y =>
    obtain ⟨t2, lf2⟩ := y
    intro hb
    have ho := intS_ok hx
    have ho2 : t2 = t1 + 1 := congrArg Prod.fst ho.2.2
    have ho3 : lf2 = lfS lf 5 t1 (decide (ν t1 < 1 ∨ 30 < ν t1)) := congrArg Prod.snd ho.2.2
    obtain ⟨M2, b1, b2, b3, b4⟩ := hb
    rw [show ((1 : Nat) : Int) = 1 from rfl, show ((30 : Nat) : Int) = 30 from rfl] at b1
    have hl2 : lf2.1 ≠ 0 → lf2.2 < t2 := by rw [ho2, ho3]; exact lfS_lt hll
    have s2 : amSame (fRpi v) M (amUp M2 144 0 (8 * v + n) ((ν t1 : Nat) : Int)) := ((hs0.trans b2).mono fRti_fRpi).up (fRpi_W (Or.inl rfl) hn8)
    have hT2 : rTk κ ν P (amUp M2 144 0 (8 * v + n) ((ν t1 : Nat) : Int)) := (hT.ti b2).mv fun c j q => up_c (by omega)
    have p2 : rPs κ t2 (amUp M2 144 0 (8 * v + n) ((ν t1 : Nat) : Int)) := b3.mv (u12 _ _ _ _ _ (Or.inl rfl)) (u12 _ _ _ _ _ (Or.inl rfl))
    have l2 : rLf P lf2 (amUp M2 144 0 (8 * v + n) ((ν t1 : Nat) : Int)) := ⟨(u12 _ _ _ _ _ (Or.inl rfl)).trans b4.1, fun q => (u12 _ _ _ _ _ (Or.inl rfl)).trans (b4.2 q)⟩
    rw [b1, amCI_s, if_pos (show (0 : Int) ≤ ((8 * v + n : Nat) : Int) ∧ ((8 * v + n : Nat) : Int) < 16 by omega), tn_cast]
    have hb2 := r_vow (D := d) hd hκ hT2 p2
    show rO v κ P (match vwS κ t2 with
        | .inl y => .inl y
        | .inr t3 => semS κ t3 (txP x.1 ((ν t1 : Nat) : Int) ((κ t2 - 8 : Nat) : Int), x.2.1, (fun i => if i = tP x.1 then ν tk else x.2.2.1 i), lf2)) (pT2 d ((8 * v + n : Nat) : Int) (tk : Int) l3 (amUp M2 144 0 (8 * v + n) ((ν t1 : Nat) : Int))) M
    unfold pT2
    revert hb2
    cases hx2 : vwS κ t2 with
    | inl y =>
      obtain ⟨c, q⟩ := y
      intro hb2
      obtain ⟨M3, y, d1, d2, d3⟩ := hb2
      have hf : rFt P c q (amUp M3 145 0 (8 * v + n) y) := d3.mv (u12 _ _ _ _ _ (Or.inr rfl)) (u12 _ _ _ _ _ (Or.inr rfl)) (u12 _ _ _ _ _ (Or.inr rfl))
      rw [d1, amCI_s, if_pos (show (0 : Int) ≤ ((8 * v + n : Nat) : Int) ∧ ((8 * v + n : Nat) : Int) < 16 by omega), tn_cast, r_pT3F hd hf]
      exact ⟨_, rfl, ((s2.trans ((d2.mono fRta_fRti).mono fRti_fRpi)).up (fRpi_W (Or.inr rfl) hn8)).mono fRpi_fRP, hf⟩
    | inr t3 =>
      intro hb2
      have ho4 := vwS_ok hx2
      obtain ⟨M3, d1, d2, d3⟩ := hb2
      have s3 : amSame (fRpi v) M (amUp M3 145 0 (8 * v + n) ((κ t2 - 8 : Nat) : Int)) := (s2.trans ((d2.mono fRta_fRti).mono fRti_fRpi)).up (fRpi_W (Or.inr rfl) hn8)
      have hT3 : rTk κ ν P (amUp M3 145 0 (8 * v + n) ((κ t2 - 8 : Nat) : Int)) := (hT2.ti (d2.mono fRta_fRti)).mv fun c j q => up_c (by omega)
      have p3 : rPs κ t3 (amUp M3 145 0 (8 * v + n) ((κ t2 - 8 : Nat) : Int)) := d3.mv (u12 _ _ _ _ _ (Or.inr rfl)) (u12 _ _ _ _ _ (Or.inr rfl))
      have l3 : rLf P lf2 (amUp M3 145 0 (8 * v + n) ((κ t2 - 8 : Nat) : Int)) := ⟨(u12 _ _ _ _ _ (Or.inr rfl)).trans (l2.ta d2).1, fun q => (u12 _ _ _ _ _ (Or.inr rfl)).trans ((l2.ta d2).2 q)⟩
      rw [d1, amCI_s, if_pos (show (0 : Int) ≤ ((8 * v + n : Nat) : Int) ∧ ((8 * v + n : Nat) : Int) < 16 by omega), tn_cast]
      have hm := r_must (D := d) (w := 59) (k := 4) hd hκ hT3 p3 (by decide) (by rfl) (by decide)
      obtain ⟨M4, f1, f2, f3⟩ := hm
      rw [show ((4 : Nat) : Int) = 4 from rfl] at f1
      show rO v κ P (semS κ t3 (txP x.1 ((ν t1 : Nat) : Int) ((κ t2 - 8 : Nat) : Int), x.2.1, (fun i => if i = tP x.1 then ν tk else x.2.2.1 i), lf2)) _ M
      unfold semS pT3
      rw [f1, amCV_s]
      have s4 : amSame (fRpi v) M M4 := s3.trans ((f2.mono fRta_fRti).mono fRti_fRpi)
      revert f3
      cases hx3 : tkX κ 59 t3 with
      | inl y =>
        obtain ⟨c, q⟩ := y
        intro f3
        have b1 := f3.1
        have b2 := f3.2.1
        rw [if_pos (by omega)]
        exact ⟨M4, rfl, s4.mono fRpi_fRP, f3⟩
      | inr t4 =>
        intro f3
        have ho5 := tkX_ok hx3
        have n20 : M4 12 0 20 = (n : Int) := (f2 12 0 20 (by rfl)).trans ((u12 _ _ _ _ _ (Or.inr rfl)).trans ((d2 12 0 20 (by rfl)).trans ((u12 _ _ _ _ _ (Or.inl rfl)).trans ((b2 12 0 20 (by rfl)).trans ((hs0 12 0 20 (by rfl)).trans h2.2.2.2.2)))))
        have n19 : M4 12 0 19 = (v : Int) := (s4 12 0 19 (by rfl)).trans h2.1
        have n143 : M4 143 0 v = (n : Int) := by
          have := h3.2.1.2.2.2.2.1
          rw [f2 143 0 v (by rfl), up_c (by decide), d2 143 0 v (by rfl), up_c (by decide), b2 143 0 v (by rfl), hs0 143 0 v (by rfl), this, hn]
        have n134 : M4 134 0 tk = ((ν tk : Nat) : Int) := (f2 134 0 tk (by rfl)).trans ((hT3 tk htk.1 htk.2).2.2.2 (by omega))
        rw [if_neg (by rw [f3.2.2]; decide), if_pos (show (0 : Int) ≤ (tk : Int) ∧ (tk : Int) < 403 by omega), n20, if_pos (show (0 : Int) ≤ (n : Int) ∧ (n : Int) < 8 by omega), tn_cast, tn_cast, n134, up_c (M := M4) (show 12 ≠ 136 by decide), n20, w32_n (x := (n : Int) + 1) (n := n + 1) (by omega) (by omega), q_X12_tellPilgrim_134]
        have m19 : amUp (amUp M4 136 0 n ((ν tk : Nat) : Int)) 12 0 20 ((n + 1 : Nat) : Int) 12 0 19 = (v : Int) := (up_j (by decide)).trans ((up_c (by decide)).trans n19)
        have m143 : amUp (amUp M4 136 0 n ((ν tk : Nat) : Int)) 12 0 20 ((n + 1 : Nat) : Int) 143 0 v = (n : Int) := (up_c (by decide)).trans ((up_c (by decide)).trans n143)
        rw [m19, if_pos (show (0 : Int) ≤ (v : Int) ∧ (v : Int) < 2 by omega), if_pos (show (0 : Int) ≤ (v : Int) ∧ (v : Int) < 2 by omega), tn_cast, m143, w32_n (x := (n : Int) + 1) (n := n + 1) (by omega) (by omega)]
        have s5 : amSame (fRpi v) M (amUp (amUp (amUp M4 136 0 n ((ν tk : Nat) : Int)) 12 0 20 ((n + 1 : Nat) : Int)) 143 0 v ((n + 1 : Nat) : Int)) := ((s4.up (by unfold fRpi; simp)).up (by unfold fRpi; simp)).up (by unfold fRpi; simp)
        refine ⟨_, rfl, s5.mono fRpi_fRP, ?_⟩
        generalize hM5 : amUp (amUp (amUp M4 136 0 n ((ν tk : Nat) : Int)) 12 0 20 ((n + 1 : Nat) : Int)) 143 0 v ((n + 1 : Nat) : Int) = M5 at s5 ⊢
        have e4 : ∀ c j, c ≠ 12 → c ≠ 136 → c ≠ 143 → M5 c 0 j = M4 c 0 j := fun c j x y z => by rw [← hM5, up_c z, up_c x, up_c y]
        have e4f : ∀ j, j ≠ 20 → M5 12 0 j = M4 12 0 j := fun j hj => by rw [← hM5, up_c (by decide), up_j hj, up_c (by decide)]
        have ne : ∀ c j, c ≠ 12 → c ≠ 136 → c ≠ 143 → c ≠ 144 → c ≠ 145 → M5 c 0 j = M c 0 j := fun c j x y z a b => s5 c 0 j (by
          unfold fRpi fRti fRta fRlt
          rw [beq_false_of_ne x, beq_false_of_ne y, beq_false_of_ne z, beq_false_of_ne a, beq_false_of_ne b]; rfl)
        have n12 : ∀ j, fRti 12 0 j = false → j ≠ 20 → M5 12 0 j = M 12 0 j := fun j hj h20 => s5 12 0 j (by unfold fRpi; rw [hj, beq_false_of_ne h20]; rfl)
        have o144 : ∀ p, M5 144 0 (8 * v + p) = if p = n then ((ν t1 : Nat) : Int) else M 144 0 (8 * v + p) := fun p => by
          rw [e4 144 _ (by decide) (by decide) (by decide), f2 144 0 _ (by rfl), up_c (by decide), d2 144 0 _ (by rfl)]
          by_cases hp : p = n
          · rw [if_pos hp, hp, up_on]
          · rw [if_neg hp, up_j (by omega), b2 144 0 _ (by rfl), hs0 144 0 _ (by rfl)]
        have o145 : ∀ p, M5 145 0 (8 * v + p) = if p = n then ((κ t2 - 8 : Nat) : Int) else M 145 0 (8 * v + p) := fun p => by
          rw [e4 145 _ (by decide) (by decide) (by decide), f2 145 0 _ (by rfl)]
          by_cases hp : p = n
          · rw [if_pos hp, hp, up_on]
          · rw [if_neg hp, up_j (by omega), d2 145 0 _ (by rfl), up_c (by decide), b2 145 0 _ (by rfl), hs0 145 0 _ (by rfl)]
        have o136 : ∀ p, M5 136 0 p = if p = n then ((ν tk : Nat) : Int) else M 136 0 p := fun p => by
          rw [← hM5, up_c (by decide), up_c (by decide)]
          by_cases hp : p = n
          · rw [if_pos hp, hp, up_on]
          · rw [if_neg hp, up_j hp, f2 136 0 _ (by rfl), up_c (by decide), d2 136 0 _ (by rfl), up_c (by decide), b2 136 0 _ (by rfl), hs0 136 0 _ (by rfl)]
        obtain ⟨g0, ⟨g1, g2, g3, g4, g5, g6⟩, g7, g8, g9, g10⟩ := h3
        have eP : tP (txP x.1 ((ν t1 : Nat) : Int) ((κ t2 - 8 : Nat) : Int)) = n + 1 := by rw [hn]; rfl
        refine ⟨cd, br, f3.mv (e4f 11 (by decide)) (e4f 13 (by decide)), ⟨(n12 19 (by rfl) (by decide)).trans h2.1, (n12 12 (by rfl) (by decide)).trans h2.2.1, (n12 40 (by rfl) (by decide)).trans h2.2.2.1, (n12 34 (by rfl) (by decide)).trans h2.2.2.2.1, ?_⟩, ⟨⟨g0.1, g0.2.1, ?_, g0.2.2.2⟩, ⟨(ne _ _ (by decide) (by decide) (by decide) (by decide) (by decide)).trans g1, (ne _ _ (by decide) (by decide) (by decide) (by decide) (by decide)).trans g2, (ne _ _ (by decide) (by decide) (by decide) (by decide) (by decide)).trans g3, (ne _ _ (by decide) (by decide) (by decide) (by decide) (by decide)).trans g4, ?_, (ne _ _ (by decide) (by decide) (by decide) (by decide) (by decide)).trans g6⟩, fun j a b => (ne _ _ (by decide) (by decide) (by decide) (by decide) (by decide)).trans (g7 j a b), fun j a => (ne _ _ (by decide) (by decide) (by decide) (by decide) (by decide)).trans (g8 j a), fun p a => ?_, fun w a => ?_⟩, ⟨(e4f 15 (by decide)).trans ((f2 12 0 15 (by rfl)).trans l3.1), fun q => (e4f 16 (by decide)).trans ((f2 12 0 16 (by rfl)).trans (l3.2 q))⟩, fun q => by have := hl2 q; show lf2.2 < t4; omega, by omega, h7⟩
        · rw [eP, ← hM5, up_c (by decide), up_on]
        · rw [eP]; omega
        · rw [eP, ← hM5, up_on]
        · have a : p < n + 1 := by rw [← eP]; exact a
          rw [o144, o145, o136]
          show (if p = n then ((ν t1 : Nat) : Int) else M 144 0 (8 * v + p)) = rUp (tW x.1) (tP x.1) ((ν t1 : Nat) : Int) p ∧ (if p = n then ((κ t2 - 8 : Nat) : Int) else M 145 0 (8 * v + p)) = rUp (tV x.1) (tP x.1) ((κ t2 - 8 : Nat) : Int) p ∧ (if p = n then ((ν tk : Nat) : Int) else M 136 0 p) = (((if p = tP x.1 then ν tk else x.2.2.1 p) : Nat) : Int)
          rw [← hn]
          by_cases hp : p = n
          · rw [if_pos hp, if_pos hp, if_pos hp, if_pos hp, hp, rUp_on, rUp_on]; exact ⟨rfl, rfl, rfl⟩
          · rw [if_neg hp, if_neg hp, if_neg hp, if_neg hp, rUp_ne hp, rUp_ne hp]; exact g9 p (by omega)
        · have hw := g10 w a
          have e7 := ne 147 (4 * v + w) (by decide) (by decide) (by decide) (by decide) (by decide)
          have e8 := ne 148 (4 * v + w) (by decide) (by decide) (by decide) (by decide) (by decide)
          show match tL x.1 w with
            | none => M5 147 0 (4 * v + w) = M5 148 0 (4 * v + w)
            | some l => ∃ f : Nat, M5 147 0 (4 * v + w) = f ∧ M5 148 0 (4 * v + w) = (f + l.1.length + 1 : Nat) ∧ f + l.1.length + 1 ≤ 100 ∧ rLz v br cd M5 f l.1 l.2
          revert hw
          cases tL x.1 w with
          | none => intro hw; exact e7.trans (Eq.trans hw e8.symm)
          | some l =>
            intro hw
            obtain ⟨f, a1, a2, a3, a4⟩ := hw
            exact ⟨f, e7.trans a1, e8.trans a2, a3, a4.mv (Nat.le_refl _) (Nat.le_refl _) fun c j hz => by rw [sZz_iff] at hz; exact ne c j (by omega) (by omega) (by omega) (by omega) (by omega)⟩
end RSX
