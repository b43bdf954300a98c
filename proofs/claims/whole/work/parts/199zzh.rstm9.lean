/-! PURE: the reference's branches, whole -/
def fT2 (ub b l : Nat) : Nat → Nat → Nat → Bool := fun c s j => fTm ub b l c s j || (c == 151 && j == b)
theorem fTm_fT2 {ub b l : Nat} : ∀ c s j, fTm ub b l c s j = true → fT2 ub b l c s j = true := fun c s j h => by unfold fT2; rw [h]; rfl
theorem fT2_fLw {v b l cd : Nat} (hb : b < 50 * v + 50) (hc : cd ≤ l) : ∀ c s j, fT2 (420 * v + 420) b l c s j = true → fLw v b cd c s j = true := fun c s j h => by
  unfold fT2 at h
  rw [Bool.or_eq_true, Bool.and_eq_true, beq_iff_eq, beq_iff_eq] at h
  rcases h with h | h
  · exact fTm_fLw hb hc c s j h
  · exact fLw_b (by omega) (by omega) (by omega)
theorem fTm_no {ub b l c j : Nat} (h12 : c ≠ 12) (h6 : c ≠ 156) (h2 : c ≠ 152) (h3 : c ≠ 153) (h4 : c ≠ 154) (h5 : c ≠ 155) : fTm ub b l c 0 j = false := by
  unfold fTm fRx fRta
  rw [beq_false_of_ne h12, beq_false_of_ne h6, beq_false_of_ne h2, beq_false_of_ne h3, beq_false_of_ne h4, beq_false_of_ne h5]; rfl
theorem fT2_no {ub b l c j : Nat} (h12 : c ≠ 12) (h6 : c ≠ 156) (h1 : c ≠ 151) (h2 : c ≠ 152) (h3 : c ≠ 153) (h4 : c ≠ 154) (h5 : c ≠ 155) : fT2 ub b l c 0 j = false := by
  unfold fT2
  rw [fTm_no h12 h6 h2 h3 h4 h5, beq_false_of_ne h1]; rfl
theorem fT2_code {ub b l c j : Nat} (hc : c = 154 ∨ c = 155) (hj : j < l) : fT2 ub b l c 0 j = false := by
  unfold fT2
  rw [fTm_code hc hj, beq_false_of_ne (show c ≠ 151 by omega)]; rfl
theorem rTk_tm {κ ν P : Nat → Nat} {ub b l : Nat} {M M' : AmM} (hT : rTk κ ν P M) (hs : amSame (fTm ub b l) M M') : rTk κ ν P M' := hT.mv fun c j q => hs c 0 j (fTm_no (by omega) (by omega) (by omega) (by omega) (by omega) (by omega))
section RSN
variable {d t v b cd cx : Nat} {κ ν P : Nat → Nat} {M : AmM}
def s5S (κ ν : Nat → Nat) (a bb : Ex) (t : Nat) : Pr (Nat × Ex × Ex × Ex) := match smX κ ν 6 t with
  | .inl x => .inl x
  | .inr (t6, c) => (match tkX κ 7 t6 with
    | .inl x => .inl x
    | .inr t7 => .inr (t7, a, bb, c))
def s4S (κ ν : Nat → Nat) (a bb : Ex) (t : Nat) : Pr (Nat × Ex × Ex × Ex) := match tkX κ 6 t with
  | .inl x => .inl x
  | .inr t5 => s5S κ ν a bb t5
def s3S (κ ν : Nat → Nat) (a : Ex) (t : Nat) : Pr (Nat × Ex × Ex × Ex) := match smX κ ν 6 t with
  | .inl x => .inl x
  | .inr (t4, bb) => s4S κ ν a bb t4
def s2S (κ ν : Nat → Nat) (a : Ex) (t : Nat) : Pr (Nat × Ex × Ex × Ex) := match tkX κ 60 t with
  | .inl x => .inl x
  | .inr t3 => s3S κ ν a t3
def s1S (κ ν : Nat → Nat) (t : Nat) : Pr (Nat × Ex × Ex × Ex) := match smX κ ν 6 t with
  | .inl x => .inl x
  | .inr (t2, a) => s2S κ ν a t2
theorem if1_s (t : Nat) : if1 κ ν t = match tkX κ 5 t with
  | .inl x => .inl x
  | .inr t1 => s1S κ ν t1 := rfl
theorem r_lT4 (hd : 6 ≤ d) (hv : v ≤ 1) (hκ : ∀ q, κ q < 62) (hν : ∀ t, κ t = 20 → ν t < 10000) {l1 l2 l3 : Int} {a bb : Ex} (hT : rTk κ ν P M) (h : rPs κ t M) (h12 : M 12 0 12 = 0) (h40 : M 12 0 40 = (cx : Int)) (hc0 : cd ≤ cx) (hcx : cx ≤ 420 * v + t) (h34 : M 12 0 34 = (b : Int)) (hb : b + 1 < 50 * v + 50) : bO v b cd P d l1 l2 l3 (G5 v b cx κ M a bb) (s4S κ ν a bb t) (lT4 d l1 l2 l3 M) M := by
  obtain ⟨M2, b1, b2, b3⟩ := r_must (D := d) (w := 6) (k := 30) (by omega) hκ hT h (by decide) (by rfl) (by decide)
  rw [show ((30 : Nat) : Int) = 30 from rfl] at b1
  unfold lT4 s4S
  rw [b1, amCV_s]
  have e34 : M2 12 0 34 = (b : Int) := (b2 12 0 34 (by rfl)).trans h34
  revert b3
  cases hx : tkX κ 6 t with
  | inl y =>
    obtain ⟨c, q⟩ := y
    intro b3
    exact (r_lT5F (br := b) (b := b) (by omega) b3 e34 (Nat.le_refl _) hb (by omega)).pre (b2.mono fRta_fLw)
  | inr t5 =>
    intro b3
    have ho := tkX_ok hx
    refine (r_lT5 (t := t5) (cx := cx) (a := a) (bb := bb) hd hv hκ hν (hT.ti (b2.mono fRta_fRti)) b3 ((b2 12 0 12 (by rfl)).trans h12) ((b2 12 0 40 (by rfl)).trans h40) hc0 (by omega) e34 hb).imp (b2.mono fRta_fLw) fun t y M' hG => ?_
    exact ⟨hG.1, (b2.mono fRta_fTm).trans hG.2.1, hG.2.2⟩
def G2 (v b cx : Nat) (κ : Nat → Nat) (M : AmM) (a : Ex) : Nat → Ex × Ex × Ex → AmM → Prop := fun t7 y M' => y.1 = a ∧ amSame (fT2 (420 * v + 420) b cx) M M' ∧ rPs κ t7 M' ∧ M' 12 0 12 = 0 ∧ M' 12 0 40 = ((cx + y.2.1.length + y.2.2.length : Nat) : Int) ∧ M' 12 0 34 = ((b + 1 : Nat) : Int) ∧ M' 151 0 b = (cx : Int) ∧ M' 152 0 b = ((cx + y.2.1.length : Nat) : Int) ∧ M' 153 0 b = ((cx + y.2.1.length + y.2.2.length : Nat) : Int) ∧ rAt M' cx y.2.1 ∧ rAt M' (cx + y.2.1.length) y.2.2 ∧ cx + y.2.1.length + y.2.2.length ≤ 420 * v + t7
theorem r_lT2 (hd : 6 ≤ d) (hv : v ≤ 1) (hκ : ∀ q, κ q < 62) (hν : ∀ t, κ t = 20 → ν t < 10000) {l1 l2 l3 : Int} {a : Ex} (hT : rTk κ ν P M) (h : rPs κ t M) (h12 : M 12 0 12 = 0) (h40 : M 12 0 40 = (cx : Int)) (hc0 : cd ≤ cx) (hcx : cx ≤ 420 * v + t) (h34 : M 12 0 34 = (b : Int)) (hb : b + 1 < 50 * v + 50) : bO v b cd P d l1 l2 l3 (G2 v b cx κ M a) (s2S κ ν a t) (lT2 d l1 l2 l3 M) M := by
  obtain ⟨M2, b1, b2, b3⟩ := r_must (D := d) (w := 60) (k := 13) (by omega) hκ hT h (by decide) (by rfl) (by decide)
  rw [show ((13 : Nat) : Int) = 13 from rfl] at b1
  have e34 : M2 12 0 34 = (b : Int) := (b2 12 0 34 (by rfl)).trans h34
  have e40 : M2 12 0 40 = (cx : Int) := (b2 12 0 40 (by rfl)).trans h40
  have u12 : ∀ j, amUp M2 151 0 b (cx : Int) 12 0 j = M2 12 0 j := fun j => up_c (by decide)
  have s2 : amSame (fLw v b cd) M (amUp M2 151 0 b (cx : Int)) := (b2.mono fRta_fLw).up (fLw_b (by decide) (Nat.le_refl b) (by omega))
  have s2' : amSame (fT2 (420 * v + 420) b cx) M (amUp M2 151 0 b (cx : Int)) := ((b2.mono fRta_fTm).mono fTm_fT2).up (by unfold fT2; simp)
  unfold lT2 s2S
  rw [b1, amCV_s, e34, if_pos (show (0 : Int) ≤ (b : Int) ∧ (b : Int) < 100 by omega), tn_cast, e40]
  revert b3
  cases hx : tkX κ 60 t with
  | inl y =>
    obtain ⟨c, q⟩ := y
    intro b3
    have f3 : rFt P c q (amUp M2 151 0 b (cx : Int)) := b3.up (Or.inl (by decide))
    have p1 := f3.1
    have p2 := f3.2.1
    rw [if_neg (show ¬ amUp M2 151 0 b (cx : Int) 12 0 13 = 0 by omega)]
    exact (r_lT4F (br := b) (b := b) (by omega) f3 ((u12 34).trans e34) (Nat.le_refl _) hb (by omega)).pre s2
  | inr t3 =>
    intro b3
    have ho := tkX_ok hx
    have p3 : rPs κ t3 (amUp M2 151 0 b (cx : Int)) := b3.mv (u12 11) (u12 13)
    have hT3 : rTk κ ν P (amUp M2 151 0 b (cx : Int)) := (hT.ti (b2.mono fRta_fRti)).mv fun c j q => up_c (by omega)
    have he := r_expr (D := d) (ub := 420 * v + 420) (cd := cx) (P := P) (M := amUp M2 151 0 b (cx : Int)) (by omega) (by omega) hκ hν hT3 p3 ((u12 12).trans ((b2 12 0 12 (by rfl)).trans h12)) ((u12 40).trans e40) (by omega)
    rw [if_pos p3.2.2]
    show bO v b cd P d l1 l2 l3 (G2 v b cx κ M a) (s3S κ ν a t3) _ M
    unfold s3S
    revert he
    unfold rEo
    cases smX κ ν 6 t3 with
    | inl y =>
      obtain ⟨c, q⟩ := y
      intro he
      obtain ⟨M4, a1, a2, a3⟩ := he
      rw [a1, amCV_s]
      exact (r_lT4F (br := b) (b := b) (by omega) a3 ((a2 12 0 34 (by rfl)).trans ((u12 34).trans e34)) (Nat.le_refl _) hb (by omega)).pre (s2.trans ((a2.mono (fRx_up hc0)).mono fRx_fLw))
    | inr y =>
      obtain ⟨t4, bb⟩ := y
      intro he
      obtain ⟨M4, a1, a2, a3, a4, a5, a6, a7⟩ := he
      rw [a1, amCV_s]
      have s4 : amSame (fT2 (420 * v + 420) b cx) M M4 := s2'.trans ((a2.mono fRx_fTm).mono fTm_fT2)
      refine (r_lT4 (t := t4) (cx := cx + bb.length) (cd := cd) (a := a) (bb := bb) hd hv hκ hν (hT3.x a2) a3 a4 a5 (by omega) (by omega) ((a2 12 0 34 (by rfl)).trans ((u12 34).trans e34)) hb).imp (s4.mono (fT2_fLw (by omega) hc0)) fun t7 y M' hG => ?_
      obtain ⟨⟨g1, g2⟩, g3, g4, g5, g6, g7, g8, g9, g10, g11⟩ := hG
      unfold G2
      rw [g2]
      refine ⟨g1, s4.trans ((g3.mono (fTm_up (by omega))).mono fTm_fT2), g4, g5, g6, g7, ?_, g8, g9, rAt_tm a6 g3 (by omega), g10, g11⟩
      rw [g3 151 0 b (fTm_no (by decide) (by decide) (by decide) (by decide) (by decide) (by decide)), a2 151 0 b (by rfl), up_on]
end RSN
