/-! PURE: the reference's laws, branch by branch -/
def fTm (ub b l : Nat) : Nat → Nat → Nat → Bool := fun c s j => fRx ub l c s j || (c == 12 && j == 34) || ((c == 152 || c == 153) && j == b)
theorem fRx_fTm {ub b l : Nat} : ∀ c s j, fRx ub l c s j = true → fTm ub b l c s j = true := fun c s j h => by unfold fTm; rw [h]; rfl
theorem fRta_fTm {ub b l : Nat} : ∀ c s j, fRta c s j = true → fTm ub b l c s j = true := fun c s j h => fRx_fTm c s j (fRta_fRx c s j h)
theorem fTm_up {ub b l l' : Nat} (hl : l ≤ l') : ∀ c s j, fTm ub b l' c s j = true → fTm ub b l c s j = true := fun c s j h => by
  unfold fTm at h ⊢
  rw [Bool.or_eq_true, Bool.or_eq_true] at h
  rcases h with (h | h) | h
  · rw [fRx_up hl c s j h]; rfl
  · rw [h, Bool.or_true]; rfl
  · rw [h]; exact Bool.or_true _
theorem fTm_b {ub b l c s : Nat} (h : c = 152 ∨ c = 153) : fTm ub b l c s b = true := by
  unfold fTm
  rcases h with rfl | rfl <;> simp
theorem fTm_34 {ub b l s : Nat} : fTm ub b l 12 s 34 = true := by unfold fTm; simp
theorem fTm_fLw {v b l cd : Nat} (hb : b < 50 * v + 50) (hc : cd ≤ l) : ∀ c s j, fTm (420 * v + 420) b l c s j = true → fLw v b cd c s j = true := fun c s j h => by
  unfold fTm at h
  rw [Bool.or_eq_true, Bool.or_eq_true] at h
  rcases h with (h | h) | h
  · exact fRx_fLw c s j (fRx_up hc c s j h)
  · rw [Bool.and_eq_true, beq_iff_eq, beq_iff_eq] at h
    rw [h.1, h.2]; exact fLw_34
  · simp only [Bool.or_eq_true, Bool.and_eq_true, beq_iff_eq] at h
    exact fLw_b (by omega) (by omega) (by omega)
theorem fTm_code {ub b l c j : Nat} (hc : c = 154 ∨ c = 155) (hj : j < l) : fTm ub b l c 0 j = false := by
  cases hf : fTm ub b l c 0 j with
  | false => rfl
  | true =>
    exfalso
    unfold fTm fRx fRta at hf
    simp only [Bool.or_eq_true, Bool.and_eq_true, beq_iff_eq, Nat.ble_eq, Nat.blt_eq] at hf
    omega
theorem rAt_tm {M M' : AmM} {ub b l i : Nat} {e : Ex} (h : rAt M i e) (hs : amSame (fTm ub b l) M M') (hl : i + e.length ≤ l) : rAt M' i e := rAt2_mv e i h fun j a c => ⟨hs 154 0 j (fTm_code (Or.inl rfl) (by omega)), hs 155 0 j (fTm_code (Or.inr rfl) (by omega))⟩
section RSM
variable {d t v b cd cx : Nat} {κ ν P : Nat → Nat} {M : AmM}
theorem r_term (hd : 6 ≤ d) (hv : v ≤ 1) (hκ : ∀ q, κ q < 62) (hν : ∀ t, κ t = 20 → ν t < 10000) (hT : rTk κ ν P M) (h : rPs κ t M) (h12 : M 12 0 12 = 0) (h40 : M 12 0 40 = (cx : Int)) (hcx : cx ≤ 420 * v + t) (h34 : M 12 0 34 = (b : Int)) (hb : b < 100) : match smX κ ν 6 t with
    | .inl (c, q) => ∃ M', amD amGst d 173 [vR 12 12 0] M = some (vU, M') ∧ amSame (fTm (420 * v + 420) b cx) M M' ∧ rFt P c q M' ∧ M' 12 0 34 = ((b + 1 : Nat) : Int)
    | .inr (t1, e) => ∃ M', amD amGst d 173 [vR 12 12 0] M = some (vU, M') ∧ amSame (fTm (420 * v + 420) b cx) M M' ∧ rPs κ t1 M' ∧ M' 12 0 12 = 0 ∧ M' 12 0 40 = ((cx + e.length : Nat) : Int) ∧ M' 12 0 34 = ((b + 1 : Nat) : Int) ∧ M' 152 0 b = (cx : Int) ∧ M' 153 0 b = ((cx + e.length : Nat) : Int) ∧ rAt M' cx e ∧ cx + e.length ≤ 420 * v + t1 := by
  obtain ⟨d, rfl⟩ := dS (show 1 ≤ d by omega)
  have u12 : ∀ (M : AmM) (c y : Nat) (z : Int) (j : Nat), c = 152 ∨ c = 153 → amUp M c 0 y z 12 0 j = M 12 0 j := fun M c y z j q => up_c (by omega)
  have h0 := h.1.1
  have p0 : rPs κ t (amUp M 152 0 b (cx : Int)) := h.mv (u12 _ _ _ _ _ (Or.inl rfl)) (u12 _ _ _ _ _ (Or.inl rfl))
  have he := r_expr (D := d) (ub := 420 * v + 420) (cd := cx) (P := P) (M := amUp M 152 0 b (cx : Int)) (by omega) (by omega) hκ hν (hT.mv fun c j q => up_c (by omega)) p0 ((u12 _ _ _ _ _ (Or.inl rfl)).trans h12) ((u12 _ _ _ _ _ (Or.inl rfl)).trans h40) (by omega)
  have s0 : amSame (fTm (420 * v + 420) b cx) M (amUp M 152 0 b (cx : Int)) := amSame.refl.up (fTm_b (by decide))
  have b34 : amUp M 152 0 b (cx : Int) 12 0 34 = (b : Int) := (u12 _ _ _ _ _ (Or.inl rfl)).trans h34
  rw [n_X12_term, q_X12_term_0, h34, if_pos (show (0 : Int) ≤ (b : Int) ∧ (b : Int) < 100 by omega), tn_cast, h40, p0.2.2, if_pos (show (0 : Int) = 0 from rfl)]
  revert he
  unfold rEo
  cases smX κ ν 6 t with
  | inl y =>
    obtain ⟨c, q⟩ := y
    intro he
    obtain ⟨M1, a1, a2, a3⟩ := he
    have c34 : M1 12 0 34 = (b : Int) := (a2 12 0 34 (by rfl)).trans b34
    have c34' : amUp M1 153 0 b (M1 12 0 40) 12 0 34 = (b : Int) := (u12 _ _ _ _ _ (Or.inr rfl)).trans c34
    rw [a1, amCV_s, q_X12_term_24, c34, if_pos (show (0 : Int) ≤ (b : Int) ∧ (b : Int) < 100 by omega), tn_cast, c34', w32_n (x := (b : Int) + 1) (n := b + 1) (by omega) (by omega), q_X12_term_47]
    exact ⟨_, rfl, ((s0.trans (a2.mono fRx_fTm)).up (fTm_b (by decide))).up fTm_34, (a3.up (Or.inl (by decide))).up (Or.inr (Or.inl rfl)), up_on⟩
  | inr y =>
    obtain ⟨t1, e⟩ := y
    intro he
    obtain ⟨M1, a1, a2, a3, a4, a5, a6, a7⟩ := he
    have c34 : M1 12 0 34 = (b : Int) := (a2 12 0 34 (by rfl)).trans b34
    have c34' : amUp M1 153 0 b ((cx + e.length : Nat) : Int) 12 0 34 = (b : Int) := (u12 _ _ _ _ _ (Or.inr rfl)).trans c34
    rw [a1, amCV_s, q_X12_term_24, c34, if_pos (show (0 : Int) ≤ (b : Int) ∧ (b : Int) < 100 by omega), tn_cast, a5, c34', w32_n (x := (b : Int) + 1) (n := b + 1) (by omega) (by omega), q_X12_term_47]
    have k12 : ∀ j, j ≠ 34 → amUp (amUp M1 153 0 b ((cx + e.length : Nat) : Int)) 12 0 34 ((b + 1 : Nat) : Int) 12 0 j = M1 12 0 j := fun j hj => (up_j hj).trans (up_c (by decide))
    refine ⟨_, rfl, ((s0.trans (a2.mono fRx_fTm)).up (fTm_b (by decide))).up fTm_34, a3.mv (k12 11 (by decide)) (k12 13 (by decide)), (k12 12 (by decide)).trans a4, (k12 40 (by decide)).trans a5, up_on, ?_, ?_, ?_, by omega⟩
    · rw [up_c (by decide), up_c (by decide), a2 152 0 b (by rfl), up_on]
    · rw [up_c (by decide), up_on]
    · exact rAt2_mv e cx a6 fun j x y => ⟨(up_c (by decide)).trans (up_c (by decide)), (up_c (by decide)).trans (up_c (by decide))⟩
/-- what comes of the rest of a branch -/
def bO (v b cd : Nat) (P : Nat → Nat) (d : Nat) (l1 l2 l3 : Int) (G : Nat → Ex × Ex × Ex → AmM → Prop) (r : Pr (Nat × Ex × Ex × Ex)) (o : Option (AmV × AmM)) (M : AmM) : Prop := match r with
  | .inl (c, q) => fO v b cd P c q o M
  | .inr (t7, y) => ∃ M', o = e_X12_tellLaw_17 d l1 l2 l3 M' ∧ G t7 y M'
theorem bO.imp {d : Nat} {l1 l2 l3 : Int} {G G' : Nat → Ex × Ex × Ex → AmM → Prop} {r : Pr (Nat × Ex × Ex × Ex)} {o : Option (AmV × AmM)} {M0 : AmM} (h : bO v b cd P d l1 l2 l3 G r o M) (hs : amSame (fLw v b cd) M0 M) (hG : ∀ t y M', G t y M' → G' t y M') : bO v b cd P d l1 l2 l3 G' r o M0 := by
  revert h
  unfold bO
  cases r with
  | inl y =>
    obtain ⟨c, q⟩ := y
    intro h
    exact h.pre hs
  | inr y =>
    obtain ⟨t7, y⟩ := y
    intro h
    obtain ⟨M', a1, a2⟩ := h
    exact ⟨M', a1, hG t7 y M' a2⟩
def G5 (v b cx : Nat) (κ : Nat → Nat) (M : AmM) (a bb : Ex) : Nat → Ex × Ex × Ex → AmM → Prop := fun t7 y M' => (y.1 = a ∧ y.2.1 = bb) ∧ amSame (fTm (420 * v + 420) b cx) M M' ∧ rPs κ t7 M' ∧ M' 12 0 12 = 0 ∧ M' 12 0 40 = ((cx + y.2.2.length : Nat) : Int) ∧ M' 12 0 34 = ((b + 1 : Nat) : Int) ∧ M' 152 0 b = (cx : Int) ∧ M' 153 0 b = ((cx + y.2.2.length : Nat) : Int) ∧ rAt M' cx y.2.2 ∧ cx + y.2.2.length ≤ 420 * v + t7
theorem r_lT5 (hd : 6 ≤ d) (hv : v ≤ 1) (hκ : ∀ q, κ q < 62) (hν : ∀ t, κ t = 20 → ν t < 10000) {l1 l2 l3 : Int} {a bb : Ex} (hT : rTk κ ν P M) (h : rPs κ t M) (h12 : M 12 0 12 = 0) (h40 : M 12 0 40 = (cx : Int)) (hc0 : cd ≤ cx) (hcx : cx ≤ 420 * v + t) (h34 : M 12 0 34 = (b : Int)) (hb : b + 1 < 50 * v + 50) : bO v b cd P d l1 l2 l3 (G5 v b cx κ M a bb) (match smX κ ν 6 t with
      | .inl x => .inl x
      | .inr (t6, c) => (match tkX κ 7 t6 with
        | .inl x => .inl x
        | .inr t7 => .inr (t7, a, bb, c))) (lT5 d l1 l2 l3 M) M := by
  have he := r_term hd hv hκ hν hT h h12 h40 hcx h34 (by omega)
  have hb1 : b < 50 * v + 50 := by omega
  unfold lT5
  revert he
  cases smX κ ν 6 t with
  | inl y =>
    obtain ⟨c, q⟩ := y
    intro he
    obtain ⟨M1, a1, a2, a3, a4⟩ := he
    rw [a1, amCV_s]
    exact (r_lT6F (br := b) (b := b + 1) (by omega) a3 a4 (by omega) hb (by omega)).pre (a2.mono (fTm_fLw hb1 hc0))
  | inr y =>
    obtain ⟨t6, c⟩ := y
    intro he
    obtain ⟨M1, a1, a2, a3, a4, a5, a6, a7, a8, a9, a10⟩ := he
    have hT1 : rTk κ ν P M1 := hT.mv fun c j q => a2 c 0 j (by
      unfold fTm fRx fRta
      rcases q with rfl | rfl | rfl | rfl <;> rfl)
    obtain ⟨M2, b1, b2, b3⟩ := r_must (D := d) (w := 7) (k := 31) (by omega) hκ hT1 a3 (by decide) (by rfl) (by decide)
    rw [show ((31 : Nat) : Int) = 31 from rfl] at b1
    rw [a1, amCV_s]
    show bO v b cd P d l1 l2 l3 (G5 v b cx κ M a bb) (match tkX κ 7 t6 with
        | .inl x => .inl x
        | .inr t7 => .inr (t7, a, bb, c)) (lT6 d l1 l2 l3 M1) M
    unfold lT6
    rw [b1, amCV_s]
    have s2 : amSame (fTm (420 * v + 420) b cx) M M2 := a2.trans (b2.mono fRta_fTm)
    have e34 : M2 12 0 34 = ((b + 1 : Nat) : Int) := (b2 12 0 34 (by rfl)).trans a6
    revert b3
    cases hx : tkX κ 7 t6 with
    | inl y =>
      obtain ⟨c, q⟩ := y
      intro b3
      exact (r_17F (br := b) (b := b + 1) (by omega) b3 e34 (by omega) hb (by omega)).pre (s2.mono (fTm_fLw hb1 hc0))
    | inr t7 =>
      intro b3
      have ho := tkX_ok hx
      exact ⟨M2, rfl, ⟨rfl, rfl⟩, s2, b3, (b2 12 0 12 (by rfl)).trans a4, (b2 12 0 40 (by rfl)).trans a5, e34, (b2 152 0 b (by rfl)).trans a7, (b2 153 0 b (by rfl)).trans a8, rAt2_mv c cx a9 (fun j x y => ⟨b2 154 0 j (by rfl), b2 155 0 j (by rfl)⟩), by
        show cx + c.length ≤ 420 * v + t7
        omega⟩
end RSM
