/-! PURE: the reference's branches, one after the other -/
def rBrz (v br cd : Nat) (M : AmM) (b : Nat) (y : Ex × Ex × Ex) : Prop := ∀ M' : AmM, (∀ c j, sZz v br cd c j = true → M' c 0 j = M c 0 j) → rBr M' b y
def rBl (M : AmM) : Nat → List (Ex × Ex × Ex) → Prop
  | _, [] => True
  | f, q :: r => rBr M f q ∧ rBl M (f + 1) r
theorem rBl_app {M : AmM} {q : Ex × Ex × Ex} : ∀ (l : List (Ex × Ex × Ex)) (f : Nat), rBl M f l → rBr M (f + l.length) q → rBl M f (l ++ [q])
  | [], f, _, h => ⟨h, trivial⟩
  | x :: r, f, h, h2 => ⟨h.1, rBl_app r (f + 1) h.2 (by rw [show f + 1 + r.length = f + (x :: r).length by simp only [List.length_cons]; omega]; exact h2)⟩
theorem rBl_lw {M : AmM} {e : Ex} : ∀ (l : List (Ex × Ex × Ex)) (f : Nat), rBl M f l → rEn M (f + l.length) e → rLw M f l e
  | [], f, _, h => h
  | x :: r, f, h, h2 => ⟨h.1, rBl_lw r (f + 1) h.2 (by rw [show f + 1 + r.length = f + (x :: r).length by simp only [List.length_cons]; omega]; exact h2)⟩
def rBz (v br cd : Nat) (M : AmM) (f : Nat) (l : List (Ex × Ex × Ex)) : Prop := ∀ M' : AmM, (∀ c j, sZz v br cd c j = true → M' c 0 j = M c 0 j) → rBl M' f l
theorem rBz.mv {v br cd br' cd' f : Nat} {M M' : AmM} {l : List (Ex × Ex × Ex)} (h : rBz v br cd M f l) (hb : br ≤ br') (hc : cd ≤ cd') (hs : ∀ c j, sZz v br cd c j = true → M' c 0 j = M c 0 j) : rBz v br' cd' M' f l := fun M2 h2 => h M2 fun c j hz => (h2 c j (by rw [sZz_iff] at hz ⊢; omega)).trans (hs c j hz)
section RSO
variable {d t v b cd cx : Nat} {κ ν P : Nat → Nat} {M : AmM}
def G0 (v b cd : Nat) (κ : Nat → Nat) (M : AmM) : Nat → Ex × Ex × Ex → AmM → Prop := fun t7 y M' => amSame (fLw v b cd) M M' ∧ rPs κ t7 M' ∧ M' 12 0 12 = 0 ∧ M' 12 0 40 = ((cd + y.1.length + y.2.1.length + y.2.2.length : Nat) : Int) ∧ M' 12 0 34 = ((b + 1 : Nat) : Int) ∧ rBrz v (b + 1) (cd + y.1.length + y.2.1.length + y.2.2.length) M' b y ∧ cd + y.1.length + y.2.1.length + y.2.2.length ≤ 420 * v + t7
theorem r_43 (hd : 6 ≤ d) (hv : v ≤ 1) (hκ : ∀ q, κ q < 62) (hν : ∀ t, κ t = 20 → ν t < 10000) {l1 l2 : Int} {n : Nat} (hn : n < 4) (hT : rTk κ ν P M) (h : rPs κ t M) (hk : κ t = 5) (h12 : M 12 0 12 = 0) (h40 : M 12 0 40 = (cd : Int)) (h0 : 420 * v ≤ cd) (hcd : cd ≤ 420 * v + t) (h34 : M 12 0 34 = (b : Int)) (hb0 : 50 * v ≤ b) (hb : b + 1 < 50 * v + 50) : bO v b cd P d l1 l2 ((n + 1 : Nat) : Int) (G0 v b cd κ M) (if1 κ ν t) (e_X12_tellLaw_43 d l1 l2 (n : Int) M) M := by
  obtain ⟨M1, a1, a2, a3⟩ := r_goesOn (D := d) (by omega) hT h (by omega)
  have e34 : M1 12 0 34 = (b : Int) := (a2 12 0 34 (by rfl)).trans h34
  have e40 : M1 12 0 40 = (cd : Int) := (a2 12 0 40 (by rfl)).trans h40
  have u1 : ∀ j, amUp M1 149 0 b 1 12 0 j = M1 12 0 j := fun j => up_c (by decide)
  have u2 : ∀ j, amUp (amUp M1 149 0 b 1) 150 0 b (cd : Int) 12 0 j = M1 12 0 j := fun j => (up_c (by decide)).trans (u1 j)
  have s2 : amSame (fLw v b cd) M (amUp (amUp M1 149 0 b 1) 150 0 b (cd : Int)) := ((a2.mono fRta_fLw).up (fLw_b (by decide) (Nat.le_refl b) (by omega))).up (fLw_b (by decide) (Nat.le_refl b) (by omega))
  rw [q_X12_tellLaw_43, if_neg (by rw [h.2.2]; decide), a1, amCV_s, e34, if_pos (show (0 : Int) ≤ (b : Int) ∧ (b : Int) < 100 by omega), tn_cast, u1, e34, if_pos (show (0 : Int) ≤ (b : Int) ∧ (b : Int) < 100 by omega), tn_cast, u1, e40, w32_n (x := (n : Int) + 1) (n := n + 1) (by omega) (by omega), if1_s, tkX_go hk]
  revert a3
  unfold goX
  by_cases h4 : t < 400
  · rw [if_pos h4]
    intro a3
    have a3 : rPs κ (t + 1) M1 := a3
    have hT2 : rTk κ ν P (amUp (amUp M1 149 0 b 1) 150 0 b (cd : Int)) := (hT.ti (a2.mono fRta_fRti)).mv fun c j q => (up_c (by omega)).trans (up_c (by omega))
    have p2 : rPs κ (t + 1) (amUp (amUp M1 149 0 b 1) 150 0 b (cd : Int)) := a3.mv (u2 11) (u2 13)
    have he := r_expr (D := d) (ub := 420 * v + 420) (cd := cd) (P := P) (by omega) (by omega) hκ hν hT2 p2 ((u2 12).trans ((a2 12 0 12 (by rfl)).trans h12)) ((u2 40).trans e40) (by omega)
    have n34 : amUp (amUp M1 149 0 b 1) 150 0 b (cd : Int) 12 0 34 = (b : Int) := (u2 34).trans e34
    have n149 : amUp (amUp M1 149 0 b 1) 150 0 b (cd : Int) 149 0 b = 1 := (up_c (by decide)).trans up_on
    have n150 : amUp (amUp M1 149 0 b 1) 150 0 b (cd : Int) 150 0 b = (cd : Int) := up_on
    rw [q_81]
    show bO v b cd P d l1 l2 ((n + 1 : Nat) : Int) (G0 v b cd κ M) (s1S κ ν (t + 1)) _ M
    generalize amUp (amUp M1 149 0 b 1) 150 0 b (cd : Int) = M2 at *
    unfold s1S
    revert he
    unfold rEo
    cases smX κ ν 6 (t + 1) with
    | inl y =>
      obtain ⟨c, q⟩ := y
      intro he
      obtain ⟨M4, c1, c2, c3⟩ := he
      rw [c1, amCV_s]
      exact (r_lT2F (br := b) (b := b) (by omega) c3 ((c2 12 0 34 (by rfl)).trans n34) (Nat.le_refl _) hb (by omega)).pre (s2.trans (c2.mono fRx_fLw))
    | inr y =>
      obtain ⟨t2, a⟩ := y
      intro he
      obtain ⟨M4, c1, c2, c3, c4, c5, c6, c7⟩ := he
      rw [c1, amCV_s]
      have s4 : amSame (fLw v b cd) M M4 := s2.trans (c2.mono fRx_fLw)
      refine (r_lT2 (t := t2) (cx := cd + a.length) (cd := cd) (a := a) hd hv hκ hν (hT2.x c2) c3 c4 c5 (by omega) (by omega) ((c2 12 0 34 (by rfl)).trans n34) hb).imp s4 fun t7 y M' hG => ?_
      obtain ⟨g1, g2, g3, g4, g5, g6, g7, g8, g9, g10, g11, g12⟩ := hG
      have hb1 : b < 50 * v + 50 := by omega
      have z1 : M' 149 0 b = 1 := (g2 149 0 b (fT2_no (by decide) (by decide) (by decide) (by decide) (by decide) (by decide) (by decide))).trans ((c2 149 0 b (by rfl)).trans n149)
      have z2 : M' 150 0 b = (cd : Int) := (g2 150 0 b (fT2_no (by decide) (by decide) (by decide) (by decide) (by decide) (by decide) (by decide))).trans ((c2 150 0 b (by rfl)).trans n150)
      have z3 : rAt M' cd a := rAt2_mv a cd c6 fun j x z => ⟨g2 154 0 j (fT2_code (Or.inl rfl) (by omega)), g2 155 0 j (fT2_code (Or.inr rfl) (by omega))⟩
      have ht7 := g3.1.1
      obtain ⟨ya, yb, yc⟩ := y
      have g1 : ya = a := g1
      have g5 : M' 12 0 40 = ((cd + a.length + yb.length + yc.length : Nat) : Int) := g5
      have g8 : M' 152 0 b = ((cd + a.length + yb.length : Nat) : Int) := g8
      have g9 : M' 153 0 b = ((cd + a.length + yb.length + yc.length : Nat) : Int) := g9
      have g10 : rAt M' (cd + a.length) yb := g10
      have g11 : rAt M' (cd + a.length + yb.length) yc := g11
      have g12 : cd + a.length + yb.length + yc.length ≤ 420 * v + t7 := g12
      rw [g1]
      refine ⟨s4.trans (g2.mono (fT2_fLw hb1 (by omega))), g3, g4, g5, g6, fun Mz hz => ?_, g12⟩
      have hz : ∀ c j, sZz v (b + 1) (cd + a.length + yb.length + yc.length) c j = true → Mz c 0 j = M' c 0 j := hz
      have zb : ∀ c, 149 ≤ c → c ≤ 153 → Mz c 0 b = M' c 0 b := fun c x z => hz c b (sZz_iff.2 (Or.inl ⟨⟨x, z⟩, hb0, Nat.lt_succ_self b⟩))
      have zc : ∀ c j, c = 154 ∨ c = 155 → cd ≤ j → j < cd + a.length + yb.length + yc.length → Mz c 0 j = M' c 0 j := fun c j x z w => hz c j (sZz_iff.2 (Or.inr ⟨x, Nat.le_trans h0 z, w⟩))
      refine ⟨(zb 149 (by decide) (by decide)).trans z1, cd, (zb 150 (by decide) (by decide)).trans z2, (zb 151 (by decide) (by decide)).trans g7, (zb 152 (by decide) (by decide)).trans g8, (zb 153 (by decide) (by decide)).trans g9, by show cd + a.length + yb.length + yc.length ≤ 840; omega, rAt2_mv a cd z3 fun j (x : cd ≤ j) (z : j < cd + a.length) => ⟨zc 154 j (Or.inl rfl) (by omega) (by omega), zc 155 j (Or.inr rfl) (by omega) (by omega)⟩, rAt2_mv yb _ g10 fun j (x : cd + a.length ≤ j) (z : j < cd + a.length + yb.length) => ⟨zc 154 j (Or.inl rfl) (by omega) (by omega), zc 155 j (Or.inr rfl) (by omega) (by omega)⟩, rAt2_mv yc _ g11 fun j (x : cd + a.length + yb.length ≤ j) (z : j < cd + a.length + yb.length + yc.length) => ⟨zc 154 j (Or.inl rfl) (by omega) (by omega), zc 155 j (Or.inr rfl) (by omega) (by omega)⟩⟩
  · rw [if_neg h4]
    intro a3
    have a3 : rFt P 2 t M1 := a3
    exact (r_81F (br := b) (b := b) (by omega) ((a3.up (Or.inl (by decide))).up (Or.inl (by decide))) ((u2 34).trans e34) (Nat.le_refl _) hb (by omega)).pre s2
theorem r_ifs (hd : 6 ≤ d) (hv : v ≤ 1) (hκ : ∀ q, κ q < 62) (hν : ∀ t, κ t = 20 → ν t < 10000) {l1 l2 : Int} {b0 : Nat} (hb0 : 50 * v ≤ b0) (hb : b0 + 6 ≤ 50 * v + 50) : ∀ (k n t cd : Nat) (l : List (Ex × Ex × Ex)) (M : AmM), n + k = 4 → l.length = n → rTk κ ν P M → rPs κ t M → M 12 0 12 = 0 → M 12 0 40 = (cd : Int) → 420 * v ≤ cd → cd ≤ 420 * v + t → M 12 0 34 = ((b0 + n : Nat) : Int) → rBz v (b0 + n) cd M b0 l → match ifS κ ν k t l with
    | .inl (c, q) => fO v (b0 + n) cd P c q (e_X12_tellLaw_17 d l1 l2 (n : Int) M) M
    | .inr (t1, l') => ∃ (M' : AmM) (cd1 : Nat) (l3 : Int), e_X12_tellLaw_17 d l1 l2 (n : Int) M = e_X12_tellLaw_134 d l1 l2 l3 M' ∧ amSame (fLw v (b0 + n) cd) M M' ∧ rPs κ t1 M' ∧ M' 12 0 12 = 0 ∧ M' 12 0 40 = (cd1 : Int) ∧ M' 12 0 34 = ((b0 + l'.length : Nat) : Int) ∧ rBz v (b0 + l'.length) cd1 M' b0 l' ∧ cd ≤ cd1 ∧ cd1 ≤ 420 * v + t1 ∧ l'.length ≤ 4 ∧ t ≤ t1
  | 0, n, t, cd, l, M, hn, hln, hT, h, h12, h40, h0, hcd, h34, hB => by
    have k5 := kRv (hκ t) (show 5 < 62 by decide) (show kR 5 = 29 by rfl) (by decide)
    unfold ifS
    rw [q_X12_tellLaw_17, if_pos h.2.2]
    by_cases hk : κ t = 5
    · obtain ⟨M1, a1, a2, a3⟩ := r_fail (D := d) (c := 2) (by omega) hT h (by decide)
      rw [show ((2 : Nat) : Int) = 2 from rfl] at a1
      have p1 := a3.1
      have p2 := a3.2.1
      rw [if_pos hk, r_isY (k := 29) (by omega) hT h (by have := k5.2 hk; omega), amCI_s, if_neg (show ¬ (1 : Int) = 0 by decide), if_pos (show (n : Int) = 4 by omega), a1, amCV_s, q_X12_tellLaw_43, if_pos (by omega)]
      exact ⟨M1, rfl, a2.mono fRta_fLw, a3⟩
    · rw [if_neg hk, r_isN (k := 29) (by omega) hT h (fun z => hk (k5.1 (by omega))), amCI_s, if_pos (show (0 : Int) = 0 from rfl)]
      exact ⟨M, cd, (n : Int), rfl, amSame.refl, h, h12, h40, by rw [hln]; exact h34, by rw [hln]; exact hB, Nat.le_refl _, hcd, by omega, Nat.le_refl _⟩
  | k + 1, n, t, cd, l, M, hn, hln, hT, h, h12, h40, h0, hcd, h34, hB => by
    have k5 := kRv (hκ t) (show 5 < 62 by decide) (show kR 5 = 29 by rfl) (by decide)
    unfold ifS
    rw [q_X12_tellLaw_17, if_pos h.2.2]
    by_cases hk : κ t = 5
    · rw [if_pos hk, r_isY (k := 29) (by omega) hT h (by have := k5.2 hk; omega), amCI_s, if_neg (show ¬ (1 : Int) = 0 by decide), if_neg (show ¬ (n : Int) = 4 by omega)]
      have hi := r_43 (b := b0 + n) (cd := cd) (l1 := l1) (l2 := l2) (n := n) hd hv hκ hν (by omega) hT h hk h12 h40 h0 hcd h34 (by omega) (by omega)
      have hg := if1_g (κ := κ) (ν := ν) h.1
      revert hi hg
      unfold bO
      cases if1 κ ν t with
      | inl y =>
        obtain ⟨c, q⟩ := y
        intro hi _
        exact hi
      | inr y =>
        obtain ⟨t1, p⟩ := y
        intro hi hg
        obtain ⟨M1, a1, a2, a3, a4, a5, a6, a7, a8⟩ := hi
        have hT1 : rTk κ ν P M1 := hT.mv fun c j q => a2 c 0 j (by
          unfold fLw fRx fRta
          rcases q with rfl | rfl | rfl | rfl <;> rfl)
        have hB1 : rBz v (b0 + (n + 1)) (cd + p.1.length + p.2.1.length + p.2.2.length) M1 b0 (l ++ [p]) := fun M2 h2 => by
          refine rBl_app l b0 ((hB.mv (br' := b0 + (n + 1)) (cd' := cd + p.1.length + p.2.1.length + p.2.2.length) (by omega) (by omega) fun c j hz => a2 c 0 j (sZz_fLw hz)) M2 h2) ?_
          rw [hln]
          exact a7 M2 h2
        have ih := r_ifs hd hv hκ hν (l1 := l1) (l2 := l2) hb0 hb k (n + 1) t1 (cd + p.1.length + p.2.1.length + p.2.2.length) (l ++ [p]) M1 (by omega) (by rw [List.length_append, hln]; rfl) hT1 a3 a4 a5 (by omega) a8 a6 hB1
        have ht1 : t ≤ t1 := Nat.le_of_lt hg.2
        rw [a1]
        have hup : ∀ c s j, fLw v (b0 + (n + 1)) (cd + p.1.length + p.2.1.length + p.2.2.length) c s j = true → fLw v (b0 + n) cd c s j = true := fLw_up (by omega) (by omega)
        show match ifS κ ν k t1 (l ++ [p]) with
          | .inl (c, q) => fO v (b0 + n) cd P c q (e_X12_tellLaw_17 d l1 l2 ((n + 1 : Nat) : Int) M1) M
          | .inr (t1, l') => ∃ (M' : AmM) (cd1 : Nat) (l3 : Int), e_X12_tellLaw_17 d l1 l2 ((n + 1 : Nat) : Int) M1 = e_X12_tellLaw_134 d l1 l2 l3 M' ∧ amSame (fLw v (b0 + n) cd) M M' ∧ rPs κ t1 M' ∧ M' 12 0 12 = 0 ∧ M' 12 0 40 = (cd1 : Int) ∧ M' 12 0 34 = ((b0 + l'.length : Nat) : Int) ∧ rBz v (b0 + l'.length) cd1 M' b0 l' ∧ cd ≤ cd1 ∧ cd1 ≤ 420 * v + t1 ∧ l'.length ≤ 4 ∧ t ≤ t1
        revert ih
        cases ifS κ ν k t1 (l ++ [p]) with
        | inl y =>
          obtain ⟨c, q⟩ := y
          intro ih
          obtain ⟨M2, b1, b2, b3⟩ := ih
          exact ⟨M2, b1, a2.trans (b2.mono hup), b3⟩
        | inr y =>
          obtain ⟨t2, l'⟩ := y
          intro ih
          obtain ⟨M2, cd1, l3, b1, b2, b3, b4, b5, b6, b7, b8, b9, b10, b11⟩ := ih
          exact ⟨M2, cd1, l3, b1, a2.trans (b2.mono hup), b3, b4, b5, b6, b7, by omega, b9, b10, by omega⟩
    · rw [if_neg hk, r_isN (k := 29) (by omega) hT h (fun z => hk (k5.1 (by omega))), amCI_s, if_pos (show (0 : Int) = 0 from rfl)]
      exact ⟨M, cd, (n : Int), rfl, amSame.refl, h, h12, h40, by rw [hln]; exact h34, by rw [hln]; exact hB, Nat.le_refl _, hcd, by omega, Nat.le_refl _⟩
end RSO
