/-! PURE: the reference's laws, as statements -/
section RSP
variable {d t v b0 cd : Nat} {κ ν P : Nat → Nat} {M : AmM}
theorem r_lawEnd (hd : 6 ≤ d) (hv : v ≤ 1) (hκ : ∀ q, κ q < 62) (hν : ∀ t, κ t = 20 → ν t < 10000) {x : Dr} {cd0 vw : Nat} {l3 : Int} {l : List (Ex × Ex × Ex)} (hvw : vw < 4) (hT : rTk κ ν P M) (h : rPs κ t M) (h12 : M 12 0 12 = 0) (h40 : M 12 0 40 = (cd : Int)) (h0 : 420 * v ≤ cd0) (h01 : cd0 ≤ cd) (hcd : cd ≤ 420 * v + t) (h34 : M 12 0 34 = ((b0 + l.length : Nat) : Int)) (hB : rBz v (b0 + l.length) cd M b0 l) (hl4 : l.length ≤ 4) (hb0 : 50 * v ≤ b0) (hb1 : b0 ≤ 50 * v + 5 * x.2.1) (hx8 : x.2.1 < 8) (h19 : M 12 0 19 = (v : Int)) (h20 : M 12 0 20 = ((tP x.1 : Nat) : Int)) (hlf : rLf P x.2.2.2 M) (hll : x.2.2.2.1 ≠ 0 → x.2.2.2.2 < t) (hD : rDm v x cd0 b0 M) : rO v κ P (match smX κ ν 6 t with
      | .inl y => .inl y
      | .inr (t4, e) => semS κ t4 (txL x.1 vw (l, e), x.2.1 + 1, x.2.2.1, x.2.2.2)) (e_X12_tellLaw_134 d (vw : Int) (b0 : Int) l3 M) M := by
  have hb50 : b0 + l.length < 50 * v + 50 := by omega
  have hb100 : b0 + l.length < 100 := by omega
  have u12 : ∀ j, amUp M 149 0 (b0 + l.length) 0 12 0 j = M 12 0 j := fun j => up_c (by decide)
  have s1 : amSame (fLw v (b0 + l.length) cd) M (amUp M 149 0 (b0 + l.length) 0) := amSame.refl.up (fLw_b (by decide) (Nat.le_refl _) hb50)
  have hT1 : rTk κ ν P (amUp M 149 0 (b0 + l.length) 0) := hT.mv fun c j q => up_c (by omega)
  have he := r_term (b := b0 + l.length) (cx := cd) (M := amUp M 149 0 (b0 + l.length) 0) (P := P) hd hv hκ hν hT1 (h.mv (u12 11) (u12 13)) ((u12 12).trans h12) ((u12 40).trans h40) hcd ((u12 34).trans h34) hb100
  rw [q_X12_tellLaw_134, h34, if_pos (show (0 : Int) ≤ ((b0 + l.length : Nat) : Int) ∧ ((b0 + l.length : Nat) : Int) < 100 by omega), tn_cast]
  have hsg := smX_g (κ := κ) (ν := ν) 6 t h.1
  revert he hsg
  cases smX κ ν 6 t with
  | inl y =>
    obtain ⟨c, q⟩ := y
    intro he _
    obtain ⟨M2, a1, a2, a3, a4⟩ := he
    have p1 := a3.1
    have p2 := a3.2.1
    rw [a1, amCV_s, r_mustF (by omega) a3, amCV_s, if_pos (by omega)]
    exact ⟨M2, rfl, (s1.trans (a2.mono (fTm_fLw hb50 (Nat.le_refl cd)))).mono (fLw_fRP (by omega) (by omega)), a3⟩
  | inr y =>
    obtain ⟨t4, e⟩ := y
    intro he hsg
    have htt : t < t4 := hsg.2
    obtain ⟨M2, a1, a2, a3, a4, a5, a6, a7, a8, a9, a10⟩ := he
    obtain ⟨M3, b1, b2, b3⟩ := r_must (D := d) (w := 59) (k := 4) (by omega) hκ (rTk_tm hT1 a2) a3 (by decide) (by rfl) (by decide)
    rw [show ((4 : Nat) : Int) = 4 from rfl] at b1
    have s3 : amSame (fLw v (b0 + l.length) cd) M M3 := (s1.trans (a2.mono (fTm_fLw hb50 (Nat.le_refl cd)))).trans (b2.mono fRta_fLw)
    have sP : amSame (fRP v) M M3 := s3.mono (fLw_fRP (by omega) (by omega))
    rw [a1, amCV_s, b1, amCV_s]
    show rO v κ P (semS κ t4 (txL x.1 vw (l, e), x.2.1 + 1, x.2.2.1, x.2.2.2)) _ M
    unfold semS
    revert b3
    cases hx : tkX κ 59 t4 with
    | inl y =>
      obtain ⟨c, q⟩ := y
      intro b3
      have p1 := b3.1
      have p2 := b3.2.1
      rw [if_pos (by omega)]
      exact ⟨M3, rfl, sP, b3⟩
    | inr t5 =>
      intro b3
      have ho := tkX_ok hx
      have ht5 := b3.1.1
      have e19 : M3 12 0 19 = (v : Int) := (s3 12 0 19 (by rfl)).trans h19
      have e146 : M3 146 0 v = ((x.2.1 : Nat) : Int) := (s3 146 0 v (sDm_fLw (sDm_lo (by decide) (by decide)))).trans hD.2.1.2.2.2.2.2
      have e34 : M3 12 0 34 = ((b0 + l.length + 1 : Nat) : Int) := (b2 12 0 34 (by rfl)).trans a6
      have u1 : ∀ j, amUp M3 146 0 v ((x.2.1 + 1 : Nat) : Int) 12 0 j = M3 12 0 j := fun j => up_c (by decide)
      have u2 : ∀ j, amUp (amUp M3 146 0 v ((x.2.1 + 1 : Nat) : Int)) 147 0 (4 * v + vw) (b0 : Int) 12 0 j = M3 12 0 j := fun j => (up_c (by decide)).trans (u1 j)
      have w1 : w32 (4 * (v : Int)) = ((4 * v : Nat) : Int) := w32_n (by omega) (by omega)
      have w2 : w32 (((4 * v : Nat) : Int) + (vw : Int)) = ((4 * v + vw : Nat) : Int) := w32_n (by omega) (by omega)
      have w3 : w32 (((x.2.1 : Nat) : Int) + 1) = ((x.2.1 + 1 : Nat) : Int) := w32_n (by omega) (by omega)
      have i8 : (0 : Int) ≤ ((4 * v + vw : Nat) : Int) ∧ ((4 * v + vw : Nat) : Int) < 8 := by clear w1 w2 w3; omega
      have i2 : (0 : Int) ≤ (v : Int) ∧ (v : Int) < 2 := by clear w1 w2 w3; omega
      have in13 : ¬ 0 < M3 12 0 13 := by rw [b3.2.2]; decide
      rw [if_neg in13, e19, if_pos i2, if_pos i2, tn_cast, e146, w3, u1, e19, w1, w2, if_pos i8, tn_cast, q_X12_tellLaw_188, u2, e19, w1, w2, if_pos i8, tn_cast, u2, e34]
      clear w1 w2 w3 i8 i2 in13
      have i4 : inR (4 * v) 4 (4 * v + vw) = true := inR_iff.2 ⟨by omega, by omega⟩
      have sF : amSame (fRP v) M (amUp (amUp (amUp M3 146 0 v ((x.2.1 + 1 : Nat) : Int)) 147 0 (4 * v + vw) (b0 : Int)) 148 0 (4 * v + vw) ((b0 + l.length + 1 : Nat) : Int)) := ((sP.up (sSd_fRP (by unfold sSd; simp))).up (sSd_fRP (by unfold sSd; rw [i4]; simp))).up (sSd_fRP (by unfold sSd; rw [i4]; simp))
      refine ⟨_, rfl, sF, ?_⟩
      have ne6 : ∀ c j, c ≠ 146 → c ≠ 147 → c ≠ 148 → amUp (amUp (amUp M3 146 0 v ((x.2.1 + 1 : Nat) : Int)) 147 0 (4 * v + vw) (b0 : Int)) 148 0 (4 * v + vw) ((b0 + l.length + 1 : Nat) : Int) c 0 j = M3 c 0 j := fun c j y z w => (up_c w).trans ((up_c z).trans (up_c y))
      have n146 : amUp (amUp (amUp M3 146 0 v ((x.2.1 + 1 : Nat) : Int)) 147 0 (4 * v + vw) (b0 : Int)) 148 0 (4 * v + vw) ((b0 + l.length + 1 : Nat) : Int) 146 0 v = ((x.2.1 + 1 : Nat) : Int) := (up_c (by decide)).trans ((up_c (by decide)).trans up_on)
      have n147 : ∀ w, amUp (amUp (amUp M3 146 0 v ((x.2.1 + 1 : Nat) : Int)) 147 0 (4 * v + vw) (b0 : Int)) 148 0 (4 * v + vw) ((b0 + l.length + 1 : Nat) : Int) 147 0 (4 * v + w) = if w = vw then (b0 : Int) else M 147 0 (4 * v + w) := fun w => by
        rw [up_c (by decide)]
        by_cases hw : w = vw
        · rw [if_pos hw, hw, up_on]
        · rw [if_neg hw, up_j (by omega), up_c (by decide)]
          exact s3 147 0 _ (sDm_fLw (sDm_lo (by decide) (by decide)))
      have n148 : ∀ w, amUp (amUp (amUp M3 146 0 v ((x.2.1 + 1 : Nat) : Int)) 147 0 (4 * v + vw) (b0 : Int)) 148 0 (4 * v + vw) ((b0 + l.length + 1 : Nat) : Int) 148 0 (4 * v + w) = if w = vw then ((b0 + l.length + 1 : Nat) : Int) else M 148 0 (4 * v + w) := fun w => by
        by_cases hw : w = vw
        · rw [if_pos hw, hw, up_on]
        · rw [if_neg hw, up_j (by omega), up_c (by decide), up_c (by decide)]
          exact s3 148 0 _ (sDm_fLw (sDm_lo (by decide) (by decide)))
      generalize amUp (amUp (amUp M3 146 0 v ((x.2.1 + 1 : Nat) : Int)) 147 0 (4 * v + vw) (b0 : Int)) 148 0 (4 * v + vw) ((b0 + l.length + 1 : Nat) : Int) = M6 at *
      have n12 : ∀ j, M6 12 0 j = M3 12 0 j := fun j => ne6 12 j (by decide) (by decide) (by decide)
      have keep : ∀ c j, c ≠ 146 → c ≠ 147 → c ≠ 148 → sDm v (b0 + l.length) cd c j = true → M6 c 0 j = M c 0 j := fun c j y z w hz => (ne6 c j y z w).trans (s3 c 0 j (sDm_fLw hz))
      have lo : ∀ c j, 136 ≤ c → c ≤ 145 → M6 c 0 j = M c 0 j := fun c j y z => keep c j (by omega) (by omega) (by omega) (sDm_lo y (by omega))
      obtain ⟨g0, ⟨g1, g2, g3, g4, g5, g6⟩, g7, g8, g9, g10⟩ := hD
      refine ⟨cd + e.length, b0 + l.length + 1, b3.mv (n12 11) (n12 13), ⟨(n12 19).trans e19, (n12 12).trans ((b2 12 0 12 (by rfl)).trans a4), (n12 40).trans ((b2 12 0 40 (by rfl)).trans a5), (n12 34).trans e34, (n12 20).trans ((s3 12 0 20 (by rfl)).trans h20)⟩, ⟨⟨g0.1, g0.2.1, g0.2.2.1, hx8⟩, ⟨(lo _ _ (by decide) (by decide)).trans g1, (lo _ _ (by decide) (by decide)).trans g2, (lo _ _ (by decide) (by decide)).trans g3, (lo _ _ (by decide) (by decide)).trans g4, (lo _ _ (by decide) (by decide)).trans g5, n146⟩, fun j y z => (lo _ _ (by decide) (by decide)).trans (g7 j y z), fun j y => (lo _ _ (by decide) (by decide)).trans (g8 j y), fun p y => ⟨(lo _ _ (by decide) (by decide)).trans (g9 p y).1, (lo _ _ (by decide) (by decide)).trans (g9 p y).2.1, (lo _ _ (by decide) (by decide)).trans (g9 p y).2.2⟩, fun w y => ?_⟩, ⟨(n12 15).trans ((s3 12 0 15 (by rfl)).trans hlf.1), fun q => (n12 16).trans ((s3 12 0 16 (by rfl)).trans (hlf.2 q))⟩, fun q => by have := hll q; show x.2.2.2.2 < t5; omega, ⟨by omega, by omega⟩, by omega, by show b0 + l.length + 1 ≤ 50 * v + 5 * (x.2.1 + 1); omega⟩
      show match (if w = vw then some (l, e) else tL x.1 w) with
        | none => M6 147 0 (4 * v + w) = M6 148 0 (4 * v + w)
        | some ll => ∃ f : Nat, M6 147 0 (4 * v + w) = f ∧ M6 148 0 (4 * v + w) = (f + ll.1.length + 1 : Nat) ∧ f + ll.1.length + 1 ≤ 100 ∧ rLz v (b0 + l.length + 1) (cd + e.length) M6 f ll.1 ll.2
      rw [n147, n148]
      by_cases hw : w = vw
      · rw [if_pos hw, if_pos hw, if_pos hw]
        refine ⟨b0, rfl, rfl, by show b0 + l.length + 1 ≤ 100; omega, fun Mz hz => ?_⟩
        have zb : ∀ c, 149 ≤ c → c ≤ 153 → Mz c 0 (b0 + l.length) = M3 c 0 (b0 + l.length) := fun c y z => (hz c _ (sZz_iff.2 (Or.inl ⟨⟨y, z⟩, by omega, by omega⟩))).trans (ne6 c _ (by omega) (by omega) (by omega))
        have zc : ∀ c j, c = 154 ∨ c = 155 → cd ≤ j → j < cd + e.length → Mz c 0 j = M2 c 0 j := fun c j y z w => (hz c j (sZz_iff.2 (Or.inr ⟨y, by omega, w⟩))).trans ((ne6 c _ (by omega) (by omega) (by omega)).trans (b2 c 0 j (by
          unfold fRta
          rw [beq_false_of_ne (show c ≠ 12 by omega)]; rfl)))
        refine rBl_lw l b0 (hB Mz fun c j hz' => ?_) ⟨?_, cd, ?_, ?_, by show cd + e.length ≤ 840; omega, ?_⟩
        · have hz2 := sZz_iff.1 hz'
          exact (hz c j (sZz_iff.2 (by omega))).trans (keep c j (by omega) (by omega) (by omega) (by unfold sDm; rw [hz', Bool.or_true]))
        · rw [zb 149 (by decide) (by decide), b2 149 0 _ (by rfl), a2 149 0 _ (fTm_no (by decide) (by decide) (by decide) (by decide) (by decide) (by decide)), up_on]
        · rw [zb 152 (by decide) (by decide), b2 152 0 _ (by rfl), a7]
        · rw [zb 153 (by decide) (by decide), b2 153 0 _ (by rfl), a8]
        · exact rAt2_mv e cd a9 fun j y z => ⟨zc 154 j (Or.inl rfl) y z, zc 155 j (Or.inr rfl) y z⟩
      · rw [if_neg hw, if_neg hw, if_neg hw]
        have hq := g10 w y
        revert hq
        cases tL x.1 w with
        | none => intro hq; exact hq
        | some l0 =>
          intro hq
          obtain ⟨f, c1, c2, c3, c4⟩ := hq
          exact ⟨f, c1, c2, c3, c4.mv (by omega) (by omega) fun c j hz => by
            have hz2 := sZz_iff.1 hz
            exact keep c j (by omega) (by omega) (by omega) (by unfold sDm; rw [sZz_iff.2 (by omega), Bool.or_true])⟩
theorem fO.rO {x : Dr} {br c q : Nat} {o : Option (AmV × AmM)} {r : Pr (Nat × Dr)} (h : fO v br cd P c q o M) (hb : 50 * v ≤ br) (hc : 420 * v ≤ cd) (hr : r = .inl (c, q)) : rO v κ P r o M := by
  obtain ⟨M', a1, a2, a3⟩ := h
  rw [hr]
  exact ⟨M', a1, a2.mono (fLw_fRP hb hc), a3⟩
theorem r_lawS (hd : 6 ≤ d) (hv : v ≤ 1) (hκ : ∀ q, κ q < 62) (hν : ∀ t, κ t = 20 → ν t < 10000) {x : Dr} (hx8 : x.2.1 < 8) (hT : rTk κ ν P M) (hS : rS v κ P t x M) : rO v κ P (match vwS κ t with
      | .inl y => .inl y
      | .inr t1 => (match tkX κ 61 t1 with
        | .inl y => .inl y
        | .inr t2 => (match ifS κ ν 4 t2 [] with
          | .inl y => .inl y
          | .inr (t3, l) => (match smX κ ν 6 t3 with
            | .inl y => .inl y
            | .inr (t4, e) => semS κ t4 (txL x.1 (κ t - 8) (l, e), x.2.1 + 1, x.2.2.1, x.2.2.2))))) (amD amGst (d + 1) 172 [vR 12 12 0] M) M := by
  obtain ⟨cd, br, h1, h2, h3, h4, h5, h6, h7⟩ := hS
  have hv0 := r_vow (D := d) (by omega) hκ hT h1
  rw [n_X12_tellLaw, q_X12_tellLaw_0]
  revert hv0
  cases hx : vwS κ t with
  | inl y =>
    obtain ⟨c, q⟩ := y
    intro hv0
    obtain ⟨M1, y, a1, a2, a3⟩ := hv0
    rw [a1, amCI_s, r_mustF (by omega) a3, amCV_s]
    exact ((r_17F (br := br) (cd := cd) (b := br) (by omega) a3 ((a2 12 0 34 (by rfl)).trans h2.2.2.2.1) (Nat.le_refl _) (by omega) (by omega)).pre (a2.mono fRta_fLw)).rO (x := x) h7.1 h6.1 rfl
  | inr t1 =>
    intro hv0
    have ho := vwS_ok hx
    obtain ⟨M1, a1, a2, a3⟩ := hv0
    have hT1 := hT.ti (a2.mono fRta_fRti)
    obtain ⟨M2, b1, b2, b3⟩ := r_must (D := d) (w := 61) (k := 5) (by omega) hκ hT1 a3 (by decide) (by rfl) (by decide)
    rw [show ((5 : Nat) : Int) = 5 from rfl] at b1
    have s2 : amSame fRta M M2 := a2.trans b2
    have e34 : M2 12 0 34 = (br : Int) := (s2 12 0 34 (by rfl)).trans h2.2.2.2.1
    rw [a1, amCI_s, b1, amCV_s, e34]
    show rO v κ P (match tkX κ 61 t1 with
        | .inl y => .inl y
        | .inr t2 => (match ifS κ ν 4 t2 [] with
          | .inl y => .inl y
          | .inr (t3, l) => (match smX κ ν 6 t3 with
            | .inl y => .inl y
            | .inr (t4, e) => semS κ t4 (txL x.1 (κ t - 8) (l, e), x.2.1 + 1, x.2.2.1, x.2.2.2)))) _ M
    revert b3
    cases hx1 : tkX κ 61 t1 with
    | inl y =>
      obtain ⟨c, q⟩ := y
      intro b3
      exact ((r_17F (br := br) (cd := cd) (b := br) (by omega) b3 e34 (Nat.le_refl _) (by omega) (by omega)).pre (s2.mono fRta_fLw)).rO (x := x) h7.1 h6.1 rfl
    | inr t2 =>
      intro b3
      have ho1 := tkX_ok hx1
      have hT2 := hT.ti (s2.mono fRta_fRti)
      have hB0 : rBz v (br + 0) cd M2 br [] := fun _ _ => trivial
      have hi := r_ifs (P := P) (l1 := ((κ t - 8 : Nat) : Int)) (l2 := (br : Int)) (b0 := br) hd hv hκ hν h7.1 (by omega) 4 0 t2 cd [] M2 rfl rfl hT2 b3 ((s2 12 0 12 (by rfl)).trans h2.2.1) ((s2 12 0 40 (by rfl)).trans h2.2.2.1) h6.1 (by omega) e34 hB0
      rw [show ((0 : Nat) : Int) = 0 from rfl] at hi
      show rO v κ P (match ifS κ ν 4 t2 [] with
          | .inl y => .inl y
          | .inr (t3, l) => (match smX κ ν 6 t3 with
            | .inl y => .inl y
            | .inr (t4, e) => semS κ t4 (txL x.1 (κ t - 8) (l, e), x.2.1 + 1, x.2.2.1, x.2.2.2))) _ M
      revert hi
      cases ifS κ ν 4 t2 [] with
      | inl y =>
        obtain ⟨c, q⟩ := y
        intro hi
        exact (hi.pre (s2.mono fRta_fLw)).rO (x := x) h7.1 h6.1 rfl
      | inr y =>
        obtain ⟨t3, l⟩ := y
        intro hi
        obtain ⟨M3, cd1, l3, c1, c2, c3, c4, c5, c6, c7, c8, c9, c10, c11⟩ := hi
        have c2 : amSame (fLw v br cd) M2 M3 := c2
        have s3 : amSame (fLw v br cd) M M3 := (s2.mono fRta_fLw).trans c2
        have hT3 : rTk κ ν P M3 := hT2.mv fun c j q => c2 c 0 j (by
          unfold fLw fRx fRta
          rcases q with rfl | rfl | rfl | rfl <;> rfl)
        rw [c1]
        have hr := r_lawEnd (l3 := l3) (vw := κ t - 8) (x := x) (cd0 := cd) hd hv hκ hν (by omega) hT3 c3 c4 c5 h6.1 c8 c9 c6 c7 c10 h7.1 h7.2 hx8 ((s3 12 0 19 (by rfl)).trans h2.1) ((s3 12 0 20 (by rfl)).trans h2.2.2.2.2) ⟨(s3 12 0 15 (by rfl)).trans h4.1, fun q => (s3 12 0 16 (by rfl)).trans (h4.2 q)⟩ (fun q => by have := h5 q; omega) (h3.mv (Nat.le_refl _) (Nat.le_refl _) fun c j hz => s3 c 0 j (sDm_fLw hz))
        exact hr.pre (s3.mono (fLw_fRP h7.1 h6.1))
end RSP
