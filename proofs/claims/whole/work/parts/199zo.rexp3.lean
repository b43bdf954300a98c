/-! PURE: the reference's units and sums -/
section REV
variable {D d t cd o ub : Nat} {κ ν P : Nat → Nat} {M : AmM} {S : List Nat}
theorem r_failT (hD : 1 ≤ D) (hT : rTk κ ν P M) (h : rPs κ t M) {c : Nat} (hc : c ≠ 0) : ∃ M', amD amGst D 159 [vR 12 12 0, vI (c : Int)] M = some (vU, M') ∧ amSame fRta M M' ∧ rFt P c t M' ∧ M' 12 0 11 = (t : Int) := by
  obtain ⟨d, rfl⟩ := dS hD
  have h0 := h.1
  refine ⟨amUp (amUp M 12 0 13 (c : Int)) 12 0 14 ((P t : Nat) : Int), ?_, (amSame.refl.up (by rfl)).up (by rfl), ⟨hc, ?_, up_on, ?_, ?_⟩, ?_⟩
  · rw [n_X12_fail, q_X12_fail_0, h.2.2, if_neg (show ¬ (0 : Int) < 0 by omega), up_j (show 11 ≠ 13 by decide), h.2.1, tn_cast, up_c (show 132 ≠ 12 by decide), (hT t h0.1 h0.2).2.1, if_pos (by omega), q_X12_fail_26]
  · rw [up_j (by decide), up_on]
  · rw [up_j (by decide), up_j (by decide), h.2.1]; omega
  · rw [up_j (by decide), up_j (by decide), h.2.1]; omega
  · rw [up_j (by decide), up_j (by decide), h.2.1]
theorem r_unitX (hd : 4 ≤ d) (hub : ub ≤ 840) (hκ : ∀ q, κ q < 62) (ho : o ≤ 6) {sub : Option (Nat → Pr (Nat × Ex))} (h0 : sub = none → o = 6) (h1 : ∀ f, sub = some f → o < 6 ∧ rSmC ub κ ν P d (o + 1) f) (hG : ∀ f, sub = some f → ∀ t t1 e, f t = .inr (t1, e) → t < t1) : rUnC ub κ ν P d o (unX κ ν sub) := fun t S cd M hT h hst hb hS => by
  have hlt := h.1
  have k40 := kRv (hκ t) (show 40 < 62 by decide) (show kR 40 = 6 by rfl) (by decide)
  have k20 := kRv (hκ t) (show 20 < 62 by decide) (show kR 20 = 2 by rfl) (by decide)
  have h131 := (hT t hlt.1 hlt.2).1
  unfold unX
  -- a unit of one TOKEN
  have one : ∀ (x : Nat × Int), κ t ≠ 21 ∧ κ t ≠ 22 → κ t ≠ 40 → (∀ d', d = d' + 1 → amD amGst d 177 [vR 12 12 0] M = (amCV (amD amGst d' 174 [vR 12 12 0, vI (x.1 : Int), vI x.2] M) fun M7 => amCV (amD amGst d' 161 [vR 12 12 0] M7) fun M8 => some (vU, M8))) → rUo ub κ P d S o cd (if t < 400 then .inr (t + 1, [x]) else .inl (2, t)) (e_X12_expression_23 d 0 1 M) M := fun x hx h40 hun => by
    obtain ⟨d', ed⟩ := dS (show 3 + 1 ≤ d by omega)
    have hem := r_emit (D := d') (k := (x.1 : Int)) (v := x.2) (by omega) (show cd < 840 by omega) hst.2.2.2
    have hble : Nat.ble cd cd = true := ble_t (Nat.le_refl cd)
    have hblt : Nat.blt cd ub = true := Nat.ble_eq_true_of_le (show cd + 1 ≤ ub by omega)
    have s1 : amSame (fRx ub cd) M (amUp (amUp (amUp M 154 0 cd (x.1 : Int)) 155 0 cd x.2) 12 0 40 ((cd + 1 : Nat) : Int)) := ((amSame.refl.up (by unfold fRx; rw [hble, hblt]; simp)).up (by unfold fRx; rw [hble, hblt]; simp)).up (by unfold fRx; simp)
    obtain ⟨M2, a1, a2, a3⟩ := r_goesOn (D := d') (t := t) (by omega) (hT.x s1) (h.mv (by rw [up_j (by decide), up_c (by decide), up_c (by decide)]) (by rw [up_j (by decide), up_c (by decide), up_c (by decide)])) hx
    have e177 : amD amGst d 177 [vR 12 12 0] M = some (vU, M2) := by rw [hun d' ed, hem, amCV_s, a1, amCV_s]
    have s2 := s1.trans (fRx_ta (cd := cd) a2)
    rw [q_X12_expression_23, r_isN (k := 6) (by omega) hT h (by omega), amCI_s, if_pos (show (0 : Int) = 0 from rfl), e177, amCV_s]
    unfold goX at a3
    by_cases h4 : t < 400
    · rw [if_pos h4] at a3 ⊢
      rw [a3.2.2, if_neg (show ¬ (0 : Int) < 0 by omega)]
      refine ⟨M2, rfl, s2, a3, ?_, ⟨⟨?_, ?_⟩, trivial⟩, by show cd + 1 + S.length + 420 ≤ ub + (t + 1); omega⟩
      · have hst' : rSt S o (cd + 1) (amUp (amUp (amUp M 154 0 cd (x.1 : Int)) 155 0 cd x.2) 12 0 40 ((cd + 1 : Nat) : Int)) := ⟨by rw [up_j (by decide), up_c (by decide), up_c (by decide)]; exact hst.1, by rw [up_j (by decide), up_c (by decide), up_c (by decide)]; exact hst.2.1, fun j y hj => by rw [up_c (by decide), up_c (by decide), up_c (by decide)]; exact hst.2.2.1 j y hj, up_on⟩
        exact hst'.mv a2
      · rw [a2 154 0 cd (by rfl), up_c (by decide), up_c (by decide), up_on]
      · rw [a2 155 0 cd (by rfl), up_c (by decide), up_on]
    · rw [if_neg h4] at a3 ⊢
      have h13 := a3.2.1
      rw [h13, if_pos (by omega)]
      exact ⟨M2, rfl, s2, a3⟩
  by_cases h20 : κ t = 20
  · rw [if_pos h20]
    refine one (0, ((ν t : Nat) : Int)) (by omega) (by omega) fun d' ed => ?_
    have h133 := (hT t hlt.1 hlt.2).2.2.1 h20
    rw [ed, n_X12_unit, q_X12_unit_0, r_isY (k := 2) (by omega) hT h (by have := k20.2 h20; omega), amCI_s, if_neg (show ¬ (1 : Int) = 0 by decide), h.2.1, if_pos (by omega), tn_cast, h133]
    rfl
  · have hn2 : ((kR (κ t) : Nat) : Int) ≠ 2 := fun q => h20 (k20.1 (by omega))
    rw [if_neg h20]
    by_cases hv : 12 ≤ κ t ∧ κ t ≤ 18
    · rw [if_pos hv]
      refine one (1, ((κ t - 12 : Nat) : Int)) (by omega) (by omega) fun d' ed => ?_
      have ek := kR_var2 (κ t) (by omega) hv.1
      rw [ed, n_X12_unit, q_X12_unit_0, r_isN (k := 2) (by omega) hT h hn2, amCI_s, if_pos (show (0 : Int) = 0 from rfl), h.2.2, if_pos (show (0 : Int) = 0 from rfl), h.2.1, if_pos (by omega), tn_cast, h131, ek, if_neg (show ¬ ((κ t + 20 : Nat) : Int) < 32 by omega), if_pos (show (0 : Int) ≤ (t : Int) ∧ (t : Int) < 403 by omega), if_neg (show ¬ (38 : Int) < ((κ t + 20 : Nat) : Int) by omega), if_pos (show (0 : Int) ≤ (t : Int) ∧ (t : Int) < 403 by omega), w32_n (x := ((κ t + 20 : Nat) : Int) - 32) (n := κ t - 12) (by omega) (by omega)]
      rfl
    · rw [if_neg hv]
      by_cases h40 : κ t = 40
      · rw [if_pos h40]
        have e23 : e_X12_expression_23 d 0 1 M = if (o : Int) = 6 then (amCV (amD amGst d 159 [vR 12 12 0, vI 2] M) fun M3 => e_X12_expression_46 d 0 1 M3) else (e_X12_expression_46 d 0 1 M) := by
          rw [q_X12_expression_23, r_isY (k := 6) (by omega) hT h (by have := k40.2 h40; omega), amCI_s, if_neg (show ¬ (1 : Int) = 0 by decide), hst.1]
        rw [e23]
        cases sub with
        | none =>
          have ho6 := h0 rfl
          rw [if_pos (by omega)]
          obtain ⟨M1, a1, a2, a3, a4⟩ := r_failT (D := d) (c := 2) (by omega) hT h (by decide)
          have hst1 := hst.mv a2
          have hf0 : rFt P 2 t (amUp M1 12 0 12 ((o + 1 : Nat) : Int)) := a3.mv (up_j (by decide)) (up_j (by decide)) (up_j (by decide))
          obtain ⟨M2, b1, b2, b3⟩ := r_goesOnF (D := d) (by omega) hf0 (by rw [up_j (by decide), a4]; omega)
          have h44 : M2 12 0 44 = (S.length : Int) := by rw [b2 12 0 44 (by rfl), up_j (by decide)]; exact hst1.2.1
          have hf2 : rFt P 2 t (amUp (amUp M2 156 0 S.length 6) 12 0 44 ((S.length + 1 : Nat) : Int)) := b3.mv (by rw [up_j (by decide), up_c (by decide)]) (by rw [up_j (by decide), up_c (by decide)]) (by rw [up_j (by decide), up_c (by decide)])
          refine ⟨_, ?_, ?_, hf2⟩
          · rw [show (2 : Int) = ((2 : Nat) : Int) from rfl, a1, amCV_s, q_X12_expression_46, hst1.1, w32_n (x := (o : Int) + 1) (n := o + 1) (by omega) (by omega), b1, amCV_s, h44, if_pos (by omega), tn_cast, up_c (show 12 ≠ 156 by decide), h44, w32_n (x := (S.length : Int) + 1) (n := S.length + 1) (by omega) (by omega), q_X12_expression_81]
            exact r_23F (by omega) hf2
          · exact ((((fRx_ta a2).up (by unfold fRx; simp)).trans (fRx_ta b2)).up (by unfold fRx; simp)).up (by unfold fRx; simp)
        | some f =>
          obtain ⟨ho6, hC⟩ := h1 f rfl
          rw [if_neg (by omega)]
          have hop := r_open (ub := ub) (d := d) (by omega) hT h h40 hst ho hS
          show rUo ub κ P d S o cd (if t < 400 then (match f (t + 1) with
            | .inl x => .inl x
            | .inr (t1, e) => (match tkX κ 41 t1 with
              | .inl x => .inl x
              | .inr t2 => .inr (t2, e))) else .inl (2, t)) _ M
          unfold goX at hop
          by_cases h4 : t < 400
          · rw [if_pos h4] at hop ⊢
            obtain ⟨M1, a1, a2, a3, a4⟩ := hop
            have hT1 := hT.x a2
            have hl1 : (S ++ [6]).length = S.length + 1 := List.length_append
            have hs := hC (t + 1) (S ++ [6]) cd M1 hT1 a3 a4 (by rw [hl1]; omega) (by rw [hl1]; omega) (Or.inr ⟨S, rfl⟩)
            rw [a1]
            cases hf : f (t + 1) with
            | inl x =>
              obtain ⟨c, q⟩ := x
              rw [hf] at hs
              obtain ⟨M2, b1, b2, b3⟩ := hs
              exact ⟨M2, b1, a2.trans b2, b3⟩
            | inr x =>
              obtain ⟨t1, e⟩ := x
              rw [hf] at hs
              obtain ⟨M2, w, s, eR, b1, b2, b3, b4, b5, b6, b7, b8, b9⟩ := hs
              have hlt1 := hG f rfl (t + 1) t1 e hf
              have hT2 := hT1.x b2
              have hpl := pdL_len w s
              have hll : (S ++ [6] ++ pdL w s).length = S.length + 1 + (pdL w s).length := by rw [List.length_append, hl1]
              have ht1 := b3.1.1
              have s2 : amSame (fRx ub cd) M M2 := a2.trans b2
              rw [b1]
              show rUo ub κ P d S o cd (match tkX κ 41 t1 with
                | .inl x => .inl x
                | .inr t2 => .inr (t2, e)) _ M
              have k41 := kRv (hκ t1) (show 41 < 62 by decide) (show kR 41 = 7 by rfl) (by decide)
              by_cases h41 : κ t1 = 41
              · rw [tkX_go h41]
                obtain ⟨M3, c1, c2, c3, c4⟩ := r_out0 (D := d) (by omega) hub b7 (Or.inr ⟨S, rfl⟩) (by rw [hl1]; omega) (by omega) b4
                have hP3 := b3.co c2
                have hM4 : rPs κ t1 (amUp (amUp M3 12 0 44 (S.length : Int)) 12 0 12 (o : Int)) := hP3.mv (by rw [up_j (by decide), up_j (by decide)]) (by rw [up_j (by decide), up_j (by decide)])
                have s3 : amSame (fRx ub cd) M (amUp (amUp M3 12 0 44 (S.length : Int)) 12 0 12 (o : Int)) := (((s2.trans (c2.mono (fCo2_fRx (by omega)))).up (by unfold fRx; simp)).up (by unfold fRx; simp))
                have hst4 : rSt S o (cd + e.length) (amUp (amUp M3 12 0 44 (S.length : Int)) 12 0 12 (o : Int)) := by
                  refine ⟨up_on, ?_, fun j x hj => ?_, ?_⟩
                  · rw [up_j (by decide), up_on]
                  · rw [up_c (by decide), up_c (by decide)]
                    refine c3.2.2.1 j x ?_
                    have hjl : j < S.length := by
                      by_cases hjl : j < S.length
                      · exact hjl
                      · rw [List.getElem?_eq_none (by omega)] at hj; cases hj
                    rw [List.getElem?_append_left hjl]; exact hj
                  · rw [up_j (by decide), up_j (by decide), b6, List.length_append, ← Nat.add_assoc]; exact c3.2.2.2
                have hat4 : rAt (amUp (amUp M3 12 0 44 (S.length : Int)) 12 0 12 (o : Int)) cd e := by
                  rw [b6]
                  refine rAt2_mv _ cd (rAt2_app eR (flL w s) cd (rAt2_mv eR cd b5 fun j x y => ?_) c4) fun j _ _ => ⟨by rw [up_c (by decide), up_c (by decide)], by rw [up_c (by decide), up_c (by decide)]⟩
                  have hb : Nat.ble (cd + eR.length) j = false := ble_f (by omega)
                  exact ⟨c2 154 0 j (by unfold fCo2; rw [hb]; rfl), c2 155 0 j (by unfold fCo2; rw [hb]; rfl)⟩
                obtain ⟨M5, f1, f2, f3⟩ := r_goesOn (D := d) (t := t1) (by omega) (hT.x s3) hM4 (by omega)
                have e96 : e_X12_expression_96 d 0 1 M2 = e_X12_expression_96 d 0 1 M5 := by
                  rw [q_X12_expression_96, r_isY (k := 7) (by omega) hT2 b3 (by have := k41.2 h41; omega), amCI_s, if_neg (show ¬ (1 : Int) = 0 by decide), b4.1, if_pos (by omega), c1, amCV_s, c3.2.1, hl1, w32_n (x := ((S.length + 1 : Nat) : Int) - 1) (n := S.length) (by omega) (by omega), up_j (show 12 ≠ 44 by decide), c3.1, w32_n (x := ((o + 1 : Nat) : Int) - 1) (n := o) (by omega) (by omega), q_X12_expression_138, f1, amCV_s]
                have elen : e.length = eR.length + (flL w s).length := by rw [b6, List.length_append]
                rw [e96]
                revert f3
                unfold goX
                by_cases h44 : t1 < 400
                · rw [if_pos h44]
                  intro f3
                  refine ⟨M5, rfl, s3.trans (fRx_ta f2), f3, hst4.mv f2, rAt2_mv e cd hat4 fun j _ _ => ⟨f2 154 0 j (by rfl), f2 155 0 j (by rfl)⟩, by omega⟩
                · rw [if_neg h44]
                  intro f3
                  obtain ⟨M6, g1, g2, g3⟩ := r_96F (d := d) (by omega) hub f3 (by omega) (by omega) (hst4.mv f2)
                  exact ⟨M6, g1, (s3.trans (fRx_ta f2)).trans (g2.mono (fCo2_fRx (by omega))), g3⟩
              · have etk : tkX κ 41 t1 = .inl (1, t1) := if_neg h41
                rw [etk]
                have n7 : ((kR (κ t1) : Nat) : Int) ≠ 7 := fun q => h41 (k41.1 (by omega))
                obtain ⟨M3, c1, c2, c3⟩ := r_fail (D := d) (c := 1) (by omega) hT2 b3 (by decide)
                obtain ⟨d', ed⟩ := dS (show 1 + 1 ≤ d by omega)
                obtain ⟨M4, f1, f2⟩ := r_outAny (d := d') (l1 := 0) (by omega) hub _ _ _ vU M3 (Nat.le_refl _) (by omega) (by omega) (b4.mv c2)
                have f0 : amD amGst d 175 [vR 12 12 0, vI 0] M3 = some (vU, M4) := by rw [ed, n_X12_comesOut]; exact f1
                refine ⟨M4, ?_, (s2.trans (fRx_ta c2)).trans (f2.mono (fCo2_fRx (by omega))), c3.co f2⟩
                rw [q_X12_expression_96, r_isN (k := 7) (by omega) hT2 b3 n7, amCI_s, if_pos (show (0 : Int) = 0 from rfl), r_145 (by omega) hκ hT2 b3 b8, b4.1, if_pos (by omega), show (1 : Int) = ((1 : Nat) : Int) from rfl, c1, amCV_s, f0, amCV_s]
          · rw [if_neg h4] at hop ⊢
            obtain ⟨M1, a1, a2, a3⟩ := hop
            exact ⟨M1, a1, a2, a3⟩
      · rw [if_neg h40]
        have hn6 : ((kR (κ t) : Nat) : Int) ≠ 6 := fun q => h40 (k40.1 (by omega))
        obtain ⟨d', ed⟩ := dS (show 3 + 1 ≤ d by omega)
        obtain ⟨M1, a1, a2, a3⟩ := r_fail (D := d') (c := 1) (by omega) hT h (by decide)
        have kv := kR_var (κ t) (hκ t)
        have e177 : amD amGst d 177 [vR 12 12 0] M = some (vU, M1) := by
          rw [ed, n_X12_unit, q_X12_unit_0, r_isN (k := 2) (by omega) hT h hn2, amCI_s, if_pos (show (0 : Int) = 0 from rfl), h.2.2, if_pos (show (0 : Int) = 0 from rfl), h.2.1, if_pos (by omega), tn_cast, h131]
          rw [show ((1 : Nat) : Int) = 1 from rfl] at a1
          by_cases h32 : ((kR (κ t) : Nat) : Int) < 32
          · rw [if_pos h32, a1, amCV_s]
          · rw [if_neg h32, if_pos (show (0 : Int) ≤ (t : Int) ∧ (t : Int) < 403 by omega), if_pos (show (38 : Int) < ((kR (κ t) : Nat) : Int) by
              by_cases h38 : 38 < kR (κ t)
              · omega
              · exact absurd (kv.1 ⟨by omega, by omega⟩) hv), a1, amCV_s]
        have h13 := a3.2.1
        refine ⟨M1, ?_, fRx_ta a2, a3⟩
        rw [q_X12_expression_23, r_isN (k := 6) (by omega) hT h hn6, amCI_s, if_pos (show (0 : Int) = 0 from rfl), e177, amCV_s, h13, if_pos (by omega)]
/-- a sign, and what is behind it -/
theorem r_sgn (hd : 3 ≤ d) (hub : ub ≤ 840) (hκ : ∀ q, κ q < 62) (hT : rTk κ ν P M) (h : rPs κ t M) (hs : sgnK (κ t) = true) {w s : Nat} (hws : wsOk w s) (hst : rSt (S ++ pdL w s) o cd M) (hB : stB S) (hS : S.length ≤ 30) (hcd : cd + 3 ≤ ub) : ∃ (M' : AmM) (w' s' : Nat) (eR : Ex), e_X12_expression_96 d 0 1 M = e_X12_expression_265 d 0 1 M' ∧ amSame (fRx ub cd) M M' ∧ rPs κ t M' ∧ rSt (S ++ pdL w' s') o (cd + eR.length) M' ∧ rAt M' cd eR ∧ wsOk w' s' ∧ (((κ t = 42 ∨ κ t = 47) ∧ eR = flS s ∧ w' = w ∧ s' = (if κ t = 42 then 10 else 15)) ∨ ((κ t = 43 ∨ κ t = 45) ∧ eR = flL w s ∧ w' = (if κ t = 43 then 8 else 9) ∧ s' = 0)) := by
  have hsk := sgnK_b.1 hs
  have hlt := h.1
  have k8 := kRv (hκ t) (show 43 < 62 by decide) (show kR 43 = 8 by rfl) (by decide)
  have k9 := kRv (hκ t) (show 45 < 62 by decide) (show kR 45 = 9 by rfl) (by decide)
  have k10 := kRv (hκ t) (show 42 < 62 by decide) (show kR 42 = 10 by rfl) (by decide)
  have k15 := kRv (hκ t) (show 47 < 62 by decide) (show kR 47 = 15 by rfl) (by decide)
  have k7 := kRv (hκ t) (show 41 < 62 by decide) (show kR 41 = 7 by rfl) (by decide)
  have n7 : ((kR (κ t) : Nat) : Int) ≠ 7 := fun q => by
    have := k7.1 (by omega)
    omega
  have h131 := (hT t hlt.1 hlt.2).1
  have e181 : e_X12_expression_96 d 0 1 M = e_X12_expression_181 d 0 1 M := by
    rw [q_X12_expression_96, r_isN (k := 7) (by omega) hT h n7, amCI_s, if_pos (show (0 : Int) = 0 from rfl), q_X12_expression_145]
    by_cases c8 : κ t = 43
    · rw [r_isY (k := 8) (by omega) hT h (by have := k8.2 c8; omega), amCI_s, if_neg (show ¬ (1 : Int) = 0 by decide)]
    · have n8 : ((kR (κ t) : Nat) : Int) ≠ 8 := fun q => c8 (k8.1 (by omega))
      rw [r_isN (k := 8) (by omega) hT h n8, amCI_s, if_pos (show (0 : Int) = 0 from rfl)]
      by_cases c9 : κ t = 45
      · rw [r_isY (k := 9) (by omega) hT h (by have := k9.2 c9; omega), amCI_s, if_neg (show ¬ (1 : Int) = 0 by decide)]
      · have n9 : ((kR (κ t) : Nat) : Int) ≠ 9 := fun q => c9 (k9.1 (by omega))
        rw [r_isN (k := 9) (by omega) hT h n9, amCI_s, if_pos (show (0 : Int) = 0 from rfl)]
        by_cases c10 : κ t = 42
        · rw [r_isY (k := 10) (by omega) hT h (by have := k10.2 c10; omega), amCI_s, if_neg (show ¬ (1 : Int) = 0 by decide)]
        · have n10 : ((kR (κ t) : Nat) : Int) ≠ 10 := fun q => c10 (k10.1 (by omega))
          have c15 : κ t = 47 := by omega
          rw [r_isN (k := 10) (by omega) hT h n10, amCI_s, if_pos (show (0 : Int) = 0 from rfl), r_isY (k := 15) (by omega) hT h (by have := k15.2 c15; omega), amCI_s, if_neg (show ¬ (1 : Int) = 0 by decide)]
  -- pushed onto a stack
  have push : ∀ (w0 s0 w' s' x : Nat) (eR : Ex) (M1 : AmM), amSame (fCo2 ub cd) M M1 → rSt (S ++ pdL w0 s0) o (cd + eR.length) M1 → rAt M1 cd eR → S ++ pdL w' s' = S ++ pdL w0 s0 ++ [x] → x = kR (κ t) → ∃ M', (if (0 : Int) ≤ M1 12 0 11 ∧ M1 12 0 11 < 403 then (if (0 : Int) ≤ M1 12 0 44 ∧ M1 12 0 44 < 64 then (e_X12_expression_265 d 0 1 (amUp (amUp M1 156 0 (M1 12 0 44).toNat (M1 131 0 (M1 12 0 11).toNat)) 12 0 44 (w32 (((amUp M1 156 0 (M1 12 0 44).toNat (M1 131 0 (M1 12 0 11).toNat)) 12 0 44) + 1)))) else none) else none) = e_X12_expression_265 d 0 1 M' ∧ amSame (fRx ub cd) M M' ∧ rPs κ t M' ∧ rSt (S ++ pdL w' s') o (cd + eR.length) M' ∧ rAt M' cd eR := fun w0 s0 w' s' x eR M1 c2 c3 c4 hpd hx => by
    have hP1 := h.co c2
    have hl0 : (S ++ pdL w0 s0).length ≤ 32 := by
      have := (pdL_len w0 s0).2
      rw [List.length_append]; omega
    have e131 : M1 131 0 t = (x : Int) := by rw [c2 131 0 t (by rfl), h131, hx]
    refine ⟨amUp (amUp M1 156 0 (S ++ pdL w0 s0).length (x : Int)) 12 0 44 (((S ++ pdL w0 s0).length + 1 : Nat) : Int), ?_, ((c2.mono (fCo2_fRx (Nat.le_refl cd))).up (by unfold fRx; simp)).up (by unfold fRx; simp), hP1.mv (by rw [up_j (by decide), up_c (by decide)]) (by rw [up_j (by decide), up_c (by decide)]), ⟨?_, ?_, fun j y hj => ?_, ?_⟩, rAt2_mv eR cd c4 fun j _ _ => ⟨by rw [up_c (by decide), up_c (by decide)], by rw [up_c (by decide), up_c (by decide)]⟩⟩
    · rw [hP1.2.1, if_pos (by omega), c3.2.1, if_pos (by omega), tn_cast, tn_cast, e131, up_c (show 12 ≠ 156 by decide), c3.2.1, w32_n (x := ((S ++ pdL w0 s0).length : Int) + 1) (n := (S ++ pdL w0 s0).length + 1) (by omega) (by omega)]
    · rw [up_j (by decide), up_c (by decide)]; exact c3.1
    · rw [up_on, hpd]
      have el : (S ++ pdL w0 s0 ++ [x]).length = (S ++ pdL w0 s0).length + 1 := List.length_append
      rw [el]
    · rw [hpd] at hj
      rw [up_c (by decide), up_at]
      by_cases ej : j = (S ++ pdL w0 s0).length
      · rw [ej, List.getElem?_append_right (Nat.le_refl _), Nat.sub_self] at hj
        have hj : some x = some y := hj
        cases hj
        rw [if_pos ej]
      · rw [if_neg ej]
        refine c3.2.2.1 j y ?_
        have hjl : j < (S ++ pdL w0 s0).length := by
          by_cases hjl : j < (S ++ pdL w0 s0).length
          · exact hjl
          · have : (S ++ pdL w0 s0 ++ [x]).length = (S ++ pdL w0 s0).length + 1 := List.length_append
            rw [List.getElem?_eq_none (by omega)] at hj; cases hj
        rw [List.getElem?_append_left hjl] at hj
        exact hj
    · rw [up_j (by decide), up_c (by decide)]; exact c3.2.2.2
  rw [e181, q_X12_expression_181, if_neg (show ¬ (1 : Int) = 0 by decide)]
  by_cases hst2 : κ t = 42 ∨ κ t = 47
  · obtain ⟨M1, c1, c2, c3, c4⟩ := r_out1 (D := d) (by omega) hub hws hB (by omega) hcd hst
    have hx : (if κ t = 42 then 10 else 15) = kR (κ t) := by
      rcases hst2 with hq | hq
      · rw [if_pos hq]; exact (k10.2 hq).symm
      · rw [if_neg (by omega)]; exact (k15.2 hq).symm
    have hpd : S ++ pdL w (if κ t = 42 then 10 else 15) = S ++ pdL w 0 ++ [if κ t = 42 then 10 else 15] := by
      unfold pdL
      rw [if_neg (show ¬ (if κ t = 42 then 10 else 15) = 0 by split <;> omega), if_pos rfl, List.append_nil, List.append_assoc]
    obtain ⟨M', p1, p2, p3, p4, p5⟩ := push w 0 w _ _ (flS s) M1 c2 c3 c4 hpd hx
    refine ⟨M', w, _, flS s, ?_, p2, p3, p4, p5, ⟨hws.1, by split <;> omega⟩, Or.inl ⟨hst2, rfl, rfl, rfl⟩⟩
    rcases hst2 with hq | hq
    · rw [r_isY (k := 10) (by omega) hT h (by have := k10.2 hq; omega), amCI_s, if_neg (show ¬ (1 : Int) = 0 by decide), c1, amCV_s]
      exact p1
    · have n10 : ((kR (κ t) : Nat) : Int) ≠ 10 := fun q => by
        have := k10.1 (by omega)
        omega
      rw [r_isN (k := 10) (by omega) hT h n10, amCI_s, if_pos (show (0 : Int) = 0 from rfl), r_isY (k := 15) (by omega) hT h (by have := k15.2 hq; omega), amCI_s, if_neg (show ¬ (1 : Int) = 0 by decide), c1, amCV_s]
      exact p1
  · have hwk : κ t = 43 ∨ κ t = 45 := by omega
    obtain ⟨M1, c1, c2, c3, c4⟩ := r_out0 (D := d) (by omega) hub hws hB (by omega) hcd hst
    have hx : (if κ t = 43 then 8 else 9) = kR (κ t) := by
      rcases hwk with hq | hq
      · rw [if_pos hq]; exact (k8.2 hq).symm
      · rw [if_neg (by omega)]; exact (k9.2 hq).symm
    have e00 : S ++ pdL 0 0 = S := List.append_nil S
    have hpd : S ++ pdL (if κ t = 43 then 8 else 9) 0 = S ++ pdL 0 0 ++ [if κ t = 43 then 8 else 9] := by
      rw [e00]
      unfold pdL
      rw [if_neg (show ¬ (if κ t = 43 then 8 else 9) = 0 by split <;> omega), if_pos rfl, List.append_nil]
    obtain ⟨M', p1, p2, p3, p4, p5⟩ := push 0 0 _ 0 _ (flL w s) M1 c2 (by rw [e00]; exact c3) c4 hpd hx
    refine ⟨M', _, 0, flL w s, ?_, p2, p3, p4, p5, ⟨by split <;> omega, Or.inl rfl⟩, Or.inr ⟨hwk, rfl, rfl, rfl⟩⟩
    have n10 : ((kR (κ t) : Nat) : Int) ≠ 10 := fun q => by
      have := k10.1 (by omega)
      omega
    have n15 : ((kR (κ t) : Nat) : Int) ≠ 15 := fun q => by
      have := k15.1 (by omega)
      omega
    rw [r_isN (k := 10) (by omega) hT h n10, amCI_s, if_pos (show (0 : Int) = 0 from rfl), r_isN (k := 15) (by omega) hT h n15, amCI_s, if_pos (show (0 : Int) = 0 from rfl), c1, amCV_s]
    exact p1
end REV
