/-! PURE: the reference reads units -/
def pdL (w s : Nat) : List Nat := (if w = 0 then [] else [w]) ++ (if s = 0 then [] else [s])
def flS (s : Nat) : Ex := if s = 0 then [] else [(opC s, 0)]
def flL (w s : Nat) : Ex := flS s ++ flS w
def stB (S : List Nat) : Prop := S = [] ∨ ∃ S', S = S' ++ [6]
theorem stB.stop {S : List Nat} {l1 : Int} (h : stB S) : stopS l1 S := by
  rcases h with h | ⟨S', h⟩
  · exact Or.inl h
  · exact Or.inr ⟨S', 6, h, Or.inl rfl⟩
theorem fCo2_up {ub l l' : Nat} (hl : l ≤ l') : ∀ c s j, fCo2 ub l' c s j = true → fCo2 ub l c s j = true := fun c s j hq => by
  unfold fCo2 at hq ⊢
  simp only [Bool.or_eq_true, Bool.and_eq_true, beq_iff_eq, Nat.ble_eq, Nat.blt_eq] at hq ⊢
  rcases hq with hq | hq
  · exact Or.inl hq
  · exact Or.inr ⟨hq.1, by omega⟩
theorem flS_len (s : Nat) : (flS s).length ≤ 1 := by
  unfold flS
  split
  · exact Nat.zero_le 1
  · exact Nat.le_refl 1
theorem pdL_len (w s : Nat) : (pdL w s).length = (flL w s).length ∧ (pdL w s).length ≤ 2 := by
  unfold pdL flL flS
  by_cases hw : w = 0
  · by_cases hs : s = 0
    · rw [if_pos hw, if_pos hs, if_pos hw, if_pos hs]; exact ⟨rfl, by decide⟩
    · rw [if_pos hw, if_neg hs, if_pos hw, if_neg hs]; exact ⟨rfl, by show 1 ≤ 2; omega⟩
  · by_cases hs : s = 0
    · rw [if_neg hw, if_pos hs, if_neg hw, if_pos hs]; exact ⟨rfl, by show 1 ≤ 2; omega⟩
    · rw [if_neg hw, if_neg hs, if_neg hw, if_neg hs]; exact ⟨rfl, by show 2 ≤ 2; omega⟩
section REU
variable {D d t cd o ub : Nat} {κ ν P : Nat → Nat} {M : AmM} {S : List Nat}
def wsOk (w s : Nat) : Prop := (w = 0 ∨ w = 8 ∨ w = 9) ∧ (s = 0 ∨ s = 10 ∨ s = 15)
/-- the strong one comes out -/
theorem r_outS (hd : 1 ≤ d) (hub : ub ≤ 840) {l1 : Int} {w s : Nat} {u : AmV} (hw : wsOk w s) (hS : S.length ≤ 50) (hcd : cd + 3 ≤ ub) (h : rSt (S ++ pdL w s) o cd M) : ∃ (M' : AmM) (u' : AmV), e_X12_comesOut_0 d l1 u M = e_X12_comesOut_0 d l1 u' M' ∧ amSame (fCo2 ub cd) M M' ∧ rSt (S ++ pdL w 0) o (cd + (flS s).length) M' ∧ rAt M' cd (flS s) := by
  by_cases hs : s = 0
  · subst hs
    exact ⟨M, u, rfl, amSame.refl, h, trivial⟩
  · have e : S ++ pdL w s = (S ++ pdL w 0) ++ [s] := by
      unfold pdL
      rw [if_neg hs, if_pos rfl, List.append_nil, List.append_assoc]
    have hl : (S ++ pdL w 0).length ≤ 60 := by
      have := (pdL_len w 0).2
      rw [List.length_append]; omega
    rw [e] at h
    obtain ⟨M', a1, a2, a3, a4⟩ := r_outOne (l1 := l1) (u := u) hd hub (show s ≠ 6 by have := hw.2; omega) (Or.inr (by have := hw.2; omega)) hl (by omega) h
    have ef : flS s = [(opC s, 0)] := if_neg hs
    rw [ef]
    exact ⟨M', _, a1, a2, a3, a4⟩
theorem r_out1 (hD : 2 ≤ D) (hub : ub ≤ 840) {w s : Nat} (hw : wsOk w s) (hst : stB S) (hS : S.length ≤ 50) (hcd : cd + 3 ≤ ub) (h : rSt (S ++ pdL w s) o cd M) : ∃ M', amD amGst D 175 [vR 12 12 0, vI 1] M = some (vU, M') ∧ amSame (fCo2 ub cd) M M' ∧ rSt (S ++ pdL w 0) o (cd + (flS s).length) M' ∧ rAt M' cd (flS s) := by
  obtain ⟨d, rfl⟩ := dS hD
  obtain ⟨M', u', a1, a2, a3, a4⟩ := r_outS (d := d) (l1 := 1) (u := vU) (by omega) hub hw hS hcd h
  refine ⟨M', ?_, a2, a3, a4⟩
  rw [n_X12_comesOut, a1]
  have hl : (S ++ pdL w 0).length ≤ 60 := by
    have := (pdL_len w 0).2
    rw [List.length_append]; omega
  refine r_outStop hl a3 ?_
  by_cases h0 : w = 0
  · have e : S ++ pdL w 0 = S := by unfold pdL; rw [if_pos h0, if_pos rfl, List.append_nil, List.append_nil]
    rw [e]; exact hst.stop
  · have e : S ++ pdL w 0 = S ++ [w] := by unfold pdL; rw [if_neg h0, if_pos rfl, List.append_nil]
    exact Or.inr ⟨S, w, e, Or.inr ⟨by decide, by have := hw.1; omega⟩⟩
theorem r_out0 (hD : 2 ≤ D) (hub : ub ≤ 840) {w s : Nat} (hw : wsOk w s) (hst : stB S) (hS : S.length ≤ 50) (hcd : cd + 3 ≤ ub) (h : rSt (S ++ pdL w s) o cd M) : ∃ M', amD amGst D 175 [vR 12 12 0, vI 0] M = some (vU, M') ∧ amSame (fCo2 ub cd) M M' ∧ rSt S o (cd + (flL w s).length) M' ∧ rAt M' cd (flL w s) := by
  obtain ⟨d, rfl⟩ := dS hD
  obtain ⟨M', u', a1, a2, a3, a4⟩ := r_outS (d := d) (l1 := 0) (u := vU) (by omega) hub hw hS hcd h
  rw [n_X12_comesOut, a1]
  by_cases h0 : w = 0
  · have e : S ++ pdL w 0 = S := by unfold pdL; rw [if_pos h0, if_pos rfl, List.append_nil, List.append_nil]
    have ef : flL w s = flS s := by unfold flL; rw [show flS w = [] from if_pos h0, List.append_nil]
    rw [e] at a3
    rw [ef]
    exact ⟨M', r_outStop (by omega) a3 hst.stop, a2, a3, a4⟩
  · have e : S ++ pdL w 0 = S ++ [w] := by unfold pdL; rw [if_neg h0, if_pos rfl, List.append_nil]
    have ef : flL w s = flS s ++ [(opC w, 0)] := by unfold flL; rw [show flS w = [(opC w, 0)] from if_neg h0]
    have hfs := flS_len s
    rw [e] at a3
    obtain ⟨M2, b1, b2, b3, b4⟩ := r_outOne (d := d) (l1 := 0) (u := u') (by omega) hub (show w ≠ 6 by have := hw.1; omega) (Or.inl rfl) (by omega) (by omega) a3
    rw [ef]
    refine ⟨M2, b1.trans (r_outStop (by omega) b3 hst.stop), a2.trans (b2.mono (fCo2_up (by omega))), ?_, ?_⟩
    · rw [List.length_append, ← Nat.add_assoc]; exact b3
    · refine rAt2_app _ _ cd (rAt2_mv _ cd a4 fun j x y => ?_) b4
      have hb : Nat.ble (cd + (flS s).length) j = false := ble_f (by omega)
      exact ⟨b2 154 0 j (by unfold fCo2; rw [hb]; rfl), b2 155 0 j (by unfold fCo2; rw [hb]; rfl)⟩
theorem rPs.co {M' : AmM} {l : Nat} (h : rPs κ t M) (hs : amSame (fCo2 ub l) M M') : rPs κ t M' := h.mv (hs 12 0 11 (by rfl)) (hs 12 0 13 (by rfl))
theorem rFt.co {c q : Nat} {M' : AmM} {l : Nat} (h : rFt P c q M) (hs : amSame (fCo2 ub l) M M') : rFt P c q M' := h.mv (hs 12 0 11 (by rfl)) (hs 12 0 13 (by rfl)) (hs 12 0 14 (by rfl))
theorem r_goesOnF (hD : 2 ≤ D) {c q : Nat} (h : rFt P c q M) (h4 : M 12 0 11 ≤ 400) : ∃ M', amD amGst D 161 [vR 12 12 0] M = some (vU, M') ∧ amSame fRta M M' ∧ rFt P c q M' := by
  obtain ⟨d, rfl⟩ := dS hD
  have h0 := h.2.2.2.1
  rw [n_X12_goesOn, q_X12_goesOn_0]
  by_cases h5 : M 12 0 11 = 400
  · rw [if_pos h5, r_failF (by omega) h, amCV_s]
    exact ⟨M, rfl, amSame.refl, h⟩
  · rw [if_neg h5, w32_id (by omega) (by omega)]
    refine ⟨_, rfl, amSame.refl.up (by rfl), h.1, ?_, ?_, ?_, ?_⟩
    · rw [up_j (by decide)]; exact h.2.1
    · rw [up_j (by decide)]; exact h.2.2.1
    · rw [up_on]; omega
    · rw [up_on]; omega
/-- the end of an expression behind a FAULT -/
theorem r_96F (hd : 2 ≤ d) (hub : ub ≤ 840) {c q : Nat} (h : rFt P c q M) (hS : S.length ≤ 50) (hcd : cd + S.length < ub) (hst : rSt S o cd M) : ∃ M', e_X12_expression_96 d 0 1 M = some (vU, M') ∧ amSame (fCo2 ub cd) M M' ∧ rFt P c q M' := by
  obtain ⟨d', ed⟩ := dS (show 1 + 1 ≤ d by omega)
  obtain ⟨M', a1, a2⟩ := r_outAny (d := d') (l1 := 0) (by omega) hub S.length S cd vU M (Nat.le_refl _) (by omega) hcd hst
  have a0 : amD amGst d 175 [vR 12 12 0, vI 0] M = some (vU, M') := by rw [ed, n_X12_comesOut]; exact a1
  refine ⟨M', ?_, a2, h.co a2⟩
  rw [q_X12_expression_96, r_isF (by omega) h, amCI_s, if_pos (show (0 : Int) = 0 from rfl), q_X12_expression_145, r_isF (by omega) h, amCI_s, if_pos (show (0 : Int) = 0 from rfl), r_isF (by omega) h, amCI_s, if_pos (show (0 : Int) = 0 from rfl), r_isF (by omega) h, amCI_s, if_pos (show (0 : Int) = 0 from rfl), r_isF (by omega) h, amCI_s, if_pos (show (0 : Int) = 0 from rfl), if_pos (show (0 : Int) = 0 from rfl)]
  by_cases h0 : 0 < M 12 0 12
  · rw [if_pos h0, r_failF (by omega) h, amCV_s, a0, amCV_s]
  · rw [if_neg h0, a0, amCV_s]
/-- the end of a sum: no sign, no ) that is wanted -/
theorem r_145 (hd : 1 ≤ d) (hκ : ∀ q, κ q < 62) (hT : rTk κ ν P M) (h : rPs κ t M) (hs : ¬ sgnK (κ t) = true) : e_X12_expression_145 d 0 1 M = if 0 < M 12 0 12 then (amCV (amD amGst d 159 [vR 12 12 0, vI 1] M) fun M5 => amCV (amD amGst d 175 [vR 12 12 0, vI 0] M5) fun M6 => some (vU, M6)) else (amCV (amD amGst d 175 [vR 12 12 0, vI 0] M) fun M7 => some (vU, M7)) := by
  have hn : ¬ (κ t = 43 ∨ κ t = 45 ∨ κ t = 42 ∨ κ t = 47) := fun q => hs (sgnK_b.2 q)
  have k8 := kRv (hκ t) (show 43 < 62 by decide) (show kR 43 = 8 by rfl) (by decide)
  have k9 := kRv (hκ t) (show 45 < 62 by decide) (show kR 45 = 9 by rfl) (by decide)
  have k10 := kRv (hκ t) (show 42 < 62 by decide) (show kR 42 = 10 by rfl) (by decide)
  have k15 := kRv (hκ t) (show 47 < 62 by decide) (show kR 47 = 15 by rfl) (by decide)
  have n8 : kR (κ t) ≠ 8 := fun q => hn (Or.inl (k8.1 q))
  have n9 : kR (κ t) ≠ 9 := fun q => hn (Or.inr (Or.inl (k9.1 q)))
  have n10 : kR (κ t) ≠ 10 := fun q => hn (Or.inr (Or.inr (Or.inl (k10.1 q))))
  have n15 : kR (κ t) ≠ 15 := fun q => hn (Or.inr (Or.inr (Or.inr (k15.1 q))))
  rw [q_X12_expression_145, r_isN (k := 8) hd hT h (by omega), amCI_s, if_pos (show (0 : Int) = 0 from rfl), r_isN (k := 9) hd hT h (by omega), amCI_s, if_pos (show (0 : Int) = 0 from rfl), r_isN (k := 10) hd hT h (by omega), amCI_s, if_pos (show (0 : Int) = 0 from rfl), r_isN (k := 15) hd hT h (by omega), amCI_s, if_pos (show (0 : Int) = 0 from rfl), if_pos (show (0 : Int) = 0 from rfl)]
/-- what comes of a unit -/
def rUo (ub : Nat) (κ P : Nat → Nat) (d : Nat) (S : List Nat) (o cd : Nat) (r : Pr (Nat × Ex)) (lhs : Option (AmV × AmM)) (M : AmM) : Prop := match r with
  | .inl (c, q) => ∃ M', lhs = some (vU, M') ∧ amSame (fRx ub cd) M M' ∧ rFt P c q M'
  | .inr (t1, e) => ∃ M', lhs = e_X12_expression_96 d 0 1 M' ∧ amSame (fRx ub cd) M M' ∧ rPs κ t1 M' ∧ rSt S o (cd + e.length) M' ∧ rAt M' cd e ∧ cd + e.length + S.length + 420 ≤ ub + t1
def rUnC (ub : Nat) (κ ν P : Nat → Nat) (d o : Nat) (un : Nat → Pr (Nat × Ex)) : Prop := ∀ (t : Nat) (S : List Nat) (cd : Nat) (M : AmM), rTk κ ν P M → rPs κ t M → rSt S o cd M → cd + S.length + 420 ≤ ub + t → S.length ≤ 3 * o + 2 → rUo ub κ P d S o cd (un t) (e_X12_expression_23 d 0 1 M) M
/-- what comes of a sum: something may still wait -/
def rSo (ub : Nat) (κ P : Nat → Nat) (d : Nat) (S : List Nat) (o cd : Nat) (r : Pr (Nat × Ex)) (lhs : Option (AmV × AmM)) (M : AmM) : Prop := match r with
  | .inl (c, q) => ∃ M', lhs = some (vU, M') ∧ amSame (fRx ub cd) M M' ∧ rFt P c q M'
  | .inr (t1, e) => ∃ (M' : AmM) (w s : Nat) (eR : Ex), lhs = e_X12_expression_96 d 0 1 M' ∧ amSame (fRx ub cd) M M' ∧ rPs κ t1 M' ∧ rSt (S ++ pdL w s) o (cd + eR.length) M' ∧ rAt M' cd eR ∧ e = eR ++ flL w s ∧ wsOk w s ∧ ¬ sgnK (κ t1) = true ∧ cd + eR.length + (S ++ pdL w s).length + 420 ≤ ub + t1
def rSmC (ub : Nat) (κ ν P : Nat → Nat) (d o : Nat) (f : Nat → Pr (Nat × Ex)) : Prop := ∀ (t : Nat) (S : List Nat) (cd : Nat) (M : AmM), rTk κ ν P M → rPs κ t M → rSt S o cd M → cd + S.length + 420 ≤ ub + t → S.length ≤ 3 * o → stB S → rSo ub κ P d S o cd (f t) (e_X12_expression_23 d 0 1 M) M
theorem fRx_ta {M' : AmM} (hs : amSame fRta M M') : amSame (fRx ub cd) M M' := hs.mono fRta_fRx
/-- a ( taken -/
theorem r_open (hd : 3 ≤ d) (hT : rTk κ ν P M) (h : rPs κ t M) (hk : κ t = 40) (hst : rSt S o cd M) (ho : o ≤ 6) (hS : S.length ≤ 3 * o + 2) : match goX t with
    | .inl (c, q) => ∃ M', e_X12_expression_46 d 0 1 M = some (vU, M') ∧ amSame (fRx ub cd) M M' ∧ rFt P c q M'
    | .inr t1 => ∃ M', e_X12_expression_46 d 0 1 M = e_X12_expression_23 d 0 1 M' ∧ amSame (fRx ub cd) M M' ∧ rPs κ t1 M' ∧ rSt (S ++ [6]) (o + 1) cd M' := by
  obtain ⟨h1, h2, h3, h4⟩ := hst
  have s0 : amSame (fRx ub cd) M (amUp M 12 0 12 ((o + 1 : Nat) : Int)) := amSame.refl.up (by rfl)
  obtain ⟨M1, a1, a2, a3⟩ := r_goesOn (D := d) (t := t) (by omega) (hT.x s0) (h.mv (up_j (by decide)) (up_j (by decide))) (by omega)
  have h44 : M1 12 0 44 = (S.length : Int) := by rw [a2 12 0 44 (by rfl), up_j (by decide)]; exact h2
  have e46 : e_X12_expression_46 d 0 1 M = e_X12_expression_23 d 0 1 (amUp (amUp M1 156 0 S.length 6) 12 0 44 ((S.length + 1 : Nat) : Int)) := by
    rw [q_X12_expression_46, h1, w32_n (x := (o : Int) + 1) (n := o + 1) (by omega) (by omega), a1, amCV_s, h44, if_pos (by omega), tn_cast, up_c (show 12 ≠ 156 by decide), h44, w32_n (x := (S.length : Int) + 1) (n := S.length + 1) (by omega) (by omega), q_X12_expression_81]
  have s2 : amSame (fRx ub cd) M (amUp (amUp M1 156 0 S.length 6) 12 0 44 ((S.length + 1 : Nat) : Int)) := ((s0.trans (fRx_ta a2)).up (by unfold fRx; simp)).up (by unfold fRx; simp)
  revert a3
  cases goX t with
  | inl x =>
    obtain ⟨c, q⟩ := x
    intro a3
    have hf : rFt P c q (amUp (amUp M1 156 0 S.length 6) 12 0 44 ((S.length + 1 : Nat) : Int)) := a3.mv (by rw [up_j (by decide), up_c (by decide)]) (by rw [up_j (by decide), up_c (by decide)]) (by rw [up_j (by decide), up_c (by decide)])
    exact ⟨_, e46.trans (r_23F (by omega) hf), s2, hf⟩
  | inr t1 =>
    intro a3
    refine ⟨_, e46, s2, a3.mv (by rw [up_j (by decide), up_c (by decide)]) (by rw [up_j (by decide), up_c (by decide)]), ?_, ?_, fun j x hj => ?_, ?_⟩
    · rw [up_j (by decide), up_c (by decide), a2 12 0 12 (by rfl), up_on]
    · rw [up_on, List.length_append]; rfl
    · rw [up_c (by decide), up_at]
      by_cases ej : j = S.length
      · rw [ej, List.getElem?_append_right (Nat.le_refl _), Nat.sub_self] at hj
        have hj : some 6 = some x := hj
        cases hj
        rw [if_pos ej]; rfl
      · rw [if_neg ej, a2 156 0 j (by rfl), up_c (by decide)]
        refine h3 j x ?_
        have hjl : j < S.length := by
          by_cases hjl : j < S.length
          · exact hjl
          · rw [List.getElem?_eq_none (by rw [List.length_append]; show S.length + 1 ≤ j; omega)] at hj; cases hj
        rw [List.getElem?_append_left hjl] at hj
        exact hj
    · rw [up_j (by decide), up_c (by decide), a2 12 0 40 (by rfl), up_j (by decide)]; exact h4
end REU
