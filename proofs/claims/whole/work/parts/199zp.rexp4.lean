/-! PURE: the reference's sums -/
section REW
variable {D d t cd o ub : Nat} {κ ν P : Nat → Nat} {M : AmM} {S : List Nat}
def wC (w : Nat) : Nat := if w = 0 then 0 else opC w
theorem wlX_wC {w : Nat} (hw : w = 0 ∨ w = 8 ∨ w = 9) : wlX (wC w) = flS w := by
  rcases hw with rfl | rfl | rfl <;> rfl
theorem r_smLoop (hd : 4 ≤ d) (hub : ub ≤ 840) (hκ : ∀ q, κ q < 62) (ho : o ≤ 6) {un : Nat → Pr (Nat × Ex)} (hC : rUnC ub κ ν P d o un) (hG : ∀ t t1 e, un t = .inr (t1, e) → t < t1 ∧ e.length ≤ t1 - t) (hB : stB S) (hS : S.length ≤ 3 * o) : ∀ (k t : Nat) (w s : Nat) (eR : Ex) (M : AmM), 401 ≤ t + k → rTk κ ν P M → rPs κ t M → rSt (S ++ pdL w s) o (cd + eR.length) M → rAt M cd eR → wsOk w s → cd + eR.length + (S ++ pdL w s).length + 420 ≤ ub + t → rSo ub κ P d S o cd (lpX κ un k t (eR ++ flS s) (wC w)) (e_X12_expression_96 d 0 1 M) M
  | 0, t, w, s, eR, M, hk, hT, h, hst, hat, hws, hb => by
    have := h.1.1
    omega
  | k + 1, t, w, s, eR, M, hk, hT, h, hst, hat, hws, hb => by
    have ht := h.1.1
    have hpl := pdL_len w s
    have hll : (S ++ pdL w s).length = S.length + (pdL w s).length := List.length_append
    unfold lpX
    by_cases hs : sgnK (κ t) = true
    · have hsk := sgnK_b.1 hs
      rw [if_pos hs]
      obtain ⟨M1, w', s', e1, a1, a2, a3, a4, a5, a6, a7⟩ := r_sgn (d := d) (by omega) hub hκ hT h hs hws hst hB (by omega) (by omega)
      have hT1 := hT.x a2
      obtain ⟨M2, b1, b2, b3⟩ := r_goesOn (D := d) (t := t) (by omega) hT1 a3 (by omega)
      have s2 : amSame (fRx ub cd) M M2 := (a2.mono (fRx_up (by omega))).trans (fRx_ta b2)
      have e12 : e_X12_expression_96 d 0 1 M = e_X12_expression_12 d 0 1 M2 := by rw [a1, q_X12_expression_265, b1, amCV_s]
      rw [e12]
      unfold goX at b3
      by_cases h4 : t < 400
      · rw [if_pos h4] at b3 ⊢
        have e23 : e_X12_expression_12 d 0 1 M2 = e_X12_expression_23 d 0 1 M2 := by
          rw [q_X12_expression_12, if_neg (show ¬ (1 : Int) = 0 by decide), b3.2.2, if_pos (show (0 : Int) = 0 from rfl)]
        rw [e23]
        have hpl' := pdL_len w' s'
        have hll' : (S ++ pdL w' s').length = S.length + (pdL w' s').length := List.length_append
        have hfs := flS_len s
        have hlw : (flL w s).length = (flS s).length + (flS w).length := List.length_append
        have hlw' : (flL w' s').length = (flS s').length + (flS w').length := List.length_append
        have hb2 : cd + eR.length + e1.length + (S ++ pdL w' s').length + 420 ≤ ub + (t + 1) := by
          rcases a7 with ⟨c1, c2, c3, c4⟩ | ⟨c1, c2, c3, c4⟩
          · have c5 := flS_len s'
            have c6 : (flS w').length = (flS w).length := by rw [c3]
            rw [c2]; omega
          · have c5 : (flS s').length = 0 := by rw [c4]; rfl
            have c6 := flS_len w'
            rw [c2]; omega
        have hu := hC (t + 1) (S ++ pdL w' s') (cd + eR.length + e1.length) M2 (hT.x s2) b3 (a4.mv b2) hb2 (by omega)
        have hat2 : rAt M2 cd (eR ++ e1) := by
          refine rAt2_mv (M := M1) (eR ++ e1) cd (rAt2_app eR e1 cd (rAt2_mv eR cd hat fun j x y => ?_) a5) fun j _ _ => ⟨b2 154 0 j (by rfl), b2 155 0 j (by rfl)⟩
          have hbl : Nat.ble (cd + eR.length) j = false := ble_f (by omega)
          exact ⟨a2 154 0 j (by unfold fRx fRta; rw [hbl]; rfl), a2 155 0 j (by unfold fRx fRta; rw [hbl]; rfl)⟩
        cases hun : un (t + 1) with
        | inl x =>
          obtain ⟨c, q⟩ := x
          rw [hun] at hu
          obtain ⟨M3, f1, f2, f3⟩ := hu
          exact ⟨M3, f1, s2.trans (f2.mono (fRx_up (by omega))), f3⟩
        | inr x =>
          obtain ⟨t1, e2⟩ := x
          rw [hun] at hu
          obtain ⟨M3, f1, f2, f3, f4, f5, f6⟩ := hu
          obtain ⟨g1, g2⟩ := hG (t + 1) t1 e2 hun
          rw [f1]
          have s3 : amSame (fRx ub cd) M M3 := s2.trans (f2.mono (fRx_up (by omega)))
          have hlen : (eR ++ e1 ++ e2).length = eR.length + e1.length + e2.length := by rw [List.length_append, List.length_append]
          have hat3 : rAt M3 cd (eR ++ e1 ++ e2) := by
            refine rAt2_app (eR ++ e1) e2 cd (rAt2_mv _ cd hat2 fun j x y => ?_) (by rw [List.length_append, ← Nat.add_assoc]; exact f5)
            have hl2 : (eR ++ e1).length = eR.length + e1.length := List.length_append
            have hbl : Nat.ble (cd + eR.length + e1.length) j = false := ble_f (by omega)
            exact ⟨f2 154 0 j (by unfold fRx fRta; rw [hbl]; rfl), f2 155 0 j (by unfold fRx fRta; rw [hbl]; rfl)⟩
          have ih := r_smLoop hd hub hκ ho hC hG hB hS k t1 w' s' (eR ++ e1 ++ e2) M3 (by omega) (hT.x s3) f3 (by rw [hlen, ← Nat.add_assoc, ← Nat.add_assoc]; exact f4) hat3 a6 (by rw [hlen]; omega)
          have el : (if κ t = 42 then lpX κ un k t1 (eR ++ flS s ++ e2 ++ [(4, 0)]) (wC w) else if κ t = 47 then lpX κ un k t1 (eR ++ flS s ++ e2 ++ [(5, 0)]) (wC w) else lpX κ un k t1 (eR ++ flS s ++ wlX (wC w) ++ e2) (if κ t = 43 then 2 else 3)) = lpX κ un k t1 (eR ++ e1 ++ e2 ++ flS s') (wC w') := by
            rcases a7 with ⟨c1, c2, c3, c4⟩ | ⟨c1, c2, c3, c4⟩
            · rw [c2, c3, c4]
              by_cases h42 : κ t = 42
              · rw [if_pos h42, if_pos h42]; rfl
              · rw [if_neg h42, if_pos (show κ t = 47 by omega), if_neg h42]; rfl
            · rw [if_neg (show ¬ κ t = 42 by omega), if_neg (show ¬ κ t = 47 by omega), c2, c3, c4, wlX_wC hws.1]
              have e0 : flS 0 = [] := rfl
              have e3 : (if κ t = 43 then 2 else 3) = wC (if κ t = 43 then 8 else 9) := by split <;> rfl
              rw [e0, List.append_nil, e3]
              unfold flL
              rw [← List.append_assoc]
          show rSo ub κ P d S o cd (if κ t = 42 then lpX κ un k t1 (eR ++ flS s ++ e2 ++ [(4, 0)]) (wC w) else if κ t = 47 then lpX κ un k t1 (eR ++ flS s ++ e2 ++ [(5, 0)]) (wC w) else lpX κ un k t1 (eR ++ flS s ++ wlX (wC w) ++ e2) (if κ t = 43 then 2 else 3)) _ M
          rw [el]
          revert ih
          cases lpX κ un k t1 (eR ++ e1 ++ e2 ++ flS s') (wC w') with
          | inl x =>
            obtain ⟨c, q⟩ := x
            intro ih
            obtain ⟨M4, i1, i2, i3⟩ := ih
            exact ⟨M4, i1, s3.trans i2, i3⟩
          | inr x =>
            obtain ⟨t2, e3⟩ := x
            intro ih
            obtain ⟨M4, w4, s4, eR4, i1, i2, i3⟩ := ih
            exact ⟨M4, w4, s4, eR4, i1, s3.trans i2, i3⟩
      · rw [if_neg h4] at b3 ⊢
        have h13 := b3.2.1
        have hc := b3.1
        refine ⟨M2, ?_, s2, b3⟩
        rw [q_X12_expression_12, if_neg (show ¬ (1 : Int) = 0 by decide), h13, if_neg (by omega)]
    · rw [if_neg hs, wlX_wC hws.1]
      refine ⟨M, w, s, eR, rfl, amSame.refl, h, hst, hat, ?_, hws, hs, hb⟩
      unfold flL
      rw [List.append_assoc]
theorem r_sumX (hd : 4 ≤ d) (hub : ub ≤ 840) (hκ : ∀ q, κ q < 62) (ho : o ≤ 6) {un : Nat → Pr (Nat × Ex)} (hC : rUnC ub κ ν P d o un) (hG : ∀ t t1 e, un t = .inr (t1, e) → t < t1 ∧ e.length ≤ t1 - t) : rSmC ub κ ν P d o (smB κ un) := fun t S cd M hT h hst hb hS hB => by
  have hu := hC t S cd M hT h hst hb (by omega)
  unfold smB
  cases hun : un t with
  | inl x =>
    obtain ⟨c, q⟩ := x
    rw [hun] at hu
    exact hu
  | inr x =>
    obtain ⟨t1, e⟩ := x
    rw [hun] at hu
    obtain ⟨M1, a1, a2, a3, a4, a5, a6⟩ := hu
    obtain ⟨g1, g2⟩ := hG t t1 e hun
    have e00 : S ++ pdL 0 0 = S := List.append_nil S
    have hl := r_smLoop hd hub hκ ho hC hG (cd := cd) hB hS 401 t1 0 0 e M1 (by omega) (hT.x a2) a3 (by rw [e00]; exact a4) a5 ⟨Or.inl rfl, Or.inl rfl⟩ (by rw [e00]; exact a6)
    have e0 : e ++ flS 0 = e := List.append_nil e
    rw [e0] at hl
    rw [a1]
    show rSo ub κ P d S o cd (lpX κ un 401 t1 e 0) _ M
    have ew : wC 0 = 0 := rfl
    rw [ew] at hl
    revert hl
    cases lpX κ un 401 t1 e 0 with
    | inl x =>
      obtain ⟨c, q⟩ := x
      intro hl
      obtain ⟨M2, b1, b2, b3⟩ := hl
      exact ⟨M2, b1, a2.trans b2, b3⟩
    | inr x =>
      obtain ⟨t2, e2⟩ := x
      intro hl
      obtain ⟨M2, w2, s2, eR2, b1, b2, b3⟩ := hl
      exact ⟨M2, w2, s2, eR2, b1, a2.trans b2, b3⟩
theorem r_sums (hd : 4 ≤ d) (hub : ub ≤ 840) (hκ : ∀ q, κ q < 62) (hν : ∀ t, κ t = 20 → ν t < 10000) : ∀ m : Nat, m ≤ 6 → rSmC ub κ ν P d (6 - m) (smX κ ν m)
  | 0, _ => by
    have hu : rUnC ub κ ν P d (6 - 0) (unX κ ν none) := r_unitX hd hub hκ (by omega) (fun _ => rfl) (fun f hf => by cases hf) (fun f hf => by cases hf)
    exact r_sumX hd hub hκ (by omega) hu fun t t1 e hq => by
      have := exGood_un hν 0 t t1 e hq
      exact ⟨this.1, this.2.2.1⟩
  | m + 1, hm => by
    have ih := r_sums hd hub hκ hν m (by omega)
    have hu : rUnC ub κ ν P d (6 - (m + 1)) (unX κ ν (some (smX κ ν m))) := r_unitX hd hub hκ (by omega) (fun q => by cases q) (fun f hf => by
      cases hf
      refine ⟨by omega, ?_⟩
      rw [show 6 - (m + 1) + 1 = 6 - m by omega]
      exact ih) (fun f hf t t1 e hq => by cases hf; exact (exGood_sum hν m t t1 e hq).1)
    exact r_sumX hd hub hκ (by omega) hu fun t t1 e hq => by
      have := exGood_un hν (m + 1) t t1 e hq
      exact ⟨this.1, this.2.2.1⟩
/-- an expression of a law, in the reference -/
def rEo (ub : Nat) (κ P : Nat → Nat) (cd : Nat) (r : Pr (Nat × Ex)) (o : Option (AmV × AmM)) (M : AmM) : Prop := match r with
  | .inl (c, q) => ∃ M', o = some (vU, M') ∧ amSame (fRx ub cd) M M' ∧ rFt P c q M'
  | .inr (t1, e) => ∃ M', o = some (vU, M') ∧ amSame (fRx ub cd) M M' ∧ rPs κ t1 M' ∧ M' 12 0 12 = 0 ∧ M' 12 0 40 = ((cd + e.length : Nat) : Int) ∧ rAt M' cd e ∧ cd + e.length + 420 ≤ ub + t1
theorem r_expr (hD : 5 ≤ D) (hub : ub ≤ 840) (hκ : ∀ q, κ q < 62) (hν : ∀ t, κ t = 20 → ν t < 10000) (hT : rTk κ ν P M) (h : rPs κ t M) (h12 : M 12 0 12 = 0) (h40 : M 12 0 40 = (cd : Int)) (hb : cd + 420 ≤ ub + t) : rEo ub κ P cd (smX κ ν 6 t) (amD amGst D 176 [vR 12 12 0] M) M := by
  obtain ⟨d, rfl⟩ := dS hD
  have s0 : amSame (fRx ub cd) M (amUp M 12 0 44 0) := amSame.refl.up (by rfl)
  have hP0 : rPs κ t (amUp M 12 0 44 0) := h.mv (up_j (by decide)) (up_j (by decide))
  have hst : rSt [] 0 cd (amUp M 12 0 44 0) := ⟨(up_j (by decide)).trans h12, up_on, (fun j x hj => by cases hj), (up_j (by decide)).trans h40⟩
  have hs := r_sums (d := d) (P := P) (by omega) hub hκ hν 6 (by omega) t [] cd (amUp M 12 0 44 0) (hT.x s0) hP0 hst (by show cd + 0 + 420 ≤ ub + t; omega) (by show 0 ≤ _; omega) (Or.inl rfl)
  have e0 : amD amGst (d + 1) 176 [vR 12 12 0] M = e_X12_expression_23 d 0 1 (amUp M 12 0 44 0) := by
    rw [n_X12_expression, q_X12_expression_0, up_j (show 12 ≠ 44 by decide), h12, q_X12_expression_12, if_neg (show ¬ (1 : Int) = 0 by decide), hP0.2.2, if_pos (show (0 : Int) = 0 from rfl)]
  rw [e0]
  revert hs
  cases smX κ ν 6 t with
  | inl x =>
    obtain ⟨c, q⟩ := x
    intro hs
    obtain ⟨M1, a1, a2, a3⟩ := hs
    exact ⟨M1, a1, s0.trans a2, a3⟩
  | inr x =>
    obtain ⟨t1, e⟩ := x
    intro hs
    obtain ⟨M1, w, s, eR, a1, a2, a3, a4, a5, a6, a7, a8, a9⟩ := hs
    have hT1 := (hT.x s0).x a2
    have hpl := pdL_len w s
    have ht1 := a3.1.1
    have hl0 : ([] ++ pdL w s : List Nat).length = (pdL w s).length := rfl
    rw [hl0] at a9
    obtain ⟨M2, b1, b2, b3, b4⟩ := r_out0 (D := d) (by omega) hub a7 (Or.inl rfl) (by show 0 ≤ 50; omega) (by omega) a4
    have elen : e.length = eR.length + (flL w s).length := by rw [a6, List.length_append]
    have e145 : e_X12_expression_96 d 0 1 M1 = e_X12_expression_145 d 0 1 M1 := by
      have k7 := kRv (hκ t1) (show 41 < 62 by decide) (show kR 41 = 7 by rfl) (by decide)
      rw [q_X12_expression_96]
      by_cases h41 : κ t1 = 41
      · rw [r_isY (k := 7) (by omega) hT1 a3 (by have := k7.2 h41; omega), amCI_s, if_neg (show ¬ (1 : Int) = 0 by decide), a4.1, if_neg (show ¬ (0 : Int) < ((0 : Nat) : Int) by omega)]
      · have n7 : ((kR (κ t1) : Nat) : Int) ≠ 7 := fun q => h41 (k7.1 (by omega))
        rw [r_isN (k := 7) (by omega) hT1 a3 n7, amCI_s, if_pos (show (0 : Int) = 0 from rfl)]
    refine ⟨M2, ?_, (s0.trans a2).trans (b2.mono (fCo2_fRx (by omega))), a3.co b2, b3.1, ?_, ?_, by omega⟩
    · rw [a1, e145, r_145 (by omega) hκ hT1 a3 a8, a4.1, if_neg (show ¬ (0 : Int) < ((0 : Nat) : Int) by omega), b1, amCV_s]
    · rw [elen, ← Nat.add_assoc]; exact b3.2.2.2
    · rw [a6]
      refine rAt2_app eR (flL w s) cd (rAt2_mv eR cd a5 fun j x y => ?_) b4
      have hb : Nat.ble (cd + eR.length) j = false := ble_f (by omega)
      exact ⟨b2 154 0 j (by unfold fCo2; rw [hb]; rfl), b2 155 0 j (by unfold fCo2; rw [hb]; rfl)⟩
end REW
