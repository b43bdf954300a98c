/-! PURE: the reference reads expressions -/
theorem kR_inj : ∀ k : Nat, k < 62 → ∀ k' : Nat, k' < 62 → kR k = kR k' → kR k ≠ 3 → k = k' := by decide +kernel
theorem kRv {k k' v : Nat} (hk : k < 62) (hk' : k' < 62) (hv : kR k' = v) (h3 : v ≠ 3) : kR k = v ↔ k = k' := ⟨fun h => kR_inj k hk k' hk' (h.trans hv.symm) (by omega), fun h => by rw [h]; exact hv⟩
theorem kR_vow : ∀ k : Nat, k < 62 → (25 ≤ kR k ∧ kR k ≤ 28 ↔ 8 ≤ k ∧ k ≤ 11) := by decide +kernel
theorem kR_var : ∀ k : Nat, k < 62 → (32 ≤ kR k ∧ kR k ≤ 38 ↔ 12 ≤ k ∧ k ≤ 18) := by decide +kernel
theorem kR_vow2 : ∀ k : Nat, k < 12 → 8 ≤ k → kR k = k + 17 := by decide +kernel
theorem kR_var2 : ∀ k : Nat, k < 19 → 12 ≤ k → kR k = k + 20 := by decide +kernel
/-- what taking a TOKEN changes in the reference -/
def fRta : Nat → Nat → Nat → Bool := fun c _ j => c == 12 && (j == 11 || j == 13 || j == 14)
/-- what reading an expression changes there, its codes from l on -/
def fRx (ub l : Nat) : Nat → Nat → Nat → Bool := fun c s j => fRta c s j || (c == 12 && (j == 12 || j == 40 || j == 44)) || c == 156 || ((c == 154 || c == 155) && (Nat.ble l j && Nat.blt j ub))
def fCo2 (ub l : Nat) : Nat → Nat → Nat → Bool := fun c _ j => (c == 12 && (j == 40 || j == 44)) || ((c == 154 || c == 155) && (Nat.ble l j && Nat.blt j ub))
theorem fRta_fRx {ub l : Nat} : ∀ c s j, fRta c s j = true → fRx ub l c s j = true := fun c s j h => by unfold fRx; rw [h]; rfl
theorem fCo2_fRx {ub l l' : Nat} (hl : l ≤ l') : ∀ c s j, fCo2 ub l' c s j = true → fRx ub l c s j = true := fun c s j h => by
  unfold fCo2 at h
  unfold fRx
  simp only [Bool.or_eq_true, Bool.and_eq_true, beq_iff_eq, Nat.ble_eq, Nat.blt_eq] at h ⊢
  rcases h with h | h
  · exact Or.inl (Or.inl (Or.inr ⟨h.1, by omega⟩))
  · exact Or.inr ⟨h.1, by omega⟩
theorem fRx_up {ub l l' : Nat} (hl : l ≤ l') : ∀ c s j, fRx ub l' c s j = true → fRx ub l c s j = true := fun c s j h => by
  unfold fRx at h ⊢
  simp only [Bool.or_eq_true, Bool.and_eq_true, beq_iff_eq, Nat.ble_eq, Nat.blt_eq] at h ⊢
  rcases h with ((h | h) | h) | h
  · exact Or.inl (Or.inl (Or.inl h))
  · exact Or.inl (Or.inl (Or.inr h))
  · exact Or.inl (Or.inr h)
  · exact Or.inr ⟨h.1, by omega⟩
section REX
variable {D d t cd o ub : Nat} {κ ν P : Nat → Nat} {M : AmM} {S : List Nat}
/-- the TOKENS that the reference can come to -/
def rTk (κ ν P : Nat → Nat) (M : AmM) : Prop := ∀ q, q ≤ 400 → goK κ q → M 131 0 q = ((kR (κ q) : Nat) : Int) ∧ M 132 0 q = ((P q : Nat) : Int) ∧ (κ q = 20 → M 133 0 q = ((ν q : Nat) : Int)) ∧ (κ q ≤ 19 → M 134 0 q = ((ν q : Nat) : Int))
theorem rTk.mv {M' : AmM} (h : rTk κ ν P M) (hs : ∀ c j, (c = 131 ∨ c = 132 ∨ c = 133 ∨ c = 134) → M' c 0 j = M c 0 j) : rTk κ ν P M' := fun q a b => by
  have := h q a b
  exact ⟨(hs 131 q (by omega)).trans this.1, (hs 132 q (by omega)).trans this.2.1, fun k => (hs 133 q (by omega)).trans (this.2.2.1 k), fun k => (hs 134 q (by omega)).trans (this.2.2.2 k)⟩
theorem rTk.x {M' : AmM} {l : Nat} (h : rTk κ ν P M) (hs : amSame (fRx ub l) M M') : rTk κ ν P M' := h.mv fun c j hc => hs _ _ _ (by rcases hc with rfl | rfl | rfl | rfl <;> rfl)
def rPs (κ : Nat → Nat) (t : Nat) (M : AmM) : Prop := (t ≤ 400 ∧ goK κ t) ∧ M 12 0 11 = (t : Int) ∧ M 12 0 13 = 0
def rFt (P : Nat → Nat) (c q : Nat) (M : AmM) : Prop := c ≠ 0 ∧ M 12 0 13 = (c : Int) ∧ M 12 0 14 = ((P q : Nat) : Int) ∧ 0 ≤ M 12 0 11 ∧ M 12 0 11 ≤ 402
theorem rPs.mv {M' : AmM} (h : rPs κ t M) (h1 : M' 12 0 11 = M 12 0 11) (h2 : M' 12 0 13 = M 12 0 13) : rPs κ t M' := ⟨h.1, h1.trans h.2.1, h2.trans h.2.2⟩
theorem rFt.mv {c q : Nat} {M' : AmM} (h : rFt P c q M) (h1 : M' 12 0 11 = M 12 0 11) (h2 : M' 12 0 13 = M 12 0 13) (h3 : M' 12 0 14 = M 12 0 14) : rFt P c q M' := ⟨h.1, h2.trans h.2.1, h3.trans h.2.2.1, by rw [h1]; exact h.2.2.2.1, by rw [h1]; exact h.2.2.2.2⟩
theorem r_isY (hD : 1 ≤ D) (hT : rTk κ ν P M) (h : rPs κ t M) {k : Int} (hk : ((kR (κ t) : Nat) : Int) = k) : amD amGst D 158 [vR 12 12 0, vI k] M = some (vI 1, M) := by
  obtain ⟨d, rfl⟩ := dS hD
  have h0 := h.1
  rw [n_X12_is, q_X12_is_0, h.2.2, if_pos (show (0 : Int) = 0 from rfl), h.2.1, if_pos (by omega), tn_cast, (hT t h0.1 h0.2).1, if_pos hk]
theorem r_isN (hD : 1 ≤ D) (hT : rTk κ ν P M) (h : rPs κ t M) {k : Int} (hk : ((kR (κ t) : Nat) : Int) ≠ k) : amD amGst D 158 [vR 12 12 0, vI k] M = some (vI 0, M) := by
  obtain ⟨d, rfl⟩ := dS hD
  have h0 := h.1
  rw [n_X12_is, q_X12_is_0, h.2.2, if_pos (show (0 : Int) = 0 from rfl), h.2.1, if_pos (by omega), tn_cast, (hT t h0.1 h0.2).1, if_neg hk]
theorem r_isF (hD : 1 ≤ D) {c q : Nat} (h : rFt P c q M) {k : Int} : amD amGst D 158 [vR 12 12 0, vI k] M = some (vI 0, M) := by
  obtain ⟨d, rfl⟩ := dS hD
  have := h.1
  rw [n_X12_is, q_X12_is_0, h.2.1, if_neg (by omega)]
theorem r_fail (hD : 1 ≤ D) (hT : rTk κ ν P M) (h : rPs κ t M) {c : Nat} (hc : c ≠ 0) : ∃ M', amD amGst D 159 [vR 12 12 0, vI (c : Int)] M = some (vU, M') ∧ amSame fRta M M' ∧ rFt P c t M' := by
  obtain ⟨d, rfl⟩ := dS hD
  have h0 := h.1
  refine ⟨amUp (amUp M 12 0 13 (c : Int)) 12 0 14 ((P t : Nat) : Int), ?_, (amSame.refl.up (by rfl)).up (by rfl), hc, ?_, up_on, ?_, ?_⟩
  · rw [n_X12_fail, q_X12_fail_0, h.2.2, if_neg (show ¬ (0 : Int) < 0 by omega), up_j (show 11 ≠ 13 by decide), h.2.1, tn_cast, up_c (show 132 ≠ 12 by decide), (hT t h0.1 h0.2).2.1, if_pos (by omega), q_X12_fail_26]
  · rw [up_j (by decide), up_on]
  · rw [up_j (by decide), up_j (by decide), h.2.1]; omega
  · rw [up_j (by decide), up_j (by decide), h.2.1]; omega
theorem r_failF (hD : 1 ≤ D) {c q : Nat} (h : rFt P c q M) {k : Int} : amD amGst D 159 [vR 12 12 0, vI k] M = some (vU, M) := by
  obtain ⟨d, rfl⟩ := dS hD
  have := h.1
  rw [n_X12_fail, q_X12_fail_0, h.2.1, if_pos (by omega)]
/-- to the next TOKEN -/
def goX (t : Nat) : Pr Nat := if t < 400 then .inr (t + 1) else .inl (2, t)
theorem r_goesOn (hD : 2 ≤ D) (hT : rTk κ ν P M) (h : rPs κ t M) (hk : κ t ≠ 21 ∧ κ t ≠ 22) : ∃ M', amD amGst D 161 [vR 12 12 0] M = some (vU, M') ∧ amSame fRta M M' ∧ match goX t with
    | .inl (c, q) => rFt P c q M'
    | .inr t1 => rPs κ t1 M' := by
  obtain ⟨d, rfl⟩ := dS hD
  have h0 := h.1
  rw [n_X12_goesOn, q_X12_goesOn_0, h.2.1]
  unfold goX
  by_cases h4 : t < 400
  · rw [if_neg (by omega), if_pos h4, w32_n (x := (t : Int) + 1) (n := t + 1) (by omega) (by omega)]
    exact ⟨_, rfl, amSame.refl.up (by rfl), ⟨by omega, h0.2.nx hk.1 hk.2⟩, up_on, by rw [up_j (by decide)]; exact h.2.2⟩
  · rw [if_pos (by omega), if_neg h4]
    obtain ⟨M', a1, a2, a3⟩ := r_fail (D := d) (c := 2) (by omega) hT h (by decide)
    exact ⟨M', by rw [show (2 : Int) = ((2 : Nat) : Int) from rfl, a1, amCV_s], a2, a3⟩
theorem tkX_go {w : Nat} (h : κ t = w) : tkX κ w t = goX t := if_pos h
/-- behind a FAULT, a unit -/
theorem r_unitF (hD : 2 ≤ D) {c q : Nat} (h : rFt P c q M) : amD amGst D 177 [vR 12 12 0] M = some (vU, M) := by
  obtain ⟨d, rfl⟩ := dS hD
  have := h.1
  rw [n_X12_unit, q_X12_unit_0, r_isF (by omega) h, amCI_s, if_pos (show (0 : Int) = 0 from rfl), h.2.1, if_neg (by omega), r_failF (by omega) h, amCV_s]
theorem r_23F (hd : 2 ≤ d) {c q : Nat} {l1 l2 : Int} (h : rFt P c q M) : e_X12_expression_23 d l1 l2 M = some (vU, M) := by
  have := h.1
  rw [q_X12_expression_23, r_isF (by omega) h, amCI_s, if_pos (show (0 : Int) = 0 from rfl), r_unitF hd h, amCV_s, h.2.1, if_pos (by omega)]
/-- the stack, the levels, the codes -/
def rSt (S : List Nat) (o cd : Nat) (M : AmM) : Prop := M 12 0 12 = (o : Int) ∧ M 12 0 44 = (S.length : Int) ∧ (∀ j x : Nat, S[j]? = some x → M 156 0 j = (x : Int)) ∧ M 12 0 40 = (cd : Int)
theorem rSt.mv {M' : AmM} (h : rSt S o cd M) (hs : amSame fRta M M') : rSt S o cd M' := ⟨(hs 12 0 12 (by rfl)).trans h.1, (hs 12 0 44 (by rfl)).trans h.2.1, fun j x hj => (hs 156 0 j (by rfl)).trans (h.2.2.1 j x hj), (hs 12 0 40 (by rfl)).trans h.2.2.2⟩
theorem r_emit (hD : 1 ≤ D) {k v : Int} (hcd : cd < 840) (h : M 12 0 40 = (cd : Int)) : amD amGst D 174 [vR 12 12 0, vI k, vI v] M = some (vU, amUp (amUp (amUp M 154 0 cd k) 155 0 cd v) 12 0 40 ((cd + 1 : Nat) : Int)) := by
  obtain ⟨d, rfl⟩ := dS hD
  rw [n_X12_emit, q_X12_emit_0, up_c (show 12 ≠ 154 by decide), h, tn_cast, if_pos (by omega), if_pos (by omega), q_X12_emit_20, up_c (show 12 ≠ 155 by decide), up_c (show 12 ≠ 154 by decide), h, w32_n (x := (cd : Int) + 1) (n := cd + 1) (by omega) (by omega)]
theorem rAt2_mv {M' : AmM} : ∀ (e : Ex) (i : Nat), rAt M i e → (∀ j, i ≤ j → j < i + e.length → M' 154 0 j = M 154 0 j ∧ M' 155 0 j = M 155 0 j) → rAt M' i e
  | [], _, _, _ => trivial
  | x :: r, i, h, hs => by
    obtain ⟨h1, h2⟩ := h
    have hl : (x :: r).length = r.length + 1 := rfl
    have h3 := hs i (by omega) (by omega)
    exact ⟨⟨h3.1.trans h1.1, h3.2.trans h1.2⟩, rAt2_mv r (i + 1) h2 fun j a b => hs j (by omega) (by omega)⟩
theorem rAt2_app : ∀ (e e' : Ex) (i : Nat), rAt M i e → rAt M (i + e.length) e' → rAt M i (e ++ e')
  | [], e', i, _, h => h
  | x :: r, e', i, h, h' => ⟨h.1, rAt2_app r e' (i + 1) h.2 (by
    have hl : (x :: r).length = r.length + 1 := rfl
    rw [hl] at h'
    rw [show i + 1 + r.length = i + (r.length + 1) by omega]
    exact h')⟩
/-- operators: of the stack, of the codes -/
def opC (x : Nat) : Nat := if x = 8 then 2 else if x = 9 then 3 else if x = 10 then 4 else 5
theorem r_outOne (hd : 1 ≤ d) (hub : ub ≤ 840) {l1 : Int} {x : Nat} {u : AmV} (hx : x ≠ 6) (hl : l1 = 0 ∨ x ≠ 8 ∧ x ≠ 9) (hS : S.length ≤ 60) (hcd : cd < ub) (h : rSt (S ++ [x]) o cd M) : ∃ M', e_X12_comesOut_0 d l1 u M = e_X12_comesOut_0 d l1 (vI (x : Int)) M' ∧ amSame (fCo2 ub cd) M M' ∧ rSt S o (cd + 1) M' ∧ rAt M' cd [(opC x, 0)] := by
  obtain ⟨h1, h2, h3, h4⟩ := h
  have hlen : (S ++ [x]).length = S.length + 1 := List.length_append
  rw [hlen] at h2
  have hx2 := h3 S.length x (by rw [List.getElem?_append_right (Nat.le_refl _), Nat.sub_self]; rfl)
  have h42 : e_X12_comesOut_0 d l1 u M = e_X12_comesOut_42 d l1 (x : Int) M := by
    rw [q_X12_comesOut_0, h2, if_pos (by omega), w32_n (x := ((S.length + 1 : Nat) : Int) - 1) (n := S.length) (by omega) (by omega), if_pos (by omega), tn_cast, hx2, if_neg (show ¬ (x : Int) = 6 by omega)]
    by_cases hl0 : l1 = 0
    · rw [if_pos hl0]
    · rw [if_neg hl0, if_neg (show ¬ (x : Int) = 8 by omega), if_neg (show ¬ (x : Int) = 9 by omega)]
  have hm : amUp M 12 0 44 (w32 (M 12 0 44 - 1)) = amUp M 12 0 44 (S.length : Int) := by
    rw [h2, w32_n (x := ((S.length + 1 : Nat) : Int) - 1) (n := S.length) (by omega) (by omega)]
  have hem : ∀ k : Int, amD amGst d 174 [vR 12 12 0, vI k, vI 0] (amUp M 12 0 44 (S.length : Int)) = some (vU, amUp (amUp (amUp (amUp M 12 0 44 (S.length : Int)) 154 0 cd k) 155 0 cd 0) 12 0 40 ((cd + 1 : Nat) : Int)) := fun k => r_emit hd (by omega) ((up_j (by decide)).trans h4)
  have fin : ∀ k : Nat, k = opC x → ∃ M', e_X12_comesOut_0 d l1 (vI (x : Int)) (amUp (amUp (amUp (amUp M 12 0 44 (S.length : Int)) 154 0 cd (k : Int)) 155 0 cd 0) 12 0 40 ((cd + 1 : Nat) : Int)) = e_X12_comesOut_0 d l1 (vI (x : Int)) M' ∧ amSame (fCo2 ub cd) M M' ∧ rSt S o (cd + 1) M' ∧ rAt M' cd [(opC x, 0)] := fun k hk => by
    have hble : Nat.ble cd cd = true := ble_t (Nat.le_refl cd)
    have hblt : Nat.blt cd ub = true := Nat.ble_eq_true_of_le hcd
    refine ⟨_, rfl, (((amSame.refl.up (by rfl)).up (by unfold fCo2; rw [hble, hblt]; rfl)).up (by unfold fCo2; rw [hble, hblt]; rfl)).up (by rfl), ⟨?_, ?_, fun j y hj => ?_, up_on⟩, ⟨⟨?_, ?_⟩, trivial⟩⟩
    · rw [up_j (by decide), up_c (by decide), up_c (by decide), up_j (by decide)]; exact h1
    · rw [up_j (by decide), up_c (by decide), up_c (by decide), up_on]
    · rw [up_c (by decide), up_c (by decide), up_c (by decide), up_c (by decide)]
      refine h3 j y ?_
      have hjl : j < S.length := by
        by_cases hjl : j < S.length
        · exact hjl
        · rw [List.getElem?_eq_none (by omega)] at hj; cases hj
      rw [List.getElem?_append_left hjl]; exact hj
    · rw [up_c (by decide), up_c (by decide), up_on, hk]
    · rw [up_c (by decide), up_on]
  rw [h42, q_X12_comesOut_42, hm]
  unfold opC at fin ⊢
  by_cases h8 : x = 8
  · have := fin 2 (by rw [if_pos h8])
    rw [if_pos (show (x : Int) = 8 by omega), hem, amCV_s]
    exact this
  · rw [if_neg (show ¬ (x : Int) = 8 by omega)]
    by_cases h9 : x = 9
    · have := fin 3 (by rw [if_neg h8, if_pos h9])
      rw [if_pos (show (x : Int) = 9 by omega), hem, amCV_s]
      exact this
    · rw [if_neg (show ¬ (x : Int) = 9 by omega)]
      by_cases h10 : x = 10
      · have := fin 4 (by rw [if_neg h8, if_neg h9, if_pos h10])
        rw [if_pos (show (x : Int) = 10 by omega), hem, amCV_s]
        exact this
      · have := fin 5 (by rw [if_neg h8, if_neg h9, if_neg h10])
        rw [if_neg (show ¬ (x : Int) = 10 by omega), hem, amCV_s]
        exact this
/-- where nothing comes out -/
def stopS (l1 : Int) (S : List Nat) : Prop := S = [] ∨ ∃ (S' : List Nat) (x : Nat), S = S' ++ [x] ∧ (x = 6 ∨ (l1 ≠ 0 ∧ (x = 8 ∨ x = 9)))
theorem r_outStop {l1 : Int} {u : AmV} (hS : S.length ≤ 60) (h : rSt S o cd M) (hst : stopS l1 S) : e_X12_comesOut_0 d l1 u M = some (vU, M) := by
  obtain ⟨h1, h2, h3, h4⟩ := h
  rw [q_X12_comesOut_0, h2]
  rcases hst with hst | ⟨S', x, hst, hx⟩
  · rw [hst, if_neg (by show ¬ (0 : Int) < ((0 : Nat) : Int); omega)]
  · have hlen : S.length = S'.length + 1 := by rw [hst]; exact List.length_append
    have hx2 := h3 S'.length x (by rw [hst, List.getElem?_append_right (Nat.le_refl _), Nat.sub_self]; rfl)
    rw [hlen, if_pos (by omega), w32_n (x := ((S'.length + 1 : Nat) : Int) - 1) (n := S'.length) (by omega) (by omega), if_pos (by omega), tn_cast, hx2]
    by_cases h6 : x = 6
    · rw [if_pos (by omega)]
    · rw [if_neg (show ¬ (x : Int) = 6 by omega)]
      have hx := hx.resolve_left h6
      rw [if_neg hx.1]
      by_cases h8 : x = 8
      · rw [if_pos (by omega)]
      · rw [if_neg (by omega), if_pos (by omega)]
/-- whatever stands on the stack, it comes to its end -/
theorem r_outAny (hd : 1 ≤ d) (hub : ub ≤ 840) {l1 : Int} : ∀ (k : Nat) (S : List Nat) (cd : Nat) (u : AmV) (M : AmM), S.length ≤ k → S.length ≤ 60 → cd + S.length < ub → rSt S o cd M → ∃ M', e_X12_comesOut_0 d l1 u M = some (vU, M') ∧ amSame (fCo2 ub cd) M M'
  | k, S, cd, u, M, hk, hS, hcd, h => by
    by_cases hst : stopS l1 S
    · exact ⟨M, r_outStop hS h hst, amSame.refl⟩
    · rcases List.eq_nil_or_concat S with hn | ⟨S', x, hc⟩
      · exact absurd (Or.inl hn) hst
      · rw [List.concat_eq_append] at hc
        have hlen : S.length = S'.length + 1 := by rw [hc]; exact List.length_append
        have hx6 : x ≠ 6 := fun q => hst (Or.inr ⟨S', x, hc, Or.inl q⟩)
        have hx8 : l1 = 0 ∨ x ≠ 8 ∧ x ≠ 9 := by
          by_cases h0 : l1 = 0
          · exact Or.inl h0
          · refine Or.inr ⟨fun q => hst (Or.inr ⟨S', x, hc, Or.inr ⟨h0, Or.inl q⟩⟩), fun q => hst (Or.inr ⟨S', x, hc, Or.inr ⟨h0, Or.inr q⟩⟩)⟩
        cases k with
        | zero => omega
        | succ k =>
          rw [hc] at h
          obtain ⟨M1, a1, a2, a3, -⟩ := r_outOne (u := u) hd hub hx6 hx8 (by omega) (by omega) h
          obtain ⟨M2, b1, b2⟩ := r_outAny hd hub (l1 := l1) k S' (cd + 1) (vI (x : Int)) M1 (by omega) (by omega) (by omega) a3
          exact ⟨M2, a1.trans b1, a2.trans (b2.mono fun c s j hq => by
            unfold fCo2 at hq ⊢
            simp only [Bool.or_eq_true, Bool.and_eq_true, beq_iff_eq, Nat.ble_eq, Nat.blt_eq] at hq ⊢
            rcases hq with hq | hq
            · exact Or.inl hq
            · exact Or.inr ⟨hq.1, by omega⟩)⟩
end REX
