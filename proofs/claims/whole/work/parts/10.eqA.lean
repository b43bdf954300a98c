noncomputable def e_X1_clear_0 (d : Nat) (r0 : Nat) (M : AmM) : Option (AmV × AmM) := amRun (amStep amGst (amD amGst d) cdX1_clear) (0, [vR 1 1 r0, vU], [], M)
noncomputable def e_X1_clear_7 (d : Nat) (r0 : Nat) (l1 : Int) (M : AmM) : Option (AmV × AmM) := amRun (amStep amGst (amD amGst d) cdX1_clear) (7, [vR 1 1 r0, vI l1], [], M)
theorem q_X1_clear_0 (d : Nat) (r0 : Nat) (M : AmM) : e_X1_clear_0 d r0 M =
    e_X1_clear_7 d r0 0 (amUp M 1 r0 1 0) := by
  show amRun _ _ = _
  exact amRun_b 5 (x := .inl (7, [vR 1 1 r0, vI 0], [], amUp M 1 r0 1 0)) rfl
theorem q_X1_clear_7 (d : Nat) (r0 : Nat) (l1 : Int) (M : AmM) : e_X1_clear_7 d r0 l1 M =
    if l1 < 4 then (if (0 : Int) ≤ l1 ∧ l1 < 4 then (e_X1_clear_7 d r0 (w32 (l1 + 1)) (amUp M 101 r0 (l1).toNat (-1))) else none) else (some (vU, M)) := by
  show amRun _ _ = _
  refine (amRun_t (f := amStep amGst (amD amGst d) cdX1_clear) 4 (x := if l1 < 4 then .inl (16, [vR 1 1 r0, vI l1], [], M) else .inl (29, [vR 1 1 r0, vI l1], [], M)) rfl).trans (amK_if ?_ ?_)
  · refine (amRun_t (f := amStep amGst (amD amGst d) cdX1_clear) 4 (x := if (0 : Int) ≤ l1 ∧ l1 < 4 then .inl (23, [vR 1 1 r0, vI l1], [], amUp M 101 r0 (l1).toNat (-1)) else amNo) rfl).trans (amK_if ?_ rfl)
    exact amRun_b 2 (x := .inl (7, [vR 1 1 r0, vI (w32 (l1 + 1))], [], amUp M 101 r0 (l1).toNat (-1))) rfl
  · exact amRun_b 1 (x := .inr (some (vU, M))) rfl
theorem n_X1_clear (d : Nat) (r0 : Nat) (M : AmM) : amD amGst (d + 1) 11 [vR 1 1 r0] M = e_X1_clear_0 d r0 M := rfl
noncomputable def e_X1_copyFrom_0 (d : Nat) (r0 : Nat) (r1 : Nat) (M : AmM) : Option (AmV × AmM) := amRun (amStep amGst (amD amGst d) cdX1_copyFrom) (0, [vR 1 1 r0, vR 1 1 r1], [], M)
theorem q_X1_copyFrom_0 (d : Nat) (r0 : Nat) (r1 : Nat) (M : AmM) : e_X1_copyFrom_0 d r0 r1 M =
    amCV (amD amGst d 144 [vR 20 100 r1, vR 20 100 r0] M) fun M1 => amCV (amD amGst d 144 [vR 20 101 r1, vR 20 101 r0] M1) fun M2 => some (vU, amUp M2 1 r0 1 (M2 1 r1 1)) := by
  show amRun _ _ = _
  refine (amRun_t (f := amStep amGst (amD amGst d) cdX1_copyFrom) 4 (x := amPu 0 (amD amGst d 144 [vR 20 100 r1, vR 20 100 r0] M) (fun z9 M9 => .inl (11, [vR 1 1 r0, vR 1 1 r1], z9 ++ [], M9))) rfl).trans (amK_pV fun M1 => ?_)
  refine (amRun_t (f := amStep amGst (amD amGst d) cdX1_copyFrom) 4 (x := amPu 0 (amD amGst d 144 [vR 20 101 r1, vR 20 101 r0] M1) (fun z9 M9 => .inl (22, [vR 1 1 r0, vR 1 1 r1], z9 ++ [], M9))) rfl).trans (amK_pV fun M2 => ?_)
  exact amRun_b 5 (x := .inr (some (vU, amUp M2 1 r0 1 (M2 1 r1 1)))) rfl
theorem n_X1_copyFrom (d : Nat) (r0 : Nat) (r1 : Nat) (M : AmM) : amD amGst (d + 1) 12 [vR 1 1 r0, vR 1 1 r1] M = e_X1_copyFrom_0 d r0 r1 M := rfl
noncomputable def e_X1_open_0 (d : Nat) (r0 : Nat) (l1 : Int) (M : AmM) : Option (AmV × AmM) := amRun (amStep amGst (amD amGst d) cdX1_open) (0, [vR 1 1 r0, vI l1], [], M)
theorem q_X1_open_0 (d : Nat) (r0 : Nat) (l1 : Int) (M : AmM) : e_X1_open_0 d r0 l1 M =
    amCV (amD amGst d 143 [vR 20 101 r0, vI l1, vI (M 1 r0 1)] M) fun M1 => some (vU, M1) := by
  show amRun _ _ = _
  refine (amRun_t (f := amStep amGst (amD amGst d) cdX1_open) 5 (x := amPu 0 (amD amGst d 143 [vR 20 101 r0, vI l1, vI (M 1 r0 1)] M) (fun z9 M9 => .inl (12, [vR 1 1 r0, vI l1], z9 ++ [], M9))) rfl).trans (amK_pV fun M1 => ?_)
  exact amRun_b 1 (x := .inr (some (vU, M1))) rfl
theorem n_X1_open (d : Nat) (r0 : Nat) (l1 : Int) (M : AmM) : amD amGst (d + 1) 13 [vR 1 1 r0, vI l1] M = e_X1_open_0 d r0 l1 M := rfl
noncomputable def e_X1_emit_0 (d : Nat) (r0 : Nat) (l1 : Int) (l2 : Int) (M : AmM) : Option (AmV × AmM) := amRun (amStep amGst (amD amGst d) cdX1_emit) (0, [vR 1 1 r0, vI l1, vI l2], [], M)
theorem q_X1_emit_0 (d : Nat) (r0 : Nat) (l1 : Int) (l2 : Int) (M : AmM) : e_X1_emit_0 d r0 l1 l2 M =
    if M 1 r0 1 < 401 then (amCV (amD amGst d 143 [vR 20 100 r0, vI (M 1 r0 1), vI (bOr l1 (bShl l2 3))] M) fun M1 => some (vU, amUp M1 1 r0 1 (w32 ((M1 1 r0 1) + 1)))) else (some (vU, M)) := by
  show amRun _ _ = _
  refine (amRun_t (f := amStep amGst (amD amGst d) cdX1_emit) 5 (x := if M 1 r0 1 < 401 then .inl (12, [vR 1 1 r0, vI l1, vI l2], [], M) else .inl (38, [vR 1 1 r0, vI l1, vI l2], [], M)) rfl).trans (amK_if ?_ ?_)
  · refine (amRun_t (f := amStep amGst (amD amGst d) cdX1_emit) 9 (x := amPu 0 (amD amGst d 143 [vR 20 100 r0, vI (M 1 r0 1), vI (bOr l1 (bShl l2 3))] M) (fun z9 M9 => .inl (28, [vR 1 1 r0, vI l1, vI l2], z9 ++ [], M9))) rfl).trans (amK_pV fun M1 => ?_)
    exact amRun_b 7 (x := .inr (some (vU, amUp M1 1 r0 1 (w32 ((M1 1 r0 1) + 1))))) rfl
  · exact amRun_b 1 (x := .inr (some (vU, M))) rfl
theorem n_X1_emit (d : Nat) (r0 : Nat) (l1 : Int) (l2 : Int) (M : AmM) : amD amGst (d + 1) 14 [vR 1 1 r0, vI l1, vI l2] M = e_X1_emit_0 d r0 l1 l2 M := rfl
noncomputable def e_X1_elseHere_0 (d : Nat) (r0 : Nat) (l1 : Int) (M : AmM) : Option (AmV × AmM) := amRun (amStep amGst (amD amGst d) cdX1_elseHere) (0, [vR 1 1 r0, vI l1], [], M)
theorem q_X1_elseHere_0 (d : Nat) (r0 : Nat) (l1 : Int) (M : AmM) : e_X1_elseHere_0 d r0 l1 M =
    amCV (amD amGst d 143 [vR 20 100 r0, vI l1, vI (bOr 3 (bShl (M 1 r0 1) 3))] M) fun M1 => some (vU, M1) := by
  show amRun _ _ = _
  refine (amRun_t (f := amStep amGst (amD amGst d) cdX1_elseHere) 9 (x := amPu 0 (amD amGst d 143 [vR 20 100 r0, vI l1, vI (bOr 3 (bShl (M 1 r0 1) 3))] M) (fun z9 M9 => .inl (16, [vR 1 1 r0, vI l1], z9 ++ [], M9))) rfl).trans (amK_pV fun M1 => ?_)
  exact amRun_b 1 (x := .inr (some (vU, M1))) rfl
theorem n_X1_elseHere (d : Nat) (r0 : Nat) (l1 : Int) (M : AmM) : amD amGst (d + 1) 15 [vR 1 1 r0, vI l1] M = e_X1_elseHere_0 d r0 l1 M := rfl
noncomputable def e_X1_tells_0 (d : Nat) (r0 : Nat) (l1 : Int) (M : AmM) : Option (AmV × AmM) := amRun (amStep amGst (amD amGst d) cdX1_tells) (0, [vR 1 1 r0, vI l1], [], M)
theorem q_X1_tells_0 (d : Nat) (r0 : Nat) (l1 : Int) (M : AmM) : e_X1_tells_0 d r0 l1 M =
    if l1 < 0 then (some (vI 0, M)) else (if l1 < 4 then (if (0 : Int) ≤ l1 ∧ l1 < 4 then (if M 101 r0 (l1).toNat < 0 then (some (vI 0, M)) else (some (vI 1, M))) else none) else (some (vI 0, M))) := by
  show amRun _ _ = _
  refine (amRun_t (f := amStep amGst (amD amGst d) cdX1_tells) 1 (x := if l1 < 0 then .inl (26, [vR 1 1 r0, vI l1], [], M) else .inl (4, [vR 1 1 r0, vI l1], [], M)) rfl).trans (amK_if ?_ ?_)
  · exact amRun_b 2 (x := .inr (some (vI 0, M))) rfl
  · refine (amRun_t (f := amStep amGst (amD amGst d) cdX1_tells) 4 (x := if l1 < 4 then .inl (13, [vR 1 1 r0, vI l1], [], M) else .inl (26, [vR 1 1 r0, vI l1], [], M)) rfl).trans (amK_if ?_ ?_)
    · refine (amRun_t (f := amStep amGst (amD amGst d) cdX1_tells) 3 (x := if (0 : Int) ≤ l1 ∧ l1 < 4 then .inl (19, [vR 1 1 r0, vI l1], [vI (M 101 r0 (l1).toNat)], M) else amNo) rfl).trans (amK_if ?_ rfl)
      refine (amRun_t (f := amStep amGst (amD amGst d) cdX1_tells) 0 (x := if M 101 r0 (l1).toNat < 0 then .inl (26, [vR 1 1 r0, vI l1], [], M) else .inl (22, [vR 1 1 r0, vI l1], [], M)) rfl).trans (amK_if ?_ ?_)
      · exact amRun_b 2 (x := .inr (some (vI 0, M))) rfl
      · exact amRun_b 3 (x := .inr (some (vI 1, M))) rfl
    · exact amRun_b 2 (x := .inr (some (vI 0, M))) rfl
theorem n_X1_tells (d : Nat) (r0 : Nat) (l1 : Int) (M : AmM) : amD amGst (d + 1) 16 [vR 1 1 r0, vI l1] M = e_X1_tells_0 d r0 l1 M := rfl
noncomputable def e_X1_worth_0 (d : Nat) (r0 : Nat) (l1 : Int) (M : AmM) : Option (AmV × AmM) := amRun (amStep amGst (amD amGst d) cdX1_worth) (0, [vR 1 1 r0, vI l1, vR 20 125 0, vU, vU, vU, vU, vU, vU, vU], [], M)
noncomputable def e_X1_worth_34 (d : Nat) (r0 : Nat) (l1 : Int) (l3 : Int) (l4 : Int) (l5 : Int) (l6 : Int) (u7 : AmV) (u8 : AmV) (u9 : AmV) (M : AmM) : Option (AmV × AmM) := amRun (amStep amGst (amD amGst d) cdX1_worth) (34, [vR 1 1 r0, vI l1, vR 20 125 0, vI l3, vI l4, vI l5, vI l6, u7, u8, u9], [], M)
noncomputable def e_X1_worth_91 (d : Nat) (r0 : Nat) (l1 : Int) (l3 : Int) (l4 : Int) (l5 : Int) (l6 : Int) (l7 : Int) (l8 : Int) (u9 : AmV) (M : AmM) : Option (AmV × AmM) := amRun (amStep amGst (amD amGst d) cdX1_worth) (91, [vR 1 1 r0, vI l1, vR 20 125 0, vI l3, vI l4, vI l5, vI l6, vI l7, vI l8, u9], [], M)
noncomputable def e_X1_worth_114 (d : Nat) (r0 : Nat) (l1 : Int) (l3 : Int) (l4 : Int) (l5 : Int) (l6 : Int) (l7 : Int) (l8 : Int) (u9 : AmV) (M : AmM) : Option (AmV × AmM) := amRun (amStep amGst (amD amGst d) cdX1_worth) (114, [vR 1 1 r0, vI l1, vR 20 125 0, vI l3, vI l4, vI l5, vI l6, vI l7, vI l8, u9], [], M)
noncomputable def e_X1_worth_180 (d : Nat) (r0 : Nat) (l1 : Int) (l3 : Int) (l4 : Int) (l5 : Int) (l6 : Int) (l7 : Int) (l8 : Int) (u9 : AmV) (M : AmM) : Option (AmV × AmM) := amRun (amStep amGst (amD amGst d) cdX1_worth) (180, [vR 1 1 r0, vI l1, vR 20 125 0, vI l3, vI l4, vI l5, vI l6, vI l7, vI l8, u9], [], M)
theorem q_X1_worth_0 (d : Nat) (r0 : Nat) (l1 : Int) (M : AmM) : e_X1_worth_0 d r0 l1 M =
    if l1 < 0 then (e_X1_worth_34 d r0 l1 0 0 (-1) (-1) vU vU vU M) else (if l1 < 4 then (if (0 : Int) ≤ l1 ∧ l1 < 4 then (e_X1_worth_34 d r0 l1 0 0 (M 101 r0 (l1).toNat) (M 101 r0 (l1).toNat) vU vU vU M) else none) else (e_X1_worth_34 d r0 l1 0 0 (-1) (-1) vU vU vU M)) := by
  show amRun _ _ = _
  refine (amRun_t (f := amStep amGst (amD amGst d) cdX1_worth) 5 (x := if l1 < 0 then .inl (27, [vR 1 1 r0, vI l1, vR 20 125 0, vI 0, vI 0, vU, vU, vU, vU, vU], [], M) else .inl (9, [vR 1 1 r0, vI l1, vR 20 125 0, vI 0, vI 0, vU, vU, vU, vU, vU], [], M)) rfl).trans (amK_if ?_ ?_)
  · exact amRun_b 4 (x := .inl (34, [vR 1 1 r0, vI l1, vR 20 125 0, vI 0, vI 0, vI (-1), vI (-1), vU, vU, vU], [], M)) rfl
  · refine (amRun_t (f := amStep amGst (amD amGst d) cdX1_worth) 4 (x := if l1 < 4 then .inl (18, [vR 1 1 r0, vI l1, vR 20 125 0, vI 0, vI 0, vU, vU, vU, vU, vU], [], M) else .inl (27, [vR 1 1 r0, vI l1, vR 20 125 0, vI 0, vI 0, vU, vU, vU, vU, vU], [], M)) rfl).trans (amK_if ?_ ?_)
    · refine (amRun_t (f := amStep amGst (amD amGst d) cdX1_worth) 3 (x := if (0 : Int) ≤ l1 ∧ l1 < 4 then .inl (24, [vR 1 1 r0, vI l1, vR 20 125 0, vI 0, vI 0, vU, vU, vU, vU, vU], [vI (M 101 r0 (l1).toNat)], M) else amNo) rfl).trans (amK_if ?_ rfl)
      exact amRun_b 4 (x := .inl (34, [vR 1 1 r0, vI l1, vR 20 125 0, vI 0, vI 0, vI (M 101 r0 (l1).toNat), vI (M 101 r0 (l1).toNat), vU, vU, vU], [], M)) rfl
    · exact amRun_b 4 (x := .inl (34, [vR 1 1 r0, vI l1, vR 20 125 0, vI 0, vI 0, vI (-1), vI (-1), vU, vU, vU], [], M)) rfl
theorem q_X1_worth_34 (d : Nat) (r0 : Nat) (l1 : Int) (l3 : Int) (l4 : Int) (l5 : Int) (l6 : Int) (u7 : AmV) (u8 : AmV) (u9 : AmV) (M : AmM) : e_X1_worth_34 d r0 l1 l3 l4 l5 l6 u7 u8 u9 M =
    if l6 < 0 then (some (vI l3, M)) else (if l6 < 401 then (if (0 : Int) ≤ l6 ∧ l6 < 401 then (if (0 : Int) ≤ l6 ∧ l6 < 401 then (if bAnd (M 100 r0 (l6).toNat) 7 = 0 then (some (vI l3, M)) else (if bAnd (M 100 r0 (l6).toNat) 7 = 1 then (e_X1_worth_91 d r0 l1 l3 l4 l5 l6 (bAnd (M 100 r0 (l6).toNat) 7) (bShr (M 100 r0 (l6).toNat) 3) u9 M) else (if bAnd (M 100 r0 (l6).toNat) 7 = 2 then (e_X1_worth_91 d r0 l1 l3 l4 l5 l6 (bAnd (M 100 r0 (l6).toNat) 7) (bShr (M 100 r0 (l6).toNat) 3) u9 M) else (if w32 (l4 + (-1)) < 0 then (e_X1_worth_180 d r0 l1 l3 (w32 (l4 + (-1))) l5 l6 (bAnd (M 100 r0 (l6).toNat) 7) (bShr (M 100 r0 (l6).toNat) 3) u9 M) else (if w32 (l4 + (-1)) < 24 then (if (0 : Int) ≤ w32 (l4 + (-1)) ∧ w32 (l4 + (-1)) < 24 then (if bAnd (M 100 r0 (l6).toNat) 7 = 3 then (if M 102 r0 (w32 (l4 + (-1))).toNat < l3 then (e_X1_worth_34 d r0 l1 l3 0 l5 (w32 (l6 + 1)) (vI (bAnd (M 100 r0 (l6).toNat) 7)) (vI (bShr (M 100 r0 (l6).toNat) 3)) (vI (M 102 r0 (w32 (l4 + (-1))).toNat)) M) else (if l6 < bShr (M 100 r0 (l6).toNat) 3 then (e_X1_worth_34 d r0 l1 l3 0 l5 (w32 (w32 ((bShr (M 100 r0 (l6).toNat) 3) - 1) + 1)) (vI (bAnd (M 100 r0 (l6).toNat) 7)) (vI (bShr (M 100 r0 (l6).toNat) 3)) (vI (M 102 r0 (w32 (l4 + (-1))).toNat)) M) else (e_X1_worth_34 d r0 l1 l3 0 l5 (w32 (l6 + 1)) (vI (bAnd (M 100 r0 (l6).toNat) 7)) (vI (bShr (M 100 r0 (l6).toNat) 3)) (vI (M 102 r0 (w32 (l4 + (-1))).toNat)) M))) else (if bAnd (M 100 r0 (l6).toNat) 7 = 7 then (if l3 = 0 then (some (vI 0, M)) else (if l3 = 0 then none else (e_X1_worth_34 d r0 l1 (w32 (Int.tdiv (M 102 r0 (w32 (l4 + (-1))).toNat) l3)) (w32 (l4 + (-1))) l5 (w32 (l6 + 1)) (vI (bAnd (M 100 r0 (l6).toNat) 7)) (vI (bShr (M 100 r0 (l6).toNat) 3)) (vI (M 102 r0 (w32 (l4 + (-1))).toNat)) M))) else (if bAnd (M 100 r0 (l6).toNat) 7 = 4 then (e_X1_worth_34 d r0 l1 (w32 ((M 102 r0 (w32 (l4 + (-1))).toNat) + l3)) (w32 (l4 + (-1))) l5 (w32 (l6 + 1)) (vI (bAnd (M 100 r0 (l6).toNat) 7)) (vI (bShr (M 100 r0 (l6).toNat) 3)) (vI (M 102 r0 (w32 (l4 + (-1))).toNat)) M) else (if bAnd (M 100 r0 (l6).toNat) 7 = 5 then (e_X1_worth_34 d r0 l1 (w32 ((M 102 r0 (w32 (l4 + (-1))).toNat) - l3)) (w32 (l4 + (-1))) l5 (w32 (l6 + 1)) (vI (bAnd (M 100 r0 (l6).toNat) 7)) (vI (bShr (M 100 r0 (l6).toNat) 3)) (vI (M 102 r0 (w32 (l4 + (-1))).toNat)) M) else (e_X1_worth_34 d r0 l1 (w32 ((M 102 r0 (w32 (l4 + (-1))).toNat) * l3)) (w32 (l4 + (-1))) l5 (w32 (l6 + 1)) (vI (bAnd (M 100 r0 (l6).toNat) 7)) (vI (bShr (M 100 r0 (l6).toNat) 3)) (vI (M 102 r0 (w32 (l4 + (-1))).toNat)) M))))) else none) else (e_X1_worth_180 d r0 l1 l3 (w32 (l4 + (-1))) l5 l6 (bAnd (M 100 r0 (l6).toNat) 7) (bShr (M 100 r0 (l6).toNat) 3) u9 M)))))) else none) else none) else (some (vI l3, M))) := by
  show amRun _ _ = _
  refine (amRun_t (f := amStep amGst (amD amGst d) cdX1_worth) 1 (x := if l6 < 0 then .inl (277, [vR 1 1 r0, vI l1, vR 20 125 0, vI l3, vI l4, vI l5, vI l6, u7, u8, u9], [], M) else .inl (39, [vR 1 1 r0, vI l1, vR 20 125 0, vI l3, vI l4, vI l5, vI l6, u7, u8, u9], [], M)) rfl).trans (amK_if ?_ ?_)
  · exact amRun_b 2 (x := .inr (some (vI l3, M))) rfl
  · refine (amRun_t (f := amStep amGst (amD amGst d) cdX1_worth) 4 (x := if l6 < 401 then .inl (49, [vR 1 1 r0, vI l1, vR 20 125 0, vI l3, vI l4, vI l5, vI l6, u7, u8, u9], [], M) else .inl (277, [vR 1 1 r0, vI l1, vR 20 125 0, vI l3, vI l4, vI l5, vI l6, u7, u8, u9], [], M)) rfl).trans (amK_if ?_ ?_)
    · refine (amRun_t (f := amStep amGst (amD amGst d) cdX1_worth) 3 (x := if (0 : Int) ≤ l6 ∧ l6 < 401 then .inl (56, [vR 1 1 r0, vI l1, vR 20 125 0, vI l3, vI l4, vI l5, vI l6, u7, u8, u9], [vI (M 100 r0 (l6).toNat)], M) else amNo) rfl).trans (amK_if ?_ rfl)
      refine (amRun_t (f := amStep amGst (amD amGst d) cdX1_worth) 6 (x := if (0 : Int) ≤ l6 ∧ l6 < 401 then .inl (68, [vR 1 1 r0, vI l1, vR 20 125 0, vI l3, vI l4, vI l5, vI l6, vI (bAnd (M 100 r0 (l6).toNat) 7), u8, u9], [vI (M 100 r0 (l6).toNat)], M) else amNo) rfl).trans (amK_if ?_ rfl)
      refine (amRun_t (f := amStep amGst (amD amGst d) cdX1_worth) 4 (x := if bAnd (M 100 r0 (l6).toNat) 7 = 0 then .inl (77, [vR 1 1 r0, vI l1, vR 20 125 0, vI l3, vI l4, vI l5, vI l6, vI (bAnd (M 100 r0 (l6).toNat) 7), vI (bShr (M 100 r0 (l6).toNat) 3), u9], [], M) else .inl (79, [vR 1 1 r0, vI l1, vR 20 125 0, vI l3, vI l4, vI l5, vI l6, vI (bAnd (M 100 r0 (l6).toNat) 7), vI (bShr (M 100 r0 (l6).toNat) 3), u9], [], M)) rfl).trans (amK_if ?_ ?_)
      · exact amRun_b 2 (x := .inr (some (vI l3, M))) rfl
      · refine (amRun_t (f := amStep amGst (amD amGst d) cdX1_worth) 2 (x := if bAnd (M 100 r0 (l6).toNat) 7 = 1 then .inl (91, [vR 1 1 r0, vI l1, vR 20 125 0, vI l3, vI l4, vI l5, vI l6, vI (bAnd (M 100 r0 (l6).toNat) 7), vI (bShr (M 100 r0 (l6).toNat) 3), u9], [], M) else .inl (85, [vR 1 1 r0, vI l1, vR 20 125 0, vI l3, vI l4, vI l5, vI l6, vI (bAnd (M 100 r0 (l6).toNat) 7), vI (bShr (M 100 r0 (l6).toNat) 3), u9], [], M)) rfl).trans (amK_if ?_ ?_)
        · exact amRun_b 0 (x := .inl (91, [vR 1 1 r0, vI l1, vR 20 125 0, vI l3, vI l4, vI l5, vI l6, vI (bAnd (M 100 r0 (l6).toNat) 7), vI (bShr (M 100 r0 (l6).toNat) 3), u9], [], M)) rfl
        · refine (amRun_t (f := amStep amGst (amD amGst d) cdX1_worth) 2 (x := if bAnd (M 100 r0 (l6).toNat) 7 = 2 then .inl (91, [vR 1 1 r0, vI l1, vR 20 125 0, vI l3, vI l4, vI l5, vI l6, vI (bAnd (M 100 r0 (l6).toNat) 7), vI (bShr (M 100 r0 (l6).toNat) 3), u9], [], M) else .inl (152, [vR 1 1 r0, vI l1, vR 20 125 0, vI l3, vI l4, vI l5, vI l6, vI (bAnd (M 100 r0 (l6).toNat) 7), vI (bShr (M 100 r0 (l6).toNat) 3), u9], [], M)) rfl).trans (amK_if ?_ ?_)
          · exact amRun_b 0 (x := .inl (91, [vR 1 1 r0, vI l1, vR 20 125 0, vI l3, vI l4, vI l5, vI l6, vI (bAnd (M 100 r0 (l6).toNat) 7), vI (bShr (M 100 r0 (l6).toNat) 3), u9], [], M)) rfl
          · refine (amRun_t (f := amStep amGst (amD amGst d) cdX1_worth) 2 (x := if w32 (l4 + (-1)) < 0 then .inl (180, [vR 1 1 r0, vI l1, vR 20 125 0, vI l3, vI (w32 (l4 + (-1))), vI l5, vI l6, vI (bAnd (M 100 r0 (l6).toNat) 7), vI (bShr (M 100 r0 (l6).toNat) 3), u9], [], M) else .inl (160, [vR 1 1 r0, vI l1, vR 20 125 0, vI l3, vI (w32 (l4 + (-1))), vI l5, vI l6, vI (bAnd (M 100 r0 (l6).toNat) 7), vI (bShr (M 100 r0 (l6).toNat) 3), u9], [], M)) rfl).trans (amK_if ?_ ?_)
            · exact amRun_b 0 (x := .inl (180, [vR 1 1 r0, vI l1, vR 20 125 0, vI l3, vI (w32 (l4 + (-1))), vI l5, vI l6, vI (bAnd (M 100 r0 (l6).toNat) 7), vI (bShr (M 100 r0 (l6).toNat) 3), u9], [], M)) rfl
            · refine (amRun_t (f := amStep amGst (amD amGst d) cdX1_worth) 4 (x := if w32 (l4 + (-1)) < 24 then .inl (170, [vR 1 1 r0, vI l1, vR 20 125 0, vI l3, vI (w32 (l4 + (-1))), vI l5, vI l6, vI (bAnd (M 100 r0 (l6).toNat) 7), vI (bShr (M 100 r0 (l6).toNat) 3), u9], [], M) else .inl (180, [vR 1 1 r0, vI l1, vR 20 125 0, vI l3, vI (w32 (l4 + (-1))), vI l5, vI l6, vI (bAnd (M 100 r0 (l6).toNat) 7), vI (bShr (M 100 r0 (l6).toNat) 3), u9], [], M)) rfl).trans (amK_if ?_ ?_)
              · refine (amRun_t (f := amStep amGst (amD amGst d) cdX1_worth) 3 (x := if (0 : Int) ≤ w32 (l4 + (-1)) ∧ w32 (l4 + (-1)) < 24 then .inl (177, [vR 1 1 r0, vI l1, vR 20 125 0, vI l3, vI (w32 (l4 + (-1))), vI l5, vI l6, vI (bAnd (M 100 r0 (l6).toNat) 7), vI (bShr (M 100 r0 (l6).toNat) 3), u9], [vI (M 102 r0 (w32 (l4 + (-1))).toNat)], M) else amNo) rfl).trans (amK_if ?_ rfl)
                refine (amRun_t (f := amStep amGst (amD amGst d) cdX1_worth) 4 (x := if bAnd (M 100 r0 (l6).toNat) 7 = 3 then .inl (189, [vR 1 1 r0, vI l1, vR 20 125 0, vI l3, vI (w32 (l4 + (-1))), vI l5, vI l6, vI (bAnd (M 100 r0 (l6).toNat) 7), vI (bShr (M 100 r0 (l6).toNat) 3), vI (M 102 r0 (w32 (l4 + (-1))).toNat)], [], M) else .inl (219, [vR 1 1 r0, vI l1, vR 20 125 0, vI l3, vI (w32 (l4 + (-1))), vI l5, vI l6, vI (bAnd (M 100 r0 (l6).toNat) 7), vI (bShr (M 100 r0 (l6).toNat) 3), vI (M 102 r0 (w32 (l4 + (-1))).toNat)], [], M)) rfl).trans (amK_if ?_ ?_)
                · refine (amRun_t (f := amStep amGst (amD amGst d) cdX1_worth) 4 (x := if M 102 r0 (w32 (l4 + (-1))).toNat < l3 then .inl (205, [vR 1 1 r0, vI l1, vR 20 125 0, vI l3, vI 0, vI l5, vI l6, vI (bAnd (M 100 r0 (l6).toNat) 7), vI (bShr (M 100 r0 (l6).toNat) 3), vI (M 102 r0 (w32 (l4 + (-1))).toNat)], [], M) else .inl (198, [vR 1 1 r0, vI l1, vR 20 125 0, vI l3, vI 0, vI l5, vI l6, vI (bAnd (M 100 r0 (l6).toNat) 7), vI (bShr (M 100 r0 (l6).toNat) 3), vI (M 102 r0 (w32 (l4 + (-1))).toNat)], [], M)) rfl).trans (amK_if ?_ ?_)
                  · exact amRun_b 6 (x := .inl (34, [vR 1 1 r0, vI l1, vR 20 125 0, vI l3, vI 0, vI l5, vI (w32 (l6 + 1)), vI (bAnd (M 100 r0 (l6).toNat) 7), vI (bShr (M 100 r0 (l6).toNat) 3), vI (M 102 r0 (w32 (l4 + (-1))).toNat)], [], M)) rfl
                  · refine (amRun_t (f := amStep amGst (amD amGst d) cdX1_worth) 2 (x := if l6 < bShr (M 100 r0 (l6).toNat) 3 then .inl (210, [vR 1 1 r0, vI l1, vR 20 125 0, vI l3, vI 0, vI l5, vI l6, vI (bAnd (M 100 r0 (l6).toNat) 7), vI (bShr (M 100 r0 (l6).toNat) 3), vI (M 102 r0 (w32 (l4 + (-1))).toNat)], [], M) else .inl (205, [vR 1 1 r0, vI l1, vR 20 125 0, vI l3, vI 0, vI l5, vI l6, vI (bAnd (M 100 r0 (l6).toNat) 7), vI (bShr (M 100 r0 (l6).toNat) 3), vI (M 102 r0 (w32 (l4 + (-1))).toNat)], [], M)) rfl).trans (amK_if ?_ ?_)
                    · exact amRun_b 7 (x := .inl (34, [vR 1 1 r0, vI l1, vR 20 125 0, vI l3, vI 0, vI l5, vI (w32 (w32 ((bShr (M 100 r0 (l6).toNat) 3) - 1) + 1)), vI (bAnd (M 100 r0 (l6).toNat) 7), vI (bShr (M 100 r0 (l6).toNat) 3), vI (M 102 r0 (w32 (l4 + (-1))).toNat)], [], M)) rfl
                    · exact amRun_b 6 (x := .inl (34, [vR 1 1 r0, vI l1, vR 20 125 0, vI l3, vI 0, vI l5, vI (w32 (l6 + 1)), vI (bAnd (M 100 r0 (l6).toNat) 7), vI (bShr (M 100 r0 (l6).toNat) 3), vI (M 102 r0 (w32 (l4 + (-1))).toNat)], [], M)) rfl
                · refine (amRun_t (f := amStep amGst (amD amGst d) cdX1_worth) 2 (x := if bAnd (M 100 r0 (l6).toNat) 7 = 7 then .inl (226, [vR 1 1 r0, vI l1, vR 20 125 0, vI l3, vI (w32 (l4 + (-1))), vI l5, vI l6, vI (bAnd (M 100 r0 (l6).toNat) 7), vI (bShr (M 100 r0 (l6).toNat) 3), vI (M 102 r0 (w32 (l4 + (-1))).toNat)], [], M) else .inl (240, [vR 1 1 r0, vI l1, vR 20 125 0, vI l3, vI (w32 (l4 + (-1))), vI l5, vI l6, vI (bAnd (M 100 r0 (l6).toNat) 7), vI (bShr (M 100 r0 (l6).toNat) 3), vI (M 102 r0 (w32 (l4 + (-1))).toNat)], [], M)) rfl).trans (amK_if ?_ ?_)
                  · refine (amRun_t (f := amStep amGst (amD amGst d) cdX1_worth) 1 (x := if l3 = 0 then .inl (230, [vR 1 1 r0, vI l1, vR 20 125 0, vI l3, vI (w32 (l4 + (-1))), vI l5, vI l6, vI (bAnd (M 100 r0 (l6).toNat) 7), vI (bShr (M 100 r0 (l6).toNat) 3), vI (M 102 r0 (w32 (l4 + (-1))).toNat)], [], M) else .inl (232, [vR 1 1 r0, vI l1, vR 20 125 0, vI l3, vI (w32 (l4 + (-1))), vI l5, vI l6, vI (bAnd (M 100 r0 (l6).toNat) 7), vI (bShr (M 100 r0 (l6).toNat) 3), vI (M 102 r0 (w32 (l4 + (-1))).toNat)], [], M)) rfl).trans (amK_if ?_ ?_)
                    · exact amRun_b 2 (x := .inr (some (vI 0, M))) rfl
                    · refine (amRun_t (f := amStep amGst (amD amGst d) cdX1_worth) 2 (x := if l3 = 0 then amNo else .inl (236, [vR 1 1 r0, vI l1, vR 20 125 0, vI l3, vI (w32 (l4 + (-1))), vI l5, vI l6, vI (bAnd (M 100 r0 (l6).toNat) 7), vI (bShr (M 100 r0 (l6).toNat) 3), vI (M 102 r0 (w32 (l4 + (-1))).toNat)], [vI (w32 (Int.tdiv (M 102 r0 (w32 (l4 + (-1))).toNat) l3))], M)) rfl).trans (amK_if rfl ?_)
                      exact amRun_b 4 (x := .inl (34, [vR 1 1 r0, vI l1, vR 20 125 0, vI (w32 (Int.tdiv (M 102 r0 (w32 (l4 + (-1))).toNat) l3)), vI (w32 (l4 + (-1))), vI l5, vI (w32 (l6 + 1)), vI (bAnd (M 100 r0 (l6).toNat) 7), vI (bShr (M 100 r0 (l6).toNat) 3), vI (M 102 r0 (w32 (l4 + (-1))).toNat)], [], M)) rfl
                  · refine (amRun_t (f := amStep amGst (amD amGst d) cdX1_worth) 2 (x := if bAnd (M 100 r0 (l6).toNat) 7 = 4 then .inl (246, [vR 1 1 r0, vI l1, vR 20 125 0, vI l3, vI (w32 (l4 + (-1))), vI l5, vI l6, vI (bAnd (M 100 r0 (l6).toNat) 7), vI (bShr (M 100 r0 (l6).toNat) 3), vI (M 102 r0 (w32 (l4 + (-1))).toNat)], [], M) else .inl (253, [vR 1 1 r0, vI l1, vR 20 125 0, vI l3, vI (w32 (l4 + (-1))), vI l5, vI l6, vI (bAnd (M 100 r0 (l6).toNat) 7), vI (bShr (M 100 r0 (l6).toNat) 3), vI (M 102 r0 (w32 (l4 + (-1))).toNat)], [], M)) rfl).trans (amK_if ?_ ?_)
                    · exact amRun_b 7 (x := .inl (34, [vR 1 1 r0, vI l1, vR 20 125 0, vI (w32 ((M 102 r0 (w32 (l4 + (-1))).toNat) + l3)), vI (w32 (l4 + (-1))), vI l5, vI (w32 (l6 + 1)), vI (bAnd (M 100 r0 (l6).toNat) 7), vI (bShr (M 100 r0 (l6).toNat) 3), vI (M 102 r0 (w32 (l4 + (-1))).toNat)], [], M)) rfl
                    · refine (amRun_t (f := amStep amGst (amD amGst d) cdX1_worth) 2 (x := if bAnd (M 100 r0 (l6).toNat) 7 = 5 then .inl (259, [vR 1 1 r0, vI l1, vR 20 125 0, vI l3, vI (w32 (l4 + (-1))), vI l5, vI l6, vI (bAnd (M 100 r0 (l6).toNat) 7), vI (bShr (M 100 r0 (l6).toNat) 3), vI (M 102 r0 (w32 (l4 + (-1))).toNat)], [], M) else .inl (266, [vR 1 1 r0, vI l1, vR 20 125 0, vI l3, vI (w32 (l4 + (-1))), vI l5, vI l6, vI (bAnd (M 100 r0 (l6).toNat) 7), vI (bShr (M 100 r0 (l6).toNat) 3), vI (M 102 r0 (w32 (l4 + (-1))).toNat)], [], M)) rfl).trans (amK_if ?_ ?_)
                      · exact amRun_b 7 (x := .inl (34, [vR 1 1 r0, vI l1, vR 20 125 0, vI (w32 ((M 102 r0 (w32 (l4 + (-1))).toNat) - l3)), vI (w32 (l4 + (-1))), vI l5, vI (w32 (l6 + 1)), vI (bAnd (M 100 r0 (l6).toNat) 7), vI (bShr (M 100 r0 (l6).toNat) 3), vI (M 102 r0 (w32 (l4 + (-1))).toNat)], [], M)) rfl
                      · exact amRun_b 6 (x := .inl (34, [vR 1 1 r0, vI l1, vR 20 125 0, vI (w32 ((M 102 r0 (w32 (l4 + (-1))).toNat) * l3)), vI (w32 (l4 + (-1))), vI l5, vI (w32 (l6 + 1)), vI (bAnd (M 100 r0 (l6).toNat) 7), vI (bShr (M 100 r0 (l6).toNat) 3), vI (M 102 r0 (w32 (l4 + (-1))).toNat)], [], M)) rfl
              · exact amRun_b 0 (x := .inl (180, [vR 1 1 r0, vI l1, vR 20 125 0, vI l3, vI (w32 (l4 + (-1))), vI l5, vI l6, vI (bAnd (M 100 r0 (l6).toNat) 7), vI (bShr (M 100 r0 (l6).toNat) 3), u9], [], M)) rfl
    · exact amRun_b 2 (x := .inr (some (vI l3, M))) rfl
theorem q_X1_worth_91 (d : Nat) (r0 : Nat) (l1 : Int) (l3 : Int) (l4 : Int) (l5 : Int) (l6 : Int) (l7 : Int) (l8 : Int) (u9 : AmV) (M : AmM) : e_X1_worth_91 d r0 l1 l3 l4 l5 l6 l7 l8 u9 M =
    if l4 < 0 then (e_X1_worth_114 d r0 l1 l3 l4 l5 l6 l7 l8 u9 M) else (if l4 < 24 then (if (0 : Int) ≤ l4 ∧ l4 < 24 then (e_X1_worth_114 d r0 l1 l3 l4 l5 l6 l7 l8 u9 (amUp M 102 r0 (l4).toNat l3)) else none) else (e_X1_worth_114 d r0 l1 l3 l4 l5 l6 l7 l8 u9 M)) := by
  show amRun _ _ = _
  refine (amRun_t (f := amStep amGst (amD amGst d) cdX1_worth) 1 (x := if l4 < 0 then .inl (114, [vR 1 1 r0, vI l1, vR 20 125 0, vI l3, vI l4, vI l5, vI l6, vI l7, vI l8, u9], [], M) else .inl (96, [vR 1 1 r0, vI l1, vR 20 125 0, vI l3, vI l4, vI l5, vI l6, vI l7, vI l8, u9], [], M)) rfl).trans (amK_if ?_ ?_)
  · exact amRun_b 0 (x := .inl (114, [vR 1 1 r0, vI l1, vR 20 125 0, vI l3, vI l4, vI l5, vI l6, vI l7, vI l8, u9], [], M)) rfl
  · refine (amRun_t (f := amStep amGst (amD amGst d) cdX1_worth) 4 (x := if l4 < 24 then .inl (106, [vR 1 1 r0, vI l1, vR 20 125 0, vI l3, vI l4, vI l5, vI l6, vI l7, vI l8, u9], [], M) else .inl (114, [vR 1 1 r0, vI l1, vR 20 125 0, vI l3, vI l4, vI l5, vI l6, vI l7, vI l8, u9], [], M)) rfl).trans (amK_if ?_ ?_)
    · refine (amRun_t (f := amStep amGst (amD amGst d) cdX1_worth) 4 (x := if (0 : Int) ≤ l4 ∧ l4 < 24 then .inl (114, [vR 1 1 r0, vI l1, vR 20 125 0, vI l3, vI l4, vI l5, vI l6, vI l7, vI l8, u9], [], amUp M 102 r0 (l4).toNat l3) else amNo) rfl).trans (amK_if ?_ rfl)
      exact amRun_b 0 (x := .inl (114, [vR 1 1 r0, vI l1, vR 20 125 0, vI l3, vI l4, vI l5, vI l6, vI l7, vI l8, u9], [], amUp M 102 r0 (l4).toNat l3)) rfl
    · exact amRun_b 0 (x := .inl (114, [vR 1 1 r0, vI l1, vR 20 125 0, vI l3, vI l4, vI l5, vI l6, vI l7, vI l8, u9], [], M)) rfl
theorem q_X1_worth_114 (d : Nat) (r0 : Nat) (l1 : Int) (l3 : Int) (l4 : Int) (l5 : Int) (l6 : Int) (l7 : Int) (l8 : Int) (u9 : AmV) (M : AmM) : e_X1_worth_114 d r0 l1 l3 l4 l5 l6 l7 l8 u9 M =
    if l7 = 1 then (e_X1_worth_34 d r0 l1 l8 (w32 (l4 + 1)) l5 (w32 (l6 + 1)) (vI l7) (vI l8) u9 M) else (if l8 < 0 then (e_X1_worth_34 d r0 l1 0 (w32 (l4 + 1)) l5 (w32 (l6 + 1)) (vI l7) (vI l8) u9 M) else (if l8 < 7 then (if (0 : Int) ≤ l8 ∧ l8 < 7 then (e_X1_worth_34 d r0 l1 (M 125 0 (l8).toNat) (w32 (l4 + 1)) l5 (w32 (l6 + 1)) (vI l7) (vI l8) u9 M) else none) else (e_X1_worth_34 d r0 l1 0 (w32 (l4 + 1)) l5 (w32 (l6 + 1)) (vI l7) (vI l8) u9 M))) := by
  show amRun _ _ = _
  refine (amRun_t (f := amStep amGst (amD amGst d) cdX1_worth) 3 (x := if l7 = 1 then .inl (123, [vR 1 1 r0, vI l1, vR 20 125 0, vI l3, vI (w32 (l4 + 1)), vI l5, vI l6, vI l7, vI l8, u9], [], M) else .inl (128, [vR 1 1 r0, vI l1, vR 20 125 0, vI l3, vI (w32 (l4 + 1)), vI l5, vI l6, vI l7, vI l8, u9], [], M)) rfl).trans (amK_if ?_ ?_)
  · exact amRun_b 6 (x := .inl (34, [vR 1 1 r0, vI l1, vR 20 125 0, vI l8, vI (w32 (l4 + 1)), vI l5, vI (w32 (l6 + 1)), vI l7, vI l8, u9], [], M)) rfl
  · refine (amRun_t (f := amStep amGst (amD amGst d) cdX1_worth) 1 (x := if l8 < 0 then .inl (147, [vR 1 1 r0, vI l1, vR 20 125 0, vI l3, vI (w32 (l4 + 1)), vI l5, vI l6, vI l7, vI l8, u9], [], M) else .inl (133, [vR 1 1 r0, vI l1, vR 20 125 0, vI l3, vI (w32 (l4 + 1)), vI l5, vI l6, vI l7, vI l8, u9], [], M)) rfl).trans (amK_if ?_ ?_)
    · exact amRun_b 5 (x := .inl (34, [vR 1 1 r0, vI l1, vR 20 125 0, vI 0, vI (w32 (l4 + 1)), vI l5, vI (w32 (l6 + 1)), vI l7, vI l8, u9], [], M)) rfl
    · refine (amRun_t (f := amStep amGst (amD amGst d) cdX1_worth) 3 (x := if l8 < 7 then .inl (140, [vR 1 1 r0, vI l1, vR 20 125 0, vI l3, vI (w32 (l4 + 1)), vI l5, vI l6, vI l7, vI l8, u9], [], M) else .inl (147, [vR 1 1 r0, vI l1, vR 20 125 0, vI l3, vI (w32 (l4 + 1)), vI l5, vI l6, vI l7, vI l8, u9], [], M)) rfl).trans (amK_if ?_ ?_)
      · refine (amRun_t (f := amStep amGst (amD amGst d) cdX1_worth) 2 (x := if (0 : Int) ≤ l8 ∧ l8 < 7 then .inl (144, [vR 1 1 r0, vI l1, vR 20 125 0, vI l3, vI (w32 (l4 + 1)), vI l5, vI l6, vI l7, vI l8, u9], [vI (M 125 0 (l8).toNat)], M) else amNo) rfl).trans (amK_if ?_ rfl)
        exact amRun_b 5 (x := .inl (34, [vR 1 1 r0, vI l1, vR 20 125 0, vI (M 125 0 (l8).toNat), vI (w32 (l4 + 1)), vI l5, vI (w32 (l6 + 1)), vI l7, vI l8, u9], [], M)) rfl
      · exact amRun_b 5 (x := .inl (34, [vR 1 1 r0, vI l1, vR 20 125 0, vI 0, vI (w32 (l4 + 1)), vI l5, vI (w32 (l6 + 1)), vI l7, vI l8, u9], [], M)) rfl
theorem q_X1_worth_180 (d : Nat) (r0 : Nat) (l1 : Int) (l3 : Int) (l4 : Int) (l5 : Int) (l6 : Int) (l7 : Int) (l8 : Int) (u9 : AmV) (M : AmM) : e_X1_worth_180 d r0 l1 l3 l4 l5 l6 l7 l8 u9 M =
    if l7 = 3 then (if 0 < l3 then (e_X1_worth_34 d r0 l1 l3 0 l5 (w32 (l6 + 1)) (vI l7) (vI l8) (vI 0) M) else (if l6 < l8 then (e_X1_worth_34 d r0 l1 l3 0 l5 (w32 (w32 (l8 - 1) + 1)) (vI l7) (vI l8) (vI 0) M) else (e_X1_worth_34 d r0 l1 l3 0 l5 (w32 (l6 + 1)) (vI l7) (vI l8) (vI 0) M))) else (if l7 = 7 then (if l3 = 0 then (some (vI 0, M)) else (if l3 = 0 then none else (e_X1_worth_34 d r0 l1 (w32 (Int.tdiv 0 l3)) l4 l5 (w32 (l6 + 1)) (vI l7) (vI l8) (vI 0) M))) else (if l7 = 4 then (e_X1_worth_34 d r0 l1 (w32 (0 + l3)) l4 l5 (w32 (l6 + 1)) (vI l7) (vI l8) (vI 0) M) else (if l7 = 5 then (e_X1_worth_34 d r0 l1 (w32 (0 - l3)) l4 l5 (w32 (l6 + 1)) (vI l7) (vI l8) (vI 0) M) else (e_X1_worth_34 d r0 l1 (w32 (0 * l3)) l4 l5 (w32 (l6 + 1)) (vI l7) (vI l8) (vI 0) M)))) := by
  show amRun _ _ = _
  refine (amRun_t (f := amStep amGst (amD amGst d) cdX1_worth) 4 (x := if l7 = 3 then .inl (189, [vR 1 1 r0, vI l1, vR 20 125 0, vI l3, vI l4, vI l5, vI l6, vI l7, vI l8, vI 0], [], M) else .inl (219, [vR 1 1 r0, vI l1, vR 20 125 0, vI l3, vI l4, vI l5, vI l6, vI l7, vI l8, vI 0], [], M)) rfl).trans (amK_if ?_ ?_)
  · refine (amRun_t (f := amStep amGst (amD amGst d) cdX1_worth) 4 (x := if 0 < l3 then .inl (205, [vR 1 1 r0, vI l1, vR 20 125 0, vI l3, vI 0, vI l5, vI l6, vI l7, vI l8, vI 0], [], M) else .inl (198, [vR 1 1 r0, vI l1, vR 20 125 0, vI l3, vI 0, vI l5, vI l6, vI l7, vI l8, vI 0], [], M)) rfl).trans (amK_if ?_ ?_)
    · exact amRun_b 6 (x := .inl (34, [vR 1 1 r0, vI l1, vR 20 125 0, vI l3, vI 0, vI l5, vI (w32 (l6 + 1)), vI l7, vI l8, vI 0], [], M)) rfl
    · refine (amRun_t (f := amStep amGst (amD amGst d) cdX1_worth) 2 (x := if l6 < l8 then .inl (210, [vR 1 1 r0, vI l1, vR 20 125 0, vI l3, vI 0, vI l5, vI l6, vI l7, vI l8, vI 0], [], M) else .inl (205, [vR 1 1 r0, vI l1, vR 20 125 0, vI l3, vI 0, vI l5, vI l6, vI l7, vI l8, vI 0], [], M)) rfl).trans (amK_if ?_ ?_)
      · exact amRun_b 7 (x := .inl (34, [vR 1 1 r0, vI l1, vR 20 125 0, vI l3, vI 0, vI l5, vI (w32 (w32 (l8 - 1) + 1)), vI l7, vI l8, vI 0], [], M)) rfl
      · exact amRun_b 6 (x := .inl (34, [vR 1 1 r0, vI l1, vR 20 125 0, vI l3, vI 0, vI l5, vI (w32 (l6 + 1)), vI l7, vI l8, vI 0], [], M)) rfl
  · refine (amRun_t (f := amStep amGst (amD amGst d) cdX1_worth) 2 (x := if l7 = 7 then .inl (226, [vR 1 1 r0, vI l1, vR 20 125 0, vI l3, vI l4, vI l5, vI l6, vI l7, vI l8, vI 0], [], M) else .inl (240, [vR 1 1 r0, vI l1, vR 20 125 0, vI l3, vI l4, vI l5, vI l6, vI l7, vI l8, vI 0], [], M)) rfl).trans (amK_if ?_ ?_)
    · refine (amRun_t (f := amStep amGst (amD amGst d) cdX1_worth) 1 (x := if l3 = 0 then .inl (230, [vR 1 1 r0, vI l1, vR 20 125 0, vI l3, vI l4, vI l5, vI l6, vI l7, vI l8, vI 0], [], M) else .inl (232, [vR 1 1 r0, vI l1, vR 20 125 0, vI l3, vI l4, vI l5, vI l6, vI l7, vI l8, vI 0], [], M)) rfl).trans (amK_if ?_ ?_)
      · exact amRun_b 2 (x := .inr (some (vI 0, M))) rfl
      · refine (amRun_t (f := amStep amGst (amD amGst d) cdX1_worth) 2 (x := if l3 = 0 then amNo else .inl (236, [vR 1 1 r0, vI l1, vR 20 125 0, vI l3, vI l4, vI l5, vI l6, vI l7, vI l8, vI 0], [vI (w32 (Int.tdiv 0 l3))], M)) rfl).trans (amK_if rfl ?_)
        exact amRun_b 4 (x := .inl (34, [vR 1 1 r0, vI l1, vR 20 125 0, vI (w32 (Int.tdiv 0 l3)), vI l4, vI l5, vI (w32 (l6 + 1)), vI l7, vI l8, vI 0], [], M)) rfl
    · refine (amRun_t (f := amStep amGst (amD amGst d) cdX1_worth) 2 (x := if l7 = 4 then .inl (246, [vR 1 1 r0, vI l1, vR 20 125 0, vI l3, vI l4, vI l5, vI l6, vI l7, vI l8, vI 0], [], M) else .inl (253, [vR 1 1 r0, vI l1, vR 20 125 0, vI l3, vI l4, vI l5, vI l6, vI l7, vI l8, vI 0], [], M)) rfl).trans (amK_if ?_ ?_)
      · exact amRun_b 7 (x := .inl (34, [vR 1 1 r0, vI l1, vR 20 125 0, vI (w32 (0 + l3)), vI l4, vI l5, vI (w32 (l6 + 1)), vI l7, vI l8, vI 0], [], M)) rfl
      · refine (amRun_t (f := amStep amGst (amD amGst d) cdX1_worth) 2 (x := if l7 = 5 then .inl (259, [vR 1 1 r0, vI l1, vR 20 125 0, vI l3, vI l4, vI l5, vI l6, vI l7, vI l8, vI 0], [], M) else .inl (266, [vR 1 1 r0, vI l1, vR 20 125 0, vI l3, vI l4, vI l5, vI l6, vI l7, vI l8, vI 0], [], M)) rfl).trans (amK_if ?_ ?_)
        · exact amRun_b 7 (x := .inl (34, [vR 1 1 r0, vI l1, vR 20 125 0, vI (w32 (0 - l3)), vI l4, vI l5, vI (w32 (l6 + 1)), vI l7, vI l8, vI 0], [], M)) rfl
        · exact amRun_b 6 (x := .inl (34, [vR 1 1 r0, vI l1, vR 20 125 0, vI (w32 (0 * l3)), vI l4, vI l5, vI (w32 (l6 + 1)), vI l7, vI l8, vI 0], [], M)) rfl
theorem n_X1_worth (d : Nat) (r0 : Nat) (l1 : Int) (M : AmM) : amD amGst (d + 1) 17 [vR 1 1 r0, vI l1, vR 20 125 0] M = e_X1_worth_0 d r0 l1 M := rfl
noncomputable def e_X5_start_0 (d : Nat) (r0 : Nat) (M : AmM) : Option (AmV × AmM) := amRun (amStep amGst (amD amGst d) cdX5_start) (0, [vR 5 5 r0], [], M)
theorem q_X5_start_0 (d : Nat) (r0 : Nat) (M : AmM) : e_X5_start_0 d r0 M =
    amCV (amD amGst d 52 [vR 6 6 r0, vR 8 8 0] M) fun M1 => amCV (amD amGst d 145 [vR 20 108 r0] M1) fun M2 => amCV (amD amGst d 145 [vR 20 109 r0] M2) fun M3 => amCV (amD amGst d 145 [vR 20 110 r0] M3) fun M4 => amCV (amD amGst d 145 [vR 20 111 r0] M4) fun M5 => some (vU, amUp (amUp M5 5 r0 6 (M5 8 0 7)) 5 r0 7 0) := by
  show amRun _ _ = _
  refine (amRun_t (f := amStep amGst (amD amGst d) cdX5_start) 4 (x := amPu 0 (amD amGst d 52 [vR 6 6 r0, vR 8 8 0] M) (fun z9 M9 => .inl (11, [vR 5 5 r0], z9 ++ [], M9))) rfl).trans (amK_pV fun M1 => ?_)
  refine (amRun_t (f := amStep amGst (amD amGst d) cdX5_start) 2 (x := amPu 0 (amD amGst d 145 [vR 20 108 r0] M1) (fun z9 M9 => .inl (18, [vR 5 5 r0], z9 ++ [], M9))) rfl).trans (amK_pV fun M2 => ?_)
  refine (amRun_t (f := amStep amGst (amD amGst d) cdX5_start) 2 (x := amPu 0 (amD amGst d 145 [vR 20 109 r0] M2) (fun z9 M9 => .inl (25, [vR 5 5 r0], z9 ++ [], M9))) rfl).trans (amK_pV fun M3 => ?_)
  refine (amRun_t (f := amStep amGst (amD amGst d) cdX5_start) 2 (x := amPu 0 (amD amGst d 145 [vR 20 110 r0] M3) (fun z9 M9 => .inl (32, [vR 5 5 r0], z9 ++ [], M9))) rfl).trans (amK_pV fun M4 => ?_)
  refine (amRun_t (f := amStep amGst (amD amGst d) cdX5_start) 2 (x := amPu 0 (amD amGst d 145 [vR 20 111 r0] M4) (fun z9 M9 => .inl (39, [vR 5 5 r0], z9 ++ [], M9))) rfl).trans (amK_pV fun M5 => ?_)
  exact amRun_b 9 (x := .inr (some (vU, amUp (amUp M5 5 r0 6 (M5 8 0 7)) 5 r0 7 0))) rfl
theorem n_X5_start (d : Nat) (r0 : Nat) (M : AmM) : amD amGst (d + 1) 44 [vR 5 5 r0] M = e_X5_start_0 d r0 M := rfl
noncomputable def e_X5_copyFrom_0 (d : Nat) (r0 : Nat) (r1 : Nat) (M : AmM) : Option (AmV × AmM) := amRun (amStep amGst (amD amGst d) cdX5_copyFrom) (0, [vR 5 5 r0, vR 5 5 r1], [], M)
theorem q_X5_copyFrom_0 (d : Nat) (r0 : Nat) (r1 : Nat) (M : AmM) : e_X5_copyFrom_0 d r0 r1 M =
    amCV (amD amGst d 53 [vR 6 6 r0, vR 6 6 r1] M) fun M1 => amCV (amD amGst d 144 [vR 20 108 r1, vR 20 108 r0] M1) fun M2 => amCV (amD amGst d 144 [vR 20 109 r1, vR 20 109 r0] M2) fun M3 => amCV (amD amGst d 144 [vR 20 110 r1, vR 20 110 r0] M3) fun M4 => amCV (amD amGst d 144 [vR 20 111 r1, vR 20 111 r0] M4) fun M5 => some (vU, amUp (amUp M5 5 r0 6 (M5 5 r1 6)) 5 r0 7 ((amUp M5 5 r0 6 (M5 5 r1 6)) 5 r1 7)) := by
  show amRun _ _ = _
  refine (amRun_t (f := amStep amGst (amD amGst d) cdX5_copyFrom) 4 (x := amPu 0 (amD amGst d 53 [vR 6 6 r0, vR 6 6 r1] M) (fun z9 M9 => .inl (11, [vR 5 5 r0, vR 5 5 r1], z9 ++ [], M9))) rfl).trans (amK_pV fun M1 => ?_)
  refine (amRun_t (f := amStep amGst (amD amGst d) cdX5_copyFrom) 4 (x := amPu 0 (amD amGst d 144 [vR 20 108 r1, vR 20 108 r0] M1) (fun z9 M9 => .inl (22, [vR 5 5 r0, vR 5 5 r1], z9 ++ [], M9))) rfl).trans (amK_pV fun M2 => ?_)
  refine (amRun_t (f := amStep amGst (amD amGst d) cdX5_copyFrom) 4 (x := amPu 0 (amD amGst d 144 [vR 20 109 r1, vR 20 109 r0] M2) (fun z9 M9 => .inl (33, [vR 5 5 r0, vR 5 5 r1], z9 ++ [], M9))) rfl).trans (amK_pV fun M3 => ?_)
  refine (amRun_t (f := amStep amGst (amD amGst d) cdX5_copyFrom) 4 (x := amPu 0 (amD amGst d 144 [vR 20 110 r1, vR 20 110 r0] M3) (fun z9 M9 => .inl (44, [vR 5 5 r0, vR 5 5 r1], z9 ++ [], M9))) rfl).trans (amK_pV fun M4 => ?_)
  refine (amRun_t (f := amStep amGst (amD amGst d) cdX5_copyFrom) 4 (x := amPu 0 (amD amGst d 144 [vR 20 111 r1, vR 20 111 r0] M4) (fun z9 M9 => .inl (55, [vR 5 5 r0, vR 5 5 r1], z9 ++ [], M9))) rfl).trans (amK_pV fun M5 => ?_)
  exact amRun_b 9 (x := .inr (some (vU, amUp (amUp M5 5 r0 6 (M5 5 r1 6)) 5 r0 7 ((amUp M5 5 r0 6 (M5 5 r1 6)) 5 r1 7)))) rfl
theorem n_X5_copyFrom (d : Nat) (r0 : Nat) (r1 : Nat) (M : AmM) : amD amGst (d + 1) 45 [vR 5 5 r0, vR 5 5 r1] M = e_X5_copyFrom_0 d r0 r1 M := rfl
noncomputable def e_X5_settle_0 (d : Nat) (r0 : Nat) (l1 : Int) (l2 : Int) (l3 : Int) (l4 : Int) (M : AmM) : Option (AmV × AmM) := amRun (amStep amGst (amD amGst d) cdX5_settle) (0, [vR 5 5 r0, vI l1, vI l2, vI l3, vI l4], [], M)
theorem q_X5_settle_0 (d : Nat) (r0 : Nat) (l1 : Int) (l2 : Int) (l3 : Int) (l4 : Int) (M : AmM) : e_X5_settle_0 d r0 l1 l2 l3 l4 M =
    amCV (amD amGst d 143 [vR 20 108 r0, vI l1, vI l3] M) fun M1 => amCI (amD amGst d 142 [vR 20 109 r0, vI l1] M1) fun v2 M2 => amCV (amD amGst d 143 [vR 20 109 r0, vI l1, vI (w32 (v2 + l4))] M2) fun M3 => amCI (amD amGst d 142 [vR 20 110 r0, vI l1] M3) fun v4 M4 => if l2 = 0 then (amCV (amD amGst d 143 [vR 20 110 r0, vI l1, vI (w32 (v4 + 1))] M4) fun M5 => if l2 = 2 then (amCV (amD amGst d 143 [vR 20 111 r0, vI l1, vI 1] M5) fun M6 => some (vU, M6)) else (amCV (amD amGst d 143 [vR 20 111 r0, vI l1, vI 0] M5) fun M7 => some (vU, M7))) else (amCV (amD amGst d 143 [vR 20 110 r0, vI l1, vI (w32 (v4 + 0))] M4) fun M8 => if l2 = 2 then (amCV (amD amGst d 143 [vR 20 111 r0, vI l1, vI 1] M8) fun M9 => some (vU, M9)) else (amCV (amD amGst d 143 [vR 20 111 r0, vI l1, vI 0] M8) fun M10 => some (vU, M10))) := by
  show amRun _ _ = _
  refine (amRun_t (f := amStep amGst (amD amGst d) cdX5_settle) 4 (x := amPu 0 (amD amGst d 143 [vR 20 108 r0, vI l1, vI l3] M) (fun z9 M9 => .inl (9, [vR 5 5 r0, vI l1, vI l2, vI l3, vI l4], z9 ++ [], M9))) rfl).trans (amK_pV fun M1 => ?_)
  refine (amRun_t (f := amStep amGst (amD amGst d) cdX5_settle) 6 (x := amPu 1 (amD amGst d 142 [vR 20 109 r0, vI l1] M1) (fun z9 M9 => .inl (22, [vR 5 5 r0, vI l1, vI l2, vI l3, vI l4], z9 ++ [vI l1, vR 20 109 r0], M9))) rfl).trans (amK_pI fun v2 M2 => ?_)
  refine (amRun_t (f := amStep amGst (amD amGst d) cdX5_settle) 2 (x := amPu 0 (amD amGst d 143 [vR 20 109 r0, vI l1, vI (w32 (v2 + l4))] M2) (fun z9 M9 => .inl (28, [vR 5 5 r0, vI l1, vI l2, vI l3, vI l4], z9 ++ [], M9))) rfl).trans (amK_pV fun M3 => ?_)
  refine (amRun_t (f := amStep amGst (amD amGst d) cdX5_settle) 6 (x := amPu 1 (amD amGst d 142 [vR 20 110 r0, vI l1] M3) (fun z9 M9 => .inl (41, [vR 5 5 r0, vI l1, vI l2, vI l3, vI l4], z9 ++ [vI l1, vR 20 110 r0], M9))) rfl).trans (amK_pI fun v4 M4 => ?_)
  refine (amRun_t (f := amStep amGst (amD amGst d) cdX5_settle) 1 (x := if l2 = 0 then .inl (45, [vR 5 5 r0, vI l1, vI l2, vI l3, vI l4], [vI v4, vI l1, vR 20 110 r0], M4) else .inl (49, [vR 5 5 r0, vI l1, vI l2, vI l3, vI l4], [vI v4, vI l1, vR 20 110 r0], M4)) rfl).trans (amK_if ?_ ?_)
  · refine (amRun_t (f := amStep amGst (amD amGst d) cdX5_settle) 3 (x := amPu 0 (amD amGst d 143 [vR 20 110 r0, vI l1, vI (w32 (v4 + 1))] M4) (fun z9 M9 => .inl (54, [vR 5 5 r0, vI l1, vI l2, vI l3, vI l4], z9 ++ [], M9))) rfl).trans (amK_pV fun M5 => ?_)
    refine (amRun_t (f := amStep amGst (amD amGst d) cdX5_settle) 5 (x := if l2 = 2 then .inl (64, [vR 5 5 r0, vI l1, vI l2, vI l3, vI l4], [vI l1, vR 20 111 r0], M5) else .inl (68, [vR 5 5 r0, vI l1, vI l2, vI l3, vI l4], [vI l1, vR 20 111 r0], M5)) rfl).trans (amK_if ?_ ?_)
    · refine (amRun_t (f := amStep amGst (amD amGst d) cdX5_settle) 2 (x := amPu 0 (amD amGst d 143 [vR 20 111 r0, vI l1, vI 1] M5) (fun z9 M9 => .inl (72, [vR 5 5 r0, vI l1, vI l2, vI l3, vI l4], z9 ++ [], M9))) rfl).trans (amK_pV fun M6 => ?_)
      exact amRun_b 1 (x := .inr (some (vU, M6))) rfl
    · refine (amRun_t (f := amStep amGst (amD amGst d) cdX5_settle) 1 (x := amPu 0 (amD amGst d 143 [vR 20 111 r0, vI l1, vI 0] M5) (fun z9 M9 => .inl (72, [vR 5 5 r0, vI l1, vI l2, vI l3, vI l4], z9 ++ [], M9))) rfl).trans (amK_pV fun M7 => ?_)
      exact amRun_b 1 (x := .inr (some (vU, M7))) rfl
  · refine (amRun_t (f := amStep amGst (amD amGst d) cdX5_settle) 2 (x := amPu 0 (amD amGst d 143 [vR 20 110 r0, vI l1, vI (w32 (v4 + 0))] M4) (fun z9 M9 => .inl (54, [vR 5 5 r0, vI l1, vI l2, vI l3, vI l4], z9 ++ [], M9))) rfl).trans (amK_pV fun M8 => ?_)
    refine (amRun_t (f := amStep amGst (amD amGst d) cdX5_settle) 5 (x := if l2 = 2 then .inl (64, [vR 5 5 r0, vI l1, vI l2, vI l3, vI l4], [vI l1, vR 20 111 r0], M8) else .inl (68, [vR 5 5 r0, vI l1, vI l2, vI l3, vI l4], [vI l1, vR 20 111 r0], M8)) rfl).trans (amK_if ?_ ?_)
    · refine (amRun_t (f := amStep amGst (amD amGst d) cdX5_settle) 2 (x := amPu 0 (amD amGst d 143 [vR 20 111 r0, vI l1, vI 1] M8) (fun z9 M9 => .inl (72, [vR 5 5 r0, vI l1, vI l2, vI l3, vI l4], z9 ++ [], M9))) rfl).trans (amK_pV fun M9 => ?_)
      exact amRun_b 1 (x := .inr (some (vU, M9))) rfl
    · refine (amRun_t (f := amStep amGst (amD amGst d) cdX5_settle) 1 (x := amPu 0 (amD amGst d 143 [vR 20 111 r0, vI l1, vI 0] M8) (fun z9 M9 => .inl (72, [vR 5 5 r0, vI l1, vI l2, vI l3, vI l4], z9 ++ [], M9))) rfl).trans (amK_pV fun M10 => ?_)
      exact amRun_b 1 (x := .inr (some (vU, M10))) rfl
theorem n_X5_settle (d : Nat) (r0 : Nat) (l1 : Int) (l2 : Int) (l3 : Int) (l4 : Int) (M : AmM) : amD amGst (d + 1) 46 [vR 5 5 r0, vI l1, vI l2, vI l3, vI l4] M = e_X5_settle_0 d r0 l1 l2 l3 l4 M := rfl
noncomputable def e_X5_passNight_0 (d : Nat) (r0 : Nat) (M : AmM) : Option (AmV × AmM) := amRun (amStep amGst (amD amGst d) cdX5_passNight) (0, [vR 5 5 r0], [], M)
noncomputable def e_X5_passNight_51 (d : Nat) (r0 : Nat) (M : AmM) : Option (AmV × AmM) := amRun (amStep amGst (amD amGst d) cdX5_passNight) (51, [vR 5 5 r0], [], M)
theorem q_X5_passNight_0 (d : Nat) (r0 : Nat) (M : AmM) : e_X5_passNight_0 d r0 M =
    amCI (amD amGst d 84 [vR 8 8 0, vI (M 5 r0 7)] M) fun v1 M1 => amCI (amD amGst d 61 [vR 6 6 r0, vI v1] M1) fun v2 M2 => e_X5_passNight_51 d r0 (amUp (amUp M2 5 r0 6 (amMin 9999 (w32 ((M2 5 r0 6) + (M2 8 0 8))))) 5 r0 7 (w32 (((amUp M2 5 r0 6 (amMin 9999 (w32 ((M2 5 r0 6) + (M2 8 0 8))))) 5 r0 7) + 1))) := by
  show amRun _ _ = _
  refine (amRun_t (f := amStep amGst (amD amGst d) cdX5_passNight) 6 (x := amPu 1 (amD amGst d 84 [vR 8 8 0, vI (M 5 r0 7)] M) (fun z9 M9 => .inl (15, [vR 5 5 r0], z9 ++ [vR 6 6 r0], M9))) rfl).trans (amK_pI fun v1 M1 => ?_)
  refine (amRun_t (f := amStep amGst (amD amGst d) cdX5_passNight) 0 (x := amPu 1 (amD amGst d 61 [vR 6 6 r0, vI v1] M1) (fun z9 M9 => .inl (18, [vR 5 5 r0], z9 ++ [], M9))) rfl).trans (amK_pI fun v2 M2 => ?_)
  exact amRun_b 17 (x := .inl (51, [vR 5 5 r0], [], amUp (amUp M2 5 r0 6 (amMin 9999 (w32 ((M2 5 r0 6) + (M2 8 0 8))))) 5 r0 7 (w32 (((amUp M2 5 r0 6 (amMin 9999 (w32 ((M2 5 r0 6) + (M2 8 0 8))))) 5 r0 7) + 1)))) rfl
theorem q_X5_passNight_51 (d : Nat) (r0 : Nat) (M : AmM) : e_X5_passNight_51 d r0 M =
    some (vU, M) := by
  show amRun _ _ = _
  exact amRun_b 1 (x := .inr (some (vU, M))) rfl
theorem n_X5_passNight (d : Nat) (r0 : Nat) (M : AmM) : amD amGst (d + 1) 47 [vR 5 5 r0] M = e_X5_passNight_0 d r0 M := rfl
noncomputable def e_X5_isOnGround_0 (d : Nat) (r0 : Nat) (l1 : Int) (M : AmM) : Option (AmV × AmM) := amRun (amStep amGst (amD amGst d) cdX5_isOnGround) (0, [vR 5 5 r0, vI l1], [], M)
theorem q_X5_isOnGround_0 (d : Nat) (r0 : Nat) (l1 : Int) (M : AmM) : e_X5_isOnGround_0 d r0 l1 M =
    amCI (amD amGst d 83 [vR 8 8 0, vI l1] M) fun v1 M1 => if v1 = 0 then (some (vI 0, M1)) else (amCI (amD amGst d 142 [vR 20 108 r0, vI l1] M1) fun v2 M2 => if v2 = 0 then (some (vI 1, M2)) else (some (vI 0, M2))) := by
  show amRun _ _ = _
  refine (amRun_t (f := amStep amGst (amD amGst d) cdX5_isOnGround) 3 (x := amPu 1 (amD amGst d 83 [vR 8 8 0, vI l1] M) (fun z9 M9 => .inl (8, [vR 5 5 r0, vI l1], z9 ++ [], M9))) rfl).trans (amK_pI fun v1 M1 => ?_)
  refine (amRun_t (f := amStep amGst (amD amGst d) cdX5_isOnGround) 0 (x := if v1 = 0 then .inl (26, [vR 5 5 r0, vI l1], [], M1) else .inl (11, [vR 5 5 r0, vI l1], [], M1)) rfl).trans (amK_if ?_ ?_)
  · exact amRun_b 2 (x := .inr (some (vI 0, M1))) rfl
  · refine (amRun_t (f := amStep amGst (amD amGst d) cdX5_isOnGround) 3 (x := amPu 1 (amD amGst d 142 [vR 20 108 r0, vI l1] M1) (fun z9 M9 => .inl (19, [vR 5 5 r0, vI l1], z9 ++ [], M9))) rfl).trans (amK_pI fun v2 M2 => ?_)
    refine (amRun_t (f := amStep amGst (amD amGst d) cdX5_isOnGround) 0 (x := if v2 = 0 then .inl (22, [vR 5 5 r0, vI l1], [], M2) else .inl (26, [vR 5 5 r0, vI l1], [], M2)) rfl).trans (amK_if ?_ ?_)
    · exact amRun_b 3 (x := .inr (some (vI 1, M2))) rfl
    · exact amRun_b 2 (x := .inr (some (vI 0, M2))) rfl
theorem n_X5_isOnGround (d : Nat) (r0 : Nat) (l1 : Int) (M : AmM) : amD amGst (d + 1) 48 [vR 5 5 r0, vI l1] M = e_X5_isOnGround_0 d r0 l1 M := rfl
noncomputable def e_X5_grounded_0 (d : Nat) (r0 : Nat) (M : AmM) : Option (AmV × AmM) := amRun (amStep amGst (amD amGst d) cdX5_grounded) (0, [vR 5 5 r0, vU, vU], [], M)
noncomputable def e_X5_grounded_4 (d : Nat) (r0 : Nat) (l1 : Int) (l2 : Int) (M : AmM) : Option (AmV × AmM) := amRun (amStep amGst (amD amGst d) cdX5_grounded) (4, [vR 5 5 r0, vI l1, vI l2], [], M)
theorem q_X5_grounded_0 (d : Nat) (r0 : Nat) (M : AmM) : e_X5_grounded_0 d r0 M =
    e_X5_grounded_4 d r0 0 0 M := by
  show amRun _ _ = _
  exact amRun_b 4 (x := .inl (4, [vR 5 5 r0, vI 0, vI 0], [], M)) rfl
theorem q_X5_grounded_4 (d : Nat) (r0 : Nat) (l1 : Int) (l2 : Int) (M : AmM) : e_X5_grounded_4 d r0 l1 l2 M =
    if l2 < 8 then (amCI (amD amGst d 48 [vR 5 5 r0, vI l2] M) fun v1 M1 => if v1 = 0 then (e_X5_grounded_4 d r0 (bOr l1 0) (w32 (l2 + 1)) M1) else (e_X5_grounded_4 d r0 (bOr l1 (bShl 1 l2)) (w32 (l2 + 1)) M1)) else (some (vI l1, M)) := by
  show amRun _ _ = _
  refine (amRun_t (f := amStep amGst (amD amGst d) cdX5_grounded) 2 (x := if l2 < 8 then .inl (10, [vR 5 5 r0, vI l1, vI l2], [], M) else .inl (34, [vR 5 5 r0, vI l1, vI l2], [], M)) rfl).trans (amK_if ?_ ?_)
  · refine (amRun_t (f := amStep amGst (amD amGst d) cdX5_grounded) 3 (x := amPu 1 (amD amGst d 48 [vR 5 5 r0, vI l2] M) (fun z9 M9 => .inl (16, [vR 5 5 r0, vI l1, vI l2], z9 ++ [vI l1], M9))) rfl).trans (amK_pI fun v1 M1 => ?_)
    refine (amRun_t (f := amStep amGst (amD amGst d) cdX5_grounded) 0 (x := if v1 = 0 then .inl (25, [vR 5 5 r0, vI l1, vI l2], [vI l1], M1) else .inl (19, [vR 5 5 r0, vI l1, vI l2], [vI l1], M1)) rfl).trans (amK_if ?_ ?_)
    · exact amRun_b 5 (x := .inl (4, [vR 5 5 r0, vI (bOr l1 0), vI (w32 (l2 + 1))], [], M1)) rfl
    · exact amRun_b 8 (x := .inl (4, [vR 5 5 r0, vI (bOr l1 (bShl 1 l2)), vI (w32 (l2 + 1))], [], M1)) rfl
  · exact amRun_b 2 (x := .inr (some (vI l1, M))) rfl
theorem n_X5_grounded (d : Nat) (r0 : Nat) (M : AmM) : amD amGst (d + 1) 49 [vR 5 5 r0] M = e_X5_grounded_0 d r0 M := rfl
noncomputable def e_X5_standingOn_0 (d : Nat) (r0 : Nat) (l1 : Int) (M : AmM) : Option (AmV × AmM) := amRun (amStep amGst (amD amGst d) cdX5_standingOn) (0, [vR 5 5 r0, vI l1, vU, vU], [], M)
noncomputable def e_X5_standingOn_4 (d : Nat) (r0 : Nat) (l1 : Int) (l2 : Int) (l3 : Int) (M : AmM) : Option (AmV × AmM) := amRun (amStep amGst (amD amGst d) cdX5_standingOn) (4, [vR 5 5 r0, vI l1, vI l2, vI l3], [], M)
theorem q_X5_standingOn_0 (d : Nat) (r0 : Nat) (l1 : Int) (M : AmM) : e_X5_standingOn_0 d r0 l1 M =
    e_X5_standingOn_4 d r0 l1 0 0 M := by
  show amRun _ _ = _
  exact amRun_b 4 (x := .inl (4, [vR 5 5 r0, vI l1, vI 0, vI 0], [], M)) rfl
theorem q_X5_standingOn_4 (d : Nat) (r0 : Nat) (l1 : Int) (l2 : Int) (l3 : Int) (M : AmM) : e_X5_standingOn_4 d r0 l1 l2 l3 M =
    if l3 < M 8 0 9 then (amCI (amD amGst d 142 [vR 20 108 r0, vI l3] M) fun v1 M1 => if v1 = l1 then (e_X5_standingOn_4 d r0 l1 (w32 (l2 + 1)) (w32 (l3 + 1)) M1) else (e_X5_standingOn_4 d r0 l1 (w32 (l2 + 0)) (w32 (l3 + 1)) M1)) else (some (vI l2, M)) := by
  show amRun _ _ = _
  refine (amRun_t (f := amStep amGst (amD amGst d) cdX5_standingOn) 4 (x := if l3 < M 8 0 9 then .inl (15, [vR 5 5 r0, vI l1, vI l2, vI l3], [], M) else .inl (41, [vR 5 5 r0, vI l1, vI l2, vI l3], [], M)) rfl).trans (amK_if ?_ ?_)
  · refine (amRun_t (f := amStep amGst (amD amGst d) cdX5_standingOn) 4 (x := amPu 1 (amD amGst d 142 [vR 20 108 r0, vI l3] M) (fun z9 M9 => .inl (24, [vR 5 5 r0, vI l1, vI l2, vI l3], z9 ++ [vI l2], M9))) rfl).trans (amK_pI fun v1 M1 => ?_)
    refine (amRun_t (f := amStep amGst (amD amGst d) cdX5_standingOn) 1 (x := if v1 = l1 then .inl (28, [vR 5 5 r0, vI l1, vI l2, vI l3], [vI l2], M1) else .inl (32, [vR 5 5 r0, vI l1, vI l2, vI l3], [vI l2], M1)) rfl).trans (amK_if ?_ ?_)
    · exact amRun_b 6 (x := .inl (4, [vR 5 5 r0, vI l1, vI (w32 (l2 + 1)), vI (w32 (l3 + 1))], [], M1)) rfl
    · exact amRun_b 5 (x := .inl (4, [vR 5 5 r0, vI l1, vI (w32 (l2 + 0)), vI (w32 (l3 + 1))], [], M1)) rfl
  · exact amRun_b 2 (x := .inr (some (vI l2, M))) rfl
theorem n_X5_standingOn (d : Nat) (r0 : Nat) (l1 : Int) (M : AmM) : amD amGst (d + 1) 50 [vR 5 5 r0, vI l1] M = e_X5_standingOn_0 d r0 l1 M := rfl
noncomputable def e_X5_stuckOnes_0 (d : Nat) (r0 : Nat) (M : AmM) : Option (AmV × AmM) := amRun (amStep amGst (amD amGst d) cdX5_stuckOnes) (0, [vR 5 5 r0, vU, vU], [], M)
noncomputable def e_X5_stuckOnes_4 (d : Nat) (r0 : Nat) (l1 : Int) (l2 : Int) (M : AmM) : Option (AmV × AmM) := amRun (amStep amGst (amD amGst d) cdX5_stuckOnes) (4, [vR 5 5 r0, vI l1, vI l2], [], M)
theorem q_X5_stuckOnes_0 (d : Nat) (r0 : Nat) (M : AmM) : e_X5_stuckOnes_0 d r0 M =
    e_X5_stuckOnes_4 d r0 0 0 M := by
  show amRun _ _ = _
  exact amRun_b 4 (x := .inl (4, [vR 5 5 r0, vI 0, vI 0], [], M)) rfl
theorem q_X5_stuckOnes_4 (d : Nat) (r0 : Nat) (l1 : Int) (l2 : Int) (M : AmM) : e_X5_stuckOnes_4 d r0 l1 l2 M =
    if l2 < M 8 0 9 then (amCI (amD amGst d 142 [vR 20 111 r0, vI l2] M) fun v1 M1 => e_X5_stuckOnes_4 d r0 (w32 (l1 + v1)) (w32 (l2 + 1)) M1) else (some (vI l1, M)) := by
  show amRun _ _ = _
  refine (amRun_t (f := amStep amGst (amD amGst d) cdX5_stuckOnes) 4 (x := if l2 < M 8 0 9 then .inl (15, [vR 5 5 r0, vI l1, vI l2], [], M) else .inl (32, [vR 5 5 r0, vI l1, vI l2], [], M)) rfl).trans (amK_if ?_ ?_)
  · refine (amRun_t (f := amStep amGst (amD amGst d) cdX5_stuckOnes) 4 (x := amPu 1 (amD amGst d 142 [vR 20 111 r0, vI l2] M) (fun z9 M9 => .inl (24, [vR 5 5 r0, vI l1, vI l2], z9 ++ [vI l1], M9))) rfl).trans (amK_pI fun v1 M1 => ?_)
    exact amRun_b 4 (x := .inl (4, [vR 5 5 r0, vI (w32 (l1 + v1)), vI (w32 (l2 + 1))], [], M1)) rfl
  · exact amRun_b 2 (x := .inr (some (vI l1, M))) rfl
theorem n_X5_stuckOnes (d : Nat) (r0 : Nat) (M : AmM) : amD amGst (d + 1) 51 [vR 5 5 r0] M = e_X5_stuckOnes_0 d r0 M := rfl
noncomputable def e_X6_build_0 (d : Nat) (r0 : Nat) (r1 : Nat) (M : AmM) : Option (AmV × AmM) := amRun (amStep amGst (amD amGst d) cdX6_build) (0, [vR 6 6 r0, vR 8 8 r1, vU], [], M)
noncomputable def e_X6_build_33 (d : Nat) (r0 : Nat) (r1 : Nat) (l2 : Int) (M : AmM) : Option (AmV × AmM) := amRun (amStep amGst (amD amGst d) cdX6_build) (33, [vR 6 6 r0, vR 8 8 r1, vI l2], [], M)
theorem q_X6_build_0 (d : Nat) (r0 : Nat) (r1 : Nat) (M : AmM) : e_X6_build_0 d r0 r1 M =
    amCV (amD amGst d 144 [vR 20 118 r1, vR 20 112 r0] (amUp M 6 r0 2 (M 8 r1 5))) fun M1 => amCV (amD amGst d 145 [vR 20 113 r0] M1) fun M2 => e_X6_build_33 d r0 r1 1 (amUp M2 6 r0 3 0) := by
  show amRun _ _ = _
  refine (amRun_t (f := amStep amGst (amD amGst d) cdX6_build) 8 (x := amPu 0 (amD amGst d 144 [vR 20 118 r1, vR 20 112 r0] (amUp M 6 r0 2 (M 8 r1 5))) (fun z9 M9 => .inl (19, [vR 6 6 r0, vR 8 8 r1, vU], z9 ++ [], M9))) rfl).trans (amK_pV fun M1 => ?_)
  refine (amRun_t (f := amStep amGst (amD amGst d) cdX6_build) 2 (x := amPu 0 (amD amGst d 145 [vR 20 113 r0] M1) (fun z9 M9 => .inl (26, [vR 6 6 r0, vR 8 8 r1, vU], z9 ++ [], M9))) rfl).trans (amK_pV fun M2 => ?_)
  exact amRun_b 5 (x := .inl (33, [vR 6 6 r0, vR 8 8 r1, vI 1], [], amUp M2 6 r0 3 0)) rfl
theorem q_X6_build_33 (d : Nat) (r0 : Nat) (r1 : Nat) (l2 : Int) (M : AmM) : e_X6_build_33 d r0 r1 l2 M =
    if M 6 r0 2 < l2 then (some (vU, M)) else (amCI (amD amGst d 142 [vR 20 112 r0, vI l2] M) fun v1 M1 => if 0 < v1 then (e_X6_build_33 d r0 r1 (w32 (l2 + 1)) (amUp M1 6 r0 3 (w32 ((M 6 r0 3) + 0)))) else (e_X6_build_33 d r0 r1 (w32 (l2 + 1)) (amUp M1 6 r0 3 (w32 ((M 6 r0 3) + 1))))) := by
  show amRun _ _ = _
  refine (amRun_t (f := amStep amGst (amD amGst d) cdX6_build) 3 (x := if M 6 r0 2 < l2 then .inl (72, [vR 6 6 r0, vR 8 8 r1, vI l2], [], M) else .inl (41, [vR 6 6 r0, vR 8 8 r1, vI l2], [], M)) rfl).trans (amK_if ?_ ?_)
  · exact amRun_b 1 (x := .inr (some (vU, M))) rfl
  · refine (amRun_t (f := amStep amGst (amD amGst d) cdX6_build) 6 (x := amPu 1 (amD amGst d 142 [vR 20 112 r0, vI l2] M) (fun z9 M9 => .inl (54, [vR 6 6 r0, vR 8 8 r1, vI l2], z9 ++ [vI (M 6 r0 3), vR 6 6 r0], M9))) rfl).trans (amK_pI fun v1 M1 => ?_)
    refine (amRun_t (f := amStep amGst (amD amGst d) cdX6_build) 0 (x := if 0 < v1 then .inl (57, [vR 6 6 r0, vR 8 8 r1, vI l2], [vI (M 6 r0 3), vR 6 6 r0], M1) else .inl (61, [vR 6 6 r0, vR 8 8 r1, vI l2], [vI (M 6 r0 3), vR 6 6 r0], M1)) rfl).trans (amK_if ?_ ?_)
    · exact amRun_b 6 (x := .inl (33, [vR 6 6 r0, vR 8 8 r1, vI (w32 (l2 + 1))], [], amUp M1 6 r0 3 (w32 ((M 6 r0 3) + 0)))) rfl
    · exact amRun_b 5 (x := .inl (33, [vR 6 6 r0, vR 8 8 r1, vI (w32 (l2 + 1))], [], amUp M1 6 r0 3 (w32 ((M 6 r0 3) + 1)))) rfl
theorem n_X6_build (d : Nat) (r0 : Nat) (r1 : Nat) (M : AmM) : amD amGst (d + 1) 52 [vR 6 6 r0, vR 8 8 r1] M = e_X6_build_0 d r0 r1 M := rfl
noncomputable def e_X6_copyFrom_0 (d : Nat) (r0 : Nat) (r1 : Nat) (M : AmM) : Option (AmV × AmM) := amRun (amStep amGst (amD amGst d) cdX6_copyFrom) (0, [vR 6 6 r0, vR 6 6 r1], [], M)
theorem q_X6_copyFrom_0 (d : Nat) (r0 : Nat) (r1 : Nat) (M : AmM) : e_X6_copyFrom_0 d r0 r1 M =
    amCV (amD amGst d 144 [vR 20 112 r1, vR 20 112 r0] M) fun M1 => amCV (amD amGst d 144 [vR 20 113 r1, vR 20 113 r0] M1) fun M2 => some (vU, amUp (amUp M2 6 r0 2 (M2 6 r1 2)) 6 r0 3 ((amUp M2 6 r0 2 (M2 6 r1 2)) 6 r1 3)) := by
  show amRun _ _ = _
  refine (amRun_t (f := amStep amGst (amD amGst d) cdX6_copyFrom) 4 (x := amPu 0 (amD amGst d 144 [vR 20 112 r1, vR 20 112 r0] M) (fun z9 M9 => .inl (11, [vR 6 6 r0, vR 6 6 r1], z9 ++ [], M9))) rfl).trans (amK_pV fun M1 => ?_)
  refine (amRun_t (f := amStep amGst (amD amGst d) cdX6_copyFrom) 4 (x := amPu 0 (amD amGst d 144 [vR 20 113 r1, vR 20 113 r0] M1) (fun z9 M9 => .inl (22, [vR 6 6 r0, vR 6 6 r1], z9 ++ [], M9))) rfl).trans (amK_pV fun M2 => ?_)
  exact amRun_b 9 (x := .inr (some (vU, amUp (amUp M2 6 r0 2 (M2 6 r1 2)) 6 r0 3 ((amUp M2 6 r0 2 (M2 6 r1 2)) 6 r1 3)))) rfl
theorem n_X6_copyFrom (d : Nat) (r0 : Nat) (r1 : Nat) (M : AmM) : amD amGst (d + 1) 53 [vR 6 6 r0, vR 6 6 r1] M = e_X6_copyFrom_0 d r0 r1 M := rfl
noncomputable def e_X6_top_0 (d : Nat) (r0 : Nat) (M : AmM) : Option (AmV × AmM) := amRun (amStep amGst (amD amGst d) cdX6_top) (0, [vR 6 6 r0], [], M)
theorem q_X6_top_0 (d : Nat) (r0 : Nat) (M : AmM) : e_X6_top_0 d r0 M =
    some (vI (w32 ((M 6 r0 2) + 1)), M) := by
  show amRun _ _ = _
  exact amRun_b 5 (x := .inr (some (vI (w32 ((M 6 r0 2) + 1)), M))) rfl
theorem n_X6_top (d : Nat) (r0 : Nat) (M : AmM) : amD amGst (d + 1) 54 [vR 6 6 r0] M = e_X6_top_0 d r0 M := rfl
noncomputable def e_X6_isStep_0 (d : Nat) (r0 : Nat) (l1 : Int) (M : AmM) : Option (AmV × AmM) := amRun (amStep amGst (amD amGst d) cdX6_isStep) (0, [vR 6 6 r0, vI l1], [], M)
theorem q_X6_isStep_0 (d : Nat) (r0 : Nat) (l1 : Int) (M : AmM) : e_X6_isStep_0 d r0 l1 M =
    if l1 < 1 then (some (vI 0, M)) else (if M 6 r0 2 < l1 then (some (vI 0, M)) else (some (vI 1, M))) := by
  show amRun _ _ = _
  refine (amRun_t (f := amStep amGst (amD amGst d) cdX6_isStep) 2 (x := if l1 < 1 then .inl (17, [vR 6 6 r0, vI l1], [], M) else .inl (5, [vR 6 6 r0, vI l1], [], M)) rfl).trans (amK_if ?_ ?_)
  · exact amRun_b 2 (x := .inr (some (vI 0, M))) rfl
  · refine (amRun_t (f := amStep amGst (amD amGst d) cdX6_isStep) 3 (x := if M 6 r0 2 < l1 then .inl (17, [vR 6 6 r0, vI l1], [], M) else .inl (13, [vR 6 6 r0, vI l1], [], M)) rfl).trans (amK_if ?_ ?_)
    · exact amRun_b 2 (x := .inr (some (vI 0, M))) rfl
    · exact amRun_b 3 (x := .inr (some (vI 1, M))) rfl
theorem n_X6_isStep (d : Nat) (r0 : Nat) (l1 : Int) (M : AmM) : amD amGst (d + 1) 55 [vR 6 6 r0, vI l1] M = e_X6_isStep_0 d r0 l1 M := rfl
noncomputable def e_X6_isThere_0 (d : Nat) (r0 : Nat) (l1 : Int) (M : AmM) : Option (AmV × AmM) := amRun (amStep amGst (amD amGst d) cdX6_isThere) (0, [vR 6 6 r0, vI l1], [], M)
theorem q_X6_isThere_0 (d : Nat) (r0 : Nat) (l1 : Int) (M : AmM) : e_X6_isThere_0 d r0 l1 M =
    if l1 = 0 then (some (vI 1, M)) else (if l1 = w32 ((M 6 r0 2) + 1) then (some (vI 1, M)) else (amCI (amD amGst d 55 [vR 6 6 r0, vI l1] M) fun v1 M1 => if v1 = 0 then (some (vI 0, M1)) else (amCI (amD amGst d 57 [vR 6 6 r0, vI l1] M1) fun v2 M2 => if 0 < v2 then (some (vI 1, M2)) else (some (vI 0, M2))))) := by
  show amRun _ _ = _
  refine (amRun_t (f := amStep amGst (amD amGst d) cdX6_isThere) 1 (x := if l1 = 0 then .inl (30, [vR 6 6 r0, vI l1], [], M) else .inl (4, [vR 6 6 r0, vI l1], [], M)) rfl).trans (amK_if ?_ ?_)
  · exact amRun_b 3 (x := .inr (some (vI 1, M))) rfl
  · refine (amRun_t (f := amStep amGst (amD amGst d) cdX6_isThere) 5 (x := if l1 = w32 ((M 6 r0 2) + 1) then .inl (30, [vR 6 6 r0, vI l1], [], M) else .inl (14, [vR 6 6 r0, vI l1], [], M)) rfl).trans (amK_if ?_ ?_)
    · exact amRun_b 3 (x := .inr (some (vI 1, M))) rfl
    · refine (amRun_t (f := amStep amGst (amD amGst d) cdX6_isThere) 2 (x := amPu 1 (amD amGst d 55 [vR 6 6 r0, vI l1] M) (fun z9 M9 => .inl (19, [vR 6 6 r0, vI l1], z9 ++ [], M9))) rfl).trans (amK_pI fun v1 M1 => ?_)
      refine (amRun_t (f := amStep amGst (amD amGst d) cdX6_isThere) 0 (x := if v1 = 0 then .inl (34, [vR 6 6 r0, vI l1], [], M1) else .inl (22, [vR 6 6 r0, vI l1], [], M1)) rfl).trans (amK_if ?_ ?_)
      · exact amRun_b 2 (x := .inr (some (vI 0, M1))) rfl
      · refine (amRun_t (f := amStep amGst (amD amGst d) cdX6_isThere) 2 (x := amPu 1 (amD amGst d 57 [vR 6 6 r0, vI l1] M1) (fun z9 M9 => .inl (27, [vR 6 6 r0, vI l1], z9 ++ [], M9))) rfl).trans (amK_pI fun v2 M2 => ?_)
        refine (amRun_t (f := amStep amGst (amD amGst d) cdX6_isThere) 0 (x := if 0 < v2 then .inl (30, [vR 6 6 r0, vI l1], [], M2) else .inl (34, [vR 6 6 r0, vI l1], [], M2)) rfl).trans (amK_if ?_ ?_)
        · exact amRun_b 3 (x := .inr (some (vI 1, M2))) rfl
        · exact amRun_b 2 (x := .inr (some (vI 0, M2))) rfl
theorem n_X6_isThere (d : Nat) (r0 : Nat) (l1 : Int) (M : AmM) : amD amGst (d + 1) 56 [vR 6 6 r0, vI l1] M = e_X6_isThere_0 d r0 l1 M := rfl
noncomputable def e_X6_thickAt_0 (d : Nat) (r0 : Nat) (l1 : Int) (M : AmM) : Option (AmV × AmM) := amRun (amStep amGst (amD amGst d) cdX6_thickAt) (0, [vR 6 6 r0, vI l1], [], M)
theorem q_X6_thickAt_0 (d : Nat) (r0 : Nat) (l1 : Int) (M : AmM) : e_X6_thickAt_0 d r0 l1 M =
    if l1 < 0 then (some (vI 0, M)) else (if l1 < 26 then (if (0 : Int) ≤ l1 ∧ l1 < 26 then (some (vI (M 112 r0 (l1).toNat), M)) else none) else (some (vI 0, M))) := by
  show amRun _ _ = _
  refine (amRun_t (f := amStep amGst (amD amGst d) cdX6_thickAt) 1 (x := if l1 < 0 then .inl (22, [vR 6 6 r0, vI l1], [], M) else .inl (4, [vR 6 6 r0, vI l1], [], M)) rfl).trans (amK_if ?_ ?_)
  · exact amRun_b 2 (x := .inr (some (vI 0, M))) rfl
  · refine (amRun_t (f := amStep amGst (amD amGst d) cdX6_thickAt) 4 (x := if l1 < 26 then .inl (13, [vR 6 6 r0, vI l1], [], M) else .inl (22, [vR 6 6 r0, vI l1], [], M)) rfl).trans (amK_if ?_ ?_)
    · refine (amRun_t (f := amStep amGst (amD amGst d) cdX6_thickAt) 3 (x := if (0 : Int) ≤ l1 ∧ l1 < 26 then .inl (19, [vR 6 6 r0, vI l1], [vI (M 112 r0 (l1).toNat)], M) else amNo) rfl).trans (amK_if ?_ rfl)
      exact amRun_b 2 (x := .inr (some (vI (M 112 r0 (l1).toNat), M))) rfl
    · exact amRun_b 2 (x := .inr (some (vI 0, M))) rfl
theorem n_X6_thickAt (d : Nat) (r0 : Nat) (l1 : Int) (M : AmM) : amD amGst (d + 1) 57 [vR 6 6 r0, vI l1] M = e_X6_thickAt_0 d r0 l1 M := rfl
noncomputable def e_X6_borneAt_0 (d : Nat) (r0 : Nat) (l1 : Int) (M : AmM) : Option (AmV × AmM) := amRun (amStep amGst (amD amGst d) cdX6_borneAt) (0, [vR 6 6 r0, vI l1], [], M)
theorem q_X6_borneAt_0 (d : Nat) (r0 : Nat) (l1 : Int) (M : AmM) : e_X6_borneAt_0 d r0 l1 M =
    amCI (amD amGst d 142 [vR 20 113 r0, vI l1] M) fun v1 M1 => some (vI v1, M1) := by
  show amRun _ _ = _
  refine (amRun_t (f := amStep amGst (amD amGst d) cdX6_borneAt) 3 (x := amPu 1 (amD amGst d 142 [vR 20 113 r0, vI l1] M) (fun z9 M9 => .inl (8, [vR 6 6 r0, vI l1], z9 ++ [], M9))) rfl).trans (amK_pI fun v1 M1 => ?_)
  exact amRun_b 1 (x := .inr (some (vI v1, M1))) rfl
theorem n_X6_borneAt (d : Nat) (r0 : Nat) (l1 : Int) (M : AmM) : amD amGst (d + 1) 58 [vR 6 6 r0, vI l1] M = e_X6_borneAt_0 d r0 l1 M := rfl
noncomputable def e_X6_bear_0 (d : Nat) (r0 : Nat) (l1 : Int) (M : AmM) : Option (AmV × AmM) := amRun (amStep amGst (amD amGst d) cdX6_bear) (0, [vR 6 6 r0, vI l1], [], M)
theorem q_X6_bear_0 (d : Nat) (r0 : Nat) (l1 : Int) (M : AmM) : e_X6_bear_0 d r0 l1 M =
    amCI (amD amGst d 142 [vR 20 113 r0, vI l1] M) fun v1 M1 => amCV (amD amGst d 143 [vR 20 113 r0, vI l1, vI (w32 (v1 + 1))] M1) fun M2 => some (vU, M2) := by
  show amRun _ _ = _
  refine (amRun_t (f := amStep amGst (amD amGst d) cdX6_bear) 6 (x := amPu 1 (amD amGst d 142 [vR 20 113 r0, vI l1] M) (fun z9 M9 => .inl (13, [vR 6 6 r0, vI l1], z9 ++ [vI l1, vR 20 113 r0], M9))) rfl).trans (amK_pI fun v1 M1 => ?_)
  refine (amRun_t (f := amStep amGst (amD amGst d) cdX6_bear) 2 (x := amPu 0 (amD amGst d 143 [vR 20 113 r0, vI l1, vI (w32 (v1 + 1))] M1) (fun z9 M9 => .inl (18, [vR 6 6 r0, vI l1], z9 ++ [], M9))) rfl).trans (amK_pV fun M2 => ?_)
  exact amRun_b 1 (x := .inr (some (vU, M2))) rfl
theorem n_X6_bear (d : Nat) (r0 : Nat) (l1 : Int) (M : AmM) : amD amGst (d + 1) 59 [vR 6 6 r0, vI l1] M = e_X6_bear_0 d r0 l1 M := rfl
noncomputable def e_X6_setThick_0 (d : Nat) (r0 : Nat) (l1 : Int) (l2 : Int) (M : AmM) : Option (AmV × AmM) := amRun (amStep amGst (amD amGst d) cdX6_setThick) (0, [vR 6 6 r0, vI l1, vI l2], [], M)
theorem q_X6_setThick_0 (d : Nat) (r0 : Nat) (l1 : Int) (l2 : Int) (M : AmM) : e_X6_setThick_0 d r0 l1 l2 M =
    amCI (amD amGst d 57 [vR 6 6 r0, vI l1] M) fun v1 M1 => if 0 < v1 then (if 0 < l2 then (amCV (amD amGst d 143 [vR 20 112 r0, vI l1, vI l2] (amUp M1 6 r0 3 (w32 ((M 6 r0 3) + (w32 (1 - 1)))))) fun M2 => some (vU, M2)) else (amCV (amD amGst d 143 [vR 20 112 r0, vI l1, vI l2] (amUp M1 6 r0 3 (w32 ((M 6 r0 3) + (w32 (1 - 0)))))) fun M3 => some (vU, M3))) else (if 0 < l2 then (amCV (amD amGst d 143 [vR 20 112 r0, vI l1, vI l2] (amUp M1 6 r0 3 (w32 ((M 6 r0 3) + (w32 (0 - 1)))))) fun M4 => some (vU, M4)) else (amCV (amD amGst d 143 [vR 20 112 r0, vI l1, vI l2] (amUp M1 6 r0 3 (w32 ((M 6 r0 3) + (w32 (0 - 0)))))) fun M5 => some (vU, M5))) := by
  show amRun _ _ = _
  refine (amRun_t (f := amStep amGst (amD amGst d) cdX6_setThick) 5 (x := amPu 1 (amD amGst d 57 [vR 6 6 r0, vI l1] M) (fun z9 M9 => .inl (10, [vR 6 6 r0, vI l1, vI l2], z9 ++ [vI (M 6 r0 3), vR 6 6 r0], M9))) rfl).trans (amK_pI fun v1 M1 => ?_)
  refine (amRun_t (f := amStep amGst (amD amGst d) cdX6_setThick) 0 (x := if 0 < v1 then .inl (13, [vR 6 6 r0, vI l1, vI l2], [vI (M 6 r0 3), vR 6 6 r0], M1) else .inl (17, [vR 6 6 r0, vI l1, vI l2], [vI (M 6 r0 3), vR 6 6 r0], M1)) rfl).trans (amK_if ?_ ?_)
  · refine (amRun_t (f := amStep amGst (amD amGst d) cdX6_setThick) 3 (x := if 0 < l2 then .inl (22, [vR 6 6 r0, vI l1, vI l2], [vI 1, vI (M 6 r0 3), vR 6 6 r0], M1) else .inl (26, [vR 6 6 r0, vI l1, vI l2], [vI 1, vI (M 6 r0 3), vR 6 6 r0], M1)) rfl).trans (amK_if ?_ ?_)
    · refine (amRun_t (f := amStep amGst (amD amGst d) cdX6_setThick) 9 (x := amPu 0 (amD amGst d 143 [vR 20 112 r0, vI l1, vI l2] (amUp M1 6 r0 3 (w32 ((M 6 r0 3) + (w32 (1 - 1)))))) (fun z9 M9 => .inl (41, [vR 6 6 r0, vI l1, vI l2], z9 ++ [], M9))) rfl).trans (amK_pV fun M2 => ?_)
      exact amRun_b 1 (x := .inr (some (vU, M2))) rfl
    · refine (amRun_t (f := amStep amGst (amD amGst d) cdX6_setThick) 8 (x := amPu 0 (amD amGst d 143 [vR 20 112 r0, vI l1, vI l2] (amUp M1 6 r0 3 (w32 ((M 6 r0 3) + (w32 (1 - 0)))))) (fun z9 M9 => .inl (41, [vR 6 6 r0, vI l1, vI l2], z9 ++ [], M9))) rfl).trans (amK_pV fun M3 => ?_)
      exact amRun_b 1 (x := .inr (some (vU, M3))) rfl
  · refine (amRun_t (f := amStep amGst (amD amGst d) cdX6_setThick) 2 (x := if 0 < l2 then .inl (22, [vR 6 6 r0, vI l1, vI l2], [vI 0, vI (M 6 r0 3), vR 6 6 r0], M1) else .inl (26, [vR 6 6 r0, vI l1, vI l2], [vI 0, vI (M 6 r0 3), vR 6 6 r0], M1)) rfl).trans (amK_if ?_ ?_)
    · refine (amRun_t (f := amStep amGst (amD amGst d) cdX6_setThick) 9 (x := amPu 0 (amD amGst d 143 [vR 20 112 r0, vI l1, vI l2] (amUp M1 6 r0 3 (w32 ((M 6 r0 3) + (w32 (0 - 1)))))) (fun z9 M9 => .inl (41, [vR 6 6 r0, vI l1, vI l2], z9 ++ [], M9))) rfl).trans (amK_pV fun M4 => ?_)
      exact amRun_b 1 (x := .inr (some (vU, M4))) rfl
    · refine (amRun_t (f := amStep amGst (amD amGst d) cdX6_setThick) 8 (x := amPu 0 (amD amGst d 143 [vR 20 112 r0, vI l1, vI l2] (amUp M1 6 r0 3 (w32 ((M 6 r0 3) + (w32 (0 - 0)))))) (fun z9 M9 => .inl (41, [vR 6 6 r0, vI l1, vI l2], z9 ++ [], M9))) rfl).trans (amK_pV fun M5 => ?_)
      exact amRun_b 1 (x := .inr (some (vU, M5))) rfl
theorem n_X6_setThick (d : Nat) (r0 : Nat) (l1 : Int) (l2 : Int) (M : AmM) : amD amGst (d + 1) 60 [vR 6 6 r0, vI l1, vI l2] M = e_X6_setThick_0 d r0 l1 l2 M := rfl
noncomputable def e_X6_rainOn_0 (d : Nat) (r0 : Nat) (l1 : Int) (M : AmM) : Option (AmV × AmM) := amRun (amStep amGst (amD amGst d) cdX6_rainOn) (0, [vR 6 6 r0, vI l1, vU, vU, vU], [], M)
noncomputable def e_X6_rainOn_4 (d : Nat) (r0 : Nat) (l1 : Int) (l2 : Int) (l3 : Int) (u4 : AmV) (M : AmM) : Option (AmV × AmM) := amRun (amStep amGst (amD amGst d) cdX6_rainOn) (4, [vR 6 6 r0, vI l1, vI l2, vI l3, u4], [], M)
theorem q_X6_rainOn_0 (d : Nat) (r0 : Nat) (l1 : Int) (M : AmM) : e_X6_rainOn_0 d r0 l1 M =
    e_X6_rainOn_4 d r0 l1 (-1) 1 vU M := by
  show amRun _ _ = _
  exact amRun_b 4 (x := .inl (4, [vR 6 6 r0, vI l1, vI (-1), vI 1, vU], [], M)) rfl
theorem q_X6_rainOn_4 (d : Nat) (r0 : Nat) (l1 : Int) (l2 : Int) (l3 : Int) (u4 : AmV) (M : AmM) : e_X6_rainOn_4 d r0 l1 l2 l3 u4 M =
    if M 6 r0 2 < l3 then (some (vI l2, M)) else (amCI (amD amGst d 57 [vR 6 6 r0, vI l3] M) fun v1 M1 => amCV (amD amGst d 60 [vR 6 6 r0, vI l3, vI (amMax 0 (w32 (v1 - l1)))] M1) fun M2 => if l2 = (-1) then (if 0 < v1 then (amCI (amD amGst d 57 [vR 6 6 r0, vI l3] M2) fun v3 M3 => if v3 = 0 then (e_X6_rainOn_4 d r0 l1 l3 (w32 (l3 + 1)) (vI v1) M3) else (e_X6_rainOn_4 d r0 l1 l2 (w32 (l3 + 1)) (vI v1) M3)) else (e_X6_rainOn_4 d r0 l1 l2 (w32 (l3 + 1)) (vI v1) M2)) else (e_X6_rainOn_4 d r0 l1 l2 (w32 (l3 + 1)) (vI v1) M2)) := by
  show amRun _ _ = _
  refine (amRun_t (f := amStep amGst (amD amGst d) cdX6_rainOn) 3 (x := if M 6 r0 2 < l3 then .inl (58, [vR 6 6 r0, vI l1, vI l2, vI l3, u4], [], M) else .inl (12, [vR 6 6 r0, vI l1, vI l2, vI l3, u4], [], M)) rfl).trans (amK_if ?_ ?_)
  · exact amRun_b 2 (x := .inr (some (vI l2, M))) rfl
  · refine (amRun_t (f := amStep amGst (amD amGst d) cdX6_rainOn) 2 (x := amPu 1 (amD amGst d 57 [vR 6 6 r0, vI l3] M) (fun z9 M9 => .inl (17, [vR 6 6 r0, vI l1, vI l2, vI l3, u4], z9 ++ [], M9))) rfl).trans (amK_pI fun v1 M1 => ?_)
    refine (amRun_t (f := amStep amGst (amD amGst d) cdX6_rainOn) 8 (x := amPu 0 (amD amGst d 60 [vR 6 6 r0, vI l3, vI (amMax 0 (w32 (v1 - l1)))] M1) (fun z9 M9 => .inl (32, [vR 6 6 r0, vI l1, vI l2, vI l3, vI v1], z9 ++ [], M9))) rfl).trans (amK_pV fun M2 => ?_)
    refine (amRun_t (f := amStep amGst (amD amGst d) cdX6_rainOn) 2 (x := if l2 = (-1) then .inl (37, [vR 6 6 r0, vI l1, vI l2, vI l3, vI v1], [], M2) else .inl (52, [vR 6 6 r0, vI l1, vI l2, vI l3, vI v1], [], M2)) rfl).trans (amK_if ?_ ?_)
    · refine (amRun_t (f := amStep amGst (amD amGst d) cdX6_rainOn) 1 (x := if 0 < v1 then .inl (42, [vR 6 6 r0, vI l1, vI l2, vI l3, vI v1], [], M2) else .inl (52, [vR 6 6 r0, vI l1, vI l2, vI l3, vI v1], [], M2)) rfl).trans (amK_if ?_ ?_)
      · refine (amRun_t (f := amStep amGst (amD amGst d) cdX6_rainOn) 2 (x := amPu 1 (amD amGst d 57 [vR 6 6 r0, vI l3] M2) (fun z9 M9 => .inl (47, [vR 6 6 r0, vI l1, vI l2, vI l3, vI v1], z9 ++ [], M9))) rfl).trans (amK_pI fun v3 M3 => ?_)
        refine (amRun_t (f := amStep amGst (amD amGst d) cdX6_rainOn) 0 (x := if v3 = 0 then .inl (50, [vR 6 6 r0, vI l1, vI l2, vI l3, vI v1], [], M3) else .inl (52, [vR 6 6 r0, vI l1, vI l2, vI l3, vI v1], [], M3)) rfl).trans (amK_if ?_ ?_)
        · exact amRun_b 4 (x := .inl (4, [vR 6 6 r0, vI l1, vI l3, vI (w32 (l3 + 1)), vI v1], [], M3)) rfl
        · exact amRun_b 2 (x := .inl (4, [vR 6 6 r0, vI l1, vI l2, vI (w32 (l3 + 1)), vI v1], [], M3)) rfl
      · exact amRun_b 2 (x := .inl (4, [vR 6 6 r0, vI l1, vI l2, vI (w32 (l3 + 1)), vI v1], [], M2)) rfl
    · exact amRun_b 2 (x := .inl (4, [vR 6 6 r0, vI l1, vI l2, vI (w32 (l3 + 1)), vI v1], [], M2)) rfl
theorem n_X6_rainOn (d : Nat) (r0 : Nat) (l1 : Int) (M : AmM) : amD amGst (d + 1) 61 [vR 6 6 r0, vI l1] M = e_X6_rainOn_0 d r0 l1 M := rfl
noncomputable def e_X6_allThick_0 (d : Nat) (r0 : Nat) (M : AmM) : Option (AmV × AmM) := amRun (amStep amGst (amD amGst d) cdX6_allThick) (0, [vR 6 6 r0, vU, vU], [], M)
noncomputable def e_X6_allThick_4 (d : Nat) (r0 : Nat) (l1 : Int) (l2 : Int) (M : AmM) : Option (AmV × AmM) := amRun (amStep amGst (amD amGst d) cdX6_allThick) (4, [vR 6 6 r0, vI l1, vI l2], [], M)
theorem q_X6_allThick_0 (d : Nat) (r0 : Nat) (M : AmM) : e_X6_allThick_0 d r0 M =
    e_X6_allThick_4 d r0 0 1 M := by
  show amRun _ _ = _
  exact amRun_b 4 (x := .inl (4, [vR 6 6 r0, vI 0, vI 1], [], M)) rfl
theorem q_X6_allThick_4 (d : Nat) (r0 : Nat) (l1 : Int) (l2 : Int) (M : AmM) : e_X6_allThick_4 d r0 l1 l2 M =
    if M 6 r0 2 < l2 then (some (vI l1, M)) else (amCI (amD amGst d 57 [vR 6 6 r0, vI l2] M) fun v1 M1 => e_X6_allThick_4 d r0 (w32 (l1 + v1)) (w32 (l2 + 1)) M1) := by
  show amRun _ _ = _
  refine (amRun_t (f := amStep amGst (amD amGst d) cdX6_allThick) 3 (x := if M 6 r0 2 < l2 then .inl (26, [vR 6 6 r0, vI l1, vI l2], [], M) else .inl (12, [vR 6 6 r0, vI l1, vI l2], [], M)) rfl).trans (amK_if ?_ ?_)
  · exact amRun_b 2 (x := .inr (some (vI l1, M))) rfl
  · refine (amRun_t (f := amStep amGst (amD amGst d) cdX6_allThick) 3 (x := amPu 1 (amD amGst d 57 [vR 6 6 r0, vI l2] M) (fun z9 M9 => .inl (18, [vR 6 6 r0, vI l1, vI l2], z9 ++ [vI l1], M9))) rfl).trans (amK_pI fun v1 M1 => ?_)
    exact amRun_b 4 (x := .inl (4, [vR 6 6 r0, vI (w32 (l1 + v1)), vI (w32 (l2 + 1))], [], M1)) rfl
theorem n_X6_allThick (d : Nat) (r0 : Nat) (M : AmM) : amD amGst (d + 1) 62 [vR 6 6 r0] M = e_X6_allThick_0 d r0 M := rfl
noncomputable def e_X8_clear_0 (d : Nat) (r0 : Nat) (M : AmM) : Option (AmV × AmM) := amRun (amStep amGst (amD amGst d) cdX8_clear) (0, [vR 8 8 r0], [], M)
theorem q_X8_clear_0 (d : Nat) (r0 : Nat) (M : AmM) : e_X8_clear_0 d r0 M =
    amCV (amD amGst d 11 [vR 1 1 r0] (amUp (amUp (amUp (amUp (amUp M 8 r0 5 0) 8 r0 6 0) 8 r0 7 0) 8 r0 8 0) 8 r0 9 0)) fun M1 => some (vU, M1) := by
  show amRun _ _ = _
  refine (amRun_t (f := amStep amGst (amD amGst d) cdX8_clear) 17 (x := amPu 0 (amD amGst d 11 [vR 1 1 r0] (amUp (amUp (amUp (amUp (amUp M 8 r0 5 0) 8 r0 6 0) 8 r0 7 0) 8 r0 8 0) 8 r0 9 0)) (fun z9 M9 => .inl (32, [vR 8 8 r0], z9 ++ [], M9))) rfl).trans (amK_pV fun M1 => ?_)
  exact amRun_b 1 (x := .inr (some (vU, M1))) rfl
theorem n_X8_clear (d : Nat) (r0 : Nat) (M : AmM) : amD amGst (d + 1) 81 [vR 8 8 r0] M = e_X8_clear_0 d r0 M := rfl
noncomputable def e_X8_copyFrom_0 (d : Nat) (r0 : Nat) (r1 : Nat) (M : AmM) : Option (AmV × AmM) := amRun (amStep amGst (amD amGst d) cdX8_copyFrom) (0, [vR 8 8 r0, vR 8 8 r1], [], M)
noncomputable def e_X8_copyFrom_79 (d : Nat) (r0 : Nat) (r1 : Nat) (M : AmM) : Option (AmV × AmM) := amRun (amStep amGst (amD amGst d) cdX8_copyFrom) (79, [vR 8 8 r0, vR 8 8 r1], [], M)
theorem q_X8_copyFrom_0 (d : Nat) (r0 : Nat) (r1 : Nat) (M : AmM) : e_X8_copyFrom_0 d r0 r1 M =
    amCV (amD amGst d 144 [vR 20 118 r1, vR 20 118 r0] M) fun M1 => amCV (amD amGst d 144 [vR 20 119 r1, vR 20 119 r0] M1) fun M2 => amCV (amD amGst d 144 [vR 20 120 r1, vR 20 120 r0] M2) fun M3 => amCV (amD amGst d 144 [vR 20 121 r1, vR 20 121 r0] M3) fun M4 => amCV (amD amGst d 12 [vR 1 1 r0, vR 1 1 r1] M4) fun M5 => e_X8_copyFrom_79 d r0 r1 (amUp (amUp (amUp M5 8 r0 5 (M5 8 r1 5)) 8 r0 6 ((amUp M5 8 r0 5 (M5 8 r1 5)) 8 r1 6)) 8 r0 7 ((amUp (amUp M5 8 r0 5 (M5 8 r1 5)) 8 r0 6 ((amUp M5 8 r0 5 (M5 8 r1 5)) 8 r1 6)) 8 r1 7)) := by
  show amRun _ _ = _
  refine (amRun_t (f := amStep amGst (amD amGst d) cdX8_copyFrom) 4 (x := amPu 0 (amD amGst d 144 [vR 20 118 r1, vR 20 118 r0] M) (fun z9 M9 => .inl (11, [vR 8 8 r0, vR 8 8 r1], z9 ++ [], M9))) rfl).trans (amK_pV fun M1 => ?_)
  refine (amRun_t (f := amStep amGst (amD amGst d) cdX8_copyFrom) 4 (x := amPu 0 (amD amGst d 144 [vR 20 119 r1, vR 20 119 r0] M1) (fun z9 M9 => .inl (22, [vR 8 8 r0, vR 8 8 r1], z9 ++ [], M9))) rfl).trans (amK_pV fun M2 => ?_)
  refine (amRun_t (f := amStep amGst (amD amGst d) cdX8_copyFrom) 4 (x := amPu 0 (amD amGst d 144 [vR 20 120 r1, vR 20 120 r0] M2) (fun z9 M9 => .inl (33, [vR 8 8 r0, vR 8 8 r1], z9 ++ [], M9))) rfl).trans (amK_pV fun M3 => ?_)
  refine (amRun_t (f := amStep amGst (amD amGst d) cdX8_copyFrom) 4 (x := amPu 0 (amD amGst d 144 [vR 20 121 r1, vR 20 121 r0] M3) (fun z9 M9 => .inl (44, [vR 8 8 r0, vR 8 8 r1], z9 ++ [], M9))) rfl).trans (amK_pV fun M4 => ?_)
  refine (amRun_t (f := amStep amGst (amD amGst d) cdX8_copyFrom) 4 (x := amPu 0 (amD amGst d 12 [vR 1 1 r0, vR 1 1 r1] M4) (fun z9 M9 => .inl (55, [vR 8 8 r0, vR 8 8 r1], z9 ++ [], M9))) rfl).trans (amK_pV fun M5 => ?_)
  exact amRun_b 12 (x := .inl (79, [vR 8 8 r0, vR 8 8 r1], [], amUp (amUp (amUp M5 8 r0 5 (M5 8 r1 5)) 8 r0 6 ((amUp M5 8 r0 5 (M5 8 r1 5)) 8 r1 6)) 8 r0 7 ((amUp (amUp M5 8 r0 5 (M5 8 r1 5)) 8 r0 6 ((amUp M5 8 r0 5 (M5 8 r1 5)) 8 r1 6)) 8 r1 7))) rfl
theorem q_X8_copyFrom_79 (d : Nat) (r0 : Nat) (r1 : Nat) (M : AmM) : e_X8_copyFrom_79 d r0 r1 M =
    some (vU, amUp (amUp M 8 r0 8 (M 8 r1 8)) 8 r0 9 ((amUp M 8 r0 8 (M 8 r1 8)) 8 r1 9)) := by
  show amRun _ _ = _
  exact amRun_b 9 (x := .inr (some (vU, amUp (amUp M 8 r0 8 (M 8 r1 8)) 8 r0 9 ((amUp M 8 r0 8 (M 8 r1 8)) 8 r1 9)))) rfl
theorem n_X8_copyFrom (d : Nat) (r0 : Nat) (r1 : Nat) (M : AmM) : amD amGst (d + 1) 82 [vR 8 8 r0, vR 8 8 r1] M = e_X8_copyFrom_0 d r0 r1 M := rfl
noncomputable def e_X8_hasPilgrim_0 (d : Nat) (r0 : Nat) (l1 : Int) (M : AmM) : Option (AmV × AmM) := amRun (amStep amGst (amD amGst d) cdX8_hasPilgrim) (0, [vR 8 8 r0, vI l1], [], M)
theorem q_X8_hasPilgrim_0 (d : Nat) (r0 : Nat) (l1 : Int) (M : AmM) : e_X8_hasPilgrim_0 d r0 l1 M =
    if l1 < 0 then (some (vI 0, M)) else (if l1 < M 8 r0 9 then (some (vI 1, M)) else (some (vI 0, M))) := by
  show amRun _ _ = _
  refine (amRun_t (f := amStep amGst (amD amGst d) cdX8_hasPilgrim) 1 (x := if l1 < 0 then .inl (16, [vR 8 8 r0, vI l1], [], M) else .inl (4, [vR 8 8 r0, vI l1], [], M)) rfl).trans (amK_if ?_ ?_)
  · exact amRun_b 2 (x := .inr (some (vI 0, M))) rfl
  · refine (amRun_t (f := amStep amGst (amD amGst d) cdX8_hasPilgrim) 3 (x := if l1 < M 8 r0 9 then .inl (12, [vR 8 8 r0, vI l1], [], M) else .inl (16, [vR 8 8 r0, vI l1], [], M)) rfl).trans (amK_if ?_ ?_)
    · exact amRun_b 3 (x := .inr (some (vI 1, M))) rfl
    · exact amRun_b 2 (x := .inr (some (vI 0, M))) rfl
theorem n_X8_hasPilgrim (d : Nat) (r0 : Nat) (l1 : Int) (M : AmM) : amD amGst (d + 1) 83 [vR 8 8 r0, vI l1] M = e_X8_hasPilgrim_0 d r0 l1 M := rfl
noncomputable def e_X8_rainOf_0 (d : Nat) (r0 : Nat) (l1 : Int) (M : AmM) : Option (AmV × AmM) := amRun (amStep amGst (amD amGst d) cdX8_rainOf) (0, [vR 8 8 r0, vI l1], [], M)
theorem q_X8_rainOf_0 (d : Nat) (r0 : Nat) (l1 : Int) (M : AmM) : e_X8_rainOf_0 d r0 l1 M =
    if 0 < M 8 r0 6 then (if M 8 r0 6 = 0 then none else (amCI (amD amGst d 142 [vR 20 119 r0, vI (Int.tmod l1 (M 8 r0 6))] M) fun v1 M1 => some (vI v1, M1))) else (some (vI 0, M)) := by
  show amRun _ _ = _
  refine (amRun_t (f := amStep amGst (amD amGst d) cdX8_rainOf) 2 (x := if 0 < M 8 r0 6 then .inl (7, [vR 8 8 r0, vI l1], [], M) else .inl (23, [vR 8 8 r0, vI l1], [], M)) rfl).trans (amK_if ?_ ?_)
  · refine (amRun_t (f := amStep amGst (amD amGst d) cdX8_rainOf) 5 (x := if M 8 r0 6 = 0 then amNo else .inl (17, [vR 8 8 r0, vI l1], [vI (Int.tmod l1 (M 8 r0 6)), vR 20 119 r0], M)) rfl).trans (amK_if rfl ?_)
    refine (amRun_t (f := amStep amGst (amD amGst d) cdX8_rainOf) 0 (x := amPu 1 (amD amGst d 142 [vR 20 119 r0, vI (Int.tmod l1 (M 8 r0 6))] M) (fun z9 M9 => .inl (20, [vR 8 8 r0, vI l1], z9 ++ [], M9))) rfl).trans (amK_pI fun v1 M1 => ?_)
    exact amRun_b 2 (x := .inr (some (vI v1, M1))) rfl
  · exact amRun_b 2 (x := .inr (some (vI 0, M))) rfl
theorem n_X8_rainOf (d : Nat) (r0 : Nat) (l1 : Int) (M : AmM) : amD amGst (d + 1) 84 [vR 8 8 r0, vI l1] M = e_X8_rainOf_0 d r0 l1 M := rfl
noncomputable def e_X10_begin_0 (d : Nat) (l1 : Int) (l2 : Int) (M : AmM) : Option (AmV × AmM) := amRun (amStep amGst (amD amGst d) cdX10_begin) (0, [vR 10 10 0, vI l1, vI l2], [], M)
theorem q_X10_begin_0 (d : Nat) (l1 : Int) (l2 : Int) (M : AmM) : e_X10_begin_0 d l1 l2 M =
    amCI (amD amGst d 142 [vR 20 120 0, vI l1] M) fun v1 M1 => amCI (amD amGst d 142 [vR 20 121 0, vI l1] M1) fun v2 M2 => amCV (amD amGst d 98 [vR 10 10 0, vI v1, vI v2, vI l2] M2) fun M3 => some (vU, M3) := by
  show amRun _ _ = _
  refine (amRun_t (f := amStep amGst (amD amGst d) cdX10_begin) 5 (x := amPu 1 (amD amGst d 142 [vR 20 120 0, vI l1] M) (fun z9 M9 => .inl (12, [vR 10 10 0, vI l1, vI l2], z9 ++ [vR 10 10 0], M9))) rfl).trans (amK_pI fun v1 M1 => ?_)
  refine (amRun_t (f := amStep amGst (amD amGst d) cdX10_begin) 4 (x := amPu 1 (amD amGst d 142 [vR 20 121 0, vI l1] M1) (fun z9 M9 => .inl (23, [vR 10 10 0, vI l1, vI l2], z9 ++ [vI v1, vR 10 10 0], M9))) rfl).trans (amK_pI fun v2 M2 => ?_)
  refine (amRun_t (f := amStep amGst (amD amGst d) cdX10_begin) 1 (x := amPu 0 (amD amGst d 98 [vR 10 10 0, vI v1, vI v2, vI l2] M2) (fun z9 M9 => .inl (27, [vR 10 10 0, vI l1, vI l2], z9 ++ [], M9))) rfl).trans (amK_pV fun M3 => ?_)
  exact amRun_b 1 (x := .inr (some (vU, M3))) rfl
theorem n_X10_begin (d : Nat) (l1 : Int) (l2 : Int) (M : AmM) : amD amGst (d + 1) 97 [vR 10 10 0, vI l1, vI l2] M = e_X10_begin_0 d l1 l2 M := rfl
noncomputable def e_X10_beginAs_0 (d : Nat) (l1 : Int) (l2 : Int) (l3 : Int) (M : AmM) : Option (AmV × AmM) := amRun (amStep amGst (amD amGst d) cdX10_beginAs) (0, [vR 10 10 0, vI l1, vI l2, vI l3], [], M)
theorem q_X10_beginAs_0 (d : Nat) (l1 : Int) (l2 : Int) (l3 : Int) (M : AmM) : e_X10_beginAs_0 d l1 l2 l3 M =
    amCV (amD amGst d 143 [vR 20 125 0, vI 0, vI l1] (amUp (amUp M 10 0 2 l1) 10 0 3 l2)) fun M1 => amCV (amD amGst d 143 [vR 20 125 0, vI 3, vI l3] M1) fun M2 => amCI (amD amGst d 84 [vR 8 8 0, vI l3] M2) fun v3 M3 => amCV (amD amGst d 143 [vR 20 125 0, vI 4, vI v3] M3) fun M4 => some (vU, amUp (amUp (amUp M4 10 0 4 0) 10 0 5 0) 10 0 6 (-1)) := by
  show amRun _ _ = _
  refine (amRun_t (f := amStep amGst (amD amGst d) cdX10_beginAs) 10 (x := amPu 0 (amD amGst d 143 [vR 20 125 0, vI 0, vI l1] (amUp (amUp M 10 0 2 l1) 10 0 3 l2)) (fun z9 M9 => .inl (19, [vR 10 10 0, vI l1, vI l2, vI l3], z9 ++ [], M9))) rfl).trans (amK_pV fun M1 => ?_)
  refine (amRun_t (f := amStep amGst (amD amGst d) cdX10_beginAs) 4 (x := amPu 0 (amD amGst d 143 [vR 20 125 0, vI 3, vI l3] M1) (fun z9 M9 => .inl (28, [vR 10 10 0, vI l1, vI l2, vI l3], z9 ++ [], M9))) rfl).trans (amK_pV fun M2 => ?_)
  refine (amRun_t (f := amStep amGst (amD amGst d) cdX10_beginAs) 6 (x := amPu 1 (amD amGst d 84 [vR 8 8 0, vI l3] M2) (fun z9 M9 => .inl (41, [vR 10 10 0, vI l1, vI l2, vI l3], z9 ++ [vI 4, vR 20 125 0], M9))) rfl).trans (amK_pI fun v3 M3 => ?_)
  refine (amRun_t (f := amStep amGst (amD amGst d) cdX10_beginAs) 0 (x := amPu 0 (amD amGst d 143 [vR 20 125 0, vI 4, vI v3] M3) (fun z9 M9 => .inl (44, [vR 10 10 0, vI l1, vI l2, vI l3], z9 ++ [], M9))) rfl).trans (amK_pV fun M4 => ?_)
  exact amRun_b 10 (x := .inr (some (vU, amUp (amUp (amUp M4 10 0 4 0) 10 0 5 0) 10 0 6 (-1)))) rfl
theorem n_X10_beginAs (d : Nat) (l1 : Int) (l2 : Int) (l3 : Int) (M : AmM) : amD amGst (d + 1) 98 [vR 10 10 0, vI l1, vI l2, vI l3] M = e_X10_beginAs_0 d l1 l2 l3 M := rfl
noncomputable def e_X10_through_0 (d : Nat) (r1 : Nat) (l2 : Int) (l3 : Int) (M : AmM) : Option (AmV × AmM) := amRun (amStep amGst (amD amGst d) cdX10_through) (0, [vR 10 10 0, vR 6 6 r1, vI l2, vI l3, vU, vU, vU], [], M)
noncomputable def e_X10_through_12 (d : Nat) (r1 : Nat) (l2 : Int) (l3 : Int) (l4 : Int) (l5 : Int) (u6 : AmV) (M : AmM) : Option (AmV × AmM) := amRun (amStep amGst (amD amGst d) cdX10_through) (12, [vR 10 10 0, vR 6 6 r1, vI l2, vI l3, vI l4, vI l5, u6], [], M)
noncomputable def e_X10_through_81 (d : Nat) (r1 : Nat) (l2 : Int) (l3 : Int) (l4 : Int) (l5 : Int) (u6 : AmV) (M : AmM) : Option (AmV × AmM) := amRun (amStep amGst (amD amGst d) cdX10_through) (81, [vR 10 10 0, vR 6 6 r1, vI l2, vI l3, vI l4, vI l5, u6], [], M)
noncomputable def e_X10_through_99 (d : Nat) (r1 : Nat) (l2 : Int) (l3 : Int) (l4 : Int) (l5 : Int) (u6 : AmV) (M : AmM) : Option (AmV × AmM) := amRun (amStep amGst (amD amGst d) cdX10_through) (99, [vR 10 10 0, vR 6 6 r1, vI l2, vI l3, vI l4, vI l5, u6], [], M)
theorem q_X10_through_0 (d : Nat) (r1 : Nat) (l2 : Int) (l3 : Int) (M : AmM) : e_X10_through_0 d r1 l2 l3 M =
    amCV (amD amGst d 97 [vR 10 10 0, vI l2, vI l3] M) fun M1 => e_X10_through_12 d r1 l2 l3 0 0 vU M1 := by
  show amRun _ _ = _
  refine (amRun_t (f := amStep amGst (amD amGst d) cdX10_through) 3 (x := amPu 0 (amD amGst d 97 [vR 10 10 0, vI l2, vI l3] M) (fun z9 M9 => .inl (6, [vR 10 10 0, vR 6 6 r1, vI l2, vI l3, vU, vU, vU], z9 ++ [], M9))) rfl).trans (amK_pV fun M1 => ?_)
  exact amRun_b 4 (x := .inl (12, [vR 10 10 0, vR 6 6 r1, vI l2, vI l3, vI 0, vI 0, vU], [], M1)) rfl
theorem q_X10_through_12 (d : Nat) (r1 : Nat) (l2 : Int) (l3 : Int) (l4 : Int) (l5 : Int) (u6 : AmV) (M : AmM) : e_X10_through_12 d r1 l2 l3 l4 l5 u6 M =
    if l5 < 26 then (if l4 = 0 then (amCI (amD amGst d 54 [vR 6 6 r1] M) fun v1 M1 => if M 10 0 4 < v1 then (amCI (amD amGst d 101 [vR 10 10 0, vR 6 6 r1, vI 1] M1) fun v2 M2 => if v2 = 2 then (if M2 10 0 4 = 0 then (some (vI 1, M2)) else (some (vI 2, M2))) else (if v2 = 1 then (e_X10_through_12 d r1 l2 l3 1 (w32 (l5 + 1)) (vI v2) M2) else (e_X10_through_12 d r1 l2 l3 0 (w32 (l5 + 1)) (vI v2) M2))) else (e_X10_through_81 d r1 l2 l3 l4 l5 u6 M1)) else (e_X10_through_81 d r1 l2 l3 l4 l5 u6 M)) else (e_X10_through_81 d r1 l2 l3 l4 l5 u6 M) := by
  show amRun _ _ = _
  refine (amRun_t (f := amStep amGst (amD amGst d) cdX10_through) 2 (x := if l5 < 26 then .inl (19, [vR 10 10 0, vR 6 6 r1, vI l2, vI l3, vI l4, vI l5, u6], [], M) else .inl (81, [vR 10 10 0, vR 6 6 r1, vI l2, vI l3, vI l4, vI l5, u6], [], M)) rfl).trans (amK_if ?_ ?_)
  · refine (amRun_t (f := amStep amGst (amD amGst d) cdX10_through) 1 (x := if l4 = 0 then .inl (24, [vR 10 10 0, vR 6 6 r1, vI l2, vI l3, vI l4, vI l5, u6], [], M) else .inl (81, [vR 10 10 0, vR 6 6 r1, vI l2, vI l3, vI l4, vI l5, u6], [], M)) rfl).trans (amK_if ?_ ?_)
    · refine (amRun_t (f := amStep amGst (amD amGst d) cdX10_through) 3 (x := amPu 1 (amD amGst d 54 [vR 6 6 r1] M) (fun z9 M9 => .inl (32, [vR 10 10 0, vR 6 6 r1, vI l2, vI l3, vI l4, vI l5, u6], z9 ++ [vI (M 10 0 4)], M9))) rfl).trans (amK_pI fun v1 M1 => ?_)
      refine (amRun_t (f := amStep amGst (amD amGst d) cdX10_through) 0 (x := if M 10 0 4 < v1 then .inl (35, [vR 10 10 0, vR 6 6 r1, vI l2, vI l3, vI l4, vI l5, u6], [], M1) else .inl (81, [vR 10 10 0, vR 6 6 r1, vI l2, vI l3, vI l4, vI l5, u6], [], M1)) rfl).trans (amK_if ?_ ?_)
      · refine (amRun_t (f := amStep amGst (amD amGst d) cdX10_through) 3 (x := amPu 1 (amD amGst d 101 [vR 10 10 0, vR 6 6 r1, vI 1] M1) (fun z9 M9 => .inl (41, [vR 10 10 0, vR 6 6 r1, vI l2, vI l3, vI l4, vI l5, u6], z9 ++ [], M9))) rfl).trans (amK_pI fun v2 M2 => ?_)
        refine (amRun_t (f := amStep amGst (amD amGst d) cdX10_through) 3 (x := if v2 = 2 then .inl (49, [vR 10 10 0, vR 6 6 r1, vI l2, vI l3, vI l4, vI l5, vI v2], [], M2) else .inl (62, [vR 10 10 0, vR 6 6 r1, vI l2, vI l3, vI l4, vI l5, vI v2], [], M2)) rfl).trans (amK_if ?_ ?_)
        · refine (amRun_t (f := amStep amGst (amD amGst d) cdX10_through) 2 (x := if M2 10 0 4 = 0 then .inl (56, [vR 10 10 0, vR 6 6 r1, vI l2, vI l3, vI l4, vI l5, vI v2], [], M2) else .inl (60, [vR 10 10 0, vR 6 6 r1, vI l2, vI l3, vI l4, vI l5, vI v2], [], M2)) rfl).trans (amK_if ?_ ?_)
          · exact amRun_b 3 (x := .inr (some (vI 1, M2))) rfl
          · exact amRun_b 2 (x := .inr (some (vI 2, M2))) rfl
        · refine (amRun_t (f := amStep amGst (amD amGst d) cdX10_through) 2 (x := if v2 = 1 then .inl (68, [vR 10 10 0, vR 6 6 r1, vI l2, vI l3, vI l4, vI l5, vI v2], [], M2) else .inl (72, [vR 10 10 0, vR 6 6 r1, vI l2, vI l3, vI l4, vI l5, vI v2], [], M2)) rfl).trans (amK_if ?_ ?_)
          · exact amRun_b 5 (x := .inl (12, [vR 10 10 0, vR 6 6 r1, vI l2, vI l3, vI 1, vI (w32 (l5 + 1)), vI v2], [], M2)) rfl
          · exact amRun_b 4 (x := .inl (12, [vR 10 10 0, vR 6 6 r1, vI l2, vI l3, vI 0, vI (w32 (l5 + 1)), vI v2], [], M2)) rfl
      · exact amRun_b 0 (x := .inl (81, [vR 10 10 0, vR 6 6 r1, vI l2, vI l3, vI l4, vI l5, u6], [], M1)) rfl
    · exact amRun_b 0 (x := .inl (81, [vR 10 10 0, vR 6 6 r1, vI l2, vI l3, vI l4, vI l5, u6], [], M)) rfl
  · exact amRun_b 0 (x := .inl (81, [vR 10 10 0, vR 6 6 r1, vI l2, vI l3, vI l4, vI l5, u6], [], M)) rfl
theorem q_X10_through_81 (d : Nat) (r1 : Nat) (l2 : Int) (l3 : Int) (l4 : Int) (l5 : Int) (u6 : AmV) (M : AmM) : e_X10_through_81 d r1 l2 l3 l4 l5 u6 M =
    if M 10 0 3 = 3 then (if l4 = 0 then (some (vI 0, M)) else (e_X10_through_99 d r1 l2 l3 l4 0 u6 M)) else (e_X10_through_99 d r1 l2 l3 l4 0 u6 M) := by
  show amRun _ _ = _
  refine (amRun_t (f := amStep amGst (amD amGst d) cdX10_through) 3 (x := if M 10 0 3 = 3 then .inl (89, [vR 10 10 0, vR 6 6 r1, vI l2, vI l3, vI l4, vI l5, u6], [], M) else .inl (96, [vR 10 10 0, vR 6 6 r1, vI l2, vI l3, vI l4, vI l5, u6], [], M)) rfl).trans (amK_if ?_ ?_)
  · refine (amRun_t (f := amStep amGst (amD amGst d) cdX10_through) 1 (x := if l4 = 0 then .inl (94, [vR 10 10 0, vR 6 6 r1, vI l2, vI l3, vI l4, vI l5, u6], [], M) else .inl (96, [vR 10 10 0, vR 6 6 r1, vI l2, vI l3, vI l4, vI l5, u6], [], M)) rfl).trans (amK_if ?_ ?_)
    · exact amRun_b 2 (x := .inr (some (vI 0, M))) rfl
    · exact amRun_b 2 (x := .inl (99, [vR 10 10 0, vR 6 6 r1, vI l2, vI l3, vI l4, vI 0, u6], [], M)) rfl
  · exact amRun_b 2 (x := .inl (99, [vR 10 10 0, vR 6 6 r1, vI l2, vI l3, vI l4, vI 0, u6], [], M)) rfl
theorem q_X10_through_99 (d : Nat) (r1 : Nat) (l2 : Int) (l3 : Int) (l4 : Int) (l5 : Int) (u6 : AmV) (M : AmM) : e_X10_through_99 d r1 l2 l3 l4 l5 u6 M =
    if l5 < 26 then (if 0 < M 10 0 4 then (amCI (amD amGst d 101 [vR 10 10 0, vR 6 6 r1, vI 0] M) fun v1 M1 => if v1 = 0 then (e_X10_through_99 d r1 l2 l3 l4 (w32 (l5 + 1)) u6 M1) else (some (vI 2, M1))) else (if l4 = 0 then (some (vI 0, M)) else (some (vI 1, M)))) else (if l4 = 0 then (some (vI 0, M)) else (some (vI 1, M))) := by
  show amRun _ _ = _
  refine (amRun_t (f := amStep amGst (amD amGst d) cdX10_through) 2 (x := if l5 < 26 then .inl (106, [vR 10 10 0, vR 6 6 r1, vI l2, vI l3, vI l4, vI l5, u6], [], M) else .inl (130, [vR 10 10 0, vR 6 6 r1, vI l2, vI l3, vI l4, vI l5, u6], [], M)) rfl).trans (amK_if ?_ ?_)
  · refine (amRun_t (f := amStep amGst (amD amGst d) cdX10_through) 2 (x := if 0 < M 10 0 4 then .inl (113, [vR 10 10 0, vR 6 6 r1, vI l2, vI l3, vI l4, vI l5, u6], [], M) else .inl (130, [vR 10 10 0, vR 6 6 r1, vI l2, vI l3, vI l4, vI l5, u6], [], M)) rfl).trans (amK_if ?_ ?_)
    · refine (amRun_t (f := amStep amGst (amD amGst d) cdX10_through) 3 (x := amPu 1 (amD amGst d 101 [vR 10 10 0, vR 6 6 r1, vI 0] M) (fun z9 M9 => .inl (119, [vR 10 10 0, vR 6 6 r1, vI l2, vI l3, vI l4, vI l5, u6], z9 ++ [], M9))) rfl).trans (amK_pI fun v1 M1 => ?_)
      refine (amRun_t (f := amStep amGst (amD amGst d) cdX10_through) 0 (x := if v1 = 0 then .inl (124, [vR 10 10 0, vR 6 6 r1, vI l2, vI l3, vI l4, vI l5, u6], [], M1) else .inl (122, [vR 10 10 0, vR 6 6 r1, vI l2, vI l3, vI l4, vI l5, u6], [], M1)) rfl).trans (amK_if ?_ ?_)
      · exact amRun_b 2 (x := .inl (99, [vR 10 10 0, vR 6 6 r1, vI l2, vI l3, vI l4, vI (w32 (l5 + 1)), u6], [], M1)) rfl
      · exact amRun_b 2 (x := .inr (some (vI 2, M1))) rfl
    · refine (amRun_t (f := amStep amGst (amD amGst d) cdX10_through) 1 (x := if l4 = 0 then .inl (139, [vR 10 10 0, vR 6 6 r1, vI l2, vI l3, vI l4, vI l5, u6], [], M) else .inl (135, [vR 10 10 0, vR 6 6 r1, vI l2, vI l3, vI l4, vI l5, u6], [], M)) rfl).trans (amK_if ?_ ?_)
      · exact amRun_b 2 (x := .inr (some (vI 0, M))) rfl
      · exact amRun_b 3 (x := .inr (some (vI 1, M))) rfl
  · refine (amRun_t (f := amStep amGst (amD amGst d) cdX10_through) 1 (x := if l4 = 0 then .inl (139, [vR 10 10 0, vR 6 6 r1, vI l2, vI l3, vI l4, vI l5, u6], [], M) else .inl (135, [vR 10 10 0, vR 6 6 r1, vI l2, vI l3, vI l4, vI l5, u6], [], M)) rfl).trans (amK_if ?_ ?_)
    · exact amRun_b 2 (x := .inr (some (vI 0, M))) rfl
    · exact amRun_b 3 (x := .inr (some (vI 1, M))) rfl
theorem n_X10_through (d : Nat) (r1 : Nat) (l2 : Int) (l3 : Int) (M : AmM) : amD amGst (d + 1) 99 [vR 10 10 0, vR 6 6 r1, vI l2, vI l3] M = e_X10_through_0 d r1 l2 l3 M := rfl
noncomputable def e_X10_carriesUp_0 (d : Nat) (r1 : Nat) (l2 : Int) (l3 : Int) (M : AmM) : Option (AmV × AmM) := amRun (amStep amGst (amD amGst d) cdX10_carriesUp) (0, [vR 10 10 0, vR 6 6 r1, vI l2, vI l3, vU], [], M)
noncomputable def e_X10_carriesUp_10 (d : Nat) (r1 : Nat) (l2 : Int) (l3 : Int) (l4 : Int) (M : AmM) : Option (AmV × AmM) := amRun (amStep amGst (amD amGst d) cdX10_carriesUp) (10, [vR 10 10 0, vR 6 6 r1, vI l2, vI l3, vI l4], [], M)
theorem q_X10_carriesUp_0 (d : Nat) (r1 : Nat) (l2 : Int) (l3 : Int) (M : AmM) : e_X10_carriesUp_0 d r1 l2 l3 M =
    amCV (amD amGst d 98 [vR 10 10 0, vI l2, vI 0, vI l3] M) fun M1 => e_X10_carriesUp_10 d r1 l2 l3 0 M1 := by
  show amRun _ _ = _
  refine (amRun_t (f := amStep amGst (amD amGst d) cdX10_carriesUp) 4 (x := amPu 0 (amD amGst d 98 [vR 10 10 0, vI l2, vI 0, vI l3] M) (fun z9 M9 => .inl (7, [vR 10 10 0, vR 6 6 r1, vI l2, vI l3, vU], z9 ++ [], M9))) rfl).trans (amK_pV fun M1 => ?_)
  exact amRun_b 2 (x := .inl (10, [vR 10 10 0, vR 6 6 r1, vI l2, vI l3, vI 0], [], M1)) rfl
theorem q_X10_carriesUp_10 (d : Nat) (r1 : Nat) (l2 : Int) (l3 : Int) (l4 : Int) (M : AmM) : e_X10_carriesUp_10 d r1 l2 l3 l4 M =
    if l4 < 26 then (amCI (amD amGst d 54 [vR 6 6 r1] M) fun v1 M1 => if M 10 0 4 < v1 then (amCI (amD amGst d 101 [vR 10 10 0, vR 6 6 r1, vI 1] M1) fun v2 M2 => if v2 = 0 then (e_X10_carriesUp_10 d r1 l2 l3 (w32 (l4 + 1)) M2) else (some (vI 0, M2))) else (some (vI 1, M1))) else (some (vI 1, M)) := by
  show amRun _ _ = _
  refine (amRun_t (f := amStep amGst (amD amGst d) cdX10_carriesUp) 2 (x := if l4 < 26 then .inl (17, [vR 10 10 0, vR 6 6 r1, vI l2, vI l3, vI l4], [], M) else .inl (45, [vR 10 10 0, vR 6 6 r1, vI l2, vI l3, vI l4], [], M)) rfl).trans (amK_if ?_ ?_)
  · refine (amRun_t (f := amStep amGst (amD amGst d) cdX10_carriesUp) 3 (x := amPu 1 (amD amGst d 54 [vR 6 6 r1] M) (fun z9 M9 => .inl (25, [vR 10 10 0, vR 6 6 r1, vI l2, vI l3, vI l4], z9 ++ [vI (M 10 0 4)], M9))) rfl).trans (amK_pI fun v1 M1 => ?_)
    refine (amRun_t (f := amStep amGst (amD amGst d) cdX10_carriesUp) 0 (x := if M 10 0 4 < v1 then .inl (28, [vR 10 10 0, vR 6 6 r1, vI l2, vI l3, vI l4], [], M1) else .inl (45, [vR 10 10 0, vR 6 6 r1, vI l2, vI l3, vI l4], [], M1)) rfl).trans (amK_if ?_ ?_)
    · refine (amRun_t (f := amStep amGst (amD amGst d) cdX10_carriesUp) 3 (x := amPu 1 (amD amGst d 101 [vR 10 10 0, vR 6 6 r1, vI 1] M1) (fun z9 M9 => .inl (34, [vR 10 10 0, vR 6 6 r1, vI l2, vI l3, vI l4], z9 ++ [], M9))) rfl).trans (amK_pI fun v2 M2 => ?_)
      refine (amRun_t (f := amStep amGst (amD amGst d) cdX10_carriesUp) 0 (x := if v2 = 0 then .inl (39, [vR 10 10 0, vR 6 6 r1, vI l2, vI l3, vI l4], [], M2) else .inl (37, [vR 10 10 0, vR 6 6 r1, vI l2, vI l3, vI l4], [], M2)) rfl).trans (amK_if ?_ ?_)
      · exact amRun_b 2 (x := .inl (10, [vR 10 10 0, vR 6 6 r1, vI l2, vI l3, vI (w32 (l4 + 1))], [], M2)) rfl
      · exact amRun_b 2 (x := .inr (some (vI 0, M2))) rfl
    · exact amRun_b 2 (x := .inr (some (vI 1, M1))) rfl
  · exact amRun_b 2 (x := .inr (some (vI 1, M))) rfl
theorem n_X10_carriesUp (d : Nat) (r1 : Nat) (l2 : Int) (l3 : Int) (M : AmM) : amD amGst (d + 1) 100 [vR 10 10 0, vR 6 6 r1, vI l2, vI l3] M = e_X10_carriesUp_0 d r1 l2 l3 M := rfl
noncomputable def e_X10_advance_0 (d : Nat) (r1 : Nat) (l2 : Int) (M : AmM) : Option (AmV × AmM) := amRun (amStep amGst (amD amGst d) cdX10_advance) (0, [vR 10 10 0, vR 6 6 r1, vI l2, vU], [], M)
theorem q_X10_advance_0 (d : Nat) (r1 : Nat) (l2 : Int) (M : AmM) : e_X10_advance_0 d r1 l2 M =
    amCI (amD amGst d 102 [vR 10 10 0, vR 6 6 r1, vI l2] M) fun v1 M1 => amCI (amD amGst d 56 [vR 6 6 r1, vI v1] M1) fun v2 M2 => if v2 = 0 then (some (vI 1, M2)) else (amCI (amD amGst d 55 [vR 6 6 r1, vI v1] M2) fun v3 M3 => if v3 = 0 then (some (vI 0, amUp M3 10 0 4 v1)) else (amCI (amD amGst d 103 [vR 10 10 0, vR 6 6 r1, vI v1, vI l2] M3) fun v4 M4 => if v4 = 0 then (some (vI 2, M4)) else (some (vI 0, amUp M4 10 0 4 v1)))) := by
  show amRun _ _ = _
  refine (amRun_t (f := amStep amGst (amD amGst d) cdX10_advance) 3 (x := amPu 1 (amD amGst d 102 [vR 10 10 0, vR 6 6 r1, vI l2] M) (fun z9 M9 => .inl (6, [vR 10 10 0, vR 6 6 r1, vI l2, vU], z9 ++ [], M9))) rfl).trans (amK_pI fun v1 M1 => ?_)
  refine (amRun_t (f := amStep amGst (amD amGst d) cdX10_advance) 3 (x := amPu 1 (amD amGst d 56 [vR 6 6 r1, vI v1] M1) (fun z9 M9 => .inl (12, [vR 10 10 0, vR 6 6 r1, vI l2, vI v1], z9 ++ [], M9))) rfl).trans (amK_pI fun v2 M2 => ?_)
  refine (amRun_t (f := amStep amGst (amD amGst d) cdX10_advance) 0 (x := if v2 = 0 then .inl (15, [vR 10 10 0, vR 6 6 r1, vI l2, vI v1], [], M2) else .inl (17, [vR 10 10 0, vR 6 6 r1, vI l2, vI v1], [], M2)) rfl).trans (amK_if ?_ ?_)
  · exact amRun_b 2 (x := .inr (some (vI 1, M2))) rfl
  · refine (amRun_t (f := amStep amGst (amD amGst d) cdX10_advance) 2 (x := amPu 1 (amD amGst d 55 [vR 6 6 r1, vI v1] M2) (fun z9 M9 => .inl (22, [vR 10 10 0, vR 6 6 r1, vI l2, vI v1], z9 ++ [], M9))) rfl).trans (amK_pI fun v3 M3 => ?_)
    refine (amRun_t (f := amStep amGst (amD amGst d) cdX10_advance) 0 (x := if v3 = 0 then .inl (37, [vR 10 10 0, vR 6 6 r1, vI l2, vI v1], [], M3) else .inl (25, [vR 10 10 0, vR 6 6 r1, vI l2, vI v1], [], M3)) rfl).trans (amK_if ?_ ?_)
    · exact amRun_b 5 (x := .inr (some (vI 0, amUp M3 10 0 4 v1))) rfl
    · refine (amRun_t (f := amStep amGst (amD amGst d) cdX10_advance) 4 (x := amPu 1 (amD amGst d 103 [vR 10 10 0, vR 6 6 r1, vI v1, vI l2] M3) (fun z9 M9 => .inl (32, [vR 10 10 0, vR 6 6 r1, vI l2, vI v1], z9 ++ [], M9))) rfl).trans (amK_pI fun v4 M4 => ?_)
      refine (amRun_t (f := amStep amGst (amD amGst d) cdX10_advance) 0 (x := if v4 = 0 then .inl (35, [vR 10 10 0, vR 6 6 r1, vI l2, vI v1], [], M4) else .inl (37, [vR 10 10 0, vR 6 6 r1, vI l2, vI v1], [], M4)) rfl).trans (amK_if ?_ ?_)
      · exact amRun_b 2 (x := .inr (some (vI 2, M4))) rfl
      · exact amRun_b 5 (x := .inr (some (vI 0, amUp M4 10 0 4 v1))) rfl
theorem n_X10_advance (d : Nat) (r1 : Nat) (l2 : Int) (M : AmM) : amD amGst (d + 1) 101 [vR 10 10 0, vR 6 6 r1, vI l2] M = e_X10_advance_0 d r1 l2 M := rfl
noncomputable def e_X10_nextSpot_0 (d : Nat) (r1 : Nat) (l2 : Int) (M : AmM) : Option (AmV × AmM) := amRun (amStep amGst (amD amGst d) cdX10_nextSpot) (0, [vR 10 10 0, vR 6 6 r1, vI l2, vU, vU], [], M)
theorem q_X10_nextSpot_0 (d : Nat) (r1 : Nat) (l2 : Int) (M : AmM) : e_X10_nextSpot_0 d r1 l2 M =
    if l2 = 0 then (if M 10 0 3 = 2 then (amCI (amD amGst d 54 [vR 6 6 r1] M) fun v1 M1 => amCI (amD amGst d 56 [vR 6 6 r1, vI (amMax 0 (amMin v1 (w32 ((M1 10 0 4) + (w32 (2 * (-1)))))))] M1) fun v2 M2 => if v2 = 0 then (some (vI (w32 ((M2 10 0 4) + (-1))), M2)) else (some (vI (amMax 0 (amMin v1 (w32 ((M1 10 0 4) + (w32 (2 * (-1))))))), M2))) else (some (vI (w32 ((M 10 0 4) + (-1))), M))) else (if M 10 0 3 = 2 then (amCI (amD amGst d 54 [vR 6 6 r1] M) fun v3 M3 => amCI (amD amGst d 56 [vR 6 6 r1, vI (amMax 0 (amMin v3 (w32 ((M3 10 0 4) + (w32 (2 * 1))))))] M3) fun v4 M4 => if v4 = 0 then (some (vI (w32 ((M4 10 0 4) + 1)), M4)) else (some (vI (amMax 0 (amMin v3 (w32 ((M3 10 0 4) + (w32 (2 * 1)))))), M4))) else (some (vI (w32 ((M 10 0 4) + 1)), M))) := by
  show amRun _ _ = _
  refine (amRun_t (f := amStep amGst (amD amGst d) cdX10_nextSpot) 1 (x := if l2 = 0 then .inl (8, [vR 10 10 0, vR 6 6 r1, vI l2, vU, vU], [], M) else .inl (4, [vR 10 10 0, vR 6 6 r1, vI l2, vU, vU], [], M)) rfl).trans (amK_if ?_ ?_)
  · refine (amRun_t (f := amStep amGst (amD amGst d) cdX10_nextSpot) 5 (x := if M 10 0 3 = 2 then .inl (18, [vR 10 10 0, vR 6 6 r1, vI l2, vI (-1), vU], [], M) else .inl (51, [vR 10 10 0, vR 6 6 r1, vI l2, vI (-1), vU], [], M)) rfl).trans (amK_if ?_ ?_)
    · refine (amRun_t (f := amStep amGst (amD amGst d) cdX10_nextSpot) 2 (x := amPu 1 (amD amGst d 54 [vR 6 6 r1] M) (fun z9 M9 => .inl (23, [vR 10 10 0, vR 6 6 r1, vI l2, vI (-1), vU], z9 ++ [vI 0], M9))) rfl).trans (amK_pI fun v1 M1 => ?_)
      refine (amRun_t (f := amStep amGst (amD amGst d) cdX10_nextSpot) 11 (x := amPu 1 (amD amGst d 56 [vR 6 6 r1, vI (amMax 0 (amMin v1 (w32 ((M1 10 0 4) + (w32 (2 * (-1)))))))] M1) (fun z9 M9 => .inl (45, [vR 10 10 0, vR 6 6 r1, vI l2, vI (-1), vI (amMax 0 (amMin v1 (w32 ((M1 10 0 4) + (w32 (2 * (-1)))))))], z9 ++ [], M9))) rfl).trans (amK_pI fun v2 M2 => ?_)
      refine (amRun_t (f := amStep amGst (amD amGst d) cdX10_nextSpot) 0 (x := if v2 = 0 then .inl (51, [vR 10 10 0, vR 6 6 r1, vI l2, vI (-1), vI (amMax 0 (amMin v1 (w32 ((M1 10 0 4) + (w32 (2 * (-1)))))))], [], M2) else .inl (48, [vR 10 10 0, vR 6 6 r1, vI l2, vI (-1), vI (amMax 0 (amMin v1 (w32 ((M1 10 0 4) + (w32 (2 * (-1)))))))], [], M2)) rfl).trans (amK_if ?_ ?_)
      · exact amRun_b 5 (x := .inr (some (vI (w32 ((M2 10 0 4) + (-1))), M2))) rfl
      · exact amRun_b 2 (x := .inr (some (vI (amMax 0 (amMin v1 (w32 ((M1 10 0 4) + (w32 (2 * (-1))))))), M2))) rfl
    · exact amRun_b 5 (x := .inr (some (vI (w32 ((M 10 0 4) + (-1))), M))) rfl
  · refine (amRun_t (f := amStep amGst (amD amGst d) cdX10_nextSpot) 6 (x := if M 10 0 3 = 2 then .inl (18, [vR 10 10 0, vR 6 6 r1, vI l2, vI 1, vU], [], M) else .inl (51, [vR 10 10 0, vR 6 6 r1, vI l2, vI 1, vU], [], M)) rfl).trans (amK_if ?_ ?_)
    · refine (amRun_t (f := amStep amGst (amD amGst d) cdX10_nextSpot) 2 (x := amPu 1 (amD amGst d 54 [vR 6 6 r1] M) (fun z9 M9 => .inl (23, [vR 10 10 0, vR 6 6 r1, vI l2, vI 1, vU], z9 ++ [vI 0], M9))) rfl).trans (amK_pI fun v3 M3 => ?_)
      refine (amRun_t (f := amStep amGst (amD amGst d) cdX10_nextSpot) 11 (x := amPu 1 (amD amGst d 56 [vR 6 6 r1, vI (amMax 0 (amMin v3 (w32 ((M3 10 0 4) + (w32 (2 * 1))))))] M3) (fun z9 M9 => .inl (45, [vR 10 10 0, vR 6 6 r1, vI l2, vI 1, vI (amMax 0 (amMin v3 (w32 ((M3 10 0 4) + (w32 (2 * 1))))))], z9 ++ [], M9))) rfl).trans (amK_pI fun v4 M4 => ?_)
      refine (amRun_t (f := amStep amGst (amD amGst d) cdX10_nextSpot) 0 (x := if v4 = 0 then .inl (51, [vR 10 10 0, vR 6 6 r1, vI l2, vI 1, vI (amMax 0 (amMin v3 (w32 ((M3 10 0 4) + (w32 (2 * 1))))))], [], M4) else .inl (48, [vR 10 10 0, vR 6 6 r1, vI l2, vI 1, vI (amMax 0 (amMin v3 (w32 ((M3 10 0 4) + (w32 (2 * 1))))))], [], M4)) rfl).trans (amK_if ?_ ?_)
      · exact amRun_b 5 (x := .inr (some (vI (w32 ((M4 10 0 4) + 1)), M4))) rfl
      · exact amRun_b 2 (x := .inr (some (vI (amMax 0 (amMin v3 (w32 ((M3 10 0 4) + (w32 (2 * 1)))))), M4))) rfl
    · exact amRun_b 5 (x := .inr (some (vI (w32 ((M 10 0 4) + 1)), M))) rfl
theorem n_X10_nextSpot (d : Nat) (r1 : Nat) (l2 : Int) (M : AmM) : amD amGst (d + 1) 102 [vR 10 10 0, vR 6 6 r1, vI l2] M = e_X10_nextSpot_0 d r1 l2 M := rfl
noncomputable def e_X10_tread_0 (d : Nat) (r1 : Nat) (l2 : Int) (l3 : Int) (M : AmM) : Option (AmV × AmM) := amRun (amStep amGst (amD amGst d) cdX10_tread) (0, [vR 10 10 0, vR 6 6 r1, vI l2, vI l3, vU, vU, vU, vU], [], M)
noncomputable def e_X10_tread_3 (d : Nat) (r1 : Nat) (l2 : Int) (l3 : Int) (l4 : Int) (u5 : AmV) (u6 : AmV) (u7 : AmV) (M : AmM) : Option (AmV × AmM) := amRun (amStep amGst (amD amGst d) cdX10_tread) (3, [vR 10 10 0, vR 6 6 r1, vI l2, vI l3, vI l4, u5, u6, u7], [], M)
noncomputable def e_X10_tread_88 (d : Nat) (r1 : Nat) (l2 : Int) (l3 : Int) (l4 : Int) (l5 : Int) (l6 : Int) (l7 : Int) (M : AmM) : Option (AmV × AmM) := amRun (amStep amGst (amD amGst d) cdX10_tread) (88, [vR 10 10 0, vR 6 6 r1, vI l2, vI l3, vI l4, vI l5, vI l6, vI l7], [], M)
theorem q_X10_tread_0 (d : Nat) (r1 : Nat) (l2 : Int) (l3 : Int) (M : AmM) : e_X10_tread_0 d r1 l2 l3 M =
    e_X10_tread_3 d r1 l2 l3 0 vU vU vU M := by
  show amRun _ _ = _
  exact amRun_b 2 (x := .inl (3, [vR 10 10 0, vR 6 6 r1, vI l2, vI l3, vI 0, vU, vU, vU], [], M)) rfl
theorem q_X10_tread_3 (d : Nat) (r1 : Nat) (l2 : Int) (l3 : Int) (l4 : Int) (u5 : AmV) (u6 : AmV) (u7 : AmV) (M : AmM) : e_X10_tread_3 d r1 l2 l3 l4 u5 u6 u7 M =
    amCI (amD amGst d 105 [vR 10 10 0] M) fun v1 M1 => if l4 < v1 then (amCI (amD amGst d 57 [vR 6 6 r1, vI l2] M1) fun v2 M2 => amCI (amD amGst d 106 [vR 10 10 0, vI l2, vI v2, vI (M2 6 r1 3), vI l3] M2) fun v3 M3 => amCV (amD amGst d 60 [vR 6 6 r1, vI l2, vI (w32 (v2 - (amMin v3 v2)))] M3) fun M4 => if (amUp M4 10 0 5 (w32 ((M4 10 0 5) + (amMin v3 v2)))) 10 0 6 = (-1) then (if 0 < amMin v3 v2 then (if amMin v3 v2 = v2 then (e_X10_tread_88 d r1 l2 l3 l4 v2 v3 (amMin v3 v2) (amUp (amUp M4 10 0 5 (w32 ((M4 10 0 5) + (amMin v3 v2)))) 10 0 6 l2)) else (e_X10_tread_88 d r1 l2 l3 l4 v2 v3 (amMin v3 v2) (amUp M4 10 0 5 (w32 ((M4 10 0 5) + (amMin v3 v2)))))) else (e_X10_tread_88 d r1 l2 l3 l4 v2 v3 (amMin v3 v2) (amUp M4 10 0 5 (w32 ((M4 10 0 5) + (amMin v3 v2)))))) else (e_X10_tread_88 d r1 l2 l3 l4 v2 v3 (amMin v3 v2) (amUp M4 10 0 5 (w32 ((M4 10 0 5) + (amMin v3 v2)))))) else (some (vI 1, M1)) := by
  show amRun _ _ = _
  refine (amRun_t (f := amStep amGst (amD amGst d) cdX10_tread) 2 (x := amPu 1 (amD amGst d 105 [vR 10 10 0] M) (fun z9 M9 => .inl (9, [vR 10 10 0, vR 6 6 r1, vI l2, vI l3, vI l4, u5, u6, u7], z9 ++ [vI l4], M9))) rfl).trans (amK_pI fun v1 M1 => ?_)
  refine (amRun_t (f := amStep amGst (amD amGst d) cdX10_tread) 0 (x := if l4 < v1 then .inl (12, [vR 10 10 0, vR 6 6 r1, vI l2, vI l3, vI l4, u5, u6, u7], [], M1) else .inl (108, [vR 10 10 0, vR 6 6 r1, vI l2, vI l3, vI l4, u5, u6, u7], [], M1)) rfl).trans (amK_if ?_ ?_)
  · refine (amRun_t (f := amStep amGst (amD amGst d) cdX10_tread) 2 (x := amPu 1 (amD amGst d 57 [vR 6 6 r1, vI l2] M1) (fun z9 M9 => .inl (17, [vR 10 10 0, vR 6 6 r1, vI l2, vI l3, vI l4, u5, u6, u7], z9 ++ [], M9))) rfl).trans (amK_pI fun v2 M2 => ?_)
    refine (amRun_t (f := amStep amGst (amD amGst d) cdX10_tread) 7 (x := amPu 1 (amD amGst d 106 [vR 10 10 0, vI l2, vI v2, vI (M2 6 r1 3), vI l3] M2) (fun z9 M9 => .inl (31, [vR 10 10 0, vR 6 6 r1, vI l2, vI l3, vI l4, vI v2, u6, u7], z9 ++ [], M9))) rfl).trans (amK_pI fun v3 M3 => ?_)
    refine (amRun_t (f := amStep amGst (amD amGst d) cdX10_tread) 10 (x := amPu 0 (amD amGst d 60 [vR 6 6 r1, vI l2, vI (w32 (v2 - (amMin v3 v2)))] M3) (fun z9 M9 => .inl (52, [vR 10 10 0, vR 6 6 r1, vI l2, vI l3, vI l4, vI v2, vI v3, vI (amMin v3 v2)], z9 ++ [], M9))) rfl).trans (amK_pV fun M4 => ?_)
    refine (amRun_t (f := amStep amGst (amD amGst d) cdX10_tread) 9 (x := if (amUp M4 10 0 5 (w32 ((M4 10 0 5) + (amMin v3 v2)))) 10 0 6 = (-1) then .inl (71, [vR 10 10 0, vR 6 6 r1, vI l2, vI l3, vI l4, vI v2, vI v3, vI (amMin v3 v2)], [], amUp M4 10 0 5 (w32 ((M4 10 0 5) + (amMin v3 v2)))) else .inl (88, [vR 10 10 0, vR 6 6 r1, vI l2, vI l3, vI l4, vI v2, vI v3, vI (amMin v3 v2)], [], amUp M4 10 0 5 (w32 ((M4 10 0 5) + (amMin v3 v2))))) rfl).trans (amK_if ?_ ?_)
    · refine (amRun_t (f := amStep amGst (amD amGst d) cdX10_tread) 1 (x := if 0 < amMin v3 v2 then .inl (76, [vR 10 10 0, vR 6 6 r1, vI l2, vI l3, vI l4, vI v2, vI v3, vI (amMin v3 v2)], [], amUp M4 10 0 5 (w32 ((M4 10 0 5) + (amMin v3 v2)))) else .inl (88, [vR 10 10 0, vR 6 6 r1, vI l2, vI l3, vI l4, vI v2, vI v3, vI (amMin v3 v2)], [], amUp M4 10 0 5 (w32 ((M4 10 0 5) + (amMin v3 v2))))) rfl).trans (amK_if ?_ ?_)
      · refine (amRun_t (f := amStep amGst (amD amGst d) cdX10_tread) 2 (x := if amMin v3 v2 = v2 then .inl (83, [vR 10 10 0, vR 6 6 r1, vI l2, vI l3, vI l4, vI v2, vI v3, vI (amMin v3 v2)], [], amUp M4 10 0 5 (w32 ((M4 10 0 5) + (amMin v3 v2)))) else .inl (88, [vR 10 10 0, vR 6 6 r1, vI l2, vI l3, vI l4, vI v2, vI v3, vI (amMin v3 v2)], [], amUp M4 10 0 5 (w32 ((M4 10 0 5) + (amMin v3 v2))))) rfl).trans (amK_if ?_ ?_)
        · exact amRun_b 3 (x := .inl (88, [vR 10 10 0, vR 6 6 r1, vI l2, vI l3, vI l4, vI v2, vI v3, vI (amMin v3 v2)], [], amUp (amUp M4 10 0 5 (w32 ((M4 10 0 5) + (amMin v3 v2)))) 10 0 6 l2)) rfl
        · exact amRun_b 0 (x := .inl (88, [vR 10 10 0, vR 6 6 r1, vI l2, vI l3, vI l4, vI v2, vI v3, vI (amMin v3 v2)], [], amUp M4 10 0 5 (w32 ((M4 10 0 5) + (amMin v3 v2))))) rfl
      · exact amRun_b 0 (x := .inl (88, [vR 10 10 0, vR 6 6 r1, vI l2, vI l3, vI l4, vI v2, vI v3, vI (amMin v3 v2)], [], amUp M4 10 0 5 (w32 ((M4 10 0 5) + (amMin v3 v2))))) rfl
    · exact amRun_b 0 (x := .inl (88, [vR 10 10 0, vR 6 6 r1, vI l2, vI l3, vI l4, vI v2, vI v3, vI (amMin v3 v2)], [], amUp M4 10 0 5 (w32 ((M4 10 0 5) + (amMin v3 v2))))) rfl
  · exact amRun_b 2 (x := .inr (some (vI 1, M1))) rfl
theorem q_X10_tread_88 (d : Nat) (r1 : Nat) (l2 : Int) (l3 : Int) (l4 : Int) (l5 : Int) (l6 : Int) (l7 : Int) (M : AmM) : e_X10_tread_88 d r1 l2 l3 l4 l5 l6 l7 M =
    if l5 < l6 then (some (vI 0, M)) else (amCV (amD amGst d 59 [vR 6 6 r1, vI l2] M) fun M1 => e_X10_tread_3 d r1 l2 l3 (w32 (l4 + 1)) (vI l5) (vI l6) (vI l7) M1) := by
  show amRun _ _ = _
  refine (amRun_t (f := amStep amGst (amD amGst d) cdX10_tread) 2 (x := if l5 < l6 then .inl (95, [vR 10 10 0, vR 6 6 r1, vI l2, vI l3, vI l4, vI l5, vI l6, vI l7], [], M) else .inl (97, [vR 10 10 0, vR 6 6 r1, vI l2, vI l3, vI l4, vI l5, vI l6, vI l7], [], M)) rfl).trans (amK_if ?_ ?_)
  · exact amRun_b 2 (x := .inr (some (vI 0, M))) rfl
  · refine (amRun_t (f := amStep amGst (amD amGst d) cdX10_tread) 2 (x := amPu 0 (amD amGst d 59 [vR 6 6 r1, vI l2] M) (fun z9 M9 => .inl (102, [vR 10 10 0, vR 6 6 r1, vI l2, vI l3, vI l4, vI l5, vI l6, vI l7], z9 ++ [], M9))) rfl).trans (amK_pV fun M1 => ?_)
    exact amRun_b 2 (x := .inl (3, [vR 10 10 0, vR 6 6 r1, vI l2, vI l3, vI (w32 (l4 + 1)), vI l5, vI l6, vI l7], [], M1)) rfl
theorem n_X10_tread (d : Nat) (r1 : Nat) (l2 : Int) (l3 : Int) (M : AmM) : amD amGst (d + 1) 103 [vR 10 10 0, vR 6 6 r1, vI l2, vI l3] M = e_X10_tread_0 d r1 l2 l3 M := rfl
noncomputable def e_X10_leftBehind_0 (d : Nat) (l1 : Int) (l2 : Int) (l3 : Int) (l4 : Int) (M : AmM) : Option (AmV × AmM) := amRun (amStep amGst (amD amGst d) cdX10_leftBehind) (0, [vR 10 10 0, vI l1, vI l2, vI l3, vI l4, vU, vU], [], M)
noncomputable def e_X10_leftBehind_13 (d : Nat) (l1 : Int) (l2 : Int) (l3 : Int) (l4 : Int) (l5 : Int) (l6 : Int) (M : AmM) : Option (AmV × AmM) := amRun (amStep amGst (amD amGst d) cdX10_leftBehind) (13, [vR 10 10 0, vI l1, vI l2, vI l3, vI l4, vI l5, vI l6], [], M)
theorem q_X10_leftBehind_0 (d : Nat) (l1 : Int) (l2 : Int) (l3 : Int) (l4 : Int) (M : AmM) : e_X10_leftBehind_0 d l1 l2 l3 l4 M =
    if l2 < 1 then (some (vI (-1), M)) else (e_X10_leftBehind_13 d l1 l2 l3 l4 l2 0 M) := by
  show amRun _ _ = _
  refine (amRun_t (f := amStep amGst (amD amGst d) cdX10_leftBehind) 2 (x := if l2 < 1 then .inl (5, [vR 10 10 0, vI l1, vI l2, vI l3, vI l4, vU, vU], [], M) else .inl (7, [vR 10 10 0, vI l1, vI l2, vI l3, vI l4, vU, vU], [], M)) rfl).trans (amK_if ?_ ?_)
  · exact amRun_b 2 (x := .inr (some (vI (-1), M))) rfl
  · exact amRun_b 4 (x := .inl (13, [vR 10 10 0, vI l1, vI l2, vI l3, vI l4, vI l2, vI 0], [], M)) rfl
theorem q_X10_leftBehind_13 (d : Nat) (l1 : Int) (l2 : Int) (l3 : Int) (l4 : Int) (l5 : Int) (l6 : Int) (M : AmM) : e_X10_leftBehind_13 d l1 l2 l3 l4 l5 l6 M =
    amCI (amD amGst d 105 [vR 10 10 0] M) fun v1 M1 => if l6 < v1 then (if l5 < 0 then (some (vI (amMax (-1) l5), M1)) else (amCI (amD amGst d 106 [vR 10 10 0, vI l1, vI l5, vI l3, vI l4] M1) fun v2 M2 => e_X10_leftBehind_13 d l1 l2 l3 l4 (w32 (l5 - v2)) (w32 (l6 + 1)) M2)) else (some (vI (amMax (-1) l5), M1)) := by
  show amRun _ _ = _
  refine (amRun_t (f := amStep amGst (amD amGst d) cdX10_leftBehind) 2 (x := amPu 1 (amD amGst d 105 [vR 10 10 0] M) (fun z9 M9 => .inl (19, [vR 10 10 0, vI l1, vI l2, vI l3, vI l4, vI l5, vI l6], z9 ++ [vI l6], M9))) rfl).trans (amK_pI fun v1 M1 => ?_)
  refine (amRun_t (f := amStep amGst (amD amGst d) cdX10_leftBehind) 0 (x := if l6 < v1 then .inl (22, [vR 10 10 0, vI l1, vI l2, vI l3, vI l4, vI l5, vI l6], [], M1) else .inl (48, [vR 10 10 0, vI l1, vI l2, vI l3, vI l4, vI l5, vI l6], [], M1)) rfl).trans (amK_if ?_ ?_)
  · refine (amRun_t (f := amStep amGst (amD amGst d) cdX10_leftBehind) 1 (x := if l5 < 0 then .inl (48, [vR 10 10 0, vI l1, vI l2, vI l3, vI l4, vI l5, vI l6], [], M1) else .inl (27, [vR 10 10 0, vI l1, vI l2, vI l3, vI l4, vI l5, vI l6], [], M1)) rfl).trans (amK_if ?_ ?_)
    · exact amRun_b 4 (x := .inr (some (vI (amMax (-1) l5), M1))) rfl
    · refine (amRun_t (f := amStep amGst (amD amGst d) cdX10_leftBehind) 6 (x := amPu 1 (amD amGst d 106 [vR 10 10 0, vI l1, vI l5, vI l3, vI l4] M1) (fun z9 M9 => .inl (39, [vR 10 10 0, vI l1, vI l2, vI l3, vI l4, vI l5, vI l6], z9 ++ [vI l5], M9))) rfl).trans (amK_pI fun v2 M2 => ?_)
      exact amRun_b 4 (x := .inl (13, [vR 10 10 0, vI l1, vI l2, vI l3, vI l4, vI (w32 (l5 - v2)), vI (w32 (l6 + 1))], [], M2)) rfl
  · exact amRun_b 4 (x := .inr (some (vI (amMax (-1) l5), M1))) rfl
theorem n_X10_leftBehind (d : Nat) (l1 : Int) (l2 : Int) (l3 : Int) (l4 : Int) (M : AmM) : amD amGst (d + 1) 104 [vR 10 10 0, vI l1, vI l2, vI l3, vI l4] M = e_X10_leftBehind_0 d l1 l2 l3 l4 M := rfl
noncomputable def e_X10_wearsATread_0 (d : Nat) (M : AmM) : Option (AmV × AmM) := amRun (amStep amGst (amD amGst d) cdX10_wearsATread) (0, [vR 10 10 0], [], M)
theorem q_X10_wearsATread_0 (d : Nat) (M : AmM) : e_X10_wearsATread_0 d M =
    if M 10 0 3 = 1 then (some (vI 2, M)) else (some (vI 1, M)) := by
  show amRun _ _ = _
  refine (amRun_t (f := amStep amGst (amD amGst d) cdX10_wearsATread) 3 (x := if M 10 0 3 = 1 then .inl (8, [vR 10 10 0], [], M) else .inl (12, [vR 10 10 0], [], M)) rfl).trans (amK_if ?_ ?_)
  · exact amRun_b 3 (x := .inr (some (vI 2, M))) rfl
  · exact amRun_b 2 (x := .inr (some (vI 1, M))) rfl
theorem n_X10_wearsATread (d : Nat) (M : AmM) : amD amGst (d + 1) 105 [vR 10 10 0] M = e_X10_wearsATread_0 d M := rfl
noncomputable def e_X10_wearOn_0 (d : Nat) (l1 : Int) (l2 : Int) (l3 : Int) (l4 : Int) (M : AmM) : Option (AmV × AmM) := amRun (amStep amGst (amD amGst d) cdX10_wearOn) (0, [vR 10 10 0, vI l1, vI l2, vI l3, vI l4], [], M)
theorem q_X10_wearOn_0 (d : Nat) (l1 : Int) (l2 : Int) (l3 : Int) (l4 : Int) (M : AmM) : e_X10_wearOn_0 d l1 l2 l3 l4 M =
    amCI (amD amGst d 16 [vR 1 1 0, vI (M 10 0 3)] M) fun v1 M1 => if v1 = 0 then (some (vI (M1 10 0 2), M1)) else (amCV (amD amGst d 143 [vR 20 125 0, vI 1, vI l2] M1) fun M2 => amCV (amD amGst d 143 [vR 20 125 0, vI 2, vI l1] M2) fun M3 => if l4 = 0 then (amCV (amD amGst d 143 [vR 20 125 0, vI 5, vI 0] M3) fun M4 => amCV (amD amGst d 143 [vR 20 125 0, vI 6, vI l3] M4) fun M5 => amCI (amD amGst d 17 [vR 1 1 0, vI (M5 10 0 3), vR 20 125 0] M5) fun v6 M6 => some (vI (amMax 0 (amMin 99 v6)), M6)) else (amCV (amD amGst d 143 [vR 20 125 0, vI 5, vI 1] M3) fun M7 => amCV (amD amGst d 143 [vR 20 125 0, vI 6, vI l3] M7) fun M8 => amCI (amD amGst d 17 [vR 1 1 0, vI (M8 10 0 3), vR 20 125 0] M8) fun v9 M9 => some (vI (amMax 0 (amMin 99 v9)), M9))) := by
  show amRun _ _ = _
  refine (amRun_t (f := amStep amGst (amD amGst d) cdX10_wearOn) 5 (x := amPu 1 (amD amGst d 16 [vR 1 1 0, vI (M 10 0 3)] M) (fun z9 M9 => .inl (14, [vR 10 10 0, vI l1, vI l2, vI l3, vI l4], z9 ++ [], M9))) rfl).trans (amK_pI fun v1 M1 => ?_)
  refine (amRun_t (f := amStep amGst (amD amGst d) cdX10_wearOn) 0 (x := if v1 = 0 then .inl (17, [vR 10 10 0, vI l1, vI l2, vI l3, vI l4], [], M1) else .inl (22, [vR 10 10 0, vI l1, vI l2, vI l3, vI l4], [], M1)) rfl).trans (amK_if ?_ ?_)
  · exact amRun_b 3 (x := .inr (some (vI (M1 10 0 2), M1))) rfl
  · refine (amRun_t (f := amStep amGst (amD amGst d) cdX10_wearOn) 4 (x := amPu 0 (amD amGst d 143 [vR 20 125 0, vI 1, vI l2] M1) (fun z9 M9 => .inl (31, [vR 10 10 0, vI l1, vI l2, vI l3, vI l4], z9 ++ [], M9))) rfl).trans (amK_pV fun M2 => ?_)
    refine (amRun_t (f := amStep amGst (amD amGst d) cdX10_wearOn) 4 (x := amPu 0 (amD amGst d 143 [vR 20 125 0, vI 2, vI l1] M2) (fun z9 M9 => .inl (40, [vR 10 10 0, vI l1, vI l2, vI l3, vI l4], z9 ++ [], M9))) rfl).trans (amK_pV fun M3 => ?_)
    refine (amRun_t (f := amStep amGst (amD amGst d) cdX10_wearOn) 4 (x := if l4 = 0 then .inl (54, [vR 10 10 0, vI l1, vI l2, vI l3, vI l4], [vI 5, vR 20 125 0], M3) else .inl (50, [vR 10 10 0, vI l1, vI l2, vI l3, vI l4], [vI 5, vR 20 125 0], M3)) rfl).trans (amK_if ?_ ?_)
    · refine (amRun_t (f := amStep amGst (amD amGst d) cdX10_wearOn) 1 (x := amPu 0 (amD amGst d 143 [vR 20 125 0, vI 5, vI 0] M3) (fun z9 M9 => .inl (58, [vR 10 10 0, vI l1, vI l2, vI l3, vI l4], z9 ++ [], M9))) rfl).trans (amK_pV fun M4 => ?_)
      refine (amRun_t (f := amStep amGst (amD amGst d) cdX10_wearOn) 4 (x := amPu 0 (amD amGst d 143 [vR 20 125 0, vI 6, vI l3] M4) (fun z9 M9 => .inl (68, [vR 10 10 0, vI l1, vI l2, vI l3, vI l4], z9 ++ [], M9))) rfl).trans (amK_pV fun M5 => ?_)
      refine (amRun_t (f := amStep amGst (amD amGst d) cdX10_wearOn) 9 (x := amPu 1 (amD amGst d 17 [vR 1 1 0, vI (M5 10 0 3), vR 20 125 0] M5) (fun z9 M9 => .inl (89, [vR 10 10 0, vI l1, vI l2, vI l3, vI l4], z9 ++ [vI 99, vI 0], M9))) rfl).trans (amK_pI fun v6 M6 => ?_)
      exact amRun_b 3 (x := .inr (some (vI (amMax 0 (amMin 99 v6)), M6))) rfl
    · refine (amRun_t (f := amStep amGst (amD amGst d) cdX10_wearOn) 2 (x := amPu 0 (amD amGst d 143 [vR 20 125 0, vI 5, vI 1] M3) (fun z9 M9 => .inl (58, [vR 10 10 0, vI l1, vI l2, vI l3, vI l4], z9 ++ [], M9))) rfl).trans (amK_pV fun M7 => ?_)
      refine (amRun_t (f := amStep amGst (amD amGst d) cdX10_wearOn) 4 (x := amPu 0 (amD amGst d 143 [vR 20 125 0, vI 6, vI l3] M7) (fun z9 M9 => .inl (68, [vR 10 10 0, vI l1, vI l2, vI l3, vI l4], z9 ++ [], M9))) rfl).trans (amK_pV fun M8 => ?_)
      refine (amRun_t (f := amStep amGst (amD amGst d) cdX10_wearOn) 9 (x := amPu 1 (amD amGst d 17 [vR 1 1 0, vI (M8 10 0 3), vR 20 125 0] M8) (fun z9 M9 => .inl (89, [vR 10 10 0, vI l1, vI l2, vI l3, vI l4], z9 ++ [vI 99, vI 0], M9))) rfl).trans (amK_pI fun v9 M9 => ?_)
      exact amRun_b 3 (x := .inr (some (vI (amMax 0 (amMin 99 v9)), M9))) rfl
theorem n_X10_wearOn (d : Nat) (l1 : Int) (l2 : Int) (l3 : Int) (l4 : Int) (M : AmM) : amD amGst (d + 1) 106 [vR 10 10 0, vI l1, vI l2, vI l3, vI l4] M = e_X10_wearOn_0 d l1 l2 l3 l4 M := rfl
noncomputable def e_X11_at_0 (d : Nat) (c0 : Nat) (r0 : Nat) (l1 : Int) (M : AmM) : Option (AmV × AmM) := amRun (amStep amGst (amD amGst d) cdX11_at) (0, [vR 20 c0 r0, vI l1], [], M)
theorem q_X11_at_0 (d : Nat) (c0 : Nat) (r0 : Nat) (l1 : Int) (M : AmM) : e_X11_at_0 d c0 r0 l1 M =
    if l1 < 0 then (some (vI 0, M)) else (if l1 < (amLd M c0 : Int) then (if (0 : Int) ≤ l1 ∧ l1 < (amLd M c0 : Int) then (some (vI (M c0 r0 (l1).toNat), M)) else none) else (some (vI 0, M))) := by
  show amRun _ _ = _
  refine (amRun_t (f := amStep amGst (amD amGst d) cdX11_at) 1 (x := if l1 < 0 then .inl (16, [vR 20 c0 r0, vI l1], [], M) else .inl (4, [vR 20 c0 r0, vI l1], [], M)) rfl).trans (amK_if ?_ ?_)
  · exact amRun_b 2 (x := .inr (some (vI 0, M))) rfl
  · refine (amRun_t (f := amStep amGst (amD amGst d) cdX11_at) 3 (x := if l1 < (amLd M c0 : Int) then .inl (10, [vR 20 c0 r0, vI l1], [], M) else .inl (16, [vR 20 c0 r0, vI l1], [], M)) rfl).trans (amK_if ?_ ?_)
    · refine (amRun_t (f := amStep amGst (amD amGst d) cdX11_at) 2 (x := if (0 : Int) ≤ l1 ∧ l1 < (amLd M c0 : Int) then .inl (13, [vR 20 c0 r0, vI l1], [vI (M c0 r0 (l1).toNat)], M) else amNo) rfl).trans (amK_if ?_ rfl)
      exact amRun_b 2 (x := .inr (some (vI (M c0 r0 (l1).toNat), M))) rfl
    · exact amRun_b 2 (x := .inr (some (vI 0, M))) rfl
theorem n_X11_at (d : Nat) (c0 : Nat) (r0 : Nat) (l1 : Int) (M : AmM) : amD amGst (d + 1) 142 [vR 20 c0 r0, vI l1] M = e_X11_at_0 d c0 r0 l1 M := rfl
noncomputable def e_X11_put_0 (d : Nat) (c0 : Nat) (r0 : Nat) (l1 : Int) (l2 : Int) (M : AmM) : Option (AmV × AmM) := amRun (amStep amGst (amD amGst d) cdX11_put) (0, [vR 20 c0 r0, vI l1, vI l2], [], M)
theorem q_X11_put_0 (d : Nat) (c0 : Nat) (r0 : Nat) (l1 : Int) (l2 : Int) (M : AmM) : e_X11_put_0 d c0 r0 l1 l2 M =
    if l1 < 0 then (some (vU, M)) else (if l1 < (amLd M c0 : Int) then (bif !(c0 == 90) then (if (0 : Int) ≤ l1 ∧ l1 < (amLd M c0 : Int) then (some (vU, amUp M c0 r0 (l1).toNat l2)) else none) else none) else (some (vU, M))) := by
  show amRun _ _ = _
  refine (amRun_t (f := amStep amGst (amD amGst d) cdX11_put) 1 (x := if l1 < 0 then .inl (14, [vR 20 c0 r0, vI l1, vI l2], [], M) else .inl (4, [vR 20 c0 r0, vI l1, vI l2], [], M)) rfl).trans (amK_if ?_ ?_)
  · exact amRun_b 1 (x := .inr (some (vU, M))) rfl
  · refine (amRun_t (f := amStep amGst (amD amGst d) cdX11_put) 3 (x := if l1 < (amLd M c0 : Int) then .inl (10, [vR 20 c0 r0, vI l1, vI l2], [], M) else .inl (14, [vR 20 c0 r0, vI l1, vI l2], [], M)) rfl).trans (amK_if ?_ ?_)
    · refine (amRun_t (f := amStep amGst (amD amGst d) cdX11_put) 3 (x := bif !(c0 == 90) then (if (0 : Int) ≤ l1 ∧ l1 < (amLd M c0 : Int) then .inl (14, [vR 20 c0 r0, vI l1, vI l2], [], amUp M c0 r0 (l1).toNat l2) else amNo) else amNo) rfl).trans (amK_bif (amK_if ?_ rfl) rfl)
      exact amRun_b 1 (x := .inr (some (vU, amUp M c0 r0 (l1).toNat l2))) rfl
    · exact amRun_b 1 (x := .inr (some (vU, M))) rfl
theorem n_X11_put (d : Nat) (c0 : Nat) (r0 : Nat) (l1 : Int) (l2 : Int) (M : AmM) : amD amGst (d + 1) 143 [vR 20 c0 r0, vI l1, vI l2] M = e_X11_put_0 d c0 r0 l1 l2 M := rfl
noncomputable def e_X11_copy_0 (d : Nat) (c0 : Nat) (r0 : Nat) (c1 : Nat) (r1 : Nat) (M : AmM) : Option (AmV × AmM) := amRun (amStep amGst (amD amGst d) cdX11_copy) (0, [vR 20 c0 r0, vR 20 c1 r1], [], M)
theorem q_X11_copy_0 (d : Nat) (c0 : Nat) (r0 : Nat) (c1 : Nat) (r1 : Nat) (M : AmM) : e_X11_copy_0 d c0 r0 c1 r1 M =
    bif !(c1 == 90) && !(c0 == 90) then (if (0 : Int) ≤ 0 ∧ (0 : Int) ≤ 0 ∧ 0 ≤ amMin (amLd M c0 : Int) (amLd M c1 : Int) ∧ 0 + amMin (amLd M c0 : Int) (amLd M c1 : Int) ≤ (amLd M c0 : Int) ∧ 0 + amMin (amLd M c0 : Int) (amLd M c1 : Int) ≤ (amLd M c1 : Int) then (some (vU, amCpy M c0 r0 0 c1 r1 0 (amMin (amLd M c0 : Int) (amLd M c1 : Int)))) else none) else none := by
  show amRun _ _ = _
  refine (amRun_t (f := amStep amGst (amD amGst d) cdX11_copy) 9 (x := bif !(c1 == 90) && !(c0 == 90) then (if (0 : Int) ≤ 0 ∧ (0 : Int) ≤ 0 ∧ 0 ≤ amMin (amLd M c0 : Int) (amLd M c1 : Int) ∧ 0 + amMin (amLd M c0 : Int) (amLd M c1 : Int) ≤ (amLd M c0 : Int) ∧ 0 + amMin (amLd M c0 : Int) (amLd M c1 : Int) ≤ (amLd M c1 : Int) then .inl (14, [vR 20 c0 r0, vR 20 c1 r1], [], amCpy M c0 r0 0 c1 r1 0 (amMin (amLd M c0 : Int) (amLd M c1 : Int))) else amNo) else amNo) rfl).trans (amK_bif (amK_if ?_ rfl) rfl)
  exact amRun_b 1 (x := .inr (some (vU, amCpy M c0 r0 0 c1 r1 0 (amMin (amLd M c0 : Int) (amLd M c1 : Int))))) rfl
theorem n_X11_copy (d : Nat) (c0 : Nat) (r0 : Nat) (c1 : Nat) (r1 : Nat) (M : AmM) : amD amGst (d + 1) 144 [vR 20 c0 r0, vR 20 c1 r1] M = e_X11_copy_0 d c0 r0 c1 r1 M := rfl
noncomputable def e_X11_wipe_0 (d : Nat) (c0 : Nat) (r0 : Nat) (M : AmM) : Option (AmV × AmM) := amRun (amStep amGst (amD amGst d) cdX11_wipe) (0, [vR 20 c0 r0, vU], [], M)
noncomputable def e_X11_wipe_2 (d : Nat) (c0 : Nat) (r0 : Nat) (l1 : Int) (M : AmM) : Option (AmV × AmM) := amRun (amStep amGst (amD amGst d) cdX11_wipe) (2, [vR 20 c0 r0, vI l1], [], M)
theorem q_X11_wipe_0 (d : Nat) (c0 : Nat) (r0 : Nat) (M : AmM) : e_X11_wipe_0 d c0 r0 M =
    e_X11_wipe_2 d c0 r0 0 M := by
  show amRun _ _ = _
  exact amRun_b 2 (x := .inl (2, [vR 20 c0 r0, vI 0], [], M)) rfl
theorem q_X11_wipe_2 (d : Nat) (c0 : Nat) (r0 : Nat) (l1 : Int) (M : AmM) : e_X11_wipe_2 d c0 r0 l1 M =
    if l1 < (amLd M c0 : Int) then (bif !(c0 == 90) then (if (0 : Int) ≤ l1 ∧ l1 < (amLd M c0 : Int) then (e_X11_wipe_2 d c0 r0 (w32 (l1 + 1)) (amUp M c0 r0 (l1).toNat 0)) else none) else none) else (some (vU, M)) := by
  show amRun _ _ = _
  refine (amRun_t (f := amStep amGst (amD amGst d) cdX11_wipe) 3 (x := if l1 < (amLd M c0 : Int) then .inl (8, [vR 20 c0 r0, vI l1], [], M) else .inl (18, [vR 20 c0 r0, vI l1], [], M)) rfl).trans (amK_if ?_ ?_)
  · refine (amRun_t (f := amStep amGst (amD amGst d) cdX11_wipe) 3 (x := bif !(c0 == 90) then (if (0 : Int) ≤ l1 ∧ l1 < (amLd M c0 : Int) then .inl (12, [vR 20 c0 r0, vI l1], [], amUp M c0 r0 (l1).toNat 0) else amNo) else amNo) rfl).trans (amK_bif (amK_if ?_ rfl) rfl)
    exact amRun_b 2 (x := .inl (2, [vR 20 c0 r0, vI (w32 (l1 + 1))], [], amUp M c0 r0 (l1).toNat 0)) rfl
  · exact amRun_b 1 (x := .inr (some (vU, M))) rfl
theorem n_X11_wipe (d : Nat) (c0 : Nat) (r0 : Nat) (M : AmM) : amD amGst (d + 1) 145 [vR 20 c0 r0] M = e_X11_wipe_0 d c0 r0 M := rfl
noncomputable def e_X11_has_0 (d : Nat) (l0 : Int) (l1 : Int) (M : AmM) : Option (AmV × AmM) := amRun (amStep amGst (amD amGst d) cdX11_has) (0, [vI l0, vI l1], [], M)
theorem q_X11_has_0 (d : Nat) (l0 : Int) (l1 : Int) (M : AmM) : e_X11_has_0 d l0 l1 M =
    if bAnd (bShr l0 l1) 1 = 1 then (some (vI 1, M)) else (some (vI 0, M)) := by
  show amRun _ _ = _
  refine (amRun_t (f := amStep amGst (amD amGst d) cdX11_has) 6 (x := if bAnd (bShr l0 l1) 1 = 1 then .inl (9, [vI l0, vI l1], [], M) else .inl (13, [vI l0, vI l1], [], M)) rfl).trans (amK_if ?_ ?_)
  · exact amRun_b 3 (x := .inr (some (vI 1, M))) rfl
  · exact amRun_b 2 (x := .inr (some (vI 0, M))) rfl
theorem n_X11_has (d : Nat) (l0 : Int) (l1 : Int) (M : AmM) : amD amGst (d + 1) 146 [vI l0, vI l1] M = e_X11_has_0 d l0 l1 M := rfl
noncomputable def e_J6_numberOfLeadingZeros_0f7a4_0 (d : Nat) (l0 : Int) (M : AmM) : Option (AmV × AmM) := amRun (amStep amGst (amD amGst d) cdJ6_numberOfLeadingZeros_0f7a4) (0, [vI l0, vU], [], M)
noncomputable def e_J6_numberOfLeadingZeros_0f7a4_33 (d : Nat) (l0 : Int) (l1 : Int) (M : AmM) : Option (AmV × AmM) := amRun (amStep amGst (amD amGst d) cdJ6_numberOfLeadingZeros_0f7a4) (33, [vI l0, vI l1], [], M)
noncomputable def e_J6_numberOfLeadingZeros_0f7a4_61 (d : Nat) (l0 : Int) (l1 : Int) (M : AmM) : Option (AmV × AmM) := amRun (amStep amGst (amD amGst d) cdJ6_numberOfLeadingZeros_0f7a4) (61, [vI l0, vI l1], [], M)
theorem q_J6_numberOfLeadingZeros_0f7a4_0 (d : Nat) (l0 : Int) (M : AmM) : e_J6_numberOfLeadingZeros_0f7a4_0 d l0 M =
    if 0 < l0 then (if l0 < 65536 then (e_J6_numberOfLeadingZeros_0f7a4_33 d l0 31 M) else (e_J6_numberOfLeadingZeros_0f7a4_33 d (bUsh l0 16) (w32 (31 + (-16))) M)) else (if l0 = 0 then (some (vI 32, M)) else (some (vI 0, M))) := by
  show amRun _ _ = _
  refine (amRun_t (f := amStep amGst (amD amGst d) cdJ6_numberOfLeadingZeros_0f7a4) 1 (x := if 0 < l0 then .inl (15, [vI l0, vU], [], M) else .inl (4, [vI l0, vU], [], M)) rfl).trans (amK_if ?_ ?_)
  · refine (amRun_t (f := amStep amGst (amD amGst d) cdJ6_numberOfLeadingZeros_0f7a4) 4 (x := if l0 < 65536 then .inl (33, [vI l0, vI 31], [], M) else .inl (25, [vI l0, vI 31], [], M)) rfl).trans (amK_if ?_ ?_)
    · exact amRun_b 0 (x := .inl (33, [vI l0, vI 31], [], M)) rfl
    · exact amRun_b 5 (x := .inl (33, [vI (bUsh l0 16), vI (w32 (31 + (-16)))], [], M)) rfl
  · refine (amRun_t (f := amStep amGst (amD amGst d) cdJ6_numberOfLeadingZeros_0f7a4) 1 (x := if l0 = 0 then .inl (8, [vI l0, vU], [], M) else .inl (13, [vI l0, vU], [], M)) rfl).trans (amK_if ?_ ?_)
    · exact amRun_b 3 (x := .inr (some (vI 32, M))) rfl
    · exact amRun_b 2 (x := .inr (some (vI 0, M))) rfl
theorem q_J6_numberOfLeadingZeros_0f7a4_33 (d : Nat) (l0 : Int) (l1 : Int) (M : AmM) : e_J6_numberOfLeadingZeros_0f7a4_33 d l0 l1 M =
    if l0 < 256 then (if l0 < 16 then (e_J6_numberOfLeadingZeros_0f7a4_61 d l0 l1 M) else (e_J6_numberOfLeadingZeros_0f7a4_61 d (bUsh l0 4) (w32 (l1 + (-4))) M)) else (if bUsh l0 8 < 16 then (e_J6_numberOfLeadingZeros_0f7a4_61 d (bUsh l0 8) (w32 (l1 + (-8))) M) else (e_J6_numberOfLeadingZeros_0f7a4_61 d (bUsh (bUsh l0 8) 4) (w32 (w32 (l1 + (-8)) + (-4))) M)) := by
  show amRun _ _ = _
  refine (amRun_t (f := amStep amGst (amD amGst d) cdJ6_numberOfLeadingZeros_0f7a4) 2 (x := if l0 < 256 then .inl (48, [vI l0, vI l1], [], M) else .inl (40, [vI l0, vI l1], [], M)) rfl).trans (amK_if ?_ ?_)
  · refine (amRun_t (f := amStep amGst (amD amGst d) cdJ6_numberOfLeadingZeros_0f7a4) 2 (x := if l0 < 16 then .inl (61, [vI l0, vI l1], [], M) else .inl (54, [vI l0, vI l1], [], M)) rfl).trans (amK_if ?_ ?_)
    · exact amRun_b 0 (x := .inl (61, [vI l0, vI l1], [], M)) rfl
    · exact amRun_b 5 (x := .inl (61, [vI (bUsh l0 4), vI (w32 (l1 + (-4)))], [], M)) rfl
  · refine (amRun_t (f := amStep amGst (amD amGst d) cdJ6_numberOfLeadingZeros_0f7a4) 7 (x := if bUsh l0 8 < 16 then .inl (61, [vI (bUsh l0 8), vI (w32 (l1 + (-8)))], [], M) else .inl (54, [vI (bUsh l0 8), vI (w32 (l1 + (-8)))], [], M)) rfl).trans (amK_if ?_ ?_)
    · exact amRun_b 0 (x := .inl (61, [vI (bUsh l0 8), vI (w32 (l1 + (-8)))], [], M)) rfl
    · exact amRun_b 5 (x := .inl (61, [vI (bUsh (bUsh l0 8) 4), vI (w32 (w32 (l1 + (-8)) + (-4)))], [], M)) rfl
theorem q_J6_numberOfLeadingZeros_0f7a4_61 (d : Nat) (l0 : Int) (l1 : Int) (M : AmM) : e_J6_numberOfLeadingZeros_0f7a4_61 d l0 l1 M =
    if l0 < 4 then (some (vI (w32 (l1 - (bUsh l0 1))), M)) else (some (vI (w32 ((w32 (l1 + (-2))) - (bUsh (bUsh l0 2) 1))), M)) := by
  show amRun _ _ = _
  refine (amRun_t (f := amStep amGst (amD amGst d) cdJ6_numberOfLeadingZeros_0f7a4) 2 (x := if l0 < 4 then .inl (73, [vI l0, vI l1], [], M) else .inl (66, [vI l0, vI l1], [], M)) rfl).trans (amK_if ?_ ?_)
  · exact amRun_b 6 (x := .inr (some (vI (w32 (l1 - (bUsh l0 1))), M))) rfl
  · exact amRun_b 11 (x := .inr (some (vI (w32 ((w32 (l1 + (-2))) - (bUsh (bUsh l0 2) 1))), M))) rfl
theorem n_J6_numberOfLeadingZeros_0f7a4 (d : Nat) (l0 : Int) (M : AmM) : amD amGst (d + 1) 243 [vI l0] M = e_J6_numberOfLeadingZeros_0f7a4_0 d l0 M := rfl
noncomputable def e_J6_bitCount_0f7a4_0 (d : Nat) (l0 : Int) (M : AmM) : Option (AmV × AmM) := amRun (amStep amGst (amD amGst d) cdJ6_bitCount_0f7a4) (0, [vI l0], [], M)
theorem q_J6_bitCount_0f7a4_0 (d : Nat) (l0 : Int) (M : AmM) : e_J6_bitCount_0f7a4_0 d l0 M =
    some (vI (bAnd (w32 ((w32 ((bAnd (w32 ((w32 ((bAnd (w32 (l0 - (bAnd (bUsh l0 1) 1431655765))) 858993459) + (bAnd (bUsh (w32 (l0 - (bAnd (bUsh l0 1) 1431655765))) 2) 858993459))) + (bUsh (w32 ((bAnd (w32 (l0 - (bAnd (bUsh l0 1) 1431655765))) 858993459) + (bAnd (bUsh (w32 (l0 - (bAnd (bUsh l0 1) 1431655765))) 2) 858993459))) 4))) 252645135) + (bUsh (bAnd (w32 ((w32 ((bAnd (w32 (l0 - (bAnd (bUsh l0 1) 1431655765))) 858993459) + (bAnd (bUsh (w32 (l0 - (bAnd (bUsh l0 1) 1431655765))) 2) 858993459))) + (bUsh (w32 ((bAnd (w32 (l0 - (bAnd (bUsh l0 1) 1431655765))) 858993459) + (bAnd (bUsh (w32 (l0 - (bAnd (bUsh l0 1) 1431655765))) 2) 858993459))) 4))) 252645135) 8))) + (bUsh (w32 ((bAnd (w32 ((w32 ((bAnd (w32 (l0 - (bAnd (bUsh l0 1) 1431655765))) 858993459) + (bAnd (bUsh (w32 (l0 - (bAnd (bUsh l0 1) 1431655765))) 2) 858993459))) + (bUsh (w32 ((bAnd (w32 (l0 - (bAnd (bUsh l0 1) 1431655765))) 858993459) + (bAnd (bUsh (w32 (l0 - (bAnd (bUsh l0 1) 1431655765))) 2) 858993459))) 4))) 252645135) + (bUsh (bAnd (w32 ((w32 ((bAnd (w32 (l0 - (bAnd (bUsh l0 1) 1431655765))) 858993459) + (bAnd (bUsh (w32 (l0 - (bAnd (bUsh l0 1) 1431655765))) 2) 858993459))) + (bUsh (w32 ((bAnd (w32 (l0 - (bAnd (bUsh l0 1) 1431655765))) 858993459) + (bAnd (bUsh (w32 (l0 - (bAnd (bUsh l0 1) 1431655765))) 2) 858993459))) 4))) 252645135) 8))) 16))) 63), M) := by
  show amRun _ _ = _
  exact amRun_b 42 (x := .inr (some (vI (bAnd (w32 ((w32 ((bAnd (w32 ((w32 ((bAnd (w32 (l0 - (bAnd (bUsh l0 1) 1431655765))) 858993459) + (bAnd (bUsh (w32 (l0 - (bAnd (bUsh l0 1) 1431655765))) 2) 858993459))) + (bUsh (w32 ((bAnd (w32 (l0 - (bAnd (bUsh l0 1) 1431655765))) 858993459) + (bAnd (bUsh (w32 (l0 - (bAnd (bUsh l0 1) 1431655765))) 2) 858993459))) 4))) 252645135) + (bUsh (bAnd (w32 ((w32 ((bAnd (w32 (l0 - (bAnd (bUsh l0 1) 1431655765))) 858993459) + (bAnd (bUsh (w32 (l0 - (bAnd (bUsh l0 1) 1431655765))) 2) 858993459))) + (bUsh (w32 ((bAnd (w32 (l0 - (bAnd (bUsh l0 1) 1431655765))) 858993459) + (bAnd (bUsh (w32 (l0 - (bAnd (bUsh l0 1) 1431655765))) 2) 858993459))) 4))) 252645135) 8))) + (bUsh (w32 ((bAnd (w32 ((w32 ((bAnd (w32 (l0 - (bAnd (bUsh l0 1) 1431655765))) 858993459) + (bAnd (bUsh (w32 (l0 - (bAnd (bUsh l0 1) 1431655765))) 2) 858993459))) + (bUsh (w32 ((bAnd (w32 (l0 - (bAnd (bUsh l0 1) 1431655765))) 858993459) + (bAnd (bUsh (w32 (l0 - (bAnd (bUsh l0 1) 1431655765))) 2) 858993459))) 4))) 252645135) + (bUsh (bAnd (w32 ((w32 ((bAnd (w32 (l0 - (bAnd (bUsh l0 1) 1431655765))) 858993459) + (bAnd (bUsh (w32 (l0 - (bAnd (bUsh l0 1) 1431655765))) 2) 858993459))) + (bUsh (w32 ((bAnd (w32 (l0 - (bAnd (bUsh l0 1) 1431655765))) 858993459) + (bAnd (bUsh (w32 (l0 - (bAnd (bUsh l0 1) 1431655765))) 2) 858993459))) 4))) 252645135) 8))) 16))) 63), M))) rfl
theorem n_J6_bitCount_0f7a4 (d : Nat) (l0 : Int) (M : AmM) : amD amGst (d + 1) 244 [vI l0] M = e_J6_bitCount_0f7a4_0 d l0 M := rfl
