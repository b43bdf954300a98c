noncomputable def e_X12_sends_0 (d : Nat) (l1 : Int) (M : AmM) : Option (AmV × AmM) := amRun (amStep amGst (amD amGst d) cdX12_sends) (0, [vR 12 12 0, vI l1, vU], [], M)
noncomputable def e_X12_sends_35 (d : Nat) (l1 : Int) (l2 : Int) (M : AmM) : Option (AmV × AmM) := amRun (amStep amGst (amD amGst d) cdX12_sends) (35, [vR 12 12 0, vI l1, vI l2], [], M)
noncomputable def e_X12_sends_52 (d : Nat) (l1 : Int) (l2 : Int) (M : AmM) : Option (AmV × AmM) := amRun (amStep amGst (amD amGst d) cdX12_sends) (52, [vR 12 12 0, vI l1, vI l2], [], M)
theorem q_X12_sends_0 (d : Nat) (l1 : Int) (M : AmM) : e_X12_sends_0 d l1 M =
    amCI (amD amGst d 194 [vR 12 12 0, vI l1] M) fun v1 M1 => if (0 : Int) ≤ w32 (50 + l1) ∧ w32 (50 + l1) < 100 then (if (0 : Int) ≤ w32 (58 + l1) ∧ w32 (58 + l1) < 100 then (if (0 : Int) ≤ w32 (58 + l1) ∧ w32 (58 + l1) < 100 then (e_X12_sends_35 d l1 v1 (amUp (amUp M1 160 0 (w32 (50 + l1)).toNat (M1 12 0 52)) 160 0 (w32 (58 + l1)).toNat (w32 (((amUp M1 160 0 (w32 (50 + l1)).toNat (M1 12 0 52)) 160 0 (w32 (58 + l1)).toNat) + ((amUp M1 160 0 (w32 (50 + l1)).toNat (M1 12 0 52)) 12 0 50))))) else none) else none) else none := by
  show amRun _ _ = _
  refine (amRun_t (f := amStep amGst (amD amGst d) cdX12_sends) 2 (x := amPu 1 (amD amGst d 194 [vR 12 12 0, vI l1] M) (fun z9 M9 => .inl (5, [vR 12 12 0, vI l1, vU], z9 ++ [], M9))) rfl).trans (amK_pI fun v1 M1 => ?_)
  refine (amRun_t (f := amStep amGst (amD amGst d) cdX12_sends) 8 (x := if (0 : Int) ≤ w32 (50 + l1) ∧ w32 (50 + l1) < 100 then .inl (19, [vR 12 12 0, vI l1, vI v1], [], amUp M1 160 0 (w32 (50 + l1)).toNat (M1 12 0 52)) else amNo) rfl).trans (amK_if ?_ rfl)
  refine (amRun_t (f := amStep amGst (amD amGst d) cdX12_sends) 6 (x := if (0 : Int) ≤ w32 (58 + l1) ∧ w32 (58 + l1) < 100 then .inl (29, [vR 12 12 0, vI l1, vI v1], [vI ((amUp M1 160 0 (w32 (50 + l1)).toNat (M1 12 0 52)) 160 0 (w32 (58 + l1)).toNat), vI (w32 (58 + l1)), vR 20 160 0], amUp M1 160 0 (w32 (50 + l1)).toNat (M1 12 0 52)) else amNo) rfl).trans (amK_if ?_ rfl)
  refine (amRun_t (f := amStep amGst (amD amGst d) cdX12_sends) 3 (x := if (0 : Int) ≤ w32 (58 + l1) ∧ w32 (58 + l1) < 100 then .inl (35, [vR 12 12 0, vI l1, vI v1], [], amUp (amUp M1 160 0 (w32 (50 + l1)).toNat (M1 12 0 52)) 160 0 (w32 (58 + l1)).toNat (w32 (((amUp M1 160 0 (w32 (50 + l1)).toNat (M1 12 0 52)) 160 0 (w32 (58 + l1)).toNat) + ((amUp M1 160 0 (w32 (50 + l1)).toNat (M1 12 0 52)) 12 0 50)))) else amNo) rfl).trans (amK_if ?_ rfl)
  exact amRun_b 0 (x := .inl (35, [vR 12 12 0, vI l1, vI v1], [], amUp (amUp M1 160 0 (w32 (50 + l1)).toNat (M1 12 0 52)) 160 0 (w32 (58 + l1)).toNat (w32 (((amUp M1 160 0 (w32 (50 + l1)).toNat (M1 12 0 52)) 160 0 (w32 (58 + l1)).toNat) + ((amUp M1 160 0 (w32 (50 + l1)).toNat (M1 12 0 52)) 12 0 50))))) rfl
theorem q_X12_sends_35 (d : Nat) (l1 : Int) (l2 : Int) (M : AmM) : e_X12_sends_35 d l1 l2 M =
    if l2 = 0 then (if (0 : Int) ≤ w32 (66 + l1) ∧ w32 (66 + l1) < 100 then (if (0 : Int) ≤ w32 (66 + l1) ∧ w32 (66 + l1) < 100 then (e_X12_sends_52 d l1 l2 (amUp M 160 0 (w32 (66 + l1)).toNat (w32 ((M 160 0 (w32 (66 + l1)).toNat) + 1)))) else none) else none) else (e_X12_sends_52 d l1 l2 M) := by
  show amRun _ _ = _
  refine (amRun_t (f := amStep amGst (amD amGst d) cdX12_sends) 1 (x := if l2 = 0 then .inl (39, [vR 12 12 0, vI l1, vI l2], [], M) else .inl (52, [vR 12 12 0, vI l1, vI l2], [], M)) rfl).trans (amK_if ?_ ?_)
  · refine (amRun_t (f := amStep amGst (amD amGst d) cdX12_sends) 6 (x := if (0 : Int) ≤ w32 (66 + l1) ∧ w32 (66 + l1) < 100 then .inl (49, [vR 12 12 0, vI l1, vI l2], [vI (M 160 0 (w32 (66 + l1)).toNat), vI (w32 (66 + l1)), vR 20 160 0], M) else amNo) rfl).trans (amK_if ?_ rfl)
    refine (amRun_t (f := amStep amGst (amD amGst d) cdX12_sends) 2 (x := if (0 : Int) ≤ w32 (66 + l1) ∧ w32 (66 + l1) < 100 then .inl (52, [vR 12 12 0, vI l1, vI l2], [], amUp M 160 0 (w32 (66 + l1)).toNat (w32 ((M 160 0 (w32 (66 + l1)).toNat) + 1))) else amNo) rfl).trans (amK_if ?_ rfl)
    exact amRun_b 0 (x := .inl (52, [vR 12 12 0, vI l1, vI l2], [], amUp M 160 0 (w32 (66 + l1)).toNat (w32 ((M 160 0 (w32 (66 + l1)).toNat) + 1)))) rfl
  · exact amRun_b 0 (x := .inl (52, [vR 12 12 0, vI l1, vI l2], [], M)) rfl
theorem q_X12_sends_52 (d : Nat) (l1 : Int) (l2 : Int) (M : AmM) : e_X12_sends_52 d l1 l2 M =
    if l2 = 2 then (if (0 : Int) ≤ w32 (74 + l1) ∧ w32 (74 + l1) < 100 then (some (vI l2, amUp M 160 0 (w32 (74 + l1)).toNat 1)) else none) else (some (vI l2, M)) := by
  show amRun _ _ = _
  refine (amRun_t (f := amStep amGst (amD amGst d) cdX12_sends) 2 (x := if l2 = 2 then .inl (57, [vR 12 12 0, vI l1, vI l2], [], M) else .inl (67, [vR 12 12 0, vI l1, vI l2], [], M)) rfl).trans (amK_if ?_ ?_)
  · refine (amRun_t (f := amStep amGst (amD amGst d) cdX12_sends) 6 (x := if (0 : Int) ≤ w32 (74 + l1) ∧ w32 (74 + l1) < 100 then .inl (67, [vR 12 12 0, vI l1, vI l2], [], amUp M 160 0 (w32 (74 + l1)).toNat 1) else amNo) rfl).trans (amK_if ?_ rfl)
    exact amRun_b 2 (x := .inr (some (vI l2, amUp M 160 0 (w32 (74 + l1)).toNat 1))) rfl
  · exact amRun_b 2 (x := .inr (some (vI l2, M))) rfl
theorem n_X12_sends (d : Nat) (l1 : Int) (M : AmM) : amD amGst (d + 1) 195 [vR 12 12 0, vI l1] M = e_X12_sends_0 d l1 M := rfl
noncomputable def e_X12_step_0 (d : Nat) (l1 : Int) (l2 : Int) (M : AmM) : Option (AmV × AmM) := amRun (amStep amGst (amD amGst d) cdX12_step) (0, [vR 12 12 0, vI l1, vI l2, vU, vU], [], M)
noncomputable def e_X12_step_77 (d : Nat) (l1 : Int) (l2 : Int) (l3 : Int) (l4 : Int) (M : AmM) : Option (AmV × AmM) := amRun (amStep amGst (amD amGst d) cdX12_step) (77, [vR 12 12 0, vI l1, vI l2, vI l3, vI l4], [], M)
theorem q_X12_step_0 (d : Nat) (l1 : Int) (l2 : Int) (M : AmM) : e_X12_step_0 d l1 l2 M =
    amCI (amD amGst d 182 [vR 12 12 0, vI l1] M) fun v1 M1 => if v1 = 0 then (some (vI (-1), M1)) else (if l2 = 0 then (if (0 : Int) ≤ l1 ∧ l1 < 100 then (some (vI (M1 159 0 (l1).toNat), M1)) else none) else (if l2 = 1 then (if (0 : Int) ≤ w32 ((w32 (25 * (M1 12 0 18))) + l1) ∧ w32 ((w32 (25 * (M1 12 0 18))) + l1) < 50 then (some (vI (M1 138 0 (w32 ((w32 (25 * (M1 12 0 18))) + l1)).toNat), M1)) else none) else (if l2 = 2 then (if (0 : Int) ≤ w32 (25 + l1) ∧ w32 (25 + l1) < 100 then (some (vI (M1 159 0 (w32 (25 + l1)).toNat), M1)) else none) else (if l2 = 3 then (e_X12_step_77 d l1 l2 0 0 M1) else ((some (vI (-1), M1))))))) := by
  show amRun _ _ = _
  refine (amRun_t (f := amStep amGst (amD amGst d) cdX12_step) 2 (x := amPu 1 (amD amGst d 182 [vR 12 12 0, vI l1] M) (fun z9 M9 => .inl (5, [vR 12 12 0, vI l1, vI l2, vU, vU], z9 ++ [], M9))) rfl).trans (amK_pI fun v1 M1 => ?_)
  refine (amRun_t (f := amStep amGst (amD amGst d) cdX12_step) 0 (x := if v1 = 0 then .inl (8, [vR 12 12 0, vI l1, vI l2, vU, vU], [], M1) else .inl (10, [vR 12 12 0, vI l1, vI l2, vU, vU], [], M1)) rfl).trans (amK_if ?_ ?_)
  · exact amRun_b 2 (x := .inr (some (vI (-1), M1))) rfl
  · refine (amRun_t (f := amStep amGst (amD amGst d) cdX12_step) 1 (x := if l2 = 0 then .inl (40, [vR 12 12 0, vI l1, vI l2, vU, vU], [], M1) else (if l2 = 1 then .inl (47, [vR 12 12 0, vI l1, vI l2, vU, vU], [], M1) else (if l2 = 2 then .inl (62, [vR 12 12 0, vI l1, vI l2, vU, vU], [], M1) else (if l2 = 3 then .inl (72, [vR 12 12 0, vI l1, vI l2, vU, vU], [], M1) else .inl (111, [vR 12 12 0, vI l1, vI l2, vU, vU], [], M1))))) rfl).trans ?_
    refine amK_if ?_ ?_
    · refine (amRun_t (f := amStep amGst (amD amGst d) cdX12_step) 3 (x := if (0 : Int) ≤ l1 ∧ l1 < 100 then .inl (46, [vR 12 12 0, vI l1, vI l2, vU, vU], [vI (M1 159 0 (l1).toNat)], M1) else amNo) rfl).trans (amK_if ?_ rfl)
      exact amRun_b 1 (x := .inr (some (vI (M1 159 0 (l1).toNat), M1))) rfl
    refine amK_if ?_ ?_
    · refine (amRun_t (f := amStep amGst (amD amGst d) cdX12_step) 8 (x := if (0 : Int) ≤ w32 ((w32 (25 * (M1 12 0 18))) + l1) ∧ w32 ((w32 (25 * (M1 12 0 18))) + l1) < 50 then .inl (61, [vR 12 12 0, vI l1, vI l2, vU, vU], [vI (M1 138 0 (w32 ((w32 (25 * (M1 12 0 18))) + l1)).toNat)], M1) else amNo) rfl).trans (amK_if ?_ rfl)
      exact amRun_b 1 (x := .inr (some (vI (M1 138 0 (w32 ((w32 (25 * (M1 12 0 18))) + l1)).toNat), M1))) rfl
    refine amK_if ?_ ?_
    · refine (amRun_t (f := amStep amGst (amD amGst d) cdX12_step) 5 (x := if (0 : Int) ≤ w32 (25 + l1) ∧ w32 (25 + l1) < 100 then .inl (71, [vR 12 12 0, vI l1, vI l2, vU, vU], [vI (M1 159 0 (w32 (25 + l1)).toNat)], M1) else amNo) rfl).trans (amK_if ?_ rfl)
      exact amRun_b 1 (x := .inr (some (vI (M1 159 0 (w32 (25 + l1)).toNat), M1))) rfl
    refine amK_if ?_ ?_
    · exact amRun_b 4 (x := .inl (77, [vR 12 12 0, vI l1, vI l2, vI 0, vI 0], [], M1)) rfl
    exact amRun_b 2 (x := .inr (some (vI (-1), M1))) rfl
theorem q_X12_step_77 (d : Nat) (l1 : Int) (l2 : Int) (l3 : Int) (l4 : Int) (M : AmM) : e_X12_step_77 d l1 l2 l3 l4 M =
    amCI (amD amGst d 181 [vR 12 12 0] M) fun v1 M1 => if l4 < v1 then (if (0 : Int) ≤ w32 (50 + l4) ∧ w32 (50 + l4) < 100 then (if M1 159 0 (w32 (50 + l4)).toNat = l1 then (e_X12_step_77 d l1 l2 (w32 (l3 + 1)) (w32 (l4 + 1)) M1) else (e_X12_step_77 d l1 l2 l3 (w32 (l4 + 1)) M1)) else none) else (some (vI l3, M1)) := by
  show amRun _ _ = _
  refine (amRun_t (f := amStep amGst (amD amGst d) cdX12_step) 2 (x := amPu 1 (amD amGst d 181 [vR 12 12 0] M) (fun z9 M9 => .inl (83, [vR 12 12 0, vI l1, vI l2, vI l3, vI l4], z9 ++ [vI l4], M9))) rfl).trans (amK_pI fun v1 M1 => ?_)
  refine (amRun_t (f := amStep amGst (amD amGst d) cdX12_step) 0 (x := if l4 < v1 then .inl (86, [vR 12 12 0, vI l1, vI l2, vI l3, vI l4], [], M1) else .inl (109, [vR 12 12 0, vI l1, vI l2, vI l3, vI l4], [], M1)) rfl).trans (amK_if ?_ ?_)
  · refine (amRun_t (f := amStep amGst (amD amGst d) cdX12_step) 5 (x := if (0 : Int) ≤ w32 (50 + l4) ∧ w32 (50 + l4) < 100 then .inl (96, [vR 12 12 0, vI l1, vI l2, vI l3, vI l4], [vI (M1 159 0 (w32 (50 + l4)).toNat)], M1) else amNo) rfl).trans (amK_if ?_ rfl)
    refine (amRun_t (f := amStep amGst (amD amGst d) cdX12_step) 1 (x := if M1 159 0 (w32 (50 + l4)).toNat = l1 then .inl (100, [vR 12 12 0, vI l1, vI l2, vI l3, vI l4], [], M1) else .inl (103, [vR 12 12 0, vI l1, vI l2, vI l3, vI l4], [], M1)) rfl).trans (amK_if ?_ ?_)
    · exact amRun_b 3 (x := .inl (77, [vR 12 12 0, vI l1, vI l2, vI (w32 (l3 + 1)), vI (w32 (l4 + 1))], [], M1)) rfl
    · exact amRun_b 2 (x := .inl (77, [vR 12 12 0, vI l1, vI l2, vI l3, vI (w32 (l4 + 1))], [], M1)) rfl
  · exact amRun_b 2 (x := .inr (some (vI l3, M1))) rfl
theorem n_X12_step (d : Nat) (l1 : Int) (l2 : Int) (M : AmM) : amD amGst (d + 1) 196 [vR 12 12 0, vI l1, vI l2] M = e_X12_step_0 d l1 l2 M := rfl
noncomputable def e_X12_pilgrim_0 (d : Nat) (l1 : Int) (l2 : Int) (M : AmM) : Option (AmV × AmM) := amRun (amStep amGst (amD amGst d) cdX12_pilgrim) (0, [vR 12 12 0, vI l1, vI l2], [], M)
theorem q_X12_pilgrim_0 (d : Nat) (l1 : Int) (l2 : Int) (M : AmM) : e_X12_pilgrim_0 d l1 l2 M =
    amCI (amD amGst d 183 [vR 12 12 0, vI l1] M) fun v1 M1 => if v1 = 0 then (some (vI (-1), M1)) else (if l2 = 0 then (if (0 : Int) ≤ w32 (50 + l1) ∧ w32 (50 + l1) < 100 then (some (vI (M1 159 0 (w32 (50 + l1)).toNat), M1)) else none) else (if l2 = 1 then (if (0 : Int) ≤ w32 ((w32 (8 * (M1 12 0 18))) + l1) ∧ w32 ((w32 (8 * (M1 12 0 18))) + l1) < 16 then (some (vI (M1 144 0 (w32 ((w32 (8 * (M1 12 0 18))) + l1)).toNat), M1)) else none) else (if l2 = 2 then (amCI (amD amGst d 184 [vR 12 12 0, vI l1] M1) fun v2 M2 => some (vI v2, M2)) else (if l2 = 3 then (if (0 : Int) ≤ w32 (58 + l1) ∧ w32 (58 + l1) < 100 then (some (vI (M1 159 0 (w32 (58 + l1)).toNat), M1)) else none) else (if l2 = 4 then (if (0 : Int) ≤ w32 (66 + l1) ∧ w32 (66 + l1) < 100 then (some (vI (M1 159 0 (w32 (66 + l1)).toNat), M1)) else none) else (if l2 = 5 then (if (0 : Int) ≤ w32 (74 + l1) ∧ w32 (74 + l1) < 100 then (some (vI (M1 159 0 (w32 (74 + l1)).toNat), M1)) else none) else ((some (vI (-1), M1))))))))) := by
  show amRun _ _ = _
  refine (amRun_t (f := amStep amGst (amD amGst d) cdX12_pilgrim) 2 (x := amPu 1 (amD amGst d 183 [vR 12 12 0, vI l1] M) (fun z9 M9 => .inl (5, [vR 12 12 0, vI l1, vI l2], z9 ++ [], M9))) rfl).trans (amK_pI fun v1 M1 => ?_)
  refine (amRun_t (f := amStep amGst (amD amGst d) cdX12_pilgrim) 0 (x := if v1 = 0 then .inl (8, [vR 12 12 0, vI l1, vI l2], [], M1) else .inl (10, [vR 12 12 0, vI l1, vI l2], [], M1)) rfl).trans (amK_if ?_ ?_)
  · exact amRun_b 2 (x := .inr (some (vI (-1), M1))) rfl
  · refine (amRun_t (f := amStep amGst (amD amGst d) cdX12_pilgrim) 1 (x := if l2 = 0 then .inl (48, [vR 12 12 0, vI l1, vI l2], [], M1) else (if l2 = 1 then .inl (58, [vR 12 12 0, vI l1, vI l2], [], M1) else (if l2 = 2 then .inl (73, [vR 12 12 0, vI l1, vI l2], [], M1) else (if l2 = 3 then .inl (79, [vR 12 12 0, vI l1, vI l2], [], M1) else (if l2 = 4 then .inl (89, [vR 12 12 0, vI l1, vI l2], [], M1) else (if l2 = 5 then .inl (99, [vR 12 12 0, vI l1, vI l2], [], M1) else .inl (109, [vR 12 12 0, vI l1, vI l2], [], M1))))))) rfl).trans ?_
    refine amK_if ?_ ?_
    · refine (amRun_t (f := amStep amGst (amD amGst d) cdX12_pilgrim) 5 (x := if (0 : Int) ≤ w32 (50 + l1) ∧ w32 (50 + l1) < 100 then .inl (57, [vR 12 12 0, vI l1, vI l2], [vI (M1 159 0 (w32 (50 + l1)).toNat)], M1) else amNo) rfl).trans (amK_if ?_ rfl)
      exact amRun_b 1 (x := .inr (some (vI (M1 159 0 (w32 (50 + l1)).toNat), M1))) rfl
    refine amK_if ?_ ?_
    · refine (amRun_t (f := amStep amGst (amD amGst d) cdX12_pilgrim) 8 (x := if (0 : Int) ≤ w32 ((w32 (8 * (M1 12 0 18))) + l1) ∧ w32 ((w32 (8 * (M1 12 0 18))) + l1) < 16 then .inl (72, [vR 12 12 0, vI l1, vI l2], [vI (M1 144 0 (w32 ((w32 (8 * (M1 12 0 18))) + l1)).toNat)], M1) else amNo) rfl).trans (amK_if ?_ rfl)
      exact amRun_b 1 (x := .inr (some (vI (M1 144 0 (w32 ((w32 (8 * (M1 12 0 18))) + l1)).toNat), M1))) rfl
    refine amK_if ?_ ?_
    · refine (amRun_t (f := amStep amGst (amD amGst d) cdX12_pilgrim) 2 (x := amPu 1 (amD amGst d 184 [vR 12 12 0, vI l1] M1) (fun z9 M9 => .inl (78, [vR 12 12 0, vI l1, vI l2], z9 ++ [], M9))) rfl).trans (amK_pI fun v2 M2 => ?_)
      exact amRun_b 1 (x := .inr (some (vI v2, M2))) rfl
    refine amK_if ?_ ?_
    · refine (amRun_t (f := amStep amGst (amD amGst d) cdX12_pilgrim) 5 (x := if (0 : Int) ≤ w32 (58 + l1) ∧ w32 (58 + l1) < 100 then .inl (88, [vR 12 12 0, vI l1, vI l2], [vI (M1 159 0 (w32 (58 + l1)).toNat)], M1) else amNo) rfl).trans (amK_if ?_ rfl)
      exact amRun_b 1 (x := .inr (some (vI (M1 159 0 (w32 (58 + l1)).toNat), M1))) rfl
    refine amK_if ?_ ?_
    · refine (amRun_t (f := amStep amGst (amD amGst d) cdX12_pilgrim) 5 (x := if (0 : Int) ≤ w32 (66 + l1) ∧ w32 (66 + l1) < 100 then .inl (98, [vR 12 12 0, vI l1, vI l2], [vI (M1 159 0 (w32 (66 + l1)).toNat)], M1) else amNo) rfl).trans (amK_if ?_ rfl)
      exact amRun_b 1 (x := .inr (some (vI (M1 159 0 (w32 (66 + l1)).toNat), M1))) rfl
    refine amK_if ?_ ?_
    · refine (amRun_t (f := amStep amGst (amD amGst d) cdX12_pilgrim) 5 (x := if (0 : Int) ≤ w32 (74 + l1) ∧ w32 (74 + l1) < 100 then .inl (108, [vR 12 12 0, vI l1, vI l2], [vI (M1 159 0 (w32 (74 + l1)).toNat)], M1) else amNo) rfl).trans (amK_if ?_ rfl)
      exact amRun_b 1 (x := .inr (some (vI (M1 159 0 (w32 (74 + l1)).toNat), M1))) rfl
    exact amRun_b 2 (x := .inr (some (vI (-1), M1))) rfl
theorem n_X12_pilgrim (d : Nat) (l1 : Int) (l2 : Int) (M : AmM) : amD amGst (d + 1) 197 [vR 12 12 0, vI l1, vI l2] M = e_X12_pilgrim_0 d l1 l2 M := rfl
noncomputable def e_X12_wear_0 (d : Nat) (l1 : Int) (l2 : Int) (l3 : Int) (M : AmM) : Option (AmV × AmM) := amRun (amStep amGst (amD amGst d) cdX12_wear) (0, [vR 12 12 0, vI l1, vI l2, vI l3], [], M)
theorem q_X12_wear_0 (d : Nat) (l1 : Int) (l2 : Int) (l3 : Int) (M : AmM) : e_X12_wear_0 d l1 l2 l3 M =
    amCI (amD amGst d 183 [vR 12 12 0, vI l1] M) fun v1 M1 => if v1 = 0 then (some (vI (-1), M1)) else (amCI (amD amGst d 182 [vR 12 12 0, vI l2] M1) fun v2 M2 => if v2 = 0 then (some (vI (-1), M2)) else (amCV (amD amGst d 186 [vR 12 12 0] M2) fun M3 => amCI (amD amGst d 184 [vR 12 12 0, vI l1] M3) fun v4 M4 => if (0 : Int) ≤ w32 ((w32 (8 * (M4 12 0 18))) + l1) ∧ w32 ((w32 (8 * (M4 12 0 18))) + l1) < 16 then (if (0 : Int) ≤ l2 ∧ l2 < 100 then (amCI (amD amGst d 187 [vR 12 12 0] M4) fun v5 M5 => amCI (amD amGst d 188 [vR 12 12 0, vI v4, vI (M4 144 0 (w32 ((w32 (8 * (M4 12 0 18))) + l1)).toNat), vI l2, vI (M4 160 0 (l2).toNat), vI l3, vI v5] M5) fun v6 M6 => some (vI v6, M6)) else none) else none)) := by
  show amRun _ _ = _
  refine (amRun_t (f := amStep amGst (amD amGst d) cdX12_wear) 2 (x := amPu 1 (amD amGst d 183 [vR 12 12 0, vI l1] M) (fun z9 M9 => .inl (5, [vR 12 12 0, vI l1, vI l2, vI l3], z9 ++ [], M9))) rfl).trans (amK_pI fun v1 M1 => ?_)
  refine (amRun_t (f := amStep amGst (amD amGst d) cdX12_wear) 0 (x := if v1 = 0 then .inl (16, [vR 12 12 0, vI l1, vI l2, vI l3], [], M1) else .inl (8, [vR 12 12 0, vI l1, vI l2, vI l3], [], M1)) rfl).trans (amK_if ?_ ?_)
  · exact amRun_b 2 (x := .inr (some (vI (-1), M1))) rfl
  · refine (amRun_t (f := amStep amGst (amD amGst d) cdX12_wear) 2 (x := amPu 1 (amD amGst d 182 [vR 12 12 0, vI l2] M1) (fun z9 M9 => .inl (13, [vR 12 12 0, vI l1, vI l2, vI l3], z9 ++ [], M9))) rfl).trans (amK_pI fun v2 M2 => ?_)
    refine (amRun_t (f := amStep amGst (amD amGst d) cdX12_wear) 0 (x := if v2 = 0 then .inl (16, [vR 12 12 0, vI l1, vI l2, vI l3], [], M2) else .inl (18, [vR 12 12 0, vI l1, vI l2, vI l3], [], M2)) rfl).trans (amK_if ?_ ?_)
    · exact amRun_b 2 (x := .inr (some (vI (-1), M2))) rfl
    · refine (amRun_t (f := amStep amGst (amD amGst d) cdX12_wear) 1 (x := amPu 0 (amD amGst d 186 [vR 12 12 0] M2) (fun z9 M9 => .inl (22, [vR 12 12 0, vI l1, vI l2, vI l3], z9 ++ [], M9))) rfl).trans (amK_pV fun M3 => ?_)
      refine (amRun_t (f := amStep amGst (amD amGst d) cdX12_wear) 3 (x := amPu 1 (amD amGst d 184 [vR 12 12 0, vI l1] M3) (fun z9 M9 => .inl (28, [vR 12 12 0, vI l1, vI l2, vI l3], z9 ++ [vR 12 12 0], M9))) rfl).trans (amK_pI fun v4 M4 => ?_)
      refine (amRun_t (f := amStep amGst (amD amGst d) cdX12_wear) 8 (x := if (0 : Int) ≤ w32 ((w32 (8 * (M4 12 0 18))) + l1) ∧ w32 ((w32 (8 * (M4 12 0 18))) + l1) < 16 then .inl (42, [vR 12 12 0, vI l1, vI l2, vI l3], [vI (M4 144 0 (w32 ((w32 (8 * (M4 12 0 18))) + l1)).toNat), vI v4, vR 12 12 0], M4) else amNo) rfl).trans (amK_if ?_ rfl)
      refine (amRun_t (f := amStep amGst (amD amGst d) cdX12_wear) 4 (x := if (0 : Int) ≤ l2 ∧ l2 < 100 then .inl (49, [vR 12 12 0, vI l1, vI l2, vI l3], [vI (M4 160 0 (l2).toNat), vI l2, vI (M4 144 0 (w32 ((w32 (8 * (M4 12 0 18))) + l1)).toNat), vI v4, vR 12 12 0], M4) else amNo) rfl).trans (amK_if ?_ rfl)
      refine (amRun_t (f := amStep amGst (amD amGst d) cdX12_wear) 2 (x := amPu 1 (amD amGst d 187 [vR 12 12 0] M4) (fun z9 M9 => .inl (54, [vR 12 12 0, vI l1, vI l2, vI l3], z9 ++ [vI l3, vI (M4 160 0 (l2).toNat), vI l2, vI (M4 144 0 (w32 ((w32 (8 * (M4 12 0 18))) + l1)).toNat), vI v4, vR 12 12 0], M9))) rfl).trans (amK_pI fun v5 M5 => ?_)
      refine (amRun_t (f := amStep amGst (amD amGst d) cdX12_wear) 0 (x := amPu 1 (amD amGst d 188 [vR 12 12 0, vI v4, vI (M4 144 0 (w32 ((w32 (8 * (M4 12 0 18))) + l1)).toNat), vI l2, vI (M4 160 0 (l2).toNat), vI l3, vI v5] M5) (fun z9 M9 => .inl (57, [vR 12 12 0, vI l1, vI l2, vI l3], z9 ++ [], M9))) rfl).trans (amK_pI fun v6 M6 => ?_)
      exact amRun_b 1 (x := .inr (some (vI v6, M6))) rfl
theorem n_X12_wear (d : Nat) (l1 : Int) (l2 : Int) (l3 : Int) (M : AmM) : amD amGst (d + 1) 198 [vR 12 12 0, vI l1, vI l2, vI l3] M = e_X12_wear_0 d l1 l2 l3 M := rfl
noncomputable def e_X12_keeps_0 (d : Nat) (M : AmM) : Option (AmV × AmM) := amRun (amStep amGst (amD amGst d) cdX12_keeps) (0, [vR 12 12 0, vU], [], M)
noncomputable def e_X12_keeps_11 (d : Nat) (l1 : Int) (M : AmM) : Option (AmV × AmM) := amRun (amStep amGst (amD amGst d) cdX12_keeps) (11, [vR 12 12 0, vI l1], [], M)
noncomputable def e_X12_keeps_51 (d : Nat) (l1 : Int) (M : AmM) : Option (AmV × AmM) := amRun (amStep amGst (amD amGst d) cdX12_keeps) (51, [vR 12 12 0, vI l1], [], M)
noncomputable def e_X12_keeps_95 (d : Nat) (l1 : Int) (M : AmM) : Option (AmV × AmM) := amRun (amStep amGst (amD amGst d) cdX12_keeps) (95, [vR 12 12 0, vI l1], [], M)
theorem q_X12_keeps_0 (d : Nat) (M : AmM) : e_X12_keeps_0 d M =
    if M 12 0 53 = 40 then (e_X12_keeps_11 d 0 M) else (e_X12_keeps_51 d 0 M) := by
  show amRun _ _ = _
  refine (amRun_t (f := amStep amGst (amD amGst d) cdX12_keeps) 3 (x := if M 12 0 53 = 40 then .inl (9, [vR 12 12 0, vU], [], M) else .inl (49, [vR 12 12 0, vU], [], M)) rfl).trans (amK_if ?_ ?_)
  · exact amRun_b 2 (x := .inl (11, [vR 12 12 0, vI 0], [], M)) rfl
  · exact amRun_b 2 (x := .inl (51, [vR 12 12 0, vI 0], [], M)) rfl
theorem q_X12_keeps_11 (d : Nat) (l1 : Int) (M : AmM) : e_X12_keeps_11 d l1 M =
    if l1 < 3900 then (if (0 : Int) ≤ w32 (l1 + 100) ∧ w32 (l1 + 100) < 4000 then (if (0 : Int) ≤ l1 ∧ l1 < 4000 then (e_X12_keeps_11 d (w32 (l1 + 1)) (amUp M 161 0 (l1).toNat (M 161 0 (w32 (l1 + 100)).toNat))) else none) else none) else (e_X12_keeps_51 d 0 (amUp M 12 0 53 (w32 ((M 12 0 53) - 1)))) := by
  show amRun _ _ = _
  refine (amRun_t (f := amStep amGst (amD amGst d) cdX12_keeps) 2 (x := if l1 < 3900 then .inl (18, [vR 12 12 0, vI l1], [], M) else .inl (39, [vR 12 12 0, vI l1], [], M)) rfl).trans (amK_if ?_ ?_)
  · refine (amRun_t (f := amStep amGst (amD amGst d) cdX12_keeps) 8 (x := if (0 : Int) ≤ w32 (l1 + 100) ∧ w32 (l1 + 100) < 4000 then .inl (32, [vR 12 12 0, vI l1], [vI (M 161 0 (w32 (l1 + 100)).toNat), vI l1, vR 20 161 0], M) else amNo) rfl).trans (amK_if ?_ rfl)
    refine (amRun_t (f := amStep amGst (amD amGst d) cdX12_keeps) 0 (x := if (0 : Int) ≤ l1 ∧ l1 < 4000 then .inl (33, [vR 12 12 0, vI l1], [], amUp M 161 0 (l1).toNat (M 161 0 (w32 (l1 + 100)).toNat)) else amNo) rfl).trans (amK_if ?_ rfl)
    exact amRun_b 2 (x := .inl (11, [vR 12 12 0, vI (w32 (l1 + 1))], [], amUp M 161 0 (l1).toNat (M 161 0 (w32 (l1 + 100)).toNat))) rfl
  · exact amRun_b 8 (x := .inl (51, [vR 12 12 0, vI 0], [], amUp M 12 0 53 (w32 ((M 12 0 53) - 1)))) rfl
theorem q_X12_keeps_51 (d : Nat) (l1 : Int) (M : AmM) : e_X12_keeps_51 d l1 M =
    if l1 < 100 then (if (0 : Int) ≤ l1 ∧ l1 < 100 then (if (0 : Int) ≤ w32 ((w32 (100 * (M 12 0 53))) + l1) ∧ w32 ((w32 (100 * (M 12 0 53))) + l1) < 4000 then (e_X12_keeps_51 d (w32 (l1 + 1)) (amUp M 161 0 (w32 ((w32 (100 * (M 12 0 53))) + l1)).toNat (M 159 0 (l1).toNat))) else none) else none) else (e_X12_keeps_95 d 0 (amUp M 12 0 53 (w32 ((M 12 0 53) + 1)))) := by
  show amRun _ _ = _
  refine (amRun_t (f := amStep amGst (amD amGst d) cdX12_keeps) 2 (x := if l1 < 100 then .inl (57, [vR 12 12 0, vI l1], [], M) else .inl (83, [vR 12 12 0, vI l1], [], M)) rfl).trans (amK_if ?_ ?_)
  · refine (amRun_t (f := amStep amGst (amD amGst d) cdX12_keeps) 11 (x := if (0 : Int) ≤ l1 ∧ l1 < 100 then .inl (76, [vR 12 12 0, vI l1], [vI (M 159 0 (l1).toNat), vI (w32 ((w32 (100 * (M 12 0 53))) + l1)), vR 20 161 0], M) else amNo) rfl).trans (amK_if ?_ rfl)
    refine (amRun_t (f := amStep amGst (amD amGst d) cdX12_keeps) 0 (x := if (0 : Int) ≤ w32 ((w32 (100 * (M 12 0 53))) + l1) ∧ w32 ((w32 (100 * (M 12 0 53))) + l1) < 4000 then .inl (77, [vR 12 12 0, vI l1], [], amUp M 161 0 (w32 ((w32 (100 * (M 12 0 53))) + l1)).toNat (M 159 0 (l1).toNat)) else amNo) rfl).trans (amK_if ?_ rfl)
    exact amRun_b 2 (x := .inl (51, [vR 12 12 0, vI (w32 (l1 + 1))], [], amUp M 161 0 (w32 ((w32 (100 * (M 12 0 53))) + l1)).toNat (M 159 0 (l1).toNat))) rfl
  · exact amRun_b 8 (x := .inl (95, [vR 12 12 0, vI 0], [], amUp M 12 0 53 (w32 ((M 12 0 53) + 1)))) rfl
theorem q_X12_keeps_95 (d : Nat) (l1 : Int) (M : AmM) : e_X12_keeps_95 d l1 M =
    if l1 < 100 then (if (0 : Int) ≤ l1 ∧ l1 < 100 then (if (0 : Int) ≤ l1 ∧ l1 < 100 then (e_X12_keeps_95 d (w32 (l1 + 1)) (amUp M 159 0 (l1).toNat (M 160 0 (l1).toNat))) else none) else none) else (some (vU, M)) := by
  show amRun _ _ = _
  refine (amRun_t (f := amStep amGst (amD amGst d) cdX12_keeps) 2 (x := if l1 < 100 then .inl (101, [vR 12 12 0, vI l1], [], M) else .inl (119, [vR 12 12 0, vI l1], [], M)) rfl).trans (amK_if ?_ ?_)
  · refine (amRun_t (f := amStep amGst (amD amGst d) cdX12_keeps) 6 (x := if (0 : Int) ≤ l1 ∧ l1 < 100 then .inl (112, [vR 12 12 0, vI l1], [vI (M 160 0 (l1).toNat), vI l1, vR 20 159 0], M) else amNo) rfl).trans (amK_if ?_ rfl)
    refine (amRun_t (f := amStep amGst (amD amGst d) cdX12_keeps) 0 (x := if (0 : Int) ≤ l1 ∧ l1 < 100 then .inl (113, [vR 12 12 0, vI l1], [], amUp M 159 0 (l1).toNat (M 160 0 (l1).toNat)) else amNo) rfl).trans (amK_if ?_ rfl)
    exact amRun_b 2 (x := .inl (95, [vR 12 12 0, vI (w32 (l1 + 1))], [], amUp M 159 0 (l1).toNat (M 160 0 (l1).toNat))) rfl
  · exact amRun_b 1 (x := .inr (some (vU, M))) rfl
theorem n_X12_keeps (d : Nat) (M : AmM) : amD amGst (d + 1) 199 [vR 12 12 0] M = e_X12_keeps_0 d M := rfl
noncomputable def e_X12_onGround_0 (d : Nat) (l1 : Int) (M : AmM) : Option (AmV × AmM) := amRun (amStep amGst (amD amGst d) cdX12_onGround) (0, [vR 12 12 0, vI l1], [], M)
theorem q_X12_onGround_0 (d : Nat) (l1 : Int) (M : AmM) : e_X12_onGround_0 d l1 M =
    if (0 : Int) ≤ w32 (50 + l1) ∧ w32 (50 + l1) < 100 then (if M 159 0 (w32 (50 + l1)).toNat = 0 then (some (vI 1, M)) else (some (vI 0, M))) else none := by
  show amRun _ _ = _
  refine (amRun_t (f := amStep amGst (amD amGst d) cdX12_onGround) 5 (x := if (0 : Int) ≤ w32 (50 + l1) ∧ w32 (50 + l1) < 100 then .inl (9, [vR 12 12 0, vI l1], [vI (M 159 0 (w32 (50 + l1)).toNat)], M) else amNo) rfl).trans (amK_if ?_ rfl)
  refine (amRun_t (f := amStep amGst (amD amGst d) cdX12_onGround) 0 (x := if M 159 0 (w32 (50 + l1)).toNat = 0 then .inl (12, [vR 12 12 0, vI l1], [], M) else .inl (16, [vR 12 12 0, vI l1], [], M)) rfl).trans (amK_if ?_ ?_)
  · exact amRun_b 3 (x := .inr (some (vI 1, M))) rfl
  · exact amRun_b 2 (x := .inr (some (vI 0, M))) rfl
theorem n_X12_onGround (d : Nat) (l1 : Int) (M : AmM) : amD amGst (d + 1) 200 [vR 12 12 0, vI l1] M = e_X12_onGround_0 d l1 M := rfl
noncomputable def e_X12_go_0 (d : Nat) (l1 : Int) (M : AmM) : Option (AmV × AmM) := amRun (amStep amGst (amD amGst d) cdX12_go) (0, [vR 12 12 0, vI l1, vU], [], M)
theorem q_X12_go_0 (d : Nat) (l1 : Int) (M : AmM) : e_X12_go_0 d l1 M =
    amCI (amD amGst d 183 [vR 12 12 0, vI l1] M) fun v1 M1 => if v1 = 0 then (some (vI (-1), M1)) else (amCI (amD amGst d 200 [vR 12 12 0, vI l1] M1) fun v2 M2 => if v2 = 0 then (some (vI 3, M2)) else (amCV (amD amGst d 186 [vR 12 12 0] M2) fun M3 => amCI (amD amGst d 195 [vR 12 12 0, vI l1] M3) fun v4 M4 => amCV (amD amGst d 199 [vR 12 12 0] M4) fun M5 => some (vI v4, M5))) := by
  show amRun _ _ = _
  refine (amRun_t (f := amStep amGst (amD amGst d) cdX12_go) 2 (x := amPu 1 (amD amGst d 183 [vR 12 12 0, vI l1] M) (fun z9 M9 => .inl (5, [vR 12 12 0, vI l1, vU], z9 ++ [], M9))) rfl).trans (amK_pI fun v1 M1 => ?_)
  refine (amRun_t (f := amStep amGst (amD amGst d) cdX12_go) 0 (x := if v1 = 0 then .inl (8, [vR 12 12 0, vI l1, vU], [], M1) else .inl (10, [vR 12 12 0, vI l1, vU], [], M1)) rfl).trans (amK_if ?_ ?_)
  · exact amRun_b 2 (x := .inr (some (vI (-1), M1))) rfl
  · refine (amRun_t (f := amStep amGst (amD amGst d) cdX12_go) 2 (x := amPu 1 (amD amGst d 200 [vR 12 12 0, vI l1] M1) (fun z9 M9 => .inl (15, [vR 12 12 0, vI l1, vU], z9 ++ [], M9))) rfl).trans (amK_pI fun v2 M2 => ?_)
    refine (amRun_t (f := amStep amGst (amD amGst d) cdX12_go) 0 (x := if v2 = 0 then .inl (18, [vR 12 12 0, vI l1, vU], [], M2) else .inl (20, [vR 12 12 0, vI l1, vU], [], M2)) rfl).trans (amK_if ?_ ?_)
    · exact amRun_b 2 (x := .inr (some (vI 3, M2))) rfl
    · refine (amRun_t (f := amStep amGst (amD amGst d) cdX12_go) 1 (x := amPu 0 (amD amGst d 186 [vR 12 12 0] M2) (fun z9 M9 => .inl (24, [vR 12 12 0, vI l1, vU], z9 ++ [], M9))) rfl).trans (amK_pV fun M3 => ?_)
      refine (amRun_t (f := amStep amGst (amD amGst d) cdX12_go) 2 (x := amPu 1 (amD amGst d 195 [vR 12 12 0, vI l1] M3) (fun z9 M9 => .inl (29, [vR 12 12 0, vI l1, vU], z9 ++ [], M9))) rfl).trans (amK_pI fun v4 M4 => ?_)
      refine (amRun_t (f := amStep amGst (amD amGst d) cdX12_go) 2 (x := amPu 0 (amD amGst d 199 [vR 12 12 0] M4) (fun z9 M9 => .inl (34, [vR 12 12 0, vI l1, vI v4], z9 ++ [], M9))) rfl).trans (amK_pV fun M5 => ?_)
      exact amRun_b 2 (x := .inr (some (vI v4, M5))) rfl
theorem n_X12_go (d : Nat) (l1 : Int) (M : AmM) : amD amGst (d + 1) 201 [vR 12 12 0, vI l1] M = e_X12_go_0 d l1 M := rfl
noncomputable def e_X12_would_0 (d : Nat) (l1 : Int) (l2 : Int) (M : AmM) : Option (AmV × AmM) := amRun (amStep amGst (amD amGst d) cdX12_would) (0, [vR 12 12 0, vI l1, vI l2, vU], [], M)
theorem q_X12_would_0 (d : Nat) (l1 : Int) (l2 : Int) (M : AmM) : e_X12_would_0 d l1 l2 M =
    amCI (amD amGst d 183 [vR 12 12 0, vI l1] M) fun v1 M1 => if v1 = 0 then (some (vI (-1), M1)) else (amCI (amD amGst d 179 [vI l2, vI 0, vI 2] M1) fun v2 M2 => if v2 = 0 then (some (vI (-1), M2)) else (amCI (amD amGst d 200 [vR 12 12 0, vI l1] M2) fun v3 M3 => if v3 = 0 then (if l2 = 0 then (some (vI 3, M3)) else (if l2 = 1 then (if (0 : Int) ≤ w32 (50 + l1) ∧ w32 (50 + l1) < 100 then (some (vI (M3 159 0 (w32 (50 + l1)).toNat), M3)) else none) else (some (vI 0, M3)))) else (amCV (amD amGst d 186 [vR 12 12 0] M3) fun M4 => amCI (amD amGst d 194 [vR 12 12 0, vI l1] M4) fun v5 M5 => if l2 = 0 then (some (vI v5, M5)) else (if l2 = 1 then (some (vI (M5 12 0 52), M5)) else (some (vI (M5 12 0 50), M5)))))) := by
  show amRun _ _ = _
  refine (amRun_t (f := amStep amGst (amD amGst d) cdX12_would) 2 (x := amPu 1 (amD amGst d 183 [vR 12 12 0, vI l1] M) (fun z9 M9 => .inl (5, [vR 12 12 0, vI l1, vI l2, vU], z9 ++ [], M9))) rfl).trans (amK_pI fun v1 M1 => ?_)
  refine (amRun_t (f := amStep amGst (amD amGst d) cdX12_would) 0 (x := if v1 = 0 then .inl (17, [vR 12 12 0, vI l1, vI l2, vU], [], M1) else .inl (8, [vR 12 12 0, vI l1, vI l2, vU], [], M1)) rfl).trans (amK_if ?_ ?_)
  · exact amRun_b 2 (x := .inr (some (vI (-1), M1))) rfl
  · refine (amRun_t (f := amStep amGst (amD amGst d) cdX12_would) 3 (x := amPu 1 (amD amGst d 179 [vI l2, vI 0, vI 2] M1) (fun z9 M9 => .inl (14, [vR 12 12 0, vI l1, vI l2, vU], z9 ++ [], M9))) rfl).trans (amK_pI fun v2 M2 => ?_)
    refine (amRun_t (f := amStep amGst (amD amGst d) cdX12_would) 0 (x := if v2 = 0 then .inl (17, [vR 12 12 0, vI l1, vI l2, vU], [], M2) else .inl (19, [vR 12 12 0, vI l1, vI l2, vU], [], M2)) rfl).trans (amK_if ?_ ?_)
    · exact amRun_b 2 (x := .inr (some (vI (-1), M2))) rfl
    · refine (amRun_t (f := amStep amGst (amD amGst d) cdX12_would) 2 (x := amPu 1 (amD amGst d 200 [vR 12 12 0, vI l1] M2) (fun z9 M9 => .inl (24, [vR 12 12 0, vI l1, vI l2, vU], z9 ++ [], M9))) rfl).trans (amK_pI fun v3 M3 => ?_)
      refine (amRun_t (f := amStep amGst (amD amGst d) cdX12_would) 0 (x := if v3 = 0 then .inl (27, [vR 12 12 0, vI l1, vI l2, vU], [], M3) else .inl (54, [vR 12 12 0, vI l1, vI l2, vU], [], M3)) rfl).trans (amK_if ?_ ?_)
      · refine (amRun_t (f := amStep amGst (amD amGst d) cdX12_would) 1 (x := if l2 = 0 then .inl (31, [vR 12 12 0, vI l1, vI l2, vU], [], M3) else .inl (35, [vR 12 12 0, vI l1, vI l2, vU], [], M3)) rfl).trans (amK_if ?_ ?_)
        · exact amRun_b 3 (x := .inr (some (vI 3, M3))) rfl
        · refine (amRun_t (f := amStep amGst (amD amGst d) cdX12_would) 2 (x := if l2 = 1 then .inl (40, [vR 12 12 0, vI l1, vI l2, vU], [], M3) else .inl (52, [vR 12 12 0, vI l1, vI l2, vU], [], M3)) rfl).trans (amK_if ?_ ?_)
          · refine (amRun_t (f := amStep amGst (amD amGst d) cdX12_would) 5 (x := if (0 : Int) ≤ w32 (50 + l1) ∧ w32 (50 + l1) < 100 then .inl (49, [vR 12 12 0, vI l1, vI l2, vU], [vI (M3 159 0 (w32 (50 + l1)).toNat)], M3) else amNo) rfl).trans (amK_if ?_ rfl)
            exact amRun_b 2 (x := .inr (some (vI (M3 159 0 (w32 (50 + l1)).toNat), M3))) rfl
          · exact amRun_b 2 (x := .inr (some (vI 0, M3))) rfl
      · refine (amRun_t (f := amStep amGst (amD amGst d) cdX12_would) 1 (x := amPu 0 (amD amGst d 186 [vR 12 12 0] M3) (fun z9 M9 => .inl (58, [vR 12 12 0, vI l1, vI l2, vU], z9 ++ [], M9))) rfl).trans (amK_pV fun M4 => ?_)
        refine (amRun_t (f := amStep amGst (amD amGst d) cdX12_would) 2 (x := amPu 1 (amD amGst d 194 [vR 12 12 0, vI l1] M4) (fun z9 M9 => .inl (63, [vR 12 12 0, vI l1, vI l2, vU], z9 ++ [], M9))) rfl).trans (amK_pI fun v5 M5 => ?_)
        refine (amRun_t (f := amStep amGst (amD amGst d) cdX12_would) 2 (x := if l2 = 0 then .inl (68, [vR 12 12 0, vI l1, vI l2, vI v5], [], M5) else .inl (72, [vR 12 12 0, vI l1, vI l2, vI v5], [], M5)) rfl).trans (amK_if ?_ ?_)
        · exact amRun_b 3 (x := .inr (some (vI v5, M5))) rfl
        · refine (amRun_t (f := amStep amGst (amD amGst d) cdX12_would) 2 (x := if l2 = 1 then .inl (77, [vR 12 12 0, vI l1, vI l2, vI v5], [], M5) else .inl (84, [vR 12 12 0, vI l1, vI l2, vI v5], [], M5)) rfl).trans (amK_if ?_ ?_)
          · exact amRun_b 4 (x := .inr (some (vI (M5 12 0 52), M5))) rfl
          · exact amRun_b 3 (x := .inr (some (vI (M5 12 0 50), M5))) rfl
theorem n_X12_would (d : Nat) (l1 : Int) (l2 : Int) (M : AmM) : amD amGst (d + 1) 202 [vR 12 12 0, vI l1, vI l2] M = e_X12_would_0 d l1 l2 M := rfl
noncomputable def e_X12_nightGoes_0 (d : Nat) (M : AmM) : Option (AmV × AmM) := amRun (amStep amGst (amD amGst d) cdX12_nightGoes) (0, [vR 12 12 0, vU, vU], [], M)
noncomputable def e_X12_nightGoes_49 (d : Nat) (l1 : Int) (l2 : Int) (M : AmM) : Option (AmV × AmM) := amRun (amStep amGst (amD amGst d) cdX12_nightGoes) (49, [vR 12 12 0, vI l1, vI l2], [], M)
noncomputable def e_X12_nightGoes_160 (d : Nat) (l1 : Int) (l2 : Int) (M : AmM) : Option (AmV × AmM) := amRun (amStep amGst (amD amGst d) cdX12_nightGoes) (160, [vR 12 12 0, vI l1, vI l2], [], M)
theorem q_X12_nightGoes_0 (d : Nat) (M : AmM) : e_X12_nightGoes_0 d M =
    if (0 : Int) ≤ M 12 0 18 ∧ M 12 0 18 < 2 then (if M 139 0 (M 12 0 18).toNat = 0 then (e_X12_nightGoes_49 d 0 1 M) else (if (0 : Int) ≤ 83 ∧ (83 : Int) < 100 then (if (0 : Int) ≤ M 12 0 18 ∧ M 12 0 18 < 2 then (if M 139 0 (M 12 0 18).toNat = 0 then none else (if (0 : Int) ≤ w32 ((w32 (14 * (M 12 0 18))) + (Int.tmod (M 160 0 83) (M 139 0 (M 12 0 18).toNat))) ∧ w32 ((w32 (14 * (M 12 0 18))) + (Int.tmod (M 160 0 83) (M 139 0 (M 12 0 18).toNat))) < 28 then (e_X12_nightGoes_49 d (M 140 0 (w32 ((w32 (14 * (M 12 0 18))) + (Int.tmod (M 160 0 83) (M 139 0 (M 12 0 18).toNat)))).toNat) 1 M) else none)) else none) else none)) else none := by
  show amRun _ _ = _
  refine (amRun_t (f := amStep amGst (amD amGst d) cdX12_nightGoes) 4 (x := if (0 : Int) ≤ M 12 0 18 ∧ M 12 0 18 < 2 then .inl (9, [vR 12 12 0, vU, vU], [vI (M 139 0 (M 12 0 18).toNat)], M) else amNo) rfl).trans (amK_if ?_ rfl)
  refine (amRun_t (f := amStep amGst (amD amGst d) cdX12_nightGoes) 0 (x := if M 139 0 (M 12 0 18).toNat = 0 then .inl (12, [vR 12 12 0, vU, vU], [], M) else .inl (16, [vR 12 12 0, vU, vU], [], M)) rfl).trans (amK_if ?_ ?_)
  · exact amRun_b 5 (x := .inl (49, [vR 12 12 0, vI 0, vI 1], [], M)) rfl
  · refine (amRun_t (f := amStep amGst (amD amGst d) cdX12_nightGoes) 9 (x := if (0 : Int) ≤ 83 ∧ (83 : Int) < 100 then .inl (34, [vR 12 12 0, vU, vU], [vI (M 160 0 83), vI (w32 (14 * (M 12 0 18))), vR 20 140 0], M) else amNo) rfl).trans (amK_if ?_ rfl)
    refine (amRun_t (f := amStep amGst (amD amGst d) cdX12_nightGoes) 4 (x := if (0 : Int) ≤ M 12 0 18 ∧ M 12 0 18 < 2 then .inl (43, [vR 12 12 0, vU, vU], [vI (M 139 0 (M 12 0 18).toNat), vI (M 160 0 83), vI (w32 (14 * (M 12 0 18))), vR 20 140 0], M) else amNo) rfl).trans (amK_if ?_ rfl)
    refine (amRun_t (f := amStep amGst (amD amGst d) cdX12_nightGoes) 0 (x := if M 139 0 (M 12 0 18).toNat = 0 then amNo else .inl (44, [vR 12 12 0, vU, vU], [vI (Int.tmod (M 160 0 83) (M 139 0 (M 12 0 18).toNat)), vI (w32 (14 * (M 12 0 18))), vR 20 140 0], M)) rfl).trans (amK_if rfl ?_)
    refine (amRun_t (f := amStep amGst (amD amGst d) cdX12_nightGoes) 1 (x := if (0 : Int) ≤ w32 ((w32 (14 * (M 12 0 18))) + (Int.tmod (M 160 0 83) (M 139 0 (M 12 0 18).toNat))) ∧ w32 ((w32 (14 * (M 12 0 18))) + (Int.tmod (M 160 0 83) (M 139 0 (M 12 0 18).toNat))) < 28 then .inl (46, [vR 12 12 0, vU, vU], [vI (M 140 0 (w32 ((w32 (14 * (M 12 0 18))) + (Int.tmod (M 160 0 83) (M 139 0 (M 12 0 18).toNat)))).toNat)], M) else amNo) rfl).trans (amK_if ?_ rfl)
    exact amRun_b 3 (x := .inl (49, [vR 12 12 0, vI (M 140 0 (w32 ((w32 (14 * (M 12 0 18))) + (Int.tmod (M 160 0 83) (M 139 0 (M 12 0 18).toNat)))).toNat), vI 1], [], M)) rfl
theorem q_X12_nightGoes_49 (d : Nat) (l1 : Int) (l2 : Int) (M : AmM) : e_X12_nightGoes_49 d l1 l2 M =
    if (0 : Int) ≤ M 12 0 18 ∧ M 12 0 18 < 2 then (if M 137 0 (M 12 0 18).toNat < l2 then (if (0 : Int) ≤ 82 ∧ (82 : Int) < 100 then (if (0 : Int) ≤ M 12 0 18 ∧ M 12 0 18 < 2 then (if 9999 < w32 ((M 160 0 82) + (M 142 0 (M 12 0 18).toNat)) then (if (0 : Int) ≤ 82 ∧ (82 : Int) < 100 then (if (0 : Int) ≤ 83 ∧ (83 : Int) < 100 then (if (0 : Int) ≤ 83 ∧ (83 : Int) < 100 then (e_X12_nightGoes_160 d l1 l2 (amUp (amUp M 160 0 82 9999) 160 0 83 (w32 (((amUp M 160 0 82 9999) 160 0 83) + 1)))) else none) else none) else none) else (if (0 : Int) ≤ 82 ∧ (82 : Int) < 100 then (if (0 : Int) ≤ M 12 0 18 ∧ M 12 0 18 < 2 then (if (0 : Int) ≤ 82 ∧ (82 : Int) < 100 then (if (0 : Int) ≤ 83 ∧ (83 : Int) < 100 then (if (0 : Int) ≤ 83 ∧ (83 : Int) < 100 then (e_X12_nightGoes_160 d l1 l2 (amUp (amUp M 160 0 82 (w32 ((M 160 0 82) + (M 142 0 (M 12 0 18).toNat)))) 160 0 83 (w32 (((amUp M 160 0 82 (w32 ((M 160 0 82) + (M 142 0 (M 12 0 18).toNat)))) 160 0 83) + 1)))) else none) else none) else none) else none) else none)) else none) else none) else (if (0 : Int) ≤ l2 ∧ l2 < 100 then (if l1 < M 160 0 (l2).toNat then (if (0 : Int) ≤ l2 ∧ l2 < 100 then (if (0 : Int) ≤ l2 ∧ l2 < 100 then (e_X12_nightGoes_49 d l1 (w32 (l2 + 1)) (amUp M 160 0 (l2).toNat (w32 ((M 160 0 (l2).toNat) - l1)))) else none) else none) else (if (0 : Int) ≤ l2 ∧ l2 < 100 then (e_X12_nightGoes_49 d l1 (w32 (l2 + 1)) (amUp M 160 0 (l2).toNat 0)) else none)) else none)) else none := by
  show amRun _ _ = _
  refine (amRun_t (f := amStep amGst (amD amGst d) cdX12_nightGoes) 5 (x := if (0 : Int) ≤ M 12 0 18 ∧ M 12 0 18 < 2 then .inl (59, [vR 12 12 0, vI l1, vI l2], [vI (M 137 0 (M 12 0 18).toNat), vI l2], M) else amNo) rfl).trans (amK_if ?_ rfl)
  refine (amRun_t (f := amStep amGst (amD amGst d) cdX12_nightGoes) 0 (x := if M 137 0 (M 12 0 18).toNat < l2 then .inl (96, [vR 12 12 0, vI l1, vI l2], [], M) else .inl (62, [vR 12 12 0, vI l1, vI l2], [], M)) rfl).trans (amK_if ?_ ?_)
  · refine (amRun_t (f := amStep amGst (amD amGst d) cdX12_nightGoes) 6 (x := if (0 : Int) ≤ 82 ∧ (82 : Int) < 100 then .inl (109, [vR 12 12 0, vI l1, vI l2], [vI (M 160 0 82), vI 82, vR 20 160 0], M) else amNo) rfl).trans (amK_if ?_ rfl)
    refine (amRun_t (f := amStep amGst (amD amGst d) cdX12_nightGoes) 4 (x := if (0 : Int) ≤ M 12 0 18 ∧ M 12 0 18 < 2 then .inl (118, [vR 12 12 0, vI l1, vI l2], [vI (M 142 0 (M 12 0 18).toNat), vI (M 160 0 82), vI 82, vR 20 160 0], M) else amNo) rfl).trans (amK_if ?_ rfl)
    refine (amRun_t (f := amStep amGst (amD amGst d) cdX12_nightGoes) 2 (x := if 9999 < w32 ((M 160 0 82) + (M 142 0 (M 12 0 18).toNat)) then .inl (125, [vR 12 12 0, vI l1, vI l2], [vI 82, vR 20 160 0], M) else .inl (131, [vR 12 12 0, vI l1, vI l2], [vI 82, vR 20 160 0], M)) rfl).trans (amK_if ?_ ?_)
    · refine (amRun_t (f := amStep amGst (amD amGst d) cdX12_nightGoes) 2 (x := if (0 : Int) ≤ 82 ∧ (82 : Int) < 100 then .inl (149, [vR 12 12 0, vI l1, vI l2], [], amUp M 160 0 82 9999) else amNo) rfl).trans (amK_if ?_ rfl)
      refine (amRun_t (f := amStep amGst (amD amGst d) cdX12_nightGoes) 4 (x := if (0 : Int) ≤ 83 ∧ (83 : Int) < 100 then .inl (157, [vR 12 12 0, vI l1, vI l2], [vI ((amUp M 160 0 82 9999) 160 0 83), vI 83, vR 20 160 0], amUp M 160 0 82 9999) else amNo) rfl).trans (amK_if ?_ rfl)
      refine (amRun_t (f := amStep amGst (amD amGst d) cdX12_nightGoes) 2 (x := if (0 : Int) ≤ 83 ∧ (83 : Int) < 100 then .inl (160, [vR 12 12 0, vI l1, vI l2], [], amUp (amUp M 160 0 82 9999) 160 0 83 (w32 (((amUp M 160 0 82 9999) 160 0 83) + 1))) else amNo) rfl).trans (amK_if ?_ rfl)
      exact amRun_b 0 (x := .inl (160, [vR 12 12 0, vI l1, vI l2], [], amUp (amUp M 160 0 82 9999) 160 0 83 (w32 (((amUp M 160 0 82 9999) 160 0 83) + 1)))) rfl
    · refine (amRun_t (f := amStep amGst (amD amGst d) cdX12_nightGoes) 3 (x := if (0 : Int) ≤ 82 ∧ (82 : Int) < 100 then .inl (138, [vR 12 12 0, vI l1, vI l2], [vI (M 160 0 82), vI 82, vR 20 160 0], M) else amNo) rfl).trans (amK_if ?_ rfl)
      refine (amRun_t (f := amStep amGst (amD amGst d) cdX12_nightGoes) 4 (x := if (0 : Int) ≤ M 12 0 18 ∧ M 12 0 18 < 2 then .inl (147, [vR 12 12 0, vI l1, vI l2], [vI (M 142 0 (M 12 0 18).toNat), vI (M 160 0 82), vI 82, vR 20 160 0], M) else amNo) rfl).trans (amK_if ?_ rfl)
      refine (amRun_t (f := amStep amGst (amD amGst d) cdX12_nightGoes) 1 (x := if (0 : Int) ≤ 82 ∧ (82 : Int) < 100 then .inl (149, [vR 12 12 0, vI l1, vI l2], [], amUp M 160 0 82 (w32 ((M 160 0 82) + (M 142 0 (M 12 0 18).toNat)))) else amNo) rfl).trans (amK_if ?_ rfl)
      refine (amRun_t (f := amStep amGst (amD amGst d) cdX12_nightGoes) 4 (x := if (0 : Int) ≤ 83 ∧ (83 : Int) < 100 then .inl (157, [vR 12 12 0, vI l1, vI l2], [vI ((amUp M 160 0 82 (w32 ((M 160 0 82) + (M 142 0 (M 12 0 18).toNat)))) 160 0 83), vI 83, vR 20 160 0], amUp M 160 0 82 (w32 ((M 160 0 82) + (M 142 0 (M 12 0 18).toNat)))) else amNo) rfl).trans (amK_if ?_ rfl)
      refine (amRun_t (f := amStep amGst (amD amGst d) cdX12_nightGoes) 2 (x := if (0 : Int) ≤ 83 ∧ (83 : Int) < 100 then .inl (160, [vR 12 12 0, vI l1, vI l2], [], amUp (amUp M 160 0 82 (w32 ((M 160 0 82) + (M 142 0 (M 12 0 18).toNat)))) 160 0 83 (w32 (((amUp M 160 0 82 (w32 ((M 160 0 82) + (M 142 0 (M 12 0 18).toNat)))) 160 0 83) + 1))) else amNo) rfl).trans (amK_if ?_ rfl)
      exact amRun_b 0 (x := .inl (160, [vR 12 12 0, vI l1, vI l2], [], amUp (amUp M 160 0 82 (w32 ((M 160 0 82) + (M 142 0 (M 12 0 18).toNat)))) 160 0 83 (w32 (((amUp M 160 0 82 (w32 ((M 160 0 82) + (M 142 0 (M 12 0 18).toNat)))) 160 0 83) + 1)))) rfl
  · refine (amRun_t (f := amStep amGst (amD amGst d) cdX12_nightGoes) 6 (x := if (0 : Int) ≤ l2 ∧ l2 < 100 then .inl (73, [vR 12 12 0, vI l1, vI l2], [vI (M 160 0 (l2).toNat), vI l2, vR 20 160 0], M) else amNo) rfl).trans (amK_if ?_ rfl)
    refine (amRun_t (f := amStep amGst (amD amGst d) cdX12_nightGoes) 1 (x := if l1 < M 160 0 (l2).toNat then .inl (77, [vR 12 12 0, vI l1, vI l2], [vI l2, vR 20 160 0], M) else .inl (88, [vR 12 12 0, vI l1, vI l2], [vI l2, vR 20 160 0], M)) rfl).trans (amK_if ?_ ?_)
    · refine (amRun_t (f := amStep amGst (amD amGst d) cdX12_nightGoes) 3 (x := if (0 : Int) ≤ l2 ∧ l2 < 100 then .inl (83, [vR 12 12 0, vI l1, vI l2], [vI (M 160 0 (l2).toNat), vI l2, vR 20 160 0], M) else amNo) rfl).trans (amK_if ?_ rfl)
      refine (amRun_t (f := amStep amGst (amD amGst d) cdX12_nightGoes) 3 (x := if (0 : Int) ≤ l2 ∧ l2 < 100 then .inl (90, [vR 12 12 0, vI l1, vI l2], [], amUp M 160 0 (l2).toNat (w32 ((M 160 0 (l2).toNat) - l1))) else amNo) rfl).trans (amK_if ?_ rfl)
      exact amRun_b 2 (x := .inl (49, [vR 12 12 0, vI l1, vI (w32 (l2 + 1))], [], amUp M 160 0 (l2).toNat (w32 ((M 160 0 (l2).toNat) - l1)))) rfl
    · refine (amRun_t (f := amStep amGst (amD amGst d) cdX12_nightGoes) 1 (x := if (0 : Int) ≤ l2 ∧ l2 < 100 then .inl (90, [vR 12 12 0, vI l1, vI l2], [], amUp M 160 0 (l2).toNat 0) else amNo) rfl).trans (amK_if ?_ rfl)
      exact amRun_b 2 (x := .inl (49, [vR 12 12 0, vI l1, vI (w32 (l2 + 1))], [], amUp M 160 0 (l2).toNat 0)) rfl
theorem q_X12_nightGoes_160 (d : Nat) (l1 : Int) (l2 : Int) (M : AmM) : e_X12_nightGoes_160 d l1 l2 M =
    some (vU, M) := by
  show amRun _ _ = _
  exact amRun_b 1 (x := .inr (some (vU, M))) rfl
theorem n_X12_nightGoes (d : Nat) (M : AmM) : amD amGst (d + 1) 203 [vR 12 12 0] M = e_X12_nightGoes_0 d M := rfl
noncomputable def e_X12_night_0 (d : Nat) (l1 : Int) (M : AmM) : Option (AmV × AmM) := amRun (amStep amGst (amD amGst d) cdX12_night) (0, [vR 12 12 0, vI l1, vU], [], M)
noncomputable def e_X12_night_30 (d : Nat) (l1 : Int) (l2 : Int) (M : AmM) : Option (AmV × AmM) := amRun (amStep amGst (amD amGst d) cdX12_night) (30, [vR 12 12 0, vI l1, vI l2], [], M)
theorem q_X12_night_0 (d : Nat) (l1 : Int) (M : AmM) : e_X12_night_0 d l1 M =
    amCI (amD amGst d 179 [vI l1, vI 0, vI 100] M) fun v1 M1 => if v1 = 0 then (some (vI (-1), M1)) else (if l1 = 0 then (if (0 : Int) ≤ 83 ∧ (83 : Int) < 100 then (some (vI (M1 159 0 83), M1)) else none) else (amCV (amD amGst d 186 [vR 12 12 0] M1) fun M2 => e_X12_night_30 d l1 0 M2)) := by
  show amRun _ _ = _
  refine (amRun_t (f := amStep amGst (amD amGst d) cdX12_night) 3 (x := amPu 1 (amD amGst d 179 [vI l1, vI 0, vI 100] M) (fun z9 M9 => .inl (7, [vR 12 12 0, vI l1, vU], z9 ++ [], M9))) rfl).trans (amK_pI fun v1 M1 => ?_)
  refine (amRun_t (f := amStep amGst (amD amGst d) cdX12_night) 0 (x := if v1 = 0 then .inl (10, [vR 12 12 0, vI l1, vU], [], M1) else .inl (12, [vR 12 12 0, vI l1, vU], [], M1)) rfl).trans (amK_if ?_ ?_)
  · exact amRun_b 2 (x := .inr (some (vI (-1), M1))) rfl
  · refine (amRun_t (f := amStep amGst (amD amGst d) cdX12_night) 1 (x := if l1 = 0 then .inl (16, [vR 12 12 0, vI l1, vU], [], M1) else .inl (24, [vR 12 12 0, vI l1, vU], [], M1)) rfl).trans (amK_if ?_ ?_)
    · refine (amRun_t (f := amStep amGst (amD amGst d) cdX12_night) 3 (x := if (0 : Int) ≤ 83 ∧ (83 : Int) < 100 then .inl (23, [vR 12 12 0, vI l1, vU], [vI (M1 159 0 83)], M1) else amNo) rfl).trans (amK_if ?_ rfl)
      exact amRun_b 1 (x := .inr (some (vI (M1 159 0 83), M1))) rfl
    · refine (amRun_t (f := amStep amGst (amD amGst d) cdX12_night) 1 (x := amPu 0 (amD amGst d 186 [vR 12 12 0] M1) (fun z9 M9 => .inl (28, [vR 12 12 0, vI l1, vU], z9 ++ [], M9))) rfl).trans (amK_pV fun M2 => ?_)
      exact amRun_b 2 (x := .inl (30, [vR 12 12 0, vI l1, vI 0], [], M2)) rfl
theorem q_X12_night_30 (d : Nat) (l1 : Int) (l2 : Int) (M : AmM) : e_X12_night_30 d l1 l2 M =
    if l2 < l1 then (amCV (amD amGst d 203 [vR 12 12 0] M) fun M1 => e_X12_night_30 d l1 (w32 (l2 + 1)) M1) else (amCV (amD amGst d 199 [vR 12 12 0] M) fun M2 => if (0 : Int) ≤ 83 ∧ (83 : Int) < 100 then (some (vI (M2 159 0 83), M2)) else none) := by
  show amRun _ _ = _
  refine (amRun_t (f := amStep amGst (amD amGst d) cdX12_night) 2 (x := if l2 < l1 then .inl (35, [vR 12 12 0, vI l1, vI l2], [], M) else .inl (45, [vR 12 12 0, vI l1, vI l2], [], M)) rfl).trans (amK_if ?_ ?_)
  · refine (amRun_t (f := amStep amGst (amD amGst d) cdX12_night) 1 (x := amPu 0 (amD amGst d 203 [vR 12 12 0] M) (fun z9 M9 => .inl (39, [vR 12 12 0, vI l1, vI l2], z9 ++ [], M9))) rfl).trans (amK_pV fun M1 => ?_)
    exact amRun_b 2 (x := .inl (30, [vR 12 12 0, vI l1, vI (w32 (l2 + 1))], [], M1)) rfl
  · refine (amRun_t (f := amStep amGst (amD amGst d) cdX12_night) 1 (x := amPu 0 (amD amGst d 199 [vR 12 12 0] M) (fun z9 M9 => .inl (49, [vR 12 12 0, vI l1, vI l2], z9 ++ [], M9))) rfl).trans (amK_pV fun M2 => ?_)
    refine (amRun_t (f := amStep amGst (amD amGst d) cdX12_night) 3 (x := if (0 : Int) ≤ 83 ∧ (83 : Int) < 100 then .inl (56, [vR 12 12 0, vI l1, vI l2], [vI (M2 159 0 83)], M2) else amNo) rfl).trans (amK_if ?_ rfl)
    exact amRun_b 1 (x := .inr (some (vI (M2 159 0 83), M2))) rfl
theorem n_X12_night (d : Nat) (l1 : Int) (M : AmM) : amD amGst (d + 1) 204 [vR 12 12 0, vI l1] M = e_X12_night_0 d l1 M := rfl
noncomputable def e_X12_mend_0 (d : Nat) (l1 : Int) (l2 : Int) (M : AmM) : Option (AmV × AmM) := amRun (amStep amGst (amD amGst d) cdX12_mend) (0, [vR 12 12 0, vI l1, vI l2], [], M)
noncomputable def e_X12_mend_79 (d : Nat) (l1 : Int) (l2 : Int) (M : AmM) : Option (AmV × AmM) := amRun (amStep amGst (amD amGst d) cdX12_mend) (79, [vR 12 12 0, vI l1, vI l2], [], M)
theorem q_X12_mend_0 (d : Nat) (l1 : Int) (l2 : Int) (M : AmM) : e_X12_mend_0 d l1 l2 M =
    amCI (amD amGst d 182 [vR 12 12 0, vI l1] M) fun v1 M1 => if v1 = 0 then (some (vI (-1), M1)) else (if l2 < 1 then (some (vI (-1), M1)) else (if (0 : Int) ≤ 82 ∧ (82 : Int) < 100 then (if M1 159 0 82 < l2 then (some (vI (-2), M1)) else (if (0 : Int) ≤ l1 ∧ l1 < 100 then (if (0 : Int) ≤ w32 ((w32 (25 * (M1 12 0 18))) + l1) ∧ w32 ((w32 (25 * (M1 12 0 18))) + l1) < 50 then (if M1 138 0 (w32 ((w32 (25 * (M1 12 0 18))) + l1)).toNat < w32 ((M1 159 0 (l1).toNat) + l2) then (some (vI (-2), M1)) else (amCV (amD amGst d 186 [vR 12 12 0] M1) fun M2 => if (0 : Int) ≤ l1 ∧ l1 < 100 then (if (0 : Int) ≤ l1 ∧ l1 < 100 then (if (0 : Int) ≤ 82 ∧ (82 : Int) < 100 then (if (0 : Int) ≤ 82 ∧ (82 : Int) < 100 then (e_X12_mend_79 d l1 l2 (amUp (amUp M2 160 0 (l1).toNat (w32 ((M2 160 0 (l1).toNat) + l2))) 160 0 82 (w32 (((amUp M2 160 0 (l1).toNat (w32 ((M2 160 0 (l1).toNat) + l2))) 160 0 82) - l2)))) else none) else none) else none) else none)) else none) else none)) else none)) := by
  show amRun _ _ = _
  refine (amRun_t (f := amStep amGst (amD amGst d) cdX12_mend) 2 (x := amPu 1 (amD amGst d 182 [vR 12 12 0, vI l1] M) (fun z9 M9 => .inl (5, [vR 12 12 0, vI l1, vI l2], z9 ++ [], M9))) rfl).trans (amK_pI fun v1 M1 => ?_)
  refine (amRun_t (f := amStep amGst (amD amGst d) cdX12_mend) 0 (x := if v1 = 0 then .inl (13, [vR 12 12 0, vI l1, vI l2], [], M1) else .inl (8, [vR 12 12 0, vI l1, vI l2], [], M1)) rfl).trans (amK_if ?_ ?_)
  · exact amRun_b 2 (x := .inr (some (vI (-1), M1))) rfl
  · refine (amRun_t (f := amStep amGst (amD amGst d) cdX12_mend) 2 (x := if l2 < 1 then .inl (13, [vR 12 12 0, vI l1, vI l2], [], M1) else .inl (15, [vR 12 12 0, vI l1, vI l2], [], M1)) rfl).trans (amK_if ?_ ?_)
    · exact amRun_b 2 (x := .inr (some (vI (-1), M1))) rfl
    · refine (amRun_t (f := amStep amGst (amD amGst d) cdX12_mend) 4 (x := if (0 : Int) ≤ 82 ∧ (82 : Int) < 100 then .inl (23, [vR 12 12 0, vI l1, vI l2], [vI (M1 159 0 82), vI l2], M1) else amNo) rfl).trans (amK_if ?_ rfl)
      refine (amRun_t (f := amStep amGst (amD amGst d) cdX12_mend) 0 (x := if M1 159 0 82 < l2 then .inl (51, [vR 12 12 0, vI l1, vI l2], [], M1) else .inl (26, [vR 12 12 0, vI l1, vI l2], [], M1)) rfl).trans (amK_if ?_ ?_)
      · exact amRun_b 2 (x := .inr (some (vI (-2), M1))) rfl
      · refine (amRun_t (f := amStep amGst (amD amGst d) cdX12_mend) 3 (x := if (0 : Int) ≤ l1 ∧ l1 < 100 then .inl (32, [vR 12 12 0, vI l1, vI l2], [vI (M1 159 0 (l1).toNat)], M1) else amNo) rfl).trans (amK_if ?_ rfl)
        refine (amRun_t (f := amStep amGst (amD amGst d) cdX12_mend) 10 (x := if (0 : Int) ≤ w32 ((w32 (25 * (M1 12 0 18))) + l1) ∧ w32 ((w32 (25 * (M1 12 0 18))) + l1) < 50 then .inl (48, [vR 12 12 0, vI l1, vI l2], [vI (M1 138 0 (w32 ((w32 (25 * (M1 12 0 18))) + l1)).toNat), vI (w32 ((M1 159 0 (l1).toNat) + l2))], M1) else amNo) rfl).trans (amK_if ?_ rfl)
        refine (amRun_t (f := amStep amGst (amD amGst d) cdX12_mend) 0 (x := if M1 138 0 (w32 ((w32 (25 * (M1 12 0 18))) + l1)).toNat < w32 ((M1 159 0 (l1).toNat) + l2) then .inl (51, [vR 12 12 0, vI l1, vI l2], [], M1) else .inl (54, [vR 12 12 0, vI l1, vI l2], [], M1)) rfl).trans (amK_if ?_ ?_)
        · exact amRun_b 2 (x := .inr (some (vI (-2), M1))) rfl
        · refine (amRun_t (f := amStep amGst (amD amGst d) cdX12_mend) 1 (x := amPu 0 (amD amGst d 186 [vR 12 12 0] M1) (fun z9 M9 => .inl (58, [vR 12 12 0, vI l1, vI l2], z9 ++ [], M9))) rfl).trans (amK_pV fun M2 => ?_)
          refine (amRun_t (f := amStep amGst (amD amGst d) cdX12_mend) 4 (x := if (0 : Int) ≤ l1 ∧ l1 < 100 then .inl (65, [vR 12 12 0, vI l1, vI l2], [vI (M2 160 0 (l1).toNat), vI l1, vR 20 160 0], M2) else amNo) rfl).trans (amK_if ?_ rfl)
          refine (amRun_t (f := amStep amGst (amD amGst d) cdX12_mend) 2 (x := if (0 : Int) ≤ l1 ∧ l1 < 100 then .inl (68, [vR 12 12 0, vI l1, vI l2], [], amUp M2 160 0 (l1).toNat (w32 ((M2 160 0 (l1).toNat) + l2))) else amNo) rfl).trans (amK_if ?_ rfl)
          refine (amRun_t (f := amStep amGst (amD amGst d) cdX12_mend) 4 (x := if (0 : Int) ≤ 82 ∧ (82 : Int) < 100 then .inl (76, [vR 12 12 0, vI l1, vI l2], [vI ((amUp M2 160 0 (l1).toNat (w32 ((M2 160 0 (l1).toNat) + l2))) 160 0 82), vI 82, vR 20 160 0], amUp M2 160 0 (l1).toNat (w32 ((M2 160 0 (l1).toNat) + l2))) else amNo) rfl).trans (amK_if ?_ rfl)
          refine (amRun_t (f := amStep amGst (amD amGst d) cdX12_mend) 2 (x := if (0 : Int) ≤ 82 ∧ (82 : Int) < 100 then .inl (79, [vR 12 12 0, vI l1, vI l2], [], amUp (amUp M2 160 0 (l1).toNat (w32 ((M2 160 0 (l1).toNat) + l2))) 160 0 82 (w32 (((amUp M2 160 0 (l1).toNat (w32 ((M2 160 0 (l1).toNat) + l2))) 160 0 82) - l2))) else amNo) rfl).trans (amK_if ?_ rfl)
          exact amRun_b 0 (x := .inl (79, [vR 12 12 0, vI l1, vI l2], [], amUp (amUp M2 160 0 (l1).toNat (w32 ((M2 160 0 (l1).toNat) + l2))) 160 0 82 (w32 (((amUp M2 160 0 (l1).toNat (w32 ((M2 160 0 (l1).toNat) + l2))) 160 0 82) - l2)))) rfl
theorem q_X12_mend_79 (d : Nat) (l1 : Int) (l2 : Int) (M : AmM) : e_X12_mend_79 d l1 l2 M =
    amCV (amD amGst d 199 [vR 12 12 0] M) fun M1 => if (0 : Int) ≤ 82 ∧ (82 : Int) < 100 then (some (vI (M1 159 0 82), M1)) else none := by
  show amRun _ _ = _
  refine (amRun_t (f := amStep amGst (amD amGst d) cdX12_mend) 1 (x := amPu 0 (amD amGst d 199 [vR 12 12 0] M) (fun z9 M9 => .inl (83, [vR 12 12 0, vI l1, vI l2], z9 ++ [], M9))) rfl).trans (amK_pV fun M1 => ?_)
  refine (amRun_t (f := amStep amGst (amD amGst d) cdX12_mend) 3 (x := if (0 : Int) ≤ 82 ∧ (82 : Int) < 100 then .inl (90, [vR 12 12 0, vI l1, vI l2], [vI (M1 159 0 82)], M1) else amNo) rfl).trans (amK_if ?_ rfl)
  exact amRun_b 1 (x := .inr (some (vI (M1 159 0 82), M1))) rfl
theorem n_X12_mend (d : Nat) (l1 : Int) (l2 : Int) (M : AmM) : amD amGst (d + 1) 205 [vR 12 12 0, vI l1, vI l2] M = e_X12_mend_0 d l1 l2 M := rfl
noncomputable def e_X12_undo_0 (d : Nat) (M : AmM) : Option (AmV × AmM) := amRun (amStep amGst (amD amGst d) cdX12_undo) (0, [vR 12 12 0, vU], [], M)
noncomputable def e_X12_undo_21 (d : Nat) (l1 : Int) (M : AmM) : Option (AmV × AmM) := amRun (amStep amGst (amD amGst d) cdX12_undo) (21, [vR 12 12 0, vI l1], [], M)
theorem q_X12_undo_0 (d : Nat) (M : AmM) : e_X12_undo_0 d M =
    if M 12 0 53 = 0 then (some (vI 0, M)) else (e_X12_undo_21 d 0 (amUp M 12 0 53 (w32 ((M 12 0 53) - 1)))) := by
  show amRun _ _ = _
  refine (amRun_t (f := amStep amGst (amD amGst d) cdX12_undo) 2 (x := if M 12 0 53 = 0 then .inl (7, [vR 12 12 0, vU], [], M) else .inl (9, [vR 12 12 0, vU], [], M)) rfl).trans (amK_if ?_ ?_)
  · exact amRun_b 2 (x := .inr (some (vI 0, M))) rfl
  · exact amRun_b 8 (x := .inl (21, [vR 12 12 0, vI 0], [], amUp M 12 0 53 (w32 ((M 12 0 53) - 1)))) rfl
theorem q_X12_undo_21 (d : Nat) (l1 : Int) (M : AmM) : e_X12_undo_21 d l1 M =
    if l1 < 100 then (if (0 : Int) ≤ w32 ((w32 (100 * (M 12 0 53))) + l1) ∧ w32 ((w32 (100 * (M 12 0 53))) + l1) < 4000 then (if (0 : Int) ≤ l1 ∧ l1 < 100 then (e_X12_undo_21 d (w32 (l1 + 1)) (amUp M 159 0 (l1).toNat (M 161 0 (w32 ((w32 (100 * (M 12 0 53))) + l1)).toNat))) else none) else none) else (some (vI 1, M)) := by
  show amRun _ _ = _
  refine (amRun_t (f := amStep amGst (amD amGst d) cdX12_undo) 2 (x := if l1 < 100 then .inl (27, [vR 12 12 0, vI l1], [], M) else .inl (53, [vR 12 12 0, vI l1], [], M)) rfl).trans (amK_if ?_ ?_)
  · refine (amRun_t (f := amStep amGst (amD amGst d) cdX12_undo) 11 (x := if (0 : Int) ≤ w32 ((w32 (100 * (M 12 0 53))) + l1) ∧ w32 ((w32 (100 * (M 12 0 53))) + l1) < 4000 then .inl (46, [vR 12 12 0, vI l1], [vI (M 161 0 (w32 ((w32 (100 * (M 12 0 53))) + l1)).toNat), vI l1, vR 20 159 0], M) else amNo) rfl).trans (amK_if ?_ rfl)
    refine (amRun_t (f := amStep amGst (amD amGst d) cdX12_undo) 0 (x := if (0 : Int) ≤ l1 ∧ l1 < 100 then .inl (47, [vR 12 12 0, vI l1], [], amUp M 159 0 (l1).toNat (M 161 0 (w32 ((w32 (100 * (M 12 0 53))) + l1)).toNat)) else amNo) rfl).trans (amK_if ?_ rfl)
    exact amRun_b 2 (x := .inl (21, [vR 12 12 0, vI (w32 (l1 + 1))], [], amUp M 159 0 (l1).toNat (M 161 0 (w32 ((w32 (100 * (M 12 0 53))) + l1)).toNat))) rfl
  · exact amRun_b 2 (x := .inr (some (vI 1, M))) rfl
theorem n_X12_undo (d : Nat) (M : AmM) : amD amGst (d + 1) 206 [vR 12 12 0] M = e_X12_undo_0 d M := rfl
noncomputable def e_X12_bits_0 (d : Nat) (l0 : Int) (M : AmM) : Option (AmV × AmM) := amRun (amStep amGst (amD amGst d) cdX12_bits) (0, [vI l0, vU, vU], [], M)
noncomputable def e_X12_bits_4 (d : Nat) (l0 : Int) (l1 : Int) (l2 : Int) (M : AmM) : Option (AmV × AmM) := amRun (amStep amGst (amD amGst d) cdX12_bits) (4, [vI l0, vI l1, vI l2], [], M)
theorem q_X12_bits_0 (d : Nat) (l0 : Int) (M : AmM) : e_X12_bits_0 d l0 M =
    e_X12_bits_4 d l0 0 0 M := by
  show amRun _ _ = _
  exact amRun_b 4 (x := .inl (4, [vI l0, vI 0, vI 0], [], M)) rfl
theorem q_X12_bits_4 (d : Nat) (l0 : Int) (l1 : Int) (l2 : Int) (M : AmM) : e_X12_bits_4 d l0 l1 l2 M =
    if l2 < 8 then (e_X12_bits_4 d l0 (w32 (l1 + (bAnd (bShr l0 l2) 1))) (w32 (l2 + 1)) M) else (some (vI l1, M)) := by
  show amRun _ _ = _
  refine (amRun_t (f := amStep amGst (amD amGst d) cdX12_bits) 2 (x := if l2 < 8 then .inl (10, [vI l0, vI l1, vI l2], [], M) else .inl (24, [vI l0, vI l1, vI l2], [], M)) rfl).trans (amK_if ?_ ?_)
  · exact amRun_b 10 (x := .inl (4, [vI l0, vI (w32 (l1 + (bAnd (bShr l0 l2) 1))), vI (w32 (l2 + 1))], [], M)) rfl
  · exact amRun_b 2 (x := .inr (some (vI l1, M))) rfl
theorem n_X12_bits (d : Nat) (l0 : Int) (M : AmM) : amD amGst (d + 1) 207 [vI l0] M = e_X12_bits_0 d l0 M := rfl
noncomputable def e_X12_isSet_0 (d : Nat) (l1 : Int) (M : AmM) : Option (AmV × AmM) := amRun (amStep amGst (amD amGst d) cdX12_isSet) (0, [vR 12 12 0, vI l1, vU], [], M)
noncomputable def e_X12_isSet_20 (d : Nat) (l1 : Int) (l2 : Int) (M : AmM) : Option (AmV × AmM) := amRun (amStep amGst (amD amGst d) cdX12_isSet) (20, [vR 12 12 0, vI l1, vI l2], [], M)
theorem q_X12_isSet_0 (d : Nat) (l1 : Int) (M : AmM) : e_X12_isSet_0 d l1 M =
    amCI (amD amGst d 181 [vR 12 12 0] M) fun v1 M1 => amCI (amD amGst d 179 [vI l1, vI 0, vI (w32 ((bShl 1 v1) - 1))] M1) fun v2 M2 => if v2 = 0 then (some (vI 0, M2)) else (e_X12_isSet_20 d l1 0 M2) := by
  show amRun _ _ = _
  refine (amRun_t (f := amStep amGst (amD amGst d) cdX12_isSet) 4 (x := amPu 1 (amD amGst d 181 [vR 12 12 0] M) (fun z9 M9 => .inl (7, [vR 12 12 0, vI l1, vU], z9 ++ [vI 1, vI 0, vI l1], M9))) rfl).trans (amK_pI fun v1 M1 => ?_)
  refine (amRun_t (f := amStep amGst (amD amGst d) cdX12_isSet) 3 (x := amPu 1 (amD amGst d 179 [vI l1, vI 0, vI (w32 ((bShl 1 v1) - 1))] M1) (fun z9 M9 => .inl (13, [vR 12 12 0, vI l1, vU], z9 ++ [], M9))) rfl).trans (amK_pI fun v2 M2 => ?_)
  refine (amRun_t (f := amStep amGst (amD amGst d) cdX12_isSet) 0 (x := if v2 = 0 then .inl (16, [vR 12 12 0, vI l1, vU], [], M2) else .inl (18, [vR 12 12 0, vI l1, vU], [], M2)) rfl).trans (amK_if ?_ ?_)
  · exact amRun_b 2 (x := .inr (some (vI 0, M2))) rfl
  · exact amRun_b 2 (x := .inl (20, [vR 12 12 0, vI l1, vI 0], [], M2)) rfl
theorem q_X12_isSet_20 (d : Nat) (l1 : Int) (l2 : Int) (M : AmM) : e_X12_isSet_20 d l1 l2 M =
    amCI (amD amGst d 181 [vR 12 12 0] M) fun v1 M1 => if l2 < v1 then (if bAnd (bShr l1 l2) 1 = 1 then (amCI (amD amGst d 200 [vR 12 12 0, vI l2] M1) fun v2 M2 => if v2 = 0 then (some (vI 0, M2)) else (e_X12_isSet_20 d l1 (w32 (l2 + 1)) M2)) else (e_X12_isSet_20 d l1 (w32 (l2 + 1)) M1)) else (some (vI 1, M1)) := by
  show amRun _ _ = _
  refine (amRun_t (f := amStep amGst (amD amGst d) cdX12_isSet) 2 (x := amPu 1 (amD amGst d 181 [vR 12 12 0] M) (fun z9 M9 => .inl (25, [vR 12 12 0, vI l1, vI l2], z9 ++ [vI l2], M9))) rfl).trans (amK_pI fun v1 M1 => ?_)
  refine (amRun_t (f := amStep amGst (amD amGst d) cdX12_isSet) 0 (x := if l2 < v1 then .inl (28, [vR 12 12 0, vI l1, vI l2], [], M1) else .inl (53, [vR 12 12 0, vI l1, vI l2], [], M1)) rfl).trans (amK_if ?_ ?_)
  · refine (amRun_t (f := amStep amGst (amD amGst d) cdX12_isSet) 6 (x := if bAnd (bShr l1 l2) 1 = 1 then .inl (37, [vR 12 12 0, vI l1, vI l2], [], M1) else .inl (47, [vR 12 12 0, vI l1, vI l2], [], M1)) rfl).trans (amK_if ?_ ?_)
    · refine (amRun_t (f := amStep amGst (amD amGst d) cdX12_isSet) 2 (x := amPu 1 (amD amGst d 200 [vR 12 12 0, vI l2] M1) (fun z9 M9 => .inl (42, [vR 12 12 0, vI l1, vI l2], z9 ++ [], M9))) rfl).trans (amK_pI fun v2 M2 => ?_)
      refine (amRun_t (f := amStep amGst (amD amGst d) cdX12_isSet) 0 (x := if v2 = 0 then .inl (45, [vR 12 12 0, vI l1, vI l2], [], M2) else .inl (47, [vR 12 12 0, vI l1, vI l2], [], M2)) rfl).trans (amK_if ?_ ?_)
      · exact amRun_b 2 (x := .inr (some (vI 0, M2))) rfl
      · exact amRun_b 2 (x := .inl (20, [vR 12 12 0, vI l1, vI (w32 (l2 + 1))], [], M2)) rfl
    · exact amRun_b 2 (x := .inl (20, [vR 12 12 0, vI l1, vI (w32 (l2 + 1))], [], M1)) rfl
  · exact amRun_b 2 (x := .inr (some (vI 1, M1))) rfl
theorem n_X12_isSet (d : Nat) (l1 : Int) (M : AmM) : amD amGst (d + 1) 208 [vR 12 12 0, vI l1] M = e_X12_isSet_0 d l1 M := rfl
noncomputable def e_X12_fillsOrder_0 (d : Nat) (l1 : Int) (M : AmM) : Option (AmV × AmM) := amRun (amStep amGst (amD amGst d) cdX12_fillsOrder) (0, [vR 12 12 0, vI l1, vU], [], M)
noncomputable def e_X12_fillsOrder_7 (d : Nat) (l1 : Int) (l2 : Int) (M : AmM) : Option (AmV × AmM) := amRun (amStep amGst (amD amGst d) cdX12_fillsOrder) (7, [vR 12 12 0, vI l1, vI l2], [], M)
noncomputable def e_X12_fillsOrder_46 (d : Nat) (l1 : Int) (l2 : Int) (M : AmM) : Option (AmV × AmM) := amRun (amStep amGst (amD amGst d) cdX12_fillsOrder) (46, [vR 12 12 0, vI l1, vI l2], [], M)
theorem q_X12_fillsOrder_0 (d : Nat) (l1 : Int) (M : AmM) : e_X12_fillsOrder_0 d l1 M =
    e_X12_fillsOrder_7 d l1 0 (amUp M 12 0 55 0) := by
  show amRun _ _ = _
  exact amRun_b 5 (x := .inl (7, [vR 12 12 0, vI l1, vI 0], [], amUp M 12 0 55 0)) rfl
theorem q_X12_fillsOrder_7 (d : Nat) (l1 : Int) (l2 : Int) (M : AmM) : e_X12_fillsOrder_7 d l1 l2 M =
    amCI (amD amGst d 181 [vR 12 12 0] M) fun v1 M1 => if l2 < v1 then (if bAnd (bShr l1 l2) 1 = 0 then (e_X12_fillsOrder_46 d l1 l2 M1) else (if (0 : Int) ≤ M1 12 0 55 ∧ M1 12 0 55 < 8 then (e_X12_fillsOrder_46 d l1 l2 (amUp (amUp M1 162 0 (M1 12 0 55).toNat l2) 12 0 55 (w32 (((amUp M1 162 0 (M1 12 0 55).toNat l2) 12 0 55) + 1)))) else none)) else (some (vU, M1)) := by
  show amRun _ _ = _
  refine (amRun_t (f := amStep amGst (amD amGst d) cdX12_fillsOrder) 2 (x := amPu 1 (amD amGst d 181 [vR 12 12 0] M) (fun z9 M9 => .inl (12, [vR 12 12 0, vI l1, vI l2], z9 ++ [vI l2], M9))) rfl).trans (amK_pI fun v1 M1 => ?_)
  refine (amRun_t (f := amStep amGst (amD amGst d) cdX12_fillsOrder) 0 (x := if l2 < v1 then .inl (15, [vR 12 12 0, vI l1, vI l2], [], M1) else .inl (52, [vR 12 12 0, vI l1, vI l2], [], M1)) rfl).trans (amK_if ?_ ?_)
  · refine (amRun_t (f := amStep amGst (amD amGst d) cdX12_fillsOrder) 5 (x := if bAnd (bShr l1 l2) 1 = 0 then .inl (23, [vR 12 12 0, vI l1, vI l2], [], M1) else .inl (26, [vR 12 12 0, vI l1, vI l2], [], M1)) rfl).trans (amK_if ?_ ?_)
    · exact amRun_b 1 (x := .inl (46, [vR 12 12 0, vI l1, vI l2], [], M1)) rfl
    · refine (amRun_t (f := amStep amGst (amD amGst d) cdX12_fillsOrder) 5 (x := if (0 : Int) ≤ M1 12 0 55 ∧ M1 12 0 55 < 8 then .inl (36, [vR 12 12 0, vI l1, vI l2], [], amUp M1 162 0 (M1 12 0 55).toNat l2) else amNo) rfl).trans (amK_if ?_ rfl)
      exact amRun_b 6 (x := .inl (46, [vR 12 12 0, vI l1, vI l2], [], amUp (amUp M1 162 0 (M1 12 0 55).toNat l2) 12 0 55 (w32 (((amUp M1 162 0 (M1 12 0 55).toNat l2) 12 0 55) + 1)))) rfl
  · exact amRun_b 1 (x := .inr (some (vU, M1))) rfl
theorem q_X12_fillsOrder_46 (d : Nat) (l1 : Int) (l2 : Int) (M : AmM) : e_X12_fillsOrder_46 d l1 l2 M =
    e_X12_fillsOrder_7 d l1 (w32 (l2 + 1)) M := by
  show amRun _ _ = _
  exact amRun_b 2 (x := .inl (7, [vR 12 12 0, vI l1, vI (w32 (l2 + 1))], [], M)) rfl
theorem n_X12_fillsOrder (d : Nat) (l1 : Int) (M : AmM) : amD amGst (d + 1) 209 [vR 12 12 0, vI l1] M = e_X12_fillsOrder_0 d l1 M := rfl
noncomputable def e_X12_nextOrder_0 (d : Nat) (M : AmM) : Option (AmV × AmM) := amRun (amStep amGst (amD amGst d) cdX12_nextOrder) (0, [vR 12 12 0, vU, vU, vU, vU, vU], [], M)
noncomputable def e_X12_nextOrder_7 (d : Nat) (l1 : Int) (M : AmM) : Option (AmV × AmM) := amRun (amStep amGst (amD amGst d) cdX12_nextOrder) (7, [vR 12 12 0, vI l1, vU, vU, vU, vU], [], M)
noncomputable def e_X12_nextOrder_47 (d : Nat) (l1 : Int) (l2 : Int) (M : AmM) : Option (AmV × AmM) := amRun (amStep amGst (amD amGst d) cdX12_nextOrder) (47, [vR 12 12 0, vI l1, vI l2, vU, vU, vU], [], M)
noncomputable def e_X12_nextOrder_94 (d : Nat) (l1 : Int) (l2 : Int) (l3 : Int) (M : AmM) : Option (AmV × AmM) := amRun (amStep amGst (amD amGst d) cdX12_nextOrder) (94, [vR 12 12 0, vI l1, vI l2, vI l3, vU, vU], [], M)
noncomputable def e_X12_nextOrder_107 (d : Nat) (l1 : Int) (l2 : Int) (l3 : Int) (l4 : Int) (l5 : Int) (M : AmM) : Option (AmV × AmM) := amRun (amStep amGst (amD amGst d) cdX12_nextOrder) (107, [vR 12 12 0, vI l1, vI l2, vI l3, vI l4, vI l5], [], M)
noncomputable def e_X12_nextOrder_144 (d : Nat) (l1 : Int) (l2 : Int) (l3 : Int) (l4 : Int) (l5 : Int) (M : AmM) : Option (AmV × AmM) := amRun (amStep amGst (amD amGst d) cdX12_nextOrder) (144, [vR 12 12 0, vI l1, vI l2, vI l3, vI l4, vI l5], [], M)
theorem q_X12_nextOrder_0 (d : Nat) (M : AmM) : e_X12_nextOrder_0 d M =
    e_X12_nextOrder_7 d (w32 ((M 12 0 55) - 2)) M := by
  show amRun _ _ = _
  exact amRun_b 5 (x := .inl (7, [vR 12 12 0, vI (w32 ((M 12 0 55) - 2)), vU, vU, vU, vU], [], M)) rfl
theorem q_X12_nextOrder_7 (d : Nat) (l1 : Int) (M : AmM) : e_X12_nextOrder_7 d l1 M =
    if l1 < 0 then (if l1 < 0 then (some (vI 0, M)) else (e_X12_nextOrder_47 d l1 (w32 ((M 12 0 55) - 1)) M)) else (if (0 : Int) ≤ l1 ∧ l1 < 8 then (if (0 : Int) ≤ w32 (l1 + 1) ∧ w32 (l1 + 1) < 8 then (if M 162 0 (w32 (l1 + 1)).toNat < M 162 0 (l1).toNat then (e_X12_nextOrder_7 d (w32 (l1 + (-1))) M) else (if l1 < 0 then (some (vI 0, M)) else (e_X12_nextOrder_47 d l1 (w32 ((M 12 0 55) - 1)) M))) else none) else none) := by
  show amRun _ _ = _
  refine (amRun_t (f := amStep amGst (amD amGst d) cdX12_nextOrder) 1 (x := if l1 < 0 then .inl (34, [vR 12 12 0, vI l1, vU, vU, vU, vU], [], M) else .inl (11, [vR 12 12 0, vI l1, vU, vU, vU, vU], [], M)) rfl).trans (amK_if ?_ ?_)
  · refine (amRun_t (f := amStep amGst (amD amGst d) cdX12_nextOrder) 1 (x := if l1 < 0 then .inl (38, [vR 12 12 0, vI l1, vU, vU, vU, vU], [], M) else .inl (40, [vR 12 12 0, vI l1, vU, vU, vU, vU], [], M)) rfl).trans (amK_if ?_ ?_)
    · exact amRun_b 2 (x := .inr (some (vI 0, M))) rfl
    · exact amRun_b 5 (x := .inl (47, [vR 12 12 0, vI l1, vI (w32 ((M 12 0 55) - 1)), vU, vU, vU], [], M)) rfl
  · refine (amRun_t (f := amStep amGst (amD amGst d) cdX12_nextOrder) 3 (x := if (0 : Int) ≤ l1 ∧ l1 < 8 then .inl (17, [vR 12 12 0, vI l1, vU, vU, vU, vU], [vI (M 162 0 (l1).toNat)], M) else amNo) rfl).trans (amK_if ?_ rfl)
    refine (amRun_t (f := amStep amGst (amD amGst d) cdX12_nextOrder) 5 (x := if (0 : Int) ≤ w32 (l1 + 1) ∧ w32 (l1 + 1) < 8 then .inl (25, [vR 12 12 0, vI l1, vU, vU, vU, vU], [vI (M 162 0 (w32 (l1 + 1)).toNat), vI (M 162 0 (l1).toNat)], M) else amNo) rfl).trans (amK_if ?_ rfl)
    refine (amRun_t (f := amStep amGst (amD amGst d) cdX12_nextOrder) 0 (x := if M 162 0 (w32 (l1 + 1)).toNat < M 162 0 (l1).toNat then .inl (28, [vR 12 12 0, vI l1, vU, vU, vU, vU], [], M) else .inl (34, [vR 12 12 0, vI l1, vU, vU, vU, vU], [], M)) rfl).trans (amK_if ?_ ?_)
    · exact amRun_b 2 (x := .inl (7, [vR 12 12 0, vI (w32 (l1 + (-1))), vU, vU, vU, vU], [], M)) rfl
    · refine (amRun_t (f := amStep amGst (amD amGst d) cdX12_nextOrder) 1 (x := if l1 < 0 then .inl (38, [vR 12 12 0, vI l1, vU, vU, vU, vU], [], M) else .inl (40, [vR 12 12 0, vI l1, vU, vU, vU, vU], [], M)) rfl).trans (amK_if ?_ ?_)
      · exact amRun_b 2 (x := .inr (some (vI 0, M))) rfl
      · exact amRun_b 5 (x := .inl (47, [vR 12 12 0, vI l1, vI (w32 ((M 12 0 55) - 1)), vU, vU, vU], [], M)) rfl
theorem q_X12_nextOrder_47 (d : Nat) (l1 : Int) (l2 : Int) (M : AmM) : e_X12_nextOrder_47 d l1 l2 M =
    if (0 : Int) ≤ l2 ∧ l2 < 8 then (if (0 : Int) ≤ l1 ∧ l1 < 8 then (if M 162 0 (l2).toNat < M 162 0 (l1).toNat then (e_X12_nextOrder_47 d l1 (w32 (l2 + (-1))) M) else (if (0 : Int) ≤ l1 ∧ l1 < 8 then (if (0 : Int) ≤ l2 ∧ l2 < 8 then (if (0 : Int) ≤ l1 ∧ l1 < 8 then (if (0 : Int) ≤ l2 ∧ l2 < 8 then (e_X12_nextOrder_94 d l1 l2 (M 162 0 (l1).toNat) (amUp (amUp M 162 0 (l1).toNat (M 162 0 (l2).toNat)) 162 0 (l2).toNat (M 162 0 (l1).toNat))) else none) else none) else none) else none)) else none) else none := by
  show amRun _ _ = _
  refine (amRun_t (f := amStep amGst (amD amGst d) cdX12_nextOrder) 3 (x := if (0 : Int) ≤ l2 ∧ l2 < 8 then .inl (53, [vR 12 12 0, vI l1, vI l2, vU, vU, vU], [vI (M 162 0 (l2).toNat)], M) else amNo) rfl).trans (amK_if ?_ rfl)
  refine (amRun_t (f := amStep amGst (amD amGst d) cdX12_nextOrder) 3 (x := if (0 : Int) ≤ l1 ∧ l1 < 8 then .inl (59, [vR 12 12 0, vI l1, vI l2, vU, vU, vU], [vI (M 162 0 (l1).toNat), vI (M 162 0 (l2).toNat)], M) else amNo) rfl).trans (amK_if ?_ rfl)
  refine (amRun_t (f := amStep amGst (amD amGst d) cdX12_nextOrder) 0 (x := if M 162 0 (l2).toNat < M 162 0 (l1).toNat then .inl (62, [vR 12 12 0, vI l1, vI l2, vU, vU, vU], [], M) else .inl (68, [vR 12 12 0, vI l1, vI l2, vU, vU, vU], [], M)) rfl).trans (amK_if ?_ ?_)
  · exact amRun_b 2 (x := .inl (47, [vR 12 12 0, vI l1, vI (w32 (l2 + (-1))), vU, vU, vU], [], M)) rfl
  · refine (amRun_t (f := amStep amGst (amD amGst d) cdX12_nextOrder) 3 (x := if (0 : Int) ≤ l1 ∧ l1 < 8 then .inl (74, [vR 12 12 0, vI l1, vI l2, vU, vU, vU], [vI (M 162 0 (l1).toNat)], M) else amNo) rfl).trans (amK_if ?_ rfl)
    refine (amRun_t (f := amStep amGst (amD amGst d) cdX12_nextOrder) 7 (x := if (0 : Int) ≤ l2 ∧ l2 < 8 then .inl (86, [vR 12 12 0, vI l1, vI l2, vI (M 162 0 (l1).toNat), vU, vU], [vI (M 162 0 (l2).toNat), vI l1, vR 20 162 0], M) else amNo) rfl).trans (amK_if ?_ rfl)
    refine (amRun_t (f := amStep amGst (amD amGst d) cdX12_nextOrder) 0 (x := if (0 : Int) ≤ l1 ∧ l1 < 8 then .inl (87, [vR 12 12 0, vI l1, vI l2, vI (M 162 0 (l1).toNat), vU, vU], [], amUp M 162 0 (l1).toNat (M 162 0 (l2).toNat)) else amNo) rfl).trans (amK_if ?_ rfl)
    refine (amRun_t (f := amStep amGst (amD amGst d) cdX12_nextOrder) 4 (x := if (0 : Int) ≤ l2 ∧ l2 < 8 then .inl (94, [vR 12 12 0, vI l1, vI l2, vI (M 162 0 (l1).toNat), vU, vU], [], amUp (amUp M 162 0 (l1).toNat (M 162 0 (l2).toNat)) 162 0 (l2).toNat (M 162 0 (l1).toNat)) else amNo) rfl).trans (amK_if ?_ rfl)
    exact amRun_b 0 (x := .inl (94, [vR 12 12 0, vI l1, vI l2, vI (M 162 0 (l1).toNat), vU, vU], [], amUp (amUp M 162 0 (l1).toNat (M 162 0 (l2).toNat)) 162 0 (l2).toNat (M 162 0 (l1).toNat))) rfl
theorem q_X12_nextOrder_94 (d : Nat) (l1 : Int) (l2 : Int) (l3 : Int) (M : AmM) : e_X12_nextOrder_94 d l1 l2 l3 M =
    e_X12_nextOrder_107 d l1 l2 l3 (w32 (l1 + 1)) (w32 ((M 12 0 55) - 1)) M := by
  show amRun _ _ = _
  exact amRun_b 9 (x := .inl (107, [vR 12 12 0, vI l1, vI l2, vI l3, vI (w32 (l1 + 1)), vI (w32 ((M 12 0 55) - 1))], [], M)) rfl
theorem q_X12_nextOrder_107 (d : Nat) (l1 : Int) (l2 : Int) (l3 : Int) (l4 : Int) (l5 : Int) (M : AmM) : e_X12_nextOrder_107 d l1 l2 l3 l4 l5 M =
    if l4 < l5 then (if (0 : Int) ≤ l4 ∧ l4 < 8 then (if (0 : Int) ≤ l5 ∧ l5 < 8 then (if (0 : Int) ≤ l4 ∧ l4 < 8 then (if (0 : Int) ≤ l5 ∧ l5 < 8 then (e_X12_nextOrder_144 d l1 l2 (M 162 0 (l4).toNat) l4 l5 (amUp (amUp M 162 0 (l4).toNat (M 162 0 (l5).toNat)) 162 0 (l5).toNat (M 162 0 (l4).toNat))) else none) else none) else none) else none) else (some (vI 1, M)) := by
  show amRun _ _ = _
  refine (amRun_t (f := amStep amGst (amD amGst d) cdX12_nextOrder) 2 (x := if l4 < l5 then .inl (114, [vR 12 12 0, vI l1, vI l2, vI l3, vI l4, vI l5], [], M) else .inl (153, [vR 12 12 0, vI l1, vI l2, vI l3, vI l4, vI l5], [], M)) rfl).trans (amK_if ?_ ?_)
  · refine (amRun_t (f := amStep amGst (amD amGst d) cdX12_nextOrder) 3 (x := if (0 : Int) ≤ l4 ∧ l4 < 8 then .inl (121, [vR 12 12 0, vI l1, vI l2, vI l3, vI l4, vI l5], [vI (M 162 0 (l4).toNat)], M) else amNo) rfl).trans (amK_if ?_ rfl)
    refine (amRun_t (f := amStep amGst (amD amGst d) cdX12_nextOrder) 7 (x := if (0 : Int) ≤ l5 ∧ l5 < 8 then .inl (135, [vR 12 12 0, vI l1, vI l2, vI (M 162 0 (l4).toNat), vI l4, vI l5], [vI (M 162 0 (l5).toNat), vI l4, vR 20 162 0], M) else amNo) rfl).trans (amK_if ?_ rfl)
    refine (amRun_t (f := amStep amGst (amD amGst d) cdX12_nextOrder) 0 (x := if (0 : Int) ≤ l4 ∧ l4 < 8 then .inl (136, [vR 12 12 0, vI l1, vI l2, vI (M 162 0 (l4).toNat), vI l4, vI l5], [], amUp M 162 0 (l4).toNat (M 162 0 (l5).toNat)) else amNo) rfl).trans (amK_if ?_ rfl)
    refine (amRun_t (f := amStep amGst (amD amGst d) cdX12_nextOrder) 4 (x := if (0 : Int) ≤ l5 ∧ l5 < 8 then .inl (144, [vR 12 12 0, vI l1, vI l2, vI (M 162 0 (l4).toNat), vI l4, vI l5], [], amUp (amUp M 162 0 (l4).toNat (M 162 0 (l5).toNat)) 162 0 (l5).toNat (M 162 0 (l4).toNat)) else amNo) rfl).trans (amK_if ?_ rfl)
    exact amRun_b 0 (x := .inl (144, [vR 12 12 0, vI l1, vI l2, vI (M 162 0 (l4).toNat), vI l4, vI l5], [], amUp (amUp M 162 0 (l4).toNat (M 162 0 (l5).toNat)) 162 0 (l5).toNat (M 162 0 (l4).toNat))) rfl
  · exact amRun_b 2 (x := .inr (some (vI 1, M))) rfl
theorem q_X12_nextOrder_144 (d : Nat) (l1 : Int) (l2 : Int) (l3 : Int) (l4 : Int) (l5 : Int) (M : AmM) : e_X12_nextOrder_144 d l1 l2 l3 l4 l5 M =
    e_X12_nextOrder_107 d l1 l2 l3 (w32 (l4 + 1)) (w32 (l5 + (-1))) M := by
  show amRun _ _ = _
  exact amRun_b 3 (x := .inl (107, [vR 12 12 0, vI l1, vI l2, vI l3, vI (w32 (l4 + 1)), vI (w32 (l5 + (-1)))], [], M)) rfl
theorem n_X12_nextOrder (d : Nat) (M : AmM) : amD amGst (d + 1) 210 [vR 12 12 0] M = e_X12_nextOrder_0 d M := rfl
noncomputable def e_X12_orders_0 (d : Nat) (l1 : Int) (M : AmM) : Option (AmV × AmM) := amRun (amStep amGst (amD amGst d) cdX12_orders) (0, [vR 12 12 0, vI l1, vU, vU, vU, vU, vU], [], M)
noncomputable def e_X12_orders_12 (d : Nat) (l1 : Int) (l2 : Int) (u3 : AmV) (u4 : AmV) (u5 : AmV) (u6 : AmV) (M : AmM) : Option (AmV × AmM) := amRun (amStep amGst (amD amGst d) cdX12_orders) (12, [vR 12 12 0, vI l1, vI l2, u3, u4, u5, u6], [], M)
noncomputable def e_X12_orders_28 (d : Nat) (l1 : Int) (l2 : Int) (l3 : Int) (l4 : Int) (l5 : Int) (u6 : AmV) (M : AmM) : Option (AmV × AmM) := amRun (amStep amGst (amD amGst d) cdX12_orders) (28, [vR 12 12 0, vI l1, vI l2, vI l3, vI l4, vI l5, u6], [], M)
noncomputable def e_X12_orders_112 (d : Nat) (l1 : Int) (l2 : Int) (l3 : Int) (l4 : Int) (l5 : Int) (u6 : AmV) (M : AmM) : Option (AmV × AmM) := amRun (amStep amGst (amD amGst d) cdX12_orders) (112, [vR 12 12 0, vI l1, vI l2, vI l3, vI l4, vI l5, u6], [], M)
theorem q_X12_orders_0 (d : Nat) (l1 : Int) (M : AmM) : e_X12_orders_0 d l1 M =
    amCV (amD amGst d 209 [vR 12 12 0, vI l1] M) fun M1 => e_X12_orders_12 d l1 1 vU vU vU vU (amUp M1 12 0 58 (-1)) := by
  show amRun _ _ = _
  refine (amRun_t (f := amStep amGst (amD amGst d) cdX12_orders) 2 (x := amPu 0 (amD amGst d 209 [vR 12 12 0, vI l1] M) (fun z9 M9 => .inl (5, [vR 12 12 0, vI l1, vU, vU, vU, vU, vU], z9 ++ [], M9))) rfl).trans (amK_pV fun M1 => ?_)
  exact amRun_b 5 (x := .inl (12, [vR 12 12 0, vI l1, vI 1, vU, vU, vU, vU], [], amUp M1 12 0 58 (-1))) rfl
theorem q_X12_orders_12 (d : Nat) (l1 : Int) (l2 : Int) (u3 : AmV) (u4 : AmV) (u5 : AmV) (u6 : AmV) (M : AmM) : e_X12_orders_12 d l1 l2 u3 u4 u5 u6 M =
    if l2 = 0 then (some (vU, M)) else (amCV (amD amGst d 186 [vR 12 12 0] M) fun M1 => e_X12_orders_28 d l1 l2 0 0 0 u6 M1) := by
  show amRun _ _ = _
  refine (amRun_t (f := amStep amGst (amD amGst d) cdX12_orders) 1 (x := if l2 = 0 then .inl (149, [vR 12 12 0, vI l1, vI l2, u3, u4, u5, u6], [], M) else .inl (16, [vR 12 12 0, vI l1, vI l2, u3, u4, u5, u6], [], M)) rfl).trans (amK_if ?_ ?_)
  · exact amRun_b 1 (x := .inr (some (vU, M))) rfl
  · refine (amRun_t (f := amStep amGst (amD amGst d) cdX12_orders) 1 (x := amPu 0 (amD amGst d 186 [vR 12 12 0] M) (fun z9 M9 => .inl (20, [vR 12 12 0, vI l1, vI l2, u3, u4, u5, u6], z9 ++ [], M9))) rfl).trans (amK_pV fun M1 => ?_)
    exact amRun_b 6 (x := .inl (28, [vR 12 12 0, vI l1, vI l2, vI 0, vI 0, vI 0, u6], [], M1)) rfl
theorem q_X12_orders_28 (d : Nat) (l1 : Int) (l2 : Int) (l3 : Int) (l4 : Int) (l5 : Int) (u6 : AmV) (M : AmM) : e_X12_orders_28 d l1 l2 l3 l4 l5 u6 M =
    if l5 < M 12 0 55 then (if (0 : Int) ≤ l5 ∧ l5 < 8 then (amCI (amD amGst d 195 [vR 12 12 0, vI (M 162 0 (l5).toNat)] M) fun v1 M1 => if v1 = 0 then (if v1 = 2 then (e_X12_orders_28 d l1 l2 (w32 (l3 + 1)) (w32 (l4 + 1)) (w32 (l5 + 1)) (vI v1) M1) else (e_X12_orders_28 d l1 l2 (w32 (l3 + 1)) l4 (w32 (l5 + 1)) (vI v1) M1)) else (if v1 = 2 then (e_X12_orders_28 d l1 l2 l3 (w32 (l4 + 1)) (w32 (l5 + 1)) (vI v1) M1) else (e_X12_orders_28 d l1 l2 l3 l4 (w32 (l5 + 1)) (vI v1) M1))) else none) else (if M 12 0 58 < l3 then (e_X12_orders_112 d l1 l2 l3 l4 0 u6 (amUp (amUp M 12 0 58 l3) 12 0 59 l4)) else (if l3 = M 12 0 58 then (if l4 < M 12 0 59 then (e_X12_orders_112 d l1 l2 l3 l4 0 u6 (amUp (amUp M 12 0 58 l3) 12 0 59 l4)) else (amCI (amD amGst d 210 [vR 12 12 0] M) fun v2 M2 => e_X12_orders_12 d l1 v2 (vI l3) (vI l4) (vI l5) u6 M2)) else (amCI (amD amGst d 210 [vR 12 12 0] M) fun v3 M3 => e_X12_orders_12 d l1 v3 (vI l3) (vI l4) (vI l5) u6 M3))) := by
  show amRun _ _ = _
  refine (amRun_t (f := amStep amGst (amD amGst d) cdX12_orders) 3 (x := if l5 < M 12 0 55 then .inl (37, [vR 12 12 0, vI l1, vI l2, vI l3, vI l4, vI l5, u6], [], M) else .inl (73, [vR 12 12 0, vI l1, vI l2, vI l3, vI l4, vI l5, u6], [], M)) rfl).trans (amK_if ?_ ?_)
  · refine (amRun_t (f := amStep amGst (amD amGst d) cdX12_orders) 4 (x := if (0 : Int) ≤ l5 ∧ l5 < 8 then .inl (45, [vR 12 12 0, vI l1, vI l2, vI l3, vI l4, vI l5, u6], [vI (M 162 0 (l5).toNat), vR 12 12 0], M) else amNo) rfl).trans (amK_if ?_ rfl)
    refine (amRun_t (f := amStep amGst (amD amGst d) cdX12_orders) 0 (x := amPu 1 (amD amGst d 195 [vR 12 12 0, vI (M 162 0 (l5).toNat)] M) (fun z9 M9 => .inl (48, [vR 12 12 0, vI l1, vI l2, vI l3, vI l4, vI l5, u6], z9 ++ [], M9))) rfl).trans (amK_pI fun v1 M1 => ?_)
    refine (amRun_t (f := amStep amGst (amD amGst d) cdX12_orders) 2 (x := if v1 = 0 then .inl (55, [vR 12 12 0, vI l1, vI l2, vI l3, vI l4, vI l5, vI v1], [], M1) else .inl (58, [vR 12 12 0, vI l1, vI l2, vI l3, vI l4, vI l5, vI v1], [], M1)) rfl).trans (amK_if ?_ ?_)
    · refine (amRun_t (f := amStep amGst (amD amGst d) cdX12_orders) 3 (x := if v1 = 2 then .inl (64, [vR 12 12 0, vI l1, vI l2, vI (w32 (l3 + 1)), vI l4, vI l5, vI v1], [], M1) else .inl (67, [vR 12 12 0, vI l1, vI l2, vI (w32 (l3 + 1)), vI l4, vI l5, vI v1], [], M1)) rfl).trans (amK_if ?_ ?_)
      · exact amRun_b 3 (x := .inl (28, [vR 12 12 0, vI l1, vI l2, vI (w32 (l3 + 1)), vI (w32 (l4 + 1)), vI (w32 (l5 + 1)), vI v1], [], M1)) rfl
      · exact amRun_b 2 (x := .inl (28, [vR 12 12 0, vI l1, vI l2, vI (w32 (l3 + 1)), vI l4, vI (w32 (l5 + 1)), vI v1], [], M1)) rfl
    · refine (amRun_t (f := amStep amGst (amD amGst d) cdX12_orders) 2 (x := if v1 = 2 then .inl (64, [vR 12 12 0, vI l1, vI l2, vI l3, vI l4, vI l5, vI v1], [], M1) else .inl (67, [vR 12 12 0, vI l1, vI l2, vI l3, vI l4, vI l5, vI v1], [], M1)) rfl).trans (amK_if ?_ ?_)
      · exact amRun_b 3 (x := .inl (28, [vR 12 12 0, vI l1, vI l2, vI l3, vI (w32 (l4 + 1)), vI (w32 (l5 + 1)), vI v1], [], M1)) rfl
      · exact amRun_b 2 (x := .inl (28, [vR 12 12 0, vI l1, vI l2, vI l3, vI l4, vI (w32 (l5 + 1)), vI v1], [], M1)) rfl
  · refine (amRun_t (f := amStep amGst (amD amGst d) cdX12_orders) 3 (x := if M 12 0 58 < l3 then .inl (98, [vR 12 12 0, vI l1, vI l2, vI l3, vI l4, vI l5, u6], [], M) else .inl (81, [vR 12 12 0, vI l1, vI l2, vI l3, vI l4, vI l5, u6], [], M)) rfl).trans (amK_if ?_ ?_)
    · exact amRun_b 8 (x := .inl (112, [vR 12 12 0, vI l1, vI l2, vI l3, vI l4, vI 0, u6], [], amUp (amUp M 12 0 58 l3) 12 0 59 l4)) rfl
    · refine (amRun_t (f := amStep amGst (amD amGst d) cdX12_orders) 3 (x := if l3 = M 12 0 58 then .inl (89, [vR 12 12 0, vI l1, vI l2, vI l3, vI l4, vI l5, u6], [], M) else .inl (141, [vR 12 12 0, vI l1, vI l2, vI l3, vI l4, vI l5, u6], [], M)) rfl).trans (amK_if ?_ ?_)
      · refine (amRun_t (f := amStep amGst (amD amGst d) cdX12_orders) 3 (x := if l4 < M 12 0 59 then .inl (98, [vR 12 12 0, vI l1, vI l2, vI l3, vI l4, vI l5, u6], [], M) else .inl (141, [vR 12 12 0, vI l1, vI l2, vI l3, vI l4, vI l5, u6], [], M)) rfl).trans (amK_if ?_ ?_)
        · exact amRun_b 8 (x := .inl (112, [vR 12 12 0, vI l1, vI l2, vI l3, vI l4, vI 0, u6], [], amUp (amUp M 12 0 58 l3) 12 0 59 l4)) rfl
        · refine (amRun_t (f := amStep amGst (amD amGst d) cdX12_orders) 1 (x := amPu 1 (amD amGst d 210 [vR 12 12 0] M) (fun z9 M9 => .inl (145, [vR 12 12 0, vI l1, vI l2, vI l3, vI l4, vI l5, u6], z9 ++ [], M9))) rfl).trans (amK_pI fun v2 M2 => ?_)
          exact amRun_b 2 (x := .inl (12, [vR 12 12 0, vI l1, vI v2, vI l3, vI l4, vI l5, u6], [], M2)) rfl
      · refine (amRun_t (f := amStep amGst (amD amGst d) cdX12_orders) 1 (x := amPu 1 (amD amGst d 210 [vR 12 12 0] M) (fun z9 M9 => .inl (145, [vR 12 12 0, vI l1, vI l2, vI l3, vI l4, vI l5, u6], z9 ++ [], M9))) rfl).trans (amK_pI fun v3 M3 => ?_)
        exact amRun_b 2 (x := .inl (12, [vR 12 12 0, vI l1, vI v3, vI l3, vI l4, vI l5, u6], [], M3)) rfl
theorem q_X12_orders_112 (d : Nat) (l1 : Int) (l2 : Int) (l3 : Int) (l4 : Int) (l5 : Int) (u6 : AmV) (M : AmM) : e_X12_orders_112 d l1 l2 l3 l4 l5 u6 M =
    if l5 < M 12 0 55 then (if (0 : Int) ≤ l5 ∧ l5 < 8 then (if (0 : Int) ≤ l5 ∧ l5 < 8 then (e_X12_orders_112 d l1 l2 l3 l4 (w32 (l5 + 1)) u6 (amUp M 163 0 (l5).toNat (M 162 0 (l5).toNat))) else none) else none) else (amCI (amD amGst d 210 [vR 12 12 0] M) fun v1 M1 => e_X12_orders_12 d l1 v1 (vI l3) (vI l4) (vI l5) u6 M1) := by
  show amRun _ _ = _
  refine (amRun_t (f := amStep amGst (amD amGst d) cdX12_orders) 3 (x := if l5 < M 12 0 55 then .inl (121, [vR 12 12 0, vI l1, vI l2, vI l3, vI l4, vI l5, u6], [], M) else .inl (141, [vR 12 12 0, vI l1, vI l2, vI l3, vI l4, vI l5, u6], [], M)) rfl).trans (amK_if ?_ ?_)
  · refine (amRun_t (f := amStep amGst (amD amGst d) cdX12_orders) 6 (x := if (0 : Int) ≤ l5 ∧ l5 < 8 then .inl (134, [vR 12 12 0, vI l1, vI l2, vI l3, vI l4, vI l5, u6], [vI (M 162 0 (l5).toNat), vI l5, vR 20 163 0], M) else amNo) rfl).trans (amK_if ?_ rfl)
    refine (amRun_t (f := amStep amGst (amD amGst d) cdX12_orders) 0 (x := if (0 : Int) ≤ l5 ∧ l5 < 8 then .inl (135, [vR 12 12 0, vI l1, vI l2, vI l3, vI l4, vI l5, u6], [], amUp M 163 0 (l5).toNat (M 162 0 (l5).toNat)) else amNo) rfl).trans (amK_if ?_ rfl)
    exact amRun_b 2 (x := .inl (112, [vR 12 12 0, vI l1, vI l2, vI l3, vI l4, vI (w32 (l5 + 1)), u6], [], amUp M 163 0 (l5).toNat (M 162 0 (l5).toNat))) rfl
  · refine (amRun_t (f := amStep amGst (amD amGst d) cdX12_orders) 1 (x := amPu 1 (amD amGst d 210 [vR 12 12 0] M) (fun z9 M9 => .inl (145, [vR 12 12 0, vI l1, vI l2, vI l3, vI l4, vI l5, u6], z9 ++ [], M9))) rfl).trans (amK_pI fun v1 M1 => ?_)
    exact amRun_b 2 (x := .inl (12, [vR 12 12 0, vI l1, vI v1, vI l3, vI l4, vI l5, u6], [], M1)) rfl
theorem n_X12_orders (d : Nat) (l1 : Int) (M : AmM) : amD amGst (d + 1) 211 [vR 12 12 0, vI l1] M = e_X12_orders_0 d l1 M := rfl
noncomputable def e_X12_order_0 (d : Nat) (l1 : Int) (l2 : Int) (M : AmM) : Option (AmV × AmM) := amRun (amStep amGst (amD amGst d) cdX12_order) (0, [vR 12 12 0, vI l1, vI l2], [], M)
theorem q_X12_order_0 (d : Nat) (l1 : Int) (l2 : Int) (M : AmM) : e_X12_order_0 d l1 l2 M =
    amCI (amD amGst d 208 [vR 12 12 0, vI l1] M) fun v1 M1 => if v1 = 0 then (some (vI (-1), M1)) else (amCI (amD amGst d 179 [vI l2, vI 0, vI 1] M1) fun v2 M2 => if v2 = 0 then (some (vI (-1), M2)) else (amCI (amD amGst d 207 [vI l1] M2) fun v3 M3 => if 7 < v3 then (some (vI (-2), M3)) else (amCV (amD amGst d 211 [vR 12 12 0, vI l1] M3) fun M4 => if l2 = 0 then (some (vI (M4 12 0 58), M4)) else (some (vI (M4 12 0 59), M4))))) := by
  show amRun _ _ = _
  refine (amRun_t (f := amStep amGst (amD amGst d) cdX12_order) 2 (x := amPu 1 (amD amGst d 208 [vR 12 12 0, vI l1] M) (fun z9 M9 => .inl (5, [vR 12 12 0, vI l1, vI l2], z9 ++ [], M9))) rfl).trans (amK_pI fun v1 M1 => ?_)
  refine (amRun_t (f := amStep amGst (amD amGst d) cdX12_order) 0 (x := if v1 = 0 then .inl (17, [vR 12 12 0, vI l1, vI l2], [], M1) else .inl (8, [vR 12 12 0, vI l1, vI l2], [], M1)) rfl).trans (amK_if ?_ ?_)
  · exact amRun_b 2 (x := .inr (some (vI (-1), M1))) rfl
  · refine (amRun_t (f := amStep amGst (amD amGst d) cdX12_order) 3 (x := amPu 1 (amD amGst d 179 [vI l2, vI 0, vI 1] M1) (fun z9 M9 => .inl (14, [vR 12 12 0, vI l1, vI l2], z9 ++ [], M9))) rfl).trans (amK_pI fun v2 M2 => ?_)
    refine (amRun_t (f := amStep amGst (amD amGst d) cdX12_order) 0 (x := if v2 = 0 then .inl (17, [vR 12 12 0, vI l1, vI l2], [], M2) else .inl (19, [vR 12 12 0, vI l1, vI l2], [], M2)) rfl).trans (amK_if ?_ ?_)
    · exact amRun_b 2 (x := .inr (some (vI (-1), M2))) rfl
    · refine (amRun_t (f := amStep amGst (amD amGst d) cdX12_order) 1 (x := amPu 1 (amD amGst d 207 [vI l1] M2) (fun z9 M9 => .inl (23, [vR 12 12 0, vI l1, vI l2], z9 ++ [], M9))) rfl).trans (amK_pI fun v3 M3 => ?_)
      refine (amRun_t (f := amStep amGst (amD amGst d) cdX12_order) 1 (x := if 7 < v3 then .inl (28, [vR 12 12 0, vI l1, vI l2], [], M3) else .inl (31, [vR 12 12 0, vI l1, vI l2], [], M3)) rfl).trans (amK_if ?_ ?_)
      · exact amRun_b 2 (x := .inr (some (vI (-2), M3))) rfl
      · refine (amRun_t (f := amStep amGst (amD amGst d) cdX12_order) 2 (x := amPu 0 (amD amGst d 211 [vR 12 12 0, vI l1] M3) (fun z9 M9 => .inl (36, [vR 12 12 0, vI l1, vI l2], z9 ++ [], M9))) rfl).trans (amK_pV fun M4 => ?_)
        refine (amRun_t (f := amStep amGst (amD amGst d) cdX12_order) 1 (x := if l2 = 0 then .inl (40, [vR 12 12 0, vI l1, vI l2], [], M4) else .inl (47, [vR 12 12 0, vI l1, vI l2], [], M4)) rfl).trans (amK_if ?_ ?_)
        · exact amRun_b 4 (x := .inr (some (vI (M4 12 0 58), M4))) rfl
        · exact amRun_b 3 (x := .inr (some (vI (M4 12 0 59), M4))) rfl
theorem n_X12_order (d : Nat) (l1 : Int) (l2 : Int) (M : AmM) : amD amGst (d + 1) 212 [vR 12 12 0, vI l1, vI l2] M = e_X12_order_0 d l1 l2 M := rfl
noncomputable def e_X12_orderAt_0 (d : Nat) (l1 : Int) (l2 : Int) (M : AmM) : Option (AmV × AmM) := amRun (amStep amGst (amD amGst d) cdX12_orderAt) (0, [vR 12 12 0, vI l1, vI l2], [], M)
theorem q_X12_orderAt_0 (d : Nat) (l1 : Int) (l2 : Int) (M : AmM) : e_X12_orderAt_0 d l1 l2 M =
    amCI (amD amGst d 208 [vR 12 12 0, vI l1] M) fun v1 M1 => if v1 = 0 then (some (vI (-1), M1)) else (if l2 < 0 then (some (vI (-1), M1)) else (amCI (amD amGst d 207 [vI l1] M1) fun v2 M2 => if l2 < v2 then (amCI (amD amGst d 207 [vI l1] M2) fun v3 M3 => if 7 < v3 then (some (vI (-2), M3)) else (amCV (amD amGst d 211 [vR 12 12 0, vI l1] M3) fun M4 => if (0 : Int) ≤ l2 ∧ l2 < 8 then (some (vI (M4 163 0 (l2).toNat), M4)) else none)) else (some (vI (-1), M2)))) := by
  show amRun _ _ = _
  refine (amRun_t (f := amStep amGst (amD amGst d) cdX12_orderAt) 2 (x := amPu 1 (amD amGst d 208 [vR 12 12 0, vI l1] M) (fun z9 M9 => .inl (5, [vR 12 12 0, vI l1, vI l2], z9 ++ [], M9))) rfl).trans (amK_pI fun v1 M1 => ?_)
  refine (amRun_t (f := amStep amGst (amD amGst d) cdX12_orderAt) 0 (x := if v1 = 0 then .inl (20, [vR 12 12 0, vI l1, vI l2], [], M1) else .inl (8, [vR 12 12 0, vI l1, vI l2], [], M1)) rfl).trans (amK_if ?_ ?_)
  · exact amRun_b 2 (x := .inr (some (vI (-1), M1))) rfl
  · refine (amRun_t (f := amStep amGst (amD amGst d) cdX12_orderAt) 1 (x := if l2 < 0 then .inl (20, [vR 12 12 0, vI l1, vI l2], [], M1) else .inl (12, [vR 12 12 0, vI l1, vI l2], [], M1)) rfl).trans (amK_if ?_ ?_)
    · exact amRun_b 2 (x := .inr (some (vI (-1), M1))) rfl
    · refine (amRun_t (f := amStep amGst (amD amGst d) cdX12_orderAt) 2 (x := amPu 1 (amD amGst d 207 [vI l1] M1) (fun z9 M9 => .inl (17, [vR 12 12 0, vI l1, vI l2], z9 ++ [vI l2], M9))) rfl).trans (amK_pI fun v2 M2 => ?_)
      refine (amRun_t (f := amStep amGst (amD amGst d) cdX12_orderAt) 0 (x := if l2 < v2 then .inl (22, [vR 12 12 0, vI l1, vI l2], [], M2) else .inl (20, [vR 12 12 0, vI l1, vI l2], [], M2)) rfl).trans (amK_if ?_ ?_)
      · refine (amRun_t (f := amStep amGst (amD amGst d) cdX12_orderAt) 1 (x := amPu 1 (amD amGst d 207 [vI l1] M2) (fun z9 M9 => .inl (26, [vR 12 12 0, vI l1, vI l2], z9 ++ [], M9))) rfl).trans (amK_pI fun v3 M3 => ?_)
        refine (amRun_t (f := amStep amGst (amD amGst d) cdX12_orderAt) 1 (x := if 7 < v3 then .inl (31, [vR 12 12 0, vI l1, vI l2], [], M3) else .inl (34, [vR 12 12 0, vI l1, vI l2], [], M3)) rfl).trans (amK_if ?_ ?_)
        · exact amRun_b 2 (x := .inr (some (vI (-2), M3))) rfl
        · refine (amRun_t (f := amStep amGst (amD amGst d) cdX12_orderAt) 2 (x := amPu 0 (amD amGst d 211 [vR 12 12 0, vI l1] M3) (fun z9 M9 => .inl (39, [vR 12 12 0, vI l1, vI l2], z9 ++ [], M9))) rfl).trans (amK_pV fun M4 => ?_)
          refine (amRun_t (f := amStep amGst (amD amGst d) cdX12_orderAt) 3 (x := if (0 : Int) ≤ l2 ∧ l2 < 8 then .inl (45, [vR 12 12 0, vI l1, vI l2], [vI (M4 163 0 (l2).toNat)], M4) else amNo) rfl).trans (amK_if ?_ rfl)
          exact amRun_b 1 (x := .inr (some (vI (M4 163 0 (l2).toNat), M4))) rfl
      · exact amRun_b 2 (x := .inr (some (vI (-1), M2))) rfl
theorem n_X12_orderAt (d : Nat) (l1 : Int) (l2 : Int) (M : AmM) : amD amGst (d + 1) 213 [vR 12 12 0, vI l1, vI l2] M = e_X12_orderAt_0 d l1 l2 M := rfl
noncomputable def e_X12_behind_0 (d : Nat) (l1 : Int) (l2 : Int) (l3 : Int) (l4 : Int) (l5 : Int) (M : AmM) : Option (AmV × AmM) := amRun (amStep amGst (amD amGst d) cdX12_behind) (0, [vR 12 12 0, vI l1, vI l2, vI l3, vI l4, vI l5, vU, vU, vU], [], M)
noncomputable def e_X12_behind_13 (d : Nat) (l1 : Int) (l2 : Int) (l3 : Int) (l4 : Int) (l5 : Int) (l6 : Int) (l7 : Int) (u8 : AmV) (M : AmM) : Option (AmV × AmM) := amRun (amStep amGst (amD amGst d) cdX12_behind) (13, [vR 12 12 0, vI l1, vI l2, vI l3, vI l4, vI l5, vI l6, vI l7, u8], [], M)
theorem q_X12_behind_0 (d : Nat) (l1 : Int) (l2 : Int) (l3 : Int) (l4 : Int) (l5 : Int) (M : AmM) : e_X12_behind_0 d l1 l2 l3 l4 l5 M =
    if l3 < 1 then (some (vI (-1), M)) else (e_X12_behind_13 d l1 l2 l3 l4 l5 l3 0 vU M) := by
  show amRun _ _ = _
  refine (amRun_t (f := amStep amGst (amD amGst d) cdX12_behind) 2 (x := if l3 < 1 then .inl (5, [vR 12 12 0, vI l1, vI l2, vI l3, vI l4, vI l5, vU, vU, vU], [], M) else .inl (7, [vR 12 12 0, vI l1, vI l2, vI l3, vI l4, vI l5, vU, vU, vU], [], M)) rfl).trans (amK_if ?_ ?_)
  · exact amRun_b 2 (x := .inr (some (vI (-1), M))) rfl
  · exact amRun_b 4 (x := .inl (13, [vR 12 12 0, vI l1, vI l2, vI l3, vI l4, vI l5, vI l3, vI 0, vU], [], M)) rfl
theorem q_X12_behind_13 (d : Nat) (l1 : Int) (l2 : Int) (l3 : Int) (l4 : Int) (l5 : Int) (l6 : Int) (l7 : Int) (u8 : AmV) (M : AmM) : e_X12_behind_13 d l1 l2 l3 l4 l5 l6 l7 u8 M =
    amCI (amD amGst d 184 [vR 12 12 0, vI l1] M) fun v1 M1 => if v1 = 1 then (if l7 < 2 then (amCI (amD amGst d 184 [vR 12 12 0, vI l1] M1) fun v2 M2 => if (0 : Int) ≤ w32 ((w32 (8 * (M2 12 0 18))) + l1) ∧ w32 ((w32 (8 * (M2 12 0 18))) + l1) < 16 then (amCI (amD amGst d 188 [vR 12 12 0, vI v2, vI (M2 144 0 (w32 ((w32 (8 * (M2 12 0 18))) + l1)).toNat), vI l2, vI l6, vI l4, vI l5] M2) fun v3 M3 => if l6 < v3 then (some (vI (-1), M3)) else (e_X12_behind_13 d l1 l2 l3 l4 l5 (w32 (l6 - v3)) (w32 (l7 + 1)) (vI v3) M3)) else none) else (some (vI l6, M1))) else (if l7 < 1 then (amCI (amD amGst d 184 [vR 12 12 0, vI l1] M1) fun v4 M4 => if (0 : Int) ≤ w32 ((w32 (8 * (M4 12 0 18))) + l1) ∧ w32 ((w32 (8 * (M4 12 0 18))) + l1) < 16 then (amCI (amD amGst d 188 [vR 12 12 0, vI v4, vI (M4 144 0 (w32 ((w32 (8 * (M4 12 0 18))) + l1)).toNat), vI l2, vI l6, vI l4, vI l5] M4) fun v5 M5 => if l6 < v5 then (some (vI (-1), M5)) else (e_X12_behind_13 d l1 l2 l3 l4 l5 (w32 (l6 - v5)) (w32 (l7 + 1)) (vI v5) M5)) else none) else (some (vI l6, M1))) := by
  show amRun _ _ = _
  refine (amRun_t (f := amStep amGst (amD amGst d) cdX12_behind) 3 (x := amPu 1 (amD amGst d 184 [vR 12 12 0, vI l1] M) (fun z9 M9 => .inl (20, [vR 12 12 0, vI l1, vI l2, vI l3, vI l4, vI l5, vI l6, vI l7, u8], z9 ++ [vI l7], M9))) rfl).trans (amK_pI fun v1 M1 => ?_)
  refine (amRun_t (f := amStep amGst (amD amGst d) cdX12_behind) 1 (x := if v1 = 1 then .inl (24, [vR 12 12 0, vI l1, vI l2, vI l3, vI l4, vI l5, vI l6, vI l7, u8], [vI l7], M1) else .inl (28, [vR 12 12 0, vI l1, vI l2, vI l3, vI l4, vI l5, vI l6, vI l7, u8], [vI l7], M1)) rfl).trans (amK_if ?_ ?_)
  · refine (amRun_t (f := amStep amGst (amD amGst d) cdX12_behind) 2 (x := if l7 < 2 then .inl (32, [vR 12 12 0, vI l1, vI l2, vI l3, vI l4, vI l5, vI l6, vI l7, u8], [], M1) else .inl (86, [vR 12 12 0, vI l1, vI l2, vI l3, vI l4, vI l5, vI l6, vI l7, u8], [], M1)) rfl).trans (amK_if ?_ ?_)
    · refine (amRun_t (f := amStep amGst (amD amGst d) cdX12_behind) 3 (x := amPu 1 (amD amGst d 184 [vR 12 12 0, vI l1] M1) (fun z9 M9 => .inl (38, [vR 12 12 0, vI l1, vI l2, vI l3, vI l4, vI l5, vI l6, vI l7, u8], z9 ++ [vR 12 12 0], M9))) rfl).trans (amK_pI fun v2 M2 => ?_)
      refine (amRun_t (f := amStep amGst (amD amGst d) cdX12_behind) 8 (x := if (0 : Int) ≤ w32 ((w32 (8 * (M2 12 0 18))) + l1) ∧ w32 ((w32 (8 * (M2 12 0 18))) + l1) < 16 then .inl (52, [vR 12 12 0, vI l1, vI l2, vI l3, vI l4, vI l5, vI l6, vI l7, u8], [vI (M2 144 0 (w32 ((w32 (8 * (M2 12 0 18))) + l1)).toNat), vI v2, vR 12 12 0], M2) else amNo) rfl).trans (amK_if ?_ rfl)
      refine (amRun_t (f := amStep amGst (amD amGst d) cdX12_behind) 4 (x := amPu 1 (amD amGst d 188 [vR 12 12 0, vI v2, vI (M2 144 0 (w32 ((w32 (8 * (M2 12 0 18))) + l1)).toNat), vI l2, vI l6, vI l4, vI l5] M2) (fun z9 M9 => .inl (62, [vR 12 12 0, vI l1, vI l2, vI l3, vI l4, vI l5, vI l6, vI l7, u8], z9 ++ [], M9))) rfl).trans (amK_pI fun v3 M3 => ?_)
      refine (amRun_t (f := amStep amGst (amD amGst d) cdX12_behind) 3 (x := if l6 < v3 then .inl (71, [vR 12 12 0, vI l1, vI l2, vI l3, vI l4, vI l5, vI l6, vI l7, vI v3], [], M3) else .inl (73, [vR 12 12 0, vI l1, vI l2, vI l3, vI l4, vI l5, vI l6, vI l7, vI v3], [], M3)) rfl).trans (amK_if ?_ ?_)
      · exact amRun_b 2 (x := .inr (some (vI (-1), M3))) rfl
      · exact amRun_b 6 (x := .inl (13, [vR 12 12 0, vI l1, vI l2, vI l3, vI l4, vI l5, vI (w32 (l6 - v3)), vI (w32 (l7 + 1)), vI v3], [], M3)) rfl
    · exact amRun_b 2 (x := .inr (some (vI l6, M1))) rfl
  · refine (amRun_t (f := amStep amGst (amD amGst d) cdX12_behind) 1 (x := if l7 < 1 then .inl (32, [vR 12 12 0, vI l1, vI l2, vI l3, vI l4, vI l5, vI l6, vI l7, u8], [], M1) else .inl (86, [vR 12 12 0, vI l1, vI l2, vI l3, vI l4, vI l5, vI l6, vI l7, u8], [], M1)) rfl).trans (amK_if ?_ ?_)
    · refine (amRun_t (f := amStep amGst (amD amGst d) cdX12_behind) 3 (x := amPu 1 (amD amGst d 184 [vR 12 12 0, vI l1] M1) (fun z9 M9 => .inl (38, [vR 12 12 0, vI l1, vI l2, vI l3, vI l4, vI l5, vI l6, vI l7, u8], z9 ++ [vR 12 12 0], M9))) rfl).trans (amK_pI fun v4 M4 => ?_)
      refine (amRun_t (f := amStep amGst (amD amGst d) cdX12_behind) 8 (x := if (0 : Int) ≤ w32 ((w32 (8 * (M4 12 0 18))) + l1) ∧ w32 ((w32 (8 * (M4 12 0 18))) + l1) < 16 then .inl (52, [vR 12 12 0, vI l1, vI l2, vI l3, vI l4, vI l5, vI l6, vI l7, u8], [vI (M4 144 0 (w32 ((w32 (8 * (M4 12 0 18))) + l1)).toNat), vI v4, vR 12 12 0], M4) else amNo) rfl).trans (amK_if ?_ rfl)
      refine (amRun_t (f := amStep amGst (amD amGst d) cdX12_behind) 4 (x := amPu 1 (amD amGst d 188 [vR 12 12 0, vI v4, vI (M4 144 0 (w32 ((w32 (8 * (M4 12 0 18))) + l1)).toNat), vI l2, vI l6, vI l4, vI l5] M4) (fun z9 M9 => .inl (62, [vR 12 12 0, vI l1, vI l2, vI l3, vI l4, vI l5, vI l6, vI l7, u8], z9 ++ [], M9))) rfl).trans (amK_pI fun v5 M5 => ?_)
      refine (amRun_t (f := amStep amGst (amD amGst d) cdX12_behind) 3 (x := if l6 < v5 then .inl (71, [vR 12 12 0, vI l1, vI l2, vI l3, vI l4, vI l5, vI l6, vI l7, vI v5], [], M5) else .inl (73, [vR 12 12 0, vI l1, vI l2, vI l3, vI l4, vI l5, vI l6, vI l7, vI v5], [], M5)) rfl).trans (amK_if ?_ ?_)
      · exact amRun_b 2 (x := .inr (some (vI (-1), M5))) rfl
      · exact amRun_b 6 (x := .inl (13, [vR 12 12 0, vI l1, vI l2, vI l3, vI l4, vI l5, vI (w32 (l6 - v5)), vI (w32 (l7 + 1)), vI v5], [], M5)) rfl
    · exact amRun_b 2 (x := .inr (some (vI l6, M1))) rfl
theorem n_X12_behind (d : Nat) (l1 : Int) (l2 : Int) (l3 : Int) (l4 : Int) (l5 : Int) (M : AmM) : amD amGst (d + 1) 214 [vR 12 12 0, vI l1, vI l2, vI l3, vI l4, vI l5] M = e_X12_behind_0 d l1 l2 l3 l4 l5 M := rfl
noncomputable def e_X12_treads_0 (d : Nat) (l1 : Int) (l2 : Int) (l3 : Int) (M : AmM) : Option (AmV × AmM) := amRun (amStep amGst (amD amGst d) cdX12_treads) (0, [vR 12 12 0, vI l1, vI l2, vI l3], [], M)
noncomputable def e_X12_treads_15 (d : Nat) (l1 : Int) (l2 : Int) (l3 : Int) (M : AmM) : Option (AmV × AmM) := amRun (amStep amGst (amD amGst d) cdX12_treads) (15, [vR 12 12 0, vI l1, vI l2, vI l3], [], M)
theorem q_X12_treads_0 (d : Nat) (l1 : Int) (l2 : Int) (l3 : Int) (M : AmM) : e_X12_treads_0 d l1 l2 l3 M =
    if l3 = 0 then (amCI (amD amGst d 184 [vR 12 12 0, vI l1] M) fun v1 M1 => if v1 = 3 then (some (vI 0, M1)) else (e_X12_treads_15 d l1 l2 l3 M1)) else (e_X12_treads_15 d l1 l2 l3 M) := by
  show amRun _ _ = _
  refine (amRun_t (f := amStep amGst (amD amGst d) cdX12_treads) 1 (x := if l3 = 0 then .inl (4, [vR 12 12 0, vI l1, vI l2, vI l3], [], M) else .inl (15, [vR 12 12 0, vI l1, vI l2, vI l3], [], M)) rfl).trans (amK_if ?_ ?_)
  · refine (amRun_t (f := amStep amGst (amD amGst d) cdX12_treads) 2 (x := amPu 1 (amD amGst d 184 [vR 12 12 0, vI l1] M) (fun z9 M9 => .inl (9, [vR 12 12 0, vI l1, vI l2, vI l3], z9 ++ [], M9))) rfl).trans (amK_pI fun v1 M1 => ?_)
    refine (amRun_t (f := amStep amGst (amD amGst d) cdX12_treads) 1 (x := if v1 = 3 then .inl (13, [vR 12 12 0, vI l1, vI l2, vI l3], [], M1) else .inl (15, [vR 12 12 0, vI l1, vI l2, vI l3], [], M1)) rfl).trans (amK_if ?_ ?_)
    · exact amRun_b 2 (x := .inr (some (vI 0, M1))) rfl
    · exact amRun_b 0 (x := .inl (15, [vR 12 12 0, vI l1, vI l2, vI l3], [], M1)) rfl
  · exact amRun_b 0 (x := .inl (15, [vR 12 12 0, vI l1, vI l2, vI l3], [], M)) rfl
theorem q_X12_treads_15 (d : Nat) (l1 : Int) (l2 : Int) (l3 : Int) (M : AmM) : e_X12_treads_15 d l1 l2 l3 M =
    amCI (amD amGst d 184 [vR 12 12 0, vI l1] M) fun v1 M1 => if v1 = 2 then (if l3 = 0 then (amCI (amD amGst d 180 [vR 12 12 0] M1) fun v2 M2 => if (2 : Int) = 0 then none else (if Int.tmod (w32 (v2 - l2)) 2 = 0 then (some (vI 1, M2)) else (some (vI 0, M2)))) else (if (2 : Int) = 0 then none else (if Int.tmod l2 2 = 0 then (some (vI 1, M1)) else (some (vI 0, M1))))) else (some (vI 1, M1)) := by
  show amRun _ _ = _
  refine (amRun_t (f := amStep amGst (amD amGst d) cdX12_treads) 2 (x := amPu 1 (amD amGst d 184 [vR 12 12 0, vI l1] M) (fun z9 M9 => .inl (20, [vR 12 12 0, vI l1, vI l2, vI l3], z9 ++ [], M9))) rfl).trans (amK_pI fun v1 M1 => ?_)
  refine (amRun_t (f := amStep amGst (amD amGst d) cdX12_treads) 1 (x := if v1 = 2 then .inl (26, [vR 12 12 0, vI l1, vI l2, vI l3], [], M1) else .inl (24, [vR 12 12 0, vI l1, vI l2, vI l3], [], M1)) rfl).trans (amK_if ?_ ?_)
  · refine (amRun_t (f := amStep amGst (amD amGst d) cdX12_treads) 1 (x := if l3 = 0 then .inl (44, [vR 12 12 0, vI l1, vI l2, vI l3], [], M1) else .inl (30, [vR 12 12 0, vI l1, vI l2, vI l3], [], M1)) rfl).trans (amK_if ?_ ?_)
    · refine (amRun_t (f := amStep amGst (amD amGst d) cdX12_treads) 1 (x := amPu 1 (amD amGst d 180 [vR 12 12 0] M1) (fun z9 M9 => .inl (48, [vR 12 12 0, vI l1, vI l2, vI l3], z9 ++ [], M9))) rfl).trans (amK_pI fun v2 M2 => ?_)
      refine (amRun_t (f := amStep amGst (amD amGst d) cdX12_treads) 3 (x := if (2 : Int) = 0 then amNo else .inl (52, [vR 12 12 0, vI l1, vI l2, vI l3], [vI (Int.tmod (w32 (v2 - l2)) 2)], M2)) rfl).trans (amK_if rfl ?_)
      refine (amRun_t (f := amStep amGst (amD amGst d) cdX12_treads) 0 (x := if Int.tmod (w32 (v2 - l2)) 2 = 0 then .inl (55, [vR 12 12 0, vI l1, vI l2, vI l3], [], M2) else .inl (59, [vR 12 12 0, vI l1, vI l2, vI l3], [], M2)) rfl).trans (amK_if ?_ ?_)
      · exact amRun_b 3 (x := .inr (some (vI 1, M2))) rfl
      · exact amRun_b 2 (x := .inr (some (vI 0, M2))) rfl
    · refine (amRun_t (f := amStep amGst (amD amGst d) cdX12_treads) 2 (x := if (2 : Int) = 0 then amNo else .inl (33, [vR 12 12 0, vI l1, vI l2, vI l3], [vI (Int.tmod l2 2)], M1)) rfl).trans (amK_if rfl ?_)
      refine (amRun_t (f := amStep amGst (amD amGst d) cdX12_treads) 0 (x := if Int.tmod l2 2 = 0 then .inl (36, [vR 12 12 0, vI l1, vI l2, vI l3], [], M1) else .inl (40, [vR 12 12 0, vI l1, vI l2, vI l3], [], M1)) rfl).trans (amK_if ?_ ?_)
      · exact amRun_b 3 (x := .inr (some (vI 1, M1))) rfl
      · exact amRun_b 3 (x := .inr (some (vI 0, M1))) rfl
  · exact amRun_b 2 (x := .inr (some (vI 1, M1))) rfl
theorem n_X12_treads (d : Nat) (l1 : Int) (l2 : Int) (l3 : Int) (M : AmM) : amD amGst (d + 1) 215 [vR 12 12 0, vI l1, vI l2, vI l3] M = e_X12_treads_0 d l1 l2 l3 M := rfl
noncomputable def e_X12_isTrodden_0 (d : Nat) (l1 : Int) (l2 : Int) (M : AmM) : Option (AmV × AmM) := amRun (amStep amGst (amD amGst d) cdX12_isTrodden) (0, [vR 12 12 0, vI l1, vI l2, vU], [], M)
noncomputable def e_X12_isTrodden_2 (d : Nat) (l1 : Int) (l2 : Int) (l3 : Int) (M : AmM) : Option (AmV × AmM) := amRun (amStep amGst (amD amGst d) cdX12_isTrodden) (2, [vR 12 12 0, vI l1, vI l2, vI l3], [], M)
theorem q_X12_isTrodden_0 (d : Nat) (l1 : Int) (l2 : Int) (M : AmM) : e_X12_isTrodden_0 d l1 l2 M =
    e_X12_isTrodden_2 d l1 l2 0 M := by
  show amRun _ _ = _
  exact amRun_b 2 (x := .inl (2, [vR 12 12 0, vI l1, vI l2, vI 0], [], M)) rfl
theorem q_X12_isTrodden_2 (d : Nat) (l1 : Int) (l2 : Int) (l3 : Int) (M : AmM) : e_X12_isTrodden_2 d l1 l2 l3 M =
    amCI (amD amGst d 181 [vR 12 12 0] M) fun v1 M1 => if l3 < v1 then (if bAnd (bShr l1 l3) 1 = 1 then (amCI (amD amGst d 215 [vR 12 12 0, vI l3, vI l2, vI 1] M1) fun v2 M2 => if v2 = 0 then (amCI (amD amGst d 215 [vR 12 12 0, vI l3, vI l2, vI 0] M2) fun v3 M3 => if v3 = 0 then (e_X12_isTrodden_2 d l1 l2 (w32 (l3 + 1)) M3) else (some (vI 1, M3))) else (some (vI 1, M2))) else (e_X12_isTrodden_2 d l1 l2 (w32 (l3 + 1)) M1)) else (some (vI 0, M1)) := by
  show amRun _ _ = _
  refine (amRun_t (f := amStep amGst (amD amGst d) cdX12_isTrodden) 2 (x := amPu 1 (amD amGst d 181 [vR 12 12 0] M) (fun z9 M9 => .inl (7, [vR 12 12 0, vI l1, vI l2, vI l3], z9 ++ [vI l3], M9))) rfl).trans (amK_pI fun v1 M1 => ?_)
  refine (amRun_t (f := amStep amGst (amD amGst d) cdX12_isTrodden) 0 (x := if l3 < v1 then .inl (10, [vR 12 12 0, vI l1, vI l2, vI l3], [], M1) else .inl (47, [vR 12 12 0, vI l1, vI l2, vI l3], [], M1)) rfl).trans (amK_if ?_ ?_)
  · refine (amRun_t (f := amStep amGst (amD amGst d) cdX12_isTrodden) 6 (x := if bAnd (bShr l1 l3) 1 = 1 then .inl (19, [vR 12 12 0, vI l1, vI l2, vI l3], [], M1) else .inl (41, [vR 12 12 0, vI l1, vI l2, vI l3], [], M1)) rfl).trans (amK_if ?_ ?_)
    · refine (amRun_t (f := amStep amGst (amD amGst d) cdX12_isTrodden) 4 (x := amPu 1 (amD amGst d 215 [vR 12 12 0, vI l3, vI l2, vI 1] M1) (fun z9 M9 => .inl (26, [vR 12 12 0, vI l1, vI l2, vI l3], z9 ++ [], M9))) rfl).trans (amK_pI fun v2 M2 => ?_)
      refine (amRun_t (f := amStep amGst (amD amGst d) cdX12_isTrodden) 0 (x := if v2 = 0 then .inl (29, [vR 12 12 0, vI l1, vI l2, vI l3], [], M2) else .inl (39, [vR 12 12 0, vI l1, vI l2, vI l3], [], M2)) rfl).trans (amK_if ?_ ?_)
      · refine (amRun_t (f := amStep amGst (amD amGst d) cdX12_isTrodden) 4 (x := amPu 1 (amD amGst d 215 [vR 12 12 0, vI l3, vI l2, vI 0] M2) (fun z9 M9 => .inl (36, [vR 12 12 0, vI l1, vI l2, vI l3], z9 ++ [], M9))) rfl).trans (amK_pI fun v3 M3 => ?_)
        refine (amRun_t (f := amStep amGst (amD amGst d) cdX12_isTrodden) 0 (x := if v3 = 0 then .inl (41, [vR 12 12 0, vI l1, vI l2, vI l3], [], M3) else .inl (39, [vR 12 12 0, vI l1, vI l2, vI l3], [], M3)) rfl).trans (amK_if ?_ ?_)
        · exact amRun_b 2 (x := .inl (2, [vR 12 12 0, vI l1, vI l2, vI (w32 (l3 + 1))], [], M3)) rfl
        · exact amRun_b 2 (x := .inr (some (vI 1, M3))) rfl
      · exact amRun_b 2 (x := .inr (some (vI 1, M2))) rfl
    · exact amRun_b 2 (x := .inl (2, [vR 12 12 0, vI l1, vI l2, vI (w32 (l3 + 1))], [], M1)) rfl
  · exact amRun_b 2 (x := .inr (some (vI 0, M1))) rfl
theorem n_X12_isTrodden (d : Nat) (l1 : Int) (l2 : Int) (M : AmM) : amD amGst (d + 1) 216 [vR 12 12 0, vI l1, vI l2] M = e_X12_isTrodden_0 d l1 l2 M := rfl
noncomputable def e_X12_bearsAll_0 (d : Nat) (l1 : Int) (l2 : Int) (l3 : Int) (l4 : Int) (M : AmM) : Option (AmV × AmM) := amRun (amStep amGst (amD amGst d) cdX12_bearsAll) (0, [vR 12 12 0, vI l1, vI l2, vI l3, vI l4, vU, vU], [], M)
noncomputable def e_X12_bearsAll_6 (d : Nat) (l1 : Int) (l2 : Int) (l3 : Int) (l4 : Int) (l5 : Int) (l6 : Int) (M : AmM) : Option (AmV × AmM) := amRun (amStep amGst (amD amGst d) cdX12_bearsAll) (6, [vR 12 12 0, vI l1, vI l2, vI l3, vI l4, vI l5, vI l6], [], M)
noncomputable def e_X12_bearsAll_57 (d : Nat) (l1 : Int) (l2 : Int) (l3 : Int) (l4 : Int) (l5 : Int) (l6 : Int) (M : AmM) : Option (AmV × AmM) := amRun (amStep amGst (amD amGst d) cdX12_bearsAll) (57, [vR 12 12 0, vI l1, vI l2, vI l3, vI l4, vI l5, vI l6], [], M)
theorem q_X12_bearsAll_0 (d : Nat) (l1 : Int) (l2 : Int) (l3 : Int) (l4 : Int) (M : AmM) : e_X12_bearsAll_0 d l1 l2 l3 l4 M =
    e_X12_bearsAll_6 d l1 l2 l3 l4 l3 0 M := by
  show amRun _ _ = _
  exact amRun_b 4 (x := .inl (6, [vR 12 12 0, vI l1, vI l2, vI l3, vI l4, vI l3, vI 0], [], M)) rfl
theorem q_X12_bearsAll_6 (d : Nat) (l1 : Int) (l2 : Int) (l3 : Int) (l4 : Int) (l5 : Int) (l6 : Int) (M : AmM) : e_X12_bearsAll_6 d l1 l2 l3 l4 l5 l6 M =
    amCI (amD amGst d 181 [vR 12 12 0] M) fun v1 M1 => if l6 < v1 then (if l5 < 0 then (if l5 < 0 then (some (vI 0, M1)) else (some (vI 1, M1))) else (if bAnd (bShr l1 l6) 1 = 0 then (e_X12_bearsAll_6 d l1 l2 l3 l4 l5 (w32 (l6 + 1)) M1) else (amCI (amD amGst d 215 [vR 12 12 0, vI l6, vI l2, vI 1] M1) fun v2 M2 => if v2 = 0 then (e_X12_bearsAll_57 d l1 l2 l3 l4 l5 l6 M2) else (amCI (amD amGst d 214 [vR 12 12 0, vI l6, vI l2, vI l5, vI 1, vI l4] M2) fun v3 M3 => e_X12_bearsAll_57 d l1 l2 l3 l4 v3 l6 M3)))) else (if l5 < 0 then (some (vI 0, M1)) else (some (vI 1, M1))) := by
  show amRun _ _ = _
  refine (amRun_t (f := amStep amGst (amD amGst d) cdX12_bearsAll) 2 (x := amPu 1 (amD amGst d 181 [vR 12 12 0] M) (fun z9 M9 => .inl (12, [vR 12 12 0, vI l1, vI l2, vI l3, vI l4, vI l5, vI l6], z9 ++ [vI l6], M9))) rfl).trans (amK_pI fun v1 M1 => ?_)
  refine (amRun_t (f := amStep amGst (amD amGst d) cdX12_bearsAll) 0 (x := if l6 < v1 then .inl (15, [vR 12 12 0, vI l1, vI l2, vI l3, vI l4, vI l5, vI l6], [], M1) else .inl (93, [vR 12 12 0, vI l1, vI l2, vI l3, vI l4, vI l5, vI l6], [], M1)) rfl).trans (amK_if ?_ ?_)
  · refine (amRun_t (f := amStep amGst (amD amGst d) cdX12_bearsAll) 1 (x := if l5 < 0 then .inl (93, [vR 12 12 0, vI l1, vI l2, vI l3, vI l4, vI l5, vI l6], [], M1) else .inl (20, [vR 12 12 0, vI l1, vI l2, vI l3, vI l4, vI l5, vI l6], [], M1)) rfl).trans (amK_if ?_ ?_)
    · refine (amRun_t (f := amStep amGst (amD amGst d) cdX12_bearsAll) 1 (x := if l5 < 0 then .inl (102, [vR 12 12 0, vI l1, vI l2, vI l3, vI l4, vI l5, vI l6], [], M1) else .inl (98, [vR 12 12 0, vI l1, vI l2, vI l3, vI l4, vI l5, vI l6], [], M1)) rfl).trans (amK_if ?_ ?_)
      · exact amRun_b 2 (x := .inr (some (vI 0, M1))) rfl
      · exact amRun_b 3 (x := .inr (some (vI 1, M1))) rfl
    · refine (amRun_t (f := amStep amGst (amD amGst d) cdX12_bearsAll) 5 (x := if bAnd (bShr l1 l6) 1 = 0 then .inl (29, [vR 12 12 0, vI l1, vI l2, vI l3, vI l4, vI l5, vI l6], [], M1) else .inl (32, [vR 12 12 0, vI l1, vI l2, vI l3, vI l4, vI l5, vI l6], [], M1)) rfl).trans (amK_if ?_ ?_)
      · exact amRun_b 3 (x := .inl (6, [vR 12 12 0, vI l1, vI l2, vI l3, vI l4, vI l5, vI (w32 (l6 + 1))], [], M1)) rfl
      · refine (amRun_t (f := amStep amGst (amD amGst d) cdX12_bearsAll) 4 (x := amPu 1 (amD amGst d 215 [vR 12 12 0, vI l6, vI l2, vI 1] M1) (fun z9 M9 => .inl (40, [vR 12 12 0, vI l1, vI l2, vI l3, vI l4, vI l5, vI l6], z9 ++ [], M9))) rfl).trans (amK_pI fun v2 M2 => ?_)
        refine (amRun_t (f := amStep amGst (amD amGst d) cdX12_bearsAll) 0 (x := if v2 = 0 then .inl (57, [vR 12 12 0, vI l1, vI l2, vI l3, vI l4, vI l5, vI l6], [], M2) else .inl (43, [vR 12 12 0, vI l1, vI l2, vI l3, vI l4, vI l5, vI l6], [], M2)) rfl).trans (amK_if ?_ ?_)
        · exact amRun_b 0 (x := .inl (57, [vR 12 12 0, vI l1, vI l2, vI l3, vI l4, vI l5, vI l6], [], M2)) rfl
        · refine (amRun_t (f := amStep amGst (amD amGst d) cdX12_bearsAll) 6 (x := amPu 1 (amD amGst d 214 [vR 12 12 0, vI l6, vI l2, vI l5, vI 1, vI l4] M2) (fun z9 M9 => .inl (55, [vR 12 12 0, vI l1, vI l2, vI l3, vI l4, vI l5, vI l6], z9 ++ [], M9))) rfl).trans (amK_pI fun v3 M3 => ?_)
          exact amRun_b 1 (x := .inl (57, [vR 12 12 0, vI l1, vI l2, vI l3, vI l4, vI v3, vI l6], [], M3)) rfl
  · refine (amRun_t (f := amStep amGst (amD amGst d) cdX12_bearsAll) 1 (x := if l5 < 0 then .inl (102, [vR 12 12 0, vI l1, vI l2, vI l3, vI l4, vI l5, vI l6], [], M1) else .inl (98, [vR 12 12 0, vI l1, vI l2, vI l3, vI l4, vI l5, vI l6], [], M1)) rfl).trans (amK_if ?_ ?_)
    · exact amRun_b 2 (x := .inr (some (vI 0, M1))) rfl
    · exact amRun_b 3 (x := .inr (some (vI 1, M1))) rfl
theorem q_X12_bearsAll_57 (d : Nat) (l1 : Int) (l2 : Int) (l3 : Int) (l4 : Int) (l5 : Int) (l6 : Int) (M : AmM) : e_X12_bearsAll_57 d l1 l2 l3 l4 l5 l6 M =
    if l5 < 0 then (e_X12_bearsAll_6 d l1 l2 l3 l4 l5 (w32 (l6 + 1)) M) else (amCI (amD amGst d 215 [vR 12 12 0, vI l6, vI l2, vI 0] M) fun v1 M1 => if v1 = 0 then (e_X12_bearsAll_6 d l1 l2 l3 l4 l5 (w32 (l6 + 1)) M1) else (amCI (amD amGst d 214 [vR 12 12 0, vI l6, vI l2, vI l5, vI 0, vI l4] M1) fun v2 M2 => e_X12_bearsAll_6 d l1 l2 l3 l4 v2 (w32 (l6 + 1)) M2)) := by
  show amRun _ _ = _
  refine (amRun_t (f := amStep amGst (amD amGst d) cdX12_bearsAll) 1 (x := if l5 < 0 then .inl (87, [vR 12 12 0, vI l1, vI l2, vI l3, vI l4, vI l5, vI l6], [], M) else .inl (62, [vR 12 12 0, vI l1, vI l2, vI l3, vI l4, vI l5, vI l6], [], M)) rfl).trans (amK_if ?_ ?_)
  · exact amRun_b 2 (x := .inl (6, [vR 12 12 0, vI l1, vI l2, vI l3, vI l4, vI l5, vI (w32 (l6 + 1))], [], M)) rfl
  · refine (amRun_t (f := amStep amGst (amD amGst d) cdX12_bearsAll) 4 (x := amPu 1 (amD amGst d 215 [vR 12 12 0, vI l6, vI l2, vI 0] M) (fun z9 M9 => .inl (70, [vR 12 12 0, vI l1, vI l2, vI l3, vI l4, vI l5, vI l6], z9 ++ [], M9))) rfl).trans (amK_pI fun v1 M1 => ?_)
    refine (amRun_t (f := amStep amGst (amD amGst d) cdX12_bearsAll) 0 (x := if v1 = 0 then .inl (87, [vR 12 12 0, vI l1, vI l2, vI l3, vI l4, vI l5, vI l6], [], M1) else .inl (73, [vR 12 12 0, vI l1, vI l2, vI l3, vI l4, vI l5, vI l6], [], M1)) rfl).trans (amK_if ?_ ?_)
    · exact amRun_b 2 (x := .inl (6, [vR 12 12 0, vI l1, vI l2, vI l3, vI l4, vI l5, vI (w32 (l6 + 1))], [], M1)) rfl
    · refine (amRun_t (f := amStep amGst (amD amGst d) cdX12_bearsAll) 6 (x := amPu 1 (amD amGst d 214 [vR 12 12 0, vI l6, vI l2, vI l5, vI 0, vI l4] M1) (fun z9 M9 => .inl (85, [vR 12 12 0, vI l1, vI l2, vI l3, vI l4, vI l5, vI l6], z9 ++ [], M9))) rfl).trans (amK_pI fun v2 M2 => ?_)
      exact amRun_b 3 (x := .inl (6, [vR 12 12 0, vI l1, vI l2, vI l3, vI l4, vI v2, vI (w32 (l6 + 1))], [], M2)) rfl
theorem n_X12_bearsAll (d : Nat) (l1 : Int) (l2 : Int) (l3 : Int) (l4 : Int) (M : AmM) : amD amGst (d + 1) 217 [vR 12 12 0, vI l1, vI l2, vI l3, vI l4] M = e_X12_bearsAll_0 d l1 l2 l3 l4 M := rfl
noncomputable def e_X12_needOf_0 (d : Nat) (l1 : Int) (l2 : Int) (M : AmM) : Option (AmV × AmM) := amRun (amStep amGst (amD amGst d) cdX12_needOf) (0, [vR 12 12 0, vI l1, vI l2, vU, vU], [], M)
noncomputable def e_X12_needOf_19 (d : Nat) (l1 : Int) (l2 : Int) (l3 : Int) (l4 : Int) (M : AmM) : Option (AmV × AmM) := amRun (amStep amGst (amD amGst d) cdX12_needOf) (19, [vR 12 12 0, vI l1, vI l2, vI l3, vI l4], [], M)
theorem q_X12_needOf_0 (d : Nat) (l1 : Int) (l2 : Int) (M : AmM) : e_X12_needOf_0 d l1 l2 M =
    amCI (amD amGst d 216 [vR 12 12 0, vI l1, vI l2] M) fun v1 M1 => if v1 = 0 then (some (vI 0, M1)) else (amCI (amD amGst d 187 [vR 12 12 0] M1) fun v2 M2 => e_X12_needOf_19 d l1 l2 v2 0 M2) := by
  show amRun _ _ = _
  refine (amRun_t (f := amStep amGst (amD amGst d) cdX12_needOf) 3 (x := amPu 1 (amD amGst d 216 [vR 12 12 0, vI l1, vI l2] M) (fun z9 M9 => .inl (6, [vR 12 12 0, vI l1, vI l2, vU, vU], z9 ++ [], M9))) rfl).trans (amK_pI fun v1 M1 => ?_)
  refine (amRun_t (f := amStep amGst (amD amGst d) cdX12_needOf) 0 (x := if v1 = 0 then .inl (9, [vR 12 12 0, vI l1, vI l2, vU, vU], [], M1) else .inl (11, [vR 12 12 0, vI l1, vI l2, vU, vU], [], M1)) rfl).trans (amK_if ?_ ?_)
  · exact amRun_b 2 (x := .inr (some (vI 0, M1))) rfl
  · refine (amRun_t (f := amStep amGst (amD amGst d) cdX12_needOf) 1 (x := amPu 1 (amD amGst d 187 [vR 12 12 0] M1) (fun z9 M9 => .inl (15, [vR 12 12 0, vI l1, vI l2, vU, vU], z9 ++ [], M9))) rfl).trans (amK_pI fun v2 M2 => ?_)
    exact amRun_b 3 (x := .inl (19, [vR 12 12 0, vI l1, vI l2, vI v2, vI 0], [], M2)) rfl
theorem q_X12_needOf_19 (d : Nat) (l1 : Int) (l2 : Int) (l3 : Int) (l4 : Int) (M : AmM) : e_X12_needOf_19 d l1 l2 l3 l4 M =
    if (0 : Int) ≤ l2 ∧ l2 < 100 then (if (0 : Int) ≤ w32 ((w32 (25 * (M 12 0 18))) + l2) ∧ w32 ((w32 (25 * (M 12 0 18))) + l2) < 50 then (if M 138 0 (w32 ((w32 (25 * (M 12 0 18))) + l2)).toNat < w32 ((M 160 0 (l2).toNat) + l4) then (some (vI (-2), M)) else (if (0 : Int) ≤ l2 ∧ l2 < 100 then (amCI (amD amGst d 217 [vR 12 12 0, vI l1, vI l2, vI (w32 ((M 160 0 (l2).toNat) + l4)), vI l3] M) fun v1 M1 => if v1 = 0 then (e_X12_needOf_19 d l1 l2 l3 (w32 (l4 + 1)) M1) else (some (vI l4, M1))) else none)) else none) else none := by
  show amRun _ _ = _
  refine (amRun_t (f := amStep amGst (amD amGst d) cdX12_needOf) 3 (x := if (0 : Int) ≤ l2 ∧ l2 < 100 then .inl (25, [vR 12 12 0, vI l1, vI l2, vI l3, vI l4], [vI (M 160 0 (l2).toNat)], M) else amNo) rfl).trans (amK_if ?_ rfl)
  refine (amRun_t (f := amStep amGst (amD amGst d) cdX12_needOf) 10 (x := if (0 : Int) ≤ w32 ((w32 (25 * (M 12 0 18))) + l2) ∧ w32 ((w32 (25 * (M 12 0 18))) + l2) < 50 then .inl (42, [vR 12 12 0, vI l1, vI l2, vI l3, vI l4], [vI (M 138 0 (w32 ((w32 (25 * (M 12 0 18))) + l2)).toNat), vI (w32 ((M 160 0 (l2).toNat) + l4))], M) else amNo) rfl).trans (amK_if ?_ rfl)
  refine (amRun_t (f := amStep amGst (amD amGst d) cdX12_needOf) 0 (x := if M 138 0 (w32 ((w32 (25 * (M 12 0 18))) + l2)).toNat < w32 ((M 160 0 (l2).toNat) + l4) then .inl (73, [vR 12 12 0, vI l1, vI l2, vI l3, vI l4], [], M) else .inl (45, [vR 12 12 0, vI l1, vI l2, vI l3, vI l4], [], M)) rfl).trans (amK_if ?_ ?_)
  · exact amRun_b 2 (x := .inr (some (vI (-2), M))) rfl
  · refine (amRun_t (f := amStep amGst (amD amGst d) cdX12_needOf) 6 (x := if (0 : Int) ≤ l2 ∧ l2 < 100 then .inl (54, [vR 12 12 0, vI l1, vI l2, vI l3, vI l4], [vI (M 160 0 (l2).toNat), vI l2, vI l1, vR 12 12 0], M) else amNo) rfl).trans (amK_if ?_ rfl)
    refine (amRun_t (f := amStep amGst (amD amGst d) cdX12_needOf) 3 (x := amPu 1 (amD amGst d 217 [vR 12 12 0, vI l1, vI l2, vI (w32 ((M 160 0 (l2).toNat) + l4)), vI l3] M) (fun z9 M9 => .inl (61, [vR 12 12 0, vI l1, vI l2, vI l3, vI l4], z9 ++ [], M9))) rfl).trans (amK_pI fun v1 M1 => ?_)
    refine (amRun_t (f := amStep amGst (amD amGst d) cdX12_needOf) 0 (x := if v1 = 0 then .inl (67, [vR 12 12 0, vI l1, vI l2, vI l3, vI l4], [], M1) else .inl (64, [vR 12 12 0, vI l1, vI l2, vI l3, vI l4], [], M1)) rfl).trans (amK_if ?_ ?_)
    · exact amRun_b 2 (x := .inl (19, [vR 12 12 0, vI l1, vI l2, vI l3, vI (w32 (l4 + 1))], [], M1)) rfl
    · exact amRun_b 2 (x := .inr (some (vI l4, M1))) rfl
theorem n_X12_needOf (d : Nat) (l1 : Int) (l2 : Int) (M : AmM) : amD amGst (d + 1) 218 [vR 12 12 0, vI l1, vI l2] M = e_X12_needOf_0 d l1 l2 M := rfl
noncomputable def e_X12_need_0 (d : Nat) (l1 : Int) (l2 : Int) (M : AmM) : Option (AmV × AmM) := amRun (amStep amGst (amD amGst d) cdX12_need) (0, [vR 12 12 0, vI l1, vI l2, vU, vU, vU], [], M)
noncomputable def e_X12_need_23 (d : Nat) (l1 : Int) (l2 : Int) (M : AmM) : Option (AmV × AmM) := amRun (amStep amGst (amD amGst d) cdX12_need) (23, [vR 12 12 0, vI l1, vI l2, vU, vU, vU], [], M)
noncomputable def e_X12_need_44 (d : Nat) (l1 : Int) (l2 : Int) (l3 : Int) (l4 : Int) (u5 : AmV) (M : AmM) : Option (AmV × AmM) := amRun (amStep amGst (amD amGst d) cdX12_need) (44, [vR 12 12 0, vI l1, vI l2, vI l3, vI l4, u5], [], M)
theorem q_X12_need_0 (d : Nat) (l1 : Int) (l2 : Int) (M : AmM) : e_X12_need_0 d l1 l2 M =
    amCI (amD amGst d 208 [vR 12 12 0, vI l1] M) fun v1 M1 => if v1 = 0 then (some (vI (-1), M1)) else (if l2 = (-1) then (e_X12_need_23 d l1 l2 M1) else (amCI (amD amGst d 182 [vR 12 12 0, vI l2] M1) fun v2 M2 => if v2 = 0 then (some (vI (-1), M2)) else (e_X12_need_23 d l1 l2 M2))) := by
  show amRun _ _ = _
  refine (amRun_t (f := amStep amGst (amD amGst d) cdX12_need) 2 (x := amPu 1 (amD amGst d 208 [vR 12 12 0, vI l1] M) (fun z9 M9 => .inl (5, [vR 12 12 0, vI l1, vI l2, vU, vU, vU], z9 ++ [], M9))) rfl).trans (amK_pI fun v1 M1 => ?_)
  refine (amRun_t (f := amStep amGst (amD amGst d) cdX12_need) 0 (x := if v1 = 0 then .inl (21, [vR 12 12 0, vI l1, vI l2, vU, vU, vU], [], M1) else .inl (8, [vR 12 12 0, vI l1, vI l2, vU, vU, vU], [], M1)) rfl).trans (amK_if ?_ ?_)
  · exact amRun_b 2 (x := .inr (some (vI (-1), M1))) rfl
  · refine (amRun_t (f := amStep amGst (amD amGst d) cdX12_need) 2 (x := if l2 = (-1) then .inl (23, [vR 12 12 0, vI l1, vI l2, vU, vU, vU], [], M1) else .inl (13, [vR 12 12 0, vI l1, vI l2, vU, vU, vU], [], M1)) rfl).trans (amK_if ?_ ?_)
    · exact amRun_b 0 (x := .inl (23, [vR 12 12 0, vI l1, vI l2, vU, vU, vU], [], M1)) rfl
    · refine (amRun_t (f := amStep amGst (amD amGst d) cdX12_need) 2 (x := amPu 1 (amD amGst d 182 [vR 12 12 0, vI l2] M1) (fun z9 M9 => .inl (18, [vR 12 12 0, vI l1, vI l2, vU, vU, vU], z9 ++ [], M9))) rfl).trans (amK_pI fun v2 M2 => ?_)
      refine (amRun_t (f := amStep amGst (amD amGst d) cdX12_need) 0 (x := if v2 = 0 then .inl (21, [vR 12 12 0, vI l1, vI l2, vU, vU, vU], [], M2) else .inl (23, [vR 12 12 0, vI l1, vI l2, vU, vU, vU], [], M2)) rfl).trans (amK_if ?_ ?_)
      · exact amRun_b 2 (x := .inr (some (vI (-1), M2))) rfl
      · exact amRun_b 0 (x := .inl (23, [vR 12 12 0, vI l1, vI l2, vU, vU, vU], [], M2)) rfl
theorem q_X12_need_23 (d : Nat) (l1 : Int) (l2 : Int) (M : AmM) : e_X12_need_23 d l1 l2 M =
    amCV (amD amGst d 186 [vR 12 12 0] M) fun M1 => if l2 = (-1) then (e_X12_need_44 d l1 l2 0 1 vU M1) else (amCI (amD amGst d 218 [vR 12 12 0, vI l1, vI l2] M1) fun v2 M2 => some (vI v2, M2)) := by
  show amRun _ _ = _
  refine (amRun_t (f := amStep amGst (amD amGst d) cdX12_need) 1 (x := amPu 0 (amD amGst d 186 [vR 12 12 0] M) (fun z9 M9 => .inl (27, [vR 12 12 0, vI l1, vI l2, vU, vU, vU], z9 ++ [], M9))) rfl).trans (amK_pV fun M1 => ?_)
  refine (amRun_t (f := amStep amGst (amD amGst d) cdX12_need) 2 (x := if l2 = (-1) then .inl (39, [vR 12 12 0, vI l1, vI l2, vU, vU, vU], [], M1) else .inl (32, [vR 12 12 0, vI l1, vI l2, vU, vU, vU], [], M1)) rfl).trans (amK_if ?_ ?_)
  · exact amRun_b 4 (x := .inl (44, [vR 12 12 0, vI l1, vI l2, vI 0, vI 1, vU], [], M1)) rfl
  · refine (amRun_t (f := amStep amGst (amD amGst d) cdX12_need) 3 (x := amPu 1 (amD amGst d 218 [vR 12 12 0, vI l1, vI l2] M1) (fun z9 M9 => .inl (38, [vR 12 12 0, vI l1, vI l2, vU, vU, vU], z9 ++ [], M9))) rfl).trans (amK_pI fun v2 M2 => ?_)
    exact amRun_b 1 (x := .inr (some (vI v2, M2))) rfl
theorem q_X12_need_44 (d : Nat) (l1 : Int) (l2 : Int) (l3 : Int) (l4 : Int) (u5 : AmV) (M : AmM) : e_X12_need_44 d l1 l2 l3 l4 u5 M =
    if (0 : Int) ≤ M 12 0 18 ∧ M 12 0 18 < 2 then (if M 137 0 (M 12 0 18).toNat < l4 then (some (vI l3, M)) else (amCI (amD amGst d 218 [vR 12 12 0, vI l1, vI l4] M) fun v1 M1 => if v1 < 0 then (some (vI (-2), M1)) else (e_X12_need_44 d l1 l2 (w32 (l3 + v1)) (w32 (l4 + 1)) (vI v1) M1))) else none := by
  show amRun _ _ = _
  refine (amRun_t (f := amStep amGst (amD amGst d) cdX12_need) 5 (x := if (0 : Int) ≤ M 12 0 18 ∧ M 12 0 18 < 2 then .inl (55, [vR 12 12 0, vI l1, vI l2, vI l3, vI l4, u5], [vI (M 137 0 (M 12 0 18).toNat), vI l4], M) else amNo) rfl).trans (amK_if ?_ rfl)
  refine (amRun_t (f := amStep amGst (amD amGst d) cdX12_need) 0 (x := if M 137 0 (M 12 0 18).toNat < l4 then .inl (86, [vR 12 12 0, vI l1, vI l2, vI l3, vI l4, u5], [], M) else .inl (58, [vR 12 12 0, vI l1, vI l2, vI l3, vI l4, u5], [], M)) rfl).trans (amK_if ?_ ?_)
  · exact amRun_b 2 (x := .inr (some (vI l3, M))) rfl
  · refine (amRun_t (f := amStep amGst (amD amGst d) cdX12_need) 3 (x := amPu 1 (amD amGst d 218 [vR 12 12 0, vI l1, vI l4] M) (fun z9 M9 => .inl (65, [vR 12 12 0, vI l1, vI l2, vI l3, vI l4, u5], z9 ++ [], M9))) rfl).trans (amK_pI fun v1 M1 => ?_)
    refine (amRun_t (f := amStep amGst (amD amGst d) cdX12_need) 2 (x := if v1 < 0 then .inl (72, [vR 12 12 0, vI l1, vI l2, vI l3, vI l4, vI v1], [], M1) else .inl (75, [vR 12 12 0, vI l1, vI l2, vI l3, vI l4, vI v1], [], M1)) rfl).trans (amK_if ?_ ?_)
    · exact amRun_b 2 (x := .inr (some (vI (-2), M1))) rfl
    · exact amRun_b 6 (x := .inl (44, [vR 12 12 0, vI l1, vI l2, vI (w32 (l3 + v1)), vI (w32 (l4 + 1)), vI v1], [], M1)) rfl
theorem n_X12_need (d : Nat) (l1 : Int) (l2 : Int) (M : AmM) : amD amGst (d + 1) 219 [vR 12 12 0, vI l1, vI l2] M = e_X12_need_0 d l1 l2 M := rfl
noncomputable def e_X12_allThrough_0 (d : Nat) (l1 : Int) (M : AmM) : Option (AmV × AmM) := amRun (amStep amGst (amD amGst d) cdX12_allThrough) (0, [vR 12 12 0, vI l1, vU], [], M)
noncomputable def e_X12_allThrough_2 (d : Nat) (l1 : Int) (l2 : Int) (M : AmM) : Option (AmV × AmM) := amRun (amStep amGst (amD amGst d) cdX12_allThrough) (2, [vR 12 12 0, vI l1, vI l2], [], M)
theorem q_X12_allThrough_0 (d : Nat) (l1 : Int) (M : AmM) : e_X12_allThrough_0 d l1 M =
    e_X12_allThrough_2 d l1 0 M := by
  show amRun _ _ = _
  exact amRun_b 2 (x := .inl (2, [vR 12 12 0, vI l1, vI 0], [], M)) rfl
theorem q_X12_allThrough_2 (d : Nat) (l1 : Int) (l2 : Int) (M : AmM) : e_X12_allThrough_2 d l1 l2 M =
    amCI (amD amGst d 181 [vR 12 12 0] M) fun v1 M1 => if l2 < v1 then (if bAnd (bShr l1 l2) 1 = 1 then (amCI (amD amGst d 195 [vR 12 12 0, vI l2] M1) fun v2 M2 => if v2 = 0 then (e_X12_allThrough_2 d l1 (w32 (l2 + 1)) M2) else (some (vI 0, M2))) else (e_X12_allThrough_2 d l1 (w32 (l2 + 1)) M1)) else (some (vI 1, M1)) := by
  show amRun _ _ = _
  refine (amRun_t (f := amStep amGst (amD amGst d) cdX12_allThrough) 2 (x := amPu 1 (amD amGst d 181 [vR 12 12 0] M) (fun z9 M9 => .inl (7, [vR 12 12 0, vI l1, vI l2], z9 ++ [vI l2], M9))) rfl).trans (amK_pI fun v1 M1 => ?_)
  refine (amRun_t (f := amStep amGst (amD amGst d) cdX12_allThrough) 0 (x := if l2 < v1 then .inl (10, [vR 12 12 0, vI l1, vI l2], [], M1) else .inl (35, [vR 12 12 0, vI l1, vI l2], [], M1)) rfl).trans (amK_if ?_ ?_)
  · refine (amRun_t (f := amStep amGst (amD amGst d) cdX12_allThrough) 6 (x := if bAnd (bShr l1 l2) 1 = 1 then .inl (19, [vR 12 12 0, vI l1, vI l2], [], M1) else .inl (29, [vR 12 12 0, vI l1, vI l2], [], M1)) rfl).trans (amK_if ?_ ?_)
    · refine (amRun_t (f := amStep amGst (amD amGst d) cdX12_allThrough) 2 (x := amPu 1 (amD amGst d 195 [vR 12 12 0, vI l2] M1) (fun z9 M9 => .inl (24, [vR 12 12 0, vI l1, vI l2], z9 ++ [], M9))) rfl).trans (amK_pI fun v2 M2 => ?_)
      refine (amRun_t (f := amStep amGst (amD amGst d) cdX12_allThrough) 0 (x := if v2 = 0 then .inl (29, [vR 12 12 0, vI l1, vI l2], [], M2) else .inl (27, [vR 12 12 0, vI l1, vI l2], [], M2)) rfl).trans (amK_if ?_ ?_)
      · exact amRun_b 2 (x := .inl (2, [vR 12 12 0, vI l1, vI (w32 (l2 + 1))], [], M2)) rfl
      · exact amRun_b 2 (x := .inr (some (vI 0, M2))) rfl
    · exact amRun_b 2 (x := .inl (2, [vR 12 12 0, vI l1, vI (w32 (l2 + 1))], [], M1)) rfl
  · exact amRun_b 2 (x := .inr (some (vI 1, M1))) rfl
theorem n_X12_allThrough (d : Nat) (l1 : Int) (M : AmM) : amD amGst (d + 1) 220 [vR 12 12 0, vI l1] M = e_X12_allThrough_0 d l1 M := rfl
noncomputable def e_X12_bears_0 (d : Nat) (l1 : Int) (M : AmM) : Option (AmV × AmM) := amRun (amStep amGst (amD amGst d) cdX12_bears) (0, [vR 12 12 0, vI l1], [], M)
theorem q_X12_bears_0 (d : Nat) (l1 : Int) (M : AmM) : e_X12_bears_0 d l1 M =
    amCI (amD amGst d 208 [vR 12 12 0, vI l1] M) fun v1 M1 => if v1 = 0 then (some (vI (-1), M1)) else (amCV (amD amGst d 186 [vR 12 12 0] M1) fun M2 => amCI (amD amGst d 220 [vR 12 12 0, vI l1] M2) fun v3 M3 => if v3 = 0 then (some (vI 0, M3)) else (some (vI 1, M3))) := by
  show amRun _ _ = _
  refine (amRun_t (f := amStep amGst (amD amGst d) cdX12_bears) 2 (x := amPu 1 (amD amGst d 208 [vR 12 12 0, vI l1] M) (fun z9 M9 => .inl (5, [vR 12 12 0, vI l1], z9 ++ [], M9))) rfl).trans (amK_pI fun v1 M1 => ?_)
  refine (amRun_t (f := amStep amGst (amD amGst d) cdX12_bears) 0 (x := if v1 = 0 then .inl (8, [vR 12 12 0, vI l1], [], M1) else .inl (10, [vR 12 12 0, vI l1], [], M1)) rfl).trans (amK_if ?_ ?_)
  · exact amRun_b 2 (x := .inr (some (vI (-1), M1))) rfl
  · refine (amRun_t (f := amStep amGst (amD amGst d) cdX12_bears) 1 (x := amPu 0 (amD amGst d 186 [vR 12 12 0] M1) (fun z9 M9 => .inl (14, [vR 12 12 0, vI l1], z9 ++ [], M9))) rfl).trans (amK_pV fun M2 => ?_)
    refine (amRun_t (f := amStep amGst (amD amGst d) cdX12_bears) 2 (x := amPu 1 (amD amGst d 220 [vR 12 12 0, vI l1] M2) (fun z9 M9 => .inl (19, [vR 12 12 0, vI l1], z9 ++ [], M9))) rfl).trans (amK_pI fun v3 M3 => ?_)
    refine (amRun_t (f := amStep amGst (amD amGst d) cdX12_bears) 0 (x := if v3 = 0 then .inl (26, [vR 12 12 0, vI l1], [], M3) else .inl (22, [vR 12 12 0, vI l1], [], M3)) rfl).trans (amK_if ?_ ?_)
    · exact amRun_b 2 (x := .inr (some (vI 0, M3))) rfl
    · exact amRun_b 3 (x := .inr (some (vI 1, M3))) rfl
theorem n_X12_bears (d : Nat) (l1 : Int) (M : AmM) : amD amGst (d + 1) 221 [vR 12 12 0, vI l1] M = e_X12_bears_0 d l1 M := rfl
noncomputable def e_X12_choose_0 (d : Nat) (l0 : Int) (l1 : Int) (M : AmM) : Option (AmV × AmM) := amRun (amStep amGst (amD amGst d) cdX12_choose) (0, [vI l0, vI l1, vU, vU, vU], [], M)
noncomputable def e_X12_choose_5 (d : Nat) (l0 : Int) (l1 : Int) (l2 : Int) (l4 : Int) (M : AmM) : Option (AmV × AmM) := amRun (amStep amGst (amD amGst d) cdX12_choose) (5, [vI l0, vI l1, vL l2, vU, vI l4], [], M)
theorem q_X12_choose_0 (d : Nat) (l0 : Int) (l1 : Int) (M : AmM) : e_X12_choose_0 d l0 l1 M =
    e_X12_choose_5 d l0 l1 1 1 M := by
  show amRun _ _ = _
  exact amRun_b 4 (x := .inl (5, [vI l0, vI l1, vL 1, vU, vI 1], [], M)) rfl
theorem q_X12_choose_5 (d : Nat) (l0 : Int) (l1 : Int) (l2 : Int) (l4 : Int) (M : AmM) : e_X12_choose_5 d l0 l1 l2 l4 M =
    if l1 < l4 then (some (vL l2, M)) else (if l4 = 0 then none else (e_X12_choose_5 d l0 l1 (w64 (Int.tdiv (w64 (l2 * (w32 ((w32 (l0 - l1)) + l4)))) l4)) (w32 (l4 + 1)) M)) := by
  show amRun _ _ = _
  refine (amRun_t (f := amStep amGst (amD amGst d) cdX12_choose) 2 (x := if l1 < l4 then .inl (31, [vI l0, vI l1, vL l2, vU, vI l4], [], M) else .inl (11, [vI l0, vI l1, vL l2, vU, vI l4], [], M)) rfl).trans (amK_if ?_ ?_)
  · exact amRun_b 2 (x := .inr (some (vL l2, M))) rfl
  · refine (amRun_t (f := amStep amGst (amD amGst d) cdX12_choose) 10 (x := if l4 = 0 then amNo else .inl (24, [vI l0, vI l1, vL l2, vU, vI l4], [vL (w64 (Int.tdiv (w64 (l2 * (w32 ((w32 (l0 - l1)) + l4)))) l4))], M)) rfl).trans (amK_if rfl ?_)
    exact amRun_b 3 (x := .inl (5, [vI l0, vI l1, vL (w64 (Int.tdiv (w64 (l2 * (w32 ((w32 (l0 - l1)) + l4)))) l4)), vU, vI (w32 (l4 + 1))], [], M)) rfl
theorem n_X12_choose (d : Nat) (l0 : Int) (l1 : Int) (M : AmM) : amD amGst (d + 1) 222 [vI l0, vI l1] M = e_X12_choose_0 d l0 l1 M := rfl
noncomputable def e_X12_odds_0 (d : Nat) (l1 : Int) (l2 : Int) (l3 : Int) (l4 : Int) (l5 : Int) (M : AmM) : Option (AmV × AmM) := amRun (amStep amGst (amD amGst d) cdX12_odds) (0, [vR 12 12 0, vI l1, vI l2, vI l3, vI l4, vI l5, vU, vU, vU, vU, vU, vU], [], M)
noncomputable def e_X12_odds_60 (d : Nat) (l1 : Int) (l2 : Int) (l3 : Int) (l4 : Int) (l5 : Int) (l6 : Int) (l8 : Int) (u9 : AmV) (u11 : AmV) (M : AmM) : Option (AmV × AmM) := amRun (amStep amGst (amD amGst d) cdX12_odds) (60, [vR 12 12 0, vI l1, vI l2, vI l3, vI l4, vI l5, vL l6, vU, vI l8, u9, vU, u11], [], M)
noncomputable def e_X12_odds_73 (d : Nat) (l1 : Int) (l2 : Int) (l3 : Int) (l4 : Int) (l5 : Int) (l6 : Int) (l8 : Int) (l9 : Int) (u11 : AmV) (M : AmM) : Option (AmV × AmM) := amRun (amStep amGst (amD amGst d) cdX12_odds) (73, [vR 12 12 0, vI l1, vI l2, vI l3, vI l4, vI l5, vL l6, vU, vI l8, vI l9, vU, u11], [], M)
noncomputable def e_X12_odds_163 (d : Nat) (l1 : Int) (l2 : Int) (l3 : Int) (l4 : Int) (l5 : Int) (l6 : Int) (l8 : Int) (l9 : Int) (l11 : Int) (M : AmM) : Option (AmV × AmM) := amRun (amStep amGst (amD amGst d) cdX12_odds) (163, [vR 12 12 0, vI l1, vI l2, vI l3, vI l4, vI l5, vL l6, vU, vI l8, vL l9, vU, vI l11], [], M)
theorem q_X12_odds_0 (d : Nat) (l1 : Int) (l2 : Int) (l3 : Int) (l4 : Int) (l5 : Int) (M : AmM) : e_X12_odds_0 d l1 l2 l3 l4 l5 M =
    amCI (amD amGst d 208 [vR 12 12 0, vI l1] M) fun v1 M1 => if v1 = 0 then (some (vL (-1), M1)) else (amCI (amD amGst d 179 [vI l2, vI 0, vI 9] M1) fun v2 M2 => if v2 = 0 then (some (vL (-1), M2)) else (amCI (amD amGst d 179 [vI l3, vI 0, vI 12] M2) fun v3 M3 => if v3 = 0 then (some (vL (-1), M3)) else (amCI (amD amGst d 179 [vI l5, vI 1, vI 9] M3) fun v4 M4 => if v4 = 0 then (some (vL (-1), M4)) else (amCI (amD amGst d 179 [vI l4, vI 0, vI l5] M4) fun v5 M5 => if v5 = 0 then (some (vL (-1), M5)) else (e_X12_odds_60 d l1 l2 l3 l4 l5 0 0 vU vU M5))))) := by
  show amRun _ _ = _
  refine (amRun_t (f := amStep amGst (amD amGst d) cdX12_odds) 2 (x := amPu 1 (amD amGst d 208 [vR 12 12 0, vI l1] M) (fun z9 M9 => .inl (5, [vR 12 12 0, vI l1, vI l2, vI l3, vI l4, vI l5, vU, vU, vU, vU, vU, vU], z9 ++ [], M9))) rfl).trans (amK_pI fun v1 M1 => ?_)
  refine (amRun_t (f := amStep amGst (amD amGst d) cdX12_odds) 0 (x := if v1 = 0 then .inl (50, [vR 12 12 0, vI l1, vI l2, vI l3, vI l4, vI l5, vU, vU, vU, vU, vU, vU], [], M1) else .inl (8, [vR 12 12 0, vI l1, vI l2, vI l3, vI l4, vI l5, vU, vU, vU, vU, vU, vU], [], M1)) rfl).trans (amK_if ?_ ?_)
  · exact amRun_b 2 (x := .inr (some (vL (-1), M1))) rfl
  · refine (amRun_t (f := amStep amGst (amD amGst d) cdX12_odds) 3 (x := amPu 1 (amD amGst d 179 [vI l2, vI 0, vI 9] M1) (fun z9 M9 => .inl (15, [vR 12 12 0, vI l1, vI l2, vI l3, vI l4, vI l5, vU, vU, vU, vU, vU, vU], z9 ++ [], M9))) rfl).trans (amK_pI fun v2 M2 => ?_)
    refine (amRun_t (f := amStep amGst (amD amGst d) cdX12_odds) 0 (x := if v2 = 0 then .inl (50, [vR 12 12 0, vI l1, vI l2, vI l3, vI l4, vI l5, vU, vU, vU, vU, vU, vU], [], M2) else .inl (18, [vR 12 12 0, vI l1, vI l2, vI l3, vI l4, vI l5, vU, vU, vU, vU, vU, vU], [], M2)) rfl).trans (amK_if ?_ ?_)
    · exact amRun_b 2 (x := .inr (some (vL (-1), M2))) rfl
    · refine (amRun_t (f := amStep amGst (amD amGst d) cdX12_odds) 3 (x := amPu 1 (amD amGst d 179 [vI l3, vI 0, vI 12] M2) (fun z9 M9 => .inl (25, [vR 12 12 0, vI l1, vI l2, vI l3, vI l4, vI l5, vU, vU, vU, vU, vU, vU], z9 ++ [], M9))) rfl).trans (amK_pI fun v3 M3 => ?_)
      refine (amRun_t (f := amStep amGst (amD amGst d) cdX12_odds) 0 (x := if v3 = 0 then .inl (50, [vR 12 12 0, vI l1, vI l2, vI l3, vI l4, vI l5, vU, vU, vU, vU, vU, vU], [], M3) else .inl (28, [vR 12 12 0, vI l1, vI l2, vI l3, vI l4, vI l5, vU, vU, vU, vU, vU, vU], [], M3)) rfl).trans (amK_if ?_ ?_)
      · exact amRun_b 2 (x := .inr (some (vL (-1), M3))) rfl
      · refine (amRun_t (f := amStep amGst (amD amGst d) cdX12_odds) 3 (x := amPu 1 (amD amGst d 179 [vI l5, vI 1, vI 9] M3) (fun z9 M9 => .inl (36, [vR 12 12 0, vI l1, vI l2, vI l3, vI l4, vI l5, vU, vU, vU, vU, vU, vU], z9 ++ [], M9))) rfl).trans (amK_pI fun v4 M4 => ?_)
        refine (amRun_t (f := amStep amGst (amD amGst d) cdX12_odds) 0 (x := if v4 = 0 then .inl (50, [vR 12 12 0, vI l1, vI l2, vI l3, vI l4, vI l5, vU, vU, vU, vU, vU, vU], [], M4) else .inl (39, [vR 12 12 0, vI l1, vI l2, vI l3, vI l4, vI l5, vU, vU, vU, vU, vU, vU], [], M4)) rfl).trans (amK_if ?_ ?_)
        · exact amRun_b 2 (x := .inr (some (vL (-1), M4))) rfl
        · refine (amRun_t (f := amStep amGst (amD amGst d) cdX12_odds) 3 (x := amPu 1 (amD amGst d 179 [vI l4, vI 0, vI l5] M4) (fun z9 M9 => .inl (47, [vR 12 12 0, vI l1, vI l2, vI l3, vI l4, vI l5, vU, vU, vU, vU, vU, vU], z9 ++ [], M9))) rfl).trans (amK_pI fun v5 M5 => ?_)
          refine (amRun_t (f := amStep amGst (amD amGst d) cdX12_odds) 0 (x := if v5 = 0 then .inl (50, [vR 12 12 0, vI l1, vI l2, vI l3, vI l4, vI l5, vU, vU, vU, vU, vU, vU], [], M5) else .inl (54, [vR 12 12 0, vI l1, vI l2, vI l3, vI l4, vI l5, vU, vU, vU, vU, vU, vU], [], M5)) rfl).trans (amK_if ?_ ?_)
          · exact amRun_b 2 (x := .inr (some (vL (-1), M5))) rfl
          · exact amRun_b 4 (x := .inl (60, [vR 12 12 0, vI l1, vI l2, vI l3, vI l4, vI l5, vL 0, vU, vI 0, vU, vU, vU], [], M5)) rfl
theorem q_X12_odds_60 (d : Nat) (l1 : Int) (l2 : Int) (l3 : Int) (l4 : Int) (l5 : Int) (l6 : Int) (l8 : Int) (u9 : AmV) (u11 : AmV) (M : AmM) : e_X12_odds_60 d l1 l2 l3 l4 l5 l6 l8 u9 u11 M =
    if l3 < l8 then (some (vL l6, M)) else (amCV (amD amGst d 186 [vR 12 12 0] M) fun M1 => e_X12_odds_73 d l1 l2 l3 l4 l5 l6 l8 1 u11 M1) := by
  show amRun _ _ = _
  refine (amRun_t (f := amStep amGst (amD amGst d) cdX12_odds) 2 (x := if l3 < l8 then .inl (212, [vR 12 12 0, vI l1, vI l2, vI l3, vI l4, vI l5, vL l6, vU, vI l8, u9, vU, u11], [], M) else .inl (66, [vR 12 12 0, vI l1, vI l2, vI l3, vI l4, vI l5, vL l6, vU, vI l8, u9, vU, u11], [], M)) rfl).trans (amK_if ?_ ?_)
  · exact amRun_b 2 (x := .inr (some (vL l6, M))) rfl
  · refine (amRun_t (f := amStep amGst (amD amGst d) cdX12_odds) 1 (x := amPu 0 (amD amGst d 186 [vR 12 12 0] M) (fun z9 M9 => .inl (70, [vR 12 12 0, vI l1, vI l2, vI l3, vI l4, vI l5, vL l6, vU, vI l8, u9, vU, u11], z9 ++ [], M9))) rfl).trans (amK_pV fun M1 => ?_)
    exact amRun_b 2 (x := .inl (73, [vR 12 12 0, vI l1, vI l2, vI l3, vI l4, vI l5, vL l6, vU, vI l8, vI 1, vU, u11], [], M1)) rfl
theorem q_X12_odds_73 (d : Nat) (l1 : Int) (l2 : Int) (l3 : Int) (l4 : Int) (l5 : Int) (l6 : Int) (l8 : Int) (l9 : Int) (u11 : AmV) (M : AmM) : e_X12_odds_73 d l1 l2 l3 l4 l5 l6 l8 l9 u11 M =
    if (0 : Int) ≤ M 12 0 18 ∧ M 12 0 18 < 2 then (if M 137 0 (M 12 0 18).toNat < l9 then (if (0 : Int) ≤ 83 ∧ (83 : Int) < 100 then (if (0 : Int) ≤ 83 ∧ (83 : Int) < 100 then (amCI (amD amGst d 220 [vR 12 12 0, vI l1] (amUp M 160 0 83 (w32 ((M 160 0 83) + l3)))) fun v1 M1 => if v1 = 0 then (e_X12_odds_60 d l1 l2 l3 l4 l5 l6 (w32 (l8 + 1)) (vI l9) u11 M1) else (amCL (amD amGst d 222 [vI l3, vI l8] M1) fun v2 M2 => e_X12_odds_163 d l1 l2 l3 l4 l5 l6 l8 v2 0 M2)) else none) else none) else (if (0 : Int) ≤ l9 ∧ l9 < 100 then (if w32 (l8 * l2) < M 160 0 (l9).toNat then (if (0 : Int) ≤ l9 ∧ l9 < 100 then (if (0 : Int) ≤ l9 ∧ l9 < 100 then (e_X12_odds_73 d l1 l2 l3 l4 l5 l6 l8 (w32 (l9 + 1)) u11 (amUp M 160 0 (l9).toNat (w32 ((M 160 0 (l9).toNat) - (w32 (l8 * l2)))))) else none) else none) else (if (0 : Int) ≤ l9 ∧ l9 < 100 then (e_X12_odds_73 d l1 l2 l3 l4 l5 l6 l8 (w32 (l9 + 1)) u11 (amUp M 160 0 (l9).toNat 0)) else none)) else none)) else none := by
  show amRun _ _ = _
  refine (amRun_t (f := amStep amGst (amD amGst d) cdX12_odds) 5 (x := if (0 : Int) ≤ M 12 0 18 ∧ M 12 0 18 < 2 then .inl (84, [vR 12 12 0, vI l1, vI l2, vI l3, vI l4, vI l5, vL l6, vU, vI l8, vI l9, vU, u11], [vI (M 137 0 (M 12 0 18).toNat), vI l9], M) else amNo) rfl).trans (amK_if ?_ rfl)
  refine (amRun_t (f := amStep amGst (amD amGst d) cdX12_odds) 0 (x := if M 137 0 (M 12 0 18).toNat < l9 then .inl (130, [vR 12 12 0, vI l1, vI l2, vI l3, vI l4, vI l5, vL l6, vU, vI l8, vI l9, vU, u11], [], M) else .inl (87, [vR 12 12 0, vI l1, vI l2, vI l3, vI l4, vI l5, vL l6, vU, vI l8, vI l9, vU, u11], [], M)) rfl).trans (amK_if ?_ ?_)
  · refine (amRun_t (f := amStep amGst (amD amGst d) cdX12_odds) 4 (x := if (0 : Int) ≤ 83 ∧ (83 : Int) < 100 then .inl (138, [vR 12 12 0, vI l1, vI l2, vI l3, vI l4, vI l5, vL l6, vU, vI l8, vI l9, vU, u11], [vI (M 160 0 83), vI 83, vR 20 160 0], M) else amNo) rfl).trans (amK_if ?_ rfl)
    refine (amRun_t (f := amStep amGst (amD amGst d) cdX12_odds) 2 (x := if (0 : Int) ≤ 83 ∧ (83 : Int) < 100 then .inl (141, [vR 12 12 0, vI l1, vI l2, vI l3, vI l4, vI l5, vL l6, vU, vI l8, vI l9, vU, u11], [], amUp M 160 0 83 (w32 ((M 160 0 83) + l3))) else amNo) rfl).trans (amK_if ?_ rfl)
    refine (amRun_t (f := amStep amGst (amD amGst d) cdX12_odds) 2 (x := amPu 1 (amD amGst d 220 [vR 12 12 0, vI l1] (amUp M 160 0 83 (w32 ((M 160 0 83) + l3)))) (fun z9 M9 => .inl (146, [vR 12 12 0, vI l1, vI l2, vI l3, vI l4, vI l5, vL l6, vU, vI l8, vI l9, vU, u11], z9 ++ [], M9))) rfl).trans (amK_pI fun v1 M1 => ?_)
    refine (amRun_t (f := amStep amGst (amD amGst d) cdX12_odds) 0 (x := if v1 = 0 then .inl (149, [vR 12 12 0, vI l1, vI l2, vI l3, vI l4, vI l5, vL l6, vU, vI l8, vI l9, vU, u11], [], M1) else .inl (152, [vR 12 12 0, vI l1, vI l2, vI l3, vI l4, vI l5, vL l6, vU, vI l8, vI l9, vU, u11], [], M1)) rfl).trans (amK_if ?_ ?_)
    · exact amRun_b 3 (x := .inl (60, [vR 12 12 0, vI l1, vI l2, vI l3, vI l4, vI l5, vL l6, vU, vI (w32 (l8 + 1)), vI l9, vU, u11], [], M1)) rfl
    · refine (amRun_t (f := amStep amGst (amD amGst d) cdX12_odds) 2 (x := amPu 2 (amD amGst d 222 [vI l3, vI l8] M1) (fun z9 M9 => .inl (158, [vR 12 12 0, vI l1, vI l2, vI l3, vI l4, vI l5, vL l6, vU, vI l8, vI l9, vU, u11], z9 ++ [], M9))) rfl).trans (amK_pL fun v2 M2 => ?_)
      exact amRun_b 3 (x := .inl (163, [vR 12 12 0, vI l1, vI l2, vI l3, vI l4, vI l5, vL l6, vU, vI l8, vL v2, vU, vI 0], [], M2)) rfl
  · refine (amRun_t (f := amStep amGst (amD amGst d) cdX12_odds) 6 (x := if (0 : Int) ≤ l9 ∧ l9 < 100 then .inl (100, [vR 12 12 0, vI l1, vI l2, vI l3, vI l4, vI l5, vL l6, vU, vI l8, vI l9, vU, u11], [vI (M 160 0 (l9).toNat), vI l9, vR 20 160 0], M) else amNo) rfl).trans (amK_if ?_ rfl)
    refine (amRun_t (f := amStep amGst (amD amGst d) cdX12_odds) 3 (x := if w32 (l8 * l2) < M 160 0 (l9).toNat then .inl (107, [vR 12 12 0, vI l1, vI l2, vI l3, vI l4, vI l5, vL l6, vU, vI l8, vI l9, vU, u11], [vI l9, vR 20 160 0], M) else .inl (122, [vR 12 12 0, vI l1, vI l2, vI l3, vI l4, vI l5, vL l6, vU, vI l8, vI l9, vU, u11], [vI l9, vR 20 160 0], M)) rfl).trans (amK_if ?_ ?_)
    · refine (amRun_t (f := amStep amGst (amD amGst d) cdX12_odds) 3 (x := if (0 : Int) ≤ l9 ∧ l9 < 100 then .inl (114, [vR 12 12 0, vI l1, vI l2, vI l3, vI l4, vI l5, vL l6, vU, vI l8, vI l9, vU, u11], [vI (M 160 0 (l9).toNat), vI l9, vR 20 160 0], M) else amNo) rfl).trans (amK_if ?_ rfl)
      refine (amRun_t (f := amStep amGst (amD amGst d) cdX12_odds) 5 (x := if (0 : Int) ≤ l9 ∧ l9 < 100 then .inl (124, [vR 12 12 0, vI l1, vI l2, vI l3, vI l4, vI l5, vL l6, vU, vI l8, vI l9, vU, u11], [], amUp M 160 0 (l9).toNat (w32 ((M 160 0 (l9).toNat) - (w32 (l8 * l2))))) else amNo) rfl).trans (amK_if ?_ rfl)
      exact amRun_b 2 (x := .inl (73, [vR 12 12 0, vI l1, vI l2, vI l3, vI l4, vI l5, vL l6, vU, vI l8, vI (w32 (l9 + 1)), vU, u11], [], amUp M 160 0 (l9).toNat (w32 ((M 160 0 (l9).toNat) - (w32 (l8 * l2)))))) rfl
    · refine (amRun_t (f := amStep amGst (amD amGst d) cdX12_odds) 1 (x := if (0 : Int) ≤ l9 ∧ l9 < 100 then .inl (124, [vR 12 12 0, vI l1, vI l2, vI l3, vI l4, vI l5, vL l6, vU, vI l8, vI l9, vU, u11], [], amUp M 160 0 (l9).toNat 0) else amNo) rfl).trans (amK_if ?_ rfl)
      exact amRun_b 2 (x := .inl (73, [vR 12 12 0, vI l1, vI l2, vI l3, vI l4, vI l5, vL l6, vU, vI l8, vI (w32 (l9 + 1)), vU, u11], [], amUp M 160 0 (l9).toNat 0)) rfl
theorem q_X12_odds_163 (d : Nat) (l1 : Int) (l2 : Int) (l3 : Int) (l4 : Int) (l5 : Int) (l6 : Int) (l8 : Int) (l9 : Int) (l11 : Int) (M : AmM) : e_X12_odds_163 d l1 l2 l3 l4 l5 l6 l8 l9 l11 M =
    if l11 < l3 then (if l11 < l8 then (e_X12_odds_163 d l1 l2 l3 l4 l5 l6 l8 (w64 (l9 * l4)) (w32 (l11 + 1)) M) else (e_X12_odds_163 d l1 l2 l3 l4 l5 l6 l8 (w64 (l9 * (w32 (l5 - l4)))) (w32 (l11 + 1)) M)) else (e_X12_odds_60 d l1 l2 l3 l4 l5 (w64 (l6 + l9)) (w32 (l8 + 1)) (vL l9) (vI l11) M) := by
  show amRun _ _ = _
  refine (amRun_t (f := amStep amGst (amD amGst d) cdX12_odds) 2 (x := if l11 < l3 then .inl (169, [vR 12 12 0, vI l1, vI l2, vI l3, vI l4, vI l5, vL l6, vU, vI l8, vL l9, vU, vI l11], [], M) else .inl (199, [vR 12 12 0, vI l1, vI l2, vI l3, vI l4, vI l5, vL l6, vU, vI l8, vL l9, vU, vI l11], [], M)) rfl).trans (amK_if ?_ ?_)
  · refine (amRun_t (f := amStep amGst (amD amGst d) cdX12_odds) 3 (x := if l11 < l8 then .inl (178, [vR 12 12 0, vI l1, vI l2, vI l3, vI l4, vI l5, vL l6, vU, vI l8, vL l9, vU, vI l11], [vL l9], M) else .inl (184, [vR 12 12 0, vI l1, vI l2, vI l3, vI l4, vI l5, vL l6, vU, vI l8, vL l9, vU, vI l11], [vL l9], M)) rfl).trans (amK_if ?_ ?_)
    · exact amRun_b 7 (x := .inl (163, [vR 12 12 0, vI l1, vI l2, vI l3, vI l4, vI l5, vL l6, vU, vI l8, vL (w64 (l9 * l4)), vU, vI (w32 (l11 + 1))], [], M)) rfl
    · exact amRun_b 8 (x := .inl (163, [vR 12 12 0, vI l1, vI l2, vI l3, vI l4, vI l5, vL l6, vU, vI l8, vL (w64 (l9 * (w32 (l5 - l4)))), vU, vI (w32 (l11 + 1))], [], M)) rfl
  · exact amRun_b 6 (x := .inl (60, [vR 12 12 0, vI l1, vI l2, vI l3, vI l4, vI l5, vL (w64 (l6 + l9)), vU, vI (w32 (l8 + 1)), vL l9, vU, vI l11], [], M)) rfl
theorem n_X12_odds (d : Nat) (l1 : Int) (l2 : Int) (l3 : Int) (l4 : Int) (l5 : Int) (M : AmM) : amD amGst (d + 1) 223 [vR 12 12 0, vI l1, vI l2, vI l3, vI l4, vI l5] M = e_X12_odds_0 d l1 l2 l3 l4 l5 M := rfl
noncomputable def e_X12_marks_0 (d : Nat) (M : AmM) : Option (AmV × AmM) := amRun (amStep amGst (amD amGst d) cdX12_marks) (0, [vR 12 12 0, vU], [], M)
noncomputable def e_X12_marks_2 (d : Nat) (l1 : Int) (M : AmM) : Option (AmV × AmM) := amRun (amStep amGst (amD amGst d) cdX12_marks) (2, [vR 12 12 0, vI l1], [], M)
theorem q_X12_marks_0 (d : Nat) (M : AmM) : e_X12_marks_0 d M =
    e_X12_marks_2 d 1 M := by
  show amRun _ _ = _
  exact amRun_b 2 (x := .inl (2, [vR 12 12 0, vI 1], [], M)) rfl
theorem q_X12_marks_2 (d : Nat) (l1 : Int) (M : AmM) : e_X12_marks_2 d l1 M =
    if (0 : Int) ≤ M 12 0 18 ∧ M 12 0 18 < 2 then (if M 137 0 (M 12 0 18).toNat < l1 then (some (vU, M)) else (if (0 : Int) ≤ l1 ∧ l1 < 100 then (if 0 < M 160 0 (l1).toNat then (if (0 : Int) ≤ l1 ∧ l1 < 25 then (e_X12_marks_2 d (w32 (l1 + 1)) (amUp M 164 0 (l1).toNat 1)) else none) else (if (0 : Int) ≤ l1 ∧ l1 < 25 then (e_X12_marks_2 d (w32 (l1 + 1)) (amUp M 164 0 (l1).toNat 0)) else none)) else none)) else none := by
  show amRun _ _ = _
  refine (amRun_t (f := amStep amGst (amD amGst d) cdX12_marks) 5 (x := if (0 : Int) ≤ M 12 0 18 ∧ M 12 0 18 < 2 then .inl (12, [vR 12 12 0, vI l1], [vI (M 137 0 (M 12 0 18).toNat), vI l1], M) else amNo) rfl).trans (amK_if ?_ rfl)
  refine (amRun_t (f := amStep amGst (amD amGst d) cdX12_marks) 0 (x := if M 137 0 (M 12 0 18).toNat < l1 then .inl (41, [vR 12 12 0, vI l1], [], M) else .inl (15, [vR 12 12 0, vI l1], [], M)) rfl).trans (amK_if ?_ ?_)
  · exact amRun_b 1 (x := .inr (some (vU, M))) rfl
  · refine (amRun_t (f := amStep amGst (amD amGst d) cdX12_marks) 6 (x := if (0 : Int) ≤ l1 ∧ l1 < 100 then .inl (26, [vR 12 12 0, vI l1], [vI (M 160 0 (l1).toNat), vI l1, vR 23 164 0], M) else amNo) rfl).trans (amK_if ?_ rfl)
    refine (amRun_t (f := amStep amGst (amD amGst d) cdX12_marks) 0 (x := if 0 < M 160 0 (l1).toNat then .inl (29, [vR 12 12 0, vI l1], [vI l1, vR 23 164 0], M) else .inl (33, [vR 12 12 0, vI l1], [vI l1, vR 23 164 0], M)) rfl).trans (amK_if ?_ ?_)
    · refine (amRun_t (f := amStep amGst (amD amGst d) cdX12_marks) 2 (x := if (0 : Int) ≤ l1 ∧ l1 < 25 then .inl (35, [vR 12 12 0, vI l1], [], amUp M 164 0 (l1).toNat 1) else amNo) rfl).trans (amK_if ?_ rfl)
      exact amRun_b 2 (x := .inl (2, [vR 12 12 0, vI (w32 (l1 + 1))], [], amUp M 164 0 (l1).toNat 1)) rfl
    · refine (amRun_t (f := amStep amGst (amD amGst d) cdX12_marks) 1 (x := if (0 : Int) ≤ l1 ∧ l1 < 25 then .inl (35, [vR 12 12 0, vI l1], [], amUp M 164 0 (l1).toNat 0) else amNo) rfl).trans (amK_if ?_ rfl)
      exact amRun_b 2 (x := .inl (2, [vR 12 12 0, vI (w32 (l1 + 1))], [], amUp M 164 0 (l1).toNat 0)) rfl
theorem n_X12_marks (d : Nat) (M : AmM) : amD amGst (d + 1) 224 [vR 12 12 0] M = e_X12_marks_0 d M := rfl
noncomputable def e_X12_notes_0 (d : Nat) (l1 : Int) (M : AmM) : Option (AmV × AmM) := amRun (amStep amGst (amD amGst d) cdX12_notes) (0, [vR 12 12 0, vI l1, vU, vU], [], M)
noncomputable def e_X12_notes_31 (d : Nat) (l1 : Int) (l2 : Int) (l3 : Int) (M : AmM) : Option (AmV × AmM) := amRun (amStep amGst (amD amGst d) cdX12_notes) (31, [vR 12 12 0, vI l1, vI l2, vI l3], [], M)
noncomputable def e_X12_notes_65 (d : Nat) (l1 : Int) (l2 : Int) (l3 : Int) (M : AmM) : Option (AmV × AmM) := amRun (amStep amGst (amD amGst d) cdX12_notes) (65, [vR 12 12 0, vI l1, vI l2, vI l3], [], M)
theorem q_X12_notes_0 (d : Nat) (l1 : Int) (M : AmM) : e_X12_notes_0 d l1 M =
    if M 12 0 60 < 0 then (if l1 < 0 then (if (0 : Int) ≤ M 12 0 18 ∧ M 12 0 18 < 2 then (e_X12_notes_31 d l1 (-1) (M 137 0 (M 12 0 18).toNat) M) else none) else (if (0 : Int) ≤ M 12 0 18 ∧ M 12 0 18 < 2 then (e_X12_notes_31 d l1 (M 12 0 51) (M 137 0 (M 12 0 18).toNat) M) else none)) else (some (vU, M)) := by
  show amRun _ _ = _
  refine (amRun_t (f := amStep amGst (amD amGst d) cdX12_notes) 2 (x := if M 12 0 60 < 0 then .inl (8, [vR 12 12 0, vI l1, vU, vU], [], M) else .inl (7, [vR 12 12 0, vI l1, vU, vU], [], M)) rfl).trans (amK_if ?_ ?_)
  · refine (amRun_t (f := amStep amGst (amD amGst d) cdX12_notes) 1 (x := if l1 < 0 then .inl (12, [vR 12 12 0, vI l1, vU, vU], [], M) else .inl (16, [vR 12 12 0, vI l1, vU, vU], [], M)) rfl).trans (amK_if ?_ ?_)
    · refine (amRun_t (f := amStep amGst (amD amGst d) cdX12_notes) 7 (x := if (0 : Int) ≤ M 12 0 18 ∧ M 12 0 18 < 2 then .inl (30, [vR 12 12 0, vI l1, vI (-1), vU], [vI (M 137 0 (M 12 0 18).toNat)], M) else amNo) rfl).trans (amK_if ?_ rfl)
      exact amRun_b 1 (x := .inl (31, [vR 12 12 0, vI l1, vI (-1), vI (M 137 0 (M 12 0 18).toNat)], [], M)) rfl
    · refine (amRun_t (f := amStep amGst (amD amGst d) cdX12_notes) 7 (x := if (0 : Int) ≤ M 12 0 18 ∧ M 12 0 18 < 2 then .inl (30, [vR 12 12 0, vI l1, vI (M 12 0 51), vU], [vI (M 137 0 (M 12 0 18).toNat)], M) else amNo) rfl).trans (amK_if ?_ rfl)
      exact amRun_b 1 (x := .inl (31, [vR 12 12 0, vI l1, vI (M 12 0 51), vI (M 137 0 (M 12 0 18).toNat)], [], M)) rfl
  · exact amRun_b 1 (x := .inr (some (vU, M))) rfl
theorem q_X12_notes_31 (d : Nat) (l1 : Int) (l2 : Int) (l3 : Int) (M : AmM) : e_X12_notes_31 d l1 l2 l3 M =
    if 0 < l3 then (if l1 < 0 then (if (0 : Int) ≤ l3 ∧ l3 < 25 then (if M 164 0 (l3).toNat = 0 then (e_X12_notes_31 d l1 l2 (w32 (l3 + (-1))) M) else (if (0 : Int) ≤ l3 ∧ l3 < 100 then (if M 160 0 (l3).toNat = 0 then (e_X12_notes_31 d l1 l3 (w32 (l3 + (-1))) M) else (e_X12_notes_31 d l1 l2 (w32 (l3 + (-1))) M)) else none)) else none) else (e_X12_notes_65 d l1 l2 l3 M)) else (e_X12_notes_65 d l1 l2 l3 M) := by
  show amRun _ _ = _
  refine (amRun_t (f := amStep amGst (amD amGst d) cdX12_notes) 1 (x := if 0 < l3 then .inl (35, [vR 12 12 0, vI l1, vI l2, vI l3], [], M) else .inl (65, [vR 12 12 0, vI l1, vI l2, vI l3], [], M)) rfl).trans (amK_if ?_ ?_)
  · refine (amRun_t (f := amStep amGst (amD amGst d) cdX12_notes) 1 (x := if l1 < 0 then .inl (39, [vR 12 12 0, vI l1, vI l2, vI l3], [], M) else .inl (65, [vR 12 12 0, vI l1, vI l2, vI l3], [], M)) rfl).trans (amK_if ?_ ?_)
    · refine (amRun_t (f := amStep amGst (amD amGst d) cdX12_notes) 3 (x := if (0 : Int) ≤ l3 ∧ l3 < 25 then .inl (45, [vR 12 12 0, vI l1, vI l2, vI l3], [vI (M 164 0 (l3).toNat)], M) else amNo) rfl).trans (amK_if ?_ rfl)
      refine (amRun_t (f := amStep amGst (amD amGst d) cdX12_notes) 0 (x := if M 164 0 (l3).toNat = 0 then .inl (59, [vR 12 12 0, vI l1, vI l2, vI l3], [], M) else .inl (48, [vR 12 12 0, vI l1, vI l2, vI l3], [], M)) rfl).trans (amK_if ?_ ?_)
      · exact amRun_b 2 (x := .inl (31, [vR 12 12 0, vI l1, vI l2, vI (w32 (l3 + (-1)))], [], M)) rfl
      · refine (amRun_t (f := amStep amGst (amD amGst d) cdX12_notes) 3 (x := if (0 : Int) ≤ l3 ∧ l3 < 100 then .inl (54, [vR 12 12 0, vI l1, vI l2, vI l3], [vI (M 160 0 (l3).toNat)], M) else amNo) rfl).trans (amK_if ?_ rfl)
        refine (amRun_t (f := amStep amGst (amD amGst d) cdX12_notes) 0 (x := if M 160 0 (l3).toNat = 0 then .inl (57, [vR 12 12 0, vI l1, vI l2, vI l3], [], M) else .inl (59, [vR 12 12 0, vI l1, vI l2, vI l3], [], M)) rfl).trans (amK_if ?_ ?_)
        · exact amRun_b 4 (x := .inl (31, [vR 12 12 0, vI l1, vI l3, vI (w32 (l3 + (-1)))], [], M)) rfl
        · exact amRun_b 2 (x := .inl (31, [vR 12 12 0, vI l1, vI l2, vI (w32 (l3 + (-1)))], [], M)) rfl
    · exact amRun_b 0 (x := .inl (65, [vR 12 12 0, vI l1, vI l2, vI l3], [], M)) rfl
  · exact amRun_b 0 (x := .inl (65, [vR 12 12 0, vI l1, vI l2, vI l3], [], M)) rfl
theorem q_X12_notes_65 (d : Nat) (l1 : Int) (l2 : Int) (l3 : Int) (M : AmM) : e_X12_notes_65 d l1 l2 l3 M =
    if l2 < 0 then (some (vU, M)) else (if (0 : Int) ≤ 83 ∧ (83 : Int) < 100 then (some (vU, amUp (amUp (amUp M 12 0 60 (M 160 0 83)) 12 0 61 l2) 12 0 62 l1)) else none) := by
  show amRun _ _ = _
  refine (amRun_t (f := amStep amGst (amD amGst d) cdX12_notes) 1 (x := if l2 < 0 then .inl (69, [vR 12 12 0, vI l1, vI l2, vI l3], [], M) else .inl (70, [vR 12 12 0, vI l1, vI l2, vI l3], [], M)) rfl).trans (amK_if ?_ ?_)
  · exact amRun_b 1 (x := .inr (some (vU, M))) rfl
  · refine (amRun_t (f := amStep amGst (amD amGst d) cdX12_notes) 4 (x := if (0 : Int) ≤ 83 ∧ (83 : Int) < 100 then .inl (78, [vR 12 12 0, vI l1, vI l2, vI l3], [vI (M 160 0 83), vR 12 12 0], M) else amNo) rfl).trans (amK_if ?_ rfl)
    exact amRun_b 8 (x := .inr (some (vU, amUp (amUp (amUp M 12 0 60 (M 160 0 83)) 12 0 61 l2) 12 0 62 l1))) rfl
theorem n_X12_notes (d : Nat) (l1 : Int) (M : AmM) : amD amGst (d + 1) 225 [vR 12 12 0, vI l1] M = e_X12_notes_0 d l1 M := rfl
noncomputable def e_X12_season_0 (d : Nat) (l1 : Int) (l2 : Int) (M : AmM) : Option (AmV × AmM) := amRun (amStep amGst (amD amGst d) cdX12_season) (0, [vR 12 12 0, vI l1, vI l2, vU, vU], [], M)
noncomputable def e_X12_season_32 (d : Nat) (l1 : Int) (l2 : Int) (l3 : Int) (u4 : AmV) (M : AmM) : Option (AmV × AmM) := amRun (amStep amGst (amD amGst d) cdX12_season) (32, [vR 12 12 0, vI l1, vI l2, vI l3, u4], [], M)
noncomputable def e_X12_season_40 (d : Nat) (l1 : Int) (l2 : Int) (l3 : Int) (l4 : Int) (M : AmM) : Option (AmV × AmM) := amRun (amStep amGst (amD amGst d) cdX12_season) (40, [vR 12 12 0, vI l1, vI l2, vI l3, vI l4], [], M)
theorem q_X12_season_0 (d : Nat) (l1 : Int) (l2 : Int) (M : AmM) : e_X12_season_0 d l1 l2 M =
    amCI (amD amGst d 179 [vI l1, vI 1, vI 100] M) fun v1 M1 => if v1 = 0 then (some (vI (-1), M1)) else (amCI (amD amGst d 179 [vI l2, vI 0, vI 3] M1) fun v2 M2 => if v2 = 0 then (some (vI (-1), M2)) else (amCV (amD amGst d 186 [vR 12 12 0] M2) fun M3 => e_X12_season_32 d l1 l2 0 vU (amUp M3 12 0 60 (-1)))) := by
  show amRun _ _ = _
  refine (amRun_t (f := amStep amGst (amD amGst d) cdX12_season) 3 (x := amPu 1 (amD amGst d 179 [vI l1, vI 1, vI 100] M) (fun z9 M9 => .inl (7, [vR 12 12 0, vI l1, vI l2, vU, vU], z9 ++ [], M9))) rfl).trans (amK_pI fun v1 M1 => ?_)
  refine (amRun_t (f := amStep amGst (amD amGst d) cdX12_season) 0 (x := if v1 = 0 then .inl (19, [vR 12 12 0, vI l1, vI l2, vU, vU], [], M1) else .inl (10, [vR 12 12 0, vI l1, vI l2, vU, vU], [], M1)) rfl).trans (amK_if ?_ ?_)
  · exact amRun_b 2 (x := .inr (some (vI (-1), M1))) rfl
  · refine (amRun_t (f := amStep amGst (amD amGst d) cdX12_season) 3 (x := amPu 1 (amD amGst d 179 [vI l2, vI 0, vI 3] M1) (fun z9 M9 => .inl (16, [vR 12 12 0, vI l1, vI l2, vU, vU], z9 ++ [], M9))) rfl).trans (amK_pI fun v2 M2 => ?_)
    refine (amRun_t (f := amStep amGst (amD amGst d) cdX12_season) 0 (x := if v2 = 0 then .inl (19, [vR 12 12 0, vI l1, vI l2, vU, vU], [], M2) else .inl (21, [vR 12 12 0, vI l1, vI l2, vU, vU], [], M2)) rfl).trans (amK_if ?_ ?_)
    · exact amRun_b 2 (x := .inr (some (vI (-1), M2))) rfl
    · refine (amRun_t (f := amStep amGst (amD amGst d) cdX12_season) 1 (x := amPu 0 (amD amGst d 186 [vR 12 12 0] M2) (fun z9 M9 => .inl (25, [vR 12 12 0, vI l1, vI l2, vU, vU], z9 ++ [], M9))) rfl).trans (amK_pV fun M3 => ?_)
      exact amRun_b 5 (x := .inl (32, [vR 12 12 0, vI l1, vI l2, vI 0, vU], [], amUp M3 12 0 60 (-1))) rfl
theorem q_X12_season_32 (d : Nat) (l1 : Int) (l2 : Int) (l3 : Int) (u4 : AmV) (M : AmM) : e_X12_season_32 d l1 l2 l3 u4 M =
    if l3 < l1 then (e_X12_season_40 d l1 l2 l3 0 M) else (if l2 = 3 then (amCI (amD amGst d 227 [vR 12 12 0] M) fun v1 M1 => some (vI v1, M1)) else (if M 12 0 60 < 0 then (some (vI (-3), M)) else (if l2 = 0 then (if (0 : Int) ≤ 83 ∧ (83 : Int) < 100 then (some (vI (w32 ((M 12 0 60) - (M 159 0 83))), M)) else none) else (if l2 = 1 then (some (vI (M 12 0 61), M)) else (some (vI (M 12 0 62), M)))))) := by
  show amRun _ _ = _
  refine (amRun_t (f := amStep amGst (amD amGst d) cdX12_season) 2 (x := if l3 < l1 then .inl (37, [vR 12 12 0, vI l1, vI l2, vI l3, u4], [], M) else .inl (131, [vR 12 12 0, vI l1, vI l2, vI l3, u4], [], M)) rfl).trans (amK_if ?_ ?_)
  · exact amRun_b 2 (x := .inl (40, [vR 12 12 0, vI l1, vI l2, vI l3, vI 0], [], M)) rfl
  · refine (amRun_t (f := amStep amGst (amD amGst d) cdX12_season) 2 (x := if l2 = 3 then .inl (136, [vR 12 12 0, vI l1, vI l2, vI l3, u4], [], M) else .inl (141, [vR 12 12 0, vI l1, vI l2, vI l3, u4], [], M)) rfl).trans (amK_if ?_ ?_)
    · refine (amRun_t (f := amStep amGst (amD amGst d) cdX12_season) 1 (x := amPu 1 (amD amGst d 227 [vR 12 12 0] M) (fun z9 M9 => .inl (140, [vR 12 12 0, vI l1, vI l2, vI l3, u4], z9 ++ [], M9))) rfl).trans (amK_pI fun v1 M1 => ?_)
      exact amRun_b 1 (x := .inr (some (vI v1, M1))) rfl
    · refine (amRun_t (f := amStep amGst (amD amGst d) cdX12_season) 2 (x := if M 12 0 60 < 0 then .inl (148, [vR 12 12 0, vI l1, vI l2, vI l3, u4], [], M) else .inl (151, [vR 12 12 0, vI l1, vI l2, vI l3, u4], [], M)) rfl).trans (amK_if ?_ ?_)
      · exact amRun_b 2 (x := .inr (some (vI (-3), M))) rfl
      · refine (amRun_t (f := amStep amGst (amD amGst d) cdX12_season) 1 (x := if l2 = 0 then .inl (155, [vR 12 12 0, vI l1, vI l2, vI l3, u4], [], M) else .inl (170, [vR 12 12 0, vI l1, vI l2, vI l3, u4], [], M)) rfl).trans (amK_if ?_ ?_)
        · refine (amRun_t (f := amStep amGst (amD amGst d) cdX12_season) 5 (x := if (0 : Int) ≤ 83 ∧ (83 : Int) < 100 then .inl (166, [vR 12 12 0, vI l1, vI l2, vI l3, u4], [vI (M 159 0 83), vI (M 12 0 60)], M) else amNo) rfl).trans (amK_if ?_ rfl)
          exact amRun_b 3 (x := .inr (some (vI (w32 ((M 12 0 60) - (M 159 0 83))), M))) rfl
        · refine (amRun_t (f := amStep amGst (amD amGst d) cdX12_season) 2 (x := if l2 = 1 then .inl (175, [vR 12 12 0, vI l1, vI l2, vI l3, u4], [], M) else .inl (182, [vR 12 12 0, vI l1, vI l2, vI l3, u4], [], M)) rfl).trans (amK_if ?_ ?_)
          · exact amRun_b 4 (x := .inr (some (vI (M 12 0 61), M))) rfl
          · exact amRun_b 3 (x := .inr (some (vI (M 12 0 62), M))) rfl
theorem q_X12_season_40 (d : Nat) (l1 : Int) (l2 : Int) (l3 : Int) (l4 : Int) (M : AmM) : e_X12_season_40 d l1 l2 l3 l4 M =
    amCI (amD amGst d 181 [vR 12 12 0] M) fun v1 M1 => if l4 < v1 then (if (0 : Int) ≤ w32 (50 + l4) ∧ w32 (50 + l4) < 100 then (if M1 160 0 (w32 (50 + l4)).toNat = 0 then (amCI (amD amGst d 195 [vR 12 12 0, vI l4] (amUp M1 12 0 51 (-1))) fun v2 M2 => amCV (amD amGst d 225 [vR 12 12 0, vI l4] M2) fun M3 => e_X12_season_40 d l1 l2 l3 (w32 (l4 + 1)) M3) else (e_X12_season_40 d l1 l2 l3 (w32 (l4 + 1)) M1)) else none) else (amCV (amD amGst d 224 [vR 12 12 0] M1) fun M4 => amCV (amD amGst d 203 [vR 12 12 0] M4) fun M5 => if (0 : Int) ≤ 83 ∧ (83 : Int) < 100 then (if (0 : Int) ≤ 83 ∧ (83 : Int) < 100 then (amCV (amD amGst d 225 [vR 12 12 0, vI (-2)] (amUp M5 160 0 83 (w32 ((M5 160 0 83) - 1)))) fun M6 => if (0 : Int) ≤ 83 ∧ (83 : Int) < 100 then (if (0 : Int) ≤ 83 ∧ (83 : Int) < 100 then (e_X12_season_32 d l1 l2 (w32 (l3 + 1)) (vI l4) (amUp M6 160 0 83 (w32 ((M6 160 0 83) + 1)))) else none) else none) else none) else none) := by
  show amRun _ _ = _
  refine (amRun_t (f := amStep amGst (amD amGst d) cdX12_season) 2 (x := amPu 1 (amD amGst d 181 [vR 12 12 0] M) (fun z9 M9 => .inl (46, [vR 12 12 0, vI l1, vI l2, vI l3, vI l4], z9 ++ [vI l4], M9))) rfl).trans (amK_pI fun v1 M1 => ?_)
  refine (amRun_t (f := amStep amGst (amD amGst d) cdX12_season) 0 (x := if l4 < v1 then .inl (49, [vR 12 12 0, vI l1, vI l2, vI l3, vI l4], [], M1) else .inl (89, [vR 12 12 0, vI l1, vI l2, vI l3, vI l4], [], M1)) rfl).trans (amK_if ?_ ?_)
  · refine (amRun_t (f := amStep amGst (amD amGst d) cdX12_season) 5 (x := if (0 : Int) ≤ w32 (50 + l4) ∧ w32 (50 + l4) < 100 then .inl (59, [vR 12 12 0, vI l1, vI l2, vI l3, vI l4], [vI (M1 160 0 (w32 (50 + l4)).toNat)], M1) else amNo) rfl).trans (amK_if ?_ rfl)
    refine (amRun_t (f := amStep amGst (amD amGst d) cdX12_season) 0 (x := if M1 160 0 (w32 (50 + l4)).toNat = 0 then .inl (65, [vR 12 12 0, vI l1, vI l2, vI l3, vI l4], [], M1) else .inl (62, [vR 12 12 0, vI l1, vI l2, vI l3, vI l4], [], M1)) rfl).trans (amK_if ?_ ?_)
    · refine (amRun_t (f := amStep amGst (amD amGst d) cdX12_season) 5 (x := amPu 1 (amD amGst d 195 [vR 12 12 0, vI l4] (amUp M1 12 0 51 (-1))) (fun z9 M9 => .inl (76, [vR 12 12 0, vI l1, vI l2, vI l3, vI l4], z9 ++ [], M9))) rfl).trans (amK_pI fun v2 M2 => ?_)
      refine (amRun_t (f := amStep amGst (amD amGst d) cdX12_season) 3 (x := amPu 0 (amD amGst d 225 [vR 12 12 0, vI l4] M2) (fun z9 M9 => .inl (83, [vR 12 12 0, vI l1, vI l2, vI l3, vI l4], z9 ++ [], M9))) rfl).trans (amK_pV fun M3 => ?_)
      exact amRun_b 2 (x := .inl (40, [vR 12 12 0, vI l1, vI l2, vI l3, vI (w32 (l4 + 1))], [], M3)) rfl
    · exact amRun_b 3 (x := .inl (40, [vR 12 12 0, vI l1, vI l2, vI l3, vI (w32 (l4 + 1))], [], M1)) rfl
  · refine (amRun_t (f := amStep amGst (amD amGst d) cdX12_season) 1 (x := amPu 0 (amD amGst d 224 [vR 12 12 0] M1) (fun z9 M9 => .inl (93, [vR 12 12 0, vI l1, vI l2, vI l3, vI l4], z9 ++ [], M9))) rfl).trans (amK_pV fun M4 => ?_)
    refine (amRun_t (f := amStep amGst (amD amGst d) cdX12_season) 1 (x := amPu 0 (amD amGst d 203 [vR 12 12 0] M4) (fun z9 M9 => .inl (97, [vR 12 12 0, vI l1, vI l2, vI l3, vI l4], z9 ++ [], M9))) rfl).trans (amK_pV fun M5 => ?_)
    refine (amRun_t (f := amStep amGst (amD amGst d) cdX12_season) 4 (x := if (0 : Int) ≤ 83 ∧ (83 : Int) < 100 then .inl (105, [vR 12 12 0, vI l1, vI l2, vI l3, vI l4], [vI (M5 160 0 83), vI 83, vR 20 160 0], M5) else amNo) rfl).trans (amK_if ?_ rfl)
    refine (amRun_t (f := amStep amGst (amD amGst d) cdX12_season) 2 (x := if (0 : Int) ≤ 83 ∧ (83 : Int) < 100 then .inl (108, [vR 12 12 0, vI l1, vI l2, vI l3, vI l4], [], amUp M5 160 0 83 (w32 ((M5 160 0 83) - 1))) else amNo) rfl).trans (amK_if ?_ rfl)
    refine (amRun_t (f := amStep amGst (amD amGst d) cdX12_season) 2 (x := amPu 0 (amD amGst d 225 [vR 12 12 0, vI (-2)] (amUp M5 160 0 83 (w32 ((M5 160 0 83) - 1)))) (fun z9 M9 => .inl (114, [vR 12 12 0, vI l1, vI l2, vI l3, vI l4], z9 ++ [], M9))) rfl).trans (amK_pV fun M6 => ?_)
    refine (amRun_t (f := amStep amGst (amD amGst d) cdX12_season) 4 (x := if (0 : Int) ≤ 83 ∧ (83 : Int) < 100 then .inl (122, [vR 12 12 0, vI l1, vI l2, vI l3, vI l4], [vI (M6 160 0 83), vI 83, vR 20 160 0], M6) else amNo) rfl).trans (amK_if ?_ rfl)
    refine (amRun_t (f := amStep amGst (amD amGst d) cdX12_season) 2 (x := if (0 : Int) ≤ 83 ∧ (83 : Int) < 100 then .inl (125, [vR 12 12 0, vI l1, vI l2, vI l3, vI l4], [], amUp M6 160 0 83 (w32 ((M6 160 0 83) + 1))) else amNo) rfl).trans (amK_if ?_ rfl)
    exact amRun_b 2 (x := .inl (32, [vR 12 12 0, vI l1, vI l2, vI (w32 (l3 + 1)), vI l4], [], amUp M6 160 0 83 (w32 ((M6 160 0 83) + 1)))) rfl
theorem n_X12_season (d : Nat) (l1 : Int) (l2 : Int) (M : AmM) : amD amGst (d + 1) 226 [vR 12 12 0, vI l1, vI l2] M = e_X12_season_0 d l1 l2 M := rfl
noncomputable def e_X12_stuckNow_0 (d : Nat) (M : AmM) : Option (AmV × AmM) := amRun (amStep amGst (amD amGst d) cdX12_stuckNow) (0, [vR 12 12 0, vU, vU], [], M)
noncomputable def e_X12_stuckNow_4 (d : Nat) (l1 : Int) (l2 : Int) (M : AmM) : Option (AmV × AmM) := amRun (amStep amGst (amD amGst d) cdX12_stuckNow) (4, [vR 12 12 0, vI l1, vI l2], [], M)
theorem q_X12_stuckNow_0 (d : Nat) (M : AmM) : e_X12_stuckNow_0 d M =
    e_X12_stuckNow_4 d 0 0 M := by
  show amRun _ _ = _
  exact amRun_b 4 (x := .inl (4, [vR 12 12 0, vI 0, vI 0], [], M)) rfl
theorem q_X12_stuckNow_4 (d : Nat) (l1 : Int) (l2 : Int) (M : AmM) : e_X12_stuckNow_4 d l1 l2 M =
    amCI (amD amGst d 181 [vR 12 12 0] M) fun v1 M1 => if l2 < v1 then (if (0 : Int) ≤ w32 (74 + l2) ∧ w32 (74 + l2) < 100 then (e_X12_stuckNow_4 d (w32 (l1 + (M1 160 0 (w32 (74 + l2)).toNat))) (w32 (l2 + 1)) M1) else none) else (some (vI l1, M1)) := by
  show amRun _ _ = _
  refine (amRun_t (f := amStep amGst (amD amGst d) cdX12_stuckNow) 2 (x := amPu 1 (amD amGst d 181 [vR 12 12 0] M) (fun z9 M9 => .inl (9, [vR 12 12 0, vI l1, vI l2], z9 ++ [vI l2], M9))) rfl).trans (amK_pI fun v1 M1 => ?_)
  refine (amRun_t (f := amStep amGst (amD amGst d) cdX12_stuckNow) 0 (x := if l2 < v1 then .inl (12, [vR 12 12 0, vI l1, vI l2], [], M1) else .inl (30, [vR 12 12 0, vI l1, vI l2], [], M1)) rfl).trans (amK_if ?_ ?_)
  · refine (amRun_t (f := amStep amGst (amD amGst d) cdX12_stuckNow) 6 (x := if (0 : Int) ≤ w32 (74 + l2) ∧ w32 (74 + l2) < 100 then .inl (22, [vR 12 12 0, vI l1, vI l2], [vI (M1 160 0 (w32 (74 + l2)).toNat), vI l1], M1) else amNo) rfl).trans (amK_if ?_ rfl)
    exact amRun_b 4 (x := .inl (4, [vR 12 12 0, vI (w32 (l1 + (M1 160 0 (w32 (74 + l2)).toNat))), vI (w32 (l2 + 1))], [], M1)) rfl
  · exact amRun_b 2 (x := .inr (some (vI l1, M1))) rfl
theorem n_X12_stuckNow (d : Nat) (M : AmM) : amD amGst (d + 1) 227 [vR 12 12 0] M = e_X12_stuckNow_0 d M := rfl
noncomputable def e_X12_leastFor_0 (d : Nat) (l1 : Int) (l2 : Int) (l3 : Int) (M : AmM) : Option (AmV × AmM) := amRun (amStep amGst (amD amGst d) cdX12_leastFor) (0, [vR 12 12 0, vI l1, vI l2, vI l3, vU], [], M)
noncomputable def e_X12_leastFor_3 (d : Nat) (l1 : Int) (l2 : Int) (l3 : Int) (l4 : Int) (M : AmM) : Option (AmV × AmM) := amRun (amStep amGst (amD amGst d) cdX12_leastFor) (3, [vR 12 12 0, vI l1, vI l2, vI l3, vI l4], [], M)
theorem q_X12_leastFor_0 (d : Nat) (l1 : Int) (l2 : Int) (l3 : Int) (M : AmM) : e_X12_leastFor_0 d l1 l2 l3 M =
    e_X12_leastFor_3 d l1 l2 l3 0 M := by
  show amRun _ _ = _
  exact amRun_b 2 (x := .inl (3, [vR 12 12 0, vI l1, vI l2, vI l3, vI 0], [], M)) rfl
theorem q_X12_leastFor_3 (d : Nat) (l1 : Int) (l2 : Int) (l3 : Int) (l4 : Int) (M : AmM) : e_X12_leastFor_3 d l1 l2 l3 l4 M =
    if (0 : Int) ≤ l2 ∧ l2 < 100 then (if (0 : Int) ≤ w32 ((w32 (25 * (M 12 0 18))) + l2) ∧ w32 ((w32 (25 * (M 12 0 18))) + l2) < 50 then (if M 138 0 (w32 ((w32 (25 * (M 12 0 18))) + l2)).toNat < w32 ((M 160 0 (l2).toNat) + l4) then (some (vI 1000000, M)) else (if (0 : Int) ≤ l2 ∧ l2 < 100 then (amCI (amD amGst d 214 [vR 12 12 0, vI l1, vI l2, vI (w32 ((M 160 0 (l2).toNat) + l4)), vI 0, vI l3] M) fun v1 M1 => if v1 < 0 then (e_X12_leastFor_3 d l1 l2 l3 (w32 (l4 + 1)) M1) else (some (vI l4, M1))) else none)) else none) else none := by
  show amRun _ _ = _
  refine (amRun_t (f := amStep amGst (amD amGst d) cdX12_leastFor) 3 (x := if (0 : Int) ≤ l2 ∧ l2 < 100 then .inl (9, [vR 12 12 0, vI l1, vI l2, vI l3, vI l4], [vI (M 160 0 (l2).toNat)], M) else amNo) rfl).trans (amK_if ?_ rfl)
  refine (amRun_t (f := amStep amGst (amD amGst d) cdX12_leastFor) 10 (x := if (0 : Int) ≤ w32 ((w32 (25 * (M 12 0 18))) + l2) ∧ w32 ((w32 (25 * (M 12 0 18))) + l2) < 50 then .inl (26, [vR 12 12 0, vI l1, vI l2, vI l3, vI l4], [vI (M 138 0 (w32 ((w32 (25 * (M 12 0 18))) + l2)).toNat), vI (w32 ((M 160 0 (l2).toNat) + l4))], M) else amNo) rfl).trans (amK_if ?_ rfl)
  refine (amRun_t (f := amStep amGst (amD amGst d) cdX12_leastFor) 0 (x := if M 138 0 (w32 ((w32 (25 * (M 12 0 18))) + l2)).toNat < w32 ((M 160 0 (l2).toNat) + l4) then .inl (58, [vR 12 12 0, vI l1, vI l2, vI l3, vI l4], [], M) else .inl (29, [vR 12 12 0, vI l1, vI l2, vI l3, vI l4], [], M)) rfl).trans (amK_if ?_ ?_)
  · exact amRun_b 2 (x := .inr (some (vI 1000000, M))) rfl
  · refine (amRun_t (f := amStep amGst (amD amGst d) cdX12_leastFor) 6 (x := if (0 : Int) ≤ l2 ∧ l2 < 100 then .inl (38, [vR 12 12 0, vI l1, vI l2, vI l3, vI l4], [vI (M 160 0 (l2).toNat), vI l2, vI l1, vR 12 12 0], M) else amNo) rfl).trans (amK_if ?_ rfl)
    refine (amRun_t (f := amStep amGst (amD amGst d) cdX12_leastFor) 4 (x := amPu 1 (amD amGst d 214 [vR 12 12 0, vI l1, vI l2, vI (w32 ((M 160 0 (l2).toNat) + l4)), vI 0, vI l3] M) (fun z9 M9 => .inl (46, [vR 12 12 0, vI l1, vI l2, vI l3, vI l4], z9 ++ [], M9))) rfl).trans (amK_pI fun v1 M1 => ?_)
    refine (amRun_t (f := amStep amGst (amD amGst d) cdX12_leastFor) 0 (x := if v1 < 0 then .inl (52, [vR 12 12 0, vI l1, vI l2, vI l3, vI l4], [], M1) else .inl (49, [vR 12 12 0, vI l1, vI l2, vI l3, vI l4], [], M1)) rfl).trans (amK_if ?_ ?_)
    · exact amRun_b 2 (x := .inl (3, [vR 12 12 0, vI l1, vI l2, vI l3, vI (w32 (l4 + 1))], [], M1)) rfl
    · exact amRun_b 2 (x := .inr (some (vI l4, M1))) rfl
theorem n_X12_leastFor (d : Nat) (l1 : Int) (l2 : Int) (l3 : Int) (M : AmM) : amD amGst (d + 1) 228 [vR 12 12 0, vI l1, vI l2, vI l3] M = e_X12_leastFor_0 d l1 l2 l3 M := rfl
noncomputable def e_X12_rescue_0 (d : Nat) (l1 : Int) (M : AmM) : Option (AmV × AmM) := amRun (amStep amGst (amD amGst d) cdX12_rescue) (0, [vR 12 12 0, vI l1, vU, vU, vU, vU, vU, vU], [], M)
noncomputable def e_X12_rescue_56 (d : Nat) (l1 : Int) (l2 : Int) (l3 : Int) (l4 : Int) (u5 : AmV) (u6 : AmV) (u7 : AmV) (M : AmM) : Option (AmV × AmM) := amRun (amStep amGst (amD amGst d) cdX12_rescue) (56, [vR 12 12 0, vI l1, vI l2, vI l3, vI l4, u5, u6, u7], [], M)
noncomputable def e_X12_rescue_86 (d : Nat) (l1 : Int) (l2 : Int) (l3 : Int) (l4 : Int) (u5 : AmV) (u6 : AmV) (u7 : AmV) (M : AmM) : Option (AmV × AmM) := amRun (amStep amGst (amD amGst d) cdX12_rescue) (86, [vR 12 12 0, vI l1, vI l2, vI l3, vI l4, u5, u6, u7], [], M)
noncomputable def e_X12_rescue_90 (d : Nat) (l1 : Int) (l2 : Int) (l3 : Int) (l4 : Int) (u5 : AmV) (u6 : AmV) (u7 : AmV) (M : AmM) : Option (AmV × AmM) := amRun (amStep amGst (amD amGst d) cdX12_rescue) (90, [vR 12 12 0, vI l1, vI l2, vI l3, vI l4, u5, u6, u7], [], M)
noncomputable def e_X12_rescue_122 (d : Nat) (l1 : Int) (l2 : Int) (l3 : Int) (l4 : Int) (l5 : Int) (u6 : AmV) (u7 : AmV) (M : AmM) : Option (AmV × AmM) := amRun (amStep amGst (amD amGst d) cdX12_rescue) (122, [vR 12 12 0, vI l1, vI l2, vI l3, vI l4, vI l5, u6, u7], [], M)
noncomputable def e_X12_rescue_189 (d : Nat) (l1 : Int) (l2 : Int) (l3 : Int) (l4 : Int) (l5 : Int) (l6 : Int) (u7 : AmV) (M : AmM) : Option (AmV × AmM) := amRun (amStep amGst (amD amGst d) cdX12_rescue) (189, [vR 12 12 0, vI l1, vI l2, vI l3, vI l4, vI l5, vI l6, u7], [], M)
theorem q_X12_rescue_0 (d : Nat) (l1 : Int) (M : AmM) : e_X12_rescue_0 d l1 M =
    amCI (amD amGst d 183 [vR 12 12 0, vI l1] M) fun v1 M1 => if v1 = 0 then (some (vI (-1), M1)) else (if (0 : Int) ≤ w32 (74 + l1) ∧ w32 (74 + l1) < 100 then (if M1 159 0 (w32 (74 + l1)).toNat = 0 then (some (vI (-1), M1)) else (amCV (amD amGst d 186 [vR 12 12 0] M1) fun M2 => amCI (amD amGst d 187 [vR 12 12 0] M2) fun v3 M3 => amCI (amD amGst d 184 [vR 12 12 0, vI l1] M3) fun v4 M4 => if v4 = 2 then (if (0 : Int) ≤ 0 ∧ (0 : Int) < 27 then (e_X12_rescue_56 d l1 v3 1 1 vU vU vU (amUp M4 165 0 0 0)) else none) else (if (0 : Int) ≤ 0 ∧ (0 : Int) < 27 then (e_X12_rescue_56 d l1 v3 0 1 vU vU vU (amUp M4 165 0 0 0)) else none))) else none) := by
  show amRun _ _ = _
  refine (amRun_t (f := amStep amGst (amD amGst d) cdX12_rescue) 2 (x := amPu 1 (amD amGst d 183 [vR 12 12 0, vI l1] M) (fun z9 M9 => .inl (5, [vR 12 12 0, vI l1, vU, vU, vU, vU, vU, vU], z9 ++ [], M9))) rfl).trans (amK_pI fun v1 M1 => ?_)
  refine (amRun_t (f := amStep amGst (amD amGst d) cdX12_rescue) 0 (x := if v1 = 0 then .inl (20, [vR 12 12 0, vI l1, vU, vU, vU, vU, vU, vU], [], M1) else .inl (8, [vR 12 12 0, vI l1, vU, vU, vU, vU, vU, vU], [], M1)) rfl).trans (amK_if ?_ ?_)
  · exact amRun_b 2 (x := .inr (some (vI (-1), M1))) rfl
  · refine (amRun_t (f := amStep amGst (amD amGst d) cdX12_rescue) 5 (x := if (0 : Int) ≤ w32 (74 + l1) ∧ w32 (74 + l1) < 100 then .inl (17, [vR 12 12 0, vI l1, vU, vU, vU, vU, vU, vU], [vI (M1 159 0 (w32 (74 + l1)).toNat)], M1) else amNo) rfl).trans (amK_if ?_ rfl)
    refine (amRun_t (f := amStep amGst (amD amGst d) cdX12_rescue) 0 (x := if M1 159 0 (w32 (74 + l1)).toNat = 0 then .inl (20, [vR 12 12 0, vI l1, vU, vU, vU, vU, vU, vU], [], M1) else .inl (22, [vR 12 12 0, vI l1, vU, vU, vU, vU, vU, vU], [], M1)) rfl).trans (amK_if ?_ ?_)
    · exact amRun_b 2 (x := .inr (some (vI (-1), M1))) rfl
    · refine (amRun_t (f := amStep amGst (amD amGst d) cdX12_rescue) 1 (x := amPu 0 (amD amGst d 186 [vR 12 12 0] M1) (fun z9 M9 => .inl (26, [vR 12 12 0, vI l1, vU, vU, vU, vU, vU, vU], z9 ++ [], M9))) rfl).trans (amK_pV fun M2 => ?_)
      refine (amRun_t (f := amStep amGst (amD amGst d) cdX12_rescue) 1 (x := amPu 1 (amD amGst d 187 [vR 12 12 0] M2) (fun z9 M9 => .inl (30, [vR 12 12 0, vI l1, vU, vU, vU, vU, vU, vU], z9 ++ [], M9))) rfl).trans (amK_pI fun v3 M3 => ?_)
      refine (amRun_t (f := amStep amGst (amD amGst d) cdX12_rescue) 3 (x := amPu 1 (amD amGst d 184 [vR 12 12 0, vI l1] M3) (fun z9 M9 => .inl (36, [vR 12 12 0, vI l1, vI v3, vU, vU, vU, vU, vU], z9 ++ [], M9))) rfl).trans (amK_pI fun v4 M4 => ?_)
      refine (amRun_t (f := amStep amGst (amD amGst d) cdX12_rescue) 1 (x := if v4 = 2 then .inl (40, [vR 12 12 0, vI l1, vI v3, vU, vU, vU, vU, vU], [], M4) else .inl (44, [vR 12 12 0, vI l1, vI v3, vU, vU, vU, vU, vU], [], M4)) rfl).trans (amK_if ?_ ?_)
      · refine (amRun_t (f := amStep amGst (amD amGst d) cdX12_rescue) 7 (x := if (0 : Int) ≤ 0 ∧ (0 : Int) < 27 then .inl (53, [vR 12 12 0, vI l1, vI v3, vI 1, vU, vU, vU, vU], [], amUp M4 165 0 0 0) else amNo) rfl).trans (amK_if ?_ rfl)
        exact amRun_b 2 (x := .inl (56, [vR 12 12 0, vI l1, vI v3, vI 1, vI 1, vU, vU, vU], [], amUp M4 165 0 0 0)) rfl
      · refine (amRun_t (f := amStep amGst (amD amGst d) cdX12_rescue) 6 (x := if (0 : Int) ≤ 0 ∧ (0 : Int) < 27 then .inl (53, [vR 12 12 0, vI l1, vI v3, vI 0, vU, vU, vU, vU], [], amUp M4 165 0 0 0) else amNo) rfl).trans (amK_if ?_ rfl)
        exact amRun_b 2 (x := .inl (56, [vR 12 12 0, vI l1, vI v3, vI 0, vI 1, vU, vU, vU], [], amUp M4 165 0 0 0)) rfl
theorem q_X12_rescue_56 (d : Nat) (l1 : Int) (l2 : Int) (l3 : Int) (l4 : Int) (u5 : AmV) (u6 : AmV) (u7 : AmV) (M : AmM) : e_X12_rescue_56 d l1 l2 l3 l4 u5 u6 u7 M =
    if (0 : Int) ≤ w32 (50 + l1) ∧ w32 (50 + l1) < 100 then (if M 160 0 (w32 (50 + l1)).toNat < l4 then (if (0 : Int) ≤ w32 (50 + l1) ∧ w32 (50 + l1) < 100 then (if (0 : Int) ≤ M 160 0 (w32 (50 + l1)).toNat ∧ M 160 0 (w32 (50 + l1)).toNat < 27 then (if M 165 0 (M 160 0 (w32 (50 + l1)).toNat).toNat = 1000000 then (some (vI (-2), M)) else (if (0 : Int) ≤ w32 (50 + l1) ∧ w32 (50 + l1) < 100 then (if (0 : Int) ≤ M 160 0 (w32 (50 + l1)).toNat ∧ M 160 0 (w32 (50 + l1)).toNat < 27 then (some (vI (M 165 0 (M 160 0 (w32 (50 + l1)).toNat).toNat), M)) else none) else none)) else none) else none) else (if l4 = 1 then (e_X12_rescue_86 d l1 l2 l3 l4 u5 u6 u7 M) else (if l3 = 0 then (e_X12_rescue_90 d l1 l2 l3 l4 u5 u6 u7 M) else (if l4 = 2 then (e_X12_rescue_86 d l1 l2 l3 l4 u5 u6 u7 M) else (e_X12_rescue_90 d l1 l2 l3 l4 u5 u6 u7 M))))) else none := by
  show amRun _ _ = _
  refine (amRun_t (f := amStep amGst (amD amGst d) cdX12_rescue) 6 (x := if (0 : Int) ≤ w32 (50 + l1) ∧ w32 (50 + l1) < 100 then .inl (67, [vR 12 12 0, vI l1, vI l2, vI l3, vI l4, u5, u6, u7], [vI (M 160 0 (w32 (50 + l1)).toNat), vI l4], M) else amNo) rfl).trans (amK_if ?_ rfl)
  refine (amRun_t (f := amStep amGst (amD amGst d) cdX12_rescue) 0 (x := if M 160 0 (w32 (50 + l1)).toNat < l4 then .inl (227, [vR 12 12 0, vI l1, vI l2, vI l3, vI l4, u5, u6, u7], [], M) else .inl (70, [vR 12 12 0, vI l1, vI l2, vI l3, vI l4, u5, u6, u7], [], M)) rfl).trans (amK_if ?_ ?_)
  · refine (amRun_t (f := amStep amGst (amD amGst d) cdX12_rescue) 7 (x := if (0 : Int) ≤ w32 (50 + l1) ∧ w32 (50 + l1) < 100 then .inl (240, [vR 12 12 0, vI l1, vI l2, vI l3, vI l4, u5, u6, u7], [vI (M 160 0 (w32 (50 + l1)).toNat), vR 20 165 0], M) else amNo) rfl).trans (amK_if ?_ rfl)
    refine (amRun_t (f := amStep amGst (amD amGst d) cdX12_rescue) 0 (x := if (0 : Int) ≤ M 160 0 (w32 (50 + l1)).toNat ∧ M 160 0 (w32 (50 + l1)).toNat < 27 then .inl (241, [vR 12 12 0, vI l1, vI l2, vI l3, vI l4, u5, u6, u7], [vI (M 165 0 (M 160 0 (w32 (50 + l1)).toNat).toNat)], M) else amNo) rfl).trans (amK_if ?_ rfl)
    refine (amRun_t (f := amStep amGst (amD amGst d) cdX12_rescue) 1 (x := if M 165 0 (M 160 0 (w32 (50 + l1)).toNat).toNat = 1000000 then .inl (247, [vR 12 12 0, vI l1, vI l2, vI l3, vI l4, u5, u6, u7], [], M) else .inl (252, [vR 12 12 0, vI l1, vI l2, vI l3, vI l4, u5, u6, u7], [], M)) rfl).trans (amK_if ?_ ?_)
    · exact amRun_b 3 (x := .inr (some (vI (-2), M))) rfl
    · refine (amRun_t (f := amStep amGst (amD amGst d) cdX12_rescue) 7 (x := if (0 : Int) ≤ w32 (50 + l1) ∧ w32 (50 + l1) < 100 then .inl (265, [vR 12 12 0, vI l1, vI l2, vI l3, vI l4, u5, u6, u7], [vI (M 160 0 (w32 (50 + l1)).toNat), vR 20 165 0], M) else amNo) rfl).trans (amK_if ?_ rfl)
      refine (amRun_t (f := amStep amGst (amD amGst d) cdX12_rescue) 0 (x := if (0 : Int) ≤ M 160 0 (w32 (50 + l1)).toNat ∧ M 160 0 (w32 (50 + l1)).toNat < 27 then .inl (266, [vR 12 12 0, vI l1, vI l2, vI l3, vI l4, u5, u6, u7], [vI (M 165 0 (M 160 0 (w32 (50 + l1)).toNat).toNat)], M) else amNo) rfl).trans (amK_if ?_ rfl)
      exact amRun_b 1 (x := .inr (some (vI (M 165 0 (M 160 0 (w32 (50 + l1)).toNat).toNat), M))) rfl
  · refine (amRun_t (f := amStep amGst (amD amGst d) cdX12_rescue) 2 (x := if l4 = 1 then .inl (86, [vR 12 12 0, vI l1, vI l2, vI l3, vI l4, u5, u6, u7], [], M) else .inl (76, [vR 12 12 0, vI l1, vI l2, vI l3, vI l4, u5, u6, u7], [], M)) rfl).trans (amK_if ?_ ?_)
    · exact amRun_b 0 (x := .inl (86, [vR 12 12 0, vI l1, vI l2, vI l3, vI l4, u5, u6, u7], [], M)) rfl
    · refine (amRun_t (f := amStep amGst (amD amGst d) cdX12_rescue) 1 (x := if l3 = 0 then .inl (90, [vR 12 12 0, vI l1, vI l2, vI l3, vI l4, u5, u6, u7], [], M) else .inl (80, [vR 12 12 0, vI l1, vI l2, vI l3, vI l4, u5, u6, u7], [], M)) rfl).trans (amK_if ?_ ?_)
      · exact amRun_b 0 (x := .inl (90, [vR 12 12 0, vI l1, vI l2, vI l3, vI l4, u5, u6, u7], [], M)) rfl
      · refine (amRun_t (f := amStep amGst (amD amGst d) cdX12_rescue) 2 (x := if l4 = 2 then .inl (86, [vR 12 12 0, vI l1, vI l2, vI l3, vI l4, u5, u6, u7], [], M) else .inl (90, [vR 12 12 0, vI l1, vI l2, vI l3, vI l4, u5, u6, u7], [], M)) rfl).trans (amK_if ?_ ?_)
        · exact amRun_b 0 (x := .inl (86, [vR 12 12 0, vI l1, vI l2, vI l3, vI l4, u5, u6, u7], [], M)) rfl
        · exact amRun_b 0 (x := .inl (90, [vR 12 12 0, vI l1, vI l2, vI l3, vI l4, u5, u6, u7], [], M)) rfl
theorem q_X12_rescue_86 (d : Nat) (l1 : Int) (l2 : Int) (l3 : Int) (l4 : Int) (u5 : AmV) (u6 : AmV) (u7 : AmV) (M : AmM) : e_X12_rescue_86 d l1 l2 l3 l4 u5 u6 u7 M =
    if l3 = 0 then (e_X12_rescue_122 d l1 l2 l3 l4 0 u6 u7 M) else (if l4 < 3 then (e_X12_rescue_122 d l1 l2 l3 l4 0 u6 u7 M) else (amCI (amD amGst d 228 [vR 12 12 0, vI l1, vI (w32 (l4 - 2)), vI l2] M) fun v1 M1 => if (0 : Int) ≤ w32 (l4 - 2) ∧ w32 (l4 - 2) < 27 then (if (0 : Int) ≤ w32 (l4 - 2) ∧ w32 (l4 - 2) < 100 then (if 0 < M1 160 0 (w32 (l4 - 2)).toNat then (e_X12_rescue_189 d l1 l2 l3 l4 0 (w32 (v1 + (M1 165 0 (w32 (l4 - 2)).toNat))) u7 M1) else (if w32 (v1 + (M1 165 0 (w32 (l4 - 2)).toNat)) < 0 then (e_X12_rescue_189 d l1 l2 l3 l4 0 (w32 (v1 + (M1 165 0 (w32 (l4 - 2)).toNat))) u7 M1) else (if (0 : Int) < 1000000 then (if (0 : Int) ≤ l4 ∧ l4 < 27 then (e_X12_rescue_56 d l1 l2 l3 (w32 (l4 + 1)) (vI 0) (vI (w32 (v1 + (M1 165 0 (w32 (l4 - 2)).toNat)))) (vI 0) (amUp M1 165 0 (l4).toNat 0)) else none) else (if (0 : Int) ≤ l4 ∧ l4 < 27 then (e_X12_rescue_56 d l1 l2 l3 (w32 (l4 + 1)) (vI 0) (vI (w32 (v1 + (M1 165 0 (w32 (l4 - 2)).toNat)))) (vI 0) (amUp M1 165 0 (l4).toNat 1000000)) else none)))) else none) else none)) := by
  show amRun _ _ = _
  refine (amRun_t (f := amStep amGst (amD amGst d) cdX12_rescue) 4 (x := if l3 = 0 then .inl (122, [vR 12 12 0, vI l1, vI l2, vI l3, vI l4, vI 0, u6, u7], [], M) else .inl (116, [vR 12 12 0, vI l1, vI l2, vI l3, vI l4, vI 0, u6, u7], [], M)) rfl).trans (amK_if ?_ ?_)
  · exact amRun_b 0 (x := .inl (122, [vR 12 12 0, vI l1, vI l2, vI l3, vI l4, vI 0, u6, u7], [], M)) rfl
  · refine (amRun_t (f := amStep amGst (amD amGst d) cdX12_rescue) 2 (x := if l4 < 3 then .inl (122, [vR 12 12 0, vI l1, vI l2, vI l3, vI l4, vI 0, u6, u7], [], M) else .inl (148, [vR 12 12 0, vI l1, vI l2, vI l3, vI l4, vI 0, u6, u7], [], M)) rfl).trans (amK_if ?_ ?_)
    · exact amRun_b 0 (x := .inl (122, [vR 12 12 0, vI l1, vI l2, vI l3, vI l4, vI 0, u6, u7], [], M)) rfl
    · refine (amRun_t (f := amStep amGst (amD amGst d) cdX12_rescue) 6 (x := amPu 1 (amD amGst d 228 [vR 12 12 0, vI l1, vI (w32 (l4 - 2)), vI l2] M) (fun z9 M9 => .inl (158, [vR 12 12 0, vI l1, vI l2, vI l3, vI l4, vI 0, u6, u7], z9 ++ [], M9))) rfl).trans (amK_pI fun v1 M1 => ?_)
      refine (amRun_t (f := amStep amGst (amD amGst d) cdX12_rescue) 5 (x := if (0 : Int) ≤ w32 (l4 - 2) ∧ w32 (l4 - 2) < 27 then .inl (167, [vR 12 12 0, vI l1, vI l2, vI l3, vI l4, vI 0, u6, u7], [vI (M1 165 0 (w32 (l4 - 2)).toNat), vI v1], M1) else amNo) rfl).trans (amK_if ?_ rfl)
      refine (amRun_t (f := amStep amGst (amD amGst d) cdX12_rescue) 7 (x := if (0 : Int) ≤ w32 (l4 - 2) ∧ w32 (l4 - 2) < 100 then .inl (179, [vR 12 12 0, vI l1, vI l2, vI l3, vI l4, vI 0, vI (w32 (v1 + (M1 165 0 (w32 (l4 - 2)).toNat))), u7], [vI (M1 160 0 (w32 (l4 - 2)).toNat)], M1) else amNo) rfl).trans (amK_if ?_ rfl)
      refine (amRun_t (f := amStep amGst (amD amGst d) cdX12_rescue) 0 (x := if 0 < M1 160 0 (w32 (l4 - 2)).toNat then .inl (189, [vR 12 12 0, vI l1, vI l2, vI l3, vI l4, vI 0, vI (w32 (v1 + (M1 165 0 (w32 (l4 - 2)).toNat))), u7], [], M1) else .inl (182, [vR 12 12 0, vI l1, vI l2, vI l3, vI l4, vI 0, vI (w32 (v1 + (M1 165 0 (w32 (l4 - 2)).toNat))), u7], [], M1)) rfl).trans (amK_if ?_ ?_)
      · exact amRun_b 0 (x := .inl (189, [vR 12 12 0, vI l1, vI l2, vI l3, vI l4, vI 0, vI (w32 (v1 + (M1 165 0 (w32 (l4 - 2)).toNat))), u7], [], M1)) rfl
      · refine (amRun_t (f := amStep amGst (amD amGst d) cdX12_rescue) 2 (x := if w32 (v1 + (M1 165 0 (w32 (l4 - 2)).toNat)) < 0 then .inl (189, [vR 12 12 0, vI l1, vI l2, vI l3, vI l4, vI 0, vI (w32 (v1 + (M1 165 0 (w32 (l4 - 2)).toNat))), u7], [], M1) else .inl (194, [vR 12 12 0, vI l1, vI l2, vI l3, vI l4, vI 0, vI (w32 (v1 + (M1 165 0 (w32 (l4 - 2)).toNat))), u7], [], M1)) rfl).trans (amK_if ?_ ?_)
        · exact amRun_b 0 (x := .inl (189, [vR 12 12 0, vI l1, vI l2, vI l3, vI l4, vI 0, vI (w32 (v1 + (M1 165 0 (w32 (l4 - 2)).toNat))), u7], [], M1)) rfl
        · refine (amRun_t (f := amStep amGst (amD amGst d) cdX12_rescue) 7 (x := if (0 : Int) < 1000000 then .inl (212, [vR 12 12 0, vI l1, vI l2, vI l3, vI l4, vI 0, vI (w32 (v1 + (M1 165 0 (w32 (l4 - 2)).toNat))), vI 0], [vI l4, vR 20 165 0], M1) else .inl (217, [vR 12 12 0, vI l1, vI l2, vI l3, vI l4, vI 0, vI (w32 (v1 + (M1 165 0 (w32 (l4 - 2)).toNat))), vI 0], [vI l4, vR 20 165 0], M1)) rfl).trans (amK_if ?_ ?_)
          · refine (amRun_t (f := amStep amGst (amD amGst d) cdX12_rescue) 2 (x := if (0 : Int) ≤ l4 ∧ l4 < 27 then .inl (221, [vR 12 12 0, vI l1, vI l2, vI l3, vI l4, vI 0, vI (w32 (v1 + (M1 165 0 (w32 (l4 - 2)).toNat))), vI 0], [], amUp M1 165 0 (l4).toNat 0) else amNo) rfl).trans (amK_if ?_ rfl)
            exact amRun_b 2 (x := .inl (56, [vR 12 12 0, vI l1, vI l2, vI l3, vI (w32 (l4 + 1)), vI 0, vI (w32 (v1 + (M1 165 0 (w32 (l4 - 2)).toNat))), vI 0], [], amUp M1 165 0 (l4).toNat 0)) rfl
          · refine (amRun_t (f := amStep amGst (amD amGst d) cdX12_rescue) 1 (x := if (0 : Int) ≤ l4 ∧ l4 < 27 then .inl (221, [vR 12 12 0, vI l1, vI l2, vI l3, vI l4, vI 0, vI (w32 (v1 + (M1 165 0 (w32 (l4 - 2)).toNat))), vI 0], [], amUp M1 165 0 (l4).toNat 1000000) else amNo) rfl).trans (amK_if ?_ rfl)
            exact amRun_b 2 (x := .inl (56, [vR 12 12 0, vI l1, vI l2, vI l3, vI (w32 (l4 + 1)), vI 0, vI (w32 (v1 + (M1 165 0 (w32 (l4 - 2)).toNat))), vI 0], [], amUp M1 165 0 (l4).toNat 1000000)) rfl
theorem q_X12_rescue_90 (d : Nat) (l1 : Int) (l2 : Int) (l3 : Int) (l4 : Int) (u5 : AmV) (u6 : AmV) (u7 : AmV) (M : AmM) : e_X12_rescue_90 d l1 l2 l3 l4 u5 u6 u7 M =
    amCI (amD amGst d 228 [vR 12 12 0, vI l1, vI (w32 (l4 - 1)), vI l2] M) fun v1 M1 => if (0 : Int) ≤ w32 (l4 - 1) ∧ w32 (l4 - 1) < 27 then (if l3 = 0 then (e_X12_rescue_122 d l1 l2 l3 l4 (w32 (v1 + (M1 165 0 (w32 (l4 - 1)).toNat))) u6 u7 M1) else (if l4 < 3 then (e_X12_rescue_122 d l1 l2 l3 l4 (w32 (v1 + (M1 165 0 (w32 (l4 - 1)).toNat))) u6 u7 M1) else (amCI (amD amGst d 228 [vR 12 12 0, vI l1, vI (w32 (l4 - 2)), vI l2] M1) fun v2 M2 => if (0 : Int) ≤ w32 (l4 - 2) ∧ w32 (l4 - 2) < 27 then (if (0 : Int) ≤ w32 (l4 - 2) ∧ w32 (l4 - 2) < 100 then (if 0 < M2 160 0 (w32 (l4 - 2)).toNat then (e_X12_rescue_189 d l1 l2 l3 l4 (w32 (v1 + (M1 165 0 (w32 (l4 - 1)).toNat))) (w32 (v2 + (M2 165 0 (w32 (l4 - 2)).toNat))) u7 M2) else (if w32 (v2 + (M2 165 0 (w32 (l4 - 2)).toNat)) < w32 (v1 + (M1 165 0 (w32 (l4 - 1)).toNat)) then (e_X12_rescue_189 d l1 l2 l3 l4 (w32 (v1 + (M1 165 0 (w32 (l4 - 1)).toNat))) (w32 (v2 + (M2 165 0 (w32 (l4 - 2)).toNat))) u7 M2) else (if w32 (v1 + (M1 165 0 (w32 (l4 - 1)).toNat)) < 1000000 then (if (0 : Int) ≤ l4 ∧ l4 < 27 then (e_X12_rescue_56 d l1 l2 l3 (w32 (l4 + 1)) (vI (w32 (v1 + (M1 165 0 (w32 (l4 - 1)).toNat)))) (vI (w32 (v2 + (M2 165 0 (w32 (l4 - 2)).toNat)))) (vI (w32 (v1 + (M1 165 0 (w32 (l4 - 1)).toNat)))) (amUp M2 165 0 (l4).toNat (w32 (v1 + (M1 165 0 (w32 (l4 - 1)).toNat))))) else none) else (if (0 : Int) ≤ l4 ∧ l4 < 27 then (e_X12_rescue_56 d l1 l2 l3 (w32 (l4 + 1)) (vI (w32 (v1 + (M1 165 0 (w32 (l4 - 1)).toNat)))) (vI (w32 (v2 + (M2 165 0 (w32 (l4 - 2)).toNat)))) (vI (w32 (v1 + (M1 165 0 (w32 (l4 - 1)).toNat)))) (amUp M2 165 0 (l4).toNat 1000000)) else none)))) else none) else none))) else none := by
  show amRun _ _ = _
  refine (amRun_t (f := amStep amGst (amD amGst d) cdX12_rescue) 6 (x := amPu 1 (amD amGst d 228 [vR 12 12 0, vI l1, vI (w32 (l4 - 1)), vI l2] M) (fun z9 M9 => .inl (100, [vR 12 12 0, vI l1, vI l2, vI l3, vI l4, u5, u6, u7], z9 ++ [], M9))) rfl).trans (amK_pI fun v1 M1 => ?_)
  refine (amRun_t (f := amStep amGst (amD amGst d) cdX12_rescue) 5 (x := if (0 : Int) ≤ w32 (l4 - 1) ∧ w32 (l4 - 1) < 27 then .inl (109, [vR 12 12 0, vI l1, vI l2, vI l3, vI l4, u5, u6, u7], [vI (M1 165 0 (w32 (l4 - 1)).toNat), vI v1], M1) else amNo) rfl).trans (amK_if ?_ rfl)
  refine (amRun_t (f := amStep amGst (amD amGst d) cdX12_rescue) 3 (x := if l3 = 0 then .inl (122, [vR 12 12 0, vI l1, vI l2, vI l3, vI l4, vI (w32 (v1 + (M1 165 0 (w32 (l4 - 1)).toNat))), u6, u7], [], M1) else .inl (116, [vR 12 12 0, vI l1, vI l2, vI l3, vI l4, vI (w32 (v1 + (M1 165 0 (w32 (l4 - 1)).toNat))), u6, u7], [], M1)) rfl).trans (amK_if ?_ ?_)
  · exact amRun_b 0 (x := .inl (122, [vR 12 12 0, vI l1, vI l2, vI l3, vI l4, vI (w32 (v1 + (M1 165 0 (w32 (l4 - 1)).toNat))), u6, u7], [], M1)) rfl
  · refine (amRun_t (f := amStep amGst (amD amGst d) cdX12_rescue) 2 (x := if l4 < 3 then .inl (122, [vR 12 12 0, vI l1, vI l2, vI l3, vI l4, vI (w32 (v1 + (M1 165 0 (w32 (l4 - 1)).toNat))), u6, u7], [], M1) else .inl (148, [vR 12 12 0, vI l1, vI l2, vI l3, vI l4, vI (w32 (v1 + (M1 165 0 (w32 (l4 - 1)).toNat))), u6, u7], [], M1)) rfl).trans (amK_if ?_ ?_)
    · exact amRun_b 0 (x := .inl (122, [vR 12 12 0, vI l1, vI l2, vI l3, vI l4, vI (w32 (v1 + (M1 165 0 (w32 (l4 - 1)).toNat))), u6, u7], [], M1)) rfl
    · refine (amRun_t (f := amStep amGst (amD amGst d) cdX12_rescue) 6 (x := amPu 1 (amD amGst d 228 [vR 12 12 0, vI l1, vI (w32 (l4 - 2)), vI l2] M1) (fun z9 M9 => .inl (158, [vR 12 12 0, vI l1, vI l2, vI l3, vI l4, vI (w32 (v1 + (M1 165 0 (w32 (l4 - 1)).toNat))), u6, u7], z9 ++ [], M9))) rfl).trans (amK_pI fun v2 M2 => ?_)
      refine (amRun_t (f := amStep amGst (amD amGst d) cdX12_rescue) 5 (x := if (0 : Int) ≤ w32 (l4 - 2) ∧ w32 (l4 - 2) < 27 then .inl (167, [vR 12 12 0, vI l1, vI l2, vI l3, vI l4, vI (w32 (v1 + (M1 165 0 (w32 (l4 - 1)).toNat))), u6, u7], [vI (M2 165 0 (w32 (l4 - 2)).toNat), vI v2], M2) else amNo) rfl).trans (amK_if ?_ rfl)
      refine (amRun_t (f := amStep amGst (amD amGst d) cdX12_rescue) 7 (x := if (0 : Int) ≤ w32 (l4 - 2) ∧ w32 (l4 - 2) < 100 then .inl (179, [vR 12 12 0, vI l1, vI l2, vI l3, vI l4, vI (w32 (v1 + (M1 165 0 (w32 (l4 - 1)).toNat))), vI (w32 (v2 + (M2 165 0 (w32 (l4 - 2)).toNat))), u7], [vI (M2 160 0 (w32 (l4 - 2)).toNat)], M2) else amNo) rfl).trans (amK_if ?_ rfl)
      refine (amRun_t (f := amStep amGst (amD amGst d) cdX12_rescue) 0 (x := if 0 < M2 160 0 (w32 (l4 - 2)).toNat then .inl (189, [vR 12 12 0, vI l1, vI l2, vI l3, vI l4, vI (w32 (v1 + (M1 165 0 (w32 (l4 - 1)).toNat))), vI (w32 (v2 + (M2 165 0 (w32 (l4 - 2)).toNat))), u7], [], M2) else .inl (182, [vR 12 12 0, vI l1, vI l2, vI l3, vI l4, vI (w32 (v1 + (M1 165 0 (w32 (l4 - 1)).toNat))), vI (w32 (v2 + (M2 165 0 (w32 (l4 - 2)).toNat))), u7], [], M2)) rfl).trans (amK_if ?_ ?_)
      · exact amRun_b 0 (x := .inl (189, [vR 12 12 0, vI l1, vI l2, vI l3, vI l4, vI (w32 (v1 + (M1 165 0 (w32 (l4 - 1)).toNat))), vI (w32 (v2 + (M2 165 0 (w32 (l4 - 2)).toNat))), u7], [], M2)) rfl
      · refine (amRun_t (f := amStep amGst (amD amGst d) cdX12_rescue) 2 (x := if w32 (v2 + (M2 165 0 (w32 (l4 - 2)).toNat)) < w32 (v1 + (M1 165 0 (w32 (l4 - 1)).toNat)) then .inl (189, [vR 12 12 0, vI l1, vI l2, vI l3, vI l4, vI (w32 (v1 + (M1 165 0 (w32 (l4 - 1)).toNat))), vI (w32 (v2 + (M2 165 0 (w32 (l4 - 2)).toNat))), u7], [], M2) else .inl (194, [vR 12 12 0, vI l1, vI l2, vI l3, vI l4, vI (w32 (v1 + (M1 165 0 (w32 (l4 - 1)).toNat))), vI (w32 (v2 + (M2 165 0 (w32 (l4 - 2)).toNat))), u7], [], M2)) rfl).trans (amK_if ?_ ?_)
        · exact amRun_b 0 (x := .inl (189, [vR 12 12 0, vI l1, vI l2, vI l3, vI l4, vI (w32 (v1 + (M1 165 0 (w32 (l4 - 1)).toNat))), vI (w32 (v2 + (M2 165 0 (w32 (l4 - 2)).toNat))), u7], [], M2)) rfl
        · refine (amRun_t (f := amStep amGst (amD amGst d) cdX12_rescue) 7 (x := if w32 (v1 + (M1 165 0 (w32 (l4 - 1)).toNat)) < 1000000 then .inl (212, [vR 12 12 0, vI l1, vI l2, vI l3, vI l4, vI (w32 (v1 + (M1 165 0 (w32 (l4 - 1)).toNat))), vI (w32 (v2 + (M2 165 0 (w32 (l4 - 2)).toNat))), vI (w32 (v1 + (M1 165 0 (w32 (l4 - 1)).toNat)))], [vI l4, vR 20 165 0], M2) else .inl (217, [vR 12 12 0, vI l1, vI l2, vI l3, vI l4, vI (w32 (v1 + (M1 165 0 (w32 (l4 - 1)).toNat))), vI (w32 (v2 + (M2 165 0 (w32 (l4 - 2)).toNat))), vI (w32 (v1 + (M1 165 0 (w32 (l4 - 1)).toNat)))], [vI l4, vR 20 165 0], M2)) rfl).trans (amK_if ?_ ?_)
          · refine (amRun_t (f := amStep amGst (amD amGst d) cdX12_rescue) 2 (x := if (0 : Int) ≤ l4 ∧ l4 < 27 then .inl (221, [vR 12 12 0, vI l1, vI l2, vI l3, vI l4, vI (w32 (v1 + (M1 165 0 (w32 (l4 - 1)).toNat))), vI (w32 (v2 + (M2 165 0 (w32 (l4 - 2)).toNat))), vI (w32 (v1 + (M1 165 0 (w32 (l4 - 1)).toNat)))], [], amUp M2 165 0 (l4).toNat (w32 (v1 + (M1 165 0 (w32 (l4 - 1)).toNat)))) else amNo) rfl).trans (amK_if ?_ rfl)
            exact amRun_b 2 (x := .inl (56, [vR 12 12 0, vI l1, vI l2, vI l3, vI (w32 (l4 + 1)), vI (w32 (v1 + (M1 165 0 (w32 (l4 - 1)).toNat))), vI (w32 (v2 + (M2 165 0 (w32 (l4 - 2)).toNat))), vI (w32 (v1 + (M1 165 0 (w32 (l4 - 1)).toNat)))], [], amUp M2 165 0 (l4).toNat (w32 (v1 + (M1 165 0 (w32 (l4 - 1)).toNat))))) rfl
          · refine (amRun_t (f := amStep amGst (amD amGst d) cdX12_rescue) 1 (x := if (0 : Int) ≤ l4 ∧ l4 < 27 then .inl (221, [vR 12 12 0, vI l1, vI l2, vI l3, vI l4, vI (w32 (v1 + (M1 165 0 (w32 (l4 - 1)).toNat))), vI (w32 (v2 + (M2 165 0 (w32 (l4 - 2)).toNat))), vI (w32 (v1 + (M1 165 0 (w32 (l4 - 1)).toNat)))], [], amUp M2 165 0 (l4).toNat 1000000) else amNo) rfl).trans (amK_if ?_ rfl)
            exact amRun_b 2 (x := .inl (56, [vR 12 12 0, vI l1, vI l2, vI l3, vI (w32 (l4 + 1)), vI (w32 (v1 + (M1 165 0 (w32 (l4 - 1)).toNat))), vI (w32 (v2 + (M2 165 0 (w32 (l4 - 2)).toNat))), vI (w32 (v1 + (M1 165 0 (w32 (l4 - 1)).toNat)))], [], amUp M2 165 0 (l4).toNat 1000000)) rfl
theorem q_X12_rescue_122 (d : Nat) (l1 : Int) (l2 : Int) (l3 : Int) (l4 : Int) (l5 : Int) (u6 : AmV) (u7 : AmV) (M : AmM) : e_X12_rescue_122 d l1 l2 l3 l4 l5 u6 u7 M =
    if l5 < 1000000 then (if (0 : Int) ≤ l4 ∧ l4 < 27 then (e_X12_rescue_56 d l1 l2 l3 (w32 (l4 + 1)) (vI l5) u6 u7 (amUp M 165 0 (l4).toNat l5)) else none) else (if (0 : Int) ≤ l4 ∧ l4 < 27 then (e_X12_rescue_56 d l1 l2 l3 (w32 (l4 + 1)) (vI l5) u6 u7 (amUp M 165 0 (l4).toNat 1000000)) else none) := by
  show amRun _ _ = _
  refine (amRun_t (f := amStep amGst (amD amGst d) cdX12_rescue) 5 (x := if l5 < 1000000 then .inl (136, [vR 12 12 0, vI l1, vI l2, vI l3, vI l4, vI l5, u6, u7], [vI l4, vR 20 165 0], M) else .inl (141, [vR 12 12 0, vI l1, vI l2, vI l3, vI l4, vI l5, u6, u7], [vI l4, vR 20 165 0], M)) rfl).trans (amK_if ?_ ?_)
  · refine (amRun_t (f := amStep amGst (amD amGst d) cdX12_rescue) 2 (x := if (0 : Int) ≤ l4 ∧ l4 < 27 then .inl (145, [vR 12 12 0, vI l1, vI l2, vI l3, vI l4, vI l5, u6, u7], [], amUp M 165 0 (l4).toNat l5) else amNo) rfl).trans (amK_if ?_ rfl)
    exact amRun_b 3 (x := .inl (56, [vR 12 12 0, vI l1, vI l2, vI l3, vI (w32 (l4 + 1)), vI l5, u6, u7], [], amUp M 165 0 (l4).toNat l5)) rfl
  · refine (amRun_t (f := amStep amGst (amD amGst d) cdX12_rescue) 1 (x := if (0 : Int) ≤ l4 ∧ l4 < 27 then .inl (145, [vR 12 12 0, vI l1, vI l2, vI l3, vI l4, vI l5, u6, u7], [], amUp M 165 0 (l4).toNat 1000000) else amNo) rfl).trans (amK_if ?_ rfl)
    exact amRun_b 3 (x := .inl (56, [vR 12 12 0, vI l1, vI l2, vI l3, vI (w32 (l4 + 1)), vI l5, u6, u7], [], amUp M 165 0 (l4).toNat 1000000)) rfl
theorem q_X12_rescue_189 (d : Nat) (l1 : Int) (l2 : Int) (l3 : Int) (l4 : Int) (l5 : Int) (l6 : Int) (u7 : AmV) (M : AmM) : e_X12_rescue_189 d l1 l2 l3 l4 l5 l6 u7 M =
    if l6 < 1000000 then (if (0 : Int) ≤ l4 ∧ l4 < 27 then (e_X12_rescue_56 d l1 l2 l3 (w32 (l4 + 1)) (vI l5) (vI l6) (vI l6) (amUp M 165 0 (l4).toNat l6)) else none) else (if (0 : Int) ≤ l4 ∧ l4 < 27 then (e_X12_rescue_56 d l1 l2 l3 (w32 (l4 + 1)) (vI l5) (vI l6) (vI l6) (amUp M 165 0 (l4).toNat 1000000)) else none) := by
  show amRun _ _ = _
  refine (amRun_t (f := amStep amGst (amD amGst d) cdX12_rescue) 8 (x := if l6 < 1000000 then .inl (212, [vR 12 12 0, vI l1, vI l2, vI l3, vI l4, vI l5, vI l6, vI l6], [vI l4, vR 20 165 0], M) else .inl (217, [vR 12 12 0, vI l1, vI l2, vI l3, vI l4, vI l5, vI l6, vI l6], [vI l4, vR 20 165 0], M)) rfl).trans (amK_if ?_ ?_)
  · refine (amRun_t (f := amStep amGst (amD amGst d) cdX12_rescue) 2 (x := if (0 : Int) ≤ l4 ∧ l4 < 27 then .inl (221, [vR 12 12 0, vI l1, vI l2, vI l3, vI l4, vI l5, vI l6, vI l6], [], amUp M 165 0 (l4).toNat l6) else amNo) rfl).trans (amK_if ?_ rfl)
    exact amRun_b 2 (x := .inl (56, [vR 12 12 0, vI l1, vI l2, vI l3, vI (w32 (l4 + 1)), vI l5, vI l6, vI l6], [], amUp M 165 0 (l4).toNat l6)) rfl
  · refine (amRun_t (f := amStep amGst (amD amGst d) cdX12_rescue) 1 (x := if (0 : Int) ≤ l4 ∧ l4 < 27 then .inl (221, [vR 12 12 0, vI l1, vI l2, vI l3, vI l4, vI l5, vI l6, vI l6], [], amUp M 165 0 (l4).toNat 1000000) else amNo) rfl).trans (amK_if ?_ rfl)
    exact amRun_b 2 (x := .inl (56, [vR 12 12 0, vI l1, vI l2, vI l3, vI (w32 (l4 + 1)), vI l5, vI l6, vI l6], [], amUp M 165 0 (l4).toNat 1000000)) rfl
theorem n_X12_rescue (d : Nat) (l1 : Int) (M : AmM) : amD amGst (d + 1) 229 [vR 12 12 0, vI l1] M = e_X12_rescue_0 d l1 M := rfl
noncomputable def e_X12_carries_0 (d : Nat) (l1 : Int) (M : AmM) : Option (AmV × AmM) := amRun (amStep amGst (amD amGst d) cdX12_carries) (0, [vR 12 12 0, vI l1, vU], [], M)
noncomputable def e_X12_carries_2 (d : Nat) (l1 : Int) (l2 : Int) (M : AmM) : Option (AmV × AmM) := amRun (amStep amGst (amD amGst d) cdX12_carries) (2, [vR 12 12 0, vI l1, vI l2], [], M)
theorem q_X12_carries_0 (d : Nat) (l1 : Int) (M : AmM) : e_X12_carries_0 d l1 M =
    e_X12_carries_2 d l1 1 M := by
  show amRun _ _ = _
  exact amRun_b 2 (x := .inl (2, [vR 12 12 0, vI l1, vI 1], [], M)) rfl
theorem q_X12_carries_2 (d : Nat) (l1 : Int) (l2 : Int) (M : AmM) : e_X12_carries_2 d l1 l2 M =
    if (0 : Int) ≤ M 12 0 18 ∧ M 12 0 18 < 2 then (if M 137 0 (M 12 0 18).toNat < l2 then (some (vI 1, M)) else (if (0 : Int) ≤ l2 ∧ l2 < 100 then (if M 160 0 (l2).toNat < 1 then (some (vI 0, M)) else (amCI (amD amGst d 189 [vR 12 12 0, vI 0, vI l1, vI l2, vI 1] M) fun v1 M1 => if v1 = 0 then (some (vI 0, M1)) else (e_X12_carries_2 d l1 (w32 (l2 + 1)) M1))) else none)) else none := by
  show amRun _ _ = _
  refine (amRun_t (f := amStep amGst (amD amGst d) cdX12_carries) 5 (x := if (0 : Int) ≤ M 12 0 18 ∧ M 12 0 18 < 2 then .inl (12, [vR 12 12 0, vI l1, vI l2], [vI (M 137 0 (M 12 0 18).toNat), vI l2], M) else amNo) rfl).trans (amK_if ?_ rfl)
  refine (amRun_t (f := amStep amGst (amD amGst d) cdX12_carries) 0 (x := if M 137 0 (M 12 0 18).toNat < l2 then .inl (44, [vR 12 12 0, vI l1, vI l2], [], M) else .inl (15, [vR 12 12 0, vI l1, vI l2], [], M)) rfl).trans (amK_if ?_ ?_)
  · exact amRun_b 2 (x := .inr (some (vI 1, M))) rfl
  · refine (amRun_t (f := amStep amGst (amD amGst d) cdX12_carries) 3 (x := if (0 : Int) ≤ l2 ∧ l2 < 100 then .inl (21, [vR 12 12 0, vI l1, vI l2], [vI (M 160 0 (l2).toNat)], M) else amNo) rfl).trans (amK_if ?_ rfl)
    refine (amRun_t (f := amStep amGst (amD amGst d) cdX12_carries) 1 (x := if M 160 0 (l2).toNat < 1 then .inl (36, [vR 12 12 0, vI l1, vI l2], [], M) else .inl (25, [vR 12 12 0, vI l1, vI l2], [], M)) rfl).trans (amK_if ?_ ?_)
    · exact amRun_b 2 (x := .inr (some (vI 0, M))) rfl
    · refine (amRun_t (f := amStep amGst (amD amGst d) cdX12_carries) 5 (x := amPu 1 (amD amGst d 189 [vR 12 12 0, vI 0, vI l1, vI l2, vI 1] M) (fun z9 M9 => .inl (33, [vR 12 12 0, vI l1, vI l2], z9 ++ [], M9))) rfl).trans (amK_pI fun v1 M1 => ?_)
      refine (amRun_t (f := amStep amGst (amD amGst d) cdX12_carries) 0 (x := if v1 = 0 then .inl (36, [vR 12 12 0, vI l1, vI l2], [], M1) else .inl (38, [vR 12 12 0, vI l1, vI l2], [], M1)) rfl).trans (amK_if ?_ ?_)
      · exact amRun_b 2 (x := .inr (some (vI 0, M1))) rfl
      · exact amRun_b 2 (x := .inl (2, [vR 12 12 0, vI l1, vI (w32 (l2 + 1))], [], M1)) rfl
theorem n_X12_carries (d : Nat) (l1 : Int) (M : AmM) : amD amGst (d + 1) 230 [vR 12 12 0, vI l1] M = e_X12_carries_0 d l1 M := rfl
noncomputable def e_X12_bell_0 (d : Nat) (l1 : Int) (M : AmM) : Option (AmV × AmM) := amRun (amStep amGst (amD amGst d) cdX12_bell) (0, [vR 12 12 0, vI l1, vU, vU, vU, vU], [], M)
noncomputable def e_X12_bell_15 (d : Nat) (l1 : Int) (l2 : Int) (u3 : AmV) (u4 : AmV) (u5 : AmV) (M : AmM) : Option (AmV × AmM) := amRun (amStep amGst (amD amGst d) cdX12_bell) (15, [vR 12 12 0, vI l1, vI l2, u3, u4, u5], [], M)
noncomputable def e_X12_bell_33 (d : Nat) (l1 : Int) (l2 : Int) (l3 : Int) (l4 : Int) (l5 : Int) (M : AmM) : Option (AmV × AmM) := amRun (amStep amGst (amD amGst d) cdX12_bell) (33, [vR 12 12 0, vI l1, vI l2, vI l3, vI l4, vI l5], [], M)
noncomputable def e_X12_bell_102 (d : Nat) (l1 : Int) (l2 : Int) (l3 : Int) (l4 : Int) (l5 : Int) (M : AmM) : Option (AmV × AmM) := amRun (amStep amGst (amD amGst d) cdX12_bell) (102, [vR 12 12 0, vI l1, vI l2, vI l3, vI l4, vI l5], [], M)
theorem q_X12_bell_0 (d : Nat) (l1 : Int) (M : AmM) : e_X12_bell_0 d l1 M =
    amCI (amD amGst d 179 [vI l1, vI 1, vI 999] M) fun v1 M1 => if v1 = 0 then (some (vI (-1), M1)) else (e_X12_bell_15 d l1 1 vU vU vU M1) := by
  show amRun _ _ = _
  refine (amRun_t (f := amStep amGst (amD amGst d) cdX12_bell) 3 (x := amPu 1 (amD amGst d 179 [vI l1, vI 1, vI 999] M) (fun z9 M9 => .inl (8, [vR 12 12 0, vI l1, vU, vU, vU, vU], z9 ++ [], M9))) rfl).trans (amK_pI fun v1 M1 => ?_)
  refine (amRun_t (f := amStep amGst (amD amGst d) cdX12_bell) 0 (x := if v1 = 0 then .inl (11, [vR 12 12 0, vI l1, vU, vU, vU, vU], [], M1) else .inl (13, [vR 12 12 0, vI l1, vU, vU, vU, vU], [], M1)) rfl).trans (amK_if ?_ ?_)
  · exact amRun_b 2 (x := .inr (some (vI (-1), M1))) rfl
  · exact amRun_b 2 (x := .inl (15, [vR 12 12 0, vI l1, vI 1, vU, vU, vU], [], M1)) rfl
theorem q_X12_bell_15 (d : Nat) (l1 : Int) (l2 : Int) (u3 : AmV) (u4 : AmV) (u5 : AmV) (M : AmM) : e_X12_bell_15 d l1 l2 u3 u4 u5 M =
    if l2 < 9 then (amCV (amD amGst d 186 [vR 12 12 0] M) fun M1 => e_X12_bell_33 d l1 l2 0 1 0 M1) else (some (vI (-2), M)) := by
  show amRun _ _ = _
  refine (amRun_t (f := amStep amGst (amD amGst d) cdX12_bell) 2 (x := if l2 < 9 then .inl (21, [vR 12 12 0, vI l1, vI l2, u3, u4, u5], [], M) else .inl (120, [vR 12 12 0, vI l1, vI l2, u3, u4, u5], [], M)) rfl).trans (amK_if ?_ ?_)
  · refine (amRun_t (f := amStep amGst (amD amGst d) cdX12_bell) 1 (x := amPu 0 (amD amGst d 186 [vR 12 12 0] M) (fun z9 M9 => .inl (25, [vR 12 12 0, vI l1, vI l2, u3, u4, u5], z9 ++ [], M9))) rfl).trans (amK_pV fun M1 => ?_)
    exact amRun_b 6 (x := .inl (33, [vR 12 12 0, vI l1, vI l2, vI 0, vI 1, vI 0], [], M1)) rfl
  · exact amRun_b 2 (x := .inr (some (vI (-2), M))) rfl
theorem q_X12_bell_33 (d : Nat) (l1 : Int) (l2 : Int) (l3 : Int) (l4 : Int) (l5 : Int) (M : AmM) : e_X12_bell_33 d l1 l2 l3 l4 l5 M =
    amCI (amD amGst d 181 [vR 12 12 0] M) fun v1 M1 => if l5 < v1 then (if l4 = 0 then (e_X12_bell_102 d l1 l2 l3 l4 l5 M1) else (if l3 < l2 then (amCI (amD amGst d 200 [vR 12 12 0, vI l5] M1) fun v2 M2 => if v2 = 0 then (e_X12_bell_33 d l1 l2 l3 l4 (w32 (l5 + 1)) M2) else (if (0 : Int) ≤ w32 ((w32 (8 * (M2 12 0 18))) + l5) ∧ w32 ((w32 (8 * (M2 12 0 18))) + l5) < 16 then (if l2 = 0 then none else (amCI (amD amGst d 230 [vR 12 12 0, vI (w32 ((M2 144 0 (w32 ((w32 (8 * (M2 12 0 18))) + l5)).toNat) + (w32 (Int.tdiv (w32 ((w32 (l1 + l2)) - 1)) l2))))] M2) fun v3 M3 => e_X12_bell_33 d l1 l2 (w32 (l3 + 1)) v3 (w32 (l5 + 1)) M3)) else none)) else (e_X12_bell_102 d l1 l2 l3 l4 l5 M1))) else (e_X12_bell_102 d l1 l2 l3 l4 l5 M1) := by
  show amRun _ _ = _
  refine (amRun_t (f := amStep amGst (amD amGst d) cdX12_bell) 2 (x := amPu 1 (amD amGst d 181 [vR 12 12 0] M) (fun z9 M9 => .inl (39, [vR 12 12 0, vI l1, vI l2, vI l3, vI l4, vI l5], z9 ++ [vI l5], M9))) rfl).trans (amK_pI fun v1 M1 => ?_)
  refine (amRun_t (f := amStep amGst (amD amGst d) cdX12_bell) 0 (x := if l5 < v1 then .inl (42, [vR 12 12 0, vI l1, vI l2, vI l3, vI l4, vI l5], [], M1) else .inl (102, [vR 12 12 0, vI l1, vI l2, vI l3, vI l4, vI l5], [], M1)) rfl).trans (amK_if ?_ ?_)
  · refine (amRun_t (f := amStep amGst (amD amGst d) cdX12_bell) 1 (x := if l4 = 0 then .inl (102, [vR 12 12 0, vI l1, vI l2, vI l3, vI l4, vI l5], [], M1) else .inl (47, [vR 12 12 0, vI l1, vI l2, vI l3, vI l4, vI l5], [], M1)) rfl).trans (amK_if ?_ ?_)
    · exact amRun_b 0 (x := .inl (102, [vR 12 12 0, vI l1, vI l2, vI l3, vI l4, vI l5], [], M1)) rfl
    · refine (amRun_t (f := amStep amGst (amD amGst d) cdX12_bell) 2 (x := if l3 < l2 then .inl (52, [vR 12 12 0, vI l1, vI l2, vI l3, vI l4, vI l5], [], M1) else .inl (102, [vR 12 12 0, vI l1, vI l2, vI l3, vI l4, vI l5], [], M1)) rfl).trans (amK_if ?_ ?_)
      · refine (amRun_t (f := amStep amGst (amD amGst d) cdX12_bell) 2 (x := amPu 1 (amD amGst d 200 [vR 12 12 0, vI l5] M1) (fun z9 M9 => .inl (58, [vR 12 12 0, vI l1, vI l2, vI l3, vI l4, vI l5], z9 ++ [], M9))) rfl).trans (amK_pI fun v2 M2 => ?_)
        refine (amRun_t (f := amStep amGst (amD amGst d) cdX12_bell) 0 (x := if v2 = 0 then .inl (61, [vR 12 12 0, vI l1, vI l2, vI l3, vI l4, vI l5], [], M2) else .inl (64, [vR 12 12 0, vI l1, vI l2, vI l3, vI l4, vI l5], [], M2)) rfl).trans (amK_if ?_ ?_)
        · exact amRun_b 3 (x := .inl (33, [vR 12 12 0, vI l1, vI l2, vI l3, vI l4, vI (w32 (l5 + 1))], [], M2)) rfl
        · refine (amRun_t (f := amStep amGst (amD amGst d) cdX12_bell) 10 (x := if (0 : Int) ≤ w32 ((w32 (8 * (M2 12 0 18))) + l5) ∧ w32 ((w32 (8 * (M2 12 0 18))) + l5) < 16 then .inl (83, [vR 12 12 0, vI l1, vI l2, vI (w32 (l3 + 1)), vI l4, vI l5], [vI (M2 144 0 (w32 ((w32 (8 * (M2 12 0 18))) + l5)).toNat), vR 12 12 0], M2) else amNo) rfl).trans (amK_if ?_ rfl)
          refine (amRun_t (f := amStep amGst (amD amGst d) cdX12_bell) 6 (x := if l2 = 0 then amNo else .inl (90, [vR 12 12 0, vI l1, vI l2, vI (w32 (l3 + 1)), vI l4, vI l5], [vI (w32 (Int.tdiv (w32 ((w32 (l1 + l2)) - 1)) l2)), vI (M2 144 0 (w32 ((w32 (8 * (M2 12 0 18))) + l5)).toNat), vR 12 12 0], M2)) rfl).trans (amK_if rfl ?_)
          refine (amRun_t (f := amStep amGst (amD amGst d) cdX12_bell) 1 (x := amPu 1 (amD amGst d 230 [vR 12 12 0, vI (w32 ((M2 144 0 (w32 ((w32 (8 * (M2 12 0 18))) + l5)).toNat) + (w32 (Int.tdiv (w32 ((w32 (l1 + l2)) - 1)) l2))))] M2) (fun z9 M9 => .inl (94, [vR 12 12 0, vI l1, vI l2, vI (w32 (l3 + 1)), vI l4, vI l5], z9 ++ [], M9))) rfl).trans (amK_pI fun v3 M3 => ?_)
          exact amRun_b 3 (x := .inl (33, [vR 12 12 0, vI l1, vI l2, vI (w32 (l3 + 1)), vI v3, vI (w32 (l5 + 1))], [], M3)) rfl
      · exact amRun_b 0 (x := .inl (102, [vR 12 12 0, vI l1, vI l2, vI l3, vI l4, vI l5], [], M1)) rfl
  · exact amRun_b 0 (x := .inl (102, [vR 12 12 0, vI l1, vI l2, vI l3, vI l4, vI l5], [], M1)) rfl
theorem q_X12_bell_102 (d : Nat) (l1 : Int) (l2 : Int) (l3 : Int) (l4 : Int) (l5 : Int) (M : AmM) : e_X12_bell_102 d l1 l2 l3 l4 l5 M =
    if l4 = 0 then (e_X12_bell_15 d l1 (w32 (l2 + 1)) (vI l3) (vI l4) (vI l5) M) else (if l3 = l2 then (some (vI l2, M)) else (e_X12_bell_15 d l1 (w32 (l2 + 1)) (vI l3) (vI l4) (vI l5) M)) := by
  show amRun _ _ = _
  refine (amRun_t (f := amStep amGst (amD amGst d) cdX12_bell) 1 (x := if l4 = 0 then .inl (114, [vR 12 12 0, vI l1, vI l2, vI l3, vI l4, vI l5], [], M) else .inl (107, [vR 12 12 0, vI l1, vI l2, vI l3, vI l4, vI l5], [], M)) rfl).trans (amK_if ?_ ?_)
  · exact amRun_b 2 (x := .inl (15, [vR 12 12 0, vI l1, vI (w32 (l2 + 1)), vI l3, vI l4, vI l5], [], M)) rfl
  · refine (amRun_t (f := amStep amGst (amD amGst d) cdX12_bell) 2 (x := if l3 = l2 then .inl (112, [vR 12 12 0, vI l1, vI l2, vI l3, vI l4, vI l5], [], M) else .inl (114, [vR 12 12 0, vI l1, vI l2, vI l3, vI l4, vI l5], [], M)) rfl).trans (amK_if ?_ ?_)
    · exact amRun_b 2 (x := .inr (some (vI l2, M))) rfl
    · exact amRun_b 2 (x := .inl (15, [vR 12 12 0, vI l1, vI (w32 (l2 + 1)), vI l3, vI l4, vI l5], [], M)) rfl
theorem n_X12_bell (d : Nat) (l1 : Int) (M : AmM) : amD amGst (d + 1) 231 [vR 12 12 0, vI l1] M = e_X12_bell_0 d l1 M := rfl
noncomputable def e_X12_fair_0 (d : Nat) (M : AmM) : Option (AmV × AmM) := amRun (amStep amGst (amD amGst d) cdX12_fair) (0, [vR 12 12 0, vU, vU, vU], [], M)
noncomputable def e_X12_fair_28 (d : Nat) (l1 : Int) (l2 : Int) (l3 : Int) (M : AmM) : Option (AmV × AmM) := amRun (amStep amGst (amD amGst d) cdX12_fair) (28, [vR 12 12 0, vI l1, vI l2, vI l3], [], M)
noncomputable def e_X12_fair_59 (d : Nat) (l1 : Int) (l2 : Int) (l3 : Int) (M : AmM) : Option (AmV × AmM) := amRun (amStep amGst (amD amGst d) cdX12_fair) (59, [vR 12 12 0, vI l1, vI l2, vI l3], [], M)
theorem q_X12_fair_0 (d : Nat) (M : AmM) : e_X12_fair_0 d M =
    amCI (amD amGst d 181 [vR 12 12 0] M) fun v1 M1 => if v1 = 0 then (some (vI (-2), M1)) else (if (0 : Int) ≤ 58 ∧ (58 : Int) < 100 then (if (0 : Int) ≤ 58 ∧ (58 : Int) < 100 then (e_X12_fair_28 d (M1 159 0 58) (M1 159 0 58) 1 M1) else none) else none) := by
  show amRun _ _ = _
  refine (amRun_t (f := amStep amGst (amD amGst d) cdX12_fair) 1 (x := amPu 1 (amD amGst d 181 [vR 12 12 0] M) (fun z9 M9 => .inl (4, [vR 12 12 0, vU, vU, vU], z9 ++ [], M9))) rfl).trans (amK_pI fun v1 M1 => ?_)
  refine (amRun_t (f := amStep amGst (amD amGst d) cdX12_fair) 0 (x := if v1 = 0 then .inl (7, [vR 12 12 0, vU, vU, vU], [], M1) else .inl (10, [vR 12 12 0, vU, vU, vU], [], M1)) rfl).trans (amK_if ?_ ?_)
  · exact amRun_b 2 (x := .inr (some (vI (-2), M1))) rfl
  · refine (amRun_t (f := amStep amGst (amD amGst d) cdX12_fair) 3 (x := if (0 : Int) ≤ 58 ∧ (58 : Int) < 100 then .inl (17, [vR 12 12 0, vU, vU, vU], [vI (M1 159 0 58)], M1) else amNo) rfl).trans (amK_if ?_ rfl)
    refine (amRun_t (f := amStep amGst (amD amGst d) cdX12_fair) 4 (x := if (0 : Int) ≤ 58 ∧ (58 : Int) < 100 then .inl (25, [vR 12 12 0, vI (M1 159 0 58), vU, vU], [vI (M1 159 0 58)], M1) else amNo) rfl).trans (amK_if ?_ rfl)
    exact amRun_b 3 (x := .inl (28, [vR 12 12 0, vI (M1 159 0 58), vI (M1 159 0 58), vI 1], [], M1)) rfl
theorem q_X12_fair_28 (d : Nat) (l1 : Int) (l2 : Int) (l3 : Int) (M : AmM) : e_X12_fair_28 d l1 l2 l3 M =
    amCI (amD amGst d 181 [vR 12 12 0] M) fun v1 M1 => if l3 < v1 then (if (0 : Int) ≤ w32 (58 + l3) ∧ w32 (58 + l3) < 100 then (if M1 159 0 (w32 (58 + l3)).toNat < l1 then (if (0 : Int) ≤ w32 (58 + l3) ∧ w32 (58 + l3) < 100 then (e_X12_fair_59 d (M1 159 0 (w32 (58 + l3)).toNat) l2 l3 M1) else none) else (e_X12_fair_59 d l1 l2 l3 M1)) else none) else (some (vI (w32 (l2 - l1)), M1)) := by
  show amRun _ _ = _
  refine (amRun_t (f := amStep amGst (amD amGst d) cdX12_fair) 2 (x := amPu 1 (amD amGst d 181 [vR 12 12 0] M) (fun z9 M9 => .inl (33, [vR 12 12 0, vI l1, vI l2, vI l3], z9 ++ [vI l3], M9))) rfl).trans (amK_pI fun v1 M1 => ?_)
  refine (amRun_t (f := amStep amGst (amD amGst d) cdX12_fair) 0 (x := if l3 < v1 then .inl (36, [vR 12 12 0, vI l1, vI l2, vI l3], [], M1) else .inl (88, [vR 12 12 0, vI l1, vI l2, vI l3], [], M1)) rfl).trans (amK_if ?_ ?_)
  · refine (amRun_t (f := amStep amGst (amD amGst d) cdX12_fair) 5 (x := if (0 : Int) ≤ w32 (58 + l3) ∧ w32 (58 + l3) < 100 then .inl (45, [vR 12 12 0, vI l1, vI l2, vI l3], [vI (M1 159 0 (w32 (58 + l3)).toNat)], M1) else amNo) rfl).trans (amK_if ?_ rfl)
    refine (amRun_t (f := amStep amGst (amD amGst d) cdX12_fair) 1 (x := if M1 159 0 (w32 (58 + l3)).toNat < l1 then .inl (49, [vR 12 12 0, vI l1, vI l2, vI l3], [], M1) else .inl (59, [vR 12 12 0, vI l1, vI l2, vI l3], [], M1)) rfl).trans (amK_if ?_ ?_)
    · refine (amRun_t (f := amStep amGst (amD amGst d) cdX12_fair) 5 (x := if (0 : Int) ≤ w32 (58 + l3) ∧ w32 (58 + l3) < 100 then .inl (58, [vR 12 12 0, vI l1, vI l2, vI l3], [vI (M1 159 0 (w32 (58 + l3)).toNat)], M1) else amNo) rfl).trans (amK_if ?_ rfl)
      exact amRun_b 1 (x := .inl (59, [vR 12 12 0, vI (M1 159 0 (w32 (58 + l3)).toNat), vI l2, vI l3], [], M1)) rfl
    · exact amRun_b 0 (x := .inl (59, [vR 12 12 0, vI l1, vI l2, vI l3], [], M1)) rfl
  · exact amRun_b 4 (x := .inr (some (vI (w32 (l2 - l1)), M1))) rfl
theorem q_X12_fair_59 (d : Nat) (l1 : Int) (l2 : Int) (l3 : Int) (M : AmM) : e_X12_fair_59 d l1 l2 l3 M =
    if (0 : Int) ≤ w32 (58 + l3) ∧ w32 (58 + l3) < 100 then (if l2 < M 159 0 (w32 (58 + l3)).toNat then (if (0 : Int) ≤ w32 (58 + l3) ∧ w32 (58 + l3) < 100 then (e_X12_fair_28 d l1 (M 159 0 (w32 (58 + l3)).toNat) (w32 (l3 + 1)) M) else none) else (e_X12_fair_28 d l1 l2 (w32 (l3 + 1)) M)) else none := by
  show amRun _ _ = _
  refine (amRun_t (f := amStep amGst (amD amGst d) cdX12_fair) 5 (x := if (0 : Int) ≤ w32 (58 + l3) ∧ w32 (58 + l3) < 100 then .inl (68, [vR 12 12 0, vI l1, vI l2, vI l3], [vI (M 159 0 (w32 (58 + l3)).toNat)], M) else amNo) rfl).trans (amK_if ?_ rfl)
  refine (amRun_t (f := amStep amGst (amD amGst d) cdX12_fair) 1 (x := if l2 < M 159 0 (w32 (58 + l3)).toNat then .inl (72, [vR 12 12 0, vI l1, vI l2, vI l3], [], M) else .inl (82, [vR 12 12 0, vI l1, vI l2, vI l3], [], M)) rfl).trans (amK_if ?_ ?_)
  · refine (amRun_t (f := amStep amGst (amD amGst d) cdX12_fair) 5 (x := if (0 : Int) ≤ w32 (58 + l3) ∧ w32 (58 + l3) < 100 then .inl (81, [vR 12 12 0, vI l1, vI l2, vI l3], [vI (M 159 0 (w32 (58 + l3)).toNat)], M) else amNo) rfl).trans (amK_if ?_ rfl)
    exact amRun_b 3 (x := .inl (28, [vR 12 12 0, vI l1, vI (M 159 0 (w32 (58 + l3)).toNat), vI (w32 (l3 + 1))], [], M)) rfl
  · exact amRun_b 2 (x := .inl (28, [vR 12 12 0, vI l1, vI l2, vI (w32 (l3 + 1))], [], M)) rfl
theorem n_X12_fair (d : Nat) (M : AmM) : amD amGst (d + 1) 232 [vR 12 12 0] M = e_X12_fair_0 d M := rfl
noncomputable def e_X12_tell__0 (d : Nat) (l1 : Int) (l2 : Int) (M : AmM) : Option (AmV × AmM) := amRun (amStep amGst (amD amGst d) cdX12_tell_) (0, [vR 12 12 0, vI l1, vI l2], [], M)
noncomputable def e_X12_tell__49 (d : Nat) (l1 : Int) (l2 : Int) (M : AmM) : Option (AmV × AmM) := amRun (amStep amGst (amD amGst d) cdX12_tell_) (49, [vR 12 12 0, vI l1, vI l2], [], M)
theorem q_X12_tell__0 (d : Nat) (l1 : Int) (l2 : Int) (M : AmM) : e_X12_tell__0 d l1 l2 M =
    if M 12 0 65 = 30 then (some (vI (-1), M)) else (amCI (amD amGst d 182 [vR 12 12 0, vI l1] M) fun v1 M1 => if v1 = 0 then (some (vI (-1), M1)) else (amCI (amD amGst d 179 [vI l2, vI 0, vI 99] M1) fun v2 M2 => if v2 = 0 then (some (vI (-1), M2)) else (if (0 : Int) ≤ M2 12 0 65 ∧ M2 12 0 65 < 30 then (if (0 : Int) ≤ (amUp M2 166 0 (M2 12 0 65).toNat l1) 12 0 65 ∧ (amUp M2 166 0 (M2 12 0 65).toNat l1) 12 0 65 < 30 then (e_X12_tell__49 d l1 l2 (amUp (amUp M2 166 0 (M2 12 0 65).toNat l1) 167 0 ((amUp M2 166 0 (M2 12 0 65).toNat l1) 12 0 65).toNat l2)) else none) else none))) := by
  show amRun _ _ = _
  refine (amRun_t (f := amStep amGst (amD amGst d) cdX12_tell_) 3 (x := if M 12 0 65 = 30 then .inl (27, [vR 12 12 0, vI l1, vI l2], [], M) else .inl (9, [vR 12 12 0, vI l1, vI l2], [], M)) rfl).trans (amK_if ?_ ?_)
  · exact amRun_b 2 (x := .inr (some (vI (-1), M))) rfl
  · refine (amRun_t (f := amStep amGst (amD amGst d) cdX12_tell_) 2 (x := amPu 1 (amD amGst d 182 [vR 12 12 0, vI l1] M) (fun z9 M9 => .inl (14, [vR 12 12 0, vI l1, vI l2], z9 ++ [], M9))) rfl).trans (amK_pI fun v1 M1 => ?_)
    refine (amRun_t (f := amStep amGst (amD amGst d) cdX12_tell_) 0 (x := if v1 = 0 then .inl (27, [vR 12 12 0, vI l1, vI l2], [], M1) else .inl (17, [vR 12 12 0, vI l1, vI l2], [], M1)) rfl).trans (amK_if ?_ ?_)
    · exact amRun_b 2 (x := .inr (some (vI (-1), M1))) rfl
    · refine (amRun_t (f := amStep amGst (amD amGst d) cdX12_tell_) 3 (x := amPu 1 (amD amGst d 179 [vI l2, vI 0, vI 99] M1) (fun z9 M9 => .inl (24, [vR 12 12 0, vI l1, vI l2], z9 ++ [], M9))) rfl).trans (amK_pI fun v2 M2 => ?_)
      refine (amRun_t (f := amStep amGst (amD amGst d) cdX12_tell_) 0 (x := if v2 = 0 then .inl (27, [vR 12 12 0, vI l1, vI l2], [], M2) else .inl (29, [vR 12 12 0, vI l1, vI l2], [], M2)) rfl).trans (amK_if ?_ ?_)
      · exact amRun_b 2 (x := .inr (some (vI (-1), M2))) rfl
      · refine (amRun_t (f := amStep amGst (amD amGst d) cdX12_tell_) 5 (x := if (0 : Int) ≤ M2 12 0 65 ∧ M2 12 0 65 < 30 then .inl (39, [vR 12 12 0, vI l1, vI l2], [], amUp M2 166 0 (M2 12 0 65).toNat l1) else amNo) rfl).trans (amK_if ?_ rfl)
        refine (amRun_t (f := amStep amGst (amD amGst d) cdX12_tell_) 5 (x := if (0 : Int) ≤ (amUp M2 166 0 (M2 12 0 65).toNat l1) 12 0 65 ∧ (amUp M2 166 0 (M2 12 0 65).toNat l1) 12 0 65 < 30 then .inl (49, [vR 12 12 0, vI l1, vI l2], [], amUp (amUp M2 166 0 (M2 12 0 65).toNat l1) 167 0 ((amUp M2 166 0 (M2 12 0 65).toNat l1) 12 0 65).toNat l2) else amNo) rfl).trans (amK_if ?_ rfl)
        exact amRun_b 0 (x := .inl (49, [vR 12 12 0, vI l1, vI l2], [], amUp (amUp M2 166 0 (M2 12 0 65).toNat l1) 167 0 ((amUp M2 166 0 (M2 12 0 65).toNat l1) 12 0 65).toNat l2)) rfl
theorem q_X12_tell__49 (d : Nat) (l1 : Int) (l2 : Int) (M : AmM) : e_X12_tell__49 d l1 l2 M =
    some (vI (w32 (((amUp M 12 0 65 (w32 ((M 12 0 65) + 1))) 12 0 65) - 1)), amUp M 12 0 65 (w32 ((M 12 0 65) + 1))) := by
  show amRun _ _ = _
  exact amRun_b 11 (x := .inr (some (vI (w32 (((amUp M 12 0 65 (w32 ((M 12 0 65) + 1))) 12 0 65) - 1)), amUp M 12 0 65 (w32 ((M 12 0 65) + 1))))) rfl
theorem n_X12_tell_ (d : Nat) (l1 : Int) (l2 : Int) (M : AmM) : amD amGst (d + 1) 233 [vR 12 12 0, vI l1, vI l2] M = e_X12_tell__0 d l1 l2 M := rfl
noncomputable def e_X12_forget_0 (d : Nat) (M : AmM) : Option (AmV × AmM) := amRun (amStep amGst (amD amGst d) cdX12_forget) (0, [vR 12 12 0, vU], [], M)
theorem q_X12_forget_0 (d : Nat) (M : AmM) : e_X12_forget_0 d M =
    some (vI (M 12 0 65), amUp M 12 0 65 0) := by
  show amRun _ _ = _
  exact amRun_b 8 (x := .inr (some (vI (M 12 0 65), amUp M 12 0 65 0))) rfl
theorem n_X12_forget (d : Nat) (M : AmM) : amD amGst (d + 1) 234 [vR 12 12 0] M = e_X12_forget_0 d M := rfl
noncomputable def e_X12_isFit_0 (d : Nat) (l1 : Int) (l2 : Int) (M : AmM) : Option (AmV × AmM) := amRun (amStep amGst (amD amGst d) cdX12_isFit) (0, [vR 12 12 0, vI l1, vI l2, vU], [], M)
noncomputable def e_X12_isFit_6 (d : Nat) (l1 : Int) (l2 : Int) (l3 : Int) (M : AmM) : Option (AmV × AmM) := amRun (amStep amGst (amD amGst d) cdX12_isFit) (6, [vR 12 12 0, vI l1, vI l2, vI l3], [], M)
noncomputable def e_X12_isFit_37 (d : Nat) (l1 : Int) (l2 : Int) (l3 : Int) (M : AmM) : Option (AmV × AmM) := amRun (amStep amGst (amD amGst d) cdX12_isFit) (37, [vR 12 12 0, vI l1, vI l2, vI l3], [], M)
theorem q_X12_isFit_0 (d : Nat) (l1 : Int) (l2 : Int) (M : AmM) : e_X12_isFit_0 d l1 l2 M =
    amCV (amD amGst d 185 [vR 12 12 0] M) fun M1 => e_X12_isFit_6 d l1 l2 0 M1 := by
  show amRun _ _ = _
  refine (amRun_t (f := amStep amGst (amD amGst d) cdX12_isFit) 1 (x := amPu 0 (amD amGst d 185 [vR 12 12 0] M) (fun z9 M9 => .inl (4, [vR 12 12 0, vI l1, vI l2, vU], z9 ++ [], M9))) rfl).trans (amK_pV fun M1 => ?_)
  exact amRun_b 2 (x := .inl (6, [vR 12 12 0, vI l1, vI l2, vI 0], [], M1)) rfl
theorem q_X12_isFit_6 (d : Nat) (l1 : Int) (l2 : Int) (l3 : Int) (M : AmM) : e_X12_isFit_6 d l1 l2 l3 M =
    amCI (amD amGst d 181 [vR 12 12 0] M) fun v1 M1 => if l3 < v1 then (if bAnd (bShr l1 l3) 1 = 1 then (amCI (amD amGst d 195 [vR 12 12 0, vI l3] M1) fun v2 M2 => e_X12_isFit_6 d l1 l2 (w32 (l3 + 1)) M2) else (e_X12_isFit_6 d l1 l2 (w32 (l3 + 1)) M1)) else (e_X12_isFit_37 d l1 l2 0 M1) := by
  show amRun _ _ = _
  refine (amRun_t (f := amStep amGst (amD amGst d) cdX12_isFit) 2 (x := amPu 1 (amD amGst d 181 [vR 12 12 0] M) (fun z9 M9 => .inl (11, [vR 12 12 0, vI l1, vI l2, vI l3], z9 ++ [vI l3], M9))) rfl).trans (amK_pI fun v1 M1 => ?_)
  refine (amRun_t (f := amStep amGst (amD amGst d) cdX12_isFit) 0 (x := if l3 < v1 then .inl (14, [vR 12 12 0, vI l1, vI l2, vI l3], [], M1) else .inl (35, [vR 12 12 0, vI l1, vI l2, vI l3], [], M1)) rfl).trans (amK_if ?_ ?_)
  · refine (amRun_t (f := amStep amGst (amD amGst d) cdX12_isFit) 6 (x := if bAnd (bShr l1 l3) 1 = 1 then .inl (23, [vR 12 12 0, vI l1, vI l2, vI l3], [], M1) else .inl (29, [vR 12 12 0, vI l1, vI l2, vI l3], [], M1)) rfl).trans (amK_if ?_ ?_)
    · refine (amRun_t (f := amStep amGst (amD amGst d) cdX12_isFit) 2 (x := amPu 1 (amD amGst d 195 [vR 12 12 0, vI l3] M1) (fun z9 M9 => .inl (28, [vR 12 12 0, vI l1, vI l2, vI l3], z9 ++ [], M9))) rfl).trans (amK_pI fun v2 M2 => ?_)
      exact amRun_b 3 (x := .inl (6, [vR 12 12 0, vI l1, vI l2, vI (w32 (l3 + 1))], [], M2)) rfl
    · exact amRun_b 2 (x := .inl (6, [vR 12 12 0, vI l1, vI l2, vI (w32 (l3 + 1))], [], M1)) rfl
  · exact amRun_b 2 (x := .inl (37, [vR 12 12 0, vI l1, vI l2, vI 0], [], M1)) rfl
theorem q_X12_isFit_37 (d : Nat) (l1 : Int) (l2 : Int) (l3 : Int) (M : AmM) : e_X12_isFit_37 d l1 l2 l3 M =
    if l3 < l2 then (if (0 : Int) ≤ l3 ∧ l3 < 30 then (if (0 : Int) ≤ M 166 0 (l3).toNat ∧ M 166 0 (l3).toNat < 100 then (if (0 : Int) ≤ l3 ∧ l3 < 30 then (if M 160 0 (M 166 0 (l3).toNat).toNat = M 167 0 (l3).toNat then (e_X12_isFit_37 d l1 l2 (w32 (l3 + 1)) M) else (some (vI 0, M))) else none) else none) else none) else (some (vI 1, M)) := by
  show amRun _ _ = _
  refine (amRun_t (f := amStep amGst (amD amGst d) cdX12_isFit) 2 (x := if l3 < l2 then .inl (42, [vR 12 12 0, vI l1, vI l2, vI l3], [], M) else .inl (70, [vR 12 12 0, vI l1, vI l2, vI l3], [], M)) rfl).trans (amK_if ?_ ?_)
  · refine (amRun_t (f := amStep amGst (amD amGst d) cdX12_isFit) 5 (x := if (0 : Int) ≤ l3 ∧ l3 < 30 then .inl (52, [vR 12 12 0, vI l1, vI l2, vI l3], [vI (M 166 0 (l3).toNat), vR 20 160 0], M) else amNo) rfl).trans (amK_if ?_ rfl)
    refine (amRun_t (f := amStep amGst (amD amGst d) cdX12_isFit) 0 (x := if (0 : Int) ≤ M 166 0 (l3).toNat ∧ M 166 0 (l3).toNat < 100 then .inl (53, [vR 12 12 0, vI l1, vI l2, vI l3], [vI (M 160 0 (M 166 0 (l3).toNat).toNat)], M) else amNo) rfl).trans (amK_if ?_ rfl)
    refine (amRun_t (f := amStep amGst (amD amGst d) cdX12_isFit) 3 (x := if (0 : Int) ≤ l3 ∧ l3 < 30 then .inl (59, [vR 12 12 0, vI l1, vI l2, vI l3], [vI (M 167 0 (l3).toNat), vI (M 160 0 (M 166 0 (l3).toNat).toNat)], M) else amNo) rfl).trans (amK_if ?_ rfl)
    refine (amRun_t (f := amStep amGst (amD amGst d) cdX12_isFit) 0 (x := if M 160 0 (M 166 0 (l3).toNat).toNat = M 167 0 (l3).toNat then .inl (64, [vR 12 12 0, vI l1, vI l2, vI l3], [], M) else .inl (62, [vR 12 12 0, vI l1, vI l2, vI l3], [], M)) rfl).trans (amK_if ?_ ?_)
    · exact amRun_b 2 (x := .inl (37, [vR 12 12 0, vI l1, vI l2, vI (w32 (l3 + 1))], [], M)) rfl
    · exact amRun_b 2 (x := .inr (some (vI 0, M))) rfl
  · exact amRun_b 2 (x := .inr (some (vI 1, M))) rfl
theorem n_X12_isFit (d : Nat) (l1 : Int) (l2 : Int) (M : AmM) : amD amGst (d + 1) 235 [vR 12 12 0, vI l1, vI l2] M = e_X12_isFit_0 d l1 l2 M := rfl
noncomputable def e_X12_fillsWalkers_0 (d : Nat) (l1 : Int) (M : AmM) : Option (AmV × AmM) := amRun (amStep amGst (amD amGst d) cdX12_fillsWalkers) (0, [vR 12 12 0, vI l1, vU], [], M)
noncomputable def e_X12_fillsWalkers_7 (d : Nat) (l1 : Int) (l2 : Int) (M : AmM) : Option (AmV × AmM) := amRun (amStep amGst (amD amGst d) cdX12_fillsWalkers) (7, [vR 12 12 0, vI l1, vI l2], [], M)
noncomputable def e_X12_fillsWalkers_49 (d : Nat) (l1 : Int) (l2 : Int) (M : AmM) : Option (AmV × AmM) := amRun (amStep amGst (amD amGst d) cdX12_fillsWalkers) (49, [vR 12 12 0, vI l1, vI l2], [], M)
theorem q_X12_fillsWalkers_0 (d : Nat) (l1 : Int) (M : AmM) : e_X12_fillsWalkers_0 d l1 M =
    e_X12_fillsWalkers_7 d l1 0 (amUp M 12 0 69 0) := by
  show amRun _ _ = _
  exact amRun_b 5 (x := .inl (7, [vR 12 12 0, vI l1, vI 0], [], amUp M 12 0 69 0)) rfl
theorem q_X12_fillsWalkers_7 (d : Nat) (l1 : Int) (l2 : Int) (M : AmM) : e_X12_fillsWalkers_7 d l1 l2 M =
    amCI (amD amGst d 181 [vR 12 12 0] M) fun v1 M1 => if l2 < bShl 1 v1 then (amCI (amD amGst d 235 [vR 12 12 0, vI l2, vI l1] M1) fun v2 M2 => if v2 = 0 then (e_X12_fillsWalkers_49 d l1 l2 M2) else (if (0 : Int) ≤ M2 12 0 69 ∧ M2 12 0 69 < 256 then (e_X12_fillsWalkers_49 d l1 l2 (amUp (amUp M2 168 0 (M2 12 0 69).toNat l2) 12 0 69 (w32 (((amUp M2 168 0 (M2 12 0 69).toNat l2) 12 0 69) + 1)))) else none)) else (some (vU, M1)) := by
  show amRun _ _ = _
  refine (amRun_t (f := amStep amGst (amD amGst d) cdX12_fillsWalkers) 3 (x := amPu 1 (amD amGst d 181 [vR 12 12 0] M) (fun z9 M9 => .inl (13, [vR 12 12 0, vI l1, vI l2], z9 ++ [vI 1, vI l2], M9))) rfl).trans (amK_pI fun v1 M1 => ?_)
  refine (amRun_t (f := amStep amGst (amD amGst d) cdX12_fillsWalkers) 1 (x := if l2 < bShl 1 v1 then .inl (17, [vR 12 12 0, vI l1, vI l2], [], M1) else .inl (55, [vR 12 12 0, vI l1, vI l2], [], M1)) rfl).trans (amK_if ?_ ?_)
  · refine (amRun_t (f := amStep amGst (amD amGst d) cdX12_fillsWalkers) 3 (x := amPu 1 (amD amGst d 235 [vR 12 12 0, vI l2, vI l1] M1) (fun z9 M9 => .inl (23, [vR 12 12 0, vI l1, vI l2], z9 ++ [], M9))) rfl).trans (amK_pI fun v2 M2 => ?_)
    refine (amRun_t (f := amStep amGst (amD amGst d) cdX12_fillsWalkers) 0 (x := if v2 = 0 then .inl (26, [vR 12 12 0, vI l1, vI l2], [], M2) else .inl (29, [vR 12 12 0, vI l1, vI l2], [], M2)) rfl).trans (amK_if ?_ ?_)
    · exact amRun_b 1 (x := .inl (49, [vR 12 12 0, vI l1, vI l2], [], M2)) rfl
    · refine (amRun_t (f := amStep amGst (amD amGst d) cdX12_fillsWalkers) 5 (x := if (0 : Int) ≤ M2 12 0 69 ∧ M2 12 0 69 < 256 then .inl (39, [vR 12 12 0, vI l1, vI l2], [], amUp M2 168 0 (M2 12 0 69).toNat l2) else amNo) rfl).trans (amK_if ?_ rfl)
      exact amRun_b 6 (x := .inl (49, [vR 12 12 0, vI l1, vI l2], [], amUp (amUp M2 168 0 (M2 12 0 69).toNat l2) 12 0 69 (w32 (((amUp M2 168 0 (M2 12 0 69).toNat l2) 12 0 69) + 1)))) rfl
  · exact amRun_b 1 (x := .inr (some (vU, M1))) rfl
theorem q_X12_fillsWalkers_49 (d : Nat) (l1 : Int) (l2 : Int) (M : AmM) : e_X12_fillsWalkers_49 d l1 l2 M =
    e_X12_fillsWalkers_7 d l1 (w32 (l2 + 1)) M := by
  show amRun _ _ = _
  exact amRun_b 2 (x := .inl (7, [vR 12 12 0, vI l1, vI (w32 (l2 + 1))], [], M)) rfl
theorem n_X12_fillsWalkers (d : Nat) (l1 : Int) (M : AmM) : amD amGst (d + 1) 236 [vR 12 12 0, vI l1] M = e_X12_fillsWalkers_0 d l1 M := rfl
noncomputable def e_X12_fits_0 (d : Nat) (l1 : Int) (M : AmM) : Option (AmV × AmM) := amRun (amStep amGst (amD amGst d) cdX12_fits) (0, [vR 12 12 0, vI l1], [], M)
theorem q_X12_fits_0 (d : Nat) (l1 : Int) (M : AmM) : e_X12_fits_0 d l1 M =
    amCI (amD amGst d 179 [vI l1, vI 0, vI (M 12 0 65)] M) fun v1 M1 => if v1 = 0 then (some (vI (-1), M1)) else (amCV (amD amGst d 236 [vR 12 12 0, vI l1] M1) fun M2 => some (vI (M2 12 0 69), M2)) := by
  show amRun _ _ = _
  refine (amRun_t (f := amStep amGst (amD amGst d) cdX12_fits) 4 (x := amPu 1 (amD amGst d 179 [vI l1, vI 0, vI (M 12 0 65)] M) (fun z9 M9 => .inl (9, [vR 12 12 0, vI l1], z9 ++ [], M9))) rfl).trans (amK_pI fun v1 M1 => ?_)
  refine (amRun_t (f := amStep amGst (amD amGst d) cdX12_fits) 0 (x := if v1 = 0 then .inl (12, [vR 12 12 0, vI l1], [], M1) else .inl (14, [vR 12 12 0, vI l1], [], M1)) rfl).trans (amK_if ?_ ?_)
  · exact amRun_b 2 (x := .inr (some (vI (-1), M1))) rfl
  · refine (amRun_t (f := amStep amGst (amD amGst d) cdX12_fits) 2 (x := amPu 0 (amD amGst d 236 [vR 12 12 0, vI l1] M1) (fun z9 M9 => .inl (19, [vR 12 12 0, vI l1], z9 ++ [], M9))) rfl).trans (amK_pV fun M2 => ?_)
    exact amRun_b 3 (x := .inr (some (vI (M2 12 0 69), M2))) rfl
theorem n_X12_fits (d : Nat) (l1 : Int) (M : AmM) : amD amGst (d + 1) 237 [vR 12 12 0, vI l1] M = e_X12_fits_0 d l1 M := rfl
noncomputable def e_X12_walkers_0 (d : Nat) (l1 : Int) (l2 : Int) (M : AmM) : Option (AmV × AmM) := amRun (amStep amGst (amD amGst d) cdX12_walkers) (0, [vR 12 12 0, vI l1, vI l2], [], M)
theorem q_X12_walkers_0 (d : Nat) (l1 : Int) (l2 : Int) (M : AmM) : e_X12_walkers_0 d l1 l2 M =
    amCI (amD amGst d 179 [vI l1, vI 0, vI (M 12 0 65)] M) fun v1 M1 => if v1 = 0 then (some (vI (-1), M1)) else (amCV (amD amGst d 236 [vR 12 12 0, vI l1] M1) fun M2 => amCI (amD amGst d 179 [vI l2, vI 0, vI (w32 ((M2 12 0 69) - 1))] M2) fun v3 M3 => if v3 = 0 then (some (vI (-1), M3)) else (if (0 : Int) ≤ l2 ∧ l2 < 256 then (some (vI (M3 168 0 (l2).toNat), M3)) else none)) := by
  show amRun _ _ = _
  refine (amRun_t (f := amStep amGst (amD amGst d) cdX12_walkers) 4 (x := amPu 1 (amD amGst d 179 [vI l1, vI 0, vI (M 12 0 65)] M) (fun z9 M9 => .inl (9, [vR 12 12 0, vI l1, vI l2], z9 ++ [], M9))) rfl).trans (amK_pI fun v1 M1 => ?_)
  refine (amRun_t (f := amStep amGst (amD amGst d) cdX12_walkers) 0 (x := if v1 = 0 then .inl (12, [vR 12 12 0, vI l1, vI l2], [], M1) else .inl (14, [vR 12 12 0, vI l1, vI l2], [], M1)) rfl).trans (amK_if ?_ ?_)
  · exact amRun_b 2 (x := .inr (some (vI (-1), M1))) rfl
  · refine (amRun_t (f := amStep amGst (amD amGst d) cdX12_walkers) 2 (x := amPu 0 (amD amGst d 236 [vR 12 12 0, vI l1] M1) (fun z9 M9 => .inl (19, [vR 12 12 0, vI l1, vI l2], z9 ++ [], M9))) rfl).trans (amK_pV fun M2 => ?_)
    refine (amRun_t (f := amStep amGst (amD amGst d) cdX12_walkers) 6 (x := amPu 1 (amD amGst d 179 [vI l2, vI 0, vI (w32 ((M2 12 0 69) - 1))] M2) (fun z9 M9 => .inl (30, [vR 12 12 0, vI l1, vI l2], z9 ++ [], M9))) rfl).trans (amK_pI fun v3 M3 => ?_)
    refine (amRun_t (f := amStep amGst (amD amGst d) cdX12_walkers) 0 (x := if v3 = 0 then .inl (42, [vR 12 12 0, vI l1, vI l2], [], M3) else .inl (33, [vR 12 12 0, vI l1, vI l2], [], M3)) rfl).trans (amK_if ?_ ?_)
    · exact amRun_b 2 (x := .inr (some (vI (-1), M3))) rfl
    · refine (amRun_t (f := amStep amGst (amD amGst d) cdX12_walkers) 3 (x := if (0 : Int) ≤ l2 ∧ l2 < 256 then .inl (39, [vR 12 12 0, vI l1, vI l2], [vI (M3 168 0 (l2).toNat)], M3) else amNo) rfl).trans (amK_if ?_ rfl)
      exact amRun_b 2 (x := .inr (some (vI (M3 168 0 (l2).toNat), M3))) rfl
theorem n_X12_walkers (d : Nat) (l1 : Int) (l2 : Int) (M : AmM) : amD amGst (d + 1) 238 [vR 12 12 0, vI l1, vI l2] M = e_X12_walkers_0 d l1 l2 M := rfl
noncomputable def e_X12_who_0 (d : Nat) (l1 : Int) (l2 : Int) (M : AmM) : Option (AmV × AmM) := amRun (amStep amGst (amD amGst d) cdX12_who) (0, [vR 12 12 0, vI l1, vI l2, vU, vU, vU], [], M)
noncomputable def e_X12_who_40 (d : Nat) (l1 : Int) (l2 : Int) (l3 : Int) (l4 : Int) (l5 : Int) (M : AmM) : Option (AmV × AmM) := amRun (amStep amGst (amD amGst d) cdX12_who) (40, [vR 12 12 0, vI l1, vI l2, vI l3, vI l4, vI l5], [], M)
theorem q_X12_who_0 (d : Nat) (l1 : Int) (l2 : Int) (M : AmM) : e_X12_who_0 d l1 l2 M =
    amCI (amD amGst d 179 [vI l1, vI 0, vI (M 12 0 65)] M) fun v1 M1 => if v1 = 0 then (some (vI (-1), M1)) else (amCV (amD amGst d 236 [vR 12 12 0, vI l1] M1) fun M2 => if M2 12 0 69 = 0 then (e_X12_who_40 d l1 l2 0 0 0 M2) else (e_X12_who_40 d l1 l2 0 255 0 M2)) := by
  show amRun _ _ = _
  refine (amRun_t (f := amStep amGst (amD amGst d) cdX12_who) 4 (x := amPu 1 (amD amGst d 179 [vI l1, vI 0, vI (M 12 0 65)] M) (fun z9 M9 => .inl (9, [vR 12 12 0, vI l1, vI l2, vU, vU, vU], z9 ++ [], M9))) rfl).trans (amK_pI fun v1 M1 => ?_)
  refine (amRun_t (f := amStep amGst (amD amGst d) cdX12_who) 0 (x := if v1 = 0 then .inl (12, [vR 12 12 0, vI l1, vI l2, vU, vU, vU], [], M1) else .inl (14, [vR 12 12 0, vI l1, vI l2, vU, vU, vU], [], M1)) rfl).trans (amK_if ?_ ?_)
  · exact amRun_b 2 (x := .inr (some (vI (-1), M1))) rfl
  · refine (amRun_t (f := amStep amGst (amD amGst d) cdX12_who) 2 (x := amPu 0 (amD amGst d 236 [vR 12 12 0, vI l1] M1) (fun z9 M9 => .inl (19, [vR 12 12 0, vI l1, vI l2, vU, vU, vU], z9 ++ [], M9))) rfl).trans (amK_pV fun M2 => ?_)
    refine (amRun_t (f := amStep amGst (amD amGst d) cdX12_who) 4 (x := if M2 12 0 69 = 0 then .inl (28, [vR 12 12 0, vI l1, vI l2, vI 0, vU, vU], [], M2) else .inl (32, [vR 12 12 0, vI l1, vI l2, vI 0, vU, vU], [], M2)) rfl).trans (amK_if ?_ ?_)
    · exact amRun_b 5 (x := .inl (40, [vR 12 12 0, vI l1, vI l2, vI 0, vI 0, vI 0], [], M2)) rfl
    · exact amRun_b 4 (x := .inl (40, [vR 12 12 0, vI l1, vI l2, vI 0, vI 255, vI 0], [], M2)) rfl
theorem q_X12_who_40 (d : Nat) (l1 : Int) (l2 : Int) (l3 : Int) (l4 : Int) (l5 : Int) (M : AmM) : e_X12_who_40 d l1 l2 l3 l4 l5 M =
    if l5 < M 12 0 69 then (if (0 : Int) ≤ l5 ∧ l5 < 256 then (if (0 : Int) ≤ l5 ∧ l5 < 256 then (e_X12_who_40 d l1 l2 (bOr l3 (M 168 0 (l5).toNat)) (bAnd l4 (M 168 0 (l5).toNat)) (w32 (l5 + 1)) M) else none) else none) else (if l2 = 0 then (some (vI l3, M)) else (some (vI l4, M))) := by
  show amRun _ _ = _
  refine (amRun_t (f := amStep amGst (amD amGst d) cdX12_who) 3 (x := if l5 < M 12 0 69 then .inl (49, [vR 12 12 0, vI l1, vI l2, vI l3, vI l4, vI l5], [], M) else .inl (77, [vR 12 12 0, vI l1, vI l2, vI l3, vI l4, vI l5], [], M)) rfl).trans (amK_if ?_ ?_)
  · refine (amRun_t (f := amStep amGst (amD amGst d) cdX12_who) 4 (x := if (0 : Int) ≤ l5 ∧ l5 < 256 then .inl (57, [vR 12 12 0, vI l1, vI l2, vI l3, vI l4, vI l5], [vI (M 168 0 (l5).toNat), vI l3], M) else amNo) rfl).trans (amK_if ?_ rfl)
    refine (amRun_t (f := amStep amGst (amD amGst d) cdX12_who) 6 (x := if (0 : Int) ≤ l5 ∧ l5 < 256 then .inl (68, [vR 12 12 0, vI l1, vI l2, vI (bOr l3 (M 168 0 (l5).toNat)), vI l4, vI l5], [vI (M 168 0 (l5).toNat), vI l4], M) else amNo) rfl).trans (amK_if ?_ rfl)
    exact amRun_b 4 (x := .inl (40, [vR 12 12 0, vI l1, vI l2, vI (bOr l3 (M 168 0 (l5).toNat)), vI (bAnd l4 (M 168 0 (l5).toNat)), vI (w32 (l5 + 1))], [], M)) rfl
  · refine (amRun_t (f := amStep amGst (amD amGst d) cdX12_who) 1 (x := if l2 = 0 then .inl (86, [vR 12 12 0, vI l1, vI l2, vI l3, vI l4, vI l5], [], M) else .inl (81, [vR 12 12 0, vI l1, vI l2, vI l3, vI l4, vI l5], [], M)) rfl).trans (amK_if ?_ ?_)
    · exact amRun_b 2 (x := .inr (some (vI l3, M))) rfl
    · exact amRun_b 3 (x := .inr (some (vI l4, M))) rfl
theorem n_X12_who (d : Nat) (l1 : Int) (l2 : Int) (M : AmM) : amD amGst (d + 1) 239 [vR 12 12 0, vI l1, vI l2] M = e_X12_who_0 d l1 l2 M := rfl
noncomputable def e_X12_hold_0 (d : Nat) (l1 : Int) (M : AmM) : Option (AmV × AmM) := amRun (amStep amGst (amD amGst d) cdX12_hold) (0, [vR 12 12 0, vI l1, vU], [], M)
noncomputable def e_X12_hold_20 (d : Nat) (l1 : Int) (l2 : Int) (M : AmM) : Option (AmV × AmM) := amRun (amStep amGst (amD amGst d) cdX12_hold) (20, [vR 12 12 0, vI l1, vI l2], [], M)
theorem q_X12_hold_0 (d : Nat) (l1 : Int) (M : AmM) : e_X12_hold_0 d l1 M =
    amCI (amD amGst d 179 [vI l1, vI 0, vI 2] M) fun v1 M1 => if v1 = 0 then (some (vI 0, M1)) else (if (0 : Int) ≤ l1 ∧ l1 < 3 then (e_X12_hold_20 d l1 0 (amUp M1 169 0 (l1).toNat 1)) else none) := by
  show amRun _ _ = _
  refine (amRun_t (f := amStep amGst (amD amGst d) cdX12_hold) 3 (x := amPu 1 (amD amGst d 179 [vI l1, vI 0, vI 2] M) (fun z9 M9 => .inl (6, [vR 12 12 0, vI l1, vU], z9 ++ [], M9))) rfl).trans (amK_pI fun v1 M1 => ?_)
  refine (amRun_t (f := amStep amGst (amD amGst d) cdX12_hold) 0 (x := if v1 = 0 then .inl (9, [vR 12 12 0, vI l1, vU], [], M1) else .inl (11, [vR 12 12 0, vI l1, vU], [], M1)) rfl).trans (amK_if ?_ ?_)
  · exact amRun_b 2 (x := .inr (some (vI 0, M1))) rfl
  · refine (amRun_t (f := amStep amGst (amD amGst d) cdX12_hold) 4 (x := if (0 : Int) ≤ l1 ∧ l1 < 3 then .inl (18, [vR 12 12 0, vI l1, vU], [], amUp M1 169 0 (l1).toNat 1) else amNo) rfl).trans (amK_if ?_ rfl)
    exact amRun_b 2 (x := .inl (20, [vR 12 12 0, vI l1, vI 0], [], amUp M1 169 0 (l1).toNat 1)) rfl
theorem q_X12_hold_20 (d : Nat) (l1 : Int) (l2 : Int) (M : AmM) : e_X12_hold_20 d l1 l2 M =
    if l2 < 100 then (if (0 : Int) ≤ l2 ∧ l2 < 100 then (if (0 : Int) ≤ w32 ((w32 (100 * l1)) + l2) ∧ w32 ((w32 (100 * l1)) + l2) < 300 then (e_X12_hold_20 d l1 (w32 (l2 + 1)) (amUp M 170 0 (w32 ((w32 (100 * l1)) + l2)).toNat (M 159 0 (l2).toNat))) else none) else none) else (some (vI 1, M)) := by
  show amRun _ _ = _
  refine (amRun_t (f := amStep amGst (amD amGst d) cdX12_hold) 2 (x := if l2 < 100 then .inl (26, [vR 12 12 0, vI l1, vI l2], [], M) else .inl (49, [vR 12 12 0, vI l1, vI l2], [], M)) rfl).trans (amK_if ?_ ?_)
  · refine (amRun_t (f := amStep amGst (amD amGst d) cdX12_hold) 10 (x := if (0 : Int) ≤ l2 ∧ l2 < 100 then .inl (42, [vR 12 12 0, vI l1, vI l2], [vI (M 159 0 (l2).toNat), vI (w32 ((w32 (100 * l1)) + l2)), vR 20 170 0], M) else amNo) rfl).trans (amK_if ?_ rfl)
    refine (amRun_t (f := amStep amGst (amD amGst d) cdX12_hold) 0 (x := if (0 : Int) ≤ w32 ((w32 (100 * l1)) + l2) ∧ w32 ((w32 (100 * l1)) + l2) < 300 then .inl (43, [vR 12 12 0, vI l1, vI l2], [], amUp M 170 0 (w32 ((w32 (100 * l1)) + l2)).toNat (M 159 0 (l2).toNat)) else amNo) rfl).trans (amK_if ?_ rfl)
    exact amRun_b 2 (x := .inl (20, [vR 12 12 0, vI l1, vI (w32 (l2 + 1))], [], amUp M 170 0 (w32 ((w32 (100 * l1)) + l2)).toNat (M 159 0 (l2).toNat))) rfl
  · exact amRun_b 2 (x := .inr (some (vI 1, M))) rfl
theorem n_X12_hold (d : Nat) (l1 : Int) (M : AmM) : amD amGst (d + 1) 240 [vR 12 12 0, vI l1] M = e_X12_hold_0 d l1 M := rfl
noncomputable def e_X12_restore_0 (d : Nat) (l1 : Int) (M : AmM) : Option (AmV × AmM) := amRun (amStep amGst (amD amGst d) cdX12_restore) (0, [vR 12 12 0, vI l1, vU], [], M)
noncomputable def e_X12_restore_22 (d : Nat) (l1 : Int) (l2 : Int) (M : AmM) : Option (AmV × AmM) := amRun (amStep amGst (amD amGst d) cdX12_restore) (22, [vR 12 12 0, vI l1, vI l2], [], M)
theorem q_X12_restore_0 (d : Nat) (l1 : Int) (M : AmM) : e_X12_restore_0 d l1 M =
    amCI (amD amGst d 179 [vI l1, vI 0, vI 2] M) fun v1 M1 => if v1 = 0 then (some (vI 0, M1)) else (if (0 : Int) ≤ l1 ∧ l1 < 3 then (if M1 169 0 (l1).toNat = 0 then (some (vI 0, M1)) else (e_X12_restore_22 d l1 0 M1)) else none) := by
  show amRun _ _ = _
  refine (amRun_t (f := amStep amGst (amD amGst d) cdX12_restore) 3 (x := amPu 1 (amD amGst d 179 [vI l1, vI 0, vI 2] M) (fun z9 M9 => .inl (6, [vR 12 12 0, vI l1, vU], z9 ++ [], M9))) rfl).trans (amK_pI fun v1 M1 => ?_)
  refine (amRun_t (f := amStep amGst (amD amGst d) cdX12_restore) 0 (x := if v1 = 0 then .inl (18, [vR 12 12 0, vI l1, vU], [], M1) else .inl (9, [vR 12 12 0, vI l1, vU], [], M1)) rfl).trans (amK_if ?_ ?_)
  · exact amRun_b 2 (x := .inr (some (vI 0, M1))) rfl
  · refine (amRun_t (f := amStep amGst (amD amGst d) cdX12_restore) 3 (x := if (0 : Int) ≤ l1 ∧ l1 < 3 then .inl (15, [vR 12 12 0, vI l1, vU], [vI (M1 169 0 (l1).toNat)], M1) else amNo) rfl).trans (amK_if ?_ rfl)
    refine (amRun_t (f := amStep amGst (amD amGst d) cdX12_restore) 0 (x := if M1 169 0 (l1).toNat = 0 then .inl (18, [vR 12 12 0, vI l1, vU], [], M1) else .inl (20, [vR 12 12 0, vI l1, vU], [], M1)) rfl).trans (amK_if ?_ ?_)
    · exact amRun_b 2 (x := .inr (some (vI 0, M1))) rfl
    · exact amRun_b 2 (x := .inl (22, [vR 12 12 0, vI l1, vI 0], [], M1)) rfl
theorem q_X12_restore_22 (d : Nat) (l1 : Int) (l2 : Int) (M : AmM) : e_X12_restore_22 d l1 l2 M =
    if l2 < 100 then (if (0 : Int) ≤ w32 ((w32 (100 * l1)) + l2) ∧ w32 ((w32 (100 * l1)) + l2) < 300 then (if (0 : Int) ≤ l2 ∧ l2 < 100 then (e_X12_restore_22 d l1 (w32 (l2 + 1)) (amUp M 159 0 (l2).toNat (M 170 0 (w32 ((w32 (100 * l1)) + l2)).toNat))) else none) else none) else (some (vI 1, amUp M 12 0 53 0)) := by
  show amRun _ _ = _
  refine (amRun_t (f := amStep amGst (amD amGst d) cdX12_restore) 2 (x := if l2 < 100 then .inl (28, [vR 12 12 0, vI l1, vI l2], [], M) else .inl (51, [vR 12 12 0, vI l1, vI l2], [], M)) rfl).trans (amK_if ?_ ?_)
  · refine (amRun_t (f := amStep amGst (amD amGst d) cdX12_restore) 10 (x := if (0 : Int) ≤ w32 ((w32 (100 * l1)) + l2) ∧ w32 ((w32 (100 * l1)) + l2) < 300 then .inl (44, [vR 12 12 0, vI l1, vI l2], [vI (M 170 0 (w32 ((w32 (100 * l1)) + l2)).toNat), vI l2, vR 20 159 0], M) else amNo) rfl).trans (amK_if ?_ rfl)
    refine (amRun_t (f := amStep amGst (amD amGst d) cdX12_restore) 0 (x := if (0 : Int) ≤ l2 ∧ l2 < 100 then .inl (45, [vR 12 12 0, vI l1, vI l2], [], amUp M 159 0 (l2).toNat (M 170 0 (w32 ((w32 (100 * l1)) + l2)).toNat)) else amNo) rfl).trans (amK_if ?_ rfl)
    exact amRun_b 2 (x := .inl (22, [vR 12 12 0, vI l1, vI (w32 (l2 + 1))], [], amUp M 159 0 (l2).toNat (M 170 0 (w32 ((w32 (100 * l1)) + l2)).toNat))) rfl
  · exact amRun_b 5 (x := .inr (some (vI 1, amUp M 12 0 53 0))) rfl
theorem n_X12_restore (d : Nat) (l1 : Int) (M : AmM) : amD amGst (d + 1) 241 [vR 12 12 0, vI l1] M = e_X12_restore_0 d l1 M := rfl
noncomputable def e_X12_count_0 (d : Nat) (l1 : Int) (M : AmM) : Option (AmV × AmM) := amRun (amStep amGst (amD amGst d) cdX12_count) (0, [vR 12 12 0, vI l1, vU, vU], [], M)
noncomputable def e_X12_count_183 (d : Nat) (l1 : Int) (l2 : Int) (l3 : Int) (M : AmM) : Option (AmV × AmM) := amRun (amStep amGst (amD amGst d) cdX12_count) (183, [vR 12 12 0, vI l1, vI l2, vI l3], [], M)
theorem q_X12_count_0 (d : Nat) (l1 : Int) (M : AmM) : e_X12_count_0 d l1 M =
    amCV (amD amGst d 186 [vR 12 12 0] M) fun M1 => if l1 = 0 then (if (0 : Int) ≤ M1 12 0 18 ∧ M1 12 0 18 < 2 then (some (vI (M1 137 0 (M1 12 0 18).toNat), M1)) else none) else (if l1 = 1 then (amCI (amD amGst d 181 [vR 12 12 0] M1) fun v2 M2 => some (vI v2, M2)) else (if l1 = 2 then (if (0 : Int) ≤ 82 ∧ (82 : Int) < 100 then (some (vI (M1 160 0 82), M1)) else none) else (if l1 = 3 then (if (0 : Int) ≤ 83 ∧ (83 : Int) < 100 then (some (vI (M1 160 0 83), M1)) else none) else (if l1 = 4 then (if (0 : Int) ≤ M1 12 0 18 ∧ M1 12 0 18 < 2 then (some (vI (M1 139 0 (M1 12 0 18).toNat), M1)) else none) else (if l1 = 5 then (amCI (amD amGst d 187 [vR 12 12 0] M1) fun v3 M3 => some (vI v3, M3)) else (if l1 = 6 then (amCI (amD amGst d 227 [vR 12 12 0] M1) fun v4 M4 => some (vI v4, M4)) else (if l1 = 7 then (some (vI (M1 12 0 65), M1)) else (if l1 = 8 then (some (vI (M1 12 0 2), M1)) else (if l1 = 9 then (some (vI (M1 12 0 53), M1)) else (if l1 = 10 then (if (0 : Int) ≤ 0 ∧ (0 : Int) < 3 then (if M1 169 0 0 = 0 then (if (0 : Int) ≤ 1 ∧ (1 : Int) < 3 then (if M1 169 0 1 = 0 then (if (0 : Int) ≤ 2 ∧ (2 : Int) < 3 then (if M1 169 0 2 = 0 then (some (vI (w32 ((w32 (0 + 0)) + 0)), M1)) else (some (vI (w32 ((w32 (0 + 0)) + 1)), M1))) else none) else (if (0 : Int) ≤ 2 ∧ (2 : Int) < 3 then (if M1 169 0 2 = 0 then (some (vI (w32 ((w32 (0 + 1)) + 0)), M1)) else (some (vI (w32 ((w32 (0 + 1)) + 1)), M1))) else none)) else none) else (if (0 : Int) ≤ 1 ∧ (1 : Int) < 3 then (if M1 169 0 1 = 0 then (if (0 : Int) ≤ 2 ∧ (2 : Int) < 3 then (if M1 169 0 2 = 0 then (some (vI (w32 ((w32 (1 + 0)) + 0)), M1)) else (some (vI (w32 ((w32 (1 + 0)) + 1)), M1))) else none) else (if (0 : Int) ≤ 2 ∧ (2 : Int) < 3 then (if M1 169 0 2 = 0 then (some (vI (w32 ((w32 (1 + 1)) + 0)), M1)) else (some (vI (w32 ((w32 (1 + 1)) + 1)), M1))) else none)) else none)) else none) else (if l1 = 11 then (e_X12_count_183 d l1 0 1 M1) else ((some (vI (-1), M1)))))))))))))) := by
  show amRun _ _ = _
  refine (amRun_t (f := amStep amGst (amD amGst d) cdX12_count) 1 (x := amPu 0 (amD amGst d 186 [vR 12 12 0] M) (fun z9 M9 => .inl (4, [vR 12 12 0, vI l1, vU, vU], z9 ++ [], M9))) rfl).trans (amK_pV fun M1 => ?_)
  refine (amRun_t (f := amStep amGst (amD amGst d) cdX12_count) 1 (x := if l1 = 0 then .inl (68, [vR 12 12 0, vI l1, vU, vU], [], M1) else (if l1 = 1 then .inl (78, [vR 12 12 0, vI l1, vU, vU], [], M1) else (if l1 = 2 then .inl (83, [vR 12 12 0, vI l1, vU, vU], [], M1) else (if l1 = 3 then .inl (91, [vR 12 12 0, vI l1, vU, vU], [], M1) else (if l1 = 4 then .inl (99, [vR 12 12 0, vI l1, vU, vU], [], M1) else (if l1 = 5 then .inl (109, [vR 12 12 0, vI l1, vU, vU], [], M1) else (if l1 = 6 then .inl (114, [vR 12 12 0, vI l1, vU, vU], [], M1) else (if l1 = 7 then .inl (119, [vR 12 12 0, vI l1, vU, vU], [], M1) else (if l1 = 8 then .inl (124, [vR 12 12 0, vI l1, vU, vU], [], M1) else (if l1 = 9 then .inl (129, [vR 12 12 0, vI l1, vU, vU], [], M1) else (if l1 = 10 then .inl (134, [vR 12 12 0, vI l1, vU, vU], [], M1) else (if l1 = 11 then .inl (179, [vR 12 12 0, vI l1, vU, vU], [], M1) else .inl (213, [vR 12 12 0, vI l1, vU, vU], [], M1))))))))))))) rfl).trans ?_
  refine amK_if ?_ ?_
  · refine (amRun_t (f := amStep amGst (amD amGst d) cdX12_count) 4 (x := if (0 : Int) ≤ M1 12 0 18 ∧ M1 12 0 18 < 2 then .inl (77, [vR 12 12 0, vI l1, vU, vU], [vI (M1 137 0 (M1 12 0 18).toNat)], M1) else amNo) rfl).trans (amK_if ?_ rfl)
    exact amRun_b 1 (x := .inr (some (vI (M1 137 0 (M1 12 0 18).toNat), M1))) rfl
  refine amK_if ?_ ?_
  · refine (amRun_t (f := amStep amGst (amD amGst d) cdX12_count) 1 (x := amPu 1 (amD amGst d 181 [vR 12 12 0] M1) (fun z9 M9 => .inl (82, [vR 12 12 0, vI l1, vU, vU], z9 ++ [], M9))) rfl).trans (amK_pI fun v2 M2 => ?_)
    exact amRun_b 1 (x := .inr (some (vI v2, M2))) rfl
  refine amK_if ?_ ?_
  · refine (amRun_t (f := amStep amGst (amD amGst d) cdX12_count) 3 (x := if (0 : Int) ≤ 82 ∧ (82 : Int) < 100 then .inl (90, [vR 12 12 0, vI l1, vU, vU], [vI (M1 160 0 82)], M1) else amNo) rfl).trans (amK_if ?_ rfl)
    exact amRun_b 1 (x := .inr (some (vI (M1 160 0 82), M1))) rfl
  refine amK_if ?_ ?_
  · refine (amRun_t (f := amStep amGst (amD amGst d) cdX12_count) 3 (x := if (0 : Int) ≤ 83 ∧ (83 : Int) < 100 then .inl (98, [vR 12 12 0, vI l1, vU, vU], [vI (M1 160 0 83)], M1) else amNo) rfl).trans (amK_if ?_ rfl)
    exact amRun_b 1 (x := .inr (some (vI (M1 160 0 83), M1))) rfl
  refine amK_if ?_ ?_
  · refine (amRun_t (f := amStep amGst (amD amGst d) cdX12_count) 4 (x := if (0 : Int) ≤ M1 12 0 18 ∧ M1 12 0 18 < 2 then .inl (108, [vR 12 12 0, vI l1, vU, vU], [vI (M1 139 0 (M1 12 0 18).toNat)], M1) else amNo) rfl).trans (amK_if ?_ rfl)
    exact amRun_b 1 (x := .inr (some (vI (M1 139 0 (M1 12 0 18).toNat), M1))) rfl
  refine amK_if ?_ ?_
  · refine (amRun_t (f := amStep amGst (amD amGst d) cdX12_count) 1 (x := amPu 1 (amD amGst d 187 [vR 12 12 0] M1) (fun z9 M9 => .inl (113, [vR 12 12 0, vI l1, vU, vU], z9 ++ [], M9))) rfl).trans (amK_pI fun v3 M3 => ?_)
    exact amRun_b 1 (x := .inr (some (vI v3, M3))) rfl
  refine amK_if ?_ ?_
  · refine (amRun_t (f := amStep amGst (amD amGst d) cdX12_count) 1 (x := amPu 1 (amD amGst d 227 [vR 12 12 0] M1) (fun z9 M9 => .inl (118, [vR 12 12 0, vI l1, vU, vU], z9 ++ [], M9))) rfl).trans (amK_pI fun v4 M4 => ?_)
    exact amRun_b 1 (x := .inr (some (vI v4, M4))) rfl
  refine amK_if ?_ ?_
  · exact amRun_b 3 (x := .inr (some (vI (M1 12 0 65), M1))) rfl
  refine amK_if ?_ ?_
  · exact amRun_b 3 (x := .inr (some (vI (M1 12 0 2), M1))) rfl
  refine amK_if ?_ ?_
  · exact amRun_b 3 (x := .inr (some (vI (M1 12 0 53), M1))) rfl
  refine amK_if ?_ ?_
  · refine (amRun_t (f := amStep amGst (amD amGst d) cdX12_count) 3 (x := if (0 : Int) ≤ 0 ∧ (0 : Int) < 3 then .inl (140, [vR 12 12 0, vI l1, vU, vU], [vI (M1 169 0 0)], M1) else amNo) rfl).trans (amK_if ?_ rfl)
    refine (amRun_t (f := amStep amGst (amD amGst d) cdX12_count) 0 (x := if M1 169 0 0 = 0 then .inl (147, [vR 12 12 0, vI l1, vU, vU], [], M1) else .inl (143, [vR 12 12 0, vI l1, vU, vU], [], M1)) rfl).trans (amK_if ?_ ?_)
    · refine (amRun_t (f := amStep amGst (amD amGst d) cdX12_count) 4 (x := if (0 : Int) ≤ 1 ∧ (1 : Int) < 3 then .inl (154, [vR 12 12 0, vI l1, vU, vU], [vI (M1 169 0 1), vI 0], M1) else amNo) rfl).trans (amK_if ?_ rfl)
      refine (amRun_t (f := amStep amGst (amD amGst d) cdX12_count) 0 (x := if M1 169 0 1 = 0 then .inl (161, [vR 12 12 0, vI l1, vU, vU], [vI 0], M1) else .inl (157, [vR 12 12 0, vI l1, vU, vU], [vI 0], M1)) rfl).trans (amK_if ?_ ?_)
      · refine (amRun_t (f := amStep amGst (amD amGst d) cdX12_count) 5 (x := if (0 : Int) ≤ 2 ∧ (2 : Int) < 3 then .inl (169, [vR 12 12 0, vI l1, vU, vU], [vI (M1 169 0 2), vI (w32 (0 + 0))], M1) else amNo) rfl).trans (amK_if ?_ rfl)
        refine (amRun_t (f := amStep amGst (amD amGst d) cdX12_count) 0 (x := if M1 169 0 2 = 0 then .inl (176, [vR 12 12 0, vI l1, vU, vU], [vI (w32 (0 + 0))], M1) else .inl (172, [vR 12 12 0, vI l1, vU, vU], [vI (w32 (0 + 0))], M1)) rfl).trans (amK_if ?_ ?_)
        · exact amRun_b 3 (x := .inr (some (vI (w32 ((w32 (0 + 0)) + 0)), M1))) rfl
        · exact amRun_b 4 (x := .inr (some (vI (w32 ((w32 (0 + 0)) + 1)), M1))) rfl
      · refine (amRun_t (f := amStep amGst (amD amGst d) cdX12_count) 6 (x := if (0 : Int) ≤ 2 ∧ (2 : Int) < 3 then .inl (169, [vR 12 12 0, vI l1, vU, vU], [vI (M1 169 0 2), vI (w32 (0 + 1))], M1) else amNo) rfl).trans (amK_if ?_ rfl)
        refine (amRun_t (f := amStep amGst (amD amGst d) cdX12_count) 0 (x := if M1 169 0 2 = 0 then .inl (176, [vR 12 12 0, vI l1, vU, vU], [vI (w32 (0 + 1))], M1) else .inl (172, [vR 12 12 0, vI l1, vU, vU], [vI (w32 (0 + 1))], M1)) rfl).trans (amK_if ?_ ?_)
        · exact amRun_b 3 (x := .inr (some (vI (w32 ((w32 (0 + 1)) + 0)), M1))) rfl
        · exact amRun_b 4 (x := .inr (some (vI (w32 ((w32 (0 + 1)) + 1)), M1))) rfl
    · refine (amRun_t (f := amStep amGst (amD amGst d) cdX12_count) 5 (x := if (0 : Int) ≤ 1 ∧ (1 : Int) < 3 then .inl (154, [vR 12 12 0, vI l1, vU, vU], [vI (M1 169 0 1), vI 1], M1) else amNo) rfl).trans (amK_if ?_ rfl)
      refine (amRun_t (f := amStep amGst (amD amGst d) cdX12_count) 0 (x := if M1 169 0 1 = 0 then .inl (161, [vR 12 12 0, vI l1, vU, vU], [vI 1], M1) else .inl (157, [vR 12 12 0, vI l1, vU, vU], [vI 1], M1)) rfl).trans (amK_if ?_ ?_)
      · refine (amRun_t (f := amStep amGst (amD amGst d) cdX12_count) 5 (x := if (0 : Int) ≤ 2 ∧ (2 : Int) < 3 then .inl (169, [vR 12 12 0, vI l1, vU, vU], [vI (M1 169 0 2), vI (w32 (1 + 0))], M1) else amNo) rfl).trans (amK_if ?_ rfl)
        refine (amRun_t (f := amStep amGst (amD amGst d) cdX12_count) 0 (x := if M1 169 0 2 = 0 then .inl (176, [vR 12 12 0, vI l1, vU, vU], [vI (w32 (1 + 0))], M1) else .inl (172, [vR 12 12 0, vI l1, vU, vU], [vI (w32 (1 + 0))], M1)) rfl).trans (amK_if ?_ ?_)
        · exact amRun_b 3 (x := .inr (some (vI (w32 ((w32 (1 + 0)) + 0)), M1))) rfl
        · exact amRun_b 4 (x := .inr (some (vI (w32 ((w32 (1 + 0)) + 1)), M1))) rfl
      · refine (amRun_t (f := amStep amGst (amD amGst d) cdX12_count) 6 (x := if (0 : Int) ≤ 2 ∧ (2 : Int) < 3 then .inl (169, [vR 12 12 0, vI l1, vU, vU], [vI (M1 169 0 2), vI (w32 (1 + 1))], M1) else amNo) rfl).trans (amK_if ?_ rfl)
        refine (amRun_t (f := amStep amGst (amD amGst d) cdX12_count) 0 (x := if M1 169 0 2 = 0 then .inl (176, [vR 12 12 0, vI l1, vU, vU], [vI (w32 (1 + 1))], M1) else .inl (172, [vR 12 12 0, vI l1, vU, vU], [vI (w32 (1 + 1))], M1)) rfl).trans (amK_if ?_ ?_)
        · exact amRun_b 3 (x := .inr (some (vI (w32 ((w32 (1 + 1)) + 0)), M1))) rfl
        · exact amRun_b 4 (x := .inr (some (vI (w32 ((w32 (1 + 1)) + 1)), M1))) rfl
  refine amK_if ?_ ?_
  · exact amRun_b 4 (x := .inl (183, [vR 12 12 0, vI l1, vI 0, vI 1], [], M1)) rfl
  exact amRun_b 2 (x := .inr (some (vI (-1), M1))) rfl
theorem q_X12_count_183 (d : Nat) (l1 : Int) (l2 : Int) (l3 : Int) (M : AmM) : e_X12_count_183 d l1 l2 l3 M =
    if (0 : Int) ≤ M 12 0 18 ∧ M 12 0 18 < 2 then (if M 137 0 (M 12 0 18).toNat < l3 then (some (vI l2, M)) else (if (0 : Int) ≤ l3 ∧ l3 < 100 then (e_X12_count_183 d l1 (w32 (l2 + (M 160 0 (l3).toNat))) (w32 (l3 + 1)) M) else none)) else none := by
  show amRun _ _ = _
  refine (amRun_t (f := amStep amGst (amD amGst d) cdX12_count) 5 (x := if (0 : Int) ≤ M 12 0 18 ∧ M 12 0 18 < 2 then .inl (193, [vR 12 12 0, vI l1, vI l2, vI l3], [vI (M 137 0 (M 12 0 18).toNat), vI l3], M) else amNo) rfl).trans (amK_if ?_ rfl)
  refine (amRun_t (f := amStep amGst (amD amGst d) cdX12_count) 0 (x := if M 137 0 (M 12 0 18).toNat < l3 then .inl (211, [vR 12 12 0, vI l1, vI l2, vI l3], [], M) else .inl (196, [vR 12 12 0, vI l1, vI l2, vI l3], [], M)) rfl).trans (amK_if ?_ ?_)
  · exact amRun_b 2 (x := .inr (some (vI l2, M))) rfl
  · refine (amRun_t (f := amStep amGst (amD amGst d) cdX12_count) 4 (x := if (0 : Int) ≤ l3 ∧ l3 < 100 then .inl (203, [vR 12 12 0, vI l1, vI l2, vI l3], [vI (M 160 0 (l3).toNat), vI l2], M) else amNo) rfl).trans (amK_if ?_ rfl)
    exact amRun_b 4 (x := .inl (183, [vR 12 12 0, vI l1, vI (w32 (l2 + (M 160 0 (l3).toNat))), vI (w32 (l3 + 1))], [], M)) rfl
theorem n_X12_count (d : Nat) (l1 : Int) (M : AmM) : amD amGst (d + 1) 242 [vR 12 12 0, vI l1] M = e_X12_count_0 d l1 M := rfl
