noncomputable def e_X0_drop_0 (d : Nat) (M : AmM) : Option (AmV × AmM) := amRun (amStep amGst (amD amGst d) cdX0_drop) (0, [vR 0 0 0], [], M)
theorem q_X0_drop_0 (d : Nat) (M : AmM) : e_X0_drop_0 d M =
    some (vU, amUp M 0 0 3 (-1)) := by
  show amRun _ _ = _
  exact amRun_b 4 (x := .inr (some (vU, amUp M 0 0 3 (-1)))) rfl
theorem n_X0_drop (d : Nat) (M : AmM) : amD amGst (d + 1) 0 [vR 0 0 0] M = e_X0_drop_0 d M := rfl
noncomputable def e_X0_allCome_0 (d : Nat) (r1 : Nat) (l2 : Int) (M : AmM) : Option (AmV × AmM) := amRun (amStep amGst (amD amGst d) cdX0_allCome) (0, [vR 0 0 0, vR 5 5 r1, vI l2], [], M)
theorem q_X0_allCome_0 (d : Nat) (r1 : Nat) (l2 : Int) (M : AmM) : e_X0_allCome_0 d r1 l2 M =
    amCV (amD amGst d 53 [vR 6 6 53, vR 6 6 r1] M) fun M1 => amCI (amD amGst d 2 [vR 0 0 0, vI l2, vI (M1 5 r1 7)] M1) fun v2 M2 => bif amZ v2 then some (vI v2, M2) else none := by
  show amRun _ _ = _
  refine (amRun_t (f := amStep amGst (amD amGst d) cdX0_allCome) 4 (x := amPu 0 (amD amGst d 53 [vR 6 6 53, vR 6 6 r1] M) (fun z9 M9 => .inl (11, [vR 0 0 0, vR 5 5 r1, vI l2], z9 ++ [], M9))) rfl).trans (amK_pV fun M1 => ?_)
  refine (amRun_t (f := amStep amGst (amD amGst d) cdX0_allCome) 4 (x := amPu 1 (amD amGst d 2 [vR 0 0 0, vI l2, vI (M1 5 r1 7)] M1) (fun z9 M9 => .inl (20, [vR 0 0 0, vR 5 5 r1, vI l2], z9 ++ [], M9))) rfl).trans (amK_pI fun v2 M2 => ?_)
  exact (amRun_t 0 (x := bif amZ v2 then .inr (some (vI v2, M2)) else amNo) rfl).trans (amK_bif rfl rfl)
theorem n_X0_allCome (d : Nat) (r1 : Nat) (l2 : Int) (M : AmM) : amD amGst (d + 1) 1 [vR 0 0 0, vR 5 5 r1, vI l2] M = e_X0_allCome_0 d r1 l2 M := rfl
noncomputable def e_X0_allComeOver_0 (d : Nat) (l1 : Int) (l2 : Int) (M : AmM) : Option (AmV × AmM) := amRun (amStep amGst (amD amGst d) cdX0_allComeOver) (0, [vR 0 0 0, vI l1, vI l2, vU], [], M)
noncomputable def e_X0_allComeOver_2 (d : Nat) (l1 : Int) (l2 : Int) (l3 : Int) (M : AmM) : Option (AmV × AmM) := amRun (amStep amGst (amD amGst d) cdX0_allComeOver) (2, [vR 0 0 0, vI l1, vI l2, vI l3], [], M)
theorem q_X0_allComeOver_0 (d : Nat) (l1 : Int) (l2 : Int) (M : AmM) : e_X0_allComeOver_0 d l1 l2 M =
    e_X0_allComeOver_2 d l1 l2 0 M := by
  show amRun _ _ = _
  exact amRun_b 2 (x := .inl (2, [vR 0 0 0, vI l1, vI l2, vI 0], [], M)) rfl
theorem q_X0_allComeOver_2 (d : Nat) (l1 : Int) (l2 : Int) (l3 : Int) (M : AmM) : e_X0_allComeOver_2 d l1 l2 l3 M =
    if l3 < 8 then (amCI (amD amGst d 146 [vI l1, vI l3] M) fun v1 M1 => if v1 = 0 then (e_X0_allComeOver_2 d l1 l2 (w32 (l3 + 1)) M1) else (amCI (amD amGst d 99 [vR 10 10 0, vR 6 6 53, vI l3, vI l2] M1) fun v2 M2 => if v2 = 0 then (e_X0_allComeOver_2 d l1 l2 (w32 (l3 + 1)) M2) else (some (vI 0, M2)))) else (some (vI 1, M)) := by
  show amRun _ _ = _
  refine (amRun_t (f := amStep amGst (amD amGst d) cdX0_allComeOver) 2 (x := if l3 < 8 then .inl (8, [vR 0 0 0, vI l1, vI l2, vI l3], [], M) else .inl (40, [vR 0 0 0, vI l1, vI l2, vI l3], [], M)) rfl).trans (amK_if ?_ ?_)
  · refine (amRun_t (f := amStep amGst (amD amGst d) cdX0_allComeOver) 2 (x := amPu 1 (amD amGst d 146 [vI l1, vI l3] M) (fun z9 M9 => .inl (13, [vR 0 0 0, vI l1, vI l2, vI l3], z9 ++ [], M9))) rfl).trans (amK_pI fun v1 M1 => ?_)
    refine (amRun_t (f := amStep amGst (amD amGst d) cdX0_allComeOver) 0 (x := if v1 = 0 then .inl (34, [vR 0 0 0, vI l1, vI l2, vI l3], [], M1) else .inl (16, [vR 0 0 0, vI l1, vI l2, vI l3], [], M1)) rfl).trans (amK_if ?_ ?_)
    · exact amRun_b 2 (x := .inl (2, [vR 0 0 0, vI l1, vI l2, vI (w32 (l3 + 1))], [], M1)) rfl
    · refine (amRun_t (f := amStep amGst (amD amGst d) cdX0_allComeOver) 6 (x := amPu 1 (amD amGst d 99 [vR 10 10 0, vR 6 6 53, vI l3, vI l2] M1) (fun z9 M9 => .inl (29, [vR 0 0 0, vI l1, vI l2, vI l3], z9 ++ [], M9))) rfl).trans (amK_pI fun v2 M2 => ?_)
      refine (amRun_t (f := amStep amGst (amD amGst d) cdX0_allComeOver) 0 (x := if v2 = 0 then .inl (34, [vR 0 0 0, vI l1, vI l2, vI l3], [], M2) else .inl (32, [vR 0 0 0, vI l1, vI l2, vI l3], [], M2)) rfl).trans (amK_if ?_ ?_)
      · exact amRun_b 2 (x := .inl (2, [vR 0 0 0, vI l1, vI l2, vI (w32 (l3 + 1))], [], M2)) rfl
      · exact amRun_b 2 (x := .inr (some (vI 0, M2))) rfl
  · exact amRun_b 2 (x := .inr (some (vI 1, M))) rfl
theorem n_X0_allComeOver (d : Nat) (l1 : Int) (l2 : Int) (M : AmM) : amD amGst (d + 1) 2 [vR 0 0 0, vI l1, vI l2] M = e_X0_allComeOver_0 d l1 l2 M := rfl
noncomputable def e_X0_dryEnoughWays_0 (d : Nat) (r1 : Nat) (l2 : Int) (l3 : Int) (l4 : Int) (l5 : Int) (l6 : Int) (M : AmM) : Option (AmV × AmM) := amRun (amStep amGst (amD amGst d) cdX0_dryEnoughWays) (0, [vR 0 0 0, vR 5 5 r1, vI l2, vI l3, vI l4, vI l5, vI l6, vU, vU, vU, vU, vU], [], M)
noncomputable def e_X0_dryEnoughWays_6 (d : Nat) (r1 : Nat) (l2 : Int) (l3 : Int) (l4 : Int) (l5 : Int) (l6 : Int) (l7 : Int) (l9 : Int) (u10 : AmV) (M : AmM) : Option (AmV × AmM) := amRun (amStep amGst (amD amGst d) cdX0_dryEnoughWays) (6, [vR 0 0 0, vR 5 5 r1, vI l2, vI l3, vI l4, vI l5, vI l6, vL l7, vU, vI l9, u10, vU], [], M)
theorem q_X0_dryEnoughWays_0 (d : Nat) (r1 : Nat) (l2 : Int) (l3 : Int) (l4 : Int) (l5 : Int) (l6 : Int) (M : AmM) : e_X0_dryEnoughWays_0 d r1 l2 l3 l4 l5 l6 M =
    e_X0_dryEnoughWays_6 d r1 l2 l3 l4 l5 l6 0 0 vU M := by
  show amRun _ _ = _
  exact amRun_b 4 (x := .inl (6, [vR 0 0 0, vR 5 5 r1, vI l2, vI l3, vI l4, vI l5, vI l6, vL 0, vU, vI 0, vU, vU], [], M)) rfl
theorem q_X0_dryEnoughWays_6 (d : Nat) (r1 : Nat) (l2 : Int) (l3 : Int) (l4 : Int) (l5 : Int) (l6 : Int) (l7 : Int) (l9 : Int) (u10 : AmV) (M : AmM) : e_X0_dryEnoughWays_6 d r1 l2 l3 l4 l5 l6 l7 l9 u10 M =
    if l4 < l9 then (some (vL l7, M)) else (amCL (amD amGst d 4 [vI l4, vI l9] M) fun v1 M1 => amCL (amD amGst d 5 [vI l5, vI l9] M1) fun v2 M2 => amCL (amD amGst d 5 [vI (w32 (l6 - l5)), vI (w32 (l4 - l9))] M2) fun v3 M3 => if 0 < amCmp (w64 ((w64 (v1 * v2)) * v3)) 0 then (amCV (amD amGst d 53 [vR 6 6 53, vR 6 6 r1] M3) fun M4 => amCI (amD amGst d 61 [vR 6 6 53, vI (w32 (l9 * l3))] M4) fun v5 M5 => amCI (amD amGst d 2 [vR 0 0 0, vI l2, vI (w32 ((M5 5 r1 7) + l4))] M5) fun v6 M6 => if v6 = 0 then (e_X0_dryEnoughWays_6 d r1 l2 l3 l4 l5 l6 (w64 (l7 + 0)) (w32 (l9 + 1)) (vL (w64 ((w64 (v1 * v2)) * v3))) M6) else (e_X0_dryEnoughWays_6 d r1 l2 l3 l4 l5 l6 (w64 (l7 + (w64 ((w64 (v1 * v2)) * v3)))) (w32 (l9 + 1)) (vL (w64 ((w64 (v1 * v2)) * v3))) M6)) else (e_X0_dryEnoughWays_6 d r1 l2 l3 l4 l5 l6 l7 (w32 (l9 + 1)) (vL (w64 ((w64 (v1 * v2)) * v3))) M3)) := by
  show amRun _ _ = _
  refine (amRun_t (f := amStep amGst (amD amGst d) cdX0_dryEnoughWays) 2 (x := if l4 < l9 then .inl (106, [vR 0 0 0, vR 5 5 r1, vI l2, vI l3, vI l4, vI l5, vI l6, vL l7, vU, vI l9, u10, vU], [], M) else .inl (13, [vR 0 0 0, vR 5 5 r1, vI l2, vI l3, vI l4, vI l5, vI l6, vL l7, vU, vI l9, u10, vU], [], M)) rfl).trans (amK_if ?_ ?_)
  · exact amRun_b 2 (x := .inr (some (vL l7, M))) rfl
  · refine (amRun_t (f := amStep amGst (amD amGst d) cdX0_dryEnoughWays) 2 (x := amPu 2 (amD amGst d 4 [vI l4, vI l9] M) (fun z9 M9 => .inl (20, [vR 0 0 0, vR 5 5 r1, vI l2, vI l3, vI l4, vI l5, vI l6, vL l7, vU, vI l9, u10, vU], z9 ++ [], M9))) rfl).trans (amK_pL fun v1 M1 => ?_)
    refine (amRun_t (f := amStep amGst (amD amGst d) cdX0_dryEnoughWays) 2 (x := amPu 2 (amD amGst d 5 [vI l5, vI l9] M1) (fun z9 M9 => .inl (27, [vR 0 0 0, vR 5 5 r1, vI l2, vI l3, vI l4, vI l5, vI l6, vL l7, vU, vI l9, u10, vU], z9 ++ [vL v1], M9))) rfl).trans (amK_pL fun v2 M2 => ?_)
    refine (amRun_t (f := amStep amGst (amD amGst d) cdX0_dryEnoughWays) 7 (x := amPu 2 (amD amGst d 5 [vI (w32 (l6 - l5)), vI (w32 (l4 - l9))] M2) (fun z9 M9 => .inl (41, [vR 0 0 0, vR 5 5 r1, vI l2, vI l3, vI l4, vI l5, vI l6, vL l7, vU, vI l9, u10, vU], z9 ++ [vL (w64 (v1 * v2))], M9))) rfl).trans (amK_pL fun v3 M3 => ?_)
    refine (amRun_t (f := amStep amGst (amD amGst d) cdX0_dryEnoughWays) 5 (x := if 0 < amCmp (w64 ((w64 (v1 * v2)) * v3)) 0 then .inl (51, [vR 0 0 0, vR 5 5 r1, vI l2, vI l3, vI l4, vI l5, vI l6, vL l7, vU, vI l9, vL (w64 ((w64 (v1 * v2)) * v3)), vU], [], M3) else .inl (100, [vR 0 0 0, vR 5 5 r1, vI l2, vI l3, vI l4, vI l5, vI l6, vL l7, vU, vI l9, vL (w64 ((w64 (v1 * v2)) * v3)), vU], [], M3)) rfl).trans (amK_if ?_ ?_)
    · refine (amRun_t (f := amStep amGst (amD amGst d) cdX0_dryEnoughWays) 4 (x := amPu 0 (amD amGst d 53 [vR 6 6 53, vR 6 6 r1] M3) (fun z9 M9 => .inl (62, [vR 0 0 0, vR 5 5 r1, vI l2, vI l3, vI l4, vI l5, vI l6, vL l7, vU, vI l9, vL (w64 ((w64 (v1 * v2)) * v3)), vU], z9 ++ [], M9))) rfl).trans (amK_pV fun M4 => ?_)
      refine (amRun_t (f := amStep amGst (amD amGst d) cdX0_dryEnoughWays) 5 (x := amPu 1 (amD amGst d 61 [vR 6 6 53, vI (w32 (l9 * l3))] M4) (fun z9 M9 => .inl (73, [vR 0 0 0, vR 5 5 r1, vI l2, vI l3, vI l4, vI l5, vI l6, vL l7, vU, vI l9, vL (w64 ((w64 (v1 * v2)) * v3)), vU], z9 ++ [], M9))) rfl).trans (amK_pI fun v5 M5 => ?_)
      refine (amRun_t (f := amStep amGst (amD amGst d) cdX0_dryEnoughWays) 8 (x := amPu 1 (amD amGst d 2 [vR 0 0 0, vI l2, vI (w32 ((M5 5 r1 7) + l4))] M5) (fun z9 M9 => .inl (88, [vR 0 0 0, vR 5 5 r1, vI l2, vI l3, vI l4, vI l5, vI l6, vL l7, vU, vI l9, vL (w64 ((w64 (v1 * v2)) * v3)), vU], z9 ++ [vL l7], M9))) rfl).trans (amK_pI fun v6 M6 => ?_)
      refine (amRun_t (f := amStep amGst (amD amGst d) cdX0_dryEnoughWays) 0 (x := if v6 = 0 then .inl (96, [vR 0 0 0, vR 5 5 r1, vI l2, vI l3, vI l4, vI l5, vI l6, vL l7, vU, vI l9, vL (w64 ((w64 (v1 * v2)) * v3)), vU], [vL l7], M6) else .inl (91, [vR 0 0 0, vR 5 5 r1, vI l2, vI l3, vI l4, vI l5, vI l6, vL l7, vU, vI l9, vL (w64 ((w64 (v1 * v2)) * v3)), vU], [vL l7], M6)) rfl).trans (amK_if ?_ ?_)
      · exact amRun_b 5 (x := .inl (6, [vR 0 0 0, vR 5 5 r1, vI l2, vI l3, vI l4, vI l5, vI l6, vL (w64 (l7 + 0)), vU, vI (w32 (l9 + 1)), vL (w64 ((w64 (v1 * v2)) * v3)), vU], [], M6)) rfl
      · exact amRun_b 6 (x := .inl (6, [vR 0 0 0, vR 5 5 r1, vI l2, vI l3, vI l4, vI l5, vI l6, vL (w64 (l7 + (w64 ((w64 (v1 * v2)) * v3)))), vU, vI (w32 (l9 + 1)), vL (w64 ((w64 (v1 * v2)) * v3)), vU], [], M6)) rfl
    · exact amRun_b 2 (x := .inl (6, [vR 0 0 0, vR 5 5 r1, vI l2, vI l3, vI l4, vI l5, vI l6, vL l7, vU, vI (w32 (l9 + 1)), vL (w64 ((w64 (v1 * v2)) * v3)), vU], [], M3)) rfl
theorem n_X0_dryEnoughWays (d : Nat) (r1 : Nat) (l2 : Int) (l3 : Int) (l4 : Int) (l5 : Int) (l6 : Int) (M : AmM) : amD amGst (d + 1) 3 [vR 0 0 0, vR 5 5 r1, vI l2, vI l3, vI l4, vI l5, vI l6] M = e_X0_dryEnoughWays_0 d r1 l2 l3 l4 l5 l6 M := rfl
noncomputable def e_X0_choices_0 (d : Nat) (l0 : Int) (l1 : Int) (M : AmM) : Option (AmV × AmM) := amRun (amStep amGst (amD amGst d) cdX0_choices) (0, [vI l0, vI l1, vU, vU, vU], [], M)
noncomputable def e_X0_choices_5 (d : Nat) (l0 : Int) (l1 : Int) (l2 : Int) (l4 : Int) (M : AmM) : Option (AmV × AmM) := amRun (amStep amGst (amD amGst d) cdX0_choices) (5, [vI l0, vI l1, vL l2, vU, vI l4], [], M)
theorem q_X0_choices_0 (d : Nat) (l0 : Int) (l1 : Int) (M : AmM) : e_X0_choices_0 d l0 l1 M =
    e_X0_choices_5 d l0 l1 1 1 M := by
  show amRun _ _ = _
  exact amRun_b 4 (x := .inl (5, [vI l0, vI l1, vL 1, vU, vI 1], [], M)) rfl
theorem q_X0_choices_5 (d : Nat) (l0 : Int) (l1 : Int) (l2 : Int) (l4 : Int) (M : AmM) : e_X0_choices_5 d l0 l1 l2 l4 M =
    if l1 < l4 then (some (vL l2, M)) else (if l4 = 0 then none else (e_X0_choices_5 d l0 l1 (w64 (Int.tdiv (w64 (l2 * (w32 ((w32 (l0 - l4)) + 1)))) l4)) (w32 (l4 + 1)) M)) := by
  show amRun _ _ = _
  refine (amRun_t (f := amStep amGst (amD amGst d) cdX0_choices) 2 (x := if l1 < l4 then .inl (31, [vI l0, vI l1, vL l2, vU, vI l4], [], M) else .inl (11, [vI l0, vI l1, vL l2, vU, vI l4], [], M)) rfl).trans (amK_if ?_ ?_)
  · exact amRun_b 2 (x := .inr (some (vL l2, M))) rfl
  · refine (amRun_t (f := amStep amGst (amD amGst d) cdX0_choices) 10 (x := if l4 = 0 then amNo else .inl (24, [vI l0, vI l1, vL l2, vU, vI l4], [vL (w64 (Int.tdiv (w64 (l2 * (w32 ((w32 (l0 - l4)) + 1)))) l4))], M)) rfl).trans (amK_if rfl ?_)
    exact amRun_b 3 (x := .inl (5, [vI l0, vI l1, vL (w64 (Int.tdiv (w64 (l2 * (w32 ((w32 (l0 - l4)) + 1)))) l4)), vU, vI (w32 (l4 + 1))], [], M)) rfl
theorem n_X0_choices (d : Nat) (l0 : Int) (l1 : Int) (M : AmM) : amD amGst (d + 1) 4 [vI l0, vI l1] M = e_X0_choices_0 d l0 l1 M := rfl
noncomputable def e_X0_power_0 (d : Nat) (l0 : Int) (l1 : Int) (M : AmM) : Option (AmV × AmM) := amRun (amStep amGst (amD amGst d) cdX0_power) (0, [vI l0, vI l1, vU, vU, vU], [], M)
noncomputable def e_X0_power_5 (d : Nat) (l0 : Int) (l1 : Int) (l2 : Int) (l4 : Int) (M : AmM) : Option (AmV × AmM) := amRun (amStep amGst (amD amGst d) cdX0_power) (5, [vI l0, vI l1, vL l2, vU, vI l4], [], M)
theorem q_X0_power_0 (d : Nat) (l0 : Int) (l1 : Int) (M : AmM) : e_X0_power_0 d l0 l1 M =
    e_X0_power_5 d l0 l1 1 0 M := by
  show amRun _ _ = _
  exact amRun_b 4 (x := .inl (5, [vI l0, vI l1, vL 1, vU, vI 0], [], M)) rfl
theorem q_X0_power_5 (d : Nat) (l0 : Int) (l1 : Int) (l2 : Int) (l4 : Int) (M : AmM) : e_X0_power_5 d l0 l1 l2 l4 M =
    if l4 < l1 then (e_X0_power_5 d l0 l1 (w64 (l2 * l0)) (w32 (l4 + 1)) M) else (some (vL l2, M)) := by
  show amRun _ _ = _
  refine (amRun_t (f := amStep amGst (amD amGst d) cdX0_power) 2 (x := if l4 < l1 then .inl (11, [vI l0, vI l1, vL l2, vU, vI l4], [], M) else .inl (22, [vI l0, vI l1, vL l2, vU, vI l4], [], M)) rfl).trans (amK_if ?_ ?_)
  · exact amRun_b 7 (x := .inl (5, [vI l0, vI l1, vL (w64 (l2 * l0)), vU, vI (w32 (l4 + 1))], [], M)) rfl
  · exact amRun_b 2 (x := .inr (some (vL l2, M))) rfl
theorem n_X0_power (d : Nat) (l0 : Int) (l1 : Int) (M : AmM) : amD amGst (d + 1) 5 [vI l0, vI l1] M = e_X0_power_0 d l0 l1 M := rfl
noncomputable def e_X0_foresee_0 (d : Nat) (r1 : Nat) (l2 : Int) (M : AmM) : Option (AmV × AmM) := amRun (amStep amGst (amD amGst d) cdX0_foresee) (0, [vR 0 0 0, vR 5 5 r1, vI l2, vU, vU], [], M)
noncomputable def e_X0_foresee_59 (d : Nat) (r1 : Nat) (l2 : Int) (l3 : Int) (l4 : Int) (M : AmM) : Option (AmV × AmM) := amRun (amStep amGst (amD amGst d) cdX0_foresee) (59, [vR 0 0 0, vR 5 5 r1, vI l2, vI l3, vI l4], [], M)
theorem q_X0_foresee_0 (d : Nat) (r1 : Nat) (l2 : Int) (M : AmM) : e_X0_foresee_0 d r1 l2 M =
    if l2 = M 0 0 3 then (some (vU, M)) else (amCI (amD amGst d 51 [vR 5 5 r1] (amUp (amUp (amUp (amUp M 0 0 3 l2) 0 0 4 (-3)) 0 0 5 (-3)) 0 0 6 (-3))) fun v1 M1 => amCV (amD amGst d 53 [vR 6 6 53, vR 6 6 r1] (amUp M1 0 0 7 v1)) fun M2 => amCI (amD amGst d 49 [vR 5 5 r1] M2) fun v3 M3 => e_X0_foresee_59 d r1 l2 v3 0 M3) := by
  show amRun _ _ = _
  refine (amRun_t (f := amStep amGst (amD amGst d) cdX0_foresee) 3 (x := if l2 = M 0 0 3 then .inl (8, [vR 0 0 0, vR 5 5 r1, vI l2, vU, vU], [], M) else .inl (9, [vR 0 0 0, vR 5 5 r1, vI l2, vU, vU], [], M)) rfl).trans (amK_if ?_ ?_)
  · exact amRun_b 1 (x := .inr (some (vU, M))) rfl
  · refine (amRun_t (f := amStep amGst (amD amGst d) cdX0_foresee) 14 (x := amPu 1 (amD amGst d 51 [vR 5 5 r1] (amUp (amUp (amUp (amUp M 0 0 3 l2) 0 0 4 (-3)) 0 0 5 (-3)) 0 0 6 (-3))) (fun z9 M9 => .inl (37, [vR 0 0 0, vR 5 5 r1, vI l2, vU, vU], z9 ++ [vR 0 0 0], M9))) rfl).trans (amK_pI fun v1 M1 => ?_)
    refine (amRun_t (f := amStep amGst (amD amGst d) cdX0_foresee) 5 (x := amPu 0 (amD amGst d 53 [vR 6 6 53, vR 6 6 r1] (amUp M1 0 0 7 v1)) (fun z9 M9 => .inl (51, [vR 0 0 0, vR 5 5 r1, vI l2, vU, vU], z9 ++ [], M9))) rfl).trans (amK_pV fun M2 => ?_)
    refine (amRun_t (f := amStep amGst (amD amGst d) cdX0_foresee) 1 (x := amPu 1 (amD amGst d 49 [vR 5 5 r1] M2) (fun z9 M9 => .inl (55, [vR 0 0 0, vR 5 5 r1, vI l2, vU, vU], z9 ++ [], M9))) rfl).trans (amK_pI fun v3 M3 => ?_)
    exact amRun_b 3 (x := .inl (59, [vR 0 0 0, vR 5 5 r1, vI l2, vI v3, vI 0], [], M3)) rfl
theorem q_X0_foresee_59 (d : Nat) (r1 : Nat) (l2 : Int) (l3 : Int) (l4 : Int) (M : AmM) : e_X0_foresee_59 d r1 l2 l3 l4 M =
    if l4 < l2 then (amCI (amD amGst d 7 [vR 0 0 0, vI l3, vI l4, vI (w32 ((M 5 r1 7) + l4))] M) fun v1 M1 => amCI (amD amGst d 84 [vR 8 8 0, vI (w32 ((M1 5 r1 7) + l4))] M1) fun v2 M2 => amCI (amD amGst d 61 [vR 6 6 53, vI v2] M2) fun v3 M3 => amCV (amD amGst d 8 [vR 0 0 0, vI l4, vI v3, vI (-2)] M3) fun M4 => e_X0_foresee_59 d r1 l2 v1 (w32 (l4 + 1)) M4) else (some (vU, M)) := by
  show amRun _ _ = _
  refine (amRun_t (f := amStep amGst (amD amGst d) cdX0_foresee) 2 (x := if l4 < l2 then .inl (65, [vR 0 0 0, vR 5 5 r1, vI l2, vI l3, vI l4], [], M) else .inl (115, [vR 0 0 0, vR 5 5 r1, vI l2, vI l3, vI l4], [], M)) rfl).trans (amK_if ?_ ?_)
  · refine (amRun_t (f := amStep amGst (amD amGst d) cdX0_foresee) 7 (x := amPu 1 (amD amGst d 7 [vR 0 0 0, vI l3, vI l4, vI (w32 ((M 5 r1 7) + l4))] M) (fun z9 M9 => .inl (79, [vR 0 0 0, vR 5 5 r1, vI l2, vI l3, vI l4], z9 ++ [], M9))) rfl).trans (amK_pI fun v1 M1 => ?_)
    refine (amRun_t (f := amStep amGst (amD amGst d) cdX0_foresee) 11 (x := amPu 1 (amD amGst d 84 [vR 8 8 0, vI (w32 ((M1 5 r1 7) + l4))] M1) (fun z9 M9 => .inl (101, [vR 0 0 0, vR 5 5 r1, vI l2, vI v1, vI l4], z9 ++ [vR 6 6 53, vI l4, vR 0 0 0], M9))) rfl).trans (amK_pI fun v2 M2 => ?_)
    refine (amRun_t (f := amStep amGst (amD amGst d) cdX0_foresee) 0 (x := amPu 1 (amD amGst d 61 [vR 6 6 53, vI v2] M2) (fun z9 M9 => .inl (104, [vR 0 0 0, vR 5 5 r1, vI l2, vI v1, vI l4], z9 ++ [vI l4, vR 0 0 0], M9))) rfl).trans (amK_pI fun v3 M3 => ?_)
    refine (amRun_t (f := amStep amGst (amD amGst d) cdX0_foresee) 1 (x := amPu 0 (amD amGst d 8 [vR 0 0 0, vI l4, vI v3, vI (-2)] M3) (fun z9 M9 => .inl (109, [vR 0 0 0, vR 5 5 r1, vI l2, vI v1, vI l4], z9 ++ [], M9))) rfl).trans (amK_pV fun M4 => ?_)
    exact amRun_b 2 (x := .inl (59, [vR 0 0 0, vR 5 5 r1, vI l2, vI v1, vI (w32 (l4 + 1))], [], M4)) rfl
  · exact amRun_b 1 (x := .inr (some (vU, M))) rfl
theorem n_X0_foresee (d : Nat) (r1 : Nat) (l2 : Int) (M : AmM) : amD amGst (d + 1) 6 [vR 0 0 0, vR 5 5 r1, vI l2] M = e_X0_foresee_0 d r1 l2 M := rfl
noncomputable def e_X0_groundBehindDay_0 (d : Nat) (l1 : Int) (l2 : Int) (l3 : Int) (M : AmM) : Option (AmV × AmM) := amRun (amStep amGst (amD amGst d) cdX0_groundBehindDay) (0, [vR 0 0 0, vI l1, vI l2, vI l3, vU, vU, vU], [], M)
noncomputable def e_X0_groundBehindDay_6 (d : Nat) (l1 : Int) (l2 : Int) (l3 : Int) (l4 : Int) (l5 : Int) (u6 : AmV) (M : AmM) : Option (AmV × AmM) := amRun (amStep amGst (amD amGst d) cdX0_groundBehindDay) (6, [vR 0 0 0, vI l1, vI l2, vI l3, vI l4, vI l5, u6], [], M)
theorem q_X0_groundBehindDay_0 (d : Nat) (l1 : Int) (l2 : Int) (l3 : Int) (M : AmM) : e_X0_groundBehindDay_0 d l1 l2 l3 M =
    e_X0_groundBehindDay_6 d l1 l2 l3 l1 0 vU M := by
  show amRun _ _ = _
  exact amRun_b 4 (x := .inl (6, [vR 0 0 0, vI l1, vI l2, vI l3, vI l1, vI 0, vU], [], M)) rfl
theorem q_X0_groundBehindDay_6 (d : Nat) (l1 : Int) (l2 : Int) (l3 : Int) (l4 : Int) (l5 : Int) (u6 : AmV) (M : AmM) : e_X0_groundBehindDay_6 d l1 l2 l3 l4 l5 u6 M =
    if l5 < 8 then (amCI (amD amGst d 146 [vI l1, vI l5] M) fun v1 M1 => if v1 = 0 then (e_X0_groundBehindDay_6 d l1 l2 l3 l4 (w32 (l5 + 1)) u6 M1) else (amCI (amD amGst d 99 [vR 10 10 0, vR 6 6 53, vI l5, vI l3] M1) fun v2 M2 => amCV (amD amGst d 8 [vR 0 0 0, vI l2, vI (M2 10 0 6), vI l5] M2) fun M3 => if v2 = 2 then (if (amUp M3 0 0 7 (w32 ((M3 0 0 7) + 1))) 10 0 4 = 0 then (e_X0_groundBehindDay_6 d l1 l2 l3 (bAnd l4 l4) (w32 (l5 + 1)) (vI v2) (amUp M3 0 0 7 (w32 ((M3 0 0 7) + 1)))) else (e_X0_groundBehindDay_6 d l1 l2 l3 (bAnd l4 (bXor (bShl 1 l5) (-1))) (w32 (l5 + 1)) (vI v2) (amUp M3 0 0 7 (w32 ((M3 0 0 7) + 1))))) else (if (amUp M3 0 0 7 (w32 ((M3 0 0 7) + 0))) 10 0 4 = 0 then (e_X0_groundBehindDay_6 d l1 l2 l3 (bAnd l4 l4) (w32 (l5 + 1)) (vI v2) (amUp M3 0 0 7 (w32 ((M3 0 0 7) + 0)))) else (e_X0_groundBehindDay_6 d l1 l2 l3 (bAnd l4 (bXor (bShl 1 l5) (-1))) (w32 (l5 + 1)) (vI v2) (amUp M3 0 0 7 (w32 ((M3 0 0 7) + 0))))))) else (some (vI l4, M)) := by
  show amRun _ _ = _
  refine (amRun_t (f := amStep amGst (amD amGst d) cdX0_groundBehindDay) 2 (x := if l5 < 8 then .inl (13, [vR 0 0 0, vI l1, vI l2, vI l3, vI l4, vI l5, u6], [], M) else .inl (104, [vR 0 0 0, vI l1, vI l2, vI l3, vI l4, vI l5, u6], [], M)) rfl).trans (amK_if ?_ ?_)
  · refine (amRun_t (f := amStep amGst (amD amGst d) cdX0_groundBehindDay) 2 (x := amPu 1 (amD amGst d 146 [vI l1, vI l5] M) (fun z9 M9 => .inl (19, [vR 0 0 0, vI l1, vI l2, vI l3, vI l4, vI l5, u6], z9 ++ [], M9))) rfl).trans (amK_pI fun v1 M1 => ?_)
    refine (amRun_t (f := amStep amGst (amD amGst d) cdX0_groundBehindDay) 0 (x := if v1 = 0 then .inl (98, [vR 0 0 0, vI l1, vI l2, vI l3, vI l4, vI l5, u6], [], M1) else .inl (22, [vR 0 0 0, vI l1, vI l2, vI l3, vI l4, vI l5, u6], [], M1)) rfl).trans (amK_if ?_ ?_)
    · exact amRun_b 2 (x := .inl (6, [vR 0 0 0, vI l1, vI l2, vI l3, vI l4, vI (w32 (l5 + 1)), u6], [], M1)) rfl
    · refine (amRun_t (f := amStep amGst (amD amGst d) cdX0_groundBehindDay) 6 (x := amPu 1 (amD amGst d 99 [vR 10 10 0, vR 6 6 53, vI l5, vI l3] M1) (fun z9 M9 => .inl (36, [vR 0 0 0, vI l1, vI l2, vI l3, vI l4, vI l5, u6], z9 ++ [], M9))) rfl).trans (amK_pI fun v2 M2 => ?_)
      refine (amRun_t (f := amStep amGst (amD amGst d) cdX0_groundBehindDay) 7 (x := amPu 0 (amD amGst d 8 [vR 0 0 0, vI l2, vI (M2 10 0 6), vI l5] M2) (fun z9 M9 => .inl (52, [vR 0 0 0, vI l1, vI l2, vI l3, vI l4, vI l5, vI v2], z9 ++ [], M9))) rfl).trans (amK_pV fun M3 => ?_)
      refine (amRun_t (f := amStep amGst (amD amGst d) cdX0_groundBehindDay) 5 (x := if v2 = 2 then .inl (63, [vR 0 0 0, vI l1, vI l2, vI l3, vI l4, vI l5, vI v2], [vI (M3 0 0 7), vR 0 0 0], M3) else .inl (67, [vR 0 0 0, vI l1, vI l2, vI l3, vI l4, vI l5, vI v2], [vI (M3 0 0 7), vR 0 0 0], M3)) rfl).trans (amK_if ?_ ?_)
      · refine (amRun_t (f := amStep amGst (amD amGst d) cdX0_groundBehindDay) 8 (x := if (amUp M3 0 0 7 (w32 ((M3 0 0 7) + 1))) 10 0 4 = 0 then .inl (84, [vR 0 0 0, vI l1, vI l2, vI l3, vI l4, vI l5, vI v2], [vI l4], amUp M3 0 0 7 (w32 ((M3 0 0 7) + 1))) else .inl (89, [vR 0 0 0, vI l1, vI l2, vI l3, vI l4, vI l5, vI v2], [vI l4], amUp M3 0 0 7 (w32 ((M3 0 0 7) + 1)))) rfl).trans (amK_if ?_ ?_)
        · exact amRun_b 6 (x := .inl (6, [vR 0 0 0, vI l1, vI l2, vI l3, vI (bAnd l4 l4), vI (w32 (l5 + 1)), vI v2], [], amUp M3 0 0 7 (w32 ((M3 0 0 7) + 1)))) rfl
        · exact amRun_b 9 (x := .inl (6, [vR 0 0 0, vI l1, vI l2, vI l3, vI (bAnd l4 (bXor (bShl 1 l5) (-1))), vI (w32 (l5 + 1)), vI v2], [], amUp M3 0 0 7 (w32 ((M3 0 0 7) + 1)))) rfl
      · refine (amRun_t (f := amStep amGst (amD amGst d) cdX0_groundBehindDay) 7 (x := if (amUp M3 0 0 7 (w32 ((M3 0 0 7) + 0))) 10 0 4 = 0 then .inl (84, [vR 0 0 0, vI l1, vI l2, vI l3, vI l4, vI l5, vI v2], [vI l4], amUp M3 0 0 7 (w32 ((M3 0 0 7) + 0))) else .inl (89, [vR 0 0 0, vI l1, vI l2, vI l3, vI l4, vI l5, vI v2], [vI l4], amUp M3 0 0 7 (w32 ((M3 0 0 7) + 0)))) rfl).trans (amK_if ?_ ?_)
        · exact amRun_b 6 (x := .inl (6, [vR 0 0 0, vI l1, vI l2, vI l3, vI (bAnd l4 l4), vI (w32 (l5 + 1)), vI v2], [], amUp M3 0 0 7 (w32 ((M3 0 0 7) + 0)))) rfl
        · exact amRun_b 9 (x := .inl (6, [vR 0 0 0, vI l1, vI l2, vI l3, vI (bAnd l4 (bXor (bShl 1 l5) (-1))), vI (w32 (l5 + 1)), vI v2], [], amUp M3 0 0 7 (w32 ((M3 0 0 7) + 0)))) rfl
  · exact amRun_b 2 (x := .inr (some (vI l4, M))) rfl
theorem n_X0_groundBehindDay (d : Nat) (l1 : Int) (l2 : Int) (l3 : Int) (M : AmM) : amD amGst (d + 1) 7 [vR 0 0 0, vI l1, vI l2, vI l3] M = e_X0_groundBehindDay_0 d l1 l2 l3 M := rfl
noncomputable def e_X0_noteLost_0 (d : Nat) (l1 : Int) (l2 : Int) (l3 : Int) (M : AmM) : Option (AmV × AmM) := amRun (amStep amGst (amD amGst d) cdX0_noteLost) (0, [vR 0 0 0, vI l1, vI l2, vI l3], [], M)
theorem q_X0_noteLost_0 (d : Nat) (l1 : Int) (l2 : Int) (l3 : Int) (M : AmM) : e_X0_noteLost_0 d l1 l2 l3 M =
    if M 0 0 4 = (-3) then (if l2 = (-1) then (some (vU, M)) else (some (vU, amUp (amUp (amUp M 0 0 4 l1) 0 0 5 l2) 0 0 6 l3))) else (some (vU, M)) := by
  show amRun _ _ = _
  refine (amRun_t (f := amStep amGst (amD amGst d) cdX0_noteLost) 3 (x := if M 0 0 4 = (-3) then .inl (9, [vR 0 0 0, vI l1, vI l2, vI l3], [], M) else .inl (29, [vR 0 0 0, vI l1, vI l2, vI l3], [], M)) rfl).trans (amK_if ?_ ?_)
  · refine (amRun_t (f := amStep amGst (amD amGst d) cdX0_noteLost) 2 (x := if l2 = (-1) then .inl (29, [vR 0 0 0, vI l1, vI l2, vI l3], [], M) else .inl (14, [vR 0 0 0, vI l1, vI l2, vI l3], [], M)) rfl).trans (amK_if ?_ ?_)
    · exact amRun_b 1 (x := .inr (some (vU, M))) rfl
    · exact amRun_b 10 (x := .inr (some (vU, amUp (amUp (amUp M 0 0 4 l1) 0 0 5 l2) 0 0 6 l3))) rfl
  · exact amRun_b 1 (x := .inr (some (vU, M))) rfl
theorem n_X0_noteLost (d : Nat) (l1 : Int) (l2 : Int) (l3 : Int) (M : AmM) : amD amGst (d + 1) 8 [vR 0 0 0, vI l1, vI l2, vI l3] M = e_X0_noteLost_0 d l1 l2 l3 M := rfl
noncomputable def e_X0_fewestHands_0 (d : Nat) (r1 : Nat) (l2 : Int) (M : AmM) : Option (AmV × AmM) := amRun (amStep amGst (amD amGst d) cdX0_fewestHands) (0, [vR 0 0 0, vR 5 5 r1, vI l2, vU, vU], [], M)
noncomputable def e_X0_fewestHands_8 (d : Nat) (r1 : Nat) (l2 : Int) (l3 : Int) (l4 : Int) (M : AmM) : Option (AmV × AmM) := amRun (amStep amGst (amD amGst d) cdX0_fewestHands) (8, [vR 0 0 0, vR 5 5 r1, vI l2, vI l3, vI l4], [], M)
theorem q_X0_fewestHands_0 (d : Nat) (r1 : Nat) (l2 : Int) (M : AmM) : e_X0_fewestHands_0 d r1 l2 M =
    amCI (amD amGst d 49 [vR 5 5 r1] M) fun v1 M1 => e_X0_fewestHands_8 d r1 l2 v1 1 M1 := by
  show amRun _ _ = _
  refine (amRun_t (f := amStep amGst (amD amGst d) cdX0_fewestHands) 1 (x := amPu 1 (amD amGst d 49 [vR 5 5 r1] M) (fun z9 M9 => .inl (4, [vR 0 0 0, vR 5 5 r1, vI l2, vU, vU], z9 ++ [], M9))) rfl).trans (amK_pI fun v1 M1 => ?_)
  exact amRun_b 3 (x := .inl (8, [vR 0 0 0, vR 5 5 r1, vI l2, vI v1, vI 1], [], M1)) rfl
theorem q_X0_fewestHands_8 (d : Nat) (r1 : Nat) (l2 : Int) (l3 : Int) (l4 : Int) (M : AmM) : e_X0_fewestHands_8 d r1 l2 l3 l4 M =
    amCI (amD amGst d 244 [vI l3] M) fun v1 M1 => if v1 < l4 then (some (vI (-2), M1)) else (if l4 = 0 then none else (amCI (amD amGst d 10 [vR 0 0 0, vR 5 5 r1, vI l3, vI l4, vI (w32 (Int.tdiv (w32 ((w32 (l2 + l4)) - 1)) l4))] M1) fun v2 M2 => if v2 = 0 then (e_X0_fewestHands_8 d r1 l2 l3 (w32 (l4 + 1)) M2) else (some (vI l4, M2)))) := by
  show amRun _ _ = _
  refine (amRun_t (f := amStep amGst (amD amGst d) cdX0_fewestHands) 2 (x := amPu 1 (amD amGst d 244 [vI l3] M) (fun z9 M9 => .inl (14, [vR 0 0 0, vR 5 5 r1, vI l2, vI l3, vI l4], z9 ++ [vI l4], M9))) rfl).trans (amK_pI fun v1 M1 => ?_)
  refine (amRun_t (f := amStep amGst (amD amGst d) cdX0_fewestHands) 0 (x := if v1 < l4 then .inl (46, [vR 0 0 0, vR 5 5 r1, vI l2, vI l3, vI l4], [], M1) else .inl (17, [vR 0 0 0, vR 5 5 r1, vI l2, vI l3, vI l4], [], M1)) rfl).trans (amK_if ?_ ?_)
  · exact amRun_b 2 (x := .inr (some (vI (-2), M1))) rfl
  · refine (amRun_t (f := amStep amGst (amD amGst d) cdX0_fewestHands) 10 (x := if l4 = 0 then amNo else .inl (31, [vR 0 0 0, vR 5 5 r1, vI l2, vI l3, vI l4], [vI (w32 (Int.tdiv (w32 ((w32 (l2 + l4)) - 1)) l4)), vI l4, vI l3, vR 5 5 r1, vR 0 0 0], M1)) rfl).trans (amK_if rfl ?_)
    refine (amRun_t (f := amStep amGst (amD amGst d) cdX0_fewestHands) 0 (x := amPu 1 (amD amGst d 10 [vR 0 0 0, vR 5 5 r1, vI l3, vI l4, vI (w32 (Int.tdiv (w32 ((w32 (l2 + l4)) - 1)) l4))] M1) (fun z9 M9 => .inl (34, [vR 0 0 0, vR 5 5 r1, vI l2, vI l3, vI l4], z9 ++ [], M9))) rfl).trans (amK_pI fun v2 M2 => ?_)
    refine (amRun_t (f := amStep amGst (amD amGst d) cdX0_fewestHands) 0 (x := if v2 = 0 then .inl (40, [vR 0 0 0, vR 5 5 r1, vI l2, vI l3, vI l4], [], M2) else .inl (37, [vR 0 0 0, vR 5 5 r1, vI l2, vI l3, vI l4], [], M2)) rfl).trans (amK_if ?_ ?_)
    · exact amRun_b 2 (x := .inl (8, [vR 0 0 0, vR 5 5 r1, vI l2, vI l3, vI (w32 (l4 + 1))], [], M2)) rfl
    · exact amRun_b 2 (x := .inr (some (vI l4, M2))) rfl
theorem n_X0_fewestHands (d : Nat) (r1 : Nat) (l2 : Int) (M : AmM) : amD amGst (d + 1) 9 [vR 0 0 0, vR 5 5 r1, vI l2] M = e_X0_fewestHands_0 d r1 l2 M := rfl
noncomputable def e_X0_isCarried_0 (d : Nat) (r1 : Nat) (l2 : Int) (l3 : Int) (l4 : Int) (M : AmM) : Option (AmV × AmM) := amRun (amStep amGst (amD amGst d) cdX0_isCarried) (0, [vR 0 0 0, vR 5 5 r1, vI l2, vI l3, vI l4, vU, vU], [], M)
noncomputable def e_X0_isCarried_17 (d : Nat) (r1 : Nat) (l2 : Int) (l3 : Int) (l4 : Int) (l5 : Int) (l6 : Int) (M : AmM) : Option (AmV × AmM) := amRun (amStep amGst (amD amGst d) cdX0_isCarried) (17, [vR 0 0 0, vR 5 5 r1, vI l2, vI l3, vI l4, vI l5, vI l6], [], M)
theorem q_X0_isCarried_0 (d : Nat) (r1 : Nat) (l2 : Int) (l3 : Int) (l4 : Int) (M : AmM) : e_X0_isCarried_0 d r1 l2 l3 l4 M =
    amCV (amD amGst d 53 [vR 6 6 53, vR 6 6 r1] M) fun M1 => e_X0_isCarried_17 d r1 l2 l3 l4 0 0 M1 := by
  show amRun _ _ = _
  refine (amRun_t (f := amStep amGst (amD amGst d) cdX0_isCarried) 4 (x := amPu 0 (amD amGst d 53 [vR 6 6 53, vR 6 6 r1] M) (fun z9 M9 => .inl (11, [vR 0 0 0, vR 5 5 r1, vI l2, vI l3, vI l4, vU, vU], z9 ++ [], M9))) rfl).trans (amK_pV fun M1 => ?_)
  exact amRun_b 4 (x := .inl (17, [vR 0 0 0, vR 5 5 r1, vI l2, vI l3, vI l4, vI 0, vI 0], [], M1)) rfl
theorem q_X0_isCarried_17 (d : Nat) (r1 : Nat) (l2 : Int) (l3 : Int) (l4 : Int) (l5 : Int) (l6 : Int) (M : AmM) : e_X0_isCarried_17 d r1 l2 l3 l4 l5 l6 M =
    if l6 < 8 then (if l5 < l3 then (amCI (amD amGst d 146 [vI l2, vI l6] M) fun v1 M1 => if v1 = 0 then (e_X0_isCarried_17 d r1 l2 l3 l4 l5 (w32 (l6 + 1)) M1) else (amCI (amD amGst d 142 [vR 20 120 0, vI l6] M1) fun v2 M2 => amCI (amD amGst d 100 [vR 10 10 0, vR 6 6 53, vI (w32 (v2 + l4)), vI (M2 5 r1 7)] M2) fun v3 M3 => if v3 = 0 then (some (vI 0, M3)) else (e_X0_isCarried_17 d r1 l2 l3 l4 (w32 (l5 + 1)) (w32 (l6 + 1)) M3))) else (some (vI 1, M))) else (some (vI 1, M)) := by
  show amRun _ _ = _
  refine (amRun_t (f := amStep amGst (amD amGst d) cdX0_isCarried) 2 (x := if l6 < 8 then .inl (24, [vR 0 0 0, vR 5 5 r1, vI l2, vI l3, vI l4, vI l5, vI l6], [], M) else .inl (83, [vR 0 0 0, vR 5 5 r1, vI l2, vI l3, vI l4, vI l5, vI l6], [], M)) rfl).trans (amK_if ?_ ?_)
  · refine (amRun_t (f := amStep amGst (amD amGst d) cdX0_isCarried) 2 (x := if l5 < l3 then .inl (30, [vR 0 0 0, vR 5 5 r1, vI l2, vI l3, vI l4, vI l5, vI l6], [], M) else .inl (83, [vR 0 0 0, vR 5 5 r1, vI l2, vI l3, vI l4, vI l5, vI l6], [], M)) rfl).trans (amK_if ?_ ?_)
    · refine (amRun_t (f := amStep amGst (amD amGst d) cdX0_isCarried) 2 (x := amPu 1 (amD amGst d 146 [vI l2, vI l6] M) (fun z9 M9 => .inl (36, [vR 0 0 0, vR 5 5 r1, vI l2, vI l3, vI l4, vI l5, vI l6], z9 ++ [], M9))) rfl).trans (amK_pI fun v1 M1 => ?_)
      refine (amRun_t (f := amStep amGst (amD amGst d) cdX0_isCarried) 0 (x := if v1 = 0 then .inl (77, [vR 0 0 0, vR 5 5 r1, vI l2, vI l3, vI l4, vI l5, vI l6], [], M1) else .inl (39, [vR 0 0 0, vR 5 5 r1, vI l2, vI l3, vI l4, vI l5, vI l6], [], M1)) rfl).trans (amK_if ?_ ?_)
      · exact amRun_b 2 (x := .inl (17, [vR 0 0 0, vR 5 5 r1, vI l2, vI l3, vI l4, vI l5, vI (w32 (l6 + 1))], [], M1)) rfl
      · refine (amRun_t (f := amStep amGst (amD amGst d) cdX0_isCarried) 9 (x := amPu 1 (amD amGst d 142 [vR 20 120 0, vI l6] M1) (fun z9 M9 => .inl (62, [vR 0 0 0, vR 5 5 r1, vI l2, vI l3, vI l4, vI (w32 (l5 + 1)), vI l6], z9 ++ [vR 6 6 53, vR 10 10 0], M9))) rfl).trans (amK_pI fun v2 M2 => ?_)
        refine (amRun_t (f := amStep amGst (amD amGst d) cdX0_isCarried) 4 (x := amPu 1 (amD amGst d 100 [vR 10 10 0, vR 6 6 53, vI (w32 (v2 + l4)), vI (M2 5 r1 7)] M2) (fun z9 M9 => .inl (72, [vR 0 0 0, vR 5 5 r1, vI l2, vI l3, vI l4, vI (w32 (l5 + 1)), vI l6], z9 ++ [], M9))) rfl).trans (amK_pI fun v3 M3 => ?_)
        refine (amRun_t (f := amStep amGst (amD amGst d) cdX0_isCarried) 0 (x := if v3 = 0 then .inl (75, [vR 0 0 0, vR 5 5 r1, vI l2, vI l3, vI l4, vI (w32 (l5 + 1)), vI l6], [], M3) else .inl (77, [vR 0 0 0, vR 5 5 r1, vI l2, vI l3, vI l4, vI (w32 (l5 + 1)), vI l6], [], M3)) rfl).trans (amK_if ?_ ?_)
        · exact amRun_b 2 (x := .inr (some (vI 0, M3))) rfl
        · exact amRun_b 2 (x := .inl (17, [vR 0 0 0, vR 5 5 r1, vI l2, vI l3, vI l4, vI (w32 (l5 + 1)), vI (w32 (l6 + 1))], [], M3)) rfl
    · exact amRun_b 2 (x := .inr (some (vI 1, M))) rfl
  · exact amRun_b 2 (x := .inr (some (vI 1, M))) rfl
theorem n_X0_isCarried (d : Nat) (r1 : Nat) (l2 : Int) (l3 : Int) (l4 : Int) (M : AmM) : amD amGst (d + 1) 10 [vR 0 0 0, vR 5 5 r1, vI l2, vI l3, vI l4] M = e_X0_isCarried_0 d r1 l2 l3 l4 M := rfl
noncomputable def e_X2_allNeed_0 (d : Nat) (r1 : Nat) (l2 : Int) (M : AmM) : Option (AmV × AmM) := amRun (amStep amGst (amD amGst d) cdX2_allNeed) (0, [vR 2 2 0, vR 5 5 r1, vI l2, vU, vU, vU], [], M)
noncomputable def e_X2_allNeed_5 (d : Nat) (r1 : Nat) (l2 : Int) (l3 : Int) (l4 : Int) (u5 : AmV) (M : AmM) : Option (AmV × AmM) := amRun (amStep amGst (amD amGst d) cdX2_allNeed) (5, [vR 2 2 0, vR 5 5 r1, vI l2, vI l3, vI l4, u5], [], M)
theorem q_X2_allNeed_0 (d : Nat) (r1 : Nat) (l2 : Int) (M : AmM) : e_X2_allNeed_0 d r1 l2 M =
    e_X2_allNeed_5 d r1 l2 0 1 vU M := by
  show amRun _ _ = _
  exact amRun_b 4 (x := .inl (5, [vR 2 2 0, vR 5 5 r1, vI l2, vI 0, vI 1, vU], [], M)) rfl
theorem q_X2_allNeed_5 (d : Nat) (r1 : Nat) (l2 : Int) (l3 : Int) (l4 : Int) (u5 : AmV) (M : AmM) : e_X2_allNeed_5 d r1 l2 l3 l4 u5 M =
    if M 8 0 5 < l4 then (some (vI l3, M)) else (amCI (amD amGst d 19 [vR 2 2 0, vR 5 5 r1, vI l2, vI l4] M) fun v1 M1 => if v1 = (-2) then (some (vI (-2), M1)) else (e_X2_allNeed_5 d r1 l2 (w32 (l3 + v1)) (w32 (l4 + 1)) (vI v1) M1)) := by
  show amRun _ _ = _
  refine (amRun_t (f := amStep amGst (amD amGst d) cdX2_allNeed) 4 (x := if M 8 0 5 < l4 then .inl (48, [vR 2 2 0, vR 5 5 r1, vI l2, vI l3, vI l4, u5], [], M) else .inl (17, [vR 2 2 0, vR 5 5 r1, vI l2, vI l3, vI l4, u5], [], M)) rfl).trans (amK_if ?_ ?_)
  · exact amRun_b 2 (x := .inr (some (vI l3, M))) rfl
  · refine (amRun_t (f := amStep amGst (amD amGst d) cdX2_allNeed) 4 (x := amPu 1 (amD amGst d 19 [vR 2 2 0, vR 5 5 r1, vI l2, vI l4] M) (fun z9 M9 => .inl (25, [vR 2 2 0, vR 5 5 r1, vI l2, vI l3, vI l4, u5], z9 ++ [], M9))) rfl).trans (amK_pI fun v1 M1 => ?_)
    refine (amRun_t (f := amStep amGst (amD amGst d) cdX2_allNeed) 3 (x := if v1 = (-2) then .inl (34, [vR 2 2 0, vR 5 5 r1, vI l2, vI l3, vI l4, vI v1], [], M1) else .inl (37, [vR 2 2 0, vR 5 5 r1, vI l2, vI l3, vI l4, vI v1], [], M1)) rfl).trans (amK_if ?_ ?_)
    · exact amRun_b 2 (x := .inr (some (vI (-2), M1))) rfl
    · exact amRun_b 6 (x := .inl (5, [vR 2 2 0, vR 5 5 r1, vI l2, vI (w32 (l3 + v1)), vI (w32 (l4 + 1)), vI v1], [], M1)) rfl
theorem n_X2_allNeed (d : Nat) (r1 : Nat) (l2 : Int) (M : AmM) : amD amGst (d + 1) 18 [vR 2 2 0, vR 5 5 r1, vI l2] M = e_X2_allNeed_0 d r1 l2 M := rfl
noncomputable def e_X2_needOf_0 (d : Nat) (r1 : Nat) (l2 : Int) (l3 : Int) (M : AmM) : Option (AmV × AmM) := amRun (amStep amGst (amD amGst d) cdX2_needOf) (0, [vR 2 2 0, vR 5 5 r1, vI l2, vI l3, vU, vU], [], M)
noncomputable def e_X2_needOf_13 (d : Nat) (r1 : Nat) (l2 : Int) (l3 : Int) (l4 : Int) (l5 : Int) (M : AmM) : Option (AmV × AmM) := amRun (amStep amGst (amD amGst d) cdX2_needOf) (13, [vR 2 2 0, vR 5 5 r1, vI l2, vI l3, vI l4, vI l5], [], M)
theorem q_X2_needOf_0 (d : Nat) (r1 : Nat) (l2 : Int) (l3 : Int) (M : AmM) : e_X2_needOf_0 d r1 l2 l3 M =
    amCI (amD amGst d 57 [vR 6 6 r1, vI l3] M) fun v1 M1 => e_X2_needOf_13 d r1 l2 l3 v1 0 M1 := by
  show amRun _ _ = _
  refine (amRun_t (f := amStep amGst (amD amGst d) cdX2_needOf) 3 (x := amPu 1 (amD amGst d 57 [vR 6 6 r1, vI l3] M) (fun z9 M9 => .inl (8, [vR 2 2 0, vR 5 5 r1, vI l2, vI l3, vU, vU], z9 ++ [], M9))) rfl).trans (amK_pI fun v1 M1 => ?_)
  exact amRun_b 3 (x := .inl (13, [vR 2 2 0, vR 5 5 r1, vI l2, vI l3, vI v1, vI 0], [], M1)) rfl
theorem q_X2_needOf_13 (d : Nat) (r1 : Nat) (l2 : Int) (l3 : Int) (l4 : Int) (l5 : Int) (M : AmM) : e_X2_needOf_13 d r1 l2 l3 l4 l5 M =
    amCI (amD amGst d 142 [vR 20 118 0, vI l3] M) fun v1 M1 => if w32 (v1 - l4) < l5 then (some (vI (-2), M1)) else (amCI (amD amGst d 20 [vR 2 2 0, vR 5 5 r1, vI l2, vI l3, vI (w32 (l4 + l5))] M1) fun v2 M2 => if v2 = 0 then (e_X2_needOf_13 d r1 l2 l3 l4 (w32 (l5 + 1)) M2) else (some (vI l5, M2))) := by
  show amRun _ _ = _
  refine (amRun_t (f := amStep amGst (amD amGst d) cdX2_needOf) 5 (x := amPu 1 (amD amGst d 142 [vR 20 118 0, vI l3] M) (fun z9 M9 => .inl (26, [vR 2 2 0, vR 5 5 r1, vI l2, vI l3, vI l4, vI l5], z9 ++ [vI l5], M9))) rfl).trans (amK_pI fun v1 M1 => ?_)
  refine (amRun_t (f := amStep amGst (amD amGst d) cdX2_needOf) 2 (x := if w32 (v1 - l4) < l5 then .inl (56, [vR 2 2 0, vR 5 5 r1, vI l2, vI l3, vI l4, vI l5], [], M1) else .inl (32, [vR 2 2 0, vR 5 5 r1, vI l2, vI l3, vI l4, vI l5], [], M1)) rfl).trans (amK_if ?_ ?_)
  · exact amRun_b 2 (x := .inr (some (vI (-2), M1))) rfl
  · refine (amRun_t (f := amStep amGst (amD amGst d) cdX2_needOf) 7 (x := amPu 1 (amD amGst d 20 [vR 2 2 0, vR 5 5 r1, vI l2, vI l3, vI (w32 (l4 + l5))] M1) (fun z9 M9 => .inl (44, [vR 2 2 0, vR 5 5 r1, vI l2, vI l3, vI l4, vI l5], z9 ++ [], M9))) rfl).trans (amK_pI fun v2 M2 => ?_)
    refine (amRun_t (f := amStep amGst (amD amGst d) cdX2_needOf) 0 (x := if v2 = 0 then .inl (50, [vR 2 2 0, vR 5 5 r1, vI l2, vI l3, vI l4, vI l5], [], M2) else .inl (47, [vR 2 2 0, vR 5 5 r1, vI l2, vI l3, vI l4, vI l5], [], M2)) rfl).trans (amK_if ?_ ?_)
    · exact amRun_b 2 (x := .inl (13, [vR 2 2 0, vR 5 5 r1, vI l2, vI l3, vI l4, vI (w32 (l5 + 1))], [], M2)) rfl
    · exact amRun_b 2 (x := .inr (some (vI l5, M2))) rfl
theorem n_X2_needOf (d : Nat) (r1 : Nat) (l2 : Int) (l3 : Int) (M : AmM) : amD amGst (d + 1) 19 [vR 2 2 0, vR 5 5 r1, vI l2, vI l3] M = e_X2_needOf_0 d r1 l2 l3 M := rfl
noncomputable def e_X2_bearsSet_0 (d : Nat) (r1 : Nat) (l2 : Int) (l3 : Int) (l4 : Int) (M : AmM) : Option (AmV × AmM) := amRun (amStep amGst (amD amGst d) cdX2_bearsSet) (0, [vR 2 2 0, vR 5 5 r1, vI l2, vI l3, vI l4, vU, vU], [], M)
noncomputable def e_X2_bearsSet_7 (d : Nat) (r1 : Nat) (l2 : Int) (l3 : Int) (l4 : Int) (l5 : Int) (l6 : Int) (M : AmM) : Option (AmV × AmM) := amRun (amStep amGst (amD amGst d) cdX2_bearsSet) (7, [vR 2 2 0, vR 5 5 r1, vI l2, vI l3, vI l4, vI l5, vI l6], [], M)
noncomputable def e_X2_bearsSet_75 (d : Nat) (r1 : Nat) (l2 : Int) (l3 : Int) (l4 : Int) (l5 : Int) (l6 : Int) (M : AmM) : Option (AmV × AmM) := amRun (amStep amGst (amD amGst d) cdX2_bearsSet) (75, [vR 2 2 0, vR 5 5 r1, vI l2, vI l3, vI l4, vI l5, vI l6], [], M)
theorem q_X2_bearsSet_0 (d : Nat) (r1 : Nat) (l2 : Int) (l3 : Int) (l4 : Int) (M : AmM) : e_X2_bearsSet_0 d r1 l2 l3 l4 M =
    e_X2_bearsSet_7 d r1 l2 l3 l4 l4 0 M := by
  show amRun _ _ = _
  exact amRun_b 4 (x := .inl (7, [vR 2 2 0, vR 5 5 r1, vI l2, vI l3, vI l4, vI l4, vI 0], [], M)) rfl
theorem q_X2_bearsSet_7 (d : Nat) (r1 : Nat) (l2 : Int) (l3 : Int) (l4 : Int) (l5 : Int) (l6 : Int) (M : AmM) : e_X2_bearsSet_7 d r1 l2 l3 l4 l5 l6 M =
    if l6 < M 8 0 9 then (if l5 < 0 then (if l5 < 0 then (some (vI 0, M)) else (some (vI 1, M))) else (amCI (amD amGst d 146 [vI l2, vI l6] M) fun v1 M1 => if v1 = 0 then (e_X2_bearsSet_7 d r1 l2 l3 l4 l5 (w32 (l6 + 1)) M1) else (amCV (amD amGst d 97 [vR 10 10 0, vI l6, vI (M1 5 r1 7)] M1) fun M2 => amCI (amD amGst d 21 [vR 2 2 0, vI l3, vI 1] M2) fun v3 M3 => if v3 = 0 then (e_X2_bearsSet_75 d r1 l2 l3 l4 l5 l6 M3) else (amCI (amD amGst d 104 [vR 10 10 0, vI l3, vI l5, vI (M3 6 r1 3), vI 1] M3) fun v4 M4 => e_X2_bearsSet_75 d r1 l2 l3 l4 v4 l6 M4)))) else (if l5 < 0 then (some (vI 0, M)) else (some (vI 1, M))) := by
  show amRun _ _ = _
  refine (amRun_t (f := amStep amGst (amD amGst d) cdX2_bearsSet) 4 (x := if l6 < M 8 0 9 then .inl (19, [vR 2 2 0, vR 5 5 r1, vI l2, vI l3, vI l4, vI l5, vI l6], [], M) else .inl (115, [vR 2 2 0, vR 5 5 r1, vI l2, vI l3, vI l4, vI l5, vI l6], [], M)) rfl).trans (amK_if ?_ ?_)
  · refine (amRun_t (f := amStep amGst (amD amGst d) cdX2_bearsSet) 1 (x := if l5 < 0 then .inl (115, [vR 2 2 0, vR 5 5 r1, vI l2, vI l3, vI l4, vI l5, vI l6], [], M) else .inl (24, [vR 2 2 0, vR 5 5 r1, vI l2, vI l3, vI l4, vI l5, vI l6], [], M)) rfl).trans (amK_if ?_ ?_)
    · refine (amRun_t (f := amStep amGst (amD amGst d) cdX2_bearsSet) 1 (x := if l5 < 0 then .inl (124, [vR 2 2 0, vR 5 5 r1, vI l2, vI l3, vI l4, vI l5, vI l6], [], M) else .inl (120, [vR 2 2 0, vR 5 5 r1, vI l2, vI l3, vI l4, vI l5, vI l6], [], M)) rfl).trans (amK_if ?_ ?_)
      · exact amRun_b 2 (x := .inr (some (vI 0, M))) rfl
      · exact amRun_b 3 (x := .inr (some (vI 1, M))) rfl
    · refine (amRun_t (f := amStep amGst (amD amGst d) cdX2_bearsSet) 2 (x := amPu 1 (amD amGst d 146 [vI l2, vI l6] M) (fun z9 M9 => .inl (30, [vR 2 2 0, vR 5 5 r1, vI l2, vI l3, vI l4, vI l5, vI l6], z9 ++ [], M9))) rfl).trans (amK_pI fun v1 M1 => ?_)
      refine (amRun_t (f := amStep amGst (amD amGst d) cdX2_bearsSet) 0 (x := if v1 = 0 then .inl (109, [vR 2 2 0, vR 5 5 r1, vI l2, vI l3, vI l4, vI l5, vI l6], [], M1) else .inl (33, [vR 2 2 0, vR 5 5 r1, vI l2, vI l3, vI l4, vI l5, vI l6], [], M1)) rfl).trans (amK_if ?_ ?_)
      · exact amRun_b 2 (x := .inl (7, [vR 2 2 0, vR 5 5 r1, vI l2, vI l3, vI l4, vI l5, vI (w32 (l6 + 1))], [], M1)) rfl
      · refine (amRun_t (f := amStep amGst (amD amGst d) cdX2_bearsSet) 5 (x := amPu 0 (amD amGst d 97 [vR 10 10 0, vI l6, vI (M1 5 r1 7)] M1) (fun z9 M9 => .inl (46, [vR 2 2 0, vR 5 5 r1, vI l2, vI l3, vI l4, vI l5, vI l6], z9 ++ [], M9))) rfl).trans (amK_pV fun M2 => ?_)
        refine (amRun_t (f := amStep amGst (amD amGst d) cdX2_bearsSet) 3 (x := amPu 1 (amD amGst d 21 [vR 2 2 0, vI l3, vI 1] M2) (fun z9 M9 => .inl (52, [vR 2 2 0, vR 5 5 r1, vI l2, vI l3, vI l4, vI l5, vI l6], z9 ++ [], M9))) rfl).trans (amK_pI fun v3 M3 => ?_)
        refine (amRun_t (f := amStep amGst (amD amGst d) cdX2_bearsSet) 0 (x := if v3 = 0 then .inl (75, [vR 2 2 0, vR 5 5 r1, vI l2, vI l3, vI l4, vI l5, vI l6], [], M3) else .inl (55, [vR 2 2 0, vR 5 5 r1, vI l2, vI l3, vI l4, vI l5, vI l6], [], M3)) rfl).trans (amK_if ?_ ?_)
        · exact amRun_b 0 (x := .inl (75, [vR 2 2 0, vR 5 5 r1, vI l2, vI l3, vI l4, vI l5, vI l6], [], M3)) rfl
        · refine (amRun_t (f := amStep amGst (amD amGst d) cdX2_bearsSet) 8 (x := amPu 1 (amD amGst d 104 [vR 10 10 0, vI l3, vI l5, vI (M3 6 r1 3), vI 1] M3) (fun z9 M9 => .inl (73, [vR 2 2 0, vR 5 5 r1, vI l2, vI l3, vI l4, vI l5, vI l6], z9 ++ [], M9))) rfl).trans (amK_pI fun v4 M4 => ?_)
          exact amRun_b 1 (x := .inl (75, [vR 2 2 0, vR 5 5 r1, vI l2, vI l3, vI l4, vI v4, vI l6], [], M4)) rfl
  · refine (amRun_t (f := amStep amGst (amD amGst d) cdX2_bearsSet) 1 (x := if l5 < 0 then .inl (124, [vR 2 2 0, vR 5 5 r1, vI l2, vI l3, vI l4, vI l5, vI l6], [], M) else .inl (120, [vR 2 2 0, vR 5 5 r1, vI l2, vI l3, vI l4, vI l5, vI l6], [], M)) rfl).trans (amK_if ?_ ?_)
    · exact amRun_b 2 (x := .inr (some (vI 0, M))) rfl
    · exact amRun_b 3 (x := .inr (some (vI 1, M))) rfl
theorem q_X2_bearsSet_75 (d : Nat) (r1 : Nat) (l2 : Int) (l3 : Int) (l4 : Int) (l5 : Int) (l6 : Int) (M : AmM) : e_X2_bearsSet_75 d r1 l2 l3 l4 l5 l6 M =
    if l5 < 0 then (e_X2_bearsSet_7 d r1 l2 l3 l4 l5 (w32 (l6 + 1)) M) else (amCI (amD amGst d 21 [vR 2 2 0, vI l3, vI 0] M) fun v1 M1 => if v1 = 0 then (e_X2_bearsSet_7 d r1 l2 l3 l4 l5 (w32 (l6 + 1)) M1) else (amCI (amD amGst d 104 [vR 10 10 0, vI l3, vI l5, vI (M1 6 r1 3), vI 0] M1) fun v2 M2 => e_X2_bearsSet_7 d r1 l2 l3 l4 v2 (w32 (l6 + 1)) M2)) := by
  show amRun _ _ = _
  refine (amRun_t (f := amStep amGst (amD amGst d) cdX2_bearsSet) 1 (x := if l5 < 0 then .inl (109, [vR 2 2 0, vR 5 5 r1, vI l2, vI l3, vI l4, vI l5, vI l6], [], M) else .inl (80, [vR 2 2 0, vR 5 5 r1, vI l2, vI l3, vI l4, vI l5, vI l6], [], M)) rfl).trans (amK_if ?_ ?_)
  · exact amRun_b 2 (x := .inl (7, [vR 2 2 0, vR 5 5 r1, vI l2, vI l3, vI l4, vI l5, vI (w32 (l6 + 1))], [], M)) rfl
  · refine (amRun_t (f := amStep amGst (amD amGst d) cdX2_bearsSet) 3 (x := amPu 1 (amD amGst d 21 [vR 2 2 0, vI l3, vI 0] M) (fun z9 M9 => .inl (86, [vR 2 2 0, vR 5 5 r1, vI l2, vI l3, vI l4, vI l5, vI l6], z9 ++ [], M9))) rfl).trans (amK_pI fun v1 M1 => ?_)
    refine (amRun_t (f := amStep amGst (amD amGst d) cdX2_bearsSet) 0 (x := if v1 = 0 then .inl (109, [vR 2 2 0, vR 5 5 r1, vI l2, vI l3, vI l4, vI l5, vI l6], [], M1) else .inl (89, [vR 2 2 0, vR 5 5 r1, vI l2, vI l3, vI l4, vI l5, vI l6], [], M1)) rfl).trans (amK_if ?_ ?_)
    · exact amRun_b 2 (x := .inl (7, [vR 2 2 0, vR 5 5 r1, vI l2, vI l3, vI l4, vI l5, vI (w32 (l6 + 1))], [], M1)) rfl
    · refine (amRun_t (f := amStep amGst (amD amGst d) cdX2_bearsSet) 8 (x := amPu 1 (amD amGst d 104 [vR 10 10 0, vI l3, vI l5, vI (M1 6 r1 3), vI 0] M1) (fun z9 M9 => .inl (107, [vR 2 2 0, vR 5 5 r1, vI l2, vI l3, vI l4, vI l5, vI l6], z9 ++ [], M9))) rfl).trans (amK_pI fun v2 M2 => ?_)
      exact amRun_b 3 (x := .inl (7, [vR 2 2 0, vR 5 5 r1, vI l2, vI l3, vI l4, vI v2, vI (w32 (l6 + 1))], [], M2)) rfl
theorem n_X2_bearsSet (d : Nat) (r1 : Nat) (l2 : Int) (l3 : Int) (l4 : Int) (M : AmM) : amD amGst (d + 1) 20 [vR 2 2 0, vR 5 5 r1, vI l2, vI l3, vI l4] M = e_X2_bearsSet_0 d r1 l2 l3 l4 M := rfl
noncomputable def e_X2_treads_0 (d : Nat) (l1 : Int) (l2 : Int) (M : AmM) : Option (AmV × AmM) := amRun (amStep amGst (amD amGst d) cdX2_treads) (0, [vR 2 2 0, vI l1, vI l2, vU], [], M)
noncomputable def e_X2_treads_17 (d : Nat) (l1 : Int) (l2 : Int) (M : AmM) : Option (AmV × AmM) := amRun (amStep amGst (amD amGst d) cdX2_treads) (17, [vR 2 2 0, vI l1, vI l2, vU], [], M)
theorem q_X2_treads_0 (d : Nat) (l1 : Int) (l2 : Int) (M : AmM) : e_X2_treads_0 d l1 l2 M =
    if l2 = 0 then (if M 10 0 3 = 3 then (some (vI 0, M)) else (e_X2_treads_17 d l1 l2 M)) else (e_X2_treads_17 d l1 l2 M) := by
  show amRun _ _ = _
  refine (amRun_t (f := amStep amGst (amD amGst d) cdX2_treads) 1 (x := if l2 = 0 then .inl (4, [vR 2 2 0, vI l1, vI l2, vU], [], M) else .inl (17, [vR 2 2 0, vI l1, vI l2, vU], [], M)) rfl).trans (amK_if ?_ ?_)
  · refine (amRun_t (f := amStep amGst (amD amGst d) cdX2_treads) 4 (x := if M 10 0 3 = 3 then .inl (15, [vR 2 2 0, vI l1, vI l2, vU], [], M) else .inl (17, [vR 2 2 0, vI l1, vI l2, vU], [], M)) rfl).trans (amK_if ?_ ?_)
    · exact amRun_b 2 (x := .inr (some (vI 0, M))) rfl
    · exact amRun_b 0 (x := .inl (17, [vR 2 2 0, vI l1, vI l2, vU], [], M)) rfl
  · exact amRun_b 0 (x := .inl (17, [vR 2 2 0, vI l1, vI l2, vU], [], M)) rfl
theorem q_X2_treads_17 (d : Nat) (l1 : Int) (l2 : Int) (M : AmM) : e_X2_treads_17 d l1 l2 M =
    if l2 = 0 then (if M 10 0 3 = 2 then (if (2 : Int) = 0 then none else (if Int.tmod (w32 ((w32 ((M 8 0 5) + 1)) - l1)) 2 = 0 then (some (vI 1, M)) else (some (vI 0, M)))) else (some (vI 1, M))) else (if M 10 0 3 = 2 then (if (2 : Int) = 0 then none else (if Int.tmod l1 2 = 0 then (some (vI 1, M)) else (some (vI 0, M)))) else (some (vI 1, M))) := by
  show amRun _ _ = _
  refine (amRun_t (f := amStep amGst (amD amGst d) cdX2_treads) 1 (x := if l2 = 0 then .inl (25, [vR 2 2 0, vI l1, vI l2, vU], [], M) else .inl (21, [vR 2 2 0, vI l1, vI l2, vU], [], M)) rfl).trans (amK_if ?_ ?_)
  · refine (amRun_t (f := amStep amGst (amD amGst d) cdX2_treads) 12 (x := if M 10 0 3 = 2 then .inl (48, [vR 2 2 0, vI l1, vI l2, vI (w32 ((w32 ((M 8 0 5) + 1)) - l1))], [], M) else .inl (54, [vR 2 2 0, vI l1, vI l2, vI (w32 ((w32 ((M 8 0 5) + 1)) - l1))], [], M)) rfl).trans (amK_if ?_ ?_)
    · refine (amRun_t (f := amStep amGst (amD amGst d) cdX2_treads) 2 (x := if (2 : Int) = 0 then amNo else .inl (51, [vR 2 2 0, vI l1, vI l2, vI (w32 ((w32 ((M 8 0 5) + 1)) - l1))], [vI (Int.tmod (w32 ((w32 ((M 8 0 5) + 1)) - l1)) 2)], M)) rfl).trans (amK_if rfl ?_)
      refine (amRun_t (f := amStep amGst (amD amGst d) cdX2_treads) 0 (x := if Int.tmod (w32 ((w32 ((M 8 0 5) + 1)) - l1)) 2 = 0 then .inl (54, [vR 2 2 0, vI l1, vI l2, vI (w32 ((w32 ((M 8 0 5) + 1)) - l1))], [], M) else .inl (58, [vR 2 2 0, vI l1, vI l2, vI (w32 ((w32 ((M 8 0 5) + 1)) - l1))], [], M)) rfl).trans (amK_if ?_ ?_)
      · exact amRun_b 3 (x := .inr (some (vI 1, M))) rfl
      · exact amRun_b 2 (x := .inr (some (vI 0, M))) rfl
    · exact amRun_b 3 (x := .inr (some (vI 1, M))) rfl
  · refine (amRun_t (f := amStep amGst (amD amGst d) cdX2_treads) 7 (x := if M 10 0 3 = 2 then .inl (48, [vR 2 2 0, vI l1, vI l2, vI l1], [], M) else .inl (54, [vR 2 2 0, vI l1, vI l2, vI l1], [], M)) rfl).trans (amK_if ?_ ?_)
    · refine (amRun_t (f := amStep amGst (amD amGst d) cdX2_treads) 2 (x := if (2 : Int) = 0 then amNo else .inl (51, [vR 2 2 0, vI l1, vI l2, vI l1], [vI (Int.tmod l1 2)], M)) rfl).trans (amK_if rfl ?_)
      refine (amRun_t (f := amStep amGst (amD amGst d) cdX2_treads) 0 (x := if Int.tmod l1 2 = 0 then .inl (54, [vR 2 2 0, vI l1, vI l2, vI l1], [], M) else .inl (58, [vR 2 2 0, vI l1, vI l2, vI l1], [], M)) rfl).trans (amK_if ?_ ?_)
      · exact amRun_b 3 (x := .inr (some (vI 1, M))) rfl
      · exact amRun_b 2 (x := .inr (some (vI 0, M))) rfl
    · exact amRun_b 3 (x := .inr (some (vI 1, M))) rfl
theorem n_X2_treads (d : Nat) (l1 : Int) (l2 : Int) (M : AmM) : amD amGst (d + 1) 21 [vR 2 2 0, vI l1, vI l2] M = e_X2_treads_0 d l1 l2 M := rfl
noncomputable def e_X2_takenOff_0 (d : Nat) (r1 : Nat) (l2 : Int) (M : AmM) : Option (AmV × AmM) := amRun (amStep amGst (amD amGst d) cdX2_takenOff) (0, [vR 2 2 0, vR 5 5 r1, vI l2, vU, vU], [], M)
noncomputable def e_X2_takenOff_33 (d : Nat) (r1 : Nat) (l2 : Int) (l3 : Int) (l4 : Int) (M : AmM) : Option (AmV × AmM) := amRun (amStep amGst (amD amGst d) cdX2_takenOff) (33, [vR 2 2 0, vR 5 5 r1, vI l2, vI l3, vI l4], [], M)
theorem q_X2_takenOff_0 (d : Nat) (r1 : Nat) (l2 : Int) (M : AmM) : e_X2_takenOff_0 d r1 l2 M =
    amCV (amD amGst d 97 [vR 10 10 0, vI l2, vI (M 5 r1 7)] M) fun M1 => amCI (amD amGst d 142 [vR 20 108 r1, vI l2] M1) fun v2 M2 => amCV (amD amGst d 143 [vR 20 103 0, vI 0, vI 0] M2) fun M3 => e_X2_takenOff_33 d r1 l2 v2 1 M3 := by
  show amRun _ _ = _
  refine (amRun_t (f := amStep amGst (amD amGst d) cdX2_takenOff) 5 (x := amPu 0 (amD amGst d 97 [vR 10 10 0, vI l2, vI (M 5 r1 7)] M) (fun z9 M9 => .inl (12, [vR 2 2 0, vR 5 5 r1, vI l2, vU, vU], z9 ++ [], M9))) rfl).trans (amK_pV fun M1 => ?_)
  refine (amRun_t (f := amStep amGst (amD amGst d) cdX2_takenOff) 3 (x := amPu 1 (amD amGst d 142 [vR 20 108 r1, vI l2] M1) (fun z9 M9 => .inl (20, [vR 2 2 0, vR 5 5 r1, vI l2, vU, vU], z9 ++ [], M9))) rfl).trans (amK_pI fun v2 M2 => ?_)
  refine (amRun_t (f := amStep amGst (amD amGst d) cdX2_takenOff) 5 (x := amPu 0 (amD amGst d 143 [vR 20 103 0, vI 0, vI 0] M2) (fun z9 M9 => .inl (30, [vR 2 2 0, vR 5 5 r1, vI l2, vI v2, vU], z9 ++ [], M9))) rfl).trans (amK_pV fun M3 => ?_)
  exact amRun_b 2 (x := .inl (33, [vR 2 2 0, vR 5 5 r1, vI l2, vI v2, vI 1], [], M3)) rfl
theorem q_X2_takenOff_33 (d : Nat) (r1 : Nat) (l2 : Int) (l3 : Int) (l4 : Int) (M : AmM) : e_X2_takenOff_33 d r1 l2 l3 l4 M =
    if l3 < l4 then (amCI (amD amGst d 142 [vR 20 103 0, vI l3] M) fun v1 M1 => if v1 < 1000000 then (some (vI v1, M1)) else (some (vI (-2), M1))) else (amCI (amD amGst d 23 [vR 2 2 0, vR 6 6 r1, vI l4] M) fun v2 M2 => amCV (amD amGst d 143 [vR 20 103 0, vI l4, vI v2] M2) fun M3 => e_X2_takenOff_33 d r1 l2 l3 (w32 (l4 + 1)) M3) := by
  show amRun _ _ = _
  refine (amRun_t (f := amStep amGst (amD amGst d) cdX2_takenOff) 2 (x := if l3 < l4 then .inl (64, [vR 2 2 0, vR 5 5 r1, vI l2, vI l3, vI l4], [], M) else .inl (39, [vR 2 2 0, vR 5 5 r1, vI l2, vI l3, vI l4], [], M)) rfl).trans (amK_if ?_ ?_)
  · refine (amRun_t (f := amStep amGst (amD amGst d) cdX2_takenOff) 3 (x := amPu 1 (amD amGst d 142 [vR 20 103 0, vI l3] M) (fun z9 M9 => .inl (72, [vR 2 2 0, vR 5 5 r1, vI l2, vI l3, vI l4], z9 ++ [], M9))) rfl).trans (amK_pI fun v1 M1 => ?_)
    refine (amRun_t (f := amStep amGst (amD amGst d) cdX2_takenOff) 3 (x := if v1 < 1000000 then .inl (81, [vR 2 2 0, vR 5 5 r1, vI l2, vI l3, vI v1], [], M1) else .inl (86, [vR 2 2 0, vR 5 5 r1, vI l2, vI l3, vI v1], [], M1)) rfl).trans (amK_if ?_ ?_)
    · exact amRun_b 3 (x := .inr (some (vI v1, M1))) rfl
    · exact amRun_b 2 (x := .inr (some (vI (-2), M1))) rfl
  · refine (amRun_t (f := amStep amGst (amD amGst d) cdX2_takenOff) 7 (x := amPu 1 (amD amGst d 23 [vR 2 2 0, vR 6 6 r1, vI l4] M) (fun z9 M9 => .inl (55, [vR 2 2 0, vR 5 5 r1, vI l2, vI l3, vI l4], z9 ++ [vI l4, vR 20 103 0], M9))) rfl).trans (amK_pI fun v2 M2 => ?_)
    refine (amRun_t (f := amStep amGst (amD amGst d) cdX2_takenOff) 0 (x := amPu 0 (amD amGst d 143 [vR 20 103 0, vI l4, vI v2] M2) (fun z9 M9 => .inl (58, [vR 2 2 0, vR 5 5 r1, vI l2, vI l3, vI l4], z9 ++ [], M9))) rfl).trans (amK_pV fun M3 => ?_)
    exact amRun_b 2 (x := .inl (33, [vR 2 2 0, vR 5 5 r1, vI l2, vI l3, vI (w32 (l4 + 1))], [], M3)) rfl
theorem n_X2_takenOff (d : Nat) (r1 : Nat) (l2 : Int) (M : AmM) : amD amGst (d + 1) 22 [vR 2 2 0, vR 5 5 r1, vI l2] M = e_X2_takenOff_0 d r1 l2 M := rfl
noncomputable def e_X2_dearFrom_0 (d : Nat) (r1 : Nat) (l2 : Int) (M : AmM) : Option (AmV × AmM) := amRun (amStep amGst (amD amGst d) cdX2_dearFrom) (0, [vR 2 2 0, vR 6 6 r1, vI l2, vU, vU], [], M)
theorem q_X2_dearFrom_0 (d : Nat) (r1 : Nat) (l2 : Int) (M : AmM) : e_X2_dearFrom_0 d r1 l2 M =
    if M 10 0 3 = 2 then (amCI (amD amGst d 24 [vR 2 2 0, vR 6 6 r1, vI (amMax 0 (w32 (l2 - 2)))] M) fun v1 M1 => amCI (amD amGst d 56 [vR 6 6 r1, vI (amMax 0 (w32 (l2 - 2)))] M1) fun v2 M2 => if v2 = 0 then (amCI (amD amGst d 24 [vR 2 2 0, vR 6 6 r1, vI (w32 (l2 - 1))] M2) fun v3 M3 => some (vI (amMin v1 v3), M3)) else (some (vI v1, M2))) else (amCI (amD amGst d 24 [vR 2 2 0, vR 6 6 r1, vI (w32 (l2 - 1))] M) fun v4 M4 => some (vI v4, M4)) := by
  show amRun _ _ = _
  refine (amRun_t (f := amStep amGst (amD amGst d) cdX2_dearFrom) 4 (x := if M 10 0 3 = 2 then .inl (20, [vR 2 2 0, vR 6 6 r1, vI l2, vU, vU], [], M) else .inl (11, [vR 2 2 0, vR 6 6 r1, vI l2, vU, vU], [], M)) rfl).trans (amK_if ?_ ?_)
  · refine (amRun_t (f := amStep amGst (amD amGst d) cdX2_dearFrom) 9 (x := amPu 1 (amD amGst d 24 [vR 2 2 0, vR 6 6 r1, vI (amMax 0 (w32 (l2 - 2)))] M) (fun z9 M9 => .inl (34, [vR 2 2 0, vR 6 6 r1, vI l2, vI (amMax 0 (w32 (l2 - 2))), vU], z9 ++ [], M9))) rfl).trans (amK_pI fun v1 M1 => ?_)
    refine (amRun_t (f := amStep amGst (amD amGst d) cdX2_dearFrom) 3 (x := amPu 1 (amD amGst d 56 [vR 6 6 r1, vI (amMax 0 (w32 (l2 - 2)))] M1) (fun z9 M9 => .inl (41, [vR 2 2 0, vR 6 6 r1, vI l2, vI (amMax 0 (w32 (l2 - 2))), vI v1], z9 ++ [], M9))) rfl).trans (amK_pI fun v2 M2 => ?_)
    refine (amRun_t (f := amStep amGst (amD amGst d) cdX2_dearFrom) 0 (x := if v2 = 0 then .inl (47, [vR 2 2 0, vR 6 6 r1, vI l2, vI (amMax 0 (w32 (l2 - 2))), vI v1], [], M2) else .inl (44, [vR 2 2 0, vR 6 6 r1, vI l2, vI (amMax 0 (w32 (l2 - 2))), vI v1], [], M2)) rfl).trans (amK_if ?_ ?_)
    · refine (amRun_t (f := amStep amGst (amD amGst d) cdX2_dearFrom) 6 (x := amPu 1 (amD amGst d 24 [vR 2 2 0, vR 6 6 r1, vI (w32 (l2 - 1))] M2) (fun z9 M9 => .inl (57, [vR 2 2 0, vR 6 6 r1, vI l2, vI (amMax 0 (w32 (l2 - 2))), vI v1], z9 ++ [vI v1], M9))) rfl).trans (amK_pI fun v3 M3 => ?_)
      exact amRun_b 2 (x := .inr (some (vI (amMin v1 v3), M3))) rfl
    · exact amRun_b 2 (x := .inr (some (vI v1, M2))) rfl
  · refine (amRun_t (f := amStep amGst (amD amGst d) cdX2_dearFrom) 5 (x := amPu 1 (amD amGst d 24 [vR 2 2 0, vR 6 6 r1, vI (w32 (l2 - 1))] M) (fun z9 M9 => .inl (19, [vR 2 2 0, vR 6 6 r1, vI l2, vU, vU], z9 ++ [], M9))) rfl).trans (amK_pI fun v4 M4 => ?_)
    exact amRun_b 1 (x := .inr (some (vI v4, M4))) rfl
theorem n_X2_dearFrom (d : Nat) (r1 : Nat) (l2 : Int) (M : AmM) : amD amGst (d + 1) 23 [vR 2 2 0, vR 6 6 r1, vI l2] M = e_X2_dearFrom_0 d r1 l2 M := rfl
noncomputable def e_X2_dearOver_0 (d : Nat) (r1 : Nat) (l2 : Int) (M : AmM) : Option (AmV × AmM) := amRun (amStep amGst (amD amGst d) cdX2_dearOver) (0, [vR 2 2 0, vR 6 6 r1, vI l2, vU, vU], [], M)
noncomputable def e_X2_dearOver_15 (d : Nat) (r1 : Nat) (l2 : Int) (l3 : Int) (l4 : Int) (M : AmM) : Option (AmV × AmM) := amRun (amStep amGst (amD amGst d) cdX2_dearOver) (15, [vR 2 2 0, vR 6 6 r1, vI l2, vI l3, vI l4], [], M)
theorem q_X2_dearOver_0 (d : Nat) (r1 : Nat) (l2 : Int) (M : AmM) : e_X2_dearOver_0 d r1 l2 M =
    if 0 < l2 then (amCI (amD amGst d 57 [vR 6 6 r1, vI l2] M) fun v1 M1 => e_X2_dearOver_15 d r1 l2 v1 0 M1) else (some (vI 0, M)) := by
  show amRun _ _ = _
  refine (amRun_t (f := amStep amGst (amD amGst d) cdX2_dearOver) 1 (x := if 0 < l2 then .inl (6, [vR 2 2 0, vR 6 6 r1, vI l2, vU, vU], [], M) else .inl (4, [vR 2 2 0, vR 6 6 r1, vI l2, vU, vU], [], M)) rfl).trans (amK_if ?_ ?_)
  · refine (amRun_t (f := amStep amGst (amD amGst d) cdX2_dearOver) 2 (x := amPu 1 (amD amGst d 57 [vR 6 6 r1, vI l2] M) (fun z9 M9 => .inl (11, [vR 2 2 0, vR 6 6 r1, vI l2, vU, vU], z9 ++ [], M9))) rfl).trans (amK_pI fun v1 M1 => ?_)
    exact amRun_b 3 (x := .inl (15, [vR 2 2 0, vR 6 6 r1, vI l2, vI v1, vI 0], [], M1)) rfl
  · exact amRun_b 2 (x := .inr (some (vI 0, M))) rfl
theorem q_X2_dearOver_15 (d : Nat) (r1 : Nat) (l2 : Int) (l3 : Int) (l4 : Int) (M : AmM) : e_X2_dearOver_15 d r1 l2 l3 l4 M =
    amCI (amD amGst d 142 [vR 20 118 0, vI l2] M) fun v1 M1 => if w32 (v1 - l3) < l4 then (some (vI 1000000, M1)) else (amCI (amD amGst d 104 [vR 10 10 0, vI l2, vI (w32 (l3 + l4)), vI (M1 6 r1 3), vI 0] M1) fun v2 M2 => if v2 < 0 then (e_X2_dearOver_15 d r1 l2 l3 (w32 (l4 + 1)) M2) else (amCI (amD amGst d 142 [vR 20 103 0, vI l2] M2) fun v3 M3 => some (vI (amMin 1000000 (w32 (l4 + v3))), M3))) := by
  show amRun _ _ = _
  refine (amRun_t (f := amStep amGst (amD amGst d) cdX2_dearOver) 5 (x := amPu 1 (amD amGst d 142 [vR 20 118 0, vI l2] M) (fun z9 M9 => .inl (28, [vR 2 2 0, vR 6 6 r1, vI l2, vI l3, vI l4], z9 ++ [vI l4], M9))) rfl).trans (amK_pI fun v1 M1 => ?_)
  refine (amRun_t (f := amStep amGst (amD amGst d) cdX2_dearOver) 2 (x := if w32 (v1 - l3) < l4 then .inl (76, [vR 2 2 0, vR 6 6 r1, vI l2, vI l3, vI l4], [], M1) else .inl (33, [vR 2 2 0, vR 6 6 r1, vI l2, vI l3, vI l4], [], M1)) rfl).trans (amK_if ?_ ?_)
  · exact amRun_b 2 (x := .inr (some (vI 1000000, M1))) rfl
  · refine (amRun_t (f := amStep amGst (amD amGst d) cdX2_dearOver) 9 (x := amPu 1 (amD amGst d 104 [vR 10 10 0, vI l2, vI (w32 (l3 + l4)), vI (M1 6 r1 3), vI 0] M1) (fun z9 M9 => .inl (50, [vR 2 2 0, vR 6 6 r1, vI l2, vI l3, vI l4], z9 ++ [], M9))) rfl).trans (amK_pI fun v2 M2 => ?_)
    refine (amRun_t (f := amStep amGst (amD amGst d) cdX2_dearOver) 0 (x := if v2 < 0 then .inl (70, [vR 2 2 0, vR 6 6 r1, vI l2, vI l3, vI l4], [], M2) else .inl (53, [vR 2 2 0, vR 6 6 r1, vI l2, vI l3, vI l4], [], M2)) rfl).trans (amK_if ?_ ?_)
    · exact amRun_b 2 (x := .inl (15, [vR 2 2 0, vR 6 6 r1, vI l2, vI l3, vI (w32 (l4 + 1))], [], M2)) rfl
    · refine (amRun_t (f := amStep amGst (amD amGst d) cdX2_dearOver) 5 (x := amPu 1 (amD amGst d 142 [vR 20 103 0, vI l2] M2) (fun z9 M9 => .inl (65, [vR 2 2 0, vR 6 6 r1, vI l2, vI l3, vI l4], z9 ++ [vI l4, vI 1000000], M9))) rfl).trans (amK_pI fun v3 M3 => ?_)
      exact amRun_b 3 (x := .inr (some (vI (amMin 1000000 (w32 (l4 + v3))), M3))) rfl
theorem n_X2_dearOver (d : Nat) (r1 : Nat) (l2 : Int) (M : AmM) : amD amGst (d + 1) 24 [vR 2 2 0, vR 6 6 r1, vI l2] M = e_X2_dearOver_0 d r1 l2 M := rfl
noncomputable def e_X3_drop_0 (d : Nat) (M : AmM) : Option (AmV × AmM) := amRun (amStep amGst (amD amGst d) cdX3_drop) (0, [vR 3 3 0], [], M)
theorem q_X3_drop_0 (d : Nat) (M : AmM) : e_X3_drop_0 d M =
    some (vU, amUp M 3 0 4 (-1)) := by
  show amRun _ _ = _
  exact amRun_b 4 (x := .inr (some (vU, amUp M 3 0 4 (-1)))) rfl
theorem n_X3_drop (d : Nat) (M : AmM) : amD amGst (d + 1) 25 [vR 3 3 0] M = e_X3_drop_0 d M := rfl
noncomputable def e_X3_seek_0 (d : Nat) (r1 : Nat) (l2 : Int) (M : AmM) : Option (AmV × AmM) := amRun (amStep amGst (amD amGst d) cdX3_seek) (0, [vR 3 3 0, vR 5 5 r1, vI l2], [], M)
noncomputable def e_X3_seek_58 (d : Nat) (r1 : Nat) (l2 : Int) (M : AmM) : Option (AmV × AmM) := amRun (amStep amGst (amD amGst d) cdX3_seek) (58, [vR 3 3 0, vR 5 5 r1, vI l2], [], M)
theorem q_X3_seek_0 (d : Nat) (r1 : Nat) (l2 : Int) (M : AmM) : e_X3_seek_0 d r1 l2 M =
    if l2 = M 3 0 4 then (some (vU, M)) else (if (8 : Int) < 1 then (some (vU, M)) else (if (0 : Int) ≤ 0 ∧ (0 : Int) < 8 then (amCI (amD amGst d 244 [vI l2] (amUp M 3 0 4 l2)) fun v1 M1 => e_X3_seek_58 d r1 l2 (amUp (amUp (amUp (amUp M1 3 0 5 v1) 3 0 6 ((amUp M1 3 0 5 v1) 5 r1 7)) 3 0 7 (-1)) 3 0 8 0)) else none)) := by
  show amRun _ _ = _
  refine (amRun_t (f := amStep amGst (amD amGst d) cdX3_seek) 3 (x := if l2 = M 3 0 4 then .inl (26, [vR 3 3 0, vR 5 5 r1, vI l2], [], M) else .inl (8, [vR 3 3 0, vR 5 5 r1, vI l2], [], M)) rfl).trans (amK_if ?_ ?_)
  · exact amRun_b 1 (x := .inr (some (vU, M))) rfl
  · refine (amRun_t (f := amStep amGst (amD amGst d) cdX3_seek) 4 (x := if (8 : Int) < 1 then .inl (26, [vR 3 3 0, vR 5 5 r1, vI l2], [], M) else .inl (17, [vR 3 3 0, vR 5 5 r1, vI l2], [], M)) rfl).trans (amK_if ?_ ?_)
    · exact amRun_b 1 (x := .inr (some (vU, M))) rfl
    · refine (amRun_t (f := amStep amGst (amD amGst d) cdX3_seek) 3 (x := if (0 : Int) ≤ 0 ∧ (0 : Int) < 8 then .inl (23, [vR 3 3 0, vR 5 5 r1, vI l2], [vR 6 6 (0 + 45)], M) else amNo) rfl).trans (amK_if ?_ rfl)
      refine (amRun_t (f := amStep amGst (amD amGst d) cdX3_seek) 6 (x := amPu 1 (amD amGst d 244 [vI l2] (amUp M 3 0 4 l2)) (fun z9 M9 => .inl (37, [vR 3 3 0, vR 5 5 r1, vI l2], z9 ++ [vR 3 3 0], M9))) rfl).trans (amK_pI fun v1 M1 => ?_)
      exact amRun_b 11 (x := .inl (58, [vR 3 3 0, vR 5 5 r1, vI l2], [], amUp (amUp (amUp (amUp M1 3 0 5 v1) 3 0 6 ((amUp M1 3 0 5 v1) 5 r1 7)) 3 0 7 (-1)) 3 0 8 0)) rfl
theorem q_X3_seek_58 (d : Nat) (r1 : Nat) (l2 : Int) (M : AmM) : e_X3_seek_58 d r1 l2 M =
    if (0 : Int) ≤ 0 ∧ (0 : Int) < 8 then (amCV (amD amGst d 53 [vR 6 6 (0 + 45), vR 6 6 r1] M) fun M1 => amCV (amD amGst d 27 [vR 3 3 0, vI 0, vI l2, vI 0, vI 0] M1) fun M2 => some (vU, M2)) else none := by
  show amRun _ _ = _
  refine (amRun_t (f := amStep amGst (amD amGst d) cdX3_seek) 3 (x := if (0 : Int) ≤ 0 ∧ (0 : Int) < 8 then .inl (64, [vR 3 3 0, vR 5 5 r1, vI l2], [vR 6 6 (0 + 45)], M) else amNo) rfl).trans (amK_if ?_ rfl)
  refine (amRun_t (f := amStep amGst (amD amGst d) cdX3_seek) 2 (x := amPu 0 (amD amGst d 53 [vR 6 6 (0 + 45), vR 6 6 r1] M) (fun z9 M9 => .inl (71, [vR 3 3 0, vR 5 5 r1, vI l2], z9 ++ [], M9))) rfl).trans (amK_pV fun M1 => ?_)
  refine (amRun_t (f := amStep amGst (amD amGst d) cdX3_seek) 5 (x := amPu 0 (amD amGst d 27 [vR 3 3 0, vI 0, vI l2, vI 0, vI 0] M1) (fun z9 M9 => .inl (79, [vR 3 3 0, vR 5 5 r1, vI l2], z9 ++ [], M9))) rfl).trans (amK_pV fun M2 => ?_)
  exact amRun_b 1 (x := .inr (some (vU, M2))) rfl
theorem n_X3_seek (d : Nat) (r1 : Nat) (l2 : Int) (M : AmM) : amD amGst (d + 1) 26 [vR 3 3 0, vR 5 5 r1, vI l2] M = e_X3_seek_0 d r1 l2 M := rfl
noncomputable def e_X3_search_0 (d : Nat) (l1 : Int) (l2 : Int) (l3 : Int) (l4 : Int) (M : AmM) : Option (AmV × AmM) := amRun (amStep amGst (amD amGst d) cdX3_search) (0, [vR 3 3 0, vI l1, vI l2, vI l3, vI l4, vU, vU, vU], [], M)
noncomputable def e_X3_search_38 (d : Nat) (l1 : Int) (l2 : Int) (l3 : Int) (l4 : Int) (l5 : Int) (M : AmM) : Option (AmV × AmM) := amRun (amStep amGst (amD amGst d) cdX3_search) (38, [vR 3 3 0, vI l1, vI l2, vI l3, vI l4, vI l5, vU, vU], [], M)
noncomputable def e_X3_search_117 (d : Nat) (l1 : Int) (l2 : Int) (l3 : Int) (l4 : Int) (l5 : Int) (l6 : Int) (u7 : AmV) (M : AmM) : Option (AmV × AmM) := amRun (amStep amGst (amD amGst d) cdX3_search) (117, [vR 3 3 0, vI l1, vI l2, vI l3, vI l4, vI l5, vI l6, u7], [], M)
theorem q_X3_search_0 (d : Nat) (l1 : Int) (l2 : Int) (l3 : Int) (l4 : Int) (M : AmM) : e_X3_search_0 d l1 l2 l3 l4 M =
    if w32 ((w32 (l3 + (M 3 0 5))) - l1) < M 3 0 7 then (some (vU, M)) else (if w32 ((w32 (l3 + (M 3 0 5))) - l1) = M 3 0 7 then (if l4 < M 3 0 8 then (e_X3_search_38 d l1 l2 l3 l4 (w32 ((w32 (l3 + (M 3 0 5))) - l1)) M) else (some (vU, M))) else (e_X3_search_38 d l1 l2 l3 l4 (w32 ((w32 (l3 + (M 3 0 5))) - l1)) M)) := by
  show amRun _ _ = _
  refine (amRun_t (f := amStep amGst (amD amGst d) cdX3_search) 10 (x := if w32 ((w32 (l3 + (M 3 0 5))) - l1) < M 3 0 7 then .inl (37, [vR 3 3 0, vI l1, vI l2, vI l3, vI l4, vI (w32 ((w32 (l3 + (M 3 0 5))) - l1)), vU, vU], [], M) else .inl (19, [vR 3 3 0, vI l1, vI l2, vI l3, vI l4, vI (w32 ((w32 (l3 + (M 3 0 5))) - l1)), vU, vU], [], M)) rfl).trans (amK_if ?_ ?_)
  · exact amRun_b 1 (x := .inr (some (vU, M))) rfl
  · refine (amRun_t (f := amStep amGst (amD amGst d) cdX3_search) 3 (x := if w32 ((w32 (l3 + (M 3 0 5))) - l1) = M 3 0 7 then .inl (28, [vR 3 3 0, vI l1, vI l2, vI l3, vI l4, vI (w32 ((w32 (l3 + (M 3 0 5))) - l1)), vU, vU], [], M) else .inl (38, [vR 3 3 0, vI l1, vI l2, vI l3, vI l4, vI (w32 ((w32 (l3 + (M 3 0 5))) - l1)), vU, vU], [], M)) rfl).trans (amK_if ?_ ?_)
    · refine (amRun_t (f := amStep amGst (amD amGst d) cdX3_search) 3 (x := if l4 < M 3 0 8 then .inl (38, [vR 3 3 0, vI l1, vI l2, vI l3, vI l4, vI (w32 ((w32 (l3 + (M 3 0 5))) - l1)), vU, vU], [], M) else .inl (37, [vR 3 3 0, vI l1, vI l2, vI l3, vI l4, vI (w32 ((w32 (l3 + (M 3 0 5))) - l1)), vU, vU], [], M)) rfl).trans (amK_if ?_ ?_)
      · exact amRun_b 0 (x := .inl (38, [vR 3 3 0, vI l1, vI l2, vI l3, vI l4, vI (w32 ((w32 (l3 + (M 3 0 5))) - l1)), vU, vU], [], M)) rfl
      · exact amRun_b 1 (x := .inr (some (vU, M))) rfl
    · exact amRun_b 0 (x := .inl (38, [vR 3 3 0, vI l1, vI l2, vI l3, vI l4, vI (w32 ((w32 (l3 + (M 3 0 5))) - l1)), vU, vU], [], M)) rfl
theorem q_X3_search_38 (d : Nat) (l1 : Int) (l2 : Int) (l3 : Int) (l4 : Int) (l5 : Int) (M : AmM) : e_X3_search_38 d l1 l2 l3 l4 l5 M =
    if l1 < M 3 0 5 then (if l1 < 0 then (some (vU, M)) else (if l1 < 7 then (if w32 (l1 + 1) < 8 then (if (0 : Int) ≤ l1 ∧ l1 < 8 then (if (0 : Int) ≤ w32 (l1 + 1) ∧ w32 (l1 + 1) < 8 then (e_X3_search_117 d l1 l2 l3 l4 l5 0 vU M) else none) else none) else (some (vU, M))) else (some (vU, M)))) else (amCV (amD amGst d 144 [vR 20 105 0, vR 20 106 0] (amUp (amUp M 3 0 7 l3) 3 0 8 l4)) fun M1 => some (vU, M1)) := by
  show amRun _ _ = _
  refine (amRun_t (f := amStep amGst (amD amGst d) cdX3_search) 3 (x := if l1 < M 3 0 5 then .inl (69, [vR 3 3 0, vI l1, vI l2, vI l3, vI l4, vI l5, vU, vU], [], M) else .inl (46, [vR 3 3 0, vI l1, vI l2, vI l3, vI l4, vI l5, vU, vU], [], M)) rfl).trans (amK_if ?_ ?_)
  · refine (amRun_t (f := amStep amGst (amD amGst d) cdX3_search) 1 (x := if l1 < 0 then .inl (113, [vR 3 3 0, vI l1, vI l2, vI l3, vI l4, vI l5, vU, vU], [], M) else .inl (73, [vR 3 3 0, vI l1, vI l2, vI l3, vI l4, vI l5, vU, vU], [], M)) rfl).trans (amK_if ?_ ?_)
    · exact amRun_b 1 (x := .inr (some (vU, M))) rfl
    · refine (amRun_t (f := amStep amGst (amD amGst d) cdX3_search) 4 (x := if l1 < 7 then .inl (82, [vR 3 3 0, vI l1, vI l2, vI l3, vI l4, vI l5, vU, vU], [], M) else .inl (113, [vR 3 3 0, vI l1, vI l2, vI l3, vI l4, vI l5, vU, vU], [], M)) rfl).trans (amK_if ?_ ?_)
      · refine (amRun_t (f := amStep amGst (amD amGst d) cdX3_search) 6 (x := if w32 (l1 + 1) < 8 then .inl (93, [vR 3 3 0, vI l1, vI l2, vI l3, vI l4, vI l5, vU, vU], [], M) else .inl (113, [vR 3 3 0, vI l1, vI l2, vI l3, vI l4, vI l5, vU, vU], [], M)) rfl).trans (amK_if ?_ ?_)
        · refine (amRun_t (f := amStep amGst (amD amGst d) cdX3_search) 3 (x := if (0 : Int) ≤ l1 ∧ l1 < 8 then .inl (99, [vR 3 3 0, vI l1, vI l2, vI l3, vI l4, vI l5, vU, vU], [vR 6 6 ((l1).toNat + 45)], M) else amNo) rfl).trans (amK_if ?_ rfl)
          refine (amRun_t (f := amStep amGst (amD amGst d) cdX3_search) 6 (x := if (0 : Int) ≤ w32 (l1 + 1) ∧ w32 (l1 + 1) < 8 then .inl (110, [vR 3 3 0, vI l1, vI l2, vI l3, vI l4, vI l5, vU, vU], [vR 6 6 ((w32 (l1 + 1)).toNat + 45)], M) else amNo) rfl).trans (amK_if ?_ rfl)
          exact amRun_b 3 (x := .inl (117, [vR 3 3 0, vI l1, vI l2, vI l3, vI l4, vI l5, vI 0, vU], [], M)) rfl
        · exact amRun_b 1 (x := .inr (some (vU, M))) rfl
      · exact amRun_b 1 (x := .inr (some (vU, M))) rfl
  · refine (amRun_t (f := amStep amGst (amD amGst d) cdX3_search) 10 (x := amPu 0 (amD amGst d 144 [vR 20 105 0, vR 20 106 0] (amUp (amUp M 3 0 7 l3) 3 0 8 l4)) (fun z9 M9 => .inl (68, [vR 3 3 0, vI l1, vI l2, vI l3, vI l4, vI l5, vU, vU], z9 ++ [], M9))) rfl).trans (amK_pV fun M1 => ?_)
    exact amRun_b 1 (x := .inr (some (vU, M1))) rfl
theorem q_X3_search_117 (d : Nat) (l1 : Int) (l2 : Int) (l3 : Int) (l4 : Int) (l5 : Int) (l6 : Int) (u7 : AmV) (M : AmM) : e_X3_search_117 d l1 l2 l3 l4 l5 l6 u7 M =
    if l6 < 8 then (amCI (amD amGst d 146 [vI l2, vI l6] M) fun v1 M1 => if v1 = 0 then (e_X3_search_117 d l1 l2 l3 l4 l5 (w32 (l6 + 1)) u7 M1) else (if (0 : Int) ≤ w32 (l1 + 1) ∧ w32 (l1 + 1) < 8 then (if (0 : Int) ≤ l1 ∧ l1 < 8 then (amCV (amD amGst d 53 [vR 6 6 ((w32 (l1 + 1)).toNat + 45), vR 6 6 ((l1).toNat + 45)] M1) fun M2 => if (0 : Int) ≤ w32 (l1 + 1) ∧ w32 (l1 + 1) < 8 then (amCI (amD amGst d 99 [vR 10 10 0, vR 6 6 ((w32 (l1 + 1)).toNat + 45), vI l6, vI (M2 3 0 6)] M2) fun v3 M3 => if (0 : Int) ≤ l1 ∧ l1 < 7 then (if v3 = 0 then (if v3 = 2 then (amCV (amD amGst d 27 [vR 3 3 0, vI (w32 (l1 + 1)), vI (bAnd l2 (bXor (bShl 1 l6) (-1))), vI (w32 (l3 + 1)), vI (w32 (l4 + 1))] (amUp M3 105 0 (l1).toNat l6)) fun M4 => e_X3_search_117 d l1 l2 l3 l4 l5 (w32 (l6 + 1)) (vI v3) M4) else (amCV (amD amGst d 27 [vR 3 3 0, vI (w32 (l1 + 1)), vI (bAnd l2 (bXor (bShl 1 l6) (-1))), vI (w32 (l3 + 1)), vI (w32 (l4 + 0))] (amUp M3 105 0 (l1).toNat l6)) fun M5 => e_X3_search_117 d l1 l2 l3 l4 l5 (w32 (l6 + 1)) (vI v3) M5)) else (if v3 = 2 then (amCV (amD amGst d 27 [vR 3 3 0, vI (w32 (l1 + 1)), vI (bAnd l2 (bXor (bShl 1 l6) (-1))), vI (w32 (l3 + 0)), vI (w32 (l4 + 1))] (amUp M3 105 0 (l1).toNat l6)) fun M6 => e_X3_search_117 d l1 l2 l3 l4 l5 (w32 (l6 + 1)) (vI v3) M6) else (amCV (amD amGst d 27 [vR 3 3 0, vI (w32 (l1 + 1)), vI (bAnd l2 (bXor (bShl 1 l6) (-1))), vI (w32 (l3 + 0)), vI (w32 (l4 + 0))] (amUp M3 105 0 (l1).toNat l6)) fun M7 => e_X3_search_117 d l1 l2 l3 l4 l5 (w32 (l6 + 1)) (vI v3) M7))) else none) else none) else none) else none)) else (some (vU, M)) := by
  show amRun _ _ = _
  refine (amRun_t (f := amStep amGst (amD amGst d) cdX3_search) 2 (x := if l6 < 8 then .inl (124, [vR 3 3 0, vI l1, vI l2, vI l3, vI l4, vI l5, vI l6, u7], [], M) else .inl (228, [vR 3 3 0, vI l1, vI l2, vI l3, vI l4, vI l5, vI l6, u7], [], M)) rfl).trans (amK_if ?_ ?_)
  · refine (amRun_t (f := amStep amGst (amD amGst d) cdX3_search) 2 (x := amPu 1 (amD amGst d 146 [vI l2, vI l6] M) (fun z9 M9 => .inl (130, [vR 3 3 0, vI l1, vI l2, vI l3, vI l4, vI l5, vI l6, u7], z9 ++ [], M9))) rfl).trans (amK_pI fun v1 M1 => ?_)
    refine (amRun_t (f := amStep amGst (amD amGst d) cdX3_search) 0 (x := if v1 = 0 then .inl (222, [vR 3 3 0, vI l1, vI l2, vI l3, vI l4, vI l5, vI l6, u7], [], M1) else .inl (133, [vR 3 3 0, vI l1, vI l2, vI l3, vI l4, vI l5, vI l6, u7], [], M1)) rfl).trans (amK_if ?_ ?_)
    · exact amRun_b 2 (x := .inl (117, [vR 3 3 0, vI l1, vI l2, vI l3, vI l4, vI l5, vI (w32 (l6 + 1)), u7], [], M1)) rfl
    · refine (amRun_t (f := amStep amGst (amD amGst d) cdX3_search) 5 (x := if (0 : Int) ≤ w32 (l1 + 1) ∧ w32 (l1 + 1) < 8 then .inl (141, [vR 3 3 0, vI l1, vI l2, vI l3, vI l4, vI l5, vI l6, u7], [vR 6 6 ((w32 (l1 + 1)).toNat + 45)], M1) else amNo) rfl).trans (amK_if ?_ rfl)
      refine (amRun_t (f := amStep amGst (amD amGst d) cdX3_search) 3 (x := if (0 : Int) ≤ l1 ∧ l1 < 8 then .inl (147, [vR 3 3 0, vI l1, vI l2, vI l3, vI l4, vI l5, vI l6, u7], [vR 6 6 ((l1).toNat + 45), vR 6 6 ((w32 (l1 + 1)).toNat + 45)], M1) else amNo) rfl).trans (amK_if ?_ rfl)
      refine (amRun_t (f := amStep amGst (amD amGst d) cdX3_search) 0 (x := amPu 0 (amD amGst d 53 [vR 6 6 ((w32 (l1 + 1)).toNat + 45), vR 6 6 ((l1).toNat + 45)] M1) (fun z9 M9 => .inl (150, [vR 3 3 0, vI l1, vI l2, vI l3, vI l4, vI l5, vI l6, u7], z9 ++ [], M9))) rfl).trans (amK_pV fun M2 => ?_)
      refine (amRun_t (f := amStep amGst (amD amGst d) cdX3_search) 7 (x := if (0 : Int) ≤ w32 (l1 + 1) ∧ w32 (l1 + 1) < 8 then .inl (162, [vR 3 3 0, vI l1, vI l2, vI l3, vI l4, vI l5, vI l6, u7], [vR 6 6 ((w32 (l1 + 1)).toNat + 45), vR 10 10 0], M2) else amNo) rfl).trans (amK_if ?_ rfl)
      refine (amRun_t (f := amStep amGst (amD amGst d) cdX3_search) 3 (x := amPu 1 (amD amGst d 99 [vR 10 10 0, vR 6 6 ((w32 (l1 + 1)).toNat + 45), vI l6, vI (M2 3 0 6)] M2) (fun z9 M9 => .inl (171, [vR 3 3 0, vI l1, vI l2, vI l3, vI l4, vI l5, vI l6, u7], z9 ++ [], M9))) rfl).trans (amK_pI fun v3 M3 => ?_)
      refine (amRun_t (f := amStep amGst (amD amGst d) cdX3_search) 5 (x := if (0 : Int) ≤ l1 ∧ l1 < 7 then .inl (181, [vR 3 3 0, vI l1, vI l2, vI l3, vI l4, vI l5, vI l6, vI v3], [], amUp M3 105 0 (l1).toNat l6) else amNo) rfl).trans (amK_if ?_ rfl)
      refine (amRun_t (f := amStep amGst (amD amGst d) cdX3_search) 13 (x := if v3 = 0 then .inl (199, [vR 3 3 0, vI l1, vI l2, vI l3, vI l4, vI l5, vI l6, vI v3], [vI l3, vI (bAnd l2 (bXor (bShl 1 l6) (-1))), vI (w32 (l1 + 1)), vR 3 3 0], amUp M3 105 0 (l1).toNat l6) else .inl (203, [vR 3 3 0, vI l1, vI l2, vI l3, vI l4, vI l5, vI l6, vI v3], [vI l3, vI (bAnd l2 (bXor (bShl 1 l6) (-1))), vI (w32 (l1 + 1)), vR 3 3 0], amUp M3 105 0 (l1).toNat l6)) rfl).trans (amK_if ?_ ?_)
      · refine (amRun_t (f := amStep amGst (amD amGst d) cdX3_search) 6 (x := if v3 = 2 then .inl (213, [vR 3 3 0, vI l1, vI l2, vI l3, vI l4, vI l5, vI l6, vI v3], [vI l4, vI (w32 (l3 + 1)), vI (bAnd l2 (bXor (bShl 1 l6) (-1))), vI (w32 (l1 + 1)), vR 3 3 0], amUp M3 105 0 (l1).toNat l6) else .inl (217, [vR 3 3 0, vI l1, vI l2, vI l3, vI l4, vI l5, vI l6, vI v3], [vI l4, vI (w32 (l3 + 1)), vI (bAnd l2 (bXor (bShl 1 l6) (-1))), vI (w32 (l1 + 1)), vR 3 3 0], amUp M3 105 0 (l1).toNat l6)) rfl).trans (amK_if ?_ ?_)
        · refine (amRun_t (f := amStep amGst (amD amGst d) cdX3_search) 3 (x := amPu 0 (amD amGst d 27 [vR 3 3 0, vI (w32 (l1 + 1)), vI (bAnd l2 (bXor (bShl 1 l6) (-1))), vI (w32 (l3 + 1)), vI (w32 (l4 + 1))] (amUp M3 105 0 (l1).toNat l6)) (fun z9 M9 => .inl (222, [vR 3 3 0, vI l1, vI l2, vI l3, vI l4, vI l5, vI l6, vI v3], z9 ++ [], M9))) rfl).trans (amK_pV fun M4 => ?_)
          exact amRun_b 2 (x := .inl (117, [vR 3 3 0, vI l1, vI l2, vI l3, vI l4, vI l5, vI (w32 (l6 + 1)), vI v3], [], M4)) rfl
        · refine (amRun_t (f := amStep amGst (amD amGst d) cdX3_search) 2 (x := amPu 0 (amD amGst d 27 [vR 3 3 0, vI (w32 (l1 + 1)), vI (bAnd l2 (bXor (bShl 1 l6) (-1))), vI (w32 (l3 + 1)), vI (w32 (l4 + 0))] (amUp M3 105 0 (l1).toNat l6)) (fun z9 M9 => .inl (222, [vR 3 3 0, vI l1, vI l2, vI l3, vI l4, vI l5, vI l6, vI v3], z9 ++ [], M9))) rfl).trans (amK_pV fun M5 => ?_)
          exact amRun_b 2 (x := .inl (117, [vR 3 3 0, vI l1, vI l2, vI l3, vI l4, vI l5, vI (w32 (l6 + 1)), vI v3], [], M5)) rfl
      · refine (amRun_t (f := amStep amGst (amD amGst d) cdX3_search) 5 (x := if v3 = 2 then .inl (213, [vR 3 3 0, vI l1, vI l2, vI l3, vI l4, vI l5, vI l6, vI v3], [vI l4, vI (w32 (l3 + 0)), vI (bAnd l2 (bXor (bShl 1 l6) (-1))), vI (w32 (l1 + 1)), vR 3 3 0], amUp M3 105 0 (l1).toNat l6) else .inl (217, [vR 3 3 0, vI l1, vI l2, vI l3, vI l4, vI l5, vI l6, vI v3], [vI l4, vI (w32 (l3 + 0)), vI (bAnd l2 (bXor (bShl 1 l6) (-1))), vI (w32 (l1 + 1)), vR 3 3 0], amUp M3 105 0 (l1).toNat l6)) rfl).trans (amK_if ?_ ?_)
        · refine (amRun_t (f := amStep amGst (amD amGst d) cdX3_search) 3 (x := amPu 0 (amD amGst d 27 [vR 3 3 0, vI (w32 (l1 + 1)), vI (bAnd l2 (bXor (bShl 1 l6) (-1))), vI (w32 (l3 + 0)), vI (w32 (l4 + 1))] (amUp M3 105 0 (l1).toNat l6)) (fun z9 M9 => .inl (222, [vR 3 3 0, vI l1, vI l2, vI l3, vI l4, vI l5, vI l6, vI v3], z9 ++ [], M9))) rfl).trans (amK_pV fun M6 => ?_)
          exact amRun_b 2 (x := .inl (117, [vR 3 3 0, vI l1, vI l2, vI l3, vI l4, vI l5, vI (w32 (l6 + 1)), vI v3], [], M6)) rfl
        · refine (amRun_t (f := amStep amGst (amD amGst d) cdX3_search) 2 (x := amPu 0 (amD amGst d 27 [vR 3 3 0, vI (w32 (l1 + 1)), vI (bAnd l2 (bXor (bShl 1 l6) (-1))), vI (w32 (l3 + 0)), vI (w32 (l4 + 0))] (amUp M3 105 0 (l1).toNat l6)) (fun z9 M9 => .inl (222, [vR 3 3 0, vI l1, vI l2, vI l3, vI l4, vI l5, vI l6, vI v3], z9 ++ [], M9))) rfl).trans (amK_pV fun M7 => ?_)
          exact amRun_b 2 (x := .inl (117, [vR 3 3 0, vI l1, vI l2, vI l3, vI l4, vI l5, vI (w32 (l6 + 1)), vI v3], [], M7)) rfl
  · exact amRun_b 1 (x := .inr (some (vU, M))) rfl
theorem n_X3_search (d : Nat) (l1 : Int) (l2 : Int) (l3 : Int) (l4 : Int) (M : AmM) : amD amGst (d + 1) 27 [vR 3 3 0, vI l1, vI l2, vI l3, vI l4] M = e_X3_search_0 d l1 l2 l3 l4 M := rfl
noncomputable def e_X9_startAnew_0 (d : Nat) (M : AmM) : Option (AmV × AmM) := amRun (amStep amGst (amD amGst d) cdX9_startAnew) (0, [vR 9 9 0], [], M)
theorem q_X9_startAnew_0 (d : Nat) (M : AmM) : e_X9_startAnew_0 d M =
    some (vU, amUp (amUp M 9 0 5 0) 9 0 7 0) := by
  show amRun _ _ = _
  exact amRun_b 7 (x := .inr (some (vU, amUp (amUp M 9 0 5 0) 9 0 7 0))) rfl
theorem n_X9_startAnew (d : Nat) (M : AmM) : amD amGst (d + 1) 85 [vR 9 9 0] M = e_X9_startAnew_0 d M := rfl
noncomputable def e_X9_add_0 (d : Nat) (l1 : Int) (l2 : Int) (M : AmM) : Option (AmV × AmM) := amRun (amStep amGst (amD amGst d) cdX9_add) (0, [vR 9 9 0, vI l1, vI l2], [], M)
theorem q_X9_add_0 (d : Nat) (l1 : Int) (l2 : Int) (M : AmM) : e_X9_add_0 d l1 l2 M =
    if M 9 0 5 < 30 then (amCV (amD amGst d 143 [vR 20 122 0, vI (M 9 0 5), vI l1] M) fun M1 => amCV (amD amGst d 143 [vR 20 123 0, vI (M1 9 0 5), vI l2] M1) fun M2 => some (vI (w32 (((amUp M2 9 0 5 (w32 ((M2 9 0 5) + 1))) 9 0 5) - 1)), amUp M2 9 0 5 (w32 ((M2 9 0 5) + 1)))) else (some (vI (-1), M)) := by
  show amRun _ _ = _
  refine (amRun_t (f := amStep amGst (amD amGst d) cdX9_add) 3 (x := if M 9 0 5 < 30 then .inl (11, [vR 9 9 0, vI l1, vI l2], [], M) else .inl (9, [vR 9 9 0, vI l1, vI l2], [], M)) rfl).trans (amK_if ?_ ?_)
  · refine (amRun_t (f := amStep amGst (amD amGst d) cdX9_add) 5 (x := amPu 0 (amD amGst d 143 [vR 20 122 0, vI (M 9 0 5), vI l1] M) (fun z9 M9 => .inl (23, [vR 9 9 0, vI l1, vI l2], z9 ++ [], M9))) rfl).trans (amK_pV fun M1 => ?_)
    refine (amRun_t (f := amStep amGst (amD amGst d) cdX9_add) 5 (x := amPu 0 (amD amGst d 143 [vR 20 123 0, vI (M1 9 0 5), vI l2] M1) (fun z9 M9 => .inl (35, [vR 9 9 0, vI l1, vI l2], z9 ++ [], M9))) rfl).trans (amK_pV fun M2 => ?_)
    exact amRun_b 11 (x := .inr (some (vI (w32 (((amUp M2 9 0 5 (w32 ((M2 9 0 5) + 1))) 9 0 5) - 1)), amUp M2 9 0 5 (w32 ((M2 9 0 5) + 1))))) rfl
  · exact amRun_b 2 (x := .inr (some (vI (-1), M))) rfl
theorem n_X9_add (d : Nat) (l1 : Int) (l2 : Int) (M : AmM) : amD amGst (d + 1) 86 [vR 9 9 0, vI l1, vI l2] M = e_X9_add_0 d l1 l2 M := rfl
noncomputable def e_X9_knows_0 (d : Nat) (l1 : Int) (M : AmM) : Option (AmV × AmM) := amRun (amStep amGst (amD amGst d) cdX9_knows) (0, [vR 9 9 0, vI l1], [], M)
theorem q_X9_knows_0 (d : Nat) (l1 : Int) (M : AmM) : e_X9_knows_0 d l1 M =
    if l1 < 0 then (some (vI 0, M)) else (if M 9 0 5 < l1 then (some (vI 0, M)) else (if M 9 0 7 = 0 then (amCV (amD amGst d 94 [vR 9 9 0] M) fun M1 => some (vI 1, M1)) else (some (vI 1, M)))) := by
  show amRun _ _ = _
  refine (amRun_t (f := amStep amGst (amD amGst d) cdX9_knows) 1 (x := if l1 < 0 then .inl (12, [vR 9 9 0, vI l1], [], M) else .inl (4, [vR 9 9 0, vI l1], [], M)) rfl).trans (amK_if ?_ ?_)
  · exact amRun_b 2 (x := .inr (some (vI 0, M))) rfl
  · refine (amRun_t (f := amStep amGst (amD amGst d) cdX9_knows) 3 (x := if M 9 0 5 < l1 then .inl (12, [vR 9 9 0, vI l1], [], M) else .inl (14, [vR 9 9 0, vI l1], [], M)) rfl).trans (amK_if ?_ ?_)
    · exact amRun_b 2 (x := .inr (some (vI 0, M))) rfl
    · refine (amRun_t (f := amStep amGst (amD amGst d) cdX9_knows) 2 (x := if M 9 0 7 = 0 then .inl (21, [vR 9 9 0, vI l1], [], M) else .inl (25, [vR 9 9 0, vI l1], [], M)) rfl).trans (amK_if ?_ ?_)
      · refine (amRun_t (f := amStep amGst (amD amGst d) cdX9_knows) 1 (x := amPu 0 (amD amGst d 94 [vR 9 9 0] M) (fun z9 M9 => .inl (25, [vR 9 9 0, vI l1], z9 ++ [], M9))) rfl).trans (amK_pV fun M1 => ?_)
        exact amRun_b 2 (x := .inr (some (vI 1, M1))) rfl
      · exact amRun_b 2 (x := .inr (some (vI 1, M))) rfl
theorem n_X9_knows (d : Nat) (l1 : Int) (M : AmM) : amD amGst (d + 1) 87 [vR 9 9 0, vI l1] M = e_X9_knows_0 d l1 M := rfl
noncomputable def e_X9_fitting_0 (d : Nat) (l1 : Int) (M : AmM) : Option (AmV × AmM) := amRun (amStep amGst (amD amGst d) cdX9_fitting) (0, [vR 9 9 0, vI l1, vU, vU], [], M)
noncomputable def e_X9_fitting_4 (d : Nat) (l1 : Int) (l2 : Int) (l3 : Int) (M : AmM) : Option (AmV × AmM) := amRun (amStep amGst (amD amGst d) cdX9_fitting) (4, [vR 9 9 0, vI l1, vI l2, vI l3], [], M)
theorem q_X9_fitting_0 (d : Nat) (l1 : Int) (M : AmM) : e_X9_fitting_0 d l1 M =
    e_X9_fitting_4 d l1 0 0 M := by
  show amRun _ _ = _
  exact amRun_b 4 (x := .inl (4, [vR 9 9 0, vI l1, vI 0, vI 0], [], M)) rfl
theorem q_X9_fitting_4 (d : Nat) (l1 : Int) (l2 : Int) (l3 : Int) (M : AmM) : e_X9_fitting_4 d l1 l2 l3 M =
    amCI (amD amGst d 92 [vR 9 9 0] M) fun v1 M1 => if l3 < v1 then (amCI (amD amGst d 93 [vR 9 9 0, vI l3, vI l1] M1) fun v2 M2 => if v2 = 0 then (e_X9_fitting_4 d l1 (w32 (l2 + 0)) (w32 (l3 + 1)) M2) else (e_X9_fitting_4 d l1 (w32 (l2 + 1)) (w32 (l3 + 1)) M2)) else (some (vI l2, M1)) := by
  show amRun _ _ = _
  refine (amRun_t (f := amStep amGst (amD amGst d) cdX9_fitting) 2 (x := amPu 1 (amD amGst d 92 [vR 9 9 0] M) (fun z9 M9 => .inl (9, [vR 9 9 0, vI l1, vI l2, vI l3], z9 ++ [vI l3], M9))) rfl).trans (amK_pI fun v1 M1 => ?_)
  refine (amRun_t (f := amStep amGst (amD amGst d) cdX9_fitting) 0 (x := if l3 < v1 then .inl (12, [vR 9 9 0, vI l1, vI l2, vI l3], [], M1) else .inl (35, [vR 9 9 0, vI l1, vI l2, vI l3], [], M1)) rfl).trans (amK_if ?_ ?_)
  · refine (amRun_t (f := amStep amGst (amD amGst d) cdX9_fitting) 4 (x := amPu 1 (amD amGst d 93 [vR 9 9 0, vI l3, vI l1] M1) (fun z9 M9 => .inl (19, [vR 9 9 0, vI l1, vI l2, vI l3], z9 ++ [vI l2], M9))) rfl).trans (amK_pI fun v2 M2 => ?_)
    refine (amRun_t (f := amStep amGst (amD amGst d) cdX9_fitting) 0 (x := if v2 = 0 then .inl (26, [vR 9 9 0, vI l1, vI l2, vI l3], [vI l2], M2) else .inl (22, [vR 9 9 0, vI l1, vI l2, vI l3], [vI l2], M2)) rfl).trans (amK_if ?_ ?_)
    · exact amRun_b 5 (x := .inl (4, [vR 9 9 0, vI l1, vI (w32 (l2 + 0)), vI (w32 (l3 + 1))], [], M2)) rfl
    · exact amRun_b 6 (x := .inl (4, [vR 9 9 0, vI l1, vI (w32 (l2 + 1)), vI (w32 (l3 + 1))], [], M2)) rfl
  · exact amRun_b 2 (x := .inr (some (vI l2, M1))) rfl
theorem n_X9_fitting (d : Nat) (l1 : Int) (M : AmM) : amD amGst (d + 1) 88 [vR 9 9 0, vI l1] M = e_X9_fitting_0 d l1 M := rfl
noncomputable def e_X9_fittingAt_0 (d : Nat) (l1 : Int) (l2 : Int) (M : AmM) : Option (AmV × AmM) := amRun (amStep amGst (amD amGst d) cdX9_fittingAt) (0, [vR 9 9 0, vI l1, vI l2, vU, vU], [], M)
noncomputable def e_X9_fittingAt_5 (d : Nat) (l1 : Int) (l2 : Int) (l3 : Int) (l4 : Int) (M : AmM) : Option (AmV × AmM) := amRun (amStep amGst (amD amGst d) cdX9_fittingAt) (5, [vR 9 9 0, vI l1, vI l2, vI l3, vI l4], [], M)
theorem q_X9_fittingAt_0 (d : Nat) (l1 : Int) (l2 : Int) (M : AmM) : e_X9_fittingAt_0 d l1 l2 M =
    e_X9_fittingAt_5 d l1 l2 0 0 M := by
  show amRun _ _ = _
  exact amRun_b 4 (x := .inl (5, [vR 9 9 0, vI l1, vI l2, vI 0, vI 0], [], M)) rfl
theorem q_X9_fittingAt_5 (d : Nat) (l1 : Int) (l2 : Int) (l3 : Int) (l4 : Int) (M : AmM) : e_X9_fittingAt_5 d l1 l2 l3 l4 M =
    amCI (amD amGst d 92 [vR 9 9 0] M) fun v1 M1 => if l4 < v1 then (amCI (amD amGst d 93 [vR 9 9 0, vI l4, vI l1] M1) fun v2 M2 => if v2 = 0 then (e_X9_fittingAt_5 d l1 l2 l3 (w32 (l4 + 1)) M2) else (if l3 = l2 then (some (vI l4, M2)) else (e_X9_fittingAt_5 d l1 l2 (w32 (l3 + 1)) (w32 (l4 + 1)) M2))) else (some (vI (-1), M1)) := by
  show amRun _ _ = _
  refine (amRun_t (f := amStep amGst (amD amGst d) cdX9_fittingAt) 2 (x := amPu 1 (amD amGst d 92 [vR 9 9 0] M) (fun z9 M9 => .inl (11, [vR 9 9 0, vI l1, vI l2, vI l3, vI l4], z9 ++ [vI l4], M9))) rfl).trans (amK_pI fun v1 M1 => ?_)
  refine (amRun_t (f := amStep amGst (amD amGst d) cdX9_fittingAt) 0 (x := if l4 < v1 then .inl (14, [vR 9 9 0, vI l1, vI l2, vI l3, vI l4], [], M1) else .inl (41, [vR 9 9 0, vI l1, vI l2, vI l3, vI l4], [], M1)) rfl).trans (amK_if ?_ ?_)
  · refine (amRun_t (f := amStep amGst (amD amGst d) cdX9_fittingAt) 3 (x := amPu 1 (amD amGst d 93 [vR 9 9 0, vI l4, vI l1] M1) (fun z9 M9 => .inl (21, [vR 9 9 0, vI l1, vI l2, vI l3, vI l4], z9 ++ [], M9))) rfl).trans (amK_pI fun v2 M2 => ?_)
    refine (amRun_t (f := amStep amGst (amD amGst d) cdX9_fittingAt) 0 (x := if v2 = 0 then .inl (35, [vR 9 9 0, vI l1, vI l2, vI l3, vI l4], [], M2) else .inl (24, [vR 9 9 0, vI l1, vI l2, vI l3, vI l4], [], M2)) rfl).trans (amK_if ?_ ?_)
    · exact amRun_b 2 (x := .inl (5, [vR 9 9 0, vI l1, vI l2, vI l3, vI (w32 (l4 + 1))], [], M2)) rfl
    · refine (amRun_t (f := amStep amGst (amD amGst d) cdX9_fittingAt) 2 (x := if l3 = l2 then .inl (29, [vR 9 9 0, vI l1, vI l2, vI l3, vI l4], [], M2) else .inl (32, [vR 9 9 0, vI l1, vI l2, vI l3, vI l4], [], M2)) rfl).trans (amK_if ?_ ?_)
      · exact amRun_b 2 (x := .inr (some (vI l4, M2))) rfl
      · exact amRun_b 3 (x := .inl (5, [vR 9 9 0, vI l1, vI l2, vI (w32 (l3 + 1)), vI (w32 (l4 + 1))], [], M2)) rfl
  · exact amRun_b 2 (x := .inr (some (vI (-1), M1))) rfl
theorem n_X9_fittingAt (d : Nat) (l1 : Int) (l2 : Int) (M : AmM) : amD amGst (d + 1) 89 [vR 9 9 0, vI l1, vI l2] M = e_X9_fittingAt_0 d l1 l2 M := rfl
noncomputable def e_X9_inSome_0 (d : Nat) (l1 : Int) (M : AmM) : Option (AmV × AmM) := amRun (amStep amGst (amD amGst d) cdX9_inSome) (0, [vR 9 9 0, vI l1, vU, vU], [], M)
noncomputable def e_X9_inSome_4 (d : Nat) (l1 : Int) (l2 : Int) (l3 : Int) (M : AmM) : Option (AmV × AmM) := amRun (amStep amGst (amD amGst d) cdX9_inSome) (4, [vR 9 9 0, vI l1, vI l2, vI l3], [], M)
theorem q_X9_inSome_0 (d : Nat) (l1 : Int) (M : AmM) : e_X9_inSome_0 d l1 M =
    e_X9_inSome_4 d l1 0 0 M := by
  show amRun _ _ = _
  exact amRun_b 4 (x := .inl (4, [vR 9 9 0, vI l1, vI 0, vI 0], [], M)) rfl
theorem q_X9_inSome_4 (d : Nat) (l1 : Int) (l2 : Int) (l3 : Int) (M : AmM) : e_X9_inSome_4 d l1 l2 l3 M =
    amCI (amD amGst d 92 [vR 9 9 0] M) fun v1 M1 => if l3 < v1 then (amCI (amD amGst d 93 [vR 9 9 0, vI l3, vI l1] M1) fun v2 M2 => if v2 = 0 then (e_X9_inSome_4 d l1 (bOr l2 0) (w32 (l3 + 1)) M2) else (e_X9_inSome_4 d l1 (bOr l2 l3) (w32 (l3 + 1)) M2)) else (some (vI l2, M1)) := by
  show amRun _ _ = _
  refine (amRun_t (f := amStep amGst (amD amGst d) cdX9_inSome) 2 (x := amPu 1 (amD amGst d 92 [vR 9 9 0] M) (fun z9 M9 => .inl (9, [vR 9 9 0, vI l1, vI l2, vI l3], z9 ++ [vI l3], M9))) rfl).trans (amK_pI fun v1 M1 => ?_)
  refine (amRun_t (f := amStep amGst (amD amGst d) cdX9_inSome) 0 (x := if l3 < v1 then .inl (12, [vR 9 9 0, vI l1, vI l2, vI l3], [], M1) else .inl (35, [vR 9 9 0, vI l1, vI l2, vI l3], [], M1)) rfl).trans (amK_if ?_ ?_)
  · refine (amRun_t (f := amStep amGst (amD amGst d) cdX9_inSome) 4 (x := amPu 1 (amD amGst d 93 [vR 9 9 0, vI l3, vI l1] M1) (fun z9 M9 => .inl (19, [vR 9 9 0, vI l1, vI l2, vI l3], z9 ++ [vI l2], M9))) rfl).trans (amK_pI fun v2 M2 => ?_)
    refine (amRun_t (f := amStep amGst (amD amGst d) cdX9_inSome) 0 (x := if v2 = 0 then .inl (26, [vR 9 9 0, vI l1, vI l2, vI l3], [vI l2], M2) else .inl (22, [vR 9 9 0, vI l1, vI l2, vI l3], [vI l2], M2)) rfl).trans (amK_if ?_ ?_)
    · exact amRun_b 5 (x := .inl (4, [vR 9 9 0, vI l1, vI (bOr l2 0), vI (w32 (l3 + 1))], [], M2)) rfl
    · exact amRun_b 6 (x := .inl (4, [vR 9 9 0, vI l1, vI (bOr l2 l3), vI (w32 (l3 + 1))], [], M2)) rfl
  · exact amRun_b 2 (x := .inr (some (vI l2, M1))) rfl
theorem n_X9_inSome (d : Nat) (l1 : Int) (M : AmM) : amD amGst (d + 1) 90 [vR 9 9 0, vI l1] M = e_X9_inSome_0 d l1 M := rfl
noncomputable def e_X9_inAll_0 (d : Nat) (l1 : Int) (M : AmM) : Option (AmV × AmM) := amRun (amStep amGst (amD amGst d) cdX9_inAll) (0, [vR 9 9 0, vI l1, vU, vU], [], M)
noncomputable def e_X9_inAll_8 (d : Nat) (l1 : Int) (l2 : Int) (l3 : Int) (M : AmM) : Option (AmV × AmM) := amRun (amStep amGst (amD amGst d) cdX9_inAll) (8, [vR 9 9 0, vI l1, vI l2, vI l3], [], M)
theorem q_X9_inAll_0 (d : Nat) (l1 : Int) (M : AmM) : e_X9_inAll_0 d l1 M =
    amCI (amD amGst d 90 [vR 9 9 0, vI l1] M) fun v1 M1 => e_X9_inAll_8 d l1 v1 0 M1 := by
  show amRun _ _ = _
  refine (amRun_t (f := amStep amGst (amD amGst d) cdX9_inAll) 2 (x := amPu 1 (amD amGst d 90 [vR 9 9 0, vI l1] M) (fun z9 M9 => .inl (5, [vR 9 9 0, vI l1, vU, vU], z9 ++ [], M9))) rfl).trans (amK_pI fun v1 M1 => ?_)
  exact amRun_b 3 (x := .inl (8, [vR 9 9 0, vI l1, vI v1, vI 0], [], M1)) rfl
theorem q_X9_inAll_8 (d : Nat) (l1 : Int) (l2 : Int) (l3 : Int) (M : AmM) : e_X9_inAll_8 d l1 l2 l3 M =
    amCI (amD amGst d 92 [vR 9 9 0] M) fun v1 M1 => if l3 < v1 then (amCI (amD amGst d 93 [vR 9 9 0, vI l3, vI l1] M1) fun v2 M2 => if v2 = 0 then (e_X9_inAll_8 d l1 (bAnd l2 l2) (w32 (l3 + 1)) M2) else (e_X9_inAll_8 d l1 (bAnd l2 l3) (w32 (l3 + 1)) M2)) else (some (vI l2, M1)) := by
  show amRun _ _ = _
  refine (amRun_t (f := amStep amGst (amD amGst d) cdX9_inAll) 2 (x := amPu 1 (amD amGst d 92 [vR 9 9 0] M) (fun z9 M9 => .inl (13, [vR 9 9 0, vI l1, vI l2, vI l3], z9 ++ [vI l3], M9))) rfl).trans (amK_pI fun v1 M1 => ?_)
  refine (amRun_t (f := amStep amGst (amD amGst d) cdX9_inAll) 0 (x := if l3 < v1 then .inl (16, [vR 9 9 0, vI l1, vI l2, vI l3], [], M1) else .inl (39, [vR 9 9 0, vI l1, vI l2, vI l3], [], M1)) rfl).trans (amK_if ?_ ?_)
  · refine (amRun_t (f := amStep amGst (amD amGst d) cdX9_inAll) 4 (x := amPu 1 (amD amGst d 93 [vR 9 9 0, vI l3, vI l1] M1) (fun z9 M9 => .inl (23, [vR 9 9 0, vI l1, vI l2, vI l3], z9 ++ [vI l2], M9))) rfl).trans (amK_pI fun v2 M2 => ?_)
    refine (amRun_t (f := amStep amGst (amD amGst d) cdX9_inAll) 0 (x := if v2 = 0 then .inl (30, [vR 9 9 0, vI l1, vI l2, vI l3], [vI l2], M2) else .inl (26, [vR 9 9 0, vI l1, vI l2, vI l3], [vI l2], M2)) rfl).trans (amK_if ?_ ?_)
    · exact amRun_b 5 (x := .inl (8, [vR 9 9 0, vI l1, vI (bAnd l2 l2), vI (w32 (l3 + 1))], [], M2)) rfl
    · exact amRun_b 6 (x := .inl (8, [vR 9 9 0, vI l1, vI (bAnd l2 l3), vI (w32 (l3 + 1))], [], M2)) rfl
  · exact amRun_b 2 (x := .inr (some (vI l2, M1))) rfl
theorem n_X9_inAll (d : Nat) (l1 : Int) (M : AmM) : amD amGst (d + 1) 91 [vR 9 9 0, vI l1] M = e_X9_inAll_0 d l1 M := rfl
noncomputable def e_X9_sets_0 (d : Nat) (M : AmM) : Option (AmV × AmM) := amRun (amStep amGst (amD amGst d) cdX9_sets) (0, [vR 9 9 0], [], M)
theorem q_X9_sets_0 (d : Nat) (M : AmM) : e_X9_sets_0 d M =
    some (vI (bShl 1 (M 8 0 9)), M) := by
  show amRun _ _ = _
  exact amRun_b 6 (x := .inr (some (vI (bShl 1 (M 8 0 9)), M))) rfl
theorem n_X9_sets (d : Nat) (M : AmM) : amD amGst (d + 1) 92 [vR 9 9 0] M = e_X9_sets_0 d M := rfl
noncomputable def e_X9_isFitting_0 (d : Nat) (l1 : Int) (l2 : Int) (M : AmM) : Option (AmV × AmM) := amRun (amStep amGst (amD amGst d) cdX9_isFitting) (0, [vR 9 9 0, vI l1, vI l2, vU], [], M)
noncomputable def e_X9_isFitting_2 (d : Nat) (l1 : Int) (l2 : Int) (l3 : Int) (M : AmM) : Option (AmV × AmM) := amRun (amStep amGst (amD amGst d) cdX9_isFitting) (2, [vR 9 9 0, vI l1, vI l2, vI l3], [], M)
theorem q_X9_isFitting_0 (d : Nat) (l1 : Int) (l2 : Int) (M : AmM) : e_X9_isFitting_0 d l1 l2 M =
    e_X9_isFitting_2 d l1 l2 0 M := by
  show amRun _ _ = _
  exact amRun_b 2 (x := .inl (2, [vR 9 9 0, vI l1, vI l2, vI 0], [], M)) rfl
theorem q_X9_isFitting_2 (d : Nat) (l1 : Int) (l2 : Int) (l3 : Int) (M : AmM) : e_X9_isFitting_2 d l1 l2 l3 M =
    if l3 < l2 then (amCI (amD amGst d 142 [vR 20 122 0, vI l3] M) fun v1 M1 => amCI (amD amGst d 142 [vR 20 124 0, vI (w32 ((w32 (l1 * 26)) + v1))] M1) fun v2 M2 => amCI (amD amGst d 142 [vR 20 123 0, vI l3] M2) fun v3 M3 => if v2 = v3 then (e_X9_isFitting_2 d l1 l2 (w32 (l3 + 1)) M3) else (some (vI 0, M3))) else (some (vI 1, M)) := by
  show amRun _ _ = _
  refine (amRun_t (f := amStep amGst (amD amGst d) cdX9_isFitting) 2 (x := if l3 < l2 then .inl (7, [vR 9 9 0, vI l1, vI l2, vI l3], [], M) else .inl (46, [vR 9 9 0, vI l1, vI l2, vI l3], [], M)) rfl).trans (amK_if ?_ ?_)
  · refine (amRun_t (f := amStep amGst (amD amGst d) cdX9_isFitting) 8 (x := amPu 1 (amD amGst d 142 [vR 20 122 0, vI l3] M) (fun z9 M9 => .inl (23, [vR 9 9 0, vI l1, vI l2, vI l3], z9 ++ [vI (w32 (l1 * 26)), vR 20 124 0], M9))) rfl).trans (amK_pI fun v1 M1 => ?_)
    refine (amRun_t (f := amStep amGst (amD amGst d) cdX9_isFitting) 1 (x := amPu 1 (amD amGst d 142 [vR 20 124 0, vI (w32 ((w32 (l1 * 26)) + v1))] M1) (fun z9 M9 => .inl (27, [vR 9 9 0, vI l1, vI l2, vI l3], z9 ++ [], M9))) rfl).trans (amK_pI fun v2 M2 => ?_)
    refine (amRun_t (f := amStep amGst (amD amGst d) cdX9_isFitting) 3 (x := amPu 1 (amD amGst d 142 [vR 20 123 0, vI l3] M2) (fun z9 M9 => .inl (35, [vR 9 9 0, vI l1, vI l2, vI l3], z9 ++ [vI v2], M9))) rfl).trans (amK_pI fun v3 M3 => ?_)
    refine (amRun_t (f := amStep amGst (amD amGst d) cdX9_isFitting) 0 (x := if v2 = v3 then .inl (40, [vR 9 9 0, vI l1, vI l2, vI l3], [], M3) else .inl (38, [vR 9 9 0, vI l1, vI l2, vI l3], [], M3)) rfl).trans (amK_if ?_ ?_)
    · exact amRun_b 2 (x := .inl (2, [vR 9 9 0, vI l1, vI l2, vI (w32 (l3 + 1))], [], M3)) rfl
    · exact amRun_b 2 (x := .inr (some (vI 0, M3))) rfl
  · exact amRun_b 2 (x := .inr (some (vI 1, M))) rfl
theorem n_X9_isFitting (d : Nat) (l1 : Int) (l2 : Int) (M : AmM) : amD amGst (d + 1) 93 [vR 9 9 0, vI l1, vI l2] M = e_X9_isFitting_0 d l1 l2 M := rfl
noncomputable def e_X9_walkAllSets_0 (d : Nat) (M : AmM) : Option (AmV × AmM) := amRun (amStep amGst (amD amGst d) cdX9_walkAllSets) (0, [vR 9 9 0, vU, vU], [], M)
noncomputable def e_X9_walkAllSets_23 (d : Nat) (l1 : Int) (u2 : AmV) (M : AmM) : Option (AmV × AmM) := amRun (amStep amGst (amD amGst d) cdX9_walkAllSets) (23, [vR 9 9 0, vI l1, u2], [], M)
theorem q_X9_walkAllSets_0 (d : Nat) (M : AmM) : e_X9_walkAllSets_0 d M =
    amCV (amD amGst d 52 [vR 6 6 54, vR 8 8 0] (amUp M 9 0 7 1)) fun M1 => amCV (amD amGst d 95 [vR 9 9 0, vI 0] M1) fun M2 => e_X9_walkAllSets_23 d 1 vU M2 := by
  show amRun _ _ = _
  refine (amRun_t (f := amStep amGst (amD amGst d) cdX9_walkAllSets) 7 (x := amPu 0 (amD amGst d 52 [vR 6 6 54, vR 8 8 0] (amUp M 9 0 7 1)) (fun z9 M9 => .inl (16, [vR 9 9 0, vU, vU], z9 ++ [], M9))) rfl).trans (amK_pV fun M1 => ?_)
  refine (amRun_t (f := amStep amGst (amD amGst d) cdX9_walkAllSets) 2 (x := amPu 0 (amD amGst d 95 [vR 9 9 0, vI 0] M1) (fun z9 M9 => .inl (21, [vR 9 9 0, vU, vU], z9 ++ [], M9))) rfl).trans (amK_pV fun M2 => ?_)
  exact amRun_b 2 (x := .inl (23, [vR 9 9 0, vI 1, vU], [], M2)) rfl
theorem q_X9_walkAllSets_23 (d : Nat) (l1 : Int) (u2 : AmV) (M : AmM) : e_X9_walkAllSets_23 d l1 u2 M =
    amCI (amD amGst d 92 [vR 9 9 0] M) fun v1 M1 => if l1 < v1 then (amCI (amD amGst d 243 [vI l1] M1) fun v2 M2 => amCV (amD amGst d 96 [vR 9 9 0, vI (bAnd l1 (bXor (bShl 1 (w32 (31 - v2))) (-1)))] M2) fun M3 => amCI (amD amGst d 99 [vR 10 10 0, vR 6 6 54, vI (w32 (31 - v2)), vI 0] M3) fun v4 M4 => amCV (amD amGst d 95 [vR 9 9 0, vI l1] M4) fun M5 => e_X9_walkAllSets_23 d (w32 (l1 + 1)) (vI (w32 (31 - v2))) M5) else (some (vU, M1)) := by
  show amRun _ _ = _
  refine (amRun_t (f := amStep amGst (amD amGst d) cdX9_walkAllSets) 2 (x := amPu 1 (amD amGst d 92 [vR 9 9 0] M) (fun z9 M9 => .inl (28, [vR 9 9 0, vI l1, u2], z9 ++ [vI l1], M9))) rfl).trans (amK_pI fun v1 M1 => ?_)
  refine (amRun_t (f := amStep amGst (amD amGst d) cdX9_walkAllSets) 0 (x := if l1 < v1 then .inl (31, [vR 9 9 0, vI l1, u2], [], M1) else .inl (75, [vR 9 9 0, vI l1, u2], [], M1)) rfl).trans (amK_if ?_ ?_)
  · refine (amRun_t (f := amStep amGst (amD amGst d) cdX9_walkAllSets) 2 (x := amPu 1 (amD amGst d 243 [vI l1] M1) (fun z9 M9 => .inl (37, [vR 9 9 0, vI l1, u2], z9 ++ [vI 31], M9))) rfl).trans (amK_pI fun v2 M2 => ?_)
    refine (amRun_t (f := amStep amGst (amD amGst d) cdX9_walkAllSets) 10 (x := amPu 0 (amD amGst d 96 [vR 9 9 0, vI (bAnd l1 (bXor (bShl 1 (w32 (31 - v2))) (-1)))] M2) (fun z9 M9 => .inl (50, [vR 9 9 0, vI l1, vI (w32 (31 - v2))], z9 ++ [], M9))) rfl).trans (amK_pV fun M3 => ?_)
    refine (amRun_t (f := amStep amGst (amD amGst d) cdX9_walkAllSets) 6 (x := amPu 1 (amD amGst d 99 [vR 10 10 0, vR 6 6 54, vI (w32 (31 - v2)), vI 0] M3) (fun z9 M9 => .inl (63, [vR 9 9 0, vI l1, vI (w32 (31 - v2))], z9 ++ [], M9))) rfl).trans (amK_pI fun v4 M4 => ?_)
    refine (amRun_t (f := amStep amGst (amD amGst d) cdX9_walkAllSets) 3 (x := amPu 0 (amD amGst d 95 [vR 9 9 0, vI l1] M4) (fun z9 M9 => .inl (69, [vR 9 9 0, vI l1, vI (w32 (31 - v2))], z9 ++ [], M9))) rfl).trans (amK_pV fun M5 => ?_)
    exact amRun_b 2 (x := .inl (23, [vR 9 9 0, vI (w32 (l1 + 1)), vI (w32 (31 - v2))], [], M5)) rfl
  · exact amRun_b 1 (x := .inr (some (vU, M1))) rfl
theorem n_X9_walkAllSets (d : Nat) (M : AmM) : amD amGst (d + 1) 94 [vR 9 9 0] M = e_X9_walkAllSets_0 d M := rfl
noncomputable def e_X9_writeRow_0 (d : Nat) (l1 : Int) (M : AmM) : Option (AmV × AmM) := amRun (amStep amGst (amD amGst d) cdX9_writeRow) (0, [vR 9 9 0, vI l1, vU], [], M)
noncomputable def e_X9_writeRow_2 (d : Nat) (l1 : Int) (l2 : Int) (M : AmM) : Option (AmV × AmM) := amRun (amStep amGst (amD amGst d) cdX9_writeRow) (2, [vR 9 9 0, vI l1, vI l2], [], M)
theorem q_X9_writeRow_0 (d : Nat) (l1 : Int) (M : AmM) : e_X9_writeRow_0 d l1 M =
    e_X9_writeRow_2 d l1 1 M := by
  show amRun _ _ = _
  exact amRun_b 2 (x := .inl (2, [vR 9 9 0, vI l1, vI 1], [], M)) rfl
theorem q_X9_writeRow_2 (d : Nat) (l1 : Int) (l2 : Int) (M : AmM) : e_X9_writeRow_2 d l1 l2 M =
    if M 8 0 5 < l2 then (some (vU, M)) else (amCI (amD amGst d 57 [vR 6 6 54, vI l2] M) fun v1 M1 => amCV (amD amGst d 143 [vR 20 124 0, vI (w32 ((w32 (l1 * 26)) + l2)), vI v1] M1) fun M2 => e_X9_writeRow_2 d l1 (w32 (l2 + 1)) M2) := by
  show amRun _ _ = _
  refine (amRun_t (f := amStep amGst (amD amGst d) cdX9_writeRow) 4 (x := if M 8 0 5 < l2 then .inl (40, [vR 9 9 0, vI l1, vI l2], [], M) else .inl (13, [vR 9 9 0, vI l1, vI l2], [], M)) rfl).trans (amK_if ?_ ?_)
  · exact amRun_b 1 (x := .inr (some (vU, M))) rfl
  · refine (amRun_t (f := amStep amGst (amD amGst d) cdX9_writeRow) 10 (x := amPu 1 (amD amGst d 57 [vR 6 6 54, vI l2] M) (fun z9 M9 => .inl (31, [vR 9 9 0, vI l1, vI l2], z9 ++ [vI (w32 ((w32 (l1 * 26)) + l2)), vR 20 124 0], M9))) rfl).trans (amK_pI fun v1 M1 => ?_)
    refine (amRun_t (f := amStep amGst (amD amGst d) cdX9_writeRow) 0 (x := amPu 0 (amD amGst d 143 [vR 20 124 0, vI (w32 ((w32 (l1 * 26)) + l2)), vI v1] M1) (fun z9 M9 => .inl (34, [vR 9 9 0, vI l1, vI l2], z9 ++ [], M9))) rfl).trans (amK_pV fun M2 => ?_)
    exact amRun_b 2 (x := .inl (2, [vR 9 9 0, vI l1, vI (w32 (l2 + 1))], [], M2)) rfl
theorem n_X9_writeRow (d : Nat) (l1 : Int) (M : AmM) : amD amGst (d + 1) 95 [vR 9 9 0, vI l1] M = e_X9_writeRow_0 d l1 M := rfl
noncomputable def e_X9_readRow_0 (d : Nat) (l1 : Int) (M : AmM) : Option (AmV × AmM) := amRun (amStep amGst (amD amGst d) cdX9_readRow) (0, [vR 9 9 0, vI l1, vU], [], M)
noncomputable def e_X9_readRow_2 (d : Nat) (l1 : Int) (l2 : Int) (M : AmM) : Option (AmV × AmM) := amRun (amStep amGst (amD amGst d) cdX9_readRow) (2, [vR 9 9 0, vI l1, vI l2], [], M)
theorem q_X9_readRow_0 (d : Nat) (l1 : Int) (M : AmM) : e_X9_readRow_0 d l1 M =
    e_X9_readRow_2 d l1 1 M := by
  show amRun _ _ = _
  exact amRun_b 2 (x := .inl (2, [vR 9 9 0, vI l1, vI 1], [], M)) rfl
theorem q_X9_readRow_2 (d : Nat) (l1 : Int) (l2 : Int) (M : AmM) : e_X9_readRow_2 d l1 l2 M =
    if M 8 0 5 < l2 then (some (vU, M)) else (amCI (amD amGst d 142 [vR 20 124 0, vI (w32 ((w32 (l1 * 26)) + l2))] M) fun v1 M1 => amCV (amD amGst d 60 [vR 6 6 54, vI l2, vI v1] M1) fun M2 => e_X9_readRow_2 d l1 (w32 (l2 + 1)) M2) := by
  show amRun _ _ = _
  refine (amRun_t (f := amStep amGst (amD amGst d) cdX9_readRow) 4 (x := if M 8 0 5 < l2 then .inl (40, [vR 9 9 0, vI l1, vI l2], [], M) else .inl (13, [vR 9 9 0, vI l1, vI l2], [], M)) rfl).trans (amK_if ?_ ?_)
  · exact amRun_b 1 (x := .inr (some (vU, M))) rfl
  · refine (amRun_t (f := amStep amGst (amD amGst d) cdX9_readRow) 10 (x := amPu 1 (amD amGst d 142 [vR 20 124 0, vI (w32 ((w32 (l1 * 26)) + l2))] M) (fun z9 M9 => .inl (31, [vR 9 9 0, vI l1, vI l2], z9 ++ [vI l2, vR 6 6 54], M9))) rfl).trans (amK_pI fun v1 M1 => ?_)
    refine (amRun_t (f := amStep amGst (amD amGst d) cdX9_readRow) 0 (x := amPu 0 (amD amGst d 60 [vR 6 6 54, vI l2, vI v1] M1) (fun z9 M9 => .inl (34, [vR 9 9 0, vI l1, vI l2], z9 ++ [], M9))) rfl).trans (amK_pV fun M2 => ?_)
    exact amRun_b 2 (x := .inl (2, [vR 9 9 0, vI l1, vI (w32 (l2 + 1))], [], M2)) rfl
theorem n_X9_readRow (d : Nat) (l1 : Int) (M : AmM) : amD amGst (d + 1) 96 [vR 9 9 0, vI l1] M = e_X9_readRow_0 d l1 M := rfl
