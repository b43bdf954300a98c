noncomputable def e_X4_parse_0 (d : Nat) (M : AmM) : Option (AmV × AmM) := amRun (amStep amGst (amD amGst d) cdX4_parse) (0, [vR 4 4 0, vU], [], M)
noncomputable def e_X4_parse_51 (d : Nat) (l1 : Int) (M : AmM) : Option (AmV × AmM) := amRun (amStep amGst (amD amGst d) cdX4_parse) (51, [vR 4 4 0, vI l1], [], M)
theorem q_X4_parse_0 (d : Nat) (M : AmM) : e_X4_parse_0 d M =
    amCV (amD amGst d 70 [vR 7 7 0] M) fun M1 => amCI (amD amGst d 67 [vR 7 7 0, vI ((amUp M1 4 0 3 0) 4 0 3)] (amUp M1 4 0 3 0)) fun v2 M2 => amCV (amD amGst d 81 [vR 8 8 1] (amUp (amUp (amUp (amUp M2 4 0 4 v2) 4 0 5 0) 4 0 6 0) 4 0 8 0)) fun M3 => e_X4_parse_51 d 0 M3 := by
  show amRun _ _ = _
  refine (amRun_t (f := amStep amGst (amD amGst d) cdX4_parse) 2 (x := amPu 0 (amD amGst d 70 [vR 7 7 0] M) (fun z9 M9 => .inl (7, [vR 4 4 0, vU], z9 ++ [], M9))) rfl).trans (amK_pV fun M1 => ?_)
  refine (amRun_t (f := amStep amGst (amD amGst d) cdX4_parse) 8 (x := amPu 1 (amD amGst d 67 [vR 7 7 0, vI ((amUp M1 4 0 3 0) 4 0 3)] (amUp M1 4 0 3 0)) (fun z9 M9 => .inl (24, [vR 4 4 0, vU], z9 ++ [vR 4 4 0], M9))) rfl).trans (amK_pI fun v2 M2 => ?_)
  refine (amRun_t (f := amStep amGst (amD amGst d) cdX4_parse) 12 (x := amPu 0 (amD amGst d 81 [vR 8 8 1] (amUp (amUp (amUp (amUp M2 4 0 4 v2) 4 0 5 0) 4 0 6 0) 4 0 8 0)) (fun z9 M9 => .inl (49, [vR 4 4 0, vU], z9 ++ [], M9))) rfl).trans (amK_pV fun M3 => ?_)
  exact amRun_b 2 (x := .inl (51, [vR 4 4 0, vI 0], [], M3)) rfl
theorem q_X4_parse_51 (d : Nat) (l1 : Int) (M : AmM) : e_X4_parse_51 d l1 M =
    if 400 < l1 then (if M 4 0 6 = 0 then (some (vI (M 4 0 8), M)) else (some (vI (M 4 0 6), M))) else (if M 4 0 6 = 0 then (if M 4 0 4 = 21 then (if M 4 0 6 = 0 then (some (vI (M 4 0 8), M)) else (some (vI (M 4 0 6), M))) else (if M 4 0 4 = 0 then (amCI (amD amGst d 30 [vR 4 4 0, vR 20 118 1, vI 1, vI 24, vI 99] M) fun v3 M3 => amCV (amD amGst d 39 [vR 4 4 0, vI 59] (amUp M3 8 1 5 v3)) fun M4 => e_X4_parse_51 d (w32 (l1 + 1)) M4) else (if M 4 0 4 = 1 then (amCI (amD amGst d 30 [vR 4 4 0, vR 20 119 1, vI 0, vI 14, vI 9] M) fun v5 M5 => amCV (amD amGst d 39 [vR 4 4 0, vI 59] (amUp M5 8 1 6 v5)) fun M6 => e_X4_parse_51 d (w32 (l1 + 1)) M6) else (if M 4 0 4 = 2 then (amCV (amD amGst d 31 [vR 4 4 0] M) fun M7 => amCV (amD amGst d 39 [vR 4 4 0, vI 59] M7) fun M8 => e_X4_parse_51 d (w32 (l1 + 1)) M8) else (if M 4 0 4 = 3 then (amCV (amD amGst d 32 [vR 4 4 0] M) fun M9 => amCV (amD amGst d 39 [vR 4 4 0, vI 59] M9) fun M10 => e_X4_parse_51 d (w32 (l1 + 1)) M10) else (if M 4 0 4 = 4 then (amCV (amD amGst d 34 [vR 4 4 0] M) fun M11 => amCV (amD amGst d 39 [vR 4 4 0, vI 59] M11) fun M12 => e_X4_parse_51 d (w32 (l1 + 1)) M12) else ((amCV (amD amGst d 42 [vR 4 4 0, vI 1] M) fun M1 => amCV (amD amGst d 39 [vR 4 4 0, vI 59] M1) fun M2 => e_X4_parse_51 d (w32 (l1 + 1)) M2)))))))) else (if M 4 0 6 = 0 then (some (vI (M 4 0 8), M)) else (some (vI (M 4 0 6), M)))) := by
  show amRun _ _ = _
  refine (amRun_t (f := amStep amGst (amD amGst d) cdX4_parse) 2 (x := if 400 < l1 then .inl (202, [vR 4 4 0, vI l1], [], M) else .inl (58, [vR 4 4 0, vI l1], [], M)) rfl).trans (amK_if ?_ ?_)
  · refine (amRun_t (f := amStep amGst (amD amGst d) cdX4_parse) 2 (x := if M 4 0 6 = 0 then .inl (216, [vR 4 4 0, vI l1], [], M) else .inl (209, [vR 4 4 0, vI l1], [], M)) rfl).trans (amK_if ?_ ?_)
    · exact amRun_b 3 (x := .inr (some (vI (M 4 0 8), M))) rfl
    · exact amRun_b 4 (x := .inr (some (vI (M 4 0 6), M))) rfl
  · refine (amRun_t (f := amStep amGst (amD amGst d) cdX4_parse) 2 (x := if M 4 0 6 = 0 then .inl (65, [vR 4 4 0, vI l1], [], M) else .inl (202, [vR 4 4 0, vI l1], [], M)) rfl).trans (amK_if ?_ ?_)
    · refine (amRun_t (f := amStep amGst (amD amGst d) cdX4_parse) 3 (x := if M 4 0 4 = 21 then .inl (202, [vR 4 4 0, vI l1], [], M) else .inl (74, [vR 4 4 0, vI l1], [], M)) rfl).trans (amK_if ?_ ?_)
      · refine (amRun_t (f := amStep amGst (amD amGst d) cdX4_parse) 2 (x := if M 4 0 6 = 0 then .inl (216, [vR 4 4 0, vI l1], [], M) else .inl (209, [vR 4 4 0, vI l1], [], M)) rfl).trans (amK_if ?_ ?_)
        · exact amRun_b 3 (x := .inr (some (vI (M 4 0 8), M))) rfl
        · exact amRun_b 4 (x := .inr (some (vI (M 4 0 6), M))) rfl
      · refine (amRun_t (f := amStep amGst (amD amGst d) cdX4_parse) 2 (x := if M 4 0 4 = 0 then .inl (112, [vR 4 4 0, vI l1], [], M) else (if M 4 0 4 = 1 then .inl (138, [vR 4 4 0, vI l1], [], M) else (if M 4 0 4 = 2 then .inl (164, [vR 4 4 0, vI l1], [], M) else (if M 4 0 4 = 3 then .inl (171, [vR 4 4 0, vI l1], [], M) else (if M 4 0 4 = 4 then .inl (178, [vR 4 4 0, vI l1], [], M) else .inl (185, [vR 4 4 0, vI l1], [], M)))))) rfl).trans ?_
        refine amK_if ?_ ?_
        · refine (amRun_t (f := amStep amGst (amD amGst d) cdX4_parse) 9 (x := amPu 1 (amD amGst d 30 [vR 4 4 0, vR 20 118 1, vI 1, vI 24, vI 99] M) (fun z9 M9 => .inl (132, [vR 4 4 0, vI l1], z9 ++ [vR 8 8 1], M9))) rfl).trans (amK_pI fun v3 M3 => ?_)
          refine (amRun_t (f := amStep amGst (amD amGst d) cdX4_parse) 4 (x := amPu 0 (amD amGst d 39 [vR 4 4 0, vI 59] (amUp M3 8 1 5 v3)) (fun z9 M9 => .inl (196, [vR 4 4 0, vI l1], z9 ++ [], M9))) rfl).trans (amK_pV fun M4 => ?_)
          exact amRun_b 2 (x := .inl (51, [vR 4 4 0, vI (w32 (l1 + 1))], [], M4)) rfl
        refine amK_if ?_ ?_
        · refine (amRun_t (f := amStep amGst (amD amGst d) cdX4_parse) 9 (x := amPu 1 (amD amGst d 30 [vR 4 4 0, vR 20 119 1, vI 0, vI 14, vI 9] M) (fun z9 M9 => .inl (158, [vR 4 4 0, vI l1], z9 ++ [vR 8 8 1], M9))) rfl).trans (amK_pI fun v5 M5 => ?_)
          refine (amRun_t (f := amStep amGst (amD amGst d) cdX4_parse) 4 (x := amPu 0 (amD amGst d 39 [vR 4 4 0, vI 59] (amUp M5 8 1 6 v5)) (fun z9 M9 => .inl (196, [vR 4 4 0, vI l1], z9 ++ [], M9))) rfl).trans (amK_pV fun M6 => ?_)
          exact amRun_b 2 (x := .inl (51, [vR 4 4 0, vI (w32 (l1 + 1))], [], M6)) rfl
        refine amK_if ?_ ?_
        · refine (amRun_t (f := amStep amGst (amD amGst d) cdX4_parse) 1 (x := amPu 0 (amD amGst d 31 [vR 4 4 0] M) (fun z9 M9 => .inl (168, [vR 4 4 0, vI l1], z9 ++ [], M9))) rfl).trans (amK_pV fun M7 => ?_)
          refine (amRun_t (f := amStep amGst (amD amGst d) cdX4_parse) 3 (x := amPu 0 (amD amGst d 39 [vR 4 4 0, vI 59] M7) (fun z9 M9 => .inl (196, [vR 4 4 0, vI l1], z9 ++ [], M9))) rfl).trans (amK_pV fun M8 => ?_)
          exact amRun_b 2 (x := .inl (51, [vR 4 4 0, vI (w32 (l1 + 1))], [], M8)) rfl
        refine amK_if ?_ ?_
        · refine (amRun_t (f := amStep amGst (amD amGst d) cdX4_parse) 1 (x := amPu 0 (amD amGst d 32 [vR 4 4 0] M) (fun z9 M9 => .inl (175, [vR 4 4 0, vI l1], z9 ++ [], M9))) rfl).trans (amK_pV fun M9 => ?_)
          refine (amRun_t (f := amStep amGst (amD amGst d) cdX4_parse) 3 (x := amPu 0 (amD amGst d 39 [vR 4 4 0, vI 59] M9) (fun z9 M9 => .inl (196, [vR 4 4 0, vI l1], z9 ++ [], M9))) rfl).trans (amK_pV fun M10 => ?_)
          exact amRun_b 2 (x := .inl (51, [vR 4 4 0, vI (w32 (l1 + 1))], [], M10)) rfl
        refine amK_if ?_ ?_
        · refine (amRun_t (f := amStep amGst (amD amGst d) cdX4_parse) 1 (x := amPu 0 (amD amGst d 34 [vR 4 4 0] M) (fun z9 M9 => .inl (182, [vR 4 4 0, vI l1], z9 ++ [], M9))) rfl).trans (amK_pV fun M11 => ?_)
          refine (amRun_t (f := amStep amGst (amD amGst d) cdX4_parse) 3 (x := amPu 0 (amD amGst d 39 [vR 4 4 0, vI 59] M11) (fun z9 M9 => .inl (196, [vR 4 4 0, vI l1], z9 ++ [], M9))) rfl).trans (amK_pV fun M12 => ?_)
          exact amRun_b 2 (x := .inl (51, [vR 4 4 0, vI (w32 (l1 + 1))], [], M12)) rfl
        refine (amRun_t (f := amStep amGst (amD amGst d) cdX4_parse) 2 (x := amPu 0 (amD amGst d 42 [vR 4 4 0, vI 1] M) (fun z9 M9 => .inl (190, [vR 4 4 0, vI l1], z9 ++ [], M9))) rfl).trans (amK_pV fun M1 => ?_)
        refine (amRun_t (f := amStep amGst (amD amGst d) cdX4_parse) 2 (x := amPu 0 (amD amGst d 39 [vR 4 4 0, vI 59] M1) (fun z9 M9 => .inl (196, [vR 4 4 0, vI l1], z9 ++ [], M9))) rfl).trans (amK_pV fun M2 => ?_)
        exact amRun_b 2 (x := .inl (51, [vR 4 4 0, vI (w32 (l1 + 1))], [], M2)) rfl
    · refine (amRun_t (f := amStep amGst (amD amGst d) cdX4_parse) 2 (x := if M 4 0 6 = 0 then .inl (216, [vR 4 4 0, vI l1], [], M) else .inl (209, [vR 4 4 0, vI l1], [], M)) rfl).trans (amK_if ?_ ?_)
      · exact amRun_b 3 (x := .inr (some (vI (M 4 0 8), M))) rfl
      · exact amRun_b 4 (x := .inr (some (vI (M 4 0 6), M))) rfl
theorem n_X4_parse (d : Nat) (M : AmM) : amD amGst (d + 1) 28 [vR 4 4 0] M = e_X4_parse_0 d M := rfl
noncomputable def e_X4_faultPlace_0 (d : Nat) (M : AmM) : Option (AmV × AmM) := amRun (amStep amGst (amD amGst d) cdX4_faultPlace) (0, [vR 4 4 0], [], M)
theorem q_X4_faultPlace_0 (d : Nat) (M : AmM) : e_X4_faultPlace_0 d M =
    if M 4 0 6 = 0 then (amCI (amD amGst d 69 [vR 7 7 0, vI (M 4 0 9)] M) fun v1 M1 => some (vI v1, M1)) else (amCI (amD amGst d 69 [vR 7 7 0, vI (M 4 0 7)] M) fun v2 M2 => some (vI v2, M2)) := by
  show amRun _ _ = _
  refine (amRun_t (f := amStep amGst (amD amGst d) cdX4_faultPlace) 4 (x := if M 4 0 6 = 0 then .inl (18, [vR 4 4 0], [vR 7 7 0], M) else .inl (11, [vR 4 4 0], [vR 7 7 0], M)) rfl).trans (amK_if ?_ ?_)
  · refine (amRun_t (f := amStep amGst (amD amGst d) cdX4_faultPlace) 2 (x := amPu 1 (amD amGst d 69 [vR 7 7 0, vI (M 4 0 9)] M) (fun z9 M9 => .inl (25, [vR 4 4 0], z9 ++ [], M9))) rfl).trans (amK_pI fun v1 M1 => ?_)
    exact amRun_b 1 (x := .inr (some (vI v1, M1))) rfl
  · refine (amRun_t (f := amStep amGst (amD amGst d) cdX4_faultPlace) 3 (x := amPu 1 (amD amGst d 69 [vR 7 7 0, vI (M 4 0 7)] M) (fun z9 M9 => .inl (25, [vR 4 4 0], z9 ++ [], M9))) rfl).trans (amK_pI fun v2 M2 => ?_)
    exact amRun_b 1 (x := .inr (some (vI v2, M2))) rfl
theorem n_X4_faultPlace (d : Nat) (M : AmM) : amD amGst (d + 1) 29 [vR 4 4 0] M = e_X4_faultPlace_0 d M := rfl
noncomputable def e_X4_readRow_0 (d : Nat) (c1 : Nat) (r1 : Nat) (l2 : Int) (l3 : Int) (l4 : Int) (M : AmM) : Option (AmV × AmM) := amRun (amStep amGst (amD amGst d) cdX4_readRow) (0, [vR 4 4 0, vR 20 c1 r1, vI l2, vI l3, vI l4, vU], [], M)
noncomputable def e_X4_readRow_11 (d : Nat) (c1 : Nat) (r1 : Nat) (l2 : Int) (l3 : Int) (l4 : Int) (l5 : Int) (M : AmM) : Option (AmV × AmM) := amRun (amStep amGst (amD amGst d) cdX4_readRow) (11, [vR 4 4 0, vR 20 c1 r1, vI l2, vI l3, vI l4, vI l5], [], M)
noncomputable def e_X4_readRow_47 (d : Nat) (c1 : Nat) (r1 : Nat) (l2 : Int) (l3 : Int) (l4 : Int) (l5 : Int) (M : AmM) : Option (AmV × AmM) := amRun (amStep amGst (amD amGst d) cdX4_readRow) (47, [vR 4 4 0, vR 20 c1 r1, vI l2, vI l3, vI l4, vI l5], [], M)
theorem q_X4_readRow_0 (d : Nat) (c1 : Nat) (r1 : Nat) (l2 : Int) (l3 : Int) (l4 : Int) (M : AmM) : e_X4_readRow_0 d c1 r1 l2 l3 l4 M =
    amCV (amD amGst d 39 [vR 4 4 0, vI (M 4 0 4)] M) fun M1 => e_X4_readRow_11 d c1 r1 l2 l3 l4 0 M1 := by
  show amRun _ _ = _
  refine (amRun_t (f := amStep amGst (amD amGst d) cdX4_readRow) 3 (x := amPu 0 (amD amGst d 39 [vR 4 4 0, vI (M 4 0 4)] M) (fun z9 M9 => .inl (8, [vR 4 4 0, vR 20 c1 r1, vI l2, vI l3, vI l4, vU], z9 ++ [], M9))) rfl).trans (amK_pV fun M1 => ?_)
  exact amRun_b 2 (x := .inl (11, [vR 4 4 0, vR 20 c1 r1, vI l2, vI l3, vI l4, vI 0], [], M1)) rfl
theorem q_X4_readRow_11 (d : Nat) (c1 : Nat) (r1 : Nat) (l2 : Int) (l3 : Int) (l4 : Int) (l5 : Int) (M : AmM) : e_X4_readRow_11 d c1 r1 l2 l3 l4 l5 M =
    if l5 < l3 then (if M 4 0 4 = 20 then (amCI (amD amGst d 40 [vR 4 4 0, vI 0, vI l4] M) fun v1 M1 => amCV (amD amGst d 143 [vR 20 c1 r1, vI (w32 (l2 + l5)), vI v1] M1) fun M2 => e_X4_readRow_11 d c1 r1 l2 l3 l4 (w32 (l5 + 1)) M2) else (e_X4_readRow_47 d c1 r1 l2 l3 l4 l5 M)) else (e_X4_readRow_47 d c1 r1 l2 l3 l4 l5 M) := by
  show amRun _ _ = _
  refine (amRun_t (f := amStep amGst (amD amGst d) cdX4_readRow) 2 (x := if l5 < l3 then .inl (17, [vR 4 4 0, vR 20 c1 r1, vI l2, vI l3, vI l4, vI l5], [], M) else .inl (47, [vR 4 4 0, vR 20 c1 r1, vI l2, vI l3, vI l4, vI l5], [], M)) rfl).trans (amK_if ?_ ?_)
  · refine (amRun_t (f := amStep amGst (amD amGst d) cdX4_readRow) 3 (x := if M 4 0 4 = 20 then .inl (26, [vR 4 4 0, vR 20 c1 r1, vI l2, vI l3, vI l4, vI l5], [], M) else .inl (47, [vR 4 4 0, vR 20 c1 r1, vI l2, vI l3, vI l4, vI l5], [], M)) rfl).trans (amK_if ?_ ?_)
    · refine (amRun_t (f := amStep amGst (amD amGst d) cdX4_readRow) 7 (x := amPu 1 (amD amGst d 40 [vR 4 4 0, vI 0, vI l4] M) (fun z9 M9 => .inl (38, [vR 4 4 0, vR 20 c1 r1, vI l2, vI l3, vI l4, vI l5], z9 ++ [vI (w32 (l2 + l5)), vR 20 c1 r1], M9))) rfl).trans (amK_pI fun v1 M1 => ?_)
      refine (amRun_t (f := amStep amGst (amD amGst d) cdX4_readRow) 0 (x := amPu 0 (amD amGst d 143 [vR 20 c1 r1, vI (w32 (l2 + l5)), vI v1] M1) (fun z9 M9 => .inl (41, [vR 4 4 0, vR 20 c1 r1, vI l2, vI l3, vI l4, vI l5], z9 ++ [], M9))) rfl).trans (amK_pV fun M2 => ?_)
      exact amRun_b 2 (x := .inl (11, [vR 4 4 0, vR 20 c1 r1, vI l2, vI l3, vI l4, vI (w32 (l5 + 1))], [], M2)) rfl
    · exact amRun_b 0 (x := .inl (47, [vR 4 4 0, vR 20 c1 r1, vI l2, vI l3, vI l4, vI l5], [], M)) rfl
  · exact amRun_b 0 (x := .inl (47, [vR 4 4 0, vR 20 c1 r1, vI l2, vI l3, vI l4, vI l5], [], M)) rfl
theorem q_X4_readRow_47 (d : Nat) (c1 : Nat) (r1 : Nat) (l2 : Int) (l3 : Int) (l4 : Int) (l5 : Int) (M : AmM) : e_X4_readRow_47 d c1 r1 l2 l3 l4 l5 M =
    if M 4 0 4 = 20 then (amCV (amD amGst d 42 [vR 4 4 0, vI 2] M) fun M1 => some (vI l5, M1)) else (some (vI l5, M)) := by
  show amRun _ _ = _
  refine (amRun_t (f := amStep amGst (amD amGst d) cdX4_readRow) 3 (x := if M 4 0 4 = 20 then .inl (56, [vR 4 4 0, vR 20 c1 r1, vI l2, vI l3, vI l4, vI l5], [], M) else .inl (61, [vR 4 4 0, vR 20 c1 r1, vI l2, vI l3, vI l4, vI l5], [], M)) rfl).trans (amK_if ?_ ?_)
  · refine (amRun_t (f := amStep amGst (amD amGst d) cdX4_readRow) 2 (x := amPu 0 (amD amGst d 42 [vR 4 4 0, vI 2] M) (fun z9 M9 => .inl (61, [vR 4 4 0, vR 20 c1 r1, vI l2, vI l3, vI l4, vI l5], z9 ++ [], M9))) rfl).trans (amK_pV fun M1 => ?_)
    exact amRun_b 2 (x := .inr (some (vI l5, M1))) rfl
  · exact amRun_b 2 (x := .inr (some (vI l5, M))) rfl
theorem n_X4_readRow (d : Nat) (c1 : Nat) (r1 : Nat) (l2 : Int) (l3 : Int) (l4 : Int) (M : AmM) : amD amGst (d + 1) 30 [vR 4 4 0, vR 20 c1 r1, vI l2, vI l3, vI l4] M = e_X4_readRow_0 d c1 r1 l2 l3 l4 M := rfl
noncomputable def e_X4_readBrine_0 (d : Nat) (M : AmM) : Option (AmV × AmM) := amRun (amStep amGst (amD amGst d) cdX4_readBrine) (0, [vR 4 4 0], [], M)
theorem q_X4_readBrine_0 (d : Nat) (M : AmM) : e_X4_readBrine_0 d M =
    amCV (amD amGst d 39 [vR 4 4 0, vI 2] M) fun M1 => amCI (amD amGst d 40 [vR 4 4 0, vI 0, vI 999] M1) fun v2 M2 => amCI (amD amGst d 40 [vR 4 4 0, vI 0, vI 99] (amUp M2 8 1 7 v2)) fun v3 M3 => some (vU, amUp M3 8 1 8 v3) := by
  show amRun _ _ = _
  refine (amRun_t (f := amStep amGst (amD amGst d) cdX4_readBrine) 2 (x := amPu 0 (amD amGst d 39 [vR 4 4 0, vI 2] M) (fun z9 M9 => .inl (5, [vR 4 4 0], z9 ++ [], M9))) rfl).trans (amK_pV fun M1 => ?_)
  refine (amRun_t (f := amStep amGst (amD amGst d) cdX4_readBrine) 5 (x := amPu 1 (amD amGst d 40 [vR 4 4 0, vI 0, vI 999] M1) (fun z9 M9 => .inl (17, [vR 4 4 0], z9 ++ [vR 8 8 1], M9))) rfl).trans (amK_pI fun v2 M2 => ?_)
  refine (amRun_t (f := amStep amGst (amD amGst d) cdX4_readBrine) 6 (x := amPu 1 (amD amGst d 40 [vR 4 4 0, vI 0, vI 99] (amUp M2 8 1 7 v2)) (fun z9 M9 => .inl (31, [vR 4 4 0], z9 ++ [vR 8 8 1], M9))) rfl).trans (amK_pI fun v3 M3 => ?_)
  exact amRun_b 2 (x := .inr (some (vU, amUp M3 8 1 8 v3))) rfl
theorem n_X4_readBrine (d : Nat) (M : AmM) : amD amGst (d + 1) 31 [vR 4 4 0] M = e_X4_readBrine_0 d M := rfl
noncomputable def e_X4_readPilgrim_0 (d : Nat) (M : AmM) : Option (AmV × AmM) := amRun (amStep amGst (amD amGst d) cdX4_readPilgrim) (0, [vR 4 4 0, vU], [], M)
theorem q_X4_readPilgrim_0 (d : Nat) (M : AmM) : e_X4_readPilgrim_0 d M =
    if M 8 1 9 < 8 then (amCV (amD amGst d 39 [vR 4 4 0, vI 3] M) fun M1 => amCV (amD amGst d 33 [vR 4 4 0, vI (M 8 1 9)] M1) fun M2 => amCI (amD amGst d 40 [vR 4 4 0, vI 1, vI 30] M2) fun v3 M3 => amCV (amD amGst d 143 [vR 20 120 1, vI (M 8 1 9), vI v3] M3) fun M4 => amCI (amD amGst d 41 [vR 4 4 0] M4) fun v5 M5 => amCV (amD amGst d 143 [vR 20 121 1, vI (M 8 1 9), vI v5] M5) fun M6 => some (vU, amUp M6 8 1 9 (w32 ((M 8 1 9) + 1)))) else (amCV (amD amGst d 42 [vR 4 4 0, vI 2] M) fun M7 => some (vU, M7)) := by
  show amRun _ _ = _
  refine (amRun_t (f := amStep amGst (amD amGst d) cdX4_readPilgrim) 6 (x := if M 8 1 9 < 8 then .inl (20, [vR 4 4 0, vI (M 8 1 9)], [], M) else .inl (14, [vR 4 4 0, vI (M 8 1 9)], [], M)) rfl).trans (amK_if ?_ ?_)
  · refine (amRun_t (f := amStep amGst (amD amGst d) cdX4_readPilgrim) 2 (x := amPu 0 (amD amGst d 39 [vR 4 4 0, vI 3] M) (fun z9 M9 => .inl (25, [vR 4 4 0, vI (M 8 1 9)], z9 ++ [], M9))) rfl).trans (amK_pV fun M1 => ?_)
    refine (amRun_t (f := amStep amGst (amD amGst d) cdX4_readPilgrim) 2 (x := amPu 0 (amD amGst d 33 [vR 4 4 0, vI (M 8 1 9)] M1) (fun z9 M9 => .inl (30, [vR 4 4 0, vI (M 8 1 9)], z9 ++ [], M9))) rfl).trans (amK_pV fun M2 => ?_)
    refine (amRun_t (f := amStep amGst (amD amGst d) cdX4_readPilgrim) 7 (x := amPu 1 (amD amGst d 40 [vR 4 4 0, vI 1, vI 30] M2) (fun z9 M9 => .inl (45, [vR 4 4 0, vI (M 8 1 9)], z9 ++ [vI (M 8 1 9), vR 20 120 1], M9))) rfl).trans (amK_pI fun v3 M3 => ?_)
    refine (amRun_t (f := amStep amGst (amD amGst d) cdX4_readPilgrim) 0 (x := amPu 0 (amD amGst d 143 [vR 20 120 1, vI (M 8 1 9), vI v3] M3) (fun z9 M9 => .inl (48, [vR 4 4 0, vI (M 8 1 9)], z9 ++ [], M9))) rfl).trans (amK_pV fun M4 => ?_)
    refine (amRun_t (f := amStep amGst (amD amGst d) cdX4_readPilgrim) 5 (x := amPu 1 (amD amGst d 41 [vR 4 4 0] M4) (fun z9 M9 => .inl (60, [vR 4 4 0, vI (M 8 1 9)], z9 ++ [vI (M 8 1 9), vR 20 121 1], M9))) rfl).trans (amK_pI fun v5 M5 => ?_)
    refine (amRun_t (f := amStep amGst (amD amGst d) cdX4_readPilgrim) 0 (x := amPu 0 (amD amGst d 143 [vR 20 121 1, vI (M 8 1 9), vI v5] M5) (fun z9 M9 => .inl (63, [vR 4 4 0, vI (M 8 1 9)], z9 ++ [], M9))) rfl).trans (amK_pV fun M6 => ?_)
    exact amRun_b 7 (x := .inr (some (vU, amUp M6 8 1 9 (w32 ((M 8 1 9) + 1))))) rfl
  · refine (amRun_t (f := amStep amGst (amD amGst d) cdX4_readPilgrim) 2 (x := amPu 0 (amD amGst d 42 [vR 4 4 0, vI 2] M) (fun z9 M9 => .inl (19, [vR 4 4 0, vI (M 8 1 9)], z9 ++ [], M9))) rfl).trans (amK_pV fun M7 => ?_)
    exact amRun_b 1 (x := .inr (some (vU, M7))) rfl
theorem n_X4_readPilgrim (d : Nat) (M : AmM) : amD amGst (d + 1) 32 [vR 4 4 0] M = e_X4_readPilgrim_0 d M := rfl
noncomputable def e_X4_takeName_0 (d : Nat) (l1 : Int) (M : AmM) : Option (AmV × AmM) := amRun (amStep amGst (amD amGst d) cdX4_takeName) (0, [vR 4 4 0, vI l1, vU, vU, vU], [], M)
noncomputable def e_X4_takeName_15 (d : Nat) (l1 : Int) (l2 : Int) (l4 : Int) (M : AmM) : Option (AmV × AmM) := amRun (amStep amGst (amD amGst d) cdX4_takeName) (15, [vR 4 4 0, vI l1, vL l2, vU, vI l4], [], M)
noncomputable def e_X4_takeName_63 (d : Nat) (l1 : Int) (l2 : Int) (l4 : Int) (M : AmM) : Option (AmV × AmM) := amRun (amStep amGst (amD amGst d) cdX4_takeName) (63, [vR 4 4 0, vI l1, vL l2, vU, vI l4], [], M)
theorem q_X4_takeName_0 (d : Nat) (l1 : Int) (M : AmM) : e_X4_takeName_0 d l1 M =
    amCL (amD amGst d 68 [vR 7 7 0, vI (M 4 0 3)] M) fun v1 M1 => e_X4_takeName_15 d l1 v1 0 M1 := by
  show amRun _ _ = _
  refine (amRun_t (f := amStep amGst (amD amGst d) cdX4_takeName) 4 (x := amPu 2 (amD amGst d 68 [vR 7 7 0, vI (M 4 0 3)] M) (fun z9 M9 => .inl (11, [vR 4 4 0, vI l1, vU, vU, vU], z9 ++ [], M9))) rfl).trans (amK_pL fun v1 M1 => ?_)
  exact amRun_b 3 (x := .inl (15, [vR 4 4 0, vI l1, vL v1, vU, vI 0], [], M1)) rfl
theorem q_X4_takeName_15 (d : Nat) (l1 : Int) (l2 : Int) (l4 : Int) (M : AmM) : e_X4_takeName_15 d l1 l2 l4 M =
    if l4 < l1 then (if l4 < 8 then (if M 4 0 4 = 19 then (if (0 : Int) ≤ l4 ∧ l4 < 8 then (if amCmp (M 107 0 (l4).toNat) l2 = 0 then (amCV (amD amGst d 43 [vR 4 4 0, vI 3] M) fun M1 => e_X4_takeName_15 d l1 l2 (w32 (l4 + 1)) M1) else (e_X4_takeName_15 d l1 l2 (w32 (l4 + 1)) M)) else none) else (e_X4_takeName_15 d l1 l2 (w32 (l4 + 1)) M)) else (e_X4_takeName_63 d l1 l2 l4 M)) else (e_X4_takeName_63 d l1 l2 l4 M) := by
  show amRun _ _ = _
  refine (amRun_t (f := amStep amGst (amD amGst d) cdX4_takeName) 2 (x := if l4 < l1 then .inl (21, [vR 4 4 0, vI l1, vL l2, vU, vI l4], [], M) else .inl (63, [vR 4 4 0, vI l1, vL l2, vU, vI l4], [], M)) rfl).trans (amK_if ?_ ?_)
  · refine (amRun_t (f := amStep amGst (amD amGst d) cdX4_takeName) 4 (x := if l4 < 8 then .inl (31, [vR 4 4 0, vI l1, vL l2, vU, vI l4], [], M) else .inl (63, [vR 4 4 0, vI l1, vL l2, vU, vI l4], [], M)) rfl).trans (amK_if ?_ ?_)
    · refine (amRun_t (f := amStep amGst (amD amGst d) cdX4_takeName) 3 (x := if M 4 0 4 = 19 then .inl (40, [vR 4 4 0, vI l1, vL l2, vU, vI l4], [], M) else .inl (57, [vR 4 4 0, vI l1, vL l2, vU, vI l4], [], M)) rfl).trans (amK_if ?_ ?_)
      · refine (amRun_t (f := amStep amGst (amD amGst d) cdX4_takeName) 3 (x := if (0 : Int) ≤ l4 ∧ l4 < 8 then .inl (47, [vR 4 4 0, vI l1, vL l2, vU, vI l4], [vL (M 107 0 (l4).toNat)], M) else amNo) rfl).trans (amK_if ?_ rfl)
        refine (amRun_t (f := amStep amGst (amD amGst d) cdX4_takeName) 2 (x := if amCmp (M 107 0 (l4).toNat) l2 = 0 then .inl (52, [vR 4 4 0, vI l1, vL l2, vU, vI l4], [], M) else .inl (57, [vR 4 4 0, vI l1, vL l2, vU, vI l4], [], M)) rfl).trans (amK_if ?_ ?_)
        · refine (amRun_t (f := amStep amGst (amD amGst d) cdX4_takeName) 2 (x := amPu 0 (amD amGst d 43 [vR 4 4 0, vI 3] M) (fun z9 M9 => .inl (57, [vR 4 4 0, vI l1, vL l2, vU, vI l4], z9 ++ [], M9))) rfl).trans (amK_pV fun M1 => ?_)
          exact amRun_b 2 (x := .inl (15, [vR 4 4 0, vI l1, vL l2, vU, vI (w32 (l4 + 1))], [], M1)) rfl
        · exact amRun_b 2 (x := .inl (15, [vR 4 4 0, vI l1, vL l2, vU, vI (w32 (l4 + 1))], [], M)) rfl
      · exact amRun_b 2 (x := .inl (15, [vR 4 4 0, vI l1, vL l2, vU, vI (w32 (l4 + 1))], [], M)) rfl
    · exact amRun_b 0 (x := .inl (63, [vR 4 4 0, vI l1, vL l2, vU, vI l4], [], M)) rfl
  · exact amRun_b 0 (x := .inl (63, [vR 4 4 0, vI l1, vL l2, vU, vI l4], [], M)) rfl
theorem q_X4_takeName_63 (d : Nat) (l1 : Int) (l2 : Int) (l4 : Int) (M : AmM) : e_X4_takeName_63 d l1 l2 l4 M =
    if l1 < 0 then (amCV (amD amGst d 39 [vR 4 4 0, vI 19] M) fun M1 => some (vU, M1)) else (if l1 < 8 then (if (0 : Int) ≤ l1 ∧ l1 < 8 then (amCV (amD amGst d 39 [vR 4 4 0, vI 19] (amUp M 107 0 (l1).toNat l2)) fun M2 => some (vU, M2)) else none) else (amCV (amD amGst d 39 [vR 4 4 0, vI 19] M) fun M3 => some (vU, M3))) := by
  show amRun _ _ = _
  refine (amRun_t (f := amStep amGst (amD amGst d) cdX4_takeName) 1 (x := if l1 < 0 then .inl (83, [vR 4 4 0, vI l1, vL l2, vU, vI l4], [], M) else .inl (67, [vR 4 4 0, vI l1, vL l2, vU, vI l4], [], M)) rfl).trans (amK_if ?_ ?_)
  · refine (amRun_t (f := amStep amGst (amD amGst d) cdX4_takeName) 2 (x := amPu 0 (amD amGst d 39 [vR 4 4 0, vI 19] M) (fun z9 M9 => .inl (89, [vR 4 4 0, vI l1, vL l2, vU, vI l4], z9 ++ [], M9))) rfl).trans (amK_pV fun M1 => ?_)
    exact amRun_b 1 (x := .inr (some (vU, M1))) rfl
  · refine (amRun_t (f := amStep amGst (amD amGst d) cdX4_takeName) 4 (x := if l1 < 8 then .inl (76, [vR 4 4 0, vI l1, vL l2, vU, vI l4], [], M) else .inl (83, [vR 4 4 0, vI l1, vL l2, vU, vI l4], [], M)) rfl).trans (amK_if ?_ ?_)
    · refine (amRun_t (f := amStep amGst (amD amGst d) cdX4_takeName) 4 (x := if (0 : Int) ≤ l1 ∧ l1 < 8 then .inl (83, [vR 4 4 0, vI l1, vL l2, vU, vI l4], [], amUp M 107 0 (l1).toNat l2) else amNo) rfl).trans (amK_if ?_ rfl)
      refine (amRun_t (f := amStep amGst (amD amGst d) cdX4_takeName) 2 (x := amPu 0 (amD amGst d 39 [vR 4 4 0, vI 19] (amUp M 107 0 (l1).toNat l2)) (fun z9 M9 => .inl (89, [vR 4 4 0, vI l1, vL l2, vU, vI l4], z9 ++ [], M9))) rfl).trans (amK_pV fun M2 => ?_)
      exact amRun_b 1 (x := .inr (some (vU, M2))) rfl
    · refine (amRun_t (f := amStep amGst (amD amGst d) cdX4_takeName) 2 (x := amPu 0 (amD amGst d 39 [vR 4 4 0, vI 19] M) (fun z9 M9 => .inl (89, [vR 4 4 0, vI l1, vL l2, vU, vI l4], z9 ++ [], M9))) rfl).trans (amK_pV fun M3 => ?_)
      exact amRun_b 1 (x := .inr (some (vU, M3))) rfl
theorem n_X4_takeName (d : Nat) (l1 : Int) (M : AmM) : amD amGst (d + 1) 33 [vR 4 4 0, vI l1] M = e_X4_takeName_0 d l1 M := rfl
noncomputable def e_X4_readLaw_0 (d : Nat) (M : AmM) : Option (AmV × AmM) := amRun (amStep amGst (amD amGst d) cdX4_readLaw) (0, [vR 4 4 0, vU, vU], [], M)
noncomputable def e_X4_readLaw_54 (d : Nat) (l1 : Int) (l2 : Int) (M : AmM) : Option (AmV × AmM) := amRun (amStep amGst (amD amGst d) cdX4_readLaw) (54, [vR 4 4 0, vI l1, vI l2], [], M)
noncomputable def e_X4_readLaw_77 (d : Nat) (l1 : Int) (l2 : Int) (M : AmM) : Option (AmV × AmM) := amRun (amStep amGst (amD amGst d) cdX4_readLaw) (77, [vR 4 4 0, vI l1, vI l2], [], M)
theorem q_X4_readLaw_0 (d : Nat) (M : AmM) : e_X4_readLaw_0 d M =
    if 8 < (amUp M 4 0 5 (w32 ((M 4 0 5) + 1))) 4 0 5 then (amCV (amD amGst d 42 [vR 4 4 0, vI 2] (amUp M 4 0 5 (w32 ((M 4 0 5) + 1)))) fun M1 => some (vU, M1)) else (amCV (amD amGst d 39 [vR 4 4 0, vI 4] (amUp M 4 0 5 (w32 ((M 4 0 5) + 1)))) fun M2 => amCI (amD amGst d 41 [vR 4 4 0] M2) fun v3 M3 => amCV (amD amGst d 39 [vR 4 4 0, vI 61] M3) fun M4 => amCV (amD amGst d 13 [vR 1 1 1, vI v3] M4) fun M5 => e_X4_readLaw_54 d v3 0 M5) := by
  show amRun _ _ = _
  refine (amRun_t (f := amStep amGst (amD amGst d) cdX4_readLaw) 9 (x := if 8 < (amUp M 4 0 5 (w32 ((M 4 0 5) + 1))) 4 0 5 then .inl (19, [vR 4 4 0, vU, vU], [], amUp M 4 0 5 (w32 ((M 4 0 5) + 1))) else .inl (25, [vR 4 4 0, vU, vU], [], amUp M 4 0 5 (w32 ((M 4 0 5) + 1)))) rfl).trans (amK_if ?_ ?_)
  · refine (amRun_t (f := amStep amGst (amD amGst d) cdX4_readLaw) 2 (x := amPu 0 (amD amGst d 42 [vR 4 4 0, vI 2] (amUp M 4 0 5 (w32 ((M 4 0 5) + 1)))) (fun z9 M9 => .inl (24, [vR 4 4 0, vU, vU], z9 ++ [], M9))) rfl).trans (amK_pV fun M1 => ?_)
    exact amRun_b 1 (x := .inr (some (vU, M1))) rfl
  · refine (amRun_t (f := amStep amGst (amD amGst d) cdX4_readLaw) 2 (x := amPu 0 (amD amGst d 39 [vR 4 4 0, vI 4] (amUp M 4 0 5 (w32 ((M 4 0 5) + 1)))) (fun z9 M9 => .inl (30, [vR 4 4 0, vU, vU], z9 ++ [], M9))) rfl).trans (amK_pV fun M2 => ?_)
    refine (amRun_t (f := amStep amGst (amD amGst d) cdX4_readLaw) 1 (x := amPu 1 (amD amGst d 41 [vR 4 4 0] M2) (fun z9 M9 => .inl (34, [vR 4 4 0, vU, vU], z9 ++ [], M9))) rfl).trans (amK_pI fun v3 M3 => ?_)
    refine (amRun_t (f := amStep amGst (amD amGst d) cdX4_readLaw) 3 (x := amPu 0 (amD amGst d 39 [vR 4 4 0, vI 61] M3) (fun z9 M9 => .inl (41, [vR 4 4 0, vI v3, vU], z9 ++ [], M9))) rfl).trans (amK_pV fun M4 => ?_)
    refine (amRun_t (f := amStep amGst (amD amGst d) cdX4_readLaw) 4 (x := amPu 0 (amD amGst d 13 [vR 1 1 1, vI v3] M4) (fun z9 M9 => .inl (52, [vR 4 4 0, vI v3, vU], z9 ++ [], M9))) rfl).trans (amK_pV fun M5 => ?_)
    exact amRun_b 2 (x := .inl (54, [vR 4 4 0, vI v3, vI 0], [], M5)) rfl
theorem q_X4_readLaw_54 (d : Nat) (l1 : Int) (l2 : Int) (M : AmM) : e_X4_readLaw_54 d l1 l2 M =
    if l2 < 4 then (if M 4 0 4 = 5 then (amCV (amD amGst d 35 [vR 4 4 0] M) fun M1 => e_X4_readLaw_54 d l1 (w32 (l2 + 1)) M1) else (e_X4_readLaw_77 d l1 l2 M)) else (e_X4_readLaw_77 d l1 l2 M) := by
  show amRun _ _ = _
  refine (amRun_t (f := amStep amGst (amD amGst d) cdX4_readLaw) 2 (x := if l2 < 4 then .inl (59, [vR 4 4 0, vI l1, vI l2], [], M) else .inl (77, [vR 4 4 0, vI l1, vI l2], [], M)) rfl).trans (amK_if ?_ ?_)
  · refine (amRun_t (f := amStep amGst (amD amGst d) cdX4_readLaw) 3 (x := if M 4 0 4 = 5 then .inl (67, [vR 4 4 0, vI l1, vI l2], [], M) else .inl (77, [vR 4 4 0, vI l1, vI l2], [], M)) rfl).trans (amK_if ?_ ?_)
    · refine (amRun_t (f := amStep amGst (amD amGst d) cdX4_readLaw) 1 (x := amPu 0 (amD amGst d 35 [vR 4 4 0] M) (fun z9 M9 => .inl (71, [vR 4 4 0, vI l1, vI l2], z9 ++ [], M9))) rfl).trans (amK_pV fun M1 => ?_)
      exact amRun_b 2 (x := .inl (54, [vR 4 4 0, vI l1, vI (w32 (l2 + 1))], [], M1)) rfl
    · exact amRun_b 0 (x := .inl (77, [vR 4 4 0, vI l1, vI l2], [], M)) rfl
  · exact amRun_b 0 (x := .inl (77, [vR 4 4 0, vI l1, vI l2], [], M)) rfl
theorem q_X4_readLaw_77 (d : Nat) (l1 : Int) (l2 : Int) (M : AmM) : e_X4_readLaw_77 d l1 l2 M =
    if M 4 0 4 = 5 then (amCV (amD amGst d 42 [vR 4 4 0, vI 2] M) fun M1 => amCV (amD amGst d 36 [vR 4 4 0, vI 0] M1) fun M2 => amCV (amD amGst d 14 [vR 1 1 1, vI 0, vI 0] M2) fun M3 => some (vU, M3)) else (amCV (amD amGst d 36 [vR 4 4 0, vI 0] M) fun M4 => amCV (amD amGst d 14 [vR 1 1 1, vI 0, vI 0] M4) fun M5 => some (vU, M5)) := by
  show amRun _ _ = _
  refine (amRun_t (f := amStep amGst (amD amGst d) cdX4_readLaw) 3 (x := if M 4 0 4 = 5 then .inl (85, [vR 4 4 0, vI l1, vI l2], [], M) else .inl (90, [vR 4 4 0, vI l1, vI l2], [], M)) rfl).trans (amK_if ?_ ?_)
  · refine (amRun_t (f := amStep amGst (amD amGst d) cdX4_readLaw) 2 (x := amPu 0 (amD amGst d 42 [vR 4 4 0, vI 2] M) (fun z9 M9 => .inl (90, [vR 4 4 0, vI l1, vI l2], z9 ++ [], M9))) rfl).trans (amK_pV fun M1 => ?_)
    refine (amRun_t (f := amStep amGst (amD amGst d) cdX4_readLaw) 2 (x := amPu 0 (amD amGst d 36 [vR 4 4 0, vI 0] M1) (fun z9 M9 => .inl (95, [vR 4 4 0, vI l1, vI l2], z9 ++ [], M9))) rfl).trans (amK_pV fun M2 => ?_)
    refine (amRun_t (f := amStep amGst (amD amGst d) cdX4_readLaw) 5 (x := amPu 0 (amD amGst d 14 [vR 1 1 1, vI 0, vI 0] M2) (fun z9 M9 => .inl (107, [vR 4 4 0, vI l1, vI l2], z9 ++ [], M9))) rfl).trans (amK_pV fun M3 => ?_)
    exact amRun_b 1 (x := .inr (some (vU, M3))) rfl
  · refine (amRun_t (f := amStep amGst (amD amGst d) cdX4_readLaw) 2 (x := amPu 0 (amD amGst d 36 [vR 4 4 0, vI 0] M) (fun z9 M9 => .inl (95, [vR 4 4 0, vI l1, vI l2], z9 ++ [], M9))) rfl).trans (amK_pV fun M4 => ?_)
    refine (amRun_t (f := amStep amGst (amD amGst d) cdX4_readLaw) 5 (x := amPu 0 (amD amGst d 14 [vR 1 1 1, vI 0, vI 0] M4) (fun z9 M9 => .inl (107, [vR 4 4 0, vI l1, vI l2], z9 ++ [], M9))) rfl).trans (amK_pV fun M5 => ?_)
    exact amRun_b 1 (x := .inr (some (vU, M5))) rfl
theorem n_X4_readLaw (d : Nat) (M : AmM) : amD amGst (d + 1) 34 [vR 4 4 0] M = e_X4_readLaw_0 d M := rfl
noncomputable def e_X4_readIf_0 (d : Nat) (M : AmM) : Option (AmV × AmM) := amRun (amStep amGst (amD amGst d) cdX4_readIf) (0, [vR 4 4 0, vU], [], M)
theorem q_X4_readIf_0 (d : Nat) (M : AmM) : e_X4_readIf_0 d M =
    amCV (amD amGst d 39 [vR 4 4 0, vI 5] M) fun M1 => amCV (amD amGst d 36 [vR 4 4 0, vI 0] M1) fun M2 => amCV (amD amGst d 39 [vR 4 4 0, vI 60] M2) fun M3 => amCV (amD amGst d 36 [vR 4 4 0, vI 0] M3) fun M4 => amCV (amD amGst d 39 [vR 4 4 0, vI 6] M4) fun M5 => amCV (amD amGst d 14 [vR 1 1 1, vI 3, vI 0] M5) fun M6 => amCV (amD amGst d 36 [vR 4 4 0, vI 0] M6) fun M7 => amCV (amD amGst d 39 [vR 4 4 0, vI 7] M7) fun M8 => amCV (amD amGst d 14 [vR 1 1 1, vI 0, vI 0] M8) fun M9 => amCV (amD amGst d 15 [vR 1 1 1, vI (M5 1 1 1)] M9) fun M10 => some (vU, M10) := by
  show amRun _ _ = _
  refine (amRun_t (f := amStep amGst (amD amGst d) cdX4_readIf) 2 (x := amPu 0 (amD amGst d 39 [vR 4 4 0, vI 5] M) (fun z9 M9 => .inl (5, [vR 4 4 0, vU], z9 ++ [], M9))) rfl).trans (amK_pV fun M1 => ?_)
  refine (amRun_t (f := amStep amGst (amD amGst d) cdX4_readIf) 2 (x := amPu 0 (amD amGst d 36 [vR 4 4 0, vI 0] M1) (fun z9 M9 => .inl (10, [vR 4 4 0, vU], z9 ++ [], M9))) rfl).trans (amK_pV fun M2 => ?_)
  refine (amRun_t (f := amStep amGst (amD amGst d) cdX4_readIf) 2 (x := amPu 0 (amD amGst d 39 [vR 4 4 0, vI 60] M2) (fun z9 M9 => .inl (16, [vR 4 4 0, vU], z9 ++ [], M9))) rfl).trans (amK_pV fun M3 => ?_)
  refine (amRun_t (f := amStep amGst (amD amGst d) cdX4_readIf) 2 (x := amPu 0 (amD amGst d 36 [vR 4 4 0, vI 0] M3) (fun z9 M9 => .inl (21, [vR 4 4 0, vU], z9 ++ [], M9))) rfl).trans (amK_pV fun M4 => ?_)
  refine (amRun_t (f := amStep amGst (amD amGst d) cdX4_readIf) 2 (x := amPu 0 (amD amGst d 39 [vR 4 4 0, vI 6] M4) (fun z9 M9 => .inl (27, [vR 4 4 0, vU], z9 ++ [], M9))) rfl).trans (amK_pV fun M5 => ?_)
  refine (amRun_t (f := amStep amGst (amD amGst d) cdX4_readIf) 10 (x := amPu 0 (amD amGst d 14 [vR 1 1 1, vI 3, vI 0] M5) (fun z9 M9 => .inl (50, [vR 4 4 0, vI (M5 1 1 1)], z9 ++ [], M9))) rfl).trans (amK_pV fun M6 => ?_)
  refine (amRun_t (f := amStep amGst (amD amGst d) cdX4_readIf) 2 (x := amPu 0 (amD amGst d 36 [vR 4 4 0, vI 0] M6) (fun z9 M9 => .inl (55, [vR 4 4 0, vI (M5 1 1 1)], z9 ++ [], M9))) rfl).trans (amK_pV fun M7 => ?_)
  refine (amRun_t (f := amStep amGst (amD amGst d) cdX4_readIf) 2 (x := amPu 0 (amD amGst d 39 [vR 4 4 0, vI 7] M7) (fun z9 M9 => .inl (61, [vR 4 4 0, vI (M5 1 1 1)], z9 ++ [], M9))) rfl).trans (amK_pV fun M8 => ?_)
  refine (amRun_t (f := amStep amGst (amD amGst d) cdX4_readIf) 5 (x := amPu 0 (amD amGst d 14 [vR 1 1 1, vI 0, vI 0] M8) (fun z9 M9 => .inl (73, [vR 4 4 0, vI (M5 1 1 1)], z9 ++ [], M9))) rfl).trans (amK_pV fun M9 => ?_)
  refine (amRun_t (f := amStep amGst (amD amGst d) cdX4_readIf) 4 (x := amPu 0 (amD amGst d 15 [vR 1 1 1, vI (M5 1 1 1)] M9) (fun z9 M9 => .inl (84, [vR 4 4 0, vI (M5 1 1 1)], z9 ++ [], M9))) rfl).trans (amK_pV fun M10 => ?_)
  exact amRun_b 1 (x := .inr (some (vU, M10))) rfl
theorem n_X4_readIf (d : Nat) (M : AmM) : amD amGst (d + 1) 35 [vR 4 4 0] M = e_X4_readIf_0 d M := rfl
noncomputable def e_X4_readSum_0 (d : Nat) (l1 : Int) (M : AmM) : Option (AmV × AmM) := amRun (amStep amGst (amD amGst d) cdX4_readSum) (0, [vR 4 4 0, vI l1, vU, vU, vU, vU], [], M)
noncomputable def e_X4_readSum_9 (d : Nat) (l1 : Int) (l2 : Int) (l3 : Int) (u4 : AmV) (u5 : AmV) (M : AmM) : Option (AmV × AmM) := amRun (amStep amGst (amD amGst d) cdX4_readSum) (9, [vR 4 4 0, vI l1, vI l2, vI l3, u4, u5], [], M)
noncomputable def e_X4_readSum_46 (d : Nat) (l1 : Int) (l2 : Int) (l3 : Int) (l4 : Int) (u5 : AmV) (M : AmM) : Option (AmV × AmM) := amRun (amStep amGst (amD amGst d) cdX4_readSum) (46, [vR 4 4 0, vI l1, vI l2, vI l3, vI l4, u5], [], M)
noncomputable def e_X4_readSum_75 (d : Nat) (l1 : Int) (l2 : Int) (l3 : Int) (l4 : Int) (l5 : Int) (M : AmM) : Option (AmV × AmM) := amRun (amStep amGst (amD amGst d) cdX4_readSum) (75, [vR 4 4 0, vI l1, vI l2, vI l3, vI l4, vI l5], [], M)
noncomputable def e_X4_readSum_138 (d : Nat) (l1 : Int) (l2 : Int) (l3 : Int) (u4 : AmV) (u5 : AmV) (M : AmM) : Option (AmV × AmM) := amRun (amStep amGst (amD amGst d) cdX4_readSum) (138, [vR 4 4 0, vI l1, vI l2, vI l3, u4, u5], [], M)
theorem q_X4_readSum_0 (d : Nat) (l1 : Int) (M : AmM) : e_X4_readSum_0 d l1 M =
    amCV (amD amGst d 38 [vR 4 4 0, vI l1] M) fun M1 => e_X4_readSum_9 d l1 (-1) 0 vU vU M1 := by
  show amRun _ _ = _
  refine (amRun_t (f := amStep amGst (amD amGst d) cdX4_readSum) 4 (x := amPu 0 (amD amGst d 38 [vR 4 4 0, vI l1] M) (fun z9 M9 => .inl (7, [vR 4 4 0, vI l1, vI (-1), vU, vU, vU], z9 ++ [], M9))) rfl).trans (amK_pV fun M1 => ?_)
  exact amRun_b 2 (x := .inl (9, [vR 4 4 0, vI l1, vI (-1), vI 0, vU, vU], [], M1)) rfl
theorem q_X4_readSum_9 (d : Nat) (l1 : Int) (l2 : Int) (l3 : Int) (u4 : AmV) (u5 : AmV) (M : AmM) : e_X4_readSum_9 d l1 l2 l3 u4 u5 M =
    if l3 < 400 then (amCI (amD amGst d 37 [vI (M 4 0 4)] M) fun v1 M1 => if v1 = 0 then (e_X4_readSum_138 d l1 l2 l3 u4 u5 M1) else (if M1 4 0 4 = 43 then (e_X4_readSum_46 d l1 l2 l3 (M1 4 0 4) u5 M1) else (if M1 4 0 4 = 45 then (e_X4_readSum_46 d l1 l2 l3 (M1 4 0 4) u5 M1) else (if (0 : Int) = 0 then (e_X4_readSum_75 d l1 l2 l3 (M1 4 0 4) 0 M1) else (if l2 = (-1) then (e_X4_readSum_75 d l1 l2 l3 (M1 4 0 4) 0 M1) else (amCV (amD amGst d 14 [vR 1 1 1, vI l2, vI 0] M1) fun M2 => e_X4_readSum_75 d l1 l2 l3 (M1 4 0 4) 0 M2)))))) else (e_X4_readSum_138 d l1 l2 l3 u4 u5 M) := by
  show amRun _ _ = _
  refine (amRun_t (f := amStep amGst (amD amGst d) cdX4_readSum) 2 (x := if l3 < 400 then .inl (16, [vR 4 4 0, vI l1, vI l2, vI l3, u4, u5], [], M) else .inl (138, [vR 4 4 0, vI l1, vI l2, vI l3, u4, u5], [], M)) rfl).trans (amK_if ?_ ?_)
  · refine (amRun_t (f := amStep amGst (amD amGst d) cdX4_readSum) 2 (x := amPu 1 (amD amGst d 37 [vI (M 4 0 4)] M) (fun z9 M9 => .inl (23, [vR 4 4 0, vI l1, vI l2, vI l3, u4, u5], z9 ++ [], M9))) rfl).trans (amK_pI fun v1 M1 => ?_)
    refine (amRun_t (f := amStep amGst (amD amGst d) cdX4_readSum) 0 (x := if v1 = 0 then .inl (138, [vR 4 4 0, vI l1, vI l2, vI l3, u4, u5], [], M1) else .inl (26, [vR 4 4 0, vI l1, vI l2, vI l3, u4, u5], [], M1)) rfl).trans (amK_if ?_ ?_)
    · exact amRun_b 0 (x := .inl (138, [vR 4 4 0, vI l1, vI l2, vI l3, u4, u5], [], M1)) rfl
    · refine (amRun_t (f := amStep amGst (amD amGst d) cdX4_readSum) 5 (x := if M1 4 0 4 = 43 then .inl (46, [vR 4 4 0, vI l1, vI l2, vI l3, vI (M1 4 0 4), u5], [], M1) else .inl (39, [vR 4 4 0, vI l1, vI l2, vI l3, vI (M1 4 0 4), u5], [], M1)) rfl).trans (amK_if ?_ ?_)
      · exact amRun_b 0 (x := .inl (46, [vR 4 4 0, vI l1, vI l2, vI l3, vI (M1 4 0 4), u5], [], M1)) rfl
      · refine (amRun_t (f := amStep amGst (amD amGst d) cdX4_readSum) 2 (x := if M1 4 0 4 = 45 then .inl (46, [vR 4 4 0, vI l1, vI l2, vI l3, vI (M1 4 0 4), u5], [], M1) else .inl (50, [vR 4 4 0, vI l1, vI l2, vI l3, vI (M1 4 0 4), u5], [], M1)) rfl).trans (amK_if ?_ ?_)
        · exact amRun_b 0 (x := .inl (46, [vR 4 4 0, vI l1, vI l2, vI l3, vI (M1 4 0 4), u5], [], M1)) rfl
        · refine (amRun_t (f := amStep amGst (amD amGst d) cdX4_readSum) 3 (x := if (0 : Int) = 0 then .inl (75, [vR 4 4 0, vI l1, vI l2, vI l3, vI (M1 4 0 4), vI 0], [], M1) else .inl (58, [vR 4 4 0, vI l1, vI l2, vI l3, vI (M1 4 0 4), vI 0], [], M1)) rfl).trans (amK_if ?_ ?_)
          · exact amRun_b 0 (x := .inl (75, [vR 4 4 0, vI l1, vI l2, vI l3, vI (M1 4 0 4), vI 0], [], M1)) rfl
          · refine (amRun_t (f := amStep amGst (amD amGst d) cdX4_readSum) 2 (x := if l2 = (-1) then .inl (75, [vR 4 4 0, vI l1, vI l2, vI l3, vI (M1 4 0 4), vI 0], [], M1) else .inl (63, [vR 4 4 0, vI l1, vI l2, vI l3, vI (M1 4 0 4), vI 0], [], M1)) rfl).trans (amK_if ?_ ?_)
            · exact amRun_b 0 (x := .inl (75, [vR 4 4 0, vI l1, vI l2, vI l3, vI (M1 4 0 4), vI 0], [], M1)) rfl
            · refine (amRun_t (f := amStep amGst (amD amGst d) cdX4_readSum) 5 (x := amPu 0 (amD amGst d 14 [vR 1 1 1, vI l2, vI 0] M1) (fun z9 M9 => .inl (75, [vR 4 4 0, vI l1, vI l2, vI l3, vI (M1 4 0 4), vI 0], z9 ++ [], M9))) rfl).trans (amK_pV fun M2 => ?_)
              exact amRun_b 0 (x := .inl (75, [vR 4 4 0, vI l1, vI l2, vI l3, vI (M1 4 0 4), vI 0], [], M2)) rfl
  · exact amRun_b 0 (x := .inl (138, [vR 4 4 0, vI l1, vI l2, vI l3, u4, u5], [], M)) rfl
theorem q_X4_readSum_46 (d : Nat) (l1 : Int) (l2 : Int) (l3 : Int) (l4 : Int) (u5 : AmV) (M : AmM) : e_X4_readSum_46 d l1 l2 l3 l4 u5 M =
    if (1 : Int) = 0 then (e_X4_readSum_75 d l1 l2 l3 l4 1 M) else (if l2 = (-1) then (e_X4_readSum_75 d l1 l2 l3 l4 1 M) else (amCV (amD amGst d 14 [vR 1 1 1, vI l2, vI 0] M) fun M1 => e_X4_readSum_75 d l1 l2 l3 l4 1 M1)) := by
  show amRun _ _ = _
  refine (amRun_t (f := amStep amGst (amD amGst d) cdX4_readSum) 4 (x := if (1 : Int) = 0 then .inl (75, [vR 4 4 0, vI l1, vI l2, vI l3, vI l4, vI 1], [], M) else .inl (58, [vR 4 4 0, vI l1, vI l2, vI l3, vI l4, vI 1], [], M)) rfl).trans (amK_if ?_ ?_)
  · exact amRun_b 0 (x := .inl (75, [vR 4 4 0, vI l1, vI l2, vI l3, vI l4, vI 1], [], M)) rfl
  · refine (amRun_t (f := amStep amGst (amD amGst d) cdX4_readSum) 2 (x := if l2 = (-1) then .inl (75, [vR 4 4 0, vI l1, vI l2, vI l3, vI l4, vI 1], [], M) else .inl (63, [vR 4 4 0, vI l1, vI l2, vI l3, vI l4, vI 1], [], M)) rfl).trans (amK_if ?_ ?_)
    · exact amRun_b 0 (x := .inl (75, [vR 4 4 0, vI l1, vI l2, vI l3, vI l4, vI 1], [], M)) rfl
    · refine (amRun_t (f := amStep amGst (amD amGst d) cdX4_readSum) 5 (x := amPu 0 (amD amGst d 14 [vR 1 1 1, vI l2, vI 0] M) (fun z9 M9 => .inl (75, [vR 4 4 0, vI l1, vI l2, vI l3, vI l4, vI 1], z9 ++ [], M9))) rfl).trans (amK_pV fun M1 => ?_)
      exact amRun_b 0 (x := .inl (75, [vR 4 4 0, vI l1, vI l2, vI l3, vI l4, vI 1], [], M1)) rfl
theorem q_X4_readSum_75 (d : Nat) (l1 : Int) (l2 : Int) (l3 : Int) (l4 : Int) (l5 : Int) (M : AmM) : e_X4_readSum_75 d l1 l2 l3 l4 l5 M =
    amCV (amD amGst d 39 [vR 4 4 0, vI l4] M) fun M1 => amCV (amD amGst d 38 [vR 4 4 0, vI l1] M1) fun M2 => if l5 = 0 then (if l4 = 42 then (amCV (amD amGst d 14 [vR 1 1 1, vI 6, vI 0] M2) fun M3 => e_X4_readSum_9 d l1 l2 (w32 (l3 + 1)) (vI l4) (vI l5) M3) else (amCV (amD amGst d 14 [vR 1 1 1, vI 7, vI 0] M2) fun M4 => e_X4_readSum_9 d l1 l2 (w32 (l3 + 1)) (vI l4) (vI l5) M4)) else (if l4 = 43 then (e_X4_readSum_9 d l1 4 (w32 (l3 + 1)) (vI l4) (vI l5) M2) else (e_X4_readSum_9 d l1 5 (w32 (l3 + 1)) (vI l4) (vI l5) M2)) := by
  show amRun _ _ = _
  refine (amRun_t (f := amStep amGst (amD amGst d) cdX4_readSum) 2 (x := amPu 0 (amD amGst d 39 [vR 4 4 0, vI l4] M) (fun z9 M9 => .inl (81, [vR 4 4 0, vI l1, vI l2, vI l3, vI l4, vI l5], z9 ++ [], M9))) rfl).trans (amK_pV fun M1 => ?_)
  refine (amRun_t (f := amStep amGst (amD amGst d) cdX4_readSum) 2 (x := amPu 0 (amD amGst d 38 [vR 4 4 0, vI l1] M1) (fun z9 M9 => .inl (86, [vR 4 4 0, vI l1, vI l2, vI l3, vI l4, vI l5], z9 ++ [], M9))) rfl).trans (amK_pV fun M2 => ?_)
  refine (amRun_t (f := amStep amGst (amD amGst d) cdX4_readSum) 1 (x := if l5 = 0 then .inl (107, [vR 4 4 0, vI l1, vI l2, vI l3, vI l4, vI l5], [], M2) else .inl (91, [vR 4 4 0, vI l1, vI l2, vI l3, vI l4, vI l5], [], M2)) rfl).trans (amK_if ?_ ?_)
  · refine (amRun_t (f := amStep amGst (amD amGst d) cdX4_readSum) 5 (x := if l4 = 42 then .inl (121, [vR 4 4 0, vI l1, vI l2, vI l3, vI l4, vI l5], [vR 1 1 1], M2) else .inl (126, [vR 4 4 0, vI l1, vI l2, vI l3, vI l4, vI l5], [vR 1 1 1], M2)) rfl).trans (amK_if ?_ ?_)
    · refine (amRun_t (f := amStep amGst (amD amGst d) cdX4_readSum) 3 (x := amPu 0 (amD amGst d 14 [vR 1 1 1, vI 6, vI 0] M2) (fun z9 M9 => .inl (132, [vR 4 4 0, vI l1, vI l2, vI l3, vI l4, vI l5], z9 ++ [], M9))) rfl).trans (amK_pV fun M3 => ?_)
      exact amRun_b 2 (x := .inl (9, [vR 4 4 0, vI l1, vI l2, vI (w32 (l3 + 1)), vI l4, vI l5], [], M3)) rfl
    · refine (amRun_t (f := amStep amGst (amD amGst d) cdX4_readSum) 2 (x := amPu 0 (amD amGst d 14 [vR 1 1 1, vI 7, vI 0] M2) (fun z9 M9 => .inl (132, [vR 4 4 0, vI l1, vI l2, vI l3, vI l4, vI l5], z9 ++ [], M9))) rfl).trans (amK_pV fun M4 => ?_)
      exact amRun_b 2 (x := .inl (9, [vR 4 4 0, vI l1, vI l2, vI (w32 (l3 + 1)), vI l4, vI l5], [], M4)) rfl
  · refine (amRun_t (f := amStep amGst (amD amGst d) cdX4_readSum) 2 (x := if l4 = 43 then .inl (98, [vR 4 4 0, vI l1, vI l2, vI l3, vI l4, vI l5], [], M2) else .inl (102, [vR 4 4 0, vI l1, vI l2, vI l3, vI l4, vI l5], [], M2)) rfl).trans (amK_if ?_ ?_)
    · exact amRun_b 6 (x := .inl (9, [vR 4 4 0, vI l1, vI 4, vI (w32 (l3 + 1)), vI l4, vI l5], [], M2)) rfl
    · exact amRun_b 5 (x := .inl (9, [vR 4 4 0, vI l1, vI 5, vI (w32 (l3 + 1)), vI l4, vI l5], [], M2)) rfl
theorem q_X4_readSum_138 (d : Nat) (l1 : Int) (l2 : Int) (l3 : Int) (u4 : AmV) (u5 : AmV) (M : AmM) : e_X4_readSum_138 d l1 l2 l3 u4 u5 M =
    if l2 = (-1) then (some (vU, M)) else (amCV (amD amGst d 14 [vR 1 1 1, vI l2, vI 0] M) fun M1 => some (vU, M1)) := by
  show amRun _ _ = _
  refine (amRun_t (f := amStep amGst (amD amGst d) cdX4_readSum) 2 (x := if l2 = (-1) then .inl (155, [vR 4 4 0, vI l1, vI l2, vI l3, u4, u5], [], M) else .inl (143, [vR 4 4 0, vI l1, vI l2, vI l3, u4, u5], [], M)) rfl).trans (amK_if ?_ ?_)
  · exact amRun_b 1 (x := .inr (some (vU, M))) rfl
  · refine (amRun_t (f := amStep amGst (amD amGst d) cdX4_readSum) 5 (x := amPu 0 (amD amGst d 14 [vR 1 1 1, vI l2, vI 0] M) (fun z9 M9 => .inl (155, [vR 4 4 0, vI l1, vI l2, vI l3, u4, u5], z9 ++ [], M9))) rfl).trans (amK_pV fun M1 => ?_)
    exact amRun_b 1 (x := .inr (some (vU, M1))) rfl
theorem n_X4_readSum (d : Nat) (l1 : Int) (M : AmM) : amD amGst (d + 1) 36 [vR 4 4 0, vI l1] M = e_X4_readSum_0 d l1 M := rfl
noncomputable def e_X4_isSign_0 (d : Nat) (l0 : Int) (M : AmM) : Option (AmV × AmM) := amRun (amStep amGst (amD amGst d) cdX4_isSign) (0, [vI l0], [], M)
theorem q_X4_isSign_0 (d : Nat) (l0 : Int) (M : AmM) : e_X4_isSign_0 d l0 M =
    if l0 = 43 then (some (vI 1, M)) else (if l0 = 45 then (some (vI 1, M)) else (if l0 = 42 then (some (vI 1, M)) else (if l0 = 47 then (some (vI 1, M)) else (some (vI 0, M))))) := by
  show amRun _ _ = _
  refine (amRun_t (f := amStep amGst (amD amGst d) cdX4_isSign) 2 (x := if l0 = 43 then .inl (24, [vI l0], [], M) else .inl (6, [vI l0], [], M)) rfl).trans (amK_if ?_ ?_)
  · exact amRun_b 3 (x := .inr (some (vI 1, M))) rfl
  · refine (amRun_t (f := amStep amGst (amD amGst d) cdX4_isSign) 2 (x := if l0 = 45 then .inl (24, [vI l0], [], M) else .inl (12, [vI l0], [], M)) rfl).trans (amK_if ?_ ?_)
    · exact amRun_b 3 (x := .inr (some (vI 1, M))) rfl
    · refine (amRun_t (f := amStep amGst (amD amGst d) cdX4_isSign) 2 (x := if l0 = 42 then .inl (24, [vI l0], [], M) else .inl (18, [vI l0], [], M)) rfl).trans (amK_if ?_ ?_)
      · exact amRun_b 3 (x := .inr (some (vI 1, M))) rfl
      · refine (amRun_t (f := amStep amGst (amD amGst d) cdX4_isSign) 2 (x := if l0 = 47 then .inl (24, [vI l0], [], M) else .inl (28, [vI l0], [], M)) rfl).trans (amK_if ?_ ?_)
        · exact amRun_b 3 (x := .inr (some (vI 1, M))) rfl
        · exact amRun_b 2 (x := .inr (some (vI 0, M))) rfl
theorem n_X4_isSign (d : Nat) (l0 : Int) (M : AmM) : amD amGst (d + 1) 37 [vI l0] M = e_X4_isSign_0 d l0 M := rfl
noncomputable def e_X4_readUnit_0 (d : Nat) (l1 : Int) (M : AmM) : Option (AmV × AmM) := amRun (amStep amGst (amD amGst d) cdX4_readUnit) (0, [vR 4 4 0, vI l1, vU], [], M)
noncomputable def e_X4_readUnit_90 (d : Nat) (l1 : Int) (l2 : Int) (M : AmM) : Option (AmV × AmM) := amRun (amStep amGst (amD amGst d) cdX4_readUnit) (90, [vR 4 4 0, vI l1, vI l2], [], M)
theorem q_X4_readUnit_0 (d : Nat) (l1 : Int) (M : AmM) : e_X4_readUnit_0 d l1 M =
    if M 4 0 4 = 20 then (amCL (amD amGst d 68 [vR 7 7 0, vI (M 4 0 3)] M) fun v1 M1 => amCV (amD amGst d 14 [vR 1 1 1, vI 1, vI (w32 v1)] M1) fun M2 => amCV (amD amGst d 39 [vR 4 4 0, vI 20] M2) fun M3 => some (vU, M3)) else (if M 4 0 4 < 12 then (e_X4_readUnit_90 d l1 (w32 ((M 4 0 4) - 12)) M) else (if 18 < M 4 0 4 then (e_X4_readUnit_90 d l1 (w32 ((M 4 0 4) - 12)) M) else (amCV (amD amGst d 39 [vR 4 4 0, vI (M 4 0 4)] M) fun M4 => amCV (amD amGst d 14 [vR 1 1 1, vI 2, vI (w32 ((M 4 0 4) - 12))] M4) fun M5 => some (vU, M5)))) := by
  show amRun _ _ = _
  refine (amRun_t (f := amStep amGst (amD amGst d) cdX4_readUnit) 8 (x := if M 4 0 4 = 20 then .inl (17, [vR 4 4 0, vI l1, vI (w32 ((M 4 0 4) - 12))], [], M) else .inl (49, [vR 4 4 0, vI l1, vI (w32 ((M 4 0 4) - 12))], [], M)) rfl).trans (amK_if ?_ ?_)
  · refine (amRun_t (f := amStep amGst (amD amGst d) cdX4_readUnit) 8 (x := amPu 2 (amD amGst d 68 [vR 7 7 0, vI (M 4 0 3)] M) (fun z9 M9 => .inl (36, [vR 4 4 0, vI l1, vI (w32 ((M 4 0 4) - 12))], z9 ++ [vI 1, vR 1 1 1], M9))) rfl).trans (amK_pL fun v1 M1 => ?_)
    refine (amRun_t (f := amStep amGst (amD amGst d) cdX4_readUnit) 1 (x := amPu 0 (amD amGst d 14 [vR 1 1 1, vI 1, vI (w32 v1)] M1) (fun z9 M9 => .inl (40, [vR 4 4 0, vI l1, vI (w32 ((M 4 0 4) - 12))], z9 ++ [], M9))) rfl).trans (amK_pV fun M2 => ?_)
    refine (amRun_t (f := amStep amGst (amD amGst d) cdX4_readUnit) 2 (x := amPu 0 (amD amGst d 39 [vR 4 4 0, vI 20] M2) (fun z9 M9 => .inl (46, [vR 4 4 0, vI l1, vI (w32 ((M 4 0 4) - 12))], z9 ++ [], M9))) rfl).trans (amK_pV fun M3 => ?_)
    exact amRun_b 2 (x := .inr (some (vU, M3))) rfl
  · refine (amRun_t (f := amStep amGst (amD amGst d) cdX4_readUnit) 3 (x := if M 4 0 4 < 12 then .inl (90, [vR 4 4 0, vI l1, vI (w32 ((M 4 0 4) - 12))], [], M) else .inl (58, [vR 4 4 0, vI l1, vI (w32 ((M 4 0 4) - 12))], [], M)) rfl).trans (amK_if ?_ ?_)
    · exact amRun_b 0 (x := .inl (90, [vR 4 4 0, vI l1, vI (w32 ((M 4 0 4) - 12))], [], M)) rfl
    · refine (amRun_t (f := amStep amGst (amD amGst d) cdX4_readUnit) 3 (x := if 18 < M 4 0 4 then .inl (90, [vR 4 4 0, vI l1, vI (w32 ((M 4 0 4) - 12))], [], M) else .inl (67, [vR 4 4 0, vI l1, vI (w32 ((M 4 0 4) - 12))], [], M)) rfl).trans (amK_if ?_ ?_)
      · exact amRun_b 0 (x := .inl (90, [vR 4 4 0, vI l1, vI (w32 ((M 4 0 4) - 12))], [], M)) rfl
      · refine (amRun_t (f := amStep amGst (amD amGst d) cdX4_readUnit) 3 (x := amPu 0 (amD amGst d 39 [vR 4 4 0, vI (M 4 0 4)] M) (fun z9 M9 => .inl (75, [vR 4 4 0, vI l1, vI (w32 ((M 4 0 4) - 12))], z9 ++ [], M9))) rfl).trans (amK_pV fun M4 => ?_)
        refine (amRun_t (f := amStep amGst (amD amGst d) cdX4_readUnit) 5 (x := amPu 0 (amD amGst d 14 [vR 1 1 1, vI 2, vI (w32 ((M 4 0 4) - 12))] M4) (fun z9 M9 => .inl (87, [vR 4 4 0, vI l1, vI (w32 ((M 4 0 4) - 12))], z9 ++ [], M9))) rfl).trans (amK_pV fun M5 => ?_)
        exact amRun_b 2 (x := .inr (some (vU, M5))) rfl
theorem q_X4_readUnit_90 (d : Nat) (l1 : Int) (l2 : Int) (M : AmM) : e_X4_readUnit_90 d l1 l2 M =
    if M 4 0 4 = 40 then (if l1 < 6 then (amCV (amD amGst d 39 [vR 4 4 0, vI 40] M) fun M1 => amCV (amD amGst d 36 [vR 4 4 0, vI (w32 (l1 + 1))] M1) fun M2 => amCV (amD amGst d 39 [vR 4 4 0, vI 41] M2) fun M3 => some (vU, M3)) else (amCV (amD amGst d 42 [vR 4 4 0, vI 2] M) fun M4 => some (vU, M4))) else (amCV (amD amGst d 42 [vR 4 4 0, vI 1] M) fun M5 => some (vU, M5)) := by
  show amRun _ _ = _
  refine (amRun_t (f := amStep amGst (amD amGst d) cdX4_readUnit) 3 (x := if M 4 0 4 = 40 then .inl (107, [vR 4 4 0, vI l1, vI l2], [], M) else .inl (99, [vR 4 4 0, vI l1, vI l2], [], M)) rfl).trans (amK_if ?_ ?_)
  · refine (amRun_t (f := amStep amGst (amD amGst d) cdX4_readUnit) 2 (x := if l1 < 6 then .inl (121, [vR 4 4 0, vI l1, vI l2], [], M) else .inl (113, [vR 4 4 0, vI l1, vI l2], [], M)) rfl).trans (amK_if ?_ ?_)
    · refine (amRun_t (f := amStep amGst (amD amGst d) cdX4_readUnit) 2 (x := amPu 0 (amD amGst d 39 [vR 4 4 0, vI 40] M) (fun z9 M9 => .inl (127, [vR 4 4 0, vI l1, vI l2], z9 ++ [], M9))) rfl).trans (amK_pV fun M1 => ?_)
      refine (amRun_t (f := amStep amGst (amD amGst d) cdX4_readUnit) 4 (x := amPu 0 (amD amGst d 36 [vR 4 4 0, vI (w32 (l1 + 1))] M1) (fun z9 M9 => .inl (134, [vR 4 4 0, vI l1, vI l2], z9 ++ [], M9))) rfl).trans (amK_pV fun M2 => ?_)
      refine (amRun_t (f := amStep amGst (amD amGst d) cdX4_readUnit) 2 (x := amPu 0 (amD amGst d 39 [vR 4 4 0, vI 41] M2) (fun z9 M9 => .inl (140, [vR 4 4 0, vI l1, vI l2], z9 ++ [], M9))) rfl).trans (amK_pV fun M3 => ?_)
      exact amRun_b 1 (x := .inr (some (vU, M3))) rfl
    · refine (amRun_t (f := amStep amGst (amD amGst d) cdX4_readUnit) 2 (x := amPu 0 (amD amGst d 42 [vR 4 4 0, vI 2] M) (fun z9 M9 => .inl (118, [vR 4 4 0, vI l1, vI l2], z9 ++ [], M9))) rfl).trans (amK_pV fun M4 => ?_)
      exact amRun_b 2 (x := .inr (some (vU, M4))) rfl
  · refine (amRun_t (f := amStep amGst (amD amGst d) cdX4_readUnit) 2 (x := amPu 0 (amD amGst d 42 [vR 4 4 0, vI 1] M) (fun z9 M9 => .inl (104, [vR 4 4 0, vI l1, vI l2], z9 ++ [], M9))) rfl).trans (amK_pV fun M5 => ?_)
    exact amRun_b 2 (x := .inr (some (vU, M5))) rfl
theorem n_X4_readUnit (d : Nat) (l1 : Int) (M : AmM) : amD amGst (d + 1) 38 [vR 4 4 0, vI l1] M = e_X4_readUnit_0 d l1 M := rfl
noncomputable def e_X4_take_0 (d : Nat) (l1 : Int) (M : AmM) : Option (AmV × AmM) := amRun (amStep amGst (amD amGst d) cdX4_take) (0, [vR 4 4 0, vI l1], [], M)
theorem q_X4_take_0 (d : Nat) (l1 : Int) (M : AmM) : e_X4_take_0 d l1 M =
    if M 4 0 4 = l1 then (if M 4 0 3 < 400 then (amCI (amD amGst d 67 [vR 7 7 0, vI ((amUp M 4 0 3 (w32 ((M 4 0 3) + 1))) 4 0 3)] (amUp M 4 0 3 (w32 ((M 4 0 3) + 1)))) fun v1 M1 => some (vU, amUp M1 4 0 4 v1)) else (amCV (amD amGst d 42 [vR 4 4 0, vI 2] M) fun M2 => some (vU, M2))) else (amCV (amD amGst d 42 [vR 4 4 0, vI 1] M) fun M3 => some (vU, M3)) := by
  show amRun _ _ = _
  refine (amRun_t (f := amStep amGst (amD amGst d) cdX4_take) 3 (x := if M 4 0 4 = l1 then .inl (16, [vR 4 4 0, vI l1], [], M) else .inl (8, [vR 4 4 0, vI l1], [], M)) rfl).trans (amK_if ?_ ?_)
  · refine (amRun_t (f := amStep amGst (amD amGst d) cdX4_take) 3 (x := if M 4 0 3 < 400 then .inl (34, [vR 4 4 0, vI l1], [], M) else .inl (26, [vR 4 4 0, vI l1], [], M)) rfl).trans (amK_if ?_ ?_)
    · refine (amRun_t (f := amStep amGst (amD amGst d) cdX4_take) 11 (x := amPu 1 (amD amGst d 67 [vR 7 7 0, vI ((amUp M 4 0 3 (w32 ((M 4 0 3) + 1))) 4 0 3)] (amUp M 4 0 3 (w32 ((M 4 0 3) + 1)))) (fun z9 M9 => .inl (56, [vR 4 4 0, vI l1], z9 ++ [vR 4 4 0], M9))) rfl).trans (amK_pI fun v1 M1 => ?_)
      exact amRun_b 2 (x := .inr (some (vU, amUp M1 4 0 4 v1))) rfl
    · refine (amRun_t (f := amStep amGst (amD amGst d) cdX4_take) 2 (x := amPu 0 (amD amGst d 42 [vR 4 4 0, vI 2] M) (fun z9 M9 => .inl (31, [vR 4 4 0, vI l1], z9 ++ [], M9))) rfl).trans (amK_pV fun M2 => ?_)
      exact amRun_b 2 (x := .inr (some (vU, M2))) rfl
  · refine (amRun_t (f := amStep amGst (amD amGst d) cdX4_take) 2 (x := amPu 0 (amD amGst d 42 [vR 4 4 0, vI 1] M) (fun z9 M9 => .inl (13, [vR 4 4 0, vI l1], z9 ++ [], M9))) rfl).trans (amK_pV fun M3 => ?_)
    exact amRun_b 2 (x := .inr (some (vU, M3))) rfl
theorem n_X4_take (d : Nat) (l1 : Int) (M : AmM) : amD amGst (d + 1) 39 [vR 4 4 0, vI l1] M = e_X4_take_0 d l1 M := rfl
noncomputable def e_X4_takeInt_0 (d : Nat) (l1 : Int) (l2 : Int) (M : AmM) : Option (AmV × AmM) := amRun (amStep amGst (amD amGst d) cdX4_takeInt) (0, [vR 4 4 0, vI l1, vI l2, vU], [], M)
theorem q_X4_takeInt_0 (d : Nat) (l1 : Int) (l2 : Int) (M : AmM) : e_X4_takeInt_0 d l1 l2 M =
    amCL (amD amGst d 68 [vR 7 7 0, vI (M 4 0 3)] M) fun v1 M1 => if M1 4 0 4 = 20 then (if w32 v1 < l1 then (amCV (amD amGst d 43 [vR 4 4 0, vI 5] M1) fun M2 => amCV (amD amGst d 39 [vR 4 4 0, vI 20] M2) fun M3 => some (vI (w32 v1), M3)) else (if l2 < w32 v1 then (amCV (amD amGst d 43 [vR 4 4 0, vI 5] M1) fun M4 => amCV (amD amGst d 39 [vR 4 4 0, vI 20] M4) fun M5 => some (vI (w32 v1), M5)) else (amCV (amD amGst d 39 [vR 4 4 0, vI 20] M1) fun M6 => some (vI (w32 v1), M6)))) else (amCV (amD amGst d 39 [vR 4 4 0, vI 20] M1) fun M7 => some (vI (w32 v1), M7)) := by
  show amRun _ _ = _
  refine (amRun_t (f := amStep amGst (amD amGst d) cdX4_takeInt) 4 (x := amPu 2 (amD amGst d 68 [vR 7 7 0, vI (M 4 0 3)] M) (fun z9 M9 => .inl (11, [vR 4 4 0, vI l1, vI l2, vU], z9 ++ [], M9))) rfl).trans (amK_pL fun v1 M1 => ?_)
  refine (amRun_t (f := amStep amGst (amD amGst d) cdX4_takeInt) 5 (x := if M1 4 0 4 = 20 then .inl (22, [vR 4 4 0, vI l1, vI l2, vI (w32 v1)], [], M1) else .inl (37, [vR 4 4 0, vI l1, vI l2, vI (w32 v1)], [], M1)) rfl).trans (amK_if ?_ ?_)
  · refine (amRun_t (f := amStep amGst (amD amGst d) cdX4_takeInt) 2 (x := if w32 v1 < l1 then .inl (32, [vR 4 4 0, vI l1, vI l2, vI (w32 v1)], [], M1) else .inl (27, [vR 4 4 0, vI l1, vI l2, vI (w32 v1)], [], M1)) rfl).trans (amK_if ?_ ?_)
    · refine (amRun_t (f := amStep amGst (amD amGst d) cdX4_takeInt) 2 (x := amPu 0 (amD amGst d 43 [vR 4 4 0, vI 5] M1) (fun z9 M9 => .inl (37, [vR 4 4 0, vI l1, vI l2, vI (w32 v1)], z9 ++ [], M9))) rfl).trans (amK_pV fun M2 => ?_)
      refine (amRun_t (f := amStep amGst (amD amGst d) cdX4_takeInt) 2 (x := amPu 0 (amD amGst d 39 [vR 4 4 0, vI 20] M2) (fun z9 M9 => .inl (43, [vR 4 4 0, vI l1, vI l2, vI (w32 v1)], z9 ++ [], M9))) rfl).trans (amK_pV fun M3 => ?_)
      exact amRun_b 2 (x := .inr (some (vI (w32 v1), M3))) rfl
    · refine (amRun_t (f := amStep amGst (amD amGst d) cdX4_takeInt) 2 (x := if l2 < w32 v1 then .inl (32, [vR 4 4 0, vI l1, vI l2, vI (w32 v1)], [], M1) else .inl (37, [vR 4 4 0, vI l1, vI l2, vI (w32 v1)], [], M1)) rfl).trans (amK_if ?_ ?_)
      · refine (amRun_t (f := amStep amGst (amD amGst d) cdX4_takeInt) 2 (x := amPu 0 (amD amGst d 43 [vR 4 4 0, vI 5] M1) (fun z9 M9 => .inl (37, [vR 4 4 0, vI l1, vI l2, vI (w32 v1)], z9 ++ [], M9))) rfl).trans (amK_pV fun M4 => ?_)
        refine (amRun_t (f := amStep amGst (amD amGst d) cdX4_takeInt) 2 (x := amPu 0 (amD amGst d 39 [vR 4 4 0, vI 20] M4) (fun z9 M9 => .inl (43, [vR 4 4 0, vI l1, vI l2, vI (w32 v1)], z9 ++ [], M9))) rfl).trans (amK_pV fun M5 => ?_)
        exact amRun_b 2 (x := .inr (some (vI (w32 v1), M5))) rfl
      · refine (amRun_t (f := amStep amGst (amD amGst d) cdX4_takeInt) 2 (x := amPu 0 (amD amGst d 39 [vR 4 4 0, vI 20] M1) (fun z9 M9 => .inl (43, [vR 4 4 0, vI l1, vI l2, vI (w32 v1)], z9 ++ [], M9))) rfl).trans (amK_pV fun M6 => ?_)
        exact amRun_b 2 (x := .inr (some (vI (w32 v1), M6))) rfl
  · refine (amRun_t (f := amStep amGst (amD amGst d) cdX4_takeInt) 2 (x := amPu 0 (amD amGst d 39 [vR 4 4 0, vI 20] M1) (fun z9 M9 => .inl (43, [vR 4 4 0, vI l1, vI l2, vI (w32 v1)], z9 ++ [], M9))) rfl).trans (amK_pV fun M7 => ?_)
    exact amRun_b 2 (x := .inr (some (vI (w32 v1), M7))) rfl
theorem n_X4_takeInt (d : Nat) (l1 : Int) (l2 : Int) (M : AmM) : amD amGst (d + 1) 40 [vR 4 4 0, vI l1, vI l2] M = e_X4_takeInt_0 d l1 l2 M := rfl
noncomputable def e_X4_takeVow_0 (d : Nat) (M : AmM) : Option (AmV × AmM) := amRun (amStep amGst (amD amGst d) cdX4_takeVow) (0, [vR 4 4 0, vU], [], M)
theorem q_X4_takeVow_0 (d : Nat) (M : AmM) : e_X4_takeVow_0 d M =
    if M 4 0 4 < 8 then (amCV (amD amGst d 42 [vR 4 4 0, vI 1] M) fun M1 => some (vI 0, M1)) else (if 11 < M 4 0 4 then (amCV (amD amGst d 42 [vR 4 4 0, vI 1] M) fun M2 => some (vI 0, M2)) else (amCV (amD amGst d 39 [vR 4 4 0, vI (M 4 0 4)] M) fun M3 => some (vI (w32 ((M 4 0 4) - 8)), M3))) := by
  show amRun _ _ = _
  refine (amRun_t (f := amStep amGst (amD amGst d) cdX4_takeVow) 8 (x := if M 4 0 4 < 8 then .inl (26, [vR 4 4 0, vI (w32 ((M 4 0 4) - 8))], [], M) else .inl (17, [vR 4 4 0, vI (w32 ((M 4 0 4) - 8))], [], M)) rfl).trans (amK_if ?_ ?_)
  · refine (amRun_t (f := amStep amGst (amD amGst d) cdX4_takeVow) 2 (x := amPu 0 (amD amGst d 42 [vR 4 4 0, vI 1] M) (fun z9 M9 => .inl (31, [vR 4 4 0, vI (w32 ((M 4 0 4) - 8))], z9 ++ [], M9))) rfl).trans (amK_pV fun M1 => ?_)
    exact amRun_b 2 (x := .inr (some (vI 0, M1))) rfl
  · refine (amRun_t (f := amStep amGst (amD amGst d) cdX4_takeVow) 3 (x := if 11 < M 4 0 4 then .inl (26, [vR 4 4 0, vI (w32 ((M 4 0 4) - 8))], [], M) else .inl (33, [vR 4 4 0, vI (w32 ((M 4 0 4) - 8))], [], M)) rfl).trans (amK_if ?_ ?_)
    · refine (amRun_t (f := amStep amGst (amD amGst d) cdX4_takeVow) 2 (x := amPu 0 (amD amGst d 42 [vR 4 4 0, vI 1] M) (fun z9 M9 => .inl (31, [vR 4 4 0, vI (w32 ((M 4 0 4) - 8))], z9 ++ [], M9))) rfl).trans (amK_pV fun M2 => ?_)
      exact amRun_b 2 (x := .inr (some (vI 0, M2))) rfl
    · refine (amRun_t (f := amStep amGst (amD amGst d) cdX4_takeVow) 3 (x := amPu 0 (amD amGst d 39 [vR 4 4 0, vI (M 4 0 4)] M) (fun z9 M9 => .inl (41, [vR 4 4 0, vI (w32 ((M 4 0 4) - 8))], z9 ++ [], M9))) rfl).trans (amK_pV fun M3 => ?_)
      exact amRun_b 2 (x := .inr (some (vI (w32 ((M 4 0 4) - 8)), M3))) rfl
theorem n_X4_takeVow (d : Nat) (M : AmM) : amD amGst (d + 1) 41 [vR 4 4 0] M = e_X4_takeVow_0 d M := rfl
noncomputable def e_X4_fail_0 (d : Nat) (l1 : Int) (M : AmM) : Option (AmV × AmM) := amRun (amStep amGst (amD amGst d) cdX4_fail) (0, [vR 4 4 0, vI l1], [], M)
theorem q_X4_fail_0 (d : Nat) (l1 : Int) (M : AmM) : e_X4_fail_0 d l1 M =
    if M 4 0 6 = 0 then (some (vU, amUp (amUp (amUp M 4 0 6 l1) 4 0 7 ((amUp M 4 0 6 l1) 4 0 3)) 4 0 4 22)) else (some (vU, M)) := by
  show amRun _ _ = _
  refine (amRun_t (f := amStep amGst (amD amGst d) cdX4_fail) 2 (x := if M 4 0 6 = 0 then .inl (7, [vR 4 4 0, vI l1], [], M) else .inl (26, [vR 4 4 0, vI l1], [], M)) rfl).trans (amK_if ?_ ?_)
  · exact amRun_b 11 (x := .inr (some (vU, amUp (amUp (amUp M 4 0 6 l1) 4 0 7 ((amUp M 4 0 6 l1) 4 0 3)) 4 0 4 22))) rfl
  · exact amRun_b 1 (x := .inr (some (vU, M))) rfl
theorem n_X4_fail (d : Nat) (l1 : Int) (M : AmM) : amD amGst (d + 1) 42 [vR 4 4 0, vI l1] M = e_X4_fail_0 d l1 M := rfl
noncomputable def e_X4_failLater_0 (d : Nat) (l1 : Int) (M : AmM) : Option (AmV × AmM) := amRun (amStep amGst (amD amGst d) cdX4_failLater) (0, [vR 4 4 0, vI l1], [], M)
theorem q_X4_failLater_0 (d : Nat) (l1 : Int) (M : AmM) : e_X4_failLater_0 d l1 M =
    if M 4 0 8 = 0 then (some (vU, amUp (amUp M 4 0 8 l1) 4 0 9 ((amUp M 4 0 8 l1) 4 0 3))) else (some (vU, M)) := by
  show amRun _ _ = _
  refine (amRun_t (f := amStep amGst (amD amGst d) cdX4_failLater) 2 (x := if M 4 0 8 = 0 then .inl (7, [vR 4 4 0, vI l1], [], M) else .inl (20, [vR 4 4 0, vI l1], [], M)) rfl).trans (amK_if ?_ ?_)
  · exact amRun_b 8 (x := .inr (some (vU, amUp (amUp M 4 0 8 l1) 4 0 9 ((amUp M 4 0 8 l1) 4 0 3)))) rfl
  · exact amRun_b 1 (x := .inr (some (vU, M))) rfl
theorem n_X4_failLater (d : Nat) (l1 : Int) (M : AmM) : amD amGst (d + 1) 43 [vR 4 4 0, vI l1] M = e_X4_failLater_0 d l1 M := rfl
noncomputable def e_X7_add_0 (d : Nat) (l1 : Int) (l2 : Int) (l3 : Int) (l4 : Int) (l5 : Int) (M : AmM) : Option (AmV × AmM) := amRun (amStep amGst (amD amGst d) cdX7_add) (0, [vR 7 7 0, vI l1, vI l2, vI l3, vI l4, vI l5], [], M)
theorem q_X7_add_0 (d : Nat) (l1 : Int) (l2 : Int) (l3 : Int) (l4 : Int) (l5 : Int) (M : AmM) : e_X7_add_0 d l1 l2 l3 l4 l5 M =
    if 2000 < w32 ((M 7 0 1) + 20) then (some (vI (-1), M)) else (amCV (amD amGst d 64 [vR 7 7 0, vI l1] M) fun M1 => amCV (amD amGst d 64 [vR 7 7 0, vI l2] M1) fun M2 => amCV (amD amGst d 64 [vR 7 7 0, vI l3] M2) fun M3 => amCV (amD amGst d 64 [vR 7 7 0, vI l4] M3) fun M4 => amCV (amD amGst d 64 [vR 7 7 0, vI l5] M4) fun M5 => some (vI (M5 7 0 1), M5)) := by
  show amRun _ _ = _
  refine (amRun_t (f := amStep amGst (amD amGst d) cdX7_add) 5 (x := if 2000 < w32 ((M 7 0 1) + 20) then .inl (13, [vR 7 7 0, vI l1, vI l2, vI l3, vI l4, vI l5], [], M) else .inl (15, [vR 7 7 0, vI l1, vI l2, vI l3, vI l4, vI l5], [], M)) rfl).trans (amK_if ?_ ?_)
  · exact amRun_b 2 (x := .inr (some (vI (-1), M))) rfl
  · refine (amRun_t (f := amStep amGst (amD amGst d) cdX7_add) 2 (x := amPu 0 (amD amGst d 64 [vR 7 7 0, vI l1] M) (fun z9 M9 => .inl (20, [vR 7 7 0, vI l1, vI l2, vI l3, vI l4, vI l5], z9 ++ [], M9))) rfl).trans (amK_pV fun M1 => ?_)
    refine (amRun_t (f := amStep amGst (amD amGst d) cdX7_add) 2 (x := amPu 0 (amD amGst d 64 [vR 7 7 0, vI l2] M1) (fun z9 M9 => .inl (25, [vR 7 7 0, vI l1, vI l2, vI l3, vI l4, vI l5], z9 ++ [], M9))) rfl).trans (amK_pV fun M2 => ?_)
    refine (amRun_t (f := amStep amGst (amD amGst d) cdX7_add) 2 (x := amPu 0 (amD amGst d 64 [vR 7 7 0, vI l3] M2) (fun z9 M9 => .inl (30, [vR 7 7 0, vI l1, vI l2, vI l3, vI l4, vI l5], z9 ++ [], M9))) rfl).trans (amK_pV fun M3 => ?_)
    refine (amRun_t (f := amStep amGst (amD amGst d) cdX7_add) 2 (x := amPu 0 (amD amGst d 64 [vR 7 7 0, vI l4] M3) (fun z9 M9 => .inl (36, [vR 7 7 0, vI l1, vI l2, vI l3, vI l4, vI l5], z9 ++ [], M9))) rfl).trans (amK_pV fun M4 => ?_)
    refine (amRun_t (f := amStep amGst (amD amGst d) cdX7_add) 2 (x := amPu 0 (amD amGst d 64 [vR 7 7 0, vI l5] M4) (fun z9 M9 => .inl (42, [vR 7 7 0, vI l1, vI l2, vI l3, vI l4, vI l5], z9 ++ [], M9))) rfl).trans (amK_pV fun M5 => ?_)
    exact amRun_b 3 (x := .inr (some (vI (M5 7 0 1), M5))) rfl
theorem n_X7_add (d : Nat) (l1 : Int) (l2 : Int) (l3 : Int) (l4 : Int) (l5 : Int) (M : AmM) : amD amGst (d + 1) 63 [vR 7 7 0, vI l1, vI l2, vI l3, vI l4, vI l5] M = e_X7_add_0 d l1 l2 l3 l4 l5 M := rfl
noncomputable def e_X7_addFour_0 (d : Nat) (l1 : Int) (M : AmM) : Option (AmV × AmM) := amRun (amStep amGst (amD amGst d) cdX7_addFour) (0, [vR 7 7 0, vI l1, vU], [], M)
noncomputable def e_X7_addFour_3 (d : Nat) (l1 : Int) (l2 : Int) (M : AmM) : Option (AmV × AmM) := amRun (amStep amGst (amD amGst d) cdX7_addFour) (3, [vR 7 7 0, vI l1, vI l2], [], M)
noncomputable def e_X7_addFour_49 (d : Nat) (l1 : Int) (l2 : Int) (M : AmM) : Option (AmV × AmM) := amRun (amStep amGst (amD amGst d) cdX7_addFour) (49, [vR 7 7 0, vI l1, vI l2], [], M)
theorem q_X7_addFour_0 (d : Nat) (l1 : Int) (M : AmM) : e_X7_addFour_0 d l1 M =
    e_X7_addFour_3 d l1 24 M := by
  show amRun _ _ = _
  exact amRun_b 2 (x := .inl (3, [vR 7 7 0, vI l1, vI 24], [], M)) rfl
theorem q_X7_addFour_3 (d : Nat) (l1 : Int) (l2 : Int) (M : AmM) : e_X7_addFour_3 d l1 l2 M =
    if l2 < 0 then (some (vU, M)) else (if M 7 0 1 < 0 then (e_X7_addFour_49 d l1 l2 M) else (if M 7 0 1 < 2000 then (if (0 : Int) ≤ M 7 0 1 ∧ M 7 0 1 < 2000 then (e_X7_addFour_49 d l1 l2 (amUp (amUp M 114 0 (M 7 0 1).toNat (w8 (w8 (bShr l1 l2)))) 7 0 1 (w32 (((amUp M 114 0 (M 7 0 1).toNat (w8 (w8 (bShr l1 l2)))) 7 0 1) + 1)))) else none) else (e_X7_addFour_49 d l1 l2 M))) := by
  show amRun _ _ = _
  refine (amRun_t (f := amStep amGst (amD amGst d) cdX7_addFour) 1 (x := if l2 < 0 then .inl (55, [vR 7 7 0, vI l1, vI l2], [], M) else .inl (7, [vR 7 7 0, vI l1, vI l2], [], M)) rfl).trans (amK_if ?_ ?_)
  · exact amRun_b 1 (x := .inr (some (vU, M))) rfl
  · refine (amRun_t (f := amStep amGst (amD amGst d) cdX7_addFour) 2 (x := if M 7 0 1 < 0 then .inl (49, [vR 7 7 0, vI l1, vI l2], [], M) else .inl (14, [vR 7 7 0, vI l1, vI l2], [], M)) rfl).trans (amK_if ?_ ?_)
    · exact amRun_b 0 (x := .inl (49, [vR 7 7 0, vI l1, vI l2], [], M)) rfl
    · refine (amRun_t (f := amStep amGst (amD amGst d) cdX7_addFour) 5 (x := if M 7 0 1 < 2000 then .inl (26, [vR 7 7 0, vI l1, vI l2], [], M) else .inl (49, [vR 7 7 0, vI l1, vI l2], [], M)) rfl).trans (amK_if ?_ ?_)
      · refine (amRun_t (f := amStep amGst (amD amGst d) cdX7_addFour) 8 (x := if (0 : Int) ≤ M 7 0 1 ∧ M 7 0 1 < 2000 then .inl (39, [vR 7 7 0, vI l1, vI l2], [], amUp M 114 0 (M 7 0 1).toNat (w8 (w8 (bShr l1 l2)))) else amNo) rfl).trans (amK_if ?_ rfl)
        exact amRun_b 6 (x := .inl (49, [vR 7 7 0, vI l1, vI l2], [], amUp (amUp M 114 0 (M 7 0 1).toNat (w8 (w8 (bShr l1 l2)))) 7 0 1 (w32 (((amUp M 114 0 (M 7 0 1).toNat (w8 (w8 (bShr l1 l2)))) 7 0 1) + 1)))) rfl
      · exact amRun_b 0 (x := .inl (49, [vR 7 7 0, vI l1, vI l2], [], M)) rfl
theorem q_X7_addFour_49 (d : Nat) (l1 : Int) (l2 : Int) (M : AmM) : e_X7_addFour_49 d l1 l2 M =
    e_X7_addFour_3 d l1 (w32 (l2 + (-8))) M := by
  show amRun _ _ = _
  exact amRun_b 2 (x := .inl (3, [vR 7 7 0, vI l1, vI (w32 (l2 + (-8)))], [], M)) rfl
theorem n_X7_addFour (d : Nat) (l1 : Int) (M : AmM) : amD amGst (d + 1) 64 [vR 7 7 0, vI l1] M = e_X7_addFour_0 d l1 M := rfl
noncomputable def e_X7_cut_0 (d : Nat) (l1 : Int) (M : AmM) : Option (AmV × AmM) := amRun (amStep amGst (amD amGst d) cdX7_cut) (0, [vR 7 7 0, vI l1], [], M)
theorem q_X7_cut_0 (d : Nat) (l1 : Int) (M : AmM) : e_X7_cut_0 d l1 M =
    if l1 < 0 then (some (vI (-1), M)) else (if M 7 0 1 < l1 then (some (vI (-1), M)) else (some (vI ((amUp M 7 0 1 (w32 ((M 7 0 1) - l1))) 7 0 1), amUp M 7 0 1 (w32 ((M 7 0 1) - l1))))) := by
  show amRun _ _ = _
  refine (amRun_t (f := amStep amGst (amD amGst d) cdX7_cut) 1 (x := if l1 < 0 then .inl (12, [vR 7 7 0, vI l1], [], M) else .inl (4, [vR 7 7 0, vI l1], [], M)) rfl).trans (amK_if ?_ ?_)
  · exact amRun_b 2 (x := .inr (some (vI (-1), M))) rfl
  · refine (amRun_t (f := amStep amGst (amD amGst d) cdX7_cut) 3 (x := if M 7 0 1 < l1 then .inl (12, [vR 7 7 0, vI l1], [], M) else .inl (14, [vR 7 7 0, vI l1], [], M)) rfl).trans (amK_if ?_ ?_)
    · exact amRun_b 2 (x := .inr (some (vI (-1), M))) rfl
    · exact amRun_b 9 (x := .inr (some (vI ((amUp M 7 0 1 (w32 ((M 7 0 1) - l1))) 7 0 1), amUp M 7 0 1 (w32 ((M 7 0 1) - l1))))) rfl
theorem n_X7_cut (d : Nat) (l1 : Int) (M : AmM) : amD amGst (d + 1) 65 [vR 7 7 0, vI l1] M = e_X7_cut_0 d l1 M := rfl
noncomputable def e_X7_clear_0 (d : Nat) (M : AmM) : Option (AmV × AmM) := amRun (amStep amGst (amD amGst d) cdX7_clear) (0, [vR 7 7 0], [], M)
theorem q_X7_clear_0 (d : Nat) (M : AmM) : e_X7_clear_0 d M =
    some (vU, amUp M 7 0 1 0) := by
  show amRun _ _ = _
  exact amRun_b 4 (x := .inr (some (vU, amUp M 7 0 1 0))) rfl
theorem n_X7_clear (d : Nat) (M : AmM) : amD amGst (d + 1) 66 [vR 7 7 0] M = e_X7_clear_0 d M := rfl
noncomputable def e_X7_kindAt_0 (d : Nat) (l1 : Int) (M : AmM) : Option (AmV × AmM) := amRun (amStep amGst (amD amGst d) cdX7_kindAt) (0, [vR 7 7 0, vI l1], [], M)
theorem q_X7_kindAt_0 (d : Nat) (l1 : Int) (M : AmM) : e_X7_kindAt_0 d l1 M =
    if l1 < 0 then (some (vI 22, M)) else (if l1 < 401 then (if (0 : Int) ≤ l1 ∧ l1 < 401 then (some (vI (M 115 0 (l1).toNat), M)) else none) else (some (vI 22, M))) := by
  show amRun _ _ = _
  refine (amRun_t (f := amStep amGst (amD amGst d) cdX7_kindAt) 1 (x := if l1 < 0 then .inl (22, [vR 7 7 0, vI l1], [], M) else .inl (4, [vR 7 7 0, vI l1], [], M)) rfl).trans (amK_if ?_ ?_)
  · exact amRun_b 2 (x := .inr (some (vI 22, M))) rfl
  · refine (amRun_t (f := amStep amGst (amD amGst d) cdX7_kindAt) 4 (x := if l1 < 401 then .inl (13, [vR 7 7 0, vI l1], [], M) else .inl (22, [vR 7 7 0, vI l1], [], M)) rfl).trans (amK_if ?_ ?_)
    · refine (amRun_t (f := amStep amGst (amD amGst d) cdX7_kindAt) 3 (x := if (0 : Int) ≤ l1 ∧ l1 < 401 then .inl (19, [vR 7 7 0, vI l1], [vI (M 115 0 (l1).toNat)], M) else amNo) rfl).trans (amK_if ?_ rfl)
      exact amRun_b 2 (x := .inr (some (vI (M 115 0 (l1).toNat), M))) rfl
    · exact amRun_b 2 (x := .inr (some (vI 22, M))) rfl
theorem n_X7_kindAt (d : Nat) (l1 : Int) (M : AmM) : amD amGst (d + 1) 67 [vR 7 7 0, vI l1] M = e_X7_kindAt_0 d l1 M := rfl
noncomputable def e_X7_valueAt_0 (d : Nat) (l1 : Int) (M : AmM) : Option (AmV × AmM) := amRun (amStep amGst (amD amGst d) cdX7_valueAt) (0, [vR 7 7 0, vI l1], [], M)
theorem q_X7_valueAt_0 (d : Nat) (l1 : Int) (M : AmM) : e_X7_valueAt_0 d l1 M =
    if l1 < 0 then (some (vL 0, M)) else (if l1 < 401 then (if (0 : Int) ≤ l1 ∧ l1 < 401 then (some (vL (M 116 0 (l1).toNat), M)) else none) else (some (vL 0, M))) := by
  show amRun _ _ = _
  refine (amRun_t (f := amStep amGst (amD amGst d) cdX7_valueAt) 1 (x := if l1 < 0 then .inl (22, [vR 7 7 0, vI l1], [], M) else .inl (4, [vR 7 7 0, vI l1], [], M)) rfl).trans (amK_if ?_ ?_)
  · exact amRun_b 2 (x := .inr (some (vL 0, M))) rfl
  · refine (amRun_t (f := amStep amGst (amD amGst d) cdX7_valueAt) 4 (x := if l1 < 401 then .inl (13, [vR 7 7 0, vI l1], [], M) else .inl (22, [vR 7 7 0, vI l1], [], M)) rfl).trans (amK_if ?_ ?_)
    · refine (amRun_t (f := amStep amGst (amD amGst d) cdX7_valueAt) 3 (x := if (0 : Int) ≤ l1 ∧ l1 < 401 then .inl (19, [vR 7 7 0, vI l1], [vL (M 116 0 (l1).toNat)], M) else amNo) rfl).trans (amK_if ?_ rfl)
      exact amRun_b 2 (x := .inr (some (vL (M 116 0 (l1).toNat), M))) rfl
    · exact amRun_b 2 (x := .inr (some (vL 0, M))) rfl
theorem n_X7_valueAt (d : Nat) (l1 : Int) (M : AmM) : amD amGst (d + 1) 68 [vR 7 7 0, vI l1] M = e_X7_valueAt_0 d l1 M := rfl
noncomputable def e_X7_startAt_0 (d : Nat) (l1 : Int) (M : AmM) : Option (AmV × AmM) := amRun (amStep amGst (amD amGst d) cdX7_startAt) (0, [vR 7 7 0, vI l1], [], M)
theorem q_X7_startAt_0 (d : Nat) (l1 : Int) (M : AmM) : e_X7_startAt_0 d l1 M =
    amCI (amD amGst d 142 [vR 20 117 0, vI l1] M) fun v1 M1 => some (vI v1, M1) := by
  show amRun _ _ = _
  refine (amRun_t (f := amStep amGst (amD amGst d) cdX7_startAt) 3 (x := amPu 1 (amD amGst d 142 [vR 20 117 0, vI l1] M) (fun z9 M9 => .inl (8, [vR 7 7 0, vI l1], z9 ++ [], M9))) rfl).trans (amK_pI fun v1 M1 => ?_)
  exact amRun_b 1 (x := .inr (some (vI v1, M1))) rfl
theorem n_X7_startAt (d : Nat) (l1 : Int) (M : AmM) : amD amGst (d + 1) 69 [vR 7 7 0, vI l1] M = e_X7_startAt_0 d l1 M := rfl
noncomputable def e_X7_cutIntoTokens_0 (d : Nat) (M : AmM) : Option (AmV × AmM) := amRun (amStep amGst (amD amGst d) cdX7_cutIntoTokens) (0, [vR 7 7 0, vU, vU, vU, vU, vU], [], M)
noncomputable def e_X7_cutIntoTokens_6 (d : Nat) (l1 : Int) (l2 : Int) (l3 : Int) (u4 : AmV) (u5 : AmV) (M : AmM) : Option (AmV × AmM) := amRun (amStep amGst (amD amGst d) cdX7_cutIntoTokens) (6, [vR 7 7 0, vI l1, vI l2, vI l3, u4, u5], [], M)
noncomputable def e_X7_cutIntoTokens_80 (d : Nat) (l1 : Int) (l2 : Int) (l3 : Int) (l4 : Int) (l5 : Int) (M : AmM) : Option (AmV × AmM) := amRun (amStep amGst (amD amGst d) cdX7_cutIntoTokens) (80, [vR 7 7 0, vI l1, vI l2, vI l3, vI l4, vI l5], [], M)
theorem q_X7_cutIntoTokens_0 (d : Nat) (M : AmM) : e_X7_cutIntoTokens_0 d M =
    e_X7_cutIntoTokens_6 d 0 1 0 vU vU M := by
  show amRun _ _ = _
  exact amRun_b 6 (x := .inl (6, [vR 7 7 0, vI 0, vI 1, vI 0, vU, vU], [], M)) rfl
theorem q_X7_cutIntoTokens_6 (d : Nat) (l1 : Int) (l2 : Int) (l3 : Int) (u4 : AmV) (u5 : AmV) (M : AmM) : e_X7_cutIntoTokens_6 d l1 l2 l3 u4 u5 M =
    if l3 < 401 then (if l2 = 0 then (some (vU, M)) else (amCI (amD amGst d 71 [vR 7 7 0, vI l1] M) fun v1 M1 => amCI (amD amGst d 72 [vR 7 7 0, vI v1] M1) fun v2 M2 => amCI (amD amGst d 73 [vR 7 7 0, vI v1, vI v2] M2) fun v3 M3 => if (0 : Int) ≤ l3 ∧ l3 < 401 then (amCV (amD amGst d 143 [vR 20 117 0, vI l3, vI v1] (amUp M3 115 0 (l3).toNat v3)) fun M4 => if l3 < 401 then (amCL (amD amGst d 76 [vR 7 7 0, vI v1, vI v2] M4) fun v5 M5 => if (0 : Int) ≤ l3 ∧ l3 < 401 then (e_X7_cutIntoTokens_80 d v1 l2 l3 v2 v3 (amUp M5 116 0 (l3).toNat v5)) else none) else (e_X7_cutIntoTokens_80 d v1 l2 l3 v2 v3 M4)) else none)) else (some (vU, M)) := by
  show amRun _ _ = _
  refine (amRun_t (f := amStep amGst (amD amGst d) cdX7_cutIntoTokens) 4 (x := if l3 < 401 then .inl (15, [vR 7 7 0, vI l1, vI l2, vI l3, u4, u5], [], M) else .inl (109, [vR 7 7 0, vI l1, vI l2, vI l3, u4, u5], [], M)) rfl).trans (amK_if ?_ ?_)
  · refine (amRun_t (f := amStep amGst (amD amGst d) cdX7_cutIntoTokens) 1 (x := if l2 = 0 then .inl (109, [vR 7 7 0, vI l1, vI l2, vI l3, u4, u5], [], M) else .inl (19, [vR 7 7 0, vI l1, vI l2, vI l3, u4, u5], [], M)) rfl).trans (amK_if ?_ ?_)
    · exact amRun_b 1 (x := .inr (some (vU, M))) rfl
    · refine (amRun_t (f := amStep amGst (amD amGst d) cdX7_cutIntoTokens) 2 (x := amPu 1 (amD amGst d 71 [vR 7 7 0, vI l1] M) (fun z9 M9 => .inl (24, [vR 7 7 0, vI l1, vI l2, vI l3, u4, u5], z9 ++ [], M9))) rfl).trans (amK_pI fun v1 M1 => ?_)
      refine (amRun_t (f := amStep amGst (amD amGst d) cdX7_cutIntoTokens) 3 (x := amPu 1 (amD amGst d 72 [vR 7 7 0, vI v1] M1) (fun z9 M9 => .inl (30, [vR 7 7 0, vI v1, vI l2, vI l3, u4, u5], z9 ++ [], M9))) rfl).trans (amK_pI fun v2 M2 => ?_)
      refine (amRun_t (f := amStep amGst (amD amGst d) cdX7_cutIntoTokens) 4 (x := amPu 1 (amD amGst d 73 [vR 7 7 0, vI v1, vI v2] M2) (fun z9 M9 => .inl (39, [vR 7 7 0, vI v1, vI l2, vI l3, vI v2, u5], z9 ++ [], M9))) rfl).trans (amK_pI fun v3 M3 => ?_)
      refine (amRun_t (f := amStep amGst (amD amGst d) cdX7_cutIntoTokens) 5 (x := if (0 : Int) ≤ l3 ∧ l3 < 401 then .inl (49, [vR 7 7 0, vI v1, vI l2, vI l3, vI v2, vI v3], [], amUp M3 115 0 (l3).toNat v3) else amNo) rfl).trans (amK_if ?_ rfl)
      refine (amRun_t (f := amStep amGst (amD amGst d) cdX7_cutIntoTokens) 4 (x := amPu 0 (amD amGst d 143 [vR 20 117 0, vI l3, vI v1] (amUp M3 115 0 (l3).toNat v3)) (fun z9 M9 => .inl (58, [vR 7 7 0, vI v1, vI l2, vI l3, vI v2, vI v3], z9 ++ [], M9))) rfl).trans (amK_pV fun M4 => ?_)
      refine (amRun_t (f := amStep amGst (amD amGst d) cdX7_cutIntoTokens) 4 (x := if l3 < 401 then .inl (67, [vR 7 7 0, vI v1, vI l2, vI l3, vI v2, vI v3], [], M4) else .inl (80, [vR 7 7 0, vI v1, vI l2, vI l3, vI v2, vI v3], [], M4)) rfl).trans (amK_if ?_ ?_)
      · refine (amRun_t (f := amStep amGst (amD amGst d) cdX7_cutIntoTokens) 6 (x := amPu 2 (amD amGst d 76 [vR 7 7 0, vI v1, vI v2] M4) (fun z9 M9 => .inl (79, [vR 7 7 0, vI v1, vI l2, vI l3, vI v2, vI v3], z9 ++ [vI l3, vR 21 116 0], M9))) rfl).trans (amK_pL fun v5 M5 => ?_)
        refine (amRun_t (f := amStep amGst (amD amGst d) cdX7_cutIntoTokens) 0 (x := if (0 : Int) ≤ l3 ∧ l3 < 401 then .inl (80, [vR 7 7 0, vI v1, vI l2, vI l3, vI v2, vI v3], [], amUp M5 116 0 (l3).toNat v5) else amNo) rfl).trans (amK_if ?_ rfl)
        exact amRun_b 0 (x := .inl (80, [vR 7 7 0, vI v1, vI l2, vI l3, vI v2, vI v3], [], amUp M5 116 0 (l3).toNat v5)) rfl
      · exact amRun_b 0 (x := .inl (80, [vR 7 7 0, vI v1, vI l2, vI l3, vI v2, vI v3], [], M4)) rfl
  · exact amRun_b 1 (x := .inr (some (vU, M))) rfl
theorem q_X7_cutIntoTokens_80 (d : Nat) (l1 : Int) (l2 : Int) (l3 : Int) (l4 : Int) (l5 : Int) (M : AmM) : e_X7_cutIntoTokens_80 d l1 l2 l3 l4 l5 M =
    if l5 = 21 then (e_X7_cutIntoTokens_6 d l4 0 (w32 (l3 + 1)) (vI l4) (vI l5) M) else (if l5 = 22 then (e_X7_cutIntoTokens_6 d l4 0 (w32 (l3 + 1)) (vI l4) (vI l5) M) else (e_X7_cutIntoTokens_6 d l4 1 (w32 (l3 + 1)) (vI l4) (vI l5) M)) := by
  show amRun _ _ = _
  refine (amRun_t (f := amStep amGst (amD amGst d) cdX7_cutIntoTokens) 2 (x := if l5 = 21 then .inl (98, [vR 7 7 0, vI l1, vI l2, vI l3, vI l4, vI l5], [], M) else .inl (87, [vR 7 7 0, vI l1, vI l2, vI l3, vI l4, vI l5], [], M)) rfl).trans (amK_if ?_ ?_)
  · exact amRun_b 6 (x := .inl (6, [vR 7 7 0, vI l4, vI 0, vI (w32 (l3 + 1)), vI l4, vI l5], [], M)) rfl
  · refine (amRun_t (f := amStep amGst (amD amGst d) cdX7_cutIntoTokens) 2 (x := if l5 = 22 then .inl (98, [vR 7 7 0, vI l1, vI l2, vI l3, vI l4, vI l5], [], M) else .inl (94, [vR 7 7 0, vI l1, vI l2, vI l3, vI l4, vI l5], [], M)) rfl).trans (amK_if ?_ ?_)
    · exact amRun_b 6 (x := .inl (6, [vR 7 7 0, vI l4, vI 0, vI (w32 (l3 + 1)), vI l4, vI l5], [], M)) rfl
    · exact amRun_b 7 (x := .inl (6, [vR 7 7 0, vI l4, vI 1, vI (w32 (l3 + 1)), vI l4, vI l5], [], M)) rfl
theorem n_X7_cutIntoTokens (d : Nat) (M : AmM) : amD amGst (d + 1) 70 [vR 7 7 0] M = e_X7_cutIntoTokens_0 d M := rfl
noncomputable def e_X7_afterBlanks_0 (d : Nat) (l1 : Int) (M : AmM) : Option (AmV × AmM) := amRun (amStep amGst (amD amGst d) cdX7_afterBlanks) (0, [vR 7 7 0, vI l1, vU], [], M)
noncomputable def e_X7_afterBlanks_2 (d : Nat) (l1 : Int) (l2 : Int) (M : AmM) : Option (AmV × AmM) := amRun (amStep amGst (amD amGst d) cdX7_afterBlanks) (2, [vR 7 7 0, vI l1, vI l2], [], M)
theorem q_X7_afterBlanks_0 (d : Nat) (l1 : Int) (M : AmM) : e_X7_afterBlanks_0 d l1 M =
    e_X7_afterBlanks_2 d l1 l1 M := by
  show amRun _ _ = _
  exact amRun_b 2 (x := .inl (2, [vR 7 7 0, vI l1, vI l1], [], M)) rfl
theorem q_X7_afterBlanks_2 (d : Nat) (l1 : Int) (l2 : Int) (M : AmM) : e_X7_afterBlanks_2 d l1 l2 M =
    if l2 < M 7 0 1 then (amCI (amD amGst d 77 [vR 7 7 0, vI l2] M) fun v1 M1 => amCI (amD amGst d 78 [vI v1] M1) fun v2 M2 => if v2 = 0 then (some (vI l2, M2)) else (e_X7_afterBlanks_2 d l1 (w32 (l2 + 1)) M2)) else (some (vI l2, M)) := by
  show amRun _ _ = _
  refine (amRun_t (f := amStep amGst (amD amGst d) cdX7_afterBlanks) 3 (x := if l2 < M 7 0 1 then .inl (10, [vR 7 7 0, vI l1, vI l2], [], M) else .inl (27, [vR 7 7 0, vI l1, vI l2], [], M)) rfl).trans (amK_if ?_ ?_)
  · refine (amRun_t (f := amStep amGst (amD amGst d) cdX7_afterBlanks) 2 (x := amPu 1 (amD amGst d 77 [vR 7 7 0, vI l2] M) (fun z9 M9 => .inl (15, [vR 7 7 0, vI l1, vI l2], z9 ++ [], M9))) rfl).trans (amK_pI fun v1 M1 => ?_)
    refine (amRun_t (f := amStep amGst (amD amGst d) cdX7_afterBlanks) 0 (x := amPu 1 (amD amGst d 78 [vI v1] M1) (fun z9 M9 => .inl (18, [vR 7 7 0, vI l1, vI l2], z9 ++ [], M9))) rfl).trans (amK_pI fun v2 M2 => ?_)
    refine (amRun_t (f := amStep amGst (amD amGst d) cdX7_afterBlanks) 0 (x := if v2 = 0 then .inl (27, [vR 7 7 0, vI l1, vI l2], [], M2) else .inl (21, [vR 7 7 0, vI l1, vI l2], [], M2)) rfl).trans (amK_if ?_ ?_)
    · exact amRun_b 2 (x := .inr (some (vI l2, M2))) rfl
    · exact amRun_b 2 (x := .inl (2, [vR 7 7 0, vI l1, vI (w32 (l2 + 1))], [], M2)) rfl
  · exact amRun_b 2 (x := .inr (some (vI l2, M))) rfl
theorem n_X7_afterBlanks (d : Nat) (l1 : Int) (M : AmM) : amD amGst (d + 1) 71 [vR 7 7 0, vI l1] M = e_X7_afterBlanks_0 d l1 M := rfl
noncomputable def e_X7_endOf_0 (d : Nat) (l1 : Int) (M : AmM) : Option (AmV × AmM) := amRun (amStep amGst (amD amGst d) cdX7_endOf) (0, [vR 7 7 0, vI l1, vU], [], M)
noncomputable def e_X7_endOf_15 (d : Nat) (l1 : Int) (l2 : Int) (M : AmM) : Option (AmV × AmM) := amRun (amStep amGst (amD amGst d) cdX7_endOf) (15, [vR 7 7 0, vI l1, vI l2], [], M)
noncomputable def e_X7_endOf_51 (d : Nat) (l1 : Int) (l2 : Int) (M : AmM) : Option (AmV × AmM) := amRun (amStep amGst (amD amGst d) cdX7_endOf) (51, [vR 7 7 0, vI l1, vI l2], [], M)
theorem q_X7_endOf_0 (d : Nat) (l1 : Int) (M : AmM) : e_X7_endOf_0 d l1 M =
    amCI (amD amGst d 77 [vR 7 7 0, vI l1] M) fun v1 M1 => amCI (amD amGst d 79 [vI v1] M1) fun v2 M2 => if v2 = 0 then (amCI (amD amGst d 77 [vR 7 7 0, vI l1] M2) fun v3 M3 => amCI (amD amGst d 80 [vI v3] M3) fun v4 M4 => if v4 = 0 then (some (vI (w32 (l1 + 1)), M4)) else (e_X7_endOf_51 d l1 (w32 (l1 + 1)) M4)) else (e_X7_endOf_15 d l1 (w32 (l1 + 1)) M2) := by
  show amRun _ _ = _
  refine (amRun_t (f := amStep amGst (amD amGst d) cdX7_endOf) 6 (x := amPu 1 (amD amGst d 77 [vR 7 7 0, vI l1] M) (fun z9 M9 => .inl (9, [vR 7 7 0, vI l1, vI (w32 (l1 + 1))], z9 ++ [], M9))) rfl).trans (amK_pI fun v1 M1 => ?_)
  refine (amRun_t (f := amStep amGst (amD amGst d) cdX7_endOf) 0 (x := amPu 1 (amD amGst d 79 [vI v1] M1) (fun z9 M9 => .inl (12, [vR 7 7 0, vI l1, vI (w32 (l1 + 1))], z9 ++ [], M9))) rfl).trans (amK_pI fun v2 M2 => ?_)
  refine (amRun_t (f := amStep amGst (amD amGst d) cdX7_endOf) 0 (x := if v2 = 0 then .inl (40, [vR 7 7 0, vI l1, vI (w32 (l1 + 1))], [], M2) else .inl (15, [vR 7 7 0, vI l1, vI (w32 (l1 + 1))], [], M2)) rfl).trans (amK_if ?_ ?_)
  · refine (amRun_t (f := amStep amGst (amD amGst d) cdX7_endOf) 2 (x := amPu 1 (amD amGst d 77 [vR 7 7 0, vI l1] M2) (fun z9 M9 => .inl (45, [vR 7 7 0, vI l1, vI (w32 (l1 + 1))], z9 ++ [], M9))) rfl).trans (amK_pI fun v3 M3 => ?_)
    refine (amRun_t (f := amStep amGst (amD amGst d) cdX7_endOf) 0 (x := amPu 1 (amD amGst d 80 [vI v3] M3) (fun z9 M9 => .inl (48, [vR 7 7 0, vI l1, vI (w32 (l1 + 1))], z9 ++ [], M9))) rfl).trans (amK_pI fun v4 M4 => ?_)
    refine (amRun_t (f := amStep amGst (amD amGst d) cdX7_endOf) 0 (x := if v4 = 0 then .inl (76, [vR 7 7 0, vI l1, vI (w32 (l1 + 1))], [], M4) else .inl (51, [vR 7 7 0, vI l1, vI (w32 (l1 + 1))], [], M4)) rfl).trans (amK_if ?_ ?_)
    · exact amRun_b 2 (x := .inr (some (vI (w32 (l1 + 1)), M4))) rfl
    · exact amRun_b 0 (x := .inl (51, [vR 7 7 0, vI l1, vI (w32 (l1 + 1))], [], M4)) rfl
  · exact amRun_b 0 (x := .inl (15, [vR 7 7 0, vI l1, vI (w32 (l1 + 1))], [], M2)) rfl
theorem q_X7_endOf_15 (d : Nat) (l1 : Int) (l2 : Int) (M : AmM) : e_X7_endOf_15 d l1 l2 M =
    if l2 < M 7 0 1 then (amCI (amD amGst d 77 [vR 7 7 0, vI l2] M) fun v1 M1 => amCI (amD amGst d 79 [vI v1] M1) fun v2 M2 => if v2 = 0 then (some (vI l2, M2)) else (e_X7_endOf_15 d l1 (w32 (l2 + 1)) M2)) else (some (vI l2, M)) := by
  show amRun _ _ = _
  refine (amRun_t (f := amStep amGst (amD amGst d) cdX7_endOf) 3 (x := if l2 < M 7 0 1 then .inl (23, [vR 7 7 0, vI l1, vI l2], [], M) else .inl (76, [vR 7 7 0, vI l1, vI l2], [], M)) rfl).trans (amK_if ?_ ?_)
  · refine (amRun_t (f := amStep amGst (amD amGst d) cdX7_endOf) 2 (x := amPu 1 (amD amGst d 77 [vR 7 7 0, vI l2] M) (fun z9 M9 => .inl (28, [vR 7 7 0, vI l1, vI l2], z9 ++ [], M9))) rfl).trans (amK_pI fun v1 M1 => ?_)
    refine (amRun_t (f := amStep amGst (amD amGst d) cdX7_endOf) 0 (x := amPu 1 (amD amGst d 79 [vI v1] M1) (fun z9 M9 => .inl (31, [vR 7 7 0, vI l1, vI l2], z9 ++ [], M9))) rfl).trans (amK_pI fun v2 M2 => ?_)
    refine (amRun_t (f := amStep amGst (amD amGst d) cdX7_endOf) 0 (x := if v2 = 0 then .inl (76, [vR 7 7 0, vI l1, vI l2], [], M2) else .inl (34, [vR 7 7 0, vI l1, vI l2], [], M2)) rfl).trans (amK_if ?_ ?_)
    · exact amRun_b 2 (x := .inr (some (vI l2, M2))) rfl
    · exact amRun_b 2 (x := .inl (15, [vR 7 7 0, vI l1, vI (w32 (l2 + 1))], [], M2)) rfl
  · exact amRun_b 2 (x := .inr (some (vI l2, M))) rfl
theorem q_X7_endOf_51 (d : Nat) (l1 : Int) (l2 : Int) (M : AmM) : e_X7_endOf_51 d l1 l2 M =
    if l2 < M 7 0 1 then (amCI (amD amGst d 77 [vR 7 7 0, vI l2] M) fun v1 M1 => amCI (amD amGst d 80 [vI v1] M1) fun v2 M2 => if v2 = 0 then (some (vI l2, M2)) else (e_X7_endOf_51 d l1 (w32 (l2 + 1)) M2)) else (some (vI l2, M)) := by
  show amRun _ _ = _
  refine (amRun_t (f := amStep amGst (amD amGst d) cdX7_endOf) 3 (x := if l2 < M 7 0 1 then .inl (59, [vR 7 7 0, vI l1, vI l2], [], M) else .inl (76, [vR 7 7 0, vI l1, vI l2], [], M)) rfl).trans (amK_if ?_ ?_)
  · refine (amRun_t (f := amStep amGst (amD amGst d) cdX7_endOf) 2 (x := amPu 1 (amD amGst d 77 [vR 7 7 0, vI l2] M) (fun z9 M9 => .inl (64, [vR 7 7 0, vI l1, vI l2], z9 ++ [], M9))) rfl).trans (amK_pI fun v1 M1 => ?_)
    refine (amRun_t (f := amStep amGst (amD amGst d) cdX7_endOf) 0 (x := amPu 1 (amD amGst d 80 [vI v1] M1) (fun z9 M9 => .inl (67, [vR 7 7 0, vI l1, vI l2], z9 ++ [], M9))) rfl).trans (amK_pI fun v2 M2 => ?_)
    refine (amRun_t (f := amStep amGst (amD amGst d) cdX7_endOf) 0 (x := if v2 = 0 then .inl (76, [vR 7 7 0, vI l1, vI l2], [], M2) else .inl (70, [vR 7 7 0, vI l1, vI l2], [], M2)) rfl).trans (amK_if ?_ ?_)
    · exact amRun_b 2 (x := .inr (some (vI l2, M2))) rfl
    · exact amRun_b 2 (x := .inl (51, [vR 7 7 0, vI l1, vI (w32 (l2 + 1))], [], M2)) rfl
  · exact amRun_b 2 (x := .inr (some (vI l2, M))) rfl
theorem n_X7_endOf (d : Nat) (l1 : Int) (M : AmM) : amD amGst (d + 1) 72 [vR 7 7 0, vI l1] M = e_X7_endOf_0 d l1 M := rfl
noncomputable def e_X7_kindOf_0 (d : Nat) (l1 : Int) (l2 : Int) (M : AmM) : Option (AmV × AmM) := amRun (amStep amGst (amD amGst d) cdX7_kindOf) (0, [vR 7 7 0, vI l1, vI l2, vU], [], M)
theorem q_X7_kindOf_0 (d : Nat) (l1 : Int) (l2 : Int) (M : AmM) : e_X7_kindOf_0 d l1 l2 M =
    if l1 < M 7 0 1 then (amCI (amD amGst d 77 [vR 7 7 0, vI l1] M) fun v1 M1 => amCI (amD amGst d 79 [vI v1] M1) fun v2 M2 => if v2 = 0 then (amCI (amD amGst d 80 [vI v1] M2) fun v3 M3 => if v3 = 0 then (if 0 ≤ v1 % 65536 ∧ v1 % 65536 < 256 then (if amIdxF (v1 % 65536) amSigns 0 < 0 then (some (vI 22, M3)) else (some (vI v1, M3))) else none) else (if 4 < w32 (l2 - l1) then (some (vI 22, M3)) else (some (vI 20, M3)))) else (if 8 < w32 (l2 - l1) then (some (vI 22, M2)) else (amCI (amD amGst d 74 [vR 7 7 0, vI l1, vI l2] M2) fun v4 M4 => some (vI v4, M4)))) else (some (vI 21, M)) := by
  show amRun _ _ = _
  refine (amRun_t (f := amStep amGst (amD amGst d) cdX7_kindOf) 3 (x := if l1 < M 7 0 1 then .inl (11, [vR 7 7 0, vI l1, vI l2, vU], [], M) else .inl (8, [vR 7 7 0, vI l1, vI l2, vU], [], M)) rfl).trans (amK_if ?_ ?_)
  · refine (amRun_t (f := amStep amGst (amD amGst d) cdX7_kindOf) 2 (x := amPu 1 (amD amGst d 77 [vR 7 7 0, vI l1] M) (fun z9 M9 => .inl (16, [vR 7 7 0, vI l1, vI l2, vU], z9 ++ [], M9))) rfl).trans (amK_pI fun v1 M1 => ?_)
    refine (amRun_t (f := amStep amGst (amD amGst d) cdX7_kindOf) 2 (x := amPu 1 (amD amGst d 79 [vI v1] M1) (fun z9 M9 => .inl (21, [vR 7 7 0, vI l1, vI l2, vI v1], z9 ++ [], M9))) rfl).trans (amK_pI fun v2 M2 => ?_)
    refine (amRun_t (f := amStep amGst (amD amGst d) cdX7_kindOf) 0 (x := if v2 = 0 then .inl (44, [vR 7 7 0, vI l1, vI l2, vI v1], [], M2) else .inl (24, [vR 7 7 0, vI l1, vI l2, vI v1], [], M2)) rfl).trans (amK_if ?_ ?_)
    · refine (amRun_t (f := amStep amGst (amD amGst d) cdX7_kindOf) 1 (x := amPu 1 (amD amGst d 80 [vI v1] M2) (fun z9 M9 => .inl (48, [vR 7 7 0, vI l1, vI l2, vI v1], z9 ++ [], M9))) rfl).trans (amK_pI fun v3 M3 => ?_)
      refine (amRun_t (f := amStep amGst (amD amGst d) cdX7_kindOf) 0 (x := if v3 = 0 then .inl (66, [vR 7 7 0, vI l1, vI l2, vI v1], [], M3) else .inl (51, [vR 7 7 0, vI l1, vI l2, vI v1], [], M3)) rfl).trans (amK_if ?_ ?_)
      · refine (amRun_t (f := amStep amGst (amD amGst d) cdX7_kindOf) 3 (x := if 0 ≤ v1 % 65536 ∧ v1 % 65536 < 256 then .inl (73, [vR 7 7 0, vI l1, vI l2, vI v1], [vI (amIdxF (v1 % 65536) amSigns 0)], M3) else amNo) rfl).trans (amK_if ?_ rfl)
        refine (amRun_t (f := amStep amGst (amD amGst d) cdX7_kindOf) 0 (x := if amIdxF (v1 % 65536) amSigns 0 < 0 then .inl (80, [vR 7 7 0, vI l1, vI l2, vI v1], [], M3) else .inl (76, [vR 7 7 0, vI l1, vI l2, vI v1], [], M3)) rfl).trans (amK_if ?_ ?_)
        · exact amRun_b 2 (x := .inr (some (vI 22, M3))) rfl
        · exact amRun_b 3 (x := .inr (some (vI v1, M3))) rfl
      · refine (amRun_t (f := amStep amGst (amD amGst d) cdX7_kindOf) 4 (x := if 4 < w32 (l2 - l1) then .inl (58, [vR 7 7 0, vI l1, vI l2, vI v1], [], M3) else .inl (63, [vR 7 7 0, vI l1, vI l2, vI v1], [], M3)) rfl).trans (amK_if ?_ ?_)
        · exact amRun_b 3 (x := .inr (some (vI 22, M3))) rfl
        · exact amRun_b 2 (x := .inr (some (vI 20, M3))) rfl
    · refine (amRun_t (f := amStep amGst (amD amGst d) cdX7_kindOf) 4 (x := if 8 < w32 (l2 - l1) then .inl (32, [vR 7 7 0, vI l1, vI l2, vI v1], [], M2) else .inl (37, [vR 7 7 0, vI l1, vI l2, vI v1], [], M2)) rfl).trans (amK_if ?_ ?_)
      · exact amRun_b 3 (x := .inr (some (vI 22, M2))) rfl
      · refine (amRun_t (f := amStep amGst (amD amGst d) cdX7_kindOf) 3 (x := amPu 1 (amD amGst d 74 [vR 7 7 0, vI l1, vI l2] M2) (fun z9 M9 => .inl (43, [vR 7 7 0, vI l1, vI l2, vI v1], z9 ++ [], M9))) rfl).trans (amK_pI fun v4 M4 => ?_)
        exact amRun_b 1 (x := .inr (some (vI v4, M4))) rfl
  · exact amRun_b 2 (x := .inr (some (vI 21, M))) rfl
theorem n_X7_kindOf (d : Nat) (l1 : Int) (l2 : Int) (M : AmM) : amD amGst (d + 1) 73 [vR 7 7 0, vI l1, vI l2] M = e_X7_kindOf_0 d l1 l2 M := rfl
noncomputable def e_X7_wordOf_0 (d : Nat) (l1 : Int) (l2 : Int) (M : AmM) : Option (AmV × AmM) := amRun (amStep amGst (amD amGst d) cdX7_wordOf) (0, [vR 7 7 0, vI l1, vI l2, vU], [], M)
noncomputable def e_X7_wordOf_2 (d : Nat) (l1 : Int) (l2 : Int) (l3 : Int) (M : AmM) : Option (AmV × AmM) := amRun (amStep amGst (amD amGst d) cdX7_wordOf) (2, [vR 7 7 0, vI l1, vI l2, vI l3], [], M)
theorem q_X7_wordOf_0 (d : Nat) (l1 : Int) (l2 : Int) (M : AmM) : e_X7_wordOf_0 d l1 l2 M =
    e_X7_wordOf_2 d l1 l2 0 M := by
  show amRun _ _ = _
  exact amRun_b 2 (x := .inl (2, [vR 7 7 0, vI l1, vI l2, vI 0], [], M)) rfl
theorem q_X7_wordOf_2 (d : Nat) (l1 : Int) (l2 : Int) (l3 : Int) (M : AmM) : e_X7_wordOf_2 d l1 l2 l3 M =
    if 18 < l3 then (some (vI 19, M)) else (amCI (amD amGst d 75 [vR 7 7 0, vI l3, vI l1, vI l2] M) fun v1 M1 => if v1 = 0 then (e_X7_wordOf_2 d l1 l2 (w32 (l3 + 1)) M1) else (some (vI l3, M1))) := by
  show amRun _ _ = _
  refine (amRun_t (f := amStep amGst (amD amGst d) cdX7_wordOf) 2 (x := if 18 < l3 then .inl (26, [vR 7 7 0, vI l1, vI l2, vI l3], [], M) else .inl (8, [vR 7 7 0, vI l1, vI l2, vI l3], [], M)) rfl).trans (amK_if ?_ ?_)
  · exact amRun_b 2 (x := .inr (some (vI 19, M))) rfl
  · refine (amRun_t (f := amStep amGst (amD amGst d) cdX7_wordOf) 4 (x := amPu 1 (amD amGst d 75 [vR 7 7 0, vI l3, vI l1, vI l2] M) (fun z9 M9 => .inl (15, [vR 7 7 0, vI l1, vI l2, vI l3], z9 ++ [], M9))) rfl).trans (amK_pI fun v1 M1 => ?_)
    refine (amRun_t (f := amStep amGst (amD amGst d) cdX7_wordOf) 0 (x := if v1 = 0 then .inl (20, [vR 7 7 0, vI l1, vI l2, vI l3], [], M1) else .inl (18, [vR 7 7 0, vI l1, vI l2, vI l3], [], M1)) rfl).trans (amK_if ?_ ?_)
    · exact amRun_b 2 (x := .inl (2, [vR 7 7 0, vI l1, vI l2, vI (w32 (l3 + 1))], [], M1)) rfl
    · exact amRun_b 2 (x := .inr (some (vI l3, M1))) rfl
theorem n_X7_wordOf (d : Nat) (l1 : Int) (l2 : Int) (M : AmM) : amD amGst (d + 1) 74 [vR 7 7 0, vI l1, vI l2] M = e_X7_wordOf_0 d l1 l2 M := rfl
noncomputable def e_X7_isWord_0 (d : Nat) (l1 : Int) (l2 : Int) (l3 : Int) (M : AmM) : Option (AmV × AmM) := amRun (amStep amGst (amD amGst d) cdX7_isWord) (0, [vR 7 7 0, vI l1, vI l2, vI l3, vU, vU, vU], [], M)
noncomputable def e_X7_isWord_3 (d : Nat) (l1 : Int) (l2 : Int) (l3 : Int) (l4 : Int) (u5 : AmV) (u6 : AmV) (M : AmM) : Option (AmV × AmM) := amRun (amStep amGst (amD amGst d) cdX7_isWord) (3, [vR 7 7 0, vI l1, vI l2, vI l3, vI l4, u5, u6], [], M)
theorem q_X7_isWord_0 (d : Nat) (l1 : Int) (l2 : Int) (l3 : Int) (M : AmM) : e_X7_isWord_0 d l1 l2 l3 M =
    e_X7_isWord_3 d l1 l2 l3 0 vU vU M := by
  show amRun _ _ = _
  exact amRun_b 2 (x := .inl (3, [vR 7 7 0, vI l1, vI l2, vI l3, vI 0, vU, vU], [], M)) rfl
theorem q_X7_isWord_3 (d : Nat) (l1 : Int) (l2 : Int) (l3 : Int) (l4 : Int) (u5 : AmV) (u6 : AmV) (M : AmM) : e_X7_isWord_3 d l1 l2 l3 l4 u5 u6 M =
    if l4 < 8 then (if w32 (l2 + l4) < l3 then (amCI (amD amGst d 77 [vR 7 7 0, vI (w32 (l2 + l4))] M) fun v1 M1 => if w32 ((w32 (l1 * 8)) + l4) < 0 then (some (vI 0, M1)) else (if w32 ((w32 (l1 * 8)) + l4) < 152 then (if (0 : Int) ≤ w32 ((w32 (l1 * 8)) + l4) ∧ w32 ((w32 (l1 * 8)) + l4) < 152 then (if ((amWords.getD (w32 ((w32 (l1 * 8)) + l4)).toNat 0 : Nat) : Int) = v1 then (e_X7_isWord_3 d l1 l2 l3 (w32 (l4 + 1)) (vI v1) (vI (w32 ((w32 (l1 * 8)) + l4))) M1) else (some (vI 0, M1))) else none) else (some (vI 0, M1)))) else (if w32 ((w32 (l1 * 8)) + l4) < 0 then (some (vI 0, M)) else (if w32 ((w32 (l1 * 8)) + l4) < 152 then (if (0 : Int) ≤ w32 ((w32 (l1 * 8)) + l4) ∧ w32 ((w32 (l1 * 8)) + l4) < 152 then (if ((amWords.getD (w32 ((w32 (l1 * 8)) + l4)).toNat 0 : Nat) : Int) = 32 then (e_X7_isWord_3 d l1 l2 l3 (w32 (l4 + 1)) (vI 32) (vI (w32 ((w32 (l1 * 8)) + l4))) M) else (some (vI 0, M))) else none) else (some (vI 0, M))))) else (some (vI 1, M)) := by
  show amRun _ _ = _
  refine (amRun_t (f := amStep amGst (amD amGst d) cdX7_isWord) 2 (x := if l4 < 8 then .inl (10, [vR 7 7 0, vI l1, vI l2, vI l3, vI l4, u5, u6], [], M) else .inl (77, [vR 7 7 0, vI l1, vI l2, vI l3, vI l4, u5, u6], [], M)) rfl).trans (amK_if ?_ ?_)
  · refine (amRun_t (f := amStep amGst (amD amGst d) cdX7_isWord) 4 (x := if w32 (l2 + l4) < l3 then .inl (18, [vR 7 7 0, vI l1, vI l2, vI l3, vI l4, u5, u6], [], M) else .inl (29, [vR 7 7 0, vI l1, vI l2, vI l3, vI l4, u5, u6], [], M)) rfl).trans (amK_if ?_ ?_)
    · refine (amRun_t (f := amStep amGst (amD amGst d) cdX7_isWord) 4 (x := amPu 1 (amD amGst d 77 [vR 7 7 0, vI (w32 (l2 + l4))] M) (fun z9 M9 => .inl (26, [vR 7 7 0, vI l1, vI l2, vI l3, vI l4, u5, u6], z9 ++ [], M9))) rfl).trans (amK_pI fun v1 M1 => ?_)
      refine (amRun_t (f := amStep amGst (amD amGst d) cdX7_isWord) 9 (x := if w32 ((w32 (l1 * 8)) + l4) < 0 then .inl (69, [vR 7 7 0, vI l1, vI l2, vI l3, vI l4, vI v1, vI (w32 ((w32 (l1 * 8)) + l4))], [], M1) else .inl (47, [vR 7 7 0, vI l1, vI l2, vI l3, vI l4, vI v1, vI (w32 ((w32 (l1 * 8)) + l4))], [], M1)) rfl).trans (amK_if ?_ ?_)
      · exact amRun_b 2 (x := .inr (some (vI 0, M1))) rfl
      · refine (amRun_t (f := amStep amGst (amD amGst d) cdX7_isWord) 3 (x := if w32 ((w32 (l1 * 8)) + l4) < 152 then .inl (57, [vR 7 7 0, vI l1, vI l2, vI l3, vI l4, vI v1, vI (w32 ((w32 (l1 * 8)) + l4))], [], M1) else .inl (69, [vR 7 7 0, vI l1, vI l2, vI l3, vI l4, vI v1, vI (w32 ((w32 (l1 * 8)) + l4))], [], M1)) rfl).trans (amK_if ?_ ?_)
        · refine (amRun_t (f := amStep amGst (amD amGst d) cdX7_isWord) 2 (x := if (0 : Int) ≤ w32 ((w32 (l1 * 8)) + l4) ∧ w32 ((w32 (l1 * 8)) + l4) < 152 then .inl (64, [vR 7 7 0, vI l1, vI l2, vI l3, vI l4, vI v1, vI (w32 ((w32 (l1 * 8)) + l4))], [vI ((amWords.getD (w32 ((w32 (l1 * 8)) + l4)).toNat 0 : Nat) : Int)], M1) else amNo) rfl).trans (amK_if ?_ rfl)
          refine (amRun_t (f := amStep amGst (amD amGst d) cdX7_isWord) 1 (x := if ((amWords.getD (w32 ((w32 (l1 * 8)) + l4)).toNat 0 : Nat) : Int) = v1 then .inl (71, [vR 7 7 0, vI l1, vI l2, vI l3, vI l4, vI v1, vI (w32 ((w32 (l1 * 8)) + l4))], [], M1) else .inl (69, [vR 7 7 0, vI l1, vI l2, vI l3, vI l4, vI v1, vI (w32 ((w32 (l1 * 8)) + l4))], [], M1)) rfl).trans (amK_if ?_ ?_)
          · exact amRun_b 2 (x := .inl (3, [vR 7 7 0, vI l1, vI l2, vI l3, vI (w32 (l4 + 1)), vI v1, vI (w32 ((w32 (l1 * 8)) + l4))], [], M1)) rfl
          · exact amRun_b 2 (x := .inr (some (vI 0, M1))) rfl
        · exact amRun_b 2 (x := .inr (some (vI 0, M1))) rfl
    · refine (amRun_t (f := amStep amGst (amD amGst d) cdX7_isWord) 9 (x := if w32 ((w32 (l1 * 8)) + l4) < 0 then .inl (69, [vR 7 7 0, vI l1, vI l2, vI l3, vI l4, vI 32, vI (w32 ((w32 (l1 * 8)) + l4))], [], M) else .inl (47, [vR 7 7 0, vI l1, vI l2, vI l3, vI l4, vI 32, vI (w32 ((w32 (l1 * 8)) + l4))], [], M)) rfl).trans (amK_if ?_ ?_)
      · exact amRun_b 2 (x := .inr (some (vI 0, M))) rfl
      · refine (amRun_t (f := amStep amGst (amD amGst d) cdX7_isWord) 3 (x := if w32 ((w32 (l1 * 8)) + l4) < 152 then .inl (57, [vR 7 7 0, vI l1, vI l2, vI l3, vI l4, vI 32, vI (w32 ((w32 (l1 * 8)) + l4))], [], M) else .inl (69, [vR 7 7 0, vI l1, vI l2, vI l3, vI l4, vI 32, vI (w32 ((w32 (l1 * 8)) + l4))], [], M)) rfl).trans (amK_if ?_ ?_)
        · refine (amRun_t (f := amStep amGst (amD amGst d) cdX7_isWord) 2 (x := if (0 : Int) ≤ w32 ((w32 (l1 * 8)) + l4) ∧ w32 ((w32 (l1 * 8)) + l4) < 152 then .inl (64, [vR 7 7 0, vI l1, vI l2, vI l3, vI l4, vI 32, vI (w32 ((w32 (l1 * 8)) + l4))], [vI ((amWords.getD (w32 ((w32 (l1 * 8)) + l4)).toNat 0 : Nat) : Int)], M) else amNo) rfl).trans (amK_if ?_ rfl)
          refine (amRun_t (f := amStep amGst (amD amGst d) cdX7_isWord) 1 (x := if ((amWords.getD (w32 ((w32 (l1 * 8)) + l4)).toNat 0 : Nat) : Int) = 32 then .inl (71, [vR 7 7 0, vI l1, vI l2, vI l3, vI l4, vI 32, vI (w32 ((w32 (l1 * 8)) + l4))], [], M) else .inl (69, [vR 7 7 0, vI l1, vI l2, vI l3, vI l4, vI 32, vI (w32 ((w32 (l1 * 8)) + l4))], [], M)) rfl).trans (amK_if ?_ ?_)
          · exact amRun_b 2 (x := .inl (3, [vR 7 7 0, vI l1, vI l2, vI l3, vI (w32 (l4 + 1)), vI 32, vI (w32 ((w32 (l1 * 8)) + l4))], [], M)) rfl
          · exact amRun_b 2 (x := .inr (some (vI 0, M))) rfl
        · exact amRun_b 2 (x := .inr (some (vI 0, M))) rfl
  · exact amRun_b 2 (x := .inr (some (vI 1, M))) rfl
theorem n_X7_isWord (d : Nat) (l1 : Int) (l2 : Int) (l3 : Int) (M : AmM) : amD amGst (d + 1) 75 [vR 7 7 0, vI l1, vI l2, vI l3] M = e_X7_isWord_0 d l1 l2 l3 M := rfl
noncomputable def e_X7_valueOf_0 (d : Nat) (l1 : Int) (l2 : Int) (M : AmM) : Option (AmV × AmM) := amRun (amStep amGst (amD amGst d) cdX7_valueOf) (0, [vR 7 7 0, vI l1, vI l2, vU, vU, vU, vU], [], M)
noncomputable def e_X7_valueOf_5 (d : Nat) (l1 : Int) (l2 : Int) (l3 : Int) (l5 : Int) (u6 : AmV) (M : AmM) : Option (AmV × AmM) := amRun (amStep amGst (amD amGst d) cdX7_valueOf) (5, [vR 7 7 0, vI l1, vI l2, vL l3, vU, vI l5, u6], [], M)
theorem q_X7_valueOf_0 (d : Nat) (l1 : Int) (l2 : Int) (M : AmM) : e_X7_valueOf_0 d l1 l2 M =
    e_X7_valueOf_5 d l1 l2 0 l1 vU M := by
  show amRun _ _ = _
  exact amRun_b 4 (x := .inl (5, [vR 7 7 0, vI l1, vI l2, vL 0, vU, vI l1, vU], [], M)) rfl
theorem q_X7_valueOf_5 (d : Nat) (l1 : Int) (l2 : Int) (l3 : Int) (l5 : Int) (u6 : AmV) (M : AmM) : e_X7_valueOf_5 d l1 l2 l3 l5 u6 M =
    if l5 < l2 then (amCI (amD amGst d 77 [vR 7 7 0, vI l5] M) fun v1 M1 => amCI (amD amGst d 80 [vI v1] M1) fun v2 M2 => if v2 = 0 then (e_X7_valueOf_5 d l1 l2 (w64 ((w64 ((w64 ((w64 (l3 * 27)) + v1)) - 97)) + 1)) (w32 (l5 + 1)) (vI v1) M2) else (e_X7_valueOf_5 d l1 l2 (w64 ((w64 ((w64 (l3 * 10)) + v1)) - 48)) (w32 (l5 + 1)) (vI v1) M2)) else (some (vL l3, M)) := by
  show amRun _ _ = _
  refine (amRun_t (f := amStep amGst (amD amGst d) cdX7_valueOf) 2 (x := if l5 < l2 then .inl (11, [vR 7 7 0, vI l1, vI l2, vL l3, vU, vI l5, u6], [], M) else .inl (65, [vR 7 7 0, vI l1, vI l2, vL l3, vU, vI l5, u6], [], M)) rfl).trans (amK_if ?_ ?_)
  · refine (amRun_t (f := amStep amGst (amD amGst d) cdX7_valueOf) 2 (x := amPu 1 (amD amGst d 77 [vR 7 7 0, vI l5] M) (fun z9 M9 => .inl (17, [vR 7 7 0, vI l1, vI l2, vL l3, vU, vI l5, u6], z9 ++ [], M9))) rfl).trans (amK_pI fun v1 M1 => ?_)
    refine (amRun_t (f := amStep amGst (amD amGst d) cdX7_valueOf) 2 (x := amPu 1 (amD amGst d 80 [vI v1] M1) (fun z9 M9 => .inl (24, [vR 7 7 0, vI l1, vI l2, vL l3, vU, vI l5, vI v1], z9 ++ [], M9))) rfl).trans (amK_pI fun v2 M2 => ?_)
    refine (amRun_t (f := amStep amGst (amD amGst d) cdX7_valueOf) 0 (x := if v2 = 0 then .inl (43, [vR 7 7 0, vI l1, vI l2, vL l3, vU, vI l5, vI v1], [], M2) else .inl (27, [vR 7 7 0, vI l1, vI l2, vL l3, vU, vI l5, vI v1], [], M2)) rfl).trans (amK_if ?_ ?_)
    · exact amRun_b 13 (x := .inl (5, [vR 7 7 0, vI l1, vI l2, vL (w64 ((w64 ((w64 ((w64 (l3 * 27)) + v1)) - 97)) + 1)), vU, vI (w32 (l5 + 1)), vI v1], [], M2)) rfl
    · exact amRun_b 12 (x := .inl (5, [vR 7 7 0, vI l1, vI l2, vL (w64 ((w64 ((w64 (l3 * 10)) + v1)) - 48)), vU, vI (w32 (l5 + 1)), vI v1], [], M2)) rfl
  · exact amRun_b 2 (x := .inr (some (vL l3, M))) rfl
theorem n_X7_valueOf (d : Nat) (l1 : Int) (l2 : Int) (M : AmM) : amD amGst (d + 1) 76 [vR 7 7 0, vI l1, vI l2] M = e_X7_valueOf_0 d l1 l2 M := rfl
noncomputable def e_X7_byteAt_0 (d : Nat) (l1 : Int) (M : AmM) : Option (AmV × AmM) := amRun (amStep amGst (amD amGst d) cdX7_byteAt) (0, [vR 7 7 0, vI l1], [], M)
theorem q_X7_byteAt_0 (d : Nat) (l1 : Int) (M : AmM) : e_X7_byteAt_0 d l1 M =
    if l1 < 0 then (some (vI 0, M)) else (if l1 < M 7 0 1 then (if l1 < 2000 then (if (0 : Int) ≤ l1 ∧ l1 < 2000 then (some (vI (bAnd (M 114 0 (l1).toNat) 255), M)) else none) else (some (vI 0, M))) else (some (vI 0, M))) := by
  show amRun _ _ = _
  refine (amRun_t (f := amStep amGst (amD amGst d) cdX7_byteAt) 1 (x := if l1 < 0 then .inl (34, [vR 7 7 0, vI l1], [], M) else .inl (4, [vR 7 7 0, vI l1], [], M)) rfl).trans (amK_if ?_ ?_)
  · exact amRun_b 2 (x := .inr (some (vI 0, M))) rfl
  · refine (amRun_t (f := amStep amGst (amD amGst d) cdX7_byteAt) 3 (x := if l1 < M 7 0 1 then .inl (12, [vR 7 7 0, vI l1], [], M) else .inl (34, [vR 7 7 0, vI l1], [], M)) rfl).trans (amK_if ?_ ?_)
    · refine (amRun_t (f := amStep amGst (amD amGst d) cdX7_byteAt) 4 (x := if l1 < 2000 then .inl (21, [vR 7 7 0, vI l1], [], M) else .inl (34, [vR 7 7 0, vI l1], [], M)) rfl).trans (amK_if ?_ ?_)
      · refine (amRun_t (f := amStep amGst (amD amGst d) cdX7_byteAt) 3 (x := if (0 : Int) ≤ l1 ∧ l1 < 2000 then .inl (27, [vR 7 7 0, vI l1], [vI (M 114 0 (l1).toNat)], M) else amNo) rfl).trans (amK_if ?_ rfl)
        exact amRun_b 4 (x := .inr (some (vI (bAnd (M 114 0 (l1).toNat) 255), M))) rfl
      · exact amRun_b 2 (x := .inr (some (vI 0, M))) rfl
    · exact amRun_b 2 (x := .inr (some (vI 0, M))) rfl
theorem n_X7_byteAt (d : Nat) (l1 : Int) (M : AmM) : amD amGst (d + 1) 77 [vR 7 7 0, vI l1] M = e_X7_byteAt_0 d l1 M := rfl
noncomputable def e_X7_isBlank_0 (d : Nat) (l0 : Int) (M : AmM) : Option (AmV × AmM) := amRun (amStep amGst (amD amGst d) cdX7_isBlank) (0, [vI l0], [], M)
theorem q_X7_isBlank_0 (d : Nat) (l0 : Int) (M : AmM) : e_X7_isBlank_0 d l0 M =
    if l0 = 9 then (some (vI 1, M)) else (if l0 = 10 then (some (vI 1, M)) else (if l0 = 13 then (some (vI 1, M)) else (if l0 = 32 then (some (vI 1, M)) else (some (vI 0, M))))) := by
  show amRun _ _ = _
  refine (amRun_t (f := amStep amGst (amD amGst d) cdX7_isBlank) 2 (x := if l0 = 9 then .inl (24, [vI l0], [], M) else .inl (6, [vI l0], [], M)) rfl).trans (amK_if ?_ ?_)
  · exact amRun_b 3 (x := .inr (some (vI 1, M))) rfl
  · refine (amRun_t (f := amStep amGst (amD amGst d) cdX7_isBlank) 2 (x := if l0 = 10 then .inl (24, [vI l0], [], M) else .inl (12, [vI l0], [], M)) rfl).trans (amK_if ?_ ?_)
    · exact amRun_b 3 (x := .inr (some (vI 1, M))) rfl
    · refine (amRun_t (f := amStep amGst (amD amGst d) cdX7_isBlank) 2 (x := if l0 = 13 then .inl (24, [vI l0], [], M) else .inl (18, [vI l0], [], M)) rfl).trans (amK_if ?_ ?_)
      · exact amRun_b 3 (x := .inr (some (vI 1, M))) rfl
      · refine (amRun_t (f := amStep amGst (amD amGst d) cdX7_isBlank) 2 (x := if l0 = 32 then .inl (24, [vI l0], [], M) else .inl (28, [vI l0], [], M)) rfl).trans (amK_if ?_ ?_)
        · exact amRun_b 3 (x := .inr (some (vI 1, M))) rfl
        · exact amRun_b 2 (x := .inr (some (vI 0, M))) rfl
theorem n_X7_isBlank (d : Nat) (l0 : Int) (M : AmM) : amD amGst (d + 1) 78 [vI l0] M = e_X7_isBlank_0 d l0 M := rfl
noncomputable def e_X7_isLetter_0 (d : Nat) (l0 : Int) (M : AmM) : Option (AmV × AmM) := amRun (amStep amGst (amD amGst d) cdX7_isLetter) (0, [vI l0], [], M)
theorem q_X7_isLetter_0 (d : Nat) (l0 : Int) (M : AmM) : e_X7_isLetter_0 d l0 M =
    if l0 < 97 then (some (vI 0, M)) else (if 122 < l0 then (some (vI 0, M)) else (some (vI 1, M))) := by
  show amRun _ _ = _
  refine (amRun_t (f := amStep amGst (amD amGst d) cdX7_isLetter) 2 (x := if l0 < 97 then .inl (16, [vI l0], [], M) else .inl (6, [vI l0], [], M)) rfl).trans (amK_if ?_ ?_)
  · exact amRun_b 2 (x := .inr (some (vI 0, M))) rfl
  · refine (amRun_t (f := amStep amGst (amD amGst d) cdX7_isLetter) 2 (x := if 122 < l0 then .inl (16, [vI l0], [], M) else .inl (12, [vI l0], [], M)) rfl).trans (amK_if ?_ ?_)
    · exact amRun_b 2 (x := .inr (some (vI 0, M))) rfl
    · exact amRun_b 3 (x := .inr (some (vI 1, M))) rfl
theorem n_X7_isLetter (d : Nat) (l0 : Int) (M : AmM) : amD amGst (d + 1) 79 [vI l0] M = e_X7_isLetter_0 d l0 M := rfl
noncomputable def e_X7_isDigit_0 (d : Nat) (l0 : Int) (M : AmM) : Option (AmV × AmM) := amRun (amStep amGst (amD amGst d) cdX7_isDigit) (0, [vI l0], [], M)
theorem q_X7_isDigit_0 (d : Nat) (l0 : Int) (M : AmM) : e_X7_isDigit_0 d l0 M =
    if l0 < 48 then (some (vI 0, M)) else (if 57 < l0 then (some (vI 0, M)) else (some (vI 1, M))) := by
  show amRun _ _ = _
  refine (amRun_t (f := amStep amGst (amD amGst d) cdX7_isDigit) 2 (x := if l0 < 48 then .inl (16, [vI l0], [], M) else .inl (6, [vI l0], [], M)) rfl).trans (amK_if ?_ ?_)
  · exact amRun_b 2 (x := .inr (some (vI 0, M))) rfl
  · refine (amRun_t (f := amStep amGst (amD amGst d) cdX7_isDigit) 2 (x := if 57 < l0 then .inl (16, [vI l0], [], M) else .inl (12, [vI l0], [], M)) rfl).trans (amK_if ?_ ?_)
    · exact amRun_b 2 (x := .inr (some (vI 0, M))) rfl
    · exact amRun_b 3 (x := .inr (some (vI 1, M))) rfl
theorem n_X7_isDigit (d : Nat) (l0 : Int) (M : AmM) : amD amGst (d + 1) 80 [vI l0] M = e_X7_isDigit_0 d l0 M := rfl
