noncomputable def e_X11_feed_0 (d : Nat) (l1 : Int) (l2 : Int) (l3 : Int) (l4 : Int) (l5 : Int) (M : AmM) : Option (AmV × AmM) := amRun (amStep amGst (amD amGst d) cdX11_feed) (0, [vR 11 11 0, vI l1, vI l2, vI l3, vI l4, vI l5], [], M)
theorem q_X11_feed_0 (d : Nat) (l1 : Int) (l2 : Int) (l3 : Int) (l4 : Int) (l5 : Int) (M : AmM) : e_X11_feed_0 d l1 l2 l3 l4 l5 M =
    amCI (amD amGst d 63 [vR 7 7 0, vI l1, vI l2, vI l3, vI l4, vI l5] M) fun v1 M1 => some (vI v1, M1) := by
  show amRun _ _ = _
  refine (amRun_t (f := amStep amGst (amD amGst d) cdX11_feed) 7 (x := amPu 1 (amD amGst d 63 [vR 7 7 0, vI l1, vI l2, vI l3, vI l4, vI l5] M) (fun z9 M9 => .inl (14, [vR 11 11 0, vI l1, vI l2, vI l3, vI l4, vI l5], z9 ++ [], M9))) rfl).trans (amK_pI fun v1 M1 => ?_)
  exact amRun_b 1 (x := .inr (some (vI v1, M1))) rfl
theorem n_X11_feed (d : Nat) (l1 : Int) (l2 : Int) (l3 : Int) (l4 : Int) (l5 : Int) (M : AmM) : amD amGst (d + 1) 107 [vR 11 11 0, vI l1, vI l2, vI l3, vI l4, vI l5] M = e_X11_feed_0 d l1 l2 l3 l4 l5 M := rfl
noncomputable def e_X11_back_0 (d : Nat) (l1 : Int) (M : AmM) : Option (AmV × AmM) := amRun (amStep amGst (amD amGst d) cdX11_back) (0, [vR 11 11 0, vI l1], [], M)
theorem q_X11_back_0 (d : Nat) (l1 : Int) (M : AmM) : e_X11_back_0 d l1 M =
    amCI (amD amGst d 65 [vR 7 7 0, vI l1] M) fun v1 M1 => some (vI v1, M1) := by
  show amRun _ _ = _
  refine (amRun_t (f := amStep amGst (amD amGst d) cdX11_back) 3 (x := amPu 1 (amD amGst d 65 [vR 7 7 0, vI l1] M) (fun z9 M9 => .inl (8, [vR 11 11 0, vI l1], z9 ++ [], M9))) rfl).trans (amK_pI fun v1 M1 => ?_)
  exact amRun_b 1 (x := .inr (some (vI v1, M1))) rfl
theorem n_X11_back (d : Nat) (l1 : Int) (M : AmM) : amD amGst (d + 1) 108 [vR 11 11 0, vI l1] M = e_X11_back_0 d l1 M := rfl
noncomputable def e_X11_read_0 (d : Nat) (M : AmM) : Option (AmV × AmM) := amRun (amStep amGst (amD amGst d) cdX11_read) (0, [vR 11 11 0, vU], [], M)
theorem q_X11_read_0 (d : Nat) (M : AmM) : e_X11_read_0 d M =
    amCI (amD amGst d 28 [vR 4 4 0] M) fun v1 M1 => amCV (amD amGst d 66 [vR 7 7 0] M1) fun M2 => if v1 = 0 then (if v1 = 0 then (amCV (amD amGst d 136 [vR 11 11 0] (amUp M2 11 0 15 (-1))) fun M3 => some (vI v1, M3)) else (some (vI v1, amUp M2 11 0 15 (-1)))) else (amCI (amD amGst d 29 [vR 4 4 0] M2) fun v4 M4 => if v1 = 0 then (amCV (amD amGst d 136 [vR 11 11 0] (amUp M4 11 0 15 v4)) fun M5 => some (vI v1, M5)) else (some (vI v1, amUp M4 11 0 15 v4))) := by
  show amRun _ _ = _
  refine (amRun_t (f := amStep amGst (amD amGst d) cdX11_read) 2 (x := amPu 1 (amD amGst d 28 [vR 4 4 0] M) (fun z9 M9 => .inl (7, [vR 11 11 0, vU], z9 ++ [], M9))) rfl).trans (amK_pI fun v1 M1 => ?_)
  refine (amRun_t (f := amStep amGst (amD amGst d) cdX11_read) 3 (x := amPu 0 (amD amGst d 66 [vR 7 7 0] M1) (fun z9 M9 => .inl (15, [vR 11 11 0, vI v1], z9 ++ [], M9))) rfl).trans (amK_pV fun M2 => ?_)
  refine (amRun_t (f := amStep amGst (amD amGst d) cdX11_read) 2 (x := if v1 = 0 then .inl (20, [vR 11 11 0, vI v1], [vR 11 11 0], M2) else .inl (24, [vR 11 11 0, vI v1], [vR 11 11 0], M2)) rfl).trans (amK_if ?_ ?_)
  · refine (amRun_t (f := amStep amGst (amD amGst d) cdX11_read) 4 (x := if v1 = 0 then .inl (38, [vR 11 11 0, vI v1], [], amUp M2 11 0 15 (-1)) else .inl (42, [vR 11 11 0, vI v1], [], amUp M2 11 0 15 (-1))) rfl).trans (amK_if ?_ ?_)
    · refine (amRun_t (f := amStep amGst (amD amGst d) cdX11_read) 1 (x := amPu 0 (amD amGst d 136 [vR 11 11 0] (amUp M2 11 0 15 (-1))) (fun z9 M9 => .inl (42, [vR 11 11 0, vI v1], z9 ++ [], M9))) rfl).trans (amK_pV fun M3 => ?_)
      exact amRun_b 2 (x := .inr (some (vI v1, M3))) rfl
    · exact amRun_b 2 (x := .inr (some (vI v1, amUp M2 11 0 15 (-1)))) rfl
  · refine (amRun_t (f := amStep amGst (amD amGst d) cdX11_read) 2 (x := amPu 1 (amD amGst d 29 [vR 4 4 0] M2) (fun z9 M9 => .inl (31, [vR 11 11 0, vI v1], z9 ++ [vR 11 11 0], M9))) rfl).trans (amK_pI fun v4 M4 => ?_)
    refine (amRun_t (f := amStep amGst (amD amGst d) cdX11_read) 2 (x := if v1 = 0 then .inl (38, [vR 11 11 0, vI v1], [], amUp M4 11 0 15 v4) else .inl (42, [vR 11 11 0, vI v1], [], amUp M4 11 0 15 v4)) rfl).trans (amK_if ?_ ?_)
    · refine (amRun_t (f := amStep amGst (amD amGst d) cdX11_read) 1 (x := amPu 0 (amD amGst d 136 [vR 11 11 0] (amUp M4 11 0 15 v4)) (fun z9 M9 => .inl (42, [vR 11 11 0, vI v1], z9 ++ [], M9))) rfl).trans (amK_pV fun M5 => ?_)
      exact amRun_b 2 (x := .inr (some (vI v1, M5))) rfl
    · exact amRun_b 2 (x := .inr (some (vI v1, amUp M4 11 0 15 v4))) rfl
theorem n_X11_read (d : Nat) (M : AmM) : amD amGst (d + 1) 109 [vR 11 11 0] M = e_X11_read_0 d M := rfl
noncomputable def e_X11_place_0 (d : Nat) (M : AmM) : Option (AmV × AmM) := amRun (amStep amGst (amD amGst d) cdX11_place) (0, [vR 11 11 0], [], M)
theorem q_X11_place_0 (d : Nat) (M : AmM) : e_X11_place_0 d M =
    some (vI (M 11 0 15), M) := by
  show amRun _ _ = _
  exact amRun_b 3 (x := .inr (some (vI (M 11 0 15), M))) rfl
theorem n_X11_place (d : Nat) (M : AmM) : amD amGst (d + 1) 110 [vR 11 11 0] M = e_X11_place_0 d M := rfl
noncomputable def e_X11_step_0 (d : Nat) (l1 : Int) (l2 : Int) (M : AmM) : Option (AmV × AmM) := amRun (amStep amGst (amD amGst d) cdX11_step) (0, [vR 11 11 0, vI l1, vI l2], [], M)
theorem q_X11_step_0 (d : Nat) (l1 : Int) (l2 : Int) (M : AmM) : e_X11_step_0 d l1 l2 M =
    amCI (amD amGst d 55 [vR 6 6 0, vI l1] M) fun v1 M1 => if v1 = 0 then (some (vI (-1), M1)) else (if l2 = 0 then (amCI (amD amGst d 57 [vR 6 6 0, vI l1] M1) fun v2 M2 => some (vI v2, M2)) else (if l2 = 1 then (amCI (amD amGst d 142 [vR 20 118 0, vI l1] M1) fun v3 M3 => some (vI v3, M3)) else (if l2 = 2 then (amCI (amD amGst d 58 [vR 6 6 0, vI l1] M1) fun v4 M4 => some (vI v4, M4)) else (if l2 = 3 then (amCI (amD amGst d 50 [vR 5 5 0, vI l1] M1) fun v5 M5 => some (vI v5, M5)) else ((some (vI (-1), M1))))))) := by
  show amRun _ _ = _
  refine (amRun_t (f := amStep amGst (amD amGst d) cdX11_step) 4 (x := amPu 1 (amD amGst d 55 [vR 6 6 0, vI l1] M) (fun z9 M9 => .inl (11, [vR 11 11 0, vI l1, vI l2], z9 ++ [], M9))) rfl).trans (amK_pI fun v1 M1 => ?_)
  refine (amRun_t (f := amStep amGst (amD amGst d) cdX11_step) 0 (x := if v1 = 0 then .inl (14, [vR 11 11 0, vI l1, vI l2], [], M1) else .inl (16, [vR 11 11 0, vI l1, vI l2], [], M1)) rfl).trans (amK_if ?_ ?_)
  · exact amRun_b 2 (x := .inr (some (vI (-1), M1))) rfl
  · refine (amRun_t (f := amStep amGst (amD amGst d) cdX11_step) 1 (x := if l2 = 0 then .inl (48, [vR 11 11 0, vI l1, vI l2], [], M1) else (if l2 = 1 then .inl (60, [vR 11 11 0, vI l1, vI l2], [], M1) else (if l2 = 2 then .inl (72, [vR 11 11 0, vI l1, vI l2], [], M1) else (if l2 = 3 then .inl (84, [vR 11 11 0, vI l1, vI l2], [], M1) else .inl (93, [vR 11 11 0, vI l1, vI l2], [], M1))))) rfl).trans ?_
    refine amK_if ?_ ?_
    · refine (amRun_t (f := amStep amGst (amD amGst d) cdX11_step) 4 (x := amPu 1 (amD amGst d 57 [vR 6 6 0, vI l1] M1) (fun z9 M9 => .inl (59, [vR 11 11 0, vI l1, vI l2], z9 ++ [], M9))) rfl).trans (amK_pI fun v2 M2 => ?_)
      exact amRun_b 1 (x := .inr (some (vI v2, M2))) rfl
    refine amK_if ?_ ?_
    · refine (amRun_t (f := amStep amGst (amD amGst d) cdX11_step) 4 (x := amPu 1 (amD amGst d 142 [vR 20 118 0, vI l1] M1) (fun z9 M9 => .inl (71, [vR 11 11 0, vI l1, vI l2], z9 ++ [], M9))) rfl).trans (amK_pI fun v3 M3 => ?_)
      exact amRun_b 1 (x := .inr (some (vI v3, M3))) rfl
    refine amK_if ?_ ?_
    · refine (amRun_t (f := amStep amGst (amD amGst d) cdX11_step) 4 (x := amPu 1 (amD amGst d 58 [vR 6 6 0, vI l1] M1) (fun z9 M9 => .inl (83, [vR 11 11 0, vI l1, vI l2], z9 ++ [], M9))) rfl).trans (amK_pI fun v4 M4 => ?_)
      exact amRun_b 1 (x := .inr (some (vI v4, M4))) rfl
    refine amK_if ?_ ?_
    · refine (amRun_t (f := amStep amGst (amD amGst d) cdX11_step) 3 (x := amPu 1 (amD amGst d 50 [vR 5 5 0, vI l1] M1) (fun z9 M9 => .inl (92, [vR 11 11 0, vI l1, vI l2], z9 ++ [], M9))) rfl).trans (amK_pI fun v5 M5 => ?_)
      exact amRun_b 1 (x := .inr (some (vI v5, M5))) rfl
    exact amRun_b 2 (x := .inr (some (vI (-1), M1))) rfl
theorem n_X11_step (d : Nat) (l1 : Int) (l2 : Int) (M : AmM) : amD amGst (d + 1) 111 [vR 11 11 0, vI l1, vI l2] M = e_X11_step_0 d l1 l2 M := rfl
noncomputable def e_X11_pilgrim_0 (d : Nat) (l1 : Int) (l2 : Int) (M : AmM) : Option (AmV × AmM) := amRun (amStep amGst (amD amGst d) cdX11_pilgrim) (0, [vR 11 11 0, vI l1, vI l2], [], M)
theorem q_X11_pilgrim_0 (d : Nat) (l1 : Int) (l2 : Int) (M : AmM) : e_X11_pilgrim_0 d l1 l2 M =
    amCI (amD amGst d 83 [vR 8 8 0, vI l1] M) fun v1 M1 => if v1 = 0 then (some (vI (-1), M1)) else (if l2 = 0 then (amCI (amD amGst d 142 [vR 20 108 0, vI l1] M1) fun v2 M2 => some (vI v2, M2)) else (if l2 = 1 then (amCI (amD amGst d 142 [vR 20 120 0, vI l1] M1) fun v3 M3 => some (vI v3, M3)) else (if l2 = 2 then (amCI (amD amGst d 142 [vR 20 121 0, vI l1] M1) fun v4 M4 => some (vI v4, M4)) else (if l2 = 3 then (amCI (amD amGst d 142 [vR 20 109 0, vI l1] M1) fun v5 M5 => some (vI v5, M5)) else (if l2 = 4 then (amCI (amD amGst d 142 [vR 20 110 0, vI l1] M1) fun v6 M6 => some (vI v6, M6)) else (if l2 = 5 then (amCI (amD amGst d 142 [vR 20 111 0, vI l1] M1) fun v7 M7 => some (vI v7, M7)) else ((some (vI (-1), M1))))))))) := by
  show amRun _ _ = _
  refine (amRun_t (f := amStep amGst (amD amGst d) cdX11_pilgrim) 3 (x := amPu 1 (amD amGst d 83 [vR 8 8 0, vI l1] M) (fun z9 M9 => .inl (8, [vR 11 11 0, vI l1, vI l2], z9 ++ [], M9))) rfl).trans (amK_pI fun v1 M1 => ?_)
  refine (amRun_t (f := amStep amGst (amD amGst d) cdX11_pilgrim) 0 (x := if v1 = 0 then .inl (11, [vR 11 11 0, vI l1, vI l2], [], M1) else .inl (13, [vR 11 11 0, vI l1, vI l2], [], M1)) rfl).trans (amK_if ?_ ?_)
  · exact amRun_b 2 (x := .inr (some (vI (-1), M1))) rfl
  · refine (amRun_t (f := amStep amGst (amD amGst d) cdX11_pilgrim) 1 (x := if l2 = 0 then .inl (52, [vR 11 11 0, vI l1, vI l2], [], M1) else (if l2 = 1 then .inl (64, [vR 11 11 0, vI l1, vI l2], [], M1) else (if l2 = 2 then .inl (76, [vR 11 11 0, vI l1, vI l2], [], M1) else (if l2 = 3 then .inl (88, [vR 11 11 0, vI l1, vI l2], [], M1) else (if l2 = 4 then .inl (100, [vR 11 11 0, vI l1, vI l2], [], M1) else (if l2 = 5 then .inl (112, [vR 11 11 0, vI l1, vI l2], [], M1) else .inl (124, [vR 11 11 0, vI l1, vI l2], [], M1))))))) rfl).trans ?_
    refine amK_if ?_ ?_
    · refine (amRun_t (f := amStep amGst (amD amGst d) cdX11_pilgrim) 4 (x := amPu 1 (amD amGst d 142 [vR 20 108 0, vI l1] M1) (fun z9 M9 => .inl (63, [vR 11 11 0, vI l1, vI l2], z9 ++ [], M9))) rfl).trans (amK_pI fun v2 M2 => ?_)
      exact amRun_b 1 (x := .inr (some (vI v2, M2))) rfl
    refine amK_if ?_ ?_
    · refine (amRun_t (f := amStep amGst (amD amGst d) cdX11_pilgrim) 4 (x := amPu 1 (amD amGst d 142 [vR 20 120 0, vI l1] M1) (fun z9 M9 => .inl (75, [vR 11 11 0, vI l1, vI l2], z9 ++ [], M9))) rfl).trans (amK_pI fun v3 M3 => ?_)
      exact amRun_b 1 (x := .inr (some (vI v3, M3))) rfl
    refine amK_if ?_ ?_
    · refine (amRun_t (f := amStep amGst (amD amGst d) cdX11_pilgrim) 4 (x := amPu 1 (amD amGst d 142 [vR 20 121 0, vI l1] M1) (fun z9 M9 => .inl (87, [vR 11 11 0, vI l1, vI l2], z9 ++ [], M9))) rfl).trans (amK_pI fun v4 M4 => ?_)
      exact amRun_b 1 (x := .inr (some (vI v4, M4))) rfl
    refine amK_if ?_ ?_
    · refine (amRun_t (f := amStep amGst (amD amGst d) cdX11_pilgrim) 4 (x := amPu 1 (amD amGst d 142 [vR 20 109 0, vI l1] M1) (fun z9 M9 => .inl (99, [vR 11 11 0, vI l1, vI l2], z9 ++ [], M9))) rfl).trans (amK_pI fun v5 M5 => ?_)
      exact amRun_b 1 (x := .inr (some (vI v5, M5))) rfl
    refine amK_if ?_ ?_
    · refine (amRun_t (f := amStep amGst (amD amGst d) cdX11_pilgrim) 4 (x := amPu 1 (amD amGst d 142 [vR 20 110 0, vI l1] M1) (fun z9 M9 => .inl (111, [vR 11 11 0, vI l1, vI l2], z9 ++ [], M9))) rfl).trans (amK_pI fun v6 M6 => ?_)
      exact amRun_b 1 (x := .inr (some (vI v6, M6))) rfl
    refine amK_if ?_ ?_
    · refine (amRun_t (f := amStep amGst (amD amGst d) cdX11_pilgrim) 4 (x := amPu 1 (amD amGst d 142 [vR 20 111 0, vI l1] M1) (fun z9 M9 => .inl (123, [vR 11 11 0, vI l1, vI l2], z9 ++ [], M9))) rfl).trans (amK_pI fun v7 M7 => ?_)
      exact amRun_b 1 (x := .inr (some (vI v7, M7))) rfl
    exact amRun_b 2 (x := .inr (some (vI (-1), M1))) rfl
theorem n_X11_pilgrim (d : Nat) (l1 : Int) (l2 : Int) (M : AmM) : amD amGst (d + 1) 112 [vR 11 11 0, vI l1, vI l2] M = e_X11_pilgrim_0 d l1 l2 M := rfl
noncomputable def e_X11_wear_0 (d : Nat) (l1 : Int) (l2 : Int) (l3 : Int) (M : AmM) : Option (AmV × AmM) := amRun (amStep amGst (amD amGst d) cdX11_wear) (0, [vR 11 11 0, vI l1, vI l2, vI l3], [], M)
theorem q_X11_wear_0 (d : Nat) (l1 : Int) (l2 : Int) (l3 : Int) (M : AmM) : e_X11_wear_0 d l1 l2 l3 M =
    amCI (amD amGst d 83 [vR 8 8 0, vI l1] M) fun v1 M1 => if v1 = 0 then (some (vI (-1), M1)) else (amCI (amD amGst d 55 [vR 6 6 0, vI l2] M1) fun v2 M2 => if v2 = 0 then (some (vI (-1), M2)) else (amCV (amD amGst d 97 [vR 10 10 0, vI l1, vI (M2 5 0 7)] M2) fun M3 => amCI (amD amGst d 57 [vR 6 6 0, vI l2] M3) fun v4 M4 => amCI (amD amGst d 106 [vR 10 10 0, vI l2, vI v4, vI (M4 6 0 3), vI l3] M4) fun v5 M5 => some (vI v5, M5))) := by
  show amRun _ _ = _
  refine (amRun_t (f := amStep amGst (amD amGst d) cdX11_wear) 3 (x := amPu 1 (amD amGst d 83 [vR 8 8 0, vI l1] M) (fun z9 M9 => .inl (8, [vR 11 11 0, vI l1, vI l2, vI l3], z9 ++ [], M9))) rfl).trans (amK_pI fun v1 M1 => ?_)
  refine (amRun_t (f := amStep amGst (amD amGst d) cdX11_wear) 0 (x := if v1 = 0 then .inl (25, [vR 11 11 0, vI l1, vI l2, vI l3], [], M1) else .inl (11, [vR 11 11 0, vI l1, vI l2, vI l3], [], M1)) rfl).trans (amK_if ?_ ?_)
  · exact amRun_b 2 (x := .inr (some (vI (-1), M1))) rfl
  · refine (amRun_t (f := amStep amGst (amD amGst d) cdX11_wear) 4 (x := amPu 1 (amD amGst d 55 [vR 6 6 0, vI l2] M1) (fun z9 M9 => .inl (22, [vR 11 11 0, vI l1, vI l2, vI l3], z9 ++ [], M9))) rfl).trans (amK_pI fun v2 M2 => ?_)
    refine (amRun_t (f := amStep amGst (amD amGst d) cdX11_wear) 0 (x := if v2 = 0 then .inl (25, [vR 11 11 0, vI l1, vI l2, vI l3], [], M2) else .inl (27, [vR 11 11 0, vI l1, vI l2, vI l3], [], M2)) rfl).trans (amK_if ?_ ?_)
    · exact amRun_b 2 (x := .inr (some (vI (-1), M2))) rfl
    · refine (amRun_t (f := amStep amGst (amD amGst d) cdX11_wear) 6 (x := amPu 0 (amD amGst d 97 [vR 10 10 0, vI l1, vI (M2 5 0 7)] M2) (fun z9 M9 => .inl (42, [vR 11 11 0, vI l1, vI l2, vI l3], z9 ++ [], M9))) rfl).trans (amK_pV fun M3 => ?_)
      refine (amRun_t (f := amStep amGst (amD amGst d) cdX11_wear) 7 (x := amPu 1 (amD amGst d 57 [vR 6 6 0, vI l2] M3) (fun z9 M9 => .inl (58, [vR 11 11 0, vI l1, vI l2, vI l3], z9 ++ [vI l2, vR 10 10 0], M9))) rfl).trans (amK_pI fun v4 M4 => ?_)
      refine (amRun_t (f := amStep amGst (amD amGst d) cdX11_wear) 5 (x := amPu 1 (amD amGst d 106 [vR 10 10 0, vI l2, vI v4, vI (M4 6 0 3), vI l3] M4) (fun z9 M9 => .inl (72, [vR 11 11 0, vI l1, vI l2, vI l3], z9 ++ [], M9))) rfl).trans (amK_pI fun v5 M5 => ?_)
      exact amRun_b 1 (x := .inr (some (vI v5, M5))) rfl
theorem n_X11_wear (d : Nat) (l1 : Int) (l2 : Int) (l3 : Int) (M : AmM) : amD amGst (d + 1) 113 [vR 11 11 0, vI l1, vI l2, vI l3] M = e_X11_wear_0 d l1 l2 l3 M := rfl
noncomputable def e_X11_go_0 (d : Nat) (l1 : Int) (M : AmM) : Option (AmV × AmM) := amRun (amStep amGst (amD amGst d) cdX11_go) (0, [vR 11 11 0, vI l1, vU], [], M)
theorem q_X11_go_0 (d : Nat) (l1 : Int) (M : AmM) : e_X11_go_0 d l1 M =
    amCI (amD amGst d 83 [vR 8 8 0, vI l1] M) fun v1 M1 => if v1 = 0 then (some (vI (-1), M1)) else (amCI (amD amGst d 48 [vR 5 5 0, vI l1] M1) fun v2 M2 => if v2 = 0 then (some (vI 3, M2)) else (amCV (amD amGst d 137 [vR 11 11 0] M2) fun M3 => amCI (amD amGst d 99 [vR 10 10 0, vR 6 6 0, vI l1, vI (M3 5 0 7)] M3) fun v4 M4 => amCV (amD amGst d 46 [vR 5 5 0, vI l1, vI v4, vI (M4 10 0 4), vI (M4 10 0 5)] M4) fun M5 => amCV (amD amGst d 139 [vR 11 11 0] M5) fun M6 => some (vI v4, M6))) := by
  show amRun _ _ = _
  refine (amRun_t (f := amStep amGst (amD amGst d) cdX11_go) 3 (x := amPu 1 (amD amGst d 83 [vR 8 8 0, vI l1] M) (fun z9 M9 => .inl (8, [vR 11 11 0, vI l1, vU], z9 ++ [], M9))) rfl).trans (amK_pI fun v1 M1 => ?_)
  refine (amRun_t (f := amStep amGst (amD amGst d) cdX11_go) 0 (x := if v1 = 0 then .inl (11, [vR 11 11 0, vI l1, vU], [], M1) else .inl (13, [vR 11 11 0, vI l1, vU], [], M1)) rfl).trans (amK_if ?_ ?_)
  · exact amRun_b 2 (x := .inr (some (vI (-1), M1))) rfl
  · refine (amRun_t (f := amStep amGst (amD amGst d) cdX11_go) 3 (x := amPu 1 (amD amGst d 48 [vR 5 5 0, vI l1] M1) (fun z9 M9 => .inl (21, [vR 11 11 0, vI l1, vU], z9 ++ [], M9))) rfl).trans (amK_pI fun v2 M2 => ?_)
    refine (amRun_t (f := amStep amGst (amD amGst d) cdX11_go) 0 (x := if v2 = 0 then .inl (24, [vR 11 11 0, vI l1, vU], [], M2) else .inl (26, [vR 11 11 0, vI l1, vU], [], M2)) rfl).trans (amK_if ?_ ?_)
    · exact amRun_b 2 (x := .inr (some (vI 3, M2))) rfl
    · refine (amRun_t (f := amStep amGst (amD amGst d) cdX11_go) 1 (x := amPu 0 (amD amGst d 137 [vR 11 11 0] M2) (fun z9 M9 => .inl (30, [vR 11 11 0, vI l1, vU], z9 ++ [], M9))) rfl).trans (amK_pV fun M3 => ?_)
      refine (amRun_t (f := amStep amGst (amD amGst d) cdX11_go) 9 (x := amPu 1 (amD amGst d 99 [vR 10 10 0, vR 6 6 0, vI l1, vI (M3 5 0 7)] M3) (fun z9 M9 => .inl (52, [vR 11 11 0, vI l1, vU], z9 ++ [], M9))) rfl).trans (amK_pI fun v4 M4 => ?_)
      refine (amRun_t (f := amStep amGst (amD amGst d) cdX11_go) 11 (x := amPu 0 (amD amGst d 46 [vR 5 5 0, vI l1, vI v4, vI (M4 10 0 4), vI (M4 10 0 5)] M4) (fun z9 M9 => .inl (76, [vR 11 11 0, vI l1, vI v4], z9 ++ [], M9))) rfl).trans (amK_pV fun M5 => ?_)
      refine (amRun_t (f := amStep amGst (amD amGst d) cdX11_go) 1 (x := amPu 0 (amD amGst d 139 [vR 11 11 0] M5) (fun z9 M9 => .inl (80, [vR 11 11 0, vI l1, vI v4], z9 ++ [], M9))) rfl).trans (amK_pV fun M6 => ?_)
      exact amRun_b 2 (x := .inr (some (vI v4, M6))) rfl
theorem n_X11_go (d : Nat) (l1 : Int) (M : AmM) : amD amGst (d + 1) 114 [vR 11 11 0, vI l1] M = e_X11_go_0 d l1 M := rfl
noncomputable def e_X11_would_0 (d : Nat) (l1 : Int) (l2 : Int) (M : AmM) : Option (AmV × AmM) := amRun (amStep amGst (amD amGst d) cdX11_would) (0, [vR 11 11 0, vI l1, vI l2, vU, vU, vU], [], M)
noncomputable def e_X11_would_103 (d : Nat) (l1 : Int) (l2 : Int) (l3 : Int) (l4 : Int) (l5 : Int) (M : AmM) : Option (AmV × AmM) := amRun (amStep amGst (amD amGst d) cdX11_would) (103, [vR 11 11 0, vI l1, vI l2, vI l3, vI l4, vI l5], [], M)
theorem q_X11_would_0 (d : Nat) (l1 : Int) (l2 : Int) (M : AmM) : e_X11_would_0 d l1 l2 M =
    amCI (amD amGst d 83 [vR 8 8 0, vI l1] M) fun v1 M1 => if v1 = 0 then (some (vI (-1), M1)) else (if l2 < 0 then (some (vI (-1), M1)) else (if 2 < l2 then (some (vI (-1), M1)) else (amCI (amD amGst d 142 [vR 20 108 0, vI l1] M1) fun v2 M2 => amCI (amD amGst d 48 [vR 5 5 0, vI l1] M2) fun v3 M3 => if v3 = 0 then (e_X11_would_103 d l1 l2 3 v2 0 M3) else (amCV (amD amGst d 53 [vR 6 6 44, vR 6 6 0] M3) fun M4 => amCI (amD amGst d 99 [vR 10 10 0, vR 6 6 44, vI l1, vI (M4 5 0 7)] M4) fun v5 M5 => e_X11_would_103 d l1 l2 v5 (M5 10 0 4) (M5 10 0 5) M5)))) := by
  show amRun _ _ = _
  refine (amRun_t (f := amStep amGst (amD amGst d) cdX11_would) 3 (x := amPu 1 (amD amGst d 83 [vR 8 8 0, vI l1] M) (fun z9 M9 => .inl (8, [vR 11 11 0, vI l1, vI l2, vU, vU, vU], z9 ++ [], M9))) rfl).trans (amK_pI fun v1 M1 => ?_)
  refine (amRun_t (f := amStep amGst (amD amGst d) cdX11_would) 0 (x := if v1 = 0 then .inl (20, [vR 11 11 0, vI l1, vI l2, vU, vU, vU], [], M1) else .inl (11, [vR 11 11 0, vI l1, vI l2, vU, vU, vU], [], M1)) rfl).trans (amK_if ?_ ?_)
  · exact amRun_b 2 (x := .inr (some (vI (-1), M1))) rfl
  · refine (amRun_t (f := amStep amGst (amD amGst d) cdX11_would) 1 (x := if l2 < 0 then .inl (20, [vR 11 11 0, vI l1, vI l2, vU, vU, vU], [], M1) else .inl (15, [vR 11 11 0, vI l1, vI l2, vU, vU, vU], [], M1)) rfl).trans (amK_if ?_ ?_)
    · exact amRun_b 2 (x := .inr (some (vI (-1), M1))) rfl
    · refine (amRun_t (f := amStep amGst (amD amGst d) cdX11_would) 2 (x := if 2 < l2 then .inl (20, [vR 11 11 0, vI l1, vI l2, vU, vU, vU], [], M1) else .inl (22, [vR 11 11 0, vI l1, vI l2, vU, vU, vU], [], M1)) rfl).trans (amK_if ?_ ?_)
      · exact amRun_b 2 (x := .inr (some (vI (-1), M1))) rfl
      · refine (amRun_t (f := amStep amGst (amD amGst d) cdX11_would) 6 (x := amPu 1 (amD amGst d 142 [vR 20 108 0, vI l1] M1) (fun z9 M9 => .inl (35, [vR 11 11 0, vI l1, vI l2, vI 3, vU, vU], z9 ++ [], M9))) rfl).trans (amK_pI fun v2 M2 => ?_)
        refine (amRun_t (f := amStep amGst (amD amGst d) cdX11_would) 6 (x := amPu 1 (amD amGst d 48 [vR 5 5 0, vI l1] M2) (fun z9 M9 => .inl (48, [vR 11 11 0, vI l1, vI l2, vI 3, vI v2, vI 0], z9 ++ [], M9))) rfl).trans (amK_pI fun v3 M3 => ?_)
        refine (amRun_t (f := amStep amGst (amD amGst d) cdX11_would) 0 (x := if v3 = 0 then .inl (103, [vR 11 11 0, vI l1, vI l2, vI 3, vI v2, vI 0], [], M3) else .inl (51, [vR 11 11 0, vI l1, vI l2, vI 3, vI v2, vI 0], [], M3)) rfl).trans (amK_if ?_ ?_)
        · exact amRun_b 0 (x := .inl (103, [vR 11 11 0, vI l1, vI l2, vI 3, vI v2, vI 0], [], M3)) rfl
        · refine (amRun_t (f := amStep amGst (amD amGst d) cdX11_would) 5 (x := amPu 0 (amD amGst d 53 [vR 6 6 44, vR 6 6 0] M3) (fun z9 M9 => .inl (65, [vR 11 11 0, vI l1, vI l2, vI 3, vI v2, vI 0], z9 ++ [], M9))) rfl).trans (amK_pV fun M4 => ?_)
          refine (amRun_t (f := amStep amGst (amD amGst d) cdX11_would) 8 (x := amPu 1 (amD amGst d 99 [vR 10 10 0, vR 6 6 44, vI l1, vI (M4 5 0 7)] M4) (fun z9 M9 => .inl (84, [vR 11 11 0, vI l1, vI l2, vI 3, vI v2, vI 0], z9 ++ [], M9))) rfl).trans (amK_pI fun v5 M5 => ?_)
          exact amRun_b 9 (x := .inl (103, [vR 11 11 0, vI l1, vI l2, vI v5, vI (M5 10 0 4), vI (M5 10 0 5)], [], M5)) rfl
theorem q_X11_would_103 (d : Nat) (l1 : Int) (l2 : Int) (l3 : Int) (l4 : Int) (l5 : Int) (M : AmM) : e_X11_would_103 d l1 l2 l3 l4 l5 M =
    if l2 = 0 then (some (vI l3, M)) else (if l2 = 1 then (some (vI l4, M)) else (some (vI l5, M))) := by
  show amRun _ _ = _
  refine (amRun_t (f := amStep amGst (amD amGst d) cdX11_would) 1 (x := if l2 = 0 then .inl (107, [vR 11 11 0, vI l1, vI l2, vI l3, vI l4, vI l5], [], M) else .inl (111, [vR 11 11 0, vI l1, vI l2, vI l3, vI l4, vI l5], [], M)) rfl).trans (amK_if ?_ ?_)
  · exact amRun_b 3 (x := .inr (some (vI l3, M))) rfl
  · refine (amRun_t (f := amStep amGst (amD amGst d) cdX11_would) 2 (x := if l2 = 1 then .inl (116, [vR 11 11 0, vI l1, vI l2, vI l3, vI l4, vI l5], [], M) else .inl (121, [vR 11 11 0, vI l1, vI l2, vI l3, vI l4, vI l5], [], M)) rfl).trans (amK_if ?_ ?_)
    · exact amRun_b 3 (x := .inr (some (vI l4, M))) rfl
    · exact amRun_b 2 (x := .inr (some (vI l5, M))) rfl
theorem n_X11_would (d : Nat) (l1 : Int) (l2 : Int) (M : AmM) : amD amGst (d + 1) 115 [vR 11 11 0, vI l1, vI l2] M = e_X11_would_0 d l1 l2 M := rfl
noncomputable def e_X11_night_0 (d : Nat) (l1 : Int) (M : AmM) : Option (AmV × AmM) := amRun (amStep amGst (amD amGst d) cdX11_night) (0, [vR 11 11 0, vI l1, vU], [], M)
noncomputable def e_X11_night_22 (d : Nat) (l1 : Int) (l2 : Int) (M : AmM) : Option (AmV × AmM) := amRun (amStep amGst (amD amGst d) cdX11_night) (22, [vR 11 11 0, vI l1, vI l2], [], M)
theorem q_X11_night_0 (d : Nat) (l1 : Int) (M : AmM) : e_X11_night_0 d l1 M =
    if l1 < 0 then (some (vI (-1), M)) else (if 100 < l1 then (some (vI (-1), M)) else (if 0 < l1 then (amCV (amD amGst d 137 [vR 11 11 0] M) fun M1 => e_X11_night_22 d l1 0 M1) else (some (vI (M 5 0 7), M)))) := by
  show amRun _ _ = _
  refine (amRun_t (f := amStep amGst (amD amGst d) cdX11_night) 1 (x := if l1 < 0 then .inl (10, [vR 11 11 0, vI l1, vU], [], M) else .inl (4, [vR 11 11 0, vI l1, vU], [], M)) rfl).trans (amK_if ?_ ?_)
  · exact amRun_b 2 (x := .inr (some (vI (-1), M))) rfl
  · refine (amRun_t (f := amStep amGst (amD amGst d) cdX11_night) 2 (x := if 100 < l1 then .inl (10, [vR 11 11 0, vI l1, vU], [], M) else .inl (12, [vR 11 11 0, vI l1, vU], [], M)) rfl).trans (amK_if ?_ ?_)
    · exact amRun_b 2 (x := .inr (some (vI (-1), M))) rfl
    · refine (amRun_t (f := amStep amGst (amD amGst d) cdX11_night) 1 (x := if 0 < l1 then .inl (16, [vR 11 11 0, vI l1, vU], [], M) else .inl (44, [vR 11 11 0, vI l1, vU], [], M)) rfl).trans (amK_if ?_ ?_)
      · refine (amRun_t (f := amStep amGst (amD amGst d) cdX11_night) 1 (x := amPu 0 (amD amGst d 137 [vR 11 11 0] M) (fun z9 M9 => .inl (20, [vR 11 11 0, vI l1, vU], z9 ++ [], M9))) rfl).trans (amK_pV fun M1 => ?_)
        exact amRun_b 2 (x := .inl (22, [vR 11 11 0, vI l1, vI 0], [], M1)) rfl
      · exact amRun_b 4 (x := .inr (some (vI (M 5 0 7), M))) rfl
theorem q_X11_night_22 (d : Nat) (l1 : Int) (l2 : Int) (M : AmM) : e_X11_night_22 d l1 l2 M =
    if l2 < l1 then (amCV (amD amGst d 47 [vR 5 5 0] M) fun M1 => e_X11_night_22 d l1 (w32 (l2 + 1)) M1) else (amCV (amD amGst d 139 [vR 11 11 0] M) fun M2 => some (vI (M2 5 0 7), M2)) := by
  show amRun _ _ = _
  refine (amRun_t (f := amStep amGst (amD amGst d) cdX11_night) 2 (x := if l2 < l1 then .inl (27, [vR 11 11 0, vI l1, vI l2], [], M) else .inl (40, [vR 11 11 0, vI l1, vI l2], [], M)) rfl).trans (amK_if ?_ ?_)
  · refine (amRun_t (f := amStep amGst (amD amGst d) cdX11_night) 2 (x := amPu 0 (amD amGst d 47 [vR 5 5 0] M) (fun z9 M9 => .inl (34, [vR 11 11 0, vI l1, vI l2], z9 ++ [], M9))) rfl).trans (amK_pV fun M1 => ?_)
    exact amRun_b 2 (x := .inl (22, [vR 11 11 0, vI l1, vI (w32 (l2 + 1))], [], M1)) rfl
  · refine (amRun_t (f := amStep amGst (amD amGst d) cdX11_night) 1 (x := amPu 0 (amD amGst d 139 [vR 11 11 0] M) (fun z9 M9 => .inl (44, [vR 11 11 0, vI l1, vI l2], z9 ++ [], M9))) rfl).trans (amK_pV fun M2 => ?_)
    exact amRun_b 4 (x := .inr (some (vI (M2 5 0 7), M2))) rfl
theorem n_X11_night (d : Nat) (l1 : Int) (M : AmM) : amD amGst (d + 1) 116 [vR 11 11 0, vI l1] M = e_X11_night_0 d l1 M := rfl
noncomputable def e_X11_mend_0 (d : Nat) (l1 : Int) (l2 : Int) (M : AmM) : Option (AmV × AmM) := amRun (amStep amGst (amD amGst d) cdX11_mend) (0, [vR 11 11 0, vI l1, vI l2, vU], [], M)
theorem q_X11_mend_0 (d : Nat) (l1 : Int) (l2 : Int) (M : AmM) : e_X11_mend_0 d l1 l2 M =
    amCI (amD amGst d 55 [vR 6 6 0, vI l1] M) fun v1 M1 => if v1 = 0 then (some (vI (-1), M1)) else (if l2 < 1 then (some (vI (-1), M1)) else (amCI (amD amGst d 57 [vR 6 6 0, vI l1] M1) fun v2 M2 => if M2 5 0 6 < l2 then (some (vI (-2), M2)) else (amCI (amD amGst d 142 [vR 20 118 0, vI l1] M2) fun v3 M3 => if w32 (v3 - v2) < l2 then (some (vI (-2), M3)) else (amCV (amD amGst d 137 [vR 11 11 0] M3) fun M4 => amCV (amD amGst d 60 [vR 6 6 0, vI l1, vI (w32 (v2 + l2))] M4) fun M5 => amCV (amD amGst d 139 [vR 11 11 0] (amUp M5 5 0 6 (w32 ((M5 5 0 6) - l2)))) fun M6 => some (vI (M6 5 0 6), M6))))) := by
  show amRun _ _ = _
  refine (amRun_t (f := amStep amGst (amD amGst d) cdX11_mend) 4 (x := amPu 1 (amD amGst d 55 [vR 6 6 0, vI l1] M) (fun z9 M9 => .inl (11, [vR 11 11 0, vI l1, vI l2, vU], z9 ++ [], M9))) rfl).trans (amK_pI fun v1 M1 => ?_)
  refine (amRun_t (f := amStep amGst (amD amGst d) cdX11_mend) 0 (x := if v1 = 0 then .inl (19, [vR 11 11 0, vI l1, vI l2, vU], [], M1) else .inl (14, [vR 11 11 0, vI l1, vI l2, vU], [], M1)) rfl).trans (amK_if ?_ ?_)
  · exact amRun_b 2 (x := .inr (some (vI (-1), M1))) rfl
  · refine (amRun_t (f := amStep amGst (amD amGst d) cdX11_mend) 2 (x := if l2 < 1 then .inl (19, [vR 11 11 0, vI l1, vI l2, vU], [], M1) else .inl (21, [vR 11 11 0, vI l1, vI l2, vU], [], M1)) rfl).trans (amK_if ?_ ?_)
    · exact amRun_b 2 (x := .inr (some (vI (-1), M1))) rfl
    · refine (amRun_t (f := amStep amGst (amD amGst d) cdX11_mend) 4 (x := amPu 1 (amD amGst d 57 [vR 6 6 0, vI l1] M1) (fun z9 M9 => .inl (32, [vR 11 11 0, vI l1, vI l2, vU], z9 ++ [], M9))) rfl).trans (amK_pI fun v2 M2 => ?_)
      refine (amRun_t (f := amStep amGst (amD amGst d) cdX11_mend) 5 (x := if M2 5 0 6 < l2 then .inl (61, [vR 11 11 0, vI l1, vI l2, vI v2], [], M2) else .inl (44, [vR 11 11 0, vI l1, vI l2, vI v2], [], M2)) rfl).trans (amK_if ?_ ?_)
      · exact amRun_b 2 (x := .inr (some (vI (-2), M2))) rfl
      · refine (amRun_t (f := amStep amGst (amD amGst d) cdX11_mend) 5 (x := amPu 1 (amD amGst d 142 [vR 20 118 0, vI l1] M2) (fun z9 M9 => .inl (56, [vR 11 11 0, vI l1, vI l2, vI v2], z9 ++ [vI l2], M9))) rfl).trans (amK_pI fun v3 M3 => ?_)
        refine (amRun_t (f := amStep amGst (amD amGst d) cdX11_mend) 2 (x := if w32 (v3 - v2) < l2 then .inl (61, [vR 11 11 0, vI l1, vI l2, vI v2], [], M3) else .inl (64, [vR 11 11 0, vI l1, vI l2, vI v2], [], M3)) rfl).trans (amK_if ?_ ?_)
        · exact amRun_b 2 (x := .inr (some (vI (-2), M3))) rfl
        · refine (amRun_t (f := amStep amGst (amD amGst d) cdX11_mend) 1 (x := amPu 0 (amD amGst d 137 [vR 11 11 0] M3) (fun z9 M9 => .inl (68, [vR 11 11 0, vI l1, vI l2, vI v2], z9 ++ [], M9))) rfl).trans (amK_pV fun M4 => ?_)
          refine (amRun_t (f := amStep amGst (amD amGst d) cdX11_mend) 7 (x := amPu 0 (amD amGst d 60 [vR 6 6 0, vI l1, vI (w32 (v2 + l2))] M4) (fun z9 M9 => .inl (82, [vR 11 11 0, vI l1, vI l2, vI v2], z9 ++ [], M9))) rfl).trans (amK_pV fun M5 => ?_)
          refine (amRun_t (f := amStep amGst (amD amGst d) cdX11_mend) 8 (x := amPu 0 (amD amGst d 139 [vR 11 11 0] (amUp M5 5 0 6 (w32 ((M5 5 0 6) - l2)))) (fun z9 M9 => .inl (99, [vR 11 11 0, vI l1, vI l2, vI v2], z9 ++ [], M9))) rfl).trans (amK_pV fun M6 => ?_)
          exact amRun_b 4 (x := .inr (some (vI (M6 5 0 6), M6))) rfl
theorem n_X11_mend (d : Nat) (l1 : Int) (l2 : Int) (M : AmM) : amD amGst (d + 1) 117 [vR 11 11 0, vI l1, vI l2] M = e_X11_mend_0 d l1 l2 M := rfl
noncomputable def e_X11_undo_0 (d : Nat) (M : AmM) : Option (AmV × AmM) := amRun (amStep amGst (amD amGst d) cdX11_undo) (0, [vR 11 11 0], [], M)
noncomputable def e_X11_undo_35 (d : Nat) (M : AmM) : Option (AmV × AmM) := amRun (amStep amGst (amD amGst d) cdX11_undo) (35, [vR 11 11 0], [], M)
theorem q_X11_undo_0 (d : Nat) (M : AmM) : e_X11_undo_0 d M =
    if 0 < M 11 0 13 then (if (40 : Int) = 0 then none else (e_X11_undo_35 d (amUp (amUp M 11 0 13 (w32 ((M 11 0 13) - 1))) 11 0 14 (Int.tmod (w32 ((w32 (((amUp M 11 0 13 (w32 ((M 11 0 13) - 1))) 11 0 14) + 40)) - 1)) 40)))) else (some (vI 0, M)) := by
  show amRun _ _ = _
  refine (amRun_t (f := amStep amGst (amD amGst d) cdX11_undo) 2 (x := if 0 < M 11 0 13 then .inl (9, [vR 11 11 0], [], M) else .inl (7, [vR 11 11 0], [], M)) rfl).trans (amK_if ?_ ?_)
  · refine (amRun_t (f := amStep amGst (amD amGst d) cdX11_undo) 14 (x := if (40 : Int) = 0 then amNo else .inl (32, [vR 11 11 0], [vI (Int.tmod (w32 ((w32 (((amUp M 11 0 13 (w32 ((M 11 0 13) - 1))) 11 0 14) + 40)) - 1)) 40), vR 11 11 0], amUp M 11 0 13 (w32 ((M 11 0 13) - 1)))) rfl).trans (amK_if rfl ?_)
    exact amRun_b 1 (x := .inl (35, [vR 11 11 0], [], amUp (amUp M 11 0 13 (w32 ((M 11 0 13) - 1))) 11 0 14 (Int.tmod (w32 ((w32 (((amUp M 11 0 13 (w32 ((M 11 0 13) - 1))) 11 0 14) + 40)) - 1)) 40))) rfl
  · exact amRun_b 2 (x := .inr (some (vI 0, M))) rfl
theorem q_X11_undo_35 (d : Nat) (M : AmM) : e_X11_undo_35 d M =
    amCI (amD amGst d 138 [vR 11 11 0, vR 24 126 0, vI (M 11 0 14)] M) fun v1 M1 => bif amZ v1 then some (vI v1, M1) else none := by
  show amRun _ _ = _
  refine (amRun_t (f := amStep amGst (amD amGst d) cdX11_undo) 5 (x := amPu 1 (amD amGst d 138 [vR 11 11 0, vR 24 126 0, vI (M 11 0 14)] M) (fun z9 M9 => .inl (47, [vR 11 11 0], z9 ++ [], M9))) rfl).trans (amK_pI fun v1 M1 => ?_)
  exact (amRun_t 0 (x := bif amZ v1 then .inr (some (vI v1, M1)) else amNo) rfl).trans (amK_bif rfl rfl)
theorem n_X11_undo (d : Nat) (M : AmM) : amD amGst (d + 1) 118 [vR 11 11 0] M = e_X11_undo_0 d M := rfl
noncomputable def e_X11_order_0 (d : Nat) (l1 : Int) (l2 : Int) (M : AmM) : Option (AmV × AmM) := amRun (amStep amGst (amD amGst d) cdX11_order) (0, [vR 11 11 0, vI l1, vI l2], [], M)
theorem q_X11_order_0 (d : Nat) (l1 : Int) (l2 : Int) (M : AmM) : e_X11_order_0 d l1 l2 M =
    amCI (amD amGst d 140 [vR 11 11 0, vI l1] M) fun v1 M1 => if v1 = 0 then (some (vI (-1), M1)) else (if l2 < 0 then (some (vI (-1), M1)) else (if 1 < l2 then (some (vI (-1), M1)) else (amCI (amD amGst d 244 [vI l1] M1) fun v2 M2 => if 7 < v2 then (some (vI (-2), M2)) else (amCV (amD amGst d 26 [vR 3 3 0, vR 5 5 0, vI l1] M2) fun M3 => if l2 = 0 then (some (vI (M3 3 0 7), M3)) else (some (vI (M3 3 0 8), M3)))))) := by
  show amRun _ _ = _
  refine (amRun_t (f := amStep amGst (amD amGst d) cdX11_order) 2 (x := amPu 1 (amD amGst d 140 [vR 11 11 0, vI l1] M) (fun z9 M9 => .inl (5, [vR 11 11 0, vI l1, vI l2], z9 ++ [], M9))) rfl).trans (amK_pI fun v1 M1 => ?_)
  refine (amRun_t (f := amStep amGst (amD amGst d) cdX11_order) 0 (x := if v1 = 0 then .inl (17, [vR 11 11 0, vI l1, vI l2], [], M1) else .inl (8, [vR 11 11 0, vI l1, vI l2], [], M1)) rfl).trans (amK_if ?_ ?_)
  · exact amRun_b 2 (x := .inr (some (vI (-1), M1))) rfl
  · refine (amRun_t (f := amStep amGst (amD amGst d) cdX11_order) 1 (x := if l2 < 0 then .inl (17, [vR 11 11 0, vI l1, vI l2], [], M1) else .inl (12, [vR 11 11 0, vI l1, vI l2], [], M1)) rfl).trans (amK_if ?_ ?_)
    · exact amRun_b 2 (x := .inr (some (vI (-1), M1))) rfl
    · refine (amRun_t (f := amStep amGst (amD amGst d) cdX11_order) 2 (x := if 1 < l2 then .inl (17, [vR 11 11 0, vI l1, vI l2], [], M1) else .inl (19, [vR 11 11 0, vI l1, vI l2], [], M1)) rfl).trans (amK_if ?_ ?_)
      · exact amRun_b 2 (x := .inr (some (vI (-1), M1))) rfl
      · refine (amRun_t (f := amStep amGst (amD amGst d) cdX11_order) 1 (x := amPu 1 (amD amGst d 244 [vI l1] M1) (fun z9 M9 => .inl (23, [vR 11 11 0, vI l1, vI l2], z9 ++ [], M9))) rfl).trans (amK_pI fun v2 M2 => ?_)
        refine (amRun_t (f := amStep amGst (amD amGst d) cdX11_order) 1 (x := if 7 < v2 then .inl (28, [vR 11 11 0, vI l1, vI l2], [], M2) else .inl (31, [vR 11 11 0, vI l1, vI l2], [], M2)) rfl).trans (amK_if ?_ ?_)
        · exact amRun_b 2 (x := .inr (some (vI (-2), M2))) rfl
        · refine (amRun_t (f := amStep amGst (amD amGst d) cdX11_order) 5 (x := amPu 0 (amD amGst d 26 [vR 3 3 0, vR 5 5 0, vI l1] M2) (fun z9 M9 => .inl (43, [vR 11 11 0, vI l1, vI l2], z9 ++ [], M9))) rfl).trans (amK_pV fun M3 => ?_)
          refine (amRun_t (f := amStep amGst (amD amGst d) cdX11_order) 1 (x := if l2 = 0 then .inl (47, [vR 11 11 0, vI l1, vI l2], [], M3) else .inl (57, [vR 11 11 0, vI l1, vI l2], [], M3)) rfl).trans (amK_if ?_ ?_)
          · exact amRun_b 5 (x := .inr (some (vI (M3 3 0 7), M3))) rfl
          · exact amRun_b 4 (x := .inr (some (vI (M3 3 0 8), M3))) rfl
theorem n_X11_order (d : Nat) (l1 : Int) (l2 : Int) (M : AmM) : amD amGst (d + 1) 119 [vR 11 11 0, vI l1, vI l2] M = e_X11_order_0 d l1 l2 M := rfl
noncomputable def e_X11_orderAt_0 (d : Nat) (l1 : Int) (l2 : Int) (M : AmM) : Option (AmV × AmM) := amRun (amStep amGst (amD amGst d) cdX11_orderAt) (0, [vR 11 11 0, vI l1, vI l2, vU], [], M)
theorem q_X11_orderAt_0 (d : Nat) (l1 : Int) (l2 : Int) (M : AmM) : e_X11_orderAt_0 d l1 l2 M =
    amCI (amD amGst d 244 [vI l1] M) fun v1 M1 => amCI (amD amGst d 140 [vR 11 11 0, vI l1] M1) fun v2 M2 => if v2 = 0 then (some (vI (-1), M2)) else (if l2 < 0 then (some (vI (-1), M2)) else (if l2 < v1 then (if 7 < v1 then (some (vI (-2), M2)) else (amCV (amD amGst d 26 [vR 3 3 0, vR 5 5 0, vI l1] M2) fun M3 => amCI (amD amGst d 142 [vR 20 106 0, vI l2] M3) fun v4 M4 => some (vI v4, M4))) else (some (vI (-1), M2)))) := by
  show amRun _ _ = _
  refine (amRun_t (f := amStep amGst (amD amGst d) cdX11_orderAt) 1 (x := amPu 1 (amD amGst d 244 [vI l1] M) (fun z9 M9 => .inl (4, [vR 11 11 0, vI l1, vI l2, vU], z9 ++ [], M9))) rfl).trans (amK_pI fun v1 M1 => ?_)
  refine (amRun_t (f := amStep amGst (amD amGst d) cdX11_orderAt) 3 (x := amPu 1 (amD amGst d 140 [vR 11 11 0, vI l1] M1) (fun z9 M9 => .inl (10, [vR 11 11 0, vI l1, vI l2, vI v1], z9 ++ [], M9))) rfl).trans (amK_pI fun v2 M2 => ?_)
  refine (amRun_t (f := amStep amGst (amD amGst d) cdX11_orderAt) 0 (x := if v2 = 0 then .inl (22, [vR 11 11 0, vI l1, vI l2, vI v1], [], M2) else .inl (13, [vR 11 11 0, vI l1, vI l2, vI v1], [], M2)) rfl).trans (amK_if ?_ ?_)
  · exact amRun_b 2 (x := .inr (some (vI (-1), M2))) rfl
  · refine (amRun_t (f := amStep amGst (amD amGst d) cdX11_orderAt) 1 (x := if l2 < 0 then .inl (22, [vR 11 11 0, vI l1, vI l2, vI v1], [], M2) else .inl (17, [vR 11 11 0, vI l1, vI l2, vI v1], [], M2)) rfl).trans (amK_if ?_ ?_)
    · exact amRun_b 2 (x := .inr (some (vI (-1), M2))) rfl
    · refine (amRun_t (f := amStep amGst (amD amGst d) cdX11_orderAt) 2 (x := if l2 < v1 then .inl (24, [vR 11 11 0, vI l1, vI l2, vI v1], [], M2) else .inl (22, [vR 11 11 0, vI l1, vI l2, vI v1], [], M2)) rfl).trans (amK_if ?_ ?_)
      · refine (amRun_t (f := amStep amGst (amD amGst d) cdX11_orderAt) 2 (x := if 7 < v1 then .inl (30, [vR 11 11 0, vI l1, vI l2, vI v1], [], M2) else .inl (33, [vR 11 11 0, vI l1, vI l2, vI v1], [], M2)) rfl).trans (amK_if ?_ ?_)
        · exact amRun_b 2 (x := .inr (some (vI (-2), M2))) rfl
        · refine (amRun_t (f := amStep amGst (amD amGst d) cdX11_orderAt) 5 (x := amPu 0 (amD amGst d 26 [vR 3 3 0, vR 5 5 0, vI l1] M2) (fun z9 M9 => .inl (45, [vR 11 11 0, vI l1, vI l2, vI v1], z9 ++ [], M9))) rfl).trans (amK_pV fun M3 => ?_)
          refine (amRun_t (f := amStep amGst (amD amGst d) cdX11_orderAt) 4 (x := amPu 1 (amD amGst d 142 [vR 20 106 0, vI l2] M3) (fun z9 M9 => .inl (56, [vR 11 11 0, vI l1, vI l2, vI v1], z9 ++ [], M9))) rfl).trans (amK_pI fun v4 M4 => ?_)
          exact amRun_b 1 (x := .inr (some (vI v4, M4))) rfl
      · exact amRun_b 2 (x := .inr (some (vI (-1), M2))) rfl
theorem n_X11_orderAt (d : Nat) (l1 : Int) (l2 : Int) (M : AmM) : amD amGst (d + 1) 120 [vR 11 11 0, vI l1, vI l2] M = e_X11_orderAt_0 d l1 l2 M := rfl
noncomputable def e_X11_need_0 (d : Nat) (l1 : Int) (l2 : Int) (M : AmM) : Option (AmV × AmM) := amRun (amStep amGst (amD amGst d) cdX11_need) (0, [vR 11 11 0, vI l1, vI l2], [], M)
theorem q_X11_need_0 (d : Nat) (l1 : Int) (l2 : Int) (M : AmM) : e_X11_need_0 d l1 l2 M =
    amCI (amD amGst d 140 [vR 11 11 0, vI l1] M) fun v1 M1 => if v1 = 0 then (some (vI (-1), M1)) else (if l2 = (-1) then (amCI (amD amGst d 18 [vR 2 2 0, vR 5 5 0, vI l1] M1) fun v2 M2 => some (vI v2, M2)) else (amCI (amD amGst d 55 [vR 6 6 0, vI l2] M1) fun v3 M3 => if v3 = 0 then (some (vI (-1), M3)) else (amCI (amD amGst d 19 [vR 2 2 0, vR 5 5 0, vI l1, vI l2] M3) fun v4 M4 => some (vI v4, M4)))) := by
  show amRun _ _ = _
  refine (amRun_t (f := amStep amGst (amD amGst d) cdX11_need) 2 (x := amPu 1 (amD amGst d 140 [vR 11 11 0, vI l1] M) (fun z9 M9 => .inl (5, [vR 11 11 0, vI l1, vI l2], z9 ++ [], M9))) rfl).trans (amK_pI fun v1 M1 => ?_)
  refine (amRun_t (f := amStep amGst (amD amGst d) cdX11_need) 0 (x := if v1 = 0 then .inl (8, [vR 11 11 0, vI l1, vI l2], [], M1) else .inl (10, [vR 11 11 0, vI l1, vI l2], [], M1)) rfl).trans (amK_if ?_ ?_)
  · exact amRun_b 2 (x := .inr (some (vI (-1), M1))) rfl
  · refine (amRun_t (f := amStep amGst (amD amGst d) cdX11_need) 2 (x := if l2 = (-1) then .inl (15, [vR 11 11 0, vI l1, vI l2], [], M1) else .inl (28, [vR 11 11 0, vI l1, vI l2], [], M1)) rfl).trans (amK_if ?_ ?_)
    · refine (amRun_t (f := amStep amGst (amD amGst d) cdX11_need) 5 (x := amPu 1 (amD amGst d 18 [vR 2 2 0, vR 5 5 0, vI l1] M1) (fun z9 M9 => .inl (27, [vR 11 11 0, vI l1, vI l2], z9 ++ [], M9))) rfl).trans (amK_pI fun v2 M2 => ?_)
      exact amRun_b 1 (x := .inr (some (vI v2, M2))) rfl
    · refine (amRun_t (f := amStep amGst (amD amGst d) cdX11_need) 4 (x := amPu 1 (amD amGst d 55 [vR 6 6 0, vI l2] M1) (fun z9 M9 => .inl (39, [vR 11 11 0, vI l1, vI l2], z9 ++ [], M9))) rfl).trans (amK_pI fun v3 M3 => ?_)
      refine (amRun_t (f := amStep amGst (amD amGst d) cdX11_need) 0 (x := if v3 = 0 then .inl (58, [vR 11 11 0, vI l1, vI l2], [], M3) else .inl (42, [vR 11 11 0, vI l1, vI l2], [], M3)) rfl).trans (amK_if ?_ ?_)
      · exact amRun_b 2 (x := .inr (some (vI (-1), M3))) rfl
      · refine (amRun_t (f := amStep amGst (amD amGst d) cdX11_need) 6 (x := amPu 1 (amD amGst d 19 [vR 2 2 0, vR 5 5 0, vI l1, vI l2] M3) (fun z9 M9 => .inl (55, [vR 11 11 0, vI l1, vI l2], z9 ++ [], M9))) rfl).trans (amK_pI fun v4 M4 => ?_)
        exact amRun_b 2 (x := .inr (some (vI v4, M4))) rfl
theorem n_X11_need (d : Nat) (l1 : Int) (l2 : Int) (M : AmM) : amD amGst (d + 1) 121 [vR 11 11 0, vI l1, vI l2] M = e_X11_need_0 d l1 l2 M := rfl
noncomputable def e_X11_bears_0 (d : Nat) (l1 : Int) (M : AmM) : Option (AmV × AmM) := amRun (amStep amGst (amD amGst d) cdX11_bears) (0, [vR 11 11 0, vI l1], [], M)
theorem q_X11_bears_0 (d : Nat) (l1 : Int) (M : AmM) : e_X11_bears_0 d l1 M =
    amCI (amD amGst d 140 [vR 11 11 0, vI l1] M) fun v1 M1 => if v1 = 0 then (some (vI (-1), M1)) else (amCI (amD amGst d 1 [vR 0 0 0, vR 5 5 0, vI l1] M1) fun v2 M2 => if v2 = 0 then (some (vI 0, M2)) else (some (vI 1, M2))) := by
  show amRun _ _ = _
  refine (amRun_t (f := amStep amGst (amD amGst d) cdX11_bears) 2 (x := amPu 1 (amD amGst d 140 [vR 11 11 0, vI l1] M) (fun z9 M9 => .inl (5, [vR 11 11 0, vI l1], z9 ++ [], M9))) rfl).trans (amK_pI fun v1 M1 => ?_)
  refine (amRun_t (f := amStep amGst (amD amGst d) cdX11_bears) 0 (x := if v1 = 0 then .inl (8, [vR 11 11 0, vI l1], [], M1) else .inl (10, [vR 11 11 0, vI l1], [], M1)) rfl).trans (amK_if ?_ ?_)
  · exact amRun_b 2 (x := .inr (some (vI (-1), M1))) rfl
  · refine (amRun_t (f := amStep amGst (amD amGst d) cdX11_bears) 5 (x := amPu 1 (amD amGst d 1 [vR 0 0 0, vR 5 5 0, vI l1] M1) (fun z9 M9 => .inl (22, [vR 11 11 0, vI l1], z9 ++ [], M9))) rfl).trans (amK_pI fun v2 M2 => ?_)
    refine (amRun_t (f := amStep amGst (amD amGst d) cdX11_bears) 0 (x := if v2 = 0 then .inl (29, [vR 11 11 0, vI l1], [], M2) else .inl (25, [vR 11 11 0, vI l1], [], M2)) rfl).trans (amK_if ?_ ?_)
    · exact amRun_b 2 (x := .inr (some (vI 0, M2))) rfl
    · exact amRun_b 3 (x := .inr (some (vI 1, M2))) rfl
theorem n_X11_bears (d : Nat) (l1 : Int) (M : AmM) : amD amGst (d + 1) 122 [vR 11 11 0, vI l1] M = e_X11_bears_0 d l1 M := rfl
noncomputable def e_X11_odds_0 (d : Nat) (l1 : Int) (l2 : Int) (l3 : Int) (l4 : Int) (l5 : Int) (M : AmM) : Option (AmV × AmM) := amRun (amStep amGst (amD amGst d) cdX11_odds) (0, [vR 11 11 0, vI l1, vI l2, vI l3, vI l4, vI l5, vU, vU], [], M)
noncomputable def e_X11_odds_24 (d : Nat) (l1 : Int) (l2 : Int) (l3 : Int) (l4 : Int) (l5 : Int) (M : AmM) : Option (AmV × AmM) := amRun (amStep amGst (amD amGst d) cdX11_odds) (24, [vR 11 11 0, vI l1, vI l2, vI l3, vI l4, vI l5, vU, vU], [], M)
noncomputable def e_X11_odds_56 (d : Nat) (l1 : Int) (l2 : Int) (l3 : Int) (l4 : Int) (l5 : Int) (l6 : Int) (M : AmM) : Option (AmV × AmM) := amRun (amStep amGst (amD amGst d) cdX11_odds) (56, [vR 11 11 0, vI l1, vI l2, vI l3, vI l4, vI l5, vI l6, vU], [], M)
theorem q_X11_odds_0 (d : Nat) (l1 : Int) (l2 : Int) (l3 : Int) (l4 : Int) (l5 : Int) (M : AmM) : e_X11_odds_0 d l1 l2 l3 l4 l5 M =
    if l2 < 0 then (e_X11_odds_24 d l1 l2 l3 l4 l5 M) else (if 9 < l2 then (e_X11_odds_24 d l1 l2 l3 l4 l5 M) else (if l3 < 0 then (e_X11_odds_24 d l1 l2 l3 l4 l5 M) else (if 12 < l3 then (e_X11_odds_24 d l1 l2 l3 l4 l5 M) else (if l5 < 1 then (e_X11_odds_56 d l1 l2 l3 l4 l5 1 M) else (if 9 < l5 then (e_X11_odds_56 d l1 l2 l3 l4 l5 1 M) else (if l4 < 0 then (e_X11_odds_56 d l1 l2 l3 l4 l5 1 M) else (if l5 < l4 then (e_X11_odds_56 d l1 l2 l3 l4 l5 1 M) else (amCI (amD amGst d 140 [vR 11 11 0, vI l1] M) fun v1 M1 => if v1 = 0 then (some (vL (-1), M1)) else (if (1 : Int) = 0 then (some (vL (-1), M1)) else (if (1 : Int) = 0 then (some (vL (-1), M1)) else (amCL (amD amGst d 3 [vR 0 0 0, vR 5 5 0, vI l1, vI l2, vI l3, vI l4, vI l5] M1) fun v2 M2 => some (vL v2, M2)))))))))))) := by
  show amRun _ _ = _
  refine (amRun_t (f := amStep amGst (amD amGst d) cdX11_odds) 1 (x := if l2 < 0 then .inl (24, [vR 11 11 0, vI l1, vI l2, vI l3, vI l4, vI l5, vU, vU], [], M) else .inl (4, [vR 11 11 0, vI l1, vI l2, vI l3, vI l4, vI l5, vU, vU], [], M)) rfl).trans (amK_if ?_ ?_)
  · exact amRun_b 0 (x := .inl (24, [vR 11 11 0, vI l1, vI l2, vI l3, vI l4, vI l5, vU, vU], [], M)) rfl
  · refine (amRun_t (f := amStep amGst (amD amGst d) cdX11_odds) 2 (x := if 9 < l2 then .inl (24, [vR 11 11 0, vI l1, vI l2, vI l3, vI l4, vI l5, vU, vU], [], M) else .inl (10, [vR 11 11 0, vI l1, vI l2, vI l3, vI l4, vI l5, vU, vU], [], M)) rfl).trans (amK_if ?_ ?_)
    · exact amRun_b 0 (x := .inl (24, [vR 11 11 0, vI l1, vI l2, vI l3, vI l4, vI l5, vU, vU], [], M)) rfl
    · refine (amRun_t (f := amStep amGst (amD amGst d) cdX11_odds) 1 (x := if l3 < 0 then .inl (24, [vR 11 11 0, vI l1, vI l2, vI l3, vI l4, vI l5, vU, vU], [], M) else .inl (14, [vR 11 11 0, vI l1, vI l2, vI l3, vI l4, vI l5, vU, vU], [], M)) rfl).trans (amK_if ?_ ?_)
      · exact amRun_b 0 (x := .inl (24, [vR 11 11 0, vI l1, vI l2, vI l3, vI l4, vI l5, vU, vU], [], M)) rfl
      · refine (amRun_t (f := amStep amGst (amD amGst d) cdX11_odds) 2 (x := if 12 < l3 then .inl (24, [vR 11 11 0, vI l1, vI l2, vI l3, vI l4, vI l5, vU, vU], [], M) else .inl (20, [vR 11 11 0, vI l1, vI l2, vI l3, vI l4, vI l5, vU, vU], [], M)) rfl).trans (amK_if ?_ ?_)
        · exact amRun_b 0 (x := .inl (24, [vR 11 11 0, vI l1, vI l2, vI l3, vI l4, vI l5, vU, vU], [], M)) rfl
        · refine (amRun_t (f := amStep amGst (amD amGst d) cdX11_odds) 5 (x := if l5 < 1 then .inl (56, [vR 11 11 0, vI l1, vI l2, vI l3, vI l4, vI l5, vI 1, vU], [], M) else .inl (33, [vR 11 11 0, vI l1, vI l2, vI l3, vI l4, vI l5, vI 1, vU], [], M)) rfl).trans (amK_if ?_ ?_)
          · exact amRun_b 0 (x := .inl (56, [vR 11 11 0, vI l1, vI l2, vI l3, vI l4, vI l5, vI 1, vU], [], M)) rfl
          · refine (amRun_t (f := amStep amGst (amD amGst d) cdX11_odds) 2 (x := if 9 < l5 then .inl (56, [vR 11 11 0, vI l1, vI l2, vI l3, vI l4, vI l5, vI 1, vU], [], M) else .inl (40, [vR 11 11 0, vI l1, vI l2, vI l3, vI l4, vI l5, vI 1, vU], [], M)) rfl).trans (amK_if ?_ ?_)
            · exact amRun_b 0 (x := .inl (56, [vR 11 11 0, vI l1, vI l2, vI l3, vI l4, vI l5, vI 1, vU], [], M)) rfl
            · refine (amRun_t (f := amStep amGst (amD amGst d) cdX11_odds) 1 (x := if l4 < 0 then .inl (56, [vR 11 11 0, vI l1, vI l2, vI l3, vI l4, vI l5, vI 1, vU], [], M) else .inl (45, [vR 11 11 0, vI l1, vI l2, vI l3, vI l4, vI l5, vI 1, vU], [], M)) rfl).trans (amK_if ?_ ?_)
              · exact amRun_b 0 (x := .inl (56, [vR 11 11 0, vI l1, vI l2, vI l3, vI l4, vI l5, vI 1, vU], [], M)) rfl
              · refine (amRun_t (f := amStep amGst (amD amGst d) cdX11_odds) 2 (x := if l5 < l4 then .inl (56, [vR 11 11 0, vI l1, vI l2, vI l3, vI l4, vI l5, vI 1, vU], [], M) else .inl (52, [vR 11 11 0, vI l1, vI l2, vI l3, vI l4, vI l5, vI 1, vU], [], M)) rfl).trans (amK_if ?_ ?_)
                · exact amRun_b 0 (x := .inl (56, [vR 11 11 0, vI l1, vI l2, vI l3, vI l4, vI l5, vI 1, vU], [], M)) rfl
                · refine (amRun_t (f := amStep amGst (amD amGst d) cdX11_odds) 5 (x := amPu 1 (amD amGst d 140 [vR 11 11 0, vI l1] M) (fun z9 M9 => .inl (64, [vR 11 11 0, vI l1, vI l2, vI l3, vI l4, vI l5, vI 1, vI 1], z9 ++ [], M9))) rfl).trans (amK_pI fun v1 M1 => ?_)
                  refine (amRun_t (f := amStep amGst (amD amGst d) cdX11_odds) 0 (x := if v1 = 0 then .inl (77, [vR 11 11 0, vI l1, vI l2, vI l3, vI l4, vI l5, vI 1, vI 1], [], M1) else .inl (67, [vR 11 11 0, vI l1, vI l2, vI l3, vI l4, vI l5, vI 1, vI 1], [], M1)) rfl).trans (amK_if ?_ ?_)
                  · exact amRun_b 2 (x := .inr (some (vL (-1), M1))) rfl
                  · refine (amRun_t (f := amStep amGst (amD amGst d) cdX11_odds) 1 (x := if (1 : Int) = 0 then .inl (77, [vR 11 11 0, vI l1, vI l2, vI l3, vI l4, vI l5, vI 1, vI 1], [], M1) else .inl (72, [vR 11 11 0, vI l1, vI l2, vI l3, vI l4, vI l5, vI 1, vI 1], [], M1)) rfl).trans (amK_if ?_ ?_)
                    · exact amRun_b 2 (x := .inr (some (vL (-1), M1))) rfl
                    · refine (amRun_t (f := amStep amGst (amD amGst d) cdX11_odds) 1 (x := if (1 : Int) = 0 then .inl (77, [vR 11 11 0, vI l1, vI l2, vI l3, vI l4, vI l5, vI 1, vI 1], [], M1) else .inl (81, [vR 11 11 0, vI l1, vI l2, vI l3, vI l4, vI l5, vI 1, vI 1], [], M1)) rfl).trans (amK_if ?_ ?_)
                      · exact amRun_b 2 (x := .inr (some (vL (-1), M1))) rfl
                      · refine (amRun_t (f := amStep amGst (amD amGst d) cdX11_odds) 9 (x := amPu 2 (amD amGst d 3 [vR 0 0 0, vR 5 5 0, vI l1, vI l2, vI l3, vI l4, vI l5] M1) (fun z9 M9 => .inl (99, [vR 11 11 0, vI l1, vI l2, vI l3, vI l4, vI l5, vI 1, vI 1], z9 ++ [], M9))) rfl).trans (amK_pL fun v2 M2 => ?_)
                        exact amRun_b 1 (x := .inr (some (vL v2, M2))) rfl
theorem q_X11_odds_24 (d : Nat) (l1 : Int) (l2 : Int) (l3 : Int) (l4 : Int) (l5 : Int) (M : AmM) : e_X11_odds_24 d l1 l2 l3 l4 l5 M =
    if l5 < 1 then (e_X11_odds_56 d l1 l2 l3 l4 l5 0 M) else (if 9 < l5 then (e_X11_odds_56 d l1 l2 l3 l4 l5 0 M) else (if l4 < 0 then (e_X11_odds_56 d l1 l2 l3 l4 l5 0 M) else (if l5 < l4 then (e_X11_odds_56 d l1 l2 l3 l4 l5 0 M) else (amCI (amD amGst d 140 [vR 11 11 0, vI l1] M) fun v1 M1 => if v1 = 0 then (some (vL (-1), M1)) else (if (0 : Int) = 0 then (some (vL (-1), M1)) else (if (1 : Int) = 0 then (some (vL (-1), M1)) else (amCL (amD amGst d 3 [vR 0 0 0, vR 5 5 0, vI l1, vI l2, vI l3, vI l4, vI l5] M1) fun v2 M2 => some (vL v2, M2)))))))) := by
  show amRun _ _ = _
  refine (amRun_t (f := amStep amGst (amD amGst d) cdX11_odds) 4 (x := if l5 < 1 then .inl (56, [vR 11 11 0, vI l1, vI l2, vI l3, vI l4, vI l5, vI 0, vU], [], M) else .inl (33, [vR 11 11 0, vI l1, vI l2, vI l3, vI l4, vI l5, vI 0, vU], [], M)) rfl).trans (amK_if ?_ ?_)
  · exact amRun_b 0 (x := .inl (56, [vR 11 11 0, vI l1, vI l2, vI l3, vI l4, vI l5, vI 0, vU], [], M)) rfl
  · refine (amRun_t (f := amStep amGst (amD amGst d) cdX11_odds) 2 (x := if 9 < l5 then .inl (56, [vR 11 11 0, vI l1, vI l2, vI l3, vI l4, vI l5, vI 0, vU], [], M) else .inl (40, [vR 11 11 0, vI l1, vI l2, vI l3, vI l4, vI l5, vI 0, vU], [], M)) rfl).trans (amK_if ?_ ?_)
    · exact amRun_b 0 (x := .inl (56, [vR 11 11 0, vI l1, vI l2, vI l3, vI l4, vI l5, vI 0, vU], [], M)) rfl
    · refine (amRun_t (f := amStep amGst (amD amGst d) cdX11_odds) 1 (x := if l4 < 0 then .inl (56, [vR 11 11 0, vI l1, vI l2, vI l3, vI l4, vI l5, vI 0, vU], [], M) else .inl (45, [vR 11 11 0, vI l1, vI l2, vI l3, vI l4, vI l5, vI 0, vU], [], M)) rfl).trans (amK_if ?_ ?_)
      · exact amRun_b 0 (x := .inl (56, [vR 11 11 0, vI l1, vI l2, vI l3, vI l4, vI l5, vI 0, vU], [], M)) rfl
      · refine (amRun_t (f := amStep amGst (amD amGst d) cdX11_odds) 2 (x := if l5 < l4 then .inl (56, [vR 11 11 0, vI l1, vI l2, vI l3, vI l4, vI l5, vI 0, vU], [], M) else .inl (52, [vR 11 11 0, vI l1, vI l2, vI l3, vI l4, vI l5, vI 0, vU], [], M)) rfl).trans (amK_if ?_ ?_)
        · exact amRun_b 0 (x := .inl (56, [vR 11 11 0, vI l1, vI l2, vI l3, vI l4, vI l5, vI 0, vU], [], M)) rfl
        · refine (amRun_t (f := amStep amGst (amD amGst d) cdX11_odds) 5 (x := amPu 1 (amD amGst d 140 [vR 11 11 0, vI l1] M) (fun z9 M9 => .inl (64, [vR 11 11 0, vI l1, vI l2, vI l3, vI l4, vI l5, vI 0, vI 1], z9 ++ [], M9))) rfl).trans (amK_pI fun v1 M1 => ?_)
          refine (amRun_t (f := amStep amGst (amD amGst d) cdX11_odds) 0 (x := if v1 = 0 then .inl (77, [vR 11 11 0, vI l1, vI l2, vI l3, vI l4, vI l5, vI 0, vI 1], [], M1) else .inl (67, [vR 11 11 0, vI l1, vI l2, vI l3, vI l4, vI l5, vI 0, vI 1], [], M1)) rfl).trans (amK_if ?_ ?_)
          · exact amRun_b 2 (x := .inr (some (vL (-1), M1))) rfl
          · refine (amRun_t (f := amStep amGst (amD amGst d) cdX11_odds) 1 (x := if (0 : Int) = 0 then .inl (77, [vR 11 11 0, vI l1, vI l2, vI l3, vI l4, vI l5, vI 0, vI 1], [], M1) else .inl (72, [vR 11 11 0, vI l1, vI l2, vI l3, vI l4, vI l5, vI 0, vI 1], [], M1)) rfl).trans (amK_if ?_ ?_)
            · exact amRun_b 2 (x := .inr (some (vL (-1), M1))) rfl
            · refine (amRun_t (f := amStep amGst (amD amGst d) cdX11_odds) 1 (x := if (1 : Int) = 0 then .inl (77, [vR 11 11 0, vI l1, vI l2, vI l3, vI l4, vI l5, vI 0, vI 1], [], M1) else .inl (81, [vR 11 11 0, vI l1, vI l2, vI l3, vI l4, vI l5, vI 0, vI 1], [], M1)) rfl).trans (amK_if ?_ ?_)
              · exact amRun_b 2 (x := .inr (some (vL (-1), M1))) rfl
              · refine (amRun_t (f := amStep amGst (amD amGst d) cdX11_odds) 9 (x := amPu 2 (amD amGst d 3 [vR 0 0 0, vR 5 5 0, vI l1, vI l2, vI l3, vI l4, vI l5] M1) (fun z9 M9 => .inl (99, [vR 11 11 0, vI l1, vI l2, vI l3, vI l4, vI l5, vI 0, vI 1], z9 ++ [], M9))) rfl).trans (amK_pL fun v2 M2 => ?_)
                exact amRun_b 1 (x := .inr (some (vL v2, M2))) rfl
theorem q_X11_odds_56 (d : Nat) (l1 : Int) (l2 : Int) (l3 : Int) (l4 : Int) (l5 : Int) (l6 : Int) (M : AmM) : e_X11_odds_56 d l1 l2 l3 l4 l5 l6 M =
    amCI (amD amGst d 140 [vR 11 11 0, vI l1] M) fun v1 M1 => if v1 = 0 then (some (vL (-1), M1)) else (if l6 = 0 then (some (vL (-1), M1)) else (if (0 : Int) = 0 then (some (vL (-1), M1)) else (amCL (amD amGst d 3 [vR 0 0 0, vR 5 5 0, vI l1, vI l2, vI l3, vI l4, vI l5] M1) fun v2 M2 => some (vL v2, M2)))) := by
  show amRun _ _ = _
  refine (amRun_t (f := amStep amGst (amD amGst d) cdX11_odds) 4 (x := amPu 1 (amD amGst d 140 [vR 11 11 0, vI l1] M) (fun z9 M9 => .inl (64, [vR 11 11 0, vI l1, vI l2, vI l3, vI l4, vI l5, vI l6, vI 0], z9 ++ [], M9))) rfl).trans (amK_pI fun v1 M1 => ?_)
  refine (amRun_t (f := amStep amGst (amD amGst d) cdX11_odds) 0 (x := if v1 = 0 then .inl (77, [vR 11 11 0, vI l1, vI l2, vI l3, vI l4, vI l5, vI l6, vI 0], [], M1) else .inl (67, [vR 11 11 0, vI l1, vI l2, vI l3, vI l4, vI l5, vI l6, vI 0], [], M1)) rfl).trans (amK_if ?_ ?_)
  · exact amRun_b 2 (x := .inr (some (vL (-1), M1))) rfl
  · refine (amRun_t (f := amStep amGst (amD amGst d) cdX11_odds) 1 (x := if l6 = 0 then .inl (77, [vR 11 11 0, vI l1, vI l2, vI l3, vI l4, vI l5, vI l6, vI 0], [], M1) else .inl (72, [vR 11 11 0, vI l1, vI l2, vI l3, vI l4, vI l5, vI l6, vI 0], [], M1)) rfl).trans (amK_if ?_ ?_)
    · exact amRun_b 2 (x := .inr (some (vL (-1), M1))) rfl
    · refine (amRun_t (f := amStep amGst (amD amGst d) cdX11_odds) 1 (x := if (0 : Int) = 0 then .inl (77, [vR 11 11 0, vI l1, vI l2, vI l3, vI l4, vI l5, vI l6, vI 0], [], M1) else .inl (81, [vR 11 11 0, vI l1, vI l2, vI l3, vI l4, vI l5, vI l6, vI 0], [], M1)) rfl).trans (amK_if ?_ ?_)
      · exact amRun_b 2 (x := .inr (some (vL (-1), M1))) rfl
      · refine (amRun_t (f := amStep amGst (amD amGst d) cdX11_odds) 9 (x := amPu 2 (amD amGst d 3 [vR 0 0 0, vR 5 5 0, vI l1, vI l2, vI l3, vI l4, vI l5] M1) (fun z9 M9 => .inl (99, [vR 11 11 0, vI l1, vI l2, vI l3, vI l4, vI l5, vI l6, vI 0], z9 ++ [], M9))) rfl).trans (amK_pL fun v2 M2 => ?_)
        exact amRun_b 1 (x := .inr (some (vL v2, M2))) rfl
theorem n_X11_odds (d : Nat) (l1 : Int) (l2 : Int) (l3 : Int) (l4 : Int) (l5 : Int) (M : AmM) : amD amGst (d + 1) 123 [vR 11 11 0, vI l1, vI l2, vI l3, vI l4, vI l5] M = e_X11_odds_0 d l1 l2 l3 l4 l5 M := rfl
noncomputable def e_X11_season_0 (d : Nat) (l1 : Int) (l2 : Int) (M : AmM) : Option (AmV × AmM) := amRun (amStep amGst (amD amGst d) cdX11_season) (0, [vR 11 11 0, vI l1, vI l2], [], M)
theorem q_X11_season_0 (d : Nat) (l1 : Int) (l2 : Int) (M : AmM) : e_X11_season_0 d l1 l2 M =
    if l1 < 1 then (some (vI (-1), M)) else (if 100 < l1 then (some (vI (-1), M)) else (if l2 < 0 then (some (vI (-1), M)) else (if 3 < l2 then (some (vI (-1), M)) else (amCV (amD amGst d 6 [vR 0 0 0, vR 5 5 0, vI l1] M) fun M1 => if l2 = 0 then (some (vI (M1 0 0 4), M1)) else (if l2 = 1 then (some (vI (M1 0 0 5), M1)) else (if l2 = 2 then (some (vI (M1 0 0 6), M1)) else ((some (vI (M1 0 0 7), M1))))))))) := by
  show amRun _ _ = _
  refine (amRun_t (f := amStep amGst (amD amGst d) cdX11_season) 2 (x := if l1 < 1 then .inl (20, [vR 11 11 0, vI l1, vI l2], [], M) else .inl (5, [vR 11 11 0, vI l1, vI l2], [], M)) rfl).trans (amK_if ?_ ?_)
  · exact amRun_b 2 (x := .inr (some (vI (-1), M))) rfl
  · refine (amRun_t (f := amStep amGst (amD amGst d) cdX11_season) 2 (x := if 100 < l1 then .inl (20, [vR 11 11 0, vI l1, vI l2], [], M) else .inl (11, [vR 11 11 0, vI l1, vI l2], [], M)) rfl).trans (amK_if ?_ ?_)
    · exact amRun_b 2 (x := .inr (some (vI (-1), M))) rfl
    · refine (amRun_t (f := amStep amGst (amD amGst d) cdX11_season) 1 (x := if l2 < 0 then .inl (20, [vR 11 11 0, vI l1, vI l2], [], M) else .inl (15, [vR 11 11 0, vI l1, vI l2], [], M)) rfl).trans (amK_if ?_ ?_)
      · exact amRun_b 2 (x := .inr (some (vI (-1), M))) rfl
      · refine (amRun_t (f := amStep amGst (amD amGst d) cdX11_season) 2 (x := if 3 < l2 then .inl (20, [vR 11 11 0, vI l1, vI l2], [], M) else .inl (22, [vR 11 11 0, vI l1, vI l2], [], M)) rfl).trans (amK_if ?_ ?_)
        · exact amRun_b 2 (x := .inr (some (vI (-1), M))) rfl
        · refine (amRun_t (f := amStep amGst (amD amGst d) cdX11_season) 5 (x := amPu 0 (amD amGst d 6 [vR 0 0 0, vR 5 5 0, vI l1] M) (fun z9 M9 => .inl (34, [vR 11 11 0, vI l1, vI l2], z9 ++ [], M9))) rfl).trans (amK_pV fun M1 => ?_)
          refine (amRun_t (f := amStep amGst (amD amGst d) cdX11_season) 1 (x := if l2 = 0 then .inl (60, [vR 11 11 0, vI l1, vI l2], [], M1) else (if l2 = 1 then .inl (68, [vR 11 11 0, vI l1, vI l2], [], M1) else (if l2 = 2 then .inl (76, [vR 11 11 0, vI l1, vI l2], [], M1) else .inl (84, [vR 11 11 0, vI l1, vI l2], [], M1)))) rfl).trans ?_
          refine amK_if ?_ ?_
          · exact amRun_b 4 (x := .inr (some (vI (M1 0 0 4), M1))) rfl
          refine amK_if ?_ ?_
          · exact amRun_b 4 (x := .inr (some (vI (M1 0 0 5), M1))) rfl
          refine amK_if ?_ ?_
          · exact amRun_b 4 (x := .inr (some (vI (M1 0 0 6), M1))) rfl
          exact amRun_b 4 (x := .inr (some (vI (M1 0 0 7), M1))) rfl
theorem n_X11_season (d : Nat) (l1 : Int) (l2 : Int) (M : AmM) : amD amGst (d + 1) 124 [vR 11 11 0, vI l1, vI l2] M = e_X11_season_0 d l1 l2 M := rfl
noncomputable def e_X11_rescue_0 (d : Nat) (l1 : Int) (M : AmM) : Option (AmV × AmM) := amRun (amStep amGst (amD amGst d) cdX11_rescue) (0, [vR 11 11 0, vI l1], [], M)
theorem q_X11_rescue_0 (d : Nat) (l1 : Int) (M : AmM) : e_X11_rescue_0 d l1 M =
    amCI (amD amGst d 83 [vR 8 8 0, vI l1] M) fun v1 M1 => if v1 = 0 then (some (vI (-1), M1)) else (amCI (amD amGst d 142 [vR 20 111 0, vI l1] M1) fun v2 M2 => if v2 = 0 then (some (vI (-1), M2)) else (amCI (amD amGst d 22 [vR 2 2 0, vR 5 5 0, vI l1] M2) fun v3 M3 => some (vI v3, M3))) := by
  show amRun _ _ = _
  refine (amRun_t (f := amStep amGst (amD amGst d) cdX11_rescue) 3 (x := amPu 1 (amD amGst d 83 [vR 8 8 0, vI l1] M) (fun z9 M9 => .inl (8, [vR 11 11 0, vI l1], z9 ++ [], M9))) rfl).trans (amK_pI fun v1 M1 => ?_)
  refine (amRun_t (f := amStep amGst (amD amGst d) cdX11_rescue) 0 (x := if v1 = 0 then .inl (25, [vR 11 11 0, vI l1], [], M1) else .inl (11, [vR 11 11 0, vI l1], [], M1)) rfl).trans (amK_if ?_ ?_)
  · exact amRun_b 2 (x := .inr (some (vI (-1), M1))) rfl
  · refine (amRun_t (f := amStep amGst (amD amGst d) cdX11_rescue) 4 (x := amPu 1 (amD amGst d 142 [vR 20 111 0, vI l1] M1) (fun z9 M9 => .inl (22, [vR 11 11 0, vI l1], z9 ++ [], M9))) rfl).trans (amK_pI fun v2 M2 => ?_)
    refine (amRun_t (f := amStep amGst (amD amGst d) cdX11_rescue) 0 (x := if v2 = 0 then .inl (25, [vR 11 11 0, vI l1], [], M2) else .inl (27, [vR 11 11 0, vI l1], [], M2)) rfl).trans (amK_if ?_ ?_)
    · exact amRun_b 2 (x := .inr (some (vI (-1), M2))) rfl
    · refine (amRun_t (f := amStep amGst (amD amGst d) cdX11_rescue) 5 (x := amPu 1 (amD amGst d 22 [vR 2 2 0, vR 5 5 0, vI l1] M2) (fun z9 M9 => .inl (39, [vR 11 11 0, vI l1], z9 ++ [], M9))) rfl).trans (amK_pI fun v3 M3 => ?_)
      exact amRun_b 1 (x := .inr (some (vI v3, M3))) rfl
theorem n_X11_rescue (d : Nat) (l1 : Int) (M : AmM) : amD amGst (d + 1) 125 [vR 11 11 0, vI l1] M = e_X11_rescue_0 d l1 M := rfl
noncomputable def e_X11_bell_0 (d : Nat) (l1 : Int) (M : AmM) : Option (AmV × AmM) := amRun (amStep amGst (amD amGst d) cdX11_bell) (0, [vR 11 11 0, vI l1], [], M)
theorem q_X11_bell_0 (d : Nat) (l1 : Int) (M : AmM) : e_X11_bell_0 d l1 M =
    if l1 < 1 then (some (vI (-1), M)) else (if 999 < l1 then (some (vI (-1), M)) else (amCI (amD amGst d 9 [vR 0 0 0, vR 5 5 0, vI l1] M) fun v1 M1 => some (vI v1, M1))) := by
  show amRun _ _ = _
  refine (amRun_t (f := amStep amGst (amD amGst d) cdX11_bell) 2 (x := if l1 < 1 then .inl (12, [vR 11 11 0, vI l1], [], M) else .inl (5, [vR 11 11 0, vI l1], [], M)) rfl).trans (amK_if ?_ ?_)
  · exact amRun_b 2 (x := .inr (some (vI (-1), M))) rfl
  · refine (amRun_t (f := amStep amGst (amD amGst d) cdX11_bell) 2 (x := if 999 < l1 then .inl (12, [vR 11 11 0, vI l1], [], M) else .inl (14, [vR 11 11 0, vI l1], [], M)) rfl).trans (amK_if ?_ ?_)
    · exact amRun_b 2 (x := .inr (some (vI (-1), M))) rfl
    · refine (amRun_t (f := amStep amGst (amD amGst d) cdX11_bell) 5 (x := amPu 1 (amD amGst d 9 [vR 0 0 0, vR 5 5 0, vI l1] M) (fun z9 M9 => .inl (26, [vR 11 11 0, vI l1], z9 ++ [], M9))) rfl).trans (amK_pI fun v1 M1 => ?_)
      exact amRun_b 1 (x := .inr (some (vI v1, M1))) rfl
theorem n_X11_bell (d : Nat) (l1 : Int) (M : AmM) : amD amGst (d + 1) 126 [vR 11 11 0, vI l1] M = e_X11_bell_0 d l1 M := rfl
noncomputable def e_X11_fair_0 (d : Nat) (M : AmM) : Option (AmV × AmM) := amRun (amStep amGst (amD amGst d) cdX11_fair) (0, [vR 11 11 0, vU, vU, vU], [], M)
noncomputable def e_X11_fair_29 (d : Nat) (l1 : Int) (l2 : Int) (l3 : Int) (M : AmM) : Option (AmV × AmM) := amRun (amStep amGst (amD amGst d) cdX11_fair) (29, [vR 11 11 0, vI l1, vI l2, vI l3], [], M)
theorem q_X11_fair_0 (d : Nat) (M : AmM) : e_X11_fair_0 d M =
    if 0 < M 8 0 9 then (amCI (amD amGst d 142 [vR 20 109 0, vI 0] M) fun v1 M1 => e_X11_fair_29 d v1 v1 1 M1) else (some (vI (-2), M)) := by
  show amRun _ _ = _
  refine (amRun_t (f := amStep amGst (amD amGst d) cdX11_fair) 3 (x := if 0 < M 8 0 9 then .inl (13, [vR 11 11 0, vU, vU, vU], [], M) else .inl (10, [vR 11 11 0, vU, vU, vU], [], M)) rfl).trans (amK_if ?_ ?_)
  · refine (amRun_t (f := amStep amGst (amD amGst d) cdX11_fair) 4 (x := amPu 1 (amD amGst d 142 [vR 20 109 0, vI 0] M) (fun z9 M9 => .inl (24, [vR 11 11 0, vU, vU, vU], z9 ++ [], M9))) rfl).trans (amK_pI fun v1 M1 => ?_)
    exact amRun_b 5 (x := .inl (29, [vR 11 11 0, vI v1, vI v1, vI 1], [], M1)) rfl
  · exact amRun_b 2 (x := .inr (some (vI (-2), M))) rfl
theorem q_X11_fair_29 (d : Nat) (l1 : Int) (l2 : Int) (l3 : Int) (M : AmM) : e_X11_fair_29 d l1 l2 l3 M =
    if l3 < M 8 0 9 then (amCI (amD amGst d 142 [vR 20 109 0, vI l3] M) fun v1 M1 => amCI (amD amGst d 142 [vR 20 109 0, vI l3] M1) fun v2 M2 => e_X11_fair_29 d (amMax l1 v1) (amMin l2 v2) (w32 (l3 + 1)) M2) else (some (vI (w32 (l1 - l2)), M)) := by
  show amRun _ _ = _
  refine (amRun_t (f := amStep amGst (amD amGst d) cdX11_fair) 4 (x := if l3 < M 8 0 9 then .inl (40, [vR 11 11 0, vI l1, vI l2, vI l3], [], M) else .inl (78, [vR 11 11 0, vI l1, vI l2, vI l3], [], M)) rfl).trans (amK_if ?_ ?_)
  · refine (amRun_t (f := amStep amGst (amD amGst d) cdX11_fair) 5 (x := amPu 1 (amD amGst d 142 [vR 20 109 0, vI l3] M) (fun z9 M9 => .inl (52, [vR 11 11 0, vI l1, vI l2, vI l3], z9 ++ [vI l1], M9))) rfl).trans (amK_pI fun v1 M1 => ?_)
    refine (amRun_t (f := amStep amGst (amD amGst d) cdX11_fair) 7 (x := amPu 1 (amD amGst d 142 [vR 20 109 0, vI l3] M1) (fun z9 M9 => .inl (68, [vR 11 11 0, vI (amMax l1 v1), vI l2, vI l3], z9 ++ [vI l2], M9))) rfl).trans (amK_pI fun v2 M2 => ?_)
    exact amRun_b 4 (x := .inl (29, [vR 11 11 0, vI (amMax l1 v1), vI (amMin l2 v2), vI (w32 (l3 + 1))], [], M2)) rfl
  · exact amRun_b 4 (x := .inr (some (vI (w32 (l1 - l2)), M))) rfl
theorem n_X11_fair (d : Nat) (M : AmM) : amD amGst (d + 1) 127 [vR 11 11 0] M = e_X11_fair_0 d M := rfl
noncomputable def e_X11_tell_0 (d : Nat) (l1 : Int) (l2 : Int) (M : AmM) : Option (AmV × AmM) := amRun (amStep amGst (amD amGst d) cdX11_tell) (0, [vR 11 11 0, vI l1, vI l2], [], M)
theorem q_X11_tell_0 (d : Nat) (l1 : Int) (l2 : Int) (M : AmM) : e_X11_tell_0 d l1 l2 M =
    amCI (amD amGst d 55 [vR 6 6 0, vI l1] M) fun v1 M1 => if v1 = 0 then (some (vI (-1), M1)) else (if l2 < 0 then (some (vI (-1), M1)) else (if 99 < l2 then (some (vI (-1), M1)) else (amCI (amD amGst d 86 [vR 9 9 0, vI l1, vI l2] M1) fun v2 M2 => some (vI v2, M2)))) := by
  show amRun _ _ = _
  refine (amRun_t (f := amStep amGst (amD amGst d) cdX11_tell) 4 (x := amPu 1 (amD amGst d 55 [vR 6 6 0, vI l1] M) (fun z9 M9 => .inl (11, [vR 11 11 0, vI l1, vI l2], z9 ++ [], M9))) rfl).trans (amK_pI fun v1 M1 => ?_)
  refine (amRun_t (f := amStep amGst (amD amGst d) cdX11_tell) 0 (x := if v1 = 0 then .inl (24, [vR 11 11 0, vI l1, vI l2], [], M1) else .inl (14, [vR 11 11 0, vI l1, vI l2], [], M1)) rfl).trans (amK_if ?_ ?_)
  · exact amRun_b 2 (x := .inr (some (vI (-1), M1))) rfl
  · refine (amRun_t (f := amStep amGst (amD amGst d) cdX11_tell) 1 (x := if l2 < 0 then .inl (24, [vR 11 11 0, vI l1, vI l2], [], M1) else .inl (18, [vR 11 11 0, vI l1, vI l2], [], M1)) rfl).trans (amK_if ?_ ?_)
    · exact amRun_b 2 (x := .inr (some (vI (-1), M1))) rfl
    · refine (amRun_t (f := amStep amGst (amD amGst d) cdX11_tell) 2 (x := if 99 < l2 then .inl (24, [vR 11 11 0, vI l1, vI l2], [], M1) else .inl (26, [vR 11 11 0, vI l1, vI l2], [], M1)) rfl).trans (amK_if ?_ ?_)
      · exact amRun_b 2 (x := .inr (some (vI (-1), M1))) rfl
      · refine (amRun_t (f := amStep amGst (amD amGst d) cdX11_tell) 4 (x := amPu 1 (amD amGst d 86 [vR 9 9 0, vI l1, vI l2] M1) (fun z9 M9 => .inl (35, [vR 11 11 0, vI l1, vI l2], z9 ++ [], M9))) rfl).trans (amK_pI fun v2 M2 => ?_)
        exact amRun_b 1 (x := .inr (some (vI v2, M2))) rfl
theorem n_X11_tell (d : Nat) (l1 : Int) (l2 : Int) (M : AmM) : amD amGst (d + 1) 128 [vR 11 11 0, vI l1, vI l2] M = e_X11_tell_0 d l1 l2 M := rfl
noncomputable def e_X11_forget_0 (d : Nat) (M : AmM) : Option (AmV × AmM) := amRun (amStep amGst (amD amGst d) cdX11_forget) (0, [vR 11 11 0, vU], [], M)
theorem q_X11_forget_0 (d : Nat) (M : AmM) : e_X11_forget_0 d M =
    some (vI (M 9 0 5), amUp M 9 0 5 0) := by
  show amRun _ _ = _
  exact amRun_b 10 (x := .inr (some (vI (M 9 0 5), amUp M 9 0 5 0))) rfl
theorem n_X11_forget (d : Nat) (M : AmM) : amD amGst (d + 1) 129 [vR 11 11 0] M = e_X11_forget_0 d M := rfl
noncomputable def e_X11_fits_0 (d : Nat) (l1 : Int) (M : AmM) : Option (AmV × AmM) := amRun (amStep amGst (amD amGst d) cdX11_fits) (0, [vR 11 11 0, vI l1], [], M)
theorem q_X11_fits_0 (d : Nat) (l1 : Int) (M : AmM) : e_X11_fits_0 d l1 M =
    amCI (amD amGst d 87 [vR 9 9 0, vI l1] M) fun v1 M1 => if v1 = 0 then (some (vI (-1), M1)) else (amCI (amD amGst d 88 [vR 9 9 0, vI l1] M1) fun v2 M2 => some (vI v2, M2)) := by
  show amRun _ _ = _
  refine (amRun_t (f := amStep amGst (amD amGst d) cdX11_fits) 3 (x := amPu 1 (amD amGst d 87 [vR 9 9 0, vI l1] M) (fun z9 M9 => .inl (8, [vR 11 11 0, vI l1], z9 ++ [], M9))) rfl).trans (amK_pI fun v1 M1 => ?_)
  refine (amRun_t (f := amStep amGst (amD amGst d) cdX11_fits) 0 (x := if v1 = 0 then .inl (22, [vR 11 11 0, vI l1], [], M1) else .inl (11, [vR 11 11 0, vI l1], [], M1)) rfl).trans (amK_if ?_ ?_)
  · exact amRun_b 2 (x := .inr (some (vI (-1), M1))) rfl
  · refine (amRun_t (f := amStep amGst (amD amGst d) cdX11_fits) 3 (x := amPu 1 (amD amGst d 88 [vR 9 9 0, vI l1] M1) (fun z9 M9 => .inl (19, [vR 11 11 0, vI l1], z9 ++ [], M9))) rfl).trans (amK_pI fun v2 M2 => ?_)
    exact amRun_b 2 (x := .inr (some (vI v2, M2))) rfl
theorem n_X11_fits (d : Nat) (l1 : Int) (M : AmM) : amD amGst (d + 1) 130 [vR 11 11 0, vI l1] M = e_X11_fits_0 d l1 M := rfl
noncomputable def e_X11_walkers_0 (d : Nat) (l1 : Int) (l2 : Int) (M : AmM) : Option (AmV × AmM) := amRun (amStep amGst (amD amGst d) cdX11_walkers) (0, [vR 11 11 0, vI l1, vI l2], [], M)
theorem q_X11_walkers_0 (d : Nat) (l1 : Int) (l2 : Int) (M : AmM) : e_X11_walkers_0 d l1 l2 M =
    amCI (amD amGst d 87 [vR 9 9 0, vI l1] M) fun v1 M1 => if v1 = 0 then (some (vI (-1), M1)) else (amCI (amD amGst d 89 [vR 9 9 0, vI l1, vI l2] M1) fun v2 M2 => some (vI v2, M2)) := by
  show amRun _ _ = _
  refine (amRun_t (f := amStep amGst (amD amGst d) cdX11_walkers) 3 (x := amPu 1 (amD amGst d 87 [vR 9 9 0, vI l1] M) (fun z9 M9 => .inl (8, [vR 11 11 0, vI l1, vI l2], z9 ++ [], M9))) rfl).trans (amK_pI fun v1 M1 => ?_)
  refine (amRun_t (f := amStep amGst (amD amGst d) cdX11_walkers) 0 (x := if v1 = 0 then .inl (23, [vR 11 11 0, vI l1, vI l2], [], M1) else .inl (11, [vR 11 11 0, vI l1, vI l2], [], M1)) rfl).trans (amK_if ?_ ?_)
  · exact amRun_b 2 (x := .inr (some (vI (-1), M1))) rfl
  · refine (amRun_t (f := amStep amGst (amD amGst d) cdX11_walkers) 4 (x := amPu 1 (amD amGst d 89 [vR 9 9 0, vI l1, vI l2] M1) (fun z9 M9 => .inl (20, [vR 11 11 0, vI l1, vI l2], z9 ++ [], M9))) rfl).trans (amK_pI fun v2 M2 => ?_)
    exact amRun_b 2 (x := .inr (some (vI v2, M2))) rfl
theorem n_X11_walkers (d : Nat) (l1 : Int) (l2 : Int) (M : AmM) : amD amGst (d + 1) 131 [vR 11 11 0, vI l1, vI l2] M = e_X11_walkers_0 d l1 l2 M := rfl
noncomputable def e_X11_who_0 (d : Nat) (l1 : Int) (l2 : Int) (M : AmM) : Option (AmV × AmM) := amRun (amStep amGst (amD amGst d) cdX11_who) (0, [vR 11 11 0, vI l1, vI l2], [], M)
theorem q_X11_who_0 (d : Nat) (l1 : Int) (l2 : Int) (M : AmM) : e_X11_who_0 d l1 l2 M =
    amCI (amD amGst d 87 [vR 9 9 0, vI l1] M) fun v1 M1 => if v1 = 0 then (some (vI (-1), M1)) else (if l2 = 0 then (amCI (amD amGst d 90 [vR 9 9 0, vI l1] M1) fun v2 M2 => some (vI v2, M2)) else (amCI (amD amGst d 91 [vR 9 9 0, vI l1] M1) fun v3 M3 => some (vI v3, M3))) := by
  show amRun _ _ = _
  refine (amRun_t (f := amStep amGst (amD amGst d) cdX11_who) 3 (x := amPu 1 (amD amGst d 87 [vR 9 9 0, vI l1] M) (fun z9 M9 => .inl (8, [vR 11 11 0, vI l1, vI l2], z9 ++ [], M9))) rfl).trans (amK_pI fun v1 M1 => ?_)
  refine (amRun_t (f := amStep amGst (amD amGst d) cdX11_who) 0 (x := if v1 = 0 then .inl (11, [vR 11 11 0, vI l1, vI l2], [], M1) else .inl (13, [vR 11 11 0, vI l1, vI l2], [], M1)) rfl).trans (amK_if ?_ ?_)
  · exact amRun_b 2 (x := .inr (some (vI (-1), M1))) rfl
  · refine (amRun_t (f := amStep amGst (amD amGst d) cdX11_who) 1 (x := if l2 = 0 then .inl (28, [vR 11 11 0, vI l1, vI l2], [], M1) else .inl (17, [vR 11 11 0, vI l1, vI l2], [], M1)) rfl).trans (amK_if ?_ ?_)
    · refine (amRun_t (f := amStep amGst (amD amGst d) cdX11_who) 3 (x := amPu 1 (amD amGst d 90 [vR 9 9 0, vI l1] M1) (fun z9 M9 => .inl (36, [vR 11 11 0, vI l1, vI l2], z9 ++ [], M9))) rfl).trans (amK_pI fun v2 M2 => ?_)
      exact amRun_b 1 (x := .inr (some (vI v2, M2))) rfl
    · refine (amRun_t (f := amStep amGst (amD amGst d) cdX11_who) 3 (x := amPu 1 (amD amGst d 91 [vR 9 9 0, vI l1] M1) (fun z9 M9 => .inl (25, [vR 11 11 0, vI l1, vI l2], z9 ++ [], M9))) rfl).trans (amK_pI fun v3 M3 => ?_)
      exact amRun_b 2 (x := .inr (some (vI v3, M3))) rfl
theorem n_X11_who (d : Nat) (l1 : Int) (l2 : Int) (M : AmM) : amD amGst (d + 1) 132 [vR 11 11 0, vI l1, vI l2] M = e_X11_who_0 d l1 l2 M := rfl
noncomputable def e_X11_hold_0 (d : Nat) (l1 : Int) (M : AmM) : Option (AmV × AmM) := amRun (amStep amGst (amD amGst d) cdX11_hold) (0, [vR 11 11 0, vI l1], [], M)
theorem q_X11_hold_0 (d : Nat) (l1 : Int) (M : AmM) : e_X11_hold_0 d l1 M =
    if l1 < 0 then (some (vI 0, M)) else (if l1 < 3 then (if l1 < 3 then (if (0 : Int) ≤ l1 ∧ l1 < 3 then (if (0 : Int) ≤ l1 ∧ l1 < 3 then (amCV (amD amGst d 45 [vR 5 5 ((l1).toNat + 41), vR 5 5 0] M) fun M1 => if (0 : Int) ≤ l1 ∧ l1 < 3 then (some (vI 1, amUp M1 128 0 (l1).toNat 1)) else none) else none) else none) else (some (vI 0, M))) else (some (vI 0, M))) := by
  show amRun _ _ = _
  refine (amRun_t (f := amStep amGst (amD amGst d) cdX11_hold) 1 (x := if l1 < 0 then .inl (31, [vR 11 11 0, vI l1], [], M) else .inl (4, [vR 11 11 0, vI l1], [], M)) rfl).trans (amK_if ?_ ?_)
  · exact amRun_b 2 (x := .inr (some (vI 0, M))) rfl
  · refine (amRun_t (f := amStep amGst (amD amGst d) cdX11_hold) 4 (x := if l1 < 3 then .inl (13, [vR 11 11 0, vI l1], [], M) else .inl (31, [vR 11 11 0, vI l1], [], M)) rfl).trans (amK_if ?_ ?_)
    · refine (amRun_t (f := amStep amGst (amD amGst d) cdX11_hold) 4 (x := if l1 < 3 then .inl (22, [vR 11 11 0, vI l1], [], M) else .inl (31, [vR 11 11 0, vI l1], [], M)) rfl).trans (amK_if ?_ ?_)
      · refine (amRun_t (f := amStep amGst (amD amGst d) cdX11_hold) 3 (x := if (0 : Int) ≤ l1 ∧ l1 < 3 then .inl (28, [vR 11 11 0, vI l1], [vR 5 5 ((l1).toNat + 41)], M) else amNo) rfl).trans (amK_if ?_ rfl)
        refine (amRun_t (f := amStep amGst (amD amGst d) cdX11_hold) 4 (x := if (0 : Int) ≤ l1 ∧ l1 < 3 then .inl (39, [vR 11 11 0, vI l1], [vR 5 5 ((l1).toNat + 41)], M) else amNo) rfl).trans (amK_if ?_ rfl)
        refine (amRun_t (f := amStep amGst (amD amGst d) cdX11_hold) 2 (x := amPu 0 (amD amGst d 45 [vR 5 5 ((l1).toNat + 41), vR 5 5 0] M) (fun z9 M9 => .inl (46, [vR 11 11 0, vI l1], z9 ++ [], M9))) rfl).trans (amK_pV fun M1 => ?_)
        refine (amRun_t (f := amStep amGst (amD amGst d) cdX11_hold) 4 (x := if (0 : Int) ≤ l1 ∧ l1 < 3 then .inl (53, [vR 11 11 0, vI l1], [], amUp M1 128 0 (l1).toNat 1) else amNo) rfl).trans (amK_if ?_ rfl)
        exact amRun_b 2 (x := .inr (some (vI 1, amUp M1 128 0 (l1).toNat 1))) rfl
      · exact amRun_b 2 (x := .inr (some (vI 0, M))) rfl
    · exact amRun_b 2 (x := .inr (some (vI 0, M))) rfl
theorem n_X11_hold (d : Nat) (l1 : Int) (M : AmM) : amD amGst (d + 1) 133 [vR 11 11 0, vI l1] M = e_X11_hold_0 d l1 M := rfl
noncomputable def e_X11_restore_0 (d : Nat) (l1 : Int) (M : AmM) : Option (AmV × AmM) := amRun (amStep amGst (amD amGst d) cdX11_restore) (0, [vR 11 11 0, vI l1], [], M)
theorem q_X11_restore_0 (d : Nat) (l1 : Int) (M : AmM) : e_X11_restore_0 d l1 M =
    if l1 < 0 then (some (vI 0, M)) else (if l1 < 3 then (if (0 : Int) ≤ l1 ∧ l1 < 3 then (if M 128 0 (l1).toNat = 0 then (some (vI 0, M)) else (amCI (amD amGst d 138 [vR 11 11 0, vR 24 127 0, vI l1] (amUp M 11 0 13 0)) fun v1 M1 => bif amZ v1 then some (vI v1, M1) else none)) else none) else (some (vI 0, M))) := by
  show amRun _ _ = _
  refine (amRun_t (f := amStep amGst (amD amGst d) cdX11_restore) 1 (x := if l1 < 0 then .inl (22, [vR 11 11 0, vI l1], [], M) else .inl (4, [vR 11 11 0, vI l1], [], M)) rfl).trans (amK_if ?_ ?_)
  · exact amRun_b 2 (x := .inr (some (vI 0, M))) rfl
  · refine (amRun_t (f := amStep amGst (amD amGst d) cdX11_restore) 4 (x := if l1 < 3 then .inl (13, [vR 11 11 0, vI l1], [], M) else .inl (22, [vR 11 11 0, vI l1], [], M)) rfl).trans (amK_if ?_ ?_)
    · refine (amRun_t (f := amStep amGst (amD amGst d) cdX11_restore) 3 (x := if (0 : Int) ≤ l1 ∧ l1 < 3 then .inl (19, [vR 11 11 0, vI l1], [vI (M 128 0 (l1).toNat)], M) else amNo) rfl).trans (amK_if ?_ rfl)
      refine (amRun_t (f := amStep amGst (amD amGst d) cdX11_restore) 0 (x := if M 128 0 (l1).toNat = 0 then .inl (22, [vR 11 11 0, vI l1], [], M) else .inl (24, [vR 11 11 0, vI l1], [], M)) rfl).trans (amK_if ?_ ?_)
      · exact amRun_b 2 (x := .inr (some (vI 0, M))) rfl
      · refine (amRun_t (f := amStep amGst (amD amGst d) cdX11_restore) 7 (x := amPu 1 (amD amGst d 138 [vR 11 11 0, vR 24 127 0, vI l1] (amUp M 11 0 13 0)) (fun z9 M9 => .inl (38, [vR 11 11 0, vI l1], z9 ++ [], M9))) rfl).trans (amK_pI fun v1 M1 => ?_)
        exact (amRun_t 0 (x := bif amZ v1 then .inr (some (vI v1, M1)) else amNo) rfl).trans (amK_bif rfl rfl)
    · exact amRun_b 2 (x := .inr (some (vI 0, M))) rfl
theorem n_X11_restore (d : Nat) (l1 : Int) (M : AmM) : amD amGst (d + 1) 134 [vR 11 11 0, vI l1] M = e_X11_restore_0 d l1 M := rfl
noncomputable def e_X11_count_0 (d : Nat) (l1 : Int) (M : AmM) : Option (AmV × AmM) := amRun (amStep amGst (amD amGst d) cdX11_count) (0, [vR 11 11 0, vI l1], [], M)
theorem q_X11_count_0 (d : Nat) (l1 : Int) (M : AmM) : e_X11_count_0 d l1 M =
    if l1 = 0 then (some (vI (M 8 0 5), M)) else (if l1 = 1 then (some (vI (M 8 0 9), M)) else (if l1 = 2 then (some (vI (M 5 0 6), M)) else (if l1 = 3 then (some (vI (M 5 0 7), M)) else (if l1 = 4 then (some (vI (M 8 0 6), M)) else (if l1 = 5 then (some (vI (M 6 0 3), M)) else (if l1 = 6 then (amCI (amD amGst d 51 [vR 5 5 0] M) fun v1 M1 => some (vI v1, M1)) else (if l1 = 7 then (some (vI (M 9 0 5), M)) else (if l1 = 8 then (some (vI (M 7 0 1), M)) else (if l1 = 9 then (some (vI (M 11 0 13), M)) else (if l1 = 10 then (amCI (amD amGst d 141 [vR 11 11 0] M) fun v2 M2 => some (vI v2, M2)) else (if l1 = 11 then (amCI (amD amGst d 62 [vR 6 6 0] M) fun v3 M3 => some (vI v3, M3)) else ((some (vI (-1), M)))))))))))))) := by
  show amRun _ _ = _
  refine (amRun_t (f := amStep amGst (amD amGst d) cdX11_count) 1 (x := if l1 = 0 then .inl (64, [vR 11 11 0, vI l1], [], M) else (if l1 = 1 then .inl (72, [vR 11 11 0, vI l1], [], M) else (if l1 = 2 then .inl (80, [vR 11 11 0, vI l1], [], M) else (if l1 = 3 then .inl (88, [vR 11 11 0, vI l1], [], M) else (if l1 = 4 then .inl (96, [vR 11 11 0, vI l1], [], M) else (if l1 = 5 then .inl (104, [vR 11 11 0, vI l1], [], M) else (if l1 = 6 then .inl (115, [vR 11 11 0, vI l1], [], M) else (if l1 = 7 then .inl (123, [vR 11 11 0, vI l1], [], M) else (if l1 = 8 then .inl (131, [vR 11 11 0, vI l1], [], M) else (if l1 = 9 then .inl (139, [vR 11 11 0, vI l1], [], M) else (if l1 = 10 then .inl (144, [vR 11 11 0, vI l1], [], M) else (if l1 = 11 then .inl (149, [vR 11 11 0, vI l1], [], M) else .inl (160, [vR 11 11 0, vI l1], [], M))))))))))))) rfl).trans ?_
  refine amK_if ?_ ?_
  · exact amRun_b 4 (x := .inr (some (vI (M 8 0 5), M))) rfl
  refine amK_if ?_ ?_
  · exact amRun_b 4 (x := .inr (some (vI (M 8 0 9), M))) rfl
  refine amK_if ?_ ?_
  · exact amRun_b 4 (x := .inr (some (vI (M 5 0 6), M))) rfl
  refine amK_if ?_ ?_
  · exact amRun_b 4 (x := .inr (some (vI (M 5 0 7), M))) rfl
  refine amK_if ?_ ?_
  · exact amRun_b 4 (x := .inr (some (vI (M 8 0 6), M))) rfl
  refine amK_if ?_ ?_
  · exact amRun_b 5 (x := .inr (some (vI (M 6 0 3), M))) rfl
  refine amK_if ?_ ?_
  · refine (amRun_t (f := amStep amGst (amD amGst d) cdX11_count) 2 (x := amPu 1 (amD amGst d 51 [vR 5 5 0] M) (fun z9 M9 => .inl (122, [vR 11 11 0, vI l1], z9 ++ [], M9))) rfl).trans (amK_pI fun v1 M1 => ?_)
    exact amRun_b 1 (x := .inr (some (vI v1, M1))) rfl
  refine amK_if ?_ ?_
  · exact amRun_b 4 (x := .inr (some (vI (M 9 0 5), M))) rfl
  refine amK_if ?_ ?_
  · exact amRun_b 4 (x := .inr (some (vI (M 7 0 1), M))) rfl
  refine amK_if ?_ ?_
  · exact amRun_b 3 (x := .inr (some (vI (M 11 0 13), M))) rfl
  refine amK_if ?_ ?_
  · refine (amRun_t (f := amStep amGst (amD amGst d) cdX11_count) 1 (x := amPu 1 (amD amGst d 141 [vR 11 11 0] M) (fun z9 M9 => .inl (148, [vR 11 11 0, vI l1], z9 ++ [], M9))) rfl).trans (amK_pI fun v2 M2 => ?_)
    exact amRun_b 1 (x := .inr (some (vI v2, M2))) rfl
  refine amK_if ?_ ?_
  · refine (amRun_t (f := amStep amGst (amD amGst d) cdX11_count) 3 (x := amPu 1 (amD amGst d 62 [vR 6 6 0] M) (fun z9 M9 => .inl (159, [vR 11 11 0, vI l1], z9 ++ [], M9))) rfl).trans (amK_pI fun v3 M3 => ?_)
    exact amRun_b 1 (x := .inr (some (vI v3, M3))) rfl
  exact amRun_b 2 (x := .inr (some (vI (-1), M))) rfl
theorem n_X11_count (d : Nat) (l1 : Int) (M : AmM) : amD amGst (d + 1) 135 [vR 11 11 0, vI l1] M = e_X11_count_0 d l1 M := rfl
noncomputable def e_X11_startAnew_0 (d : Nat) (M : AmM) : Option (AmV × AmM) := amRun (amStep amGst (amD amGst d) cdX11_startAnew) (0, [vR 11 11 0, vU], [], M)
noncomputable def e_X11_startAnew_28 (d : Nat) (l1 : Int) (M : AmM) : Option (AmV × AmM) := amRun (amStep amGst (amD amGst d) cdX11_startAnew) (28, [vR 11 11 0, vI l1], [], M)
theorem q_X11_startAnew_0 (d : Nat) (M : AmM) : e_X11_startAnew_0 d M =
    amCV (amD amGst d 82 [vR 8 8 0, vR 8 8 1] M) fun M1 => amCV (amD amGst d 44 [vR 5 5 0] M1) fun M2 => e_X11_startAnew_28 d 0 (amUp M2 11 0 13 0) := by
  show amRun _ _ = _
  refine (amRun_t (f := amStep amGst (amD amGst d) cdX11_startAnew) 5 (x := amPu 0 (amD amGst d 82 [vR 8 8 0, vR 8 8 1] M) (fun z9 M9 => .inl (14, [vR 11 11 0, vU], z9 ++ [], M9))) rfl).trans (amK_pV fun M1 => ?_)
  refine (amRun_t (f := amStep amGst (amD amGst d) cdX11_startAnew) 2 (x := amPu 0 (amD amGst d 44 [vR 5 5 0] M1) (fun z9 M9 => .inl (21, [vR 11 11 0, vU], z9 ++ [], M9))) rfl).trans (amK_pV fun M2 => ?_)
  exact amRun_b 5 (x := .inl (28, [vR 11 11 0, vI 0], [], amUp M2 11 0 13 0)) rfl
theorem q_X11_startAnew_28 (d : Nat) (l1 : Int) (M : AmM) : e_X11_startAnew_28 d l1 M =
    if l1 < 3 then (if (0 : Int) ≤ l1 ∧ l1 < 3 then (e_X11_startAnew_28 d (w32 (l1 + 1)) (amUp M 128 0 (l1).toNat 0)) else none) else (amCV (amD amGst d 85 [vR 9 9 0] M) fun M1 => amCV (amD amGst d 139 [vR 11 11 0] M1) fun M2 => some (vU, M2)) := by
  show amRun _ _ = _
  refine (amRun_t (f := amStep amGst (amD amGst d) cdX11_startAnew) 4 (x := if l1 < 3 then .inl (37, [vR 11 11 0, vI l1], [], M) else .inl (50, [vR 11 11 0, vI l1], [], M)) rfl).trans (amK_if ?_ ?_)
  · refine (amRun_t (f := amStep amGst (amD amGst d) cdX11_startAnew) 4 (x := if (0 : Int) ≤ l1 ∧ l1 < 3 then .inl (44, [vR 11 11 0, vI l1], [], amUp M 128 0 (l1).toNat 0) else amNo) rfl).trans (amK_if ?_ rfl)
    exact amRun_b 2 (x := .inl (28, [vR 11 11 0, vI (w32 (l1 + 1))], [], amUp M 128 0 (l1).toNat 0)) rfl
  · refine (amRun_t (f := amStep amGst (amD amGst d) cdX11_startAnew) 2 (x := amPu 0 (amD amGst d 85 [vR 9 9 0] M) (fun z9 M9 => .inl (57, [vR 11 11 0, vI l1], z9 ++ [], M9))) rfl).trans (amK_pV fun M1 => ?_)
    refine (amRun_t (f := amStep amGst (amD amGst d) cdX11_startAnew) 1 (x := amPu 0 (amD amGst d 139 [vR 11 11 0] M1) (fun z9 M9 => .inl (61, [vR 11 11 0, vI l1], z9 ++ [], M9))) rfl).trans (amK_pV fun M2 => ?_)
    exact amRun_b 1 (x := .inr (some (vU, M2))) rfl
theorem n_X11_startAnew (d : Nat) (M : AmM) : amD amGst (d + 1) 136 [vR 11 11 0] M = e_X11_startAnew_0 d M := rfl
noncomputable def e_X11_keepPast_0 (d : Nat) (M : AmM) : Option (AmV × AmM) := amRun (amStep amGst (amD amGst d) cdX11_keepPast) (0, [vR 11 11 0], [], M)
noncomputable def e_X11_keepPast_47 (d : Nat) (M : AmM) : Option (AmV × AmM) := amRun (amStep amGst (amD amGst d) cdX11_keepPast) (47, [vR 11 11 0], [], M)
noncomputable def e_X11_keepPast_75 (d : Nat) (M : AmM) : Option (AmV × AmM) := amRun (amStep amGst (amD amGst d) cdX11_keepPast) (75, [vR 11 11 0], [], M)
theorem q_X11_keepPast_0 (d : Nat) (M : AmM) : e_X11_keepPast_0 d M =
    if M 11 0 14 < 0 then (e_X11_keepPast_47 d M) else (if M 11 0 14 < 40 then (if (0 : Int) ≤ M 11 0 14 ∧ M 11 0 14 < 40 then (if (0 : Int) ≤ M 11 0 14 ∧ M 11 0 14 < 40 then (amCV (amD amGst d 45 [vR 5 5 ((M 11 0 14).toNat + 1), vR 5 5 0] M) fun M1 => e_X11_keepPast_47 d M1) else none) else none) else (e_X11_keepPast_47 d M)) := by
  show amRun _ _ = _
  refine (amRun_t (f := amStep amGst (amD amGst d) cdX11_keepPast) 2 (x := if M 11 0 14 < 0 then .inl (47, [vR 11 11 0], [], M) else .inl (7, [vR 11 11 0], [], M)) rfl).trans (amK_if ?_ ?_)
  · exact amRun_b 0 (x := .inl (47, [vR 11 11 0], [], M)) rfl
  · refine (amRun_t (f := amStep amGst (amD amGst d) cdX11_keepPast) 5 (x := if M 11 0 14 < 40 then .inl (19, [vR 11 11 0], [], M) else .inl (47, [vR 11 11 0], [], M)) rfl).trans (amK_if ?_ ?_)
    · refine (amRun_t (f := amStep amGst (amD amGst d) cdX11_keepPast) 4 (x := if (0 : Int) ≤ M 11 0 14 ∧ M 11 0 14 < 40 then .inl (28, [vR 11 11 0], [vR 5 5 ((M 11 0 14).toNat + 1)], M) else amNo) rfl).trans (amK_if ?_ rfl)
      refine (amRun_t (f := amStep amGst (amD amGst d) cdX11_keepPast) 5 (x := if (0 : Int) ≤ M 11 0 14 ∧ M 11 0 14 < 40 then .inl (40, [vR 11 11 0], [vR 5 5 ((M 11 0 14).toNat + 1)], M) else amNo) rfl).trans (amK_if ?_ rfl)
      refine (amRun_t (f := amStep amGst (amD amGst d) cdX11_keepPast) 2 (x := amPu 0 (amD amGst d 45 [vR 5 5 ((M 11 0 14).toNat + 1), vR 5 5 0] M) (fun z9 M9 => .inl (47, [vR 11 11 0], z9 ++ [], M9))) rfl).trans (amK_pV fun M1 => ?_)
      exact amRun_b 0 (x := .inl (47, [vR 11 11 0], [], M1)) rfl
    · exact amRun_b 0 (x := .inl (47, [vR 11 11 0], [], M)) rfl
theorem q_X11_keepPast_47 (d : Nat) (M : AmM) : e_X11_keepPast_47 d M =
    if (40 : Int) = 0 then none else (e_X11_keepPast_75 d (amUp (amUp M 11 0 14 (Int.tmod (w32 ((M 11 0 14) + 1)) 40)) 11 0 13 (amMin 40 (w32 (((amUp M 11 0 14 (Int.tmod (w32 ((M 11 0 14) + 1)) 40)) 11 0 13) + 1))))) := by
  show amRun _ _ = _
  refine (amRun_t (f := amStep amGst (amD amGst d) cdX11_keepPast) 6 (x := if (40 : Int) = 0 then amNo else .inl (57, [vR 11 11 0], [vI (Int.tmod (w32 ((M 11 0 14) + 1)) 40), vR 11 11 0], M)) rfl).trans (amK_if rfl ?_)
  exact amRun_b 9 (x := .inl (75, [vR 11 11 0], [], amUp (amUp M 11 0 14 (Int.tmod (w32 ((M 11 0 14) + 1)) 40)) 11 0 13 (amMin 40 (w32 (((amUp M 11 0 14 (Int.tmod (w32 ((M 11 0 14) + 1)) 40)) 11 0 13) + 1))))) rfl
theorem q_X11_keepPast_75 (d : Nat) (M : AmM) : e_X11_keepPast_75 d M =
    some (vU, M) := by
  show amRun _ _ = _
  exact amRun_b 1 (x := .inr (some (vU, M))) rfl
theorem n_X11_keepPast (d : Nat) (M : AmM) : amD amGst (d + 1) 137 [vR 11 11 0] M = e_X11_keepPast_0 d M := rfl
noncomputable def e_X11_goOnFromp_0 (d : Nat) (l2 : Int) (M : AmM) : Option (AmV × AmM) := amRun (amStep amGst (amD amGst d) cdX11_goOnFrom) (0, [vR 11 11 0, vR 24 126 0, vI l2], [], M)
theorem q_X11_goOnFromp_0 (d : Nat) (l2 : Int) (M : AmM) : e_X11_goOnFromp_0 d l2 M =
    if l2 < 0 then (some (vI 0, M)) else (if l2 < 40 then (if (0 : Int) ≤ l2 ∧ l2 < 40 then (if (0 : Int) ≤ l2 ∧ l2 < 40 then (amCV (amD amGst d 45 [vR 5 5 0, vR 5 5 ((l2).toNat + 1)] M) fun M1 => amCV (amD amGst d 139 [vR 11 11 0] M1) fun M2 => some (vI 1, M2)) else none) else none) else (some (vI 0, M))) := by
  show amRun _ _ = _
  refine (amRun_t (f := amStep amGst (amD amGst d) cdX11_goOnFrom) 1 (x := if l2 < 0 then .inl (16, [vR 11 11 0, vR 24 126 0, vI l2], [], M) else .inl (4, [vR 11 11 0, vR 24 126 0, vI l2], [], M)) rfl).trans (amK_if ?_ ?_)
  · exact amRun_b 2 (x := .inr (some (vI 0, M))) rfl
  · refine (amRun_t (f := amStep amGst (amD amGst d) cdX11_goOnFrom) 3 (x := if l2 < 40 then .inl (10, [vR 11 11 0, vR 24 126 0, vI l2], [], M) else .inl (16, [vR 11 11 0, vR 24 126 0, vI l2], [], M)) rfl).trans (amK_if ?_ ?_)
    · refine (amRun_t (f := amStep amGst (amD amGst d) cdX11_goOnFrom) 2 (x := if (0 : Int) ≤ l2 ∧ l2 < 40 then .inl (13, [vR 11 11 0, vR 24 126 0, vI l2], [vR 5 5 ((l2).toNat + 1)], M) else amNo) rfl).trans (amK_if ?_ rfl)
      refine (amRun_t (f := amStep amGst (amD amGst d) cdX11_goOnFrom) 5 (x := if (0 : Int) ≤ l2 ∧ l2 < 40 then .inl (25, [vR 11 11 0, vR 24 126 0, vI l2], [vR 5 5 ((l2).toNat + 1), vR 5 5 0], M) else amNo) rfl).trans (amK_if ?_ rfl)
      refine (amRun_t (f := amStep amGst (amD amGst d) cdX11_goOnFrom) 0 (x := amPu 0 (amD amGst d 45 [vR 5 5 0, vR 5 5 ((l2).toNat + 1)] M) (fun z9 M9 => .inl (28, [vR 11 11 0, vR 24 126 0, vI l2], z9 ++ [], M9))) rfl).trans (amK_pV fun M1 => ?_)
      refine (amRun_t (f := amStep amGst (amD amGst d) cdX11_goOnFrom) 1 (x := amPu 0 (amD amGst d 139 [vR 11 11 0] M1) (fun z9 M9 => .inl (32, [vR 11 11 0, vR 24 126 0, vI l2], z9 ++ [], M9))) rfl).trans (amK_pV fun M2 => ?_)
      exact amRun_b 2 (x := .inr (some (vI 1, M2))) rfl
    · exact amRun_b 2 (x := .inr (some (vI 0, M))) rfl
theorem n_X11_goOnFromp (d : Nat) (l2 : Int) (M : AmM) : amD amGst (d + 1) 138 [vR 11 11 0, vR 24 126 0, vI l2] M = e_X11_goOnFromp_0 d l2 M := rfl
noncomputable def e_X11_goOnFroms_0 (d : Nat) (l2 : Int) (M : AmM) : Option (AmV × AmM) := amRun (amStep amGst (amD amGst d) cdX11_goOnFrom) (0, [vR 11 11 0, vR 24 127 0, vI l2], [], M)
theorem q_X11_goOnFroms_0 (d : Nat) (l2 : Int) (M : AmM) : e_X11_goOnFroms_0 d l2 M =
    if l2 < 0 then (some (vI 0, M)) else (if l2 < 3 then (if (0 : Int) ≤ l2 ∧ l2 < 3 then (if (0 : Int) ≤ l2 ∧ l2 < 3 then (amCV (amD amGst d 45 [vR 5 5 0, vR 5 5 ((l2).toNat + 41)] M) fun M1 => amCV (amD amGst d 139 [vR 11 11 0] M1) fun M2 => some (vI 1, M2)) else none) else none) else (some (vI 0, M))) := by
  show amRun _ _ = _
  refine (amRun_t (f := amStep amGst (amD amGst d) cdX11_goOnFrom) 1 (x := if l2 < 0 then .inl (16, [vR 11 11 0, vR 24 127 0, vI l2], [], M) else .inl (4, [vR 11 11 0, vR 24 127 0, vI l2], [], M)) rfl).trans (amK_if ?_ ?_)
  · exact amRun_b 2 (x := .inr (some (vI 0, M))) rfl
  · refine (amRun_t (f := amStep amGst (amD amGst d) cdX11_goOnFrom) 3 (x := if l2 < 3 then .inl (10, [vR 11 11 0, vR 24 127 0, vI l2], [], M) else .inl (16, [vR 11 11 0, vR 24 127 0, vI l2], [], M)) rfl).trans (amK_if ?_ ?_)
    · refine (amRun_t (f := amStep amGst (amD amGst d) cdX11_goOnFrom) 2 (x := if (0 : Int) ≤ l2 ∧ l2 < 3 then .inl (13, [vR 11 11 0, vR 24 127 0, vI l2], [vR 5 5 ((l2).toNat + 41)], M) else amNo) rfl).trans (amK_if ?_ rfl)
      refine (amRun_t (f := amStep amGst (amD amGst d) cdX11_goOnFrom) 5 (x := if (0 : Int) ≤ l2 ∧ l2 < 3 then .inl (25, [vR 11 11 0, vR 24 127 0, vI l2], [vR 5 5 ((l2).toNat + 41), vR 5 5 0], M) else amNo) rfl).trans (amK_if ?_ rfl)
      refine (amRun_t (f := amStep amGst (amD amGst d) cdX11_goOnFrom) 0 (x := amPu 0 (amD amGst d 45 [vR 5 5 0, vR 5 5 ((l2).toNat + 41)] M) (fun z9 M9 => .inl (28, [vR 11 11 0, vR 24 127 0, vI l2], z9 ++ [], M9))) rfl).trans (amK_pV fun M1 => ?_)
      refine (amRun_t (f := amStep amGst (amD amGst d) cdX11_goOnFrom) 1 (x := amPu 0 (amD amGst d 139 [vR 11 11 0] M1) (fun z9 M9 => .inl (32, [vR 11 11 0, vR 24 127 0, vI l2], z9 ++ [], M9))) rfl).trans (amK_pV fun M2 => ?_)
      exact amRun_b 2 (x := .inr (some (vI 1, M2))) rfl
    · exact amRun_b 2 (x := .inr (some (vI 0, M))) rfl
theorem n_X11_goOnFroms (d : Nat) (l2 : Int) (M : AmM) : amD amGst (d + 1) 138 [vR 11 11 0, vR 24 127 0, vI l2] M = e_X11_goOnFroms_0 d l2 M := rfl
noncomputable def e_X11_dropAnswers_0 (d : Nat) (M : AmM) : Option (AmV × AmM) := amRun (amStep amGst (amD amGst d) cdX11_dropAnswers) (0, [vR 11 11 0], [], M)
theorem q_X11_dropAnswers_0 (d : Nat) (M : AmM) : e_X11_dropAnswers_0 d M =
    amCV (amD amGst d 25 [vR 3 3 0] M) fun M1 => amCV (amD amGst d 0 [vR 0 0 0] M1) fun M2 => some (vU, M2) := by
  show amRun _ _ = _
  refine (amRun_t (f := amStep amGst (amD amGst d) cdX11_dropAnswers) 2 (x := amPu 0 (amD amGst d 25 [vR 3 3 0] M) (fun z9 M9 => .inl (7, [vR 11 11 0], z9 ++ [], M9))) rfl).trans (amK_pV fun M1 => ?_)
  refine (amRun_t (f := amStep amGst (amD amGst d) cdX11_dropAnswers) 2 (x := amPu 0 (amD amGst d 0 [vR 0 0 0] M1) (fun z9 M9 => .inl (14, [vR 11 11 0], z9 ++ [], M9))) rfl).trans (amK_pV fun M2 => ?_)
  exact amRun_b 1 (x := .inr (some (vU, M2))) rfl
theorem n_X11_dropAnswers (d : Nat) (M : AmM) : amD amGst (d + 1) 139 [vR 11 11 0] M = e_X11_dropAnswers_0 d M := rfl
noncomputable def e_X11_areOnGround_0 (d : Nat) (l1 : Int) (M : AmM) : Option (AmV × AmM) := amRun (amStep amGst (amD amGst d) cdX11_areOnGround) (0, [vR 11 11 0, vI l1], [], M)
theorem q_X11_areOnGround_0 (d : Nat) (l1 : Int) (M : AmM) : e_X11_areOnGround_0 d l1 M =
    amCI (amD amGst d 49 [vR 5 5 0] M) fun v1 M1 => if bAnd l1 (bXor v1 (-1)) = 0 then (some (vI 1, M1)) else (some (vI 0, M1)) := by
  show amRun _ _ = _
  refine (amRun_t (f := amStep amGst (amD amGst d) cdX11_areOnGround) 3 (x := amPu 1 (amD amGst d 49 [vR 5 5 0] M) (fun z9 M9 => .inl (8, [vR 11 11 0, vI l1], z9 ++ [vI l1], M9))) rfl).trans (amK_pI fun v1 M1 => ?_)
  refine (amRun_t (f := amStep amGst (amD amGst d) cdX11_areOnGround) 3 (x := if bAnd l1 (bXor v1 (-1)) = 0 then .inl (14, [vR 11 11 0, vI l1], [], M1) else .inl (18, [vR 11 11 0, vI l1], [], M1)) rfl).trans (amK_if ?_ ?_)
  · exact amRun_b 3 (x := .inr (some (vI 1, M1))) rfl
  · exact amRun_b 2 (x := .inr (some (vI 0, M1))) rfl
theorem n_X11_areOnGround (d : Nat) (l1 : Int) (M : AmM) : amD amGst (d + 1) 140 [vR 11 11 0, vI l1] M = e_X11_areOnGround_0 d l1 M := rfl
noncomputable def e_X11_heldSlots_0 (d : Nat) (M : AmM) : Option (AmV × AmM) := amRun (amStep amGst (amD amGst d) cdX11_heldSlots) (0, [vR 11 11 0, vU, vU], [], M)
noncomputable def e_X11_heldSlots_4 (d : Nat) (l1 : Int) (l2 : Int) (M : AmM) : Option (AmV × AmM) := amRun (amStep amGst (amD amGst d) cdX11_heldSlots) (4, [vR 11 11 0, vI l1, vI l2], [], M)
theorem q_X11_heldSlots_0 (d : Nat) (M : AmM) : e_X11_heldSlots_0 d M =
    e_X11_heldSlots_4 d 0 0 M := by
  show amRun _ _ = _
  exact amRun_b 4 (x := .inl (4, [vR 11 11 0, vI 0, vI 0], [], M)) rfl
theorem q_X11_heldSlots_4 (d : Nat) (l1 : Int) (l2 : Int) (M : AmM) : e_X11_heldSlots_4 d l1 l2 M =
    if l2 < 3 then (if (0 : Int) ≤ l2 ∧ l2 < 3 then (if M 128 0 (l2).toNat = 0 then (e_X11_heldSlots_4 d (w32 (l1 + 0)) (w32 (l2 + 1)) M) else (e_X11_heldSlots_4 d (w32 (l1 + 1)) (w32 (l2 + 1)) M)) else none) else (some (vI l1, M)) := by
  show amRun _ _ = _
  refine (amRun_t (f := amStep amGst (amD amGst d) cdX11_heldSlots) 4 (x := if l2 < 3 then .inl (13, [vR 11 11 0, vI l1, vI l2], [], M) else .inl (36, [vR 11 11 0, vI l1, vI l2], [], M)) rfl).trans (amK_if ?_ ?_)
  · refine (amRun_t (f := amStep amGst (amD amGst d) cdX11_heldSlots) 4 (x := if (0 : Int) ≤ l2 ∧ l2 < 3 then .inl (20, [vR 11 11 0, vI l1, vI l2], [vI (M 128 0 (l2).toNat), vI l1], M) else amNo) rfl).trans (amK_if ?_ rfl)
    refine (amRun_t (f := amStep amGst (amD amGst d) cdX11_heldSlots) 0 (x := if M 128 0 (l2).toNat = 0 then .inl (27, [vR 11 11 0, vI l1, vI l2], [vI l1], M) else .inl (23, [vR 11 11 0, vI l1, vI l2], [vI l1], M)) rfl).trans (amK_if ?_ ?_)
    · exact amRun_b 5 (x := .inl (4, [vR 11 11 0, vI (w32 (l1 + 0)), vI (w32 (l2 + 1))], [], M)) rfl
    · exact amRun_b 6 (x := .inl (4, [vR 11 11 0, vI (w32 (l1 + 1)), vI (w32 (l2 + 1))], [], M)) rfl
  · exact amRun_b 2 (x := .inr (some (vI l1, M))) rfl
theorem n_X11_heldSlots (d : Nat) (M : AmM) : amD amGst (d + 1) 141 [vR 11 11 0] M = e_X11_heldSlots_0 d M := rfl
