noncomputable def e_X12_feed_0 (d : Nat) (l1 : Int) (l2 : Int) (l3 : Int) (l4 : Int) (l5 : Int) (M : AmM) : Option (AmV × AmM) := amRun (amStep amGst (amD amGst d) cdX12_feed) (0, [vR 12 12 0, vI l1, vI l2, vI l3, vI l4, vI l5], [], M)
theorem q_X12_feed_0 (d : Nat) (l1 : Int) (l2 : Int) (l3 : Int) (l4 : Int) (l5 : Int) (M : AmM) : e_X12_feed_0 d l1 l2 l3 l4 l5 M =
    if 2000 < w32 ((M 12 0 2) + 20) then (some (vI (-1), M)) else (amCV (amD amGst d 148 [vR 12 12 0, vI l1] M) fun M1 => amCV (amD amGst d 148 [vR 12 12 0, vI l2] M1) fun M2 => amCV (amD amGst d 148 [vR 12 12 0, vI l3] M2) fun M3 => amCV (amD amGst d 148 [vR 12 12 0, vI l4] M3) fun M4 => amCV (amD amGst d 148 [vR 12 12 0, vI l5] M4) fun M5 => some (vI (M5 12 0 2), M5)) := by
  show amRun _ _ = _
  refine (amRun_t (f := amStep amGst (amD amGst d) cdX12_feed) 5 (x := if 2000 < w32 ((M 12 0 2) + 20) then .inl (13, [vR 12 12 0, vI l1, vI l2, vI l3, vI l4, vI l5], [], M) else .inl (15, [vR 12 12 0, vI l1, vI l2, vI l3, vI l4, vI l5], [], M)) rfl).trans (amK_if ?_ ?_)
  · exact amRun_b 2 (x := .inr (some (vI (-1), M))) rfl
  · refine (amRun_t (f := amStep amGst (amD amGst d) cdX12_feed) 2 (x := amPu 0 (amD amGst d 148 [vR 12 12 0, vI l1] M) (fun z9 M9 => .inl (20, [vR 12 12 0, vI l1, vI l2, vI l3, vI l4, vI l5], z9 ++ [], M9))) rfl).trans (amK_pV fun M1 => ?_)
    refine (amRun_t (f := amStep amGst (amD amGst d) cdX12_feed) 2 (x := amPu 0 (amD amGst d 148 [vR 12 12 0, vI l2] M1) (fun z9 M9 => .inl (25, [vR 12 12 0, vI l1, vI l2, vI l3, vI l4, vI l5], z9 ++ [], M9))) rfl).trans (amK_pV fun M2 => ?_)
    refine (amRun_t (f := amStep amGst (amD amGst d) cdX12_feed) 2 (x := amPu 0 (amD amGst d 148 [vR 12 12 0, vI l3] M2) (fun z9 M9 => .inl (30, [vR 12 12 0, vI l1, vI l2, vI l3, vI l4, vI l5], z9 ++ [], M9))) rfl).trans (amK_pV fun M3 => ?_)
    refine (amRun_t (f := amStep amGst (amD amGst d) cdX12_feed) 2 (x := amPu 0 (amD amGst d 148 [vR 12 12 0, vI l4] M3) (fun z9 M9 => .inl (36, [vR 12 12 0, vI l1, vI l2, vI l3, vI l4, vI l5], z9 ++ [], M9))) rfl).trans (amK_pV fun M4 => ?_)
    refine (amRun_t (f := amStep amGst (amD amGst d) cdX12_feed) 2 (x := amPu 0 (amD amGst d 148 [vR 12 12 0, vI l5] M4) (fun z9 M9 => .inl (42, [vR 12 12 0, vI l1, vI l2, vI l3, vI l4, vI l5], z9 ++ [], M9))) rfl).trans (amK_pV fun M5 => ?_)
    exact amRun_b 3 (x := .inr (some (vI (M5 12 0 2), M5))) rfl
theorem n_X12_feed (d : Nat) (l1 : Int) (l2 : Int) (l3 : Int) (l4 : Int) (l5 : Int) (M : AmM) : amD amGst (d + 1) 147 [vR 12 12 0, vI l1, vI l2, vI l3, vI l4, vI l5] M = e_X12_feed_0 d l1 l2 l3 l4 l5 M := rfl
noncomputable def e_X12_put_0 (d : Nat) (l1 : Int) (M : AmM) : Option (AmV × AmM) := amRun (amStep amGst (amD amGst d) cdX12_put) (0, [vR 12 12 0, vI l1, vU], [], M)
noncomputable def e_X12_put_3 (d : Nat) (l1 : Int) (l2 : Int) (M : AmM) : Option (AmV × AmM) := amRun (amStep amGst (amD amGst d) cdX12_put) (3, [vR 12 12 0, vI l1, vI l2], [], M)
noncomputable def e_X12_put_30 (d : Nat) (l1 : Int) (l2 : Int) (M : AmM) : Option (AmV × AmM) := amRun (amStep amGst (amD amGst d) cdX12_put) (30, [vR 12 12 0, vI l1, vI l2], [], M)
theorem q_X12_put_0 (d : Nat) (l1 : Int) (M : AmM) : e_X12_put_0 d l1 M =
    e_X12_put_3 d l1 24 M := by
  show amRun _ _ = _
  exact amRun_b 2 (x := .inl (3, [vR 12 12 0, vI l1, vI 24], [], M)) rfl
theorem q_X12_put_3 (d : Nat) (l1 : Int) (l2 : Int) (M : AmM) : e_X12_put_3 d l1 l2 M =
    if l2 < 0 then (some (vU, M)) else (if (0 : Int) ≤ M 12 0 2 ∧ M 12 0 2 < 2000 then (e_X12_put_30 d l1 l2 (amUp (amUp M 129 0 (M 12 0 2).toNat (w8 (w8 (bShr l1 l2)))) 12 0 2 (w32 (((amUp M 129 0 (M 12 0 2).toNat (w8 (w8 (bShr l1 l2)))) 12 0 2) + 1)))) else none) := by
  show amRun _ _ = _
  refine (amRun_t (f := amStep amGst (amD amGst d) cdX12_put) 1 (x := if l2 < 0 then .inl (36, [vR 12 12 0, vI l1, vI l2], [], M) else .inl (7, [vR 12 12 0, vI l1, vI l2], [], M)) rfl).trans (amK_if ?_ ?_)
  · exact amRun_b 1 (x := .inr (some (vU, M))) rfl
  · refine (amRun_t (f := amStep amGst (amD amGst d) cdX12_put) 8 (x := if (0 : Int) ≤ M 12 0 2 ∧ M 12 0 2 < 2000 then .inl (20, [vR 12 12 0, vI l1, vI l2], [], amUp M 129 0 (M 12 0 2).toNat (w8 (w8 (bShr l1 l2)))) else amNo) rfl).trans (amK_if ?_ rfl)
    exact amRun_b 6 (x := .inl (30, [vR 12 12 0, vI l1, vI l2], [], amUp (amUp M 129 0 (M 12 0 2).toNat (w8 (w8 (bShr l1 l2)))) 12 0 2 (w32 (((amUp M 129 0 (M 12 0 2).toNat (w8 (w8 (bShr l1 l2)))) 12 0 2) + 1)))) rfl
theorem q_X12_put_30 (d : Nat) (l1 : Int) (l2 : Int) (M : AmM) : e_X12_put_30 d l1 l2 M =
    e_X12_put_3 d l1 (w32 (l2 + (-8))) M := by
  show amRun _ _ = _
  exact amRun_b 2 (x := .inl (3, [vR 12 12 0, vI l1, vI (w32 (l2 + (-8)))], [], M)) rfl
theorem n_X12_put (d : Nat) (l1 : Int) (M : AmM) : amD amGst (d + 1) 148 [vR 12 12 0, vI l1] M = e_X12_put_0 d l1 M := rfl
noncomputable def e_X12_back_0 (d : Nat) (l1 : Int) (M : AmM) : Option (AmV × AmM) := amRun (amStep amGst (amD amGst d) cdX12_back) (0, [vR 12 12 0, vI l1], [], M)
theorem q_X12_back_0 (d : Nat) (l1 : Int) (M : AmM) : e_X12_back_0 d l1 M =
    if l1 < 0 then (some (vI (-1), M)) else (if M 12 0 2 < l1 then (some (vI (-1), M)) else (some (vI ((amUp M 12 0 2 (w32 ((M 12 0 2) - l1))) 12 0 2), amUp M 12 0 2 (w32 ((M 12 0 2) - l1))))) := by
  show amRun _ _ = _
  refine (amRun_t (f := amStep amGst (amD amGst d) cdX12_back) 1 (x := if l1 < 0 then .inl (12, [vR 12 12 0, vI l1], [], M) else .inl (4, [vR 12 12 0, vI l1], [], M)) rfl).trans (amK_if ?_ ?_)
  · exact amRun_b 2 (x := .inr (some (vI (-1), M))) rfl
  · refine (amRun_t (f := amStep amGst (amD amGst d) cdX12_back) 3 (x := if M 12 0 2 < l1 then .inl (12, [vR 12 12 0, vI l1], [], M) else .inl (14, [vR 12 12 0, vI l1], [], M)) rfl).trans (amK_if ?_ ?_)
    · exact amRun_b 2 (x := .inr (some (vI (-1), M))) rfl
    · exact amRun_b 9 (x := .inr (some (vI ((amUp M 12 0 2 (w32 ((M 12 0 2) - l1))) 12 0 2), amUp M 12 0 2 (w32 ((M 12 0 2) - l1))))) rfl
theorem n_X12_back (d : Nat) (l1 : Int) (M : AmM) : amD amGst (d + 1) 149 [vR 12 12 0, vI l1] M = e_X12_back_0 d l1 M := rfl
noncomputable def e_X12_byteAt_0 (d : Nat) (l1 : Int) (M : AmM) : Option (AmV × AmM) := amRun (amStep amGst (amD amGst d) cdX12_byteAt) (0, [vR 12 12 0, vI l1], [], M)
theorem q_X12_byteAt_0 (d : Nat) (l1 : Int) (M : AmM) : e_X12_byteAt_0 d l1 M =
    if l1 < M 12 0 4 then (if (0 : Int) ≤ l1 ∧ l1 < 2000 then (some (vI (bAnd (M 130 0 (l1).toNat) 255), M)) else none) else (some (vI 0, M)) := by
  show amRun _ _ = _
  refine (amRun_t (f := amStep amGst (amD amGst d) cdX12_byteAt) 3 (x := if l1 < M 12 0 4 then .inl (8, [vR 12 12 0, vI l1], [], M) else .inl (21, [vR 12 12 0, vI l1], [], M)) rfl).trans (amK_if ?_ ?_)
  · refine (amRun_t (f := amStep amGst (amD amGst d) cdX12_byteAt) 3 (x := if (0 : Int) ≤ l1 ∧ l1 < 2000 then .inl (14, [vR 12 12 0, vI l1], [vI (M 130 0 (l1).toNat)], M) else amNo) rfl).trans (amK_if ?_ rfl)
    exact amRun_b 4 (x := .inr (some (vI (bAnd (M 130 0 (l1).toNat) 255), M))) rfl
  · exact amRun_b 2 (x := .inr (some (vI 0, M))) rfl
theorem n_X12_byteAt (d : Nat) (l1 : Int) (M : AmM) : amD amGst (d + 1) 150 [vR 12 12 0, vI l1] M = e_X12_byteAt_0 d l1 M := rfl
noncomputable def e_X12_isDigit_0 (d : Nat) (l0 : Int) (M : AmM) : Option (AmV × AmM) := amRun (amStep amGst (amD amGst d) cdX12_isDigit) (0, [vI l0], [], M)
theorem q_X12_isDigit_0 (d : Nat) (l0 : Int) (M : AmM) : e_X12_isDigit_0 d l0 M =
    if l0 < 48 then (some (vI 0, M)) else (if 57 < l0 then (some (vI 0, M)) else (some (vI 1, M))) := by
  show amRun _ _ = _
  refine (amRun_t (f := amStep amGst (amD amGst d) cdX12_isDigit) 2 (x := if l0 < 48 then .inl (16, [vI l0], [], M) else .inl (6, [vI l0], [], M)) rfl).trans (amK_if ?_ ?_)
  · exact amRun_b 2 (x := .inr (some (vI 0, M))) rfl
  · refine (amRun_t (f := amStep amGst (amD amGst d) cdX12_isDigit) 2 (x := if 57 < l0 then .inl (16, [vI l0], [], M) else .inl (12, [vI l0], [], M)) rfl).trans (amK_if ?_ ?_)
    · exact amRun_b 2 (x := .inr (some (vI 0, M))) rfl
    · exact amRun_b 3 (x := .inr (some (vI 1, M))) rfl
theorem n_X12_isDigit (d : Nat) (l0 : Int) (M : AmM) : amD amGst (d + 1) 151 [vI l0] M = e_X12_isDigit_0 d l0 M := rfl
noncomputable def e_X12_isLetter_0 (d : Nat) (l0 : Int) (M : AmM) : Option (AmV × AmM) := amRun (amStep amGst (amD amGst d) cdX12_isLetter) (0, [vI l0], [], M)
theorem q_X12_isLetter_0 (d : Nat) (l0 : Int) (M : AmM) : e_X12_isLetter_0 d l0 M =
    if l0 < 97 then (some (vI 0, M)) else (if 122 < l0 then (some (vI 0, M)) else (some (vI 1, M))) := by
  show amRun _ _ = _
  refine (amRun_t (f := amStep amGst (amD amGst d) cdX12_isLetter) 2 (x := if l0 < 97 then .inl (16, [vI l0], [], M) else .inl (6, [vI l0], [], M)) rfl).trans (amK_if ?_ ?_)
  · exact amRun_b 2 (x := .inr (some (vI 0, M))) rfl
  · refine (amRun_t (f := amStep amGst (amD amGst d) cdX12_isLetter) 2 (x := if 122 < l0 then .inl (16, [vI l0], [], M) else .inl (12, [vI l0], [], M)) rfl).trans (amK_if ?_ ?_)
    · exact amRun_b 2 (x := .inr (some (vI 0, M))) rfl
    · exact amRun_b 3 (x := .inr (some (vI 1, M))) rfl
theorem n_X12_isLetter (d : Nat) (l0 : Int) (M : AmM) : amD amGst (d + 1) 152 [vI l0] M = e_X12_isLetter_0 d l0 M := rfl
noncomputable def e_X12_appends_0 (d : Nat) (l0 : Int) (l2 : Int) (M : AmM) : Option (AmV × AmM) := amRun (amStep amGst (amD amGst d) cdX12_appends) (0, [vL l0, vU, vI l2], [], M)
theorem q_X12_appends_0 (d : Nat) (l0 : Int) (l2 : Int) (M : AmM) : e_X12_appends_0 d l0 l2 M =
    if l2 = 0 then (some (vL l0, M)) else (some (vL (w64 ((w64 (27 * l0)) + (w32 ((w32 (l2 - 97)) + 1)))), M)) := by
  show amRun _ _ = _
  refine (amRun_t (f := amStep amGst (amD amGst d) cdX12_appends) 1 (x := if l2 = 0 then .inl (4, [vL l0, vU, vI l2], [], M) else .inl (8, [vL l0, vU, vI l2], [], M)) rfl).trans (amK_if ?_ ?_)
  · exact amRun_b 3 (x := .inr (some (vL l0, M))) rfl
  · exact amRun_b 11 (x := .inr (some (vL (w64 ((w64 (27 * l0)) + (w32 ((w32 (l2 - 97)) + 1)))), M))) rfl
theorem n_X12_appends (d : Nat) (l0 : Int) (l2 : Int) (M : AmM) : amD amGst (d + 1) 153 [vL l0, vI l2] M = e_X12_appends_0 d l0 l2 M := rfl
noncomputable def e_X12_word_0 (d : Nat) (l0 : Int) (l1 : Int) (l2 : Int) (l3 : Int) (l4 : Int) (l5 : Int) (l6 : Int) (M : AmM) : Option (AmV × AmM) := amRun (amStep amGst (amD amGst d) cdX12_word) (0, [vI l0, vI l1, vI l2, vI l3, vI l4, vI l5, vI l6], [], M)
theorem q_X12_word_0 (d : Nat) (l0 : Int) (l1 : Int) (l2 : Int) (l3 : Int) (l4 : Int) (l5 : Int) (l6 : Int) (M : AmM) : e_X12_word_0 d l0 l1 l2 l3 l4 l5 l6 M =
    amCL (amD amGst d 153 [vL 0, vI l0] M) fun v1 M1 => amCL (amD amGst d 153 [vL v1, vI l1] M1) fun v2 M2 => amCL (amD amGst d 153 [vL v2, vI l2] M2) fun v3 M3 => amCL (amD amGst d 153 [vL v3, vI l3] M3) fun v4 M4 => amCL (amD amGst d 153 [vL v4, vI l4] M4) fun v5 M5 => amCL (amD amGst d 153 [vL v5, vI l5] M5) fun v6 M6 => amCL (amD amGst d 153 [vL v6, vI l6] M6) fun v7 M7 => some (vL v7, M7) := by
  show amRun _ _ = _
  refine (amRun_t (f := amStep amGst (amD amGst d) cdX12_word) 2 (x := amPu 2 (amD amGst d 153 [vL 0, vI l0] M) (fun z9 M9 => .inl (5, [vI l0, vI l1, vI l2, vI l3, vI l4, vI l5, vI l6], z9 ++ [], M9))) rfl).trans (amK_pL fun v1 M1 => ?_)
  refine (amRun_t (f := amStep amGst (amD amGst d) cdX12_word) 1 (x := amPu 2 (amD amGst d 153 [vL v1, vI l1] M1) (fun z9 M9 => .inl (9, [vI l0, vI l1, vI l2, vI l3, vI l4, vI l5, vI l6], z9 ++ [], M9))) rfl).trans (amK_pL fun v2 M2 => ?_)
  refine (amRun_t (f := amStep amGst (amD amGst d) cdX12_word) 1 (x := amPu 2 (amD amGst d 153 [vL v2, vI l2] M2) (fun z9 M9 => .inl (13, [vI l0, vI l1, vI l2, vI l3, vI l4, vI l5, vI l6], z9 ++ [], M9))) rfl).trans (amK_pL fun v3 M3 => ?_)
  refine (amRun_t (f := amStep amGst (amD amGst d) cdX12_word) 1 (x := amPu 2 (amD amGst d 153 [vL v3, vI l3] M3) (fun z9 M9 => .inl (17, [vI l0, vI l1, vI l2, vI l3, vI l4, vI l5, vI l6], z9 ++ [], M9))) rfl).trans (amK_pL fun v4 M4 => ?_)
  refine (amRun_t (f := amStep amGst (amD amGst d) cdX12_word) 1 (x := amPu 2 (amD amGst d 153 [vL v4, vI l4] M4) (fun z9 M9 => .inl (22, [vI l0, vI l1, vI l2, vI l3, vI l4, vI l5, vI l6], z9 ++ [], M9))) rfl).trans (amK_pL fun v5 M5 => ?_)
  refine (amRun_t (f := amStep amGst (amD amGst d) cdX12_word) 1 (x := amPu 2 (amD amGst d 153 [vL v5, vI l5] M5) (fun z9 M9 => .inl (27, [vI l0, vI l1, vI l2, vI l3, vI l4, vI l5, vI l6], z9 ++ [], M9))) rfl).trans (amK_pL fun v6 M6 => ?_)
  refine (amRun_t (f := amStep amGst (amD amGst d) cdX12_word) 1 (x := amPu 2 (amD amGst d 153 [vL v6, vI l6] M6) (fun z9 M9 => .inl (32, [vI l0, vI l1, vI l2, vI l3, vI l4, vI l5, vI l6], z9 ++ [], M9))) rfl).trans (amK_pL fun v7 M7 => ?_)
  exact amRun_b 1 (x := .inr (some (vL v7, M7))) rfl
theorem n_X12_word (d : Nat) (l0 : Int) (l1 : Int) (l2 : Int) (l3 : Int) (l4 : Int) (l5 : Int) (l6 : Int) (M : AmM) : amD amGst (d + 1) 154 [vI l0, vI l1, vI l2, vI l3, vI l4, vI l5, vI l6] M = e_X12_word_0 d l0 l1 l2 l3 l4 l5 l6 M := rfl
noncomputable def e_X12_token_0 (d : Nat) (l1 : Int) (l2 : Int) (l3 : Int) (l4 : Int) (M : AmM) : Option (AmV × AmM) := amRun (amStep amGst (amD amGst d) cdX12_token) (0, [vR 12 12 0, vI l1, vI l2, vI l3, vL l4, vU], [], M)
noncomputable def e_X12_token_20 (d : Nat) (l1 : Int) (l2 : Int) (l3 : Int) (l4 : Int) (M : AmM) : Option (AmV × AmM) := amRun (amStep amGst (amD amGst d) cdX12_token) (20, [vR 12 12 0, vI l1, vI l2, vI l3, vL l4, vU], [], M)
noncomputable def e_X12_token_41 (d : Nat) (l1 : Int) (l2 : Int) (l3 : Int) (l4 : Int) (M : AmM) : Option (AmV × AmM) := amRun (amStep amGst (amD amGst d) cdX12_token) (41, [vR 12 12 0, vI l1, vI l2, vI l3, vL l4, vU], [], M)
theorem q_X12_token_0 (d : Nat) (l1 : Int) (l2 : Int) (l3 : Int) (l4 : Int) (M : AmM) : e_X12_token_0 d l1 l2 l3 l4 M =
    if (0 : Int) ≤ M 12 0 10 ∧ M 12 0 10 < 403 then (if (0 : Int) ≤ (amUp M 131 0 (M 12 0 10).toNat l1) 12 0 10 ∧ (amUp M 131 0 (M 12 0 10).toNat l1) 12 0 10 < 403 then (e_X12_token_20 d l1 l2 l3 l4 (amUp (amUp M 131 0 (M 12 0 10).toNat l1) 132 0 ((amUp M 131 0 (M 12 0 10).toNat l1) 12 0 10).toNat l2)) else none) else none := by
  show amRun _ _ = _
  refine (amRun_t (f := amStep amGst (amD amGst d) cdX12_token) 5 (x := if (0 : Int) ≤ M 12 0 10 ∧ M 12 0 10 < 403 then .inl (10, [vR 12 12 0, vI l1, vI l2, vI l3, vL l4, vU], [], amUp M 131 0 (M 12 0 10).toNat l1) else amNo) rfl).trans (amK_if ?_ rfl)
  refine (amRun_t (f := amStep amGst (amD amGst d) cdX12_token) 5 (x := if (0 : Int) ≤ (amUp M 131 0 (M 12 0 10).toNat l1) 12 0 10 ∧ (amUp M 131 0 (M 12 0 10).toNat l1) 12 0 10 < 403 then .inl (20, [vR 12 12 0, vI l1, vI l2, vI l3, vL l4, vU], [], amUp (amUp M 131 0 (M 12 0 10).toNat l1) 132 0 ((amUp M 131 0 (M 12 0 10).toNat l1) 12 0 10).toNat l2) else amNo) rfl).trans (amK_if ?_ rfl)
  exact amRun_b 0 (x := .inl (20, [vR 12 12 0, vI l1, vI l2, vI l3, vL l4, vU], [], amUp (amUp M 131 0 (M 12 0 10).toNat l1) 132 0 ((amUp M 131 0 (M 12 0 10).toNat l1) 12 0 10).toNat l2)) rfl
theorem q_X12_token_20 (d : Nat) (l1 : Int) (l2 : Int) (l3 : Int) (l4 : Int) (M : AmM) : e_X12_token_20 d l1 l2 l3 l4 M =
    if (0 : Int) ≤ M 12 0 10 ∧ M 12 0 10 < 403 then (if (0 : Int) ≤ (amUp M 133 0 (M 12 0 10).toNat l3) 12 0 10 ∧ (amUp M 133 0 (M 12 0 10).toNat l3) 12 0 10 < 403 then (e_X12_token_41 d l1 l2 l3 l4 (amUp (amUp M 133 0 (M 12 0 10).toNat l3) 134 0 ((amUp M 133 0 (M 12 0 10).toNat l3) 12 0 10).toNat l4)) else none) else none := by
  show amRun _ _ = _
  refine (amRun_t (f := amStep amGst (amD amGst d) cdX12_token) 5 (x := if (0 : Int) ≤ M 12 0 10 ∧ M 12 0 10 < 403 then .inl (30, [vR 12 12 0, vI l1, vI l2, vI l3, vL l4, vU], [], amUp M 133 0 (M 12 0 10).toNat l3) else amNo) rfl).trans (amK_if ?_ rfl)
  refine (amRun_t (f := amStep amGst (amD amGst d) cdX12_token) 5 (x := if (0 : Int) ≤ (amUp M 133 0 (M 12 0 10).toNat l3) 12 0 10 ∧ (amUp M 133 0 (M 12 0 10).toNat l3) 12 0 10 < 403 then .inl (41, [vR 12 12 0, vI l1, vI l2, vI l3, vL l4, vU], [], amUp (amUp M 133 0 (M 12 0 10).toNat l3) 134 0 ((amUp M 133 0 (M 12 0 10).toNat l3) 12 0 10).toNat l4) else amNo) rfl).trans (amK_if ?_ rfl)
  exact amRun_b 0 (x := .inl (41, [vR 12 12 0, vI l1, vI l2, vI l3, vL l4, vU], [], amUp (amUp M 133 0 (M 12 0 10).toNat l3) 134 0 ((amUp M 133 0 (M 12 0 10).toNat l3) 12 0 10).toNat l4)) rfl
theorem q_X12_token_41 (d : Nat) (l1 : Int) (l2 : Int) (l3 : Int) (l4 : Int) (M : AmM) : e_X12_token_41 d l1 l2 l3 l4 M =
    some (vU, amUp M 12 0 10 (w32 ((M 12 0 10) + 1))) := by
  show amRun _ _ = _
  exact amRun_b 7 (x := .inr (some (vU, amUp M 12 0 10 (w32 ((M 12 0 10) + 1))))) rfl
theorem n_X12_token (d : Nat) (l1 : Int) (l2 : Int) (l3 : Int) (l4 : Int) (M : AmM) : amD amGst (d + 1) 155 [vR 12 12 0, vI l1, vI l2, vI l3, vL l4] M = e_X12_token_0 d l1 l2 l3 l4 M := rfl
noncomputable def e_X12_cut_0 (d : Nat) (M : AmM) : Option (AmV × AmM) := amRun (amStep amGst (amD amGst d) cdX12_cut) (0, [vR 12 12 0, vU, vU, vU, vU, vU, vU, vU], [], M)
noncomputable def e_X12_cut_7 (d : Nat) (l1 : Int) (u2 : AmV) (u3 : AmV) (u4 : AmV) (u6 : AmV) (u7 : AmV) (M : AmM) : Option (AmV × AmM) := amRun (amStep amGst (amD amGst d) cdX12_cut) (7, [vR 12 12 0, vI l1, u2, u3, u4, vU, u6, u7], [], M)
noncomputable def e_X12_cut_85 (d : Nat) (l1 : Int) (l2 : Int) (l3 : Int) (l4 : Int) (u6 : AmV) (u7 : AmV) (M : AmM) : Option (AmV × AmM) := amRun (amStep amGst (amD amGst d) cdX12_cut) (85, [vR 12 12 0, vI l1, vI l2, vI l3, vL l4, vU, u6, u7], [], M)
noncomputable def e_X12_cut_146 (d : Nat) (l1 : Int) (l2 : Int) (l3 : Int) (l4 : Int) (l6 : Int) (l7 : Int) (M : AmM) : Option (AmV × AmM) := amRun (amStep amGst (amD amGst d) cdX12_cut) (146, [vR 12 12 0, vI l1, vI l2, vI l3, vL l4, vU, vI l6, vI l7], [], M)
noncomputable def e_X12_cut_179 (d : Nat) (l1 : Int) (l2 : Int) (l3 : Int) (l4 : Int) (l6 : Int) (u7 : AmV) (M : AmM) : Option (AmV × AmM) := amRun (amStep amGst (amD amGst d) cdX12_cut) (179, [vR 12 12 0, vI l1, vI l2, vI l3, vL l4, vU, vI l6, u7], [], M)
noncomputable def e_X12_cut_208 (d : Nat) (l1 : Int) (l2 : Int) (l3 : Int) (l4 : Int) (u6 : AmV) (u7 : AmV) (M : AmM) : Option (AmV × AmM) := amRun (amStep amGst (amD amGst d) cdX12_cut) (208, [vR 12 12 0, vI l1, vI l2, vI l3, vI l4, vU, u6, u7], [], M)
theorem q_X12_cut_0 (d : Nat) (M : AmM) : e_X12_cut_0 d M =
    e_X12_cut_7 d 0 vU vU vU vU vU (amUp M 12 0 10 0) := by
  show amRun _ _ = _
  exact amRun_b 5 (x := .inl (7, [vR 12 12 0, vI 0, vU, vU, vU, vU, vU, vU], [], amUp M 12 0 10 0)) rfl
theorem q_X12_cut_7 (d : Nat) (l1 : Int) (u2 : AmV) (u3 : AmV) (u4 : AmV) (u6 : AmV) (u7 : AmV) (M : AmM) : e_X12_cut_7 d l1 u2 u3 u4 u6 u7 M =
    if 400 < M 12 0 10 then (some (vU, M)) else (amCI (amD amGst d 150 [vR 12 12 0, vI l1] M) fun v1 M1 => if l1 < M1 12 0 4 then (if v1 = 9 then (e_X12_cut_7 d (w32 (l1 + 1)) (vI v1) u3 u4 u6 u7 M1) else (if v1 = 10 then (e_X12_cut_7 d (w32 (l1 + 1)) (vI v1) u3 u4 u6 u7 M1) else (if v1 = 13 then (e_X12_cut_7 d (w32 (l1 + 1)) (vI v1) u3 u4 u6 u7 M1) else (if v1 = 32 then (e_X12_cut_7 d (w32 (l1 + 1)) (vI v1) u3 u4 u6 u7 M1) else (amCI (amD amGst d 152 [vI v1] M1) fun v2 M2 => if v2 = 0 then (amCI (amD amGst d 151 [vI v1] M2) fun v3 M3 => if v3 = 0 then (amCI (amD amGst d 150 [vR 12 12 0, vI (w32 (l1 + 1))] M3) fun v4 M4 => amCI (amD amGst d 157 [vR 12 12 0, vI l1, vI v1, vI v4] M4) fun v5 M5 => e_X12_cut_7 d (w32 (l1 + v5)) (vI v1) u3 u4 u6 u7 M5) else (e_X12_cut_208 d l1 v1 0 0 u6 u7 M3)) else (e_X12_cut_85 d l1 v1 0 0 u6 u7 M2)))))) else (amCV (amD amGst d 155 [vR 12 12 0, vI 0, vI (M1 12 0 4), vI 0, vL 0] M1) fun M6 => some (vU, M6))) := by
  show amRun _ _ = _
  refine (amRun_t (f := amStep amGst (amD amGst d) cdX12_cut) 3 (x := if 400 < M 12 0 10 then .inl (294, [vR 12 12 0, vI l1, u2, u3, u4, vU, u6, u7], [], M) else .inl (17, [vR 12 12 0, vI l1, u2, u3, u4, vU, u6, u7], [], M)) rfl).trans (amK_if ?_ ?_)
  · exact amRun_b 1 (x := .inr (some (vU, M))) rfl
  · refine (amRun_t (f := amStep amGst (amD amGst d) cdX12_cut) 2 (x := amPu 1 (amD amGst d 150 [vR 12 12 0, vI l1] M) (fun z9 M9 => .inl (22, [vR 12 12 0, vI l1, u2, u3, u4, vU, u6, u7], z9 ++ [], M9))) rfl).trans (amK_pI fun v1 M1 => ?_)
    refine (amRun_t (f := amStep amGst (amD amGst d) cdX12_cut) 4 (x := if l1 < M1 12 0 4 then .inl (43, [vR 12 12 0, vI l1, vI v1, u3, u4, vU, u6, u7], [], M1) else .inl (31, [vR 12 12 0, vI l1, vI v1, u3, u4, vU, u6, u7], [], M1)) rfl).trans (amK_if ?_ ?_)
    · refine (amRun_t (f := amStep amGst (amD amGst d) cdX12_cut) 2 (x := if v1 = 9 then .inl (67, [vR 12 12 0, vI l1, vI v1, u3, u4, vU, u6, u7], [], M1) else .inl (49, [vR 12 12 0, vI l1, vI v1, u3, u4, vU, u6, u7], [], M1)) rfl).trans (amK_if ?_ ?_)
      · exact amRun_b 3 (x := .inl (7, [vR 12 12 0, vI (w32 (l1 + 1)), vI v1, u3, u4, vU, u6, u7], [], M1)) rfl
      · refine (amRun_t (f := amStep amGst (amD amGst d) cdX12_cut) 2 (x := if v1 = 10 then .inl (67, [vR 12 12 0, vI l1, vI v1, u3, u4, vU, u6, u7], [], M1) else .inl (55, [vR 12 12 0, vI l1, vI v1, u3, u4, vU, u6, u7], [], M1)) rfl).trans (amK_if ?_ ?_)
        · exact amRun_b 3 (x := .inl (7, [vR 12 12 0, vI (w32 (l1 + 1)), vI v1, u3, u4, vU, u6, u7], [], M1)) rfl
        · refine (amRun_t (f := amStep amGst (amD amGst d) cdX12_cut) 2 (x := if v1 = 13 then .inl (67, [vR 12 12 0, vI l1, vI v1, u3, u4, vU, u6, u7], [], M1) else .inl (61, [vR 12 12 0, vI l1, vI v1, u3, u4, vU, u6, u7], [], M1)) rfl).trans (amK_if ?_ ?_)
          · exact amRun_b 3 (x := .inl (7, [vR 12 12 0, vI (w32 (l1 + 1)), vI v1, u3, u4, vU, u6, u7], [], M1)) rfl
          · refine (amRun_t (f := amStep amGst (amD amGst d) cdX12_cut) 2 (x := if v1 = 32 then .inl (67, [vR 12 12 0, vI l1, vI v1, u3, u4, vU, u6, u7], [], M1) else .inl (73, [vR 12 12 0, vI l1, vI v1, u3, u4, vU, u6, u7], [], M1)) rfl).trans (amK_if ?_ ?_)
            · exact amRun_b 3 (x := .inl (7, [vR 12 12 0, vI (w32 (l1 + 1)), vI v1, u3, u4, vU, u6, u7], [], M1)) rfl
            · refine (amRun_t (f := amStep amGst (amD amGst d) cdX12_cut) 1 (x := amPu 1 (amD amGst d 152 [vI v1] M1) (fun z9 M9 => .inl (77, [vR 12 12 0, vI l1, vI v1, u3, u4, vU, u6, u7], z9 ++ [], M9))) rfl).trans (amK_pI fun v2 M2 => ?_)
              refine (amRun_t (f := amStep amGst (amD amGst d) cdX12_cut) 0 (x := if v2 = 0 then .inl (196, [vR 12 12 0, vI l1, vI v1, u3, u4, vU, u6, u7], [], M2) else .inl (80, [vR 12 12 0, vI l1, vI v1, u3, u4, vU, u6, u7], [], M2)) rfl).trans (amK_if ?_ ?_)
              · refine (amRun_t (f := amStep amGst (amD amGst d) cdX12_cut) 1 (x := amPu 1 (amD amGst d 151 [vI v1] M2) (fun z9 M9 => .inl (200, [vR 12 12 0, vI l1, vI v1, u3, u4, vU, u6, u7], z9 ++ [], M9))) rfl).trans (amK_pI fun v3 M3 => ?_)
                refine (amRun_t (f := amStep amGst (amD amGst d) cdX12_cut) 0 (x := if v3 = 0 then .inl (275, [vR 12 12 0, vI l1, vI v1, u3, u4, vU, u6, u7], [], M3) else .inl (203, [vR 12 12 0, vI l1, vI v1, u3, u4, vU, u6, u7], [], M3)) rfl).trans (amK_if ?_ ?_)
                · refine (amRun_t (f := amStep amGst (amD amGst d) cdX12_cut) 8 (x := amPu 1 (amD amGst d 150 [vR 12 12 0, vI (w32 (l1 + 1))] M3) (fun z9 M9 => .inl (286, [vR 12 12 0, vI l1, vI v1, u3, u4, vU, u6, u7], z9 ++ [vI v1, vI l1, vR 12 12 0, vI l1], M9))) rfl).trans (amK_pI fun v4 M4 => ?_)
                  refine (amRun_t (f := amStep amGst (amD amGst d) cdX12_cut) 0 (x := amPu 1 (amD amGst d 157 [vR 12 12 0, vI l1, vI v1, vI v4] M4) (fun z9 M9 => .inl (289, [vR 12 12 0, vI l1, vI v1, u3, u4, vU, u6, u7], z9 ++ [vI l1], M9))) rfl).trans (amK_pI fun v5 M5 => ?_)
                  exact amRun_b 3 (x := .inl (7, [vR 12 12 0, vI (w32 (l1 + v5)), vI v1, u3, u4, vU, u6, u7], [], M5)) rfl
                · exact amRun_b 4 (x := .inl (208, [vR 12 12 0, vI l1, vI v1, vI 0, vI 0, vU, u6, u7], [], M3)) rfl
              · exact amRun_b 4 (x := .inl (85, [vR 12 12 0, vI l1, vI v1, vI 0, vL 0, vU, u6, u7], [], M2)) rfl
    · refine (amRun_t (f := amStep amGst (amD amGst d) cdX12_cut) 6 (x := amPu 0 (amD amGst d 155 [vR 12 12 0, vI 0, vI (M1 12 0 4), vI 0, vL 0] M1) (fun z9 M9 => .inl (42, [vR 12 12 0, vI l1, vI v1, u3, u4, vU, u6, u7], z9 ++ [], M9))) rfl).trans (amK_pV fun M6 => ?_)
      exact amRun_b 1 (x := .inr (some (vU, M6))) rfl
theorem q_X12_cut_85 (d : Nat) (l1 : Int) (l2 : Int) (l3 : Int) (l4 : Int) (u6 : AmV) (u7 : AmV) (M : AmM) : e_X12_cut_85 d l1 l2 l3 l4 u6 u7 M =
    amCI (amD amGst d 150 [vR 12 12 0, vI (w32 (l1 + l3))] M) fun v1 M1 => amCI (amD amGst d 152 [vI v1] M1) fun v2 M2 => if v2 = 0 then (if 8 < l3 then (if 7 < l3 then (e_X12_cut_179 d l1 l2 l3 l4 3 u7 M2) else (e_X12_cut_146 d l1 l2 l3 l4 3 0 M2)) else (if 7 < l3 then (e_X12_cut_179 d l1 l2 l3 l4 1 u7 M2) else (e_X12_cut_146 d l1 l2 l3 l4 1 0 M2))) else (if l3 < 8 then (amCI (amD amGst d 150 [vR 12 12 0, vI (w32 (l1 + l3))] M2) fun v3 M3 => amCL (amD amGst d 153 [vL l4, vI v3] M3) fun v4 M4 => e_X12_cut_85 d l1 l2 (w32 (l3 + 1)) v4 u6 u7 M4) else (e_X12_cut_85 d l1 l2 (w32 (l3 + 1)) l4 u6 u7 M2)) := by
  show amRun _ _ = _
  refine (amRun_t (f := amStep amGst (amD amGst d) cdX12_cut) 4 (x := amPu 1 (amD amGst d 150 [vR 12 12 0, vI (w32 (l1 + l3))] M) (fun z9 M9 => .inl (92, [vR 12 12 0, vI l1, vI l2, vI l3, vL l4, vU, u6, u7], z9 ++ [], M9))) rfl).trans (amK_pI fun v1 M1 => ?_)
  refine (amRun_t (f := amStep amGst (amD amGst d) cdX12_cut) 0 (x := amPu 1 (amD amGst d 152 [vI v1] M1) (fun z9 M9 => .inl (95, [vR 12 12 0, vI l1, vI l2, vI l3, vL l4, vU, u6, u7], z9 ++ [], M9))) rfl).trans (amK_pI fun v2 M2 => ?_)
  refine (amRun_t (f := amStep amGst (amD amGst d) cdX12_cut) 0 (x := if v2 = 0 then .inl (124, [vR 12 12 0, vI l1, vI l2, vI l3, vL l4, vU, u6, u7], [], M2) else .inl (98, [vR 12 12 0, vI l1, vI l2, vI l3, vL l4, vU, u6, u7], [], M2)) rfl).trans (amK_if ?_ ?_)
  · refine (amRun_t (f := amStep amGst (amD amGst d) cdX12_cut) 2 (x := if 8 < l3 then .inl (130, [vR 12 12 0, vI l1, vI l2, vI l3, vL l4, vU, u6, u7], [], M2) else .inl (134, [vR 12 12 0, vI l1, vI l2, vI l3, vL l4, vU, u6, u7], [], M2)) rfl).trans (amK_if ?_ ?_)
    · refine (amRun_t (f := amStep amGst (amD amGst d) cdX12_cut) 5 (x := if 7 < l3 then .inl (179, [vR 12 12 0, vI l1, vI l2, vI l3, vL l4, vU, vI 3, u7], [], M2) else .inl (143, [vR 12 12 0, vI l1, vI l2, vI l3, vL l4, vU, vI 3, u7], [], M2)) rfl).trans (amK_if ?_ ?_)
      · exact amRun_b 0 (x := .inl (179, [vR 12 12 0, vI l1, vI l2, vI l3, vL l4, vU, vI 3, u7], [], M2)) rfl
      · exact amRun_b 2 (x := .inl (146, [vR 12 12 0, vI l1, vI l2, vI l3, vL l4, vU, vI 3, vI 0], [], M2)) rfl
    · refine (amRun_t (f := amStep amGst (amD amGst d) cdX12_cut) 4 (x := if 7 < l3 then .inl (179, [vR 12 12 0, vI l1, vI l2, vI l3, vL l4, vU, vI 1, u7], [], M2) else .inl (143, [vR 12 12 0, vI l1, vI l2, vI l3, vL l4, vU, vI 1, u7], [], M2)) rfl).trans (amK_if ?_ ?_)
      · exact amRun_b 0 (x := .inl (179, [vR 12 12 0, vI l1, vI l2, vI l3, vL l4, vU, vI 1, u7], [], M2)) rfl
      · exact amRun_b 2 (x := .inl (146, [vR 12 12 0, vI l1, vI l2, vI l3, vL l4, vU, vI 1, vI 0], [], M2)) rfl
  · refine (amRun_t (f := amStep amGst (amD amGst d) cdX12_cut) 2 (x := if l3 < 8 then .inl (104, [vR 12 12 0, vI l1, vI l2, vI l3, vL l4, vU, u6, u7], [], M2) else .inl (118, [vR 12 12 0, vI l1, vI l2, vI l3, vL l4, vU, u6, u7], [], M2)) rfl).trans (amK_if ?_ ?_)
    · refine (amRun_t (f := amStep amGst (amD amGst d) cdX12_cut) 5 (x := amPu 1 (amD amGst d 150 [vR 12 12 0, vI (w32 (l1 + l3))] M2) (fun z9 M9 => .inl (113, [vR 12 12 0, vI l1, vI l2, vI l3, vL l4, vU, u6, u7], z9 ++ [vL l4], M9))) rfl).trans (amK_pI fun v3 M3 => ?_)
      refine (amRun_t (f := amStep amGst (amD amGst d) cdX12_cut) 0 (x := amPu 2 (amD amGst d 153 [vL l4, vI v3] M3) (fun z9 M9 => .inl (116, [vR 12 12 0, vI l1, vI l2, vI l3, vL l4, vU, u6, u7], z9 ++ [], M9))) rfl).trans (amK_pL fun v4 M4 => ?_)
      exact amRun_b 3 (x := .inl (85, [vR 12 12 0, vI l1, vI l2, vI (w32 (l3 + 1)), vL v4, vU, u6, u7], [], M4)) rfl
    · exact amRun_b 2 (x := .inl (85, [vR 12 12 0, vI l1, vI l2, vI (w32 (l3 + 1)), vL l4, vU, u6, u7], [], M2)) rfl
theorem q_X12_cut_146 (d : Nat) (l1 : Int) (l2 : Int) (l3 : Int) (l4 : Int) (l6 : Int) (l7 : Int) (M : AmM) : e_X12_cut_146 d l1 l2 l3 l4 l6 l7 M =
    if l7 < 19 then (if (0 : Int) ≤ l7 ∧ l7 < 19 then (if amCmp (M 135 0 (l7).toNat) l4 = 0 then (e_X12_cut_146 d l1 l2 l3 l4 (w32 (20 + l7)) (w32 (l7 + 1)) M) else (e_X12_cut_146 d l1 l2 l3 l4 l6 (w32 (l7 + 1)) M)) else none) else (e_X12_cut_179 d l1 l2 l3 l4 l6 (vI l7) M) := by
  show amRun _ _ = _
  refine (amRun_t (f := amStep amGst (amD amGst d) cdX12_cut) 2 (x := if l7 < 19 then .inl (153, [vR 12 12 0, vI l1, vI l2, vI l3, vL l4, vU, vI l6, vI l7], [], M) else .inl (179, [vR 12 12 0, vI l1, vI l2, vI l3, vL l4, vU, vI l6, vI l7], [], M)) rfl).trans (amK_if ?_ ?_)
  · refine (amRun_t (f := amStep amGst (amD amGst d) cdX12_cut) 3 (x := if (0 : Int) ≤ l7 ∧ l7 < 19 then .inl (160, [vR 12 12 0, vI l1, vI l2, vI l3, vL l4, vU, vI l6, vI l7], [vL (M 135 0 (l7).toNat)], M) else amNo) rfl).trans (amK_if ?_ rfl)
    refine (amRun_t (f := amStep amGst (amD amGst d) cdX12_cut) 2 (x := if amCmp (M 135 0 (l7).toNat) l4 = 0 then .inl (166, [vR 12 12 0, vI l1, vI l2, vI l3, vL l4, vU, vI l6, vI l7], [], M) else .inl (173, [vR 12 12 0, vI l1, vI l2, vI l3, vL l4, vU, vI l6, vI l7], [], M)) rfl).trans (amK_if ?_ ?_)
    · exact amRun_b 6 (x := .inl (146, [vR 12 12 0, vI l1, vI l2, vI l3, vL l4, vU, vI (w32 (20 + l7)), vI (w32 (l7 + 1))], [], M)) rfl
    · exact amRun_b 2 (x := .inl (146, [vR 12 12 0, vI l1, vI l2, vI l3, vL l4, vU, vI l6, vI (w32 (l7 + 1))], [], M)) rfl
  · exact amRun_b 0 (x := .inl (179, [vR 12 12 0, vI l1, vI l2, vI l3, vL l4, vU, vI l6, vI l7], [], M)) rfl
theorem q_X12_cut_179 (d : Nat) (l1 : Int) (l2 : Int) (l3 : Int) (l4 : Int) (l6 : Int) (u7 : AmV) (M : AmM) : e_X12_cut_179 d l1 l2 l3 l4 l6 u7 M =
    amCV (amD amGst d 155 [vR 12 12 0, vI l6, vI l1, vI 0, vL l4] M) fun M1 => e_X12_cut_7 d (w32 (l1 + l3)) (vI l2) (vI l3) (vL l4) (vI l6) u7 M1 := by
  show amRun _ _ = _
  refine (amRun_t (f := amStep amGst (amD amGst d) cdX12_cut) 5 (x := amPu 0 (amD amGst d 155 [vR 12 12 0, vI l6, vI l1, vI 0, vL l4] M) (fun z9 M9 => .inl (189, [vR 12 12 0, vI l1, vI l2, vI l3, vL l4, vU, vI l6, u7], z9 ++ [], M9))) rfl).trans (amK_pV fun M1 => ?_)
  exact amRun_b 6 (x := .inl (7, [vR 12 12 0, vI (w32 (l1 + l3)), vI l2, vI l3, vL l4, vU, vI l6, u7], [], M1)) rfl
theorem q_X12_cut_208 (d : Nat) (l1 : Int) (l2 : Int) (l3 : Int) (l4 : Int) (u6 : AmV) (u7 : AmV) (M : AmM) : e_X12_cut_208 d l1 l2 l3 l4 u6 u7 M =
    amCI (amD amGst d 150 [vR 12 12 0, vI (w32 (l1 + l3))] M) fun v1 M1 => amCI (amD amGst d 151 [vI v1] M1) fun v2 M2 => if v2 = 0 then (if 4 < l3 then (amCV (amD amGst d 155 [vR 12 12 0, vI 3, vI l1, vI l4, vL 0] M2) fun M3 => e_X12_cut_7 d (w32 (l1 + l3)) (vI l2) (vI l3) (vI l4) u6 u7 M3) else (amCV (amD amGst d 155 [vR 12 12 0, vI 2, vI l1, vI l4, vL 0] M2) fun M4 => e_X12_cut_7 d (w32 (l1 + l3)) (vI l2) (vI l3) (vI l4) u6 u7 M4)) else (if l3 < 4 then (amCI (amD amGst d 150 [vR 12 12 0, vI (w32 (l1 + l3))] M2) fun v5 M5 => e_X12_cut_208 d l1 l2 (w32 (l3 + 1)) (w32 ((w32 ((w32 (10 * l4)) + v5)) - 48)) u6 u7 M5) else (e_X12_cut_208 d l1 l2 (w32 (l3 + 1)) l4 u6 u7 M2)) := by
  show amRun _ _ = _
  refine (amRun_t (f := amStep amGst (amD amGst d) cdX12_cut) 4 (x := amPu 1 (amD amGst d 150 [vR 12 12 0, vI (w32 (l1 + l3))] M) (fun z9 M9 => .inl (215, [vR 12 12 0, vI l1, vI l2, vI l3, vI l4, vU, u6, u7], z9 ++ [], M9))) rfl).trans (amK_pI fun v1 M1 => ?_)
  refine (amRun_t (f := amStep amGst (amD amGst d) cdX12_cut) 0 (x := amPu 1 (amD amGst d 151 [vI v1] M1) (fun z9 M9 => .inl (218, [vR 12 12 0, vI l1, vI l2, vI l3, vI l4, vU, u6, u7], z9 ++ [], M9))) rfl).trans (amK_pI fun v2 M2 => ?_)
  refine (amRun_t (f := amStep amGst (amD amGst d) cdX12_cut) 0 (x := if v2 = 0 then .inl (250, [vR 12 12 0, vI l1, vI l2, vI l3, vI l4, vU, u6, u7], [], M2) else .inl (221, [vR 12 12 0, vI l1, vI l2, vI l3, vI l4, vU, u6, u7], [], M2)) rfl).trans (amK_if ?_ ?_)
  · refine (amRun_t (f := amStep amGst (amD amGst d) cdX12_cut) 3 (x := if 4 < l3 then .inl (256, [vR 12 12 0, vI l1, vI l2, vI l3, vI l4, vU, u6, u7], [vR 12 12 0], M2) else .inl (260, [vR 12 12 0, vI l1, vI l2, vI l3, vI l4, vU, u6, u7], [vR 12 12 0], M2)) rfl).trans (amK_if ?_ ?_)
    · refine (amRun_t (f := amStep amGst (amD amGst d) cdX12_cut) 5 (x := amPu 0 (amD amGst d 155 [vR 12 12 0, vI 3, vI l1, vI l4, vL 0] M2) (fun z9 M9 => .inl (268, [vR 12 12 0, vI l1, vI l2, vI l3, vI l4, vU, u6, u7], z9 ++ [], M9))) rfl).trans (amK_pV fun M3 => ?_)
      exact amRun_b 6 (x := .inl (7, [vR 12 12 0, vI (w32 (l1 + l3)), vI l2, vI l3, vI l4, vU, u6, u7], [], M3)) rfl
    · refine (amRun_t (f := amStep amGst (amD amGst d) cdX12_cut) 4 (x := amPu 0 (amD amGst d 155 [vR 12 12 0, vI 2, vI l1, vI l4, vL 0] M2) (fun z9 M9 => .inl (268, [vR 12 12 0, vI l1, vI l2, vI l3, vI l4, vU, u6, u7], z9 ++ [], M9))) rfl).trans (amK_pV fun M4 => ?_)
      exact amRun_b 6 (x := .inl (7, [vR 12 12 0, vI (w32 (l1 + l3)), vI l2, vI l3, vI l4, vU, u6, u7], [], M4)) rfl
  · refine (amRun_t (f := amStep amGst (amD amGst d) cdX12_cut) 2 (x := if l3 < 4 then .inl (226, [vR 12 12 0, vI l1, vI l2, vI l3, vI l4, vU, u6, u7], [], M2) else .inl (244, [vR 12 12 0, vI l1, vI l2, vI l3, vI l4, vU, u6, u7], [], M2)) rfl).trans (amK_if ?_ ?_)
    · refine (amRun_t (f := amStep amGst (amD amGst d) cdX12_cut) 7 (x := amPu 1 (amD amGst d 150 [vR 12 12 0, vI (w32 (l1 + l3))] M2) (fun z9 M9 => .inl (238, [vR 12 12 0, vI l1, vI l2, vI l3, vI l4, vU, u6, u7], z9 ++ [vI (w32 (10 * l4))], M9))) rfl).trans (amK_pI fun v5 M5 => ?_)
      exact amRun_b 6 (x := .inl (208, [vR 12 12 0, vI l1, vI l2, vI (w32 (l3 + 1)), vI (w32 ((w32 ((w32 (10 * l4)) + v5)) - 48)), vU, u6, u7], [], M5)) rfl
    · exact amRun_b 2 (x := .inl (208, [vR 12 12 0, vI l1, vI l2, vI (w32 (l3 + 1)), vI l4, vU, u6, u7], [], M2)) rfl
theorem n_X12_cut (d : Nat) (M : AmM) : amD amGst (d + 1) 156 [vR 12 12 0] M = e_X12_cut_0 d M := rfl
noncomputable def e_X12_sign_0 (d : Nat) (l1 : Int) (l2 : Int) (l3 : Int) (M : AmM) : Option (AmV × AmM) := amRun (amStep amGst (amD amGst d) cdX12_sign) (0, [vR 12 12 0, vI l1, vI l2, vI l3, vU], [], M)
noncomputable def e_X12_sign_65 (d : Nat) (l1 : Int) (l2 : Int) (l3 : Int) (l4 : Int) (M : AmM) : Option (AmV × AmM) := amRun (amStep amGst (amD amGst d) cdX12_sign) (65, [vR 12 12 0, vI l1, vI l2, vI l3, vI l4], [], M)
noncomputable def e_X12_sign_85 (d : Nat) (l1 : Int) (l2 : Int) (l3 : Int) (l4 : Int) (M : AmM) : Option (AmV × AmM) := amRun (amStep amGst (amD amGst d) cdX12_sign) (85, [vR 12 12 0, vI l1, vI l2, vI l3, vI l4], [], M)
theorem q_X12_sign_0 (d : Nat) (l1 : Int) (l2 : Int) (l3 : Int) (M : AmM) : e_X12_sign_0 d l1 l2 l3 M =
    if l2 = 59 then (if l2 = 43 then (if l2 = 45 then (e_X12_sign_65 d l1 l2 l3 9 M) else (e_X12_sign_65 d l1 l2 l3 8 M)) else (if l2 = 45 then (e_X12_sign_65 d l1 l2 l3 9 M) else (e_X12_sign_65 d l1 l2 l3 4 M))) else (if l2 = 61 then (if l2 = 43 then (if l2 = 45 then (e_X12_sign_65 d l1 l2 l3 9 M) else (e_X12_sign_65 d l1 l2 l3 8 M)) else (if l2 = 45 then (e_X12_sign_65 d l1 l2 l3 9 M) else (e_X12_sign_65 d l1 l2 l3 5 M))) else (if l2 = 40 then (if l2 = 43 then (if l2 = 45 then (e_X12_sign_65 d l1 l2 l3 9 M) else (e_X12_sign_65 d l1 l2 l3 8 M)) else (if l2 = 45 then (e_X12_sign_65 d l1 l2 l3 9 M) else (e_X12_sign_65 d l1 l2 l3 6 M))) else (if l2 = 41 then (if l2 = 43 then (if l2 = 45 then (e_X12_sign_65 d l1 l2 l3 9 M) else (e_X12_sign_65 d l1 l2 l3 8 M)) else (if l2 = 45 then (e_X12_sign_65 d l1 l2 l3 9 M) else (e_X12_sign_65 d l1 l2 l3 7 M))) else (if l2 = 43 then (if l2 = 45 then (e_X12_sign_65 d l1 l2 l3 9 M) else (e_X12_sign_65 d l1 l2 l3 8 M)) else (if l2 = 45 then (e_X12_sign_65 d l1 l2 l3 9 M) else (e_X12_sign_65 d l1 l2 l3 3 M)))))) := by
  show amRun _ _ = _
  refine (amRun_t (f := amStep amGst (amD amGst d) cdX12_sign) 2 (x := if l2 = 59 then .inl (6, [vR 12 12 0, vI l1, vI l2, vI l3, vU], [], M) else .inl (10, [vR 12 12 0, vI l1, vI l2, vI l3, vU], [], M)) rfl).trans (amK_if ?_ ?_)
  · refine (amRun_t (f := amStep amGst (amD amGst d) cdX12_sign) 5 (x := if l2 = 43 then .inl (51, [vR 12 12 0, vI l1, vI l2, vI l3, vI 4], [], M) else .inl (55, [vR 12 12 0, vI l1, vI l2, vI l3, vI 4], [], M)) rfl).trans (amK_if ?_ ?_)
    · refine (amRun_t (f := amStep amGst (amD amGst d) cdX12_sign) 4 (x := if l2 = 45 then .inl (61, [vR 12 12 0, vI l1, vI l2, vI l3, vI 8], [], M) else .inl (65, [vR 12 12 0, vI l1, vI l2, vI l3, vI 8], [], M)) rfl).trans (amK_if ?_ ?_)
      · exact amRun_b 2 (x := .inl (65, [vR 12 12 0, vI l1, vI l2, vI l3, vI 9], [], M)) rfl
      · exact amRun_b 0 (x := .inl (65, [vR 12 12 0, vI l1, vI l2, vI l3, vI 8], [], M)) rfl
    · refine (amRun_t (f := amStep amGst (amD amGst d) cdX12_sign) 2 (x := if l2 = 45 then .inl (61, [vR 12 12 0, vI l1, vI l2, vI l3, vI 4], [], M) else .inl (65, [vR 12 12 0, vI l1, vI l2, vI l3, vI 4], [], M)) rfl).trans (amK_if ?_ ?_)
      · exact amRun_b 2 (x := .inl (65, [vR 12 12 0, vI l1, vI l2, vI l3, vI 9], [], M)) rfl
      · exact amRun_b 0 (x := .inl (65, [vR 12 12 0, vI l1, vI l2, vI l3, vI 4], [], M)) rfl
  · refine (amRun_t (f := amStep amGst (amD amGst d) cdX12_sign) 2 (x := if l2 = 61 then .inl (16, [vR 12 12 0, vI l1, vI l2, vI l3, vU], [], M) else .inl (20, [vR 12 12 0, vI l1, vI l2, vI l3, vU], [], M)) rfl).trans (amK_if ?_ ?_)
    · refine (amRun_t (f := amStep amGst (amD amGst d) cdX12_sign) 5 (x := if l2 = 43 then .inl (51, [vR 12 12 0, vI l1, vI l2, vI l3, vI 5], [], M) else .inl (55, [vR 12 12 0, vI l1, vI l2, vI l3, vI 5], [], M)) rfl).trans (amK_if ?_ ?_)
      · refine (amRun_t (f := amStep amGst (amD amGst d) cdX12_sign) 4 (x := if l2 = 45 then .inl (61, [vR 12 12 0, vI l1, vI l2, vI l3, vI 8], [], M) else .inl (65, [vR 12 12 0, vI l1, vI l2, vI l3, vI 8], [], M)) rfl).trans (amK_if ?_ ?_)
        · exact amRun_b 2 (x := .inl (65, [vR 12 12 0, vI l1, vI l2, vI l3, vI 9], [], M)) rfl
        · exact amRun_b 0 (x := .inl (65, [vR 12 12 0, vI l1, vI l2, vI l3, vI 8], [], M)) rfl
      · refine (amRun_t (f := amStep amGst (amD amGst d) cdX12_sign) 2 (x := if l2 = 45 then .inl (61, [vR 12 12 0, vI l1, vI l2, vI l3, vI 5], [], M) else .inl (65, [vR 12 12 0, vI l1, vI l2, vI l3, vI 5], [], M)) rfl).trans (amK_if ?_ ?_)
        · exact amRun_b 2 (x := .inl (65, [vR 12 12 0, vI l1, vI l2, vI l3, vI 9], [], M)) rfl
        · exact amRun_b 0 (x := .inl (65, [vR 12 12 0, vI l1, vI l2, vI l3, vI 5], [], M)) rfl
    · refine (amRun_t (f := amStep amGst (amD amGst d) cdX12_sign) 2 (x := if l2 = 40 then .inl (26, [vR 12 12 0, vI l1, vI l2, vI l3, vU], [], M) else .inl (31, [vR 12 12 0, vI l1, vI l2, vI l3, vU], [], M)) rfl).trans (amK_if ?_ ?_)
      · refine (amRun_t (f := amStep amGst (amD amGst d) cdX12_sign) 5 (x := if l2 = 43 then .inl (51, [vR 12 12 0, vI l1, vI l2, vI l3, vI 6], [], M) else .inl (55, [vR 12 12 0, vI l1, vI l2, vI l3, vI 6], [], M)) rfl).trans (amK_if ?_ ?_)
        · refine (amRun_t (f := amStep amGst (amD amGst d) cdX12_sign) 4 (x := if l2 = 45 then .inl (61, [vR 12 12 0, vI l1, vI l2, vI l3, vI 8], [], M) else .inl (65, [vR 12 12 0, vI l1, vI l2, vI l3, vI 8], [], M)) rfl).trans (amK_if ?_ ?_)
          · exact amRun_b 2 (x := .inl (65, [vR 12 12 0, vI l1, vI l2, vI l3, vI 9], [], M)) rfl
          · exact amRun_b 0 (x := .inl (65, [vR 12 12 0, vI l1, vI l2, vI l3, vI 8], [], M)) rfl
        · refine (amRun_t (f := amStep amGst (amD amGst d) cdX12_sign) 2 (x := if l2 = 45 then .inl (61, [vR 12 12 0, vI l1, vI l2, vI l3, vI 6], [], M) else .inl (65, [vR 12 12 0, vI l1, vI l2, vI l3, vI 6], [], M)) rfl).trans (amK_if ?_ ?_)
          · exact amRun_b 2 (x := .inl (65, [vR 12 12 0, vI l1, vI l2, vI l3, vI 9], [], M)) rfl
          · exact amRun_b 0 (x := .inl (65, [vR 12 12 0, vI l1, vI l2, vI l3, vI 6], [], M)) rfl
      · refine (amRun_t (f := amStep amGst (amD amGst d) cdX12_sign) 2 (x := if l2 = 41 then .inl (37, [vR 12 12 0, vI l1, vI l2, vI l3, vU], [], M) else .inl (42, [vR 12 12 0, vI l1, vI l2, vI l3, vU], [], M)) rfl).trans (amK_if ?_ ?_)
        · refine (amRun_t (f := amStep amGst (amD amGst d) cdX12_sign) 5 (x := if l2 = 43 then .inl (51, [vR 12 12 0, vI l1, vI l2, vI l3, vI 7], [], M) else .inl (55, [vR 12 12 0, vI l1, vI l2, vI l3, vI 7], [], M)) rfl).trans (amK_if ?_ ?_)
          · refine (amRun_t (f := amStep amGst (amD amGst d) cdX12_sign) 4 (x := if l2 = 45 then .inl (61, [vR 12 12 0, vI l1, vI l2, vI l3, vI 8], [], M) else .inl (65, [vR 12 12 0, vI l1, vI l2, vI l3, vI 8], [], M)) rfl).trans (amK_if ?_ ?_)
            · exact amRun_b 2 (x := .inl (65, [vR 12 12 0, vI l1, vI l2, vI l3, vI 9], [], M)) rfl
            · exact amRun_b 0 (x := .inl (65, [vR 12 12 0, vI l1, vI l2, vI l3, vI 8], [], M)) rfl
          · refine (amRun_t (f := amStep amGst (amD amGst d) cdX12_sign) 2 (x := if l2 = 45 then .inl (61, [vR 12 12 0, vI l1, vI l2, vI l3, vI 7], [], M) else .inl (65, [vR 12 12 0, vI l1, vI l2, vI l3, vI 7], [], M)) rfl).trans (amK_if ?_ ?_)
            · exact amRun_b 2 (x := .inl (65, [vR 12 12 0, vI l1, vI l2, vI l3, vI 9], [], M)) rfl
            · exact amRun_b 0 (x := .inl (65, [vR 12 12 0, vI l1, vI l2, vI l3, vI 7], [], M)) rfl
        · refine (amRun_t (f := amStep amGst (amD amGst d) cdX12_sign) 4 (x := if l2 = 43 then .inl (51, [vR 12 12 0, vI l1, vI l2, vI l3, vI 3], [], M) else .inl (55, [vR 12 12 0, vI l1, vI l2, vI l3, vI 3], [], M)) rfl).trans (amK_if ?_ ?_)
          · refine (amRun_t (f := amStep amGst (amD amGst d) cdX12_sign) 4 (x := if l2 = 45 then .inl (61, [vR 12 12 0, vI l1, vI l2, vI l3, vI 8], [], M) else .inl (65, [vR 12 12 0, vI l1, vI l2, vI l3, vI 8], [], M)) rfl).trans (amK_if ?_ ?_)
            · exact amRun_b 2 (x := .inl (65, [vR 12 12 0, vI l1, vI l2, vI l3, vI 9], [], M)) rfl
            · exact amRun_b 0 (x := .inl (65, [vR 12 12 0, vI l1, vI l2, vI l3, vI 8], [], M)) rfl
          · refine (amRun_t (f := amStep amGst (amD amGst d) cdX12_sign) 2 (x := if l2 = 45 then .inl (61, [vR 12 12 0, vI l1, vI l2, vI l3, vI 3], [], M) else .inl (65, [vR 12 12 0, vI l1, vI l2, vI l3, vI 3], [], M)) rfl).trans (amK_if ?_ ?_)
            · exact amRun_b 2 (x := .inl (65, [vR 12 12 0, vI l1, vI l2, vI l3, vI 9], [], M)) rfl
            · exact amRun_b 0 (x := .inl (65, [vR 12 12 0, vI l1, vI l2, vI l3, vI 3], [], M)) rfl
theorem q_X12_sign_65 (d : Nat) (l1 : Int) (l2 : Int) (l3 : Int) (l4 : Int) (M : AmM) : e_X12_sign_65 d l1 l2 l3 l4 M =
    if l2 = 42 then (if l2 = 47 then (e_X12_sign_85 d l1 l2 l3 15 M) else (e_X12_sign_85 d l1 l2 l3 10 M)) else (if l2 = 47 then (e_X12_sign_85 d l1 l2 l3 15 M) else (e_X12_sign_85 d l1 l2 l3 l4 M)) := by
  show amRun _ _ = _
  refine (amRun_t (f := amStep amGst (amD amGst d) cdX12_sign) 2 (x := if l2 = 42 then .inl (71, [vR 12 12 0, vI l1, vI l2, vI l3, vI l4], [], M) else .inl (75, [vR 12 12 0, vI l1, vI l2, vI l3, vI l4], [], M)) rfl).trans (amK_if ?_ ?_)
  · refine (amRun_t (f := amStep amGst (amD amGst d) cdX12_sign) 4 (x := if l2 = 47 then .inl (81, [vR 12 12 0, vI l1, vI l2, vI l3, vI 10], [], M) else .inl (85, [vR 12 12 0, vI l1, vI l2, vI l3, vI 10], [], M)) rfl).trans (amK_if ?_ ?_)
    · exact amRun_b 2 (x := .inl (85, [vR 12 12 0, vI l1, vI l2, vI l3, vI 15], [], M)) rfl
    · exact amRun_b 0 (x := .inl (85, [vR 12 12 0, vI l1, vI l2, vI l3, vI 10], [], M)) rfl
  · refine (amRun_t (f := amStep amGst (amD amGst d) cdX12_sign) 2 (x := if l2 = 47 then .inl (81, [vR 12 12 0, vI l1, vI l2, vI l3, vI l4], [], M) else .inl (85, [vR 12 12 0, vI l1, vI l2, vI l3, vI l4], [], M)) rfl).trans (amK_if ?_ ?_)
    · exact amRun_b 2 (x := .inl (85, [vR 12 12 0, vI l1, vI l2, vI l3, vI 15], [], M)) rfl
    · exact amRun_b 0 (x := .inl (85, [vR 12 12 0, vI l1, vI l2, vI l3, vI l4], [], M)) rfl
theorem q_X12_sign_85 (d : Nat) (l1 : Int) (l2 : Int) (l3 : Int) (l4 : Int) (M : AmM) : e_X12_sign_85 d l1 l2 l3 l4 M =
    if l2 = 60 then (amCV (amD amGst d 155 [vR 12 12 0, vI 13, vI l1, vI 0, vL 0] M) fun M1 => some (vI 1, M1)) else (amCV (amD amGst d 155 [vR 12 12 0, vI l4, vI l1, vI 0, vL 0] M) fun M2 => some (vI 1, M2)) := by
  show amRun _ _ = _
  refine (amRun_t (f := amStep amGst (amD amGst d) cdX12_sign) 2 (x := if l2 = 60 then .inl (91, [vR 12 12 0, vI l1, vI l2, vI l3, vI l4], [], M) else .inl (95, [vR 12 12 0, vI l1, vI l2, vI l3, vI l4], [], M)) rfl).trans (amK_if ?_ ?_)
  · refine (amRun_t (f := amStep amGst (amD amGst d) cdX12_sign) 7 (x := amPu 0 (amD amGst d 155 [vR 12 12 0, vI 13, vI l1, vI 0, vL 0] M) (fun z9 M9 => .inl (104, [vR 12 12 0, vI l1, vI l2, vI l3, vI 13], z9 ++ [], M9))) rfl).trans (amK_pV fun M1 => ?_)
    exact amRun_b 2 (x := .inr (some (vI 1, M1))) rfl
  · refine (amRun_t (f := amStep amGst (amD amGst d) cdX12_sign) 5 (x := amPu 0 (amD amGst d 155 [vR 12 12 0, vI l4, vI l1, vI 0, vL 0] M) (fun z9 M9 => .inl (104, [vR 12 12 0, vI l1, vI l2, vI l3, vI l4], z9 ++ [], M9))) rfl).trans (amK_pV fun M2 => ?_)
    exact amRun_b 2 (x := .inr (some (vI 1, M2))) rfl
theorem n_X12_sign (d : Nat) (l1 : Int) (l2 : Int) (l3 : Int) (M : AmM) : amD amGst (d + 1) 157 [vR 12 12 0, vI l1, vI l2, vI l3] M = e_X12_sign_0 d l1 l2 l3 M := rfl
noncomputable def e_X12_is_0 (d : Nat) (l1 : Int) (M : AmM) : Option (AmV × AmM) := amRun (amStep amGst (amD amGst d) cdX12_is) (0, [vR 12 12 0, vI l1], [], M)
theorem q_X12_is_0 (d : Nat) (l1 : Int) (M : AmM) : e_X12_is_0 d l1 M =
    if M 12 0 13 = 0 then (if (0 : Int) ≤ M 12 0 11 ∧ M 12 0 11 < 403 then (if M 131 0 (M 12 0 11).toNat = l1 then (some (vI 1, M)) else (some (vI 0, M))) else none) else (some (vI 0, M)) := by
  show amRun _ _ = _
  refine (amRun_t (f := amStep amGst (amD amGst d) cdX12_is) 2 (x := if M 12 0 13 = 0 then .inl (7, [vR 12 12 0, vI l1], [], M) else .inl (24, [vR 12 12 0, vI l1], [], M)) rfl).trans (amK_if ?_ ?_)
  · refine (amRun_t (f := amStep amGst (amD amGst d) cdX12_is) 4 (x := if (0 : Int) ≤ M 12 0 11 ∧ M 12 0 11 < 403 then .inl (16, [vR 12 12 0, vI l1], [vI (M 131 0 (M 12 0 11).toNat)], M) else amNo) rfl).trans (amK_if ?_ rfl)
    refine (amRun_t (f := amStep amGst (amD amGst d) cdX12_is) 1 (x := if M 131 0 (M 12 0 11).toNat = l1 then .inl (20, [vR 12 12 0, vI l1], [], M) else .inl (24, [vR 12 12 0, vI l1], [], M)) rfl).trans (amK_if ?_ ?_)
    · exact amRun_b 3 (x := .inr (some (vI 1, M))) rfl
    · exact amRun_b 2 (x := .inr (some (vI 0, M))) rfl
  · exact amRun_b 2 (x := .inr (some (vI 0, M))) rfl
theorem n_X12_is (d : Nat) (l1 : Int) (M : AmM) : amD amGst (d + 1) 158 [vR 12 12 0, vI l1] M = e_X12_is_0 d l1 M := rfl
noncomputable def e_X12_fail_0 (d : Nat) (l1 : Int) (M : AmM) : Option (AmV × AmM) := amRun (amStep amGst (amD amGst d) cdX12_fail) (0, [vR 12 12 0, vI l1], [], M)
noncomputable def e_X12_fail_26 (d : Nat) (l1 : Int) (M : AmM) : Option (AmV × AmM) := amRun (amStep amGst (amD amGst d) cdX12_fail) (26, [vR 12 12 0, vI l1], [], M)
theorem q_X12_fail_0 (d : Nat) (l1 : Int) (M : AmM) : e_X12_fail_0 d l1 M =
    if 0 < M 12 0 13 then (some (vU, M)) else (if (0 : Int) ≤ (amUp M 12 0 13 l1) 12 0 11 ∧ (amUp M 12 0 13 l1) 12 0 11 < 403 then (e_X12_fail_26 d l1 (amUp (amUp M 12 0 13 l1) 12 0 14 ((amUp M 12 0 13 l1) 132 0 ((amUp M 12 0 13 l1) 12 0 11).toNat))) else none) := by
  show amRun _ _ = _
  refine (amRun_t (f := amStep amGst (amD amGst d) cdX12_fail) 2 (x := if 0 < M 12 0 13 then .inl (7, [vR 12 12 0, vI l1], [], M) else .inl (8, [vR 12 12 0, vI l1], [], M)) rfl).trans (amK_if ?_ ?_)
  · exact amRun_b 1 (x := .inr (some (vU, M))) rfl
  · refine (amRun_t (f := amStep amGst (amD amGst d) cdX12_fail) 8 (x := if (0 : Int) ≤ (amUp M 12 0 13 l1) 12 0 11 ∧ (amUp M 12 0 13 l1) 12 0 11 < 403 then .inl (23, [vR 12 12 0, vI l1], [vI ((amUp M 12 0 13 l1) 132 0 ((amUp M 12 0 13 l1) 12 0 11).toNat), vR 12 12 0], amUp M 12 0 13 l1) else amNo) rfl).trans (amK_if ?_ rfl)
    exact amRun_b 1 (x := .inl (26, [vR 12 12 0, vI l1], [], amUp (amUp M 12 0 13 l1) 12 0 14 ((amUp M 12 0 13 l1) 132 0 ((amUp M 12 0 13 l1) 12 0 11).toNat))) rfl
theorem q_X12_fail_26 (d : Nat) (l1 : Int) (M : AmM) : e_X12_fail_26 d l1 M =
    some (vU, M) := by
  show amRun _ _ = _
  exact amRun_b 1 (x := .inr (some (vU, M))) rfl
theorem n_X12_fail (d : Nat) (l1 : Int) (M : AmM) : amD amGst (d + 1) 159 [vR 12 12 0, vI l1] M = e_X12_fail_0 d l1 M := rfl
noncomputable def e_X12_wrong_0 (d : Nat) (l1 : Int) (l2 : Int) (M : AmM) : Option (AmV × AmM) := amRun (amStep amGst (amD amGst d) cdX12_wrong) (0, [vR 12 12 0, vI l1, vI l2, vU], [], M)
theorem q_X12_wrong_0 (d : Nat) (l1 : Int) (l2 : Int) (M : AmM) : e_X12_wrong_0 d l1 l2 M =
    if (0 : Int) ≤ l2 ∧ l2 < 403 then (if 0 < M 12 0 13 then (some (vU, M)) else (if M 12 0 15 = 0 then (some (vU, amUp (amUp M 12 0 15 l1) 12 0 16 (M 132 0 (l2).toNat))) else (if M 12 0 16 < M 132 0 (l2).toNat then (some (vU, M)) else (if M 132 0 (l2).toNat = M 12 0 16 then (if l1 < M 12 0 15 then (some (vU, amUp (amUp M 12 0 15 l1) 12 0 16 (M 132 0 (l2).toNat))) else (some (vU, M))) else (some (vU, amUp (amUp M 12 0 15 l1) 12 0 16 (M 132 0 (l2).toNat))))))) else none := by
  show amRun _ _ = _
  refine (amRun_t (f := amStep amGst (amD amGst d) cdX12_wrong) 3 (x := if (0 : Int) ≤ l2 ∧ l2 < 403 then .inl (6, [vR 12 12 0, vI l1, vI l2, vU], [vI (M 132 0 (l2).toNat)], M) else amNo) rfl).trans (amK_if ?_ rfl)
  refine (amRun_t (f := amStep amGst (amD amGst d) cdX12_wrong) 3 (x := if 0 < M 12 0 13 then .inl (45, [vR 12 12 0, vI l1, vI l2, vI (M 132 0 (l2).toNat)], [], M) else .inl (14, [vR 12 12 0, vI l1, vI l2, vI (M 132 0 (l2).toNat)], [], M)) rfl).trans (amK_if ?_ ?_)
  · exact amRun_b 1 (x := .inr (some (vU, M))) rfl
  · refine (amRun_t (f := amStep amGst (amD amGst d) cdX12_wrong) 2 (x := if M 12 0 15 = 0 then .inl (46, [vR 12 12 0, vI l1, vI l2, vI (M 132 0 (l2).toNat)], [], M) else .inl (21, [vR 12 12 0, vI l1, vI l2, vI (M 132 0 (l2).toNat)], [], M)) rfl).trans (amK_if ?_ ?_)
    · exact amRun_b 7 (x := .inr (some (vU, amUp (amUp M 12 0 15 l1) 12 0 16 (M 132 0 (l2).toNat)))) rfl
    · refine (amRun_t (f := amStep amGst (amD amGst d) cdX12_wrong) 3 (x := if M 12 0 16 < M 132 0 (l2).toNat then .inl (45, [vR 12 12 0, vI l1, vI l2, vI (M 132 0 (l2).toNat)], [], M) else .inl (29, [vR 12 12 0, vI l1, vI l2, vI (M 132 0 (l2).toNat)], [], M)) rfl).trans (amK_if ?_ ?_)
      · exact amRun_b 1 (x := .inr (some (vU, M))) rfl
      · refine (amRun_t (f := amStep amGst (amD amGst d) cdX12_wrong) 3 (x := if M 132 0 (l2).toNat = M 12 0 16 then .inl (37, [vR 12 12 0, vI l1, vI l2, vI (M 132 0 (l2).toNat)], [], M) else .inl (46, [vR 12 12 0, vI l1, vI l2, vI (M 132 0 (l2).toNat)], [], M)) rfl).trans (amK_if ?_ ?_)
        · refine (amRun_t (f := amStep amGst (amD amGst d) cdX12_wrong) 3 (x := if l1 < M 12 0 15 then .inl (46, [vR 12 12 0, vI l1, vI l2, vI (M 132 0 (l2).toNat)], [], M) else .inl (45, [vR 12 12 0, vI l1, vI l2, vI (M 132 0 (l2).toNat)], [], M)) rfl).trans (amK_if ?_ ?_)
          · exact amRun_b 7 (x := .inr (some (vU, amUp (amUp M 12 0 15 l1) 12 0 16 (M 132 0 (l2).toNat)))) rfl
          · exact amRun_b 1 (x := .inr (some (vU, M))) rfl
        · exact amRun_b 7 (x := .inr (some (vU, amUp (amUp M 12 0 15 l1) 12 0 16 (M 132 0 (l2).toNat)))) rfl
theorem n_X12_wrong (d : Nat) (l1 : Int) (l2 : Int) (M : AmM) : amD amGst (d + 1) 160 [vR 12 12 0, vI l1, vI l2] M = e_X12_wrong_0 d l1 l2 M := rfl
noncomputable def e_X12_goesOn_0 (d : Nat) (M : AmM) : Option (AmV × AmM) := amRun (amStep amGst (amD amGst d) cdX12_goesOn) (0, [vR 12 12 0], [], M)
theorem q_X12_goesOn_0 (d : Nat) (M : AmM) : e_X12_goesOn_0 d M =
    if M 12 0 11 = 400 then (amCV (amD amGst d 159 [vR 12 12 0, vI 2] M) fun M1 => some (vU, M1)) else (some (vU, amUp M 12 0 11 (w32 ((M 12 0 11) + 1)))) := by
  show amRun _ _ = _
  refine (amRun_t (f := amStep amGst (amD amGst d) cdX12_goesOn) 3 (x := if M 12 0 11 = 400 then .inl (10, [vR 12 12 0], [], M) else .inl (18, [vR 12 12 0], [], M)) rfl).trans (amK_if ?_ ?_)
  · refine (amRun_t (f := amStep amGst (amD amGst d) cdX12_goesOn) 2 (x := amPu 0 (amD amGst d 159 [vR 12 12 0, vI 2] M) (fun z9 M9 => .inl (15, [vR 12 12 0], z9 ++ [], M9))) rfl).trans (amK_pV fun M1 => ?_)
    exact amRun_b 2 (x := .inr (some (vU, M1))) rfl
  · exact amRun_b 7 (x := .inr (some (vU, amUp M 12 0 11 (w32 ((M 12 0 11) + 1))))) rfl
theorem n_X12_goesOn (d : Nat) (M : AmM) : amD amGst (d + 1) 161 [vR 12 12 0] M = e_X12_goesOn_0 d M := rfl
noncomputable def e_X12_must_0 (d : Nat) (l1 : Int) (M : AmM) : Option (AmV × AmM) := amRun (amStep amGst (amD amGst d) cdX12_must) (0, [vR 12 12 0, vI l1], [], M)
theorem q_X12_must_0 (d : Nat) (l1 : Int) (M : AmM) : e_X12_must_0 d l1 M =
    amCI (amD amGst d 158 [vR 12 12 0, vI l1] M) fun v1 M1 => if v1 = 0 then (amCV (amD amGst d 159 [vR 12 12 0, vI 1] M1) fun M2 => some (vU, M2)) else (amCV (amD amGst d 161 [vR 12 12 0] M1) fun M3 => some (vU, M3)) := by
  show amRun _ _ = _
  refine (amRun_t (f := amStep amGst (amD amGst d) cdX12_must) 2 (x := amPu 1 (amD amGst d 158 [vR 12 12 0, vI l1] M) (fun z9 M9 => .inl (5, [vR 12 12 0, vI l1], z9 ++ [], M9))) rfl).trans (amK_pI fun v1 M1 => ?_)
  refine (amRun_t (f := amStep amGst (amD amGst d) cdX12_must) 0 (x := if v1 = 0 then .inl (15, [vR 12 12 0, vI l1], [], M1) else .inl (8, [vR 12 12 0, vI l1], [], M1)) rfl).trans (amK_if ?_ ?_)
  · refine (amRun_t (f := amStep amGst (amD amGst d) cdX12_must) 2 (x := amPu 0 (amD amGst d 159 [vR 12 12 0, vI 1] M1) (fun z9 M9 => .inl (20, [vR 12 12 0, vI l1], z9 ++ [], M9))) rfl).trans (amK_pV fun M2 => ?_)
    exact amRun_b 1 (x := .inr (some (vU, M2))) rfl
  · refine (amRun_t (f := amStep amGst (amD amGst d) cdX12_must) 1 (x := amPu 0 (amD amGst d 161 [vR 12 12 0] M1) (fun z9 M9 => .inl (12, [vR 12 12 0, vI l1], z9 ++ [], M9))) rfl).trans (amK_pV fun M3 => ?_)
    exact amRun_b 2 (x := .inr (some (vU, M3))) rfl
theorem n_X12_must (d : Nat) (l1 : Int) (M : AmM) : amD amGst (d + 1) 162 [vR 12 12 0, vI l1] M = e_X12_must_0 d l1 M := rfl
noncomputable def e_X12_read_0 (d : Nat) (M : AmM) : Option (AmV × AmM) := amRun (amStep amGst (amD amGst d) cdX12_read) (0, [vR 12 12 0, vU], [], M)
noncomputable def e_X12_read_10 (d : Nat) (l1 : Int) (M : AmM) : Option (AmV × AmM) := amRun (amStep amGst (amD amGst d) cdX12_read) (10, [vR 12 12 0, vI l1], [], M)
noncomputable def e_X12_read_75 (d : Nat) (l1 : Int) (M : AmM) : Option (AmV × AmM) := amRun (amStep amGst (amD amGst d) cdX12_read) (75, [vR 12 12 0, vI l1], [], M)
noncomputable def e_X12_read_100 (d : Nat) (l1 : Int) (M : AmM) : Option (AmV × AmM) := amRun (amStep amGst (amD amGst d) cdX12_read) (100, [vR 12 12 0, vI l1], [], M)
noncomputable def e_X12_read_120 (d : Nat) (l1 : Int) (M : AmM) : Option (AmV × AmM) := amRun (amStep amGst (amD amGst d) cdX12_read) (120, [vR 12 12 0, vI l1], [], M)
noncomputable def e_X12_read_140 (d : Nat) (l1 : Int) (M : AmM) : Option (AmV × AmM) := amRun (amStep amGst (amD amGst d) cdX12_read) (140, [vR 12 12 0, vI l1], [], M)
noncomputable def e_X12_read_163 (d : Nat) (l1 : Int) (M : AmM) : Option (AmV × AmM) := amRun (amStep amGst (amD amGst d) cdX12_read) (163, [vR 12 12 0, vI l1], [], M)
noncomputable def e_X12_read_165 (d : Nat) (l1 : Int) (M : AmM) : Option (AmV × AmM) := amRun (amStep amGst (amD amGst d) cdX12_read) (165, [vR 12 12 0, vI l1], [], M)
noncomputable def e_X12_read_198 (d : Nat) (l1 : Int) (M : AmM) : Option (AmV × AmM) := amRun (amStep amGst (amD amGst d) cdX12_read) (198, [vR 12 12 0, vI l1], [], M)
noncomputable def e_X12_read_204 (d : Nat) (l1 : Int) (M : AmM) : Option (AmV × AmM) := amRun (amStep amGst (amD amGst d) cdX12_read) (204, [vR 12 12 0, vI l1], [], M)
noncomputable def e_X12_read_226 (d : Nat) (l1 : Int) (M : AmM) : Option (AmV × AmM) := amRun (amStep amGst (amD amGst d) cdX12_read) (226, [vR 12 12 0, vI l1], [], M)
noncomputable def e_X12_read_297 (d : Nat) (l1 : Int) (M : AmM) : Option (AmV × AmM) := amRun (amStep amGst (amD amGst d) cdX12_read) (297, [vR 12 12 0, vI l1], [], M)
noncomputable def e_X12_read_333 (d : Nat) (l1 : Int) (M : AmM) : Option (AmV × AmM) := amRun (amStep amGst (amD amGst d) cdX12_read) (333, [vR 12 12 0, vI l1], [], M)
theorem q_X12_read_0 (d : Nat) (M : AmM) : e_X12_read_0 d M =
    e_X12_read_10 d 0 (amUp M 12 0 4 (M 12 0 2)) := by
  show amRun _ _ = _
  exact amRun_b 6 (x := .inl (10, [vR 12 12 0, vI 0], [], amUp M 12 0 4 (M 12 0 2))) rfl
theorem q_X12_read_10 (d : Nat) (l1 : Int) (M : AmM) : e_X12_read_10 d l1 M =
    if l1 < M 12 0 4 then (if (0 : Int) ≤ l1 ∧ l1 < 2000 then (if (0 : Int) ≤ l1 ∧ l1 < 2000 then (e_X12_read_10 d (w32 (l1 + 1)) (amUp M 130 0 (l1).toNat (w8 (M 129 0 (l1).toNat)))) else none) else none) else (amCV (amD amGst d 156 [vR 12 12 0] (amUp M 12 0 2 0)) fun M1 => e_X12_read_75 d l1 (amUp (amUp (amUp (amUp (amUp M1 12 0 11 0) 12 0 12 0) 12 0 13 0) 12 0 15 0) 12 0 19 (w32 (1 - ((amUp (amUp (amUp (amUp M1 12 0 11 0) 12 0 12 0) 12 0 13 0) 12 0 15 0) 12 0 18))))) := by
  show amRun _ _ = _
  refine (amRun_t (f := amStep amGst (amD amGst d) cdX12_read) 3 (x := if l1 < M 12 0 4 then .inl (18, [vR 12 12 0, vI l1], [], M) else .inl (36, [vR 12 12 0, vI l1], [], M)) rfl).trans (amK_if ?_ ?_)
  · refine (amRun_t (f := amStep amGst (amD amGst d) cdX12_read) 6 (x := if (0 : Int) ≤ l1 ∧ l1 < 2000 then .inl (29, [vR 12 12 0, vI l1], [vI (M 129 0 (l1).toNat), vI l1, vR 22 130 0], M) else amNo) rfl).trans (amK_if ?_ rfl)
    refine (amRun_t (f := amStep amGst (amD amGst d) cdX12_read) 0 (x := if (0 : Int) ≤ l1 ∧ l1 < 2000 then .inl (30, [vR 12 12 0, vI l1], [], amUp M 130 0 (l1).toNat (w8 (M 129 0 (l1).toNat))) else amNo) rfl).trans (amK_if ?_ rfl)
    exact amRun_b 2 (x := .inl (10, [vR 12 12 0, vI (w32 (l1 + 1))], [], amUp M 130 0 (l1).toNat (w8 (M 129 0 (l1).toNat)))) rfl
  · refine (amRun_t (f := amStep amGst (amD amGst d) cdX12_read) 4 (x := amPu 0 (amD amGst d 156 [vR 12 12 0] (amUp M 12 0 2 0)) (fun z9 M9 => .inl (45, [vR 12 12 0, vI l1], z9 ++ [], M9))) rfl).trans (amK_pV fun M1 => ?_)
    exact amRun_b 18 (x := .inl (75, [vR 12 12 0, vI l1], [], amUp (amUp (amUp (amUp (amUp M1 12 0 11 0) 12 0 12 0) 12 0 13 0) 12 0 15 0) 12 0 19 (w32 (1 - ((amUp (amUp (amUp (amUp M1 12 0 11 0) 12 0 12 0) 12 0 13 0) 12 0 15 0) 12 0 18))))) rfl
theorem q_X12_read_75 (d : Nat) (l1 : Int) (M : AmM) : e_X12_read_75 d l1 M =
    if (0 : Int) ≤ (amUp M 12 0 20 0) 12 0 19 ∧ (amUp M 12 0 20 0) 12 0 19 < 2 then (if (0 : Int) ≤ (amUp (amUp M 12 0 20 0) 137 0 ((amUp M 12 0 20 0) 12 0 19).toNat 0) 12 0 19 ∧ (amUp (amUp M 12 0 20 0) 137 0 ((amUp M 12 0 20 0) 12 0 19).toNat 0) 12 0 19 < 2 then (e_X12_read_100 d l1 (amUp (amUp (amUp M 12 0 20 0) 137 0 ((amUp M 12 0 20 0) 12 0 19).toNat 0) 139 0 ((amUp (amUp M 12 0 20 0) 137 0 ((amUp M 12 0 20 0) 12 0 19).toNat 0) 12 0 19).toNat 0)) else none) else none := by
  show amRun _ _ = _
  refine (amRun_t (f := amStep amGst (amD amGst d) cdX12_read) 8 (x := if (0 : Int) ≤ (amUp M 12 0 20 0) 12 0 19 ∧ (amUp M 12 0 20 0) 12 0 19 < 2 then .inl (90, [vR 12 12 0, vI l1], [], amUp (amUp M 12 0 20 0) 137 0 ((amUp M 12 0 20 0) 12 0 19).toNat 0) else amNo) rfl).trans (amK_if ?_ rfl)
  refine (amRun_t (f := amStep amGst (amD amGst d) cdX12_read) 5 (x := if (0 : Int) ≤ (amUp (amUp M 12 0 20 0) 137 0 ((amUp M 12 0 20 0) 12 0 19).toNat 0) 12 0 19 ∧ (amUp (amUp M 12 0 20 0) 137 0 ((amUp M 12 0 20 0) 12 0 19).toNat 0) 12 0 19 < 2 then .inl (100, [vR 12 12 0, vI l1], [], amUp (amUp (amUp M 12 0 20 0) 137 0 ((amUp M 12 0 20 0) 12 0 19).toNat 0) 139 0 ((amUp (amUp M 12 0 20 0) 137 0 ((amUp M 12 0 20 0) 12 0 19).toNat 0) 12 0 19).toNat 0) else amNo) rfl).trans (amK_if ?_ rfl)
  exact amRun_b 0 (x := .inl (100, [vR 12 12 0, vI l1], [], amUp (amUp (amUp M 12 0 20 0) 137 0 ((amUp M 12 0 20 0) 12 0 19).toNat 0) 139 0 ((amUp (amUp M 12 0 20 0) 137 0 ((amUp M 12 0 20 0) 12 0 19).toNat 0) 12 0 19).toNat 0)) rfl
theorem q_X12_read_100 (d : Nat) (l1 : Int) (M : AmM) : e_X12_read_100 d l1 M =
    if (0 : Int) ≤ M 12 0 19 ∧ M 12 0 19 < 2 then (if (0 : Int) ≤ (amUp M 141 0 (M 12 0 19).toNat 0) 12 0 19 ∧ (amUp M 141 0 (M 12 0 19).toNat 0) 12 0 19 < 2 then (e_X12_read_120 d l1 (amUp (amUp M 141 0 (M 12 0 19).toNat 0) 142 0 ((amUp M 141 0 (M 12 0 19).toNat 0) 12 0 19).toNat 0)) else none) else none := by
  show amRun _ _ = _
  refine (amRun_t (f := amStep amGst (amD amGst d) cdX12_read) 5 (x := if (0 : Int) ≤ M 12 0 19 ∧ M 12 0 19 < 2 then .inl (110, [vR 12 12 0, vI l1], [], amUp M 141 0 (M 12 0 19).toNat 0) else amNo) rfl).trans (amK_if ?_ rfl)
  refine (amRun_t (f := amStep amGst (amD amGst d) cdX12_read) 5 (x := if (0 : Int) ≤ (amUp M 141 0 (M 12 0 19).toNat 0) 12 0 19 ∧ (amUp M 141 0 (M 12 0 19).toNat 0) 12 0 19 < 2 then .inl (120, [vR 12 12 0, vI l1], [], amUp (amUp M 141 0 (M 12 0 19).toNat 0) 142 0 ((amUp M 141 0 (M 12 0 19).toNat 0) 12 0 19).toNat 0) else amNo) rfl).trans (amK_if ?_ rfl)
  exact amRun_b 0 (x := .inl (120, [vR 12 12 0, vI l1], [], amUp (amUp M 141 0 (M 12 0 19).toNat 0) 142 0 ((amUp M 141 0 (M 12 0 19).toNat 0) 12 0 19).toNat 0)) rfl
theorem q_X12_read_120 (d : Nat) (l1 : Int) (M : AmM) : e_X12_read_120 d l1 M =
    if (0 : Int) ≤ M 12 0 19 ∧ M 12 0 19 < 2 then (if (0 : Int) ≤ (amUp M 143 0 (M 12 0 19).toNat 0) 12 0 19 ∧ (amUp M 143 0 (M 12 0 19).toNat 0) 12 0 19 < 2 then (e_X12_read_140 d l1 (amUp (amUp M 143 0 (M 12 0 19).toNat 0) 146 0 ((amUp M 143 0 (M 12 0 19).toNat 0) 12 0 19).toNat 0)) else none) else none := by
  show amRun _ _ = _
  refine (amRun_t (f := amStep amGst (amD amGst d) cdX12_read) 5 (x := if (0 : Int) ≤ M 12 0 19 ∧ M 12 0 19 < 2 then .inl (130, [vR 12 12 0, vI l1], [], amUp M 143 0 (M 12 0 19).toNat 0) else amNo) rfl).trans (amK_if ?_ rfl)
  refine (amRun_t (f := amStep amGst (amD amGst d) cdX12_read) 5 (x := if (0 : Int) ≤ (amUp M 143 0 (M 12 0 19).toNat 0) 12 0 19 ∧ (amUp M 143 0 (M 12 0 19).toNat 0) 12 0 19 < 2 then .inl (140, [vR 12 12 0, vI l1], [], amUp (amUp M 143 0 (M 12 0 19).toNat 0) 146 0 ((amUp M 143 0 (M 12 0 19).toNat 0) 12 0 19).toNat 0) else amNo) rfl).trans (amK_if ?_ rfl)
  exact amRun_b 0 (x := .inl (140, [vR 12 12 0, vI l1], [], amUp (amUp M 143 0 (M 12 0 19).toNat 0) 146 0 ((amUp M 143 0 (M 12 0 19).toNat 0) 12 0 19).toNat 0)) rfl
theorem q_X12_read_140 (d : Nat) (l1 : Int) (M : AmM) : e_X12_read_140 d l1 M =
    e_X12_read_163 d l1 (amUp (amUp M 12 0 34 (w32 (50 * (M 12 0 19)))) 12 0 40 (w32 (420 * ((amUp M 12 0 34 (w32 (50 * (M 12 0 19)))) 12 0 19)))) := by
  show amRun _ _ = _
  exact amRun_b 12 (x := .inl (163, [vR 12 12 0, vI l1], [], amUp (amUp M 12 0 34 (w32 (50 * (M 12 0 19)))) 12 0 40 (w32 (420 * ((amUp M 12 0 34 (w32 (50 * (M 12 0 19)))) 12 0 19))))) rfl
theorem q_X12_read_163 (d : Nat) (l1 : Int) (M : AmM) : e_X12_read_163 d l1 M =
    e_X12_read_165 d 0 M := by
  show amRun _ _ = _
  exact amRun_b 2 (x := .inl (165, [vR 12 12 0, vI 0], [], M)) rfl
theorem q_X12_read_165 (d : Nat) (l1 : Int) (M : AmM) : e_X12_read_165 d l1 M =
    if l1 < 4 then (if (0 : Int) ≤ w32 ((w32 (4 * (M 12 0 19))) + l1) ∧ w32 ((w32 (4 * (M 12 0 19))) + l1) < 8 then (if (0 : Int) ≤ w32 ((w32 (4 * ((amUp M 147 0 (w32 ((w32 (4 * (M 12 0 19))) + l1)).toNat 0) 12 0 19))) + l1) ∧ w32 ((w32 (4 * ((amUp M 147 0 (w32 ((w32 (4 * (M 12 0 19))) + l1)).toNat 0) 12 0 19))) + l1) < 8 then (e_X12_read_198 d l1 (amUp (amUp M 147 0 (w32 ((w32 (4 * (M 12 0 19))) + l1)).toNat 0) 148 0 (w32 ((w32 (4 * ((amUp M 147 0 (w32 ((w32 (4 * (M 12 0 19))) + l1)).toNat 0) 12 0 19))) + l1)).toNat 0)) else none) else none) else (e_X12_read_204 d l1 M) := by
  show amRun _ _ = _
  refine (amRun_t (f := amStep amGst (amD amGst d) cdX12_read) 2 (x := if l1 < 4 then .inl (170, [vR 12 12 0, vI l1], [], M) else .inl (204, [vR 12 12 0, vI l1], [], M)) rfl).trans (amK_if ?_ ?_)
  · refine (amRun_t (f := amStep amGst (amD amGst d) cdX12_read) 9 (x := if (0 : Int) ≤ w32 ((w32 (4 * (M 12 0 19))) + l1) ∧ w32 ((w32 (4 * (M 12 0 19))) + l1) < 8 then .inl (184, [vR 12 12 0, vI l1], [], amUp M 147 0 (w32 ((w32 (4 * (M 12 0 19))) + l1)).toNat 0) else amNo) rfl).trans (amK_if ?_ rfl)
    refine (amRun_t (f := amStep amGst (amD amGst d) cdX12_read) 9 (x := if (0 : Int) ≤ w32 ((w32 (4 * ((amUp M 147 0 (w32 ((w32 (4 * (M 12 0 19))) + l1)).toNat 0) 12 0 19))) + l1) ∧ w32 ((w32 (4 * ((amUp M 147 0 (w32 ((w32 (4 * (M 12 0 19))) + l1)).toNat 0) 12 0 19))) + l1) < 8 then .inl (198, [vR 12 12 0, vI l1], [], amUp (amUp M 147 0 (w32 ((w32 (4 * (M 12 0 19))) + l1)).toNat 0) 148 0 (w32 ((w32 (4 * ((amUp M 147 0 (w32 ((w32 (4 * (M 12 0 19))) + l1)).toNat 0) 12 0 19))) + l1)).toNat 0) else amNo) rfl).trans (amK_if ?_ rfl)
    exact amRun_b 0 (x := .inl (198, [vR 12 12 0, vI l1], [], amUp (amUp M 147 0 (w32 ((w32 (4 * (M 12 0 19))) + l1)).toNat 0) 148 0 (w32 ((w32 (4 * ((amUp M 147 0 (w32 ((w32 (4 * (M 12 0 19))) + l1)).toNat 0) 12 0 19))) + l1)).toNat 0)) rfl
  · exact amRun_b 0 (x := .inl (204, [vR 12 12 0, vI l1], [], M)) rfl
theorem q_X12_read_198 (d : Nat) (l1 : Int) (M : AmM) : e_X12_read_198 d l1 M =
    e_X12_read_165 d (w32 (l1 + 1)) M := by
  show amRun _ _ = _
  exact amRun_b 2 (x := .inl (165, [vR 12 12 0, vI (w32 (l1 + 1))], [], M)) rfl
theorem q_X12_read_204 (d : Nat) (l1 : Int) (M : AmM) : e_X12_read_204 d l1 M =
    if M 12 0 13 = 0 then (amCI (amD amGst d 158 [vR 12 12 0, vI 0] M) fun v1 M1 => if v1 = 0 then (amCV (amD amGst d 166 [vR 12 12 0] M1) fun M2 => e_X12_read_204 d l1 M2) else (e_X12_read_226 d l1 M1)) else (e_X12_read_226 d l1 M) := by
  show amRun _ _ = _
  refine (amRun_t (f := amStep amGst (amD amGst d) cdX12_read) 2 (x := if M 12 0 13 = 0 then .inl (211, [vR 12 12 0, vI l1], [], M) else .inl (226, [vR 12 12 0, vI l1], [], M)) rfl).trans (amK_if ?_ ?_)
  · refine (amRun_t (f := amStep amGst (amD amGst d) cdX12_read) 2 (x := amPu 1 (amD amGst d 158 [vR 12 12 0, vI 0] M) (fun z9 M9 => .inl (216, [vR 12 12 0, vI l1], z9 ++ [], M9))) rfl).trans (amK_pI fun v1 M1 => ?_)
    refine (amRun_t (f := amStep amGst (amD amGst d) cdX12_read) 0 (x := if v1 = 0 then .inl (219, [vR 12 12 0, vI l1], [], M1) else .inl (226, [vR 12 12 0, vI l1], [], M1)) rfl).trans (amK_if ?_ ?_)
    · refine (amRun_t (f := amStep amGst (amD amGst d) cdX12_read) 1 (x := amPu 0 (amD amGst d 166 [vR 12 12 0] M1) (fun z9 M9 => .inl (223, [vR 12 12 0, vI l1], z9 ++ [], M9))) rfl).trans (amK_pV fun M2 => ?_)
      exact amRun_b 1 (x := .inl (204, [vR 12 12 0, vI l1], [], M2)) rfl
    · exact amRun_b 0 (x := .inl (226, [vR 12 12 0, vI l1], [], M1)) rfl
  · exact amRun_b 0 (x := .inl (226, [vR 12 12 0, vI l1], [], M)) rfl
theorem q_X12_read_226 (d : Nat) (l1 : Int) (M : AmM) : e_X12_read_226 d l1 M =
    if 0 < M 12 0 13 then (if 0 < (amUp M 12 0 17 (M 12 0 14)) 12 0 13 then (some (vI ((amUp M 12 0 17 (M 12 0 14)) 12 0 13), amUp M 12 0 17 (M 12 0 14))) else (if 0 < (amUp M 12 0 17 (M 12 0 14)) 12 0 15 then (some (vI ((amUp M 12 0 17 (M 12 0 14)) 12 0 15), amUp M 12 0 17 (M 12 0 14))) else (amCV (amD amGst d 185 [vR 12 12 0] (amUp (amUp M 12 0 17 (M 12 0 14)) 12 0 18 ((amUp M 12 0 17 (M 12 0 14)) 12 0 19))) fun M1 => e_X12_read_297 d 0 M1))) else (if 0 < M 12 0 15 then (if 0 < (amUp M 12 0 17 (M 12 0 16)) 12 0 13 then (some (vI ((amUp M 12 0 17 (M 12 0 16)) 12 0 13), amUp M 12 0 17 (M 12 0 16))) else (if 0 < (amUp M 12 0 17 (M 12 0 16)) 12 0 15 then (some (vI ((amUp M 12 0 17 (M 12 0 16)) 12 0 15), amUp M 12 0 17 (M 12 0 16))) else (amCV (amD amGst d 185 [vR 12 12 0] (amUp (amUp M 12 0 17 (M 12 0 16)) 12 0 18 ((amUp M 12 0 17 (M 12 0 16)) 12 0 19))) fun M2 => e_X12_read_297 d 0 M2))) else (if 0 < (amUp M 12 0 17 (-1)) 12 0 13 then (some (vI ((amUp M 12 0 17 (-1)) 12 0 13), amUp M 12 0 17 (-1))) else (if 0 < (amUp M 12 0 17 (-1)) 12 0 15 then (some (vI ((amUp M 12 0 17 (-1)) 12 0 15), amUp M 12 0 17 (-1))) else (amCV (amD amGst d 185 [vR 12 12 0] (amUp (amUp M 12 0 17 (-1)) 12 0 18 ((amUp M 12 0 17 (-1)) 12 0 19))) fun M3 => e_X12_read_297 d 0 M3)))) := by
  show amRun _ _ = _
  refine (amRun_t (f := amStep amGst (amD amGst d) cdX12_read) 3 (x := if 0 < M 12 0 13 then .inl (234, [vR 12 12 0, vI l1], [vR 12 12 0], M) else .inl (241, [vR 12 12 0, vI l1], [vR 12 12 0], M)) rfl).trans (amK_if ?_ ?_)
  · refine (amRun_t (f := amStep amGst (amD amGst d) cdX12_read) 6 (x := if 0 < (amUp M 12 0 17 (M 12 0 14)) 12 0 13 then .inl (266, [vR 12 12 0, vI l1], [], amUp M 12 0 17 (M 12 0 14)) else .inl (271, [vR 12 12 0, vI l1], [], amUp M 12 0 17 (M 12 0 14))) rfl).trans (amK_if ?_ ?_)
    · exact amRun_b 3 (x := .inr (some (vI ((amUp M 12 0 17 (M 12 0 14)) 12 0 13), amUp M 12 0 17 (M 12 0 14)))) rfl
    · refine (amRun_t (f := amStep amGst (amD amGst d) cdX12_read) 2 (x := if 0 < (amUp M 12 0 17 (M 12 0 14)) 12 0 15 then .inl (278, [vR 12 12 0, vI l1], [], amUp M 12 0 17 (M 12 0 14)) else .inl (283, [vR 12 12 0, vI l1], [], amUp M 12 0 17 (M 12 0 14))) rfl).trans (amK_if ?_ ?_)
      · exact amRun_b 3 (x := .inr (some (vI ((amUp M 12 0 17 (M 12 0 14)) 12 0 15), amUp M 12 0 17 (M 12 0 14)))) rfl
      · refine (amRun_t (f := amStep amGst (amD amGst d) cdX12_read) 5 (x := amPu 0 (amD amGst d 185 [vR 12 12 0] (amUp (amUp M 12 0 17 (M 12 0 14)) 12 0 18 ((amUp M 12 0 17 (M 12 0 14)) 12 0 19))) (fun z9 M9 => .inl (295, [vR 12 12 0, vI l1], z9 ++ [], M9))) rfl).trans (amK_pV fun M1 => ?_)
        exact amRun_b 2 (x := .inl (297, [vR 12 12 0, vI 0], [], M1)) rfl
  · refine (amRun_t (f := amStep amGst (amD amGst d) cdX12_read) 2 (x := if 0 < M 12 0 15 then .inl (248, [vR 12 12 0, vI l1], [vR 12 12 0], M) else .inl (255, [vR 12 12 0, vI l1], [vR 12 12 0], M)) rfl).trans (amK_if ?_ ?_)
    · refine (amRun_t (f := amStep amGst (amD amGst d) cdX12_read) 6 (x := if 0 < (amUp M 12 0 17 (M 12 0 16)) 12 0 13 then .inl (266, [vR 12 12 0, vI l1], [], amUp M 12 0 17 (M 12 0 16)) else .inl (271, [vR 12 12 0, vI l1], [], amUp M 12 0 17 (M 12 0 16))) rfl).trans (amK_if ?_ ?_)
      · exact amRun_b 3 (x := .inr (some (vI ((amUp M 12 0 17 (M 12 0 16)) 12 0 13), amUp M 12 0 17 (M 12 0 16)))) rfl
      · refine (amRun_t (f := amStep amGst (amD amGst d) cdX12_read) 2 (x := if 0 < (amUp M 12 0 17 (M 12 0 16)) 12 0 15 then .inl (278, [vR 12 12 0, vI l1], [], amUp M 12 0 17 (M 12 0 16)) else .inl (283, [vR 12 12 0, vI l1], [], amUp M 12 0 17 (M 12 0 16))) rfl).trans (amK_if ?_ ?_)
        · exact amRun_b 3 (x := .inr (some (vI ((amUp M 12 0 17 (M 12 0 16)) 12 0 15), amUp M 12 0 17 (M 12 0 16)))) rfl
        · refine (amRun_t (f := amStep amGst (amD amGst d) cdX12_read) 5 (x := amPu 0 (amD amGst d 185 [vR 12 12 0] (amUp (amUp M 12 0 17 (M 12 0 16)) 12 0 18 ((amUp M 12 0 17 (M 12 0 16)) 12 0 19))) (fun z9 M9 => .inl (295, [vR 12 12 0, vI l1], z9 ++ [], M9))) rfl).trans (amK_pV fun M2 => ?_)
          exact amRun_b 2 (x := .inl (297, [vR 12 12 0, vI 0], [], M2)) rfl
    · refine (amRun_t (f := amStep amGst (amD amGst d) cdX12_read) 4 (x := if 0 < (amUp M 12 0 17 (-1)) 12 0 13 then .inl (266, [vR 12 12 0, vI l1], [], amUp M 12 0 17 (-1)) else .inl (271, [vR 12 12 0, vI l1], [], amUp M 12 0 17 (-1))) rfl).trans (amK_if ?_ ?_)
      · exact amRun_b 3 (x := .inr (some (vI ((amUp M 12 0 17 (-1)) 12 0 13), amUp M 12 0 17 (-1)))) rfl
      · refine (amRun_t (f := amStep amGst (amD amGst d) cdX12_read) 2 (x := if 0 < (amUp M 12 0 17 (-1)) 12 0 15 then .inl (278, [vR 12 12 0, vI l1], [], amUp M 12 0 17 (-1)) else .inl (283, [vR 12 12 0, vI l1], [], amUp M 12 0 17 (-1))) rfl).trans (amK_if ?_ ?_)
        · exact amRun_b 3 (x := .inr (some (vI ((amUp M 12 0 17 (-1)) 12 0 15), amUp M 12 0 17 (-1)))) rfl
        · refine (amRun_t (f := amStep amGst (amD amGst d) cdX12_read) 5 (x := amPu 0 (amD amGst d 185 [vR 12 12 0] (amUp (amUp M 12 0 17 (-1)) 12 0 18 ((amUp M 12 0 17 (-1)) 12 0 19))) (fun z9 M9 => .inl (295, [vR 12 12 0, vI l1], z9 ++ [], M9))) rfl).trans (amK_pV fun M3 => ?_)
          exact amRun_b 2 (x := .inl (297, [vR 12 12 0, vI 0], [], M3)) rfl
theorem q_X12_read_297 (d : Nat) (l1 : Int) (M : AmM) : e_X12_read_297 d l1 M =
    if l1 < 100 then (if (0 : Int) ≤ l1 ∧ l1 < 100 then (if (0 : Int) ≤ l1 ∧ l1 < 100 then (e_X12_read_297 d (w32 (l1 + 1)) (amUp M 159 0 (l1).toNat (M 160 0 (l1).toNat))) else none) else none) else (e_X12_read_333 d 0 (amUp (amUp M 12 0 53 0) 12 0 65 0)) := by
  show amRun _ _ = _
  refine (amRun_t (f := amStep amGst (amD amGst d) cdX12_read) 2 (x := if l1 < 100 then .inl (303, [vR 12 12 0, vI l1], [], M) else .inl (321, [vR 12 12 0, vI l1], [], M)) rfl).trans (amK_if ?_ ?_)
  · refine (amRun_t (f := amStep amGst (amD amGst d) cdX12_read) 6 (x := if (0 : Int) ≤ l1 ∧ l1 < 100 then .inl (314, [vR 12 12 0, vI l1], [vI (M 160 0 (l1).toNat), vI l1, vR 20 159 0], M) else amNo) rfl).trans (amK_if ?_ rfl)
    refine (amRun_t (f := amStep amGst (amD amGst d) cdX12_read) 0 (x := if (0 : Int) ≤ l1 ∧ l1 < 100 then .inl (315, [vR 12 12 0, vI l1], [], amUp M 159 0 (l1).toNat (M 160 0 (l1).toNat)) else amNo) rfl).trans (amK_if ?_ rfl)
    exact amRun_b 2 (x := .inl (297, [vR 12 12 0, vI (w32 (l1 + 1))], [], amUp M 159 0 (l1).toNat (M 160 0 (l1).toNat))) rfl
  · exact amRun_b 8 (x := .inl (333, [vR 12 12 0, vI 0], [], amUp (amUp M 12 0 53 0) 12 0 65 0)) rfl
theorem q_X12_read_333 (d : Nat) (l1 : Int) (M : AmM) : e_X12_read_333 d l1 M =
    if l1 < 3 then (if (0 : Int) ≤ l1 ∧ l1 < 3 then (e_X12_read_333 d (w32 (l1 + 1)) (amUp M 169 0 (l1).toNat 0)) else none) else (some (vI 0, M)) := by
  show amRun _ _ = _
  refine (amRun_t (f := amStep amGst (amD amGst d) cdX12_read) 2 (x := if l1 < 3 then .inl (338, [vR 12 12 0, vI l1], [], M) else .inl (351, [vR 12 12 0, vI l1], [], M)) rfl).trans (amK_if ?_ ?_)
  · refine (amRun_t (f := amStep amGst (amD amGst d) cdX12_read) 4 (x := if (0 : Int) ≤ l1 ∧ l1 < 3 then .inl (345, [vR 12 12 0, vI l1], [], amUp M 169 0 (l1).toNat 0) else amNo) rfl).trans (amK_if ?_ rfl)
    exact amRun_b 2 (x := .inl (333, [vR 12 12 0, vI (w32 (l1 + 1))], [], amUp M 169 0 (l1).toNat 0)) rfl
  · exact amRun_b 2 (x := .inr (some (vI 0, M))) rfl
theorem n_X12_read (d : Nat) (M : AmM) : amD amGst (d + 1) 163 [vR 12 12 0] M = e_X12_read_0 d M := rfl
noncomputable def e_X12_place_0 (d : Nat) (M : AmM) : Option (AmV × AmM) := amRun (amStep amGst (amD amGst d) cdX12_place) (0, [vR 12 12 0], [], M)
theorem q_X12_place_0 (d : Nat) (M : AmM) : e_X12_place_0 d M =
    some (vI (M 12 0 17), M) := by
  show amRun _ _ = _
  exact amRun_b 3 (x := .inr (some (vI (M 12 0 17), M))) rfl
theorem n_X12_place (d : Nat) (M : AmM) : amD amGst (d + 1) 164 [vR 12 12 0] M = e_X12_place_0 d M := rfl
noncomputable def e_X12_roomFor_0 (d : Nat) (l1 : Int) (l2 : Int) (M : AmM) : Option (AmV × AmM) := amRun (amStep amGst (amD amGst d) cdX12_roomFor) (0, [vR 12 12 0, vI l1, vI l2], [], M)
theorem q_X12_roomFor_0 (d : Nat) (l1 : Int) (l2 : Int) (M : AmM) : e_X12_roomFor_0 d l1 l2 M =
    if l1 = l2 then (amCV (amD amGst d 159 [vR 12 12 0, vI 2] M) fun M1 => if M1 12 0 13 = 0 then (amCV (amD amGst d 161 [vR 12 12 0] M1) fun M2 => some (vU, M2)) else (some (vU, M1))) else (if M 12 0 13 = 0 then (amCV (amD amGst d 161 [vR 12 12 0] M) fun M3 => some (vU, M3)) else (some (vU, M))) := by
  show amRun _ _ = _
  refine (amRun_t (f := amStep amGst (amD amGst d) cdX12_roomFor) 2 (x := if l1 = l2 then .inl (5, [vR 12 12 0, vI l1, vI l2], [], M) else .inl (10, [vR 12 12 0, vI l1, vI l2], [], M)) rfl).trans (amK_if ?_ ?_)
  · refine (amRun_t (f := amStep amGst (amD amGst d) cdX12_roomFor) 2 (x := amPu 0 (amD amGst d 159 [vR 12 12 0, vI 2] M) (fun z9 M9 => .inl (10, [vR 12 12 0, vI l1, vI l2], z9 ++ [], M9))) rfl).trans (amK_pV fun M1 => ?_)
    refine (amRun_t (f := amStep amGst (amD amGst d) cdX12_roomFor) 2 (x := if M1 12 0 13 = 0 then .inl (17, [vR 12 12 0, vI l1, vI l2], [], M1) else .inl (21, [vR 12 12 0, vI l1, vI l2], [], M1)) rfl).trans (amK_if ?_ ?_)
    · refine (amRun_t (f := amStep amGst (amD amGst d) cdX12_roomFor) 1 (x := amPu 0 (amD amGst d 161 [vR 12 12 0] M1) (fun z9 M9 => .inl (21, [vR 12 12 0, vI l1, vI l2], z9 ++ [], M9))) rfl).trans (amK_pV fun M2 => ?_)
      exact amRun_b 1 (x := .inr (some (vU, M2))) rfl
    · exact amRun_b 1 (x := .inr (some (vU, M1))) rfl
  · refine (amRun_t (f := amStep amGst (amD amGst d) cdX12_roomFor) 2 (x := if M 12 0 13 = 0 then .inl (17, [vR 12 12 0, vI l1, vI l2], [], M) else .inl (21, [vR 12 12 0, vI l1, vI l2], [], M)) rfl).trans (amK_if ?_ ?_)
    · refine (amRun_t (f := amStep amGst (amD amGst d) cdX12_roomFor) 1 (x := amPu 0 (amD amGst d 161 [vR 12 12 0] M) (fun z9 M9 => .inl (21, [vR 12 12 0, vI l1, vI l2], z9 ++ [], M9))) rfl).trans (amK_pV fun M3 => ?_)
      exact amRun_b 1 (x := .inr (some (vU, M3))) rfl
    · exact amRun_b 1 (x := .inr (some (vU, M))) rfl
theorem n_X12_roomFor (d : Nat) (l1 : Int) (l2 : Int) (M : AmM) : amD amGst (d + 1) 165 [vR 12 12 0, vI l1, vI l2] M = e_X12_roomFor_0 d l1 l2 M := rfl
noncomputable def e_X12_tell_0 (d : Nat) (M : AmM) : Option (AmV × AmM) := amRun (amStep amGst (amD amGst d) cdX12_tell) (0, [vR 12 12 0], [], M)
theorem q_X12_tell_0 (d : Nat) (M : AmM) : e_X12_tell_0 d M =
    if (0 : Int) ≤ M 12 0 11 ∧ M 12 0 11 < 403 then (if M 131 0 (M 12 0 11).toNat = 20 then (amCV (amD amGst d 161 [vR 12 12 0] M) fun M2 => amCV (amD amGst d 168 [vR 12 12 0] M2) fun M3 => some (vU, M3)) else (if M 131 0 (M 12 0 11).toNat = 21 then (amCV (amD amGst d 161 [vR 12 12 0] M) fun M4 => amCV (amD amGst d 169 [vR 12 12 0] M4) fun M5 => some (vU, M5)) else (if M 131 0 (M 12 0 11).toNat = 22 then (amCV (amD amGst d 161 [vR 12 12 0] M) fun M6 => amCI (amD amGst d 167 [vR 12 12 0, vI 0, vI 999] M6) fun v7 M7 => if (0 : Int) ≤ M6 12 0 19 ∧ M6 12 0 19 < 2 then (amCI (amD amGst d 167 [vR 12 12 0, vI 0, vI 99] (amUp M7 141 0 (M6 12 0 19).toNat v7)) fun v8 M8 => if (0 : Int) ≤ (amUp M7 141 0 (M6 12 0 19).toNat v7) 12 0 19 ∧ (amUp M7 141 0 (M6 12 0 19).toNat v7) 12 0 19 < 2 then (amCV (amD amGst d 162 [vR 12 12 0, vI 4] (amUp M8 142 0 ((amUp M7 141 0 (M6 12 0 19).toNat v7) 12 0 19).toNat v8)) fun M9 => some (vU, M9)) else none) else none) else (if M 131 0 (M 12 0 11).toNat = 23 then (if (0 : Int) ≤ M 12 0 19 ∧ M 12 0 19 < 2 then (amCV (amD amGst d 165 [vR 12 12 0, vI (M 143 0 (M 12 0 19).toNat), vI 8] M) fun M10 => if M10 12 0 13 = 0 then (amCV (amD amGst d 171 [vR 12 12 0] M10) fun M11 => some (vU, M11)) else (some (vU, M10))) else none) else (if M 131 0 (M 12 0 11).toNat = 24 then (if (0 : Int) ≤ M 12 0 19 ∧ M 12 0 19 < 2 then (amCV (amD amGst d 165 [vR 12 12 0, vI (M 146 0 (M 12 0 19).toNat), vI 8] M) fun M12 => if M12 12 0 13 = 0 then (amCV (amD amGst d 172 [vR 12 12 0] M12) fun M13 => some (vU, M13)) else (some (vU, M12))) else none) else ((amCV (amD amGst d 159 [vR 12 12 0, vI 1] M) fun M1 => some (vU, M1)))))))) else none := by
  show amRun _ _ = _
  refine (amRun_t (f := amStep amGst (amD amGst d) cdX12_tell) 4 (x := if (0 : Int) ≤ M 12 0 11 ∧ M 12 0 11 < 403 then .inl (9, [vR 12 12 0], [vI (M 131 0 (M 12 0 11).toNat)], M) else amNo) rfl).trans (amK_if ?_ rfl)
  refine (amRun_t (f := amStep amGst (amD amGst d) cdX12_tell) 0 (x := if M 131 0 (M 12 0 11).toNat = 20 then .inl (44, [vR 12 12 0], [], M) else (if M 131 0 (M 12 0 11).toNat = 21 then .inl (55, [vR 12 12 0], [], M) else (if M 131 0 (M 12 0 11).toNat = 22 then .inl (66, [vR 12 12 0], [], M) else (if M 131 0 (M 12 0 11).toNat = 23 then .inl (111, [vR 12 12 0], [], M) else (if M 131 0 (M 12 0 11).toNat = 24 then .inl (140, [vR 12 12 0], [], M) else .inl (169, [vR 12 12 0], [], M)))))) rfl).trans ?_
  refine amK_if ?_ ?_
  · refine (amRun_t (f := amStep amGst (amD amGst d) cdX12_tell) 1 (x := amPu 0 (amD amGst d 161 [vR 12 12 0] M) (fun z9 M9 => .inl (48, [vR 12 12 0], z9 ++ [], M9))) rfl).trans (amK_pV fun M2 => ?_)
    refine (amRun_t (f := amStep amGst (amD amGst d) cdX12_tell) 1 (x := amPu 0 (amD amGst d 168 [vR 12 12 0] M2) (fun z9 M9 => .inl (52, [vR 12 12 0], z9 ++ [], M9))) rfl).trans (amK_pV fun M3 => ?_)
    exact amRun_b 2 (x := .inr (some (vU, M3))) rfl
  refine amK_if ?_ ?_
  · refine (amRun_t (f := amStep amGst (amD amGst d) cdX12_tell) 1 (x := amPu 0 (amD amGst d 161 [vR 12 12 0] M) (fun z9 M9 => .inl (59, [vR 12 12 0], z9 ++ [], M9))) rfl).trans (amK_pV fun M4 => ?_)
    refine (amRun_t (f := amStep amGst (amD amGst d) cdX12_tell) 1 (x := amPu 0 (amD amGst d 169 [vR 12 12 0] M4) (fun z9 M9 => .inl (63, [vR 12 12 0], z9 ++ [], M9))) rfl).trans (amK_pV fun M5 => ?_)
    exact amRun_b 2 (x := .inr (some (vU, M5))) rfl
  refine amK_if ?_ ?_
  · refine (amRun_t (f := amStep amGst (amD amGst d) cdX12_tell) 1 (x := amPu 0 (amD amGst d 161 [vR 12 12 0] M) (fun z9 M9 => .inl (70, [vR 12 12 0], z9 ++ [], M9))) rfl).trans (amK_pV fun M6 => ?_)
    refine (amRun_t (f := amStep amGst (amD amGst d) cdX12_tell) 7 (x := amPu 1 (amD amGst d 167 [vR 12 12 0, vI 0, vI 999] M6) (fun z9 M9 => .inl (86, [vR 12 12 0], z9 ++ [vI (M6 12 0 19), vR 20 141 0], M9))) rfl).trans (amK_pI fun v7 M7 => ?_)
    refine (amRun_t (f := amStep amGst (amD amGst d) cdX12_tell) 0 (x := if (0 : Int) ≤ M6 12 0 19 ∧ M6 12 0 19 < 2 then .inl (87, [vR 12 12 0], [], amUp M7 141 0 (M6 12 0 19).toNat v7) else amNo) rfl).trans (amK_if ?_ rfl)
    refine (amRun_t (f := amStep amGst (amD amGst d) cdX12_tell) 7 (x := amPu 1 (amD amGst d 167 [vR 12 12 0, vI 0, vI 99] (amUp M7 141 0 (M6 12 0 19).toNat v7)) (fun z9 M9 => .inl (102, [vR 12 12 0], z9 ++ [vI ((amUp M7 141 0 (M6 12 0 19).toNat v7) 12 0 19), vR 20 142 0], M9))) rfl).trans (amK_pI fun v8 M8 => ?_)
    refine (amRun_t (f := amStep amGst (amD amGst d) cdX12_tell) 0 (x := if (0 : Int) ≤ (amUp M7 141 0 (M6 12 0 19).toNat v7) 12 0 19 ∧ (amUp M7 141 0 (M6 12 0 19).toNat v7) 12 0 19 < 2 then .inl (103, [vR 12 12 0], [], amUp M8 142 0 ((amUp M7 141 0 (M6 12 0 19).toNat v7) 12 0 19).toNat v8) else amNo) rfl).trans (amK_if ?_ rfl)
    refine (amRun_t (f := amStep amGst (amD amGst d) cdX12_tell) 2 (x := amPu 0 (amD amGst d 162 [vR 12 12 0, vI 4] (amUp M8 142 0 ((amUp M7 141 0 (M6 12 0 19).toNat v7) 12 0 19).toNat v8)) (fun z9 M9 => .inl (108, [vR 12 12 0], z9 ++ [], M9))) rfl).trans (amK_pV fun M9 => ?_)
    exact amRun_b 2 (x := .inr (some (vU, M9))) rfl
  refine amK_if ?_ ?_
  · refine (amRun_t (f := amStep amGst (amD amGst d) cdX12_tell) 5 (x := if (0 : Int) ≤ M 12 0 19 ∧ M 12 0 19 < 2 then .inl (121, [vR 12 12 0], [vI (M 143 0 (M 12 0 19).toNat), vR 12 12 0], M) else amNo) rfl).trans (amK_if ?_ rfl)
    refine (amRun_t (f := amStep amGst (amD amGst d) cdX12_tell) 1 (x := amPu 0 (amD amGst d 165 [vR 12 12 0, vI (M 143 0 (M 12 0 19).toNat), vI 8] M) (fun z9 M9 => .inl (126, [vR 12 12 0], z9 ++ [], M9))) rfl).trans (amK_pV fun M10 => ?_)
    refine (amRun_t (f := amStep amGst (amD amGst d) cdX12_tell) 2 (x := if M10 12 0 13 = 0 then .inl (133, [vR 12 12 0], [], M10) else .inl (174, [vR 12 12 0], [], M10)) rfl).trans (amK_if ?_ ?_)
    · refine (amRun_t (f := amStep amGst (amD amGst d) cdX12_tell) 1 (x := amPu 0 (amD amGst d 171 [vR 12 12 0] M10) (fun z9 M9 => .inl (137, [vR 12 12 0], z9 ++ [], M9))) rfl).trans (amK_pV fun M11 => ?_)
      exact amRun_b 2 (x := .inr (some (vU, M11))) rfl
    · exact amRun_b 1 (x := .inr (some (vU, M10))) rfl
  refine amK_if ?_ ?_
  · refine (amRun_t (f := amStep amGst (amD amGst d) cdX12_tell) 5 (x := if (0 : Int) ≤ M 12 0 19 ∧ M 12 0 19 < 2 then .inl (150, [vR 12 12 0], [vI (M 146 0 (M 12 0 19).toNat), vR 12 12 0], M) else amNo) rfl).trans (amK_if ?_ rfl)
    refine (amRun_t (f := amStep amGst (amD amGst d) cdX12_tell) 1 (x := amPu 0 (amD amGst d 165 [vR 12 12 0, vI (M 146 0 (M 12 0 19).toNat), vI 8] M) (fun z9 M9 => .inl (155, [vR 12 12 0], z9 ++ [], M9))) rfl).trans (amK_pV fun M12 => ?_)
    refine (amRun_t (f := amStep amGst (amD amGst d) cdX12_tell) 2 (x := if M12 12 0 13 = 0 then .inl (162, [vR 12 12 0], [], M12) else .inl (174, [vR 12 12 0], [], M12)) rfl).trans (amK_if ?_ ?_)
    · refine (amRun_t (f := amStep amGst (amD amGst d) cdX12_tell) 1 (x := amPu 0 (amD amGst d 172 [vR 12 12 0] M12) (fun z9 M9 => .inl (166, [vR 12 12 0], z9 ++ [], M9))) rfl).trans (amK_pV fun M13 => ?_)
      exact amRun_b 2 (x := .inr (some (vU, M13))) rfl
    · exact amRun_b 1 (x := .inr (some (vU, M12))) rfl
  refine (amRun_t (f := amStep amGst (amD amGst d) cdX12_tell) 2 (x := amPu 0 (amD amGst d 159 [vR 12 12 0, vI 1] M) (fun z9 M9 => .inl (174, [vR 12 12 0], z9 ++ [], M9))) rfl).trans (amK_pV fun M1 => ?_)
  exact amRun_b 1 (x := .inr (some (vU, M1))) rfl
theorem n_X12_tell (d : Nat) (M : AmM) : amD amGst (d + 1) 166 [vR 12 12 0] M = e_X12_tell_0 d M := rfl
noncomputable def e_X12_bounded_0 (d : Nat) (l1 : Int) (l2 : Int) (M : AmM) : Option (AmV × AmM) := amRun (amStep amGst (amD amGst d) cdX12_bounded) (0, [vR 12 12 0, vI l1, vI l2, vU], [], M)
theorem q_X12_bounded_0 (d : Nat) (l1 : Int) (l2 : Int) (M : AmM) : e_X12_bounded_0 d l1 l2 M =
    if 0 < M 12 0 13 then (amCV (amD amGst d 159 [vR 12 12 0, vI 1] M) fun M1 => some (vI l1, M1)) else (amCI (amD amGst d 158 [vR 12 12 0, vI 2] M) fun v2 M2 => if v2 = 0 then (amCV (amD amGst d 159 [vR 12 12 0, vI 1] M2) fun M3 => some (vI l1, M3)) else (if (0 : Int) ≤ M2 12 0 11 ∧ M2 12 0 11 < 403 then (if M2 133 0 (M2 12 0 11).toNat < l1 then (amCV (amD amGst d 160 [vR 12 12 0, vI 5, vI (M2 12 0 11)] M2) fun M4 => amCV (amD amGst d 161 [vR 12 12 0] M4) fun M5 => some (vI (M2 133 0 (M2 12 0 11).toNat), M5)) else (if l2 < M2 133 0 (M2 12 0 11).toNat then (amCV (amD amGst d 160 [vR 12 12 0, vI 5, vI (M2 12 0 11)] M2) fun M6 => amCV (amD amGst d 161 [vR 12 12 0] M6) fun M7 => some (vI (M2 133 0 (M2 12 0 11).toNat), M7)) else (amCV (amD amGst d 161 [vR 12 12 0] M2) fun M8 => some (vI (M2 133 0 (M2 12 0 11).toNat), M8)))) else none)) := by
  show amRun _ _ = _
  refine (amRun_t (f := amStep amGst (amD amGst d) cdX12_bounded) 2 (x := if 0 < M 12 0 13 then .inl (15, [vR 12 12 0, vI l1, vI l2, vU], [], M) else .inl (7, [vR 12 12 0, vI l1, vI l2, vU], [], M)) rfl).trans (amK_if ?_ ?_)
  · refine (amRun_t (f := amStep amGst (amD amGst d) cdX12_bounded) 2 (x := amPu 0 (amD amGst d 159 [vR 12 12 0, vI 1] M) (fun z9 M9 => .inl (20, [vR 12 12 0, vI l1, vI l2, vU], z9 ++ [], M9))) rfl).trans (amK_pV fun M1 => ?_)
    exact amRun_b 2 (x := .inr (some (vI l1, M1))) rfl
  · refine (amRun_t (f := amStep amGst (amD amGst d) cdX12_bounded) 2 (x := amPu 1 (amD amGst d 158 [vR 12 12 0, vI 2] M) (fun z9 M9 => .inl (12, [vR 12 12 0, vI l1, vI l2, vU], z9 ++ [], M9))) rfl).trans (amK_pI fun v2 M2 => ?_)
    refine (amRun_t (f := amStep amGst (amD amGst d) cdX12_bounded) 0 (x := if v2 = 0 then .inl (15, [vR 12 12 0, vI l1, vI l2, vU], [], M2) else .inl (22, [vR 12 12 0, vI l1, vI l2, vU], [], M2)) rfl).trans (amK_if ?_ ?_)
    · refine (amRun_t (f := amStep amGst (amD amGst d) cdX12_bounded) 2 (x := amPu 0 (amD amGst d 159 [vR 12 12 0, vI 1] M2) (fun z9 M9 => .inl (20, [vR 12 12 0, vI l1, vI l2, vU], z9 ++ [], M9))) rfl).trans (amK_pV fun M3 => ?_)
      exact amRun_b 2 (x := .inr (some (vI l1, M3))) rfl
    · refine (amRun_t (f := amStep amGst (amD amGst d) cdX12_bounded) 4 (x := if (0 : Int) ≤ M2 12 0 11 ∧ M2 12 0 11 < 403 then .inl (31, [vR 12 12 0, vI l1, vI l2, vU], [vI (M2 133 0 (M2 12 0 11).toNat)], M2) else amNo) rfl).trans (amK_if ?_ rfl)
      refine (amRun_t (f := amStep amGst (amD amGst d) cdX12_bounded) 3 (x := if M2 133 0 (M2 12 0 11).toNat < l1 then .inl (42, [vR 12 12 0, vI l1, vI l2, vI (M2 133 0 (M2 12 0 11).toNat)], [], M2) else .inl (37, [vR 12 12 0, vI l1, vI l2, vI (M2 133 0 (M2 12 0 11).toNat)], [], M2)) rfl).trans (amK_if ?_ ?_)
      · refine (amRun_t (f := amStep amGst (amD amGst d) cdX12_bounded) 4 (x := amPu 0 (amD amGst d 160 [vR 12 12 0, vI 5, vI (M2 12 0 11)] M2) (fun z9 M9 => .inl (51, [vR 12 12 0, vI l1, vI l2, vI (M2 133 0 (M2 12 0 11).toNat)], z9 ++ [], M9))) rfl).trans (amK_pV fun M4 => ?_)
        refine (amRun_t (f := amStep amGst (amD amGst d) cdX12_bounded) 1 (x := amPu 0 (amD amGst d 161 [vR 12 12 0] M4) (fun z9 M9 => .inl (55, [vR 12 12 0, vI l1, vI l2, vI (M2 133 0 (M2 12 0 11).toNat)], z9 ++ [], M9))) rfl).trans (amK_pV fun M5 => ?_)
        exact amRun_b 2 (x := .inr (some (vI (M2 133 0 (M2 12 0 11).toNat), M5))) rfl
      · refine (amRun_t (f := amStep amGst (amD amGst d) cdX12_bounded) 2 (x := if l2 < M2 133 0 (M2 12 0 11).toNat then .inl (42, [vR 12 12 0, vI l1, vI l2, vI (M2 133 0 (M2 12 0 11).toNat)], [], M2) else .inl (51, [vR 12 12 0, vI l1, vI l2, vI (M2 133 0 (M2 12 0 11).toNat)], [], M2)) rfl).trans (amK_if ?_ ?_)
        · refine (amRun_t (f := amStep amGst (amD amGst d) cdX12_bounded) 4 (x := amPu 0 (amD amGst d 160 [vR 12 12 0, vI 5, vI (M2 12 0 11)] M2) (fun z9 M9 => .inl (51, [vR 12 12 0, vI l1, vI l2, vI (M2 133 0 (M2 12 0 11).toNat)], z9 ++ [], M9))) rfl).trans (amK_pV fun M6 => ?_)
          refine (amRun_t (f := amStep amGst (amD amGst d) cdX12_bounded) 1 (x := amPu 0 (amD amGst d 161 [vR 12 12 0] M6) (fun z9 M9 => .inl (55, [vR 12 12 0, vI l1, vI l2, vI (M2 133 0 (M2 12 0 11).toNat)], z9 ++ [], M9))) rfl).trans (amK_pV fun M7 => ?_)
          exact amRun_b 2 (x := .inr (some (vI (M2 133 0 (M2 12 0 11).toNat), M7))) rfl
        · refine (amRun_t (f := amStep amGst (amD amGst d) cdX12_bounded) 1 (x := amPu 0 (amD amGst d 161 [vR 12 12 0] M2) (fun z9 M9 => .inl (55, [vR 12 12 0, vI l1, vI l2, vI (M2 133 0 (M2 12 0 11).toNat)], z9 ++ [], M9))) rfl).trans (amK_pV fun M8 => ?_)
          exact amRun_b 2 (x := .inr (some (vI (M2 133 0 (M2 12 0 11).toNat), M8))) rfl
theorem n_X12_bounded (d : Nat) (l1 : Int) (l2 : Int) (M : AmM) : amD amGst (d + 1) 167 [vR 12 12 0, vI l1, vI l2] M = e_X12_bounded_0 d l1 l2 M := rfl
noncomputable def e_X12_tellSteps_0 (d : Nat) (M : AmM) : Option (AmV × AmM) := amRun (amStep amGst (amD amGst d) cdX12_tellSteps) (0, [vR 12 12 0, vU], [], M)
noncomputable def e_X12_tellSteps_2 (d : Nat) (l1 : Int) (M : AmM) : Option (AmV × AmM) := amRun (amStep amGst (amD amGst d) cdX12_tellSteps) (2, [vR 12 12 0, vI l1], [], M)
noncomputable def e_X12_tellSteps_28 (d : Nat) (l1 : Int) (M : AmM) : Option (AmV × AmM) := amRun (amStep amGst (amD amGst d) cdX12_tellSteps) (28, [vR 12 12 0, vI l1], [], M)
theorem q_X12_tellSteps_0 (d : Nat) (M : AmM) : e_X12_tellSteps_0 d M =
    e_X12_tellSteps_2 d 0 M := by
  show amRun _ _ = _
  exact amRun_b 2 (x := .inl (2, [vR 12 12 0, vI 0], [], M)) rfl
theorem q_X12_tellSteps_2 (d : Nat) (l1 : Int) (M : AmM) : e_X12_tellSteps_2 d l1 M =
    if M 12 0 13 = 0 then (amCI (amD amGst d 158 [vR 12 12 0, vI 2] M) fun v1 M1 => if v1 = 0 then (amCV (amD amGst d 162 [vR 12 12 0, vI 4] M1) fun M2 => if (0 : Int) ≤ M2 12 0 19 ∧ M2 12 0 19 < 2 then (some (vU, amUp M2 137 0 (M2 12 0 19).toNat l1)) else none) else (if l1 = 24 then (amCV (amD amGst d 159 [vR 12 12 0, vI 2] M1) fun M3 => e_X12_tellSteps_28 d l1 M3) else (e_X12_tellSteps_28 d l1 M1))) else (amCV (amD amGst d 162 [vR 12 12 0, vI 4] M) fun M4 => if (0 : Int) ≤ M4 12 0 19 ∧ M4 12 0 19 < 2 then (some (vU, amUp M4 137 0 (M4 12 0 19).toNat l1)) else none) := by
  show amRun _ _ = _
  refine (amRun_t (f := amStep amGst (amD amGst d) cdX12_tellSteps) 2 (x := if M 12 0 13 = 0 then .inl (9, [vR 12 12 0, vI l1], [], M) else .inl (63, [vR 12 12 0, vI l1], [], M)) rfl).trans (amK_if ?_ ?_)
  · refine (amRun_t (f := amStep amGst (amD amGst d) cdX12_tellSteps) 2 (x := amPu 1 (amD amGst d 158 [vR 12 12 0, vI 2] M) (fun z9 M9 => .inl (14, [vR 12 12 0, vI l1], z9 ++ [], M9))) rfl).trans (amK_pI fun v1 M1 => ?_)
    refine (amRun_t (f := amStep amGst (amD amGst d) cdX12_tellSteps) 0 (x := if v1 = 0 then .inl (63, [vR 12 12 0, vI l1], [], M1) else .inl (17, [vR 12 12 0, vI l1], [], M1)) rfl).trans (amK_if ?_ ?_)
    · refine (amRun_t (f := amStep amGst (amD amGst d) cdX12_tellSteps) 2 (x := amPu 0 (amD amGst d 162 [vR 12 12 0, vI 4] M1) (fun z9 M9 => .inl (68, [vR 12 12 0, vI l1], z9 ++ [], M9))) rfl).trans (amK_pV fun M2 => ?_)
      refine (amRun_t (f := amStep amGst (amD amGst d) cdX12_tellSteps) 5 (x := if (0 : Int) ≤ M2 12 0 19 ∧ M2 12 0 19 < 2 then .inl (78, [vR 12 12 0, vI l1], [], amUp M2 137 0 (M2 12 0 19).toNat l1) else amNo) rfl).trans (amK_if ?_ rfl)
      exact amRun_b 1 (x := .inr (some (vU, amUp M2 137 0 (M2 12 0 19).toNat l1))) rfl
    · refine (amRun_t (f := amStep amGst (amD amGst d) cdX12_tellSteps) 2 (x := if l1 = 24 then .inl (23, [vR 12 12 0, vI l1], [], M1) else .inl (28, [vR 12 12 0, vI l1], [], M1)) rfl).trans (amK_if ?_ ?_)
      · refine (amRun_t (f := amStep amGst (amD amGst d) cdX12_tellSteps) 2 (x := amPu 0 (amD amGst d 159 [vR 12 12 0, vI 2] M1) (fun z9 M9 => .inl (28, [vR 12 12 0, vI l1], z9 ++ [], M9))) rfl).trans (amK_pV fun M3 => ?_)
        exact amRun_b 0 (x := .inl (28, [vR 12 12 0, vI l1], [], M3)) rfl
      · exact amRun_b 0 (x := .inl (28, [vR 12 12 0, vI l1], [], M1)) rfl
  · refine (amRun_t (f := amStep amGst (amD amGst d) cdX12_tellSteps) 2 (x := amPu 0 (amD amGst d 162 [vR 12 12 0, vI 4] M) (fun z9 M9 => .inl (68, [vR 12 12 0, vI l1], z9 ++ [], M9))) rfl).trans (amK_pV fun M4 => ?_)
    refine (amRun_t (f := amStep amGst (amD amGst d) cdX12_tellSteps) 5 (x := if (0 : Int) ≤ M4 12 0 19 ∧ M4 12 0 19 < 2 then .inl (78, [vR 12 12 0, vI l1], [], amUp M4 137 0 (M4 12 0 19).toNat l1) else amNo) rfl).trans (amK_if ?_ rfl)
    exact amRun_b 1 (x := .inr (some (vU, amUp M4 137 0 (M4 12 0 19).toNat l1))) rfl
theorem q_X12_tellSteps_28 (d : Nat) (l1 : Int) (M : AmM) : e_X12_tellSteps_28 d l1 M =
    if 0 < M 12 0 13 then (some (vU, M)) else (amCI (amD amGst d 167 [vR 12 12 0, vI 0, vI 99] M) fun v1 M1 => if (0 : Int) ≤ w32 ((w32 (25 * (M 12 0 19))) + (w32 (l1 + 1))) ∧ w32 ((w32 (25 * (M 12 0 19))) + (w32 (l1 + 1))) < 50 then (e_X12_tellSteps_2 d (w32 (l1 + 1)) (amUp M1 138 0 (w32 ((w32 (25 * (M 12 0 19))) + (w32 (l1 + 1)))).toNat v1)) else none) := by
  show amRun _ _ = _
  refine (amRun_t (f := amStep amGst (amD amGst d) cdX12_tellSteps) 2 (x := if 0 < M 12 0 13 then .inl (35, [vR 12 12 0, vI l1], [], M) else .inl (36, [vR 12 12 0, vI l1], [], M)) rfl).trans (amK_if ?_ ?_)
  · exact amRun_b 1 (x := .inr (some (vU, M))) rfl
  · refine (amRun_t (f := amStep amGst (amD amGst d) cdX12_tellSteps) 12 (x := amPu 1 (amD amGst d 167 [vR 12 12 0, vI 0, vI 99] M) (fun z9 M9 => .inl (59, [vR 12 12 0, vI (w32 (l1 + 1))], z9 ++ [vI (w32 ((w32 (25 * (M 12 0 19))) + (w32 (l1 + 1)))), vR 20 138 0], M9))) rfl).trans (amK_pI fun v1 M1 => ?_)
    refine (amRun_t (f := amStep amGst (amD amGst d) cdX12_tellSteps) 0 (x := if (0 : Int) ≤ w32 ((w32 (25 * (M 12 0 19))) + (w32 (l1 + 1))) ∧ w32 ((w32 (25 * (M 12 0 19))) + (w32 (l1 + 1))) < 50 then .inl (60, [vR 12 12 0, vI (w32 (l1 + 1))], [], amUp M1 138 0 (w32 ((w32 (25 * (M 12 0 19))) + (w32 (l1 + 1)))).toNat v1) else amNo) rfl).trans (amK_if ?_ rfl)
    exact amRun_b 1 (x := .inl (2, [vR 12 12 0, vI (w32 (l1 + 1))], [], amUp M1 138 0 (w32 ((w32 (25 * (M 12 0 19))) + (w32 (l1 + 1)))).toNat v1)) rfl
theorem n_X12_tellSteps (d : Nat) (M : AmM) : amD amGst (d + 1) 168 [vR 12 12 0] M = e_X12_tellSteps_0 d M := rfl
noncomputable def e_X12_tellRain_0 (d : Nat) (M : AmM) : Option (AmV × AmM) := amRun (amStep amGst (amD amGst d) cdX12_tellRain) (0, [vR 12 12 0, vU], [], M)
noncomputable def e_X12_tellRain_2 (d : Nat) (l1 : Int) (M : AmM) : Option (AmV × AmM) := amRun (amStep amGst (amD amGst d) cdX12_tellRain) (2, [vR 12 12 0, vI l1], [], M)
noncomputable def e_X12_tellRain_28 (d : Nat) (l1 : Int) (M : AmM) : Option (AmV × AmM) := amRun (amStep amGst (amD amGst d) cdX12_tellRain) (28, [vR 12 12 0, vI l1], [], M)
theorem q_X12_tellRain_0 (d : Nat) (M : AmM) : e_X12_tellRain_0 d M =
    e_X12_tellRain_2 d 0 M := by
  show amRun _ _ = _
  exact amRun_b 2 (x := .inl (2, [vR 12 12 0, vI 0], [], M)) rfl
theorem q_X12_tellRain_2 (d : Nat) (l1 : Int) (M : AmM) : e_X12_tellRain_2 d l1 M =
    if M 12 0 13 = 0 then (amCI (amD amGst d 158 [vR 12 12 0, vI 2] M) fun v1 M1 => if v1 = 0 then (amCV (amD amGst d 162 [vR 12 12 0, vI 4] M1) fun M2 => if (0 : Int) ≤ M2 12 0 19 ∧ M2 12 0 19 < 2 then (some (vU, amUp M2 139 0 (M2 12 0 19).toNat l1)) else none) else (if l1 = 14 then (amCV (amD amGst d 159 [vR 12 12 0, vI 2] M1) fun M3 => e_X12_tellRain_28 d l1 M3) else (e_X12_tellRain_28 d l1 M1))) else (amCV (amD amGst d 162 [vR 12 12 0, vI 4] M) fun M4 => if (0 : Int) ≤ M4 12 0 19 ∧ M4 12 0 19 < 2 then (some (vU, amUp M4 139 0 (M4 12 0 19).toNat l1)) else none) := by
  show amRun _ _ = _
  refine (amRun_t (f := amStep amGst (amD amGst d) cdX12_tellRain) 2 (x := if M 12 0 13 = 0 then .inl (9, [vR 12 12 0, vI l1], [], M) else .inl (63, [vR 12 12 0, vI l1], [], M)) rfl).trans (amK_if ?_ ?_)
  · refine (amRun_t (f := amStep amGst (amD amGst d) cdX12_tellRain) 2 (x := amPu 1 (amD amGst d 158 [vR 12 12 0, vI 2] M) (fun z9 M9 => .inl (14, [vR 12 12 0, vI l1], z9 ++ [], M9))) rfl).trans (amK_pI fun v1 M1 => ?_)
    refine (amRun_t (f := amStep amGst (amD amGst d) cdX12_tellRain) 0 (x := if v1 = 0 then .inl (63, [vR 12 12 0, vI l1], [], M1) else .inl (17, [vR 12 12 0, vI l1], [], M1)) rfl).trans (amK_if ?_ ?_)
    · refine (amRun_t (f := amStep amGst (amD amGst d) cdX12_tellRain) 2 (x := amPu 0 (amD amGst d 162 [vR 12 12 0, vI 4] M1) (fun z9 M9 => .inl (68, [vR 12 12 0, vI l1], z9 ++ [], M9))) rfl).trans (amK_pV fun M2 => ?_)
      refine (amRun_t (f := amStep amGst (amD amGst d) cdX12_tellRain) 5 (x := if (0 : Int) ≤ M2 12 0 19 ∧ M2 12 0 19 < 2 then .inl (78, [vR 12 12 0, vI l1], [], amUp M2 139 0 (M2 12 0 19).toNat l1) else amNo) rfl).trans (amK_if ?_ rfl)
      exact amRun_b 1 (x := .inr (some (vU, amUp M2 139 0 (M2 12 0 19).toNat l1))) rfl
    · refine (amRun_t (f := amStep amGst (amD amGst d) cdX12_tellRain) 2 (x := if l1 = 14 then .inl (23, [vR 12 12 0, vI l1], [], M1) else .inl (28, [vR 12 12 0, vI l1], [], M1)) rfl).trans (amK_if ?_ ?_)
      · refine (amRun_t (f := amStep amGst (amD amGst d) cdX12_tellRain) 2 (x := amPu 0 (amD amGst d 159 [vR 12 12 0, vI 2] M1) (fun z9 M9 => .inl (28, [vR 12 12 0, vI l1], z9 ++ [], M9))) rfl).trans (amK_pV fun M3 => ?_)
        exact amRun_b 0 (x := .inl (28, [vR 12 12 0, vI l1], [], M3)) rfl
      · exact amRun_b 0 (x := .inl (28, [vR 12 12 0, vI l1], [], M1)) rfl
  · refine (amRun_t (f := amStep amGst (amD amGst d) cdX12_tellRain) 2 (x := amPu 0 (amD amGst d 162 [vR 12 12 0, vI 4] M) (fun z9 M9 => .inl (68, [vR 12 12 0, vI l1], z9 ++ [], M9))) rfl).trans (amK_pV fun M4 => ?_)
    refine (amRun_t (f := amStep amGst (amD amGst d) cdX12_tellRain) 5 (x := if (0 : Int) ≤ M4 12 0 19 ∧ M4 12 0 19 < 2 then .inl (78, [vR 12 12 0, vI l1], [], amUp M4 139 0 (M4 12 0 19).toNat l1) else amNo) rfl).trans (amK_if ?_ rfl)
    exact amRun_b 1 (x := .inr (some (vU, amUp M4 139 0 (M4 12 0 19).toNat l1))) rfl
theorem q_X12_tellRain_28 (d : Nat) (l1 : Int) (M : AmM) : e_X12_tellRain_28 d l1 M =
    if 0 < M 12 0 13 then (some (vU, M)) else (amCI (amD amGst d 167 [vR 12 12 0, vI 0, vI 9] M) fun v1 M1 => if (0 : Int) ≤ w32 ((w32 (14 * (M 12 0 19))) + l1) ∧ w32 ((w32 (14 * (M 12 0 19))) + l1) < 28 then (e_X12_tellRain_2 d (w32 (l1 + 1)) (amUp M1 140 0 (w32 ((w32 (14 * (M 12 0 19))) + l1)).toNat v1)) else none) := by
  show amRun _ _ = _
  refine (amRun_t (f := amStep amGst (amD amGst d) cdX12_tellRain) 2 (x := if 0 < M 12 0 13 then .inl (35, [vR 12 12 0, vI l1], [], M) else .inl (36, [vR 12 12 0, vI l1], [], M)) rfl).trans (amK_if ?_ ?_)
  · exact amRun_b 1 (x := .inr (some (vU, M))) rfl
  · refine (amRun_t (f := amStep amGst (amD amGst d) cdX12_tellRain) 11 (x := amPu 1 (amD amGst d 167 [vR 12 12 0, vI 0, vI 9] M) (fun z9 M9 => .inl (56, [vR 12 12 0, vI l1], z9 ++ [vI (w32 ((w32 (14 * (M 12 0 19))) + l1)), vR 20 140 0], M9))) rfl).trans (amK_pI fun v1 M1 => ?_)
    refine (amRun_t (f := amStep amGst (amD amGst d) cdX12_tellRain) 0 (x := if (0 : Int) ≤ w32 ((w32 (14 * (M 12 0 19))) + l1) ∧ w32 ((w32 (14 * (M 12 0 19))) + l1) < 28 then .inl (57, [vR 12 12 0, vI l1], [], amUp M1 140 0 (w32 ((w32 (14 * (M 12 0 19))) + l1)).toNat v1) else amNo) rfl).trans (amK_if ?_ rfl)
    exact amRun_b 2 (x := .inl (2, [vR 12 12 0, vI (w32 (l1 + 1))], [], amUp M1 140 0 (w32 ((w32 (14 * (M 12 0 19))) + l1)).toNat v1)) rfl
theorem n_X12_tellRain (d : Nat) (M : AmM) : amD amGst (d + 1) 169 [vR 12 12 0] M = e_X12_tellRain_0 d M := rfl
noncomputable def e_X12_tellVow_0 (d : Nat) (M : AmM) : Option (AmV × AmM) := amRun (amStep amGst (amD amGst d) cdX12_tellVow) (0, [vR 12 12 0], [], M)
noncomputable def e_X12_tellVow_40 (d : Nat) (M : AmM) : Option (AmV × AmM) := amRun (amStep amGst (amD amGst d) cdX12_tellVow) (40, [vR 12 12 0], [], M)
theorem q_X12_tellVow_0 (d : Nat) (M : AmM) : e_X12_tellVow_0 d M =
    if 0 < M 12 0 13 then (amCV (amD amGst d 159 [vR 12 12 0, vI 1] M) fun M1 => e_X12_tellVow_40 d M1) else (if (0 : Int) ≤ M 12 0 11 ∧ M 12 0 11 < 403 then (if M 131 0 (M 12 0 11).toNat < 25 then (amCV (amD amGst d 159 [vR 12 12 0, vI 1] M) fun M2 => e_X12_tellVow_40 d M2) else (if (0 : Int) ≤ M 12 0 11 ∧ M 12 0 11 < 403 then (if 28 < M 131 0 (M 12 0 11).toNat then (amCV (amD amGst d 159 [vR 12 12 0, vI 1] M) fun M3 => e_X12_tellVow_40 d M3) else (e_X12_tellVow_40 d M)) else none)) else none) := by
  show amRun _ _ = _
  refine (amRun_t (f := amStep amGst (amD amGst d) cdX12_tellVow) 2 (x := if 0 < M 12 0 13 then .inl (35, [vR 12 12 0], [], M) else .inl (7, [vR 12 12 0], [], M)) rfl).trans (amK_if ?_ ?_)
  · refine (amRun_t (f := amStep amGst (amD amGst d) cdX12_tellVow) 2 (x := amPu 0 (amD amGst d 159 [vR 12 12 0, vI 1] M) (fun z9 M9 => .inl (40, [vR 12 12 0], z9 ++ [], M9))) rfl).trans (amK_pV fun M1 => ?_)
    exact amRun_b 0 (x := .inl (40, [vR 12 12 0], [], M1)) rfl
  · refine (amRun_t (f := amStep amGst (amD amGst d) cdX12_tellVow) 4 (x := if (0 : Int) ≤ M 12 0 11 ∧ M 12 0 11 < 403 then .inl (16, [vR 12 12 0], [vI (M 131 0 (M 12 0 11).toNat)], M) else amNo) rfl).trans (amK_if ?_ rfl)
    refine (amRun_t (f := amStep amGst (amD amGst d) cdX12_tellVow) 1 (x := if M 131 0 (M 12 0 11).toNat < 25 then .inl (35, [vR 12 12 0], [], M) else .inl (21, [vR 12 12 0], [], M)) rfl).trans (amK_if ?_ ?_)
    · refine (amRun_t (f := amStep amGst (amD amGst d) cdX12_tellVow) 2 (x := amPu 0 (amD amGst d 159 [vR 12 12 0, vI 1] M) (fun z9 M9 => .inl (40, [vR 12 12 0], z9 ++ [], M9))) rfl).trans (amK_pV fun M2 => ?_)
      exact amRun_b 0 (x := .inl (40, [vR 12 12 0], [], M2)) rfl
    · refine (amRun_t (f := amStep amGst (amD amGst d) cdX12_tellVow) 4 (x := if (0 : Int) ≤ M 12 0 11 ∧ M 12 0 11 < 403 then .inl (30, [vR 12 12 0], [vI (M 131 0 (M 12 0 11).toNat)], M) else amNo) rfl).trans (amK_if ?_ rfl)
      refine (amRun_t (f := amStep amGst (amD amGst d) cdX12_tellVow) 1 (x := if 28 < M 131 0 (M 12 0 11).toNat then .inl (35, [vR 12 12 0], [], M) else .inl (40, [vR 12 12 0], [], M)) rfl).trans (amK_if ?_ ?_)
      · refine (amRun_t (f := amStep amGst (amD amGst d) cdX12_tellVow) 2 (x := amPu 0 (amD amGst d 159 [vR 12 12 0, vI 1] M) (fun z9 M9 => .inl (40, [vR 12 12 0], z9 ++ [], M9))) rfl).trans (amK_pV fun M3 => ?_)
        exact amRun_b 0 (x := .inl (40, [vR 12 12 0], [], M3)) rfl
      · exact amRun_b 0 (x := .inl (40, [vR 12 12 0], [], M)) rfl
theorem q_X12_tellVow_40 (d : Nat) (M : AmM) : e_X12_tellVow_40 d M =
    if 0 < M 12 0 13 then (some (vI 0, M)) else (amCV (amD amGst d 161 [vR 12 12 0] M) fun M1 => if (0 : Int) ≤ w32 ((M1 12 0 11) - 1) ∧ w32 ((M1 12 0 11) - 1) < 403 then (some (vI (w32 ((M1 131 0 (w32 ((M1 12 0 11) - 1)).toNat) - 25)), M1)) else none) := by
  show amRun _ _ = _
  refine (amRun_t (f := amStep amGst (amD amGst d) cdX12_tellVow) 2 (x := if 0 < M 12 0 13 then .inl (47, [vR 12 12 0], [], M) else .inl (49, [vR 12 12 0], [], M)) rfl).trans (amK_if ?_ ?_)
  · exact amRun_b 2 (x := .inr (some (vI 0, M))) rfl
  · refine (amRun_t (f := amStep amGst (amD amGst d) cdX12_tellVow) 1 (x := amPu 0 (amD amGst d 161 [vR 12 12 0] M) (fun z9 M9 => .inl (53, [vR 12 12 0], z9 ++ [], M9))) rfl).trans (amK_pV fun M1 => ?_)
    refine (amRun_t (f := amStep amGst (amD amGst d) cdX12_tellVow) 6 (x := if (0 : Int) ≤ w32 ((M1 12 0 11) - 1) ∧ w32 ((M1 12 0 11) - 1) < 403 then .inl (64, [vR 12 12 0], [vI (M1 131 0 (w32 ((M1 12 0 11) - 1)).toNat)], M1) else amNo) rfl).trans (amK_if ?_ rfl)
    exact amRun_b 3 (x := .inr (some (vI (w32 ((M1 131 0 (w32 ((M1 12 0 11) - 1)).toNat) - 25)), M1))) rfl
theorem n_X12_tellVow (d : Nat) (M : AmM) : amD amGst (d + 1) 170 [vR 12 12 0] M = e_X12_tellVow_0 d M := rfl
noncomputable def e_X12_tellPilgrim_0 (d : Nat) (M : AmM) : Option (AmV × AmM) := amRun (amStep amGst (amD amGst d) cdX12_tellPilgrim) (0, [vR 12 12 0, vU, vU, vU], [], M)
noncomputable def e_X12_tellPilgrim_30 (d : Nat) (l1 : Int) (l2 : Int) (l3 : Int) (M : AmM) : Option (AmV × AmM) := amRun (amStep amGst (amD amGst d) cdX12_tellPilgrim) (30, [vR 12 12 0, vI l1, vI l2, vI l3], [], M)
noncomputable def e_X12_tellPilgrim_73 (d : Nat) (l1 : Int) (l2 : Int) (l3 : Int) (M : AmM) : Option (AmV × AmM) := amRun (amStep amGst (amD amGst d) cdX12_tellPilgrim) (73, [vR 12 12 0, vI l1, vI l2, vI l3], [], M)
noncomputable def e_X12_tellPilgrim_134 (d : Nat) (l1 : Int) (l2 : Int) (l3 : Int) (M : AmM) : Option (AmV × AmM) := amRun (amStep amGst (amD amGst d) cdX12_tellPilgrim) (134, [vR 12 12 0, vI l1, vI l2, vI l3], [], M)
theorem q_X12_tellPilgrim_0 (d : Nat) (M : AmM) : e_X12_tellPilgrim_0 d M =
    if (0 : Int) ≤ M 12 0 19 ∧ M 12 0 19 < 2 then (amCV (amD amGst d 162 [vR 12 12 0, vI 1] M) fun M1 => e_X12_tellPilgrim_30 d (w32 ((w32 (8 * (M 12 0 19))) + (M 143 0 (M 12 0 19).toNat))) (M 12 0 11) 0 M1) else none := by
  show amRun _ _ = _
  refine (amRun_t (f := amStep amGst (amD amGst d) cdX12_tellPilgrim) 8 (x := if (0 : Int) ≤ M 12 0 19 ∧ M 12 0 19 < 2 then .inl (16, [vR 12 12 0, vU, vU, vU], [vI (M 143 0 (M 12 0 19).toNat), vI (w32 (8 * (M 12 0 19)))], M) else amNo) rfl).trans (amK_if ?_ rfl)
  refine (amRun_t (f := amStep amGst (amD amGst d) cdX12_tellPilgrim) 7 (x := amPu 0 (amD amGst d 162 [vR 12 12 0, vI 1] M) (fun z9 M9 => .inl (28, [vR 12 12 0, vI (w32 ((w32 (8 * (M 12 0 19))) + (M 143 0 (M 12 0 19).toNat))), vI (M 12 0 11), vU], z9 ++ [], M9))) rfl).trans (amK_pV fun M1 => ?_)
  exact amRun_b 2 (x := .inl (30, [vR 12 12 0, vI (w32 ((w32 (8 * (M 12 0 19))) + (M 143 0 (M 12 0 19).toNat))), vI (M 12 0 11), vI 0], [], M1)) rfl
theorem q_X12_tellPilgrim_30 (d : Nat) (l1 : Int) (l2 : Int) (l3 : Int) (M : AmM) : e_X12_tellPilgrim_30 d l1 l2 l3 M =
    if l3 < M 12 0 20 then (if M 12 0 13 = 0 then (if (0 : Int) ≤ l3 ∧ l3 < 8 then (if (0 : Int) ≤ l2 ∧ l2 < 403 then (if amCmp (M 136 0 (l3).toNat) (M 134 0 (l2).toNat) = 0 then (amCV (amD amGst d 160 [vR 12 12 0, vI 3, vI l2] M) fun M1 => e_X12_tellPilgrim_30 d l1 l2 (w32 (l3 + 1)) M1) else (e_X12_tellPilgrim_30 d l1 l2 (w32 (l3 + 1)) M)) else none) else none) else (e_X12_tellPilgrim_73 d l1 l2 l3 M)) else (e_X12_tellPilgrim_73 d l1 l2 l3 M) := by
  show amRun _ _ = _
  refine (amRun_t (f := amStep amGst (amD amGst d) cdX12_tellPilgrim) 3 (x := if l3 < M 12 0 20 then .inl (38, [vR 12 12 0, vI l1, vI l2, vI l3], [], M) else .inl (73, [vR 12 12 0, vI l1, vI l2, vI l3], [], M)) rfl).trans (amK_if ?_ ?_)
  · refine (amRun_t (f := amStep amGst (amD amGst d) cdX12_tellPilgrim) 2 (x := if M 12 0 13 = 0 then .inl (45, [vR 12 12 0, vI l1, vI l2, vI l3], [], M) else .inl (73, [vR 12 12 0, vI l1, vI l2, vI l3], [], M)) rfl).trans (amK_if ?_ ?_)
    · refine (amRun_t (f := amStep amGst (amD amGst d) cdX12_tellPilgrim) 3 (x := if (0 : Int) ≤ l3 ∧ l3 < 8 then .inl (51, [vR 12 12 0, vI l1, vI l2, vI l3], [vL (M 136 0 (l3).toNat)], M) else amNo) rfl).trans (amK_if ?_ rfl)
      refine (amRun_t (f := amStep amGst (amD amGst d) cdX12_tellPilgrim) 3 (x := if (0 : Int) ≤ l2 ∧ l2 < 403 then .inl (57, [vR 12 12 0, vI l1, vI l2, vI l3], [vL (M 134 0 (l2).toNat), vL (M 136 0 (l3).toNat)], M) else amNo) rfl).trans (amK_if ?_ rfl)
      refine (amRun_t (f := amStep amGst (amD amGst d) cdX12_tellPilgrim) 1 (x := if amCmp (M 136 0 (l3).toNat) (M 134 0 (l2).toNat) = 0 then .inl (61, [vR 12 12 0, vI l1, vI l2, vI l3], [], M) else .inl (67, [vR 12 12 0, vI l1, vI l2, vI l3], [], M)) rfl).trans (amK_if ?_ ?_)
      · refine (amRun_t (f := amStep amGst (amD amGst d) cdX12_tellPilgrim) 3 (x := amPu 0 (amD amGst d 160 [vR 12 12 0, vI 3, vI l2] M) (fun z9 M9 => .inl (67, [vR 12 12 0, vI l1, vI l2, vI l3], z9 ++ [], M9))) rfl).trans (amK_pV fun M1 => ?_)
        exact amRun_b 2 (x := .inl (30, [vR 12 12 0, vI l1, vI l2, vI (w32 (l3 + 1))], [], M1)) rfl
      · exact amRun_b 2 (x := .inl (30, [vR 12 12 0, vI l1, vI l2, vI (w32 (l3 + 1))], [], M)) rfl
    · exact amRun_b 0 (x := .inl (73, [vR 12 12 0, vI l1, vI l2, vI l3], [], M)) rfl
  · exact amRun_b 0 (x := .inl (73, [vR 12 12 0, vI l1, vI l2, vI l3], [], M)) rfl
theorem q_X12_tellPilgrim_73 (d : Nat) (l1 : Int) (l2 : Int) (l3 : Int) (M : AmM) : e_X12_tellPilgrim_73 d l1 l2 l3 M =
    amCI (amD amGst d 167 [vR 12 12 0, vI 1, vI 30] M) fun v1 M1 => if (0 : Int) ≤ l1 ∧ l1 < 16 then (amCI (amD amGst d 170 [vR 12 12 0] (amUp M1 144 0 (l1).toNat v1)) fun v2 M2 => if (0 : Int) ≤ l1 ∧ l1 < 16 then (amCV (amD amGst d 162 [vR 12 12 0, vI 4] (amUp M2 145 0 (l1).toNat v2)) fun M3 => if 0 < M3 12 0 13 then (some (vU, M3)) else (if (0 : Int) ≤ l2 ∧ l2 < 403 then (if (0 : Int) ≤ M3 12 0 20 ∧ M3 12 0 20 < 8 then (e_X12_tellPilgrim_134 d l1 l2 l3 (amUp (amUp M3 136 0 (M3 12 0 20).toNat (M3 134 0 (l2).toNat)) 12 0 20 (w32 (((amUp M3 136 0 (M3 12 0 20).toNat (M3 134 0 (l2).toNat)) 12 0 20) + 1)))) else none) else none)) else none) else none := by
  show amRun _ _ = _
  refine (amRun_t (f := amStep amGst (amD amGst d) cdX12_tellPilgrim) 6 (x := amPu 1 (amD amGst d 167 [vR 12 12 0, vI 1, vI 30] M) (fun z9 M9 => .inl (85, [vR 12 12 0, vI l1, vI l2, vI l3], z9 ++ [vI l1, vR 20 144 0], M9))) rfl).trans (amK_pI fun v1 M1 => ?_)
  refine (amRun_t (f := amStep amGst (amD amGst d) cdX12_tellPilgrim) 0 (x := if (0 : Int) ≤ l1 ∧ l1 < 16 then .inl (86, [vR 12 12 0, vI l1, vI l2, vI l3], [], amUp M1 144 0 (l1).toNat v1) else amNo) rfl).trans (amK_if ?_ rfl)
  refine (amRun_t (f := amStep amGst (amD amGst d) cdX12_tellPilgrim) 4 (x := amPu 1 (amD amGst d 170 [vR 12 12 0] (amUp M1 144 0 (l1).toNat v1)) (fun z9 M9 => .inl (95, [vR 12 12 0, vI l1, vI l2, vI l3], z9 ++ [vI l1, vR 20 145 0], M9))) rfl).trans (amK_pI fun v2 M2 => ?_)
  refine (amRun_t (f := amStep amGst (amD amGst d) cdX12_tellPilgrim) 0 (x := if (0 : Int) ≤ l1 ∧ l1 < 16 then .inl (96, [vR 12 12 0, vI l1, vI l2, vI l3], [], amUp M2 145 0 (l1).toNat v2) else amNo) rfl).trans (amK_if ?_ rfl)
  refine (amRun_t (f := amStep amGst (amD amGst d) cdX12_tellPilgrim) 2 (x := amPu 0 (amD amGst d 162 [vR 12 12 0, vI 4] (amUp M2 145 0 (l1).toNat v2)) (fun z9 M9 => .inl (101, [vR 12 12 0, vI l1, vI l2, vI l3], z9 ++ [], M9))) rfl).trans (amK_pV fun M3 => ?_)
  refine (amRun_t (f := amStep amGst (amD amGst d) cdX12_tellPilgrim) 2 (x := if 0 < M3 12 0 13 then .inl (108, [vR 12 12 0, vI l1, vI l2, vI l3], [], M3) else .inl (109, [vR 12 12 0, vI l1, vI l2, vI l3], [], M3)) rfl).trans (amK_if ?_ ?_)
  · exact amRun_b 1 (x := .inr (some (vU, M3))) rfl
  · refine (amRun_t (f := amStep amGst (amD amGst d) cdX12_tellPilgrim) 7 (x := if (0 : Int) ≤ l2 ∧ l2 < 403 then .inl (123, [vR 12 12 0, vI l1, vI l2, vI l3], [vL (M3 134 0 (l2).toNat), vI (M3 12 0 20), vR 21 136 0], M3) else amNo) rfl).trans (amK_if ?_ rfl)
    refine (amRun_t (f := amStep amGst (amD amGst d) cdX12_tellPilgrim) 0 (x := if (0 : Int) ≤ M3 12 0 20 ∧ M3 12 0 20 < 8 then .inl (124, [vR 12 12 0, vI l1, vI l2, vI l3], [], amUp M3 136 0 (M3 12 0 20).toNat (M3 134 0 (l2).toNat)) else amNo) rfl).trans (amK_if ?_ rfl)
    exact amRun_b 6 (x := .inl (134, [vR 12 12 0, vI l1, vI l2, vI l3], [], amUp (amUp M3 136 0 (M3 12 0 20).toNat (M3 134 0 (l2).toNat)) 12 0 20 (w32 (((amUp M3 136 0 (M3 12 0 20).toNat (M3 134 0 (l2).toNat)) 12 0 20) + 1)))) rfl
theorem q_X12_tellPilgrim_134 (d : Nat) (l1 : Int) (l2 : Int) (l3 : Int) (M : AmM) : e_X12_tellPilgrim_134 d l1 l2 l3 M =
    if (0 : Int) ≤ M 12 0 19 ∧ M 12 0 19 < 2 then (if (0 : Int) ≤ M 12 0 19 ∧ M 12 0 19 < 2 then (some (vU, amUp M 143 0 (M 12 0 19).toNat (w32 ((M 143 0 (M 12 0 19).toNat) + 1)))) else none) else none := by
  show amRun _ _ = _
  refine (amRun_t (f := amStep amGst (amD amGst d) cdX12_tellPilgrim) 5 (x := if (0 : Int) ≤ M 12 0 19 ∧ M 12 0 19 < 2 then .inl (144, [vR 12 12 0, vI l1, vI l2, vI l3], [vI (M 143 0 (M 12 0 19).toNat), vI (M 12 0 19), vR 20 143 0], M) else amNo) rfl).trans (amK_if ?_ rfl)
  refine (amRun_t (f := amStep amGst (amD amGst d) cdX12_tellPilgrim) 2 (x := if (0 : Int) ≤ M 12 0 19 ∧ M 12 0 19 < 2 then .inl (147, [vR 12 12 0, vI l1, vI l2, vI l3], [], amUp M 143 0 (M 12 0 19).toNat (w32 ((M 143 0 (M 12 0 19).toNat) + 1))) else amNo) rfl).trans (amK_if ?_ rfl)
  exact amRun_b 1 (x := .inr (some (vU, amUp M 143 0 (M 12 0 19).toNat (w32 ((M 143 0 (M 12 0 19).toNat) + 1))))) rfl
theorem n_X12_tellPilgrim (d : Nat) (M : AmM) : amD amGst (d + 1) 171 [vR 12 12 0] M = e_X12_tellPilgrim_0 d M := rfl
noncomputable def e_X12_tellLaw_0 (d : Nat) (M : AmM) : Option (AmV × AmM) := amRun (amStep amGst (amD amGst d) cdX12_tellLaw) (0, [vR 12 12 0, vU, vU, vU], [], M)
noncomputable def e_X12_tellLaw_17 (d : Nat) (l1 : Int) (l2 : Int) (l3 : Int) (M : AmM) : Option (AmV × AmM) := amRun (amStep amGst (amD amGst d) cdX12_tellLaw) (17, [vR 12 12 0, vI l1, vI l2, vI l3], [], M)
noncomputable def e_X12_tellLaw_43 (d : Nat) (l1 : Int) (l2 : Int) (l3 : Int) (M : AmM) : Option (AmV × AmM) := amRun (amStep amGst (amD amGst d) cdX12_tellLaw) (43, [vR 12 12 0, vI l1, vI l2, vI l3], [], M)
noncomputable def e_X12_tellLaw_81 (d : Nat) (l1 : Int) (l2 : Int) (l3 : Int) (M : AmM) : Option (AmV × AmM) := amRun (amStep amGst (amD amGst d) cdX12_tellLaw) (81, [vR 12 12 0, vI l1, vI l2, vI l3], [], M)
noncomputable def e_X12_tellLaw_134 (d : Nat) (l1 : Int) (l2 : Int) (l3 : Int) (M : AmM) : Option (AmV × AmM) := amRun (amStep amGst (amD amGst d) cdX12_tellLaw) (134, [vR 12 12 0, vI l1, vI l2, vI l3], [], M)
noncomputable def e_X12_tellLaw_188 (d : Nat) (l1 : Int) (l2 : Int) (l3 : Int) (M : AmM) : Option (AmV × AmM) := amRun (amStep amGst (amD amGst d) cdX12_tellLaw) (188, [vR 12 12 0, vI l1, vI l2, vI l3], [], M)
theorem q_X12_tellLaw_0 (d : Nat) (M : AmM) : e_X12_tellLaw_0 d M =
    amCI (amD amGst d 170 [vR 12 12 0] M) fun v1 M1 => amCV (amD amGst d 162 [vR 12 12 0, vI 5] M1) fun M2 => e_X12_tellLaw_17 d v1 (M2 12 0 34) 0 M2 := by
  show amRun _ _ = _
  refine (amRun_t (f := amStep amGst (amD amGst d) cdX12_tellLaw) 1 (x := amPu 1 (amD amGst d 170 [vR 12 12 0] M) (fun z9 M9 => .inl (4, [vR 12 12 0, vU, vU, vU], z9 ++ [], M9))) rfl).trans (amK_pI fun v1 M1 => ?_)
  refine (amRun_t (f := amStep amGst (amD amGst d) cdX12_tellLaw) 3 (x := amPu 0 (amD amGst d 162 [vR 12 12 0, vI 5] M1) (fun z9 M9 => .inl (10, [vR 12 12 0, vI v1, vU, vU], z9 ++ [], M9))) rfl).trans (amK_pV fun M2 => ?_)
  exact amRun_b 5 (x := .inl (17, [vR 12 12 0, vI v1, vI (M2 12 0 34), vI 0], [], M2)) rfl
theorem q_X12_tellLaw_17 (d : Nat) (l1 : Int) (l2 : Int) (l3 : Int) (M : AmM) : e_X12_tellLaw_17 d l1 l2 l3 M =
    if M 12 0 13 = 0 then (amCI (amD amGst d 158 [vR 12 12 0, vI 29] M) fun v1 M1 => if v1 = 0 then (e_X12_tellLaw_134 d l1 l2 l3 M1) else (if l3 = 4 then (amCV (amD amGst d 159 [vR 12 12 0, vI 2] M1) fun M2 => e_X12_tellLaw_43 d l1 l2 l3 M2) else (e_X12_tellLaw_43 d l1 l2 l3 M1))) else (e_X12_tellLaw_134 d l1 l2 l3 M) := by
  show amRun _ _ = _
  refine (amRun_t (f := amStep amGst (amD amGst d) cdX12_tellLaw) 2 (x := if M 12 0 13 = 0 then .inl (24, [vR 12 12 0, vI l1, vI l2, vI l3], [], M) else .inl (134, [vR 12 12 0, vI l1, vI l2, vI l3], [], M)) rfl).trans (amK_if ?_ ?_)
  · refine (amRun_t (f := amStep amGst (amD amGst d) cdX12_tellLaw) 2 (x := amPu 1 (amD amGst d 158 [vR 12 12 0, vI 29] M) (fun z9 M9 => .inl (30, [vR 12 12 0, vI l1, vI l2, vI l3], z9 ++ [], M9))) rfl).trans (amK_pI fun v1 M1 => ?_)
    refine (amRun_t (f := amStep amGst (amD amGst d) cdX12_tellLaw) 0 (x := if v1 = 0 then .inl (134, [vR 12 12 0, vI l1, vI l2, vI l3], [], M1) else .inl (33, [vR 12 12 0, vI l1, vI l2, vI l3], [], M1)) rfl).trans (amK_if ?_ ?_)
    · exact amRun_b 0 (x := .inl (134, [vR 12 12 0, vI l1, vI l2, vI l3], [], M1)) rfl
    · refine (amRun_t (f := amStep amGst (amD amGst d) cdX12_tellLaw) 2 (x := if l3 = 4 then .inl (38, [vR 12 12 0, vI l1, vI l2, vI l3], [], M1) else .inl (43, [vR 12 12 0, vI l1, vI l2, vI l3], [], M1)) rfl).trans (amK_if ?_ ?_)
      · refine (amRun_t (f := amStep amGst (amD amGst d) cdX12_tellLaw) 2 (x := amPu 0 (amD amGst d 159 [vR 12 12 0, vI 2] M1) (fun z9 M9 => .inl (43, [vR 12 12 0, vI l1, vI l2, vI l3], z9 ++ [], M9))) rfl).trans (amK_pV fun M2 => ?_)
        exact amRun_b 0 (x := .inl (43, [vR 12 12 0, vI l1, vI l2, vI l3], [], M2)) rfl
      · exact amRun_b 0 (x := .inl (43, [vR 12 12 0, vI l1, vI l2, vI l3], [], M1)) rfl
  · exact amRun_b 0 (x := .inl (134, [vR 12 12 0, vI l1, vI l2, vI l3], [], M)) rfl
theorem q_X12_tellLaw_43 (d : Nat) (l1 : Int) (l2 : Int) (l3 : Int) (M : AmM) : e_X12_tellLaw_43 d l1 l2 l3 M =
    if 0 < M 12 0 13 then (some (vU, M)) else (amCV (amD amGst d 161 [vR 12 12 0] M) fun M1 => if (0 : Int) ≤ M1 12 0 34 ∧ M1 12 0 34 < 100 then (if (0 : Int) ≤ (amUp M1 149 0 (M1 12 0 34).toNat 1) 12 0 34 ∧ (amUp M1 149 0 (M1 12 0 34).toNat 1) 12 0 34 < 100 then (e_X12_tellLaw_81 d l1 l2 (w32 (l3 + 1)) (amUp (amUp M1 149 0 (M1 12 0 34).toNat 1) 150 0 ((amUp M1 149 0 (M1 12 0 34).toNat 1) 12 0 34).toNat ((amUp M1 149 0 (M1 12 0 34).toNat 1) 12 0 40))) else none) else none) := by
  show amRun _ _ = _
  refine (amRun_t (f := amStep amGst (amD amGst d) cdX12_tellLaw) 2 (x := if 0 < M 12 0 13 then .inl (50, [vR 12 12 0, vI l1, vI l2, vI l3], [], M) else .inl (51, [vR 12 12 0, vI l1, vI l2, vI l3], [], M)) rfl).trans (amK_if ?_ ?_)
  · exact amRun_b 1 (x := .inr (some (vU, M))) rfl
  · refine (amRun_t (f := amStep amGst (amD amGst d) cdX12_tellLaw) 2 (x := amPu 0 (amD amGst d 161 [vR 12 12 0] M) (fun z9 M9 => .inl (58, [vR 12 12 0, vI l1, vI l2, vI (w32 (l3 + 1))], z9 ++ [], M9))) rfl).trans (amK_pV fun M1 => ?_)
    refine (amRun_t (f := amStep amGst (amD amGst d) cdX12_tellLaw) 5 (x := if (0 : Int) ≤ M1 12 0 34 ∧ M1 12 0 34 < 100 then .inl (68, [vR 12 12 0, vI l1, vI l2, vI (w32 (l3 + 1))], [], amUp M1 149 0 (M1 12 0 34).toNat 1) else amNo) rfl).trans (amK_if ?_ rfl)
    refine (amRun_t (f := amStep amGst (amD amGst d) cdX12_tellLaw) 6 (x := if (0 : Int) ≤ (amUp M1 149 0 (M1 12 0 34).toNat 1) 12 0 34 ∧ (amUp M1 149 0 (M1 12 0 34).toNat 1) 12 0 34 < 100 then .inl (81, [vR 12 12 0, vI l1, vI l2, vI (w32 (l3 + 1))], [], amUp (amUp M1 149 0 (M1 12 0 34).toNat 1) 150 0 ((amUp M1 149 0 (M1 12 0 34).toNat 1) 12 0 34).toNat ((amUp M1 149 0 (M1 12 0 34).toNat 1) 12 0 40)) else amNo) rfl).trans (amK_if ?_ rfl)
    exact amRun_b 0 (x := .inl (81, [vR 12 12 0, vI l1, vI l2, vI (w32 (l3 + 1))], [], amUp (amUp M1 149 0 (M1 12 0 34).toNat 1) 150 0 ((amUp M1 149 0 (M1 12 0 34).toNat 1) 12 0 34).toNat ((amUp M1 149 0 (M1 12 0 34).toNat 1) 12 0 40))) rfl
theorem q_X12_tellLaw_81 (d : Nat) (l1 : Int) (l2 : Int) (l3 : Int) (M : AmM) : e_X12_tellLaw_81 d l1 l2 l3 M =
    amCV (amD amGst d 176 [vR 12 12 0] M) fun M1 => amCV (amD amGst d 162 [vR 12 12 0, vI 13] M1) fun M2 => if (0 : Int) ≤ M2 12 0 34 ∧ M2 12 0 34 < 100 then (if (amUp M2 151 0 (M2 12 0 34).toNat (M2 12 0 40)) 12 0 13 = 0 then (amCV (amD amGst d 176 [vR 12 12 0] (amUp M2 151 0 (M2 12 0 34).toNat (M2 12 0 40))) fun M3 => amCV (amD amGst d 162 [vR 12 12 0, vI 30] M3) fun M4 => amCV (amD amGst d 173 [vR 12 12 0] M4) fun M5 => amCV (amD amGst d 162 [vR 12 12 0, vI 31] M5) fun M6 => e_X12_tellLaw_17 d l1 l2 l3 M6) else (amCV (amD amGst d 162 [vR 12 12 0, vI 30] (amUp M2 151 0 (M2 12 0 34).toNat (M2 12 0 40))) fun M7 => amCV (amD amGst d 173 [vR 12 12 0] M7) fun M8 => amCV (amD amGst d 162 [vR 12 12 0, vI 31] M8) fun M9 => e_X12_tellLaw_17 d l1 l2 l3 M9)) else none := by
  show amRun _ _ = _
  refine (amRun_t (f := amStep amGst (amD amGst d) cdX12_tellLaw) 1 (x := amPu 0 (amD amGst d 176 [vR 12 12 0] M) (fun z9 M9 => .inl (85, [vR 12 12 0, vI l1, vI l2, vI l3], z9 ++ [], M9))) rfl).trans (amK_pV fun M1 => ?_)
  refine (amRun_t (f := amStep amGst (amD amGst d) cdX12_tellLaw) 2 (x := amPu 0 (amD amGst d 162 [vR 12 12 0, vI 13] M1) (fun z9 M9 => .inl (91, [vR 12 12 0, vI l1, vI l2, vI l3], z9 ++ [], M9))) rfl).trans (amK_pV fun M2 => ?_)
  refine (amRun_t (f := amStep amGst (amD amGst d) cdX12_tellLaw) 6 (x := if (0 : Int) ≤ M2 12 0 34 ∧ M2 12 0 34 < 100 then .inl (104, [vR 12 12 0, vI l1, vI l2, vI l3], [], amUp M2 151 0 (M2 12 0 34).toNat (M2 12 0 40)) else amNo) rfl).trans (amK_if ?_ rfl)
  refine (amRun_t (f := amStep amGst (amD amGst d) cdX12_tellLaw) 2 (x := if (amUp M2 151 0 (M2 12 0 34).toNat (M2 12 0 40)) 12 0 13 = 0 then .inl (111, [vR 12 12 0, vI l1, vI l2, vI l3], [], amUp M2 151 0 (M2 12 0 34).toNat (M2 12 0 40)) else .inl (115, [vR 12 12 0, vI l1, vI l2, vI l3], [], amUp M2 151 0 (M2 12 0 34).toNat (M2 12 0 40))) rfl).trans (amK_if ?_ ?_)
  · refine (amRun_t (f := amStep amGst (amD amGst d) cdX12_tellLaw) 1 (x := amPu 0 (amD amGst d 176 [vR 12 12 0] (amUp M2 151 0 (M2 12 0 34).toNat (M2 12 0 40))) (fun z9 M9 => .inl (115, [vR 12 12 0, vI l1, vI l2, vI l3], z9 ++ [], M9))) rfl).trans (amK_pV fun M3 => ?_)
    refine (amRun_t (f := amStep amGst (amD amGst d) cdX12_tellLaw) 2 (x := amPu 0 (amD amGst d 162 [vR 12 12 0, vI 30] M3) (fun z9 M9 => .inl (121, [vR 12 12 0, vI l1, vI l2, vI l3], z9 ++ [], M9))) rfl).trans (amK_pV fun M4 => ?_)
    refine (amRun_t (f := amStep amGst (amD amGst d) cdX12_tellLaw) 1 (x := amPu 0 (amD amGst d 173 [vR 12 12 0] M4) (fun z9 M9 => .inl (125, [vR 12 12 0, vI l1, vI l2, vI l3], z9 ++ [], M9))) rfl).trans (amK_pV fun M5 => ?_)
    refine (amRun_t (f := amStep amGst (amD amGst d) cdX12_tellLaw) 2 (x := amPu 0 (amD amGst d 162 [vR 12 12 0, vI 31] M5) (fun z9 M9 => .inl (131, [vR 12 12 0, vI l1, vI l2, vI l3], z9 ++ [], M9))) rfl).trans (amK_pV fun M6 => ?_)
    exact amRun_b 1 (x := .inl (17, [vR 12 12 0, vI l1, vI l2, vI l3], [], M6)) rfl
  · refine (amRun_t (f := amStep amGst (amD amGst d) cdX12_tellLaw) 2 (x := amPu 0 (amD amGst d 162 [vR 12 12 0, vI 30] (amUp M2 151 0 (M2 12 0 34).toNat (M2 12 0 40))) (fun z9 M9 => .inl (121, [vR 12 12 0, vI l1, vI l2, vI l3], z9 ++ [], M9))) rfl).trans (amK_pV fun M7 => ?_)
    refine (amRun_t (f := amStep amGst (amD amGst d) cdX12_tellLaw) 1 (x := amPu 0 (amD amGst d 173 [vR 12 12 0] M7) (fun z9 M9 => .inl (125, [vR 12 12 0, vI l1, vI l2, vI l3], z9 ++ [], M9))) rfl).trans (amK_pV fun M8 => ?_)
    refine (amRun_t (f := amStep amGst (amD amGst d) cdX12_tellLaw) 2 (x := amPu 0 (amD amGst d 162 [vR 12 12 0, vI 31] M8) (fun z9 M9 => .inl (131, [vR 12 12 0, vI l1, vI l2, vI l3], z9 ++ [], M9))) rfl).trans (amK_pV fun M9 => ?_)
    exact amRun_b 1 (x := .inl (17, [vR 12 12 0, vI l1, vI l2, vI l3], [], M9)) rfl
theorem q_X12_tellLaw_134 (d : Nat) (l1 : Int) (l2 : Int) (l3 : Int) (M : AmM) : e_X12_tellLaw_134 d l1 l2 l3 M =
    if (0 : Int) ≤ M 12 0 34 ∧ M 12 0 34 < 100 then (amCV (amD amGst d 173 [vR 12 12 0] (amUp M 149 0 (M 12 0 34).toNat 0)) fun M1 => amCV (amD amGst d 162 [vR 12 12 0, vI 4] M1) fun M2 => if 0 < M2 12 0 13 then (some (vU, M2)) else (if (0 : Int) ≤ M2 12 0 19 ∧ M2 12 0 19 < 2 then (if (0 : Int) ≤ M2 12 0 19 ∧ M2 12 0 19 < 2 then (if (0 : Int) ≤ w32 ((w32 (4 * ((amUp M2 146 0 (M2 12 0 19).toNat (w32 ((M2 146 0 (M2 12 0 19).toNat) + 1))) 12 0 19))) + l1) ∧ w32 ((w32 (4 * ((amUp M2 146 0 (M2 12 0 19).toNat (w32 ((M2 146 0 (M2 12 0 19).toNat) + 1))) 12 0 19))) + l1) < 8 then (e_X12_tellLaw_188 d l1 l2 l3 (amUp (amUp M2 146 0 (M2 12 0 19).toNat (w32 ((M2 146 0 (M2 12 0 19).toNat) + 1))) 147 0 (w32 ((w32 (4 * ((amUp M2 146 0 (M2 12 0 19).toNat (w32 ((M2 146 0 (M2 12 0 19).toNat) + 1))) 12 0 19))) + l1)).toNat l2)) else none) else none) else none)) else none := by
  show amRun _ _ = _
  refine (amRun_t (f := amStep amGst (amD amGst d) cdX12_tellLaw) 5 (x := if (0 : Int) ≤ M 12 0 34 ∧ M 12 0 34 < 100 then .inl (144, [vR 12 12 0, vI l1, vI l2, vI l3], [], amUp M 149 0 (M 12 0 34).toNat 0) else amNo) rfl).trans (amK_if ?_ rfl)
  refine (amRun_t (f := amStep amGst (amD amGst d) cdX12_tellLaw) 1 (x := amPu 0 (amD amGst d 173 [vR 12 12 0] (amUp M 149 0 (M 12 0 34).toNat 0)) (fun z9 M9 => .inl (148, [vR 12 12 0, vI l1, vI l2, vI l3], z9 ++ [], M9))) rfl).trans (amK_pV fun M1 => ?_)
  refine (amRun_t (f := amStep amGst (amD amGst d) cdX12_tellLaw) 2 (x := amPu 0 (amD amGst d 162 [vR 12 12 0, vI 4] M1) (fun z9 M9 => .inl (153, [vR 12 12 0, vI l1, vI l2, vI l3], z9 ++ [], M9))) rfl).trans (amK_pV fun M2 => ?_)
  refine (amRun_t (f := amStep amGst (amD amGst d) cdX12_tellLaw) 2 (x := if 0 < M2 12 0 13 then .inl (160, [vR 12 12 0, vI l1, vI l2, vI l3], [], M2) else .inl (161, [vR 12 12 0, vI l1, vI l2, vI l3], [], M2)) rfl).trans (amK_if ?_ ?_)
  · exact amRun_b 1 (x := .inr (some (vU, M2))) rfl
  · refine (amRun_t (f := amStep amGst (amD amGst d) cdX12_tellLaw) 5 (x := if (0 : Int) ≤ M2 12 0 19 ∧ M2 12 0 19 < 2 then .inl (171, [vR 12 12 0, vI l1, vI l2, vI l3], [vI (M2 146 0 (M2 12 0 19).toNat), vI (M2 12 0 19), vR 20 146 0], M2) else amNo) rfl).trans (amK_if ?_ rfl)
    refine (amRun_t (f := amStep amGst (amD amGst d) cdX12_tellLaw) 2 (x := if (0 : Int) ≤ M2 12 0 19 ∧ M2 12 0 19 < 2 then .inl (174, [vR 12 12 0, vI l1, vI l2, vI l3], [], amUp M2 146 0 (M2 12 0 19).toNat (w32 ((M2 146 0 (M2 12 0 19).toNat) + 1))) else amNo) rfl).trans (amK_if ?_ rfl)
    refine (amRun_t (f := amStep amGst (amD amGst d) cdX12_tellLaw) 9 (x := if (0 : Int) ≤ w32 ((w32 (4 * ((amUp M2 146 0 (M2 12 0 19).toNat (w32 ((M2 146 0 (M2 12 0 19).toNat) + 1))) 12 0 19))) + l1) ∧ w32 ((w32 (4 * ((amUp M2 146 0 (M2 12 0 19).toNat (w32 ((M2 146 0 (M2 12 0 19).toNat) + 1))) 12 0 19))) + l1) < 8 then .inl (188, [vR 12 12 0, vI l1, vI l2, vI l3], [], amUp (amUp M2 146 0 (M2 12 0 19).toNat (w32 ((M2 146 0 (M2 12 0 19).toNat) + 1))) 147 0 (w32 ((w32 (4 * ((amUp M2 146 0 (M2 12 0 19).toNat (w32 ((M2 146 0 (M2 12 0 19).toNat) + 1))) 12 0 19))) + l1)).toNat l2) else amNo) rfl).trans (amK_if ?_ rfl)
    exact amRun_b 0 (x := .inl (188, [vR 12 12 0, vI l1, vI l2, vI l3], [], amUp (amUp M2 146 0 (M2 12 0 19).toNat (w32 ((M2 146 0 (M2 12 0 19).toNat) + 1))) 147 0 (w32 ((w32 (4 * ((amUp M2 146 0 (M2 12 0 19).toNat (w32 ((M2 146 0 (M2 12 0 19).toNat) + 1))) 12 0 19))) + l1)).toNat l2)) rfl
theorem q_X12_tellLaw_188 (d : Nat) (l1 : Int) (l2 : Int) (l3 : Int) (M : AmM) : e_X12_tellLaw_188 d l1 l2 l3 M =
    if (0 : Int) ≤ w32 ((w32 (4 * (M 12 0 19))) + l1) ∧ w32 ((w32 (4 * (M 12 0 19))) + l1) < 8 then (some (vU, amUp M 148 0 (w32 ((w32 (4 * (M 12 0 19))) + l1)).toNat (M 12 0 34))) else none := by
  show amRun _ _ = _
  refine (amRun_t (f := amStep amGst (amD amGst d) cdX12_tellLaw) 10 (x := if (0 : Int) ≤ w32 ((w32 (4 * (M 12 0 19))) + l1) ∧ w32 ((w32 (4 * (M 12 0 19))) + l1) < 8 then .inl (205, [vR 12 12 0, vI l1, vI l2, vI l3], [], amUp M 148 0 (w32 ((w32 (4 * (M 12 0 19))) + l1)).toNat (M 12 0 34)) else amNo) rfl).trans (amK_if ?_ rfl)
  exact amRun_b 1 (x := .inr (some (vU, amUp M 148 0 (w32 ((w32 (4 * (M 12 0 19))) + l1)).toNat (M 12 0 34)))) rfl
theorem n_X12_tellLaw (d : Nat) (M : AmM) : amD amGst (d + 1) 172 [vR 12 12 0] M = e_X12_tellLaw_0 d M := rfl
noncomputable def e_X12_term_0 (d : Nat) (M : AmM) : Option (AmV × AmM) := amRun (amStep amGst (amD amGst d) cdX12_term) (0, [vR 12 12 0], [], M)
noncomputable def e_X12_term_24 (d : Nat) (M : AmM) : Option (AmV × AmM) := amRun (amStep amGst (amD amGst d) cdX12_term) (24, [vR 12 12 0], [], M)
noncomputable def e_X12_term_47 (d : Nat) (M : AmM) : Option (AmV × AmM) := amRun (amStep amGst (amD amGst d) cdX12_term) (47, [vR 12 12 0], [], M)
theorem q_X12_term_0 (d : Nat) (M : AmM) : e_X12_term_0 d M =
    if (0 : Int) ≤ M 12 0 34 ∧ M 12 0 34 < 100 then (if (amUp M 152 0 (M 12 0 34).toNat (M 12 0 40)) 12 0 13 = 0 then (amCV (amD amGst d 176 [vR 12 12 0] (amUp M 152 0 (M 12 0 34).toNat (M 12 0 40))) fun M1 => e_X12_term_24 d M1) else (e_X12_term_24 d (amUp M 152 0 (M 12 0 34).toNat (M 12 0 40)))) else none := by
  show amRun _ _ = _
  refine (amRun_t (f := amStep amGst (amD amGst d) cdX12_term) 6 (x := if (0 : Int) ≤ M 12 0 34 ∧ M 12 0 34 < 100 then .inl (13, [vR 12 12 0], [], amUp M 152 0 (M 12 0 34).toNat (M 12 0 40)) else amNo) rfl).trans (amK_if ?_ rfl)
  refine (amRun_t (f := amStep amGst (amD amGst d) cdX12_term) 2 (x := if (amUp M 152 0 (M 12 0 34).toNat (M 12 0 40)) 12 0 13 = 0 then .inl (20, [vR 12 12 0], [], amUp M 152 0 (M 12 0 34).toNat (M 12 0 40)) else .inl (24, [vR 12 12 0], [], amUp M 152 0 (M 12 0 34).toNat (M 12 0 40))) rfl).trans (amK_if ?_ ?_)
  · refine (amRun_t (f := amStep amGst (amD amGst d) cdX12_term) 1 (x := amPu 0 (amD amGst d 176 [vR 12 12 0] (amUp M 152 0 (M 12 0 34).toNat (M 12 0 40))) (fun z9 M9 => .inl (24, [vR 12 12 0], z9 ++ [], M9))) rfl).trans (amK_pV fun M1 => ?_)
    exact amRun_b 0 (x := .inl (24, [vR 12 12 0], [], M1)) rfl
  · exact amRun_b 0 (x := .inl (24, [vR 12 12 0], [], amUp M 152 0 (M 12 0 34).toNat (M 12 0 40))) rfl
theorem q_X12_term_24 (d : Nat) (M : AmM) : e_X12_term_24 d M =
    if (0 : Int) ≤ M 12 0 34 ∧ M 12 0 34 < 100 then (e_X12_term_47 d (amUp (amUp M 153 0 (M 12 0 34).toNat (M 12 0 40)) 12 0 34 (w32 (((amUp M 153 0 (M 12 0 34).toNat (M 12 0 40)) 12 0 34) + 1)))) else none := by
  show amRun _ _ = _
  refine (amRun_t (f := amStep amGst (amD amGst d) cdX12_term) 6 (x := if (0 : Int) ≤ M 12 0 34 ∧ M 12 0 34 < 100 then .inl (37, [vR 12 12 0], [], amUp M 153 0 (M 12 0 34).toNat (M 12 0 40)) else amNo) rfl).trans (amK_if ?_ rfl)
  exact amRun_b 6 (x := .inl (47, [vR 12 12 0], [], amUp (amUp M 153 0 (M 12 0 34).toNat (M 12 0 40)) 12 0 34 (w32 (((amUp M 153 0 (M 12 0 34).toNat (M 12 0 40)) 12 0 34) + 1)))) rfl
theorem q_X12_term_47 (d : Nat) (M : AmM) : e_X12_term_47 d M =
    some (vU, M) := by
  show amRun _ _ = _
  exact amRun_b 1 (x := .inr (some (vU, M))) rfl
theorem n_X12_term (d : Nat) (M : AmM) : amD amGst (d + 1) 173 [vR 12 12 0] M = e_X12_term_0 d M := rfl
noncomputable def e_X12_emit_0 (d : Nat) (l1 : Int) (l2 : Int) (M : AmM) : Option (AmV × AmM) := amRun (amStep amGst (amD amGst d) cdX12_emit) (0, [vR 12 12 0, vI l1, vI l2], [], M)
noncomputable def e_X12_emit_20 (d : Nat) (l1 : Int) (l2 : Int) (M : AmM) : Option (AmV × AmM) := amRun (amStep amGst (amD amGst d) cdX12_emit) (20, [vR 12 12 0, vI l1, vI l2], [], M)
theorem q_X12_emit_0 (d : Nat) (l1 : Int) (l2 : Int) (M : AmM) : e_X12_emit_0 d l1 l2 M =
    if (0 : Int) ≤ M 12 0 40 ∧ M 12 0 40 < 840 then (if (0 : Int) ≤ (amUp M 154 0 (M 12 0 40).toNat l1) 12 0 40 ∧ (amUp M 154 0 (M 12 0 40).toNat l1) 12 0 40 < 840 then (e_X12_emit_20 d l1 l2 (amUp (amUp M 154 0 (M 12 0 40).toNat l1) 155 0 ((amUp M 154 0 (M 12 0 40).toNat l1) 12 0 40).toNat l2)) else none) else none := by
  show amRun _ _ = _
  refine (amRun_t (f := amStep amGst (amD amGst d) cdX12_emit) 5 (x := if (0 : Int) ≤ M 12 0 40 ∧ M 12 0 40 < 840 then .inl (10, [vR 12 12 0, vI l1, vI l2], [], amUp M 154 0 (M 12 0 40).toNat l1) else amNo) rfl).trans (amK_if ?_ rfl)
  refine (amRun_t (f := amStep amGst (amD amGst d) cdX12_emit) 5 (x := if (0 : Int) ≤ (amUp M 154 0 (M 12 0 40).toNat l1) 12 0 40 ∧ (amUp M 154 0 (M 12 0 40).toNat l1) 12 0 40 < 840 then .inl (20, [vR 12 12 0, vI l1, vI l2], [], amUp (amUp M 154 0 (M 12 0 40).toNat l1) 155 0 ((amUp M 154 0 (M 12 0 40).toNat l1) 12 0 40).toNat l2) else amNo) rfl).trans (amK_if ?_ rfl)
  exact amRun_b 0 (x := .inl (20, [vR 12 12 0, vI l1, vI l2], [], amUp (amUp M 154 0 (M 12 0 40).toNat l1) 155 0 ((amUp M 154 0 (M 12 0 40).toNat l1) 12 0 40).toNat l2)) rfl
theorem q_X12_emit_20 (d : Nat) (l1 : Int) (l2 : Int) (M : AmM) : e_X12_emit_20 d l1 l2 M =
    some (vU, amUp M 12 0 40 (w32 ((M 12 0 40) + 1))) := by
  show amRun _ _ = _
  exact amRun_b 7 (x := .inr (some (vU, amUp M 12 0 40 (w32 ((M 12 0 40) + 1))))) rfl
theorem n_X12_emit (d : Nat) (l1 : Int) (l2 : Int) (M : AmM) : amD amGst (d + 1) 174 [vR 12 12 0, vI l1, vI l2] M = e_X12_emit_0 d l1 l2 M := rfl
noncomputable def e_X12_comesOut_0 (d : Nat) (l1 : Int) (u2 : AmV) (M : AmM) : Option (AmV × AmM) := amRun (amStep amGst (amD amGst d) cdX12_comesOut) (0, [vR 12 12 0, vI l1, u2], [], M)
noncomputable def e_X12_comesOut_42 (d : Nat) (l1 : Int) (l2 : Int) (M : AmM) : Option (AmV × AmM) := amRun (amStep amGst (amD amGst d) cdX12_comesOut) (42, [vR 12 12 0, vI l1, vI l2], [], M)
theorem q_X12_comesOut_0 (d : Nat) (l1 : Int) (u2 : AmV) (M : AmM) : e_X12_comesOut_0 d l1 u2 M =
    if 0 < M 12 0 44 then (if (0 : Int) ≤ w32 ((M 12 0 44) - 1) ∧ w32 ((M 12 0 44) - 1) < 64 then (if M 156 0 (w32 ((M 12 0 44) - 1)).toNat = 6 then (some (vU, M)) else (if l1 = 0 then (e_X12_comesOut_42 d l1 (M 156 0 (w32 ((M 12 0 44) - 1)).toNat) M) else (if M 156 0 (w32 ((M 12 0 44) - 1)).toNat = 8 then (some (vU, M)) else (if M 156 0 (w32 ((M 12 0 44) - 1)).toNat = 9 then (some (vU, M)) else (e_X12_comesOut_42 d l1 (M 156 0 (w32 ((M 12 0 44) - 1)).toNat) M))))) else none) else (some (vU, M)) := by
  show amRun _ _ = _
  refine (amRun_t (f := amStep amGst (amD amGst d) cdX12_comesOut) 2 (x := if 0 < M 12 0 44 then .inl (7, [vR 12 12 0, vI l1, u2], [], M) else .inl (91, [vR 12 12 0, vI l1, u2], [], M)) rfl).trans (amK_if ?_ ?_)
  · refine (amRun_t (f := amStep amGst (amD amGst d) cdX12_comesOut) 6 (x := if (0 : Int) ≤ w32 ((M 12 0 44) - 1) ∧ w32 ((M 12 0 44) - 1) < 64 then .inl (18, [vR 12 12 0, vI l1, u2], [vI (M 156 0 (w32 ((M 12 0 44) - 1)).toNat)], M) else amNo) rfl).trans (amK_if ?_ rfl)
    refine (amRun_t (f := amStep amGst (amD amGst d) cdX12_comesOut) 3 (x := if M 156 0 (w32 ((M 12 0 44) - 1)).toNat = 6 then .inl (41, [vR 12 12 0, vI l1, vI (M 156 0 (w32 ((M 12 0 44) - 1)).toNat)], [], M) else .inl (25, [vR 12 12 0, vI l1, vI (M 156 0 (w32 ((M 12 0 44) - 1)).toNat)], [], M)) rfl).trans (amK_if ?_ ?_)
    · exact amRun_b 1 (x := .inr (some (vU, M))) rfl
    · refine (amRun_t (f := amStep amGst (amD amGst d) cdX12_comesOut) 1 (x := if l1 = 0 then .inl (42, [vR 12 12 0, vI l1, vI (M 156 0 (w32 ((M 12 0 44) - 1)).toNat)], [], M) else .inl (29, [vR 12 12 0, vI l1, vI (M 156 0 (w32 ((M 12 0 44) - 1)).toNat)], [], M)) rfl).trans (amK_if ?_ ?_)
      · exact amRun_b 0 (x := .inl (42, [vR 12 12 0, vI l1, vI (M 156 0 (w32 ((M 12 0 44) - 1)).toNat)], [], M)) rfl
      · refine (amRun_t (f := amStep amGst (amD amGst d) cdX12_comesOut) 2 (x := if M 156 0 (w32 ((M 12 0 44) - 1)).toNat = 8 then .inl (41, [vR 12 12 0, vI l1, vI (M 156 0 (w32 ((M 12 0 44) - 1)).toNat)], [], M) else .inl (35, [vR 12 12 0, vI l1, vI (M 156 0 (w32 ((M 12 0 44) - 1)).toNat)], [], M)) rfl).trans (amK_if ?_ ?_)
        · exact amRun_b 1 (x := .inr (some (vU, M))) rfl
        · refine (amRun_t (f := amStep amGst (amD amGst d) cdX12_comesOut) 2 (x := if M 156 0 (w32 ((M 12 0 44) - 1)).toNat = 9 then .inl (41, [vR 12 12 0, vI l1, vI (M 156 0 (w32 ((M 12 0 44) - 1)).toNat)], [], M) else .inl (42, [vR 12 12 0, vI l1, vI (M 156 0 (w32 ((M 12 0 44) - 1)).toNat)], [], M)) rfl).trans (amK_if ?_ ?_)
          · exact amRun_b 1 (x := .inr (some (vU, M))) rfl
          · exact amRun_b 0 (x := .inl (42, [vR 12 12 0, vI l1, vI (M 156 0 (w32 ((M 12 0 44) - 1)).toNat)], [], M)) rfl
  · exact amRun_b 1 (x := .inr (some (vU, M))) rfl
theorem q_X12_comesOut_42 (d : Nat) (l1 : Int) (l2 : Int) (M : AmM) : e_X12_comesOut_42 d l1 l2 M =
    if l2 = 8 then (amCV (amD amGst d 174 [vR 12 12 0, vI 2, vI 0] (amUp M 12 0 44 (w32 ((M 12 0 44) - 1)))) fun M1 => e_X12_comesOut_0 d l1 (vI l2) M1) else (if l2 = 9 then (amCV (amD amGst d 174 [vR 12 12 0, vI 3, vI 0] (amUp M 12 0 44 (w32 ((M 12 0 44) - 1)))) fun M2 => e_X12_comesOut_0 d l1 (vI l2) M2) else (if l2 = 10 then (amCV (amD amGst d 174 [vR 12 12 0, vI 4, vI 0] (amUp M 12 0 44 (w32 ((M 12 0 44) - 1)))) fun M3 => e_X12_comesOut_0 d l1 (vI l2) M3) else (amCV (amD amGst d 174 [vR 12 12 0, vI 5, vI 0] (amUp M 12 0 44 (w32 ((M 12 0 44) - 1)))) fun M4 => e_X12_comesOut_0 d l1 (vI l2) M4))) := by
  show amRun _ _ = _
  refine (amRun_t (f := amStep amGst (amD amGst d) cdX12_comesOut) 9 (x := if l2 = 8 then .inl (59, [vR 12 12 0, vI l1, vI l2], [vR 12 12 0], amUp M 12 0 44 (w32 ((M 12 0 44) - 1))) else .inl (63, [vR 12 12 0, vI l1, vI l2], [vR 12 12 0], amUp M 12 0 44 (w32 ((M 12 0 44) - 1)))) rfl).trans (amK_if ?_ ?_)
  · refine (amRun_t (f := amStep amGst (amD amGst d) cdX12_comesOut) 3 (x := amPu 0 (amD amGst d 174 [vR 12 12 0, vI 2, vI 0] (amUp M 12 0 44 (w32 ((M 12 0 44) - 1)))) (fun z9 M9 => .inl (88, [vR 12 12 0, vI l1, vI l2], z9 ++ [], M9))) rfl).trans (amK_pV fun M1 => ?_)
    exact amRun_b 1 (x := .inl (0, [vR 12 12 0, vI l1, vI l2], [], M1)) rfl
  · refine (amRun_t (f := amStep amGst (amD amGst d) cdX12_comesOut) 2 (x := if l2 = 9 then .inl (69, [vR 12 12 0, vI l1, vI l2], [vR 12 12 0], amUp M 12 0 44 (w32 ((M 12 0 44) - 1))) else .inl (73, [vR 12 12 0, vI l1, vI l2], [vR 12 12 0], amUp M 12 0 44 (w32 ((M 12 0 44) - 1)))) rfl).trans (amK_if ?_ ?_)
    · refine (amRun_t (f := amStep amGst (amD amGst d) cdX12_comesOut) 3 (x := amPu 0 (amD amGst d 174 [vR 12 12 0, vI 3, vI 0] (amUp M 12 0 44 (w32 ((M 12 0 44) - 1)))) (fun z9 M9 => .inl (88, [vR 12 12 0, vI l1, vI l2], z9 ++ [], M9))) rfl).trans (amK_pV fun M2 => ?_)
      exact amRun_b 1 (x := .inl (0, [vR 12 12 0, vI l1, vI l2], [], M2)) rfl
    · refine (amRun_t (f := amStep amGst (amD amGst d) cdX12_comesOut) 2 (x := if l2 = 10 then .inl (79, [vR 12 12 0, vI l1, vI l2], [vR 12 12 0], amUp M 12 0 44 (w32 ((M 12 0 44) - 1))) else .inl (83, [vR 12 12 0, vI l1, vI l2], [vR 12 12 0], amUp M 12 0 44 (w32 ((M 12 0 44) - 1)))) rfl).trans (amK_if ?_ ?_)
      · refine (amRun_t (f := amStep amGst (amD amGst d) cdX12_comesOut) 3 (x := amPu 0 (amD amGst d 174 [vR 12 12 0, vI 4, vI 0] (amUp M 12 0 44 (w32 ((M 12 0 44) - 1)))) (fun z9 M9 => .inl (88, [vR 12 12 0, vI l1, vI l2], z9 ++ [], M9))) rfl).trans (amK_pV fun M3 => ?_)
        exact amRun_b 1 (x := .inl (0, [vR 12 12 0, vI l1, vI l2], [], M3)) rfl
      · refine (amRun_t (f := amStep amGst (amD amGst d) cdX12_comesOut) 2 (x := amPu 0 (amD amGst d 174 [vR 12 12 0, vI 5, vI 0] (amUp M 12 0 44 (w32 ((M 12 0 44) - 1)))) (fun z9 M9 => .inl (88, [vR 12 12 0, vI l1, vI l2], z9 ++ [], M9))) rfl).trans (amK_pV fun M4 => ?_)
        exact amRun_b 1 (x := .inl (0, [vR 12 12 0, vI l1, vI l2], [], M4)) rfl
theorem n_X12_comesOut (d : Nat) (l1 : Int) (M : AmM) : amD amGst (d + 1) 175 [vR 12 12 0, vI l1] M = e_X12_comesOut_0 d l1 vU M := rfl
noncomputable def e_X12_expression_0 (d : Nat) (M : AmM) : Option (AmV × AmM) := amRun (amStep amGst (amD amGst d) cdX12_expression) (0, [vR 12 12 0, vU, vU], [], M)
noncomputable def e_X12_expression_12 (d : Nat) (l1 : Int) (l2 : Int) (M : AmM) : Option (AmV × AmM) := amRun (amStep amGst (amD amGst d) cdX12_expression) (12, [vR 12 12 0, vI l1, vI l2], [], M)
noncomputable def e_X12_expression_23 (d : Nat) (l1 : Int) (l2 : Int) (M : AmM) : Option (AmV × AmM) := amRun (amStep amGst (amD amGst d) cdX12_expression) (23, [vR 12 12 0, vI l1, vI l2], [], M)
noncomputable def e_X12_expression_46 (d : Nat) (l1 : Int) (l2 : Int) (M : AmM) : Option (AmV × AmM) := amRun (amStep amGst (amD amGst d) cdX12_expression) (46, [vR 12 12 0, vI l1, vI l2], [], M)
noncomputable def e_X12_expression_81 (d : Nat) (l1 : Int) (l2 : Int) (M : AmM) : Option (AmV × AmM) := amRun (amStep amGst (amD amGst d) cdX12_expression) (81, [vR 12 12 0, vI l1, vI l2], [], M)
noncomputable def e_X12_expression_96 (d : Nat) (l1 : Int) (l2 : Int) (M : AmM) : Option (AmV × AmM) := amRun (amStep amGst (amD amGst d) cdX12_expression) (96, [vR 12 12 0, vI l1, vI l2], [], M)
noncomputable def e_X12_expression_138 (d : Nat) (l1 : Int) (l2 : Int) (M : AmM) : Option (AmV × AmM) := amRun (amStep amGst (amD amGst d) cdX12_expression) (138, [vR 12 12 0, vI l1, vI l2], [], M)
noncomputable def e_X12_expression_145 (d : Nat) (l1 : Int) (l2 : Int) (M : AmM) : Option (AmV × AmM) := amRun (amStep amGst (amD amGst d) cdX12_expression) (145, [vR 12 12 0, vI l1, vI l2], [], M)
noncomputable def e_X12_expression_181 (d : Nat) (l1 : Int) (l2 : Int) (M : AmM) : Option (AmV × AmM) := amRun (amStep amGst (amD amGst d) cdX12_expression) (181, [vR 12 12 0, vI l1, vI l2], [], M)
noncomputable def e_X12_expression_265 (d : Nat) (l1 : Int) (l2 : Int) (M : AmM) : Option (AmV × AmM) := amRun (amStep amGst (amD amGst d) cdX12_expression) (265, [vR 12 12 0, vI l1, vI l2], [], M)
theorem q_X12_expression_0 (d : Nat) (M : AmM) : e_X12_expression_0 d M =
    e_X12_expression_12 d ((amUp M 12 0 44 0) 12 0 12) 1 (amUp M 12 0 44 0) := by
  show amRun _ _ = _
  exact amRun_b 8 (x := .inl (12, [vR 12 12 0, vI ((amUp M 12 0 44 0) 12 0 12), vI 1], [], amUp M 12 0 44 0)) rfl
theorem q_X12_expression_12 (d : Nat) (l1 : Int) (l2 : Int) (M : AmM) : e_X12_expression_12 d l1 l2 M =
    if l2 = 0 then (some (vU, M)) else (if M 12 0 13 = 0 then (e_X12_expression_23 d l1 l2 M) else (some (vU, M))) := by
  show amRun _ _ = _
  refine (amRun_t (f := amStep amGst (amD amGst d) cdX12_expression) 1 (x := if l2 = 0 then .inl (272, [vR 12 12 0, vI l1, vI l2], [], M) else .inl (16, [vR 12 12 0, vI l1, vI l2], [], M)) rfl).trans (amK_if ?_ ?_)
  · exact amRun_b 1 (x := .inr (some (vU, M))) rfl
  · refine (amRun_t (f := amStep amGst (amD amGst d) cdX12_expression) 2 (x := if M 12 0 13 = 0 then .inl (23, [vR 12 12 0, vI l1, vI l2], [], M) else .inl (272, [vR 12 12 0, vI l1, vI l2], [], M)) rfl).trans (amK_if ?_ ?_)
    · exact amRun_b 0 (x := .inl (23, [vR 12 12 0, vI l1, vI l2], [], M)) rfl
    · exact amRun_b 1 (x := .inr (some (vU, M))) rfl
theorem q_X12_expression_23 (d : Nat) (l1 : Int) (l2 : Int) (M : AmM) : e_X12_expression_23 d l1 l2 M =
    amCI (amD amGst d 158 [vR 12 12 0, vI 6] M) fun v1 M1 => if v1 = 0 then (amCV (amD amGst d 177 [vR 12 12 0] M1) fun M2 => if 0 < M2 12 0 13 then (some (vU, M2)) else (e_X12_expression_96 d l1 l2 M2)) else (if M1 12 0 12 = 6 then (amCV (amD amGst d 159 [vR 12 12 0, vI 2] M1) fun M3 => e_X12_expression_46 d l1 l2 M3) else (e_X12_expression_46 d l1 l2 M1)) := by
  show amRun _ _ = _
  refine (amRun_t (f := amStep amGst (amD amGst d) cdX12_expression) 2 (x := amPu 1 (amD amGst d 158 [vR 12 12 0, vI 6] M) (fun z9 M9 => .inl (29, [vR 12 12 0, vI l1, vI l2], z9 ++ [], M9))) rfl).trans (amK_pI fun v1 M1 => ?_)
  refine (amRun_t (f := amStep amGst (amD amGst d) cdX12_expression) 0 (x := if v1 = 0 then .inl (84, [vR 12 12 0, vI l1, vI l2], [], M1) else .inl (32, [vR 12 12 0, vI l1, vI l2], [], M1)) rfl).trans (amK_if ?_ ?_)
  · refine (amRun_t (f := amStep amGst (amD amGst d) cdX12_expression) 1 (x := amPu 0 (amD amGst d 177 [vR 12 12 0] M1) (fun z9 M9 => .inl (88, [vR 12 12 0, vI l1, vI l2], z9 ++ [], M9))) rfl).trans (amK_pV fun M2 => ?_)
    refine (amRun_t (f := amStep amGst (amD amGst d) cdX12_expression) 2 (x := if 0 < M2 12 0 13 then .inl (95, [vR 12 12 0, vI l1, vI l2], [], M2) else .inl (96, [vR 12 12 0, vI l1, vI l2], [], M2)) rfl).trans (amK_if ?_ ?_)
    · exact amRun_b 1 (x := .inr (some (vU, M2))) rfl
    · exact amRun_b 0 (x := .inl (96, [vR 12 12 0, vI l1, vI l2], [], M2)) rfl
  · refine (amRun_t (f := amStep amGst (amD amGst d) cdX12_expression) 3 (x := if M1 12 0 12 = 6 then .inl (41, [vR 12 12 0, vI l1, vI l2], [], M1) else .inl (46, [vR 12 12 0, vI l1, vI l2], [], M1)) rfl).trans (amK_if ?_ ?_)
    · refine (amRun_t (f := amStep amGst (amD amGst d) cdX12_expression) 2 (x := amPu 0 (amD amGst d 159 [vR 12 12 0, vI 2] M1) (fun z9 M9 => .inl (46, [vR 12 12 0, vI l1, vI l2], z9 ++ [], M9))) rfl).trans (amK_pV fun M3 => ?_)
      exact amRun_b 0 (x := .inl (46, [vR 12 12 0, vI l1, vI l2], [], M3)) rfl
    · exact amRun_b 0 (x := .inl (46, [vR 12 12 0, vI l1, vI l2], [], M1)) rfl
theorem q_X12_expression_46 (d : Nat) (l1 : Int) (l2 : Int) (M : AmM) : e_X12_expression_46 d l1 l2 M =
    amCV (amD amGst d 161 [vR 12 12 0] (amUp M 12 0 12 (w32 ((M 12 0 12) + 1)))) fun M1 => if (0 : Int) ≤ M1 12 0 44 ∧ M1 12 0 44 < 64 then (e_X12_expression_81 d l1 l2 (amUp (amUp M1 156 0 (M1 12 0 44).toNat 6) 12 0 44 (w32 (((amUp M1 156 0 (M1 12 0 44).toNat 6) 12 0 44) + 1)))) else none := by
  show amRun _ _ = _
  refine (amRun_t (f := amStep amGst (amD amGst d) cdX12_expression) 7 (x := amPu 0 (amD amGst d 161 [vR 12 12 0] (amUp M 12 0 12 (w32 ((M 12 0 12) + 1)))) (fun z9 M9 => .inl (60, [vR 12 12 0, vI l1, vI l2], z9 ++ [], M9))) rfl).trans (amK_pV fun M1 => ?_)
  refine (amRun_t (f := amStep amGst (amD amGst d) cdX12_expression) 5 (x := if (0 : Int) ≤ M1 12 0 44 ∧ M1 12 0 44 < 64 then .inl (71, [vR 12 12 0, vI l1, vI l2], [], amUp M1 156 0 (M1 12 0 44).toNat 6) else amNo) rfl).trans (amK_if ?_ rfl)
  exact amRun_b 6 (x := .inl (81, [vR 12 12 0, vI l1, vI l2], [], amUp (amUp M1 156 0 (M1 12 0 44).toNat 6) 12 0 44 (w32 (((amUp M1 156 0 (M1 12 0 44).toNat 6) 12 0 44) + 1)))) rfl
theorem q_X12_expression_81 (d : Nat) (l1 : Int) (l2 : Int) (M : AmM) : e_X12_expression_81 d l1 l2 M =
    e_X12_expression_23 d l1 l2 M := by
  show amRun _ _ = _
  exact amRun_b 1 (x := .inl (23, [vR 12 12 0, vI l1, vI l2], [], M)) rfl
theorem q_X12_expression_96 (d : Nat) (l1 : Int) (l2 : Int) (M : AmM) : e_X12_expression_96 d l1 l2 M =
    amCI (amD amGst d 158 [vR 12 12 0, vI 7] M) fun v1 M1 => if v1 = 0 then (e_X12_expression_145 d l1 l2 M1) else (if l1 < M1 12 0 12 then (amCV (amD amGst d 175 [vR 12 12 0, vI 0] M1) fun M2 => e_X12_expression_138 d l1 l2 (amUp (amUp M2 12 0 44 (w32 ((M2 12 0 44) - 1))) 12 0 12 (w32 (((amUp M2 12 0 44 (w32 ((M2 12 0 44) - 1))) 12 0 12) - 1)))) else (e_X12_expression_145 d l1 l2 M1)) := by
  show amRun _ _ = _
  refine (amRun_t (f := amStep amGst (amD amGst d) cdX12_expression) 2 (x := amPu 1 (amD amGst d 158 [vR 12 12 0, vI 7] M) (fun z9 M9 => .inl (102, [vR 12 12 0, vI l1, vI l2], z9 ++ [], M9))) rfl).trans (amK_pI fun v1 M1 => ?_)
  refine (amRun_t (f := amStep amGst (amD amGst d) cdX12_expression) 0 (x := if v1 = 0 then .inl (145, [vR 12 12 0, vI l1, vI l2], [], M1) else .inl (105, [vR 12 12 0, vI l1, vI l2], [], M1)) rfl).trans (amK_if ?_ ?_)
  · exact amRun_b 0 (x := .inl (145, [vR 12 12 0, vI l1, vI l2], [], M1)) rfl
  · refine (amRun_t (f := amStep amGst (amD amGst d) cdX12_expression) 3 (x := if l1 < M1 12 0 12 then .inl (113, [vR 12 12 0, vI l1, vI l2], [], M1) else .inl (145, [vR 12 12 0, vI l1, vI l2], [], M1)) rfl).trans (amK_if ?_ ?_)
    · refine (amRun_t (f := amStep amGst (amD amGst d) cdX12_expression) 2 (x := amPu 0 (amD amGst d 175 [vR 12 12 0, vI 0] M1) (fun z9 M9 => .inl (118, [vR 12 12 0, vI l1, vI l2], z9 ++ [], M9))) rfl).trans (amK_pV fun M2 => ?_)
      exact amRun_b 12 (x := .inl (138, [vR 12 12 0, vI l1, vI l2], [], amUp (amUp M2 12 0 44 (w32 ((M2 12 0 44) - 1))) 12 0 12 (w32 (((amUp M2 12 0 44 (w32 ((M2 12 0 44) - 1))) 12 0 12) - 1)))) rfl
    · exact amRun_b 0 (x := .inl (145, [vR 12 12 0, vI l1, vI l2], [], M1)) rfl
theorem q_X12_expression_138 (d : Nat) (l1 : Int) (l2 : Int) (M : AmM) : e_X12_expression_138 d l1 l2 M =
    amCV (amD amGst d 161 [vR 12 12 0] M) fun M1 => e_X12_expression_96 d l1 l2 M1 := by
  show amRun _ _ = _
  refine (amRun_t (f := amStep amGst (amD amGst d) cdX12_expression) 1 (x := amPu 0 (amD amGst d 161 [vR 12 12 0] M) (fun z9 M9 => .inl (142, [vR 12 12 0, vI l1, vI l2], z9 ++ [], M9))) rfl).trans (amK_pV fun M1 => ?_)
  exact amRun_b 1 (x := .inl (96, [vR 12 12 0, vI l1, vI l2], [], M1)) rfl
theorem q_X12_expression_145 (d : Nat) (l1 : Int) (l2 : Int) (M : AmM) : e_X12_expression_145 d l1 l2 M =
    amCI (amD amGst d 158 [vR 12 12 0, vI 8] M) fun v1 M1 => if v1 = 0 then (amCI (amD amGst d 158 [vR 12 12 0, vI 9] M1) fun v2 M2 => if v2 = 0 then (amCI (amD amGst d 158 [vR 12 12 0, vI 10] M2) fun v3 M3 => if v3 = 0 then (amCI (amD amGst d 158 [vR 12 12 0, vI 15] M3) fun v4 M4 => if v4 = 0 then (if (0 : Int) = 0 then (if l1 < M4 12 0 12 then (amCV (amD amGst d 159 [vR 12 12 0, vI 1] M4) fun M5 => amCV (amD amGst d 175 [vR 12 12 0, vI 0] M5) fun M6 => some (vU, M6)) else (amCV (amD amGst d 175 [vR 12 12 0, vI 0] M4) fun M7 => some (vU, M7))) else (amCI (amD amGst d 158 [vR 12 12 0, vI 10] M4) fun v8 M8 => if v8 = 0 then (amCI (amD amGst d 158 [vR 12 12 0, vI 15] M8) fun v9 M9 => if v9 = 0 then (amCV (amD amGst d 175 [vR 12 12 0, vI 0] M9) fun M10 => if (0 : Int) ≤ M10 12 0 11 ∧ M10 12 0 11 < 403 then (if (0 : Int) ≤ M10 12 0 44 ∧ M10 12 0 44 < 64 then (e_X12_expression_265 d l1 0 (amUp (amUp M10 156 0 (M10 12 0 44).toNat (M10 131 0 (M10 12 0 11).toNat)) 12 0 44 (w32 (((amUp M10 156 0 (M10 12 0 44).toNat (M10 131 0 (M10 12 0 11).toNat)) 12 0 44) + 1)))) else none) else none) else (amCV (amD amGst d 175 [vR 12 12 0, vI 1] M9) fun M11 => if (0 : Int) ≤ M11 12 0 11 ∧ M11 12 0 11 < 403 then (if (0 : Int) ≤ M11 12 0 44 ∧ M11 12 0 44 < 64 then (e_X12_expression_265 d l1 0 (amUp (amUp M11 156 0 (M11 12 0 44).toNat (M11 131 0 (M11 12 0 11).toNat)) 12 0 44 (w32 (((amUp M11 156 0 (M11 12 0 44).toNat (M11 131 0 (M11 12 0 11).toNat)) 12 0 44) + 1)))) else none) else none)) else (amCV (amD amGst d 175 [vR 12 12 0, vI 1] M8) fun M12 => if (0 : Int) ≤ M12 12 0 11 ∧ M12 12 0 11 < 403 then (if (0 : Int) ≤ M12 12 0 44 ∧ M12 12 0 44 < 64 then (e_X12_expression_265 d l1 0 (amUp (amUp M12 156 0 (M12 12 0 44).toNat (M12 131 0 (M12 12 0 11).toNat)) 12 0 44 (w32 (((amUp M12 156 0 (M12 12 0 44).toNat (M12 131 0 (M12 12 0 11).toNat)) 12 0 44) + 1)))) else none) else none))) else (e_X12_expression_181 d l1 l2 M4)) else (e_X12_expression_181 d l1 l2 M3)) else (e_X12_expression_181 d l1 l2 M2)) else (e_X12_expression_181 d l1 l2 M1) := by
  show amRun _ _ = _
  refine (amRun_t (f := amStep amGst (amD amGst d) cdX12_expression) 2 (x := amPu 1 (amD amGst d 158 [vR 12 12 0, vI 8] M) (fun z9 M9 => .inl (151, [vR 12 12 0, vI l1, vI l2], z9 ++ [], M9))) rfl).trans (amK_pI fun v1 M1 => ?_)
  refine (amRun_t (f := amStep amGst (amD amGst d) cdX12_expression) 0 (x := if v1 = 0 then .inl (154, [vR 12 12 0, vI l1, vI l2], [], M1) else .inl (181, [vR 12 12 0, vI l1, vI l2], [], M1)) rfl).trans (amK_if ?_ ?_)
  · refine (amRun_t (f := amStep amGst (amD amGst d) cdX12_expression) 2 (x := amPu 1 (amD amGst d 158 [vR 12 12 0, vI 9] M1) (fun z9 M9 => .inl (160, [vR 12 12 0, vI l1, vI l2], z9 ++ [], M9))) rfl).trans (amK_pI fun v2 M2 => ?_)
    refine (amRun_t (f := amStep amGst (amD amGst d) cdX12_expression) 0 (x := if v2 = 0 then .inl (163, [vR 12 12 0, vI l1, vI l2], [], M2) else .inl (181, [vR 12 12 0, vI l1, vI l2], [], M2)) rfl).trans (amK_if ?_ ?_)
    · refine (amRun_t (f := amStep amGst (amD amGst d) cdX12_expression) 2 (x := amPu 1 (amD amGst d 158 [vR 12 12 0, vI 10] M2) (fun z9 M9 => .inl (169, [vR 12 12 0, vI l1, vI l2], z9 ++ [], M9))) rfl).trans (amK_pI fun v3 M3 => ?_)
      refine (amRun_t (f := amStep amGst (amD amGst d) cdX12_expression) 0 (x := if v3 = 0 then .inl (172, [vR 12 12 0, vI l1, vI l2], [], M3) else .inl (181, [vR 12 12 0, vI l1, vI l2], [], M3)) rfl).trans (amK_if ?_ ?_)
      · refine (amRun_t (f := amStep amGst (amD amGst d) cdX12_expression) 2 (x := amPu 1 (amD amGst d 158 [vR 12 12 0, vI 15] M3) (fun z9 M9 => .inl (178, [vR 12 12 0, vI l1, vI l2], z9 ++ [], M9))) rfl).trans (amK_pI fun v4 M4 => ?_)
        refine (amRun_t (f := amStep amGst (amD amGst d) cdX12_expression) 0 (x := if v4 = 0 then .inl (185, [vR 12 12 0, vI l1, vI l2], [], M4) else .inl (181, [vR 12 12 0, vI l1, vI l2], [], M4)) rfl).trans (amK_if ?_ ?_)
        · refine (amRun_t (f := amStep amGst (amD amGst d) cdX12_expression) 3 (x := if (0 : Int) = 0 then .inl (191, [vR 12 12 0, vI l1, vI 0], [], M4) else .inl (210, [vR 12 12 0, vI l1, vI 0], [], M4)) rfl).trans (amK_if ?_ ?_)
          · refine (amRun_t (f := amStep amGst (amD amGst d) cdX12_expression) 3 (x := if l1 < M4 12 0 12 then .inl (199, [vR 12 12 0, vI l1, vI 0], [], M4) else .inl (204, [vR 12 12 0, vI l1, vI 0], [], M4)) rfl).trans (amK_if ?_ ?_)
            · refine (amRun_t (f := amStep amGst (amD amGst d) cdX12_expression) 2 (x := amPu 0 (amD amGst d 159 [vR 12 12 0, vI 1] M4) (fun z9 M9 => .inl (204, [vR 12 12 0, vI l1, vI 0], z9 ++ [], M9))) rfl).trans (amK_pV fun M5 => ?_)
              refine (amRun_t (f := amStep amGst (amD amGst d) cdX12_expression) 2 (x := amPu 0 (amD amGst d 175 [vR 12 12 0, vI 0] M5) (fun z9 M9 => .inl (209, [vR 12 12 0, vI l1, vI 0], z9 ++ [], M9))) rfl).trans (amK_pV fun M6 => ?_)
              exact amRun_b 1 (x := .inr (some (vU, M6))) rfl
            · refine (amRun_t (f := amStep amGst (amD amGst d) cdX12_expression) 2 (x := amPu 0 (amD amGst d 175 [vR 12 12 0, vI 0] M4) (fun z9 M9 => .inl (209, [vR 12 12 0, vI l1, vI 0], z9 ++ [], M9))) rfl).trans (amK_pV fun M7 => ?_)
              exact amRun_b 1 (x := .inr (some (vU, M7))) rfl
          · refine (amRun_t (f := amStep amGst (amD amGst d) cdX12_expression) 3 (x := amPu 1 (amD amGst d 158 [vR 12 12 0, vI 10] M4) (fun z9 M9 => .inl (217, [vR 12 12 0, vI l1, vI 0], z9 ++ [vR 12 12 0], M9))) rfl).trans (amK_pI fun v8 M8 => ?_)
            refine (amRun_t (f := amStep amGst (amD amGst d) cdX12_expression) 0 (x := if v8 = 0 then .inl (220, [vR 12 12 0, vI l1, vI 0], [vR 12 12 0], M8) else .inl (229, [vR 12 12 0, vI l1, vI 0], [vR 12 12 0], M8)) rfl).trans (amK_if ?_ ?_)
            · refine (amRun_t (f := amStep amGst (amD amGst d) cdX12_expression) 2 (x := amPu 1 (amD amGst d 158 [vR 12 12 0, vI 15] M8) (fun z9 M9 => .inl (226, [vR 12 12 0, vI l1, vI 0], z9 ++ [vR 12 12 0], M9))) rfl).trans (amK_pI fun v9 M9 => ?_)
              refine (amRun_t (f := amStep amGst (amD amGst d) cdX12_expression) 0 (x := if v9 = 0 then .inl (233, [vR 12 12 0, vI l1, vI 0], [vR 12 12 0], M9) else .inl (229, [vR 12 12 0, vI l1, vI 0], [vR 12 12 0], M9)) rfl).trans (amK_if ?_ ?_)
              · refine (amRun_t (f := amStep amGst (amD amGst d) cdX12_expression) 1 (x := amPu 0 (amD amGst d 175 [vR 12 12 0, vI 0] M9) (fun z9 M9 => .inl (237, [vR 12 12 0, vI l1, vI 0], z9 ++ [], M9))) rfl).trans (amK_pV fun M10 => ?_)
                refine (amRun_t (f := amStep amGst (amD amGst d) cdX12_expression) 8 (x := if (0 : Int) ≤ M10 12 0 11 ∧ M10 12 0 11 < 403 then .inl (254, [vR 12 12 0, vI l1, vI 0], [vI (M10 131 0 (M10 12 0 11).toNat), vI (M10 12 0 44), vR 20 156 0], M10) else amNo) rfl).trans (amK_if ?_ rfl)
                refine (amRun_t (f := amStep amGst (amD amGst d) cdX12_expression) 0 (x := if (0 : Int) ≤ M10 12 0 44 ∧ M10 12 0 44 < 64 then .inl (255, [vR 12 12 0, vI l1, vI 0], [], amUp M10 156 0 (M10 12 0 44).toNat (M10 131 0 (M10 12 0 11).toNat)) else amNo) rfl).trans (amK_if ?_ rfl)
                exact amRun_b 6 (x := .inl (265, [vR 12 12 0, vI l1, vI 0], [], amUp (amUp M10 156 0 (M10 12 0 44).toNat (M10 131 0 (M10 12 0 11).toNat)) 12 0 44 (w32 (((amUp M10 156 0 (M10 12 0 44).toNat (M10 131 0 (M10 12 0 11).toNat)) 12 0 44) + 1)))) rfl
              · refine (amRun_t (f := amStep amGst (amD amGst d) cdX12_expression) 2 (x := amPu 0 (amD amGst d 175 [vR 12 12 0, vI 1] M9) (fun z9 M9 => .inl (237, [vR 12 12 0, vI l1, vI 0], z9 ++ [], M9))) rfl).trans (amK_pV fun M11 => ?_)
                refine (amRun_t (f := amStep amGst (amD amGst d) cdX12_expression) 8 (x := if (0 : Int) ≤ M11 12 0 11 ∧ M11 12 0 11 < 403 then .inl (254, [vR 12 12 0, vI l1, vI 0], [vI (M11 131 0 (M11 12 0 11).toNat), vI (M11 12 0 44), vR 20 156 0], M11) else amNo) rfl).trans (amK_if ?_ rfl)
                refine (amRun_t (f := amStep amGst (amD amGst d) cdX12_expression) 0 (x := if (0 : Int) ≤ M11 12 0 44 ∧ M11 12 0 44 < 64 then .inl (255, [vR 12 12 0, vI l1, vI 0], [], amUp M11 156 0 (M11 12 0 44).toNat (M11 131 0 (M11 12 0 11).toNat)) else amNo) rfl).trans (amK_if ?_ rfl)
                exact amRun_b 6 (x := .inl (265, [vR 12 12 0, vI l1, vI 0], [], amUp (amUp M11 156 0 (M11 12 0 44).toNat (M11 131 0 (M11 12 0 11).toNat)) 12 0 44 (w32 (((amUp M11 156 0 (M11 12 0 44).toNat (M11 131 0 (M11 12 0 11).toNat)) 12 0 44) + 1)))) rfl
            · refine (amRun_t (f := amStep amGst (amD amGst d) cdX12_expression) 2 (x := amPu 0 (amD amGst d 175 [vR 12 12 0, vI 1] M8) (fun z9 M9 => .inl (237, [vR 12 12 0, vI l1, vI 0], z9 ++ [], M9))) rfl).trans (amK_pV fun M12 => ?_)
              refine (amRun_t (f := amStep amGst (amD amGst d) cdX12_expression) 8 (x := if (0 : Int) ≤ M12 12 0 11 ∧ M12 12 0 11 < 403 then .inl (254, [vR 12 12 0, vI l1, vI 0], [vI (M12 131 0 (M12 12 0 11).toNat), vI (M12 12 0 44), vR 20 156 0], M12) else amNo) rfl).trans (amK_if ?_ rfl)
              refine (amRun_t (f := amStep amGst (amD amGst d) cdX12_expression) 0 (x := if (0 : Int) ≤ M12 12 0 44 ∧ M12 12 0 44 < 64 then .inl (255, [vR 12 12 0, vI l1, vI 0], [], amUp M12 156 0 (M12 12 0 44).toNat (M12 131 0 (M12 12 0 11).toNat)) else amNo) rfl).trans (amK_if ?_ rfl)
              exact amRun_b 6 (x := .inl (265, [vR 12 12 0, vI l1, vI 0], [], amUp (amUp M12 156 0 (M12 12 0 44).toNat (M12 131 0 (M12 12 0 11).toNat)) 12 0 44 (w32 (((amUp M12 156 0 (M12 12 0 44).toNat (M12 131 0 (M12 12 0 11).toNat)) 12 0 44) + 1)))) rfl
        · exact amRun_b 0 (x := .inl (181, [vR 12 12 0, vI l1, vI l2], [], M4)) rfl
      · exact amRun_b 0 (x := .inl (181, [vR 12 12 0, vI l1, vI l2], [], M3)) rfl
    · exact amRun_b 0 (x := .inl (181, [vR 12 12 0, vI l1, vI l2], [], M2)) rfl
  · exact amRun_b 0 (x := .inl (181, [vR 12 12 0, vI l1, vI l2], [], M1)) rfl
theorem q_X12_expression_181 (d : Nat) (l1 : Int) (l2 : Int) (M : AmM) : e_X12_expression_181 d l1 l2 M =
    if (1 : Int) = 0 then (if l1 < M 12 0 12 then (amCV (amD amGst d 159 [vR 12 12 0, vI 1] M) fun M1 => amCV (amD amGst d 175 [vR 12 12 0, vI 0] M1) fun M2 => some (vU, M2)) else (amCV (amD amGst d 175 [vR 12 12 0, vI 0] M) fun M3 => some (vU, M3))) else (amCI (amD amGst d 158 [vR 12 12 0, vI 10] M) fun v4 M4 => if v4 = 0 then (amCI (amD amGst d 158 [vR 12 12 0, vI 15] M4) fun v5 M5 => if v5 = 0 then (amCV (amD amGst d 175 [vR 12 12 0, vI 0] M5) fun M6 => if (0 : Int) ≤ M6 12 0 11 ∧ M6 12 0 11 < 403 then (if (0 : Int) ≤ M6 12 0 44 ∧ M6 12 0 44 < 64 then (e_X12_expression_265 d l1 1 (amUp (amUp M6 156 0 (M6 12 0 44).toNat (M6 131 0 (M6 12 0 11).toNat)) 12 0 44 (w32 (((amUp M6 156 0 (M6 12 0 44).toNat (M6 131 0 (M6 12 0 11).toNat)) 12 0 44) + 1)))) else none) else none) else (amCV (amD amGst d 175 [vR 12 12 0, vI 1] M5) fun M7 => if (0 : Int) ≤ M7 12 0 11 ∧ M7 12 0 11 < 403 then (if (0 : Int) ≤ M7 12 0 44 ∧ M7 12 0 44 < 64 then (e_X12_expression_265 d l1 1 (amUp (amUp M7 156 0 (M7 12 0 44).toNat (M7 131 0 (M7 12 0 11).toNat)) 12 0 44 (w32 (((amUp M7 156 0 (M7 12 0 44).toNat (M7 131 0 (M7 12 0 11).toNat)) 12 0 44) + 1)))) else none) else none)) else (amCV (amD amGst d 175 [vR 12 12 0, vI 1] M4) fun M8 => if (0 : Int) ≤ M8 12 0 11 ∧ M8 12 0 11 < 403 then (if (0 : Int) ≤ M8 12 0 44 ∧ M8 12 0 44 < 64 then (e_X12_expression_265 d l1 1 (amUp (amUp M8 156 0 (M8 12 0 44).toNat (M8 131 0 (M8 12 0 11).toNat)) 12 0 44 (w32 (((amUp M8 156 0 (M8 12 0 44).toNat (M8 131 0 (M8 12 0 11).toNat)) 12 0 44) + 1)))) else none) else none)) := by
  show amRun _ _ = _
  refine (amRun_t (f := amStep amGst (amD amGst d) cdX12_expression) 4 (x := if (1 : Int) = 0 then .inl (191, [vR 12 12 0, vI l1, vI 1], [], M) else .inl (210, [vR 12 12 0, vI l1, vI 1], [], M)) rfl).trans (amK_if ?_ ?_)
  · refine (amRun_t (f := amStep amGst (amD amGst d) cdX12_expression) 3 (x := if l1 < M 12 0 12 then .inl (199, [vR 12 12 0, vI l1, vI 1], [], M) else .inl (204, [vR 12 12 0, vI l1, vI 1], [], M)) rfl).trans (amK_if ?_ ?_)
    · refine (amRun_t (f := amStep amGst (amD amGst d) cdX12_expression) 2 (x := amPu 0 (amD amGst d 159 [vR 12 12 0, vI 1] M) (fun z9 M9 => .inl (204, [vR 12 12 0, vI l1, vI 1], z9 ++ [], M9))) rfl).trans (amK_pV fun M1 => ?_)
      refine (amRun_t (f := amStep amGst (amD amGst d) cdX12_expression) 2 (x := amPu 0 (amD amGst d 175 [vR 12 12 0, vI 0] M1) (fun z9 M9 => .inl (209, [vR 12 12 0, vI l1, vI 1], z9 ++ [], M9))) rfl).trans (amK_pV fun M2 => ?_)
      exact amRun_b 1 (x := .inr (some (vU, M2))) rfl
    · refine (amRun_t (f := amStep amGst (amD amGst d) cdX12_expression) 2 (x := amPu 0 (amD amGst d 175 [vR 12 12 0, vI 0] M) (fun z9 M9 => .inl (209, [vR 12 12 0, vI l1, vI 1], z9 ++ [], M9))) rfl).trans (amK_pV fun M3 => ?_)
      exact amRun_b 1 (x := .inr (some (vU, M3))) rfl
  · refine (amRun_t (f := amStep amGst (amD amGst d) cdX12_expression) 3 (x := amPu 1 (amD amGst d 158 [vR 12 12 0, vI 10] M) (fun z9 M9 => .inl (217, [vR 12 12 0, vI l1, vI 1], z9 ++ [vR 12 12 0], M9))) rfl).trans (amK_pI fun v4 M4 => ?_)
    refine (amRun_t (f := amStep amGst (amD amGst d) cdX12_expression) 0 (x := if v4 = 0 then .inl (220, [vR 12 12 0, vI l1, vI 1], [vR 12 12 0], M4) else .inl (229, [vR 12 12 0, vI l1, vI 1], [vR 12 12 0], M4)) rfl).trans (amK_if ?_ ?_)
    · refine (amRun_t (f := amStep amGst (amD amGst d) cdX12_expression) 2 (x := amPu 1 (amD amGst d 158 [vR 12 12 0, vI 15] M4) (fun z9 M9 => .inl (226, [vR 12 12 0, vI l1, vI 1], z9 ++ [vR 12 12 0], M9))) rfl).trans (amK_pI fun v5 M5 => ?_)
      refine (amRun_t (f := amStep amGst (amD amGst d) cdX12_expression) 0 (x := if v5 = 0 then .inl (233, [vR 12 12 0, vI l1, vI 1], [vR 12 12 0], M5) else .inl (229, [vR 12 12 0, vI l1, vI 1], [vR 12 12 0], M5)) rfl).trans (amK_if ?_ ?_)
      · refine (amRun_t (f := amStep amGst (amD amGst d) cdX12_expression) 1 (x := amPu 0 (amD amGst d 175 [vR 12 12 0, vI 0] M5) (fun z9 M9 => .inl (237, [vR 12 12 0, vI l1, vI 1], z9 ++ [], M9))) rfl).trans (amK_pV fun M6 => ?_)
        refine (amRun_t (f := amStep amGst (amD amGst d) cdX12_expression) 8 (x := if (0 : Int) ≤ M6 12 0 11 ∧ M6 12 0 11 < 403 then .inl (254, [vR 12 12 0, vI l1, vI 1], [vI (M6 131 0 (M6 12 0 11).toNat), vI (M6 12 0 44), vR 20 156 0], M6) else amNo) rfl).trans (amK_if ?_ rfl)
        refine (amRun_t (f := amStep amGst (amD amGst d) cdX12_expression) 0 (x := if (0 : Int) ≤ M6 12 0 44 ∧ M6 12 0 44 < 64 then .inl (255, [vR 12 12 0, vI l1, vI 1], [], amUp M6 156 0 (M6 12 0 44).toNat (M6 131 0 (M6 12 0 11).toNat)) else amNo) rfl).trans (amK_if ?_ rfl)
        exact amRun_b 6 (x := .inl (265, [vR 12 12 0, vI l1, vI 1], [], amUp (amUp M6 156 0 (M6 12 0 44).toNat (M6 131 0 (M6 12 0 11).toNat)) 12 0 44 (w32 (((amUp M6 156 0 (M6 12 0 44).toNat (M6 131 0 (M6 12 0 11).toNat)) 12 0 44) + 1)))) rfl
      · refine (amRun_t (f := amStep amGst (amD amGst d) cdX12_expression) 2 (x := amPu 0 (amD amGst d 175 [vR 12 12 0, vI 1] M5) (fun z9 M9 => .inl (237, [vR 12 12 0, vI l1, vI 1], z9 ++ [], M9))) rfl).trans (amK_pV fun M7 => ?_)
        refine (amRun_t (f := amStep amGst (amD amGst d) cdX12_expression) 8 (x := if (0 : Int) ≤ M7 12 0 11 ∧ M7 12 0 11 < 403 then .inl (254, [vR 12 12 0, vI l1, vI 1], [vI (M7 131 0 (M7 12 0 11).toNat), vI (M7 12 0 44), vR 20 156 0], M7) else amNo) rfl).trans (amK_if ?_ rfl)
        refine (amRun_t (f := amStep amGst (amD amGst d) cdX12_expression) 0 (x := if (0 : Int) ≤ M7 12 0 44 ∧ M7 12 0 44 < 64 then .inl (255, [vR 12 12 0, vI l1, vI 1], [], amUp M7 156 0 (M7 12 0 44).toNat (M7 131 0 (M7 12 0 11).toNat)) else amNo) rfl).trans (amK_if ?_ rfl)
        exact amRun_b 6 (x := .inl (265, [vR 12 12 0, vI l1, vI 1], [], amUp (amUp M7 156 0 (M7 12 0 44).toNat (M7 131 0 (M7 12 0 11).toNat)) 12 0 44 (w32 (((amUp M7 156 0 (M7 12 0 44).toNat (M7 131 0 (M7 12 0 11).toNat)) 12 0 44) + 1)))) rfl
    · refine (amRun_t (f := amStep amGst (amD amGst d) cdX12_expression) 2 (x := amPu 0 (amD amGst d 175 [vR 12 12 0, vI 1] M4) (fun z9 M9 => .inl (237, [vR 12 12 0, vI l1, vI 1], z9 ++ [], M9))) rfl).trans (amK_pV fun M8 => ?_)
      refine (amRun_t (f := amStep amGst (amD amGst d) cdX12_expression) 8 (x := if (0 : Int) ≤ M8 12 0 11 ∧ M8 12 0 11 < 403 then .inl (254, [vR 12 12 0, vI l1, vI 1], [vI (M8 131 0 (M8 12 0 11).toNat), vI (M8 12 0 44), vR 20 156 0], M8) else amNo) rfl).trans (amK_if ?_ rfl)
      refine (amRun_t (f := amStep amGst (amD amGst d) cdX12_expression) 0 (x := if (0 : Int) ≤ M8 12 0 44 ∧ M8 12 0 44 < 64 then .inl (255, [vR 12 12 0, vI l1, vI 1], [], amUp M8 156 0 (M8 12 0 44).toNat (M8 131 0 (M8 12 0 11).toNat)) else amNo) rfl).trans (amK_if ?_ rfl)
      exact amRun_b 6 (x := .inl (265, [vR 12 12 0, vI l1, vI 1], [], amUp (amUp M8 156 0 (M8 12 0 44).toNat (M8 131 0 (M8 12 0 11).toNat)) 12 0 44 (w32 (((amUp M8 156 0 (M8 12 0 44).toNat (M8 131 0 (M8 12 0 11).toNat)) 12 0 44) + 1)))) rfl
theorem q_X12_expression_265 (d : Nat) (l1 : Int) (l2 : Int) (M : AmM) : e_X12_expression_265 d l1 l2 M =
    amCV (amD amGst d 161 [vR 12 12 0] M) fun M1 => e_X12_expression_12 d l1 l2 M1 := by
  show amRun _ _ = _
  refine (amRun_t (f := amStep amGst (amD amGst d) cdX12_expression) 1 (x := amPu 0 (amD amGst d 161 [vR 12 12 0] M) (fun z9 M9 => .inl (269, [vR 12 12 0, vI l1, vI l2], z9 ++ [], M9))) rfl).trans (amK_pV fun M1 => ?_)
  exact amRun_b 1 (x := .inl (12, [vR 12 12 0, vI l1, vI l2], [], M1)) rfl
theorem n_X12_expression (d : Nat) (M : AmM) : amD amGst (d + 1) 176 [vR 12 12 0] M = e_X12_expression_0 d M := rfl
noncomputable def e_X12_unit_0 (d : Nat) (M : AmM) : Option (AmV × AmM) := amRun (amStep amGst (amD amGst d) cdX12_unit) (0, [vR 12 12 0], [], M)
theorem q_X12_unit_0 (d : Nat) (M : AmM) : e_X12_unit_0 d M =
    amCI (amD amGst d 158 [vR 12 12 0, vI 2] M) fun v1 M1 => if v1 = 0 then (if M1 12 0 13 = 0 then (if (0 : Int) ≤ M1 12 0 11 ∧ M1 12 0 11 < 403 then (if M1 131 0 (M1 12 0 11).toNat < 32 then (amCV (amD amGst d 159 [vR 12 12 0, vI 1] M1) fun M2 => some (vU, M2)) else (if (0 : Int) ≤ M1 12 0 11 ∧ M1 12 0 11 < 403 then (if 38 < M1 131 0 (M1 12 0 11).toNat then (amCV (amD amGst d 159 [vR 12 12 0, vI 1] M1) fun M3 => some (vU, M3)) else (if (0 : Int) ≤ M1 12 0 11 ∧ M1 12 0 11 < 403 then (amCV (amD amGst d 174 [vR 12 12 0, vI 1, vI (w32 ((M1 131 0 (M1 12 0 11).toNat) - 32))] M1) fun M4 => amCV (amD amGst d 161 [vR 12 12 0] M4) fun M5 => some (vU, M5)) else none)) else none)) else none) else (amCV (amD amGst d 159 [vR 12 12 0, vI 1] M1) fun M6 => some (vU, M6))) else (if (0 : Int) ≤ M1 12 0 11 ∧ M1 12 0 11 < 403 then (amCV (amD amGst d 174 [vR 12 12 0, vI 0, vI (M1 133 0 (M1 12 0 11).toNat)] M1) fun M7 => amCV (amD amGst d 161 [vR 12 12 0] M7) fun M8 => some (vU, M8)) else none) := by
  show amRun _ _ = _
  refine (amRun_t (f := amStep amGst (amD amGst d) cdX12_unit) 2 (x := amPu 1 (amD amGst d 158 [vR 12 12 0, vI 2] M) (fun z9 M9 => .inl (5, [vR 12 12 0], z9 ++ [], M9))) rfl).trans (amK_pI fun v1 M1 => ?_)
  refine (amRun_t (f := amStep amGst (amD amGst d) cdX12_unit) 0 (x := if v1 = 0 then .inl (29, [vR 12 12 0], [], M1) else .inl (8, [vR 12 12 0], [], M1)) rfl).trans (amK_if ?_ ?_)
  · refine (amRun_t (f := amStep amGst (amD amGst d) cdX12_unit) 2 (x := if M1 12 0 13 = 0 then .inl (36, [vR 12 12 0], [], M1) else .inl (88, [vR 12 12 0], [], M1)) rfl).trans (amK_if ?_ ?_)
    · refine (amRun_t (f := amStep amGst (amD amGst d) cdX12_unit) 4 (x := if (0 : Int) ≤ M1 12 0 11 ∧ M1 12 0 11 < 403 then .inl (45, [vR 12 12 0], [vI (M1 131 0 (M1 12 0 11).toNat)], M1) else amNo) rfl).trans (amK_if ?_ rfl)
      refine (amRun_t (f := amStep amGst (amD amGst d) cdX12_unit) 1 (x := if M1 131 0 (M1 12 0 11).toNat < 32 then .inl (88, [vR 12 12 0], [], M1) else .inl (50, [vR 12 12 0], [], M1)) rfl).trans (amK_if ?_ ?_)
      · refine (amRun_t (f := amStep amGst (amD amGst d) cdX12_unit) 2 (x := amPu 0 (amD amGst d 159 [vR 12 12 0, vI 1] M1) (fun z9 M9 => .inl (93, [vR 12 12 0], z9 ++ [], M9))) rfl).trans (amK_pV fun M2 => ?_)
        exact amRun_b 1 (x := .inr (some (vU, M2))) rfl
      · refine (amRun_t (f := amStep amGst (amD amGst d) cdX12_unit) 4 (x := if (0 : Int) ≤ M1 12 0 11 ∧ M1 12 0 11 < 403 then .inl (59, [vR 12 12 0], [vI (M1 131 0 (M1 12 0 11).toNat)], M1) else amNo) rfl).trans (amK_if ?_ rfl)
        refine (amRun_t (f := amStep amGst (amD amGst d) cdX12_unit) 1 (x := if 38 < M1 131 0 (M1 12 0 11).toNat then .inl (88, [vR 12 12 0], [], M1) else .inl (64, [vR 12 12 0], [], M1)) rfl).trans (amK_if ?_ ?_)
        · refine (amRun_t (f := amStep amGst (amD amGst d) cdX12_unit) 2 (x := amPu 0 (amD amGst d 159 [vR 12 12 0, vI 1] M1) (fun z9 M9 => .inl (93, [vR 12 12 0], z9 ++ [], M9))) rfl).trans (amK_pV fun M3 => ?_)
          exact amRun_b 1 (x := .inr (some (vU, M3))) rfl
        · refine (amRun_t (f := amStep amGst (amD amGst d) cdX12_unit) 6 (x := if (0 : Int) ≤ M1 12 0 11 ∧ M1 12 0 11 < 403 then .inl (75, [vR 12 12 0], [vI (M1 131 0 (M1 12 0 11).toNat), vI 1, vR 12 12 0], M1) else amNo) rfl).trans (amK_if ?_ rfl)
          refine (amRun_t (f := amStep amGst (amD amGst d) cdX12_unit) 2 (x := amPu 0 (amD amGst d 174 [vR 12 12 0, vI 1, vI (w32 ((M1 131 0 (M1 12 0 11).toNat) - 32))] M1) (fun z9 M9 => .inl (81, [vR 12 12 0], z9 ++ [], M9))) rfl).trans (amK_pV fun M4 => ?_)
          refine (amRun_t (f := amStep amGst (amD amGst d) cdX12_unit) 1 (x := amPu 0 (amD amGst d 161 [vR 12 12 0] M4) (fun z9 M9 => .inl (85, [vR 12 12 0], z9 ++ [], M9))) rfl).trans (amK_pV fun M5 => ?_)
          exact amRun_b 2 (x := .inr (some (vU, M5))) rfl
    · refine (amRun_t (f := amStep amGst (amD amGst d) cdX12_unit) 2 (x := amPu 0 (amD amGst d 159 [vR 12 12 0, vI 1] M1) (fun z9 M9 => .inl (93, [vR 12 12 0], z9 ++ [], M9))) rfl).trans (amK_pV fun M6 => ?_)
      exact amRun_b 1 (x := .inr (some (vU, M6))) rfl
  · refine (amRun_t (f := amStep amGst (amD amGst d) cdX12_unit) 6 (x := if (0 : Int) ≤ M1 12 0 11 ∧ M1 12 0 11 < 403 then .inl (19, [vR 12 12 0], [vI (M1 133 0 (M1 12 0 11).toNat), vI 0, vR 12 12 0], M1) else amNo) rfl).trans (amK_if ?_ rfl)
    refine (amRun_t (f := amStep amGst (amD amGst d) cdX12_unit) 0 (x := amPu 0 (amD amGst d 174 [vR 12 12 0, vI 0, vI (M1 133 0 (M1 12 0 11).toNat)] M1) (fun z9 M9 => .inl (22, [vR 12 12 0], z9 ++ [], M9))) rfl).trans (amK_pV fun M7 => ?_)
    refine (amRun_t (f := amStep amGst (amD amGst d) cdX12_unit) 1 (x := amPu 0 (amD amGst d 161 [vR 12 12 0] M7) (fun z9 M9 => .inl (26, [vR 12 12 0], z9 ++ [], M9))) rfl).trans (amK_pV fun M8 => ?_)
    exact amRun_b 2 (x := .inr (some (vU, M8))) rfl
theorem n_X12_unit (d : Nat) (M : AmM) : amD amGst (d + 1) 177 [vR 12 12 0] M = e_X12_unit_0 d M := rfl
noncomputable def e_X12_termOf_0 (d : Nat) (l1 : Int) (l2 : Int) (M : AmM) : Option (AmV × AmM) := amRun (amStep amGst (amD amGst d) cdX12_termOf) (0, [vR 12 12 0, vI l1, vI l2, vU, vU, vU, vU, vU], [], M)
noncomputable def e_X12_termOf_5 (d : Nat) (l1 : Int) (l2 : Int) (l3 : Int) (l4 : Int) (u5 : AmV) (u6 : AmV) (u7 : AmV) (M : AmM) : Option (AmV × AmM) := amRun (amStep amGst (amD amGst d) cdX12_termOf) (5, [vR 12 12 0, vI l1, vI l2, vI l3, vI l4, u5, u6, u7], [], M)
noncomputable def e_X12_termOf_104 (d : Nat) (l1 : Int) (l2 : Int) (l3 : Int) (l4 : Int) (l5 : Int) (l6 : Int) (l7 : Int) (M : AmM) : Option (AmV × AmM) := amRun (amStep amGst (amD amGst d) cdX12_termOf) (104, [vR 12 12 0, vI l1, vI l2, vI l3, vI l4, vI l5, vI l6, vI l7], [], M)
theorem q_X12_termOf_0 (d : Nat) (l1 : Int) (l2 : Int) (M : AmM) : e_X12_termOf_0 d l1 l2 M =
    e_X12_termOf_5 d l1 l2 0 l1 vU vU vU M := by
  show amRun _ _ = _
  exact amRun_b 4 (x := .inl (5, [vR 12 12 0, vI l1, vI l2, vI 0, vI l1, vU, vU, vU], [], M)) rfl
theorem q_X12_termOf_5 (d : Nat) (l1 : Int) (l2 : Int) (l3 : Int) (l4 : Int) (u5 : AmV) (u6 : AmV) (u7 : AmV) (M : AmM) : e_X12_termOf_5 d l1 l2 l3 l4 u5 u6 u7 M =
    if l4 < l2 then (if (0 : Int) ≤ l4 ∧ l4 < 840 then (if M 154 0 (l4).toNat < 2 then (if M 154 0 (l4).toNat = 0 then (if (0 : Int) ≤ l4 ∧ l4 < 840 then (if (0 : Int) ≤ l3 ∧ l3 < 400 then (e_X12_termOf_5 d l1 l2 (w32 (l3 + 1)) (w32 (l4 + 1)) (vI (M 154 0 (l4).toNat)) u6 u7 (amUp M 158 0 (l3).toNat (M 155 0 (l4).toNat))) else none) else none) else (if (0 : Int) ≤ l4 ∧ l4 < 840 then (if (0 : Int) ≤ M 155 0 (l4).toNat ∧ M 155 0 (l4).toNat < 7 then (if (0 : Int) ≤ l3 ∧ l3 < 400 then (e_X12_termOf_5 d l1 l2 (w32 (l3 + 1)) (w32 (l4 + 1)) (vI (M 154 0 (l4).toNat)) u6 u7 (amUp M 158 0 (l3).toNat (M 157 0 (M 155 0 (l4).toNat).toNat))) else none) else none) else none)) else (if (0 : Int) ≤ w32 ((w32 (l3 + (-1))) - 1) ∧ w32 ((w32 (l3 + (-1))) - 1) < 400 then (if (0 : Int) ≤ w32 (l3 + (-1)) ∧ w32 (l3 + (-1)) < 400 then (if M 154 0 (l4).toNat = 5 then (if M 158 0 (w32 (l3 + (-1))).toNat = 0 then (some (vI 0, amUp M 12 0 47 1)) else (e_X12_termOf_104 d l1 l2 (w32 (l3 + (-1))) l4 (M 154 0 (l4).toNat) (M 158 0 (w32 ((w32 (l3 + (-1))) - 1)).toNat) (M 158 0 (w32 (l3 + (-1))).toNat) M)) else (e_X12_termOf_104 d l1 l2 (w32 (l3 + (-1))) l4 (M 154 0 (l4).toNat) (M 158 0 (w32 ((w32 (l3 + (-1))) - 1)).toNat) (M 158 0 (w32 (l3 + (-1))).toNat) M)) else none) else none)) else none) else (if (0 : Int) ≤ 0 ∧ (0 : Int) < 400 then (some (vI (M 158 0 0), M)) else none) := by
  show amRun _ _ = _
  refine (amRun_t (f := amStep amGst (amD amGst d) cdX12_termOf) 2 (x := if l4 < l2 then .inl (11, [vR 12 12 0, vI l1, vI l2, vI l3, vI l4, u5, u6, u7], [], M) else .inl (165, [vR 12 12 0, vI l1, vI l2, vI l3, vI l4, u5, u6, u7], [], M)) rfl).trans (amK_if ?_ ?_)
  · refine (amRun_t (f := amStep amGst (amD amGst d) cdX12_termOf) 3 (x := if (0 : Int) ≤ l4 ∧ l4 < 840 then .inl (18, [vR 12 12 0, vI l1, vI l2, vI l3, vI l4, u5, u6, u7], [vI (M 154 0 (l4).toNat)], M) else amNo) rfl).trans (amK_if ?_ rfl)
    refine (amRun_t (f := amStep amGst (amD amGst d) cdX12_termOf) 3 (x := if M 154 0 (l4).toNat < 2 then .inl (26, [vR 12 12 0, vI l1, vI l2, vI l3, vI l4, vI (M 154 0 (l4).toNat), u6, u7], [], M) else .inl (65, [vR 12 12 0, vI l1, vI l2, vI l3, vI l4, vI (M 154 0 (l4).toNat), u6, u7], [], M)) rfl).trans (amK_if ?_ ?_)
    · refine (amRun_t (f := amStep amGst (amD amGst d) cdX12_termOf) 4 (x := if M 154 0 (l4).toNat = 0 then .inl (36, [vR 12 12 0, vI l1, vI l2, vI l3, vI l4, vI (M 154 0 (l4).toNat), u6, u7], [vI l3, vR 20 158 0], M) else .inl (46, [vR 12 12 0, vI l1, vI l2, vI l3, vI l4, vI (M 154 0 (l4).toNat), u6, u7], [vI l3, vR 20 158 0], M)) rfl).trans (amK_if ?_ ?_)
      · refine (amRun_t (f := amStep amGst (amD amGst d) cdX12_termOf) 3 (x := if (0 : Int) ≤ l4 ∧ l4 < 840 then .inl (43, [vR 12 12 0, vI l1, vI l2, vI l3, vI l4, vI (M 154 0 (l4).toNat), u6, u7], [vI (M 155 0 (l4).toNat), vI l3, vR 20 158 0], M) else amNo) rfl).trans (amK_if ?_ rfl)
        refine (amRun_t (f := amStep amGst (amD amGst d) cdX12_termOf) 1 (x := if (0 : Int) ≤ l3 ∧ l3 < 400 then .inl (59, [vR 12 12 0, vI l1, vI l2, vI l3, vI l4, vI (M 154 0 (l4).toNat), u6, u7], [], amUp M 158 0 (l3).toNat (M 155 0 (l4).toNat)) else amNo) rfl).trans (amK_if ?_ rfl)
        exact amRun_b 4 (x := .inl (5, [vR 12 12 0, vI l1, vI l2, vI (w32 (l3 + 1)), vI (w32 (l4 + 1)), vI (M 154 0 (l4).toNat), u6, u7], [], amUp M 158 0 (l3).toNat (M 155 0 (l4).toNat))) rfl
      · refine (amRun_t (f := amStep amGst (amD amGst d) cdX12_termOf) 5 (x := if (0 : Int) ≤ l4 ∧ l4 < 840 then .inl (57, [vR 12 12 0, vI l1, vI l2, vI l3, vI l4, vI (M 154 0 (l4).toNat), u6, u7], [vI (M 155 0 (l4).toNat), vR 20 157 0, vI l3, vR 20 158 0], M) else amNo) rfl).trans (amK_if ?_ rfl)
        refine (amRun_t (f := amStep amGst (amD amGst d) cdX12_termOf) 0 (x := if (0 : Int) ≤ M 155 0 (l4).toNat ∧ M 155 0 (l4).toNat < 7 then .inl (58, [vR 12 12 0, vI l1, vI l2, vI l3, vI l4, vI (M 154 0 (l4).toNat), u6, u7], [vI (M 157 0 (M 155 0 (l4).toNat).toNat), vI l3, vR 20 158 0], M) else amNo) rfl).trans (amK_if ?_ rfl)
        refine (amRun_t (f := amStep amGst (amD amGst d) cdX12_termOf) 0 (x := if (0 : Int) ≤ l3 ∧ l3 < 400 then .inl (59, [vR 12 12 0, vI l1, vI l2, vI l3, vI l4, vI (M 154 0 (l4).toNat), u6, u7], [], amUp M 158 0 (l3).toNat (M 157 0 (M 155 0 (l4).toNat).toNat)) else amNo) rfl).trans (amK_if ?_ rfl)
        exact amRun_b 4 (x := .inl (5, [vR 12 12 0, vI l1, vI l2, vI (w32 (l3 + 1)), vI (w32 (l4 + 1)), vI (M 154 0 (l4).toNat), u6, u7], [], amUp M 158 0 (l3).toNat (M 157 0 (M 155 0 (l4).toNat).toNat))) rfl
    · refine (amRun_t (f := amStep amGst (amD amGst d) cdX12_termOf) 6 (x := if (0 : Int) ≤ w32 ((w32 (l3 + (-1))) - 1) ∧ w32 ((w32 (l3 + (-1))) - 1) < 400 then .inl (76, [vR 12 12 0, vI l1, vI l2, vI (w32 (l3 + (-1))), vI l4, vI (M 154 0 (l4).toNat), u6, u7], [vI (M 158 0 (w32 ((w32 (l3 + (-1))) - 1)).toNat)], M) else amNo) rfl).trans (amK_if ?_ rfl)
      refine (amRun_t (f := amStep amGst (amD amGst d) cdX12_termOf) 4 (x := if (0 : Int) ≤ w32 (l3 + (-1)) ∧ w32 (l3 + (-1)) < 400 then .inl (84, [vR 12 12 0, vI l1, vI l2, vI (w32 (l3 + (-1))), vI l4, vI (M 154 0 (l4).toNat), vI (M 158 0 (w32 ((w32 (l3 + (-1))) - 1)).toNat), u7], [vI (M 158 0 (w32 (l3 + (-1))).toNat)], M) else amNo) rfl).trans (amK_if ?_ rfl)
      refine (amRun_t (f := amStep amGst (amD amGst d) cdX12_termOf) 3 (x := if M 154 0 (l4).toNat = 5 then .inl (92, [vR 12 12 0, vI l1, vI l2, vI (w32 (l3 + (-1))), vI l4, vI (M 154 0 (l4).toNat), vI (M 158 0 (w32 ((w32 (l3 + (-1))) - 1)).toNat), vI (M 158 0 (w32 (l3 + (-1))).toNat)], [], M) else .inl (104, [vR 12 12 0, vI l1, vI l2, vI (w32 (l3 + (-1))), vI l4, vI (M 154 0 (l4).toNat), vI (M 158 0 (w32 ((w32 (l3 + (-1))) - 1)).toNat), vI (M 158 0 (w32 (l3 + (-1))).toNat)], [], M)) rfl).trans (amK_if ?_ ?_)
      · refine (amRun_t (f := amStep amGst (amD amGst d) cdX12_termOf) 1 (x := if M 158 0 (w32 (l3 + (-1))).toNat = 0 then .inl (97, [vR 12 12 0, vI l1, vI l2, vI (w32 (l3 + (-1))), vI l4, vI (M 154 0 (l4).toNat), vI (M 158 0 (w32 ((w32 (l3 + (-1))) - 1)).toNat), vI (M 158 0 (w32 (l3 + (-1))).toNat)], [], M) else .inl (104, [vR 12 12 0, vI l1, vI l2, vI (w32 (l3 + (-1))), vI l4, vI (M 154 0 (l4).toNat), vI (M 158 0 (w32 ((w32 (l3 + (-1))) - 1)).toNat), vI (M 158 0 (w32 (l3 + (-1))).toNat)], [], M)) rfl).trans (amK_if ?_ ?_)
        · exact amRun_b 5 (x := .inr (some (vI 0, amUp M 12 0 47 1))) rfl
        · exact amRun_b 0 (x := .inl (104, [vR 12 12 0, vI l1, vI l2, vI (w32 (l3 + (-1))), vI l4, vI (M 154 0 (l4).toNat), vI (M 158 0 (w32 ((w32 (l3 + (-1))) - 1)).toNat), vI (M 158 0 (w32 (l3 + (-1))).toNat)], [], M)) rfl
      · exact amRun_b 0 (x := .inl (104, [vR 12 12 0, vI l1, vI l2, vI (w32 (l3 + (-1))), vI l4, vI (M 154 0 (l4).toNat), vI (M 158 0 (w32 ((w32 (l3 + (-1))) - 1)).toNat), vI (M 158 0 (w32 (l3 + (-1))).toNat)], [], M)) rfl
  · refine (amRun_t (f := amStep amGst (amD amGst d) cdX12_termOf) 3 (x := if (0 : Int) ≤ 0 ∧ (0 : Int) < 400 then .inl (171, [vR 12 12 0, vI l1, vI l2, vI l3, vI l4, u5, u6, u7], [vI (M 158 0 0)], M) else amNo) rfl).trans (amK_if ?_ rfl)
    exact amRun_b 1 (x := .inr (some (vI (M 158 0 0), M))) rfl
theorem q_X12_termOf_104 (d : Nat) (l1 : Int) (l2 : Int) (l3 : Int) (l4 : Int) (l5 : Int) (l6 : Int) (l7 : Int) (M : AmM) : e_X12_termOf_104 d l1 l2 l3 l4 l5 l6 l7 M =
    if l5 = 2 then (if (0 : Int) ≤ w32 (l3 - 1) ∧ w32 (l3 - 1) < 400 then (e_X12_termOf_5 d l1 l2 l3 (w32 (l4 + 1)) (vI l5) (vI l6) (vI l7) (amUp M 158 0 (w32 (l3 - 1)).toNat (w32 (l6 + l7)))) else none) else (if l5 = 3 then (if (0 : Int) ≤ w32 (l3 - 1) ∧ w32 (l3 - 1) < 400 then (e_X12_termOf_5 d l1 l2 l3 (w32 (l4 + 1)) (vI l5) (vI l6) (vI l7) (amUp M 158 0 (w32 (l3 - 1)).toNat (w32 (l6 - l7)))) else none) else (if l5 = 4 then (if (0 : Int) ≤ w32 (l3 - 1) ∧ w32 (l3 - 1) < 400 then (e_X12_termOf_5 d l1 l2 l3 (w32 (l4 + 1)) (vI l5) (vI l6) (vI l7) (amUp M 158 0 (w32 (l3 - 1)).toNat (w32 (l6 * l7)))) else none) else (if l7 = 0 then none else (if (0 : Int) ≤ w32 (l3 - 1) ∧ w32 (l3 - 1) < 400 then (e_X12_termOf_5 d l1 l2 l3 (w32 (l4 + 1)) (vI l5) (vI l6) (vI l7) (amUp M 158 0 (w32 (l3 - 1)).toNat (w32 (Int.tdiv l6 l7)))) else none)))) := by
  show amRun _ _ = _
  refine (amRun_t (f := amStep amGst (amD amGst d) cdX12_termOf) 7 (x := if l5 = 2 then .inl (117, [vR 12 12 0, vI l1, vI l2, vI l3, vI l4, vI l5, vI l6, vI l7], [vI (w32 (l3 - 1)), vR 20 158 0], M) else .inl (125, [vR 12 12 0, vI l1, vI l2, vI l3, vI l4, vI l5, vI l6, vI l7], [vI (w32 (l3 - 1)), vR 20 158 0], M)) rfl).trans (amK_if ?_ ?_)
  · refine (amRun_t (f := amStep amGst (amD amGst d) cdX12_termOf) 4 (x := if (0 : Int) ≤ w32 (l3 - 1) ∧ w32 (l3 - 1) < 400 then .inl (159, [vR 12 12 0, vI l1, vI l2, vI l3, vI l4, vI l5, vI l6, vI l7], [], amUp M 158 0 (w32 (l3 - 1)).toNat (w32 (l6 + l7))) else amNo) rfl).trans (amK_if ?_ rfl)
    exact amRun_b 2 (x := .inl (5, [vR 12 12 0, vI l1, vI l2, vI l3, vI (w32 (l4 + 1)), vI l5, vI l6, vI l7], [], amUp M 158 0 (w32 (l3 - 1)).toNat (w32 (l6 + l7)))) rfl
  · refine (amRun_t (f := amStep amGst (amD amGst d) cdX12_termOf) 2 (x := if l5 = 3 then .inl (131, [vR 12 12 0, vI l1, vI l2, vI l3, vI l4, vI l5, vI l6, vI l7], [vI (w32 (l3 - 1)), vR 20 158 0], M) else .inl (139, [vR 12 12 0, vI l1, vI l2, vI l3, vI l4, vI l5, vI l6, vI l7], [vI (w32 (l3 - 1)), vR 20 158 0], M)) rfl).trans (amK_if ?_ ?_)
    · refine (amRun_t (f := amStep amGst (amD amGst d) cdX12_termOf) 4 (x := if (0 : Int) ≤ w32 (l3 - 1) ∧ w32 (l3 - 1) < 400 then .inl (159, [vR 12 12 0, vI l1, vI l2, vI l3, vI l4, vI l5, vI l6, vI l7], [], amUp M 158 0 (w32 (l3 - 1)).toNat (w32 (l6 - l7))) else amNo) rfl).trans (amK_if ?_ rfl)
      exact amRun_b 2 (x := .inl (5, [vR 12 12 0, vI l1, vI l2, vI l3, vI (w32 (l4 + 1)), vI l5, vI l6, vI l7], [], amUp M 158 0 (w32 (l3 - 1)).toNat (w32 (l6 - l7)))) rfl
    · refine (amRun_t (f := amStep amGst (amD amGst d) cdX12_termOf) 2 (x := if l5 = 4 then .inl (145, [vR 12 12 0, vI l1, vI l2, vI l3, vI l4, vI l5, vI l6, vI l7], [vI (w32 (l3 - 1)), vR 20 158 0], M) else .inl (153, [vR 12 12 0, vI l1, vI l2, vI l3, vI l4, vI l5, vI l6, vI l7], [vI (w32 (l3 - 1)), vR 20 158 0], M)) rfl).trans (amK_if ?_ ?_)
      · refine (amRun_t (f := amStep amGst (amD amGst d) cdX12_termOf) 4 (x := if (0 : Int) ≤ w32 (l3 - 1) ∧ w32 (l3 - 1) < 400 then .inl (159, [vR 12 12 0, vI l1, vI l2, vI l3, vI l4, vI l5, vI l6, vI l7], [], amUp M 158 0 (w32 (l3 - 1)).toNat (w32 (l6 * l7))) else amNo) rfl).trans (amK_if ?_ rfl)
        exact amRun_b 2 (x := .inl (5, [vR 12 12 0, vI l1, vI l2, vI l3, vI (w32 (l4 + 1)), vI l5, vI l6, vI l7], [], amUp M 158 0 (w32 (l3 - 1)).toNat (w32 (l6 * l7)))) rfl
      · refine (amRun_t (f := amStep amGst (amD amGst d) cdX12_termOf) 2 (x := if l7 = 0 then amNo else .inl (158, [vR 12 12 0, vI l1, vI l2, vI l3, vI l4, vI l5, vI l6, vI l7], [vI (w32 (Int.tdiv l6 l7)), vI (w32 (l3 - 1)), vR 20 158 0], M)) rfl).trans (amK_if rfl ?_)
        refine (amRun_t (f := amStep amGst (amD amGst d) cdX12_termOf) 0 (x := if (0 : Int) ≤ w32 (l3 - 1) ∧ w32 (l3 - 1) < 400 then .inl (159, [vR 12 12 0, vI l1, vI l2, vI l3, vI l4, vI l5, vI l6, vI l7], [], amUp M 158 0 (w32 (l3 - 1)).toNat (w32 (Int.tdiv l6 l7))) else amNo) rfl).trans (amK_if ?_ rfl)
        exact amRun_b 2 (x := .inl (5, [vR 12 12 0, vI l1, vI l2, vI l3, vI (w32 (l4 + 1)), vI l5, vI l6, vI l7], [], amUp M 158 0 (w32 (l3 - 1)).toNat (w32 (Int.tdiv l6 l7)))) rfl
theorem n_X12_termOf (d : Nat) (l1 : Int) (l2 : Int) (M : AmM) : amD amGst (d + 1) 178 [vR 12 12 0, vI l1, vI l2] M = e_X12_termOf_0 d l1 l2 M := rfl
noncomputable def e_X12_in_0 (d : Nat) (l0 : Int) (l1 : Int) (l2 : Int) (M : AmM) : Option (AmV × AmM) := amRun (amStep amGst (amD amGst d) cdX12_in) (0, [vI l0, vI l1, vI l2], [], M)
theorem q_X12_in_0 (d : Nat) (l0 : Int) (l1 : Int) (l2 : Int) (M : AmM) : e_X12_in_0 d l0 l1 l2 M =
    if l0 < l1 then (some (vI 0, M)) else (if l2 < l0 then (some (vI 0, M)) else (some (vI 1, M))) := by
  show amRun _ _ = _
  refine (amRun_t (f := amStep amGst (amD amGst d) cdX12_in) 2 (x := if l0 < l1 then .inl (14, [vI l0, vI l1, vI l2], [], M) else .inl (5, [vI l0, vI l1, vI l2], [], M)) rfl).trans (amK_if ?_ ?_)
  · exact amRun_b 2 (x := .inr (some (vI 0, M))) rfl
  · refine (amRun_t (f := amStep amGst (amD amGst d) cdX12_in) 2 (x := if l2 < l0 then .inl (14, [vI l0, vI l1, vI l2], [], M) else .inl (10, [vI l0, vI l1, vI l2], [], M)) rfl).trans (amK_if ?_ ?_)
    · exact amRun_b 2 (x := .inr (some (vI 0, M))) rfl
    · exact amRun_b 3 (x := .inr (some (vI 1, M))) rfl
theorem n_X12_in (d : Nat) (l0 : Int) (l1 : Int) (l2 : Int) (M : AmM) : amD amGst (d + 1) 179 [vI l0, vI l1, vI l2] M = e_X12_in_0 d l0 l1 l2 M := rfl
noncomputable def e_X12_top_0 (d : Nat) (M : AmM) : Option (AmV × AmM) := amRun (amStep amGst (amD amGst d) cdX12_top) (0, [vR 12 12 0], [], M)
theorem q_X12_top_0 (d : Nat) (M : AmM) : e_X12_top_0 d M =
    if (0 : Int) ≤ M 12 0 18 ∧ M 12 0 18 < 2 then (some (vI (w32 ((M 137 0 (M 12 0 18).toNat) + 1)), M)) else none := by
  show amRun _ _ = _
  refine (amRun_t (f := amStep amGst (amD amGst d) cdX12_top) 4 (x := if (0 : Int) ≤ M 12 0 18 ∧ M 12 0 18 < 2 then .inl (9, [vR 12 12 0], [vI (M 137 0 (M 12 0 18).toNat)], M) else amNo) rfl).trans (amK_if ?_ rfl)
  exact amRun_b 3 (x := .inr (some (vI (w32 ((M 137 0 (M 12 0 18).toNat) + 1)), M))) rfl
theorem n_X12_top (d : Nat) (M : AmM) : amD amGst (d + 1) 180 [vR 12 12 0] M = e_X12_top_0 d M := rfl
noncomputable def e_X12_many_0 (d : Nat) (M : AmM) : Option (AmV × AmM) := amRun (amStep amGst (amD amGst d) cdX12_many) (0, [vR 12 12 0], [], M)
theorem q_X12_many_0 (d : Nat) (M : AmM) : e_X12_many_0 d M =
    if (0 : Int) ≤ M 12 0 18 ∧ M 12 0 18 < 2 then (some (vI (M 143 0 (M 12 0 18).toNat), M)) else none := by
  show amRun _ _ = _
  refine (amRun_t (f := amStep amGst (amD amGst d) cdX12_many) 4 (x := if (0 : Int) ≤ M 12 0 18 ∧ M 12 0 18 < 2 then .inl (9, [vR 12 12 0], [vI (M 143 0 (M 12 0 18).toNat)], M) else amNo) rfl).trans (amK_if ?_ rfl)
  exact amRun_b 1 (x := .inr (some (vI (M 143 0 (M 12 0 18).toNat), M))) rfl
theorem n_X12_many (d : Nat) (M : AmM) : amD amGst (d + 1) 181 [vR 12 12 0] M = e_X12_many_0 d M := rfl
noncomputable def e_X12_isStep_0 (d : Nat) (l1 : Int) (M : AmM) : Option (AmV × AmM) := amRun (amStep amGst (amD amGst d) cdX12_isStep) (0, [vR 12 12 0, vI l1], [], M)
theorem q_X12_isStep_0 (d : Nat) (l1 : Int) (M : AmM) : e_X12_isStep_0 d l1 M =
    if (0 : Int) ≤ M 12 0 18 ∧ M 12 0 18 < 2 then (amCI (amD amGst d 179 [vI l1, vI 1, vI (M 137 0 (M 12 0 18).toNat)] M) fun v1 M1 => bif amZ v1 then some (vI v1, M1) else none) else none := by
  show amRun _ _ = _
  refine (amRun_t (f := amStep amGst (amD amGst d) cdX12_isStep) 6 (x := if (0 : Int) ≤ M 12 0 18 ∧ M 12 0 18 < 2 then .inl (11, [vR 12 12 0, vI l1], [vI (M 137 0 (M 12 0 18).toNat), vI 1, vI l1], M) else amNo) rfl).trans (amK_if ?_ rfl)
  refine (amRun_t (f := amStep amGst (amD amGst d) cdX12_isStep) 0 (x := amPu 1 (amD amGst d 179 [vI l1, vI 1, vI (M 137 0 (M 12 0 18).toNat)] M) (fun z9 M9 => .inl (14, [vR 12 12 0, vI l1], z9 ++ [], M9))) rfl).trans (amK_pI fun v1 M1 => ?_)
  exact (amRun_t 0 (x := bif amZ v1 then .inr (some (vI v1, M1)) else amNo) rfl).trans (amK_bif rfl rfl)
theorem n_X12_isStep (d : Nat) (l1 : Int) (M : AmM) : amD amGst (d + 1) 182 [vR 12 12 0, vI l1] M = e_X12_isStep_0 d l1 M := rfl
noncomputable def e_X12_isPilgrim_0 (d : Nat) (l1 : Int) (M : AmM) : Option (AmV × AmM) := amRun (amStep amGst (amD amGst d) cdX12_isPilgrim) (0, [vR 12 12 0, vI l1], [], M)
theorem q_X12_isPilgrim_0 (d : Nat) (l1 : Int) (M : AmM) : e_X12_isPilgrim_0 d l1 M =
    amCI (amD amGst d 181 [vR 12 12 0] M) fun v1 M1 => amCI (amD amGst d 179 [vI l1, vI 0, vI (w32 (v1 - 1))] M1) fun v2 M2 => bif amZ v2 then some (vI v2, M2) else none := by
  show amRun _ _ = _
  refine (amRun_t (f := amStep amGst (amD amGst d) cdX12_isPilgrim) 3 (x := amPu 1 (amD amGst d 181 [vR 12 12 0] M) (fun z9 M9 => .inl (6, [vR 12 12 0, vI l1], z9 ++ [vI 0, vI l1], M9))) rfl).trans (amK_pI fun v1 M1 => ?_)
  refine (amRun_t (f := amStep amGst (amD amGst d) cdX12_isPilgrim) 2 (x := amPu 1 (amD amGst d 179 [vI l1, vI 0, vI (w32 (v1 - 1))] M1) (fun z9 M9 => .inl (11, [vR 12 12 0, vI l1], z9 ++ [], M9))) rfl).trans (amK_pI fun v2 M2 => ?_)
  exact (amRun_t 0 (x := bif amZ v2 then .inr (some (vI v2, M2)) else amNo) rfl).trans (amK_bif rfl rfl)
theorem n_X12_isPilgrim (d : Nat) (l1 : Int) (M : AmM) : amD amGst (d + 1) 183 [vR 12 12 0, vI l1] M = e_X12_isPilgrim_0 d l1 M := rfl
noncomputable def e_X12_vowOf_0 (d : Nat) (l1 : Int) (M : AmM) : Option (AmV × AmM) := amRun (amStep amGst (amD amGst d) cdX12_vowOf) (0, [vR 12 12 0, vI l1], [], M)
theorem q_X12_vowOf_0 (d : Nat) (l1 : Int) (M : AmM) : e_X12_vowOf_0 d l1 M =
    if (0 : Int) ≤ w32 ((w32 (8 * (M 12 0 18))) + l1) ∧ w32 ((w32 (8 * (M 12 0 18))) + l1) < 16 then (some (vI (M 145 0 (w32 ((w32 (8 * (M 12 0 18))) + l1)).toNat), M)) else none := by
  show amRun _ _ = _
  refine (amRun_t (f := amStep amGst (amD amGst d) cdX12_vowOf) 8 (x := if (0 : Int) ≤ w32 ((w32 (8 * (M 12 0 18))) + l1) ∧ w32 ((w32 (8 * (M 12 0 18))) + l1) < 16 then .inl (14, [vR 12 12 0, vI l1], [vI (M 145 0 (w32 ((w32 (8 * (M 12 0 18))) + l1)).toNat)], M) else amNo) rfl).trans (amK_if ?_ rfl)
  exact amRun_b 1 (x := .inr (some (vI (M 145 0 (w32 ((w32 (8 * (M 12 0 18))) + l1)).toNat), M))) rfl
theorem n_X12_vowOf (d : Nat) (l1 : Int) (M : AmM) : amD amGst (d + 1) 184 [vR 12 12 0, vI l1] M = e_X12_vowOf_0 d l1 M := rfl
noncomputable def e_X12_begins_0 (d : Nat) (M : AmM) : Option (AmV × AmM) := amRun (amStep amGst (amD amGst d) cdX12_begins) (0, [vR 12 12 0, vU], [], M)
noncomputable def e_X12_begins_2 (d : Nat) (l1 : Int) (M : AmM) : Option (AmV × AmM) := amRun (amStep amGst (amD amGst d) cdX12_begins) (2, [vR 12 12 0, vI l1], [], M)
noncomputable def e_X12_begins_23 (d : Nat) (l1 : Int) (M : AmM) : Option (AmV × AmM) := amRun (amStep amGst (amD amGst d) cdX12_begins) (23, [vR 12 12 0, vI l1], [], M)
theorem q_X12_begins_0 (d : Nat) (M : AmM) : e_X12_begins_0 d M =
    e_X12_begins_2 d 0 M := by
  show amRun _ _ = _
  exact amRun_b 2 (x := .inl (2, [vR 12 12 0, vI 0], [], M)) rfl
theorem q_X12_begins_2 (d : Nat) (l1 : Int) (M : AmM) : e_X12_begins_2 d l1 M =
    if l1 < 100 then (if (0 : Int) ≤ l1 ∧ l1 < 100 then (e_X12_begins_2 d (w32 (l1 + 1)) (amUp M 160 0 (l1).toNat 0)) else none) else (e_X12_begins_23 d 1 M) := by
  show amRun _ _ = _
  refine (amRun_t (f := amStep amGst (amD amGst d) cdX12_begins) 2 (x := if l1 < 100 then .inl (8, [vR 12 12 0, vI l1], [], M) else .inl (21, [vR 12 12 0, vI l1], [], M)) rfl).trans (amK_if ?_ ?_)
  · refine (amRun_t (f := amStep amGst (amD amGst d) cdX12_begins) 4 (x := if (0 : Int) ≤ l1 ∧ l1 < 100 then .inl (15, [vR 12 12 0, vI l1], [], amUp M 160 0 (l1).toNat 0) else amNo) rfl).trans (amK_if ?_ rfl)
    exact amRun_b 2 (x := .inl (2, [vR 12 12 0, vI (w32 (l1 + 1))], [], amUp M 160 0 (l1).toNat 0)) rfl
  · exact amRun_b 2 (x := .inl (23, [vR 12 12 0, vI 1], [], M)) rfl
theorem q_X12_begins_23 (d : Nat) (l1 : Int) (M : AmM) : e_X12_begins_23 d l1 M =
    if (0 : Int) ≤ M 12 0 18 ∧ M 12 0 18 < 2 then (if M 137 0 (M 12 0 18).toNat < l1 then (if (0 : Int) ≤ M 12 0 18 ∧ M 12 0 18 < 2 then (if (0 : Int) ≤ 82 ∧ (82 : Int) < 100 then (some (vU, amUp M 160 0 82 (M 141 0 (M 12 0 18).toNat))) else none) else none) else (if (0 : Int) ≤ w32 ((w32 (25 * (M 12 0 18))) + l1) ∧ w32 ((w32 (25 * (M 12 0 18))) + l1) < 50 then (if (0 : Int) ≤ l1 ∧ l1 < 100 then (e_X12_begins_23 d (w32 (l1 + 1)) (amUp M 160 0 (l1).toNat (M 138 0 (w32 ((w32 (25 * (M 12 0 18))) + l1)).toNat))) else none) else none)) else none := by
  show amRun _ _ = _
  refine (amRun_t (f := amStep amGst (amD amGst d) cdX12_begins) 5 (x := if (0 : Int) ≤ M 12 0 18 ∧ M 12 0 18 < 2 then .inl (33, [vR 12 12 0, vI l1], [vI (M 137 0 (M 12 0 18).toNat), vI l1], M) else amNo) rfl).trans (amK_if ?_ rfl)
  refine (amRun_t (f := amStep amGst (amD amGst d) cdX12_begins) 0 (x := if M 137 0 (M 12 0 18).toNat < l1 then .inl (62, [vR 12 12 0, vI l1], [], M) else .inl (36, [vR 12 12 0, vI l1], [], M)) rfl).trans (amK_if ?_ ?_)
  · refine (amRun_t (f := amStep amGst (amD amGst d) cdX12_begins) 7 (x := if (0 : Int) ≤ M 12 0 18 ∧ M 12 0 18 < 2 then .inl (77, [vR 12 12 0, vI l1], [vI (M 141 0 (M 12 0 18).toNat), vI 82, vR 20 160 0], M) else amNo) rfl).trans (amK_if ?_ rfl)
    refine (amRun_t (f := amStep amGst (amD amGst d) cdX12_begins) 0 (x := if (0 : Int) ≤ 82 ∧ (82 : Int) < 100 then .inl (78, [vR 12 12 0, vI l1], [], amUp M 160 0 82 (M 141 0 (M 12 0 18).toNat)) else amNo) rfl).trans (amK_if ?_ rfl)
    exact amRun_b 1 (x := .inr (some (vU, amUp M 160 0 82 (M 141 0 (M 12 0 18).toNat)))) rfl
  · refine (amRun_t (f := amStep amGst (amD amGst d) cdX12_begins) 11 (x := if (0 : Int) ≤ w32 ((w32 (25 * (M 12 0 18))) + l1) ∧ w32 ((w32 (25 * (M 12 0 18))) + l1) < 50 then .inl (55, [vR 12 12 0, vI l1], [vI (M 138 0 (w32 ((w32 (25 * (M 12 0 18))) + l1)).toNat), vI l1, vR 20 160 0], M) else amNo) rfl).trans (amK_if ?_ rfl)
    refine (amRun_t (f := amStep amGst (amD amGst d) cdX12_begins) 0 (x := if (0 : Int) ≤ l1 ∧ l1 < 100 then .inl (56, [vR 12 12 0, vI l1], [], amUp M 160 0 (l1).toNat (M 138 0 (w32 ((w32 (25 * (M 12 0 18))) + l1)).toNat)) else amNo) rfl).trans (amK_if ?_ rfl)
    exact amRun_b 2 (x := .inl (23, [vR 12 12 0, vI (w32 (l1 + 1))], [], amUp M 160 0 (l1).toNat (M 138 0 (w32 ((w32 (25 * (M 12 0 18))) + l1)).toNat))) rfl
theorem n_X12_begins (d : Nat) (M : AmM) : amD amGst (d + 1) 185 [vR 12 12 0] M = e_X12_begins_0 d M := rfl
noncomputable def e_X12_takes_0 (d : Nat) (M : AmM) : Option (AmV × AmM) := amRun (amStep amGst (amD amGst d) cdX12_takes) (0, [vR 12 12 0, vU], [], M)
noncomputable def e_X12_takes_2 (d : Nat) (l1 : Int) (M : AmM) : Option (AmV × AmM) := amRun (amStep amGst (amD amGst d) cdX12_takes) (2, [vR 12 12 0, vI l1], [], M)
theorem q_X12_takes_0 (d : Nat) (M : AmM) : e_X12_takes_0 d M =
    e_X12_takes_2 d 0 M := by
  show amRun _ _ = _
  exact amRun_b 2 (x := .inl (2, [vR 12 12 0, vI 0], [], M)) rfl
theorem q_X12_takes_2 (d : Nat) (l1 : Int) (M : AmM) : e_X12_takes_2 d l1 M =
    if l1 < 100 then (if (0 : Int) ≤ l1 ∧ l1 < 100 then (if (0 : Int) ≤ l1 ∧ l1 < 100 then (e_X12_takes_2 d (w32 (l1 + 1)) (amUp M 160 0 (l1).toNat (M 159 0 (l1).toNat))) else none) else none) else (some (vU, M)) := by
  show amRun _ _ = _
  refine (amRun_t (f := amStep amGst (amD amGst d) cdX12_takes) 2 (x := if l1 < 100 then .inl (8, [vR 12 12 0, vI l1], [], M) else .inl (26, [vR 12 12 0, vI l1], [], M)) rfl).trans (amK_if ?_ ?_)
  · refine (amRun_t (f := amStep amGst (amD amGst d) cdX12_takes) 6 (x := if (0 : Int) ≤ l1 ∧ l1 < 100 then .inl (19, [vR 12 12 0, vI l1], [vI (M 159 0 (l1).toNat), vI l1, vR 20 160 0], M) else amNo) rfl).trans (amK_if ?_ rfl)
    refine (amRun_t (f := amStep amGst (amD amGst d) cdX12_takes) 0 (x := if (0 : Int) ≤ l1 ∧ l1 < 100 then .inl (20, [vR 12 12 0, vI l1], [], amUp M 160 0 (l1).toNat (M 159 0 (l1).toNat)) else amNo) rfl).trans (amK_if ?_ rfl)
    exact amRun_b 2 (x := .inl (2, [vR 12 12 0, vI (w32 (l1 + 1))], [], amUp M 160 0 (l1).toNat (M 159 0 (l1).toNat))) rfl
  · exact amRun_b 1 (x := .inr (some (vU, M))) rfl
theorem n_X12_takes (d : Nat) (M : AmM) : amD amGst (d + 1) 186 [vR 12 12 0] M = e_X12_takes_0 d M := rfl
noncomputable def e_X12_goneNow_0 (d : Nat) (M : AmM) : Option (AmV × AmM) := amRun (amStep amGst (amD amGst d) cdX12_goneNow) (0, [vR 12 12 0, vU, vU], [], M)
noncomputable def e_X12_goneNow_4 (d : Nat) (l1 : Int) (l2 : Int) (M : AmM) : Option (AmV × AmM) := amRun (amStep amGst (amD amGst d) cdX12_goneNow) (4, [vR 12 12 0, vI l1, vI l2], [], M)
theorem q_X12_goneNow_0 (d : Nat) (M : AmM) : e_X12_goneNow_0 d M =
    e_X12_goneNow_4 d 0 1 M := by
  show amRun _ _ = _
  exact amRun_b 4 (x := .inl (4, [vR 12 12 0, vI 0, vI 1], [], M)) rfl
theorem q_X12_goneNow_4 (d : Nat) (l1 : Int) (l2 : Int) (M : AmM) : e_X12_goneNow_4 d l1 l2 M =
    if (0 : Int) ≤ M 12 0 18 ∧ M 12 0 18 < 2 then (if M 137 0 (M 12 0 18).toNat < l2 then (some (vI l1, M)) else (if (0 : Int) ≤ l2 ∧ l2 < 100 then (if M 160 0 (l2).toNat = 0 then (e_X12_goneNow_4 d (w32 (l1 + 1)) (w32 (l2 + 1)) M) else (e_X12_goneNow_4 d l1 (w32 (l2 + 1)) M)) else none)) else none := by
  show amRun _ _ = _
  refine (amRun_t (f := amStep amGst (amD amGst d) cdX12_goneNow) 5 (x := if (0 : Int) ≤ M 12 0 18 ∧ M 12 0 18 < 2 then .inl (14, [vR 12 12 0, vI l1, vI l2], [vI (M 137 0 (M 12 0 18).toNat), vI l2], M) else amNo) rfl).trans (amK_if ?_ rfl)
  refine (amRun_t (f := amStep amGst (amD amGst d) cdX12_goneNow) 0 (x := if M 137 0 (M 12 0 18).toNat < l2 then .inl (35, [vR 12 12 0, vI l1, vI l2], [], M) else .inl (17, [vR 12 12 0, vI l1, vI l2], [], M)) rfl).trans (amK_if ?_ ?_)
  · exact amRun_b 2 (x := .inr (some (vI l1, M))) rfl
  · refine (amRun_t (f := amStep amGst (amD amGst d) cdX12_goneNow) 3 (x := if (0 : Int) ≤ l2 ∧ l2 < 100 then .inl (23, [vR 12 12 0, vI l1, vI l2], [vI (M 160 0 (l2).toNat)], M) else amNo) rfl).trans (amK_if ?_ rfl)
    refine (amRun_t (f := amStep amGst (amD amGst d) cdX12_goneNow) 0 (x := if M 160 0 (l2).toNat = 0 then .inl (26, [vR 12 12 0, vI l1, vI l2], [], M) else .inl (29, [vR 12 12 0, vI l1, vI l2], [], M)) rfl).trans (amK_if ?_ ?_)
    · exact amRun_b 3 (x := .inl (4, [vR 12 12 0, vI (w32 (l1 + 1)), vI (w32 (l2 + 1))], [], M)) rfl
    · exact amRun_b 2 (x := .inl (4, [vR 12 12 0, vI l1, vI (w32 (l2 + 1))], [], M)) rfl
theorem n_X12_goneNow (d : Nat) (M : AmM) : amD amGst (d + 1) 187 [vR 12 12 0] M = e_X12_goneNow_0 d M := rfl
noncomputable def e_X12_wearOf_0 (d : Nat) (l1 : Int) (l2 : Int) (l3 : Int) (l4 : Int) (l5 : Int) (l6 : Int) (M : AmM) : Option (AmV × AmM) := amRun (amStep amGst (amD amGst d) cdX12_wearOf) (0, [vR 12 12 0, vI l1, vI l2, vI l3, vI l4, vI l5, vI l6, vU, vU, vU, vU, vU], [], M)
noncomputable def e_X12_wearOf_74 (d : Nat) (l1 : Int) (l2 : Int) (l3 : Int) (l4 : Int) (l5 : Int) (l6 : Int) (l7 : Int) (l8 : Int) (M : AmM) : Option (AmV × AmM) := amRun (amStep amGst (amD amGst d) cdX12_wearOf) (74, [vR 12 12 0, vI l1, vI l2, vI l3, vI l4, vI l5, vI l6, vI l7, vI l8, vU, vU, vU], [], M)
noncomputable def e_X12_wearOf_126 (d : Nat) (l1 : Int) (l2 : Int) (l3 : Int) (l4 : Int) (l5 : Int) (l6 : Int) (l7 : Int) (l8 : Int) (M : AmM) : Option (AmV × AmM) := amRun (amStep amGst (amD amGst d) cdX12_wearOf) (126, [vR 12 12 0, vI l1, vI l2, vI l3, vI l4, vI l5, vI l6, vI l7, vI l8, vU, vU, vU], [], M)
noncomputable def e_X12_wearOf_160 (d : Nat) (l1 : Int) (l2 : Int) (l3 : Int) (l4 : Int) (l5 : Int) (l6 : Int) (l7 : Int) (l8 : Int) (l9 : Int) (u10 : AmV) (u11 : AmV) (M : AmM) : Option (AmV × AmM) := amRun (amStep amGst (amD amGst d) cdX12_wearOf) (160, [vR 12 12 0, vI l1, vI l2, vI l3, vI l4, vI l5, vI l6, vI l7, vI l8, vI l9, u10, u11], [], M)
noncomputable def e_X12_wearOf_236 (d : Nat) (l1 : Int) (l2 : Int) (l3 : Int) (l4 : Int) (l5 : Int) (l6 : Int) (l7 : Int) (l8 : Int) (l9 : Int) (u10 : AmV) (u11 : AmV) (M : AmM) : Option (AmV × AmM) := amRun (amStep amGst (amD amGst d) cdX12_wearOf) (236, [vR 12 12 0, vI l1, vI l2, vI l3, vI l4, vI l5, vI l6, vI l7, vI l8, vI l9, u10, u11], [], M)
theorem q_X12_wearOf_0 (d : Nat) (l1 : Int) (l2 : Int) (l3 : Int) (l4 : Int) (l5 : Int) (l6 : Int) (M : AmM) : e_X12_wearOf_0 d l1 l2 l3 l4 l5 l6 M =
    if (0 : Int) ≤ w32 ((w32 (4 * (M 12 0 18))) + l1) ∧ w32 ((w32 (4 * (M 12 0 18))) + l1) < 8 then (if (0 : Int) ≤ w32 ((w32 (4 * (M 12 0 18))) + l1) ∧ w32 ((w32 (4 * (M 12 0 18))) + l1) < 8 then (if M 147 0 (w32 ((w32 (4 * (M 12 0 18))) + l1)).toNat = M 148 0 (w32 ((w32 (4 * (M 12 0 18))) + l1)).toNat then (some (vI l2, M)) else (if (0 : Int) ≤ 0 ∧ (0 : Int) < 7 then (if (0 : Int) ≤ 1 ∧ (1 : Int) < 7 then (if (0 : Int) ≤ 2 ∧ (2 : Int) < 7 then (if (0 : Int) ≤ 83 ∧ (83 : Int) < 100 then (if (0 : Int) ≤ 3 ∧ (3 : Int) < 7 then (e_X12_wearOf_74 d l1 l2 l3 l4 l5 l6 (M 147 0 (w32 ((w32 (4 * (M 12 0 18))) + l1)).toNat) (M 148 0 (w32 ((w32 (4 * (M 12 0 18))) + l1)).toNat) (amUp (amUp (amUp (amUp M 157 0 0 l2) 157 0 1 l4) 157 0 2 l3) 157 0 3 ((amUp (amUp (amUp M 157 0 0 l2) 157 0 1 l4) 157 0 2 l3) 160 0 83))) else none) else none) else none) else none) else none)) else none) else none := by
  show amRun _ _ = _
  refine (amRun_t (f := amStep amGst (amD amGst d) cdX12_wearOf) 8 (x := if (0 : Int) ≤ w32 ((w32 (4 * (M 12 0 18))) + l1) ∧ w32 ((w32 (4 * (M 12 0 18))) + l1) < 8 then .inl (13, [vR 12 12 0, vI l1, vI l2, vI l3, vI l4, vI l5, vI l6, vU, vU, vU, vU, vU], [vI (M 147 0 (w32 ((w32 (4 * (M 12 0 18))) + l1)).toNat)], M) else amNo) rfl).trans (amK_if ?_ rfl)
  refine (amRun_t (f := amStep amGst (amD amGst d) cdX12_wearOf) 9 (x := if (0 : Int) ≤ w32 ((w32 (4 * (M 12 0 18))) + l1) ∧ w32 ((w32 (4 * (M 12 0 18))) + l1) < 8 then .inl (28, [vR 12 12 0, vI l1, vI l2, vI l3, vI l4, vI l5, vI l6, vI (M 147 0 (w32 ((w32 (4 * (M 12 0 18))) + l1)).toNat), vU, vU, vU, vU], [vI (M 148 0 (w32 ((w32 (4 * (M 12 0 18))) + l1)).toNat)], M) else amNo) rfl).trans (amK_if ?_ rfl)
  refine (amRun_t (f := amStep amGst (amD amGst d) cdX12_wearOf) 3 (x := if M 147 0 (w32 ((w32 (4 * (M 12 0 18))) + l1)).toNat = M 148 0 (w32 ((w32 (4 * (M 12 0 18))) + l1)).toNat then .inl (37, [vR 12 12 0, vI l1, vI l2, vI l3, vI l4, vI l5, vI l6, vI (M 147 0 (w32 ((w32 (4 * (M 12 0 18))) + l1)).toNat), vI (M 148 0 (w32 ((w32 (4 * (M 12 0 18))) + l1)).toNat), vU, vU, vU], [], M) else .inl (39, [vR 12 12 0, vI l1, vI l2, vI l3, vI l4, vI l5, vI l6, vI (M 147 0 (w32 ((w32 (4 * (M 12 0 18))) + l1)).toNat), vI (M 148 0 (w32 ((w32 (4 * (M 12 0 18))) + l1)).toNat), vU, vU, vU], [], M)) rfl).trans (amK_if ?_ ?_)
  · exact amRun_b 2 (x := .inr (some (vI l2, M))) rfl
  · refine (amRun_t (f := amStep amGst (amD amGst d) cdX12_wearOf) 4 (x := if (0 : Int) ≤ 0 ∧ (0 : Int) < 7 then .inl (46, [vR 12 12 0, vI l1, vI l2, vI l3, vI l4, vI l5, vI l6, vI (M 147 0 (w32 ((w32 (4 * (M 12 0 18))) + l1)).toNat), vI (M 148 0 (w32 ((w32 (4 * (M 12 0 18))) + l1)).toNat), vU, vU, vU], [], amUp M 157 0 0 l2) else amNo) rfl).trans (amK_if ?_ rfl)
    refine (amRun_t (f := amStep amGst (amD amGst d) cdX12_wearOf) 4 (x := if (0 : Int) ≤ 1 ∧ (1 : Int) < 7 then .inl (54, [vR 12 12 0, vI l1, vI l2, vI l3, vI l4, vI l5, vI l6, vI (M 147 0 (w32 ((w32 (4 * (M 12 0 18))) + l1)).toNat), vI (M 148 0 (w32 ((w32 (4 * (M 12 0 18))) + l1)).toNat), vU, vU, vU], [], amUp (amUp M 157 0 0 l2) 157 0 1 l4) else amNo) rfl).trans (amK_if ?_ rfl)
    refine (amRun_t (f := amStep amGst (amD amGst d) cdX12_wearOf) 4 (x := if (0 : Int) ≤ 2 ∧ (2 : Int) < 7 then .inl (61, [vR 12 12 0, vI l1, vI l2, vI l3, vI l4, vI l5, vI l6, vI (M 147 0 (w32 ((w32 (4 * (M 12 0 18))) + l1)).toNat), vI (M 148 0 (w32 ((w32 (4 * (M 12 0 18))) + l1)).toNat), vU, vU, vU], [], amUp (amUp (amUp M 157 0 0 l2) 157 0 1 l4) 157 0 2 l3) else amNo) rfl).trans (amK_if ?_ rfl)
    refine (amRun_t (f := amStep amGst (amD amGst d) cdX12_wearOf) 6 (x := if (0 : Int) ≤ 83 ∧ (83 : Int) < 100 then .inl (73, [vR 12 12 0, vI l1, vI l2, vI l3, vI l4, vI l5, vI l6, vI (M 147 0 (w32 ((w32 (4 * (M 12 0 18))) + l1)).toNat), vI (M 148 0 (w32 ((w32 (4 * (M 12 0 18))) + l1)).toNat), vU, vU, vU], [vI ((amUp (amUp (amUp M 157 0 0 l2) 157 0 1 l4) 157 0 2 l3) 160 0 83), vI 3, vR 20 157 0], amUp (amUp (amUp M 157 0 0 l2) 157 0 1 l4) 157 0 2 l3) else amNo) rfl).trans (amK_if ?_ rfl)
    refine (amRun_t (f := amStep amGst (amD amGst d) cdX12_wearOf) 0 (x := if (0 : Int) ≤ 3 ∧ (3 : Int) < 7 then .inl (74, [vR 12 12 0, vI l1, vI l2, vI l3, vI l4, vI l5, vI l6, vI (M 147 0 (w32 ((w32 (4 * (M 12 0 18))) + l1)).toNat), vI (M 148 0 (w32 ((w32 (4 * (M 12 0 18))) + l1)).toNat), vU, vU, vU], [], amUp (amUp (amUp (amUp M 157 0 0 l2) 157 0 1 l4) 157 0 2 l3) 157 0 3 ((amUp (amUp (amUp M 157 0 0 l2) 157 0 1 l4) 157 0 2 l3) 160 0 83)) else amNo) rfl).trans (amK_if ?_ rfl)
    exact amRun_b 0 (x := .inl (74, [vR 12 12 0, vI l1, vI l2, vI l3, vI l4, vI l5, vI l6, vI (M 147 0 (w32 ((w32 (4 * (M 12 0 18))) + l1)).toNat), vI (M 148 0 (w32 ((w32 (4 * (M 12 0 18))) + l1)).toNat), vU, vU, vU], [], amUp (amUp (amUp (amUp M 157 0 0 l2) 157 0 1 l4) 157 0 2 l3) 157 0 3 ((amUp (amUp (amUp M 157 0 0 l2) 157 0 1 l4) 157 0 2 l3) 160 0 83))) rfl
theorem q_X12_wearOf_74 (d : Nat) (l1 : Int) (l2 : Int) (l3 : Int) (l4 : Int) (l5 : Int) (l6 : Int) (l7 : Int) (l8 : Int) (M : AmM) : e_X12_wearOf_74 d l1 l2 l3 l4 l5 l6 l7 l8 M =
    if (0 : Int) ≤ M 12 0 18 ∧ M 12 0 18 < 2 then (if M 139 0 (M 12 0 18).toNat = 0 then (if (0 : Int) ≤ 4 ∧ (4 : Int) < 7 then (e_X12_wearOf_126 d l1 l2 l3 l4 l5 l6 l7 l8 (amUp M 157 0 4 0)) else none) else (if (0 : Int) ≤ 83 ∧ (83 : Int) < 100 then (if (0 : Int) ≤ M 12 0 18 ∧ M 12 0 18 < 2 then (if M 139 0 (M 12 0 18).toNat = 0 then none else (if (0 : Int) ≤ w32 ((w32 (14 * (M 12 0 18))) + (Int.tmod (M 160 0 83) (M 139 0 (M 12 0 18).toNat))) ∧ w32 ((w32 (14 * (M 12 0 18))) + (Int.tmod (M 160 0 83) (M 139 0 (M 12 0 18).toNat))) < 28 then (if (0 : Int) ≤ 4 ∧ (4 : Int) < 7 then (e_X12_wearOf_126 d l1 l2 l3 l4 l5 l6 l7 l8 (amUp M 157 0 4 (M 140 0 (w32 ((w32 (14 * (M 12 0 18))) + (Int.tmod (M 160 0 83) (M 139 0 (M 12 0 18).toNat)))).toNat))) else none) else none)) else none) else none)) else none := by
  show amRun _ _ = _
  refine (amRun_t (f := amStep amGst (amD amGst d) cdX12_wearOf) 7 (x := if (0 : Int) ≤ M 12 0 18 ∧ M 12 0 18 < 2 then .inl (88, [vR 12 12 0, vI l1, vI l2, vI l3, vI l4, vI l5, vI l6, vI l7, vI l8, vU, vU, vU], [vI (M 139 0 (M 12 0 18).toNat), vI 4, vR 20 157 0], M) else amNo) rfl).trans (amK_if ?_ rfl)
  refine (amRun_t (f := amStep amGst (amD amGst d) cdX12_wearOf) 0 (x := if M 139 0 (M 12 0 18).toNat = 0 then .inl (91, [vR 12 12 0, vI l1, vI l2, vI l3, vI l4, vI l5, vI l6, vI l7, vI l8, vU, vU, vU], [vI 4, vR 20 157 0], M) else .inl (95, [vR 12 12 0, vI l1, vI l2, vI l3, vI l4, vI l5, vI l6, vI l7, vI l8, vU, vU, vU], [vI 4, vR 20 157 0], M)) rfl).trans (amK_if ?_ ?_)
  · refine (amRun_t (f := amStep amGst (amD amGst d) cdX12_wearOf) 2 (x := if (0 : Int) ≤ 4 ∧ (4 : Int) < 7 then .inl (126, [vR 12 12 0, vI l1, vI l2, vI l3, vI l4, vI l5, vI l6, vI l7, vI l8, vU, vU, vU], [], amUp M 157 0 4 0) else amNo) rfl).trans (amK_if ?_ rfl)
    exact amRun_b 0 (x := .inl (126, [vR 12 12 0, vI l1, vI l2, vI l3, vI l4, vI l5, vI l6, vI l7, vI l8, vU, vU, vU], [], amUp M 157 0 4 0)) rfl
  · refine (amRun_t (f := amStep amGst (amD amGst d) cdX12_wearOf) 9 (x := if (0 : Int) ≤ 83 ∧ (83 : Int) < 100 then .inl (113, [vR 12 12 0, vI l1, vI l2, vI l3, vI l4, vI l5, vI l6, vI l7, vI l8, vU, vU, vU], [vI (M 160 0 83), vI (w32 (14 * (M 12 0 18))), vR 20 140 0, vI 4, vR 20 157 0], M) else amNo) rfl).trans (amK_if ?_ rfl)
    refine (amRun_t (f := amStep amGst (amD amGst d) cdX12_wearOf) 4 (x := if (0 : Int) ≤ M 12 0 18 ∧ M 12 0 18 < 2 then .inl (122, [vR 12 12 0, vI l1, vI l2, vI l3, vI l4, vI l5, vI l6, vI l7, vI l8, vU, vU, vU], [vI (M 139 0 (M 12 0 18).toNat), vI (M 160 0 83), vI (w32 (14 * (M 12 0 18))), vR 20 140 0, vI 4, vR 20 157 0], M) else amNo) rfl).trans (amK_if ?_ rfl)
    refine (amRun_t (f := amStep amGst (amD amGst d) cdX12_wearOf) 0 (x := if M 139 0 (M 12 0 18).toNat = 0 then amNo else .inl (123, [vR 12 12 0, vI l1, vI l2, vI l3, vI l4, vI l5, vI l6, vI l7, vI l8, vU, vU, vU], [vI (Int.tmod (M 160 0 83) (M 139 0 (M 12 0 18).toNat)), vI (w32 (14 * (M 12 0 18))), vR 20 140 0, vI 4, vR 20 157 0], M)) rfl).trans (amK_if rfl ?_)
    refine (amRun_t (f := amStep amGst (amD amGst d) cdX12_wearOf) 1 (x := if (0 : Int) ≤ w32 ((w32 (14 * (M 12 0 18))) + (Int.tmod (M 160 0 83) (M 139 0 (M 12 0 18).toNat))) ∧ w32 ((w32 (14 * (M 12 0 18))) + (Int.tmod (M 160 0 83) (M 139 0 (M 12 0 18).toNat))) < 28 then .inl (125, [vR 12 12 0, vI l1, vI l2, vI l3, vI l4, vI l5, vI l6, vI l7, vI l8, vU, vU, vU], [vI (M 140 0 (w32 ((w32 (14 * (M 12 0 18))) + (Int.tmod (M 160 0 83) (M 139 0 (M 12 0 18).toNat)))).toNat), vI 4, vR 20 157 0], M) else amNo) rfl).trans (amK_if ?_ rfl)
    refine (amRun_t (f := amStep amGst (amD amGst d) cdX12_wearOf) 0 (x := if (0 : Int) ≤ 4 ∧ (4 : Int) < 7 then .inl (126, [vR 12 12 0, vI l1, vI l2, vI l3, vI l4, vI l5, vI l6, vI l7, vI l8, vU, vU, vU], [], amUp M 157 0 4 (M 140 0 (w32 ((w32 (14 * (M 12 0 18))) + (Int.tmod (M 160 0 83) (M 139 0 (M 12 0 18).toNat)))).toNat)) else amNo) rfl).trans (amK_if ?_ rfl)
    exact amRun_b 0 (x := .inl (126, [vR 12 12 0, vI l1, vI l2, vI l3, vI l4, vI l5, vI l6, vI l7, vI l8, vU, vU, vU], [], amUp M 157 0 4 (M 140 0 (w32 ((w32 (14 * (M 12 0 18))) + (Int.tmod (M 160 0 83) (M 139 0 (M 12 0 18).toNat)))).toNat))) rfl
theorem q_X12_wearOf_126 (d : Nat) (l1 : Int) (l2 : Int) (l3 : Int) (l4 : Int) (l5 : Int) (l6 : Int) (l7 : Int) (l8 : Int) (M : AmM) : e_X12_wearOf_126 d l1 l2 l3 l4 l5 l6 l7 l8 M =
    if l5 = 0 then (if (0 : Int) ≤ 5 ∧ (5 : Int) < 7 then (if (0 : Int) ≤ 6 ∧ (6 : Int) < 7 then (e_X12_wearOf_160 d l1 l2 l3 l4 l5 l6 l7 l8 l7 vU vU (amUp (amUp (amUp M 157 0 5 0) 157 0 6 l6) 12 0 47 0)) else none) else none) else (if (0 : Int) ≤ 5 ∧ (5 : Int) < 7 then (if (0 : Int) ≤ 6 ∧ (6 : Int) < 7 then (e_X12_wearOf_160 d l1 l2 l3 l4 l5 l6 l7 l8 l7 vU vU (amUp (amUp (amUp M 157 0 5 1) 157 0 6 l6) 12 0 47 0)) else none) else none) := by
  show amRun _ _ = _
  refine (amRun_t (f := amStep amGst (amD amGst d) cdX12_wearOf) 4 (x := if l5 = 0 then .inl (140, [vR 12 12 0, vI l1, vI l2, vI l3, vI l4, vI l5, vI l6, vI l7, vI l8, vU, vU, vU], [vI 5, vR 20 157 0], M) else .inl (136, [vR 12 12 0, vI l1, vI l2, vI l3, vI l4, vI l5, vI l6, vI l7, vI l8, vU, vU, vU], [vI 5, vR 20 157 0], M)) rfl).trans (amK_if ?_ ?_)
  · refine (amRun_t (f := amStep amGst (amD amGst d) cdX12_wearOf) 1 (x := if (0 : Int) ≤ 5 ∧ (5 : Int) < 7 then .inl (142, [vR 12 12 0, vI l1, vI l2, vI l3, vI l4, vI l5, vI l6, vI l7, vI l8, vU, vU, vU], [], amUp M 157 0 5 0) else amNo) rfl).trans (amK_if ?_ rfl)
    refine (amRun_t (f := amStep amGst (amD amGst d) cdX12_wearOf) 4 (x := if (0 : Int) ≤ 6 ∧ (6 : Int) < 7 then .inl (151, [vR 12 12 0, vI l1, vI l2, vI l3, vI l4, vI l5, vI l6, vI l7, vI l8, vU, vU, vU], [], amUp (amUp M 157 0 5 0) 157 0 6 l6) else amNo) rfl).trans (amK_if ?_ rfl)
    exact amRun_b 5 (x := .inl (160, [vR 12 12 0, vI l1, vI l2, vI l3, vI l4, vI l5, vI l6, vI l7, vI l8, vI l7, vU, vU], [], amUp (amUp (amUp M 157 0 5 0) 157 0 6 l6) 12 0 47 0)) rfl
  · refine (amRun_t (f := amStep amGst (amD amGst d) cdX12_wearOf) 2 (x := if (0 : Int) ≤ 5 ∧ (5 : Int) < 7 then .inl (142, [vR 12 12 0, vI l1, vI l2, vI l3, vI l4, vI l5, vI l6, vI l7, vI l8, vU, vU, vU], [], amUp M 157 0 5 1) else amNo) rfl).trans (amK_if ?_ rfl)
    refine (amRun_t (f := amStep amGst (amD amGst d) cdX12_wearOf) 4 (x := if (0 : Int) ≤ 6 ∧ (6 : Int) < 7 then .inl (151, [vR 12 12 0, vI l1, vI l2, vI l3, vI l4, vI l5, vI l6, vI l7, vI l8, vU, vU, vU], [], amUp (amUp M 157 0 5 1) 157 0 6 l6) else amNo) rfl).trans (amK_if ?_ rfl)
    exact amRun_b 5 (x := .inl (160, [vR 12 12 0, vI l1, vI l2, vI l3, vI l4, vI l5, vI l6, vI l7, vI l8, vI l7, vU, vU], [], amUp (amUp (amUp M 157 0 5 1) 157 0 6 l6) 12 0 47 0)) rfl
theorem q_X12_wearOf_160 (d : Nat) (l1 : Int) (l2 : Int) (l3 : Int) (l4 : Int) (l5 : Int) (l6 : Int) (l7 : Int) (l8 : Int) (l9 : Int) (u10 : AmV) (u11 : AmV) (M : AmM) : e_X12_wearOf_160 d l1 l2 l3 l4 l5 l6 l7 l8 l9 u10 u11 M =
    if l9 < l8 then (if (0 : Int) ≤ l9 ∧ l9 < 100 then (if M 149 0 (l9).toNat = 0 then (e_X12_wearOf_236 d l1 l2 l3 l4 l5 l6 l7 l8 l9 u10 u11 M) else (if (0 : Int) ≤ l9 ∧ l9 < 100 then (if (0 : Int) ≤ l9 ∧ l9 < 100 then (amCI (amD amGst d 178 [vR 12 12 0, vI (M 150 0 (l9).toNat), vI (M 151 0 (l9).toNat)] M) fun v1 M1 => if (0 : Int) ≤ l9 ∧ l9 < 100 then (if (0 : Int) ≤ l9 ∧ l9 < 100 then (amCI (amD amGst d 178 [vR 12 12 0, vI (M1 151 0 (l9).toNat), vI (M1 152 0 (l9).toNat)] M1) fun v2 M2 => if M2 12 0 47 = 0 then (if v1 < v2 then (e_X12_wearOf_236 d l1 l2 l3 l4 l5 l6 l7 l8 l9 (vI v1) (vI v2) M2) else (e_X12_wearOf_160 d l1 l2 l3 l4 l5 l6 l7 l8 (w32 (l9 + 1)) (vI v1) (vI v2) M2)) else (some (vI 0, M2))) else none) else none) else none) else none)) else none) else (some (vI 0, M)) := by
  show amRun _ _ = _
  refine (amRun_t (f := amStep amGst (amD amGst d) cdX12_wearOf) 2 (x := if l9 < l8 then .inl (167, [vR 12 12 0, vI l1, vI l2, vI l3, vI l4, vI l5, vI l6, vI l7, vI l8, vI l9, u10, u11], [], M) else .inl (293, [vR 12 12 0, vI l1, vI l2, vI l3, vI l4, vI l5, vI l6, vI l7, vI l8, vI l9, u10, u11], [], M)) rfl).trans (amK_if ?_ ?_)
  · refine (amRun_t (f := amStep amGst (amD amGst d) cdX12_wearOf) 3 (x := if (0 : Int) ≤ l9 ∧ l9 < 100 then .inl (174, [vR 12 12 0, vI l1, vI l2, vI l3, vI l4, vI l5, vI l6, vI l7, vI l8, vI l9, u10, u11], [vI (M 149 0 (l9).toNat)], M) else amNo) rfl).trans (amK_if ?_ rfl)
    refine (amRun_t (f := amStep amGst (amD amGst d) cdX12_wearOf) 0 (x := if M 149 0 (l9).toNat = 0 then .inl (236, [vR 12 12 0, vI l1, vI l2, vI l3, vI l4, vI l5, vI l6, vI l7, vI l8, vI l9, u10, u11], [], M) else .inl (177, [vR 12 12 0, vI l1, vI l2, vI l3, vI l4, vI l5, vI l6, vI l7, vI l8, vI l9, u10, u11], [], M)) rfl).trans (amK_if ?_ ?_)
    · exact amRun_b 0 (x := .inl (236, [vR 12 12 0, vI l1, vI l2, vI l3, vI l4, vI l5, vI l6, vI l7, vI l8, vI l9, u10, u11], [], M)) rfl
    · refine (amRun_t (f := amStep amGst (amD amGst d) cdX12_wearOf) 4 (x := if (0 : Int) ≤ l9 ∧ l9 < 100 then .inl (185, [vR 12 12 0, vI l1, vI l2, vI l3, vI l4, vI l5, vI l6, vI l7, vI l8, vI l9, u10, u11], [vI (M 150 0 (l9).toNat), vR 12 12 0], M) else amNo) rfl).trans (amK_if ?_ rfl)
      refine (amRun_t (f := amStep amGst (amD amGst d) cdX12_wearOf) 3 (x := if (0 : Int) ≤ l9 ∧ l9 < 100 then .inl (192, [vR 12 12 0, vI l1, vI l2, vI l3, vI l4, vI l5, vI l6, vI l7, vI l8, vI l9, u10, u11], [vI (M 151 0 (l9).toNat), vI (M 150 0 (l9).toNat), vR 12 12 0], M) else amNo) rfl).trans (amK_if ?_ rfl)
      refine (amRun_t (f := amStep amGst (amD amGst d) cdX12_wearOf) 0 (x := amPu 1 (amD amGst d 178 [vR 12 12 0, vI (M 150 0 (l9).toNat), vI (M 151 0 (l9).toNat)] M) (fun z9 M9 => .inl (195, [vR 12 12 0, vI l1, vI l2, vI l3, vI l4, vI l5, vI l6, vI l7, vI l8, vI l9, u10, u11], z9 ++ [], M9))) rfl).trans (amK_pI fun v1 M1 => ?_)
      refine (amRun_t (f := amStep amGst (amD amGst d) cdX12_wearOf) 5 (x := if (0 : Int) ≤ l9 ∧ l9 < 100 then .inl (205, [vR 12 12 0, vI l1, vI l2, vI l3, vI l4, vI l5, vI l6, vI l7, vI l8, vI l9, vI v1, u11], [vI (M1 151 0 (l9).toNat), vR 12 12 0], M1) else amNo) rfl).trans (amK_if ?_ rfl)
      refine (amRun_t (f := amStep amGst (amD amGst d) cdX12_wearOf) 3 (x := if (0 : Int) ≤ l9 ∧ l9 < 100 then .inl (212, [vR 12 12 0, vI l1, vI l2, vI l3, vI l4, vI l5, vI l6, vI l7, vI l8, vI l9, vI v1, u11], [vI (M1 152 0 (l9).toNat), vI (M1 151 0 (l9).toNat), vR 12 12 0], M1) else amNo) rfl).trans (amK_if ?_ rfl)
      refine (amRun_t (f := amStep amGst (amD amGst d) cdX12_wearOf) 0 (x := amPu 1 (amD amGst d 178 [vR 12 12 0, vI (M1 151 0 (l9).toNat), vI (M1 152 0 (l9).toNat)] M1) (fun z9 M9 => .inl (215, [vR 12 12 0, vI l1, vI l2, vI l3, vI l4, vI l5, vI l6, vI l7, vI l8, vI l9, vI v1, u11], z9 ++ [], M9))) rfl).trans (amK_pI fun v2 M2 => ?_)
      refine (amRun_t (f := amStep amGst (amD amGst d) cdX12_wearOf) 3 (x := if M2 12 0 47 = 0 then .inl (226, [vR 12 12 0, vI l1, vI l2, vI l3, vI l4, vI l5, vI l6, vI l7, vI l8, vI l9, vI v1, vI v2], [], M2) else .inl (224, [vR 12 12 0, vI l1, vI l2, vI l3, vI l4, vI l5, vI l6, vI l7, vI l8, vI l9, vI v1, vI v2], [], M2)) rfl).trans (amK_if ?_ ?_)
      · refine (amRun_t (f := amStep amGst (amD amGst d) cdX12_wearOf) 2 (x := if v1 < v2 then .inl (236, [vR 12 12 0, vI l1, vI l2, vI l3, vI l4, vI l5, vI l6, vI l7, vI l8, vI l9, vI v1, vI v2], [], M2) else .inl (233, [vR 12 12 0, vI l1, vI l2, vI l3, vI l4, vI l5, vI l6, vI l7, vI l8, vI l9, vI v1, vI v2], [], M2)) rfl).trans (amK_if ?_ ?_)
        · exact amRun_b 0 (x := .inl (236, [vR 12 12 0, vI l1, vI l2, vI l3, vI l4, vI l5, vI l6, vI l7, vI l8, vI l9, vI v1, vI v2], [], M2)) rfl
        · exact amRun_b 3 (x := .inl (160, [vR 12 12 0, vI l1, vI l2, vI l3, vI l4, vI l5, vI l6, vI l7, vI l8, vI (w32 (l9 + 1)), vI v1, vI v2], [], M2)) rfl
      · exact amRun_b 2 (x := .inr (some (vI 0, M2))) rfl
  · exact amRun_b 2 (x := .inr (some (vI 0, M))) rfl
theorem q_X12_wearOf_236 (d : Nat) (l1 : Int) (l2 : Int) (l3 : Int) (l4 : Int) (l5 : Int) (l6 : Int) (l7 : Int) (l8 : Int) (l9 : Int) (u10 : AmV) (u11 : AmV) (M : AmM) : e_X12_wearOf_236 d l1 l2 l3 l4 l5 l6 l7 l8 l9 u10 u11 M =
    if (0 : Int) ≤ l9 ∧ l9 < 100 then (if (0 : Int) ≤ l9 ∧ l9 < 100 then (amCI (amD amGst d 178 [vR 12 12 0, vI (M 152 0 (l9).toNat), vI (M 153 0 (l9).toNat)] M) fun v1 M1 => if M1 12 0 47 = 0 then (if v1 < 0 then (some (vI 0, M1)) else (if 99 < v1 then (some (vI 99, M1)) else (some (vI v1, M1)))) else (some (vI 0, M1))) else none) else none := by
  show amRun _ _ = _
  refine (amRun_t (f := amStep amGst (amD amGst d) cdX12_wearOf) 4 (x := if (0 : Int) ≤ l9 ∧ l9 < 100 then .inl (244, [vR 12 12 0, vI l1, vI l2, vI l3, vI l4, vI l5, vI l6, vI l7, vI l8, vI l9, u10, u11], [vI (M 152 0 (l9).toNat), vR 12 12 0], M) else amNo) rfl).trans (amK_if ?_ rfl)
  refine (amRun_t (f := amStep amGst (amD amGst d) cdX12_wearOf) 3 (x := if (0 : Int) ≤ l9 ∧ l9 < 100 then .inl (251, [vR 12 12 0, vI l1, vI l2, vI l3, vI l4, vI l5, vI l6, vI l7, vI l8, vI l9, u10, u11], [vI (M 153 0 (l9).toNat), vI (M 152 0 (l9).toNat), vR 12 12 0], M) else amNo) rfl).trans (amK_if ?_ rfl)
  refine (amRun_t (f := amStep amGst (amD amGst d) cdX12_wearOf) 0 (x := amPu 1 (amD amGst d 178 [vR 12 12 0, vI (M 152 0 (l9).toNat), vI (M 153 0 (l9).toNat)] M) (fun z9 M9 => .inl (254, [vR 12 12 0, vI l1, vI l2, vI l3, vI l4, vI l5, vI l6, vI l7, vI l8, vI l9, u10, u11], z9 ++ [], M9))) rfl).trans (amK_pI fun v1 M1 => ?_)
  refine (amRun_t (f := amStep amGst (amD amGst d) cdX12_wearOf) 3 (x := if M1 12 0 47 = 0 then .inl (263, [vR 12 12 0, vI l1, vI l2, vI l3, vI l4, vI l5, vI l6, vI l7, vI l8, vI l9, vI v1, u11], [], M1) else .inl (268, [vR 12 12 0, vI l1, vI l2, vI l3, vI l4, vI l5, vI l6, vI l7, vI l8, vI l9, vI v1, u11], [], M1)) rfl).trans (amK_if ?_ ?_)
  · refine (amRun_t (f := amStep amGst (amD amGst d) cdX12_wearOf) 1 (x := if v1 < 0 then .inl (268, [vR 12 12 0, vI l1, vI l2, vI l3, vI l4, vI l5, vI l6, vI l7, vI l8, vI l9, vI v1, u11], [], M1) else .inl (272, [vR 12 12 0, vI l1, vI l2, vI l3, vI l4, vI l5, vI l6, vI l7, vI l8, vI l9, vI v1, u11], [], M1)) rfl).trans (amK_if ?_ ?_)
    · exact amRun_b 3 (x := .inr (some (vI 0, M1))) rfl
    · refine (amRun_t (f := amStep amGst (amD amGst d) cdX12_wearOf) 2 (x := if 99 < v1 then .inl (279, [vR 12 12 0, vI l1, vI l2, vI l3, vI l4, vI l5, vI l6, vI l7, vI l8, vI l9, vI v1, u11], [], M1) else .inl (284, [vR 12 12 0, vI l1, vI l2, vI l3, vI l4, vI l5, vI l6, vI l7, vI l8, vI l9, vI v1, u11], [], M1)) rfl).trans (amK_if ?_ ?_)
      · exact amRun_b 3 (x := .inr (some (vI 99, M1))) rfl
      · exact amRun_b 2 (x := .inr (some (vI v1, M1))) rfl
  · exact amRun_b 3 (x := .inr (some (vI 0, M1))) rfl
theorem n_X12_wearOf (d : Nat) (l1 : Int) (l2 : Int) (l3 : Int) (l4 : Int) (l5 : Int) (l6 : Int) (M : AmM) : amD amGst (d + 1) 188 [vR 12 12 0, vI l1, vI l2, vI l3, vI l4, vI l5, vI l6] M = e_X12_wearOf_0 d l1 l2 l3 l4 l5 l6 M := rfl
noncomputable def e_X12_holds_0 (d : Nat) (l1 : Int) (l2 : Int) (l3 : Int) (l4 : Int) (M : AmM) : Option (AmV × AmM) := amRun (amStep amGst (amD amGst d) cdX12_holds) (0, [vR 12 12 0, vI l1, vI l2, vI l3, vI l4, vU, vU, vU], [], M)
noncomputable def e_X12_holds_3 (d : Nat) (l1 : Int) (l2 : Int) (l3 : Int) (l4 : Int) (l5 : Int) (u6 : AmV) (u7 : AmV) (M : AmM) : Option (AmV × AmM) := amRun (amStep amGst (amD amGst d) cdX12_holds) (3, [vR 12 12 0, vI l1, vI l2, vI l3, vI l4, vI l5, u6, u7], [], M)
noncomputable def e_X12_holds_83 (d : Nat) (l1 : Int) (l2 : Int) (l3 : Int) (l4 : Int) (l5 : Int) (l6 : Int) (l7 : Int) (M : AmM) : Option (AmV × AmM) := amRun (amStep amGst (amD amGst d) cdX12_holds) (83, [vR 12 12 0, vI l1, vI l2, vI l3, vI l4, vI l5, vI l6, vI l7], [], M)
noncomputable def e_X12_holds_109 (d : Nat) (l1 : Int) (l2 : Int) (l3 : Int) (l4 : Int) (l5 : Int) (l6 : Int) (l7 : Int) (M : AmM) : Option (AmV × AmM) := amRun (amStep amGst (amD amGst d) cdX12_holds) (109, [vR 12 12 0, vI l1, vI l2, vI l3, vI l4, vI l5, vI l6, vI l7], [], M)
theorem q_X12_holds_0 (d : Nat) (l1 : Int) (l2 : Int) (l3 : Int) (l4 : Int) (M : AmM) : e_X12_holds_0 d l1 l2 l3 l4 M =
    e_X12_holds_3 d l1 l2 l3 l4 0 vU vU M := by
  show amRun _ _ = _
  exact amRun_b 2 (x := .inl (3, [vR 12 12 0, vI l1, vI l2, vI l3, vI l4, vI 0, vU, vU], [], M)) rfl
theorem q_X12_holds_3 (d : Nat) (l1 : Int) (l2 : Int) (l3 : Int) (l4 : Int) (l5 : Int) (u6 : AmV) (u7 : AmV) (M : AmM) : e_X12_holds_3 d l1 l2 l3 l4 l5 u6 u7 M =
    if l1 = 1 then (if l5 < 2 then (if (0 : Int) ≤ l3 ∧ l3 < 100 then (amCI (amD amGst d 187 [vR 12 12 0] M) fun v1 M1 => amCI (amD amGst d 188 [vR 12 12 0, vI l1, vI l2, vI l3, vI (M 160 0 (l3).toNat), vI l4, vI v1] M1) fun v2 M2 => if M 160 0 (l3).toNat < v2 then (if (0 : Int) ≤ l3 ∧ l3 < 100 then (if (0 : Int) ≤ l3 ∧ l3 < 100 then (e_X12_holds_83 d l1 l2 l3 l4 l5 (M 160 0 (l3).toNat) v2 (amUp (amUp M2 160 0 (l3).toNat 0) 12 0 50 (w32 (((amUp M2 160 0 (l3).toNat 0) 12 0 50) + (w32 ((M 160 0 (l3).toNat) - ((amUp M2 160 0 (l3).toNat 0) 160 0 (l3).toNat))))))) else none) else none) else (if (0 : Int) ≤ l3 ∧ l3 < 100 then (if (0 : Int) ≤ l3 ∧ l3 < 100 then (e_X12_holds_83 d l1 l2 l3 l4 l5 (M 160 0 (l3).toNat) v2 (amUp (amUp M2 160 0 (l3).toNat (w32 ((M 160 0 (l3).toNat) - v2))) 12 0 50 (w32 (((amUp M2 160 0 (l3).toNat (w32 ((M 160 0 (l3).toNat) - v2))) 12 0 50) + (w32 ((M 160 0 (l3).toNat) - ((amUp M2 160 0 (l3).toNat (w32 ((M 160 0 (l3).toNat) - v2))) 160 0 (l3).toNat))))))) else none) else none)) else none) else (some (vI 1, M))) else (if l5 < 1 then (if (0 : Int) ≤ l3 ∧ l3 < 100 then (amCI (amD amGst d 187 [vR 12 12 0] M) fun v3 M3 => amCI (amD amGst d 188 [vR 12 12 0, vI l1, vI l2, vI l3, vI (M 160 0 (l3).toNat), vI l4, vI v3] M3) fun v4 M4 => if M 160 0 (l3).toNat < v4 then (if (0 : Int) ≤ l3 ∧ l3 < 100 then (if (0 : Int) ≤ l3 ∧ l3 < 100 then (e_X12_holds_83 d l1 l2 l3 l4 l5 (M 160 0 (l3).toNat) v4 (amUp (amUp M4 160 0 (l3).toNat 0) 12 0 50 (w32 (((amUp M4 160 0 (l3).toNat 0) 12 0 50) + (w32 ((M 160 0 (l3).toNat) - ((amUp M4 160 0 (l3).toNat 0) 160 0 (l3).toNat))))))) else none) else none) else (if (0 : Int) ≤ l3 ∧ l3 < 100 then (if (0 : Int) ≤ l3 ∧ l3 < 100 then (e_X12_holds_83 d l1 l2 l3 l4 l5 (M 160 0 (l3).toNat) v4 (amUp (amUp M4 160 0 (l3).toNat (w32 ((M 160 0 (l3).toNat) - v4))) 12 0 50 (w32 (((amUp M4 160 0 (l3).toNat (w32 ((M 160 0 (l3).toNat) - v4))) 12 0 50) + (w32 ((M 160 0 (l3).toNat) - ((amUp M4 160 0 (l3).toNat (w32 ((M 160 0 (l3).toNat) - v4))) 160 0 (l3).toNat))))))) else none) else none)) else none) else (some (vI 1, M))) := by
  show amRun _ _ = _
  refine (amRun_t (f := amStep amGst (amD amGst d) cdX12_holds) 3 (x := if l1 = 1 then .inl (10, [vR 12 12 0, vI l1, vI l2, vI l3, vI l4, vI l5, u6, u7], [vI l5], M) else .inl (14, [vR 12 12 0, vI l1, vI l2, vI l3, vI l4, vI l5, u6, u7], [vI l5], M)) rfl).trans (amK_if ?_ ?_)
  · refine (amRun_t (f := amStep amGst (amD amGst d) cdX12_holds) 2 (x := if l5 < 2 then .inl (18, [vR 12 12 0, vI l1, vI l2, vI l3, vI l4, vI l5, u6, u7], [], M) else .inl (137, [vR 12 12 0, vI l1, vI l2, vI l3, vI l4, vI l5, u6, u7], [], M)) rfl).trans (amK_if ?_ ?_)
    · refine (amRun_t (f := amStep amGst (amD amGst d) cdX12_holds) 3 (x := if (0 : Int) ≤ l3 ∧ l3 < 100 then .inl (24, [vR 12 12 0, vI l1, vI l2, vI l3, vI l4, vI l5, u6, u7], [vI (M 160 0 (l3).toNat)], M) else amNo) rfl).trans (amK_if ?_ rfl)
      refine (amRun_t (f := amStep amGst (amD amGst d) cdX12_holds) 8 (x := amPu 1 (amD amGst d 187 [vR 12 12 0] M) (fun z9 M9 => .inl (38, [vR 12 12 0, vI l1, vI l2, vI l3, vI l4, vI l5, vI (M 160 0 (l3).toNat), u7], z9 ++ [vI l4, vI (M 160 0 (l3).toNat), vI l3, vI l2, vI l1, vR 12 12 0], M9))) rfl).trans (amK_pI fun v1 M1 => ?_)
      refine (amRun_t (f := amStep amGst (amD amGst d) cdX12_holds) 0 (x := amPu 1 (amD amGst d 188 [vR 12 12 0, vI l1, vI l2, vI l3, vI (M 160 0 (l3).toNat), vI l4, vI v1] M1) (fun z9 M9 => .inl (41, [vR 12 12 0, vI l1, vI l2, vI l3, vI l4, vI l5, vI (M 160 0 (l3).toNat), u7], z9 ++ [], M9))) rfl).trans (amK_pI fun v2 M2 => ?_)
      refine (amRun_t (f := amStep amGst (amD amGst d) cdX12_holds) 6 (x := if M 160 0 (l3).toNat < v2 then .inl (55, [vR 12 12 0, vI l1, vI l2, vI l3, vI l4, vI l5, vI (M 160 0 (l3).toNat), vI v2], [vI l3, vR 20 160 0], M2) else .inl (59, [vR 12 12 0, vI l1, vI l2, vI l3, vI l4, vI l5, vI (M 160 0 (l3).toNat), vI v2], [vI l3, vR 20 160 0], M2)) rfl).trans (amK_if ?_ ?_)
      · refine (amRun_t (f := amStep amGst (amD amGst d) cdX12_holds) 2 (x := if (0 : Int) ≤ l3 ∧ l3 < 100 then .inl (65, [vR 12 12 0, vI l1, vI l2, vI l3, vI l4, vI l5, vI (M 160 0 (l3).toNat), vI v2], [], amUp M2 160 0 (l3).toNat 0) else amNo) rfl).trans (amK_if ?_ rfl)
        refine (amRun_t (f := amStep amGst (amD amGst d) cdX12_holds) 7 (x := if (0 : Int) ≤ l3 ∧ l3 < 100 then .inl (78, [vR 12 12 0, vI l1, vI l2, vI l3, vI l4, vI l5, vI (M 160 0 (l3).toNat), vI v2], [vI ((amUp M2 160 0 (l3).toNat 0) 160 0 (l3).toNat), vI (M 160 0 (l3).toNat), vI ((amUp M2 160 0 (l3).toNat 0) 12 0 50), vR 12 12 0], amUp M2 160 0 (l3).toNat 0) else amNo) rfl).trans (amK_if ?_ rfl)
        exact amRun_b 3 (x := .inl (83, [vR 12 12 0, vI l1, vI l2, vI l3, vI l4, vI l5, vI (M 160 0 (l3).toNat), vI v2], [], amUp (amUp M2 160 0 (l3).toNat 0) 12 0 50 (w32 (((amUp M2 160 0 (l3).toNat 0) 12 0 50) + (w32 ((M 160 0 (l3).toNat) - ((amUp M2 160 0 (l3).toNat 0) 160 0 (l3).toNat))))))) rfl
      · refine (amRun_t (f := amStep amGst (amD amGst d) cdX12_holds) 3 (x := if (0 : Int) ≤ l3 ∧ l3 < 100 then .inl (65, [vR 12 12 0, vI l1, vI l2, vI l3, vI l4, vI l5, vI (M 160 0 (l3).toNat), vI v2], [], amUp M2 160 0 (l3).toNat (w32 ((M 160 0 (l3).toNat) - v2))) else amNo) rfl).trans (amK_if ?_ rfl)
        refine (amRun_t (f := amStep amGst (amD amGst d) cdX12_holds) 7 (x := if (0 : Int) ≤ l3 ∧ l3 < 100 then .inl (78, [vR 12 12 0, vI l1, vI l2, vI l3, vI l4, vI l5, vI (M 160 0 (l3).toNat), vI v2], [vI ((amUp M2 160 0 (l3).toNat (w32 ((M 160 0 (l3).toNat) - v2))) 160 0 (l3).toNat), vI (M 160 0 (l3).toNat), vI ((amUp M2 160 0 (l3).toNat (w32 ((M 160 0 (l3).toNat) - v2))) 12 0 50), vR 12 12 0], amUp M2 160 0 (l3).toNat (w32 ((M 160 0 (l3).toNat) - v2))) else amNo) rfl).trans (amK_if ?_ rfl)
        exact amRun_b 3 (x := .inl (83, [vR 12 12 0, vI l1, vI l2, vI l3, vI l4, vI l5, vI (M 160 0 (l3).toNat), vI v2], [], amUp (amUp M2 160 0 (l3).toNat (w32 ((M 160 0 (l3).toNat) - v2))) 12 0 50 (w32 (((amUp M2 160 0 (l3).toNat (w32 ((M 160 0 (l3).toNat) - v2))) 12 0 50) + (w32 ((M 160 0 (l3).toNat) - ((amUp M2 160 0 (l3).toNat (w32 ((M 160 0 (l3).toNat) - v2))) 160 0 (l3).toNat))))))) rfl
    · exact amRun_b 2 (x := .inr (some (vI 1, M))) rfl
  · refine (amRun_t (f := amStep amGst (amD amGst d) cdX12_holds) 1 (x := if l5 < 1 then .inl (18, [vR 12 12 0, vI l1, vI l2, vI l3, vI l4, vI l5, u6, u7], [], M) else .inl (137, [vR 12 12 0, vI l1, vI l2, vI l3, vI l4, vI l5, u6, u7], [], M)) rfl).trans (amK_if ?_ ?_)
    · refine (amRun_t (f := amStep amGst (amD amGst d) cdX12_holds) 3 (x := if (0 : Int) ≤ l3 ∧ l3 < 100 then .inl (24, [vR 12 12 0, vI l1, vI l2, vI l3, vI l4, vI l5, u6, u7], [vI (M 160 0 (l3).toNat)], M) else amNo) rfl).trans (amK_if ?_ rfl)
      refine (amRun_t (f := amStep amGst (amD amGst d) cdX12_holds) 8 (x := amPu 1 (amD amGst d 187 [vR 12 12 0] M) (fun z9 M9 => .inl (38, [vR 12 12 0, vI l1, vI l2, vI l3, vI l4, vI l5, vI (M 160 0 (l3).toNat), u7], z9 ++ [vI l4, vI (M 160 0 (l3).toNat), vI l3, vI l2, vI l1, vR 12 12 0], M9))) rfl).trans (amK_pI fun v3 M3 => ?_)
      refine (amRun_t (f := amStep amGst (amD amGst d) cdX12_holds) 0 (x := amPu 1 (amD amGst d 188 [vR 12 12 0, vI l1, vI l2, vI l3, vI (M 160 0 (l3).toNat), vI l4, vI v3] M3) (fun z9 M9 => .inl (41, [vR 12 12 0, vI l1, vI l2, vI l3, vI l4, vI l5, vI (M 160 0 (l3).toNat), u7], z9 ++ [], M9))) rfl).trans (amK_pI fun v4 M4 => ?_)
      refine (amRun_t (f := amStep amGst (amD amGst d) cdX12_holds) 6 (x := if M 160 0 (l3).toNat < v4 then .inl (55, [vR 12 12 0, vI l1, vI l2, vI l3, vI l4, vI l5, vI (M 160 0 (l3).toNat), vI v4], [vI l3, vR 20 160 0], M4) else .inl (59, [vR 12 12 0, vI l1, vI l2, vI l3, vI l4, vI l5, vI (M 160 0 (l3).toNat), vI v4], [vI l3, vR 20 160 0], M4)) rfl).trans (amK_if ?_ ?_)
      · refine (amRun_t (f := amStep amGst (amD amGst d) cdX12_holds) 2 (x := if (0 : Int) ≤ l3 ∧ l3 < 100 then .inl (65, [vR 12 12 0, vI l1, vI l2, vI l3, vI l4, vI l5, vI (M 160 0 (l3).toNat), vI v4], [], amUp M4 160 0 (l3).toNat 0) else amNo) rfl).trans (amK_if ?_ rfl)
        refine (amRun_t (f := amStep amGst (amD amGst d) cdX12_holds) 7 (x := if (0 : Int) ≤ l3 ∧ l3 < 100 then .inl (78, [vR 12 12 0, vI l1, vI l2, vI l3, vI l4, vI l5, vI (M 160 0 (l3).toNat), vI v4], [vI ((amUp M4 160 0 (l3).toNat 0) 160 0 (l3).toNat), vI (M 160 0 (l3).toNat), vI ((amUp M4 160 0 (l3).toNat 0) 12 0 50), vR 12 12 0], amUp M4 160 0 (l3).toNat 0) else amNo) rfl).trans (amK_if ?_ rfl)
        exact amRun_b 3 (x := .inl (83, [vR 12 12 0, vI l1, vI l2, vI l3, vI l4, vI l5, vI (M 160 0 (l3).toNat), vI v4], [], amUp (amUp M4 160 0 (l3).toNat 0) 12 0 50 (w32 (((amUp M4 160 0 (l3).toNat 0) 12 0 50) + (w32 ((M 160 0 (l3).toNat) - ((amUp M4 160 0 (l3).toNat 0) 160 0 (l3).toNat))))))) rfl
      · refine (amRun_t (f := amStep amGst (amD amGst d) cdX12_holds) 3 (x := if (0 : Int) ≤ l3 ∧ l3 < 100 then .inl (65, [vR 12 12 0, vI l1, vI l2, vI l3, vI l4, vI l5, vI (M 160 0 (l3).toNat), vI v4], [], amUp M4 160 0 (l3).toNat (w32 ((M 160 0 (l3).toNat) - v4))) else amNo) rfl).trans (amK_if ?_ rfl)
        refine (amRun_t (f := amStep amGst (amD amGst d) cdX12_holds) 7 (x := if (0 : Int) ≤ l3 ∧ l3 < 100 then .inl (78, [vR 12 12 0, vI l1, vI l2, vI l3, vI l4, vI l5, vI (M 160 0 (l3).toNat), vI v4], [vI ((amUp M4 160 0 (l3).toNat (w32 ((M 160 0 (l3).toNat) - v4))) 160 0 (l3).toNat), vI (M 160 0 (l3).toNat), vI ((amUp M4 160 0 (l3).toNat (w32 ((M 160 0 (l3).toNat) - v4))) 12 0 50), vR 12 12 0], amUp M4 160 0 (l3).toNat (w32 ((M 160 0 (l3).toNat) - v4))) else amNo) rfl).trans (amK_if ?_ rfl)
        exact amRun_b 3 (x := .inl (83, [vR 12 12 0, vI l1, vI l2, vI l3, vI l4, vI l5, vI (M 160 0 (l3).toNat), vI v4], [], amUp (amUp M4 160 0 (l3).toNat (w32 ((M 160 0 (l3).toNat) - v4))) 12 0 50 (w32 (((amUp M4 160 0 (l3).toNat (w32 ((M 160 0 (l3).toNat) - v4))) 12 0 50) + (w32 ((M 160 0 (l3).toNat) - ((amUp M4 160 0 (l3).toNat (w32 ((M 160 0 (l3).toNat) - v4))) 160 0 (l3).toNat))))))) rfl
    · exact amRun_b 2 (x := .inr (some (vI 1, M))) rfl
theorem q_X12_holds_83 (d : Nat) (l1 : Int) (l2 : Int) (l3 : Int) (l4 : Int) (l5 : Int) (l6 : Int) (l7 : Int) (M : AmM) : e_X12_holds_83 d l1 l2 l3 l4 l5 l6 l7 M =
    if 0 < l6 then (if (0 : Int) ≤ l3 ∧ l3 < 100 then (if M 160 0 (l3).toNat = 0 then (if M 12 0 51 < 0 then (e_X12_holds_109 d l1 l2 l3 l4 l5 l6 l7 (amUp M 12 0 51 l3)) else (e_X12_holds_109 d l1 l2 l3 l4 l5 l6 l7 M)) else (e_X12_holds_109 d l1 l2 l3 l4 l5 l6 l7 M)) else none) else (e_X12_holds_109 d l1 l2 l3 l4 l5 l6 l7 M) := by
  show amRun _ _ = _
  refine (amRun_t (f := amStep amGst (amD amGst d) cdX12_holds) 1 (x := if 0 < l6 then .inl (88, [vR 12 12 0, vI l1, vI l2, vI l3, vI l4, vI l5, vI l6, vI l7], [], M) else .inl (109, [vR 12 12 0, vI l1, vI l2, vI l3, vI l4, vI l5, vI l6, vI l7], [], M)) rfl).trans (amK_if ?_ ?_)
  · refine (amRun_t (f := amStep amGst (amD amGst d) cdX12_holds) 3 (x := if (0 : Int) ≤ l3 ∧ l3 < 100 then .inl (94, [vR 12 12 0, vI l1, vI l2, vI l3, vI l4, vI l5, vI l6, vI l7], [vI (M 160 0 (l3).toNat)], M) else amNo) rfl).trans (amK_if ?_ rfl)
    refine (amRun_t (f := amStep amGst (amD amGst d) cdX12_holds) 0 (x := if M 160 0 (l3).toNat = 0 then .inl (97, [vR 12 12 0, vI l1, vI l2, vI l3, vI l4, vI l5, vI l6, vI l7], [], M) else .inl (109, [vR 12 12 0, vI l1, vI l2, vI l3, vI l4, vI l5, vI l6, vI l7], [], M)) rfl).trans (amK_if ?_ ?_)
    · refine (amRun_t (f := amStep amGst (amD amGst d) cdX12_holds) 2 (x := if M 12 0 51 < 0 then .inl (104, [vR 12 12 0, vI l1, vI l2, vI l3, vI l4, vI l5, vI l6, vI l7], [], M) else .inl (109, [vR 12 12 0, vI l1, vI l2, vI l3, vI l4, vI l5, vI l6, vI l7], [], M)) rfl).trans (amK_if ?_ ?_)
      · exact amRun_b 3 (x := .inl (109, [vR 12 12 0, vI l1, vI l2, vI l3, vI l4, vI l5, vI l6, vI l7], [], amUp M 12 0 51 l3)) rfl
      · exact amRun_b 0 (x := .inl (109, [vR 12 12 0, vI l1, vI l2, vI l3, vI l4, vI l5, vI l6, vI l7], [], M)) rfl
    · exact amRun_b 0 (x := .inl (109, [vR 12 12 0, vI l1, vI l2, vI l3, vI l4, vI l5, vI l6, vI l7], [], M)) rfl
  · exact amRun_b 0 (x := .inl (109, [vR 12 12 0, vI l1, vI l2, vI l3, vI l4, vI l5, vI l6, vI l7], [], M)) rfl
theorem q_X12_holds_109 (d : Nat) (l1 : Int) (l2 : Int) (l3 : Int) (l4 : Int) (l5 : Int) (l6 : Int) (l7 : Int) (M : AmM) : e_X12_holds_109 d l1 l2 l3 l4 l5 l6 l7 M =
    if l6 < l7 then (some (vI 0, M)) else (if (0 : Int) ≤ w32 (25 + l3) ∧ w32 (25 + l3) < 100 then (if (0 : Int) ≤ w32 (25 + l3) ∧ w32 (25 + l3) < 100 then (e_X12_holds_3 d l1 l2 l3 l4 (w32 (l5 + 1)) (vI l6) (vI l7) (amUp M 160 0 (w32 (25 + l3)).toNat (w32 ((M 160 0 (w32 (25 + l3)).toNat) + 1)))) else none) else none) := by
  show amRun _ _ = _
  refine (amRun_t (f := amStep amGst (amD amGst d) cdX12_holds) 2 (x := if l6 < l7 then .inl (116, [vR 12 12 0, vI l1, vI l2, vI l3, vI l4, vI l5, vI l6, vI l7], [], M) else .inl (118, [vR 12 12 0, vI l1, vI l2, vI l3, vI l4, vI l5, vI l6, vI l7], [], M)) rfl).trans (amK_if ?_ ?_)
  · exact amRun_b 2 (x := .inr (some (vI 0, M))) rfl
  · refine (amRun_t (f := amStep amGst (amD amGst d) cdX12_holds) 6 (x := if (0 : Int) ≤ w32 (25 + l3) ∧ w32 (25 + l3) < 100 then .inl (128, [vR 12 12 0, vI l1, vI l2, vI l3, vI l4, vI l5, vI l6, vI l7], [vI (M 160 0 (w32 (25 + l3)).toNat), vI (w32 (25 + l3)), vR 20 160 0], M) else amNo) rfl).trans (amK_if ?_ rfl)
    refine (amRun_t (f := amStep amGst (amD amGst d) cdX12_holds) 2 (x := if (0 : Int) ≤ w32 (25 + l3) ∧ w32 (25 + l3) < 100 then .inl (131, [vR 12 12 0, vI l1, vI l2, vI l3, vI l4, vI l5, vI l6, vI l7], [], amUp M 160 0 (w32 (25 + l3)).toNat (w32 ((M 160 0 (w32 (25 + l3)).toNat) + 1))) else amNo) rfl).trans (amK_if ?_ rfl)
    exact amRun_b 2 (x := .inl (3, [vR 12 12 0, vI l1, vI l2, vI l3, vI l4, vI (w32 (l5 + 1)), vI l6, vI l7], [], amUp M 160 0 (w32 (25 + l3)).toNat (w32 ((M 160 0 (w32 (25 + l3)).toNat) + 1)))) rfl
theorem n_X12_holds (d : Nat) (l1 : Int) (l2 : Int) (l3 : Int) (l4 : Int) (M : AmM) : amD amGst (d + 1) 189 [vR 12 12 0, vI l1, vI l2, vI l3, vI l4] M = e_X12_holds_0 d l1 l2 l3 l4 M := rfl
noncomputable def e_X12_isThere_0 (d : Nat) (l1 : Int) (M : AmM) : Option (AmV × AmM) := amRun (amStep amGst (amD amGst d) cdX12_isThere) (0, [vR 12 12 0, vI l1], [], M)
theorem q_X12_isThere_0 (d : Nat) (l1 : Int) (M : AmM) : e_X12_isThere_0 d l1 M =
    if 0 < l1 then (amCI (amD amGst d 180 [vR 12 12 0] M) fun v1 M1 => if l1 < v1 then (if (0 : Int) ≤ l1 ∧ l1 < 100 then (if 0 < M1 160 0 (l1).toNat then (some (vI 1, M1)) else (some (vI 0, M1))) else none) else (some (vI 1, M1))) else (some (vI 1, M)) := by
  show amRun _ _ = _
  refine (amRun_t (f := amStep amGst (amD amGst d) cdX12_isThere) 1 (x := if 0 < l1 then .inl (4, [vR 12 12 0, vI l1], [], M) else .inl (21, [vR 12 12 0, vI l1], [], M)) rfl).trans (amK_if ?_ ?_)
  · refine (amRun_t (f := amStep amGst (amD amGst d) cdX12_isThere) 2 (x := amPu 1 (amD amGst d 180 [vR 12 12 0] M) (fun z9 M9 => .inl (9, [vR 12 12 0, vI l1], z9 ++ [vI l1], M9))) rfl).trans (amK_pI fun v1 M1 => ?_)
    refine (amRun_t (f := amStep amGst (amD amGst d) cdX12_isThere) 0 (x := if l1 < v1 then .inl (12, [vR 12 12 0, vI l1], [], M1) else .inl (21, [vR 12 12 0, vI l1], [], M1)) rfl).trans (amK_if ?_ ?_)
    · refine (amRun_t (f := amStep amGst (amD amGst d) cdX12_isThere) 3 (x := if (0 : Int) ≤ l1 ∧ l1 < 100 then .inl (18, [vR 12 12 0, vI l1], [vI (M1 160 0 (l1).toNat)], M1) else amNo) rfl).trans (amK_if ?_ rfl)
      refine (amRun_t (f := amStep amGst (amD amGst d) cdX12_isThere) 0 (x := if 0 < M1 160 0 (l1).toNat then .inl (21, [vR 12 12 0, vI l1], [], M1) else .inl (25, [vR 12 12 0, vI l1], [], M1)) rfl).trans (amK_if ?_ ?_)
      · exact amRun_b 3 (x := .inr (some (vI 1, M1))) rfl
      · exact amRun_b 2 (x := .inr (some (vI 0, M1))) rfl
    · exact amRun_b 3 (x := .inr (some (vI 1, M1))) rfl
  · exact amRun_b 3 (x := .inr (some (vI 1, M))) rfl
theorem n_X12_isThere (d : Nat) (l1 : Int) (M : AmM) : amD amGst (d + 1) 190 [vR 12 12 0, vI l1] M = e_X12_isThere_0 d l1 M := rfl
noncomputable def e_X12_nextUp_0 (d : Nat) (l1 : Int) (l2 : Int) (M : AmM) : Option (AmV × AmM) := amRun (amStep amGst (amD amGst d) cdX12_nextUp) (0, [vR 12 12 0, vI l1, vI l2], [], M)
noncomputable def e_X12_nextUp_19 (d : Nat) (l1 : Int) (l2 : Int) (M : AmM) : Option (AmV × AmM) := amRun (amStep amGst (amD amGst d) cdX12_nextUp) (19, [vR 12 12 0, vI l1, vI l2], [], M)
theorem q_X12_nextUp_0 (d : Nat) (l1 : Int) (l2 : Int) (M : AmM) : e_X12_nextUp_0 d l1 l2 M =
    if l2 = 0 then (e_X12_nextUp_19 d l1 l2 M) else (amCI (amD amGst d 180 [vR 12 12 0] M) fun v1 M1 => if w32 (l1 + 2) < v1 then (e_X12_nextUp_19 d l1 l2 M1) else (amCI (amD amGst d 180 [vR 12 12 0] M1) fun v2 M2 => some (vI v2, M2))) := by
  show amRun _ _ = _
  refine (amRun_t (f := amStep amGst (amD amGst d) cdX12_nextUp) 1 (x := if l2 = 0 then .inl (19, [vR 12 12 0, vI l1, vI l2], [], M) else .inl (4, [vR 12 12 0, vI l1, vI l2], [], M)) rfl).trans (amK_if ?_ ?_)
  · exact amRun_b 0 (x := .inl (19, [vR 12 12 0, vI l1, vI l2], [], M)) rfl
  · refine (amRun_t (f := amStep amGst (amD amGst d) cdX12_nextUp) 4 (x := amPu 1 (amD amGst d 180 [vR 12 12 0] M) (fun z9 M9 => .inl (11, [vR 12 12 0, vI l1, vI l2], z9 ++ [vI (w32 (l1 + 2))], M9))) rfl).trans (amK_pI fun v1 M1 => ?_)
    refine (amRun_t (f := amStep amGst (amD amGst d) cdX12_nextUp) 0 (x := if w32 (l1 + 2) < v1 then .inl (19, [vR 12 12 0, vI l1, vI l2], [], M1) else .inl (14, [vR 12 12 0, vI l1, vI l2], [], M1)) rfl).trans (amK_if ?_ ?_)
    · exact amRun_b 0 (x := .inl (19, [vR 12 12 0, vI l1, vI l2], [], M1)) rfl
    · refine (amRun_t (f := amStep amGst (amD amGst d) cdX12_nextUp) 1 (x := amPu 1 (amD amGst d 180 [vR 12 12 0] M1) (fun z9 M9 => .inl (18, [vR 12 12 0, vI l1, vI l2], z9 ++ [], M9))) rfl).trans (amK_pI fun v2 M2 => ?_)
      exact amRun_b 1 (x := .inr (some (vI v2, M2))) rfl
theorem q_X12_nextUp_19 (d : Nat) (l1 : Int) (l2 : Int) (M : AmM) : e_X12_nextUp_19 d l1 l2 M =
    if l2 = 0 then (some (vI (w32 (l1 + 1)), M)) else (amCI (amD amGst d 190 [vR 12 12 0, vI (w32 (l1 + 2))] M) fun v1 M1 => if v1 = 0 then (some (vI (w32 (l1 + 1)), M1)) else (some (vI (w32 (l1 + 2)), M1))) := by
  show amRun _ _ = _
  refine (amRun_t (f := amStep amGst (amD amGst d) cdX12_nextUp) 1 (x := if l2 = 0 then .inl (39, [vR 12 12 0, vI l1, vI l2], [], M) else .inl (23, [vR 12 12 0, vI l1, vI l2], [], M)) rfl).trans (amK_if ?_ ?_)
  · exact amRun_b 4 (x := .inr (some (vI (w32 (l1 + 1)), M))) rfl
  · refine (amRun_t (f := amStep amGst (amD amGst d) cdX12_nextUp) 4 (x := amPu 1 (amD amGst d 190 [vR 12 12 0, vI (w32 (l1 + 2))] M) (fun z9 M9 => .inl (30, [vR 12 12 0, vI l1, vI l2], z9 ++ [], M9))) rfl).trans (amK_pI fun v1 M1 => ?_)
    refine (amRun_t (f := amStep amGst (amD amGst d) cdX12_nextUp) 0 (x := if v1 = 0 then .inl (39, [vR 12 12 0, vI l1, vI l2], [], M1) else .inl (33, [vR 12 12 0, vI l1, vI l2], [], M1)) rfl).trans (amK_if ?_ ?_)
    · exact amRun_b 4 (x := .inr (some (vI (w32 (l1 + 1)), M1))) rfl
    · exact amRun_b 5 (x := .inr (some (vI (w32 (l1 + 2)), M1))) rfl
theorem n_X12_nextUp (d : Nat) (l1 : Int) (l2 : Int) (M : AmM) : amD amGst (d + 1) 191 [vR 12 12 0, vI l1, vI l2] M = e_X12_nextUp_0 d l1 l2 M := rfl
noncomputable def e_X12_nextDown_0 (d : Nat) (l1 : Int) (l2 : Int) (M : AmM) : Option (AmV × AmM) := amRun (amStep amGst (amD amGst d) cdX12_nextDown) (0, [vR 12 12 0, vI l1, vI l2], [], M)
noncomputable def e_X12_nextDown_11 (d : Nat) (l1 : Int) (l2 : Int) (M : AmM) : Option (AmV × AmM) := amRun (amStep amGst (amD amGst d) cdX12_nextDown) (11, [vR 12 12 0, vI l1, vI l2], [], M)
theorem q_X12_nextDown_0 (d : Nat) (l1 : Int) (l2 : Int) (M : AmM) : e_X12_nextDown_0 d l1 l2 M =
    if l2 = 0 then (e_X12_nextDown_11 d l1 l2 M) else (if 2 < l1 then (e_X12_nextDown_11 d l1 l2 M) else (some (vI 0, M))) := by
  show amRun _ _ = _
  refine (amRun_t (f := amStep amGst (amD amGst d) cdX12_nextDown) 1 (x := if l2 = 0 then .inl (11, [vR 12 12 0, vI l1, vI l2], [], M) else .inl (4, [vR 12 12 0, vI l1, vI l2], [], M)) rfl).trans (amK_if ?_ ?_)
  · exact amRun_b 0 (x := .inl (11, [vR 12 12 0, vI l1, vI l2], [], M)) rfl
  · refine (amRun_t (f := amStep amGst (amD amGst d) cdX12_nextDown) 2 (x := if 2 < l1 then .inl (11, [vR 12 12 0, vI l1, vI l2], [], M) else .inl (9, [vR 12 12 0, vI l1, vI l2], [], M)) rfl).trans (amK_if ?_ ?_)
    · exact amRun_b 0 (x := .inl (11, [vR 12 12 0, vI l1, vI l2], [], M)) rfl
    · exact amRun_b 2 (x := .inr (some (vI 0, M))) rfl
theorem q_X12_nextDown_11 (d : Nat) (l1 : Int) (l2 : Int) (M : AmM) : e_X12_nextDown_11 d l1 l2 M =
    if l2 = 0 then (some (vI (w32 (l1 - 1)), M)) else (amCI (amD amGst d 190 [vR 12 12 0, vI (w32 (l1 - 2))] M) fun v1 M1 => if v1 = 0 then (some (vI (w32 (l1 - 1)), M1)) else (some (vI (w32 (l1 - 2)), M1))) := by
  show amRun _ _ = _
  refine (amRun_t (f := amStep amGst (amD amGst d) cdX12_nextDown) 1 (x := if l2 = 0 then .inl (31, [vR 12 12 0, vI l1, vI l2], [], M) else .inl (15, [vR 12 12 0, vI l1, vI l2], [], M)) rfl).trans (amK_if ?_ ?_)
  · exact amRun_b 4 (x := .inr (some (vI (w32 (l1 - 1)), M))) rfl
  · refine (amRun_t (f := amStep amGst (amD amGst d) cdX12_nextDown) 4 (x := amPu 1 (amD amGst d 190 [vR 12 12 0, vI (w32 (l1 - 2))] M) (fun z9 M9 => .inl (22, [vR 12 12 0, vI l1, vI l2], z9 ++ [], M9))) rfl).trans (amK_pI fun v1 M1 => ?_)
    refine (amRun_t (f := amStep amGst (amD amGst d) cdX12_nextDown) 0 (x := if v1 = 0 then .inl (31, [vR 12 12 0, vI l1, vI l2], [], M1) else .inl (25, [vR 12 12 0, vI l1, vI l2], [], M1)) rfl).trans (amK_if ?_ ?_)
    · exact amRun_b 4 (x := .inr (some (vI (w32 (l1 - 1)), M1))) rfl
    · exact amRun_b 5 (x := .inr (some (vI (w32 (l1 - 2)), M1))) rfl
theorem n_X12_nextDown (d : Nat) (l1 : Int) (l2 : Int) (M : AmM) : amD amGst (d + 1) 192 [vR 12 12 0, vI l1, vI l2] M = e_X12_nextDown_0 d l1 l2 M := rfl
noncomputable def e_X12_goesDown_0 (d : Nat) (l1 : Int) (l2 : Int) (M : AmM) : Option (AmV × AmM) := amRun (amStep amGst (amD amGst d) cdX12_goesDown) (0, [vR 12 12 0, vI l1, vI l2, vU, vU], [], M)
noncomputable def e_X12_goesDown_2 (d : Nat) (l1 : Int) (l2 : Int) (l3 : Int) (u4 : AmV) (M : AmM) : Option (AmV × AmM) := amRun (amStep amGst (amD amGst d) cdX12_goesDown) (2, [vR 12 12 0, vI l1, vI l2, vI l3, u4], [], M)
theorem q_X12_goesDown_0 (d : Nat) (l1 : Int) (l2 : Int) (M : AmM) : e_X12_goesDown_0 d l1 l2 M =
    e_X12_goesDown_2 d l1 l2 l2 vU M := by
  show amRun _ _ = _
  exact amRun_b 2 (x := .inl (2, [vR 12 12 0, vI l1, vI l2, vI l2, vU], [], M)) rfl
theorem q_X12_goesDown_2 (d : Nat) (l1 : Int) (l2 : Int) (l3 : Int) (u4 : AmV) (M : AmM) : e_X12_goesDown_2 d l1 l2 l3 u4 M =
    if 0 < l3 then (amCI (amD amGst d 184 [vR 12 12 0, vI l1] M) fun v1 M1 => if v1 = 2 then (amCI (amD amGst d 192 [vR 12 12 0, vI l3, vI 1] M1) fun v2 M2 => if 0 < v2 then (amCI (amD amGst d 190 [vR 12 12 0, vI v2] M2) fun v3 M3 => if v3 = 0 then (some (vI 2, amUp M3 12 0 52 l3)) else (amCI (amD amGst d 184 [vR 12 12 0, vI l1] M3) fun v4 M4 => if (0 : Int) ≤ w32 ((w32 (8 * (M4 12 0 18))) + l1) ∧ w32 ((w32 (8 * (M4 12 0 18))) + l1) < 16 then (amCI (amD amGst d 189 [vR 12 12 0, vI v4, vI (M4 144 0 (w32 ((w32 (8 * (M4 12 0 18))) + l1)).toNat), vI v2, vI 0] M4) fun v5 M5 => if v5 = 0 then (some (vI 2, amUp M5 12 0 52 l3)) else (e_X12_goesDown_2 d l1 l2 v2 (vI v2) M5)) else none)) else (e_X12_goesDown_2 d l1 l2 v2 (vI v2) M2)) else (amCI (amD amGst d 192 [vR 12 12 0, vI l3, vI 0] M1) fun v6 M6 => if 0 < v6 then (amCI (amD amGst d 190 [vR 12 12 0, vI v6] M6) fun v7 M7 => if v7 = 0 then (some (vI 2, amUp M7 12 0 52 l3)) else (amCI (amD amGst d 184 [vR 12 12 0, vI l1] M7) fun v8 M8 => if (0 : Int) ≤ w32 ((w32 (8 * (M8 12 0 18))) + l1) ∧ w32 ((w32 (8 * (M8 12 0 18))) + l1) < 16 then (amCI (amD amGst d 189 [vR 12 12 0, vI v8, vI (M8 144 0 (w32 ((w32 (8 * (M8 12 0 18))) + l1)).toNat), vI v6, vI 0] M8) fun v9 M9 => if v9 = 0 then (some (vI 2, amUp M9 12 0 52 l3)) else (e_X12_goesDown_2 d l1 l2 v6 (vI v6) M9)) else none)) else (e_X12_goesDown_2 d l1 l2 v6 (vI v6) M6))) else (some (vI 0, amUp M 12 0 52 0)) := by
  show amRun _ _ = _
  refine (amRun_t (f := amStep amGst (amD amGst d) cdX12_goesDown) 1 (x := if 0 < l3 then .inl (6, [vR 12 12 0, vI l1, vI l2, vI l3, u4], [], M) else .inl (83, [vR 12 12 0, vI l1, vI l2, vI l3, u4], [], M)) rfl).trans (amK_if ?_ ?_)
  · refine (amRun_t (f := amStep amGst (amD amGst d) cdX12_goesDown) 4 (x := amPu 1 (amD amGst d 184 [vR 12 12 0, vI l1] M) (fun z9 M9 => .inl (13, [vR 12 12 0, vI l1, vI l2, vI l3, u4], z9 ++ [vI l3, vR 12 12 0], M9))) rfl).trans (amK_pI fun v1 M1 => ?_)
    refine (amRun_t (f := amStep amGst (amD amGst d) cdX12_goesDown) 1 (x := if v1 = 2 then .inl (17, [vR 12 12 0, vI l1, vI l2, vI l3, u4], [vI l3, vR 12 12 0], M1) else .inl (21, [vR 12 12 0, vI l1, vI l2, vI l3, u4], [vI l3, vR 12 12 0], M1)) rfl).trans (amK_if ?_ ?_)
    · refine (amRun_t (f := amStep amGst (amD amGst d) cdX12_goesDown) 2 (x := amPu 1 (amD amGst d 192 [vR 12 12 0, vI l3, vI 1] M1) (fun z9 M9 => .inl (25, [vR 12 12 0, vI l1, vI l2, vI l3, u4], z9 ++ [], M9))) rfl).trans (amK_pI fun v2 M2 => ?_)
      refine (amRun_t (f := amStep amGst (amD amGst d) cdX12_goesDown) 2 (x := if 0 < v2 then .inl (32, [vR 12 12 0, vI l1, vI l2, vI l3, vI v2], [], M2) else .inl (77, [vR 12 12 0, vI l1, vI l2, vI l3, vI v2], [], M2)) rfl).trans (amK_if ?_ ?_)
      · refine (amRun_t (f := amStep amGst (amD amGst d) cdX12_goesDown) 2 (x := amPu 1 (amD amGst d 190 [vR 12 12 0, vI v2] M2) (fun z9 M9 => .inl (38, [vR 12 12 0, vI l1, vI l2, vI l3, vI v2], z9 ++ [], M9))) rfl).trans (amK_pI fun v3 M3 => ?_)
        refine (amRun_t (f := amStep amGst (amD amGst d) cdX12_goesDown) 0 (x := if v3 = 0 then .inl (70, [vR 12 12 0, vI l1, vI l2, vI l3, vI v2], [], M3) else .inl (41, [vR 12 12 0, vI l1, vI l2, vI l3, vI v2], [], M3)) rfl).trans (amK_if ?_ ?_)
        · exact amRun_b 5 (x := .inr (some (vI 2, amUp M3 12 0 52 l3))) rfl
        · refine (amRun_t (f := amStep amGst (amD amGst d) cdX12_goesDown) 3 (x := amPu 1 (amD amGst d 184 [vR 12 12 0, vI l1] M3) (fun z9 M9 => .inl (47, [vR 12 12 0, vI l1, vI l2, vI l3, vI v2], z9 ++ [vR 12 12 0], M9))) rfl).trans (amK_pI fun v4 M4 => ?_)
          refine (amRun_t (f := amStep amGst (amD amGst d) cdX12_goesDown) 8 (x := if (0 : Int) ≤ w32 ((w32 (8 * (M4 12 0 18))) + l1) ∧ w32 ((w32 (8 * (M4 12 0 18))) + l1) < 16 then .inl (61, [vR 12 12 0, vI l1, vI l2, vI l3, vI v2], [vI (M4 144 0 (w32 ((w32 (8 * (M4 12 0 18))) + l1)).toNat), vI v4, vR 12 12 0], M4) else amNo) rfl).trans (amK_if ?_ rfl)
          refine (amRun_t (f := amStep amGst (amD amGst d) cdX12_goesDown) 2 (x := amPu 1 (amD amGst d 189 [vR 12 12 0, vI v4, vI (M4 144 0 (w32 ((w32 (8 * (M4 12 0 18))) + l1)).toNat), vI v2, vI 0] M4) (fun z9 M9 => .inl (67, [vR 12 12 0, vI l1, vI l2, vI l3, vI v2], z9 ++ [], M9))) rfl).trans (amK_pI fun v5 M5 => ?_)
          refine (amRun_t (f := amStep amGst (amD amGst d) cdX12_goesDown) 0 (x := if v5 = 0 then .inl (70, [vR 12 12 0, vI l1, vI l2, vI l3, vI v2], [], M5) else .inl (77, [vR 12 12 0, vI l1, vI l2, vI l3, vI v2], [], M5)) rfl).trans (amK_if ?_ ?_)
          · exact amRun_b 5 (x := .inr (some (vI 2, amUp M5 12 0 52 l3))) rfl
          · exact amRun_b 3 (x := .inl (2, [vR 12 12 0, vI l1, vI l2, vI v2, vI v2], [], M5)) rfl
      · exact amRun_b 3 (x := .inl (2, [vR 12 12 0, vI l1, vI l2, vI v2, vI v2], [], M2)) rfl
    · refine (amRun_t (f := amStep amGst (amD amGst d) cdX12_goesDown) 1 (x := amPu 1 (amD amGst d 192 [vR 12 12 0, vI l3, vI 0] M1) (fun z9 M9 => .inl (25, [vR 12 12 0, vI l1, vI l2, vI l3, u4], z9 ++ [], M9))) rfl).trans (amK_pI fun v6 M6 => ?_)
      refine (amRun_t (f := amStep amGst (amD amGst d) cdX12_goesDown) 2 (x := if 0 < v6 then .inl (32, [vR 12 12 0, vI l1, vI l2, vI l3, vI v6], [], M6) else .inl (77, [vR 12 12 0, vI l1, vI l2, vI l3, vI v6], [], M6)) rfl).trans (amK_if ?_ ?_)
      · refine (amRun_t (f := amStep amGst (amD amGst d) cdX12_goesDown) 2 (x := amPu 1 (amD amGst d 190 [vR 12 12 0, vI v6] M6) (fun z9 M9 => .inl (38, [vR 12 12 0, vI l1, vI l2, vI l3, vI v6], z9 ++ [], M9))) rfl).trans (amK_pI fun v7 M7 => ?_)
        refine (amRun_t (f := amStep amGst (amD amGst d) cdX12_goesDown) 0 (x := if v7 = 0 then .inl (70, [vR 12 12 0, vI l1, vI l2, vI l3, vI v6], [], M7) else .inl (41, [vR 12 12 0, vI l1, vI l2, vI l3, vI v6], [], M7)) rfl).trans (amK_if ?_ ?_)
        · exact amRun_b 5 (x := .inr (some (vI 2, amUp M7 12 0 52 l3))) rfl
        · refine (amRun_t (f := amStep amGst (amD amGst d) cdX12_goesDown) 3 (x := amPu 1 (amD amGst d 184 [vR 12 12 0, vI l1] M7) (fun z9 M9 => .inl (47, [vR 12 12 0, vI l1, vI l2, vI l3, vI v6], z9 ++ [vR 12 12 0], M9))) rfl).trans (amK_pI fun v8 M8 => ?_)
          refine (amRun_t (f := amStep amGst (amD amGst d) cdX12_goesDown) 8 (x := if (0 : Int) ≤ w32 ((w32 (8 * (M8 12 0 18))) + l1) ∧ w32 ((w32 (8 * (M8 12 0 18))) + l1) < 16 then .inl (61, [vR 12 12 0, vI l1, vI l2, vI l3, vI v6], [vI (M8 144 0 (w32 ((w32 (8 * (M8 12 0 18))) + l1)).toNat), vI v8, vR 12 12 0], M8) else amNo) rfl).trans (amK_if ?_ rfl)
          refine (amRun_t (f := amStep amGst (amD amGst d) cdX12_goesDown) 2 (x := amPu 1 (amD amGst d 189 [vR 12 12 0, vI v8, vI (M8 144 0 (w32 ((w32 (8 * (M8 12 0 18))) + l1)).toNat), vI v6, vI 0] M8) (fun z9 M9 => .inl (67, [vR 12 12 0, vI l1, vI l2, vI l3, vI v6], z9 ++ [], M9))) rfl).trans (amK_pI fun v9 M9 => ?_)
          refine (amRun_t (f := amStep amGst (amD amGst d) cdX12_goesDown) 0 (x := if v9 = 0 then .inl (70, [vR 12 12 0, vI l1, vI l2, vI l3, vI v6], [], M9) else .inl (77, [vR 12 12 0, vI l1, vI l2, vI l3, vI v6], [], M9)) rfl).trans (amK_if ?_ ?_)
          · exact amRun_b 5 (x := .inr (some (vI 2, amUp M9 12 0 52 l3))) rfl
          · exact amRun_b 3 (x := .inl (2, [vR 12 12 0, vI l1, vI l2, vI v6, vI v6], [], M9)) rfl
      · exact amRun_b 3 (x := .inl (2, [vR 12 12 0, vI l1, vI l2, vI v6, vI v6], [], M6)) rfl
  · exact amRun_b 5 (x := .inr (some (vI 0, amUp M 12 0 52 0))) rfl
theorem n_X12_goesDown (d : Nat) (l1 : Int) (l2 : Int) (M : AmM) : amD amGst (d + 1) 193 [vR 12 12 0, vI l1, vI l2] M = e_X12_goesDown_0 d l1 l2 M := rfl
noncomputable def e_X12_comesOf_0 (d : Nat) (l1 : Int) (M : AmM) : Option (AmV × AmM) := amRun (amStep amGst (amD amGst d) cdX12_comesOf) (0, [vR 12 12 0, vI l1, vU, vU], [], M)
noncomputable def e_X12_comesOf_7 (d : Nat) (l1 : Int) (l2 : Int) (u3 : AmV) (M : AmM) : Option (AmV × AmM) := amRun (amStep amGst (amD amGst d) cdX12_comesOf) (7, [vR 12 12 0, vI l1, vI l2, u3], [], M)
theorem q_X12_comesOf_0 (d : Nat) (l1 : Int) (M : AmM) : e_X12_comesOf_0 d l1 M =
    e_X12_comesOf_7 d l1 0 vU (amUp M 12 0 50 0) := by
  show amRun _ _ = _
  exact amRun_b 5 (x := .inl (7, [vR 12 12 0, vI l1, vI 0, vU], [], amUp M 12 0 50 0)) rfl
theorem q_X12_comesOf_7 (d : Nat) (l1 : Int) (l2 : Int) (u3 : AmV) (M : AmM) : e_X12_comesOf_7 d l1 l2 u3 M =
    amCI (amD amGst d 180 [vR 12 12 0] M) fun v1 M1 => if l2 < v1 then (amCI (amD amGst d 184 [vR 12 12 0, vI l1] M1) fun v2 M2 => if v2 = 2 then (amCI (amD amGst d 191 [vR 12 12 0, vI l2, vI 1] M2) fun v3 M3 => amCI (amD amGst d 190 [vR 12 12 0, vI v3] M3) fun v4 M4 => if v4 = 0 then (amCI (amD amGst d 193 [vR 12 12 0, vI l1, vI l2] M4) fun v5 M5 => if v5 = 0 then (some (vI 1, M5)) else (some (vI 2, M5))) else (amCI (amD amGst d 180 [vR 12 12 0] M4) fun v6 M6 => if v3 < v6 then (amCI (amD amGst d 184 [vR 12 12 0, vI l1] M6) fun v7 M7 => if (0 : Int) ≤ w32 ((w32 (8 * (M7 12 0 18))) + l1) ∧ w32 ((w32 (8 * (M7 12 0 18))) + l1) < 16 then (amCI (amD amGst d 189 [vR 12 12 0, vI v7, vI (M7 144 0 (w32 ((w32 (8 * (M7 12 0 18))) + l1)).toNat), vI v3, vI 1] M7) fun v8 M8 => if v8 = 0 then (if l2 = 0 then (some (vI 1, amUp M8 12 0 52 l2)) else (some (vI 2, amUp M8 12 0 52 l2))) else (e_X12_comesOf_7 d l1 v3 (vI v3) M8)) else none) else (e_X12_comesOf_7 d l1 v3 (vI v3) M6))) else (amCI (amD amGst d 191 [vR 12 12 0, vI l2, vI 0] M2) fun v9 M9 => amCI (amD amGst d 190 [vR 12 12 0, vI v9] M9) fun v10 M10 => if v10 = 0 then (amCI (amD amGst d 193 [vR 12 12 0, vI l1, vI l2] M10) fun v11 M11 => if v11 = 0 then (some (vI 1, M11)) else (some (vI 2, M11))) else (amCI (amD amGst d 180 [vR 12 12 0] M10) fun v12 M12 => if v9 < v12 then (amCI (amD amGst d 184 [vR 12 12 0, vI l1] M12) fun v13 M13 => if (0 : Int) ≤ w32 ((w32 (8 * (M13 12 0 18))) + l1) ∧ w32 ((w32 (8 * (M13 12 0 18))) + l1) < 16 then (amCI (amD amGst d 189 [vR 12 12 0, vI v13, vI (M13 144 0 (w32 ((w32 (8 * (M13 12 0 18))) + l1)).toNat), vI v9, vI 1] M13) fun v14 M14 => if v14 = 0 then (if l2 = 0 then (some (vI 1, amUp M14 12 0 52 l2)) else (some (vI 2, amUp M14 12 0 52 l2))) else (e_X12_comesOf_7 d l1 v9 (vI v9) M14)) else none) else (e_X12_comesOf_7 d l1 v9 (vI v9) M12)))) else (amCI (amD amGst d 184 [vR 12 12 0, vI l1] (amUp M1 12 0 52 l2)) fun v15 M15 => if v15 = 3 then (some (vI 0, M15)) else (amCI (amD amGst d 193 [vR 12 12 0, vI l1, vI l2] M15) fun v16 M16 => some (vI v16, M16))) := by
  show amRun _ _ = _
  refine (amRun_t (f := amStep amGst (amD amGst d) cdX12_comesOf) 2 (x := amPu 1 (amD amGst d 180 [vR 12 12 0] M) (fun z9 M9 => .inl (12, [vR 12 12 0, vI l1, vI l2, u3], z9 ++ [vI l2], M9))) rfl).trans (amK_pI fun v1 M1 => ?_)
  refine (amRun_t (f := amStep amGst (amD amGst d) cdX12_comesOf) 0 (x := if l2 < v1 then .inl (15, [vR 12 12 0, vI l1, vI l2, u3], [], M1) else .inl (114, [vR 12 12 0, vI l1, vI l2, u3], [], M1)) rfl).trans (amK_if ?_ ?_)
  · refine (amRun_t (f := amStep amGst (amD amGst d) cdX12_comesOf) 4 (x := amPu 1 (amD amGst d 184 [vR 12 12 0, vI l1] M1) (fun z9 M9 => .inl (22, [vR 12 12 0, vI l1, vI l2, u3], z9 ++ [vI l2, vR 12 12 0], M9))) rfl).trans (amK_pI fun v2 M2 => ?_)
    refine (amRun_t (f := amStep amGst (amD amGst d) cdX12_comesOf) 1 (x := if v2 = 2 then .inl (26, [vR 12 12 0, vI l1, vI l2, u3], [vI l2, vR 12 12 0], M2) else .inl (30, [vR 12 12 0, vI l1, vI l2, u3], [vI l2, vR 12 12 0], M2)) rfl).trans (amK_if ?_ ?_)
    · refine (amRun_t (f := amStep amGst (amD amGst d) cdX12_comesOf) 2 (x := amPu 1 (amD amGst d 191 [vR 12 12 0, vI l2, vI 1] M2) (fun z9 M9 => .inl (34, [vR 12 12 0, vI l1, vI l2, u3], z9 ++ [], M9))) rfl).trans (amK_pI fun v3 M3 => ?_)
      refine (amRun_t (f := amStep amGst (amD amGst d) cdX12_comesOf) 3 (x := amPu 1 (amD amGst d 190 [vR 12 12 0, vI v3] M3) (fun z9 M9 => .inl (40, [vR 12 12 0, vI l1, vI l2, vI v3], z9 ++ [], M9))) rfl).trans (amK_pI fun v4 M4 => ?_)
      refine (amRun_t (f := amStep amGst (amD amGst d) cdX12_comesOf) 0 (x := if v4 = 0 then .inl (43, [vR 12 12 0, vI l1, vI l2, vI v3], [], M4) else .inl (58, [vR 12 12 0, vI l1, vI l2, vI v3], [], M4)) rfl).trans (amK_if ?_ ?_)
      · refine (amRun_t (f := amStep amGst (amD amGst d) cdX12_comesOf) 3 (x := amPu 1 (amD amGst d 193 [vR 12 12 0, vI l1, vI l2] M4) (fun z9 M9 => .inl (49, [vR 12 12 0, vI l1, vI l2, vI v3], z9 ++ [], M9))) rfl).trans (amK_pI fun v5 M5 => ?_)
        refine (amRun_t (f := amStep amGst (amD amGst d) cdX12_comesOf) 0 (x := if v5 = 0 then .inl (52, [vR 12 12 0, vI l1, vI l2, vI v3], [], M5) else .inl (56, [vR 12 12 0, vI l1, vI l2, vI v3], [], M5)) rfl).trans (amK_if ?_ ?_)
        · exact amRun_b 3 (x := .inr (some (vI 1, M5))) rfl
        · exact amRun_b 2 (x := .inr (some (vI 2, M5))) rfl
      · refine (amRun_t (f := amStep amGst (amD amGst d) cdX12_comesOf) 2 (x := amPu 1 (amD amGst d 180 [vR 12 12 0] M4) (fun z9 M9 => .inl (63, [vR 12 12 0, vI l1, vI l2, vI v3], z9 ++ [vI v3], M9))) rfl).trans (amK_pI fun v6 M6 => ?_)
        refine (amRun_t (f := amStep amGst (amD amGst d) cdX12_comesOf) 0 (x := if v3 < v6 then .inl (66, [vR 12 12 0, vI l1, vI l2, vI v3], [], M6) else .inl (109, [vR 12 12 0, vI l1, vI l2, vI v3], [], M6)) rfl).trans (amK_if ?_ ?_)
        · refine (amRun_t (f := amStep amGst (amD amGst d) cdX12_comesOf) 3 (x := amPu 1 (amD amGst d 184 [vR 12 12 0, vI l1] M6) (fun z9 M9 => .inl (72, [vR 12 12 0, vI l1, vI l2, vI v3], z9 ++ [vR 12 12 0], M9))) rfl).trans (amK_pI fun v7 M7 => ?_)
          refine (amRun_t (f := amStep amGst (amD amGst d) cdX12_comesOf) 8 (x := if (0 : Int) ≤ w32 ((w32 (8 * (M7 12 0 18))) + l1) ∧ w32 ((w32 (8 * (M7 12 0 18))) + l1) < 16 then .inl (86, [vR 12 12 0, vI l1, vI l2, vI v3], [vI (M7 144 0 (w32 ((w32 (8 * (M7 12 0 18))) + l1)).toNat), vI v7, vR 12 12 0], M7) else amNo) rfl).trans (amK_if ?_ rfl)
          refine (amRun_t (f := amStep amGst (amD amGst d) cdX12_comesOf) 2 (x := amPu 1 (amD amGst d 189 [vR 12 12 0, vI v7, vI (M7 144 0 (w32 ((w32 (8 * (M7 12 0 18))) + l1)).toNat), vI v3, vI 1] M7) (fun z9 M9 => .inl (91, [vR 12 12 0, vI l1, vI l2, vI v3], z9 ++ [], M9))) rfl).trans (amK_pI fun v8 M8 => ?_)
          refine (amRun_t (f := amStep amGst (amD amGst d) cdX12_comesOf) 0 (x := if v8 = 0 then .inl (94, [vR 12 12 0, vI l1, vI l2, vI v3], [], M8) else .inl (109, [vR 12 12 0, vI l1, vI l2, vI v3], [], M8)) rfl).trans (amK_if ?_ ?_)
          · refine (amRun_t (f := amStep amGst (amD amGst d) cdX12_comesOf) 4 (x := if l2 = 0 then .inl (103, [vR 12 12 0, vI l1, vI l2, vI v3], [], amUp M8 12 0 52 l2) else .inl (107, [vR 12 12 0, vI l1, vI l2, vI v3], [], amUp M8 12 0 52 l2)) rfl).trans (amK_if ?_ ?_)
            · exact amRun_b 3 (x := .inr (some (vI 1, amUp M8 12 0 52 l2))) rfl
            · exact amRun_b 2 (x := .inr (some (vI 2, amUp M8 12 0 52 l2))) rfl
          · exact amRun_b 3 (x := .inl (7, [vR 12 12 0, vI l1, vI v3, vI v3], [], M8)) rfl
        · exact amRun_b 3 (x := .inl (7, [vR 12 12 0, vI l1, vI v3, vI v3], [], M6)) rfl
    · refine (amRun_t (f := amStep amGst (amD amGst d) cdX12_comesOf) 1 (x := amPu 1 (amD amGst d 191 [vR 12 12 0, vI l2, vI 0] M2) (fun z9 M9 => .inl (34, [vR 12 12 0, vI l1, vI l2, u3], z9 ++ [], M9))) rfl).trans (amK_pI fun v9 M9 => ?_)
      refine (amRun_t (f := amStep amGst (amD amGst d) cdX12_comesOf) 3 (x := amPu 1 (amD amGst d 190 [vR 12 12 0, vI v9] M9) (fun z9 M9 => .inl (40, [vR 12 12 0, vI l1, vI l2, vI v9], z9 ++ [], M9))) rfl).trans (amK_pI fun v10 M10 => ?_)
      refine (amRun_t (f := amStep amGst (amD amGst d) cdX12_comesOf) 0 (x := if v10 = 0 then .inl (43, [vR 12 12 0, vI l1, vI l2, vI v9], [], M10) else .inl (58, [vR 12 12 0, vI l1, vI l2, vI v9], [], M10)) rfl).trans (amK_if ?_ ?_)
      · refine (amRun_t (f := amStep amGst (amD amGst d) cdX12_comesOf) 3 (x := amPu 1 (amD amGst d 193 [vR 12 12 0, vI l1, vI l2] M10) (fun z9 M9 => .inl (49, [vR 12 12 0, vI l1, vI l2, vI v9], z9 ++ [], M9))) rfl).trans (amK_pI fun v11 M11 => ?_)
        refine (amRun_t (f := amStep amGst (amD amGst d) cdX12_comesOf) 0 (x := if v11 = 0 then .inl (52, [vR 12 12 0, vI l1, vI l2, vI v9], [], M11) else .inl (56, [vR 12 12 0, vI l1, vI l2, vI v9], [], M11)) rfl).trans (amK_if ?_ ?_)
        · exact amRun_b 3 (x := .inr (some (vI 1, M11))) rfl
        · exact amRun_b 2 (x := .inr (some (vI 2, M11))) rfl
      · refine (amRun_t (f := amStep amGst (amD amGst d) cdX12_comesOf) 2 (x := amPu 1 (amD amGst d 180 [vR 12 12 0] M10) (fun z9 M9 => .inl (63, [vR 12 12 0, vI l1, vI l2, vI v9], z9 ++ [vI v9], M9))) rfl).trans (amK_pI fun v12 M12 => ?_)
        refine (amRun_t (f := amStep amGst (amD amGst d) cdX12_comesOf) 0 (x := if v9 < v12 then .inl (66, [vR 12 12 0, vI l1, vI l2, vI v9], [], M12) else .inl (109, [vR 12 12 0, vI l1, vI l2, vI v9], [], M12)) rfl).trans (amK_if ?_ ?_)
        · refine (amRun_t (f := amStep amGst (amD amGst d) cdX12_comesOf) 3 (x := amPu 1 (amD amGst d 184 [vR 12 12 0, vI l1] M12) (fun z9 M9 => .inl (72, [vR 12 12 0, vI l1, vI l2, vI v9], z9 ++ [vR 12 12 0], M9))) rfl).trans (amK_pI fun v13 M13 => ?_)
          refine (amRun_t (f := amStep amGst (amD amGst d) cdX12_comesOf) 8 (x := if (0 : Int) ≤ w32 ((w32 (8 * (M13 12 0 18))) + l1) ∧ w32 ((w32 (8 * (M13 12 0 18))) + l1) < 16 then .inl (86, [vR 12 12 0, vI l1, vI l2, vI v9], [vI (M13 144 0 (w32 ((w32 (8 * (M13 12 0 18))) + l1)).toNat), vI v13, vR 12 12 0], M13) else amNo) rfl).trans (amK_if ?_ rfl)
          refine (amRun_t (f := amStep amGst (amD amGst d) cdX12_comesOf) 2 (x := amPu 1 (amD amGst d 189 [vR 12 12 0, vI v13, vI (M13 144 0 (w32 ((w32 (8 * (M13 12 0 18))) + l1)).toNat), vI v9, vI 1] M13) (fun z9 M9 => .inl (91, [vR 12 12 0, vI l1, vI l2, vI v9], z9 ++ [], M9))) rfl).trans (amK_pI fun v14 M14 => ?_)
          refine (amRun_t (f := amStep amGst (amD amGst d) cdX12_comesOf) 0 (x := if v14 = 0 then .inl (94, [vR 12 12 0, vI l1, vI l2, vI v9], [], M14) else .inl (109, [vR 12 12 0, vI l1, vI l2, vI v9], [], M14)) rfl).trans (amK_if ?_ ?_)
          · refine (amRun_t (f := amStep amGst (amD amGst d) cdX12_comesOf) 4 (x := if l2 = 0 then .inl (103, [vR 12 12 0, vI l1, vI l2, vI v9], [], amUp M14 12 0 52 l2) else .inl (107, [vR 12 12 0, vI l1, vI l2, vI v9], [], amUp M14 12 0 52 l2)) rfl).trans (amK_if ?_ ?_)
            · exact amRun_b 3 (x := .inr (some (vI 1, amUp M14 12 0 52 l2))) rfl
            · exact amRun_b 2 (x := .inr (some (vI 2, amUp M14 12 0 52 l2))) rfl
          · exact amRun_b 3 (x := .inl (7, [vR 12 12 0, vI l1, vI v9, vI v9], [], M14)) rfl
        · exact amRun_b 3 (x := .inl (7, [vR 12 12 0, vI l1, vI v9, vI v9], [], M12)) rfl
  · refine (amRun_t (f := amStep amGst (amD amGst d) cdX12_comesOf) 5 (x := amPu 1 (amD amGst d 184 [vR 12 12 0, vI l1] (amUp M1 12 0 52 l2)) (fun z9 M9 => .inl (124, [vR 12 12 0, vI l1, vI l2, u3], z9 ++ [], M9))) rfl).trans (amK_pI fun v15 M15 => ?_)
    refine (amRun_t (f := amStep amGst (amD amGst d) cdX12_comesOf) 1 (x := if v15 = 3 then .inl (128, [vR 12 12 0, vI l1, vI l2, u3], [], M15) else .inl (132, [vR 12 12 0, vI l1, vI l2, u3], [], M15)) rfl).trans (amK_if ?_ ?_)
    · exact amRun_b 3 (x := .inr (some (vI 0, M15))) rfl
    · refine (amRun_t (f := amStep amGst (amD amGst d) cdX12_comesOf) 3 (x := amPu 1 (amD amGst d 193 [vR 12 12 0, vI l1, vI l2] M15) (fun z9 M9 => .inl (138, [vR 12 12 0, vI l1, vI l2, u3], z9 ++ [], M9))) rfl).trans (amK_pI fun v16 M16 => ?_)
      exact amRun_b 1 (x := .inr (some (vI v16, M16))) rfl
theorem n_X12_comesOf (d : Nat) (l1 : Int) (M : AmM) : amD amGst (d + 1) 194 [vR 12 12 0, vI l1] M = e_X12_comesOf_0 d l1 M := rfl
