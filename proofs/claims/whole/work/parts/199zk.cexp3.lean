/-! PURE: the class reads expressions, on -/
section CEY
variable {D d t len : Nat} {κ ν : Nat → Nat} {M : AmM}
theorem wI_ne {w : Nat} (hw : w = 0 ∨ w = 2 ∨ w = 3) : (wI w = -1 ↔ w = 0) := by
  unfold wI
  split <;> omega
theorem c_smEnd (hd : 2 ≤ d) {n l3 : Int} {u4 u5 : AmV} {l : Nat} {e : Ex} {w : Nat} (hw : w = 0 ∨ w = 2 ∨ w = 3) (hl : l + e.length + (if w = 0 then 0 else 1) ≤ t) (h : cPs κ t (l + e.length) M) (he : cAt (M 100 1) l e) : cOut κ l (.inr (t, e ++ wlX w)) (e_X4_readSum_138 d n (wI w) l3 u4 u5 M) M := by
  rw [q_X4_readSum_138]
  by_cases h0 : w = 0
  · rw [if_pos ((wI_ne hw).2 h0)]
    have : wlX w = [] := if_pos h0
    rw [this, List.append_nil]
    exact ⟨M, rfl, amSame.refl, h, he⟩
  · rw [if_neg h0] at hl
    have hwl : wlX w = [(w, 0)] := if_neg h0
    have hwi : wI w = (w : Int) + 2 := if_neg h0
    rw [if_neg (fun q => h0 ((wI_ne hw).1 q)), hwi, c_emit (by omega) (by have := h.1; omega) h.2.2.2.2 (by omega) (by omega), amCV_s, hwl, show (w : Int) + 2 + 8 * 0 = (w : Int) + 2 by omega]
    refine ⟨_, rfl, em_fEx (by omega), ?_, c_opAt he (by omega)⟩
    rw [List.length_append]
    exact h.em (by omega)
theorem sgn_w {w : Nat} (h : sgnK w = true) : w ≠ 21 ∧ w ≠ 22 := by
  have := sgnK_b.1 h
  omega
theorem cPs.ta {M' : AmM} {w : Nat} (hT : cTk κ ν M) (hs : amSame fTa M M') : cTk κ ν M' := hT.pa (hs.mono fTa_fPa)
theorem c_smLoop (hd : 3 ≤ d) {n : Int} {un : Nat → Pr (Nat × Ex)} (hC : cUnC κ ν d n un) (hG : ∀ t t1 e, un t = .inr (t1, e) → t < t1 ∧ e.length ≤ t1 - t) {l : Nat} : ∀ (k t : Nat) (e : Ex) (w i : Nat) (u4 u5 : AmV) (M : AmM), 401 ≤ t + k → i + 1 ≤ t → (w = 0 ∨ w = 2 ∨ w = 3) → l + e.length + (if w = 0 then 0 else 1) ≤ t → cTk κ ν M → cPs κ t (l + e.length) M → cAt (M 100 1) l e → cOut κ l (lpX κ un k t e w) (e_X4_readSum_9 d n (wI w) (i : Int) u4 u5 M) M
  | 0, t, e, w, i, u4, u5, M, hk, hi, hw, hl, hT, h, he => by
    have := h.1.1
    omega
  | k + 1, t, e, w, i, u4, u5, M, hk, hi, hw, hl, hT, h, he => by
    have h400 := h.1.1
    have h4 := h.2.2.1
    rw [q_X4_readSum_9, if_pos (by omega), h4, c_isSign (by omega), amCI_s]
    unfold lpX
    by_cases hs : sgnK (κ t) = true
    · have hsk := sgnK_b.1 hs
      have eS : (if sgnK (κ t) = true then (1 : Int) else 0) = 1 := if_pos hs
      rw [if_pos hs, eS, if_neg (show ¬ (1 : Int) = 0 by decide), h4]
      obtain ⟨d', ed⟩ := dS (show 0 + 1 ≤ d by omega)
      -- behind the sign
      have h75 : ∀ (l2 l4 l5 : Int) (w' : Nat) (M0 : AmM) (e0 : Ex), l4 = ((κ t : Nat) : Int) → amSame (fEx l) M M0 → cPs κ t (l + e0.length) M0 → cAt (M0 100 1) l e0 → l + e0.length + (if w' = 0 then 0 else 1) ≤ t → (w' = 0 ∨ w' = 2 ∨ w' = 3) → (((κ t = 42 ∨ κ t = 47) ∧ l5 = 0 ∧ e0 = e ∧ w' = w ∧ l2 = wI w) ∨ ((κ t = 43 ∨ κ t = 45) ∧ l5 = 1 ∧ e0 = e ++ wlX w ∧ w' = w')) → cOut κ l (if t < 400 then (match un (t + 1) with
        | .inl x => .inl x
        | .inr (t1, e1) => if κ t = 42 then lpX κ un k t1 (e ++ e1 ++ [(4, 0)]) w else if κ t = 47 then lpX κ un k t1 (e ++ e1 ++ [(5, 0)]) w else lpX κ un k t1 (e ++ wlX w ++ e1) (if κ t = 43 then 2 else 3)) else .inl (2, t)) (e_X4_readSum_75 d n l2 (i : Int) l4 l5 M0) M := fun l2 l4 l5 w' M0 e0 hl4 hs0 hP0 he0 hl0 hw' hc => by
        have hT0 := hT.pa (hs0.mono fEx_fPa)
        obtain ⟨M1, a1, a2, a3⟩ := c_take (D := d) (by omega) hT0 (sgn_w hs) hP0
        have ek : tkX κ (κ t) t = if t < 400 then .inr (t + 1) else .inl (2, t) := if_pos rfl
        rw [ek] at a3
        -- what a FAULT comes to
        have hF : ∀ (c q : Nat) (M2 : AmM), amSame fPa M M2 → cFt c q M2 → ∃ M', (if l5 = 0 then (if l4 = 42 then (amCV (amD amGst d 14 [vR 1 1 1, vI 6, vI 0] M2) fun M3 => e_X4_readSum_9 d n l2 (w32 ((i : Int) + 1)) (vI l4) (vI l5) M3) else (amCV (amD amGst d 14 [vR 1 1 1, vI 7, vI 0] M2) fun M4 => e_X4_readSum_9 d n l2 (w32 ((i : Int) + 1)) (vI l4) (vI l5) M4)) else (if l4 = 43 then (e_X4_readSum_9 d n 4 (w32 ((i : Int) + 1)) (vI l4) (vI l5) M2) else (e_X4_readSum_9 d n 5 (w32 ((i : Int) + 1)) (vI l4) (vI l5) M2))) = some (vU, M') ∧ amSame fPa M M' ∧ cFt c q M' := fun c q M2 hs2 hf => by
          split
          · split
            · obtain ⟨M3, b1, b2⟩ := c_emitF (D := d) (M := M2) (k := 6) (v := 0) (by omega)
              obtain ⟨M4, b3, b4, b5⟩ := c_9F (d := d) (n := n) (l2 := l2) (l3 := w32 ((i : Int) + 1)) (u4 := vI l4) (u5 := vI l5) (by omega) (hf.em b2)
              exact ⟨M4, by rw [b1, amCV_s]; exact b3, (hs2.trans (b2.mono fEm_fPa)).trans (b4.mono fEm_fPa), b5⟩
            · obtain ⟨M3, b1, b2⟩ := c_emitF (D := d) (M := M2) (k := 7) (v := 0) (by omega)
              obtain ⟨M4, b3, b4, b5⟩ := c_9F (d := d) (n := n) (l2 := l2) (l3 := w32 ((i : Int) + 1)) (u4 := vI l4) (u5 := vI l5) (by omega) (hf.em b2)
              exact ⟨M4, by rw [b1, amCV_s]; exact b3, (hs2.trans (b2.mono fEm_fPa)).trans (b4.mono fEm_fPa), b5⟩
          · split
            · obtain ⟨M4, b3, b4, b5⟩ := c_9F (d := d) (n := n) (l2 := 4) (l3 := w32 ((i : Int) + 1)) (u4 := vI l4) (u5 := vI l5) (by omega) hf
              exact ⟨M4, b3, hs2.trans (b4.mono fEm_fPa), b5⟩
            · obtain ⟨M4, b3, b4, b5⟩ := c_9F (d := d) (n := n) (l2 := 5) (l3 := w32 ((i : Int) + 1)) (u4 := vI l4) (u5 := vI l5) (by omega) hf
              exact ⟨M4, b3, hs2.trans (b4.mono fEm_fPa), b5⟩
        rw [q_X4_readSum_75, hl4, a1, amCV_s]
        by_cases h40 : t < 400
        · rw [if_pos h40] at a3 ⊢
          have hT1 := hT0.pa (a2.mono fTa_fPa)
          have hu := hC (t + 1) (l + e0.length) M1 hT1 a3
          cases hun : un (t + 1) with
          | inl x =>
            obtain ⟨c, q⟩ := x
            rw [hun] at hu
            obtain ⟨M2, b1, b2, b3⟩ := hu
            rw [b1, amCV_s, ← hl4]
            exact hF c q M2 (((hs0.mono fEx_fPa).trans (a2.mono fTa_fPa)).trans b2) b3
          | inr x =>
            obtain ⟨t1, e1⟩ := x
            rw [hun] at hu
            obtain ⟨M2, b1, b2, b3, b4⟩ := hu
            obtain ⟨g1, g2⟩ := hG (t + 1) t1 e1 hun
            rw [b1, amCV_s]
            have s02 : amSame (fEx l) M M2 := (hs0.trans (a2.mono fTa_fEx)).trans (b2.mono (fEx_up (by omega)))
            have hT2 := hT.pa (s02.mono fEx_fPa)
            have he2 : cAt (M2 100 1) l (e0 ++ e1) := cAt2_app e0 e1 l (cAt2_mv e0 l he0 fun j x y => by
              rw [b2 100 1 j (by
                unfold fEx fTa
                rw [show Nat.ble (l + e0.length) j = false from ble_f (by omega)]
                rfl), a2 100 1 j (by rfl)]) b4
            have hP2 : cPs κ t1 (l + (e0 ++ e1).length) M2 := by
              rw [List.length_append, ← Nat.add_assoc]
              exact b3
            have hlen : (e0 ++ e1).length = e0.length + e1.length := List.length_append
            rcases hc with ⟨hk2, h5, rfl, rfl, hl2⟩ | ⟨hk2, h5, rfl, -⟩
            · -- strong
              rw [h5, if_pos (show (0 : Int) = 0 from rfl)]
              have strong : ∀ o : Nat, (o = 4 ∨ o = 5) → cOut κ l (lpX κ un k t1 (e0 ++ e1 ++ [(o, 0)]) w') (amCV (amD amGst d 14 [vR 1 1 1, vI ((o : Int) + 2), vI 0] M2) fun M3 => e_X4_readSum_9 d n l2 (w32 ((i : Int) + 1)) (vI ((κ t : Nat) : Int)) (vI 0) M3) M := fun o ho => by
                have hll : l + (e0 ++ e1).length + 1 ≤ t1 := by split at hl0 <;> omega
                rw [c_emit (by omega) (by have := hP2.1; omega) hP2.2.2.2.2 (show 0 ≤ (o : Int) + 2 ∧ (o : Int) + 2 < 8 by omega) (by omega), amCV_s, show (o : Int) + 2 + 8 * 0 = (o : Int) + 2 by omega, hl2, w32_n (x := (i : Int) + 1) (n := i + 1) (by omega) (by omega)]
                have s3 : amSame (fEx l) M2 (amUp (amUp M2 100 1 (l + (e0 ++ e1).length) ((o : Int) + 2)) 1 1 1 ((l + (e0 ++ e1).length + 1 : Nat) : Int)) := em_fEx (by omega)
                have ih := c_smLoop hd hC hG (l := l) k t1 (e0 ++ e1 ++ [(o, 0)]) w' (i + 1) (vI ((κ t : Nat) : Int)) (vI 0) _ (by omega) (by omega) hw' (by
                  rw [List.length_append]
                  show l + ((e0 ++ e1).length + 1) + _ ≤ t1
                  split at hl0 <;> split <;> omega) (hT2.pa (s3.mono fEx_fPa)) (by
                  have : (e0 ++ e1 ++ [(o, 0)]).length = (e0 ++ e1).length + 1 := List.length_append
                  rw [this, ← Nat.add_assoc]
                  exact hP2.em hll) (c_opAt he2 (by omega))
                revert ih
                cases lpX κ un k t1 (e0 ++ e1 ++ [(o, 0)]) w' with
                | inl x =>
                  obtain ⟨c, q⟩ := x
                  intro ih
                  obtain ⟨M4, f1, f2, f3⟩ := ih
                  exact ⟨M4, f1, ((s02.trans s3).mono fEx_fPa).trans f2, f3⟩
                | inr x =>
                  obtain ⟨t2, e2⟩ := x
                  intro ih
                  obtain ⟨M4, f1, f2, f3⟩ := ih
                  exact ⟨M4, f1, (s02.trans s3).trans f2, f3⟩
              by_cases h42 : κ t = 42
              · rw [if_pos (show ((κ t : Nat) : Int) = 42 by omega)]
                show cOut κ l (if κ t = 42 then _ else _) _ M
                rw [if_pos h42]
                exact strong 4 (Or.inl rfl)
              · rw [if_neg (show ¬ ((κ t : Nat) : Int) = 42 by omega)]
                show cOut κ l (if κ t = 42 then _ else if κ t = 47 then _ else _) _ M
                rw [if_neg h42, if_pos (show κ t = 47 by omega)]
                exact strong 5 (Or.inr rfl)
            · -- weak
              rw [h5, if_neg (show ¬ (1 : Int) = 0 by decide)]
              show cOut κ l (if κ t = 42 then _ else if κ t = 47 then _ else lpX κ un k t1 (e ++ wlX w ++ e1) (if κ t = 43 then 2 else 3)) _ M
              rw [if_neg (show ¬ κ t = 42 by omega), if_neg (show ¬ κ t = 47 by omega)]
              have weak : ∀ o : Nat, (o = 2 ∨ o = 3) → cOut κ l (lpX κ un k t1 (e ++ wlX w ++ e1) o) (e_X4_readSum_9 d n ((o : Int) + 2) (w32 ((i : Int) + 1)) (vI ((κ t : Nat) : Int)) (vI 1) M2) M := fun o ho => by
                have hwo : wI o = (o : Int) + 2 := if_neg (by omega)
                rw [← hwo, w32_n (x := (i : Int) + 1) (n := i + 1) (by omega) (by omega)]
                have ih := c_smLoop hd hC hG (l := l) k t1 (e ++ wlX w ++ e1) o (i + 1) (vI ((κ t : Nat) : Int)) (vI 1) M2 (by omega) (by omega) (Or.inr ho) (by
                  rw [if_neg (by omega)]
                  split at hl0 <;> omega) hT2 hP2 he2
                revert ih
                cases lpX κ un k t1 (e ++ wlX w ++ e1) o with
                | inl x =>
                  obtain ⟨c, q⟩ := x
                  intro ih
                  obtain ⟨M4, f1, f2, f3⟩ := ih
                  exact ⟨M4, f1, (s02.mono fEx_fPa).trans f2, f3⟩
                | inr x =>
                  obtain ⟨t2, e2⟩ := x
                  intro ih
                  obtain ⟨M4, f1, f2, f3⟩ := ih
                  exact ⟨M4, f1, s02.trans f2, f3⟩
              by_cases h43 : κ t = 43
              · rw [if_pos h43, if_pos (show ((κ t : Nat) : Int) = 43 by omega)]
                exact weak 2 (Or.inl rfl)
              · rw [if_neg h43, if_neg (show ¬ ((κ t : Nat) : Int) = 43 by omega)]
                exact weak 3 (Or.inr rfl)
        · rw [if_neg h40] at a3 ⊢
          rw [c_unitF (by omega) a3, amCV_s, ← hl4]
          exact hF 2 t M1 ((hs0.mono fEx_fPa).trans (a2.mono fTa_fPa)) a3
      -- the sign itself
      have hweak : (κ t = 43 ∨ κ t = 45) → cOut κ l (if t < 400 then (match un (t + 1) with
        | .inl x => .inl x
        | .inr (t1, e1) => if κ t = 42 then lpX κ un k t1 (e ++ e1 ++ [(4, 0)]) w else if κ t = 47 then lpX κ un k t1 (e ++ e1 ++ [(5, 0)]) w else lpX κ un k t1 (e ++ wlX w ++ e1) (if κ t = 43 then 2 else 3)) else .inl (2, t)) (e_X4_readSum_46 d n (wI w) (i : Int) ((κ t : Nat) : Int) u5 M) M := fun hk2 => by
        rw [q_X4_readSum_46, if_neg (show ¬ (1 : Int) = 0 by decide)]
        by_cases h0 : w = 0
        · have hwl : wlX w = [] := if_pos h0
          rw [if_pos ((wI_ne hw).2 h0)]
          refine h75 _ _ 1 w M (e ++ wlX w) rfl amSame.refl ?_ ?_ ?_ hw (Or.inr ⟨hk2, rfl, rfl, rfl⟩)
          · rw [hwl, List.append_nil]; exact h
          · rw [hwl, List.append_nil]; exact he
          · rw [hwl, List.append_nil]; exact hl
        · rw [if_neg h0] at hl
          have hwl : wlX w = [(w, 0)] := if_neg h0
          have hwi : wI w = (w : Int) + 2 := if_neg h0
          rw [if_neg (fun q => h0 ((wI_ne hw).1 q)), hwi, c_emit (by omega) (by omega) h.2.2.2.2 (by omega) (by omega), amCV_s, show (w : Int) + 2 + 8 * 0 = (w : Int) + 2 by omega]
          have elen : (e ++ wlX w).length = e.length + 1 := by rw [hwl]; exact List.length_append
          have hP0 := h.em (v := (w : Int) + 2) (show l + e.length + 1 ≤ t by omega)
          have he0 : cAt (amUp (amUp M 100 1 (l + e.length) ((w : Int) + 2)) 1 1 1 ((l + e.length + 1 : Nat) : Int) 100 1) l (e ++ wlX w) := by
            rw [hwl]
            exact c_opAt he (by omega)
          refine h75 _ _ 1 0 _ (e ++ wlX w) rfl (em_fEx (by omega)) ?_ he0 ?_ (Or.inl rfl) (Or.inr ⟨hk2, rfl, rfl, rfl⟩)
          · rw [elen, ← Nat.add_assoc]; exact hP0
          · rw [elen, if_pos rfl]; omega
      by_cases h43 : κ t = 43
      · rw [if_pos (show ((κ t : Nat) : Int) = 43 by omega)]
        exact hweak (Or.inl h43)
      · rw [if_neg (show ¬ ((κ t : Nat) : Int) = 43 by omega)]
        by_cases h45 : κ t = 45
        · rw [if_pos (show ((κ t : Nat) : Int) = 45 by omega)]
          exact hweak (Or.inr h45)
        · rw [if_neg (show ¬ ((κ t : Nat) : Int) = 45 by omega), if_pos (show (0 : Int) = 0 from rfl)]
          exact h75 (wI w) _ 0 w M e rfl amSame.refl h he hl hw (Or.inl ⟨by omega, rfl, rfl, rfl, rfl⟩)
    · have eS : (if sgnK (κ t) = true then (1 : Int) else 0) = 0 := if_neg hs
      rw [if_neg hs, eS, if_pos (show (0 : Int) = 0 from rfl)]
      exact c_smEnd (by omega) hw hl h he
end CEY
