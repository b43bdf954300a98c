/-! THE FIRST WORLD: the law's first rows -/
theorem am_first0 {X : Nat → Nat → Int} {cal : Nat → List AmV → AmM → AmG → Nat → Option (AmM × AmG × Nat)} (hC : amNiC1 X cal) {M2 M3 : AmM} {G2 G3 : AmG} (h1 : cal 11 [vR 11 11 0] (amRst amZ0 11 0) (amGst1 amGz 11 0) 1 = some (M2, G2, 427)) (h2 : cal 12 [vR 12 12 0] (amRst M2 12 0) (amGst1 G2 12 0) 428 = some (M3, G3, 470)) :
    cal 11 [vR 11 11 0] (amRst (ov X amZ0) 11 0) (amGst1 amGz 11 0) 1 = some (ov X M2, G2, 427) ∧ cal 12 [vR 12 12 0] (amRst (ov X M2) 12 0) (amGst1 G2 12 0) 428 = some (ov X M3, G3, 470) := by
  have k1 := hC 11 [vR 11 11 0] (amRst amZ0 11 0) (amGst1 amGz 11 0) 1 M2 G2 427 (by decide) (amGst1_n90 fun _ _ _ => rfl) h1
  have k2 := hC 12 [vR 12 12 0] (amRst M2 12 0) (amGst1 G2 12 0) 428 M3 G3 470 (by decide) (amGst1_n90 k1.2) h2
  rw [ov_rst (c := 11) (by decide), ov_rst (c := 12) (by decide)]
  exact ⟨k1.1, k2.1⟩
theorem amC2_key {n2 : Nat} {w r : Option (AmM × AmG × Nat)} {r' : AmM × AmG × Nat} (hr : r = some r') (h : (bif n2 == 427 then w else none) = r) : n2 = 427 ∧ w = r := by
  cases hn : n2 == 427 with
  | false => rw [hn, hr] at h; cases h
  | true => rw [hn] at h; exact ⟨by simpa using hn, h⟩
theorem amC2_of {M2 M3 : AmM} {G2 G3 : AmG} {n2 : Nat} (h1 : amC1 = some (M2, G2, n2)) (h2 : amC2 = some (M3, G3, 470)) : n2 = 427 ∧ amD1 5 12 [vR 12 12 0] (amRst M2 12 0) (amGst1 G2 12 0) 428 = some (M3, G3, 470) := by
  unfold amC2 at h2
  rw [h1] at h2
  exact amC2_key rfl h2
theorem am_first (X : Nat → Nat → Int) : ∃ M2 G2 M3 G3, amD1 5 11 [vR 11 11 0] (amRst (ov X amZ0) 11 0) (amGst1 amGz 11 0) 1 = some (M2, G2, 427) ∧ amD1 5 12 [vR 12 12 0] (amRst M2 12 0) (amGst1 G2 12 0) 428 = some (ov X M3, G3, 470) ∧ amChkG G3 = true ∧ amChkM M3 = true := by
  have h := amC_chk
  unfold amC2s at h
  cases h2 : amC2 with
  | none => rw [h2] at h; cases h
  | some w =>
    obtain ⟨M3, G3, n3⟩ := w
    rw [h2] at h
    simp only [Bool.and_eq_true, decide_eq_true_eq] at h
    obtain ⟨h470, hG, hM⟩ := h
    rw [h470] at h2
    cases h1 : amC1 with
    | none => unfold amC2 at h2; rw [h1] at h2; cases h2
    | some w =>
      obtain ⟨M2, G2, n2⟩ := w
      obtain ⟨h427, h4⟩ := amC2_of h1 h2
      rw [h427] at h1
      unfold amC1 at h1
      have h6 := am_first0 (amD1_ni (X := X) 5) h1 h4
      exact ⟨ov X M2, G2, M3, G3, h6.1, h6.2, hG, hM⟩
/-- the law's first rows -/
theorem amB_s {σ ρ : Type} {f : σ → σ ⊕ Option ρ} {c c' : σ} {k : Nat} {r : σ ⊕ Option ρ} (h : f c = .inl c') (h2 : amB f k c' = r) : amB f (k + 1) c = r := by
  unfold amB
  rw [h]
  exact h2
set_option maxRecDepth 100000 in
theorem amFull_0 : amFull[0]? = some (11, 0) := by decide +kernel
set_option maxRecDepth 100000 in
theorem amFull_427 : amFull[427]? = some (12, 0) := by decide +kernel
theorem am_lawB {cal1 : Nat → List AmV → AmM → AmG → Nat → Option (AmM × AmG × Nat)} {M M2 M3 : AmM} {G2 G3 : AmG} {n3 : Nat} (h1 : cal1 11 [vR 11 11 0] (amRst M 11 0) (amGst1 amGz 11 0) 1 = some (M2, G2, 427)) (h2 : cal1 12 [vR 12 12 0] (amRst M2 12 0) (amGst1 G2 12 0) 428 = some (M3, G3, n3)) :
    amB (amStep1 (fun G => amDf G 4) cal1 ccL) 10 (0, [vR 20 90 0, vU, vU, vU], [], M, amGz, 0) = .inl (18, [vR 20 90 0, vR 11 11 0, vR 12 12 0, vI 0], [], M3, G3, n3) := by
  refine amB_s (c' := (3, [vR 20 90 0, vU, vU, vU], [vR 11 11 0], amRst M 11 0, amGst1 amGz 11 0, 1)) ?_ ?_
  · refine (amStep1_of (en := (.new 7, 3, 11, 0, 0, 0, [])) rfl).trans ?_
    show (match amFull[0]? with
      | some (c, s) => bif c == 11 then (.inl (3, [vR 20 90 0, vU, vU, vU], vR c c s :: [], amRst M c s, amGst1 amGz c s, 0 + 1) : AmR1) else amNo1
      | none => amNo1) = _
    rw [amFull_0]
    rfl
  refine amB_s (c' := (4, [vR 20 90 0, vU, vU, vU], [vR 11 11 0, vR 11 11 0], amRst M 11 0, amGst1 amGz 11 0, 1)) rfl ?_
  refine amB_s (c' := (7, [vR 20 90 0, vU, vU, vU], [vR 11 11 0], M2, G2, 427)) ?_ ?_
  · refine (amStep1_of (en := (.invokespecial 9, 7, 11, 1, 0, 0, [])) rfl).trans ?_
    show (match cal1 11 [vR 11 11 0] (amRst M 11 0) (amGst1 amGz 11 0) 1 with
      | some (M', G', n') => (.inl (7, [vR 20 90 0, vU, vU, vU], [vR 11 11 0], M', G', n') : AmR1)
      | none => amNo1) = _
    rw [h1]
  refine amB_s (c' := (8, [vR 20 90 0, vR 11 11 0, vU, vU], [], M2, G2, 427)) rfl ?_
  refine amB_s (c' := (11, [vR 20 90 0, vR 11 11 0, vU, vU], [vR 12 12 0], amRst M2 12 0, amGst1 G2 12 0, 428)) ?_ ?_
  · refine (amStep1_of (en := (.new 10, 11, 12, 0, 0, 0, [])) rfl).trans ?_
    show (match amFull[427]? with
      | some (c, s) => bif c == 12 then (.inl (11, [vR 20 90 0, vR 11 11 0, vU, vU], vR c c s :: [], amRst M2 c s, amGst1 G2 c s, 427 + 1) : AmR1) else amNo1
      | none => amNo1) = _
    rw [amFull_427]
    rfl
  refine amB_s (c' := (12, [vR 20 90 0, vR 11 11 0, vU, vU], [vR 12 12 0, vR 12 12 0], amRst M2 12 0, amGst1 G2 12 0, 428)) rfl ?_
  refine amB_s (c' := (15, [vR 20 90 0, vR 11 11 0, vU, vU], [vR 12 12 0], M3, G3, n3)) ?_ ?_
  · refine (amStep1_of (en := (.invokespecial 12, 15, 12, 1, 0, 0, [])) rfl).trans ?_
    show (match cal1 12 [vR 12 12 0] (amRst M2 12 0) (amGst1 G2 12 0) 428 with
      | some (M', G', n') => (.inl (15, [vR 20 90 0, vR 11 11 0, vU, vU], [vR 12 12 0], M', G', n') : AmR1)
      | none => amNo1) = _
    rw [h2]
  refine amB_s (c' := (16, [vR 20 90 0, vR 11 11 0, vR 12 12 0, vU], [], M3, G3, n3)) rfl ?_
  refine amB_s (c' := (17, [vR 20 90 0, vR 11 11 0, vR 12 12 0, vU], [vI 0], M3, G3, n3)) rfl ?_
  refine amB_s (c' := (18, [vR 20 90 0, vR 11 11 0, vR 12 12 0, vI 0], [], M3, G3, n3)) rfl rfl
set_option maxRecDepth 100000 in
theorem amFull_len : amFull.length = 470 := by decide +kernel
theorem amFull_tk : amFull.take 470 = amFull := List.take_of_length_le (Nat.le_of_eq amFull_len)
/-- graphs that agree where it matters make one world -/
theorem am_regraph {Z : AmZ} {ad : Nat → Nat → Nat} {G G' : AmG} {M : AmM} {H : Heap} (hG : amChkG G = true) (hG' : G' = amGst) (h : va_P (zD Z) amClasses (amW (zz Z ad 470 G) M) H) : va_P (zD Z) amClasses (amW (zz Z ad 470 G') M) H := by
  subst hG'
  have hall := List.all_eq_true.mp hG
  have htk : amFull.take 470 = amFull := amFull_tk
  intro k q hk
  have hk : ((amFull.take 470).map fun n => (ad n.1 n.2, amCell (zC Z) ad n.1 (M n.1 n.2) (amGst n.1 n.2)))[k]? = some q := hk
  rw [List.getElem?_map] at hk
  cases hn : (amFull.take 470)[k]? with
  | none => rw [hn] at hk; cases hk
  | some n =>
    rw [hn] at hk
    have hk : some (ad n.1 n.2, amCell (zC Z) ad n.1 (M n.1 n.2) (amGst n.1 n.2)) = some q := hk
    have h0 := h k (ad n.1 n.2, amCell (zC Z) ad n.1 (M n.1 n.2) (G n.1 n.2)) (by
      show ((amFull.take 470).map fun n => (ad n.1 n.2, amCell (zC Z) ad n.1 (M n.1 n.2) (G n.1 n.2)))[k]? = _
      rw [List.getElem?_map, hn]; rfl)
    have hmem : n ∈ amFull := by rw [← htk]; exact List.mem_of_getElem? hn
    have hc := hall n hmem
    have hq : q = (ad n.1 n.2, amCell (zC Z) ad n.1 (M n.1 n.2) (amGst n.1 n.2)) := (Option.some.inj hk).symm
    subst hq
    by_cases h13 : n.1 < 13
    · have hb : Nat.blt n.1 13 = true := by simpa [Nat.blt_eq] using h13
      rw [hb] at hc
      simp only [cond_true] at hc
      have e : amCell (zC Z) ad n.1 (M n.1 n.2) (amGst n.1 n.2) = amCell (zC Z) ad n.1 (M n.1 n.2) (G n.1 n.2) := by
        unfold amCell
        rw [if_pos h13, if_pos h13]
        congr 2
        refine List.map_congr_left fun j hj => ?_
        have h2 := List.all_eq_true.mp hc j hj
        unfold amFv
        split
        · rename_i h3
          rw [h3] at h2
          have h4 : G n.1 n.2 j = amGst n.1 n.2 j := by simpa using h2
          rw [h4]
        · rfl
      rw [e]; exact h0
    · have hb : Nat.blt n.1 13 = false := by
        cases hb : Nat.blt n.1 13 with
        | false => rfl
        | true => exact absurd (by simpa [Nat.blt_eq] using hb) h13
      rw [hb] at hc
      simp only [cond_false] at hc
      have e1 : ∀ g, amCell (zC Z) ad n.1 (M n.1 n.2) g = .inl (zC Z (amKndL.getD n.1 99), amArr ad n.1 (M n.1 n.2) g) := fun g => if_neg h13
      rw [e1] at h0 ⊢
      have e2 : vp_cell (zC Z (amKndL.getD n.1 99)) (amArr ad n.1 (M n.1 n.2) (amGst n.1 n.2)) = vp_cell (zC Z (amKndL.getD n.1 99)) (amArr ad n.1 (M n.1 n.2) (G n.1 n.2)) := by
        by_cases hkk : amKndL.getD n.1 99 = 24 ∨ amKndL.getD n.1 99 = 25
        · have hb2 : (amKndL.getD n.1 99 == 24 || amKndL.getD n.1 99 == 25) = true := by
            rcases hkk with h | h <;> rw [h] <;> rfl
          rw [hb2] at hc
          simp only [cond_true] at hc
          rw [amArr_q rfl hkk, amArr_q rfl hkk, vp_cell_q, vp_cell_q]
          have e3 : ∀ f g : Nat → Value, (∀ j, j < amLenL.getD n.1 0 → f j = g j) → arrV (zC Z (amKndL.getD n.1 99)) (amLenL.getD n.1 0) f = arrV (zC Z (amKndL.getD n.1 99)) (amLenL.getD n.1 0) g := fun f g hfg => by
            unfold arrV
            congr 2
            funext j
            exact hfg j.val j.isLt
          refine e3 _ _ fun j hj => ?_
          have h2 := List.all_eq_true.mp hc j (List.mem_range.mpr hj)
          have h4 : G n.1 n.2 j = amGst n.1 n.2 j := by simpa using h2
          rw [h4]
        · have : amArr ad n.1 (M n.1 n.2) (amGst n.1 n.2) = amArr ad n.1 (M n.1 n.2) (G n.1 n.2) := by
            unfold amArr
            congr 1
            split
            · rfl
            · rename_i h; exact absurd (Or.inl h) hkk
            · rename_i h; exact absurd (Or.inr h) hkk
            · rfl
          rw [this]
      show H[ad n.1 n.2]? = some (vp_cell (zC Z (amKndL.getD n.1 99)) (amArr ad n.1 (M n.1 n.2) (amGst n.1 n.2)))
      rw [e2]
      exact h0
