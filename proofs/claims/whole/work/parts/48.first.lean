/-! THE FIRST WORLD -/
def amZ0 : AmM := fun _ _ _ => 0
def amGz : AmG := fun _ _ _ => vN
def amC1 : Option (AmM × AmG × Nat) := amD1 5 11 [vR 11 11 0] (amRst amZ0 11 0) (amGst1 amGz 11 0) 1
def amC2 : Option (AmM × AmG × Nat) := match amC1 with
  | some (M, G, n) => bif n == 427 then amD1 5 12 [vR 12 12 0] (amRst M 12 0) (amGst1 G 12 0) 428 else none
  | none => none
/-- the keys of the reference's words -/
def amKeys : List Int := [10495135, 355280, 1424120, 6334396438, 8798, 8740238, 6125212, 247516, 10492462, 249, 399641, 107681, 332864552, 10792937, 388708, 2968, 16922, 583, 149099]
/-- the first number at a place -/
def amI0 (c j : Nat) : Int := match c with
  | 0 => bif j == 3 then -1 else 0
  | 3 => bif j == 4 then -1 else 0
  | 11 => bif j == 15 then -1 else 0
  | 12 => bif j == 17 then -1 else 0
  | 101 => -1
  | 135 => amKeys.getD j 0
  | _ => 0
/-- the arrays whose first numbers matter -/
def amIP : List (Nat × Nat × Nat) := [(101, 0, 4), (101, 1, 4), (128, 0, 3), (169, 0, 3), (135, 0, 19), (137, 0, 2), (139, 0, 2), (141, 0, 2), (142, 0, 2), (143, 0, 2), (146, 0, 2), (147, 0, 8), (148, 0, 8), (159, 0, 100)]
def amChkM (M : AmM) : Bool := (amFull.all fun n => bif Nat.blt n.1 13 then (List.range (amFkL.getD n.1 []).length).all (fun j => bif (amFkL.getD n.1 []).getD j 0 == 2 then true else decide (M n.1 n.2 j = amI0 n.1 j)) else true) && amIP.all fun p => (List.range p.2.2).all fun j => decide (M p.1 p.2.1 j = amI0 p.1 j)
def amChkG (G : AmG) : Bool := amFull.all fun n => bif Nat.blt n.1 13 then (List.range (amFkL.getD n.1 []).length).all (fun j => bif (amFkL.getD n.1 []).getD j 0 == 2 then decide (G n.1 n.2 j = amGst n.1 n.2 j) else true) else (bif (amKndL.getD n.1 99 == 24 || amKndL.getD n.1 99 == 25) then (List.range (amLenL.getD n.1 0)).all (fun j => decide (G n.1 n.2 j = amGst n.1 n.2 j)) else true)
set_option maxRecDepth 100000 in
theorem amC_chk : (match amC2 with
  | some (M, G, n) => decide (n = amFull.length) && (amChkG G && amChkM M)
  | none => false) = true := by decide +kernel
theorem am_first (X : Nat → Nat → Int) : ∃ M2 G2 M3 G3, amD1 5 11 [vR 11 11 0] (amRst (ov X amZ0) 11 0) (amGst1 amGz 11 0) 1 = some (M2, G2, 427) ∧ amD1 5 12 [vR 12 12 0] (amRst M2 12 0) (amGst1 G2 12 0) 428 = some (ov X M3, G3, amFull.length) ∧ amChkG G3 = true ∧ amChkM M3 = true := by
  have h := amC_chk
  cases h2 : amC2 with
  | none => rw [h2] at h; cases h
  | some w =>
    obtain ⟨M3, G3, n3⟩ := w
    rw [h2] at h
    simp only [Bool.and_eq_true, decide_eq_true_eq] at h
    obtain ⟨rfl, hG, hM⟩ := h
    unfold amC2 at h2
    cases h1 : amC1 with
    | none => rw [h1] at h2; cases h2
    | some w =>
      obtain ⟨M2, G2, n2⟩ := w
      rw [h1] at h2
      have h2 : (bif n2 == 427 then amD1 5 12 [vR 12 12 0] (amRst M2 12 0) (amGst1 G2 12 0) 428 else none) = some (M3, G3, amFull.length) := h2
      cases hn : n2 == 427 with
      | false => rw [hn] at h2; cases h2
      | true =>
        rw [hn] at h2
        have hn : n2 = 427 := by simpa using hn
        subst hn
        unfold amC1 at h1
        have k1 := amD1_ni (X := X) 5 11 _ _ _ _ _ _ _ rfl (amGst1_n90 fun _ _ _ => rfl) h1
        have k2 := amD1_ni (X := X) 5 12 _ _ _ _ _ _ _ rfl (amGst1_n90 k1.2) h2
        refine ⟨ov X M2, G2, M3, G3, ?_, ?_, hG, hM⟩
        · rw [ov_rst (by decide)]; exact k1.1
        · rw [ov_rst (by decide)]; exact k2.1
/-- the law's first rows -/
theorem amB_s {σ ρ : Type} {f : σ → σ ⊕ Option ρ} {c c' : σ} {k : Nat} {r : σ ⊕ Option ρ} (h : f c = .inl c') (h2 : amB f k c' = r) : amB f (k + 1) c = r := by
  unfold amB
  rw [h]
  exact h2
set_option maxRecDepth 100000 in
theorem amFull_0 : amFull[0]? = some (11, 0) := by decide +kernel
set_option maxRecDepth 100000 in
theorem amFull_427 : amFull[427]? = some (12, 0) := by decide +kernel
theorem am_lawB {cal1 : Nat → List AmV → AmM → AmG → Nat → Option (AmM × AmG × Nat)} {M M2 M3 : AmM} {G2 G3 : AmG} {n3 : Nat} (h1 : cal1 11 [vR 11 11 0] (amRst M 11 0) (amGst1 amGz 11 0) 1 = some (M2, G2, 427)) (h2 : cal1 12 [vR 12 12 0] (amRst M2 12 0) (amGst1 G2 12 0) 428 = some (M3, G3, n3)) :
    amB (amStep1 (fun G => amDf G 4) cal1 ccL) 10 (0, [vR 20 90 0, vU, vU, vU], [], M, amGz, 0) = .inl (18, [vR 20 90 0, vR 11 11 0, vR 12 12 0, vI 0], [], M3, G3, n3) := by
  refine amB_s (c' := (3, [vR 20 90 0, vU, vU, vU], [vR 11 11 0], amRst M 11 0, amGst1 amGz 11 0, 1)) ?_ ?_
  · refine (amStep1_of (en := (.new 7, 3, 11, 0, 0, 0, [])) rfl).trans ?_
    show (match amFull[0]? with
      | some (c, s) => bif c == 11 then (.inl (3, [vR 20 90 0, vU, vU, vU], vR c c s :: [], amRst M c s, amGst1 amGz c s, 0 + 1) : AmR1) else amNo1
      | none => amNo1) = _
    rw [amFull_0]
    rfl
  refine amB_s (c' := (4, [vR 20 90 0, vU, vU, vU], [vR 11 11 0, vR 11 11 0], amRst M 11 0, amGst1 amGz 11 0, 1)) rfl ?_
  refine amB_s (c' := (7, [vR 20 90 0, vU, vU, vU], [vR 11 11 0], M2, G2, 427)) ?_ ?_
  · refine (amStep1_of (en := (.invokespecial 9, 7, 11, 1, 0, 0, [])) rfl).trans ?_
    show (match cal1 11 [vR 11 11 0] (amRst M 11 0) (amGst1 amGz 11 0) 1 with
      | some (M', G', n') => (.inl (7, [vR 20 90 0, vU, vU, vU], [vR 11 11 0], M', G', n') : AmR1)
      | none => amNo1) = _
    rw [h1]
  refine amB_s (c' := (8, [vR 20 90 0, vR 11 11 0, vU, vU], [], M2, G2, 427)) rfl ?_
  refine amB_s (c' := (11, [vR 20 90 0, vR 11 11 0, vU, vU], [vR 12 12 0], amRst M2 12 0, amGst1 G2 12 0, 428)) ?_ ?_
  · refine (amStep1_of (en := (.new 10, 11, 12, 0, 0, 0, [])) rfl).trans ?_
    show (match amFull[427]? with
      | some (c, s) => bif c == 12 then (.inl (11, [vR 20 90 0, vR 11 11 0, vU, vU], vR c c s :: [], amRst M2 c s, amGst1 G2 c s, 427 + 1) : AmR1) else amNo1
      | none => amNo1) = _
    rw [amFull_427]
    rfl
  refine amB_s (c' := (12, [vR 20 90 0, vR 11 11 0, vU, vU], [vR 12 12 0, vR 12 12 0], amRst M2 12 0, amGst1 G2 12 0, 428)) rfl ?_
  refine amB_s (c' := (15, [vR 20 90 0, vR 11 11 0, vU, vU], [vR 12 12 0], M3, G3, n3)) ?_ ?_
  · refine (amStep1_of (en := (.invokespecial 12, 15, 12, 1, 0, 0, [])) rfl).trans ?_
    show (match cal1 12 [vR 12 12 0] (amRst M2 12 0) (amGst1 G2 12 0) 428 with
      | some (M', G', n') => (.inl (15, [vR 20 90 0, vR 11 11 0, vU, vU], [vR 12 12 0], M', G', n') : AmR1)
      | none => amNo1) = _
    rw [h2]
  refine amB_s (c' := (16, [vR 20 90 0, vR 11 11 0, vR 12 12 0, vU], [], M3, G3, n3)) rfl ?_
  refine amB_s (c' := (17, [vR 20 90 0, vR 11 11 0, vR 12 12 0, vU], [vI 0], M3, G3, n3)) rfl ?_
  refine amB_s (c' := (18, [vR 20 90 0, vR 11 11 0, vR 12 12 0, vI 0], [], M3, G3, n3)) rfl rfl
/-- graphs that agree where it matters make one world -/
theorem am_regraph {Z : AmZ} {ad : Nat → Nat → Nat} {G G' : AmG} {M : AmM} {H : Heap} (hG : amChkG G = true) (hG' : G' = amGst) (h : va_P (zD Z) amClasses (amW (zz Z ad amFull.length G) M) H) : va_P (zD Z) amClasses (amW (zz Z ad amFull.length G') M) H := by
  subst hG'
  have hall := List.all_eq_true.mp hG
  have htk : amFull.take amFull.length = amFull := List.take_length
  intro k q hk
  have hk : ((amFull.take amFull.length).map fun n => (ad n.1 n.2, amCell (zC Z) ad n.1 (M n.1 n.2) (amGst n.1 n.2)))[k]? = some q := hk
  rw [List.getElem?_map] at hk
  cases hn : (amFull.take amFull.length)[k]? with
  | none => rw [hn] at hk; cases hk
  | some n =>
    rw [hn] at hk
    have hk : some (ad n.1 n.2, amCell (zC Z) ad n.1 (M n.1 n.2) (amGst n.1 n.2)) = some q := hk
    have h0 := h k (ad n.1 n.2, amCell (zC Z) ad n.1 (M n.1 n.2) (G n.1 n.2)) (by
      show ((amFull.take amFull.length).map fun n => (ad n.1 n.2, amCell (zC Z) ad n.1 (M n.1 n.2) (G n.1 n.2)))[k]? = _
      rw [List.getElem?_map, hn]; rfl)
    have hmem : n ∈ amFull := by rw [← htk]; exact List.mem_of_getElem? hn
    have hc := hall n hmem
    have hq : q = (ad n.1 n.2, amCell (zC Z) ad n.1 (M n.1 n.2) (amGst n.1 n.2)) := (Option.some.inj hk).symm
    subst hq
    by_cases h13 : n.1 < 13
    · have hb : Nat.blt n.1 13 = true := by simpa [Nat.blt_eq] using h13
      rw [hb] at hc
      simp only [cond_true] at hc
      have e : amCell (zC Z) ad n.1 (M n.1 n.2) (amGst n.1 n.2) = amCell (zC Z) ad n.1 (M n.1 n.2) (G n.1 n.2) := by
        unfold amCell
        rw [if_pos h13, if_pos h13]
        congr 2
        refine List.map_congr_left fun j hj => ?_
        have h2 := List.all_eq_true.mp hc j hj
        unfold amFv
        split
        · rename_i h3
          rw [h3] at h2
          have h4 : G n.1 n.2 j = amGst n.1 n.2 j := by simpa using h2
          rw [h4]
        · rfl
      rw [e]; exact h0
    · have hb : Nat.blt n.1 13 = false := by
        cases hb : Nat.blt n.1 13 with
        | false => rfl
        | true => exact absurd (by simpa [Nat.blt_eq] using hb) h13
      rw [hb] at hc
      simp only [cond_false] at hc
      have e1 : ∀ g, amCell (zC Z) ad n.1 (M n.1 n.2) g = .inl (zC Z (amKndL.getD n.1 99), amArr ad n.1 (M n.1 n.2) g) := fun g => if_neg h13
      rw [e1] at h0 ⊢
      have e2 : vp_cell (zC Z (amKndL.getD n.1 99)) (amArr ad n.1 (M n.1 n.2) (amGst n.1 n.2)) = vp_cell (zC Z (amKndL.getD n.1 99)) (amArr ad n.1 (M n.1 n.2) (G n.1 n.2)) := by
        by_cases hkk : amKndL.getD n.1 99 = 24 ∨ amKndL.getD n.1 99 = 25
        · have hb2 : (amKndL.getD n.1 99 == 24 || amKndL.getD n.1 99 == 25) = true := by
            rcases hkk with h | h <;> rw [h] <;> rfl
          rw [hb2] at hc
          simp only [cond_true] at hc
          rw [amArr_q rfl hkk, amArr_q rfl hkk, vp_cell_q, vp_cell_q]
          have e3 : ∀ f g : Nat → Value, (∀ j, j < amLenL.getD n.1 0 → f j = g j) → arrV (zC Z (amKndL.getD n.1 99)) (amLenL.getD n.1 0) f = arrV (zC Z (amKndL.getD n.1 99)) (amLenL.getD n.1 0) g := fun f g hfg => by
            unfold arrV
            congr 2
            funext j
            exact hfg j.val j.isLt
          refine e3 _ _ fun j hj => ?_
          have h2 := List.all_eq_true.mp hc j (List.mem_range.mpr hj)
          have h4 : G n.1 n.2 j = amGst n.1 n.2 j := by simpa using h2
          rw [h4]
        · have : amArr ad n.1 (M n.1 n.2) (amGst n.1 n.2) = amArr ad n.1 (M n.1 n.2) (G n.1 n.2) := by
            unfold amArr
            congr 1
            split
            · rfl
            · rename_i h; exact absurd (Or.inl h) hkk
            · rename_i h; exact absurd (Or.inr h) hkk
            · rfl
          rw [this]
      show H[ad n.1 n.2]? = some (vp_cell (zC Z (amKndL.getD n.1 99)) (amArr ad n.1 (M n.1 n.2) (amGst n.1 n.2)))
      rw [e2]
      exact h0
