/-! PURE: the texts: what is read, or the FAULT and its TOKEN -/
abbrev Pr (α : Type) : Type := (Nat × Nat) ⊕ α
section GR
variable {κ ν : Nat → Nat}
/-- a sign between units -/
def sgnK (k : Nat) : Bool := k == 43 || k == 45 || k == 42 || k == 47
def wlX (w : Nat) : Ex := if w = 0 then [] else [(w, 0)]
/-- a TOKEN taken -/
def tkX (κ : Nat → Nat) (w t : Nat) : Pr Nat := if κ t = w then (if t < 400 then .inr (t + 1) else .inl (2, t)) else .inl (1, t)
def unX (κ ν : Nat → Nat) (sub : Option (Nat → Pr (Nat × Ex))) (t : Nat) : Pr (Nat × Ex) :=
  if κ t = 20 then (if t < 400 then .inr (t + 1, [(0, (ν t : Int))]) else .inl (2, t))
  else if 12 ≤ κ t ∧ κ t ≤ 18 then (if t < 400 then .inr (t + 1, [(1, ((κ t - 12 : Nat) : Int))]) else .inl (2, t))
  else if κ t = 40 then (match sub with
    | none => .inl (2, t)
    | some f => if t < 400 then (match f (t + 1) with
      | .inl x => .inl x
      | .inr (t1, e) => (match tkX κ 41 t1 with
        | .inl x => .inl x
        | .inr t2 => .inr (t2, e))) else .inl (2, t))
  else .inl (1, t)
def lpX (κ : Nat → Nat) (un : Nat → Pr (Nat × Ex)) : Nat → Nat → Ex → Nat → Pr (Nat × Ex)
  | 0, t, _, _ => .inl (9, t)
  | k + 1, t, e, w => if sgnK (κ t) = true then (if t < 400 then (match un (t + 1) with
    | .inl x => .inl x
    | .inr (t1, e1) => if κ t = 42 then lpX κ un k t1 (e ++ e1 ++ [(4, 0)]) w else if κ t = 47 then lpX κ un k t1 (e ++ e1 ++ [(5, 0)]) w else lpX κ un k t1 (e ++ wlX w ++ e1) (if κ t = 43 then 2 else 3)) else .inl (2, t)) else .inr (t, e ++ wlX w)
def smB (κ : Nat → Nat) (un : Nat → Pr (Nat × Ex)) (t : Nat) : Pr (Nat × Ex) := match un t with
  | .inl x => .inl x
  | .inr (t1, e) => lpX κ un 401 t1 e 0
/-- a sum, m more levels of ( -/
def smX (κ ν : Nat → Nat) : Nat → Nat → Pr (Nat × Ex)
  | 0 => smB κ (unX κ ν none)
  | m + 1 => smB κ (unX κ ν (some (smX κ ν m)))
def unM (κ ν : Nat → Nat) : Nat → Nat → Pr (Nat × Ex)
  | 0 => unX κ ν none
  | m + 1 => unX κ ν (some (smX κ ν m))
theorem smX_un (m : Nat) : smX κ ν m = smB κ (unM κ ν m) := by cases m <;> rfl
/-- all TOKENS ahead can be gone past -/
def goK (κ : Nat → Nat) (t : Nat) : Prop := ∀ p, p < t → κ p ≠ 21 ∧ κ p ≠ 22
theorem goK.nx {t : Nat} (h : goK κ t) (h1 : κ t ≠ 21) (h2 : κ t ≠ 22) : goK κ (t + 1) := fun p hp => by
  by_cases e : p = t
  · subst e; exact ⟨h1, h2⟩
  · exact h p (by omega)
theorem tkX_ok {w t t1 : Nat} (h : tkX κ w t = .inr t1) : κ t = w ∧ t < 400 ∧ t1 = t + 1 := by
  unfold tkX at h
  split at h
  · rename_i h1
    split at h
    · rename_i h2
      cases h
      exact ⟨h1, h2, rfl⟩
    · cases h
  · cases h
theorem sgnK_b {k : Nat} : sgnK k = true ↔ (k = 43 ∨ k = 45 ∨ k = 42 ∨ k = 47) := by
  unfold sgnK
  simp only [Bool.or_eq_true, beq_iff_eq]
  omega
theorem exH_c {B k h : Nat} {v : Int} {r : Ex} : exH B ((k, v) :: r) h = if k = 0 then (if h < B then exH B r (h + 1) else none) else if k = 1 then (if h < B ∧ 0 ≤ v ∧ v < 7 then exH B r (h + 1) else none) else if k < 6 ∧ 2 ≤ h then exH B r (h - 1) else none := rfl
theorem exH_app {B : Nat} : ∀ (e e' : Ex) (h : Nat), exH B (e ++ e') h = (match exH B e h with
    | some h1 => exH B e' h1
    | none => none)
  | [], e', h => rfl
  | (k, v) :: r, e', h => by
    have ih := exH_app (B := B) r e'
    show exH B ((k, v) :: (r ++ e')) h = _
    rw [exH_c (r := r ++ e'), exH_c (r := r)]
    by_cases h0 : k = 0
    · rw [if_pos h0, if_pos h0]
      by_cases h1 : h < B
      · rw [if_pos h1, if_pos h1]; exact ih (h + 1)
      · rw [if_neg h1, if_neg h1]
    · rw [if_neg h0, if_neg h0]
      by_cases h1 : k = 1
      · rw [if_pos h1, if_pos h1]
        by_cases h2 : h < B ∧ 0 ≤ v ∧ v < 7
        · rw [if_pos h2, if_pos h2]; exact ih (h + 1)
        · rw [if_neg h2, if_neg h2]
      · rw [if_neg h1, if_neg h1]
        by_cases h2 : k < 6 ∧ 2 ≤ h
        · rw [if_pos h2, if_pos h2]; exact ih (h - 1)
        · rw [if_neg h2, if_neg h2]
/-- what is so of all that is read of an expression: u units of height -/
def exGood (κ : Nat → Nat) (u t t1 : Nat) (e : Ex) : Prop := t < t1 ∧ t1 ≤ 400 ∧ e.length ≤ t1 - t ∧ (goK κ t → goK κ t1) ∧ (∀ h, h + u ≤ 20 → exH 20 e h = some (h + 1)) ∧ ∀ x ∈ e, 0 ≤ x.2 ∧ x.2 < 10000
theorem exGood_unit {sub : Option (Nat → Pr (Nat × Ex))} {u t t1 : Nat} {e : Ex} (hν : ∀ t, κ t = 20 → ν t < 10000) (hs : ∀ f, sub = some f → ∀ t t1 e, f t = .inr (t1, e) → exGood κ u t t1 e) (hu : 1 ≤ u) (h : unX κ ν sub t = .inr (t1, e)) : exGood κ u t t1 e := by
  unfold unX at h
  by_cases h20 : κ t = 20
  · rw [if_pos h20] at h
    by_cases h4 : t < 400
    · rw [if_pos h4] at h
      cases h
      have := hν t h20
      refine ⟨by omega, by omega, by show 1 ≤ _; omega, fun g => g.nx (by omega) (by omega), fun h hh => ?_, fun x hx => ?_⟩
      · show (if (0 : Nat) = 0 then (if h < 20 then exH 20 [] (h + 1) else none) else _) = _
        rw [if_pos rfl, if_pos (by omega)]; rfl
      · rw [List.mem_singleton.1 hx]
        exact ⟨by show (0 : Int) ≤ (ν t : Int); omega, by show (ν t : Int) < 10000; omega⟩
    · rw [if_neg h4] at h; cases h
  · rw [if_neg h20] at h
    by_cases hv : 12 ≤ κ t ∧ κ t ≤ 18
    · rw [if_pos hv] at h
      by_cases h4 : t < 400
      · rw [if_pos h4] at h
        cases h
        refine ⟨by omega, by omega, by show 1 ≤ _; omega, fun g => g.nx (by omega) (by omega), fun h hh => ?_, fun x hx => ?_⟩
        · show (if (1 : Nat) = 0 then _ else if (1 : Nat) = 1 then (if h < 20 ∧ 0 ≤ ((κ t - 12 : Nat) : Int) ∧ ((κ t - 12 : Nat) : Int) < 7 then exH 20 [] (h + 1) else none) else _) = _
          rw [if_neg (by decide), if_pos rfl, if_pos ⟨by omega, by omega, by omega⟩]; rfl
        · rw [List.mem_singleton.1 hx]
          exact ⟨by show (0 : Int) ≤ ((κ t - 12 : Nat) : Int); omega, by show ((κ t - 12 : Nat) : Int) < 10000; omega⟩
      · rw [if_neg h4] at h; cases h
    · rw [if_neg hv] at h
      by_cases h40 : κ t = 40
      · rw [if_pos h40] at h
        cases sub with
        | none => cases h
        | some f =>
          have h : (if t < 400 then (match f (t + 1) with
            | .inl x => .inl x
            | .inr (t1, e) => (match tkX κ 41 t1 with
              | .inl x => .inl x
              | .inr t2 => .inr (t2, e))) else .inl (2, t)) = (.inr (t1, e) : Pr (Nat × Ex)) := h
          by_cases h4 : t < 400
          · rw [if_pos h4] at h
            cases hf : f (t + 1) with
            | inl x => rw [hf] at h; cases h
            | inr q =>
              obtain ⟨t2, e2⟩ := q
              rw [hf] at h
              have h : (match tkX κ 41 t2 with
                | .inl x => .inl x
                | .inr t3 => .inr (t3, e2)) = (.inr (t1, e) : Pr (Nat × Ex)) := h
              cases hk : tkX κ 41 t2 with
              | inl x => rw [hk] at h; cases h
              | inr t3 =>
                rw [hk] at h
                cases h
                obtain ⟨k1, k2, k3⟩ := tkX_ok hk
                obtain ⟨g1, g2, g3, g4, g5, g6⟩ := hs f rfl (t + 1) t2 e hf
                exact ⟨by omega, by omega, by omega, fun g => by rw [k3]; exact (g4 (g.nx (by omega) (by omega))).nx (by omega) (by omega), g5, g6⟩
          · rw [if_neg h4] at h; cases h
      · rw [if_neg h40] at h; cases h
theorem wlX_len (w : Nat) : (wlX w).length = if w = 0 then 0 else 1 := by
  unfold wlX
  split <;> rfl
theorem exH_op {k h : Nat} (hk : 2 ≤ k ∧ k < 6) (hh : 2 ≤ h) : exH 20 [(k, 0)] h = some (h - 1) := by
  show (if k = 0 then _ else if k = 1 then _ else if k < 6 ∧ 2 ≤ h then exH 20 [] (h - 1) else none) = _
  rw [if_neg (by omega), if_neg (by omega), if_pos ⟨hk.2, hh⟩]; rfl
theorem exGood_loop {un : Nat → Pr (Nat × Ex)} {u : Nat} (hun : ∀ t t1 e, un t = .inr (t1, e) → exGood κ u t t1 e) {t0 : Nat} : ∀ (k t : Nat) (e : Ex) (w t1 : Nat) (e1 : Ex), (w = 0 ∨ w = 2 ∨ w = 3) → t0 < t → t ≤ 400 → e.length + (if w = 0 then 0 else 1) ≤ t - t0 → (goK κ t0 → goK κ t) → (∀ h, h + (u + 2) ≤ 20 → exH 20 e h = some (h + 1 + (if w = 0 then 0 else 1))) → (∀ x ∈ e, 0 ≤ x.2 ∧ x.2 < 10000) → lpX κ un k t e w = .inr (t1, e1) → exGood κ (u + 2) t0 t1 e1
  | 0, t, e, w, t1, e1, _, _, _, _, _, _, _, h => by cases h
  | k + 1, t, e, w, t1, e1, hw, h0, h4, hl, hg, hh, hv, h => by
    have hcw : (if w = 0 then 0 else 1) ≤ 1 := by split <;> omega
    unfold lpX at h
    by_cases hs : sgnK (κ t) = true
    · have hsk := sgnK_b.1 hs
      rw [if_pos hs] at h
      by_cases h40 : t < 400
      · rw [if_pos h40] at h
        cases hu : un (t + 1) with
        | inl x => rw [hu] at h; cases h
        | inr q =>
          obtain ⟨t2, e2⟩ := q
          rw [hu] at h
          obtain ⟨g1, g2, g3, g4, g5, g6⟩ := hun (t + 1) t2 e2 hu
          have h : (if κ t = 42 then lpX κ un k t2 (e ++ e2 ++ [(4, 0)]) w else if κ t = 47 then lpX κ un k t2 (e ++ e2 ++ [(5, 0)]) w else lpX κ un k t2 (e ++ wlX w ++ e2) (if κ t = 43 then 2 else 3)) = .inr (t1, e1) := h
          have hgo : goK κ t0 → goK κ t2 := fun g => g4 ((hg g).nx (by omega) (by omega))
          have strong : ∀ o : Nat, (o = 4 ∨ o = 5) → lpX κ un k t2 (e ++ e2 ++ [(o, 0)]) w = .inr (t1, e1) → exGood κ (u + 2) t0 t1 e1 := fun o ho hq => by
            refine exGood_loop hun k t2 _ w t1 e1 hw (by omega) g2 ?_ hgo (fun h hhh => ?_) (fun x hx => ?_) hq
            · rw [List.length_append, List.length_append]; show e.length + e2.length + 1 + _ ≤ _; omega
            · rw [exH_app, exH_app, hh h hhh]
              show (match exH 20 e2 (h + 1 + (if w = 0 then 0 else 1)) with
                | some h1 => exH 20 [(o, 0)] h1
                | none => none) = _
              rw [g5 _ (by omega)]
              show exH 20 [(o, 0)] (h + 1 + (if w = 0 then 0 else 1) + 1) = _
              rw [exH_op (by omega) (by omega)]
              rfl
            · rcases List.mem_append.1 hx with hx | hx
              · rcases List.mem_append.1 hx with hx | hx
                · exact hv x hx
                · exact g6 x hx
              · rw [List.mem_singleton.1 hx]; exact ⟨by show (0 : Int) ≤ 0; omega, by show (0 : Int) < 10000; omega⟩
          by_cases h42 : κ t = 42
          · rw [if_pos h42] at h; exact strong 4 (Or.inl rfl) h
          · rw [if_neg h42] at h
            by_cases h47 : κ t = 47
            · rw [if_pos h47] at h; exact strong 5 (Or.inr rfl) h
            · rw [if_neg h47] at h
              have hw2 : (if κ t = 43 then 2 else 3) ≠ 0 := by split <;> omega
              refine exGood_loop hun k t2 _ (if κ t = 43 then 2 else 3) t1 e1 (by split <;> omega) (by omega) g2 ?_ hgo (fun h hhh => ?_) (fun x hx => ?_) h
              · rw [List.length_append, List.length_append, wlX_len, if_neg hw2]; omega
              · rw [exH_app, exH_app, hh h hhh]
                have hwl : exH 20 (wlX w) (h + 1 + (if w = 0 then 0 else 1)) = some (h + 1) := by
                  unfold wlX
                  by_cases hw0 : w = 0
                  · rw [if_pos hw0, if_pos hw0]; rfl
                  · rw [if_neg hw0, if_neg hw0, exH_op (by omega) (by omega)]; rfl
                show (match (match some (h + 1 + (if w = 0 then 0 else 1)) with
                  | some h1 => exH 20 (wlX w) h1
                  | none => none) with
                  | some h1 => exH 20 e2 h1
                  | none => none) = _
                show (match exH 20 (wlX w) (h + 1 + (if w = 0 then 0 else 1)) with
                  | some h1 => exH 20 e2 h1
                  | none => none) = _
                rw [hwl]
                show exH 20 e2 (h + 1) = _
                rw [g5 _ (by omega), if_neg hw2]
              · rcases List.mem_append.1 hx with hx | hx
                · rcases List.mem_append.1 hx with hx | hx
                  · exact hv x hx
                  · unfold wlX at hx
                    split at hx
                    · cases hx
                    · rw [List.mem_singleton.1 hx]; exact ⟨by show (0 : Int) ≤ 0; omega, by show (0 : Int) < 10000; omega⟩
                · exact g6 x hx
      · rw [if_neg h40] at h; cases h
    · rw [if_neg hs] at h
      cases h
      refine ⟨h0, h4, ?_, hg, fun h hhh => ?_, fun x hx => ?_⟩
      · rw [List.length_append, wlX_len]; omega
      · rw [exH_app, hh h hhh]
        show exH 20 (wlX w) (h + 1 + (if w = 0 then 0 else 1)) = some (h + 1)
        unfold wlX
        by_cases hw0 : w = 0
        · rw [if_pos hw0, if_pos hw0]; rfl
        · rw [if_neg hw0, if_neg hw0, exH_op (by omega) (by omega)]; rfl
      · rcases List.mem_append.1 hx with hx | hx
        · exact hv x hx
        · unfold wlX at hx
          split at hx
          · cases hx
          · rw [List.mem_singleton.1 hx]; exact ⟨by show (0 : Int) ≤ 0; omega, by show (0 : Int) < 10000; omega⟩
theorem exGood_up {u u' t t1 : Nat} {e : Ex} (h : exGood κ u t t1 e) (hu : u ≤ u') : exGood κ u' t t1 e := ⟨h.1, h.2.1, h.2.2.1, h.2.2.2.1, fun x hx => h.2.2.2.2.1 x (by omega), h.2.2.2.2.2⟩
theorem exGood_sumB {un : Nat → Pr (Nat × Ex)} {u t t1 : Nat} {e : Ex} (hun : ∀ t t1 e, un t = .inr (t1, e) → exGood κ u t t1 e) (h : smB κ un t = .inr (t1, e)) : exGood κ (u + 2) t t1 e := by
  unfold smB at h
  cases hu : un t with
  | inl x => rw [hu] at h; cases h
  | inr q =>
    obtain ⟨t2, e2⟩ := q
    rw [hu] at h
    obtain ⟨g1, g2, g3, g4, g5, g6⟩ := hun t t2 e2 hu
    exact exGood_loop hun 401 t2 e2 0 t1 e (Or.inl rfl) g1 g2 (by rw [if_pos rfl]; omega) g4 (fun h hh => by rw [g5 h (by omega), if_pos rfl]) g6 h
theorem exGood_sum (hν : ∀ t, κ t = 20 → ν t < 10000) : ∀ (m t t1 : Nat) (e : Ex), smX κ ν m t = .inr (t1, e) → exGood κ (2 * m + 3) t t1 e
  | 0, t, t1, e, h => exGood_sumB (fun t t1 e hq => exGood_unit (u := 1) hν (fun f hf => by cases hf) (Nat.le_refl 1) hq) h
  | m + 1, t, t1, e, h => exGood_sumB (fun t t1 e hq => exGood_unit (u := 2 * m + 3) hν (fun f hf t t1 e hq => by cases hf; exact exGood_sum hν m t t1 e hq) (by omega) hq) h
theorem exGood_un (hν : ∀ t, κ t = 20 → ν t < 10000) : ∀ (m t t1 : Nat) (e : Ex), unM κ ν m t = .inr (t1, e) → exGood κ (2 * m + 1) t t1 e
  | 0, t, t1, e, h => exGood_unit (sub := none) (u := 1) hν (fun f hf => by cases hf) (Nat.le_refl 1) h
  | m + 1, t, t1, e, h => exGood_unit (sub := some (smX κ ν m)) (u := 2 * m + 3) hν (fun f hf t t1 e hq => by cases hf; exact exGood_sum hν m t t1 e hq) (by omega) h
theorem exOk_sum (hν : ∀ t, κ t = 20 → ν t < 10000) {t t1 : Nat} {e : Ex} (h : smX κ ν 6 t = .inr (t1, e)) : exOk e := by
  have := exGood_sum hν 6 t t1 e h
  exact ⟨this.2.2.2.2.1 0 (by omega), this.2.2.2.2.2⟩
end GR
