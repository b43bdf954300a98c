/-! PURE: where a FAULT can stand, and that reading goes on -/
section POK
variable {κ ν : Nat → Nat}
def gd (κ : Nat → Nat) (t : Nat) : Prop := t ≤ 400 ∧ goK κ t
def lfOk (κ : Nat → Nat) (lf : Nat × Nat) : Prop := lf.1 ≠ 0 → gd κ lf.2
/-- a FAULT's number and place -/
def ftG (κ : Nat → Nat) (x : Nat × Nat) : Prop := (x.1 = 1 ∨ x.1 = 2) ∧ gd κ x.2
theorem gd.nx {t : Nat} (h : gd κ t) (h4 : t < 400) (hk : κ t ≠ 21 ∧ κ t ≠ 22) : gd κ (t + 1) := ⟨by omega, h.2.nx hk.1 hk.2⟩
theorem tkX_g {w t : Nat} (h : gd κ t) (hw : w ≠ 21 ∧ w ≠ 22) : match tkX κ w t with
    | .inl x => ftG κ x
    | .inr t1 => gd κ t1 ∧ t < t1 := by
  unfold tkX
  by_cases hk : κ t = w
  · rw [if_pos hk]
    by_cases h4 : t < 400
    · rw [if_pos h4]; exact ⟨h.nx h4 (by omega), by omega⟩
    · rw [if_neg h4]; exact ⟨Or.inr rfl, h⟩
  · rw [if_neg hk]; exact ⟨Or.inl rfl, h⟩
def exG (κ : Nat → Nat) (f : Nat → Pr (Nat × Ex)) : Prop := ∀ t, gd κ t → match f t with
    | .inl x => ftG κ x
    | .inr (t1, _) => gd κ t1 ∧ t < t1
theorem unX_g {sub : Option (Nat → Pr (Nat × Ex))} (hs : ∀ f, sub = some f → exG κ f) : exG κ (unX κ ν sub) := fun t h => by
  unfold unX
  by_cases h20 : κ t = 20
  · rw [if_pos h20]
    by_cases h4 : t < 400
    · rw [if_pos h4]; exact ⟨h.nx h4 (by omega), by omega⟩
    · rw [if_neg h4]; exact ⟨Or.inr rfl, h⟩
  · rw [if_neg h20]
    by_cases hv : 12 ≤ κ t ∧ κ t ≤ 18
    · rw [if_pos hv]
      by_cases h4 : t < 400
      · rw [if_pos h4]; exact ⟨h.nx h4 (by omega), by omega⟩
      · rw [if_neg h4]; exact ⟨Or.inr rfl, h⟩
    · rw [if_neg hv]
      by_cases h40 : κ t = 40
      · rw [if_pos h40]
        cases sub with
        | none => exact ⟨Or.inr rfl, h⟩
        | some f =>
          dsimp only
          by_cases h4 : t < 400
          · rw [if_pos h4]
            have hf := hs f rfl (t + 1) (h.nx h4 (by omega))
            cases hq : f (t + 1) with
            | inl x => rw [hq] at hf; exact hf
            | inr y =>
              obtain ⟨t1, e⟩ := y
              rw [hq] at hf
              dsimp only
              have hk := tkX_g (w := 41) hf.1 (by decide)
              cases hk1 : tkX κ 41 t1 with
              | inl x => rw [hk1] at hk; exact hk
              | inr t2 => rw [hk1] at hk; exact ⟨hk.1, by have := hf.2; have := hk.2; omega⟩
          · rw [if_neg h4]; exact ⟨Or.inr rfl, h⟩
      · rw [if_neg h40]; exact ⟨Or.inl rfl, h⟩
theorem lpX_g {un : Nat → Pr (Nat × Ex)} (hu : exG κ un) : ∀ (k t : Nat) (e : Ex) (w : Nat), 401 ≤ t + k → gd κ t → match lpX κ un k t e w with
    | .inl x => ftG κ x
    | .inr (t1, _) => gd κ t1 ∧ t ≤ t1
  | 0, t, e, w, hk, h => by have := h.1; omega
  | k + 1, t, e, w, hk, h => by
    unfold lpX
    by_cases hs : sgnK (κ t) = true
    · have hsk := sgnK_b.1 hs
      rw [if_pos hs]
      by_cases h4 : t < 400
      · rw [if_pos h4]
        have hf := hu (t + 1) (h.nx h4 (by omega))
        cases hq : un (t + 1) with
        | inl x => rw [hq] at hf; exact hf
        | inr y =>
          obtain ⟨t1, e1⟩ := y
          rw [hq] at hf
          dsimp only
          obtain ⟨f1, f2⟩ := hf
          have ih := fun e w => lpX_g hu k t1 e w (by omega) f1
          have fin : ∀ (e : Ex) (w : Nat), match lpX κ un k t1 e w with
              | .inl x => ftG κ x
              | .inr (t2, _) => gd κ t2 ∧ t ≤ t2 := fun e w => by
            have := ih e w
            cases hl : lpX κ un k t1 e w with
            | inl x => rw [hl] at this; exact this
            | inr y => rw [hl] at this; exact ⟨this.1, by have := this.2; omega⟩
          split
          · rename_i q; revert q; split
            · intro q; have := fin (e ++ e1 ++ [(4, 0)]) w; rw [q] at this; exact this
            · split
              · intro q; have := fin (e ++ e1 ++ [(5, 0)]) w; rw [q] at this; exact this
              · intro q; have := fin (e ++ wlX w ++ e1) (if κ t = 43 then 2 else 3); rw [q] at this; exact this
          · rename_i q; revert q; split
            · intro q; have := fin (e ++ e1 ++ [(4, 0)]) w; rw [q] at this; exact this
            · split
              · intro q; have := fin (e ++ e1 ++ [(5, 0)]) w; rw [q] at this; exact this
              · intro q; have := fin (e ++ wlX w ++ e1) (if κ t = 43 then 2 else 3); rw [q] at this; exact this
      · rw [if_neg h4]; exact ⟨Or.inr rfl, h⟩
    · rw [if_neg hs]; exact ⟨h, Nat.le_refl t⟩
theorem smB_g {un : Nat → Pr (Nat × Ex)} (hu : exG κ un) : exG κ (smB κ un) := fun t h => by
  unfold smB
  have hf := hu t h
  cases hq : un t with
  | inl x => rw [hq] at hf; exact hf
  | inr y =>
    obtain ⟨t1, e⟩ := y
    rw [hq] at hf
    dsimp only
    have hl := lpX_g hu 401 t1 e 0 (by omega) hf.1
    cases hl1 : lpX κ un 401 t1 e 0 with
    | inl x => rw [hl1] at hl; exact hl
    | inr y => rw [hl1] at hl; exact ⟨hl.1, by have := hl.2; have := hf.2; omega⟩
theorem smX_g : ∀ m : Nat, exG κ (smX κ ν m)
  | 0 => smB_g (unX_g fun f hf => by cases hf)
  | m + 1 => smB_g (unX_g fun f hf => by cases hf; exact smX_g m)
theorem lfS_g {lf : Nat × Nat} {c t : Nat} {b : Bool} (h : lfOk κ lf) (ht : gd κ t) : lfOk κ (lfS lf c t b) := by
  unfold lfS
  split
  · exact fun _ => ht
  · exact h
theorem intS_g {least most t : Nat} {lf : Nat × Nat} (h : gd κ t) (hl : lfOk κ lf) : match intS κ ν least most t lf with
    | .inl x => ftG κ x
    | .inr (t1, lf1) => gd κ t1 ∧ t < t1 ∧ lfOk κ lf1 := by
  unfold intS
  by_cases h20 : κ t = 20
  · rw [if_pos h20]
    by_cases h4 : t < 400
    · rw [if_pos h4]; exact ⟨h.nx h4 (by omega), by omega, lfS_g hl h⟩
    · rw [if_neg h4]; exact ⟨Or.inr rfl, h⟩
  · rw [if_neg h20]; exact ⟨Or.inl rfl, h⟩
theorem rwS_g {f most : Nat} : ∀ (k t n : Nat) (row : Rw) (lf : Nat × Nat), gd κ t → lfOk κ lf → match rwS κ ν f most k t n row lf with
    | .inl x => ftG κ x
    | .inr (t1, _, _, lf1) => gd κ t1 ∧ t ≤ t1 ∧ lfOk κ lf1
  | 0, t, n, row, lf, h, hl => by
    unfold rwS
    by_cases h20 : κ t = 20
    · rw [if_pos h20]; exact ⟨Or.inr rfl, h⟩
    · rw [if_neg h20]; exact ⟨h, Nat.le_refl t, hl⟩
  | k + 1, t, n, row, lf, h, hl => by
    unfold rwS
    by_cases h20 : κ t = 20
    · rw [if_pos h20]
      by_cases h4 : t < 400
      · rw [if_pos h4]
        have ih := rwS_g (f := f) (most := most) k (t + 1) (n + 1) (rUp row (f + n) ((ν t : Nat) : Int)) (lfS lf 5 t (decide (ν t < 0 ∨ most < ν t))) (h.nx h4 (by omega)) (lfS_g hl h)
        revert ih
        cases rwS κ ν f most k (t + 1) (n + 1) (rUp row (f + n) ((ν t : Nat) : Int)) (lfS lf 5 t (decide (ν t < 0 ∨ most < ν t))) with
        | inl x => exact fun ih => ih
        | inr y => exact fun ih => ⟨ih.1, by have := ih.2.1; omega, ih.2.2⟩
      · rw [if_neg h4]; exact ⟨Or.inr rfl, h⟩
    · rw [if_neg h20]; exact ⟨h, Nat.le_refl t, hl⟩
theorem vwS_g {t : Nat} (h : gd κ t) : match vwS κ t with
    | .inl x => ftG κ x
    | .inr t1 => gd κ t1 ∧ t < t1 := by
  unfold vwS
  by_cases hv : 8 ≤ κ t ∧ κ t ≤ 11
  · rw [if_pos hv]
    by_cases h4 : t < 400
    · rw [if_pos h4]; exact ⟨h.nx h4 (by omega), by omega⟩
    · rw [if_neg h4]; exact ⟨Or.inr rfl, h⟩
  · rw [if_neg hv]; exact ⟨Or.inl rfl, h⟩
theorem nmS_g {nm : Nat → Nat} {n t : Nat} {lf : Nat × Nat} (h : gd κ t) (hl : lfOk κ lf) : match nmS κ ν nm n t lf with
    | .inl x => ftG κ x
    | .inr (t1, lf1) => gd κ t1 ∧ t < t1 ∧ lfOk κ lf1 := by
  unfold nmS
  by_cases h20 : κ t = 19
  · rw [if_pos h20]
    by_cases h4 : t < 400
    · rw [if_pos h4]; exact ⟨h.nx h4 (by omega), by omega, lfS_g hl h⟩
    · rw [if_neg h4]; exact ⟨Or.inr rfl, h⟩
  · rw [if_neg h20]; exact ⟨Or.inl rfl, h⟩
theorem if1_g {t : Nat} (h : gd κ t) : match if1 κ ν t with
    | .inl x => ftG κ x
    | .inr (t1, _) => gd κ t1 ∧ t < t1 := by
  unfold if1
  have a := tkX_g (w := 5) h (by decide)
  cases ha : tkX κ 5 t with
  | inl x => rw [ha] at a; exact a
  | inr t1 =>
    rw [ha] at a
    dsimp only
    have b := smX_g (κ := κ) (ν := ν) 6 t1 a.1
    cases hb : smX κ ν 6 t1 with
    | inl x => rw [hb] at b; exact b
    | inr y =>
      obtain ⟨t2, e2⟩ := y
      rw [hb] at b
      dsimp only
      have c := tkX_g (w := 60) b.1 (by decide)
      cases hc : tkX κ 60 t2 with
      | inl x => rw [hc] at c; exact c
      | inr t3 =>
        rw [hc] at c
        dsimp only
        have d := smX_g (κ := κ) (ν := ν) 6 t3 c.1
        cases hd : smX κ ν 6 t3 with
        | inl x => rw [hd] at d; exact d
        | inr y =>
          obtain ⟨t4, e4⟩ := y
          rw [hd] at d
          dsimp only
          have e := tkX_g (w := 6) d.1 (by decide)
          cases he : tkX κ 6 t4 with
          | inl x => rw [he] at e; exact e
          | inr t5 =>
            rw [he] at e
            dsimp only
            have f := smX_g (κ := κ) (ν := ν) 6 t5 e.1
            cases hf : smX κ ν 6 t5 with
            | inl x => rw [hf] at f; exact f
            | inr y =>
              obtain ⟨t6, e6⟩ := y
              rw [hf] at f
              dsimp only
              have g := tkX_g (w := 7) f.1 (by decide)
              cases hg : tkX κ 7 t6 with
              | inl x => rw [hg] at g; exact g
              | inr t7 =>
                rw [hg] at g
                refine ⟨g.1, ?_⟩
                have := a.2; have := b.2; have := c.2; have := d.2; have := e.2; have := f.2; have := g.2
                omega
theorem ifS_g : ∀ (k t : Nat) (l : List (Ex × Ex × Ex)), gd κ t → match ifS κ ν k t l with
    | .inl x => ftG κ x
    | .inr (t1, _) => gd κ t1 ∧ t ≤ t1
  | 0, t, l, h => by
    unfold ifS
    by_cases h5 : κ t = 5
    · rw [if_pos h5]; exact ⟨Or.inr rfl, h⟩
    · rw [if_neg h5]; exact ⟨h, Nat.le_refl t⟩
  | k + 1, t, l, h => by
    unfold ifS
    by_cases h5 : κ t = 5
    · rw [if_pos h5]
      have a := if1_g (κ := κ) (ν := ν) h
      cases ha : if1 κ ν t with
      | inl x => rw [ha] at a; exact a
      | inr y =>
        obtain ⟨t1, p⟩ := y
        rw [ha] at a
        dsimp only
        have ih := ifS_g k t1 (l ++ [p]) a.1
        revert ih
        cases ifS κ ν k t1 (l ++ [p]) with
        | inl x => exact fun ih => ih
        | inr y => exact fun ih => ⟨ih.1, by have := ih.2; have := a.2; omega⟩
    · rw [if_neg h5]; exact ⟨h, Nat.le_refl t⟩
/-- of statements -/
def stG (κ : Nat → Nat) (t : Nat) (r : Pr (Nat × Dr)) : Prop := match r with
  | .inl x => ftG κ x
  | .inr (t1, x1) => gd κ t1 ∧ t < t1 ∧ lfOk κ x1.2.2.2
theorem semS_g {t t0 : Nat} {x : Dr} (h : gd κ t) (h0 : t0 ≤ t) (hl : lfOk κ x.2.2.2) : stG κ t0 (semS κ t x) := by
  unfold semS
  have a := tkX_g (w := 59) h (by decide)
  cases ha : tkX κ 59 t with
  | inl x => rw [ha] at a; exact a
  | inr t1 => rw [ha] at a; exact ⟨a.1, by have := a.2; omega, hl⟩
theorem stS_g {t : Nat} {x : Dr} (h : gd κ t) (hl : lfOk κ x.2.2.2) : stG κ t (stS κ ν t x) := by
  unfold stS
  by_cases h0 : κ t = 0
  · rw [if_pos h0]
    unfold st0
    by_cases h4 : t < 400
    · rw [if_pos h4]
      have a := rwS_g (ν := ν) (f := 1) (most := 99) 24 (t + 1) 0 (tTh x.1) x.2.2.2 (h.nx h4 (by omega)) hl
      cases ha : rwS κ ν 1 99 24 (t + 1) 0 (tTh x.1) x.2.2.2 with
      | inl y => rw [ha] at a; exact a
      | inr y =>
        obtain ⟨t1, n, row, lf⟩ := y
        rw [ha] at a
        exact semS_g a.1 (by have := a.2.1; omega) a.2.2
    · rw [if_neg h4]; exact ⟨Or.inr rfl, h⟩
  · rw [if_neg h0]
    by_cases h1 : κ t = 1
    · rw [if_pos h1]
      unfold st1
      by_cases h4 : t < 400
      · rw [if_pos h4]
        have a := rwS_g (ν := ν) (f := 0) (most := 9) 14 (t + 1) 0 (tRn x.1) x.2.2.2 (h.nx h4 (by omega)) hl
        cases ha : rwS κ ν 0 9 14 (t + 1) 0 (tRn x.1) x.2.2.2 with
        | inl y => rw [ha] at a; exact a
        | inr y =>
          obtain ⟨t1, n, row, lf⟩ := y
          rw [ha] at a
          exact semS_g a.1 (by have := a.2.1; omega) a.2.2
      · rw [if_neg h4]; exact ⟨Or.inr rfl, h⟩
    · rw [if_neg h1]
      by_cases h2 : κ t = 2
      · rw [if_pos h2]
        unfold st2
        by_cases h4 : t < 400
        · rw [if_pos h4]
          have a := intS_g (ν := ν) (least := 0) (most := 999) (h.nx h4 (by omega)) hl
          cases ha : intS κ ν 0 999 (t + 1) x.2.2.2 with
          | inl y => rw [ha] at a; exact a
          | inr y =>
            obtain ⟨t1, lf⟩ := y
            rw [ha] at a
            dsimp only
            have b := intS_g (ν := ν) (least := 0) (most := 99) a.1 a.2.2
            cases hb : intS κ ν 0 99 t1 lf with
            | inl y => rw [hb] at b; exact b
            | inr y =>
              obtain ⟨t2, lf2⟩ := y
              rw [hb] at b
              exact semS_g b.1 (by have := a.2.1; have := b.2.1; omega) b.2.2
        · rw [if_neg h4]; exact ⟨Or.inr rfl, h⟩
      · rw [if_neg h2]
        by_cases h3 : κ t = 3
        · rw [if_pos h3]
          unfold st3
          by_cases h8 : tP x.1 < 8
          · rw [if_pos h8]
            by_cases h4 : t < 400
            · rw [if_pos h4]
              have a := nmS_g (ν := ν) (nm := x.2.2.1) (n := tP x.1) (h.nx h4 (by omega)) hl
              cases ha : nmS κ ν x.2.2.1 (tP x.1) (t + 1) x.2.2.2 with
              | inl y => rw [ha] at a; exact a
              | inr y =>
                obtain ⟨t1, lf⟩ := y
                rw [ha] at a
                dsimp only
                have b := intS_g (ν := ν) (least := 1) (most := 30) a.1 a.2.2
                cases hb : intS κ ν 1 30 t1 lf with
                | inl y => rw [hb] at b; exact b
                | inr y =>
                  obtain ⟨t2, lf2⟩ := y
                  rw [hb] at b
                  dsimp only
                  have c := vwS_g b.1
                  cases hc : vwS κ t2 with
                  | inl y => rw [hc] at c; exact c
                  | inr t3 =>
                    rw [hc] at c
                    exact semS_g c.1 (by have := a.2.1; have := b.2.1; have := c.2; omega) b.2.2
            · rw [if_neg h4]; exact ⟨Or.inr rfl, h⟩
          · rw [if_neg h8]; exact ⟨Or.inr rfl, h⟩
        · rw [if_neg h3]
          by_cases h44 : κ t = 4
          · rw [if_pos h44]
            unfold st4
            by_cases h8 : x.2.1 < 8
            · rw [if_pos h8]
              by_cases h4 : t < 400
              · rw [if_pos h4]
                have a := vwS_g (h.nx h4 (by omega))
                cases ha : vwS κ (t + 1) with
                | inl y => rw [ha] at a; exact a
                | inr t1 =>
                  rw [ha] at a
                  dsimp only
                  have b := tkX_g (w := 61) a.1 (by decide)
                  cases hb : tkX κ 61 t1 with
                  | inl y => rw [hb] at b; exact b
                  | inr t2 =>
                    rw [hb] at b
                    dsimp only
                    have c := ifS_g (ν := ν) 4 t2 [] b.1
                    cases hc : ifS κ ν 4 t2 [] with
                    | inl y => rw [hc] at c; exact c
                    | inr y =>
                      obtain ⟨t3, l⟩ := y
                      rw [hc] at c
                      dsimp only
                      have d := smX_g (κ := κ) (ν := ν) 6 t3 c.1
                      cases hd : smX κ ν 6 t3 with
                      | inl y => rw [hd] at d; exact d
                      | inr y =>
                        obtain ⟨t4, e⟩ := y
                        rw [hd] at d
                        exact semS_g d.1 (by have := a.2; have := b.2; have := c.2; have := d.2; omega) hl
              · rw [if_neg h4]; exact ⟨Or.inr rfl, h⟩
            · rw [if_neg h8]; exact ⟨Or.inr rfl, h⟩
          · rw [if_neg h44]; exact ⟨Or.inl rfl, h⟩
end POK
