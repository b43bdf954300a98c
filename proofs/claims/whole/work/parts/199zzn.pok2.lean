/-! PURE: a text without a later FAULT keeps the bounds -/
section PK2
variable {κ ν : Nat → Nat}
theorem lfS_0 {lf : Nat × Nat} {c t : Nat} {b : Bool} (hc : c ≠ 0) (h : (lfS lf c t b).1 = 0) : lf.1 = 0 ∧ b = false := by
  unfold lfS at h
  by_cases hb : b = true ∧ lf.1 = 0
  · rw [if_pos hb] at h
    exact absurd h hc
  · rw [if_neg hb] at h
    refine ⟨h, ?_⟩
    cases b with
    | false => rfl
    | true => exact absurd ⟨rfl, h⟩ hb
def dfOk (x : Dr) : Prop := x.2.2.2.1 = 0 → tOk x.1
theorem rwS_ok {f most room : Nat} : ∀ (k t n : Nat) (row : Rw) (lf : Nat × Nat) (t1 n2 : Nat) (row1 : Rw) (lf1 : Nat × Nat), n + k = room → (lf.1 = 0 → ∀ j, j < n → 0 ≤ row (f + j) ∧ row (f + j) ≤ most) → rwS κ ν f most k t n row lf = .inr (t1, n2, row1, lf1) → lf1.1 = 0 → lf.1 = 0 ∧ n2 ≤ room ∧ ∀ j, j < n2 → 0 ≤ row1 (f + j) ∧ row1 (f + j) ≤ most
  | 0, t, n, row, lf, t1, n2, row1, lf1, hn, hr, h, h0 => by
    unfold rwS at h
    by_cases hk : κ t = 20
    · rw [if_pos hk] at h; cases h
    · rw [if_neg hk] at h; cases h
      exact ⟨h0, by omega, hr h0⟩
  | k + 1, t, n, row, lf, t1, n2, row1, lf1, hn, hr, h, h0 => by
    unfold rwS at h
    by_cases hk : κ t = 20
    · rw [if_pos hk] at h
      by_cases h4 : t < 400
      · rw [if_pos h4] at h
        have ih := rwS_ok (f := f) (most := most) (room := room) k (t + 1) (n + 1) _ _ t1 n2 row1 lf1 (by omega) (fun q j hj => by
          have hq := lfS_0 (by decide) q
          have hb : ¬ (ν t < 0 ∨ most < ν t) := of_decide_eq_false hq.2
          by_cases ej : j = n
          · subst ej; rw [rUp_on]; omega
          · rw [rUp_ne (by omega)]; exact hr hq.1 j (by omega)) h h0
        exact ⟨(lfS_0 (by decide) ih.1).1, ih.2⟩
      · rw [if_neg h4] at h; cases h
    · rw [if_neg hk] at h; cases h
      exact ⟨h0, by omega, hr h0⟩
theorem semS_ok {t t1 : Nat} {x x1 : Dr} (h : semS κ t x = .inr (t1, x1)) : x1 = x := by
  unfold semS at h
  revert h
  cases tkX κ 59 t with
  | inl y => intro h; cases h
  | inr t2 => intro h; cases h; rfl
theorem st0_ok {t t1 : Nat} {x x1 : Dr} (hx : dfOk x) (h : st0 κ ν t x = .inr (t1, x1)) : dfOk x1 := by
  unfold st0 at h
  by_cases h4 : t < 400
  · rw [if_pos h4] at h
    revert h
    cases hr : rwS κ ν 1 99 24 (t + 1) 0 (tTh x.1) x.2.2.2 with
    | inl y => intro h; cases h
    | inr y =>
      obtain ⟨t2, n, row, lf⟩ := y
      intro h
      have e := semS_ok h
      rw [e]
      intro h0
      have hq := rwS_ok (room := 24) 24 (t + 1) 0 (tTh x.1) x.2.2.2 t2 n row lf rfl (fun _ j hj => absurd hj (Nat.not_lt_zero j)) hr h0
      obtain ⟨g1, g2, g3, g4, g5, g6, g7, g8, g9⟩ := hx hq.1
      exact ⟨hq.2.1, fun j a b => by
        have b : j ≤ n := b
        have := hq.2.2 (j - 1) (by omega)
        rw [show 1 + (j - 1) = j by omega] at this
        exact this, g3, g4, g5, g6, g7, g8, g9⟩
  · rw [if_neg h4] at h; cases h
theorem st1_ok {t t1 : Nat} {x x1 : Dr} (hx : dfOk x) (h : st1 κ ν t x = .inr (t1, x1)) : dfOk x1 := by
  unfold st1 at h
  by_cases h4 : t < 400
  · rw [if_pos h4] at h
    revert h
    cases hr : rwS κ ν 0 9 14 (t + 1) 0 (tRn x.1) x.2.2.2 with
    | inl y => intro h; cases h
    | inr y =>
      obtain ⟨t2, n, row, lf⟩ := y
      intro h
      have e := semS_ok h
      rw [e]
      intro h0
      have hq := rwS_ok (room := 14) 14 (t + 1) 0 (tRn x.1) x.2.2.2 t2 n row lf rfl (fun _ j hj => absurd hj (Nat.not_lt_zero j)) hr h0
      obtain ⟨g1, g2, g3, g4, g5, g6, g7, g8, g9⟩ := hx hq.1
      exact ⟨g1, g2, hq.2.1, fun j a => by
        have := hq.2.2 j a
        rw [Nat.zero_add] at this
        exact this, g5, g6, g7, g8, g9⟩
  · rw [if_neg h4] at h; cases h
theorem intS_0 {least most t : Nat} {lf : Nat × Nat} {t1 : Nat} {lf1 : Nat × Nat} (h : intS κ ν least most t lf = .inr (t1, lf1)) (h0 : lf1.1 = 0) : lf.1 = 0 ∧ least ≤ ν t ∧ ν t ≤ most := by
  have ho := intS_ok h
  have e : lf1 = lfS lf 5 t (decide (ν t < least ∨ most < ν t)) := congrArg Prod.snd ho.2.2
  rw [e] at h0
  have hq := lfS_0 (by decide) h0
  have hb : ¬ (ν t < least ∨ most < ν t) := of_decide_eq_false hq.2
  exact ⟨hq.1, by omega, by omega⟩
theorem st2_ok {t t1 : Nat} {x x1 : Dr} (hx : dfOk x) (h : st2 κ ν t x = .inr (t1, x1)) : dfOk x1 := by
  unfold st2 at h
  by_cases h4 : t < 400
  · rw [if_pos h4] at h
    revert h
    cases hr : intS κ ν 0 999 (t + 1) x.2.2.2 with
    | inl y => intro h; cases h
    | inr y =>
      obtain ⟨t2, lf⟩ := y
      dsimp only
      cases hr2 : intS κ ν 0 99 t2 lf with
      | inl y => intro h; cases h
      | inr y =>
        obtain ⟨t3, lf2⟩ := y
        intro h
        have e := semS_ok h
        rw [e]
        intro h0
        have q2 := intS_0 hr2 h0
        have q1 := intS_0 hr q2.1
        obtain ⟨g1, g2, g3, g4, g5, g6, g7, g8, g9⟩ := hx q1.1
        refine ⟨g1, g2, g3, g4, ?_, ?_, g7, g8, g9⟩
        · show 0 ≤ ((ν (t + 1) : Nat) : Int) ∧ ((ν (t + 1) : Nat) : Int) ≤ 999
          omega
        · show 0 ≤ ((ν t2 : Nat) : Int) ∧ ((ν t2 : Nat) : Int) ≤ 99
          omega
  · rw [if_neg h4] at h; cases h
theorem st3_ok {t t1 : Nat} {x x1 : Dr} (hx : dfOk x) (h : st3 κ ν t x = .inr (t1, x1)) : dfOk x1 := by
  unfold st3 at h
  by_cases h8 : tP x.1 < 8
  · rw [if_pos h8] at h
    by_cases h4 : t < 400
    · rw [if_pos h4] at h
      revert h
      cases hr : nmS κ ν x.2.2.1 (tP x.1) (t + 1) x.2.2.2 with
      | inl y => intro h; cases h
      | inr y =>
        obtain ⟨t2, lf⟩ := y
        dsimp only
        cases hr2 : intS κ ν 1 30 t2 lf with
        | inl y => intro h; cases h
        | inr y =>
          obtain ⟨t3, lf2⟩ := y
          dsimp only
          cases hr3 : vwS κ t3 with
          | inl y => intro h; cases h
          | inr t4 =>
            intro h
            have e := semS_ok h
            rw [e]
            intro h0
            have q2 := intS_0 hr2 h0
            have ho := nmS_ok hr
            have e1 : lf = lfS x.2.2.2 3 (t + 1) (anyN x.2.2.1 (ν (t + 1)) (tP x.1)) := congrArg Prod.snd ho.2.2
            have q1 := q2.1
            rw [e1] at q1
            have q0 := lfS_0 (by decide) q1
            have ov := vwS_ok hr3
            obtain ⟨g1, g2, g3, g4, g5, g6, g7, g8, g9⟩ := hx q0.1
            refine ⟨g1, g2, g3, g4, g5, g6, ?_, fun p hp => ?_, g9⟩
            · show tP x.1 + 1 ≤ 8
              omega
            · have hp : p < tP x.1 + 1 := hp
              show (1 ≤ rUp (tW x.1) (tP x.1) ((ν t2 : Nat) : Int) p ∧ rUp (tW x.1) (tP x.1) ((ν t2 : Nat) : Int) p ≤ 30) ∧ 0 ≤ rUp (tV x.1) (tP x.1) ((κ t3 - 8 : Nat) : Int) p ∧ rUp (tV x.1) (tP x.1) ((κ t3 - 8 : Nat) : Int) p ≤ 3
              by_cases ep : p = tP x.1
              · rw [ep, rUp_on, rUp_on]; omega
              · rw [rUp_ne ep, rUp_ne ep]; exact g8 p (by omega)
    · rw [if_neg h4] at h; cases h
  · rw [if_neg h8] at h; cases h
def ifOk (q : Ex × Ex × Ex) : Prop := exOk q.1 ∧ exOk q.2.1 ∧ exOk q.2.2
theorem if1_ok (hν : ∀ t, κ t = 20 → ν t < 10000) {t t1 : Nat} {q : Ex × Ex × Ex} (h : if1 κ ν t = .inr (t1, q)) : ifOk q := by
  rw [if1_s] at h
  revert h
  cases tkX κ 5 t with
  | inl y => intro h; cases h
  | inr a =>
    show s1S κ ν a = _ → _
    unfold s1S
    cases ha : smX κ ν 6 a with
    | inl y => intro h; cases h
    | inr y =>
      obtain ⟨t2, ea⟩ := y
      show s2S κ ν ea t2 = _ → _
      unfold s2S
      cases tkX κ 60 t2 with
      | inl y => intro h; cases h
      | inr t3 =>
        show s3S κ ν ea t3 = _ → _
        unfold s3S
        cases hb : smX κ ν 6 t3 with
        | inl y => intro h; cases h
        | inr y =>
          obtain ⟨t4, eb⟩ := y
          show s4S κ ν ea eb t4 = _ → _
          unfold s4S
          cases tkX κ 6 t4 with
          | inl y => intro h; cases h
          | inr t5 =>
            show s5S κ ν ea eb t5 = _ → _
            unfold s5S
            cases hc : smX κ ν 6 t5 with
            | inl y => intro h; cases h
            | inr y =>
              obtain ⟨t6, ec⟩ := y
              dsimp only
              cases tkX κ 7 t6 with
              | inl y => intro h; cases h
              | inr t7 =>
                intro h
                cases h
                exact ⟨exOk_sum hν ha, exOk_sum hν hb, exOk_sum hν hc⟩
theorem ifS_ok (hν : ∀ t, κ t = 20 → ν t < 10000) : ∀ (k t : Nat) (l : List (Ex × Ex × Ex)) (t1 : Nat) (l1 : List (Ex × Ex × Ex)), (∀ q ∈ l, ifOk q) → ifS κ ν k t l = .inr (t1, l1) → ∀ q ∈ l1, ifOk q
  | 0, t, l, t1, l1, hl, h => by
    unfold ifS at h
    by_cases hk : κ t = 5
    · rw [if_pos hk] at h; cases h
    · rw [if_neg hk] at h; cases h; exact hl
  | k + 1, t, l, t1, l1, hl, h => by
    unfold ifS at h
    by_cases hk : κ t = 5
    · rw [if_pos hk] at h
      revert h
      cases hi : if1 κ ν t with
      | inl y => intro h; cases h
      | inr y =>
        obtain ⟨t2, q⟩ := y
        intro h
        refine ifS_ok hν k t2 (l ++ [q]) t1 l1 (fun p hp => ?_) h
        rcases List.mem_append.1 hp with hp | hp
        · exact hl p hp
        · rw [List.mem_singleton.1 hp]; exact if1_ok hν hi
    · rw [if_neg hk] at h; cases h; exact hl
theorem st4_ok (hν : ∀ t, κ t = 20 → ν t < 10000) {t t1 : Nat} {x x1 : Dr} (hx : dfOk x) (h : st4 κ ν t x = .inr (t1, x1)) : dfOk x1 := by
  unfold st4 at h
  by_cases h8 : x.2.1 < 8
  · rw [if_pos h8] at h
    by_cases h4 : t < 400
    · rw [if_pos h4] at h
      revert h
      cases hr : vwS κ (t + 1) with
      | inl y => intro h; cases h
      | inr t2 =>
        dsimp only
        cases hr2 : tkX κ 61 t2 with
        | inl y => intro h; cases h
        | inr t3 =>
          dsimp only
          cases hr3 : ifS κ ν 4 t3 [] with
          | inl y => intro h; cases h
          | inr y =>
            obtain ⟨t4, l⟩ := y
            dsimp only
            cases hr4 : smX κ ν 6 t4 with
            | inl y => intro h; cases h
            | inr y =>
              obtain ⟨t5, e⟩ := y
              intro h
              have ee := semS_ok h
              rw [ee]
              intro h0
              obtain ⟨g1, g2, g3, g4, g5, g6, g7, g8, g9⟩ := hx h0
              refine ⟨g1, g2, g3, g4, g5, g6, g7, g8, fun w hw ll hl => ?_⟩
              have hl : (if w = κ (t + 1) - 8 then some (l, e) else tL x.1 w) = some ll := hl
              by_cases hww : w = κ (t + 1) - 8
              · rw [if_pos hww] at hl
                cases hl
                exact ⟨ifS_ok hν 4 t3 [] t4 l (fun q hq => by cases hq) hr3, exOk_sum hν hr4⟩
              · rw [if_neg hww] at hl
                exact g9 w hw ll hl
    · rw [if_neg h4] at h; cases h
  · rw [if_neg h8] at h; cases h
theorem stS_ok (hν : ∀ t, κ t = 20 → ν t < 10000) {t t1 : Nat} {x x1 : Dr} (hx : dfOk x) (h : stS κ ν t x = .inr (t1, x1)) : dfOk x1 := by
  unfold stS at h
  by_cases c0 : κ t = 0
  · rw [if_pos c0] at h; exact st0_ok hx h
  rw [if_neg c0] at h
  by_cases c1 : κ t = 1
  · rw [if_pos c1] at h; exact st1_ok hx h
  rw [if_neg c1] at h
  by_cases c2 : κ t = 2
  · rw [if_pos c2] at h; exact st2_ok hx h
  rw [if_neg c2] at h
  by_cases c3 : κ t = 3
  · rw [if_pos c3] at h; exact st3_ok hx h
  rw [if_neg c3] at h
  by_cases c4 : κ t = 4
  · rw [if_pos c4] at h; exact st4_ok hν hx h
  rw [if_neg c4] at h; cases h
theorem prS_ok (hν : ∀ t, κ t = 20 → ν t < 10000) : ∀ (k t : Nat) (x x1 : Dr), dfOk x → prS κ ν k t x = .inr x1 → dfOk x1
  | 0, t, x, x1, hx, h => by unfold prS at h; cases h
  | k + 1, t, x, x1, hx, h => by
    unfold prS at h
    by_cases hz : κ t = 21
    · rw [if_pos hz] at h; cases h; exact hx
    · rw [if_neg hz] at h
      revert h
      cases hs : stS κ ν t x with
      | inl y => intro h; cases h
      | inr y =>
        obtain ⟨t1, x2⟩ := y
        intro h
        exact prS_ok hν k t1 x2 x1 (stS_ok hν hx hs) h
theorem dr0_ok : dfOk dr0 := fun _ => ⟨Nat.zero_le _, fun j a b => ⟨Int.le_refl 0, by show (0 : Int) ≤ 99; decide⟩, Nat.zero_le _, fun j a => absurd a (Nat.not_lt_zero j), by decide, by decide, Nat.zero_le _, fun p a => absurd a (Nat.not_lt_zero p), fun v _ l h => by cases h⟩
end PK2
