/-! PURE: what comes of a going: bounds, what it doesn't touch, what it doesn't hang on -/
section CM
variable {τ : Tx} {vow heavy day : Int}
theorem outS_ok (hh : 0 ≤ heavy ∧ heavy ≤ 2000) (hn : tN τ ≤ 24) {R : Nat × Nat × Wk} (ha : R.2.1 ≤ tN τ + 1) (h : rOk τ R.2.2.1) : rOk τ (outS τ vow heavy day R).2.2.1 ∧ (outS τ vow heavy day R).2.1 ≤ tN τ + 1 := by
  obtain ⟨c, a, x⟩ := R
  have hd := dnS_ok (τ := τ) (vow := vow) (day := day) hh hn 26 a x ha h
  match c with
  | 0 =>
    show rOk τ (if vow = 3 then (0, a, x) else dnS τ vow heavy day 26 a x : Nat × Nat × Wk).2.2.1 ∧ (if vow = 3 then (0, a, x) else dnS τ vow heavy day 26 a x : Nat × Nat × Wk).2.1 ≤ tN τ + 1
    by_cases h3 : vow = 3
    · rw [if_pos h3]; exact ⟨h, ha⟩
    · rw [if_neg h3]; exact hd
  | 1 => exact hd
  | 2 => exact ⟨h, ha⟩
  | c + 3 =>
    show rOk τ (if vow = 3 then (0, a, x) else dnS τ vow heavy day 26 a x : Nat × Nat × Wk).2.2.1 ∧ (if vow = 3 then (0, a, x) else dnS τ vow heavy day 26 a x : Nat × Nat × Wk).2.1 ≤ tN τ + 1
    by_cases h3 : vow = 3
    · rw [if_pos h3]; exact ⟨h, ha⟩
    · rw [if_neg h3]; exact hd
theorem comesS_ok (hh : 0 ≤ heavy ∧ heavy ≤ 2000) (hn : tN τ ≤ 24) {x : Wk} (h : rOk τ x.1) : rOk τ (comesS τ vow heavy day x).2.2.1 ∧ (comesS τ vow heavy day x).2.1 ≤ tN τ + 1 := by
  have h1 := upS_ok (τ := τ) (vow := vow) (day := day) hh hn 26 0 x (by omega) h
  rw [comesS_out]
  exact outS_ok hh hn h1.2 h1.1
theorem comesS_off (hh : 0 ≤ heavy ∧ heavy ≤ 2000) (hn : tN τ ≤ 24) {x : Wk} (h : rOk τ x.1) {j : Nat} (hj : 50 ≤ j) : (comesS τ vow heavy day x).2.2.1 j = x.1 j := by
  have h1 := upS_ok (τ := τ) (vow := vow) (day := day) hh hn 26 0 x (by omega) h
  have h2 := upS_off (τ := τ) (vow := vow) (heavy := heavy) (day := day) hn hj 26 0 x
  rw [comesS_out]
  obtain ⟨c, a, y, hR⟩ : ∃ c a y, upS τ vow heavy day 26 0 x = (c, a, y) := ⟨_, _, _, rfl⟩
  rw [hR] at h1 h2 ⊢
  have hd := dnS_off (τ := τ) (vow := vow) (heavy := heavy) (day := day) hn hj 26 a y h1.2
  have h2 : y.1 j = x.1 j := h2
  match c with
  | 0 =>
    show (if vow = 3 then (0, a, y) else dnS τ vow heavy day 26 a y : Nat × Nat × Wk).2.2.1 j = x.1 j
    by_cases h3 : vow = 3
    · rw [if_pos h3]; exact h2
    · rw [if_neg h3]; exact hd.trans h2
  | 1 => exact hd.trans h2
  | 2 => exact h2
  | c + 3 =>
    show (if vow = 3 then (0, a, y) else dnS τ vow heavy day 26 a y : Nat × Nat × Wk).2.2.1 j = x.1 j
    by_cases h3 : vow = 3
    · rw [if_pos h3]; exact h2
    · rw [if_neg h3]; exact hd.trans h2
/-- alike but for what was lost first -/
def wkE (x y : Wk) : Prop := x.1 = y.1 ∧ x.2.1 = y.2.1
theorem hold1_fg {w : Int} {s : Nat} {x y : Wk} (h : wkE x y) : (hold1 w s x).1 = (hold1 w s y).1 ∧ wkE (hold1 w s x).2 (hold1 w s y).2 := by
  obtain ⟨ρ, m, f⟩ := x
  obtain ⟨ρ', m', f'⟩ := y
  obtain ⟨h1, h2⟩ := h
  have h1 : ρ = ρ' := h1
  have h2 : m = m' := h2
  subst h1; subst h2
  unfold hold1
  dsimp only
  split
  · exact ⟨rfl, rfl, rfl⟩
  · exact ⟨rfl, rfl, rfl⟩
theorem holdS_fg {up : Int} {s : Nat} : ∀ (k : Nat) (x y : Wk), wkE x y → (holdS τ vow heavy day up s k x).1 = (holdS τ vow heavy day up s k y).1 ∧ wkE (holdS τ vow heavy day up s k x).2 (holdS τ vow heavy day up s k y).2
  | 0, x, y, h => ⟨rfl, h⟩
  | k + 1, x, y, h => by
    have h1 := hold1_fg (w := wearS τ vow heavy s (x.1 s) day up (gonS (tN τ) x.1)) (s := s) h
    have e : wearS τ vow heavy s (y.1 s) day up (gonS (tN τ) y.1) = wearS τ vow heavy s (x.1 s) day up (gonS (tN τ) x.1) := by rw [h.1]
    unfold holdS
    rw [e]
    obtain ⟨b, x', hx⟩ : ∃ b x', hold1 (wearS τ vow heavy s (x.1 s) day up (gonS (tN τ) x.1)) s x = (b, x') := ⟨_, _, rfl⟩
    obtain ⟨b', y', hy⟩ : ∃ b x', hold1 (wearS τ vow heavy s (x.1 s) day up (gonS (tN τ) x.1)) s y = (b, x') := ⟨_, _, rfl⟩
    rw [hx, hy] at h1 ⊢
    obtain ⟨h2, h3⟩ := h1
    have h2 : b = b' := h2
    subst h2
    cases b with
    | false => exact ⟨rfl, h3⟩
    | true => exact holdS_fg k x' y' h3
def resE (R R' : Nat × Nat × Wk) : Prop := R.1 = R'.1 ∧ R.2.1 = R'.2.1 ∧ wkE R.2.2 R'.2.2
theorem upS_fg : ∀ (k a : Nat) (x y : Wk), wkE x y → resE (upS τ vow heavy day k a x) (upS τ vow heavy day k a y)
  | 0, a, x, y, h => ⟨rfl, rfl, h⟩
  | k + 1, a, x, y, h => by
    unfold upS
    rw [← h.1]
    dsimp only
    split
    · exact ⟨rfl, rfl, h⟩
    · split
      · exact ⟨rfl, rfl, h⟩
      · split
        · exact ⟨rfl, rfl, h⟩
        · have h1 := holdS_fg (τ := τ) (vow := vow) (heavy := heavy) (day := day) (up := 1) (s := nxU (tN τ) x.1 vow a) (kW vow) x y h
          obtain ⟨b, x', hx⟩ : ∃ b x', holdS τ vow heavy day 1 (nxU (tN τ) x.1 vow a) (kW vow) x = (b, x') := ⟨_, _, rfl⟩
          obtain ⟨b', y', hy⟩ : ∃ b x', holdS τ vow heavy day 1 (nxU (tN τ) x.1 vow a) (kW vow) y = (b, x') := ⟨_, _, rfl⟩
          rw [hx, hy] at h1 ⊢
          obtain ⟨h2, h3⟩ := h1
          have h2 : b = b' := h2
          subst h2
          cases b with
          | false => exact ⟨rfl, rfl, h3⟩
          | true => exact upS_fg k _ x' y' h3
theorem dnS_fg : ∀ (k a : Nat) (x y : Wk), wkE x y → resE (dnS τ vow heavy day k a x) (dnS τ vow heavy day k a y)
  | 0, a, x, y, h => ⟨rfl, rfl, h⟩
  | k + 1, a, x, y, h => by
    unfold dnS
    rw [← h.1]
    dsimp only
    split
    · exact ⟨rfl, rfl, h⟩
    · split
      · exact ⟨rfl, rfl, h⟩
      · split
        · exact ⟨rfl, rfl, h⟩
        · have h1 := holdS_fg (τ := τ) (vow := vow) (heavy := heavy) (day := day) (up := 0) (s := nxD x.1 vow a) (kW vow) x y h
          obtain ⟨b, x', hx⟩ : ∃ b x', holdS τ vow heavy day 0 (nxD x.1 vow a) (kW vow) x = (b, x') := ⟨_, _, rfl⟩
          obtain ⟨b', y', hy⟩ : ∃ b x', holdS τ vow heavy day 0 (nxD x.1 vow a) (kW vow) y = (b, x') := ⟨_, _, rfl⟩
          rw [hx, hy] at h1 ⊢
          obtain ⟨h2, h3⟩ := h1
          have h2 : b = b' := h2
          subst h2
          cases b with
          | false => exact ⟨rfl, rfl, h3⟩
          | true => exact dnS_fg k _ x' y' h3
theorem comesS_fg {x y : Wk} (h : wkE x y) : resE (comesS τ vow heavy day x) (comesS τ vow heavy day y) := by
  have h1 := upS_fg (τ := τ) (vow := vow) (heavy := heavy) (day := day) 26 0 x y h
  rw [comesS_out, comesS_out]
  obtain ⟨c, a, x1, hx⟩ : ∃ c a x1, upS τ vow heavy day 26 0 x = (c, a, x1) := ⟨_, _, _, rfl⟩
  obtain ⟨c', a', y1, hy⟩ : ∃ c a x1, upS τ vow heavy day 26 0 y = (c, a, x1) := ⟨_, _, _, rfl⟩
  rw [hx, hy] at h1 ⊢
  obtain ⟨e1, e2, e3⟩ := h1
  have e1 : c = c' := e1
  have e2 : a = a' := e2
  have e3 : wkE x1 y1 := e3
  subst e1; subst e2
  have hd := dnS_fg (τ := τ) (vow := vow) (heavy := heavy) (day := day) 26 a x1 y1 e3
  match c with
  | 0 =>
    show resE (if vow = 3 then (0, a, x1) else dnS τ vow heavy day 26 a x1) (if vow = 3 then (0, a, y1) else dnS τ vow heavy day 26 a y1)
    by_cases h3 : vow = 3
    · rw [if_pos h3, if_pos h3]; exact ⟨rfl, rfl, e3⟩
    · rw [if_neg h3, if_neg h3]; exact hd
  | 1 => exact ⟨by show (if (dnS τ vow heavy day 26 a x1).1 = 0 then 1 else 2) = (if (dnS τ vow heavy day 26 a y1).1 = 0 then 1 else 2); rw [hd.1], hd.2.1, hd.2.2⟩
  | 2 => exact ⟨rfl, rfl, e3⟩
  | c + 3 =>
    show resE (if vow = 3 then (0, a, x1) else dnS τ vow heavy day 26 a x1) (if vow = 3 then (0, a, y1) else dnS τ vow heavy day 26 a y1)
    by_cases h3 : vow = 3
    · rw [if_pos h3, if_pos h3]; exact ⟨rfl, rfl, e3⟩
    · rw [if_neg h3, if_neg h3]; exact hd
/-- the code of what comes of it; on the ground no one is stuck -/
theorem dnS_at : ∀ (k a : Nat) (x : Wk), a ≤ k → (dnS τ vow heavy day k a x).1 = 0 → (dnS τ vow heavy day k a x).2.1 = 0
  | 0, a, x, ha => fun _ => by show a = 0; omega
  | k + 1, a, x, ha => by
    unfold dnS
    dsimp only
    split
    · exact fun _ => rfl
    · rename_i h0
      have hb := nxD_b (ρ := x.1) (vow := vow) (show 1 ≤ a by omega)
      split
      · exact fun _ => rfl
      · split
        · exact fun h => by cases h
        · split
          · exact fun h => by cases h
          · exact dnS_at k _ _ (by omega)
theorem dnS_at2 : ∀ (k a : Nat) (x : Wk), (dnS τ vow heavy day k a x).1 = 2 → 1 ≤ (dnS τ vow heavy day k a x).2.1
  | 0, a, x => fun h => by cases h
  | k + 1, a, x => by
    unfold dnS
    dsimp only
    split
    · exact fun h => by cases h
    · rename_i h0
      split
      · exact fun h => by cases h
      · split
        · exact fun _ => by show 1 ≤ a; omega
        · split
          · exact fun _ => by show 1 ≤ a; omega
          · exact dnS_at2 k _ _
end CM
