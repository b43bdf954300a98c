/-! PURE: walking hangs on how thick the steps are alone -/
def wkT (n : Nat) (x y : Wk) : Prop := ∀ j, 1 ≤ j → j ≤ n → x.1 j = y.1 j
section WKT
variable {τ : Tx} {vow heavy day : Int} {ρ : Rw} {M : AmM} {D d v N : Nat}
theorem hold1_th {w : Int} {n s : Nat} {x y : Wk} (hn : n ≤ 24) (hs : 1 ≤ s ∧ s ≤ n) (h : wkT n x y) : (hold1 w s x).1 = (hold1 w s y).1 ∧ wkT n (hold1 w s x).2 (hold1 w s y).2 := by
  unfold hold1
  dsimp only
  rw [h s hs.1 hs.2]
  have key : ∀ z j, 1 ≤ j → j ≤ n → rUp x.1 s z j = rUp y.1 s z j := fun z j h1 h2 => by
    by_cases hj : j = s
    · subst hj; rw [rUp_on, rUp_on]
    · rw [rUp_ne hj, rUp_ne hj]; exact h j h1 h2
  split
  · exact ⟨rfl, fun j h1 h2 => key _ j h1 h2⟩
  · refine ⟨rfl, fun j h1 h2 => ?_⟩
    show rUp (rUp x.1 s _) (25 + s) _ j = rUp (rUp y.1 s _) (25 + s) _ j
    rw [rUp_ne (show j ≠ 25 + s by omega), rUp_ne (show j ≠ 25 + s by omega)]
    exact key _ j h1 h2
theorem holdS_th {up : Int} {s : Nat} (hn : tN τ ≤ 24) (hs : 1 ≤ s ∧ s ≤ tN τ) : ∀ (k : Nat) (x y : Wk), wkT (tN τ) x y → (holdS τ vow heavy day up s k x).1 = (holdS τ vow heavy day up s k y).1 ∧ wkT (tN τ) (holdS τ vow heavy day up s k x).2 (holdS τ vow heavy day up s k y).2
  | 0, x, y, h => ⟨rfl, h⟩
  | k + 1, x, y, h => by
    have h1 := hold1_th (w := wearS τ vow heavy s (x.1 s) day up (gonS (tN τ) x.1)) (s := s) hn hs h
    have e : wearS τ vow heavy s (y.1 s) day up (gonS (tN τ) y.1) = wearS τ vow heavy s (x.1 s) day up (gonS (tN τ) x.1) := by
      rw [h s hs.1 hs.2, gonS_eq (tN τ) y.1 x.1 fun j a b => h j a b]
    unfold holdS
    rw [e]
    obtain ⟨b, x', hx⟩ : ∃ b x', hold1 (wearS τ vow heavy s (x.1 s) day up (gonS (tN τ) x.1)) s x = (b, x') := ⟨_, _, rfl⟩
    obtain ⟨b', y', hy⟩ : ∃ b x', hold1 (wearS τ vow heavy s (x.1 s) day up (gonS (tN τ) x.1)) s y = (b, x') := ⟨_, _, rfl⟩
    rw [hx, hy] at h1 ⊢
    obtain ⟨h2, h3⟩ := h1
    have h2 : b = b' := h2
    subst h2
    cases b with
    | false => exact ⟨rfl, h3⟩
    | true => exact holdS_th hn hs k x' y' h3
theorem nxU_th {n a : Nat} {x y : Wk} (h : wkT n x y) : nxU n x.1 vow a = nxU n y.1 vow a := by
  unfold nxU
  split
  · split
    · rfl
    · rw [h (a + 2) (by omega) (by omega)]
  · rfl
theorem nxD_th {n a : Nat} {x y : Wk} (ha : a ≤ n + 1) (h : wkT n x y) : nxD x.1 vow a = nxD y.1 vow a := by
  unfold nxD
  split
  · split
    · rfl
    · rw [h (a - 2) (by omega) (by omega)]
  · rfl
def resT (n : Nat) (R R' : Nat × Nat × Wk) : Prop := R.1 = R'.1 ∧ R.2.1 = R'.2.1 ∧ wkT n R.2.2 R'.2.2
theorem upS_th (hn : tN τ ≤ 24) : ∀ (k a : Nat) (x y : Wk), a ≤ tN τ + 1 → wkT (tN τ) x y → resT (tN τ) (upS τ vow heavy day k a x) (upS τ vow heavy day k a y) ∧ (upS τ vow heavy day k a x).2.1 ≤ tN τ + 1
  | 0, a, x, y, ha, h => ⟨⟨rfl, rfl, h⟩, ha⟩
  | k + 1, a, x, y, ha, h => by
    unfold upS
    rw [← nxU_th (vow := vow) (a := a) h]
    dsimp only
    split
    · exact ⟨⟨rfl, rfl, h⟩, ha⟩
    · have hb := nxU_b (ρ := x.1) (vow := vow) (show a ≤ tN τ by omega)
      split
      · exact ⟨⟨rfl, rfl, h⟩, hb.2⟩
      · rw [← h (nxU (tN τ) x.1 vow a) (by omega) (by omega)]
        split
        · exact ⟨⟨rfl, rfl, h⟩, ha⟩
        · have h1 := holdS_th (τ := τ) (vow := vow) (heavy := heavy) (day := day) (up := 1) (s := nxU (tN τ) x.1 vow a) hn ⟨by omega, by omega⟩ (kW vow) x y h
          obtain ⟨b, x', hx⟩ : ∃ b x', holdS τ vow heavy day 1 (nxU (tN τ) x.1 vow a) (kW vow) x = (b, x') := ⟨_, _, rfl⟩
          obtain ⟨b', y', hy⟩ : ∃ b x', holdS τ vow heavy day 1 (nxU (tN τ) x.1 vow a) (kW vow) y = (b, x') := ⟨_, _, rfl⟩
          rw [hx, hy] at h1 ⊢
          obtain ⟨h2, h3⟩ := h1
          have h2 : b = b' := h2
          subst h2
          cases b with
          | false => exact ⟨⟨rfl, rfl, h3⟩, ha⟩
          | true => exact upS_th hn k _ x' y' hb.2 h3
theorem dnS_th (hn : tN τ ≤ 24) : ∀ (k a : Nat) (x y : Wk), a ≤ tN τ + 1 → wkT (tN τ) x y → resT (tN τ) (dnS τ vow heavy day k a x) (dnS τ vow heavy day k a y)
  | 0, a, x, y, ha, h => ⟨rfl, rfl, h⟩
  | k + 1, a, x, y, ha, h => by
    unfold dnS
    rw [← nxD_th (vow := vow) (a := a) ha h]
    dsimp only
    split
    · exact ⟨rfl, rfl, h⟩
    · have hb := nxD_b (ρ := x.1) (vow := vow) (show 1 ≤ a by omega)
      split
      · exact ⟨rfl, rfl, h⟩
      · rw [← h (nxD x.1 vow a) (by omega) (by omega)]
        split
        · exact ⟨rfl, rfl, h⟩
        · have h1 := holdS_th (τ := τ) (vow := vow) (heavy := heavy) (day := day) (up := 0) (s := nxD x.1 vow a) hn ⟨by omega, by omega⟩ (kW vow) x y h
          obtain ⟨b, x', hx⟩ : ∃ b x', holdS τ vow heavy day 0 (nxD x.1 vow a) (kW vow) x = (b, x') := ⟨_, _, rfl⟩
          obtain ⟨b', y', hy⟩ : ∃ b x', holdS τ vow heavy day 0 (nxD x.1 vow a) (kW vow) y = (b, x') := ⟨_, _, rfl⟩
          rw [hx, hy] at h1 ⊢
          obtain ⟨h2, h3⟩ := h1
          have h2 : b = b' := h2
          subst h2
          cases b with
          | false => exact ⟨rfl, rfl, h3⟩
          | true => exact dnS_th hn k _ x' y' (by omega) h3
theorem comesS_th (hn : tN τ ≤ 24) {x y : Wk} (h : wkT (tN τ) x y) : resT (tN τ) (comesS τ vow heavy day x) (comesS τ vow heavy day y) := by
  have h1 := upS_th (τ := τ) (vow := vow) (heavy := heavy) (day := day) hn 26 0 x y (by omega) h
  rw [comesS_out, comesS_out]
  obtain ⟨c, a, x1, hx⟩ : ∃ c a x1, upS τ vow heavy day 26 0 x = (c, a, x1) := ⟨_, _, _, rfl⟩
  obtain ⟨c', a', y1, hy⟩ : ∃ c a x1, upS τ vow heavy day 26 0 y = (c, a, x1) := ⟨_, _, _, rfl⟩
  rw [hx, hy] at h1 ⊢
  obtain ⟨⟨e1, e2, e3⟩, hb⟩ := h1
  have e1 : c = c' := e1
  have e2 : a = a' := e2
  have e3 : wkT (tN τ) x1 y1 := e3
  subst e1; subst e2
  have hd := dnS_th (τ := τ) (vow := vow) (heavy := heavy) (day := day) hn 26 a x1 y1 hb e3
  match c with
  | 0 =>
    show resT (tN τ) (if vow = 3 then (0, a, x1) else dnS τ vow heavy day 26 a x1) (if vow = 3 then (0, a, y1) else dnS τ vow heavy day 26 a y1)
    by_cases h3 : vow = 3
    · rw [if_pos h3, if_pos h3]; exact ⟨rfl, rfl, e3⟩
    · rw [if_neg h3, if_neg h3]; exact hd
  | 1 => exact ⟨by show (if (dnS τ vow heavy day 26 a x1).1 = 0 then 1 else 2) = (if (dnS τ vow heavy day 26 a y1).1 = 0 then 1 else 2); rw [hd.1], hd.2.1, hd.2.2⟩
  | 2 => exact ⟨rfl, rfl, e3⟩
  | c + 3 =>
    show resT (tN τ) (if vow = 3 then (0, a, x1) else dnS τ vow heavy day 26 a x1) (if vow = 3 then (0, a, y1) else dnS τ vow heavy day 26 a y1)
    by_cases h3 : vow = 3
    · rw [if_pos h3, if_pos h3]; exact ⟨rfl, rfl, e3⟩
    · rw [if_neg h3, if_neg h3]; exact hd
end WKT
