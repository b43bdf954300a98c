/-! PURE: the first memory -/
def jF (M : AmM) : Prop := (M 0 0 3 = -1 ∧ M 3 0 4 = -1 ∧ M 5 0 6 = 0 ∧ M 5 0 7 = 0 ∧ M 6 0 2 = 0 ∧ M 6 0 3 = 0 ∧ M 7 0 1 = 0) ∧ (M 8 0 5 = 0 ∧ M 8 0 6 = 0 ∧ M 8 0 7 = 0 ∧ M 8 0 8 = 0 ∧ M 8 0 9 = 0) ∧ (M 9 0 5 = 0 ∧ M 9 0 7 = 0 ∧ M 11 0 13 = 0 ∧ M 11 0 14 = 0 ∧ M 11 0 15 = -1) ∧ (M 12 0 2 = 0 ∧ M 12 0 17 = -1 ∧ M 12 0 18 = 0 ∧ M 12 0 53 = 0 ∧ M 12 0 65 = 0) ∧ (∀ j, j < 4 → M 101 0 j = -1) ∧ (∀ j, j < 3 → M 128 0 j = 0) ∧ (∀ j, j < 3 → M 169 0 j = 0) ∧ (∀ k, k < 19 → M 135 0 k = ((kyV k : Nat) : Int)) ∧ (M 137 0 0 = 0 ∧ M 139 0 0 = 0 ∧ M 141 0 0 = 0 ∧ M 142 0 0 = 0 ∧ M 143 0 0 = 0) ∧ (∀ j, j < 4 → M 147 0 j = 0 ∧ M 148 0 j = 0) ∧ ∀ j, j < 100 → M 159 0 j = 0
theorem jI_first {M : AmM} (h : jF M) : jI 0 M := by
  obtain ⟨⟨a1, a2, a3, a4, a5, a6, a7⟩, ⟨b1, b2, b3, b4, b5⟩, ⟨c1, c2, c3, c4, c5⟩, ⟨d1, d2, d3, d4, d5⟩, e1, e2, e3, e4, ⟨f1, f2, f3, f4, f5⟩, g1, g2⟩ := h
  have hτ : tOk tx0 := dr0_ok rfl
  have nn : ∀ {j : Nat} {Q : Prop}, j < 0 → Q := fun h => absurd h (Nat.not_lt_zero _)
  have hO : jO tx0 0 (fun _ => 0) := ⟨⟨fun j x y => (absurd y (by show ¬ j ≤ 0; omega)), fun p hp => nn hp, ⟨Int.le_refl _, by decide⟩, Int.le_refl _, by decide⟩, fun p hp => nn hp⟩
  refine ⟨tx0, fun _ => 0, [], fun _ => none, 0, fun _ => 0, 0, fun _ => 0, fun _ => 0, -1, 0, ⟨hτ, hO, fun σ q => (by cases q), fun s σ _ q => (by cases q), fun i hi => nn hi, fun j hj => nn hj⟩, ⟨?_, ?_, ?_, fun s hs => e2 s hs, ⟨Nat.zero_le _, a7, fun j hj => nn hj⟩, ⟨Nat.zero_le _, c1, fun i hi => nn hi⟩, c5⟩, ⟨Or.inl c2, Or.inl a1, Or.inl a2⟩, ⟨⟨Nat.zero_le _, d3⟩, ?_, fun j hj => g2 j hj, ⟨Nat.zero_le _, d4, fun i σ q => by cases q⟩, fun s hs => e3 s hs, ⟨Nat.zero_le _, d1, fun j hj => nn hj⟩, ⟨Nat.zero_le _, d5, fun i hi => nn hi⟩, e4, d2⟩⟩
  · exact ⟨b1, b2, b3, b4, b5, fun j x y => absurd y (by show ¬ j ≤ 0; omega), fun j hj => nn hj, fun p hp => nn hp, fun v hv => e1 v hv⟩
  · exact ⟨⟨a5, a6, fun j x y => absurd y (by show ¬ j ≤ 0; omega)⟩, fun p hp => nn hp, a3, a4⟩
  · exact ⟨Nat.zero_le _, c3, 0, by decide, c4, fun i σ q => by cases q⟩
  · intro M' hs h18
    have o : ∀ c, (c = 137 ∨ c = 139 ∨ c = 141 ∨ c = 142 ∨ c = 143 ∨ c = 146) → M' c 0 0 = M c 0 0 := fun c hc => hs c 0 (sSd_iff.2 (Or.inl ⟨hc, rfl⟩))
    refine ⟨Nat.zero_le _, h18, (o 137 (by decide)).trans f1, fun j x y => absurd y (by show ¬ j ≤ 0; omega), (o 139 (by decide)).trans f2, fun j hj => nn hj, (o 141 (by decide)).trans f3, (o 142 (by decide)).trans f4, (o 143 (by decide)).trans f5, fun p hp => nn hp, fun w hw => ?_⟩
    show M' 147 0 (4 * 0 + w) = M' 148 0 (4 * 0 + w)
    rw [hs 147 _ (sSd_iff.2 (Or.inr (Or.inr (Or.inr (Or.inr (Or.inl ⟨Or.inl rfl, by omega, by omega⟩)))))), hs 148 _ (sSd_iff.2 (Or.inr (Or.inr (Or.inr (Or.inr (Or.inl ⟨Or.inr rfl, by omega, by omega⟩)))))), Nat.mul_zero, Nat.zero_add, (g1 w hw).1, (g1 w hw).2]
def kyAll : List Int := [10495135, 355280, 1424120, 6334396438, 8798, 8740238, 6125212, 247516, 10492462, 249, 399641, 107681, 332864552, 10792937, 388708, 2968, 16922, 583, 149099]
theorem kyV_all : ∀ k, k < 19 → ((kyV k : Nat) : Int) = kyAll.getD k 0 := by decide +kernel
