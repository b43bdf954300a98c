/-! PURE: the reference's reading: resets, and what is behind it -/
def fRs0 (sd : Nat) : Nat → Nat → Nat → Bool := fun c _ j => (c == 12 && (j == 20 || j == 34 || j == 40)) || sSd sd c j
section RRE
variable {d L sd : Nat} {κ ν P : Nat → Nat} {M X : AmM}
theorem fRs0_s {c s : Nat} {j : Nat} (h : sSd sd c j = true) : fRs0 sd c s j = true := by unfold fRs0; rw [h]; exact Bool.or_true _
theorem r_reset (hs : sd ≤ 1) {l1 : Int} (h19 : X 12 0 19 = (sd : Int)) : ∃ Z, e_X12_read_75 d l1 X = e_X12_read_204 d 4 Z ∧ amSame (fRs0 sd) X Z ∧ (Z 12 0 20 = 0 ∧ Z 12 0 34 = ((50 * sd : Nat) : Int) ∧ Z 12 0 40 = ((420 * sd : Nat) : Int)) ∧ (Z 137 0 sd = 0 ∧ Z 139 0 sd = 0 ∧ Z 141 0 sd = 0 ∧ Z 142 0 sd = 0 ∧ Z 143 0 sd = 0 ∧ Z 146 0 sd = 0) ∧ ∀ j, j < 4 → Z 147 0 (4 * sd + j) = 0 ∧ Z 148 0 (4 * sd + j) = 0 := by
  have i2 : (0 : Int) ≤ (sd : Int) ∧ (sd : Int) < 2 := by omega
  have w5 : w32 (50 * (sd : Int)) = ((50 * sd : Nat) : Int) := w32_n (by omega) (by omega)
  have w42 : w32 (420 * (sd : Int)) = ((420 * sd : Nat) : Int) := w32_n (by omega) (by omega)
  have cs : ∀ c, (c = 137 ∨ c = 139 ∨ c = 141 ∨ c = 142 ∨ c = 143 ∨ c = 146) → sSd sd c sd = true := fun c hc => sSd_iff.2 (Or.inl ⟨hc, rfl⟩)
  have a1 : amUp X 12 0 20 0 12 0 19 = (sd : Int) := (up_j (by decide)).trans h19
  have a2 : amUp (amUp X 12 0 20 0) 137 0 sd 0 12 0 19 = (sd : Int) := (up_c (by decide)).trans a1
  rw [q_X12_read_75, a1, if_pos i2, tn_cast, a2, if_pos i2, tn_cast, q_X12_read_100]
  have a3 : amUp (amUp (amUp X 12 0 20 0) 137 0 sd 0) 139 0 sd 0 12 0 19 = (sd : Int) := (up_c (by decide)).trans a2
  have a4 : amUp (amUp (amUp (amUp X 12 0 20 0) 137 0 sd 0) 139 0 sd 0) 141 0 sd 0 12 0 19 = (sd : Int) := (up_c (by decide)).trans a3
  have a5 : amUp (amUp (amUp (amUp (amUp X 12 0 20 0) 137 0 sd 0) 139 0 sd 0) 141 0 sd 0) 142 0 sd 0 12 0 19 = (sd : Int) := (up_c (by decide)).trans a4
  rw [a3, if_pos i2, tn_cast, a4, if_pos i2, tn_cast, q_X12_read_120]
  have a6 : amUp (amUp (amUp (amUp (amUp (amUp X 12 0 20 0) 137 0 sd 0) 139 0 sd 0) 141 0 sd 0) 142 0 sd 0) 143 0 sd 0 12 0 19 = (sd : Int) := (up_c (by decide)).trans a5
  have a7 : amUp (amUp (amUp (amUp (amUp (amUp (amUp X 12 0 20 0) 137 0 sd 0) 139 0 sd 0) 141 0 sd 0) 142 0 sd 0) 143 0 sd 0) 146 0 sd 0 12 0 19 = (sd : Int) := (up_c (by decide)).trans a6
  rw [a5, if_pos i2, tn_cast, a6, if_pos i2, tn_cast, q_X12_read_140, a7, w5]
  have s7 : amSame (fRs0 sd) X (amUp (amUp (amUp (amUp (amUp (amUp (amUp X 12 0 20 0) 137 0 sd 0) 139 0 sd 0) 141 0 sd 0) 142 0 sd 0) 143 0 sd 0) 146 0 sd 0) := ((((((amSame.refl.up (by rfl)).up (fRs0_s (cs 137 (by decide)))).up (fRs0_s (cs 139 (by decide)))).up (fRs0_s (cs 141 (by decide)))).up (fRs0_s (cs 142 (by decide)))).up (fRs0_s (cs 143 (by decide)))).up (fRs0_s (cs 146 (by decide)))
  have v7 : (amUp (amUp (amUp (amUp (amUp (amUp (amUp X 12 0 20 0) 137 0 sd 0) 139 0 sd 0) 141 0 sd 0) 142 0 sd 0) 143 0 sd 0) 146 0 sd 0 12 0 20 = 0) ∧ (amUp (amUp (amUp (amUp (amUp (amUp (amUp X 12 0 20 0) 137 0 sd 0) 139 0 sd 0) 141 0 sd 0) 142 0 sd 0) 143 0 sd 0) 146 0 sd 0 137 0 sd = 0) ∧ (amUp (amUp (amUp (amUp (amUp (amUp (amUp X 12 0 20 0) 137 0 sd 0) 139 0 sd 0) 141 0 sd 0) 142 0 sd 0) 143 0 sd 0) 146 0 sd 0 139 0 sd = 0) ∧ (amUp (amUp (amUp (amUp (amUp (amUp (amUp X 12 0 20 0) 137 0 sd 0) 139 0 sd 0) 141 0 sd 0) 142 0 sd 0) 143 0 sd 0) 146 0 sd 0 141 0 sd = 0) ∧ (amUp (amUp (amUp (amUp (amUp (amUp (amUp X 12 0 20 0) 137 0 sd 0) 139 0 sd 0) 141 0 sd 0) 142 0 sd 0) 143 0 sd 0) 146 0 sd 0 142 0 sd = 0) ∧ (amUp (amUp (amUp (amUp (amUp (amUp (amUp X 12 0 20 0) 137 0 sd 0) 139 0 sd 0) 141 0 sd 0) 142 0 sd 0) 143 0 sd 0) 146 0 sd 0 143 0 sd = 0) ∧ (amUp (amUp (amUp (amUp (amUp (amUp (amUp X 12 0 20 0) 137 0 sd 0) 139 0 sd 0) 141 0 sd 0) 142 0 sd 0) 143 0 sd 0) 146 0 sd 0 146 0 sd = 0) := by
    refine ⟨?_, ?_, ?_, ?_, ?_, ?_, up_on⟩
    · rw [up_c (by decide), up_c (by decide), up_c (by decide), up_c (by decide), up_c (by decide), up_c (by decide), up_on]
    · rw [up_c (by decide), up_c (by decide), up_c (by decide), up_c (by decide), up_c (by decide), up_on]
    · rw [up_c (by decide), up_c (by decide), up_c (by decide), up_c (by decide), up_on]
    · rw [up_c (by decide), up_c (by decide), up_c (by decide), up_on]
    · rw [up_c (by decide), up_c (by decide), up_on]
    · rw [up_c (by decide), up_on]
  generalize amUp (amUp (amUp (amUp (amUp (amUp (amUp X 12 0 20 0) 137 0 sd 0) 139 0 sd 0) 141 0 sd 0) 142 0 sd 0) 143 0 sd 0) 146 0 sd 0 = Y at *
  have b1 : amUp Y 12 0 34 ((50 * sd : Nat) : Int) 12 0 19 = (sd : Int) := (up_j (by decide)).trans a7
  rw [b1, w42, q_X12_read_163]
  have b2 : amUp (amUp Y 12 0 34 ((50 * sd : Nat) : Int)) 12 0 40 ((420 * sd : Nat) : Int) 12 0 19 = (sd : Int) := (up_j (by decide)).trans b1
  obtain ⟨Z, c1, c2, c3⟩ := r_noLaws (d := d) hs 4 0 _ rfl b2 (fun j hj => absurd hj (Nat.not_lt_zero j))
  have u : ∀ c j, c ≠ 12 → c ≠ 147 → c ≠ 148 → Z c 0 j = Y c 0 j := fun c j h1 h2 h3 => by
    rw [c2 c 0 j (by
      show ((c == 147 || c == 148) && _) = false
      rw [beq_false_of_ne h2, beq_false_of_ne h3]; rfl), up_c h1, up_c h1]
  refine ⟨Z, c1, ((s7.up (by rfl)).up (by rfl)).trans (c2.mono fun c s j h => fRs0_s ?_), ⟨?_, ?_, ?_⟩, ⟨(u 137 sd (by decide) (by decide) (by decide)).trans v7.2.1, (u 139 sd (by decide) (by decide) (by decide)).trans v7.2.2.1, (u 141 sd (by decide) (by decide) (by decide)).trans v7.2.2.2.1, (u 142 sd (by decide) (by decide) (by decide)).trans v7.2.2.2.2.1, (u 143 sd (by decide) (by decide) (by decide)).trans v7.2.2.2.2.2.1, (u 146 sd (by decide) (by decide) (by decide)).trans v7.2.2.2.2.2.2⟩, c3⟩
  · have h : ((c == 147 || c == 148) && inR (4 * sd) 4 j) = true := h
    rw [Bool.and_eq_true, Bool.or_eq_true, beq_iff_eq, beq_iff_eq, inR_iff] at h
    exact sSd_iff.2 (Or.inr (Or.inr (Or.inr (Or.inr (Or.inl h)))))
  · rw [c2 12 0 20 (by rfl), up_j (by decide), up_j (by decide)]; exact v7.1
  · rw [c2 12 0 34 (by rfl), up_j (by decide), up_on]
  · rw [c2 12 0 40 (by rfl), up_on]
theorem r_nowT : ∀ (k i : Nat) (M : AmM), i + k = 100 → (∀ j, j < i → M 159 0 j = M 160 0 j) → ∃ M', e_X12_read_297 d (i : Int) M = e_X12_read_333 d 0 (amUp (amUp M' 12 0 53 0) 12 0 65 0) ∧ amSame (fun c _ _ => c == 159) M M' ∧ ∀ j, j < 100 → M' 159 0 j = M' 160 0 j
  | 0, i, M, hk, h0 => by
    have hk : i = 100 := hk
    subst hk
    exact ⟨M, by rw [q_X12_read_297, if_neg (by decide)], amSame.refl, h0⟩
  | k + 1, i, M, hk, h0 => by
    obtain ⟨M1, a1, a2, a3⟩ := r_nowT k (i + 1) (amUp M 159 0 i (M 160 0 i)) (by omega) (fun j hj => by
      rw [up_c (c' := 160) (by decide)]
      by_cases ej : j = i
      · rw [ej, up_on]
      · rw [up_j ej]; exact h0 j (by omega))
    refine ⟨M1, ?_, (amSame.refl.up (by rfl)).trans a2, a3⟩
    rw [q_X12_read_297, if_pos (show (i : Int) < 100 by omega), if_pos (show (0 : Int) ≤ (i : Int) ∧ (i : Int) < 100 by omega), if_pos (show (0 : Int) ≤ (i : Int) ∧ (i : Int) < 100 by omega), tn_cast, w32_n (x := (i : Int) + 1) (n := i + 1) (by omega) (by omega)]
    exact a1
theorem r_333 : e_X12_read_333 d 0 M = some (vI 0, amUp (amUp (amUp M 169 0 0 0) 169 0 1 0) 169 0 2 0) := by
  rw [q_X12_read_333, if_pos (by decide), if_pos (by decide), show w32 (0 + 1) = 1 by decide, q_X12_read_333, if_pos (by decide), if_pos (by decide), show w32 (1 + 1) = 2 by decide, q_X12_read_333, if_pos (by decide), if_pos (by decide), show w32 (2 + 1) = 3 by decide, q_X12_read_333, if_neg (by decide)]
  rfl
end RRE
