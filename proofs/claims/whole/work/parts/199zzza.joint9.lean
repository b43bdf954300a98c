/-! PURE: read, on both sides -/
theorem bA8 : ∀ n : Nat, n < 256 → 0 ≤ bAnd ((n : Int) - 128) 255 ∧ bAnd ((n : Int) - 128) 255 < 256 := by decide +kernel
theorem bA8w {y : Int} (h : w8 y = y) : 0 ≤ bAnd y 255 ∧ bAnd y 255 < 256 := by
  have h1 : -128 ≤ y ∧ y ≤ 127 := by unfold w8 at h; omega
  have h2 := bA8 (y + 128).toNat (by omega)
  rw [show (((y + 128).toNat : Nat) : Int) - 128 = y by omega] at h2
  exact h2
def byS (L : Nat) (B : Nat → Int) (j : Nat) : Nat := if j < L then (bAnd (B j) 255).toNat else 0
theorem byS_lt {L : Nat} {B : Nat → Int} (h : ∀ j, j < L → w8 (B j) = B j) : ∀ j, byS L B j < 256 := fun j => by
  unfold byS
  by_cases hj : j < L
  · rw [if_pos hj]; have := bA8w (h j hj); omega
  · rw [if_neg hj]; decide
theorem byS_eq {L : Nat} {B : Nat → Int} (h : ∀ j, j < L → w8 (B j) = B j) {j : Nat} (hj : j < L) : bAnd (B j) 255 = ((byS L B j : Nat) : Int) := by
  unfold byS
  rw [if_pos hj]
  have := bA8w (h j hj)
  omega
theorem bgS_jO {τ : Tx} (hτ : tOk τ) {N : Nat} : jO τ N (bgS τ) := by
  have hN := hτ.1
  have hP := hτ.2.2.2.2.2.2.1
  have hi : ∀ j, 24 < j → j ≠ 82 → bgS τ j = 0 := fun j a b => bgS_hi hN a b
  have e82 : bgS τ 82 = tB τ := by
    unfold bgS
    rw [if_neg (by omega), if_pos rfl]
  have hB := hτ.2.2.2.2.1
  refine ⟨⟨?_, fun p hp => ⟨⟨?_, ?_⟩, ?_, fun _ => hi _ (by omega) (by omega)⟩, ⟨?_, ?_⟩, ?_, ?_⟩, fun p hp => ?_⟩
  · intro j h1 h2
    have e : bgS τ j = tTh τ j := if_pos ⟨h1, h2⟩
    rw [e]
    exact ⟨(hτ.2.1 j h1 h2).1, Int.le_refl _⟩
  · rw [hi _ (by omega) (by omega)]; decide
  · rw [hi _ (by omega) (by omega)]; omega
  · exact Or.inl (hi _ (by omega) (by omega))
  · rw [e82]; omega
  · rw [e82]; omega
  · rw [hi _ (by omega) (by omega)]; decide
  · rw [hi _ (by omega) (by omega)]; omega
  · rw [hi _ (by omega) (by omega)]; rfl
theorem fRd0_q {c s j : Nat} (h : fRd0 c s j = true) : cSd c = true ∧ sTx 0 c s j = false ∧ scC c = false ∧ sPa c s j = false ∧ sHe c s j = false ∧ sM c 0 j = false := by
  unfold fRd0 fPr fPa fTk1 at h
  simp only [Bool.or_eq_true, Bool.and_eq_true, beq_iff_eq] at h
  refine ⟨?_, ?_, ?_, ?_, ?_, ?_⟩
  · unfold cSd; simp only [Bool.or_eq_true, Bool.and_eq_true, Nat.ble_eq]; omega
  · cases hb : sTx 0 c s j with
    | false => rfl
    | true => exfalso; unfold sTx at hb; simp only [Bool.or_eq_true, Bool.and_eq_true, beq_iff_eq] at hb; omega
  · cases hb : scC c with
    | false => rfl
    | true => exfalso; unfold scC at hb; simp only [Bool.or_eq_true, beq_iff_eq] at hb; omega
  · cases hb : sPa c s j with
    | false => rfl
    | true => exfalso; unfold sPa scC at hb; simp only [Bool.or_eq_true, Bool.and_eq_true, beq_iff_eq, Nat.ble_eq] at hb; omega
  · cases hb : sHe c s j with
    | false => rfl
    | true => exfalso; unfold sHe scC at hb; simp only [Bool.or_eq_true, Bool.and_eq_true, beq_iff_eq, Nat.ble_eq] at hb; omega
  · cases hb : sM c 0 j with
    | false => rfl
    | true => exfalso; unfold sM at hb; simp only [Bool.or_eq_true, Bool.and_eq_true, beq_iff_eq] at hb; omega
theorem fAnw_c {c s j : Nat} (h : fAnw c s j = true) : cSd c = true := by
  unfold fAnw fCp fSc at h
  unfold cSd
  simp only [Bool.or_eq_true, Bool.and_eq_true, beq_iff_eq, Nat.ble_eq] at h ⊢
  omega
theorem fRd1_c : ∀ c s j, fRd1 c s j = true → cSd c = true := fun c s j h => by
  unfold fRd1 at h
  rw [Bool.or_eq_true] at h
  rcases h with h | h
  · exact (fRd0_q h).1
  · exact fAnw_c h
theorem sSd_c {v c j : Nat} (h : sSd v c j = true) : 137 ≤ c ∧ c ≤ 155 := by have := sSd_iff.1 h; omega
theorem fRr0_r {sd : Nat} : ∀ c s j, fRr0 sd c s j = true → rSd c = true := fun c s j h => by
  unfold fRr0 fRP fRti fRta fRlt fRt1 at h
  unfold rSd
  simp only [Bool.or_eq_true, Bool.and_eq_true, beq_iff_eq, Nat.ble_eq] at h ⊢
  rcases h with ((((((h | h) | h) | h) | h) | h) | h) | h
  all_goals first
    | omega
    | (have := sSd_c h; omega)
theorem fRr1_r {sd : Nat} : ∀ c s j, fRr1 sd c s j = true → rSd c = true := fun c s j h => by
  unfold fRr1 at h
  simp only [Bool.or_eq_true] at h
  rcases h with (((h | h) | h) | h) | h
  · exact fRr0_r c s j h
  all_goals
    unfold rSd
    simp only [Bool.or_eq_true, Bool.and_eq_true, beq_iff_eq, Nat.ble_eq] at h ⊢
    omega
