/-! PURE: the class reads -/
def rdA (r : Pr Dr) : Int := match r with
  | .inl (c, _) => ((c : Nat) : Int)
  | .inr x => ((x.2.2.2.1 : Nat) : Int)
def rdP (P : Nat → Nat) (r : Pr Dr) : Int := match r with
  | .inl (_, q) => ((P q : Nat) : Int)
  | .inr x => if x.2.2.2.1 = 0 then -1 else ((P x.2.2.2.2 : Nat) : Int)
def rdN (r : Pr Dr) : Option Tx := match r with
  | .inl _ => none
  | .inr x => if x.2.2.2.1 = 0 then some x.1 else none
def rdX (L : Nat) (Y : Nat → Nat) : Pr Dr := prS (tkK L Y) (tkV L Y) 401 0 dr0
def fRd0 : Nat → Nat → Nat → Bool := fun c s j => fPr c s j || (c == 7 && j == 1) || (c == 11 && j == 15)
def fRd1 : Nat → Nat → Nat → Bool := fun c s j => fRd0 c s j || fAnw c s j
theorem fPr_fRd0 : ∀ c s j, fPr c s j = true → fRd0 c s j = true := fun c s j h => by unfold fRd0; rw [h]; rfl
theorem fRd0_fRd1 : ∀ c s j, fRd0 c s j = true → fRd1 c s j = true := fun c s j h => by unfold fRd1; rw [h]; rfl
theorem fAnw_fRd1 : ∀ c s j, fAnw c s j = true → fRd1 c s j = true := fun c s j h => by unfold fRd1; rw [h]; exact Bool.or_true _
section CRF
variable {D d L : Nat} {Y : Nat → Nat} {M : AmM}
theorem rdN_ok {τ : Tx} (h : rdN (rdX L Y) = some τ) : tOk τ := by
  unfold rdN rdX at h
  revert h
  cases hp : prS (tkK L Y) (tkV L Y) 401 0 dr0 with
  | inl y => intro h; cases h
  | inr x =>
    intro h
    have h : (if x.2.2.2.1 = 0 then some x.1 else none) = some τ := h
    by_cases h0 : x.2.2.2.1 = 0
    · rw [if_pos h0] at h
      cases h
      exact prS_ok tkV_lt 401 0 dr0 x dr0_ok hp h0
    · rw [if_neg h0] at h; cases h
theorem c_read (hD : 23 ≤ D) (hB : cBy L Y M) : ∃ M', amD amGst D 109 [vR 11 11 0] M = some (vI (rdA (rdX L Y)), M') ∧ M' 7 0 1 = 0 ∧ M' 11 0 15 = rdP (tkP L Y) (rdX L Y) ∧ match rdN (rdX L Y) with
    | none => amSame fRd0 M M'
    | some τ => amSame fRd1 M M' ∧ cTx 0 τ M' ∧ cSc τ 0 (bgS τ) M' ∧ M' 11 0 13 = 0 ∧ (∀ s, s < 3 → M' 128 0 s = 0) ∧ M' 9 0 5 = 0 ∧ M' 9 0 7 = 0 ∧ M' 3 0 4 = -1 ∧ M' 0 0 3 = -1 := by
  obtain ⟨d, rfl⟩ := dS (show 1 ≤ D by omega)
  have hp := c_parse (D := d) (by omega) hB
  have hg := prS_g (κ := tkK L Y) (ν := tkV L Y) 401 0 dr0 (by omega) ⟨Nat.zero_le _, fun p hp => absurd hp (Nat.not_lt_zero p)⟩ (fun q => absurd rfl q)
  have hok : ∀ τ, rdN (rdX L Y) = some τ → tOk τ := fun τ h => rdN_ok h
  unfold rdX at hok ⊢
  rw [n_X11_read, q_X11_read_0]
  have eclear : ∀ X : AmM, amD amGst d 66 [vR 7 7 0] X = some (vU, amUp X 7 0 1 0) := fun X => by
    obtain ⟨d', rfl⟩ := dS (show 1 ≤ d by omega)
    rw [n_X7_clear, q_X7_clear_0]
  revert hp hg hok
  cases prS (tkK L Y) (tkV L Y) 401 0 dr0 with
  | inl y =>
    obtain ⟨c, q⟩ := y
    intro hp hg hok
    obtain ⟨M1, a1, a2, a3, a4⟩ := hp
    have hc : c ≠ 0 := by have : c = 1 ∨ c = 2 := hg.1; omega
    have hcI : ¬ (c : Int) = 0 := by omega
    have hf := c_faultPlace (D := d) (L := L) (Y := Y) (M := amUp M1 7 0 1 0) (q := q) (by omega) (fun p x y => (up_c (by decide)).trans (a4 p x y)) hg.2 (Or.inl ⟨by rw [up_c (by decide), a3.2.1]; omega, (up_c (by decide)).trans a3.2.2.1⟩)
    rw [a1, amCI_s, eclear, amCV_s, if_neg hcI, hf, amCI_s, if_neg hcI]
    exact ⟨_, rfl, (up_c (by decide)).trans up_on, up_on, ((a2.mono fPr_fRd0).up (by unfold fRd0; simp)).up (by unfold fRd0; simp)⟩
  | inr x =>
    intro hp hg hok
    obtain ⟨M1, len, a1, a2, a3, a4, a5, a6, a7⟩ := hp
    have hg : lfOk (tkK L Y) x.2.2.2 := hg
    by_cases h0 : x.2.2.2.1 = 0
    · have hI : ((x.2.2.2.1 : Nat) : Int) = 0 := by omega
      have eN : rdN (.inr x) = some x.1 := if_pos h0
      have eP : rdP (tkP L Y) (.inr x) = -1 := if_pos h0
      have s1 : amSame fRd0 M (amUp (amUp M1 7 0 1 0) 11 0 15 (-1)) := ((a2.mono fPr_fRd0).up (by unfold fRd0; simp)).up (by unfold fRd0; simp)
      have hd1 : cDr0 x len (amUp (amUp M1 7 0 1 0) 11 0 15 (-1)) := a4.mv (Nat.le_refl _) fun c s j hc => by
        have : c ≠ 7 ∧ c ≠ 11 := by
          unfold sDr at hc
          simp only [Bool.or_eq_true, Bool.and_eq_true, beq_iff_eq] at hc
          omega
        rw [up_c this.2, up_c this.1]
      obtain ⟨M2, b1, b2, b3⟩ := c_startAnew (D := d) (by omega) (hok x.1 eN) hd1 a5
      rw [a1, amCI_s, eclear, amCV_s, if_pos hI, if_pos hI, b1, amCV_s, eN, eP]
      refine ⟨M2, rfl, ?_, ?_, (s1.mono fRd0_fRd1).trans (b2.mono fAnw_fRd1), b3⟩
      · rw [b2 7 0 1 (by rfl), up_c (by decide), up_on]
      · rw [b2 11 0 15 (by rfl), up_on]
    · have hI : ¬ ((x.2.2.2.1 : Nat) : Int) = 0 := by omega
      have eN : rdN (.inr x) = none := if_neg h0
      have eP : rdP (tkP L Y) (.inr x) = ((tkP L Y x.2.2.2.2 : Nat) : Int) := if_neg h0
      have hf := c_faultPlace (D := d) (L := L) (Y := Y) (M := amUp M1 7 0 1 0) (q := x.2.2.2.2) (by omega) (fun p x y => (up_c (by decide)).trans (a7 p x y)) (hg h0) (Or.inr ⟨by rw [up_c (by decide)]; exact a3, (up_c (by decide)).trans (a6.2 h0)⟩)
      rw [a1, amCI_s, eclear, amCV_s, if_neg hI, hf, amCI_s, if_neg hI, eN, eP]
      exact ⟨_, rfl, (up_c (by decide)).trans up_on, up_on, ((a2.mono fPr_fRd0).up (by unfold fRd0; simp)).up (by unfold fRd0; simp)⟩
end CRF
