/-! PURE: the class starts anew, and reads -/
section CRE
variable {D d : Nat} {M : AmM} {τ : Tx}
theorem bneA {c a : Nat} {b : Bool} (h : c ≠ a) : (c == a && b) = false := by rw [beq_false_of_ne h]; rfl
theorem bgS_hi {j : Nat} (hτ : tN τ ≤ 24) (h : 24 < j) (h82 : j ≠ 82) : bgS τ j = 0 := by
  unfold bgS
  rw [if_neg (by omega), if_neg h82]
theorem c_start (hD : 3 ≤ D) (hτ : tOk τ) (hT : cTx 0 τ M) : ∃ M', amD amGst D 44 [vR 5 5 0] M = some (vU, M') ∧ amSame (fSc 0) M M' ∧ cSc τ 0 (bgS τ) M' := by
  obtain ⟨d, rfl⟩ := dS (show 1 ≤ D by omega)
  have hP := hτ.2.2.2.2.2.2.1
  have hN := hτ.1
  obtain ⟨M1, a1, a2, a3⟩ := c_build (r := 0) (D := d) (by omega) hτ hT
  obtain ⟨M2, b1, b2, b3⟩ := c_wipe (D := d) (c := 108) (r := 0) (n := 8) (M := M1) (by omega) (by decide) (by rfl) (by decide)
  obtain ⟨M3, c1, c2, c3⟩ := c_wipe (D := d) (c := 109) (r := 0) (n := 8) (M := M2) (by omega) (by decide) (by rfl) (by decide)
  obtain ⟨M4, d1, d2, d3⟩ := c_wipe (D := d) (c := 110) (r := 0) (n := 8) (M := M3) (by omega) (by decide) (by rfl) (by decide)
  obtain ⟨M5, e1, e2, e3⟩ := c_wipe (D := d) (c := 111) (r := 0) (n := 8) (M := M4) (by omega) (by decide) (by rfl) (by decide)
  rw [n_X5_start, q_X5_start_0, a1, amCV_s, b1, amCV_s, c1, amCV_s, d1, amCV_s, e1, amCV_s]
  have wf : ∀ c0 : Nat, (c0 = 108 ∨ c0 = 109 ∨ c0 = 110 ∨ c0 = 111) → ∀ c s j : Nat, (c == c0 && s == 0) = true → fSc 0 c s j = true := fun c0 hc c s j h => by
    rw [Bool.and_eq_true, beq_iff_eq, beq_iff_eq] at h
    rcases h with ⟨rfl, rfl⟩
    rcases hc with rfl | rfl | rfl | rfl <;> rfl
  have s5 : amSame (fSc 0) M M5 := ((((a3.mono fSt_fSc).trans (b2.mono (wf 108 (by decide)))).trans (c2.mono (wf 109 (by decide)))).trans (d2.mono (wf 110 (by decide)))).trans (e2.mono (wf 111 (by decide)))
  have k5 : ∀ c j, c ≠ 108 → c ≠ 109 → c ≠ 110 → c ≠ 111 → M5 c 0 j = M1 c 0 j := fun c j h1 h2 h3 h4 => by
    rw [e2 c 0 j (bneA h4), d2 c 0 j (bneA h3), c2 c 0 j (bneA h2), b2 c 0 j (bneA h1)]
  refine ⟨_, rfl, (s5.up (by rfl)).up (by rfl), ?_, fun p hp => ⟨?_, ?_, ?_, ?_⟩, ?_, ?_⟩
  · refine a2.mv fun c j hc => ?_
    rw [up_c (by omega), up_c (by omega)]
    exact k5 c j (by omega) (by omega) (by omega) (by omega)
  · rw [up_c (by decide), up_c (by decide), e2 108 0 p (by rfl), d2 108 0 p (by rfl), c2 108 0 p (by rfl), b3 p (by omega), bgS_hi hN (by omega) (by omega)]
  · rw [up_c (by decide), up_c (by decide), e2 109 0 p (by rfl), d2 109 0 p (by rfl), c3 p (by omega), bgS_hi hN (by omega) (by omega)]
  · rw [up_c (by decide), up_c (by decide), e2 110 0 p (by rfl), d3 p (by omega), bgS_hi hN (by omega) (by omega)]
  · rw [up_c (by decide), up_c (by decide), e3 p (by omega), bgS_hi hN (by omega) (by omega)]
  · rw [up_j (by decide), up_on, s5 8 0 7 (by rfl), hT.2.2.1]
    show tB τ = (if 1 ≤ 82 ∧ 82 ≤ tN τ then tTh τ 82 else if 82 = 82 then tB τ else 0)
    rw [if_neg (by omega), if_pos rfl]
  · rw [up_on, bgS_hi hN (by omega) (by omega)]
def fAnw : Nat → Nat → Nat → Bool := fun c s j => fCp c s j || fSc 0 c s j || (c == 11 && j == 13) || c == 128 || (c == 9 && (j == 5 || j == 7)) || (c == 3 && j == 4) || (c == 0 && j == 3)
theorem fCp_fAnw : ∀ c s j, fCp c s j = true → fAnw c s j = true := fun c s j h => by unfold fAnw; rw [h]; rfl
theorem fSc_fAnw : ∀ c s j, fSc 0 c s j = true → fAnw c s j = true := fun c s j h => by unfold fAnw; rw [h, Bool.or_true]; rfl
theorem c_startAnew (hD : 5 ≤ D) {x : Dr} {len : Nat} (hτ : tOk x.1) (h : cDr0 x len M) (hl : len ≤ 401) : ∃ M', amD amGst D 136 [vR 11 11 0] M = some (vU, M') ∧ amSame fAnw M M' ∧ cTx 0 x.1 M' ∧ cSc x.1 0 (bgS x.1) M' ∧ M' 11 0 13 = 0 ∧ (∀ s, s < 3 → M' 128 0 s = 0) ∧ M' 9 0 5 = 0 ∧ M' 9 0 7 = 0 ∧ M' 3 0 4 = -1 ∧ M' 0 0 3 = -1 := by
  obtain ⟨d, rfl⟩ := dS (show 1 ≤ D by omega)
  obtain ⟨M1, a1, a2, a3⟩ := c_copyFrom (D := d) (by omega) h hl
  obtain ⟨M2, b1, b2, b3⟩ := c_start (D := d) (by omega) hτ a3
  obtain ⟨d', rfl⟩ := dS (show 1 ≤ d by omega)
  obtain ⟨d2, rfl⟩ := dS (show 1 ≤ d' by omega)
  have ex : ∀ X : AmM, e_X11_startAnew_28 (d2 + 1 + 1) 0 X = some (vU, amUp (amUp (amUp (amUp (amUp (amUp (amUp X 128 0 0 0) 128 0 1 0) 128 0 2 0) 9 0 5 0) 9 0 7 0) 3 0 4 (-1)) 0 0 3 (-1)) := fun X => by
    rw [q_X11_startAnew_28, if_pos (by decide), if_pos (by decide), show w32 (0 + 1) = 1 by decide, q_X11_startAnew_28, if_pos (by decide), if_pos (by decide), show w32 (1 + 1) = 2 by decide, q_X11_startAnew_28, if_pos (by decide), if_pos (by decide), show w32 (2 + 1) = 3 by decide, q_X11_startAnew_28, if_neg (by decide), n_X9_startAnew, q_X9_startAnew_0, amCV_s, n_X11_dropAnswers, q_X11_dropAnswers_0, n_X3_drop, q_X3_drop_0, amCV_s, n_X0_drop, q_X0_drop_0, amCV_s, amCV_s]
    rfl
  rw [n_X11_startAnew, q_X11_startAnew_0, a1, amCV_s, b1, amCV_s, ex]
  have s2 : amSame fAnw M M2 := (a2.mono fCp_fAnw).trans (b2.mono fSc_fAnw)
  refine ⟨_, rfl, (((((((s2.up (by rfl)).up (by rfl)).up (by rfl)).up (by rfl)).up (by rfl)).up (by rfl)).up (by rfl)).up (by rfl), ?_, ?_, ?_, fun s hs => ?_, ?_, ?_, ?_, ?_⟩
  · refine a3.mv fun c s j hc => ?_
    have h0 : c ≠ 0 ∧ c ≠ 3 ∧ c ≠ 9 ∧ c ≠ 128 ∧ c ≠ 11 ∧ fSc 0 c s j = false := by
      unfold sTx at hc
      simp only [Bool.or_eq_true, Bool.and_eq_true, beq_iff_eq] at hc
      refine ⟨by omega, by omega, by omega, by omega, by omega, ?_⟩
      unfold fSc
      rw [beq_false_of_ne (show c ≠ 112 by omega), beq_false_of_ne (show c ≠ 113 by omega), beq_false_of_ne (show c ≠ 6 by omega), beq_false_of_ne (show c ≠ 108 by omega), beq_false_of_ne (show c ≠ 109 by omega), beq_false_of_ne (show c ≠ 110 by omega), beq_false_of_ne (show c ≠ 111 by omega), beq_false_of_ne (show c ≠ 5 by omega)]
      exact Bool.and_false _
    rw [up_c h0.1, up_c h0.2.1, up_c h0.2.2.1, up_c h0.2.2.1, up_c h0.2.2.2.1, up_c h0.2.2.2.1, up_c h0.2.2.2.1, up_c h0.2.2.2.2.1]
    exact b2 c s j h0.2.2.2.2.2
  · refine b3.mv fun c j hc => ?_
    rw [up_c (by omega), up_c (by omega), up_c (by omega), up_c (by omega), up_c (by omega), up_c (by omega), up_c (by omega), up_c (by omega)]
  · rw [up_c (by decide), up_c (by decide), up_c (by decide), up_c (by decide), up_c (by decide), up_c (by decide), up_c (by decide), up_on]
  · rw [up_c (by decide), up_c (by decide), up_c (by decide), up_c (by decide), up_at, up_at, up_at]
    have : s = 0 ∨ s = 1 ∨ s = 2 := by omega
    rcases this with rfl | rfl | rfl <;> rfl
  · rw [up_c (by decide), up_c (by decide), up_j (by decide), up_on]
  · rw [up_c (by decide), up_c (by decide), up_on]
  · rw [up_c (by decide), up_on]
  · rw [up_on]
end CRE
