/-! PURE: the reference's rescue -/
def fRc : Nat → Nat → Nat → Bool := fun c s j => fRo c s j || c == 165
theorem fRo_fRc : ∀ c s j, fRo c s j = true → fRc c s j = true := fun c s j h => by unfold fRc; rw [h]; rfl
theorem rTx.rc {v : Nat} {τ : Tx} {M M' : AmM} (h : rTx v τ M) (hs : amSame fRc M M') : rTx v τ M' := h.mv fun c j hc => hs c 0 j (by
  unfold fRc
  rw [sRx_fRo c j hc 0, Bool.false_or]
  have h165 : c ≠ 165 := by rintro rfl; cases hc
  exact beq_false_of_ne h165)
theorem amMin_c (x y : Int) : (y < x ∧ amMin x y = y) ∨ (¬ y < x ∧ amMin x y = x) := by
  by_cases h : y < x
  · exact Or.inl ⟨h, if_pos h⟩
  · exact Or.inr ⟨h, if_neg h⟩
section RR
variable {D d v : Nat} {τ : Tx} {ρ : Rw} {M : AmM} {N : Nat}
theorem r_rescLoop (hd : 4 ≤ d) (hτ : tOk τ) (hN : sOk τ N ρ) {p : Nat} (hp : p < tP τ) {far : Int} (hfar : far = 1 ∧ tV τ p = 2 ∨ far = 0 ∧ tV τ p ≠ 2) {f : Nat} (hf : f ≤ tN τ + 1) (hff : ρ (50 + p) = (f : Int)) : ∀ (k a : Nat) (u5 u6 u7 : AmV) (M : AmM), a + k = f → rTx v τ M → rRow ρ M → M 165 0 a = (dcP τ ρ (tV τ p) (tW τ p) a).1 → (1 ≤ a → M 165 0 (a - 1) = (dcP τ ρ (tV τ p) (tW τ p) a).2) → ∃ M', e_X12_rescue_56 d (p : Int) (gonS (tN τ) ρ) far ((a + 1 : Nat) : Int) u5 u6 u7 M = some (vI (if (dcP τ ρ (tV τ p) (tW τ p) f).1 < 1000000 then (dcP τ ρ (tV τ p) (tW τ p) f).1 else -2), M') ∧ amSame fRc M M'
  | 0, a, u5, u6, u7, M, h, hT, hR, h1, h2 => by
    have h : a = f := h
    subst h
    have hn := hτ.1
    have hP := hτ.2.2.2.2.2.2.1
    have hb := (dcP_b (τ := τ) (ρ := ρ) (vow := tV τ p) (heavy := tW τ p) a).1
    have e : ((a : Nat) : Int).toNat = a := rfl
    have e50 : (((50 + p : Nat) : Int)).toNat = 50 + p := rfl
    refine ⟨M, ?_, amSame.refl⟩
    rw [q_X12_rescue_56, w32_n (x := 50 + (p : Int)) (n := 50 + p) (by omega) (by omega), e50, hR _ (by omega), hff, e, h1, if_pos (show (0 : Int) ≤ ((50 + p : Nat) : Int) ∧ ((50 + p : Nat) : Int) < 100 by omega), if_pos (show ((a : Nat) : Int) < ((a + 1 : Nat) : Int) by omega), if_pos (show (0 : Int) ≤ ((50 + p : Nat) : Int) ∧ ((50 + p : Nat) : Int) < 100 by omega), if_pos (show (0 : Int) ≤ ((a : Nat) : Int) ∧ ((a : Nat) : Int) < 27 by omega)]
    by_cases h3 : (dcP τ ρ (tV τ p) (tW τ p) a).1 = 1000000
    · rw [if_pos h3, if_neg (by omega)]
    · rw [if_neg h3, if_pos (show (0 : Int) ≤ ((50 + p : Nat) : Int) ∧ ((50 + p : Nat) : Int) < 100 by omega), if_pos (show (0 : Int) ≤ ((a : Nat) : Int) ∧ ((a : Nat) : Int) < 27 by omega), if_pos (by omega)]
  | k + 1, a, u5, u6, u7, M, h, hT, hR, h1, h2 => by
    have hn := hτ.1
    have hP := hτ.2.2.2.2.2.2.1
    have hb := dcP_b (τ := τ) (ρ := ρ) (vow := tV τ p) (heavy := tW τ p) a
    have e50 : (((50 + p : Nat) : Int)).toNat = 50 + p := rfl
    have e : (((a + 1 : Nat) : Int)).toNat = a + 1 := rfl
    have ea : ((a : Nat) : Int).toNat = a := rfl
    have ea1 : ((a - 1 : Nat) : Int).toNat = a - 1 := rfl
    have eN : (dcP τ ρ (tV τ p) (tW τ p) (a + 1)).1 = dcN τ ρ (tV τ p) (tW τ p) a (dcP τ ρ (tV τ p) (tW τ p) a).1 (dcP τ ρ (tV τ p) (tW τ p) a).2 := rfl
    have eN2 : (dcP τ ρ (tV τ p) (tW τ p) (a + 1)).2 = (dcP τ ρ (tV τ p) (tW τ p) a).1 := rfl
    have nx : ∀ (z : Int) (w5 w6 w7 : AmV) (M1 : AmM), amSame fRw M M1 → z = dcN τ ρ (tV τ p) (tW τ p) a (dcP τ ρ (tV τ p) (tW τ p) a).1 (dcP τ ρ (tV τ p) (tW τ p) a).2 → ∃ M', e_X12_rescue_56 d (p : Int) (gonS (tN τ) ρ) far ((a + 1 + 1 : Nat) : Int) w5 w6 w7 (amUp M1 165 0 (a + 1) z) = some (vI (if (dcP τ ρ (tV τ p) (tW τ p) f).1 < 1000000 then (dcP τ ρ (tV τ p) (tW τ p) f).1 else -2), M') ∧ amSame fRc M M' := fun z w5 w6 w7 M1 s1 hz => by
      have s2 : amSame fRc M (amUp M1 165 0 (a + 1) z) := (s1.mono fun c s j h => fRo_fRc c s j (fRw_fRo c s j h)).up (by rfl)
      obtain ⟨M2, k1, k2⟩ := r_rescLoop hd hτ hN hp hfar hf hff k (a + 1) w5 w6 w7 (amUp M1 165 0 (a + 1) z) (by omega) (hT.rc s2) (fun j hj => by rw [up_c (by decide), s1 160 0 j (by rfl)]; exact hR j hj) (by rw [up_on, eN]; exact hz) (fun _ => by
        rw [eN2, up_j (by omega), show a + 1 - 1 = a by omega, s1 165 0 a (by rfl)]; exact h1)
      exact ⟨M2, k1, s2.trans k2⟩
    have t122 : ∀ (z : Int) (w6 w7 : AmV) (M1 : AmM), amSame fRw M M1 → amMin 1000000 z = dcN τ ρ (tV τ p) (tW τ p) a (dcP τ ρ (tV τ p) (tW τ p) a).1 (dcP τ ρ (tV τ p) (tW τ p) a).2 → ∃ M', e_X12_rescue_122 d (p : Int) (gonS (tN τ) ρ) far ((a + 1 : Nat) : Int) z w6 w7 M1 = some (vI (if (dcP τ ρ (tV τ p) (tW τ p) f).1 < 1000000 then (dcP τ ρ (tV τ p) (tW τ p) f).1 else -2), M') ∧ amSame fRc M M' := fun z w6 w7 M1 s1 hz => by
      rw [q_X12_rescue_122, e, w32_n (x := ((a + 1 : Nat) : Int) + 1) (n := a + 1 + 1) (by omega) (by omega)]
      unfold amMin at hz
      by_cases hlt : z < 1000000
      · rw [if_pos hlt] at hz
        rw [if_pos hlt, if_pos (show (0 : Int) ≤ ((a + 1 : Nat) : Int) ∧ ((a + 1 : Nat) : Int) < 27 by omega)]
        exact nx _ _ _ _ M1 s1 hz
      · rw [if_neg hlt] at hz
        rw [if_neg hlt, if_pos (show (0 : Int) ≤ ((a + 1 : Nat) : Int) ∧ ((a + 1 : Nat) : Int) < 27 by omega)]
        exact nx _ _ _ _ M1 s1 hz
    have t189 : ∀ (l5 z : Int) (w7 : AmV) (M1 : AmM), amSame fRw M M1 → amMin 1000000 z = dcN τ ρ (tV τ p) (tW τ p) a (dcP τ ρ (tV τ p) (tW τ p) a).1 (dcP τ ρ (tV τ p) (tW τ p) a).2 → ∃ M', e_X12_rescue_189 d (p : Int) (gonS (tN τ) ρ) far ((a + 1 : Nat) : Int) l5 z w7 M1 = some (vI (if (dcP τ ρ (tV τ p) (tW τ p) f).1 < 1000000 then (dcP τ ρ (tV τ p) (tW τ p) f).1 else -2), M') ∧ amSame fRc M M' := fun l5 z w7 M1 s1 hz => by
      rw [q_X12_rescue_189, e, w32_n (x := ((a + 1 : Nat) : Int) + 1) (n := a + 1 + 1) (by omega) (by omega)]
      unfold amMin at hz
      by_cases hlt : z < 1000000
      · rw [if_pos hlt] at hz
        rw [if_pos hlt, if_pos (show (0 : Int) ≤ ((a + 1 : Nat) : Int) ∧ ((a + 1 : Nat) : Int) < 27 by omega)]
        exact nx _ _ _ _ M1 s1 hz
      · rw [if_neg hlt] at hz
        rw [if_neg hlt, if_pos (show (0 : Int) ≤ ((a + 1 : Nat) : Int) ∧ ((a + 1 : Nat) : Int) < 27 by omega)]
        exact nx _ _ _ _ M1 s1 hz
    have t86 : a = 0 ∨ far = 1 ∧ a = 1 → ∃ M', e_X12_rescue_86 d (p : Int) (gonS (tN τ) ρ) far ((a + 1 : Nat) : Int) u5 u6 u7 M = some (vI (if (dcP τ ρ (tV τ p) (tW τ p) f).1 < 1000000 then (dcP τ ρ (tV τ p) (tW τ p) f).1 else -2), M') ∧ amSame fRc M M' := fun ha => by
      have hz : amMin 1000000 0 = dcN τ ρ (tV τ p) (tW τ p) a (dcP τ ρ (tV τ p) (tW τ p) a).1 (dcP τ ρ (tV τ p) (tW τ p) a).2 := by
        unfold dcN
        by_cases hv2 : tV τ p = 2
        · rw [if_pos hv2, if_pos (by omega)]; rfl
        · rw [if_neg hv2, if_pos (by omega)]; rfl
      rw [q_X12_rescue_86]
      by_cases h0 : far = 0
      · rw [if_pos h0]; exact t122 0 _ _ M amSame.refl hz
      · rw [if_neg h0, if_pos (by omega)]; exact t122 0 _ _ M amSame.refl hz
    rw [q_X12_rescue_56, w32_n (x := 50 + (p : Int)) (n := 50 + p) (by omega) (by omega), e50, hR _ (by omega), hff, if_pos (show (0 : Int) ≤ ((50 + p : Nat) : Int) ∧ ((50 + p : Nat) : Int) < 100 by omega), if_neg (show ¬ ((f : Nat) : Int) < ((a + 1 : Nat) : Int) by omega)]
    have t90 : 1 ≤ a → (far = 1 → 2 ≤ a) → ∃ M', e_X12_rescue_90 d (p : Int) (gonS (tN τ) ρ) far ((a + 1 : Nat) : Int) u5 u6 u7 M = some (vI (if (dcP τ ρ (tV τ p) (tW τ p) f).1 < 1000000 then (dcP τ ρ (tV τ p) (tW τ p) f).1 else -2), M') ∧ amSame fRc M M' := fun ha ha2 => by
      obtain ⟨M1, m1, m2⟩ := r_leastFor (D := d) (v := v) (s := a) (by omega) hτ hN hp (by omega) hT hR
      have hT1 : rTx v τ M1 := hT.ro (m2.mono fRw_fRo)
      have hR1 : rRow ρ M1 := fun j hj => by rw [m2 160 0 j (by rfl)]; exact hR j hj
      have b1 := lfL_b (τ := τ) (ρ := ρ) (vow := tV τ p) (heavy := tW τ p) (s := a) 101 0
      have b2 := lfL_b (τ := τ) (ρ := ρ) (vow := tV τ p) (heavy := tW τ p) (s := a - 1) 101 0
      rw [q_X12_rescue_90, w32_n (x := ((a + 1 : Nat) : Int) - 1) (n := a) (by omega) (by omega), m1, amCI_s, ea, m2 165 0 a (by rfl), h1, if_pos (show (0 : Int) ≤ ((a : Nat) : Int) ∧ ((a : Nat) : Int) < 27 by omega), w32_id (x := lfL τ ρ (tV τ p) (tW τ p) a 101 0 + (dcP τ ρ (tV τ p) (tW τ p) a).1) (by omega) (by omega)]
      by_cases h0 : far = 0
      · rw [if_pos h0]
        refine t122 _ _ _ M1 m2 ?_
        unfold dcN
        rw [if_neg (show ¬ tV τ p = 2 by omega), if_neg (show ¬ a = 0 by omega)]
      · obtain ⟨M2, k1, k2⟩ := r_leastFor (D := d) (v := v) (s := a - 1) (by omega) hτ hN hp (by omega) hT1 hR1
        have s2 : amSame fRw M M2 := m2.trans k2
        have ey : M2 165 0 (a - 1) = (dcP τ ρ (tV τ p) (tW τ p) a).2 := by rw [s2 165 0 _ (by rfl)]; exact h2 ha
        have er : M2 160 0 (a - 1) = ρ (a - 1) := by rw [s2 160 0 _ (by rfl)]; exact hR _ (by omega)
        rw [if_neg h0, if_neg (show ¬ ((a + 1 : Nat) : Int) < 3 by omega), w32_n (x := ((a + 1 : Nat) : Int) - 2) (n := a - 1) (by omega) (by omega), k1, amCI_s, ea1, ey, er, if_pos (show (0 : Int) ≤ ((a - 1 : Nat) : Int) ∧ ((a - 1 : Nat) : Int) < 27 by omega), if_pos (show (0 : Int) ≤ ((a - 1 : Nat) : Int) ∧ ((a - 1 : Nat) : Int) < 100 by omega), w32_id (x := lfL τ ρ (tV τ p) (tW τ p) (a - 1) 101 0 + (dcP τ ρ (tV τ p) (tW τ p) a).2) (by omega) (by omega)]
        have eD : dcN τ ρ (tV τ p) (tW τ p) a (dcP τ ρ (tV τ p) (tW τ p) a).1 (dcP τ ρ (tV τ p) (tW τ p) a).2 = if 0 < ρ (a - 1) then amMin 1000000 (lfL τ ρ (tV τ p) (tW τ p) (a - 1) 101 0 + (dcP τ ρ (tV τ p) (tW τ p) a).2) else amMin (amMin 1000000 (lfL τ ρ (tV τ p) (tW τ p) (a - 1) 101 0 + (dcP τ ρ (tV τ p) (tW τ p) a).2)) (amMin 1000000 (lfL τ ρ (tV τ p) (tW τ p) a 101 0 + (dcP τ ρ (tV τ p) (tW τ p) a).1)) := by
          unfold dcN
          rw [if_pos (show tV τ p = 2 by omega), if_neg (show ¬ a ≤ 1 by omega)]
        generalize lfL τ ρ (tV τ p) (tW τ p) (a - 1) 101 0 + (dcP τ ρ (tV τ p) (tW τ p) a).2 = two at eD ⊢
        generalize lfL τ ρ (tV τ p) (tW τ p) a 101 0 + (dcP τ ρ (tV τ p) (tW τ p) a).1 = one at eD ⊢
        by_cases hρ : 0 < ρ (a - 1)
        · rw [if_pos hρ] at eD
          rw [if_pos hρ]
          exact t189 _ _ _ M2 s2 eD.symm
        · rw [if_neg hρ] at eD
          rw [if_neg hρ]
          by_cases hlt : two < one
          · rw [if_pos hlt]
            refine t189 _ _ _ M2 s2 (Eq.trans ?_ eD.symm)
            have c1 := amMin_c 1000000 two
            have c2 := amMin_c 1000000 one
            have c3 := amMin_c (amMin 1000000 two) (amMin 1000000 one)
            clear eD nx t122 t189 t86 b1 b2 hb
            omega
          · rw [if_neg hlt, e, w32_n (x := ((a + 1 : Nat) : Int) + 1) (n := a + 1 + 1) (by omega) (by omega)]
            by_cases hF : one < 1000000
            · rw [if_pos hF, if_pos (show (0 : Int) ≤ ((a + 1 : Nat) : Int) ∧ ((a + 1 : Nat) : Int) < 27 by omega)]
              refine nx _ _ _ _ M2 s2 (Eq.trans ?_ eD.symm)
              have c1 := amMin_c 1000000 two
              have c2 := amMin_c 1000000 one
              have c3 := amMin_c (amMin 1000000 two) (amMin 1000000 one)
              clear eD nx t122 t189 t86 b1 b2 hb
              omega
            · rw [if_neg hF, if_pos (show (0 : Int) ≤ ((a + 1 : Nat) : Int) ∧ ((a + 1 : Nat) : Int) < 27 by omega)]
              refine nx _ _ _ _ M2 s2 (Eq.trans ?_ eD.symm)
              have c1 := amMin_c 1000000 two
              have c2 := amMin_c 1000000 one
              have c3 := amMin_c (amMin 1000000 two) (amMin 1000000 one)
              clear eD nx t122 t189 t86 b1 b2 hb
              omega
    by_cases ha1 : a = 0
    · rw [if_pos (by omega)]; exact t86 (Or.inl ha1)
    · rw [if_neg (by omega)]
      by_cases h0 : far = 0
      · rw [if_pos h0]; exact t90 (by omega) (fun q => by omega)
      · rw [if_neg h0]
        by_cases ha2 : a = 1
        · rw [if_pos (by omega)]; exact t86 (Or.inr ⟨by omega, ha2⟩)
        · rw [if_neg (by omega)]; exact t90 (by omega) (fun _ => by omega)
end RR
