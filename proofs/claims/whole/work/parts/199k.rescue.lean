/-! PURE: the class's rescue -/
def rescS (τ : Tx) (ρ : Rw) (p : Int) : Int := if 0 ≤ p ∧ p < tP τ then (if ρ (74 + p.toNat) = 0 then -1 else if (dcP τ ρ (tV τ p.toNat) (tW τ p.toNat) (ρ (50 + p.toNat)).toNat).1 < 1000000 then (dcP τ ρ (tV τ p.toNat) (tW τ p.toNat) (ρ (50 + p.toNat)).toNat).1 else -2) else -1
def fTk : Nat → Nat → Nat → Bool := fun c s j => fAs c s j || c == 103
theorem fAs_fTk : ∀ c s j, fAs c s j = true → fTk c s j = true := fun c s j h => by unfold fTk; rw [h]; rfl
theorem cTx.tk {τ : Tx} {M M' : AmM} (h : cTx 0 τ M) (hs : amSame fTk M M') : cTx 0 τ M' := h.mv fun c s j hc => hs c s j (by
  unfold sTx at hc
  simp only [Bool.and_eq_true, Bool.or_eq_true, beq_iff_eq] at hc
  obtain ⟨rfl, hc⟩ := hc
  rcases hc with (((((rfl | rfl) | rfl) | rfl) | rfl) | rfl) | rfl <;> rfl)
theorem cSc.tk {τ : Tx} {ρ : Rw} {s : Nat} {M M' : AmM} (h : cSc τ s ρ M) (hs : amSame fTk M M') : cSc τ s ρ M' := h.mv2 fun c j hc => hs _ _ _ (by
  have h10 : c ≠ 10 := by rintro rfl; cases hc
  have h125 : c ≠ 125 := by rintro rfl; cases hc
  have h102 : c ≠ 102 := by rintro rfl; cases hc
  have h103 : c ≠ 103 := by rintro rfl; cases hc
  unfold fTk fAs
  simp [h10, h125, h102, h103])
section RS
variable {D d v : Nat} {τ : Tx} {ρ : Rw} {M : AmM} {N : Nat} {vow heavy : Int}
theorem cWk.up {c s j : Nat} {x day : Int} (h : cWk τ vow heavy day M) (hc : c ≠ 10 ∧ c ≠ 125) : cWk τ vow heavy day (amUp M c s j x) := by
  obtain ⟨h1, h2, h3, h4, h5⟩ := h
  refine ⟨by rw [up_c (Ne.symm hc.1)]; exact h1, by rw [up_c (Ne.symm hc.1)]; exact h2, by rw [up_c (Ne.symm hc.2)]; exact h3, by rw [up_c (Ne.symm hc.2)]; exact h4, by rw [up_c (Ne.symm hc.2)]; exact h5⟩
theorem c_takenLoop (hd : 5 ≤ d) (hτ : tOk τ) (hN : sOk τ N ρ) (hh : 0 ≤ heavy ∧ heavy ≤ 2000) (hv : 0 ≤ vow ∧ vow ≤ 3) {p : Int} {f : Nat} (hf : f ≤ tN τ + 1) : ∀ (k a : Nat) (M : AmM), a + k = f → cTx 0 τ M → cSc τ 0 ρ M → cWk τ vow heavy (ρ 83) M → M 103 0 a = (dcP τ ρ vow heavy a).1 → (1 ≤ a → M 103 0 (a - 1) = (dcP τ ρ vow heavy a).2) → ∃ M', e_X2_takenOff_33 d 0 p (f : Int) ((a + 1 : Nat) : Int) M = some (vI (if (dcP τ ρ vow heavy f).1 < 1000000 then (dcP τ ρ vow heavy f).1 else -2), M') ∧ amSame fTk M M'
  | 0, a, M, h, hT, hS, hW, h1, h2 => by
    have h : a = f := h
    subst h
    have hn := hτ.1
    have e : ((a : Nat) : Int).toNat = a := rfl
    refine ⟨M, ?_, amSame.refl⟩
    rw [q_X2_takenOff_33, if_pos (by omega), c_at (n := 26) (by omega) (by decide) (by decide) (by omega) (by omega), amCI_s, e, h1]
    by_cases h3 : (dcP τ ρ vow heavy a).1 < 1000000
    · rw [if_pos h3, if_pos h3]
    · rw [if_neg h3, if_neg h3]
  | k + 1, a, M, h, hT, hS, hW, h1, h2 => by
    have hn := hτ.1
    have hb := dcP_b (τ := τ) (ρ := ρ) (vow := vow) (heavy := heavy) a
    have e : (((a + 1 : Nat) : Int)).toNat = a + 1 := rfl
    obtain ⟨M1, m1, m2⟩ := c_dearFrom (D := d) (a := a) (by omega) hτ hN hh hv (by omega) hb.1 hb.2 hT hS hW h1 h2
    have eN : (dcP τ ρ vow heavy (a + 1)).1 = dcN τ ρ vow heavy a (dcP τ ρ vow heavy a).1 (dcP τ ρ vow heavy a).2 := rfl
    have eN2 : (dcP τ ρ vow heavy (a + 1)).2 = (dcP τ ρ vow heavy a).1 := rfl
    have s1 : amSame fTk M (amUp M1 103 0 (a + 1) (dcP τ ρ vow heavy (a + 1)).1) := (m2.mono fun c s j h => fAs_fTk c s j (fWr_fAs c s j h)).up (by rfl)
    obtain ⟨M2, k1, k2⟩ := c_takenLoop hd hτ hN hh hv (p := p) hf k (a + 1) (amUp M1 103 0 (a + 1) (dcP τ ρ vow heavy (a + 1)).1) (by omega) (hT.tk s1) (hS.tk s1) ((hW.wr m2).up (by decide)) up_on (fun _ => by
      rw [eN2, up_j (by omega), show a + 1 - 1 = a by omega, m2 103 0 a (by rfl)]; exact h1)
    refine ⟨M2, ?_, s1.trans k2⟩
    rw [q_X2_takenOff_33, if_neg (by omega), m1, amCI_s, c_put (n := 26) (by omega) (by decide) (by decide) (by omega) (by omega), amCV_s, e, ← eN, w32_n (x := ((a + 1 : Nat) : Int) + 1) (n := a + 1 + 1) (by omega) (by omega)]
    exact k1
theorem c_rescue (hD : 7 ≤ D) (hτ : tOk τ) (hN : sOk τ N ρ) (hT : cTx 0 τ M) (hS : cSc τ 0 ρ M) {p : Int} : ∃ M', amD amGst D 125 [vR 11 11 0, vI p] M = some (vI (rescS τ ρ p), M') ∧ amSame fTk M M' := by
  obtain ⟨d, rfl⟩ := dS hD
  have hn := hτ.1
  have hP := hτ.2.2.2.2.2.2.1
  rw [n_X11_rescue, q_X11_rescue_0]
  unfold rescS
  by_cases h1 : 0 ≤ p ∧ p < tP τ
  · have ep : p = ((p.toNat : Nat) : Int) := by omega
    have hp := hS.2.1 p.toNat (by omega)
    have hb := hN.2.1 p.toNat (by omega)
    rw [c_hasY (by omega) hT h1, amCI_s, if_neg (show ¬ (1 : Int) = 0 by decide), c_at (n := 8) (by omega) (by decide) (by decide) (by omega) (by omega), amCI_s, hp.2.2.2, if_pos h1]
    by_cases h0 : ρ (74 + p.toNat) = 0
    · rw [if_pos h0, if_pos h0]
      exact ⟨M, rfl, amSame.refl⟩
    · obtain ⟨d, rfl⟩ := dS (show 5 + 1 ≤ d by omega)
      have hWV := tkWV hτ (p := p.toNat) (by omega)
      obtain ⟨M1, m1, m2, m3, m4⟩ := c_begin (D := d) (day := ρ 83) (p := p.toNat) (by omega) hτ hT hN.2.2.2.1 (by omega)
      rw [← ep] at m1
      have s1 : amSame fTk M (amUp M1 103 0 0 0) := (m2.mono fun c s j h => by
        have h : (c == 10 || c == 125) = true := h
        unfold fTk fAs
        rw [h]; rfl).up (by rfl)
      have ef : ρ (50 + p.toNat) = (((ρ (50 + p.toNat)).toNat : Nat) : Int) := by omega
      obtain ⟨M2, k1, k2⟩ := c_takenLoop (d := d) (p := p) (f := (ρ (50 + p.toNat)).toNat) (by omega) hτ hN hWV.1 hWV.2 (by omega) (ρ (50 + p.toNat)).toNat 0 (amUp M1 103 0 0 0) (by omega) (hT.tk s1) (hS.tk s1) (m3.up (by decide)) up_on (fun q => by omega)
      rw [← ef] at k1
      have k1 : e_X2_takenOff_33 d 0 p (ρ (50 + p.toNat)) 1 (amUp M1 103 0 0 0) = _ := k1
      have e0 : ((0 : Int)).toNat = 0 := rfl
      rw [if_neg h0, if_neg h0, n_X2_takenOff, q_X2_takenOff_0, hS.2.2.2, m1, amCV_s, c_at (n := 8) (by omega) (by decide) (by decide) (by omega) (by omega), amCI_s, m2 108 0 _ (by rfl), hp.1, c_put (n := 26) (by omega) (by decide) (by decide) (by omega) (by omega), amCV_s, e0, k1, amCI_s]
      exact ⟨M2, rfl, s1.trans k2⟩
  · rw [c_hasN (by omega) hT h1, amCI_s, if_pos rfl, if_neg h1]
    exact ⟨M, rfl, amSame.refl⟩
end RS
