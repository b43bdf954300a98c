/-! PURE: the reference's rescue, asked -/
section RR2
variable {D d v : Nat} {τ : Tx} {ρ : Rw} {M : AmM} {N : Nat}
theorem r_rescue (hD : 5 ≤ D) (hτ : tOk τ) (hN : sOk τ N ρ) (hT : rTx v τ M) (hS : rNow ρ M) {p : Int} : ∃ M', amD amGst D 229 [vR 12 12 0, vI p] M = some (vI (rescS τ ρ p), M') ∧ amSame fRc M M' := by
  obtain ⟨d, rfl⟩ := dS hD
  have hn := hτ.1
  have hP := hτ.2.2.2.2.2.2.1
  rw [n_X12_rescue, q_X12_rescue_0]
  unfold rescS
  by_cases h1 : 0 ≤ p ∧ p < tP τ
  · have ep : p = ((p.toNat : Nat) : Int) := by omega
    have hb := hN.2.1 p.toNat (by omega)
    have e74 : (((74 + p.toNat : Nat) : Int)).toNat = 74 + p.toNat := rfl
    rw [r_isPilY (by omega) hτ hT h1, amCI_s, if_neg (show ¬ (1 : Int) = 0 by decide), if_pos h1, w32_n (x := 74 + p) (n := 74 + p.toNat) (by omega) (by omega), e74, if_pos (show (0 : Int) ≤ ((74 + p.toNat : Nat) : Int) ∧ ((74 + p.toNat : Nat) : Int) < 100 by omega), hS _ (by omega)]
    by_cases h0 : ρ (74 + p.toNat) = 0
    · rw [if_pos h0, if_pos h0]
      exact ⟨M, rfl, amSame.refl⟩
    · obtain ⟨M1, a1, a2, a3⟩ := r_takes (D := d) (by omega) hS
      have s1 : amSame fRo M M1 := a3.mono f160_fRo
      have hT1 := hT.ro s1
      have s2 : amSame fRc M (amUp M1 165 0 0 0) := (s1.mono fRo_fRc).up (by rfl)
      have hR2 : rRow ρ (amUp M1 165 0 0 0) := fun j hj => by rw [up_c (by decide)]; exact a2 j hj
      have hvw := r_vowOf (D := d) (by omega) hτ hT1 (p := p.toNat) (by omega)
      rw [← ep] at hvw
      have ef : ρ (50 + p.toNat) = (((ρ (50 + p.toNat)).toNat : Nat) : Int) := by omega
      rw [if_neg h0, if_neg h0, a1, amCV_s, r_goneNow (by omega) hτ hT1 a2, amCI_s, hvw, amCI_s]
      have fin : ∀ far : Int, (far = 1 ∧ tV τ p.toNat = 2 ∨ far = 0 ∧ tV τ p.toNat ≠ 2) → ∃ M', e_X12_rescue_56 d p (gonS (tN τ) ρ) far 1 vU vU vU (amUp M1 165 0 0 0) = some (vI (if (dcP τ ρ (tV τ p.toNat) (tW τ p.toNat) (ρ (50 + p.toNat)).toNat).1 < 1000000 then (dcP τ ρ (tV τ p.toNat) (tW τ p.toNat) (ρ (50 + p.toNat)).toNat).1 else -2), M') ∧ amSame fRc M M' := fun far hfar => by
        obtain ⟨M2, k1, k2⟩ := r_rescLoop (d := d) (v := v) (p := p.toNat) (far := far) (f := (ρ (50 + p.toNat)).toNat) (by omega) hτ hN (by omega) hfar (by omega) ef (ρ (50 + p.toNat)).toNat 0 vU vU vU (amUp M1 165 0 0 0) (by omega) (hT.rc s2) hR2 up_on (fun q => by omega)
        rw [← ep] at k1
        exact ⟨M2, k1, s2.trans k2⟩
      by_cases hv2 : tV τ p.toNat = 2
      · rw [if_pos hv2, if_pos (show (0 : Int) ≤ 0 ∧ (0 : Int) < 27 by omega)]
        exact fin 1 (Or.inl ⟨rfl, hv2⟩)
      · rw [if_neg hv2, if_pos (show (0 : Int) ≤ 0 ∧ (0 : Int) < 27 by omega)]
        exact fin 0 (Or.inr ⟨rfl, hv2⟩)
  · rw [r_isPilN (by omega) hτ hT h1, amCI_s, if_pos rfl, if_neg h1]
    exact ⟨M, rfl, amSame.refl⟩
end RR2
