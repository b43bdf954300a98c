/-! PURE: the calls whose answers the class remembers -/
theorem cWl.mk2 {τ : Tx} {M M' : AmM} (h : cWl τ M) (h1 : M' 9 0 7 = M 9 0 7) (h2 : ∀ j, M' 124 0 j = M 124 0 j) : cWl τ M' := by
  rcases h with h | h
  · exact Or.inl (h1.trans h)
  · exact Or.inr ⟨h1.trans h.1, h.2.mv h2⟩
theorem cMs.mk2 {τ : Tx} {ρ : Rw} {M M' : AmM} (h : cMs τ ρ M) (h1 : ∀ j, M' 0 0 j = M 0 0 j) : cMs τ ρ M' := by
  rcases h with h | ⟨n, a, b, c, d, e⟩
  · exact Or.inl ((h1 3).trans h)
  · exact Or.inr ⟨n, a, b, (h1 3).trans c, d.mv fun j _ _ => h1 j, (h1 7).trans e⟩
theorem cMo.mk2 {τ : Tx} {ρ : Rw} {M M' : AmM} (h : cMo τ ρ M) (h1 : ∀ j, M' 3 0 j = M 3 0 j) (h2 : ∀ j, M' 106 0 j = M 106 0 j) : cMo τ ρ M' := by
  rcases h with h | ⟨s, a, b, c, d⟩
  · exact Or.inl ((h1 4).trans h)
  · exact Or.inr ⟨s, a, b, (h1 4).trans c, d.mv (fun j _ => h1 j) h2⟩
theorem noK2 {c s j : Nat} (h : c = 0 ∨ c = 3 ∨ c = 105 ∨ c = 106 ∨ c = 124 ∨ (c = 9 ∧ j = 7)) : cSd c = true ∧ sK c s j = false := by
  refine ⟨?_, ?_⟩
  · unfold cSd
    simp only [Bool.or_eq_true, Bool.and_eq_true, Nat.ble_eq]
    omega
  · cases hb : sK c s j with
    | false => rfl
    | true =>
      exfalso
      unfold sK sTx scC at hb
      simp only [Bool.or_eq_true, Bool.and_eq_true, beq_iff_eq, Nat.ble_eq] at hb
      omega
def fSea : Nat → Nat → Nat → Bool := fun c s j => fTh 53 c s j || c == 0
theorem fSea_no : ∀ c s j, fSea c s j = true → cSd c = true ∧ sK c s j = false := fun c s j h => by
  unfold fSea at h
  rw [Bool.or_eq_true] at h
  rcases h with h | h
  · have := fTh_no (by decide) c s j h; exact ⟨this.1, this.2.1⟩
  · rw [beq_iff_eq] at h; exact noK2 (by omega)
theorem fTl_no : ∀ c s j, fTl c s j = true → cSd c = true ∧ sK c s j = false := fun c s j h => by
  unfold fTl at h
  rw [Bool.or_eq_true, Bool.or_eq_true] at h
  rcases h with (h | h) | h
  · have := fTh_no (by decide) c s j h; exact ⟨this.1, this.2.1⟩
  · rw [beq_iff_eq] at h; exact noK2 (by omega)
  · rw [Bool.and_eq_true, beq_iff_eq, beq_iff_eq] at h; exact noK2 (by omega)
theorem fOr_no : ∀ c s j, fOr c s j = true → cSd c = true ∧ sK c s j = false := fun c s j h => by
  unfold fOr at h
  simp only [Bool.or_eq_true, Bool.and_eq_true, beq_iff_eq, Nat.ble_eq] at h
  by_cases h2 : c = 3 ∨ c = 105 ∨ c = 106
  · exact noK2 (by omega)
  · have := noK (c := c) (s := s) (j := j) (by omega); exact ⟨this.1, this.2.1⟩
theorem fRs_no : ∀ c s j, fRs c s j = true → rSd c = true ∧ sQ c j = false := fun c s j h => by
  unfold fRs at h
  rw [Bool.or_eq_true, Bool.or_eq_true] at h
  rcases h with (h | h) | h
  · exact fRo_no c s j h
  · rw [beq_iff_eq] at h; exact noQ (by omega)
  · simp only [Bool.or_eq_true, Bool.and_eq_true, beq_iff_eq] at h; exact noQ (by omega)
theorem fRv_no : ∀ c s j, fRv c s j = true → rSd c = true ∧ sQ c j = false := fun c s j h => by
  unfold fRv at h
  rw [Bool.or_eq_true, Bool.or_eq_true] at h
  rcases h with (h | h) | h
  · exact fRo_no c s j h
  · rw [beq_iff_eq] at h; exact noQ (by omega)
  · simp only [Bool.and_eq_true, beq_iff_eq] at h; exact noQ (by omega)
theorem fRd_no : ∀ c s j, fRd c s j = true → rSd c = true ∧ sQ c j = false := fun c s j h => by
  unfold fRd at h
  simp only [Bool.or_eq_true] at h
  rcases h with ((h | h) | h) | h
  · exact fRo_no c s j h
  · rw [beq_iff_eq] at h; exact noQ (by omega)
  · rw [beq_iff_eq] at h; exact noQ (by omega)
  · simp only [Bool.or_eq_true, Bool.and_eq_true, beq_iff_eq] at h; exact noQ (by omega)
section JN4
variable {D N v L k i1 i2 : Nat} {τ : Tx} {ρ : Rw} {P : List Rw} {H : Nat → Option Rw} {B S T : Nat → Int} {f : Int} {M : AmM} {a : List AmV} {x : Int}
theorem jOp_ask2 {fC fR : Nat → Nat → Nat → Bool} (hfC : ∀ c s j, fC c s j = true → cSd c = true ∧ sK c s j = false) (hfR : ∀ c s j, fR c s j = true → rSd c = true ∧ sQ c j = false) (hP : jP N τ ρ P H L B k S) (hK : jK τ ρ P H L B k S T f M) (hR : jR v τ ρ P H L B k S T f M) (a1 : ∃ M1, amD amGst D i1 (vR 11 11 0 :: a) M = some (vI x, M1) ∧ amSame fC M M1 ∧ jM τ ρ M1) (b1 : ∀ M1, jR v τ ρ P H L B k S T f M1 → ∃ M2, amD amGst D i2 (vR 12 12 0 :: a) M1 = some (vI x, M2) ∧ amSame fR M1 M2) : jOp D N i1 i2 a M := by
  obtain ⟨M1, a1, a2, a3⟩ := a1
  have hR1 := hR.mid (fun c s j q => (hfC c s j q).1) a2
  obtain ⟨M2, b1, b2⟩ := b1 M1 hR1
  have e1 : ∀ c s j, sK c s j = true → M1 c s j = M c s j := fun c s j q => a2 c s j (by
    cases hb : fC c s j with
    | false => rfl
    | true => have h1 := (hfC c s j hb).2; rw [q] at h1; cases h1)
  have e2 : ∀ c j, sQ c j = true → M2 c 0 j = M1 c 0 j := fun c j q => b2 c 0 j (by
    cases hb : fR c 0 j with
    | false => rfl
    | true => have h1 := (hfR c 0 j hb).2; rw [q] at h1; cases h1)
  exact jOp_mk (fun c s j q => (hfC c s j q).1) (fun c s j q => (hfR c s j q).1) a1 a2 b1 b2 hP.nx (hK.mv e1) a3 (hR1.mv e2)
theorem j_season (hD : 24 ≤ D) (hN5 : N ≤ 1000) (hP : jP N τ ρ P H L B k S) (hK : jK τ ρ P H L B k S T f M) (hM : jM τ ρ M) (hR : jR v τ ρ P H L B k S T f M) {n w : Int} : jOp D N 124 226 [vI n, vI w] M := by
  obtain ⟨M1, a1, a2, a3⟩ := c_season (D := D) (by omega) hP.1 hN5 hP.2.1.1 hK.1 hK.2.1 hM.2.1 (n := n) (w := w)
  have a2 : amSame fSea M M1 := a2
  exact jOp_ask2 fSea_no fRs_no hP hK hR ⟨M1, a1, a2, hM.1.mk2 (a2 9 0 7 (by rfl)) (fun j => a2 124 0 j (by rfl)), a3, hM.2.2.mk2 (fun j => a2 3 0 j (by rfl)) (fun j => a2 106 0 j (by rfl))⟩ fun M1 hR1 => r_season (by omega) hP.1 hN5 hP.2.1.1 hP.2.1.2 hR1.tx hR1.2.2.1
theorem jM.tl {M1 : AmM} (hM : jM τ ρ M) (a2 : amSame fTl M M1) (h : cWl τ M1) : jM τ ρ M1 := ⟨h, hM.2.1.mk2 (fun j => a2 0 0 j (by rfl)), hM.2.2.mk2 (fun j => a2 3 0 j (by rfl)) (fun j => a2 106 0 j (by rfl))⟩
theorem j_fits (hD : 24 ≤ D) (hP : jP N τ ρ P H L B k S) (hK : jK τ ρ P H L B k S T f M) (hM : jM τ ρ M) (hR : jR v τ ρ P H L B k S T f M) {n : Int} : jOp D N 130 237 [vI n] M := by
  by_cases h : 0 ≤ n ∧ n ≤ (k : Int)
  · obtain ⟨m, rfl⟩ : ∃ m : Nat, n = (m : Int) := ⟨n.toNat, by omega⟩
    have hm : m ≤ k := by omega
    obtain ⟨M1, a1, a2, a3⟩ := c_fits (D := D) (by omega) hP.1 hK.1 hK.2.2.2.2.2.1 hP.2.2.2.2.1 hM.1 hm
    exact jOp_ask2 fTl_no fRv_no hP hK hR ⟨M1, a1, a2, hM.tl a2 a3⟩ fun M1 hR1 => r_fits (by omega) hP.1 hR1.tx hR1.2.2.2.2.2.2.1 hP.2.2.2.2.1 hm
  · exact jOp_ask fNone_c fNone_r hP hK hM hR ⟨M, c_fitsN (by omega) hK.2.2.2.2.2.1 h, amSame.refl⟩ fun M1 hR1 => ⟨M1, r_fitsN (by omega) hR1.2.2.2.2.2.2.1 h, amSame.refl⟩
theorem j_walkers (hD : 24 ≤ D) (hP : jP N τ ρ P H L B k S) (hK : jK τ ρ P H L B k S T f M) (hM : jM τ ρ M) (hR : jR v τ ρ P H L B k S T f M) {n i : Int} : jOp D N 131 238 [vI n, vI i] M := by
  by_cases h : 0 ≤ n ∧ n ≤ (k : Int)
  · obtain ⟨m, rfl⟩ : ∃ m : Nat, n = (m : Int) := ⟨n.toNat, by omega⟩
    have hm : m ≤ k := by omega
    obtain ⟨M1, a1, a2, a3⟩ := c_walkers (D := D) (by omega) hP.1 hK.1 hK.2.2.2.2.2.1 hP.2.2.2.2.1 hM.1 hm (i := i)
    exact jOp_ask2 fTl_no fRv_no hP hK hR ⟨M1, a1, a2, hM.tl a2 a3⟩ fun M1 hR1 => r_walkers (by omega) hP.1 hR1.tx hR1.2.2.2.2.2.2.1 hP.2.2.2.2.1 hm
  · exact jOp_ask fNone_c fNone_r hP hK hM hR ⟨M, c_walkersN (by omega) hK.2.2.2.2.2.1 h, amSame.refl⟩ fun M1 hR1 => ⟨M1, r_walkersN (by omega) hR1.2.2.2.2.2.2.1 h, amSame.refl⟩
theorem j_who (hD : 24 ≤ D) (hP : jP N τ ρ P H L B k S) (hK : jK τ ρ P H L B k S T f M) (hM : jM τ ρ M) (hR : jR v τ ρ P H L B k S T f M) {n i : Int} : jOp D N 132 239 [vI n, vI i] M := by
  by_cases h : 0 ≤ n ∧ n ≤ (k : Int)
  · obtain ⟨m, rfl⟩ : ∃ m : Nat, n = (m : Int) := ⟨n.toNat, by omega⟩
    have hm : m ≤ k := by omega
    obtain ⟨M1, a1, a2, a3⟩ := c_who (D := D) (by omega) hP.1 hK.1 hK.2.2.2.2.2.1 hP.2.2.2.2.1 hM.1 hm (sure := i)
    exact jOp_ask2 fTl_no fRv_no hP hK hR ⟨M1, a1, a2, hM.tl a2 a3⟩ fun M1 hR1 => r_who (by omega) hP.1 hR1.tx hR1.2.2.2.2.2.2.1 hP.2.2.2.2.1 hm
  · exact jOp_ask fNone_c fNone_r hP hK hM hR ⟨M, c_whoN (by omega) hK.2.2.2.2.2.1 h, amSame.refl⟩ fun M1 hR1 => ⟨M1, r_whoN (by omega) hR1.2.2.2.2.2.2.1 h, amSame.refl⟩
end JN4
