/-! PURE: the calls that only ask -/
theorem noK {c s j : Nat} (h : c = 10 ∨ c = 125 ∨ c = 102 ∨ c = 103 ∨ ((c = 112 ∨ c = 113 ∨ c = 6) ∧ 44 ≤ s)) : cSd c = true ∧ sK c s j = false ∧ sM c s j = false := by
  refine ⟨?_, ?_, ?_⟩
  · unfold cSd
    simp only [Bool.or_eq_true, Bool.and_eq_true, Nat.ble_eq]
    omega
  · cases hb : sK c s j with
    | false => rfl
    | true =>
      exfalso
      unfold sK sTx scC at hb
      simp only [Bool.or_eq_true, Bool.and_eq_true, beq_iff_eq, Nat.ble_eq] at hb
      omega
  · cases hb : sM c s j with
    | false => rfl
    | true =>
      exfalso
      unfold sM at hb
      simp only [Bool.or_eq_true, Bool.and_eq_true, beq_iff_eq] at hb
      omega
theorem noQ {c j : Nat} (h : (157 ≤ c ∧ c ≤ 158) ∨ c = 160 ∨ (162 ≤ c ∧ c ≤ 165) ∨ c = 168 ∨ (c = 12 ∧ (j = 47 ∨ (50 ≤ j ∧ j ≤ 52) ∨ (55 ≤ j ∧ j ≤ 62) ∨ j = 69))) : rSd c = true ∧ sQ c j = false := by
  refine ⟨?_, ?_⟩
  · unfold rSd
    simp only [Bool.or_eq_true, beq_iff_eq, Nat.ble_eq]
    omega
  · cases hb : sQ c j with
    | false => rfl
    | true =>
      exfalso
      unfold sQ at hb
      simp only [Bool.or_eq_true, Bool.and_eq_true, beq_iff_eq, Nat.ble_eq] at hb
      omega
theorem fTh_no {r : Nat} (hr : 44 ≤ r) : ∀ c s j, fTh r c s j = true → cSd c = true ∧ sK c s j = false ∧ sM c s j = false := fun c s j h => by
  unfold fTh at h
  simp only [Bool.or_eq_true, Bool.and_eq_true, beq_iff_eq] at h
  exact noK (by omega)
theorem fSt_no {r : Nat} (hr : 44 ≤ r) : ∀ c s j, fSt r c s j = true → cSd c = true ∧ sK c s j = false ∧ sM c s j = false := fun c s j h => by
  unfold fSt at h
  simp only [Bool.or_eq_true, Bool.and_eq_true, beq_iff_eq] at h
  exact noK (by omega)
theorem fAs_no : ∀ c s j, fAs c s j = true → cSd c = true ∧ sK c s j = false ∧ sM c s j = false := fun c s j h => by
  unfold fAs at h
  simp only [Bool.or_eq_true, Bool.and_eq_true, beq_iff_eq] at h
  exact noK (by omega)
theorem fWo_no : ∀ c s j, fWo c s j = true → cSd c = true ∧ sK c s j = false ∧ sM c s j = false := fun c s j h => by
  unfold fWo at h
  rw [Bool.or_eq_true] at h
  rcases h with h | h
  · exact fTh_no (by decide) c s j h
  · exact fSt_no (by decide) c s j h
theorem fBe_no : ∀ c s j, fBe c s j = true → cSd c = true ∧ sK c s j = false ∧ sM c s j = false := fun c s j h => by
  unfold fBe at h
  rw [Bool.or_eq_true] at h
  rcases h with h | h
  · exact fTh_no (by decide) c s j h
  · exact fSt_no (by decide) c s j h
theorem fTk_no : ∀ c s j, fTk c s j = true → cSd c = true ∧ sK c s j = false ∧ sM c s j = false := fun c s j h => by
  unfold fTk at h
  rw [Bool.or_eq_true] at h
  rcases h with h | h
  · exact fAs_no c s j h
  · rw [beq_iff_eq] at h
    exact noK (by omega)
theorem fRo_no : ∀ c s j, fRo c s j = true → rSd c = true ∧ sQ c j = false := fun c s j h => by
  unfold fRo at h
  simp only [Bool.or_eq_true, Bool.and_eq_true, beq_iff_eq] at h
  exact noQ (by omega)
theorem fRc_no : ∀ c s j, fRc c s j = true → rSd c = true ∧ sQ c j = false := fun c s j h => by
  unfold fRc at h
  rw [Bool.or_eq_true] at h
  rcases h with h | h
  · exact fRo_no c s j h
  · rw [beq_iff_eq] at h; exact noQ (by omega)
section JN3
variable {D N v L k : Nat} {τ : Tx} {ρ : Rw} {P : List Rw} {H : Nat → Option Rw} {B S T : Nat → Int} {f : Int} {M : AmM}
theorem j_place (hD : 24 ≤ D) (hP : jP N τ ρ P H L B k S) (hK : jK τ ρ P H L B k S T f M) (hM : jM τ ρ M) (hR : jR v τ ρ P H L B k S T f M) : jOp D N 110 164 [] M := by
  obtain ⟨d, rfl⟩ := dS (show 1 ≤ D by omega)
  refine jOp_ask fNone_c fNone_r hP hK hM hR (x := f) ⟨M, ?_, amSame.refl⟩ fun M1 hR1 => ⟨M1, ?_, amSame.refl⟩
  · rw [n_X11_place, q_X11_place_0, hK.2.2.2.2.2.2]
  · rw [n_X12_place, q_X12_place_0, hR1.2.2.2.2.2.2.2.2]
theorem j_step (hD : 24 ≤ D) (hP : jP N τ ρ P H L B k S) (hK : jK τ ρ P H L B k S T f M) (hM : jM τ ρ M) (hR : jR v τ ρ P H L B k S T f M) {s w : Int} : jOp D N 111 196 [vI s, vI w] M :=
  jOp_ask fNone_c fNone_r hP hK hM hR ⟨M, c_step (by omega) hP.1 hK.1 hK.2.1, amSame.refl⟩ fun M1 hR1 => ⟨M1, r_step (by omega) hP.1 hR1.tx hR1.2.2.1, amSame.refl⟩
theorem j_pilgrim (hD : 24 ≤ D) (hP : jP N τ ρ P H L B k S) (hK : jK τ ρ P H L B k S T f M) (hM : jM τ ρ M) (hR : jR v τ ρ P H L B k S T f M) {p w : Int} : jOp D N 112 197 [vI p, vI w] M :=
  jOp_ask fNone_c fNone_r hP hK hM hR ⟨M, c_pilgrim (by omega) hP.1 hK.1 hK.2.1, amSame.refl⟩ fun M1 hR1 => ⟨M1, r_pilgrim (by omega) hP.1 hR1.tx hR1.2.2.1, amSame.refl⟩
theorem j_wear (hD : 24 ≤ D) (hP : jP N τ ρ P H L B k S) (hK : jK τ ρ P H L B k S T f M) (hM : jM τ ρ M) (hR : jR v τ ρ P H L B k S T f M) {p s up : Int} (hup : up = 0 ∨ up = 1) : jOp D N 113 198 [vI p, vI s, vI up] M :=
  jOp_ask fAs_no fRo_no hP hK hM hR (c_wear (by omega) hP.1 hP.2.1.1 hK.1 hK.2.1 hup) fun M1 hR1 => r_wear (by omega) hP.1 hP.2.1.1 hR1.tx hR1.2.2.1 hup
theorem j_would (hD : 24 ≤ D) (hP : jP N τ ρ P H L B k S) (hK : jK τ ρ P H L B k S T f M) (hM : jM τ ρ M) (hR : jR v τ ρ P H L B k S T f M) {p w : Int} : jOp D N 115 202 [vI p, vI w] M :=
  jOp_ask fWo_no fRo_no hP hK hM hR (c_would (by omega) hP.1 hP.2.1.1 hK.1 hK.2.1) fun M1 hR1 => r_would (by omega) hP.1 hP.2.1.1 hR1.tx hR1.2.2.1
theorem j_rescue (hD : 24 ≤ D) (hP : jP N τ ρ P H L B k S) (hK : jK τ ρ P H L B k S T f M) (hM : jM τ ρ M) (hR : jR v τ ρ P H L B k S T f M) {p : Int} : jOp D N 125 229 [vI p] M :=
  jOp_ask fTk_no fRc_no hP hK hM hR (c_rescue (by omega) hP.1 hP.2.1.1 hK.1 hK.2.1) fun M1 hR1 => r_rescue (by omega) hP.1 hP.2.1.1 hR1.tx hR1.2.2.1
theorem j_bell (hD : 24 ≤ D) (hP : jP N τ ρ P H L B k S) (hK : jK τ ρ P H L B k S T f M) (hM : jM τ ρ M) (hR : jR v τ ρ P H L B k S T f M) {w : Int} : jOp D N 126 231 [vI w] M :=
  jOp_ask fBe_no fRo_no hP hK hM hR (c_bell (by omega) hP.1 hP.2.1.1 hK.1 hK.2.1) fun M1 hR1 => r_bell (by omega) hP.1 hP.2.1.1 hR1.tx hR1.2.2.1
theorem j_fair (hD : 24 ≤ D) (hP : jP N τ ρ P H L B k S) (hK : jK τ ρ P H L B k S T f M) (hM : jM τ ρ M) (hR : jR v τ ρ P H L B k S T f M) : jOp D N 127 232 [] M :=
  jOp_ask fNone_c fNone_r hP hK hM hR ⟨M, c_fair (by omega) hP.1 hK.1 hK.2.1, amSame.refl⟩ fun M1 hR1 => ⟨M1, r_fair (by omega) hP.1 hR1.tx hR1.2.2.1, amSame.refl⟩
theorem j_count (hD : 24 ≤ D) (hP : jP N τ ρ P H L B k S) (hK : jK τ ρ P H L B k S T f M) (hM : jM τ ρ M) (hR : jR v τ ρ P H L B k S T f M) {w : Int} : jOp D N 135 242 [vI w] M := by
  have h1 := c_count (D := D) (by omega) hP.1 hP.2.1.1 hK.1 hK.2.1 hK.2.2.1 hK.2.2.2.1 (w := w)
  rw [hK.2.2.2.2.2.1.2.1, hK.2.2.2.2.1.2.1] at h1
  refine jOp_ask fNone_c fRo_no hP hK hM hR ⟨M, h1, amSame.refl⟩ fun M1 hR1 => ?_
  have h2 := r_count (D := D) (by omega) hP.1 hP.2.1.1 hR1.tx hR1.2.2.1 hR1.2.2.2.1 hR1.2.2.2.2.1 (w := w)
  rw [hR1.2.2.2.2.2.2.1.2.1, hR1.2.2.2.2.2.1.2.1] at h2
  exact h2
theorem j_need (hD : 24 ≤ D) (hP : jP N τ ρ P H L B k S) (hK : jK τ ρ P H L B k S T f M) (hM : jM τ ρ M) (hR : jR v τ ρ P H L B k S T f M) {g s : Int} (hg : -2147483648 ≤ g ∧ g < 2147483648) : jOp D N 121 219 [vI g, vI s] M := by
  by_cases h : onSet τ ρ g
  · exact jOp_ask fAs_no fRo_no hP hK hM hR (c_need (by omega) hP.1 hP.2.1.1 hK.1 hK.2.1 h) fun M1 hR1 => r_need (by omega) hP.1 hP.2.1.1 hR1.tx hR1.2.2.1 h
  · exact jOp_ask fNone_c fNone_r hP hK hM hR ⟨M, c_needN (by omega) hP.1 hK.1 hK.2.1 hg h, amSame.refl⟩ fun M1 hR1 => ⟨M1, r_needN (by omega) hP.1 hR1.tx hR1.2.2.1 h, amSame.refl⟩
theorem j_bears (hD : 24 ≤ D) (hP : jP N τ ρ P H L B k S) (hK : jK τ ρ P H L B k S T f M) (hM : jM τ ρ M) (hR : jR v τ ρ P H L B k S T f M) {s : Int} (hs : -2147483648 ≤ s ∧ s < 2147483648) : jOp D N 122 221 [vI s] M := by
  by_cases h : onSet τ ρ s
  · exact jOp_ask fBe_no fRo_no hP hK hM hR (c_bears (by omega) hP.1 hP.2.1.1 hP.2.1.2 hK.1 hK.2.1 h) fun M1 hR1 => r_bears (by omega) hP.1 hP.2.1.1 hP.2.1.2 hR1.tx hR1.2.2.1 h
  · exact jOp_ask fNone_c fNone_r hP hK hM hR ⟨M, c_bearsN (by omega) hP.1 hK.1 hK.2.1 hs h, amSame.refl⟩ fun M1 hR1 => ⟨M1, r_bearsN (by omega) hP.1 hR1.tx hR1.2.2.1 h, amSame.refl⟩
end JN3
