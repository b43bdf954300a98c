/-! PURE: one call on each side -/
section JN2
variable {D N v v' L L' k k' i1 i2 : Nat} {τ τ' : Tx} {ρ ρ' : Rw} {P P' : List Rw} {H H' : Nat → Option Rw} {B S T B' S' T' : Nat → Int} {f f' : Int} {M M1 M2 : AmM} {a : List AmV} {x : Int}
theorem jO.nx (h : jO τ N ρ) : jO τ (N + 1) ρ := by
  obtain ⟨⟨h1, h2, h3, h4, h5⟩, h6⟩ := h
  refine ⟨⟨h1, h2, h3, h4, ?_⟩, h6⟩
  have : ((N + 1 : Nat) : Int) = (N : Int) + 1 := by omega
  rw [this]
  omega
theorem jP.nx (h : jP N τ ρ P H L B k S) : jP (N + 1) τ ρ P H L B k S := ⟨h.1, h.2.1.nx, fun σ q => (h.2.2.1 σ q).nx, fun s σ q r => (h.2.2.2.1 s σ q r).nx, h.2.2.2.2.1, h.2.2.2.2.2⟩
theorem rSd_c {c : Nat} (h : rSd c = true) : cSd c = false := by
  cases hb : cSd c with
  | false => rfl
  | true => rw [cSd_r hb] at h; cases h
theorem jR.mid {fC : Nat → Nat → Nat → Bool} (hfC : ∀ c s j, fC c s j = true → cSd c = true) (hR : jR v τ ρ P H L B k S T f M) (a2 : amSame fC M M1) : jR v τ ρ P H L B k S T f M1 := hR.mv fun c j q => a2 c 0 j (by
  cases hb : fC c 0 j with
  | false => rfl
  | true => have h1 := hfC c 0 j hb; have h2 := rSd_c (sQ_c q); rw [h1] at h2; cases h2)
theorem jOp_mk {fC fR : Nat → Nat → Nat → Bool} (hfC : ∀ c s j, fC c s j = true → cSd c = true) (hfR : ∀ c s j, fR c s j = true → rSd c = true) (a1 : amD amGst D i1 (vR 11 11 0 :: a) M = some (vI x, M1)) (a2 : amSame fC M M1) (b1 : amD amGst D i2 (vR 12 12 0 :: a) M1 = some (vI x, M2)) (b2 : amSame fR M1 M2) (hP : jP (N + 1) τ' ρ' P' H' L' B' k' S') (hK : jK τ' ρ' P' H' L' B' k' S' T' f' M1) (hM : jM τ' ρ' M1) (hR : jR v' τ' ρ' P' H' L' B' k' S' T' f' M2) : jOp D N i1 i2 a M := by
  have e2 : ∀ c s j, cSd c = true → M2 c s j = M1 c s j := fun c s j q => b2 c s j (by
    cases hb : fR c s j with
    | false => rfl
    | true => have h1 := hfR c s j hb; rw [cSd_r q] at h1; cases h1)
  refine ⟨x, M1, M2, a1, b1, ⟨τ', ρ', P', H', L', B', k', S', T', f', v', hP, hK.mv fun c s j q => e2 c s j (sK_c q), hM.mv fun c j q => e2 c 0 j (sM_c q), hR⟩, ?_, ?_⟩
  · intro s j
    refine a2 90 s j ?_
    cases hb : fC 90 s j with
    | false => rfl
    | true => have h1 := hfC 90 s j hb; cases h1
  · intro s j
    rw [b2 90 s j (by
      cases hb : fR 90 s j with
      | false => rfl
      | true => have h1 := hfR 90 s j hb; cases h1)]
    refine a2 90 s j ?_
    cases hb : fC 90 s j with
    | false => rfl
    | true => have h1 := hfC 90 s j hb; cases h1
/-- a call that only asks -/
theorem jOp_ask {fC fR : Nat → Nat → Nat → Bool} (hfC : ∀ c s j, fC c s j = true → cSd c = true ∧ sK c s j = false ∧ sM c s j = false) (hfR : ∀ c s j, fR c s j = true → rSd c = true ∧ sQ c j = false) (hP : jP N τ ρ P H L B k S) (hK : jK τ ρ P H L B k S T f M) (hM : jM τ ρ M) (hR : jR v τ ρ P H L B k S T f M) (a1 : ∃ M1, amD amGst D i1 (vR 11 11 0 :: a) M = some (vI x, M1) ∧ amSame fC M M1) (b1 : ∀ M1, jR v τ ρ P H L B k S T f M1 → ∃ M2, amD amGst D i2 (vR 12 12 0 :: a) M1 = some (vI x, M2) ∧ amSame fR M1 M2) : jOp D N i1 i2 a M := by
  obtain ⟨M1, a1, a2⟩ := a1
  have hR1 := hR.mid (fun c s j q => (hfC c s j q).1) a2
  obtain ⟨M2, b1, b2⟩ := b1 M1 hR1
  have e1 : ∀ c s j, (sK c s j = true ∨ sM c s j = true) → M1 c s j = M c s j := fun c s j q => a2 c s j (by
    cases hb : fC c s j with
    | false => rfl
    | true =>
      have h1 := hfC c s j hb
      rcases q with q | q
      · rw [h1.2.1] at q; cases q
      · rw [h1.2.2] at q; cases q)
  have e2 : ∀ c j, sQ c j = true → M2 c 0 j = M1 c 0 j := fun c j q => b2 c 0 j (by
    cases hb : fR c 0 j with
    | false => rfl
    | true => have h1 := (hfR c 0 j hb).2; rw [q] at h1; cases h1)
  exact jOp_mk (fun c s j q => (hfC c s j q).1) (fun c s j q => (hfR c s j q).1) a1 a2 b1 b2 hP.nx (hK.mv fun c s j q => e1 c s j (Or.inl q)) (hM.mv fun c j q => e1 c 0 j (Or.inr q)) (hR1.mv e2)
def fNone : Nat → Nat → Nat → Bool := fun _ _ _ => false
theorem fNone_c : ∀ c s j, fNone c s j = true → cSd c = true ∧ sK c s j = false ∧ sM c s j = false := fun c s j h => by cases h
theorem fNone_r : ∀ c s j, fNone c s j = true → rSd c = true ∧ sQ c j = false := fun c s j h => by cases h
end JN2
