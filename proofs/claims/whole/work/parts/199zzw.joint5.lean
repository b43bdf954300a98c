/-! PURE: the calls that change what stands now -/
section JN5
variable {D N v L k : Nat} {τ : Tx} {ρ ρ' : Rw} {P P' : List Rw} {H : Nat → Option Rw} {B S T : Nat → Int} {f : Int} {M M' : AmM}
theorem fGo_c : ∀ c s j, fGo c s j = true → cSd c = true := fun c s j h => by
  unfold fGo sPa fTh scC at h
  unfold cSd
  simp only [Bool.or_eq_true, Bool.and_eq_true, beq_iff_eq, Nat.ble_eq] at h ⊢
  omega
theorem fRg_r : ∀ c s j, fRg c s j = true → rSd c = true := fun c s j h => by
  unfold fRg fRo fKp at h
  unfold rSd
  simp only [Bool.or_eq_true, Bool.and_eq_true, beq_iff_eq, Nat.ble_eq] at h ⊢
  omega
theorem jK.go (h : jK τ ρ P H L B k S T f M) (hs : amSame fGo M M') (hS : cSc τ 0 ρ' M') (hP : cPa τ P' M') : jK τ ρ' P' H L B k S T f M' := by
  obtain ⟨h1, h2, h3, h4, h5, h6, h7⟩ := h
  exact ⟨h1.go hs, hS, hP, h4.go hs, ⟨h5.1, (hs 7 0 1 (by rfl)).trans h5.2.1, fun j hj => (hs 114 0 j (by rfl)).trans (h5.2.2 j hj)⟩, ⟨h6.1, (hs 9 0 5 (by rfl)).trans h6.2.1, fun i hi => ⟨(hs 122 0 i (by rfl)).trans (h6.2.2 i hi).1, (hs 123 0 i (by rfl)).trans (h6.2.2 i hi).2⟩⟩, (hs 11 0 15 (by rfl)).trans h7⟩
theorem jM.go (h : jM τ ρ M) (hs : amSame fGo M M') (hD : cDr M') : jM τ ρ' M' := ⟨h.1.mk2 (hs 9 0 7 (by rfl)) (fun j => hs 124 0 j (by rfl)), Or.inl hD.2, Or.inl hD.1⟩
theorem jR.go (h : jR v τ ρ P H L B k S T f M) (hs : amSame fRg M M') (hN : rNow ρ' M') (hP : rPa P' M') : jR v τ ρ' P' H L B k S T f M' := by
  obtain ⟨h1, h2, h3, h4, h5, h6, h7, h8, h9⟩ := h
  refine ⟨⟨h1.1, (hs 12 0 18 (by rfl)).trans h1.2⟩, h2.mv fun c j q => hs c 0 j ?_, hN, hP, h5.rg hs, ⟨h6.1, (hs 12 0 2 (by rfl)).trans h6.2.1, fun j hj => (hs 129 0 j (by rfl)).trans (h6.2.2 j hj)⟩, ⟨h7.1, (hs 12 0 65 (by rfl)).trans h7.2.1, fun i hi => ⟨(hs 166 0 i (by rfl)).trans (h7.2.2 i hi).1, (hs 167 0 i (by rfl)).trans (h7.2.2 i hi).2⟩⟩, fun i hi => (hs 135 0 i (by rfl)).trans (h8 i hi), (hs 12 0 17 (by rfl)).trans h9⟩
  have q := sSd_iff.1 q
  cases hb : fRg c 0 j with
  | false => rfl
  | true =>
    exfalso
    unfold fRg fRo fKp at hb
    simp only [Bool.or_eq_true, Bool.and_eq_true, beq_iff_eq] at hb
    omega
theorem jP.go (h : jP N τ ρ P H L B k S) (hN : jO τ (N + 1) ρ') (hP : ∀ σ ∈ P', jO τ (N + 1) σ) : jP (N + 1) τ ρ' P' H L B k S := ⟨h.1, hN, hP, h.nx.2.2.2.1, h.2.2.2.2.1, h.2.2.2.2.2⟩
theorem jP.past (h : jP N τ ρ P H L B k S) : ∀ σ ∈ (ρ :: P).take 40, jO τ (N + 1) σ := fun σ hσ => by
  rcases List.mem_cons.1 (List.mem_of_mem_take hσ) with rfl | hq
  · exact h.2.1.nx
  · exact (h.2.2.1 σ hq).nx
theorem j_undo (hD : 24 ≤ D) (hP : jP N τ ρ P H L B k S) (hK : jK τ ρ P H L B k S T f M) (hM : jM τ ρ M) (hR : jR v τ ρ P H L B k S T f M) : jOp D N 118 206 [] M := by
  cases P with
  | nil => exact jOp_ask fNone_c fNone_r hP hK hM hR ⟨M, c_undoN (by omega) hK.2.2.1, amSame.refl⟩ fun M1 hR1 => ⟨M1, r_undoN (by omega) hR1.2.2.2.1, amSame.refl⟩
  | cons σ P =>
    obtain ⟨M1, a1, a2, a3, a4, a5⟩ := c_undo (D := D) (by omega) hP.1 hK.2.2.1
    have hR1 := hR.mid fGo_c a2
    obtain ⟨M2, b1, b2, b3, b4⟩ := r_undo (D := D) (by omega) hR1.2.2.2.1
    exact jOp_mk fGo_c fRg_r a1 a2 b1 b2 (hP.go (hP.2.2.1 σ (List.mem_cons_self ..)).nx fun τ' h => (hP.2.2.1 τ' (List.mem_cons_of_mem _ h)).nx) (hK.go a2 a3 a4) (hM.go a2 a5) (hR1.go b2 b3 b4)
theorem j_restore (hD : 24 ≤ D) (hP : jP N τ ρ P H L B k S) (hK : jK τ ρ P H L B k S T f M) (hM : jM τ ρ M) (hR : jR v τ ρ P H L B k S T f M) {s : Int} : jOp D N 134 241 [vI s] M := by
  by_cases h : 0 ≤ s ∧ s < 3 ∧ (H s.toNat).isSome = true
  · obtain ⟨m, rfl⟩ : ∃ m : Nat, s = (m : Int) := ⟨s.toNat, by omega⟩
    have hm : m < 3 := by omega
    obtain ⟨σ, hσ⟩ := Option.isSome_iff_exists.1 h.2.2
    rw [tn_cast] at hσ
    obtain ⟨M1, a1, a2, a3, a4, a5⟩ := c_restore (D := D) (by omega) hP.1 hK.2.2.2.1 hm hσ hK.2.2.1
    have hR1 := hR.mid fGo_c a2
    obtain ⟨M2, b1, b2, b3, b4⟩ := r_restore (D := D) (by omega) hR1.2.2.2.2.1 hm hσ
    exact jOp_mk fGo_c fRg_r a1 a2 b1 b2 (hP.go (hP.2.2.2.1 m σ hm hσ).nx fun τ' h => by cases h) (hK.go a2 a3 a4) (hM.go a2 a5) (hR1.go b2 b3 b4)
  · exact jOp_ask fNone_c fNone_r hP hK hM hR ⟨M, c_restoreN (by omega) hK.2.2.2.1 h, amSame.refl⟩ fun M1 hR1 => ⟨M1, r_restoreN (by omega) hR1.2.2.2.2.1 h, amSame.refl⟩
theorem s66_ntN (hτ : tOk τ) : ∀ (n : Nat) (ρ : Rw), s66 τ ρ → s66 τ (ntN τ n ρ)
  | 0, ρ, h => h
  | n + 1, ρ, h => by
    show s66 τ (ntN τ n (ntS τ ρ))
    exact s66_ntN hτ n _ (h.nt hτ)
theorem j_night (hD : 24 ≤ D) (hN5 : N ≤ 1000) (hP : jP N τ ρ P H L B k S) (hK : jK τ ρ P H L B k S T f M) (hM : jM τ ρ M) (hR : jR v τ ρ P H L B k S T f M) {n : Int} : jOp D N 116 204 [vI n] M := by
  by_cases h : 0 ≤ n ∧ n ≤ 100
  · obtain ⟨m, rfl⟩ : ∃ m : Nat, n = (m : Int) := ⟨n.toNat, by omega⟩
    by_cases h0 : m = 0
    · subst h0
      exact jOp_ask fNone_c fNone_r hP hK hM hR ⟨M, c_night0 (by omega) hK.2.1, amSame.refl⟩ fun M1 hR1 => ⟨M1, r_night0 (by omega) hR1.2.2.1, amSame.refl⟩
    · obtain ⟨M1, a1, a2, a3, a4, a5⟩ := c_night (D := D) (by omega) hP.1 hN5 hP.2.1.1 hK.1 hK.2.1 hK.2.2.1 (n := m) (by omega) (by omega)
      have hR1 := hR.mid fGo_c a2
      obtain ⟨M2, b1, b2, b3, b4⟩ := r_night (D := D) (by omega) hP.1 hN5 hP.2.1.1 hR1.tx hR1.2.2.1 hR1.2.2.2.1 (n := m) (by omega) (by omega)
      have hO : jO τ (N + 1) (ntN τ m ρ) := ⟨(ntN_ok hP.1 m ρ _ hP.2.1.1.one).sOk (by omega), s66_ntN hP.1 m ρ hP.2.1.2⟩
      exact jOp_mk fGo_c fRg_r a1 a2 b1 b2 (hP.go hO hP.past) (hK.go a2 a3 a4) (hM.go a2 a5) (hR1.go b2 b3 b4)
  · exact jOp_ask fNone_c fNone_r hP hK hM hR ⟨M, c_nightN (by omega) h, amSame.refl⟩ fun M1 hR1 => ⟨M1, r_nightN (by omega) h, amSame.refl⟩
end JN5
