/-! PURE: hold, odds -/
def jOpL (D N i1 i2 : Nat) (a : List AmV) (M : AmM) : Prop := ∃ (x : Int) (M1 M2 : AmM), amD amGst D i1 (vR 11 11 0 :: a) M = some (vL x, M1) ∧ amD amGst D i2 (vR 12 12 0 :: a) M1 = some (vL x, M2) ∧ jI (N + 1) M2 ∧ (∀ s j, M1 90 s j = M 90 s j) ∧ ∀ s j, M2 90 s j = M 90 s j
section JN8
variable {D N v L k i1 i2 : Nat} {τ : Tx} {ρ : Rw} {P : List Rw} {H : Nat → Option Rw} {B S T : Nat → Int} {f : Int} {M M' : AmM} {a : List AmV} {x : Int}
theorem jOpL_ask {fC fR : Nat → Nat → Nat → Bool} (hfC : ∀ c s j, fC c s j = true → cSd c = true ∧ sK c s j = false ∧ sM c s j = false) (hfR : ∀ c s j, fR c s j = true → rSd c = true ∧ sQ c j = false) (hP : jP N τ ρ P H L B k S) (hK : jK τ ρ P H L B k S T f M) (hM : jM τ ρ M) (hR : jR v τ ρ P H L B k S T f M) (a1 : ∃ M1, amD amGst D i1 (vR 11 11 0 :: a) M = some (vL x, M1) ∧ amSame fC M M1) (b1 : ∀ M1, jR v τ ρ P H L B k S T f M1 → ∃ M2, amD amGst D i2 (vR 12 12 0 :: a) M1 = some (vL x, M2) ∧ amSame fR M1 M2) : jOpL D N i1 i2 a M := by
  obtain ⟨M1, a1, a2⟩ := a1
  have hR1 := hR.mid (fun c s j q => (hfC c s j q).1) a2
  obtain ⟨M2, b1, b2⟩ := b1 M1 hR1
  have e1 : ∀ c s j, (sK c s j = true ∨ sM c s j = true) → M1 c s j = M c s j := fun c s j q => a2 c s j (by
    cases hb : fC c s j with
    | false => rfl
    | true =>
      have h1 := hfC c s j hb
      rcases q with q | q
      · rw [h1.2.1] at q; cases q
      · rw [h1.2.2] at q; cases q)
  have e2 : ∀ c j, sQ c j = true → M2 c 0 j = M1 c 0 j := fun c j q => b2 c 0 j (by
    cases hb : fR c 0 j with
    | false => rfl
    | true => have h1 := (hfR c 0 j hb).2; rw [q] at h1; cases h1)
  have e3 : ∀ c s j, cSd c = true → M2 c s j = M1 c s j := fun c s j q => b2 c s j (by
    cases hb : fR c s j with
    | false => rfl
    | true => have h1 := (hfR c s j hb).1; rw [cSd_r q] at h1; cases h1)
  have s90 : ∀ s j, M1 90 s j = M 90 s j := fun s j => a2 90 s j (by
    cases hb : fC 90 s j with
    | false => rfl
    | true => have h1 := (hfC 90 s j hb).1; cases h1)
  refine ⟨x, M1, M2, a1, b1, ⟨τ, ρ, P, H, L, B, k, S, T, f, v, hP.nx, hK.mv fun c s j q => (e3 c s j (sK_c q)).trans (e1 c s j (Or.inl q)), hM.mv fun c j q => (e3 c 0 j (sM_c q)).trans (e1 c 0 j (Or.inr q)), hR1.mv e2⟩, s90, fun s j => (b2 90 s j (by
    cases hb : fR 90 s j with
    | false => rfl
    | true => have h1 := (hfR 90 s j hb).1; cases h1)).trans (s90 s j)⟩
theorem j_odds (hD : 24 ≤ D) (hN5 : N ≤ 1000) (hP : jP N τ ρ P H L B k S) (hK : jK τ ρ P H L B k S T f M) (hM : jM τ ρ M) (hR : jR v τ ρ P H L B k S T f M) {s r n a b : Int} (hs : -2147483648 ≤ s ∧ s < 2147483648) : jOpL D N 123 223 [vI s, vI r, vI n, vI a, vI b] M := by
  by_cases h : oddOk τ ρ s r n a b
  · obtain ⟨h1, h2, h3, h4, h5⟩ := h
    obtain ⟨r', rfl⟩ : ∃ m : Nat, r = (m : Int) := ⟨r.toNat, by omega⟩
    obtain ⟨n', rfl⟩ : ∃ m : Nat, n = (m : Int) := ⟨n.toNat, by omega⟩
    obtain ⟨a', rfl⟩ : ∃ m : Nat, a = (m : Int) := ⟨a.toNat, by omega⟩
    obtain ⟨c', rfl⟩ : ∃ m : Nat, b = ((a' + m : Nat) : Int) := ⟨(b - a').toNat, by omega⟩
    exact jOpL_ask fBe_no fRo_no hP hK hM hR (c_odds (by omega) hP.1 hN5 hP.2.1.1 hP.2.1.2 hK.1 hK.2.1 h1 (by omega) (by omega) (by omega)) fun M1 hR1 => r_odds (by omega) hP.1 hN5 hP.2.1.1 hP.2.1.2 hR1.tx hR1.2.2.1 h1 (by omega) (by omega) (by omega)
  · exact jOpL_ask fNone_c fNone_r hP hK hM hR ⟨M, c_oddsN (by omega) hP.1 hK.1 hK.2.1 hs h, amSame.refl⟩ fun M1 hR1 => ⟨M1, r_oddsN (by omega) hP.1 hR1.tx hR1.2.2.1 h, amSame.refl⟩
theorem fHo_q {m : Nat} (hm : m < 3) : ∀ c s j, fHo m c s j = true → cSd c = true ∧ sTx 0 c s j = false ∧ (scC c && Nat.beq s 0) = false ∧ sPa c s j = false ∧ sM c 0 j = false := fun c s j h => by
  unfold fHo fSc at h
  simp only [Bool.or_eq_true, Bool.and_eq_true, beq_iff_eq] at h
  refine ⟨?_, ?_, ?_, ?_, ?_⟩
  · unfold cSd; simp only [Bool.or_eq_true, Bool.and_eq_true, Nat.ble_eq]; omega
  · cases hb : sTx 0 c s j with
    | false => rfl
    | true => exfalso; unfold sTx at hb; simp only [Bool.or_eq_true, Bool.and_eq_true, beq_iff_eq] at hb; omega
  · cases hb : (scC c && Nat.beq s 0) with
    | false => rfl
    | true => exfalso; unfold scC at hb; simp only [Bool.or_eq_true, Bool.and_eq_true, beq_iff_eq, Nat.beq_eq] at hb; omega
  · cases hb : sPa c s j with
    | false => rfl
    | true => exfalso; unfold sPa scC at hb; simp only [Bool.or_eq_true, Bool.and_eq_true, beq_iff_eq, Nat.ble_eq] at hb; omega
  · cases hb : sM c 0 j with
    | false => rfl
    | true => exfalso; unfold sM at hb; simp only [Bool.or_eq_true, Bool.and_eq_true, beq_iff_eq] at hb; omega
theorem j_hold (hD : 24 ≤ D) (hP : jP N τ ρ P H L B k S) (hK : jK τ ρ P H L B k S T f M) (hM : jM τ ρ M) (hR : jR v τ ρ P H L B k S T f M) {s : Int} : jOp D N 133 240 [vI s] M := by
  by_cases h : 0 ≤ s ∧ s < 3
  · obtain ⟨m, rfl⟩ : ∃ m : Nat, s = (m : Int) := ⟨s.toNat, by omega⟩
    have hm : m < 3 := by omega
    obtain ⟨M1, a1, a2, a3⟩ := c_hold (D := D) (by omega) hP.1 hK.2.1 hK.2.2.2.1 hm
    have hR1 := hR.mid (fun c s j q => (fHo_q hm c s j q).1) a2
    obtain ⟨M2, b1, b2, b3⟩ := r_hold (D := D) (by omega) hR1.2.2.1 hR1.2.2.2.2.1 hm
    have key : ∀ (q : Nat → Nat → Nat → Bool), (∀ c s j, fHo m c s j = true → q c s j = false) → ∀ c s j, q c s j = true → M1 c s j = M c s j := fun q hq c s j h => a2 c s j (by
      cases hb : fHo m c s j with
      | false => rfl
      | true => rw [hq c s j hb] at h; cases h)
    have k1 : ∀ c s j, (c = 7 ∨ c = 114 ∨ c = 9 ∨ c = 122 ∨ c = 123 ∨ c = 11) → M1 c s j = M c s j := fun c s j q => a2 c s j (by
      cases hb : fHo m c s j with
      | false => rfl
      | true => exfalso; unfold fHo fSc at hb; simp only [Bool.or_eq_true, Bool.and_eq_true, beq_iff_eq] at hb; omega)
    have hK1 : jK τ ρ P (fun i => if i = m then some ρ else H i) L B k S T f M1 := ⟨hK.1.mv (key _ fun c s j q => (fHo_q hm c s j q).2.1), hK.2.1.mv2 fun c j hc => key (fun c s _ => scC c && Nat.beq s 0) (fun c s j q => (fHo_q hm c s j q).2.2.1) c 0 j (by show (scC c && Nat.beq 0 0) = true; rw [hc]; rfl), hK.2.2.1.mv (key _ fun c s j q => (fHo_q hm c s j q).2.2.2.1), a3, ⟨hK.2.2.2.2.1.1, (k1 7 0 1 (by decide)).trans hK.2.2.2.2.1.2.1, fun j hj => (k1 114 0 j (by decide)).trans (hK.2.2.2.2.1.2.2 j hj)⟩, ⟨hK.2.2.2.2.2.1.1, (k1 9 0 5 (by decide)).trans hK.2.2.2.2.2.1.2.1, fun i hi => ⟨(k1 122 0 i (by decide)).trans (hK.2.2.2.2.2.1.2.2 i hi).1, (k1 123 0 i (by decide)).trans (hK.2.2.2.2.2.1.2.2 i hi).2⟩⟩, (k1 11 0 15 (by decide)).trans hK.2.2.2.2.2.2⟩
    have hM1 : jM τ ρ M1 := hM.mv fun c j q => key (fun c _ j => sM c 0 j) (fun c s j z => (fHo_q hm c s j z).2.2.2.2) c 0 j q
    have o : ∀ c j, c ≠ 169 → c ≠ 170 → M2 c 0 j = M1 c 0 j := fun c j q r => b2 c 0 j (by unfold fRh; rw [beq_false_of_ne q, beq_false_of_ne r]; rfl)
    obtain ⟨h1, h2, h3, h4, h5, h6, h7, h8, h9⟩ := hR1
    have hR2 : jR v τ ρ P (fun i => if i = m then some ρ else H i) L B k S T f M2 := ⟨⟨h1.1, (o 12 18 (by decide) (by decide)).trans h1.2⟩, h2.mv fun c j q => o c j (by have := sSd_iff.1 q; omega) (by have := sSd_iff.1 q; omega), h3.mv fun j => o 159 j (by decide) (by decide), h4.mv (o 12 53 (by decide) (by decide)) fun j => o 161 j (by decide) (by decide), b3, ⟨h6.1, (o 12 2 (by decide) (by decide)).trans h6.2.1, fun j hj => (o 129 j (by decide) (by decide)).trans (h6.2.2 j hj)⟩, ⟨h7.1, (o 12 65 (by decide) (by decide)).trans h7.2.1, fun i hi => ⟨(o 166 i (by decide) (by decide)).trans (h7.2.2 i hi).1, (o 167 i (by decide) (by decide)).trans (h7.2.2 i hi).2⟩⟩, fun i hi => (o 135 i (by decide) (by decide)).trans (h8 i hi), (o 12 17 (by decide) (by decide)).trans h9⟩
    refine jOp_mk (fun c s j q => (fHo_q hm c s j q).1) (fun c s j q => ?_) a1 a2 b1 b2 ⟨hP.1, hP.nx.2.1, hP.nx.2.2.1, fun i σ hi q => ?_, hP.2.2.2.2.1, hP.2.2.2.2.2⟩ hK1 hM1 hR2
    · unfold fRh at q
      unfold rSd
      simp only [Bool.or_eq_true, beq_iff_eq, Nat.ble_eq] at q ⊢
      omega
    · have q : (if i = m then some ρ else H i) = some σ := q
      by_cases e : i = m
      · rw [if_pos e] at q; cases q; exact hP.nx.2.1
      · rw [if_neg e] at q; exact hP.nx.2.2.2.1 i σ hi q
  · exact jOp_ask fNone_c fNone_r hP hK hM hR ⟨M, c_holdN (by omega) h, amSame.refl⟩ fun M1 hR1 => ⟨M1, r_holdN (by omega) h, amSame.refl⟩
end JN8
