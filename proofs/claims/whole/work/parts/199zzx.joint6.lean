/-! PURE: go, mend, order, orderAt -/
section JN6
variable {D N v L k : Nat} {τ : Tx} {ρ ρ' : Rw} {P P' : List Rw} {H : Nat → Option Rw} {B S T : Nat → Int} {f : Int} {M M' : AmM}
theorem s66.md (hτ : tOk τ) {s : Nat} {m : Int} (hs : s ≤ tN τ) (h : s66 τ ρ) : s66 τ (mdS ρ s m) := fun p hp => by
  have hN := hτ.1
  have hP := hτ.2.2.2.2.2.2.1
  have e : mdS ρ s m (66 + p) = ρ (66 + p) := by
    unfold mdS
    rw [if_neg (by omega), rUp_ne (by omega)]
  rw [e]
  exact h p hp
theorem j_go (hD : 24 ≤ D) (hP : jP N τ ρ P H L B k S) (hK : jK τ ρ P H L B k S T f M) (hM : jM τ ρ M) (hR : jR v τ ρ P H L B k S T f M) {p : Int} : jOp D N 114 201 [vI p] M := by
  by_cases h : 0 ≤ p ∧ p < tP τ
  · obtain ⟨m, rfl⟩ : ∃ m : Nat, p = (m : Int) := ⟨p.toNat, by omega⟩
    have hm : m < tP τ := by omega
    by_cases hg : ρ (50 + m) = 0
    · obtain ⟨M1, a1, a2, a3, a4, a5⟩ := c_go (D := D) (by omega) hP.1 hP.2.1.1 hK.1 hK.2.1 hK.2.2.1 hm hg
      have hR1 := hR.mid fGo_c a2
      obtain ⟨M2, b1, b2, b3, b4⟩ := r_go (D := D) (by omega) hP.1 hP.2.1.1 hR1.tx hR1.2.2.1 hR1.2.2.2.1 hm hg (hP.2.1.2 m hm)
      have hO : jO τ (N + 1) (goS τ ρ m) := ⟨(goS_ok hP.1 hP.2.1.1 hm).mono (by omega), hP.2.1.2.go hP.1 hm⟩
      exact jOp_mk fGo_c fRg_r a1 a2 b1 b2 (hP.go hO hP.past) (hK.go a2 a3 a4) (hM.go a2 a5) (hR1.go b2 b3 b4)
    · exact jOp_ask fNone_c fNone_r hP hK hM hR ⟨M, c_goA (by omega) hP.1 hK.1 hK.2.1 hm hg, amSame.refl⟩ fun M1 hR1 => ⟨M1, r_goA (by omega) hP.1 hR1.tx hR1.2.2.1 hm hg, amSame.refl⟩
  · exact jOp_ask fNone_c fNone_r hP hK hM hR ⟨M, c_goN (by omega) hK.1 h, amSame.refl⟩ fun M1 hR1 => ⟨M1, r_goN (by omega) hP.1 hR1.tx h, amSame.refl⟩
theorem j_mend (hD : 24 ≤ D) (hP : jP N τ ρ P H L B k S) (hK : jK τ ρ P H L B k S T f M) (hM : jM τ ρ M) (hR : jR v τ ρ P H L B k S T f M) {s m : Int} : jOp D N 117 205 [vI s, vI m] M := by
  by_cases h : (1 ≤ s ∧ s ≤ tN τ) ∧ 1 ≤ m
  · obtain ⟨a, rfl⟩ : ∃ a : Nat, s = (a : Int) := ⟨s.toNat, by omega⟩
    have ha : 1 ≤ a ∧ a ≤ tN τ := by omega
    by_cases hc : m ≤ ρ 82 ∧ m ≤ tTh τ a - ρ a
    · obtain ⟨M1, a1, a2, a3, a4, a5⟩ := c_mend (D := D) (by omega) hP.1 hP.2.1.1 hK.1 hK.2.1 hK.2.2.1 ha ⟨h.2, hc⟩
      have hR1 := hR.mid fGo_c a2
      obtain ⟨M2, b1, b2, b3, b4⟩ := r_mend (D := D) (by omega) hP.1 hP.2.1.1 hR1.tx hR1.2.2.1 hR1.2.2.2.1 ha ⟨h.2, hc⟩
      have hO : jO τ (N + 1) (mdS ρ a m) := ⟨(mdS_ok hP.1 hP.2.1.1 ha ⟨h.2, hc⟩).mono (by omega), hP.2.1.2.md hP.1 ha.2⟩
      exact jOp_mk fGo_c fRg_r a1 a2 b1 b2 (hP.go hO hP.past) (hK.go a2 a3 a4) (hM.go a2 a5) (hR1.go b2 b3 b4)
    · exact jOp_ask fNone_c fNone_r hP hK hM hR ⟨M, c_mendC (by omega) hP.1 hP.2.1.1 hK.1 hK.2.1 ha h.2 hc, amSame.refl⟩ fun M1 hR1 => ⟨M1, r_mendC (by omega) hP.1 hP.2.1.1 hR1.tx hR1.2.2.1 ha h.2 hc, amSame.refl⟩
  · exact jOp_ask fNone_c fNone_r hP hK hM hR ⟨M, c_mendN (by omega) hK.2.1 h, amSame.refl⟩ fun M1 hR1 => ⟨M1, r_mendN (by omega) hP.1 hR1.tx h, amSame.refl⟩
theorem jM.or (hM : jM τ ρ M) (a2 : amSame fOr M M') (h : cMo τ ρ M') : jM τ ρ M' := ⟨hM.1.mk2 (a2 9 0 7 (by rfl)) (fun j => a2 124 0 j (by rfl)), hM.2.1.mk2 (fun j => a2 0 0 j (by rfl)), h⟩
theorem j_order (hD : 24 ≤ D) (hP : jP N τ ρ P H L B k S) (hK : jK τ ρ P H L B k S T f M) (hM : jM τ ρ M) (hR : jR v τ ρ P H L B k S T f M) {s w : Int} (hs : -2147483648 ≤ s ∧ s < 2147483648) : jOp D N 119 212 [vI s, vI w] M := by
  by_cases h : onSet τ ρ s ∧ 0 ≤ w ∧ w ≤ 1
  · by_cases h7 : cntB s.toNat ≤ 7
    · obtain ⟨M1, a1, a2, a3⟩ := c_order (D := D) (by omega) hP.1 hP.2.1.1 hK.1 hK.2.1 hM.2.2 h.1 h.2 h7
      exact jOp_ask2 fOr_no fRd_no hP hK hR ⟨M1, a1, a2, hM.or a2 a3⟩ fun M1 hR1 => r_order (by omega) hP.1 hP.2.1.1 hP.2.1.2 hR1.tx hR1.2.2.1 h.1 h.2 h7
    · exact jOp_ask fNone_c fNone_r hP hK hM hR ⟨M, c_orderM (by omega) hP.1 hK.1 hK.2.1 h.1 h.2 (by omega), amSame.refl⟩ fun M1 hR1 => ⟨M1, r_orderM (by omega) hP.1 hR1.tx hR1.2.2.1 h.1 h.2 (by omega), amSame.refl⟩
  · exact jOp_ask fNone_c fNone_r hP hK hM hR ⟨M, c_orderN (by omega) hP.1 hK.1 hK.2.1 hs h, amSame.refl⟩ fun M1 hR1 => ⟨M1, r_orderN (by omega) hP.1 hR1.tx hR1.2.2.1 h, amSame.refl⟩
theorem j_orderAt (hD : 24 ≤ D) (hP : jP N τ ρ P H L B k S) (hK : jK τ ρ P H L B k S T f M) (hM : jM τ ρ M) (hR : jR v τ ρ P H L B k S T f M) {s i : Int} (hs : -2147483648 ≤ s ∧ s < 2147483648) : jOp D N 120 213 [vI s, vI i] M := by
  by_cases h : onSet τ ρ s ∧ 0 ≤ i ∧ i < ((cntB s.toNat : Nat) : Int)
  · by_cases h7 : cntB s.toNat ≤ 7
    · obtain ⟨x, hx⟩ := ordS_get (τ := τ) (ρ := ρ) h7 (i := i.toNat) (by omega)
      obtain ⟨M1, a1, a2, a3⟩ := c_orderAt (D := D) (by omega) hP.1 hP.2.1.1 hK.1 hK.2.1 hM.2.2 h.1 h.2 h7 hx
      exact jOp_ask2 fOr_no fRd_no hP hK hR ⟨M1, a1, a2, hM.or a2 a3⟩ fun M1 hR1 => r_orderAt (by omega) hP.1 hP.2.1.1 hP.2.1.2 hR1.tx hR1.2.2.1 h.1 h.2 h7 hx
    · exact jOp_ask fNone_c fNone_r hP hK hM hR ⟨M, c_orderAtM (by omega) hP.1 hK.1 hK.2.1 h.1 h.2 (by omega), amSame.refl⟩ fun M1 hR1 => ⟨M1, r_orderAtM (by omega) hP.1 hR1.tx hR1.2.2.1 h.1 h.2 (by omega), amSame.refl⟩
  · exact jOp_ask fNone_c fNone_r hP hK hM hR ⟨M, c_orderAtN (by omega) hP.1 hK.1 hK.2.1 hs h, amSame.refl⟩ fun M1 hR1 => ⟨M1, r_orderAtN (by omega) hP.1 hR1.tx hR1.2.2.1 h, amSame.refl⟩
end JN6
