/-! PURE: one reading, on both sides -/
section JRD
variable {D N v L k : Nat} {τ : Tx} {ρ : Rw} {P : List Rw} {H : Nat → Option Rw} {B S T : Nat → Int} {f : Int} {M : AmM}
theorem sSd_other (hv : v ≤ 1) {c j : Nat} (h : sSd v c j = true) : fRr0 (1 - v) c 0 j = false := by
  have h1 := sSd_iff.1 h
  cases hb : fRr0 (1 - v) c 0 j with
  | false => rfl
  | true =>
    exfalso
    have hc : 137 ≤ c ∧ c ≤ 155 := sSd_c h
    have h2 : sSd (1 - v) c j = true := by
      unfold fRr0 fRP fRti fRta fRlt fRt1 at hb
      rw [beq_false_of_ne (show c ≠ 12 by omega), beq_false_of_ne (show c ≠ 136 by omega), beq_false_of_ne (show c ≠ 156 by omega), beq_false_of_ne (show c ≠ 131 by omega), beq_false_of_ne (show c ≠ 132 by omega), beq_false_of_ne (show c ≠ 133 by omega), beq_false_of_ne (show c ≠ 134 by omega), beq_false_of_ne (show c ≠ 130 by omega)] at hb
      simpa using hb
    have h3 := sSd_iff.1 h2
    have hv2 : v = 0 ∨ v = 1 := by omega
    rcases hv2 with rfl | rfl
    · clear h h2 hb; omega
    · clear h h2 hb; omega
theorem j_read (hD : 24 ≤ D) (hP : jP N τ ρ P H L B k S) (hK : jK τ ρ P H L B k S T f M) (hM : jM τ ρ M) (hR : jR v τ ρ P H L B k S T f M) : jOp D N 109 163 [] M := by
  have hw := hP.2.2.2.2.2
  have hBc : cBy L (byS L B) M := ⟨hK.2.2.2.2.1.1, hK.2.2.2.2.1.2.1, byS_lt hw, fun j hj => by rw [hK.2.2.2.2.1.2.2 j hj]; exact byS_eq hw hj⟩
  obtain ⟨M1, a1, a2, a3, a4⟩ := c_read (D := D) (by omega) hBc
  have hfC : ∃ fC : Nat → Nat → Nat → Bool, (∀ c s j, fC c s j = true → cSd c = true) ∧ amSame fC M M1 := by
    revert a4
    cases rdN (rdX L (byS L B)) with
    | none => intro a4; exact ⟨fRd0, fun c s j h => (fRd0_q h).1, a4⟩
    | some τ' => intro a4; exact ⟨fRd1, fRd1_c, a4.1⟩
  obtain ⟨fC, hfC, hsC⟩ := hfC
  have hR1 := hR.mid hfC hsC
  obtain ⟨M2, b1, b2, b3, b4⟩ := r_read (D := D) (Y := byS L B) (by omega) hR1.1.1 hR1.1.2 hR1.2.2.2.2.2.2.2.1 hR1.2.2.2.2.2.1 hw (byS_lt hw) (fun j hj => byS_eq hw hj)
  have hok : ∀ τ', rdN (rdX L (byS L B)) = some τ' → tOk τ' := fun τ' h => rdN_ok h
  revert a4 b4 hok
  cases rdN (rdX L (byS L B)) with
  | none =>
    intro a4 b4 _
    have a4 : amSame fRd0 M M1 := a4
    have b4 : amSame (fRr0 (1 - v)) M1 M2 := b4
    have key : ∀ (q : Nat → Nat → Nat → Bool), (∀ c s j, fRd0 c s j = true → q c s j = false) → ∀ c s j, q c s j = true → M1 c s j = M c s j := fun q hq c s j h => a4 c s j (by
      cases hb : fRd0 c s j with
      | false => rfl
      | true => rw [hq c s j hb] at h; cases h)
    have hK1 : jK τ ρ P H 0 B k S T (rdP (tkP L (byS L B)) (rdX L (byS L B))) M1 := ⟨hK.1.mv (key _ fun c s j q => (fRd0_q q).2.1), hK.2.1.mv2 fun c j hc => key (fun c _ _ => scC c) (fun c s j q => (fRd0_q q).2.2.1) c 0 j hc, hK.2.2.1.mv (key _ fun c s j q => (fRd0_q q).2.2.2.1), hK.2.2.2.1.mv (key _ fun c s j q => (fRd0_q q).2.2.2.2.1), ⟨Nat.zero_le _, a2, fun j hj => absurd hj (Nat.not_lt_zero j)⟩, ⟨hK.2.2.2.2.2.1.1, (a4 9 0 5 (by rfl)).trans hK.2.2.2.2.2.1.2.1, fun i hi => ⟨(a4 122 0 i (by rfl)).trans (hK.2.2.2.2.2.1.2.2 i hi).1, (a4 123 0 i (by rfl)).trans (hK.2.2.2.2.2.1.2.2 i hi).2⟩⟩, a3⟩
    have hM1 : jM τ ρ M1 := hM.mv fun c j q => key (fun c _ j => sM c 0 j) (fun c s j z => (fRd0_q z).2.2.2.2.2) c 0 j q
    obtain ⟨h1, h2, h3, h4, h5, h6, h7, h8, h9⟩ := hR1
    have hR2 : jR v τ ρ P H 0 B k S T (rdP (tkP L (byS L B)) (rdX L (byS L B))) M2 := ⟨⟨h1.1, (b4 12 0 18 (by rfl)).trans h1.2⟩, h2.mv fun c j q => b4 c 0 j (sSd_other h1.1 q), h3.mv fun j => b4 159 0 j (by rfl), h4.mv (b4 12 0 53 (by rfl)) fun j => b4 161 0 j (by rfl), h5.mv (fun j => b4 169 0 j (by rfl)) fun j => b4 170 0 j (by rfl), ⟨Nat.zero_le _, b2, fun j hj => absurd hj (Nat.not_lt_zero j)⟩, ⟨h7.1, (b4 12 0 65 (by rfl)).trans h7.2.1, fun i hi => ⟨(b4 166 0 i (by rfl)).trans (h7.2.2 i hi).1, (b4 167 0 i (by rfl)).trans (h7.2.2 i hi).2⟩⟩, fun i hi => (b4 135 0 i (by rfl)).trans (h8 i hi), b3⟩
    exact jOp_mk hfC fRr0_r a1 hsC b1 b4 ⟨hP.1, hP.nx.2.1, hP.nx.2.2.1, hP.nx.2.2.2.1, hP.2.2.2.2.1, fun j hj => absurd hj (Nat.not_lt_zero j)⟩ hK1 hM1 hR2
  | some τ' =>
    intro a4 b4 hok
    obtain ⟨c0, c1, c2, c3, c4, c5, c6, c7, c8⟩ := a4
    obtain ⟨d0, d1, d2, d3, d4, d5, d6⟩ := b4
    have hτ' := hok τ' rfl
    obtain ⟨e, he, he2, _⟩ := hK.2.2.1.2.2
    have hK1 : jK τ' (bgS τ') [] (fun _ => none) 0 B 0 S T (rdP (tkP L (byS L B)) (rdX L (byS L B))) M1 := ⟨c1, c2, ⟨Nat.zero_le _, c3, e, he, (c0 11 0 14 (by rfl)).trans he2, fun i σ h => by cases h⟩, fun s hs => c4 s hs, ⟨Nat.zero_le _, a2, fun j hj => absurd hj (Nat.not_lt_zero j)⟩, ⟨Nat.zero_le _, c5, fun i hi => absurd hi (Nat.not_lt_zero i)⟩, a3⟩
    have hM1 : jM τ' (bgS τ') M1 := ⟨Or.inl c6, Or.inl c8, Or.inl c7⟩
    have hR2 : jR (1 - v) τ' (bgS τ') [] (fun _ => none) 0 B 0 S T (rdP (tkP L (byS L B)) (rdX L (byS L B))) M2 := ⟨⟨by omega, d1⟩, d2, d3, ⟨Nat.zero_le _, d4, fun i σ h => by cases h⟩, fun s hs => d6 s hs, ⟨Nat.zero_le _, b2, fun j hj => absurd hj (Nat.not_lt_zero j)⟩, ⟨Nat.zero_le _, d5, fun i hi => absurd hi (Nat.not_lt_zero i)⟩, fun i hi => (d0 135 0 i (by rfl)).trans (hR1.2.2.2.2.2.2.2.1 i hi), b3⟩
    exact jOp_mk hfC fRr1_r a1 hsC b1 d0 ⟨hτ', bgS_jO hτ', fun σ h => (by cases h), fun s σ _ h => (by cases h), fun i hi => absurd hi (Nat.not_lt_zero i), fun j hj => absurd hj (Nat.not_lt_zero j)⟩ hK1 hM1 hR2
end JRD
