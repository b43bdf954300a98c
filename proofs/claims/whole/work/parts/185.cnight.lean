/-! PURE: rain and nights -/
/-- the first m steps rained on -/
def rnR (u : Int) (ρ : Rw) (m : Nat) : Rw := fun j => if 1 ≤ j ∧ j ≤ m then (if ρ j < u then 0 else ρ j - u) else ρ j
/-- the first of them worn away -/
def rnF (u : Int) (ρ : Rw) : Nat → Int
  | 0 => -1
  | m + 1 => if rnF u ρ m = -1 ∧ 0 < ρ (m + 1) ∧ ρ (m + 1) ≤ u then ((m + 1 : Nat) : Int) else rnF u ρ m
theorem rnR_0 {u : Int} {ρ : Rw} : rnR u ρ 0 = ρ := funext fun j => by unfold rnR; rw [if_neg (by omega)]
theorem rnR_s {u : Int} {ρ : Rw} {m : Nat} : rnR u ρ (m + 1) = rUp (rnR u ρ m) (m + 1) (if ρ (m + 1) < u then 0 else ρ (m + 1) - u) := funext fun j => by
  by_cases h : j = m + 1
  · subst h
    rw [rUp_on]
    unfold rnR
    rw [if_pos (show 1 ≤ m + 1 ∧ m + 1 ≤ m + 1 by omega)]
  · rw [rUp_ne h]
    unfold rnR
    by_cases h2 : 1 ≤ j ∧ j ≤ m
    · rw [if_pos h2, if_pos (show 1 ≤ j ∧ j ≤ m + 1 by omega)]
    · rw [if_neg h2, if_neg (show ¬ (1 ≤ j ∧ j ≤ m + 1) by omega)]
theorem rnR_nx {u : Int} {ρ : Rw} {m : Nat} : rnR u ρ m (m + 1) = ρ (m + 1) := if_neg (by omega)
theorem rnR_hi {u : Int} {ρ : Rw} {m j : Nat} (h : m < j) : rnR u ρ m j = ρ j := if_neg (by omega)
theorem rnR_b {u : Int} {ρ : Rw} {m j : Nat} {t : Int} (hu : 0 ≤ u) (h : 0 ≤ ρ j ∧ ρ j ≤ t) : 0 ≤ rnR u ρ m j ∧ rnR u ρ m j ≤ t := by
  unfold rnR
  split
  · split <;> omega
  · exact h
def fRn (r : Nat) : Nat → Nat → Nat → Bool := fun c s j => s == r && (c == 112 || (c == 6 && j == 3))
section CN
variable {D d n r : Nat} {τ : Tx} {ρ : Rw} {M : AmM} {u : Int}
theorem c_rainLoop (hd : 2 ≤ d) (hn : n ≤ 24) (hu : 0 ≤ u ∧ u ≤ 1000) (hρ : ∀ j, 1 ≤ j → j ≤ n → 0 ≤ ρ j ∧ ρ j ≤ 99) : ∀ (k m : Nat) (u4 : AmV) (M : AmM), m + k = n → cSt n r (rnR u ρ m) M → ∃ M', e_X6_rainOn_4 d r u (rnF u ρ m) ((m + 1 : Nat) : Int) u4 M = some (vI (rnF u ρ n), M') ∧ cSt n r (rnR u ρ n) M' ∧ amSame (fRn r) M M'
  | 0, m, u4, M, h, hS => by
    have h : m = n := h
    subst h
    refine ⟨M, ?_, hS, amSame.refl⟩
    rw [q_X6_rainOn_4, hS.1, if_pos (by omega)]
  | k + 1, m, u4, M, h, hS => by
    have h0 := hρ (m + 1) (by omega) (by omega)
    have hg := gonS_b n (rnR u ρ m)
    have e1 : M 112 r (m + 1) = ρ (m + 1) := by rw [(hS.2.2 (m + 1) (by omega) (by omega)).1, rnR_nx]
    have hg2 := hS.2.1
    have e2 : amMax 0 (ρ (m + 1) - u) = (if ρ (m + 1) < u then 0 else ρ (m + 1) - u) := by
      unfold amMax
      split <;> split <;> omega
    have hS2 := hS.set (v := if ρ (m + 1) < u then 0 else ρ (m + 1) - u) hn ⟨show 1 ≤ m + 1 by omega, by omega⟩ (by rw [rnR_nx]; omega) (by split <;> omega)
    rw [← rnR_s] at hS2
    rw [q_X6_rainOn_4, hS.1, if_neg (by omega), c_thickAt (by omega) (by omega), amCI_s, e1, w32_id (x := ρ (m + 1) - u) (by omega) (by omega), e2, c_setThick (by omega) (by omega) (by rw [hg2]; omega), amCV_s]
    generalize hM2 : amUp (amUp M 6 r 3 (M 6 r 3 + (if 0 < M 112 r (m + 1) then 1 else 0) - (if 0 < (if ρ (m + 1) < u then 0 else ρ (m + 1) - u) then 1 else 0))) 112 r (m + 1) (if ρ (m + 1) < u then 0 else ρ (m + 1) - u) = M2 at hS2 ⊢
    have s2 : amSame (fRn r) M M2 := by
      rw [← hM2]
      exact (amSame.refl.up (by simp [fRn])).up (by simp [fRn])
    have e3 : M2 112 r (m + 1) = (if ρ (m + 1) < u then 0 else ρ (m + 1) - u) := by rw [← hM2, up_on]
    rw [w32_n (x := ((m + 1 : Nat) : Int) + 1) (n := m + 1 + 1) (by omega) (by omega)]
    have next : ∀ u4', ∃ M', e_X6_rainOn_4 d r u (rnF u ρ (m + 1)) ((m + 1 + 1 : Nat) : Int) u4' M2 = some (vI (rnF u ρ n), M') ∧ cSt n r (rnR u ρ n) M' ∧ amSame (fRn r) M M' := fun u4' => by
      obtain ⟨M', a1, a2, a3⟩ := c_rainLoop hd hn hu hρ k (m + 1) u4' M2 (by omega) hS2
      exact ⟨M', a1, a2, s2.trans a3⟩
    by_cases hF : rnF u ρ m = -1
    · rw [if_pos hF]
      by_cases hp : 0 < ρ (m + 1)
      · rw [if_pos hp, c_thickAt (by omega) (by omega), amCI_s, e3]
        by_cases hz : ρ (m + 1) ≤ u
        · have ez : (if ρ (m + 1) < u then 0 else ρ (m + 1) - u) = 0 := by split <;> omega
          have eF : rnF u ρ (m + 1) = ((m + 1 : Nat) : Int) := if_pos ⟨hF, hp, hz⟩
          rw [if_pos ez, ← eF]
          exact next _
        · have ez : ¬ (if ρ (m + 1) < u then 0 else ρ (m + 1) - u) = 0 := by split <;> omega
          have eF : rnF u ρ (m + 1) = rnF u ρ m := if_neg (fun q => hz q.2.2)
          rw [if_neg ez, ← eF]
          exact next _
      · have eF : rnF u ρ (m + 1) = rnF u ρ m := if_neg (fun q => hp q.2.1)
        rw [if_neg hp, ← eF]
        exact next _
    · have eF : rnF u ρ (m + 1) = rnF u ρ m := if_neg (fun q => hF q.1)
      rw [if_neg hF, ← eF]
      exact next _
theorem c_rainOn (hD : 3 ≤ D) (hn : n ≤ 24) (hu : 0 ≤ u ∧ u ≤ 1000) (hρ : ∀ j, 1 ≤ j → j ≤ n → 0 ≤ ρ j ∧ ρ j ≤ 99) (hS : cSt n r ρ M) : ∃ M', amD amGst D 61 [vR 6 6 r, vI u] M = some (vI (rnF u ρ n), M') ∧ cSt n r (rnR u ρ n) M' ∧ amSame (fRn r) M M' := by
  obtain ⟨d, rfl⟩ := dS hD
  rw [n_X6_rainOn, q_X6_rainOn_0]
  exact c_rainLoop (d := d) (by omega) hn hu hρ n 0 vU M (by omega) (by rw [rnR_0]; exact hS)
/-- a night -/
def ntS (τ : Tx) (ρ : Rw) : Rw := fun j => if j = 82 then (if ρ 82 + tG τ ≤ 9999 then ρ 82 + tG τ else 9999) else if j = 83 then ρ 83 + 1 else rnR (rainS τ (ρ 83)) ρ (tN τ) j
def ntN (τ : Tx) : Nat → Rw → Rw
  | 0, ρ => ρ
  | k + 1, ρ => ntN τ k (ntS τ ρ)
/-- nights keep a row in bounds; the day is counted by itself -/
def sOk1 (τ : Tx) (B : Int) (ρ : Rw) : Prop := rOk τ ρ ∧ (∀ p, p < tP τ → (0 ≤ ρ (50 + p) ∧ ρ (50 + p) ≤ tN τ + 1) ∧ (ρ (74 + p) = 0 ∨ ρ (74 + p) = 1) ∧ (ρ (50 + p) = 0 → ρ (74 + p) = 0)) ∧ (0 ≤ ρ 82 ∧ ρ 82 ≤ 9999) ∧ 0 ≤ ρ 83 ∧ ρ 83 ≤ B
theorem ntS_ok {B : Int} (hτ : tOk τ) (h : sOk1 τ B ρ) : sOk1 τ (B + 1) (ntS τ ρ) := by
  obtain ⟨a1, a2, a3, a4, a5⟩ := h
  have hu := rainS_b hτ a4
  have hN := hτ.1
  have hG := hτ.2.2.2.2.2.1
  have hP := hτ.2.2.2.2.2.2.1
  refine ⟨fun j b1 b2 => ?_, fun p hp => ?_, ?_, ?_⟩
  · have h1 : ntS τ ρ j = rnR (rainS τ (ρ 83)) ρ (tN τ) j := by
      unfold ntS; rw [if_neg (show ¬ j = 82 by omega), if_neg (show ¬ j = 83 by omega)]
    rw [h1]
    exact rnR_b hu.1 (a1 j b1 b2)
  · have h1 : ∀ j, 50 ≤ j → j < 82 → ntS τ ρ j = ρ j := fun j c1 c2 => by
      unfold ntS; rw [if_neg (show ¬ j = 82 by omega), if_neg (show ¬ j = 83 by omega), rnR_hi (by omega)]
    rw [h1 _ (by omega) (by omega), h1 _ (by omega) (by omega)]
    exact a2 p hp
  · show 0 ≤ (if ρ 82 + tG τ ≤ 9999 then ρ 82 + tG τ else 9999) ∧ (if ρ 82 + tG τ ≤ 9999 then ρ 82 + tG τ else 9999) ≤ 9999
    split <;> omega
  · show 0 ≤ ρ 83 + 1 ∧ ρ 83 + 1 ≤ B + 1
    omega
theorem ntN_ok (hτ : tOk τ) : ∀ (k : Nat) (ρ : Rw) (B : Int), sOk1 τ B ρ → sOk1 τ (B + k) (ntN τ k ρ)
  | 0, ρ, B, h => by
    have e : B + ((0 : Nat) : Int) = B := by omega
    rw [e]; exact h
  | k + 1, ρ, B, h => by
    have h1 := ntN_ok hτ k (ntS τ ρ) (B + 1) (ntS_ok hτ h)
    have e : B + ((k + 1 : Nat) : Int) = B + 1 + (k : Int) := by omega
    rw [e]; exact h1
theorem c_passNight (hD : 4 ≤ D) (hτ : tOk τ) {B : Int} (hB : B ≤ 1000000) (hN : sOk1 τ B ρ) (hT : cTx 0 τ M) (hS : cSc τ 0 ρ M) : ∃ M', amD amGst D 47 [vR 5 5 0] M = some (vU, M') ∧ cSc τ 0 (ntS τ ρ) M' ∧ amSame (fSc 0) M M' := by
  obtain ⟨d, rfl⟩ := dS hD
  obtain ⟨a1, a2, a3, a4, a5⟩ := hN
  have hu := rainS_b hτ a4
  have hG := hτ.2.2.2.2.2.1
  have hP := hτ.2.2.2.2.2.2.1
  have hn := hτ.1
  obtain ⟨M1, m1, m2, m3⟩ := c_rainOn (D := d) (u := rainS τ (ρ 83)) (by omega) hτ.1 (by omega) (fun j b1 b2 => ⟨(a1 j b1 b2).1, Int.le_trans (a1 j b1 b2).2 (hτ.2.1 j b1 b2).2⟩) hS.1
  have o1 : ∀ c s j, c ≠ 112 → c ≠ 6 → M1 c s j = M c s j := fun c s j h1 h2 => m3 _ _ _ (by
    unfold fRn; rw [beq_false_of_ne h1, beq_false_of_ne h2]; simp)
  have s1 : amSame (fSc 0) M M1 := m3.mono fun c s j h => by
    unfold fRn at h
    simp only [Bool.and_eq_true, Bool.or_eq_true, beq_iff_eq] at h
    obtain ⟨rfl, h⟩ := h
    rcases h with rfl | ⟨rfl, rfl⟩ <;> rfl
  rw [n_X5_passNight, q_X5_passNight_0, hS.2.2.2, c_rainOf (by omega) hτ hT a4, amCI_s, m1, amCI_s, q_X5_passNight_51, up_j (by decide), o1 5 _ _ (by decide) (by decide), o1 8 _ _ (by decide) (by decide), o1 5 _ _ (by decide) (by decide), hS.2.2.1, hS.2.2.2, hT.2.2.2.1, w32_id (x := ρ 82 + tG τ) (by omega) (by omega), w32_id (x := ρ 83 + 1) (by omega) (by omega)]
  have e9 : amMin 9999 (ρ 82 + tG τ) = (if ρ 82 + tG τ ≤ 9999 then ρ 82 + tG τ else 9999) := by
    unfold amMin
    split <;> split <;> omega
  rw [e9]
  refine ⟨_, rfl, ⟨?_, fun p hp => ?_, ?_, ?_⟩, (s1.up (by rfl)).up (by rfl)⟩
  · refine cSt.up (cSt.up ?_ (by decide)) (by decide)
    exact m2.row hτ.1 fun j b1 b2 => by
      unfold ntS; rw [if_neg (show ¬ j = 82 by omega), if_neg (show ¬ j = 83 by omega)]
  · have h1 : ∀ j, 50 ≤ j → j < 82 → ntS τ ρ j = ρ j := fun j c1 c2 => by
      unfold ntS; rw [if_neg (show ¬ j = 82 by omega), if_neg (show ¬ j = 83 by omega), rnR_hi (by omega)]
    have h9 := hS.2.1 p hp
    iterate 8 rw [up_c (by decide)]
    rw [h1 _ (by omega) (by omega), h1 _ (by omega) (by omega), h1 _ (by omega) (by omega), h1 _ (by omega) (by omega), o1 108 _ _ (by decide) (by decide), o1 109 _ _ (by decide) (by decide), o1 110 _ _ (by decide) (by decide), o1 111 _ _ (by decide) (by decide)]
    exact h9
  · rw [up_j (by decide), up_on]; rfl
  · rw [up_on]; rfl
theorem c_nightLoop (hd : 4 ≤ d) (hτ : tOk τ) : ∀ (k i : Nat) (ρ : Rw) (B : Int) (M : AmM), B + k ≤ 1000000 → i + k ≤ 100 → sOk1 τ B ρ → cTx 0 τ M → cSc τ 0 ρ M → ∃ M', e_X11_night_22 d ((i + k : Nat) : Int) (i : Int) M = some (vI ((ntN τ k ρ) 83), amUp (amUp M' 3 0 4 (-1)) 0 0 3 (-1)) ∧ cSc τ 0 (ntN τ k ρ) M' ∧ amSame (fSc 0) M M'
  | 0, i, ρ, B, M, hB, hi, hN, hT, hS => by
    refine ⟨M, ?_, hS, amSame.refl⟩
    rw [q_X11_night_22, if_neg (by omega), c_drop (by omega), amCV_s, up_c (by decide), up_c (by decide), hS.2.2.2]
    rfl
  | k + 1, i, ρ, B, M, hB, hi, hN, hT, hS => by
    obtain ⟨M1, m1, m2, m3⟩ := c_passNight (D := d) (by omega) hτ (by omega) hN hT hS
    have hT1 : cTx 0 τ M1 := hT.mv fun c s j hc => m3 _ _ _ (by
      unfold sTx at hc
      simp only [Bool.and_eq_true, Bool.or_eq_true, beq_iff_eq] at hc
      obtain ⟨rfl, hc⟩ := hc
      rcases hc with (((((rfl | rfl) | rfl) | rfl) | rfl) | rfl) | rfl <;> rfl)
    obtain ⟨M2, k1, k2, k3⟩ := c_nightLoop hd hτ k (i + 1) (ntS τ ρ) (B + 1) M1 (by omega) (by omega) (ntS_ok hτ hN) hT1 m2
    refine ⟨M2, ?_, k2, m3.trans k3⟩
    have e1 : ((i + (k + 1) : Nat) : Int) = ((i + 1 + k : Nat) : Int) := by omega
    rw [q_X11_night_22, if_pos (by omega), m1, amCV_s, w32_n (n := i + 1) (by omega) (by omega), e1]
    exact k1
end CN
