/-! PURE: the class's hold, restore, and what it answers of a row -/
def sumS (f : Nat → Int) : Nat → Int
  | 0 => 0
  | n + 1 => sumS f n + f n
theorem sumS_b {f : Nat → Int} {b : Int} (hb : 0 ≤ b) : ∀ n : Nat, (∀ i, i < n → 0 ≤ f i ∧ f i ≤ b) → 0 ≤ sumS f n ∧ sumS f n ≤ b * (n : Int)
  | 0, _ => by unfold sumS; omega
  | n + 1, h => by
    have h1 := sumS_b hb n (fun i hi => h i (by omega))
    have h2 := h n (by omega)
    have e : b * ((n + 1 : Nat) : Int) = b * (n : Int) + b := by
      rw [show ((n + 1 : Nat) : Int) = (n : Int) + 1 by omega, Int.mul_add, Int.mul_one]
    unfold sumS
    rw [e]; omega
theorem sumS_eq {f g : Nat → Int} : ∀ n : Nat, (∀ i, i < n → f i = g i) → sumS f n = sumS g n
  | 0, _ => rfl
  | n + 1, h => by unfold sumS; rw [sumS_eq n (fun i hi => h i (by omega)), h n (by omega)]
def onS (ρ : Rw) (s : Int) : Nat → Int := fun p => if ρ (50 + p) = s then 1 else 0
def stepS (τ : Tx) (ρ : Rw) (s w : Int) : Int := if 1 ≤ s ∧ s ≤ tN τ then (if w = 0 then ρ s.toNat else if w = 1 then tTh τ s.toNat else if w = 2 then ρ (25 + s.toNat) else if w = 3 then sumS (onS ρ s) (tP τ) else -1) else -1
def pilS (τ : Tx) (ρ : Rw) (p w : Int) : Int := if 0 ≤ p ∧ p < tP τ then (if w = 0 then ρ (50 + p.toNat) else if w = 1 then tW τ p.toNat else if w = 2 then tV τ p.toNat else if w = 3 then ρ (58 + p.toNat) else if w = 4 then ρ (66 + p.toNat) else if w = 5 then ρ (74 + p.toNat) else -1) else -1
/-- the greatest and the least of what was led -/
def mxS (f : Nat → Int) : Nat → Int
  | 0 => f 0
  | n + 1 => if mxS f n < f (n + 1) then f (n + 1) else mxS f n
def mnS (f : Nat → Int) : Nat → Int
  | 0 => f 0
  | n + 1 => if f (n + 1) < mnS f n then f (n + 1) else mnS f n
def fairS (τ : Tx) (ρ : Rw) : Int := if tP τ = 0 then -2 else w32 (mxS (fun p => ρ (58 + p)) (tP τ - 1) - mnS (fun p => ρ (58 + p)) (tP τ - 1))
def wrS (τ : Tx) (ρ : Rw) (p s up : Int) : Int := if (0 ≤ p ∧ p < tP τ) ∧ 1 ≤ s ∧ s ≤ tN τ then wearS τ (tV τ p.toNat) (tW τ p.toNat) s (ρ s.toNat) (ρ 83) up (gonS (tN τ) ρ) else -1
def wouldS (τ : Tx) (ρ : Rw) (p w : Int) : Int := if (0 ≤ p ∧ p < tP τ) ∧ 0 ≤ w ∧ w ≤ 2 then (if ρ (50 + p.toNat) = 0 then (if w = 0 then (goR τ ρ p.toNat).1 else if w = 1 then (goR τ ρ p.toNat).2.1 else (goR τ ρ p.toNat).2.2.2.1) else (if w = 0 then 3 else if w = 1 then ρ (50 + p.toNat) else 0)) else -1
def heldS (H : Nat → Option Rw) : Nat → Int := fun s => match H s with
  | none => 0
  | some _ => 1
section CA
variable {D d : Nat} {τ : Tx} {ρ : Rw} {P : List Rw} {M M' : AmM} {N : Nat} {H : Nat → Option Rw}
theorem c_holdN (hD : 1 ≤ D) {s : Int} (hs : ¬ (0 ≤ s ∧ s < 3)) : amD amGst D 133 [vR 11 11 0, vI s] M = some (vI 0, M) := by
  obtain ⟨d, rfl⟩ := dS hD
  rw [n_X11_hold, q_X11_hold_0]
  by_cases h : s < 0
  · rw [if_pos h]
  · rw [if_neg h, if_neg (by omega)]
def fHo (s : Nat) : Nat → Nat → Nat → Bool := fun c r j => fSc (41 + s) c r j || (c == 128)
theorem c_hold (hD : 4 ≤ D) (hτ : tOk τ) (hS : cSc τ 0 ρ M) (hH : cHe τ H M) {s : Nat} (hs : s < 3) : ∃ M', amD amGst D 133 [vR 11 11 0, vI s] M = some (vI 1, M') ∧ amSame (fHo s) M M' ∧ cHe τ (fun i => if i = s then some ρ else H i) M' := by
  obtain ⟨d, rfl⟩ := dS hD
  have e : ((s : Nat) : Int).toNat = s := rfl
  obtain ⟨M1, m1, m2, m3⟩ := c_scCopy (D := d) (r := s + 41) (by omega) hτ hS (by omega)
  rw [n_X11_hold, q_X11_hold_0, e, if_neg (show ¬ ((s : Nat) : Int) < 0 by omega), if_pos (show ((s : Nat) : Int) < 3 by omega), if_pos (show ((s : Nat) : Int) < 3 by omega), if_pos (show (0 : Int) ≤ ((s : Nat) : Int) ∧ ((s : Nat) : Int) < 3 by omega), if_pos (show (0 : Int) ≤ ((s : Nat) : Int) ∧ ((s : Nat) : Int) < 3 by omega), m1, amCV_s, if_pos (show (0 : Int) ≤ ((s : Nat) : Int) ∧ ((s : Nat) : Int) < 3 by omega)]
  have e41 : s + 41 = 41 + s := by omega
  rw [e41] at m2 m3
  refine ⟨_, rfl, (m3.mono fun c r j h => by unfold fHo; rw [h]; rfl).up (by simp [fHo]), fun i hi => ?_⟩
  by_cases his : i = s
  · subst his
    dsimp only
    rw [if_pos rfl]
    refine ⟨up_on, m2.mv2 fun c j hc => up_c (by rintro rfl; cases hc)⟩
  · dsimp only
    rw [if_neg his]
    have h1 := hH i hi
    have e128 : M1 128 0 i = M 128 0 i := m3 _ _ _ (by simp [fSc])
    cases hHi : H i with
    | none =>
      rw [hHi] at h1
      show (amUp M1 128 0 s 1) 128 0 i = 0
      rw [up_j his, e128]; exact h1
    | some ρ' =>
      rw [hHi] at h1
      refine ⟨by rw [up_j his, e128]; exact h1.1, h1.2.mv2 fun c j hc => ?_⟩
      have hc128 : c ≠ 128 := by rintro rfl; cases hc
      rw [up_c hc128]
      exact m3 _ _ _ (scC_sc hc (by omega))
theorem c_restoreN (hD : 1 ≤ D) (hH : cHe τ H M) {s : Int} (hs : ¬ (0 ≤ s ∧ s < 3 ∧ (H s.toNat).isSome = true)) : amD amGst D 134 [vR 11 11 0, vI s] M = some (vI 0, M) := by
  obtain ⟨d, rfl⟩ := dS hD
  rw [n_X11_restore, q_X11_restore_0]
  by_cases h : s < 0
  · rw [if_pos h]
  · rw [if_neg h]
    by_cases h3 : s < 3
    · have h1 := hH s.toNat (by omega)
      cases hs2 : H s.toNat with
      | none =>
        rw [hs2] at h1
        have h1 : M 128 0 s.toNat = 0 := h1
        rw [if_pos h3, if_pos ⟨by omega, h3⟩, if_pos h1]
      | some ρ' => exact absurd ⟨by omega, h3, by rw [hs2]; rfl⟩ hs
    · rw [if_neg h3]
theorem c_restore (hD : 5 ≤ D) (hτ : tOk τ) (hH : cHe τ H M) {s : Nat} (hs : s < 3) (hρ : H s = some ρ) (hP : cPa τ P M) :
    ∃ M', amD amGst D 134 [vR 11 11 0, vI s] M = some (vI 1, M') ∧ amSame fGo M M' ∧ cSc τ 0 ρ M' ∧ cPa τ [] M' ∧ cDr M' := by
  obtain ⟨d, rfl⟩ := dS hD
  obtain ⟨d, rfl⟩ := dS (show 3 + 1 ≤ d by omega)
  have e : ((s : Nat) : Int).toNat = s := rfl
  have h1 := hH s hs
  rw [hρ] at h1
  obtain ⟨h1, h2⟩ := h1
  rw [n_X11_restore, q_X11_restore_0, e, if_neg (show ¬ ((s : Nat) : Int) < 0 by omega), if_pos (show ((s : Nat) : Int) < 3 by omega), if_pos (show (0 : Int) ≤ ((s : Nat) : Int) ∧ ((s : Nat) : Int) < 3 by omega), if_neg (show ¬ M 128 0 s = 0 by rw [h1]; decide), n_X11_goOnFroms, q_X11_goOnFroms_0, e, if_neg (show ¬ ((s : Nat) : Int) < 0 by omega), if_pos (show ((s : Nat) : Int) < 3 by omega), if_pos (show (0 : Int) ≤ ((s : Nat) : Int) ∧ ((s : Nat) : Int) < 3 by omega), if_pos (show (0 : Int) ≤ ((s : Nat) : Int) ∧ ((s : Nat) : Int) < 3 by omega)]
  have h3 : cSc τ (s + 41) ρ (amUp M 11 0 13 0) := by
    rw [show s + 41 = 41 + s by omega]
    exact h2.mv2 fun c j hc => up_c (by rintro rfl; cases hc)
  obtain ⟨M2, m1, m2, m3⟩ := c_scCopy (D := d) (r := 0) (by omega) hτ h3 (by omega)
  have s1 : amSame fGo M (amUp M 11 0 13 0) := amSame.refl.up (by rfl)
  have hP1 : cPa τ [] (amUp M 11 0 13 0) := by
    obtain ⟨a1, a2, ee, a3, a4, a5⟩ := hP
    exact ⟨by decide, up_on, ee, a3, by rw [up_j (by decide)]; exact a4, fun i ρ' hi => by cases hi⟩
  rw [m1, amCV_s, c_drop (by omega), amCV_s, amCI_s]
  exact ⟨_, rfl, ((s1.trans (m3.mono fSc_fGo)).up (by rfl)).up (by rfl), m2.dr, (hP1.now m3).dr, cDr_of⟩
theorem c_standLoop (hd : 1 ≤ d) (hτ : tOk τ) (hT : cTx 0 τ M) (hS : cSc τ 0 ρ M) {s : Int} : ∀ (k i : Nat), i + k = tP τ → e_X5_standingOn_4 d 0 s (sumS (onS ρ s) i) (i : Int) M = some (vI (sumS (onS ρ s) (tP τ)), M)
  | 0, i, h => by
    have h : i = tP τ := h
    subst h
    rw [q_X5_standingOn_4, hT.2.2.2.2.1, if_neg (by omega)]
  | k + 1, i, h => by
    have hP := hτ.2.2.2.2.2.2.1
    have hb := sumS_b (f := onS ρ s) (b := 1) (by omega) i (fun j _ => by unfold onS; split <;> omega)
    have e : ((i : Nat) : Int).toNat = i := rfl
    have ih := c_standLoop hd hτ hT hS (s := s) k (i + 1) (by omega)
    have e1 : sumS (onS ρ s) (i + 1) = sumS (onS ρ s) i + onS ρ s i := rfl
    rw [e1] at ih
    rw [q_X5_standingOn_4, hT.2.2.2.2.1, if_pos (by omega), c_at (n := 8) (by omega) (by decide) (by decide) (by omega) (by omega), amCI_s, e, (hS.2.1 i (by omega)).1, w32_n (x := (i : Int) + 1) (n := i + 1) (by omega) (by omega)]
    unfold onS at ih ⊢
    by_cases h1 : ρ (50 + i) = s
    · rw [if_pos h1] at ih
      unfold onS at hb
      rw [if_pos h1, w32_id (by omega) (by omega)]
      exact ih
    · rw [if_neg h1] at ih
      unfold onS at hb
      rw [if_neg h1, w32_id (by omega) (by omega)]
      exact ih
theorem c_stuckLoop (hd : 1 ≤ d) (hτ : tOk τ) (hN : sOk τ N ρ) (hT : cTx 0 τ M) (hS : cSc τ 0 ρ M) : ∀ (k i : Nat), i + k = tP τ → e_X5_stuckOnes_4 d 0 (sumS (fun p => ρ (74 + p)) i) (i : Int) M = some (vI (sumS (fun p => ρ (74 + p)) (tP τ)), M)
  | 0, i, h => by
    have h : i = tP τ := h
    subst h
    rw [q_X5_stuckOnes_4, hT.2.2.2.2.1, if_neg (by omega)]
  | k + 1, i, h => by
    have hP := hτ.2.2.2.2.2.2.1
    have hf : ∀ j, j < tP τ → 0 ≤ ρ (74 + j) ∧ ρ (74 + j) ≤ 1 := fun j hj => by
      rcases (hN.2.1 j hj).2.1 with h | h <;> omega
    have hb := sumS_b (f := fun p => ρ (74 + p)) (b := 1) (by omega) i (fun j hj => hf j (by omega))
    have hi := hf i (by omega)
    have e : ((i : Nat) : Int).toNat = i := rfl
    have ih := c_stuckLoop hd hτ hN hT hS k (i + 1) (by omega)
    have e1 : sumS (fun p => ρ (74 + p)) (i + 1) = sumS (fun p => ρ (74 + p)) i + ρ (74 + i) := rfl
    rw [e1] at ih
    rw [q_X5_stuckOnes_4, hT.2.2.2.2.1, if_pos (by omega), c_at (n := 8) (by omega) (by decide) (by decide) (by omega) (by omega), amCI_s, e, (hS.2.1 i (by omega)).2.2.2, w32_n (x := (i : Int) + 1) (n := i + 1) (by omega) (by omega), w32_id (by omega) (by omega)]
    exact ih
theorem c_allLoop (hd : 1 ≤ d) (hτ : tOk τ) (hN : sOk τ N ρ) (hS : cSc τ 0 ρ M) : ∀ (k i : Nat), i + k = tN τ → e_X6_allThick_4 d 0 (sumS (fun j => ρ (j + 1)) i) ((i + 1 : Nat) : Int) M = some (vI (sumS (fun j => ρ (j + 1)) (tN τ)), M)
  | 0, i, h => by
    have h : i = tN τ := h
    subst h
    rw [q_X6_allThick_4, hS.1.1, if_pos (by omega)]
  | k + 1, i, h => by
    have hn := hτ.1
    have hf : ∀ j, j < tN τ → 0 ≤ ρ (j + 1) ∧ ρ (j + 1) ≤ 99 := fun j hj => by
      have h1 := hN.1 (j + 1) (by omega) (by omega)
      have h2 := hτ.2.1 (j + 1) (by omega) (by omega)
      omega
    have hb := sumS_b (f := fun j => ρ (j + 1)) (b := 99) (by omega) i (fun j hj => hf j (by omega))
    have hi := hf i (by omega)
    have ih := c_allLoop hd hτ hN hS k (i + 1) (by omega)
    have e1 : sumS (fun j => ρ (j + 1)) (i + 1) = sumS (fun j => ρ (j + 1)) i + ρ (i + 1) := rfl
    rw [e1] at ih
    rw [q_X6_allThick_4, hS.1.1, if_neg (by omega), c_thickAt (by omega) (by omega), amCI_s, (hS.1.2.2 (i + 1) (by omega) (by omega)).1, w32_n (x := ((i + 1 : Nat) : Int) + 1) (n := i + 1 + 1) (by omega) (by omega), w32_id (by omega) (by omega)]
    exact ih
theorem c_step (hD : 3 ≤ D) (hτ : tOk τ) (hT : cTx 0 τ M) (hS : cSc τ 0 ρ M) {s w : Int} : amD amGst D 111 [vR 11 11 0, vI s, vI w] M = some (vI (stepS τ ρ s w), M) := by
  obtain ⟨d, rfl⟩ := dS hD
  have hn := hτ.1
  rw [n_X11_step, q_X11_step_0]
  unfold stepS
  by_cases h1 : 1 ≤ s ∧ s ≤ tN τ
  · have es : s = ((s.toNat : Nat) : Int) := by omega
    have hs := hS.1.2.2 s.toNat (by omega) (by omega)
    rw [c_isStepY (n := tN τ) (by omega) hS.1.1 h1, amCI_s, if_neg (by decide), if_pos h1]
    by_cases w0 : w = 0
    · have := c_thickAt (D := d) (r := 0) (M := M) (by omega) (j := s.toNat) (by omega)
      rw [← es] at this
      rw [if_pos w0, if_pos w0, this, amCI_s, hs.1]
    · rw [if_neg w0, if_neg w0]
      by_cases w1 : w = 1
      · rw [if_pos w1, if_pos w1, c_at (n := 26) (by omega) (by decide) (by decide) (by omega) (by omega), amCI_s, hT.2.2.2.2.2.1 _ (by omega) (by omega)]
      · rw [if_neg w1, if_neg w1]
        by_cases w2 : w = 2
        · obtain ⟨d, rfl⟩ := dS (show 0 + 1 ≤ d by omega)
          rw [if_pos w2, if_pos w2, n_X6_borneAt, q_X6_borneAt_0, c_at (n := 26) (by omega) (by decide) (by decide) (by omega) (by omega), amCI_s, amCI_s, hs.2]
        · rw [if_neg w2, if_neg w2]
          by_cases w3 : w = 3
          · obtain ⟨d, rfl⟩ := dS (show 0 + 1 ≤ d by omega)
            have := c_standLoop (d := d) (by omega) hτ hT hS (s := s) (tP τ) 0 (by omega)
            rw [if_pos w3, if_pos w3, n_X5_standingOn, q_X5_standingOn_0]
            refine (congrArg (fun o => amCI o _) this).trans ?_
            rw [amCI_s]
          · rw [if_neg w3, if_neg w3]
  · rw [c_isStepN (n := tN τ) (by omega) hS.1.1 h1, amCI_s, if_pos rfl, if_neg h1]
theorem c_pilgrim (hD : 2 ≤ D) (hτ : tOk τ) (hT : cTx 0 τ M) (hS : cSc τ 0 ρ M) {p w : Int} : amD amGst D 112 [vR 11 11 0, vI p, vI w] M = some (vI (pilS τ ρ p w), M) := by
  obtain ⟨d, rfl⟩ := dS hD
  have hP := hτ.2.2.2.2.2.2.1
  rw [n_X11_pilgrim, q_X11_pilgrim_0]
  unfold pilS
  by_cases h1 : 0 ≤ p ∧ p < tP τ
  · have hp := hS.2.1 p.toNat (by omega)
    have ht := hT.2.2.2.2.2.2.2.1 p.toNat (by omega)
    rw [c_hasY (by omega) hT h1, amCI_s, if_neg (by decide), if_pos h1]
    by_cases w0 : w = 0
    · rw [if_pos w0, if_pos w0, c_at (n := 8) (by omega) (by decide) (by decide) (by omega) (by omega), amCI_s, hp.1]
    · rw [if_neg w0, if_neg w0]
      by_cases w1 : w = 1
      · rw [if_pos w1, if_pos w1, c_at (n := 8) (by omega) (by decide) (by decide) (by omega) (by omega), amCI_s, ht.1]
      · rw [if_neg w1, if_neg w1]
        by_cases w2 : w = 2
        · rw [if_pos w2, if_pos w2, c_at (n := 8) (by omega) (by decide) (by decide) (by omega) (by omega), amCI_s, ht.2]
        · rw [if_neg w2, if_neg w2]
          by_cases w3 : w = 3
          · rw [if_pos w3, if_pos w3, c_at (n := 8) (by omega) (by decide) (by decide) (by omega) (by omega), amCI_s, hp.2.1]
          · rw [if_neg w3, if_neg w3]
            by_cases w4 : w = 4
            · rw [if_pos w4, if_pos w4, c_at (n := 8) (by omega) (by decide) (by decide) (by omega) (by omega), amCI_s, hp.2.2.1]
            · rw [if_neg w4, if_neg w4]
              by_cases w5 : w = 5
              · rw [if_pos w5, if_pos w5, c_at (n := 8) (by omega) (by decide) (by decide) (by omega) (by omega), amCI_s, hp.2.2.2]
              · rw [if_neg w5, if_neg w5]
  · rw [c_hasN (by omega) hT h1, amCI_s, if_pos rfl, if_neg h1]
end CA
