/-! PURE: the class's stairs and walking -/
def sTx (t : Nat) : Nat → Nat → Nat → Bool := fun c s _ => s == t && (c == 8 || c == 118 || c == 119 || c == 120 || c == 121 || c == 100 || c == 101)
def cTx (t : Nat) (τ : Tx) (M : AmM) : Prop :=
  M 8 t 5 = tN τ ∧ M 8 t 6 = tR τ ∧ M 8 t 7 = tB τ ∧ M 8 t 8 = tG τ ∧ M 8 t 9 = tP τ ∧
  (∀ j, 1 ≤ j → j ≤ tN τ → M 118 t j = tTh τ j) ∧ (∀ j, j < tR τ → M 119 t j = tRn τ j) ∧ (∀ p, p < tP τ → M 120 t p = tW τ p ∧ M 121 t p = tV τ p) ∧
  ∀ v, v < 4 → match tL τ v with
    | none => M 101 t v = -1
    | some l => ∃ i : Nat, M 101 t v = i ∧ i + lwLen l.1 l.2 ≤ 401 ∧ cLw (M 100 t) i l.1 l.2
theorem cTx.mv {t : Nat} {τ : Tx} {M M' : AmM} (h : cTx t τ M) (hs : ∀ c s j, sTx t c s j = true → M' c s j = M c s j) : cTx t τ M' := by
  obtain ⟨h1, h2, h3, h4, h5, h6, h7, h8, h9⟩ := h
  have e8 : ∀ j, M' 8 t j = M 8 t j := fun j => hs 8 t j (by simp [sTx])
  have e118 : ∀ j, M' 118 t j = M 118 t j := fun j => hs 118 t j (by simp [sTx])
  have e119 : ∀ j, M' 119 t j = M 119 t j := fun j => hs 119 t j (by simp [sTx])
  have e120 : ∀ j, M' 120 t j = M 120 t j := fun j => hs 120 t j (by simp [sTx])
  have e121 : ∀ j, M' 121 t j = M 121 t j := fun j => hs 121 t j (by simp [sTx])
  have e101 : ∀ j, M' 101 t j = M 101 t j := fun j => hs 101 t j (by simp [sTx])
  have e100 : M' 100 t = M 100 t := funext fun j => hs 100 t j (by simp [sTx])
  refine ⟨by rw [e8]; exact h1, by rw [e8]; exact h2, by rw [e8]; exact h3, by rw [e8]; exact h4, by rw [e8]; exact h5, fun j a b => by rw [e118]; exact h6 j a b, fun j a => by rw [e119]; exact h7 j a, fun p a => by rw [e120, e121]; exact h8 p a, fun v hv => ?_⟩
  have := h9 v hv
  rw [e101, e100]
  exact this
/-- stairs: the steps of a row -/
def cSt (n r : Nat) (ρ : Rw) (M : AmM) : Prop := M 6 r 2 = n ∧ M 6 r 3 = gonS n ρ ∧ ∀ j, 1 ≤ j → j ≤ n → M 112 r j = ρ j ∧ M 113 r j = ρ (25 + j)
/-- one who walks -/
def cWk (τ : Tx) (vow heavy day : Int) (M : AmM) : Prop := M 10 0 2 = heavy ∧ M 10 0 3 = vow ∧ M 125 0 0 = heavy ∧ M 125 0 3 = day ∧ M 125 0 4 = rainS τ day
/-- what walking over the stairs of row r changes -/
def fWk (r : Nat) : Nat → Nat → Nat → Bool := fun c s j => (c == 10 && (j == 5 || j == 6)) || (c == 125 && (j == 1 || j == 2 || j == 5 || j == 6)) || (c == 102 && s == 0) || (s == r && (c == 112 || c == 113 || (c == 6 && j == 3)))
/-- what asking for wear changes -/
def fWr : Nat → Nat → Nat → Bool := fun c s j => (c == 125 && (j == 1 || j == 2 || j == 5 || j == 6)) || (c == 102 && s == 0)
theorem fWr_fWk {r : Nat} : ∀ c s j, fWr c s j = true → fWk r c s j = true := fun c s j h => by
  unfold fWr at h
  unfold fWk
  simp only [Bool.or_eq_true] at h ⊢
  rcases h with h | h
  · exact Or.inl (Or.inl (Or.inr h))
  · exact Or.inl (Or.inr h)
theorem cTx.wk {t r : Nat} {τ : Tx} {M M' : AmM} (h : cTx t τ M) (hs : amSame (fWk r) M M') : cTx t τ M' := h.mv fun c s j hc => hs c s j (by
  unfold sTx at hc
  simp only [Bool.and_eq_true, Bool.or_eq_true, beq_iff_eq] at hc
  obtain ⟨rfl, hc⟩ := hc
  unfold fWk
  rcases hc with (((((rfl | rfl) | rfl) | rfl) | rfl) | rfl) | rfl <;> simp)
theorem cTx.wr {t : Nat} {τ : Tx} {M M' : AmM} (h : cTx t τ M) (hs : amSame fWr M M') : cTx t τ M' := h.wk (r := 0) (hs.mono fWr_fWk)
theorem cSt.wr {n r : Nat} {ρ : Rw} {M M' : AmM} (h : cSt n r ρ M) (hs : amSame fWr M M') : cSt n r ρ M' := by
  obtain ⟨h1, h2, h3⟩ := h
  refine ⟨by rw [hs _ _ _ (by simp [fWr])]; exact h1, by rw [hs _ _ _ (by simp [fWr])]; exact h2, fun j a b => by rw [hs _ _ _ (by simp [fWr]), hs _ _ _ (by simp [fWr])]; exact h3 j a b⟩
theorem cWk.wr {τ : Tx} {vow heavy day : Int} {M M' : AmM} (h : cWk τ vow heavy day M) (hs : amSame fWr M M') : cWk τ vow heavy day M' := by
  obtain ⟨h1, h2, h3, h4, h5⟩ := h
  refine ⟨by rw [hs _ _ _ (by simp [fWr])]; exact h1, by rw [hs _ _ _ (by simp [fWr])]; exact h2, by rw [hs _ _ _ (by simp [fWr])]; exact h3, by rw [hs _ _ _ (by simp [fWr])]; exact h4, by rw [hs _ _ _ (by simp [fWr])]; exact h5⟩
theorem cWk.wk {τ : Tx} {vow heavy day : Int} {r : Nat} {M M' : AmM} (h : cWk τ vow heavy day M) (hs : amSame (fWk r) M M') : cWk τ vow heavy day M' := by
  obtain ⟨h1, h2, h3, h4, h5⟩ := h
  refine ⟨by rw [hs _ _ _ (by simp [fWk])]; exact h1, by rw [hs _ _ _ (by simp [fWk])]; exact h2, by rw [hs _ _ _ (by simp [fWk])]; exact h3, by rw [hs _ _ _ (by simp [fWk])]; exact h4, by rw [hs _ _ _ (by simp [fWk])]; exact h5⟩
section CW
variable {D d n r : Nat} {τ : Tx} {ρ : Rw} {M : AmM} {vow heavy day : Int}
theorem c_thickAt (hD : 1 ≤ D) {j : Nat} (hj : j ≤ 25) : amD amGst D 57 [vR 6 6 r, vI j] M = some (vI (M 112 r j), M) := by
  obtain ⟨d, rfl⟩ := dS hD
  rw [n_X6_thickAt, q_X6_thickAt_0, if_neg (by omega), if_pos (by omega), if_pos ⟨by omega, by omega⟩]
  rfl
theorem c_top (hD : 1 ≤ D) (hn : n ≤ 24) (h : M 6 r 2 = n) : amD amGst D 54 [vR 6 6 r] M = some (vI ((n + 1 : Nat) : Int), M) := by
  obtain ⟨d, rfl⟩ := dS hD
  rw [n_X6_top, q_X6_top_0, h, w32_id (by omega) (by omega)]
  rfl
theorem c_isStepY (hD : 1 ≤ D) (h : M 6 r 2 = n) {j : Int} (hj : 1 ≤ j ∧ j ≤ n) : amD amGst D 55 [vR 6 6 r, vI j] M = some (vI 1, M) := by
  obtain ⟨d, rfl⟩ := dS hD
  rw [n_X6_isStep, q_X6_isStep_0, h, if_neg (by omega), if_neg (by omega)]
theorem c_isStepN (hD : 1 ≤ D) (h : M 6 r 2 = n) {j : Int} (hj : ¬ (1 ≤ j ∧ j ≤ n)) : amD amGst D 55 [vR 6 6 r, vI j] M = some (vI 0, M) := by
  obtain ⟨d, rfl⟩ := dS hD
  rw [n_X6_isStep, q_X6_isStep_0, h]
  by_cases h1 : j < 1
  · rw [if_pos h1]
  · rw [if_neg h1, if_pos (by omega)]
/-- is a place there -/
theorem c_isThereY (hD : 2 ≤ D) (hn : n ≤ 24) (h : cSt n r ρ M) {j : Nat} (hj : j ≤ n + 1) (hy : j = 0 ∨ j = n + 1 ∨ 0 < ρ j) : amD amGst D 56 [vR 6 6 r, vI j] M = some (vI 1, M) := by
  obtain ⟨d, rfl⟩ := dS hD
  rw [n_X6_isThere, q_X6_isThere_0, h.1, w32_id (by omega) (by omega)]
  by_cases h0 : j = 0
  · rw [if_pos (by omega)]
  · rw [if_neg (by omega)]
    by_cases h1 : j = n + 1
    · rw [if_pos (by omega)]
    · rw [if_neg (by omega), c_isStepY (n := n) (by omega) h.1 ⟨by omega, by omega⟩, amCI_s, if_neg (by decide), c_thickAt (by omega) (by omega), amCI_s, (h.2.2 j (by omega) (by omega)).1, if_pos (by omega)]
theorem c_isThereN (hD : 2 ≤ D) (hn : n ≤ 24) (h : cSt n r ρ M) {j : Nat} (hj : 1 ≤ j ∧ j ≤ n) (hy : ρ j ≤ 0) : amD amGst D 56 [vR 6 6 r, vI j] M = some (vI 0, M) := by
  obtain ⟨d, rfl⟩ := dS hD
  rw [n_X6_isThere, q_X6_isThere_0, h.1, w32_id (by omega) (by omega), if_neg (by omega), if_neg (by omega), c_isStepY (n := n) (by omega) h.1 ⟨by omega, by omega⟩, amCI_s, if_neg (by decide), c_thickAt (by omega) (by omega), amCI_s, (h.2.2 j (by omega) (by omega)).1, if_neg (by omega)]
theorem c_bear (hD : 2 ≤ D) {j : Nat} (hj : j ≤ 25) : amD amGst D 59 [vR 6 6 r, vI j] M = some (vU, amUp M 113 r j (w32 (M 113 r j + 1))) := by
  obtain ⟨d, rfl⟩ := dS hD
  rw [n_X6_bear, q_X6_bear_0, c_at (n := 26) (by omega) (by decide) (by decide) (by omega) (by omega), amCI_s, c_put (n := 26) (by omega) (by decide) (by decide) (by omega) (by omega), amCV_s]
  rfl
/-- a step is made so thick -/
theorem c_setThick (hD : 2 ≤ D) {j : Nat} {v : Int} (hj : j ≤ 25) (hg : -100000 ≤ M 6 r 3 ∧ M 6 r 3 ≤ 100000) : amD amGst D 60 [vR 6 6 r, vI j, vI v] M = some (vU, amUp (amUp M 6 r 3 (M 6 r 3 + (if 0 < M 112 r j then 1 else 0) - (if 0 < v then 1 else 0))) 112 r j v) := by
  obtain ⟨d, rfl⟩ := dS hD
  rw [n_X6_setThick, q_X6_setThick_0, c_thickAt (by omega) hj, amCI_s]
  have e1 : w32 (1 - 1) = 0 := by rw [w32_id (by omega) (by omega)]; rfl
  have e2 : w32 (1 - 0) = 1 := by rw [w32_id (by omega) (by omega)]; rfl
  have e3 : w32 (0 - 1) = -1 := by rw [w32_id (by omega) (by omega)]; rfl
  have e4 : w32 (0 - 0) = 0 := by rw [w32_id (by omega) (by omega)]; rfl
  rw [e1, e2, e3, e4]
  by_cases h1 : 0 < M 112 r j
  · rw [if_pos h1]
    by_cases h2 : 0 < v
    · rw [if_pos h2, c_put (n := 26) (by omega) (by decide) (by decide) (by omega) (by omega), amCV_s, w32_id (by omega) (by omega), if_pos h1, if_pos h2]
      simp
    · rw [if_neg h2, c_put (n := 26) (by omega) (by decide) (by decide) (by omega) (by omega), amCV_s, w32_id (by omega) (by omega), if_pos h1, if_neg h2]
      simp
  · rw [if_neg h1]
    by_cases h2 : 0 < v
    · rw [if_pos h2, c_put (n := 26) (by omega) (by decide) (by decide) (by omega) (by omega), amCV_s, w32_id (by omega) (by omega), if_neg h1, if_pos h2]
      simp; rfl
    · rw [if_neg h2, c_put (n := 26) (by omega) (by decide) (by decide) (by omega) (by omega), amCV_s, w32_id (by omega) (by omega), if_neg h1, if_neg h2]
      simp
/-- stairs behind a step made so thick -/
theorem cSt.set {j : Nat} {v : Int} (hn : n ≤ 24) (hj : 1 ≤ j ∧ j ≤ n) (h : cSt n r ρ M) (hρ : 0 ≤ ρ j) (hv : 0 ≤ v) : cSt n r (rUp ρ j v) (amUp (amUp M 6 r 3 (M 6 r 3 + (if 0 < M 112 r j then 1 else 0) - (if 0 < v then 1 else 0))) 112 r j v) := by
  obtain ⟨h1, h2, h3⟩ := h
  refine ⟨by rw [up_c (by decide), up_j (by decide)]; exact h1, ?_, fun i hi1 hi2 => ?_⟩
  · rw [up_c (by decide), up_on, h2, (h3 j hj.1 hj.2).1, gonS_up n ρ j v hj.1 hj.2]
    have e1 : (if 0 < ρ j then (1 : Int) else 0) = 1 - (if ρ j = 0 then 1 else 0) := by split <;> split <;> omega
    have e2 : (if 0 < v then (1 : Int) else 0) = 1 - (if v = 0 then 1 else 0) := by split <;> split <;> omega
    rw [e1, e2]; omega
  · rw [up_at, up_c (by decide), up_c (c' := 113) (by decide), up_c (c' := 113) (by decide), rUp_ne (i := 25 + i) (by omega)]
    refine ⟨?_, (h3 i hi1 hi2).2⟩
    by_cases hij : i = j
    · rw [if_pos hij, hij, rUp_on]
    · rw [if_neg hij, rUp_ne hij]; exact (h3 i hi1 hi2).1
theorem cSt.bear {j : Nat} {v : Int} (hn : n ≤ 24) (hj : 1 ≤ j ∧ j ≤ n) (h : cSt n r ρ M) : cSt n r (rUp ρ (25 + j) v) (amUp M 113 r j v) := by
  obtain ⟨h1, h2, h3⟩ := h
  refine ⟨by rw [up_c (by decide)]; exact h1, by rw [up_c (by decide), h2, gonS_eq n ρ _ (fun i a b => rUp_ne (by omega))], fun i hi1 hi2 => ?_⟩
  rw [up_c (by decide), up_at, rUp_ne (i := i) (by omega)]
  refine ⟨(h3 i hi1 hi2).1, ?_⟩
  by_cases hij : i = j
  · rw [if_pos hij, hij, rUp_on]
  · rw [if_neg hij, rUp_ne (by omega)]; exact (h3 i hi1 hi2).2
theorem cSt.up {c s j : Nat} {v : Int} (h : cSt n r ρ M) (hc : c ≠ 112 ∧ c ≠ 113 ∧ c ≠ 6) : cSt n r ρ (amUp M c s j v) := by
  obtain ⟨h1, h2, h3⟩ := h
  refine ⟨by rw [up_c (Ne.symm hc.2.2)]; exact h1, by rw [up_c (Ne.symm hc.2.2)]; exact h2, fun i a b => by rw [up_c (Ne.symm hc.1), up_c (Ne.symm hc.2.1)]; exact h3 i a b⟩
/-- the rain of a day -/
theorem c_rainOf (hD : 2 ≤ D) (hτ : tOk τ) {t : Nat} (h : cTx t τ M) {day : Int} (hd : 0 ≤ day) : amD amGst D 84 [vR 8 8 t, vI day] M = some (vI (rainS τ day), M) := by
  obtain ⟨d, rfl⟩ := dS hD
  obtain ⟨h1, h2, h3, h4, h5, h6, h7, h8, h9⟩ := h
  have hR := hτ.2.2.1
  rw [n_X8_rainOf, q_X8_rainOf_0, h2]
  unfold rainS
  by_cases h0 : tR τ = 0
  · rw [if_neg (by omega), if_pos h0]
  · have e1 : Int.tmod day (tR τ : Int) = day % (tR τ : Int) := Int.tmod_eq_emod_of_nonneg hd
    have e2 := Int.emod_nonneg day (show (tR τ : Int) ≠ 0 by omega)
    have e3 := Int.emod_lt_of_pos day (show (0 : Int) < (tR τ : Int) by omega)
    rw [if_pos (by omega), if_neg (by omega), if_neg h0, c_at (n := 14) (by omega) (by decide) (by decide) (by omega) (by omega), amCI_s, h7 _ (by omega)]
/-- what a law looks at, put into its row -/
theorem c_look {d j : Nat} {i v : Int} {M : AmM} (hd : 1 ≤ d) (hj : j < 7) (hi : i = (j : Int)) : amD amGst d 143 [vR 20 125 0, vI i, vI v] M = some (vU, amUp M 125 0 j v) := by
  subst hi
  rw [c_put (n := 7) hd (by decide) (by decide) (by omega) (by omega), Int.toNat_natCast]
/-- the wear of a step, as the law of the vow has it -/
theorem c_wearOn (hD : 2 ≤ D) (hτ : tOk τ) (hT : cTx 0 τ M) (hW : cWk τ vow heavy day M) (hv : 0 ≤ vow ∧ vow ≤ 3) {s t gone up : Int} (hup : up = 0 ∨ up = 1) :
    ∃ M', amD amGst D 106 [vR 10 10 0, vI s, vI t, vI gone, vI up] M = some (vI (wearS τ vow heavy s t day up gone), M') ∧ amSame fWr M M' := by
  obtain ⟨d, rfl⟩ := dS hD
  obtain ⟨w1, w2, w3, w4, w5⟩ := hW
  have hL := hT.2.2.2.2.2.2.2.2 vow.toNat (by omega)
  have htells : ∀ z : Int, M 101 0 vow.toNat = z → amD amGst d 16 [vR 1 1 0, vI vow] M = some (vI (if z < 0 then 0 else 1), M) := by
    intro z hz
    obtain ⟨d, rfl⟩ := dS (show 0 + 1 ≤ d by omega)
    rw [n_X1_tells, q_X1_tells_0, if_neg (by omega), if_pos (by omega), if_pos ⟨by omega, by omega⟩, hz]
    split <;> rfl
  rw [n_X10_wearOn, q_X10_wearOn_0, w2]
  unfold wearS
  cases hl : tL τ vow.toNat with
  | none =>
    rw [hl] at hL
    rw [htells _ hL, amCI_s, if_pos (by decide), w1]
    exact ⟨M, rfl, amSame.refl⟩
  | some l =>
    rw [hl] at hL
    obtain ⟨i, i1, i2, i3⟩ := hL
    rw [htells _ i1, if_neg (by omega), amCI_s, if_neg (by decide), c_look (j := 1) (i := 1) (by omega) (by decide) rfl, amCV_s, c_look (j := 2) (i := 2) (by omega) (by decide) rfl, amCV_s]
    have key : ∀ u : Int, u = up → ∃ M', (amCI (amD amGst d 17 [vR 1 1 0, vI ((amUp (amUp (amUp (amUp M 125 0 1 t) 125 0 2 s) 125 0 5 u) 125 0 6 gone) 10 0 3), vR 20 125 0] (amUp (amUp (amUp (amUp M 125 0 1 t) 125 0 2 s) 125 0 5 u) 125 0 6 gone)) fun v2 M2 => some (vI (amMax 0 (amMin 99 v2)), M2)) = some (vI (clampS (lwVal (lookS heavy t s day (rainS τ day) up gone) l.1 l.2)), M') ∧ amSame fWr M M' := by
      intro u hu
      obtain ⟨d, rfl⟩ := dS (show 0 + 1 ≤ d by omega)
      have e3 : (amUp (amUp (amUp (amUp M 125 0 1 t) 125 0 2 s) 125 0 5 u) 125 0 6 gone) 10 0 3 = vow := by
        rw [up_c (by decide), up_c (by decide), up_c (by decide), up_c (by decide)]; exact w2
      rw [e3]
      generalize hM1 : amUp (amUp (amUp (amUp M 125 0 1 t) 125 0 2 s) 125 0 5 u) 125 0 6 gone = M1
      have hoff : ∀ c s j, c ≠ 125 → M1 c s j = M c s j := fun c s j hc => by
        rw [← hM1, up_c hc, up_c hc, up_c hc, up_c hc]
      have hlk : ∀ j, j < 7 → M1 125 0 j = lookS heavy t s day (rainS τ day) up gone j := fun j hj => by
        rw [← hM1, up_at, up_at, up_at, up_at]
        match j, hj with
        | 0, _ => exact w3
        | 1, _ => rfl
        | 2, _ => rfl
        | 3, _ => exact w4
        | 4, _ => exact w5
        | 5, _ => exact hu
        | 6, _ => rfl
        | k + 7, hj => omega
      have hs1 : amSame fWr M M1 := by
        rw [← hM1]
        exact (((amSame.refl.up (by simp [fWr])).up (by simp [fWr])).up (by simp [fWr])).up (by simp [fWr])
      have hlw : lwOk l := hτ.2.2.2.2.2.2.2.2 vow.toNat (by omega) l hl
      obtain ⟨M', m1, m2⟩ := c_law (d := d) (t := 0) (l1 := vow) (l5 := (i : Int)) (C := M 100 0) (lk := lookS heavy t s day (rainS τ day) up gone) l.1 l.2 i 0 vU vU vU M1 (fun j _ => hoff 100 0 j (by decide)) hlk i3 i2 hlw
      refine ⟨M', ?_, hs1.trans (m1.mono fun c s j hc => ?_)⟩
      · rw [n_X1_worth, q_X1_worth_0, if_neg (by omega), if_pos (by omega), if_pos ⟨by omega, by omega⟩, hoff 101 0 _ (by decide), i1, m2, amCI_s]
        cases lwVal (lookS heavy t s day (rainS τ day) up gone) l.1 l.2 with
        | none => rfl
        | some w =>
          show some (vI (amMax 0 (amMin 99 w)), M') = some (vI (if w < 0 then 0 else if 99 < w then 99 else w), M')
          have : amMax 0 (amMin 99 w) = (if w < 0 then 0 else if 99 < w then 99 else w) := by
            unfold amMax amMin
            split <;> split <;> (try split) <;> omega
          rw [this]
      · unfold fKe at hc
        unfold fWr
        simp only [Bool.and_eq_true, beq_iff_eq] at hc
        obtain ⟨rfl, rfl⟩ := hc
        simp
    rcases hup with rfl | rfl
    · rw [if_pos (by decide), c_look (j := 5) (i := 5) (by omega) (by decide) rfl, amCV_s, c_look (j := 6) (i := 6) (by omega) (by decide) rfl, amCV_s]
      exact key 0 rfl
    · rw [if_neg (by decide), c_look (j := 5) (i := 5) (by omega) (by decide) rfl, amCV_s, c_look (j := 6) (i := 6) (by omega) (by decide) rfl, amCV_s]
      exact key 1 rfl
end CW
