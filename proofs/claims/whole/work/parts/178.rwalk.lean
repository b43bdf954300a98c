/-! PURE: the reference's walking -/
def rTx (v : Nat) (τ : Tx) (M : AmM) : Prop := v ≤ 1 ∧ M 12 0 18 = v ∧ M 137 0 v = tN τ ∧ (∀ j, 1 ≤ j → j ≤ tN τ → M 138 0 (25 * v + j) = tTh τ j) ∧ M 139 0 v = tR τ ∧ (∀ j, j < tR τ → M 140 0 (14 * v + j) = tRn τ j) ∧ M 141 0 v = tB τ ∧ M 142 0 v = tG τ ∧ M 143 0 v = tP τ ∧ (∀ p, p < tP τ → M 144 0 (8 * v + p) = tW τ p ∧ M 145 0 (8 * v + p) = tV τ p) ∧
  ∀ w, w < 4 → match tL τ w with
    | none => M 147 0 (4 * v + w) = M 148 0 (4 * v + w)
    | some l => ∃ f : Nat, M 147 0 (4 * v + w) = f ∧ M 148 0 (4 * v + w) = (f + l.1.length + 1 : Nat) ∧ f + l.1.length + 1 ≤ 100 ∧ rLw M f l.1 l.2
/-- the places that a text lies in -/
def sRx : Nat → Nat → Bool := fun c j => c == 137 || c == 138 || c == 139 || c == 140 || c == 141 || c == 142 || c == 143 || c == 144 || c == 145 || c == 147 || c == 148 || sLw c || (c == 12 && j == 18)
theorem rTx.mv {v : Nat} {τ : Tx} {M M' : AmM} (h : rTx v τ M) (hs : ∀ c j, sRx c j = true → M' c 0 j = M c 0 j) : rTx v τ M' := by
  obtain ⟨h0, h1, h2, h3, h4, h5, h6, h7, h8, h9, h10⟩ := h
  refine ⟨h0, by rw [hs _ _ rfl]; exact h1, by rw [hs _ _ rfl]; exact h2, fun j a b => by rw [hs _ _ rfl]; exact h3 j a b, by rw [hs _ _ rfl]; exact h4, fun j a => by rw [hs _ _ rfl]; exact h5 j a, by rw [hs _ _ rfl]; exact h6, by rw [hs _ _ rfl]; exact h7, by rw [hs _ _ rfl]; exact h8, fun p a => by rw [hs _ _ rfl, hs _ _ rfl]; exact h9 p a, fun w hw => ?_⟩
  have h := h10 w hw
  rw [hs 147 _ rfl, hs 148 _ rfl]
  cases hl : tL τ w with
  | none => rw [hl] at h; exact h
  | some l =>
    rw [hl] at h
    obtain ⟨f, f1, f2, f3, f4⟩ := h
    exact ⟨f, f1, f2, f3, f4.mv fun c j hc => hs c j (by unfold sRx; rw [hc]; simp)⟩
/-- what walking changes in the reference -/
def fRo : Nat → Nat → Nat → Bool := fun c _ j => c == 157 || c == 158 || c == 160 || (c == 12 && (j == 47 || j == 50 || j == 51 || j == 52))
theorem sRx_fRo : ∀ c j, sRx c j = true → ∀ s, fRo c s j = false := by
  intro c j h s
  unfold sRx sLw at h
  unfold fRo
  simp only [Bool.or_eq_true, Bool.and_eq_true, beq_iff_eq] at h
  rcases h with (((((((((((rfl | rfl) | rfl) | rfl) | rfl) | rfl) | rfl) | rfl) | rfl) | rfl) | rfl) | h) | ⟨rfl, rfl⟩
  all_goals first | rfl | skip
  rcases h with (((((rfl | rfl) | rfl) | rfl) | rfl) | rfl) | rfl <;> rfl
theorem rTx.ro {v : Nat} {τ : Tx} {M M' : AmM} (h : rTx v τ M) (hs : amSame fRo M M') : rTx v τ M' := h.mv fun c j hc => hs c 0 j (sRx_fRo c j hc 0)
theorem fRw_fRo : ∀ c s j, fRw c s j = true → fRo c s j = true := fun c s j h => by
  unfold fRw at h
  unfold fRo
  simp only [Bool.or_eq_true, Bool.and_eq_true] at h ⊢
  rcases h with (h | h) | h
  · exact Or.inl (Or.inl (Or.inl h))
  · exact Or.inl (Or.inl (Or.inr h))
  · exact Or.inr ⟨h.1, Or.inl (Or.inl (Or.inl h.2))⟩
def rRow (ρ : Rw) (M : AmM) : Prop := ∀ j, j < 100 → M 160 0 j = ρ j
/-- the state of walking -/
def rX (x : Wk) (M : AmM) : Prop := rRow x.1 M ∧ M 12 0 50 = x.2.1 ∧ M 12 0 51 = x.2.2
theorem rX.rw {x : Wk} {M M' : AmM} (h : rX x M) (hs : amSame fRw M M') : rX x M' := ⟨fun j hj => by rw [hs _ _ _ (by rfl)]; exact h.1 j hj, by rw [hs _ _ _ (by rfl)]; exact h.2.1, by rw [hs _ _ _ (by rfl)]; exact h.2.2⟩
section RW
variable {D d v : Nat} {τ : Tx} {ρ : Rw} {M : AmM} {vow heavy day : Int}
theorem r_top (hD : 1 ≤ D) (hτ : tOk τ) (h : rTx v τ M) : amD amGst D 180 [vR 12 12 0] M = some (vI ((tN τ + 1 : Nat) : Int), M) := by
  obtain ⟨d, rfl⟩ := dS hD
  have hn := hτ.1
  have hv := h.1
  have e : ((v : Nat) : Int).toNat = v := rfl
  rw [n_X12_top, q_X12_top_0, h.2.1, e, h.2.2.1, if_pos ⟨by omega, by omega⟩, w32_id (by omega) (by omega)]
  rfl
theorem r_many (hD : 1 ≤ D) (h : rTx v τ M) : amD amGst D 181 [vR 12 12 0] M = some (vI (tP τ), M) := by
  obtain ⟨d, rfl⟩ := dS hD
  have hv := h.1
  have e : ((v : Nat) : Int).toNat = v := rfl
  rw [n_X12_many, q_X12_many_0, h.2.1, e, h.2.2.2.2.2.2.2.2.1, if_pos ⟨by omega, by omega⟩]
theorem r_8v (h : rTx v τ M) {p : Nat} (hp : p < 8) : w32 ((w32 (8 * (M 12 0 18))) + (p : Int)) = ((8 * v + p : Nat) : Int) := by
  have hv := h.1
  rw [h.2.1, w32_id (x := 8 * (v : Int)) (by omega) (by omega), w32_id (by omega) (by omega)]
  omega
theorem r_vowOf (hD : 1 ≤ D) (hτ : tOk τ) (h : rTx v τ M) {p : Nat} (hp : p < tP τ) : amD amGst D 184 [vR 12 12 0, vI p] M = some (vI (tV τ p), M) := by
  obtain ⟨d, rfl⟩ := dS hD
  have hv := h.1
  have h8 := hτ.2.2.2.2.2.2.1
  rw [n_X12_vowOf, q_X12_vowOf_0, r_8v h (by omega), if_pos ⟨by omega, by omega⟩]
  have e : (((8 * v + p : Nat) : Int)).toNat = 8 * v + p := rfl
  rw [e, (h.2.2.2.2.2.2.2.2.2.1 p hp).2]
theorem r_isThereY (hD : 2 ≤ D) (hτ : tOk τ) (h : rTx v τ M) (hR : rRow ρ M) {j : Nat} (hy : j = 0 ∨ tN τ + 1 ≤ j ∨ 0 < ρ j) (hj : j < 100) : amD amGst D 190 [vR 12 12 0, vI j] M = some (vI 1, M) := by
  obtain ⟨d, rfl⟩ := dS hD
  rw [n_X12_isThere, q_X12_isThere_0]
  by_cases h0 : j = 0
  · rw [if_neg (by omega)]
  · rw [if_pos (by omega), r_top (by omega) hτ h, amCI_s]
    by_cases h1 : tN τ + 1 ≤ j
    · rw [if_neg (by omega)]
    · have e : ((j : Nat) : Int).toNat = j := rfl
      rw [if_pos (by omega), if_pos ⟨by omega, by omega⟩, e, hR j hj, if_pos (by omega)]
theorem r_isThereN (hD : 2 ≤ D) (hτ : tOk τ) (h : rTx v τ M) (hR : rRow ρ M) {j : Nat} (hj : 1 ≤ j ∧ j ≤ tN τ) (hy : ρ j ≤ 0) : amD amGst D 190 [vR 12 12 0, vI j] M = some (vI 0, M) := by
  obtain ⟨d, rfl⟩ := dS hD
  have hn := hτ.1
  have e : ((j : Nat) : Int).toNat = j := rfl
  rw [n_X12_isThere, q_X12_isThere_0, if_pos (by omega), r_top (by omega) hτ h, amCI_s, if_pos (by omega), if_pos ⟨by omega, by omega⟩, e, hR j (by omega), if_neg (by omega)]
theorem r_nextUp (hD : 3 ≤ D) (hτ : tOk τ) (h : rTx v τ M) (hR : rRow ρ M) {a : Nat} (ha : a ≤ tN τ) {far : Int} (hf : far = 1 ∧ vow = 2 ∨ far = 0 ∧ vow ≠ 2) : amD amGst D 191 [vR 12 12 0, vI a, vI far] M = some (vI (nxU (tN τ) ρ vow a : Nat), M) := by
  obtain ⟨d, rfl⟩ := dS hD
  have hn := hτ.1
  have e1 : w32 ((a : Int) + 1) = ((a + 1 : Nat) : Int) := by rw [w32_id (by omega) (by omega)]; omega
  have e2 : w32 ((a : Int) + 2) = ((a + 2 : Nat) : Int) := by rw [w32_id (by omega) (by omega)]; omega
  rw [n_X12_nextUp, q_X12_nextUp_0, e2]
  unfold nxU
  rcases hf with ⟨rfl, hv⟩ | ⟨rfl, hv⟩
  · rw [if_neg (by decide), r_top (by omega) hτ h, amCI_s, if_pos hv]
    by_cases h1 : tN τ + 1 ≤ a + 2
    · rw [if_neg (by omega), r_top (by omega) hτ h, amCI_s, if_pos h1]
    · rw [if_pos (by omega), if_neg h1, q_X12_nextUp_19, if_neg (by decide), e2, e1]
      by_cases h2 : 0 < ρ (a + 2)
      · rw [r_isThereY (by omega) hτ h hR (Or.inr (Or.inr h2)) (by omega), amCI_s, if_neg (by decide), if_pos h2]
      · rw [r_isThereN (by omega) hτ h hR ⟨by omega, by omega⟩ (by omega), amCI_s, if_pos rfl, if_neg h2]
  · rw [if_pos rfl, q_X12_nextUp_19, if_pos rfl, e1, if_neg hv]
theorem r_nextDown (hD : 3 ≤ D) (hτ : tOk τ) (h : rTx v τ M) (hR : rRow ρ M) {a : Nat} (ha : 1 ≤ a ∧ a ≤ tN τ + 1) {far : Int} (hf : far = 1 ∧ vow = 2 ∨ far = 0 ∧ vow ≠ 2) : amD amGst D 192 [vR 12 12 0, vI a, vI far] M = some (vI (nxD ρ vow a : Nat), M) := by
  obtain ⟨d, rfl⟩ := dS hD
  have hn := hτ.1
  have e1 : w32 ((a : Int) - 1) = ((a - 1 : Nat) : Int) := by rw [w32_id (by omega) (by omega)]; omega
  rw [n_X12_nextDown, q_X12_nextDown_0]
  unfold nxD
  rcases hf with ⟨rfl, hv⟩ | ⟨rfl, hv⟩
  · rw [if_neg (by decide), if_pos hv]
    by_cases h1 : a ≤ 2
    · rw [if_neg (by omega), if_pos h1]; rfl
    · have e2 : w32 ((a : Int) - 2) = ((a - 2 : Nat) : Int) := by rw [w32_id (by omega) (by omega)]; omega
      rw [if_pos (by omega), if_neg h1, q_X12_nextDown_11, if_neg (by decide), e2, e1]
      by_cases h2 : 0 < ρ (a - 2)
      · rw [r_isThereY (by omega) hτ h hR (Or.inr (Or.inr h2)) (by omega), amCI_s, if_neg (by decide), if_pos h2]
      · rw [r_isThereN (by omega) hτ h hR ⟨by omega, by omega⟩ (by omega), amCI_s, if_pos rfl, if_neg h2]
  · rw [if_pos rfl, q_X12_nextDown_11, if_pos rfl, e1, if_neg hv]
theorem r_gone_loop (hτ : tOk τ) (h : rTx v τ M) (hR : rRow ρ M) : ∀ (k i : Nat), i + k = tN τ → e_X12_goneNow_4 d (gonS i ρ) ((i + 1 : Nat) : Int) M = some (vI (gonS (tN τ) ρ), M)
  | 0, i, hik => by
    have hn := hτ.1
    have hv := h.1
    have e : ((v : Nat) : Int).toNat = v := rfl
    rw [q_X12_goneNow_4, h.2.1, e, h.2.2.1, if_pos ⟨by omega, by omega⟩, if_pos (by omega), show i = tN τ by omega]
  | k + 1, i, hik => by
    have hn := hτ.1
    have hv := h.1
    have e : ((v : Nat) : Int).toNat = v := rfl
    have e2 : (((i + 1 : Nat) : Int)).toNat = i + 1 := rfl
    have hb := gonS_b i ρ
    have e3 : w32 (((i + 1 : Nat) : Int) + 1) = ((i + 1 + 1 : Nat) : Int) := by rw [w32_id (by omega) (by omega)]; omega
    have e4 : w32 (gonS i ρ + 1) = gonS i ρ + 1 := w32_id (by omega) (by omega)
    have ih := r_gone_loop hτ h hR k (i + 1) (by omega)
    have hu : gonS (i + 1) ρ = gonS i ρ + (if ρ (i + 1) = 0 then 1 else 0) := rfl
    rw [hu] at ih
    rw [q_X12_goneNow_4, h.2.1, e, h.2.2.1, if_pos ⟨by omega, by omega⟩, if_neg (by omega), if_pos ⟨by omega, by omega⟩, e2, hR (i + 1) (by omega), e3, e4]
    by_cases h0 : ρ (i + 1) = 0
    · rw [if_pos h0] at ih ⊢; exact ih
    · rw [if_neg h0] at ih ⊢
      rw [Int.add_zero] at ih
      exact ih
theorem r_goneNow (hD : 1 ≤ D) (hτ : tOk τ) (h : rTx v τ M) (hR : rRow ρ M) : amD amGst D 187 [vR 12 12 0] M = some (vI (gonS (tN τ) ρ), M) := by
  obtain ⟨d, rfl⟩ := dS hD
  rw [n_X12_goneNow, q_X12_goneNow_0]
  exact r_gone_loop (d := d) hτ h hR (tN τ) 0 (by omega)
/-- the wear of a step -/
theorem r_wearOf (hD : 2 ≤ D) (hτ : tOk τ) (h : rTx v τ M) (hday : M 160 0 83 = day) (hd : 0 ≤ day) (hvow : 0 ≤ vow ∧ vow ≤ 3) {s t gone up : Int} (hup : up = 0 ∨ up = 1) :
    ∃ M', amD amGst D 188 [vR 12 12 0, vI vow, vI heavy, vI s, vI t, vI up, vI gone] M = some (vI (wearS τ vow heavy s t day up gone), M') ∧ amSame fRw M M' := by
  obtain ⟨d, rfl⟩ := dS hD
  have hv := h.1
  have hR := hτ.2.2.1
  have e4 : ∀ M0 : AmM, M0 12 0 18 = v → w32 ((w32 (4 * (M0 12 0 18))) + vow) = ((4 * v + vow.toNat : Nat) : Int) := fun M0 h0 => by
    rw [h0, w32_id (x := 4 * (v : Int)) (by omega) (by omega), w32_id (by omega) (by omega)]; omega
  have et : (((4 * v + vow.toNat : Nat) : Int)).toNat = 4 * v + vow.toNat := rfl
  have hL := h.2.2.2.2.2.2.2.2.2.2 vow.toNat (by omega)
  rw [n_X12_wearOf, q_X12_wearOf_0, e4 M h.2.1, et, if_pos ⟨by omega, by omega⟩, if_pos ⟨by omega, by omega⟩]
  unfold wearS
  cases hl : tL τ vow.toNat with
  | none =>
    rw [hl] at hL
    rw [if_pos hL]
    exact ⟨M, rfl, amSame.refl⟩
  | some l =>
    rw [hl] at hL
    obtain ⟨f, f1, f2, f3, f4⟩ := hL
    rw [f1, f2, if_neg (by omega), if_pos ⟨by decide, by decide⟩, if_pos ⟨by decide, by decide⟩, if_pos ⟨by decide, by decide⟩, if_pos ⟨by decide, by decide⟩, if_pos ⟨by decide, by decide⟩]
    have e83 : (amUp (amUp (amUp M 157 0 0 heavy) 157 0 1 t) 157 0 2 s) 160 0 83 = day := by rw [up_c (by decide), up_c (by decide), up_c (by decide)]; exact hday
    rw [e83]
    generalize hM1 : amUp (amUp (amUp (amUp M 157 0 0 heavy) 157 0 1 t) 157 0 2 s) 157 0 3 day = M1
    have o1 : ∀ c j, c ≠ 157 → M1 c 0 j = M c 0 j := fun c j hc => by rw [← hM1, up_c hc, up_c hc, up_c hc, up_c hc]
    have s1 : amSame fRw M M1 := by
      rw [← hM1]
      exact (((amSame.refl.up (by rfl)).up (by rfl)).up (by rfl)).up (by rfl)
    have hlive : M1 12 0 18 = v := by rw [o1 _ _ (by decide)]; exact h.2.1
    have ev : ((v : Nat) : Int).toNat = v := rfl
    -- the rain of the day
    have h74 : ∃ wet, wet = rainS τ day ∧ e_X12_wearOf_74 d vow heavy s t up gone f ((f + l.1.length + 1 : Nat) : Int) M1 = e_X12_wearOf_126 d vow heavy s t up gone f ((f + l.1.length + 1 : Nat) : Int) (amUp M1 157 0 4 wet) := by
      refine ⟨rainS τ day, rfl, ?_⟩
      rw [q_X12_wearOf_74, hlive, ev, o1 139 _ (by decide), h.2.2.2.2.1, if_pos ⟨by omega, by omega⟩]
      unfold rainS
      by_cases h0 : tR τ = 0
      · rw [if_pos (by omega), if_pos ⟨by decide, by decide⟩, if_pos h0]
      · have g1 : Int.tmod day (tR τ : Int) = day % (tR τ : Int) := Int.tmod_eq_emod_of_nonneg hd
        have g2 := Int.emod_nonneg day (show (tR τ : Int) ≠ 0 by omega)
        have g3 := Int.emod_lt_of_pos day (show (0 : Int) < (tR τ : Int) by omega)
        have g4 : w32 ((w32 (14 * (v : Int))) + (Int.tmod (M1 160 0 83) (tR τ : Int))) = ((14 * v + (Int.tmod day (tR τ : Int)).toNat : Nat) : Int) := by
          rw [o1 160 _ (by decide), hday, w32_id (x := 14 * (v : Int)) (by omega) (by omega), w32_id (by omega) (by omega)]; omega
        have g5 : (((14 * v + (Int.tmod day (tR τ : Int)).toNat : Nat) : Int)).toNat = 14 * v + (Int.tmod day (tR τ : Int)).toNat := rfl
        rw [if_neg (by omega), if_pos ⟨by decide, by decide⟩, if_pos ⟨by omega, by omega⟩, if_neg (by omega), g4, g5, if_pos ⟨by omega, by omega⟩, if_pos ⟨by decide, by decide⟩, if_neg h0, o1 140 _ (by decide), h.2.2.2.2.2.1 _ (by omega)]
    obtain ⟨wet, hwet, h74⟩ := h74
    have key : ∀ u : Int, u = up → ∃ M', e_X12_wearOf_160 d vow heavy s t up gone f ((f + l.1.length + 1 : Nat) : Int) f vU vU (amUp (amUp (amUp (amUp M1 157 0 4 wet) 157 0 5 u) 157 0 6 gone) 12 0 47 0) = some (vI (clampS (lwVal (lookS heavy t s day (rainS τ day) up gone) l.1 l.2)), M') ∧ amSame fRw M M' := by
      intro u hu
      generalize hM2 : amUp (amUp (amUp (amUp M1 157 0 4 wet) 157 0 5 u) 157 0 6 gone) 12 0 47 0 = M2
      have s2 : amSame fRw M M2 := by
        rw [← hM2]
        exact (((s1.up (by rfl)).up (by rfl)).up (by rfl)).up (by rfl)
      have o2 : ∀ c j, c ≠ 157 → c ≠ 12 → M2 c 0 j = M c 0 j := fun c j hc hc2 => by rw [← hM2, up_c hc2, up_c hc, up_c hc, up_c hc, o1 c j hc]
      have hlk : ∀ j, j < 7 → M2 157 0 j = lookS heavy t s day (rainS τ day) up gone j := fun j hj => by
        rw [← hM2, up_c (by decide), up_at, up_at, up_at, ← hM1, up_at, up_at, up_at, up_at]
        match j, hj with
        | 0, _ => rfl
        | 1, _ => rfl
        | 2, _ => rfl
        | 3, _ => rfl
        | 4, _ => exact hwet
        | 5, _ => exact hu
        | 6, _ => rfl
        | k + 7, hj => omega
      obtain ⟨M', m1, m2⟩ := r_law (d := d) (l1 := vow) (l2 := heavy) (l3 := s) (l4 := t) (l5 := up) (l6 := gone) (l7 := f) (lk := lookS heavy t s day (rainS τ day) up gone) (by omega) l.1 l.2 f vU vU M2 (f4.mv fun c j hc => o2 c j (by rintro rfl; cases hc) (by rintro rfl; cases hc)) hlk (by rw [← hM2, up_on]) f3 (hτ.2.2.2.2.2.2.2.2 vow.toNat (by omega) l hl)
      refine ⟨M', m2, s2.trans (m1.mono fun c s j hc => ?_)⟩
      unfold fRw
      simp only [Bool.or_eq_true] at hc ⊢
      rcases hc with hc | hc
      · exact Or.inl (Or.inr hc)
      · exact Or.inr hc
    rw [h74, q_X12_wearOf_126]
    rcases hup with rfl | rfl
    · rw [if_pos rfl, if_pos ⟨by decide, by decide⟩, if_pos ⟨by decide, by decide⟩]
      exact key 0 rfl
    · rw [if_neg (by decide), if_pos ⟨by decide, by decide⟩, if_pos ⟨by decide, by decide⟩]
      exact key 1 rfl
end RW
