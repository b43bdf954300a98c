/-! PURE: what is left behind, and who treads -/
def lbL (τ : Tx) (vow heavy day s gone up : Int) : Nat → Int → Int
  | 0, left => left
  | k + 1, left => if left < wearS τ vow heavy s left day up gone then -1 else lbL τ vow heavy day s gone up k (left - wearS τ vow heavy s left day up gone)
def lbS (τ : Tx) (vow heavy day s gone up t : Int) : Int := if t < 1 then -1 else lbL τ vow heavy day s gone up (kW vow) t
def trS (τ : Tx) (vow : Int) (s : Nat) (up : Int) : Bool := if up = 0 ∧ vow = 3 then false else if vow = 2 then (if up = 0 then (tN τ + 1 - s) % 2 == 0 else s % 2 == 0) else true
section BH
variable {D d v : Nat} {τ : Tx} {ρ : Rw} {M : AmM} {N : Nat} {vow heavy day s gone up : Int}
theorem lbL_b (hh : 0 ≤ heavy ∧ heavy ≤ 2000) : ∀ (k : Nat) (left : Int), 0 ≤ left → -1 ≤ lbL τ vow heavy day s gone up k left ∧ lbL τ vow heavy day s gone up k left ≤ left
  | 0, left, h => ⟨by unfold lbL; omega, by unfold lbL; omega⟩
  | k + 1, left, h => by
    have hw := wearS_b (τ := τ) (vow := vow) (heavy := heavy) (s := s) (t := left) (day := day) (up := up) (gone := gone) hh
    unfold lbL
    split
    · omega
    · have := lbL_b hh k (left - wearS τ vow heavy s left day up gone) (by omega)
      omega
theorem lbS_b (hh : 0 ≤ heavy ∧ heavy ≤ 2000) {t : Int} (ht : 0 ≤ t) : -1 ≤ lbS τ vow heavy day s gone up t ∧ lbS τ vow heavy day s gone up t ≤ t := by
  unfold lbS
  split
  · omega
  · exact lbL_b hh _ _ (by omega)
theorem c_lbNeg (hd : 1 ≤ d) (hv : M 10 0 3 = vow) {t left i : Int} (hl : left < 0) : e_X10_leftBehind_13 d s t gone up left i M = some (vI (-1), M) := by
  have e : amMax (-1) left = -1 := by
    unfold amMax
    split <;> omega
  rw [q_X10_leftBehind_13, c_wears (by omega) hv, amCI_s, e, if_pos hl, ite_self]
theorem c_lbLoop (hd : 2 ≤ d) (hτ : tOk τ) (hh : 0 ≤ heavy ∧ heavy ≤ 2000) (hv : 0 ≤ vow ∧ vow ≤ 3) (hup : up = 0 ∨ up = 1) {t : Int} : ∀ (k i : Nat) (left : Int) (M : AmM), i + k = kW vow → (0 ≤ left ∧ left ≤ 1000) → cTx 0 τ M → cWk τ vow heavy day M → ∃ M', e_X10_leftBehind_13 d s t gone up left (i : Int) M = some (vI (lbL τ vow heavy day s gone up k left), M') ∧ amSame fWr M M'
  | 0, i, left, M, h, hl, hT, hW => by
    refine ⟨M, ?_, amSame.refl⟩
    have e : amMax (-1) left = left := by
      unfold amMax
      split <;> omega
    rw [q_X10_leftBehind_13, c_wears (by omega) hW.2.1, amCI_s, if_neg (by omega), e]
    rfl
  | k + 1, i, left, M, h, hl, hT, hW => by
    have hkW := kW_b vow
    have hw := wearS_b (τ := τ) (vow := vow) (heavy := heavy) (s := s) (t := left) (day := day) (up := up) (gone := gone) hh
    obtain ⟨M1, m1, m2⟩ := c_wearOn (D := d) (s := s) (t := left) (gone := gone) (by omega) hτ hT hW hv hup
    have hW1 := hW.wr m2
    have eL : lbL τ vow heavy day s gone up (k + 1) left = if left < wearS τ vow heavy s left day up gone then -1 else lbL τ vow heavy day s gone up k (left - wearS τ vow heavy s left day up gone) := rfl
    rw [q_X10_leftBehind_13, c_wears (by omega) hW.2.1, amCI_s, if_pos (by omega), if_neg (by omega), m1, amCI_s, w32_id (x := left - wearS τ vow heavy s left day up gone) (by omega) (by omega), w32_n (x := (i : Int) + 1) (n := i + 1) (by omega) (by omega), eL]
    by_cases hlt : left < wearS τ vow heavy s left day up gone
    · rw [if_pos hlt, c_lbNeg (by omega) hW1.2.1 (by omega)]
      exact ⟨M1, rfl, m2⟩
    · obtain ⟨M2, k1, k2⟩ := c_lbLoop hd hτ hh hv hup (t := t) k (i + 1) (left - wearS τ vow heavy s left day up gone) M1 (by omega) (by omega) (hT.wr m2) hW1
      rw [if_neg hlt]
      exact ⟨M2, k1, m2.trans k2⟩
theorem c_leftBehind (hD : 3 ≤ D) (hτ : tOk τ) (hh : 0 ≤ heavy ∧ heavy ≤ 2000) (hv : 0 ≤ vow ∧ vow ≤ 3) (hup : up = 0 ∨ up = 1) {t : Int} (ht : t ≤ 1000) (hT : cTx 0 τ M) (hW : cWk τ vow heavy day M) : ∃ M', amD amGst D 104 [vR 10 10 0, vI s, vI t, vI gone, vI up] M = some (vI (lbS τ vow heavy day s gone up t), M') ∧ amSame fWr M M' := by
  obtain ⟨d, rfl⟩ := dS hD
  rw [n_X10_leftBehind, q_X10_leftBehind_0]
  unfold lbS
  by_cases h1 : t < 1
  · rw [if_pos h1, if_pos h1]
    exact ⟨M, rfl, amSame.refl⟩
  · rw [if_neg h1, if_neg h1]
    exact c_lbLoop (d := d) (by omega) hτ hh hv hup (t := t) (kW vow) 0 t M (by omega) (by omega) hT hW
theorem r_lbLoop (hd : 2 ≤ d) (hτ : tOk τ) (hup : up = 0 ∨ up = 1) {p : Nat} (hp : p < tP τ) (hday : 0 ≤ day) {t : Int} : ∀ (k i : Nat) (left : Int) (u : AmV) (M : AmM), i + k = kW (tV τ p) → (0 ≤ left ∧ left ≤ 1000) → rTx v τ M → M 160 0 83 = day → ∃ M', e_X12_behind_13 d (p : Int) s t up gone left (i : Int) u M = some (vI (lbL τ (tV τ p) (tW τ p) day s gone up k left), M') ∧ amSame fRw M M'
  | 0, i, left, u, M, h, hl, hT, h83 => by
    have hkW := kW_b (tV τ p)
    refine ⟨M, ?_, amSame.refl⟩
    unfold kW at h
    rw [q_X12_behind_13, r_vowOf (by omega) hτ hT hp, amCI_s]
    by_cases h1 : tV τ p = 1
    · rw [if_pos h1] at h
      rw [if_pos h1, if_neg (by omega)]
      rfl
    · rw [if_neg h1] at h
      rw [if_neg h1, if_neg (by omega)]
      rfl
  | k + 1, i, left, u, M, h, hl, hT, h83 => by
    have hP := hτ.2.2.2.2.2.2.1
    have hWV := tkWV hτ hp
    have hv := hT.1
    have e8 : (((8 * v + p : Nat) : Int)).toNat = 8 * v + p := rfl
    have hkW := kW_b (tV τ p)
    have hw := wearS_b (τ := τ) (vow := tV τ p) (heavy := tW τ p) (s := s) (t := left) (day := day) (up := up) (gone := gone) hWV.1
    obtain ⟨M1, m1, m2⟩ := r_wearOf (D := d) (M := M) (vow := tV τ p) (heavy := tW τ p) (day := day) (s := s) (t := left) (gone := gone) (by omega) hτ hT h83 hday hWV.2 hup
    have eL : lbL τ (tV τ p) (tW τ p) day s gone up (k + 1) left = if left < wearS τ (tV τ p) (tW τ p) s left day up gone then -1 else lbL τ (tV τ p) (tW τ p) day s gone up k (left - wearS τ (tV τ p) (tW τ p) s left day up gone) := rfl
    have hT1 : rTx v τ M1 := hT.ro (m2.mono fRw_fRo)
    have tail : ∀ u', ∃ M', (if left < wearS τ (tV τ p) (tW τ p) s left day up gone then (some (vI (-1), M1)) else (e_X12_behind_13 d (p : Int) s t up gone (w32 (left - wearS τ (tV τ p) (tW τ p) s left day up gone)) (w32 ((i : Int) + 1)) u' M1)) = some (vI (lbL τ (tV τ p) (tW τ p) day s gone up (k + 1) left), M') ∧ amSame fRw M M' := fun u' => by
      rw [eL]
      by_cases hlt : left < wearS τ (tV τ p) (tW τ p) s left day up gone
      · rw [if_pos hlt, if_pos hlt]
        exact ⟨M1, rfl, m2⟩
      · obtain ⟨M2, k1, k2⟩ := r_lbLoop hd hτ hup hp hday (t := t) k (i + 1) (left - wearS τ (tV τ p) (tW τ p) s left day up gone) u' M1 (by omega) (by omega) hT1 (by rw [m2 160 0 83 (by rfl)]; exact h83)
        rw [if_neg hlt, if_neg hlt, w32_id (x := left - wearS τ (tV τ p) (tW τ p) s left day up gone) (by omega) (by omega), w32_n (x := (i : Int) + 1) (n := i + 1) (by omega) (by omega)]
        exact ⟨M2, k1, m2.trans k2⟩
    unfold kW at h
    rw [q_X12_behind_13, r_vowOf (by omega) hτ hT hp, amCI_s, r_vowOf (by omega) hτ hT hp, amCI_s, r_8v hT (by omega), e8, if_pos (show (0 : Int) ≤ ((8 * v + p : Nat) : Int) ∧ ((8 * v + p : Nat) : Int) < 16 by omega), (hT.2.2.2.2.2.2.2.2.2.1 p hp).1, m1, amCI_s]
    by_cases h1 : tV τ p = 1
    · rw [if_pos h1] at h
      rw [if_pos h1, if_pos (show (i : Int) < 2 by omega)]
      exact tail _
    · rw [if_neg h1] at h
      rw [if_neg h1, if_pos (show (i : Int) < 1 by omega)]
      exact tail _
theorem r_behind (hD : 3 ≤ D) (hτ : tOk τ) (hup : up = 0 ∨ up = 1) {p : Nat} (hp : p < tP τ) (hday : 0 ≤ day) {t : Int} (ht : t ≤ 1000) (hT : rTx v τ M) (h83 : M 160 0 83 = day) : ∃ M', amD amGst D 214 [vR 12 12 0, vI p, vI s, vI t, vI up, vI gone] M = some (vI (lbS τ (tV τ p) (tW τ p) day s gone up t), M') ∧ amSame fRw M M' := by
  obtain ⟨d, rfl⟩ := dS hD
  rw [n_X12_behind, q_X12_behind_0]
  unfold lbS
  by_cases h1 : t < 1
  · rw [if_pos h1, if_pos h1]
    exact ⟨M, rfl, amSame.refl⟩
  · rw [if_neg h1, if_neg h1]
    exact r_lbLoop (d := d) (v := v) (by omega) hτ hup hp hday (t := t) (kW (tV τ p)) 0 t vU M (by omega) (by omega) hT h83
theorem tmod2 (n : Nat) : (Int.tmod ((n : Nat) : Int) 2 = 0) ↔ (n % 2 == 0) = true := by
  rw [Int.tmod_eq_emod_of_nonneg (by omega), beq_iff_eq]
  omega
theorem c_treads (hD : 1 ≤ D) (hτ : tOk τ) (hT : cTx 0 τ M) (hv : M 10 0 3 = vow) {s : Nat} (hs : 1 ≤ s ∧ s ≤ tN τ) (hup : up = 0 ∨ up = 1) : amD amGst D 21 [vR 2 2 0, vI s, vI up] M = some (vI (if trS τ vow s up = true then 1 else 0), M) := by
  obtain ⟨d, rfl⟩ := dS hD
  have hn := hτ.1
  have h17 : e_X2_treads_17 d (s : Int) up M = some (vI (if (if vow = 2 then (if up = 0 then (tN τ + 1 - s) % 2 == 0 else s % 2 == 0) else true) = true then 1 else 0), M) := by
    rw [q_X2_treads_17, hv, hT.1]
    by_cases h2 : vow = 2
    · rcases hup with rfl | rfl
      · rw [if_pos (show (0 : Int) = 0 from rfl), if_pos h2, if_neg (show ¬ (2 : Int) = 0 by decide), w32_n (x := ((tN τ : Nat) : Int) + 1) (n := tN τ + 1) (by omega) (by omega), w32_n (x := ((tN τ + 1 : Nat) : Int) - (s : Int)) (n := tN τ + 1 - s) (by omega) (by omega), if_pos h2, if_pos (show (0 : Int) = 0 from rfl)]
        by_cases hm : ((tN τ + 1 - s) % 2 == 0) = true
        · rw [if_pos ((tmod2 _).mpr hm), if_pos hm]
        · rw [if_neg (fun q => hm ((tmod2 _).mp q)), if_neg hm]
      · rw [if_neg (show ¬ (1 : Int) = 0 by decide), if_pos h2, if_neg (show ¬ (2 : Int) = 0 by decide), if_pos h2, if_neg (show ¬ (1 : Int) = 0 by decide)]
        by_cases hm : (s % 2 == 0) = true
        · rw [if_pos ((tmod2 _).mpr hm), if_pos hm]
        · rw [if_neg (fun q => hm ((tmod2 _).mp q)), if_neg hm]
    · rw [if_neg h2, if_neg h2, if_neg h2, ite_self]
      rfl
  rw [n_X2_treads, q_X2_treads_0, h17, hv]
  unfold trS
  by_cases h0 : up = 0
  · by_cases h3 : vow = 3
    · rw [if_pos h0, if_pos h3, if_pos (show up = 0 ∧ vow = 3 from ⟨h0, h3⟩)]
      rfl
    · rw [if_pos h0, if_neg h3, if_neg (show ¬ (up = 0 ∧ vow = 3) from fun q => h3 q.2)]
  · rw [if_neg h0, if_neg (show ¬ (up = 0 ∧ vow = 3) from fun q => h0 q.1)]
theorem r_treads (hD : 2 ≤ D) (hτ : tOk τ) (hT : rTx v τ M) {p : Nat} (hp : p < tP τ) {s : Nat} (hs : 1 ≤ s ∧ s ≤ tN τ) (hup : up = 0 ∨ up = 1) : amD amGst D 215 [vR 12 12 0, vI p, vI s, vI up] M = some (vI (if trS τ (tV τ p) s up = true then 1 else 0), M) := by
  obtain ⟨d, rfl⟩ := dS hD
  have hn := hτ.1
  have h15 : e_X12_treads_15 d (p : Int) (s : Int) up M = some (vI (if (if tV τ p = 2 then (if up = 0 then (tN τ + 1 - s) % 2 == 0 else s % 2 == 0) else true) = true then 1 else 0), M) := by
    rw [q_X12_treads_15, r_vowOf (by omega) hτ hT hp, amCI_s]
    by_cases h2 : tV τ p = 2
    · rcases hup with rfl | rfl
      · rw [if_pos h2, if_pos (show (0 : Int) = 0 from rfl), r_top (by omega) hτ hT, amCI_s, if_neg (show ¬ (2 : Int) = 0 by decide), w32_n (x := ((tN τ + 1 : Nat) : Int) - (s : Int)) (n := tN τ + 1 - s) (by omega) (by omega), if_pos h2, if_pos (show (0 : Int) = 0 from rfl)]
        by_cases hm : ((tN τ + 1 - s) % 2 == 0) = true
        · rw [if_pos ((tmod2 _).mpr hm), if_pos hm]
        · rw [if_neg (fun q => hm ((tmod2 _).mp q)), if_neg hm]
      · rw [if_pos h2, if_neg (show ¬ (1 : Int) = 0 by decide), if_neg (show ¬ (2 : Int) = 0 by decide), if_pos h2, if_neg (show ¬ (1 : Int) = 0 by decide)]
        by_cases hm : (s % 2 == 0) = true
        · rw [if_pos ((tmod2 _).mpr hm), if_pos hm]
        · rw [if_neg (fun q => hm ((tmod2 _).mp q)), if_neg hm]
    · rw [if_neg h2, if_neg h2]
      rfl
  rw [n_X12_treads, q_X12_treads_0, h15, r_vowOf (by omega) hτ hT hp, amCI_s]
  unfold trS
  by_cases h0 : up = 0
  · by_cases h3 : tV τ p = 3
    · rw [if_pos h0, if_pos h3, if_pos (show up = 0 ∧ tV τ p = 3 from ⟨h0, h3⟩)]
      rfl
    · rw [if_pos h0, if_neg h3, if_neg (show ¬ (up = 0 ∧ tV τ p = 3) from fun q => h3 q.2)]
      exact h15
  · rw [if_neg h0, if_neg (show ¬ (up = 0 ∧ tV τ p = 3) from fun q => h0 q.1)]
end BH
