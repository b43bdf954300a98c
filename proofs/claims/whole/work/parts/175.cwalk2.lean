/-! PURE: the class's walking, on -/
section CW2
variable {D d n r : Nat} {τ : Tx} {ρ : Rw} {M : AmM} {vow heavy day : Int}
/-- the class's walk, and the stairs of row r: the state of walking -/
def cX (τ : Tx) (r : Nat) (x : Wk) (M : AmM) : Prop := cSt (tN τ) r x.1 M ∧ M 10 0 5 = x.2.1 ∧ M 10 0 6 = x.2.2 ∧ -1 ≤ x.2.2
theorem cX.wr {x : Wk} {M M' : AmM} (h : cX τ r x M) (hs : amSame fWr M M') : cX τ r x M' := ⟨h.1.wr hs, by rw [hs _ _ _ (by simp [fWr])]; exact h.2.1, by rw [hs _ _ _ (by simp [fWr])]; exact h.2.2.1, h.2.2.2⟩
theorem c_wears (hD : 1 ≤ D) (h : M 10 0 3 = vow) : amD amGst D 105 [vR 10 10 0] M = some (vI (kW vow : Nat), M) := by
  obtain ⟨d, rfl⟩ := dS hD
  rw [n_X10_wearsATread, q_X10_wearsATread_0, h]
  unfold kW
  by_cases h1 : vow = 1
  · rw [if_pos h1, if_pos h1]; rfl
  · rw [if_neg h1, if_neg h1]; rfl
theorem kW_b (vow : Int) : 1 ≤ kW vow ∧ kW vow ≤ 2 := by unfold kW; split <;> omega
/-- a tread's wears, from the i-th on -/
theorem c_tread_loop (hd : 2 ≤ d) (hτ : tOk τ) (hh : 0 ≤ heavy ∧ heavy ≤ 2000) (hv : 0 ≤ vow ∧ vow ≤ 3) {s : Nat} (hs : 1 ≤ s ∧ s ≤ tN τ) {up : Int} (hup : up = 0 ∨ up = 1) :
    ∀ (k i : Nat) (x : Wk) (u5 u6 u7 : AmV) (M : AmM), i + k = kW vow → cTx 0 τ M → cWk τ vow heavy day M → cX τ r x M → rOk τ x.1 →
    ∃ M', e_X10_tread_3 d r s up i u5 u6 u7 M = some (vI (if (holdS τ vow heavy day up s k x).1 then 1 else 0), M') ∧ amSame (fWk r) M M' ∧ cX τ r (holdS τ vow heavy day up s k x).2 M'
  | 0, i, x, u5, u6, u7, M, hik, hT, hW, hX, hr => by
    refine ⟨M, ?_, amSame.refl, hX⟩
    rw [q_X10_tread_3, c_wears (by omega) hW.2.1, amCI_s, if_neg (by omega)]
    rfl
  | k + 1, i, x, u5, u6, u7, M, hik, hT, hW, hX, hr => by
    have hn := hτ.1
    have hk := kW_b vow
    have h0 := hr s hs.1 hs.2
    have h99 := (hτ.2.1 s hs.1 hs.2).2
    obtain ⟨M3, w1, w2⟩ := c_wearOn (D := d) (s := s) (t := x.1 s) (gone := gonS (tN τ) x.1) hd hτ hT hW hv hup
    generalize hw : wearS τ vow heavy s (x.1 s) day up (gonS (tN τ) x.1) = w at w1
    have hwb : 0 ≤ w ∧ w ≤ 2000 := by rw [← hw]; exact wearS_b hh
    have hX3 := hX.wr w2
    have hT3 := hT.wr w2
    have hW3 := hW.wr w2
    have hth := (hX.1.2.2 s hs.1 hs.2).1
    have hth3 := (hX3.1.2.2 s hs.1 hs.2).1
    have hgb := gonS_b (tN τ) x.1
    rw [q_X10_tread_3, c_wears (by omega) hW.2.1, amCI_s, if_pos (by omega), c_thickAt (by omega) (by omega), amCI_s, hth, hX.1.2.1, w1, amCI_s]
    have htk : amMin w (x.1 s) = x.1 s - (if x.1 s < w then 0 else x.1 s - w) := by
      unfold amMin
      split <;> first | omega | (split <;> omega)
    have hle : 0 ≤ amMin w (x.1 s) ∧ amMin w (x.1 s) ≤ x.1 s := by rw [htk]; split <;> omega
    have hnew : w32 (x.1 s - amMin w (x.1 s)) = (if x.1 s < w then 0 else x.1 s - w) := by rw [w32_id (by omega) (by omega), htk]; omega
    rw [hnew]
    generalize hρ : rUp x.1 s (if x.1 s < w then 0 else x.1 s - w) = ρ1
    have hnb : 0 ≤ (if x.1 s < w then 0 else x.1 s - w) := by split <;> omega
    have hρs : ρ1 s = (if x.1 s < w then 0 else x.1 s - w) := by rw [← hρ]; exact rUp_on
    rw [c_setThick (by omega) (by omega) (by rw [hX3.1.2.1]; omega), amCV_s]
    generalize hM4 : amUp (amUp M3 6 r 3 (M3 6 r 3 + (if 0 < M3 112 r s then 1 else 0) - (if 0 < (if x.1 s < w then 0 else x.1 s - w) then 1 else 0))) 112 r s (if x.1 s < w then 0 else x.1 s - w) = M4
    have hst4 : cSt (tN τ) r ρ1 M4 := by
      rw [← hρ, ← hM4]
      exact hX3.1.set hn hs h0.1 hnb
    have hs4 : amSame (fWk r) M M4 := by
      rw [← hM4]
      exact ((w2.mono fWr_fWk).up (by simp [fWk])).up (by simp [fWk])
    have h45 : M4 10 0 5 = x.2.1 := by rw [← hM4, up_c (by decide), up_c (by decide)]; exact hX3.2.1
    have h46 : M4 10 0 6 = x.2.2 := by rw [← hM4, up_c (by decide), up_c (by decide)]; exact hX3.2.2.1
    have htk2 : amMin w (x.1 s) = x.1 s - ρ1 s := by rw [htk, hρs]
    have hxx : holdS τ vow heavy day up s (k + 1) x = if x.1 s < w then (false, ρ1, w32 (x.2.1 + (x.1 s - ρ1 s)), if 0 < x.1 s ∧ ρ1 s = 0 ∧ x.2.2 < 0 then (s : Int) else x.2.2) else holdS τ vow heavy day up s k (rUp ρ1 (25 + s) (w32 (ρ1 (25 + s) + 1)), w32 (x.2.1 + (x.1 s - ρ1 s)), if 0 < x.1 s ∧ ρ1 s = 0 ∧ x.2.2 < 0 then (s : Int) else x.2.2) := by
      show (match hold1 (wearS τ vow heavy s (x.1 s) day up (gonS (tN τ) x.1)) s x with
        | (false, x') => (false, x')
        | (true, x') => holdS τ vow heavy day up s k x') = _
      rw [hw]
      unfold hold1
      dsimp only
      rw [hρ]
      by_cases hlt : x.1 s < w
      · rw [if_pos hlt, if_pos hlt]
      · rw [if_neg hlt, if_neg hlt]
    have key : ∀ M6 : AmM, cX τ r (ρ1, w32 (x.2.1 + (x.1 s - ρ1 s)), if 0 < x.1 s ∧ ρ1 s = 0 ∧ x.2.2 < 0 then (s : Int) else x.2.2) M6 → amSame (fWk r) M M6 →
        ∃ M', e_X10_tread_88 d r s up i (x.1 s) w (amMin w (x.1 s)) M6 = some (vI (if (holdS τ vow heavy day up s (k + 1) x).1 then 1 else 0), M') ∧ amSame (fWk r) M M' ∧ cX τ r (holdS τ vow heavy day up s (k + 1) x).2 M' := by
      intro M6 hX6 hs6
      rw [q_X10_tread_88, hxx]
      by_cases hlt : x.1 s < w
      · rw [if_pos hlt, if_pos hlt]
        exact ⟨M6, rfl, hs6, hX6⟩
      · rw [if_neg hlt, if_neg hlt, c_bear (by omega) (by omega), amCV_s, w32_id (x := (i : Int) + 1) (by omega) (by omega), (hX6.1.2.2 s hs.1 hs.2).2]
        have hr1 : rOk τ (rUp ρ1 (25 + s) (w32 (ρ1 (25 + s) + 1))) := fun j a b => by
          rw [rUp_ne (by omega), ← hρ]
          by_cases hj : j = s
          · subst hj; rw [rUp_on]; split <;> omega
          · rw [rUp_ne hj]; exact hr j a b
        have hs7 : amSame (fWk r) M (amUp M6 113 r s (w32 (ρ1 (25 + s) + 1))) := hs6.up (by simp [fWk])
        obtain ⟨M', m1, m2, m3⟩ := c_tread_loop hd hτ hh hv hs hup k (i + 1) (rUp ρ1 (25 + s) (w32 (ρ1 (25 + s) + 1)), w32 (x.2.1 + (x.1 s - ρ1 s)), if 0 < x.1 s ∧ ρ1 s = 0 ∧ x.2.2 < 0 then (s : Int) else x.2.2) (vI (x.1 s)) (vI w) (vI (amMin w (x.1 s))) (amUp M6 113 r s (w32 (ρ1 (25 + s) + 1))) (by omega) (hT.wk hs7) (hW.wk hs7) ⟨hX6.1.bear hn hs, by rw [up_c (by decide)]; exact hX6.2.1, by rw [up_c (by decide)]; exact hX6.2.2.1, hX6.2.2.2⟩ hr1
        exact ⟨M', m1, hs7.trans m2, m3⟩
    have hX5 : cSt (tN τ) r ρ1 (amUp M4 10 0 5 (w32 (M4 10 0 5 + amMin w (x.1 s)))) := hst4.up (by decide)
    have e56 : (amUp M4 10 0 5 (w32 (M4 10 0 5 + amMin w (x.1 s)))) 10 0 6 = x.2.2 := by rw [up_j (by decide)]; exact h46
    have e55 : (amUp M4 10 0 5 (w32 (M4 10 0 5 + amMin w (x.1 s)))) 10 0 5 = w32 (x.2.1 + (x.1 s - ρ1 s)) := by rw [up_on, h45, htk2]
    have hs5 : amSame (fWk r) M (amUp M4 10 0 5 (w32 (M4 10 0 5 + amMin w (x.1 s)))) := hs4.up (by simp [fWk])
    generalize amUp M4 10 0 5 (w32 (M4 10 0 5 + amMin w (x.1 s))) = M5 at hX5 e56 e55 hs5 ⊢
    rw [e56]
    have hlo := hX.2.2.2
    by_cases hc : 0 < x.1 s ∧ ρ1 s = 0 ∧ x.2.2 < 0
    · rw [if_pos (by omega), if_pos (by omega), if_pos (by omega)]
      refine key _ ⟨hX5.up (by decide), by rw [up_j (by decide)]; exact e55, ?_, ?_⟩ (hs5.up (by simp [fWk]))
      · rw [up_on]; show (s : Int) = if 0 < x.1 s ∧ ρ1 s = 0 ∧ x.2.2 < 0 then (s : Int) else x.2.2; rw [if_pos hc]
      · show -1 ≤ if 0 < x.1 s ∧ ρ1 s = 0 ∧ x.2.2 < 0 then (s : Int) else x.2.2; rw [if_pos hc]; omega
    · have hk6 := key M5 ⟨hX5, e55, by show _ = if 0 < x.1 s ∧ ρ1 s = 0 ∧ x.2.2 < 0 then (s : Int) else x.2.2; rw [if_neg hc]; exact e56, by show -1 ≤ if 0 < x.1 s ∧ ρ1 s = 0 ∧ x.2.2 < 0 then (s : Int) else x.2.2; rw [if_neg hc]; exact hlo⟩ hs5
      by_cases h1 : x.2.2 = -1
      · rw [if_pos h1]
        by_cases h2 : 0 < amMin w (x.1 s)
        · rw [if_pos h2, if_neg (by omega)]; exact hk6
        · rw [if_neg h2]; exact hk6
      · rw [if_neg h1]; exact hk6
theorem c_tread (hD : 3 ≤ D) (hτ : tOk τ) (hh : 0 ≤ heavy ∧ heavy ≤ 2000) (hv : 0 ≤ vow ∧ vow ≤ 3) {s : Nat} (hs : 1 ≤ s ∧ s ≤ tN τ) {up : Int} (hup : up = 0 ∨ up = 1) {x : Wk} (hT : cTx 0 τ M) (hW : cWk τ vow heavy day M) (hX : cX τ r x M) (hr : rOk τ x.1) :
    ∃ M', amD amGst D 103 [vR 10 10 0, vR 6 6 r, vI s, vI up] M = some (vI (if (holdS τ vow heavy day up s (kW vow) x).1 then 1 else 0), M') ∧ amSame (fWk r) M M' ∧ cX τ r (holdS τ vow heavy day up s (kW vow) x).2 M' := by
  obtain ⟨d, rfl⟩ := dS hD
  rw [n_X10_tread, q_X10_tread_0]
  exact c_tread_loop (by omega) hτ hh hv hs hup (kW vow) 0 x vU vU vU M (by omega) hT hW hX hr
/-- the next place -/
theorem c_nextSpot (hD : 3 ≤ D) (hτ : tOk τ) (hSt : cSt (tN τ) r ρ M) (hvow : M 10 0 3 = vow) {a : Nat} (ha : M 10 0 4 = a) {up : Int} (h : up = 1 ∧ a ≤ tN τ ∨ up = 0 ∧ 1 ≤ a ∧ a ≤ tN τ + 1) :
    amD amGst D 102 [vR 10 10 0, vR 6 6 r, vI up] M = some (vI ((if up = 1 then nxU (tN τ) ρ vow a else nxD ρ vow a : Nat) : Int), M) := by
  obtain ⟨d, rfl⟩ := dS hD
  have hn := hτ.1
  have e2 : w32 (2 * 1) = 2 := by rw [w32_id (by omega) (by omega)]; rfl
  have e3 : w32 (2 * (-1)) = -2 := by rw [w32_id (by omega) (by omega)]; rfl
  rw [n_X10_nextSpot, q_X10_nextSpot_0, hvow, ha, e2, e3]
  rcases h with ⟨rfl, h⟩ | ⟨rfl, h1, h2⟩
  · rw [if_neg (by decide), if_pos rfl]
    unfold nxU
    by_cases hv : vow = 2
    · rw [if_pos hv, if_pos hv, c_top (n := tN τ) (by omega) hn hSt.1, amCI_s, ha]
      have e4 : amMax 0 (amMin ((tN τ + 1 : Nat) : Int) (w32 ((a : Int) + 2))) = ((if tN τ + 1 ≤ a + 2 then tN τ + 1 else a + 2 : Nat) : Int) := by
        rw [w32_id (by omega) (by omega)]
        unfold amMax amMin
        split <;> split <;> split <;> omega
      rw [e4]
      by_cases h3 : tN τ + 1 ≤ a + 2
      · rw [if_pos h3, if_pos h3, c_isThereY (n := tN τ) (by omega) hn hSt (by omega) (by omega), amCI_s, if_neg (by decide)]
      · rw [if_neg h3, if_neg h3]
        by_cases h4 : 0 < ρ (a + 2)
        · rw [if_pos h4, c_isThereY (n := tN τ) (by omega) hn hSt (by omega) (Or.inr (Or.inr h4)), amCI_s, if_neg (by decide)]
        · rw [if_neg h4, c_isThereN (n := tN τ) (by omega) hn hSt ⟨by omega, by omega⟩ (by omega), amCI_s, if_pos rfl, ha, w32_id (by omega) (by omega)]; rfl
    · rw [if_neg hv, if_neg hv, w32_id (by omega) (by omega)]; rfl
  · rw [if_pos rfl, if_neg (show ¬ (0 : Int) = 1 by decide)]
    unfold nxD
    by_cases hv : vow = 2
    · rw [if_pos hv, if_pos hv, c_top (n := tN τ) (by omega) hn hSt.1, amCI_s, ha]
      have e4 : amMax 0 (amMin ((tN τ + 1 : Nat) : Int) (w32 ((a : Int) + (-2)))) = ((a - 2 : Nat) : Int) := by
        rw [w32_id (by omega) (by omega)]
        unfold amMax amMin
        split <;> split <;> omega
      rw [e4]
      by_cases h3 : a ≤ 2
      · rw [if_pos h3, c_isThereY (n := tN τ) (by omega) hn hSt (by omega) (by omega), amCI_s, if_neg (by decide)]
        have : a - 2 = 0 := by omega
        rw [this]
      · rw [if_neg h3]
        by_cases h4 : 0 < ρ (a - 2)
        · rw [if_pos h4, c_isThereY (n := tN τ) (by omega) hn hSt (by omega) (Or.inr (Or.inr h4)), amCI_s, if_neg (by decide)]
        · rw [if_neg h4, c_isThereN (n := tN τ) (by omega) hn hSt ⟨by omega, by omega⟩ (by omega), amCI_s, if_pos rfl, ha, w32_id (by omega) (by omega)]
          congr 3; omega
    · rw [if_neg hv, if_neg hv, w32_id (by omega) (by omega)]
      congr 3; omega
end CW2
