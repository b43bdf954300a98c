/-! PURE: the reference's goings, treads -/
section RW2
variable {D d v : Nat} {τ : Tx} {ρ : Rw} {M : AmM} {vow heavy day : Int}
/-- a tread's wears, from the i-th on -/
theorem r_holds_loop (hd : 2 ≤ d) (hτ : tOk τ) (hh : 0 ≤ heavy ∧ heavy ≤ 2000) (hv : 0 ≤ vow ∧ vow ≤ 3) (hday : 0 ≤ day) {s : Nat} (hs : 1 ≤ s ∧ s ≤ tN τ) {up : Int} (hup : up = 0 ∨ up = 1) :
    ∀ (k i : Nat) (x : Wk) (u6 u7 : AmV) (M : AmM), i + k = kW vow → rTx v τ M → rX x M → x.1 83 = day → rOk τ x.1 →
    ∃ M', e_X12_holds_3 d vow heavy s up i u6 u7 M = some (vI (if (holdS τ vow heavy day up s k x).1 then 1 else 0), M') ∧ amSame fRo M M' ∧ rX (holdS τ vow heavy day up s k x).2 M'
  | 0, i, x, u6, u7, M, hik, hT, hX, h83, hr => by
    refine ⟨M, ?_, amSame.refl, hX⟩
    rw [q_X12_holds_3]
    unfold kW at hik
    by_cases h1 : vow = 1
    · rw [if_pos h1] at hik ⊢
      rw [if_neg (by omega)]
      rfl
    · rw [if_neg h1] at hik ⊢
      rw [if_neg (by omega)]
      rfl
  | k + 1, i, x, u6, u7, M, hik, hT, hX, h83, hr => by
    have hn := hτ.1
    have hk := kW_b vow
    have h0 := hr s hs.1 hs.2
    have h99 := (hτ.2.1 s hs.1 hs.2).2
    have es : ((s : Nat) : Int).toNat = s := rfl
    have hrow := hX.1
    have hxs : M 160 0 s = x.1 s := hrow s (by omega)
    obtain ⟨M2, w1, w2⟩ := r_wearOf (D := d) (heavy := heavy) (s := s) (t := x.1 s) (gone := gonS (tN τ) x.1) hd hτ hT ((hrow 83 (by omega)).trans h83) hday hv hup
    generalize hw : wearS τ vow heavy s (x.1 s) day up (gonS (tN τ) x.1) = w at w1
    have hwb : 0 ≤ w ∧ w ≤ 2000 := by rw [← hw]; exact wearS_b hh
    have hX2 := hX.rw w2
    have hT2 := hT.ro (w2.mono fRw_fRo)
    generalize hρ : rUp x.1 s (if x.1 s < w then 0 else x.1 s - w) = ρ1
    have hρs : ρ1 s = (if x.1 s < w then 0 else x.1 s - w) := by rw [← hρ]; exact rUp_on
    have hxx : holdS τ vow heavy day up s (k + 1) x = if x.1 s < w then (false, ρ1, w32 (x.2.1 + (x.1 s - ρ1 s)), if 0 < x.1 s ∧ ρ1 s = 0 ∧ x.2.2 < 0 then (s : Int) else x.2.2) else holdS τ vow heavy day up s k (rUp ρ1 (25 + s) (w32 (ρ1 (25 + s) + 1)), w32 (x.2.1 + (x.1 s - ρ1 s)), if 0 < x.1 s ∧ ρ1 s = 0 ∧ x.2.2 < 0 then (s : Int) else x.2.2) := by
      show (match hold1 (wearS τ vow heavy s (x.1 s) day up (gonS (tN τ) x.1)) s x with
        | (false, x') => (false, x')
        | (true, x') => holdS τ vow heavy day up s k x') = _
      rw [hw]
      unfold hold1
      dsimp only
      rw [hρ]
      by_cases hlt : x.1 s < w
      · rw [if_pos hlt, if_pos hlt]
      · rw [if_neg hlt, if_neg hlt]
    -- behind the wear
    have key : ∀ M6 : AmM, rX (ρ1, w32 (x.2.1 + (x.1 s - ρ1 s)), if 0 < x.1 s ∧ ρ1 s = 0 ∧ x.2.2 < 0 then (s : Int) else x.2.2) M6 → amSame fRo M M6 →
        ∃ M', e_X12_holds_109 d vow heavy s up i (x.1 s) w M6 = some (vI (if (holdS τ vow heavy day up s (k + 1) x).1 then 1 else 0), M') ∧ amSame fRo M M' ∧ rX (holdS τ vow heavy day up s (k + 1) x).2 M' := by
      intro M6 hX6 hs6
      rw [q_X12_holds_109, hxx]
      by_cases hlt : x.1 s < w
      · rw [if_pos hlt, if_pos hlt]
        exact ⟨M6, rfl, hs6, hX6⟩
      · have e26 : (((25 + s : Nat) : Int)).toNat = 25 + s := rfl
        rw [if_neg hlt, if_neg hlt]
        rw [w32_n (x := 25 + (s : Int)) (n := 25 + s) (by omega) (by omega), e26, w32_n (x := (i : Int) + 1) (n := i + 1) (by omega) (by omega)]
        rw [if_pos (show (0 : Int) ≤ ((25 + s : Nat) : Int) ∧ ((25 + s : Nat) : Int) < 100 by omega), if_pos (show (0 : Int) ≤ ((25 + s : Nat) : Int) ∧ ((25 + s : Nat) : Int) < 100 by omega)]
        have h25 : M6 160 0 (25 + s) = ρ1 (25 + s) := hX6.1 (25 + s) (by omega)
        rw [h25]
        have hr1 : rOk τ (rUp ρ1 (25 + s) (w32 (ρ1 (25 + s) + 1))) := fun j a b => by
          rw [rUp_ne (by omega), ← hρ]
          by_cases hj : j = s
          · subst hj; rw [rUp_on]; split <;> omega
          · rw [rUp_ne hj]; exact hr j a b
        have hs7 : amSame fRo M (amUp M6 160 0 (25 + s) (w32 (ρ1 (25 + s) + 1))) := hs6.up (by rfl)
        have h831 : rUp ρ1 (25 + s) (w32 (ρ1 (25 + s) + 1)) 83 = day := by rw [rUp_ne (by omega), ← hρ, rUp_ne (by omega)]; exact h83
        obtain ⟨M', m1, m2, m3⟩ := r_holds_loop hd hτ hh hv hday hs hup k (i + 1) (rUp ρ1 (25 + s) (w32 (ρ1 (25 + s) + 1)), w32 (x.2.1 + (x.1 s - ρ1 s)), if 0 < x.1 s ∧ ρ1 s = 0 ∧ x.2.2 < 0 then (s : Int) else x.2.2) (vI (x.1 s)) (vI w) (amUp M6 160 0 (25 + s) (w32 (ρ1 (25 + s) + 1))) (by omega) (hT.ro hs7) ⟨fun j hj => by
            rw [up_at]
            by_cases hj2 : j = 25 + s
            · rw [if_pos hj2, hj2]; exact rUp_on.symm
            · rw [if_neg hj2]; show _ = rUp ρ1 (25 + s) _ j; rw [rUp_ne hj2]; exact hX6.1 j hj, by rw [up_c (by decide)]; exact hX6.2.1, by rw [up_c (by decide)]; exact hX6.2.2⟩ h831 hr1
        exact ⟨M', m1, hs7.trans m2, m3⟩
    have key83 : ∀ M5 : AmM, rRow ρ1 M5 → M5 12 0 50 = w32 (x.2.1 + (x.1 s - ρ1 s)) → M5 12 0 51 = x.2.2 → amSame fRo M M5 →
        ∃ M', e_X12_holds_83 d vow heavy s up i (x.1 s) w M5 = some (vI (if (holdS τ vow heavy day up s (k + 1) x).1 then 1 else 0), M') ∧ amSame fRo M M' ∧ rX (holdS τ vow heavy day up s (k + 1) x).2 M' := by
      intro M5 r5 a5 b5 s5
      rw [q_X12_holds_83, es, r5 s (by omega), b5]
      by_cases hc : 0 < x.1 s ∧ ρ1 s = 0 ∧ x.2.2 < 0
      · rw [if_pos hc.1, if_pos (show (0 : Int) ≤ (s : Int) ∧ (s : Int) < 100 by omega), if_pos hc.2.1, if_pos hc.2.2]
        refine key _ ⟨fun j hj => by rw [up_c (by decide)]; exact r5 j hj, by rw [up_j (by decide)]; exact a5, ?_⟩ (s5.up (by rfl))
        rw [up_on]; show (s : Int) = if 0 < x.1 s ∧ ρ1 s = 0 ∧ x.2.2 < 0 then (s : Int) else x.2.2; rw [if_pos hc]
      · have hk6 := key M5 ⟨r5, a5, by show _ = if 0 < x.1 s ∧ ρ1 s = 0 ∧ x.2.2 < 0 then (s : Int) else x.2.2; rw [if_neg hc]; exact b5⟩ s5
        by_cases h1 : 0 < x.1 s
        · rw [if_pos h1, if_pos (show (0 : Int) ≤ (s : Int) ∧ (s : Int) < 100 by omega)]
          by_cases h2 : ρ1 s = 0
          · rw [if_pos h2, if_neg (show ¬ x.2.2 < 0 from fun h3 => hc ⟨h1, h2, h3⟩)]; exact hk6
          · rw [if_neg h2]; exact hk6
        · rw [if_neg h1]; exact hk6
    have hrow1 : ∀ z : Int, z = (if x.1 s < w then 0 else x.1 s - w) → rRow ρ1 (amUp (amUp M2 160 0 s z) 12 0 50 (w32 (x.2.1 + (x.1 s - ρ1 s)))) := fun z hz j hj => by
      rw [up_c (by decide), up_at, ← hρ]
      by_cases hjs : j = s
      · rw [if_pos hjs, hjs, rUp_on, hz]
      · rw [if_neg hjs, rUp_ne hjs]; exact hX2.1 j hj
    have hfin : ∀ z : Int, z = (if x.1 s < w then 0 else x.1 s - w) → ∃ M', e_X12_holds_83 d vow heavy s up i (x.1 s) w (amUp (amUp M2 160 0 s z) 12 0 50 (w32 (((amUp M2 160 0 s z) 12 0 50) + (w32 ((x.1 s) - ((amUp M2 160 0 s z) 160 0 s)))))) = some (vI (if (holdS τ vow heavy day up s (k + 1) x).1 then 1 else 0), M') ∧ amSame fRo M M' ∧ rX (holdS τ vow heavy day up s (k + 1) x).2 M' := by
      intro z hz
      have e1 : w32 (((amUp M2 160 0 s z) 12 0 50) + (w32 ((x.1 s) - ((amUp M2 160 0 s z) 160 0 s)))) = w32 (x.2.1 + (x.1 s - ρ1 s)) := by
        rw [up_c (by decide), up_on, hX2.2.1, hρs, hz, w32_id (x := x.1 s - _) (by split <;> omega) (by split <;> omega)]
      rw [e1]
      exact key83 _ (hrow1 z hz) up_on (by rw [up_j (by decide), up_c (by decide)]; exact hX2.2.2) (((w2.mono fRw_fRo).up (by rfl)).up (by rfl))
    have hbody : ∃ M', (if (0 : Int) ≤ (s : Int) ∧ (s : Int) < 100 then (amCI (amD amGst d 187 [vR 12 12 0] M) fun v1 M1 => amCI (amD amGst d 188 [vR 12 12 0, vI vow, vI heavy, vI s, vI (M 160 0 ((s : Nat) : Int).toNat), vI up, vI v1] M1) fun v2 M2 => if M 160 0 ((s : Nat) : Int).toNat < v2 then (if (0 : Int) ≤ (s : Int) ∧ (s : Int) < 100 then (if (0 : Int) ≤ (s : Int) ∧ (s : Int) < 100 then (e_X12_holds_83 d vow heavy s up i (M 160 0 ((s : Nat) : Int).toNat) v2 (amUp (amUp M2 160 0 ((s : Nat) : Int).toNat 0) 12 0 50 (w32 (((amUp M2 160 0 ((s : Nat) : Int).toNat 0) 12 0 50) + (w32 ((M 160 0 ((s : Nat) : Int).toNat) - ((amUp M2 160 0 ((s : Nat) : Int).toNat 0) 160 0 ((s : Nat) : Int).toNat))))))) else none) else none) else (if (0 : Int) ≤ (s : Int) ∧ (s : Int) < 100 then (if (0 : Int) ≤ (s : Int) ∧ (s : Int) < 100 then (e_X12_holds_83 d vow heavy s up i (M 160 0 ((s : Nat) : Int).toNat) v2 (amUp (amUp M2 160 0 ((s : Nat) : Int).toNat (w32 ((M 160 0 ((s : Nat) : Int).toNat) - v2))) 12 0 50 (w32 (((amUp M2 160 0 ((s : Nat) : Int).toNat (w32 ((M 160 0 ((s : Nat) : Int).toNat) - v2))) 12 0 50) + (w32 ((M 160 0 ((s : Nat) : Int).toNat) - ((amUp M2 160 0 ((s : Nat) : Int).toNat (w32 ((M 160 0 ((s : Nat) : Int).toNat) - v2))) 160 0 ((s : Nat) : Int).toNat))))))) else none) else none)) else none) = some (vI (if (holdS τ vow heavy day up s (k + 1) x).1 then 1 else 0), M') ∧ amSame fRo M M' ∧ rX (holdS τ vow heavy day up s (k + 1) x).2 M' := by
      rw [es, hxs, if_pos (show (0 : Int) ≤ (s : Int) ∧ (s : Int) < 100 by omega), r_goneNow (by omega) hτ hT hrow, amCI_s, w1, amCI_s]
      by_cases hlt : x.1 s < w
      · rw [if_pos hlt, if_pos (show (0 : Int) ≤ (s : Int) ∧ (s : Int) < 100 by omega), if_pos (show (0 : Int) ≤ (s : Int) ∧ (s : Int) < 100 by omega)]
        exact hfin 0 (if_pos hlt).symm
      · rw [if_neg hlt, if_pos (show (0 : Int) ≤ (s : Int) ∧ (s : Int) < 100 by omega), if_pos (show (0 : Int) ≤ (s : Int) ∧ (s : Int) < 100 by omega), w32_id (x := x.1 s - w) (by omega) (by omega)]
        exact hfin (x.1 s - w) (if_neg hlt).symm
    obtain ⟨M', m1, m2⟩ := hbody
    refine ⟨M', ?_, m2⟩
    rw [q_X12_holds_3]
    unfold kW at hik
    by_cases h1 : vow = 1
    · rw [if_pos h1] at hik ⊢
      rw [if_pos (show (i : Int) < 2 by omega)]
      exact m1
    · rw [if_neg h1] at hik ⊢
      rw [if_pos (show (i : Int) < 1 by omega)]
      exact m1
theorem r_holds (hD : 3 ≤ D) (hτ : tOk τ) (hh : 0 ≤ heavy ∧ heavy ≤ 2000) (hv : 0 ≤ vow ∧ vow ≤ 3) (hday : 0 ≤ day) {s : Nat} (hs : 1 ≤ s ∧ s ≤ tN τ) {up : Int} (hup : up = 0 ∨ up = 1) {x : Wk} (hT : rTx v τ M) (hX : rX x M) (h83 : x.1 83 = day) (hr : rOk τ x.1) :
    ∃ M', amD amGst D 189 [vR 12 12 0, vI vow, vI heavy, vI s, vI up] M = some (vI (if (holdS τ vow heavy day up s (kW vow) x).1 then 1 else 0), M') ∧ amSame fRo M M' ∧ rX (holdS τ vow heavy day up s (kW vow) x).2 M' := by
  obtain ⟨d, rfl⟩ := dS hD
  rw [n_X12_holds, q_X12_holds_0]
  exact r_holds_loop (by omega) hτ hh hv hday hs hup (kW vow) 0 x vU vU M (by omega) hT hX h83 hr
end RW2
