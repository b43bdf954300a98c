/-! PURE: the reference's goings, on -/
theorem rX.up52 {x : Wk} {M : AmM} {z : Int} (h : rX x M) : rX x (amUp M 12 0 52 z) := ⟨fun j hj => by rw [up_c (by decide)]; exact h.1 j hj, by rw [up_j (by decide)]; exact h.2.1, by rw [up_j (by decide)]; exact h.2.2⟩
section RW4
variable {D d v : Nat} {τ : Tx} {ρ : Rw} {M : AmM} {day : Int}
theorem r_dn_loop (hd : 3 ≤ d) (hτ : tOk τ) (hday : 0 ≤ day) {p : Nat} (hp : p < tP τ) {l2 : Int} : ∀ (k a : Nat) (x : Wk) (u4 : AmV) (M : AmM), a ≤ k → a ≤ tN τ + 1 → rTx v τ M → rX x M → x.1 83 = day → rOk τ x.1 →
    ∃ M', e_X12_goesDown_2 d p l2 a u4 M = some (vI ((dnS τ (tV τ p) (tW τ p) day k a x).1 : Nat), M') ∧ amSame fRo M M' ∧ rX (dnS τ (tV τ p) (tW τ p) day k a x).2.2 M' ∧ M' 12 0 52 = (dnS τ (tV τ p) (tW τ p) day k a x).2.1
  | 0, a, x, u4, M, hk, ha, hT, hX, h83, hr => by
    obtain rfl : a = 0 := by omega
    refine ⟨amUp M 12 0 52 0, ?_, amSame.refl.up (by rfl), hX.up52, up_on⟩
    rw [q_X12_goesDown_2, if_neg (by omega)]
    rfl
  | k + 1, a, x, u4, M, hk, ha, hT, hX, h83, hr => by
    have hn := hτ.1
    by_cases h0 : a = 0
    · subst h0
      have e : dnS τ (tV τ p) (tW τ p) day (k + 1) 0 x = (0, 0, x) := rfl
      rw [e]
      refine ⟨amUp M 12 0 52 0, ?_, amSame.refl.up (by rfl), hX.up52, up_on⟩
      rw [q_X12_goesDown_2, if_neg (by omega)]
      rfl
    · have hpp := hτ.2.2.2.2.2.2.2.1 p hp
      have hp8 : p < 8 := by have := hτ.2.2.2.2.2.2.1; omega
      have hh : 0 ≤ tW τ p ∧ tW τ p ≤ 2000 := ⟨by omega, by omega⟩
      have hb := nxD_b (ρ := x.1) (vow := tV τ p) (show 1 ≤ a by omega)
      have e : dnS τ (tV τ p) (tW τ p) day (k + 1) a x = if nxD x.1 (tV τ p) a = 0 then (0, 0, x) else if x.1 (nxD x.1 (tV τ p) a) ≤ 0 then (2, a, x) else match holdS τ (tV τ p) (tW τ p) day 0 (nxD x.1 (tV τ p) a) (kW (tV τ p)) x with
          | (false, x') => (2, a, x')
          | (true, x') => dnS τ (tV τ p) (tW τ p) day k (nxD x.1 (tV τ p) a) x' := by
        show (if a = 0 then (0, 0, x) else _) = _
        rw [if_neg h0]
        rfl
      have hnx : ∀ far : Int, (far = 1 ∧ tV τ p = 2 ∨ far = 0 ∧ tV τ p ≠ 2) → amD amGst d 192 [vR 12 12 0, vI a, vI far] M = some (vI (nxD x.1 (tV τ p) a : Nat), M) := fun far hf => r_nextDown hd hτ hT hX.1 ⟨by omega, ha⟩ hf
      generalize nxD x.1 (tV τ p) a = to at hb e hnx
      rw [e]
      have tail : ∃ M', (if 0 < ((to : Nat) : Int) then (amCI (amD amGst d 190 [vR 12 12 0, vI ((to : Nat) : Int)] M) fun v3 M3 => if v3 = 0 then (some (vI 2, amUp M3 12 0 52 (a : Int))) else (amCI (amD amGst d 184 [vR 12 12 0, vI (p : Int)] M3) fun v4 M4 => if (0 : Int) ≤ w32 ((w32 (8 * (M4 12 0 18))) + (p : Int)) ∧ w32 ((w32 (8 * (M4 12 0 18))) + (p : Int)) < 16 then (amCI (amD amGst d 189 [vR 12 12 0, vI v4, vI (M4 144 0 (w32 ((w32 (8 * (M4 12 0 18))) + (p : Int))).toNat), vI ((to : Nat) : Int), vI 0] M4) fun v5 M5 => if v5 = 0 then (some (vI 2, amUp M5 12 0 52 (a : Int))) else (e_X12_goesDown_2 d (p : Int) l2 ((to : Nat) : Int) (vI ((to : Nat) : Int)) M5)) else none)) else (e_X12_goesDown_2 d (p : Int) l2 ((to : Nat) : Int) (vI ((to : Nat) : Int)) M)) = some (vI (((if to = 0 then (0, 0, x) else if x.1 to ≤ 0 then (2, a, x) else match holdS τ (tV τ p) (tW τ p) day 0 to (kW (tV τ p)) x with
          | (false, x') => (2, a, x')
          | (true, x') => dnS τ (tV τ p) (tW τ p) day k to x' : Nat × Nat × Wk).1 : Nat) : Int), M') ∧ amSame fRo M M' ∧ rX (if to = 0 then (0, 0, x) else if x.1 to ≤ 0 then (2, a, x) else match holdS τ (tV τ p) (tW τ p) day 0 to (kW (tV τ p)) x with
          | (false, x') => (2, a, x')
          | (true, x') => dnS τ (tV τ p) (tW τ p) day k to x' : Nat × Nat × Wk).2.2 M' ∧ M' 12 0 52 = (if to = 0 then (0, 0, x) else if x.1 to ≤ 0 then (2, a, x) else match holdS τ (tV τ p) (tW τ p) day 0 to (kW (tV τ p)) x with
          | (false, x') => (2, a, x')
          | (true, x') => dnS τ (tV τ p) (tW τ p) day k to x' : Nat × Nat × Wk).2.1 := by
        by_cases ht : to = 0
        · rw [if_pos ht, if_neg (show ¬ 0 < ((to : Nat) : Int) by omega)]
          refine ⟨amUp M 12 0 52 0, ?_, amSame.refl.up (by rfl), hX.up52, up_on⟩
          rw [q_X12_goesDown_2, if_neg (show ¬ 0 < ((to : Nat) : Int) by omega)]
          rfl
        · rw [if_neg ht, if_pos (show 0 < ((to : Nat) : Int) by omega)]
          by_cases h1 : x.1 to ≤ 0
          · rw [if_pos h1, r_isThereN (by omega) hτ hT hX.1 ⟨by omega, by omega⟩ h1, amCI_s, if_pos (rfl : (0 : Int) = 0)]
            exact ⟨amUp M 12 0 52 a, rfl, amSame.refl.up (by rfl), hX.up52, up_on⟩
          · rw [if_neg h1, r_isThereY (by omega) hτ hT hX.1 (Or.inr (Or.inr (by omega))) (by omega), amCI_s, if_neg (show ¬ (1 : Int) = 0 by decide), r_vowOf (by omega) hτ hT hp, amCI_s, r_8v hT hp8]
            have e8 : (((8 * v + p : Nat) : Int)).toNat = 8 * v + p := rfl
            have hv1 := hT.1
            rw [e8, (hT.2.2.2.2.2.2.2.2.2.1 p hp).1, if_pos (show (0 : Int) ≤ ((8 * v + p : Nat) : Int) ∧ ((8 * v + p : Nat) : Int) < 16 by omega)]
            obtain ⟨M5, m1, m2, m3⟩ := r_holds (D := d) hd hτ hh hpp.2 hday (s := to) ⟨by omega, by omega⟩ (Or.inl rfl) hT hX h83 hr
            rw [m1, amCI_s]
            have hok := holdS_ok (τ := τ) (vow := tV τ p) (day := day) (up := 0) (s := to) hh ⟨by omega, by omega⟩ hn (kW (tV τ p)) x hr
            have hof := holdS_off (τ := τ) (vow := tV τ p) (heavy := tW τ p) (day := day) (up := 0) (s := to) (j := 83) ⟨by omega, by omega⟩ (by omega) (kW (tV τ p)) x
            obtain ⟨b, x', hy⟩ : ∃ b x', holdS τ (tV τ p) (tW τ p) day 0 to (kW (tV τ p)) x = (b, x') := ⟨_, _, rfl⟩
            rw [hy] at m3 hok hof ⊢
            cases b with
            | false => exact ⟨amUp M5 12 0 52 a, rfl, m2.up (by rfl), m3.up52, up_on⟩
            | true =>
              obtain ⟨M', k1, k2, k3⟩ := r_dn_loop hd hτ hday hp (l2 := l2) k to x' (vI to) M5 (by omega) (by omega) (hT.ro m2) m3 (hof.trans h83) hok
              exact ⟨M', k1, m2.trans k2, k3⟩
      obtain ⟨M', t1, t2⟩ := tail
      refine ⟨M', ?_, t2⟩
      rw [q_X12_goesDown_2, if_pos (show 0 < ((a : Nat) : Int) by omega), r_vowOf (by omega) hτ hT hp, amCI_s]
      by_cases hv2 : tV τ p = 2
      · rw [if_pos hv2, hnx 1 (Or.inl ⟨rfl, hv2⟩), amCI_s]
        exact t1
      · rw [if_neg hv2, hnx 0 (Or.inr ⟨rfl, hv2⟩), amCI_s]
        exact t1
theorem r_goesDown (hD : 4 ≤ D) (hτ : tOk τ) (hday : 0 ≤ day) {p : Nat} (hp : p < tP τ) {a : Nat} {x : Wk} (ha : a ≤ tN τ + 1) (hT : rTx v τ M) (hX : rX x M) (h83 : x.1 83 = day) (hr : rOk τ x.1) :
    ∃ M', amD amGst D 193 [vR 12 12 0, vI p, vI a] M = some (vI ((dnS τ (tV τ p) (tW τ p) day 26 a x).1 : Nat), M') ∧ amSame fRo M M' ∧ rX (dnS τ (tV τ p) (tW τ p) day 26 a x).2.2 M' ∧ M' 12 0 52 = (dnS τ (tV τ p) (tW τ p) day 26 a x).2.1 := by
  obtain ⟨d, rfl⟩ := dS hD
  have hn := hτ.1
  rw [n_X12_goesDown, q_X12_goesDown_0]
  exact r_dn_loop (by omega) hτ hday hp 26 a x vU M (by omega) ha hT hX h83 hr
/-- what the loop up comes to, in the whole -/
def outS (τ : Tx) (vow heavy day : Int) (R : Nat × Nat × Wk) : Nat × Nat × Wk := match R with
  | (2, at_, x1) => (if at_ = 0 then 1 else 2, at_, x1)
  | (1, at_, x1) => (match dnS τ vow heavy day 26 at_ x1 with
    | (d, at2, x2) => (if d = 0 then 1 else 2, at2, x2))
  | (_, at_, x1) => if vow = 3 then (0, at_, x1) else dnS τ vow heavy day 26 at_ x1
theorem comesS_out {vow heavy : Int} {x : Wk} : comesS τ vow heavy day x = outS τ vow heavy day (upS τ vow heavy day 26 0 x) := rfl
theorem r_up_loop (hd : 4 ≤ d) (hτ : tOk τ) (hday : 0 ≤ day) {p : Nat} (hp : p < tP τ) : ∀ (k a : Nat) (x : Wk) (u3 : AmV) (M : AmM), tN τ + 1 ≤ a + k → a ≤ tN τ + 1 → rTx v τ M → rX x M → x.1 83 = day → rOk τ x.1 →
    ∃ M', e_X12_comesOf_7 d p a u3 M = some (vI ((outS τ (tV τ p) (tW τ p) day (upS τ (tV τ p) (tW τ p) day k a x)).1 : Nat), M') ∧ amSame fRo M M' ∧ rX (outS τ (tV τ p) (tW τ p) day (upS τ (tV τ p) (tW τ p) day k a x)).2.2 M' ∧ M' 12 0 52 = (outS τ (tV τ p) (tW τ p) day (upS τ (tV τ p) (tW τ p) day k a x)).2.1 := by
  intro k
  have hn := hτ.1
  have hpp := hτ.2.2.2.2.2.2.2.1 p hp
  have hp8 : p < 8 := by have := hτ.2.2.2.2.2.2.1; omega
  have hh : 0 ≤ tW τ p ∧ tW τ p ≤ 2000 := ⟨by omega, by omega⟩
  -- at the top
  have htop : ∀ (k a : Nat) (x : Wk) (u3 : AmV) (M : AmM), tN τ + 1 ≤ a → a ≤ tN τ + 1 → rTx v τ M → rX x M → x.1 83 = day → rOk τ x.1 → ∃ M', e_X12_comesOf_7 d p a u3 M = some (vI ((outS τ (tV τ p) (tW τ p) day (0, a, x)).1 : Nat), M') ∧ amSame fRo M M' ∧ rX (outS τ (tV τ p) (tW τ p) day (0, a, x)).2.2 M' ∧ M' 12 0 52 = (outS τ (tV τ p) (tW τ p) day (0, a, x)).2.1 := by
    intro k a x u3 M h1 h2 hT hX h83 hr
    have hT1 : rTx v τ (amUp M 12 0 52 a) := hT.ro (amSame.refl.up (by rfl))
    have e : outS τ (tV τ p) (tW τ p) day (0, a, x) = if tV τ p = 3 then (0, a, x) else dnS τ (tV τ p) (tW τ p) day 26 a x := rfl
    rw [e, q_X12_comesOf_7, r_top (by omega) hτ hT, amCI_s, if_neg (show ¬ ((a : Nat) : Int) < ((tN τ + 1 : Nat) : Int) by omega), r_vowOf (by omega) hτ hT1 hp, amCI_s]
    by_cases h3 : tV τ p = 3
    · rw [if_pos h3, if_pos h3]
      exact ⟨_, rfl, amSame.refl.up (by rfl), hX.up52, up_on⟩
    · rw [if_neg h3, if_neg h3]
      obtain ⟨M', m1, m2, m3⟩ := r_goesDown (D := d) hd hτ hday hp h2 hT1 hX.up52 h83 hr
      rw [m1, amCI_s]
      exact ⟨M', rfl, (amSame.refl.up (by rfl)).trans m2, m3⟩
  induction k with
  | zero =>
    intro a x u3 M hk ha hT hX h83 hr
    exact htop 0 a x u3 M (by omega) ha hT hX h83 hr
  | succ k ih =>
    intro a x u3 M hk ha hT hX h83 hr
    by_cases h0 : tN τ + 1 ≤ a
    · have e : upS τ (tV τ p) (tW τ p) day (k + 1) a x = (0, a, x) := by
        show (if tN τ + 1 ≤ a then (0, a, x) else _) = _
        rw [if_pos h0]
      rw [e]
      exact htop 0 a x u3 M h0 ha hT hX h83 hr
    · have hb := nxU_b (n := tN τ) (ρ := x.1) (vow := tV τ p) (show a ≤ tN τ by omega)
      have e : upS τ (tV τ p) (tW τ p) day (k + 1) a x = if tN τ + 1 ≤ nxU (tN τ) x.1 (tV τ p) a then (0, nxU (tN τ) x.1 (tV τ p) a, x) else if x.1 (nxU (tN τ) x.1 (tV τ p) a) ≤ 0 then (1, a, x) else match holdS τ (tV τ p) (tW τ p) day 1 (nxU (tN τ) x.1 (tV τ p) a) (kW (tV τ p)) x with
          | (false, x') => (2, a, x')
          | (true, x') => upS τ (tV τ p) (tW τ p) day k (nxU (tN τ) x.1 (tV τ p) a) x' := by
        show (if tN τ + 1 ≤ a then (0, a, x) else _) = _
        rw [if_neg h0]
        rfl
      have hnx : ∀ far : Int, (far = 1 ∧ tV τ p = 2 ∨ far = 0 ∧ tV τ p ≠ 2) → amD amGst d 191 [vR 12 12 0, vI a, vI far] M = some (vI (nxU (tN τ) x.1 (tV τ p) a : Nat), M) := fun far hf => r_nextUp (by omega) hτ hT hX.1 (by omega) hf
      generalize nxU (tN τ) x.1 (tV τ p) a = to at hb e hnx
      rw [e]
      generalize hR : (if tN τ + 1 ≤ to then (0, to, x) else if x.1 to ≤ 0 then (1, a, x) else match holdS τ (tV τ p) (tW τ p) day 1 to (kW (tV τ p)) x with
          | (false, x') => (2, a, x')
          | (true, x') => upS τ (tV τ p) (tW τ p) day k to x' : Nat × Nat × Wk) = R
      have tail : ∃ M', (amCI (amD amGst d 190 [vR 12 12 0, vI ((to : Nat) : Int)] M) fun v4 M4 => if v4 = 0 then (amCI (amD amGst d 193 [vR 12 12 0, vI (p : Int), vI (a : Int)] M4) fun v5 M5 => if v5 = 0 then (some (vI 1, M5)) else (some (vI 2, M5))) else (amCI (amD amGst d 180 [vR 12 12 0] M4) fun v6 M6 => if ((to : Nat) : Int) < v6 then (amCI (amD amGst d 184 [vR 12 12 0, vI (p : Int)] M6) fun v7 M7 => if (0 : Int) ≤ w32 ((w32 (8 * (M7 12 0 18))) + (p : Int)) ∧ w32 ((w32 (8 * (M7 12 0 18))) + (p : Int)) < 16 then (amCI (amD amGst d 189 [vR 12 12 0, vI v7, vI (M7 144 0 (w32 ((w32 (8 * (M7 12 0 18))) + (p : Int))).toNat), vI ((to : Nat) : Int), vI 1] M7) fun v8 M8 => if v8 = 0 then (if (a : Int) = 0 then (some (vI 1, amUp M8 12 0 52 (a : Int))) else (some (vI 2, amUp M8 12 0 52 (a : Int)))) else (e_X12_comesOf_7 d (p : Int) ((to : Nat) : Int) (vI ((to : Nat) : Int)) M8)) else none) else (e_X12_comesOf_7 d (p : Int) ((to : Nat) : Int) (vI ((to : Nat) : Int)) M6))) = some (vI (((outS τ (tV τ p) (tW τ p) day R).1 : Nat) : Int), M') ∧ amSame fRo M M' ∧ rX (outS τ (tV τ p) (tW τ p) day R).2.2 M' ∧ M' 12 0 52 = (outS τ (tV τ p) (tW τ p) day R).2.1 := by
        by_cases ht : tN τ + 1 ≤ to
        · rw [if_pos ht] at hR
          rw [← hR, r_isThereY (by omega) hτ hT hX.1 (Or.inr (Or.inl ht)) (by omega), amCI_s, if_neg (show ¬ (1 : Int) = 0 by decide), r_top (by omega) hτ hT, amCI_s, if_neg (show ¬ ((to : Nat) : Int) < ((tN τ + 1 : Nat) : Int) by omega)]
          exact htop 0 to x _ M ht hb.2 hT hX h83 hr
        · rw [if_neg ht] at hR
          by_cases h1 : x.1 to ≤ 0
          · rw [if_pos h1] at hR
            rw [← hR, r_isThereN (by omega) hτ hT hX.1 ⟨by omega, by omega⟩ h1, amCI_s, if_pos (rfl : (0 : Int) = 0)]
            obtain ⟨M', m1, m2, m3⟩ := r_goesDown (D := d) hd hτ hday hp ha hT hX h83 hr
            have eo : outS τ (tV τ p) (tW τ p) day (1, a, x) = (if (dnS τ (tV τ p) (tW τ p) day 26 a x).1 = 0 then 1 else 2, (dnS τ (tV τ p) (tW τ p) day 26 a x).2.1, (dnS τ (tV τ p) (tW τ p) day 26 a x).2.2) := rfl
            rw [eo, m1, amCI_s]
            refine ⟨M', ?_, m2, m3⟩
            by_cases h9 : (dnS τ (tV τ p) (tW τ p) day 26 a x).1 = 0
            · rw [if_pos (show (((dnS τ (tV τ p) (tW τ p) day 26 a x).1 : Nat) : Int) = 0 by omega), if_pos h9]; rfl
            · rw [if_neg (show ¬ (((dnS τ (tV τ p) (tW τ p) day 26 a x).1 : Nat) : Int) = 0 by omega), if_neg h9]; rfl
          · rw [if_neg h1] at hR
            rw [r_isThereY (by omega) hτ hT hX.1 (Or.inr (Or.inr (by omega))) (by omega), amCI_s, if_neg (show ¬ (1 : Int) = 0 by decide), r_top (by omega) hτ hT, amCI_s, if_pos (show ((to : Nat) : Int) < ((tN τ + 1 : Nat) : Int) by omega), r_vowOf (by omega) hτ hT hp, amCI_s, r_8v hT hp8]
            have e8 : (((8 * v + p : Nat) : Int)).toNat = 8 * v + p := rfl
            have hv1 := hT.1
            rw [e8, (hT.2.2.2.2.2.2.2.2.2.1 p hp).1, if_pos (show (0 : Int) ≤ ((8 * v + p : Nat) : Int) ∧ ((8 * v + p : Nat) : Int) < 16 by omega)]
            obtain ⟨M5, m1, m2, m3⟩ := r_holds (D := d) (by omega) hτ hh hpp.2 hday (s := to) ⟨by omega, by omega⟩ (Or.inr rfl) hT hX h83 hr
            rw [m1, amCI_s]
            have hok := holdS_ok (τ := τ) (vow := tV τ p) (day := day) (up := 1) (s := to) hh ⟨by omega, by omega⟩ hn (kW (tV τ p)) x hr
            have hof := holdS_off (τ := τ) (vow := tV τ p) (heavy := tW τ p) (day := day) (up := 1) (s := to) (j := 83) ⟨by omega, by omega⟩ (by omega) (kW (tV τ p)) x
            obtain ⟨b, x', hy⟩ : ∃ b x', holdS τ (tV τ p) (tW τ p) day 1 to (kW (tV τ p)) x = (b, x') := ⟨_, _, rfl⟩
            rw [hy] at m3 hok hof hR ⊢
            cases b with
            | false =>
              have hR : (2, a, x') = R := hR
              rw [← hR]
              refine ⟨amUp M5 12 0 52 a, ?_, m2.up (by rfl), m3.up52, up_on⟩
              show (if (a : Int) = 0 then (some (vI 1, amUp M5 12 0 52 (a : Int))) else (some (vI 2, amUp M5 12 0 52 (a : Int)))) = some (vI (((if a = 0 then 1 else 2 : Nat) : Nat) : Int), amUp M5 12 0 52 a)
              by_cases h9 : a = 0
              · rw [if_pos (show (a : Int) = 0 by omega), if_pos h9]; rfl
              · rw [if_neg (show ¬ (a : Int) = 0 by omega), if_neg h9]; rfl
            | true =>
              have hR : upS τ (tV τ p) (tW τ p) day k to x' = R := hR
              rw [← hR]
              obtain ⟨M', k1, k2, k3⟩ := ih to x' (vI to) M5 (by omega) (by omega) (hT.ro m2) m3 (hof.trans h83) hok
              exact ⟨M', k1, m2.trans k2, k3⟩
      obtain ⟨M', t1, t2⟩ := tail
      refine ⟨M', ?_, t2⟩
      rw [q_X12_comesOf_7, r_top (by omega) hτ hT, amCI_s, if_pos (show ((a : Nat) : Int) < ((tN τ + 1 : Nat) : Int) by omega), r_vowOf (by omega) hτ hT hp, amCI_s]
      by_cases hv2 : tV τ p = 2
      · rw [if_pos hv2, hnx 1 (Or.inl ⟨rfl, hv2⟩), amCI_s]
        exact t1
      · rw [if_neg hv2, hnx 0 (Or.inr ⟨rfl, hv2⟩), amCI_s]
        exact t1
/-- what comes of a going of pilgrim p -/
theorem r_comesOf (hD : 5 ≤ D) (hτ : tOk τ) (hday : 0 ≤ day) {p : Nat} (hp : p < tP τ) (hT : rTx v τ M) (hR : rRow ρ M) (h83 : ρ 83 = day) (hr : rOk τ ρ) :
    ∃ M', amD amGst D 194 [vR 12 12 0, vI p] M = some (vI ((comesS τ (tV τ p) (tW τ p) day (ρ, 0, M 12 0 51)).1 : Nat), M') ∧ amSame fRo M M' ∧ rX (comesS τ (tV τ p) (tW τ p) day (ρ, 0, M 12 0 51)).2.2 M' ∧ M' 12 0 52 = (comesS τ (tV τ p) (tW τ p) day (ρ, 0, M 12 0 51)).2.1 := by
  obtain ⟨d, rfl⟩ := dS hD
  have hn := hτ.1
  rw [n_X12_comesOf, q_X12_comesOf_0, comesS_out]
  have hs : amSame fRo M (amUp M 12 0 50 0) := amSame.refl.up (by rfl)
  obtain ⟨M', m1, m2, m3⟩ := r_up_loop (d := d) (by omega) hτ hday hp 26 0 (ρ, 0, M 12 0 51) vU (amUp M 12 0 50 0) (by omega) (by omega) (hT.ro hs) ⟨fun j hj => by rw [up_c (by decide)]; exact hR j hj, up_on, up_j (by decide)⟩ h83 hr
  exact ⟨M', m1, hs.trans m2, m3⟩
end RW4
