/-! PURE: the class's walkers -/
section TLC
variable {D d v : Nat} {τ : Tx} {ρ : Rw} {M : AmM} {N n r : Nat}
/-- stairs, but for what they bore -/
def cTs (n r : Nat) (ρ : Rw) (M : AmM) : Prop := M 6 r 2 = n ∧ M 6 r 3 = gonS n ρ ∧ ∀ j, 1 ≤ j → j ≤ n → M 112 r j = ρ j
theorem cSt.ts (h : cSt n r ρ M) : cTs n r ρ M := ⟨h.1, h.2.1, fun j a b => (h.2.2 j a b).1⟩
theorem cTs.row {ρ' : Rw} (h : cTs n r ρ M) (he : ∀ j, 1 ≤ j → j ≤ n → ρ' j = ρ j) : cTs n r ρ' M := ⟨h.1, h.2.1.trans (gonS_eq n ρ ρ' he).symm, fun j a b => (h.2.2 j a b).trans (he j a b).symm⟩
theorem cTs.st (hn : n ≤ 24) (h : cTs n r ρ M) : ∃ ρ', cSt n r ρ' M ∧ ∀ j, 1 ≤ j → j ≤ n → ρ' j = ρ j := by
  have e : ∀ j, 1 ≤ j → j ≤ n → (fun j => if j ≤ n then ρ j else M 113 r (j - 25)) j = ρ j := fun j _ b => if_pos b
  refine ⟨fun j => if j ≤ n then ρ j else M 113 r (j - 25), ⟨h.1, h.2.1.trans (gonS_eq n ρ _ e).symm, fun j a b => ⟨(h.2.2 j a b).trans (e j a b).symm, ?_⟩⟩, e⟩
  show M 113 r j = if 25 + j ≤ n then ρ (25 + j) else M 113 r (25 + j - 25)
  rw [if_neg (by omega), show 25 + j - 25 = j by omega]
theorem cTs.mv {M' : AmM} (h : cTs n r ρ M) (h1 : ∀ j, M' 6 r j = M 6 r j) (h2 : ∀ j, M' 112 r j = M 112 r j) : cTs n r ρ M' := ⟨(h1 2).trans h.1, (h1 3).trans h.2.1, fun j a b => (h2 j).trans (h.2.2 j a b)⟩
theorem cTs.set {j : Nat} {x : Int} (hn : n ≤ 24) (hj : 1 ≤ j ∧ j ≤ n) (h : cTs n r ρ M) (hρ : 0 ≤ ρ j) (hv : 0 ≤ x) : cTs n r (rUp ρ j x) (amUp (amUp M 6 r 3 (M 6 r 3 + (if 0 < M 112 r j then 1 else 0) - (if 0 < x then 1 else 0))) 112 r j x) := by
  obtain ⟨ρ', a, b⟩ := h.st hn
  refine (cSt.set hn hj a (by rw [b j hj.1 hj.2]; exact hρ) hv).ts.row fun i h1 h2 => ?_
  by_cases e : i = j
  · subst e; rw [rUp_on, rUp_on]
  · rw [rUp_ne e, rUp_ne e]; exact (b i h1 h2).symm
/-- a going over such stairs -/
theorem c_throughT (hD : 5 ≤ D) (hτ : tOk τ) (hT : cTx 0 τ M) {p : Nat} (hp : p < tP τ) (hS : cTs (tN τ) r ρ M) (hr : rOk τ ρ) (h83 : ρ 83 = 0) : ∃ (M' : AmM) (o : Int), amD amGst D 99 [vR 10 10 0, vR 6 6 r, vI p, vI 0] M = some (vI o, M') ∧ amSame (fTh r) M M' ∧ cTs (tN τ) r (goS τ ρ p) M' := by
  have hn := hτ.1
  obtain ⟨ρ', a, b⟩ := hS.st hn
  obtain ⟨M', t1, t2, t3, t4⟩ := c_through (D := D) (r := r) (day := 0) hD hτ hT (by omega) hp a (fun j h1 h2 => by rw [b j h1 h2]; exact hr j h1 h2)
  refine ⟨M', _, t1, t2, t3.1.ts.row fun j h1 h2 => ?_⟩
  have e : goS τ ρ p j = (goR τ ρ p).2.2.1 j := setS_lt (by omega)
  have e2 := (comesS_th (τ := τ) (vow := tV τ p) (heavy := tW τ p) (day := 0) hn (x := (ρ', 0, -1)) (y := (ρ, 0, -1)) b).2.2 j h1 h2
  rw [e, e2]
  unfold goR
  rw [h83]
theorem fTh_ts {M' : AmM} {s : Nat} (hs : amSame (fTh s) M M') (hT : cTx 0 τ M) : cTx 0 τ M' := hT.th hs
/-- the rows behind the sets -/
def fBh (s : Nat) : Nat → Nat → Nat → Bool := fun c _ j => c == 124 && Nat.ble (26 * s) j
theorem c_writeLoop (hd : 1 ≤ d) (hτ : tOk τ) {s : Nat} (hs : s < 256) : ∀ (k m : Nat) (M : AmM), m + k = tN τ → cTx 0 τ M → cTs (tN τ) 54 ρ M → (∀ j, 1 ≤ j → j ≤ m → M 124 0 (26 * s + j) = ρ j) → ∃ M', e_X9_writeRow_2 d (s : Int) ((m + 1 : Nat) : Int) M = some (vU, M') ∧ amSame (fBh s) M M' ∧ ∀ j, 1 ≤ j → j ≤ tN τ → M' 124 0 (26 * s + j) = ρ j
  | 0, m, M, h, hT, hS, hm => by
    have h : m = tN τ := h
    subst h
    exact ⟨M, by rw [q_X9_writeRow_2, hT.1, if_pos (by omega)], amSame.refl, hm⟩
  | k + 1, m, M, h, hT, hS, hm => by
    have hn := hτ.1
    have e : (((26 * s + (m + 1) : Nat) : Int)).toNat = 26 * s + (m + 1) := rfl
    have hT1 : cTx 0 τ (amUp M 124 0 (26 * s + (m + 1)) (ρ (m + 1))) := hT.mv fun c s' j hc => up_c fun ec => by subst ec; revert hc; unfold sTx; simp
    obtain ⟨M', a1, a2, a3⟩ := c_writeLoop hd hτ hs k (m + 1) _ (by omega) hT1 (hS.mv (fun j => up_c (by decide)) (fun j => up_c (by decide))) fun j h1 h2 => by
      by_cases ej : j = m + 1
      · subst ej; rw [up_on]
      · rw [up_j (by omega)]; exact hm j h1 (by omega)
    refine ⟨M', ?_, (amSame.refl.up (by unfold fBh; rw [show Nat.ble (26 * s) (26 * s + (m + 1)) = true from Nat.ble_eq_true_of_le (by omega)]; rfl)).trans a2, a3⟩
    rw [q_X9_writeRow_2, hT.1, if_neg (by omega), c_thickAt (by omega) (by omega), amCI_s, hS.2.2 (m + 1) (by omega) (by omega), w32_n (x := (s : Int) * 26) (n := 26 * s) (by omega) (by omega), w32_n (x := ((26 * s : Nat) : Int) + ((m + 1 : Nat) : Int)) (n := 26 * s + (m + 1)) (by omega) (by omega), c_put (n := 6656) (by omega) (by decide) (by decide) (by omega) (by omega), amCV_s, e, w32_n (x := ((m + 1 : Nat) : Int) + 1) (n := m + 1 + 1) (by omega) (by omega)]
    exact a1
theorem c_writeRow (hD : 2 ≤ D) (hτ : tOk τ) {s : Nat} (hs : s < 256) (hT : cTx 0 τ M) (hS : cTs (tN τ) 54 ρ M) : ∃ M', amD amGst D 95 [vR 9 9 0, vI (s : Int)] M = some (vU, M') ∧ amSame (fBh s) M M' ∧ ∀ j, 1 ≤ j → j ≤ tN τ → M' 124 0 (26 * s + j) = ρ j := by
  obtain ⟨d, rfl⟩ := dS hD
  rw [n_X9_writeRow, q_X9_writeRow_0]
  exact c_writeLoop (by omega) hτ hs (tN τ) 0 M (by omega) hT hS fun j h1 h2 => by omega
def mixR (A B : Rw) (m : Nat) : Rw := fun j => if j ≤ m then A j else B j
theorem c_readLoop (hd : 2 ≤ d) (hτ : tOk τ) {s : Nat} (hs : s < 256) {A B : Rw} (hA : ∀ j, 1 ≤ j → j ≤ tN τ → 0 ≤ A j) (hB : ∀ j, 1 ≤ j → j ≤ tN τ → 0 ≤ B j) : ∀ (k m : Nat) (M : AmM), m + k = tN τ → cTx 0 τ M → cTs (tN τ) 54 (mixR A B m) M → (∀ j, 1 ≤ j → j ≤ tN τ → M 124 0 (26 * s + j) = A j) → ∃ M', e_X9_readRow_2 d (s : Int) ((m + 1 : Nat) : Int) M = some (vU, M') ∧ amSame (fSt 54) M M' ∧ cTs (tN τ) 54 A M'
  | 0, m, M, h, hT, hS, hm => by
    have h : m = tN τ := h
    subst h
    exact ⟨M, by rw [q_X9_readRow_2, hT.1, if_pos (by omega)], amSame.refl, hS.row fun j h1 h2 => (if_pos h2).symm⟩
  | k + 1, m, M, h, hT, hS, hm => by
    have hn := hτ.1
    have e : (((26 * s + (m + 1) : Nat) : Int)).toNat = 26 * s + (m + 1) := rfl
    have hg := gonS_b (tN τ) (mixR A B m)
    have eB : mixR A B m (m + 1) = B (m + 1) := if_neg (by omega)
    have hS1 := hS.set (j := m + 1) (x := A (m + 1)) hn ⟨by omega, by omega⟩ (by rw [eB]; exact hB _ (by omega) (by omega)) (hA _ (by omega) (by omega))
    have hS2 := hS1.row (ρ' := mixR A B (m + 1)) fun j h1 h2 => by
      by_cases ej : j = m + 1
      · subst ej; rw [rUp_on]; exact if_pos (Nat.le_refl _)
      · rw [rUp_ne ej]
        unfold mixR
        by_cases hj : j ≤ m
        · rw [if_pos hj, if_pos (by omega)]
        · rw [if_neg hj, if_neg (by omega)]
    have hset := c_setThick (D := d) (r := 54) (M := M) (j := m + 1) (v := A (m + 1)) (by omega) (by omega) (by rw [hS.2.1]; omega)
    have s1 : amSame (fSt 54) M (amUp (amUp M 6 54 3 (M 6 54 3 + (if 0 < M 112 54 (m + 1) then 1 else 0) - (if 0 < A (m + 1) then 1 else 0))) 112 54 (m + 1) (A (m + 1))) := (amSame.refl.up (by rfl)).up (by rfl)
    generalize amUp (amUp M 6 54 3 (M 6 54 3 + (if 0 < M 112 54 (m + 1) then 1 else 0) - (if 0 < A (m + 1) then 1 else 0))) 112 54 (m + 1) (A (m + 1)) = M1 at hS1 hS2 hset s1
    have hT1 : cTx 0 τ M1 := hT.mv fun c s' j hc => s1 _ _ _ (by
      unfold sTx at hc
      simp only [Bool.and_eq_true, beq_iff_eq] at hc
      rw [hc.1]; rfl)
    obtain ⟨M', a1, a2, a3⟩ := c_readLoop hd hτ hs hA hB k (m + 1) M1 (by omega) hT1 hS2 fun j h1 h2 => (s1 124 0 _ (by rfl)).trans (hm j h1 h2)
    refine ⟨M', ?_, s1.trans a2, a3⟩
    rw [q_X9_readRow_2, hT.1, if_neg (by omega), w32_n (x := (s : Int) * 26) (n := 26 * s) (by omega) (by omega), w32_n (x := ((26 * s : Nat) : Int) + ((m + 1 : Nat) : Int)) (n := 26 * s + (m + 1)) (by omega) (by omega), c_at (n := 6656) (by omega) (by decide) (by decide) (by omega) (by omega), amCI_s, e, hm (m + 1) (by omega) (by omega), hset, amCV_s, w32_n (x := ((m + 1 : Nat) : Int) + 1) (n := m + 1 + 1) (by omega) (by omega)]
    exact a1
theorem c_readRow (hD : 3 ≤ D) (hτ : tOk τ) {s : Nat} (hs : s < 256) {A B : Rw} (hA : ∀ j, 1 ≤ j → j ≤ tN τ → 0 ≤ A j) (hB : ∀ j, 1 ≤ j → j ≤ tN τ → 0 ≤ B j) (hT : cTx 0 τ M) (hS : cTs (tN τ) 54 B M) (hm : ∀ j, 1 ≤ j → j ≤ tN τ → M 124 0 (26 * s + j) = A j) : ∃ M', amD amGst D 96 [vR 9 9 0, vI (s : Int)] M = some (vU, M') ∧ amSame (fSt 54) M M' ∧ cTs (tN τ) 54 A M' := by
  obtain ⟨d, rfl⟩ := dS hD
  rw [n_X9_readRow, q_X9_readRow_0]
  exact c_readLoop (by omega) hτ hs hA hB (tN τ) 0 M (by omega) hT (hS.row fun j h1 h2 => if_neg (by omega)) hm
/-- stairs built by the text -/
theorem c_buildLoop (hd : 1 ≤ d) (hn : n ≤ 24) {t : Nat} : ∀ (k i : Nat) (M : AmM), i + k = n → M 6 r 2 = n → (∀ j, 1 ≤ j → j ≤ n → M 112 r j = ρ j ∧ 0 ≤ ρ j) → M 6 r 3 = gonS i ρ → ∃ M', e_X6_build_33 d r t ((i + 1 : Nat) : Int) M = some (vU, M') ∧ M' 6 r 3 = gonS n ρ ∧ amSame (fun c s j => c == 6 && s == r && j == 3) M M'
  | 0, i, M, h, h2, hth, hg => by
    have h : i = n := h
    subst h
    exact ⟨M, by rw [q_X6_build_33, h2, if_pos (by omega)], hg, amSame.refl⟩
  | k + 1, i, M, h, h2, hth, hg => by
    have e : (((i + 1 : Nat) : Int)).toNat = i + 1 := rfl
    have hb := gonS_b i ρ
    obtain ⟨t1, t2⟩ := hth (i + 1) (by omega) (by omega)
    have nx : ∀ z : Int, z = gonS (i + 1) ρ → ∃ M', e_X6_build_33 d r t ((i + 1 + 1 : Nat) : Int) (amUp M 6 r 3 z) = some (vU, M') ∧ M' 6 r 3 = gonS n ρ ∧ amSame (fun c s j => c == 6 && s == r && j == 3) M M' := fun z hz => by
      obtain ⟨M', a1, a2, a3⟩ := c_buildLoop hd hn k (i + 1) (amUp M 6 r 3 z) (by omega) ((up_j (by decide)).trans h2) (fun j q1 q2 => ⟨(up_c (by decide)).trans (hth j q1 q2).1, (hth j q1 q2).2⟩) (up_on.trans hz)
      exact ⟨M', a1, a2, (amSame.refl.up (by simp)).trans a3⟩
    have eg : gonS (i + 1) ρ = gonS i ρ + (if ρ (i + 1) = 0 then 1 else 0) := rfl
    rw [q_X6_build_33, h2, if_neg (by omega), c_at (n := 26) (by omega) (by decide) (by decide) (by omega) (by omega), amCI_s, e, t1, hg, w32_n (x := ((i + 1 : Nat) : Int) + 1) (n := i + 1 + 1) (by omega) (by omega)]
    by_cases h0 : 0 < ρ (i + 1)
    · rw [if_pos h0]
      rw [if_neg (by omega)] at eg
      exact nx _ (by rw [w32_id (by omega) (by omega)]; omega)
    · rw [if_neg h0]
      rw [if_pos (by omega)] at eg
      exact nx _ (by rw [w32_id (by omega) (by omega)]; omega)
theorem c_build (hD : 2 ≤ D) (hτ : tOk τ) (hT : cTx 0 τ M) : ∃ M', amD amGst D 52 [vR 6 6 r, vR 8 8 0] M = some (vU, M') ∧ cSt (tN τ) r (bgS τ) M' ∧ amSame (fSt r) M M' := by
  obtain ⟨d, rfl⟩ := dS hD
  have hn := hτ.1
  have hb : ∀ j, 1 ≤ j → j ≤ tN τ → bgS τ j = tTh τ j := fun j h1 h2 => if_pos ⟨h1, h2⟩
  generalize hM0 : amCpy (amUp M 6 r 2 (M 8 0 5)) 118 0 0 112 r 0 ((26 : Nat) : Int) = M0
  have s0 : amSame (fSt r) M M0 := by
    rw [← hM0]
    exact (amSame.refl.up (by unfold fSt; simp)).cpy fun j => by unfold fSt; simp
  have h02 : M0 6 r 2 = tN τ := by rw [← hM0, cpy_c (by decide), up_on]; exact hT.1
  have hth0 : ∀ j, 1 ≤ j → j ≤ tN τ → M0 112 r j = bgS τ j := fun j h1 h2 => by
    rw [← hM0, cpy_at (by omega), up_c (by decide), hb j h1 h2]
    exact hT.2.2.2.2.2.1 j h1 h2
  obtain ⟨M1, w1, w2, w3⟩ := c_wipe (D := d) (c := 113) (r := r) (n := 26) (M := M0) (by omega) (by decide) (by decide) (by omega)
  have s1 : amSame (fSt r) M0 M1 := w2.mono fun c s j h => by
    simp only [Bool.and_eq_true, beq_iff_eq] at h
    unfold fSt
    rw [h.1, h.2]; simp
  have k1 : ∀ c j, c ≠ 113 → M1 c r j = M0 c r j := fun c j hc => w2 c r j (by show (c == 113 && r == r) = false; rw [beq_false_of_ne hc]; rfl)
  obtain ⟨M2, l1, l2, l3⟩ := c_buildLoop (d := d) (r := r) (ρ := bgS τ) (t := 0) (by omega) hn (tN τ) 0 (amUp M1 6 r 3 0) (by omega) (by rw [up_j (by decide), k1 6 2 (by decide)]; exact h02) (fun j h1 h2 => ⟨by rw [up_c (by decide), k1 112 j (by decide)]; exact hth0 j h1 h2, by rw [hb j h1 h2]; exact (hτ.2.1 j h1 h2).1⟩) up_on
  have k2 : ∀ c j, (c ≠ 6 ∨ j ≠ 3) → M2 c r j = M1 c r j := fun c j hc => by
    rw [l3 c r j (by
      show (c == 6 && r == r && j == 3) = false
      rcases hc with hc | hc
      · rw [beq_false_of_ne hc]; rfl
      · rw [beq_false_of_ne hc, Bool.and_false])]
    rcases hc with hc | hc
    · exact up_c hc
    · exact up_j hc
  refine ⟨M2, ?_, ⟨?_, l2, fun j h1 h2 => ⟨?_, ?_⟩⟩, ?_⟩
  · rw [n_X6_build, q_X6_build_0, c_copy (n := 26) (by omega) (by decide) (by decide) (by decide) (by decide), amCV_s, hM0, w1, amCV_s]
    exact l1
  · rw [k2 6 2 (Or.inr (by decide)), k1 6 2 (by decide)]; exact h02
  · rw [k2 112 j (Or.inl (by decide)), k1 112 j (by decide)]; exact hth0 j h1 h2
  · rw [k2 113 j (Or.inl (by decide)), w3 j (by omega)]
    unfold bgS
    rw [if_neg (by omega), if_neg (by omega)]
  · refine ((s0.trans s1).up (by unfold fSt; simp)).trans (l3.mono fun c s j h => ?_)
    simp only [Bool.and_eq_true, beq_iff_eq] at h
    unfold fSt
    rw [h.1.1, h.1.2]; simp
end TLC
