/-! PURE: season: days and what is noted -/
abbrev Nt : Type := Option (Nat × Int × Int)
/-- (day, step, by) is noted if a step was lost and nothing is noted yet -/
def ntO (i : Nat) (s b : Int) (o : Nt) : Nt := match o with
  | some x => some x
  | none => if s < 0 then none else some (i, s, b)
def dayS (τ : Tx) (i : Nat) : Nat → Nat → Rw → Nt → Rw × Nt
  | 0, _, ρ, o => (ρ, o)
  | k + 1, p, ρ, o => if p < tP τ ∧ ρ (50 + p) = 0 then dayS τ i k (p + 1) (goS τ ρ p) (ntO i (goR τ ρ p).2.2.2.2 p o) else dayS τ i k (p + 1) ρ o
def seaN (τ : Tx) (i : Nat) (x : Rw × Nt) : Nt := ntO i (rnF (rainS τ (x.1 83)) x.1 (tN τ)) (-2) x.2
def seaS (τ : Tx) : Nat → Nat → Rw → Nt → Rw × Nt
  | 0, _, ρ, o => (ρ, o)
  | k + 1, i, ρ, o => seaS τ k (i + 1) (ntS τ (dayS τ i 8 0 ρ o).1) (seaN τ i (dayS τ i 8 0 ρ o))
def seaP (o : Nt) (w : Int) : Int := match o with
  | none => -3
  | some (i, s, b) => if w = 0 then (i : Int) else if w = 1 then s else b
def seasonS (τ : Tx) (ρ : Rw) (n w : Int) : Int := if (1 ≤ n ∧ n ≤ 100) ∧ 0 ≤ w ∧ w ≤ 3 then (if w = 3 then sumS (fun p => (seaS τ n.toNat 0 ρ none).1 (74 + p)) (tP τ) else seaP (seaS τ n.toNat 0 ρ none).2 w) else -1
theorem dayS_rest {τ : Tx} {i : Nat} : ∀ (k p : Nat) (ρ : Rw) (o : Nt), tP τ ≤ p → dayS τ i k p ρ o = (ρ, o)
  | 0, _, _, _, _ => rfl
  | k + 1, p, ρ, o, h => by
    unfold dayS
    rw [if_neg (by omega)]
    exact dayS_rest k (p + 1) ρ o (by omega)
theorem w32_w32 (x : Int) : w32 (w32 x) = w32 x := w32_id (w32_i x).1 (w32_i x).2
def s66 (τ : Tx) (ρ : Rw) : Prop := ∀ p, p < tP τ → w32 (ρ (66 + p)) = ρ (66 + p)
theorem s66.go {τ : Tx} {ρ : Rw} {i : Nat} (hτ : tOk τ) (h : s66 τ ρ) (hi : i < tP τ) : s66 τ (goS τ ρ i) := fun p hp => by
  have hP := hτ.2.2.2.2.2.2.1
  unfold goS
  rw [setS_66 (by omega) (by omega)]
  split
  · exact w32_w32 _
  · exact h p hp
theorem ntS_off {τ : Tx} (hτ : tOk τ) {ρ : Rw} {j : Nat} (h1 : tN τ < j) (h2 : j ≠ 82) (h3 : j ≠ 83) : ntS τ ρ j = ρ j := by
  unfold ntS
  rw [if_neg h2, if_neg h3, rnR_hi h1]
theorem s66.nt {τ : Tx} {ρ : Rw} (hτ : tOk τ) (h : s66 τ ρ) : s66 τ (ntS τ ρ) := fun p hp => by
  have hP := hτ.2.2.2.2.2.2.1
  have hn := hτ.1
  rw [ntS_off hτ (by omega) (by omega) (by omega)]
  exact h p hp
theorem goS_83 {τ : Tx} {ρ : Rw} {p : Nat} (hp : p < 8) : goS τ ρ p 83 = ρ 83 := setS_hi hp (by omega)
theorem goS_ok1 {τ : Tx} {B : Int} {ρ : Rw} {p : Nat} (hτ : tOk τ) (h : sOk1 τ B ρ) (hp : p < tP τ) : sOk1 τ B (goS τ ρ p) := by
  have hP := hτ.2.2.2.2.2.2.1
  have h83 := h.2.2.2
  have h1 : sOk τ (ρ 83).toNat ρ := ⟨h.1, h.2.1, h.2.2.1, h83.1, by omega⟩
  have h2 := goS_ok hτ h1 hp
  refine ⟨h2.1, h2.2.1, h2.2.2.1, h2.2.2.2.1, ?_⟩
  rw [goS_83 (by omega)]
  exact h83.2
theorem sumS_up {f g : Nat → Int} {p : Nat} {x : Int} (hg : g p = f p + x) (he : ∀ i, i ≠ p → g i = f i) : ∀ n : Nat, p < n → sumS g n = sumS f n + x
  | 0, h => by omega
  | n + 1, h => by
    have e1 : sumS g (n + 1) = sumS g n + g n := rfl
    have e2 : sumS f (n + 1) = sumS f n + f n := rfl
    by_cases hp : p = n
    · subst hp
      rw [e1, e2, hg, sumS_eq (f := g) (g := f) p (fun i hi => he i (by omega))]
      omega
    · rw [e1, e2, sumS_up hg he n (by omega), he n (by omega)]
      omega
/-- how many are stuck -/
def stkS (τ : Tx) (ρ : Rw) : Int := sumS (fun p => ρ (74 + p)) (tP τ)
theorem stkS_go {τ : Tx} {B : Int} {ρ : Rw} {p : Nat} (hτ : tOk τ) (h : sOk1 τ B ρ) (hp : p < tP τ) (hg : ρ (50 + p) = 0) : stkS τ (goS τ ρ p) = stkS τ ρ + (if (goR τ ρ p).1 = 2 then 1 else 0) := by
  have hP := hτ.2.2.2.2.2.2.1
  have h0 := (h.2.1 p hp).2.2 hg
  have key : ∀ n, n ≤ tP τ → p < n → sumS (fun q => goS τ ρ p (74 + q)) n = sumS (fun q => ρ (74 + q)) n + (if (goR τ ρ p).1 = 2 then 1 else 0) := fun n hn hpn => by
    have e : sumS (fun q => goS τ ρ p (74 + q)) n = sumS (fun q => if q < 8 then goS τ ρ p (74 + q) else ρ (74 + q)) n := sumS_eq n fun i hi => by
      rw [if_pos (show i < 8 by omega)]
    rw [e]
    refine sumS_up ?_ (fun i hi => ?_) n hpn
    · rw [if_pos (show p < 8 by omega)]
      unfold goS
      rw [setS_74 (by omega) (by omega), if_pos rfl, h0]
      omega
    · by_cases h8 : i < 8
      · rw [if_pos h8]
        unfold goS
        rw [setS_74 (by omega) h8, if_neg hi]
      · rw [if_neg h8]
  exact key (tP τ) (by omega) hp
theorem stkS_b {τ : Tx} {B : Int} {ρ : Rw} (hτ : tOk τ) (h : sOk1 τ B ρ) : 0 ≤ stkS τ ρ ∧ stkS τ ρ ≤ 8 := by
  have hP := hτ.2.2.2.2.2.2.1
  have := sumS_b (f := fun p => ρ (74 + p)) (b := 1) (by omega) (tP τ) (fun j hj => by
    show 0 ≤ ρ (74 + j) ∧ ρ (74 + j) ≤ 1
    rcases (h.2.1 j hj).2.1 with h | h <;> omega)
  unfold stkS
  omega
theorem stkS_nt {τ : Tx} {ρ : Rw} (hτ : tOk τ) : stkS τ (ntS τ ρ) = stkS τ ρ := sumS_eq _ fun i hi => by
  have hP := hτ.2.2.2.2.2.2.1
  have hn := hτ.1
  exact ntS_off hτ (by omega) (by omega) (by omega)
/-- bits: one taken out -/
def clrN (x p : Nat) : Nat := x &&& (255 ^^^ 2 ^ p)
theorem bClr : ∀ x : Nat, x < 256 → ∀ p : Nat, p < 8 → bAnd (x : Int) (bXor (bShl 1 (p : Int)) (-1)) = ((clrN x p : Nat) : Int) := by decide +kernel
theorem bSelf : ∀ x : Nat, x < 256 → bAnd (x : Int) (x : Int) = (x : Int) := by decide +kernel
theorem b255 : ∀ q : Nat, q < 8 → Nat.testBit 255 q = true := by decide
theorem clrN_bit {x p q : Nat} (hq : q < 8) : (clrN x p).testBit q = (x.testBit q && !decide (q = p)) := by
  unfold clrN
  rw [Nat.testBit_and, Nat.testBit_xor, b255 q hq, Nat.testBit_two_pow]
  by_cases h : q = p
  · subst h; simp
  · rw [decide_eq_false h, decide_eq_false (fun e => h e.symm)]; rfl
theorem clrN_lt {x p : Nat} (hx : x < 256) : clrN x p < 256 := by
  have := Nat.and_le_left (n := x) (m := 255 ^^^ 2 ^ p)
  unfold clrN
  omega
theorem byte_eq {a b : Nat} (ha : a < 256) (hb : b < 256) (h : ∀ q, q < 8 → a.testBit q = b.testBit q) : a = b := Nat.eq_of_testBit_eq fun q => by
  by_cases hq : q < 8
  · exact h q hq
  · have h2 : (2 : Nat) ^ 8 ≤ 2 ^ q := Nat.pow_le_pow_right (by omega) (by omega)
    have h3 : (2 : Nat) ^ 8 = 256 := rfl
    rw [Nat.testBit_lt_two_pow (show a < 2 ^ q by omega), Nat.testBit_lt_two_pow (show b < 2 ^ q by omega)]
theorem goS_50 {τ : Tx} {ρ : Rw} {p q : Nat} (hp : p < 8) (hq : q < 8) : goS τ ρ p (50 + q) = if q = p then ((goR τ ρ p).2.1 : Int) else ρ (50 + q) := setS_50 hp hq
theorem grN_go {τ : Tx} {ρ : Rw} {p : Nat} (hp : p < 8) (hpp : p < tP τ) (hg : ρ (50 + p) = 0) : grN τ (goS τ ρ p) 8 = if (goR τ ρ p).2.1 = 0 then grN τ ρ 8 else clrN (grN τ ρ 8) p := by
  have hl := grN_lt τ ρ 8 (by omega)
  refine byte_eq (grN_lt τ _ 8 (by omega)) ?_ fun q hq => ?_
  · split
    · exact hl
    · exact clrN_lt hl
  · rw [grN_bit, goS_50 hp hq]
    by_cases h0 : (goR τ ρ p).2.1 = 0
    · rw [if_pos h0, grN_bit]
      by_cases e : q = p
      · subst e
        rw [if_pos rfl, h0, hg]
        rfl
      · rw [if_neg e]
    · rw [if_neg h0, clrN_bit hq, grN_bit]
      by_cases e : q = p
      · subst e
        rw [if_pos rfl, decide_eq_true (rfl : q = q), decide_eq_false (show ¬ (q < 8 ∧ q < tP τ ∧ ((goR τ ρ q).2.1 : Int) = 0) by omega)]
        simp
      · rw [if_neg e, decide_eq_false e]
        simp
theorem grN_eq {τ : Tx} {ρ ρ' : Rw} (h : ∀ q, q < 8 → ρ' (50 + q) = ρ (50 + q)) : grN τ ρ' 8 = grN τ ρ 8 := byte_eq (grN_lt τ _ 8 (by omega)) (grN_lt τ _ 8 (by omega)) fun q hq => by rw [grN_bit, grN_bit, h q hq]
theorem ntS_ground {τ : Tx} {ρ : Rw} (hτ : tOk τ) : grN τ (ntS τ ρ) 8 = grN τ ρ 8 := grN_eq fun q hq => by
  have hn := hτ.1
  exact ntS_off hτ (by omega) (by omega) (by omega)
/-- the class's notes -/
def cNt (o : Nt) (M : AmM) : Prop := match o with
  | none => M 0 0 4 = -3 ∧ M 0 0 5 = -3 ∧ M 0 0 6 = -3
  | some (i, s, b) => M 0 0 4 = (i : Int) ∧ M 0 0 5 = s ∧ M 0 0 6 = b
theorem cNt.mv {o : Nt} {M M' : AmM} (h : cNt o M) (hs : ∀ j, 4 ≤ j → j ≤ 6 → M' 0 0 j = M 0 0 j) : cNt o M' := by
  have h4 := hs 4 (by omega) (by omega)
  have h5 := hs 5 (by omega) (by omega)
  have h6 := hs 6 (by omega) (by omega)
  unfold cNt at h ⊢
  cases o with
  | none => exact ⟨h4.trans h.1, h5.trans h.2.1, h6.trans h.2.2⟩
  | some x => exact ⟨h4.trans h.1, h5.trans h.2.1, h6.trans h.2.2⟩
def fNo : Nat → Nat → Nat → Bool := fun c s j => c == 0 && (s == 0 && (j == 4 || j == 5 || j == 6))
theorem c_note {D i : Nat} {s b : Int} {o : Nt} {M : AmM} (hD : 1 ≤ D) (hs : -1 ≤ s) (h : cNt o M) : ∃ M', amD amGst D 8 [vR 0 0 0, vI (i : Int), vI s, vI b] M = some (vU, M') ∧ cNt (ntO i s b o) M' ∧ amSame fNo M M' := by
  obtain ⟨d, rfl⟩ := dS hD
  rw [n_X0_noteLost, q_X0_noteLost_0]
  cases o with
  | some x =>
    have h4 : M 0 0 4 = (x.1 : Int) := h.1
    exact ⟨M, by rw [h4, if_neg (by omega)], h, amSame.refl⟩
  | none =>
    have h4 : M 0 0 4 = -3 := h.1
    rw [h4, if_pos rfl]
    by_cases h0 : s = -1
    · refine ⟨M, by rw [if_pos h0], ?_, amSame.refl⟩
      show cNt (if s < 0 then none else some (i, s, b)) M
      rw [if_pos (by omega)]
      exact h
    · refine ⟨_, by rw [if_neg h0], ?_, ((amSame.refl.up (by rfl)).up (by rfl)).up (by rfl)⟩
      show cNt (if s < 0 then none else some (i, s, b)) _
      rw [if_neg (by omega)]
      refine ⟨?_, ?_, ?_⟩
      · rw [up_j (by decide), up_j (by decide), up_on]
      · rw [up_j (by decide), up_on]
      · rw [up_on]
theorem rnF_b {u : Int} {ρ : Rw} : ∀ n : Nat, -1 ≤ rnF u ρ n
  | 0 => by unfold rnF; omega
  | n + 1 => by
    have := rnF_b (u := u) (ρ := ρ) n
    unfold rnF
    split <;> omega
