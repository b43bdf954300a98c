/-! PURE: sets of pilgrims -/
theorem bShl1 : ∀ i : Nat, i < 9 → bShl 1 (i : Int) = ((2 ^ i : Nat) : Int) := by decide +kernel
theorem bBit : ∀ x : Nat, x < 256 → ∀ p : Nat, p < 8 → bAnd (bShr (x : Int) (p : Int)) 1 = if Nat.testBit x p then 1 else 0 := by decide +kernel
/-- the pilgrims on the ground -/
def grN (τ : Tx) (ρ : Rw) : Nat → Nat
  | 0 => 0
  | i + 1 => grN τ ρ i ||| (if i < tP τ ∧ ρ (50 + i) = 0 then 2 ^ i else 0)
theorem grN_bit (τ : Tx) (ρ : Rw) (j : Nat) : ∀ i : Nat, (grN τ ρ i).testBit j = decide (j < i ∧ j < tP τ ∧ ρ (50 + j) = 0)
  | 0 => by
    unfold grN
    rw [Nat.zero_testBit]
    exact (decide_eq_false (by omega)).symm
  | i + 1 => by
    unfold grN
    rw [Nat.testBit_or, grN_bit τ ρ j i]
    by_cases hji : j = i
    · subst hji
      rw [decide_eq_false (show ¬ (j < j ∧ j < tP τ ∧ ρ (50 + j) = 0) by omega), Bool.false_or]
      by_cases h : j < tP τ ∧ ρ (50 + j) = 0
      · rw [if_pos h, Nat.testBit_two_pow_self, decide_eq_true (show j < j + 1 ∧ j < tP τ ∧ ρ (50 + j) = 0 from ⟨by omega, h⟩)]
      · rw [if_neg h, Nat.zero_testBit, decide_eq_false (show ¬ (j < j + 1 ∧ j < tP τ ∧ ρ (50 + j) = 0) from fun q => h q.2)]
    · have h2 : (if i < tP τ ∧ ρ (50 + i) = 0 then 2 ^ i else 0 : Nat).testBit j = false := by
        split
        · exact Nat.testBit_two_pow_of_ne (by omega)
        · exact Nat.zero_testBit j
      rw [h2, Bool.or_false]
      exact decide_eq_decide.mpr ⟨fun ⟨a, b⟩ => ⟨by omega, b⟩, fun ⟨a, b⟩ => ⟨by omega, b⟩⟩
theorem grN_lt (τ : Tx) (ρ : Rw) (i : Nat) (hi : i ≤ 8) : grN τ ρ i < 256 := Nat.lt_pow_two_of_testBit (n := 8) _ fun j hj => by
  rw [grN_bit]
  exact decide_eq_false (by omega)
/-- a set all of whose pilgrims are on the ground -/
def onSet (τ : Tx) (ρ : Rw) (s : Int) : Prop := 0 ≤ s ∧ s < 2 ^ tP τ ∧ ∀ p, p < tP τ → s.toNat.testBit p = true → ρ (50 + p) = 0
theorem onSet_iff {τ : Tx} {ρ : Rw} {s : Int} (hP : tP τ ≤ 8) : onSet τ ρ s ↔ (0 ≤ s ∧ s.toNat &&& grN τ ρ 8 = s.toNat) := by
  constructor
  · rintro ⟨h0, h1, h2⟩
    refine ⟨h0, Nat.eq_of_testBit_eq fun j => ?_⟩
    rw [Nat.testBit_and, grN_bit]
    cases hb : s.toNat.testBit j with
    | false => rfl
    | true =>
      have hj : j < tP τ := by
        by_cases hj : j < tP τ
        · exact hj
        · have hlt : s.toNat < 2 ^ j := by
            have h3 : (2 : Nat) ^ tP τ ≤ 2 ^ j := Nat.pow_le_pow_right (by omega) (by omega)
            have h4 : s.toNat < 2 ^ tP τ := by
              have h5 : ((2 ^ tP τ : Nat) : Int) = (2 : Int) ^ tP τ := by rw [Int.natCast_pow]; rfl
              omega
            omega
          rw [Nat.testBit_lt_two_pow hlt] at hb
          cases hb
      rw [decide_eq_true (show j < 8 ∧ j < tP τ ∧ ρ (50 + j) = 0 from ⟨by omega, hj, h2 j hj hb⟩)]
      rfl
  · rintro ⟨h0, h1⟩
    have key : ∀ j, s.toNat.testBit j = true → j < 8 ∧ j < tP τ ∧ ρ (50 + j) = 0 := fun j hb => by
      rw [← h1, Nat.testBit_and, grN_bit, Bool.and_eq_true] at hb
      exact of_decide_eq_true hb.2
    refine ⟨h0, ?_, fun p hp hb => (key p hb).2.2⟩
    have h4 : s.toNat < 2 ^ tP τ := Nat.lt_pow_two_of_testBit _ fun j hj => by
      cases hb : s.toNat.testBit j with
      | false => rfl
      | true => have := key j hb; omega
    have h5 : ((2 ^ tP τ : Nat) : Int) = (2 : Int) ^ tP τ := by rw [Int.natCast_pow]; rfl
    omega
theorem onSet_lt {τ : Tx} {ρ : Rw} {s : Int} (hP : tP τ ≤ 8) (h : onSet τ ρ s) : 0 ≤ s ∧ s < 256 := by
  have h5 : ((2 ^ tP τ : Nat) : Int) = (2 : Int) ^ tP τ := by rw [Int.natCast_pow]; rfl
  have h3 : (2 : Nat) ^ tP τ ≤ 2 ^ 8 := Nat.pow_le_pow_right (by omega) hP
  have h1 := h.1
  have h2 := h.2.1
  omega
theorem bAndNot {s g : Int} (hs : -2147483648 ≤ s ∧ s < 2147483648) (hg : 0 ≤ g ∧ g < 256) : bAnd s (bXor g (-1)) = 0 ↔ (0 ≤ s ∧ s.toNat &&& g.toNat = s.toNat) := by
  have e : bAnd s (bXor g (-1)) = ((Int32.ofInt s).toBitVec &&& ((Int32.ofInt g).toBitVec ^^^ (Int32.ofInt (-1)).toBitVec)).toInt := by
    unfold bAnd bXor
    rw [Int32.ofInt_toInt]
    rfl
  have hG : (Int32.ofInt g).toBitVec.toNat = g.toNat := bv_of hg.1 (by omega)
  have hS : (Int32.ofInt s).toBitVec.toInt = s := by
    show (BitVec.ofInt 32 s).toInt = s
    rw [BitVec.toInt_ofInt]
    show Int.bmod s 4294967296 = s
    unfold Int.bmod
    dsimp only
    split <;> omega
  have hone : ∀ i, i < 32 → (Int32.ofInt (-1)).toBitVec.getLsbD i = true := by decide +kernel
  rw [e]
  generalize (Int32.ofInt s).toBitVec = S at hS ⊢
  generalize (Int32.ofInt g).toBitVec = G at hG ⊢
  generalize (Int32.ofInt (-1)).toBitVec = O at hone ⊢
  have h1 : (S &&& (G ^^^ O)).toInt = 0 ↔ S &&& G = S := by
    constructor
    · intro h
      have h2 : S &&& (G ^^^ O) = 0#32 := BitVec.eq_of_toInt_eq (by rw [h]; rfl)
      refine BitVec.eq_of_getLsbD_eq fun i hi => ?_
      have h3 : (S &&& (G ^^^ O)).getLsbD i = false := by rw [h2]; exact BitVec.getLsbD_zero
      rw [BitVec.getLsbD_and, BitVec.getLsbD_xor, hone i hi] at h3
      rw [BitVec.getLsbD_and]
      cases ha : S.getLsbD i <;> cases hb : G.getLsbD i <;> rw [ha, hb] at h3 <;> first | rfl | cases h3
    · intro h
      have h2 : S &&& (G ^^^ O) = 0#32 := by
        refine BitVec.eq_of_getLsbD_eq fun i hi => ?_
        have h3 : (S &&& G).getLsbD i = S.getLsbD i := by rw [h]
        rw [BitVec.getLsbD_and] at h3
        rw [BitVec.getLsbD_and, BitVec.getLsbD_xor, hone i hi, BitVec.getLsbD_zero]
        cases ha : S.getLsbD i <;> cases hb : G.getLsbD i <;> rw [ha, hb] at h3 <;> first | rfl | cases h3
      rw [h2]; rfl
  rw [h1]
  have hlt := S.isLt
  have hle : S.toNat &&& g.toNat ≤ g.toNat := Nat.and_le_right
  have hSe : S.toInt = if 2 * S.toNat < 2 ^ 32 then (S.toNat : Int) else (S.toNat : Int) - ((2 ^ 32 : Nat) : Int) := BitVec.toInt_eq_toNat_cond S
  constructor
  · intro h
    have h2 : S.toNat &&& g.toNat = S.toNat := by rw [← hG, ← BitVec.toNat_and, h]
    rw [if_pos (by omega)] at hSe
    have h3 : s.toNat = S.toNat := by omega
    exact ⟨by omega, by rw [h3]; exact h2⟩
  · rintro ⟨h0, h2⟩
    have h3 : s.toNat = S.toNat := by
      by_cases h4 : 2 * S.toNat < 2 ^ 32
      · rw [if_pos h4] at hSe; omega
      · rw [if_neg h4] at hSe; omega
    rw [h3] at h2
    exact BitVec.eq_of_toNat_eq (by rw [BitVec.toNat_and, hG]; exact h2)
section ST
variable {D d v : Nat} {τ : Tx} {ρ : Rw} {M : AmM} {N : Nat}
theorem c_groundLoop (hd : 2 ≤ d) (hτ : tOk τ) (hT : cTx 0 τ M) (hS : cSc τ 0 ρ M) : ∀ (k i : Nat), i + k = 8 → e_X5_grounded_4 d 0 ((grN τ ρ i : Nat) : Int) (i : Int) M = some (vI ((grN τ ρ 8 : Nat) : Int), M)
  | 0, i, h => by
    have h : i = 8 := h
    subst h
    rw [q_X5_grounded_4, if_neg (by omega)]
  | k + 1, i, h => by
    have ih := c_groundLoop hd hτ hT hS k (i + 1) (by omega)
    have hb := grN_lt τ ρ i (by omega)
    have hpw : 2 ^ i < 256 := Nat.lt_of_lt_of_le (Nat.pow_lt_pow_right (a := 2) (by omega) (show i < 8 by omega)) (by decide)
    have e1 : grN τ ρ (i + 1) = grN τ ρ i ||| (if i < tP τ ∧ ρ (50 + i) = 0 then 2 ^ i else 0) := rfl
    rw [e1] at ih
    have hb1 := bShl1 i (by omega)
    generalize 2 ^ i = q at hpw hb1 ih
    rw [q_X5_grounded_4, if_pos (by omega), w32_n (x := (i : Int) + 1) (n := i + 1) (by omega) (by omega)]
    by_cases hi : i < tP τ
    · rw [c_onGround (by omega) hτ hT hS hi, amCI_s]
      by_cases h0 : ρ (50 + i) = 0
      · rw [if_pos (show i < tP τ ∧ ρ (50 + i) = 0 from ⟨hi, h0⟩)] at ih
        rw [if_pos h0, if_neg (show ¬ (1 : Int) = 0 by decide), hb1, bOr_n (by omega) (by omega) (by omega) (by omega)]
        exact ih
      · rw [if_neg (show ¬ (i < tP τ ∧ ρ (50 + i) = 0) from fun q => h0 q.2)] at ih
        rw [if_neg h0, if_pos (show (0 : Int) = 0 from rfl), bOr_n (by omega) (by omega) (by omega) (by omega)]
        exact ih
    · rw [if_neg (show ¬ (i < tP τ ∧ ρ (50 + i) = 0) from fun q => hi q.1)] at ih
      rw [c_onGroundN (by omega) hT (by omega), amCI_s, if_pos (show (0 : Int) = 0 from rfl), bOr_n (by omega) (by omega) (by omega) (by omega)]
      exact ih
theorem c_grounded (hD : 3 ≤ D) (hτ : tOk τ) (hT : cTx 0 τ M) (hS : cSc τ 0 ρ M) : amD amGst D 49 [vR 5 5 0] M = some (vI ((grN τ ρ 8 : Nat) : Int), M) := by
  obtain ⟨d, rfl⟩ := dS hD
  rw [n_X5_grounded, q_X5_grounded_0]
  exact c_groundLoop (by omega) hτ hT hS 8 0 (by omega)
theorem c_areOnY (hD : 4 ≤ D) (hτ : tOk τ) (hT : cTx 0 τ M) (hS : cSc τ 0 ρ M) {s : Int} (hs : -2147483648 ≤ s ∧ s < 2147483648) (h : onSet τ ρ s) : amD amGst D 140 [vR 11 11 0, vI s] M = some (vI 1, M) := by
  obtain ⟨d, rfl⟩ := dS hD
  have hb := grN_lt τ ρ 8 (by omega)
  have e : (((grN τ ρ 8 : Nat) : Int)).toNat = grN τ ρ 8 := rfl
  have hiff := bAndNot (s := s) (g := ((grN τ ρ 8 : Nat) : Int)) hs (by omega)
  rw [e, ← onSet_iff hτ.2.2.2.2.2.2.1] at hiff
  rw [n_X11_areOnGround, q_X11_areOnGround_0, c_grounded (by omega) hτ hT hS, amCI_s, if_pos (hiff.mpr h)]
theorem c_areOnN (hD : 4 ≤ D) (hτ : tOk τ) (hT : cTx 0 τ M) (hS : cSc τ 0 ρ M) {s : Int} (hs : -2147483648 ≤ s ∧ s < 2147483648) (h : ¬ onSet τ ρ s) : amD amGst D 140 [vR 11 11 0, vI s] M = some (vI 0, M) := by
  obtain ⟨d, rfl⟩ := dS hD
  have hb := grN_lt τ ρ 8 (by omega)
  have e : (((grN τ ρ 8 : Nat) : Int)).toNat = grN τ ρ 8 := rfl
  have hiff := bAndNot (s := s) (g := ((grN τ ρ 8 : Nat) : Int)) hs (by omega)
  rw [e, ← onSet_iff hτ.2.2.2.2.2.2.1] at hiff
  rw [n_X11_areOnGround, q_X11_areOnGround_0, c_grounded (by omega) hτ hT hS, amCI_s, if_neg (fun q => h (hiff.mp q))]
theorem c_has (hD : 1 ≤ D) {s : Int} (hs : 0 ≤ s ∧ s < 256) {p : Nat} (hp : p < 8) : amD amGst D 146 [vI s, vI p] M = some (vI (if s.toNat.testBit p then 1 else 0), M) := by
  obtain ⟨d, rfl⟩ := dS hD
  have h := bBit s.toNat (by omega) p hp
  rw [show ((s.toNat : Nat) : Int) = s by omega] at h
  rw [n_X11_has, q_X11_has_0, h]
  by_cases hb : s.toNat.testBit p = true
  · rw [if_pos hb, if_pos (show (1 : Int) = 1 from rfl)]
  · rw [if_neg hb, if_neg (show ¬ (0 : Int) = 1 by decide)]
theorem r_isSetLoopY (hd : 1 ≤ d) (hτ : tOk τ) (hT : rTx v τ M) (hS : rNow ρ M) {s : Int} (hs : 0 ≤ s ∧ s < 256) : ∀ (k i : Nat), i + k = tP τ → (∀ p, i ≤ p → p < tP τ → s.toNat.testBit p = true → ρ (50 + p) = 0) → e_X12_isSet_20 d s (i : Int) M = some (vI 1, M)
  | 0, i, h, hA => by
    have h : i = tP τ := h
    subst h
    rw [q_X12_isSet_20, r_many (by omega) hT, amCI_s, if_neg (by omega)]
  | k + 1, i, h, hA => by
    have hP := hτ.2.2.2.2.2.2.1
    have ih := r_isSetLoopY hd hτ hT hS hs k (i + 1) (by omega) (fun p a b c => hA p (by omega) b c)
    have hbit := bBit s.toNat (by omega) i (by omega)
    rw [show ((s.toNat : Nat) : Int) = s by omega] at hbit
    rw [q_X12_isSet_20, r_many (by omega) hT, amCI_s, if_pos (show (i : Int) < ((tP τ : Nat) : Int) by omega), hbit, w32_n (x := (i : Int) + 1) (n := i + 1) (by omega) (by omega)]
    by_cases hb : s.toNat.testBit i = true
    · rw [if_pos hb, if_pos (show (1 : Int) = 1 from rfl), r_onGround (by omega) hS (by omega), amCI_s, if_pos (hA i (by omega) (by omega) hb), if_neg (show ¬ (1 : Int) = 0 by decide), ih]
    · rw [if_neg hb, if_neg (show ¬ (0 : Int) = 1 by decide), ih]
theorem r_isSetLoopN (hd : 1 ≤ d) (hτ : tOk τ) (hT : rTx v τ M) (hS : rNow ρ M) {s : Int} (hs : 0 ≤ s ∧ s < 256) : ∀ (k i : Nat), i + k = tP τ → ¬ (∀ p, i ≤ p → p < tP τ → s.toNat.testBit p = true → ρ (50 + p) = 0) → e_X12_isSet_20 d s (i : Int) M = some (vI 0, M)
  | 0, i, h, hA => absurd (fun p a b => by omega) hA
  | k + 1, i, h, hA => by
    have hP := hτ.2.2.2.2.2.2.1
    have ih := r_isSetLoopN hd hτ hT hS hs k (i + 1) (by omega)
    have hbit := bBit s.toNat (by omega) i (by omega)
    rw [show ((s.toNat : Nat) : Int) = s by omega] at hbit
    have step : (s.toNat.testBit i = true → ρ (50 + i) = 0) → ¬ (∀ p, i + 1 ≤ p → p < tP τ → s.toNat.testBit p = true → ρ (50 + p) = 0) := fun h0 q => hA fun p a b c => by
      by_cases hpi : p = i
      · subst hpi; exact h0 c
      · exact q p (by omega) b c
    rw [q_X12_isSet_20, r_many (by omega) hT, amCI_s, if_pos (show (i : Int) < ((tP τ : Nat) : Int) by omega), hbit, w32_n (x := (i : Int) + 1) (n := i + 1) (by omega) (by omega)]
    by_cases hb : s.toNat.testBit i = true
    · rw [if_pos hb, if_pos (show (1 : Int) = 1 from rfl), r_onGround (by omega) hS (by omega), amCI_s]
      by_cases h0 : ρ (50 + i) = 0
      · rw [if_pos h0, if_neg (show ¬ (1 : Int) = 0 by decide), ih (step fun _ => h0)]
      · rw [if_neg h0, if_pos (show (0 : Int) = 0 from rfl)]
    · rw [if_neg hb, if_neg (show ¬ (0 : Int) = 1 by decide), ih (step fun q => absurd q hb)]
theorem r_isSetY (hD : 2 ≤ D) (hτ : tOk τ) (hT : rTx v τ M) (hS : rNow ρ M) {s : Int} (h : onSet τ ρ s) : amD amGst D 208 [vR 12 12 0, vI s] M = some (vI 1, M) := by
  obtain ⟨d, rfl⟩ := dS hD
  have hP := hτ.2.2.2.2.2.2.1
  have hlt := onSet_lt hP h
  have h5 : ((2 ^ tP τ : Nat) : Int) = (2 : Int) ^ tP τ := by rw [Int.natCast_pow]; rfl
  have h3 : (2 : Nat) ^ tP τ ≤ 2 ^ 8 := Nat.pow_le_pow_right (by omega) hP
  have h6 : 1 ≤ (2 : Nat) ^ tP τ := Nat.one_le_two_pow
  have h7 := h.2.1
  rw [n_X12_isSet, q_X12_isSet_0, r_many (by omega) hT, amCI_s, bShl1 (tP τ) (by omega), w32_id (by omega) (by omega), r_inY (by omega) (by omega), amCI_s, if_neg (show ¬ (1 : Int) = 0 by decide)]
  exact r_isSetLoopY (d := d) (by omega) hτ hT hS hlt (tP τ) 0 (by omega) (fun p _ b c => h.2.2 p b c)
theorem r_isSetN (hD : 2 ≤ D) (hτ : tOk τ) (hT : rTx v τ M) (hS : rNow ρ M) {s : Int} (h : ¬ onSet τ ρ s) : amD amGst D 208 [vR 12 12 0, vI s] M = some (vI 0, M) := by
  obtain ⟨d, rfl⟩ := dS hD
  have hP := hτ.2.2.2.2.2.2.1
  have h5 : ((2 ^ tP τ : Nat) : Int) = (2 : Int) ^ tP τ := by rw [Int.natCast_pow]; rfl
  have h3 : (2 : Nat) ^ tP τ ≤ 2 ^ 8 := Nat.pow_le_pow_right (by omega) hP
  have h6 : 1 ≤ (2 : Nat) ^ tP τ := Nat.one_le_two_pow
  rw [n_X12_isSet, q_X12_isSet_0, r_many (by omega) hT, amCI_s, bShl1 (tP τ) (by omega), w32_id (by omega) (by omega)]
  by_cases h1 : 0 ≤ s ∧ s ≤ ((2 ^ tP τ : Nat) : Int) - 1
  · rw [r_inY (by omega) h1, amCI_s, if_neg (show ¬ (1 : Int) = 0 by decide)]
    exact r_isSetLoopN (d := d) (by omega) hτ hT hS (by omega) (tP τ) 0 (by omega) (fun q => h ⟨h1.1, by omega, fun p b c => q p (by omega) b c⟩)
  · rw [r_inN (by omega) h1, amCI_s, if_pos (show (0 : Int) = 0 from rfl)]
end ST
