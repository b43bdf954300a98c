/-! PURE: what the class holds between calls, and what is kept of the past -/
theorem comesS_code {τ : Tx} {vow heavy day : Int} {x : Wk} : (comesS τ vow heavy day x).1 ≤ 2 ∧ ((comesS τ vow heavy day x).1 = 2 → 1 ≤ (comesS τ vow heavy day x).2.1) := by
  rw [comesS_out]
  obtain ⟨c, a, y, hR⟩ : ∃ c a y, upS τ vow heavy day 26 0 x = (c, a, y) := ⟨_, _, _, rfl⟩
  rw [hR]
  have hc := dnS_c (τ := τ) (vow := vow) (heavy := heavy) (day := day) 26 a y
  have h2 := dnS_at2 (τ := τ) (vow := vow) (heavy := heavy) (day := day) 26 a y
  have k0 : (if vow = 3 then (0, a, y) else dnS τ vow heavy day 26 a y : Nat × Nat × Wk).1 ≤ 2 ∧ ((if vow = 3 then (0, a, y) else dnS τ vow heavy day 26 a y : Nat × Nat × Wk).1 = 2 → 1 ≤ (if vow = 3 then (0, a, y) else dnS τ vow heavy day 26 a y : Nat × Nat × Wk).2.1) := by
    by_cases h3 : vow = 3
    · rw [if_pos h3]; exact ⟨by show 0 ≤ 2; omega, fun h => by cases h⟩
    · rw [if_neg h3]; exact ⟨by omega, h2⟩
  match c with
  | 0 => exact k0
  | 1 =>
    show (if (dnS τ vow heavy day 26 a y).1 = 0 then 1 else 2) ≤ 2 ∧ ((if (dnS τ vow heavy day 26 a y).1 = 0 then 1 else 2) = 2 → 1 ≤ (dnS τ vow heavy day 26 a y).2.1)
    rcases hc with h | h
    · rw [if_pos h]; exact ⟨by omega, fun h => by omega⟩
    · rw [if_neg (by omega)]; exact ⟨by omega, fun _ => h2 h⟩
  | 2 =>
    show (if a = 0 then 1 else 2) ≤ 2 ∧ ((if a = 0 then 1 else 2) = 2 → 1 ≤ a)
    by_cases h0 : a = 0
    · rw [if_pos h0]; exact ⟨by omega, fun h => by omega⟩
    · rw [if_neg h0]; exact ⟨by omega, fun _ => by omega⟩
  | c + 3 => exact k0
/-- a row in bounds, within N calls -/
def sOk (τ : Tx) (N : Nat) (ρ : Rw) : Prop := rOk τ ρ ∧ (∀ p, p < tP τ → (0 ≤ ρ (50 + p) ∧ ρ (50 + p) ≤ tN τ + 1) ∧ (ρ (74 + p) = 0 ∨ ρ (74 + p) = 1) ∧ (ρ (50 + p) = 0 → ρ (74 + p) = 0)) ∧ (0 ≤ ρ 82 ∧ ρ 82 ≤ 9999) ∧ 0 ≤ ρ 83 ∧ ρ 83 ≤ 100 * (N : Int)
theorem sOk.mono {τ : Tx} {N N' : Nat} {ρ : Rw} (h : sOk τ N ρ) (hN : N ≤ N') : sOk τ N' ρ := ⟨h.1, h.2.1, h.2.2.1, h.2.2.2.1, by have := h.2.2.2.2; omega⟩
def goR (τ : Tx) (ρ : Rw) (p : Nat) : Nat × Nat × Wk := comesS τ (tV τ p) (tW τ p) (ρ 83) (ρ, 0, -1)
def goS (τ : Tx) (ρ : Rw) (p : Nat) : Rw := setS ρ p (goR τ ρ p)
theorem goS_ok {τ : Tx} {N : Nat} {ρ : Rw} {p : Nat} (hτ : tOk τ) (h : sOk τ N ρ) (hp : p < tP τ) : sOk τ N (goS τ ρ p) := by
  have hP := hτ.2.2.2.2.2.2.1
  have hpp := hτ.2.2.2.2.2.2.2.1 p hp
  have hh : 0 ≤ tW τ p ∧ tW τ p ≤ 2000 := ⟨by omega, by omega⟩
  have h1 := comesS_ok (τ := τ) (vow := tV τ p) (day := ρ 83) (x := (ρ, 0, -1)) hh hτ.1 h.1
  have h2 := comesS_code (τ := τ) (vow := tV τ p) (heavy := tW τ p) (day := ρ 83) (x := (ρ, 0, -1))
  obtain ⟨a1, a2, a3, a4, a5⟩ := h
  unfold goS goR
  generalize comesS τ (tV τ p) (tW τ p) (ρ 83) (ρ, 0, -1) = R at h1 h2
  have hn := hτ.1
  refine ⟨fun j b1 b2 => ?_, fun q hq => ?_, ?_, ?_⟩
  · rw [setS_lt (by omega)]
    exact h1.1 j b1 b2
  · rw [setS_50 (by omega) (by omega), setS_74 (by omega) (by omega)]
    by_cases hqp : q = p
    · rw [if_pos hqp, if_pos hqp]
      refine ⟨⟨by omega, by omega⟩, ?_, fun h0 => ?_⟩
      · by_cases hr : R.1 = 2
        · rw [if_pos hr]; exact Or.inr rfl
        · rw [if_neg hr]; exact Or.inl rfl
      · rw [if_neg (fun hr => by have := h2.2 hr; omega)]
    · rw [if_neg hqp, if_neg hqp]
      exact a2 q hq
  · rw [setS_hi (by omega) (by omega)]
    exact a3
  · rw [setS_hi (by omega) (by omega)]
    exact ⟨a4, a5⟩
/-- the columns of scenes -/
def scC : Nat → Bool := fun c => c == 5 || c == 6 || c == 108 || c == 109 || c == 110 || c == 111 || c == 112 || c == 113
theorem cSc.mv2 {τ : Tx} {r : Nat} {ρ : Rw} {M M' : AmM} (h : cSc τ r ρ M) (hs : ∀ c j, scC c = true → M' c r j = M c r j) : cSc τ r ρ M' := h.mv fun c j hc => hs c j (by rcases hc with rfl | rfl | rfl | rfl | rfl | rfl | rfl | rfl <;> rfl)
theorem scC_sc {c : Nat} (h : scC c = true) {r s j : Nat} (hs : s ≠ r) : fSc r c s j = false := by
  unfold fSc
  rw [beq_false_of_ne hs]; rfl
theorem fSc_scC {r c s j : Nat} (h : fSc r c s j = true) : s = r ∧ scC c = true := by
  unfold fSc at h
  simp only [Bool.and_eq_true, Bool.or_eq_true, beq_iff_eq] at h
  refine ⟨h.1, ?_⟩
  rcases h.2 with ((((((rfl | rfl) | rfl) | rfl) | rfl) | rfl) | rfl) | rfl <;> rfl
/-- what can be undone, the latest first -/
def cPa (τ : Tx) (P : List Rw) (M : AmM) : Prop := P.length ≤ 40 ∧ M 11 0 13 = P.length ∧ ∃ e : Nat, e < 40 ∧ M 11 0 14 = e ∧ ∀ i ρ, P[i]? = some ρ → cSc τ (1 + (e + 39 - i) % 40) ρ M
def sPa : Nat → Nat → Nat → Bool := fun c s j => (scC c && Nat.ble 1 s && Nat.ble s 40) || (c == 11 && (j == 13 || j == 14))
theorem cPa.mv {τ : Tx} {P : List Rw} {M M' : AmM} (h : cPa τ P M) (hs : ∀ c s j, sPa c s j = true → M' c s j = M c s j) : cPa τ P M' := by
  obtain ⟨h1, h2, e, h3, h4, h5⟩ := h
  refine ⟨h1, by rw [hs _ _ _ (by rfl)]; exact h2, e, h3, by rw [hs _ _ _ (by rfl)]; exact h4, fun i ρ hi => (h5 i ρ hi).mv2 fun c j hc => hs c _ j ?_⟩
  have : (e + 39 - i) % 40 < 40 := Nat.mod_lt _ (by omega)
  unfold sPa
  rw [hc, show Nat.ble 1 (1 + (e + 39 - i) % 40) = true from Nat.ble_eq_true_of_le (by omega), show Nat.ble (1 + (e + 39 - i) % 40) 40 = true from Nat.ble_eq_true_of_le (by omega)]
  rfl
section CI
variable {D d : Nat} {τ : Tx} {ρ : Rw} {P : List Rw} {M : AmM}
theorem c_keepPast (hD : 4 ≤ D) (hτ : tOk τ) (hS : cSc τ 0 ρ M) (hP : cPa τ P M) : ∃ M', amD amGst D 137 [vR 11 11 0] M = some (vU, M') ∧ cPa τ ((ρ :: P).take 40) M' ∧ amSame sPa M M' := by
  obtain ⟨d, rfl⟩ := dS hD
  obtain ⟨h1, h2, e, h3, h4, h5⟩ := hP
  have ee : ((e : Nat) : Int).toNat = e := rfl
  obtain ⟨M1, m1, m2, m3⟩ := c_scCopy (D := d) (r := e + 1) (q := 0) (by omega) hτ hS (by omega)
  have s1 : amSame sPa M M1 := m3.mono fun c s j h => by
    obtain ⟨rfl, hc⟩ := fSc_scC h
    unfold sPa
    rw [hc, show Nat.ble 1 (e + 1) = true from Nat.ble_eq_true_of_le (by omega), show Nat.ble (e + 1) 40 = true from Nat.ble_eq_true_of_le (by omega)]
    rfl
  have o11 : ∀ j, M1 11 0 j = M 11 0 j := fun j => m3 _ _ _ (by simp [fSc])
  rw [n_X11_keepPast, q_X11_keepPast_0, h4, ee, if_neg (show ¬ ((e : Nat) : Int) < 0 by omega), if_pos (show ((e : Nat) : Int) < 40 by omega), if_pos (show (0 : Int) ≤ ((e : Nat) : Int) ∧ ((e : Nat) : Int) < 40 by omega), if_pos (show (0 : Int) ≤ ((e : Nat) : Int) ∧ ((e : Nat) : Int) < 40 by omega), m1, amCV_s, q_X11_keepPast_47, if_neg (show ¬ (40 : Int) = 0 by decide), q_X11_keepPast_75, o11, h4, up_j (by decide), o11, h2, w32_n (n := e + 1) (by omega) (by omega), w32_n (n := P.length + 1) (by omega) (by omega)]
  have e1 : Int.tmod ((e + 1 : Nat) : Int) 40 = (((e + 1) % 40 : Nat) : Int) := by
    rw [Int.tmod_eq_emod_of_nonneg (by omega)]; omega
  have e2 : amMin 40 ((P.length + 1 : Nat) : Int) = ((((ρ :: P).take 40).length : Nat) : Int) := by
    rw [List.length_take]
    show amMin 40 ((P.length + 1 : Nat) : Int) = ((min 40 (P.length + 1) : Nat) : Int)
    unfold amMin
    by_cases h : ((P.length + 1 : Nat) : Int) < 40
    · rw [if_pos h]; omega
    · rw [if_neg h]; omega
  rw [e1, e2]
  refine ⟨_, rfl, ⟨by rw [List.length_take]; omega, up_on, (e + 1) % 40, Nat.mod_lt _ (by omega), by rw [up_j (by decide), up_on], fun i ρ' hi => ?_⟩, (s1.up (by rfl)).up (by rfl)⟩
  have hi40 : i < 40 := by
    have := (List.getElem?_eq_some_iff.mp hi).1
    rw [List.length_take] at this
    omega
  rw [List.getElem?_take_of_lt hi40] at hi
  have key : cSc τ (1 + ((e + 1) % 40 + 39 - i) % 40) ρ' M1 := by
    match i, hi, hi40 with
    | 0, hi, _ =>
      have hi : some ρ = some ρ' := hi
      cases hi
      have : 1 + ((e + 1) % 40 + 39 - 0) % 40 = e + 1 := by omega
      rw [this]; exact m2
    | i + 1, hi, hi40 =>
      have hi : P[i]? = some ρ' := hi
      have h6 := h5 i ρ' hi
      have e3 : 1 + ((e + 1) % 40 + 39 - (i + 1)) % 40 = 1 + (e + 39 - i) % 40 := by omega
      rw [e3]
      exact h6.mv2 fun c j hc => m3 _ _ _ (scC_sc hc (by omega))
  exact key.mv2 fun c j hc => by
    have h11 : c ≠ 11 := by rintro rfl; cases hc
    rw [up_c h11, up_c h11]
theorem c_drop (hD : 2 ≤ D) : amD amGst D 139 [vR 11 11 0] M = some (vU, amUp (amUp M 3 0 4 (-1)) 0 0 3 (-1)) := by
  obtain ⟨d, rfl⟩ := dS hD
  obtain ⟨d, rfl⟩ := dS (show 0 + 1 ≤ d by omega)
  rw [n_X11_dropAnswers, q_X11_dropAnswers_0, n_X3_drop, q_X3_drop_0, amCV_s, n_X0_drop, q_X0_drop_0, amCV_s]
end CI
