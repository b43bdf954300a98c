/-! PURE: what the reference keeps: now, the past, what is held -/
def rNow (ρ : Rw) (M : AmM) : Prop := ∀ j, j < 100 → M 159 0 j = ρ j
def rPa (P : List Rw) (M : AmM) : Prop := P.length ≤ 40 ∧ M 12 0 53 = P.length ∧ ∀ i ρ, P[i]? = some ρ → ∀ j, j < 100 → M 161 0 (100 * (P.length - 1 - i) + j) = ρ j
def rHe (H : Nat → Option Rw) (M : AmM) : Prop := ∀ s, s < 3 → match H s with
  | none => M 169 0 s = 0
  | some ρ => M 169 0 s = 1 ∧ ∀ j, j < 100 → M 170 0 (100 * s + j) = ρ j
theorem rNow.mv {ρ : Rw} {M M' : AmM} (h : rNow ρ M) (hs : ∀ j, M' 159 0 j = M 159 0 j) : rNow ρ M' := fun j hj => by rw [hs]; exact h j hj
theorem rPa.mv {P : List Rw} {M M' : AmM} (h : rPa P M) (h53 : M' 12 0 53 = M 12 0 53) (hs : ∀ j, M' 161 0 j = M 161 0 j) : rPa P M' := ⟨h.1, by rw [h53]; exact h.2.1, fun i ρ hi j hj => by rw [hs]; exact h.2.2 i ρ hi j hj⟩
theorem rHe.mv {H : Nat → Option Rw} {M M' : AmM} (h : rHe H M) (h1 : ∀ j, M' 169 0 j = M 169 0 j) (h2 : ∀ j, M' 170 0 j = M 170 0 j) : rHe H M' := fun s hs => by
  have h3 := h s hs
  cases hH : H s with
  | none => rw [hH] at h3; show M' 169 0 s = 0; rw [h1]; exact h3
  | some ρ => rw [hH] at h3; exact ⟨by rw [h1]; exact h3.1, fun j hj => by rw [h2]; exact h3.2 j hj⟩
section RK
variable {D d v : Nat} {τ : Tx} {ρ : Rw} {P : List Rw} {H : Nat → Option Rw} {M : AmM}
theorem r_takesLoop : ∀ (k i : Nat) (M : AmM), i + k = 100 → rNow ρ M → (∀ j, j < i → M 160 0 j = ρ j) → ∃ M', e_X12_takes_2 d (i : Int) M = some (vU, M') ∧ rRow ρ M' ∧ amSame (fun c _ _ => c == 160) M M'
  | 0, i, M, h, hN, hR => by
    refine ⟨M, ?_, fun j hj => hR j (by omega), amSame.refl⟩
    rw [q_X12_takes_2, if_neg (by omega)]
  | k + 1, i, M, h, hN, hR => by
    have e : ((i : Nat) : Int).toNat = i := rfl
    obtain ⟨M', m1, m2, m3⟩ := r_takesLoop k (i + 1) (amUp M 160 0 i (M 159 0 i)) (by omega) (hN.mv fun j => up_c (by decide)) (fun j hj => by
      by_cases hji : j = i
      · subst hji; rw [up_on]; exact hN j (by omega)
      · rw [up_j hji]; exact hR j (by omega))
    refine ⟨M', ?_, m2, (amSame.refl.up (by rfl)).trans m3⟩
    rw [q_X12_takes_2, e, if_pos (by omega), if_pos ⟨by omega, by omega⟩, if_pos ⟨by omega, by omega⟩, w32_n (x := (i : Int) + 1) (n := i + 1) (by omega) (by omega)]
    exact m1
theorem r_takes (hD : 1 ≤ D) (hN : rNow ρ M) : ∃ M', amD amGst D 186 [vR 12 12 0] M = some (vU, M') ∧ rRow ρ M' ∧ amSame (fun c _ _ => c == 160) M M' := by
  obtain ⟨d, rfl⟩ := dS hD
  rw [n_X12_takes, q_X12_takes_0]
  exact r_takesLoop 100 0 M (by omega) hN (fun j hj => by omega)
theorem r_keepsC : ∀ (k i : Nat) (M : AmM), i + k = 100 → rRow ρ M → (∀ j, j < i → M 159 0 j = ρ j) → ∃ M', e_X12_keeps_95 d (i : Int) M = some (vU, M') ∧ rNow ρ M' ∧ amSame (fun c _ _ => c == 159) M M'
  | 0, i, M, h, hN, hR => by
    refine ⟨M, ?_, fun j hj => hR j (by omega), amSame.refl⟩
    rw [q_X12_keeps_95, if_neg (by omega)]
  | k + 1, i, M, h, hN, hR => by
    have e : ((i : Nat) : Int).toNat = i := rfl
    obtain ⟨M', m1, m2, m3⟩ := r_keepsC k (i + 1) (amUp M 159 0 i (M 160 0 i)) (by omega) (fun j hj => by rw [up_c (by decide)]; exact hN j hj) (fun j hj => by
      by_cases hji : j = i
      · subst hji; rw [up_on]; exact hN j (by omega)
      · rw [up_j hji]; exact hR j (by omega))
    refine ⟨M', ?_, m2, (amSame.refl.up (by rfl)).trans m3⟩
    rw [q_X12_keeps_95, e, if_pos (by omega), if_pos ⟨by omega, by omega⟩, if_pos ⟨by omega, by omega⟩, w32_n (x := (i : Int) + 1) (n := i + 1) (by omega) (by omega)]
    exact m1
theorem r_keepsB {u : Nat} (hu : u < 40) : ∀ (k i : Nat) (M : AmM), i + k = 100 → M 12 0 53 = u → ∃ M', e_X12_keeps_51 d (i : Int) M = e_X12_keeps_95 d 0 (amUp M' 12 0 53 ((u + 1 : Nat) : Int)) ∧ (∀ j, i ≤ j → j < 100 → M' 161 0 (100 * u + j) = M 159 0 j) ∧ amSame (fun c s j => c == 161 && Nat.ble (100 * u + i) j) M M'
  | 0, i, M, h, h53 => by
    refine ⟨M, ?_, fun j h1 h2 => by omega, amSame.refl⟩
    rw [q_X12_keeps_51, if_neg (by omega), h53, w32_n (x := (u : Int) + 1) (n := u + 1) (by omega) (by omega)]
  | k + 1, i, M, h, h53 => by
    have e : ((i : Nat) : Int).toNat = i := rfl
    have e2 : (((100 * u + i : Nat) : Int)).toNat = 100 * u + i := rfl
    obtain ⟨M', m1, m2, m3⟩ := r_keepsB hu k (i + 1) (amUp M 161 0 (100 * u + i) (M 159 0 i)) (by omega) (by rw [up_c (by decide)]; exact h53)
    refine ⟨M', ?_, fun j h1 h2 => ?_, ?_⟩
    · rw [q_X12_keeps_51, e, if_pos (by omega), if_pos ⟨by omega, by omega⟩, h53, w32_n (x := 100 * (u : Int)) (n := 100 * u) (by omega) (by omega), w32_n (x := ((100 * u : Nat) : Int) + (i : Int)) (n := 100 * u + i) (by omega) (by omega), e2, if_pos ⟨by omega, by omega⟩, w32_n (x := (i : Int) + 1) (n := i + 1) (by omega) (by omega)]
      exact m1
    · by_cases hji : j = i
      · subst hji
        rw [m3 161 0 (100 * u + j) (by
          have : Nat.ble (100 * u + (j + 1)) (100 * u + j) = false := by
            cases hb : Nat.ble (100 * u + (j + 1)) (100 * u + j) with
            | false => rfl
            | true => have := Nat.le_of_ble_eq_true hb; omega
          dsimp only; rw [this]; rfl), up_on]
      · rw [m2 j (by omega) h2, up_c (by decide)]
    · have hb : Nat.ble (100 * u + i) (100 * u + i) = true := Nat.ble_eq_true_of_le (by omega)
      refine (amSame.refl.up (by rw [hb]; rfl)).trans (m3.mono fun c s j hc => ?_)
      simp only [Bool.and_eq_true, beq_iff_eq] at hc ⊢
      have := Nat.le_of_ble_eq_true hc.2
      exact ⟨hc.1, Nat.ble_eq_true_of_le (by omega)⟩
theorem r_keepsA : ∀ (k i : Nat) (M : AmM), i + k = 3900 → ∃ M', e_X12_keeps_11 d (i : Int) M = e_X12_keeps_51 d 0 (amUp M' 12 0 53 (w32 (M 12 0 53 - 1))) ∧ (∀ j, i ≤ j → j < 3900 → M' 161 0 j = M 161 0 (j + 100)) ∧ (∀ j, 3900 ≤ j → M' 161 0 j = M 161 0 j) ∧ amSame (fun c s j => c == 161 && Nat.ble i j) M M'
  | 0, i, M, h => by
    refine ⟨M, ?_, fun j h1 h2 => by omega, fun j _ => rfl, amSame.refl⟩
    rw [q_X12_keeps_11, if_neg (by omega)]
  | k + 1, i, M, h => by
    have e : ((i : Nat) : Int).toNat = i := rfl
    have e2 : (((i + 100 : Nat) : Int)).toNat = i + 100 := rfl
    obtain ⟨M', m1, m2, m3, m4⟩ := r_keepsA k (i + 1) (amUp M 161 0 i (M 161 0 (i + 100))) (by omega)
    refine ⟨M', ?_, fun j h1 h2 => ?_, fun j h1 => ?_, ?_⟩
    · rw [up_c (by decide)] at m1
      rw [q_X12_keeps_11, e, if_pos (by omega), w32_n (x := (i : Int) + 100) (n := i + 100) (by omega) (by omega), e2, if_pos ⟨by omega, by omega⟩, if_pos ⟨by omega, by omega⟩, w32_n (x := (i : Int) + 1) (n := i + 1) (by omega) (by omega)]
      exact m1
    · by_cases hji : j = i
      · subst hji
        rw [m4 161 0 j (by
          have : Nat.ble (j + 1) j = false := by
            cases hb : Nat.ble (j + 1) j with
            | false => rfl
            | true => have := Nat.le_of_ble_eq_true hb; omega
          dsimp only; rw [this]; rfl), up_on]
      · rw [m2 j (by omega) h2, up_j (by omega)]
    · rw [m3 j h1, up_j (by omega)]
    · have hb : Nat.ble i i = true := Nat.ble_eq_true_of_le (by omega)
      refine (amSame.refl.up (by rw [hb]; rfl)).trans (m4.mono fun c s j hc => ?_)
      simp only [Bool.and_eq_true, beq_iff_eq] at hc ⊢
      have := Nat.le_of_ble_eq_true hc.2
      exact ⟨hc.1, Nat.ble_eq_true_of_le (by omega)⟩
def fKp : Nat → Nat → Nat → Bool := fun c _ j => c == 159 || c == 161 || (c == 12 && j == 53)
theorem ble_f {a b : Nat} (h : b < a) : Nat.ble a b = false := by
  cases hb : Nat.ble a b with
  | false => rfl
  | true => have := Nat.le_of_ble_eq_true hb; omega
theorem r_keeps {ρ' : Rw} (hD : 1 ≤ D) (hN : rNow ρ M) (hR : rRow ρ' M) (hP : rPa P M) : ∃ M', amD amGst D 199 [vR 12 12 0] M = some (vU, M') ∧ rNow ρ' M' ∧ rPa ((ρ :: P).take 40) M' ∧ amSame fKp M M' := by
  obtain ⟨d, rfl⟩ := dS hD
  obtain ⟨h1, h2, h3⟩ := hP
  -- the last two loops, from a past of u rows
  have last : ∀ (u : Nat) (M1 : AmM), u < 40 → M1 12 0 53 = u → rNow ρ M1 → rRow ρ' M1 → ∃ M', e_X12_keeps_51 d 0 M1 = some (vU, M') ∧ rNow ρ' M' ∧ M' 12 0 53 = ((u + 1 : Nat) : Int) ∧ (∀ j, j < 100 → M' 161 0 (100 * u + j) = ρ j) ∧ (∀ j, j < 100 * u → M' 161 0 j = M1 161 0 j) ∧ amSame fKp M1 M' := fun u M1 hu h53 hN1 hR1 => by
    obtain ⟨M2, m1, m2, m3⟩ := r_keepsB (d := d) hu 100 0 M1 (by omega) h53
    have hR2 : rRow ρ' (amUp M2 12 0 53 ((u + 1 : Nat) : Int)) := fun j hj => by rw [up_c (by decide), m3 160 _ _ (by rfl)]; exact hR1 j hj
    obtain ⟨M3, k1, k2, k3⟩ := r_keepsC (d := d) (ρ := ρ') 100 0 (amUp M2 12 0 53 ((u + 1 : Nat) : Int)) (by omega) hR2 (fun j hj => by omega)
    refine ⟨M3, m1.trans k1, k2, ?_, fun j hj => ?_, fun j hj => ?_, ?_⟩
    · rw [k3 12 0 53 (by rfl), up_on]
    · rw [k3 161 0 _ (by rfl), up_c (by decide), m2 j (by omega) hj]; exact hN1 j hj
    · rw [k3 161 0 _ (by rfl), up_c (by decide), m3 161 0 j (by dsimp only; rw [ble_f (by omega)]; rfl)]
    · refine ((m3.mono fun c s j hc => ?_).up (by rfl)).trans (k3.mono fun c s j hc => ?_)
      · simp only [Bool.and_eq_true, beq_iff_eq] at hc
        rw [hc.1]; rfl
      · have hc : (c == 159) = true := hc
        unfold fKp
        rw [hc]; rfl
  rw [n_X12_keeps, q_X12_keeps_0]
  by_cases h40 : P.length = 40
  · obtain ⟨M1, a1, a2, a3, a4⟩ := r_keepsA (d := d) 3900 0 M (by omega)
    have e39 : w32 (M 12 0 53 - 1) = ((39 : Nat) : Int) := w32_n (by rw [h2]; omega) (by omega)
    rw [e39] at a1
    obtain ⟨M', b1, b2, b3, b4, b5, b6⟩ := last 39 (amUp M1 12 0 53 ((39 : Nat) : Int)) (by omega) up_on (hN.mv fun j => by rw [up_c (by decide), a4 159 _ _ (by rfl)]) (fun j hj => by rw [up_c (by decide), a4 160 _ _ (by rfl)]; exact hR j hj)
    clear e39
    have hlen : ((ρ :: P).take 40).length = 40 := by rw [List.length_take]; show min 40 (P.length + 1) = 40; omega
    refine ⟨M', ?_, b2, ⟨by omega, by rw [b3, hlen], fun i ρ1 hi j hj => ?_⟩, ?_⟩
    · rw [if_pos (by omega)]
      exact a1.trans b1
    · rw [hlen]
      have hi40 : i < 40 := by
        have := (List.getElem?_eq_some_iff.mp hi).1
        omega
      rw [List.getElem?_take_of_lt hi40] at hi
      match i, hi, hi40 with
      | 0, hi, _ =>
        have hi : some ρ = some ρ1 := hi
        cases hi
        exact b4 j hj
      | i + 1, hi, hi40 =>
        have hi : P[i]? = some ρ1 := hi
        have h6 := h3 i ρ1 hi j hj
        rw [b5 _ (by omega), up_c (by decide), a2 _ (by omega) (by omega)]
        rw [h40] at h6
        have e3 : 100 * (40 - 1 - (i + 1)) + j + 100 = 100 * (40 - 1 - i) + j := by omega
        rw [e3]
        exact h6
    · refine ((a4.mono fun c s j hc => ?_).up (by rfl)).trans b6
      simp only [Bool.and_eq_true, beq_iff_eq] at hc
      rw [hc.1]; rfl
  · obtain ⟨M', b1, b2, b3, b4, b5, b6⟩ := last P.length M (by omega) h2 hN hR
    have hlen : ((ρ :: P).take 40).length = P.length + 1 := by rw [List.length_take]; show min 40 (P.length + 1) = P.length + 1; omega
    refine ⟨M', ?_, b2, ⟨by omega, by rw [b3, hlen], fun i ρ1 hi j hj => ?_⟩, b6⟩
    · rw [if_neg (by omega)]
      exact b1
    · rw [hlen]
      have hi40 : i < 40 := by
        have := (List.getElem?_eq_some_iff.mp hi).1
        omega
      rw [List.getElem?_take_of_lt hi40] at hi
      match i, hi, hi40 with
      | 0, hi, _ =>
        have hi : some ρ = some ρ1 := hi
        cases hi
        exact b4 j hj
      | i + 1, hi, hi40 =>
        have hi : P[i]? = some ρ1 := hi
        have h6 := h3 i ρ1 hi j hj
        have hi2 := (List.getElem?_eq_some_iff.mp hi).1
        have e3 : 100 * (P.length + 1 - 1 - (i + 1)) + j = 100 * (P.length - 1 - i) + j := by omega
        rw [e3, b5 _ (by omega)]
        exact h6
end RK
