/-! PURE: odds -/
def chL (g : Nat → Int) : Nat → Int
  | 0 => 1
  | i + 1 => Int.tdiv (chL g i * g (i + 1)) ((i + 1 : Nat) : Int)
def gC (n : Nat) : Nat → Int := fun i => (n : Int) - (i : Int) + 1
def gR (n k : Nat) : Nat → Int := fun i => (n : Int) - (k : Int) + (i : Int)
theorem chC_b : ∀ n : Nat, n < 13 → ∀ i : Nat, i < n + 1 → 0 ≤ chL (gC n) i ∧ chL (gC n) i ≤ 924 := by decide +kernel
theorem chR_b : ∀ n : Nat, n < 13 → ∀ k : Nat, k < n + 1 → ∀ i : Nat, i < k + 1 → 0 ≤ chL (gR n k) i ∧ chL (gR n k) i ≤ 924 := by decide +kernel
theorem chCR : ∀ n : Nat, n < 13 → ∀ k : Nat, k < n + 1 → chL (gR n k) k = chL (gC n) k := by decide +kernel
/-- how many ways with w wet nights -/
def wayS (n a c w : Nat) : Nat := (chL (gC n) w).toNat * a ^ w * c ^ (n - w)
theorem pw9 {a t : Nat} (ha : a ≤ 9) (ht : t ≤ 12) : a ^ t ≤ 282429536481 := Nat.le_trans (Nat.pow_le_pow_left ha t) (Nat.le_trans (Nat.pow_le_pow_right (by omega) ht) (by decide))
theorem pw99 {a c x y : Nat} (ha : a ≤ 9) (hc : c ≤ 9) (h : x + y ≤ 12) : a ^ x * c ^ y ≤ 282429536481 := by
  have h1 : a ^ x * c ^ y ≤ 9 ^ x * 9 ^ y := Nat.mul_le_mul (Nat.pow_le_pow_left ha x) (Nat.pow_le_pow_left hc y)
  rw [← Nat.pow_add] at h1
  exact Nat.le_trans h1 (Nat.le_trans (Nat.pow_le_pow_right (by omega) h) (by decide))
theorem wayB {q a c x y : Nat} (hq : q ≤ 924) (ha : a ≤ 9) (hc : c ≤ 9) (h : x + y ≤ 12) : q * a ^ x * c ^ y ≤ 260964891708444 := by
  rw [Nat.mul_assoc]
  exact Nat.le_trans (Nat.mul_le_mul hq (pw99 ha hc h)) (by decide)
/-- the row behind n nights of which much rain fell -/
def odR (τ : Tx) (ρ : Rw) (u : Int) (n : Nat) : Rw := fun j => if j = 83 then ρ 83 + n else rnR u ρ (tN τ) j
def oddF (τ : Tx) (ρ : Rw) (S : Nat → Bool) (r n a c : Nat) : Nat → Int := fun w => if thrB τ S (tP τ) 0 (odR τ ρ ((w * r : Nat) : Int) n) = true then ((wayS n a c w : Nat) : Int) else 0
theorem oddF_b {τ : Tx} {ρ : Rw} {S : Nat → Bool} {r n a c w : Nat} (hn : n ≤ 12) (ha : a ≤ 9) (hc : c ≤ 9) (hw : w ≤ n) : 0 ≤ oddF τ ρ S r n a c w ∧ oddF τ ρ S r n a c w ≤ 260964891708444 := by
  have h1 := chC_b n (by omega) w (by omega)
  have h2 : wayS n a c w ≤ 260964891708444 := wayB (by omega) ha hc (by omega)
  unfold oddF
  split <;> omega
section OD
variable {D d v : Nat} {τ : Tx} {ρ : Rw} {M : AmM} {N : Nat}
theorem odR_H (hτ : tOk τ) {S : Nat → Bool} {u : Int} {n : Nat} (hu : 0 ≤ u) (h : thrH τ S 0 ρ) : thrH τ S 0 (odR τ ρ u n) := by
  have hP := hτ.2.2.2.2.2.2.1
  have hn := hτ.1
  have e : ∀ j, j ≠ 83 → odR τ ρ u n j = rnR u ρ (tN τ) j := fun j hj => if_neg hj
  refine ⟨fun j a b => ?_, ?_, fun p a b c => ?_⟩
  · rw [e j (by omega)]; exact rnR_b hu (h.1 j a b)
  · show 0 ≤ ρ 83 + (n : Int)
    have := h.2.1
    omega
  · rw [e _ (by omega), e _ (by omega), rnR_hi (by omega), rnR_hi (by omega)]; exact h.2.2 p a b c
theorem c_choicesL {n k : Nat} (hn : n ≤ 12) (hk : k ≤ n) : ∀ (m i : Nat), i + m = k → e_X0_choices_5 d (n : Int) (k : Int) (chL (gC n) i) ((i + 1 : Nat) : Int) M = some (vL (chL (gC n) k), M)
  | 0, i, h => by
    have h : i = k := h
    subst h
    rw [q_X0_choices_5, if_pos (by omega)]
  | m + 1, i, h => by
    have ih := c_choicesL hn hk m (i + 1) (by omega)
    have hb := chC_b n (by omega) i (by omega)
    have hb2 := chC_b n (by omega) (i + 1) (by omega)
    have eg : gC n (i + 1) = (n : Int) - ((i + 1 : Nat) : Int) + 1 := rfl
    have e1 : chL (gC n) (i + 1) = Int.tdiv (chL (gC n) i * gC n (i + 1)) ((i + 1 : Nat) : Int) := rfl
    have hm : 0 ≤ chL (gC n) i * gC n (i + 1) ∧ chL (gC n) i * gC n (i + 1) ≤ 924 * 13 := by
      have g0 : 0 ≤ gC n (i + 1) ∧ gC n (i + 1) ≤ 13 := by rw [eg]; omega
      exact ⟨Int.mul_nonneg hb.1 g0.1, Int.mul_le_mul hb.2 g0.2 g0.1 (by omega)⟩
    rw [q_X0_choices_5, if_neg (show ¬ ((k : Nat) : Int) < ((i + 1 : Nat) : Int) by omega), if_neg (show ¬ ((i + 1 : Nat) : Int) = 0 by omega), w32_id (x := (n : Int) - ((i + 1 : Nat) : Int)) (by omega) (by omega), w32_id (x := (n : Int) - ((i + 1 : Nat) : Int) + 1) (by omega) (by omega), ← eg, w64_id (x := chL (gC n) i * gC n (i + 1)) (by omega) (by omega), ← e1, w64_id (by omega) (by omega), w32_n (x := ((i + 1 : Nat) : Int) + 1) (n := i + 1 + 1) (by omega) (by omega)]
    exact ih
theorem c_choices (hD : 1 ≤ D) {n k : Nat} (hn : n ≤ 12) (hk : k ≤ n) : amD amGst D 4 [vI n, vI k] M = some (vL (chL (gC n) k), M) := by
  obtain ⟨d, rfl⟩ := dS hD
  rw [n_X0_choices, q_X0_choices_0]
  exact c_choicesL hn hk k 0 (by omega)
theorem r_chooseL {n k : Nat} (hn : n ≤ 12) (hk : k ≤ n) : ∀ (m i : Nat), i + m = k → e_X12_choose_5 d (n : Int) (k : Int) (chL (gR n k) i) ((i + 1 : Nat) : Int) M = some (vL (chL (gR n k) k), M)
  | 0, i, h => by
    have h : i = k := h
    subst h
    rw [q_X12_choose_5, if_pos (by omega)]
  | m + 1, i, h => by
    have ih := r_chooseL hn hk m (i + 1) (by omega)
    have hb := chR_b n (by omega) k (by omega) i (by omega)
    have hb2 := chR_b n (by omega) k (by omega) (i + 1) (by omega)
    have eg : gR n k (i + 1) = (n : Int) - (k : Int) + ((i + 1 : Nat) : Int) := rfl
    have e1 : chL (gR n k) (i + 1) = Int.tdiv (chL (gR n k) i * gR n k (i + 1)) ((i + 1 : Nat) : Int) := rfl
    have hm : 0 ≤ chL (gR n k) i * gR n k (i + 1) ∧ chL (gR n k) i * gR n k (i + 1) ≤ 924 * 13 := by
      have g0 : 0 ≤ gR n k (i + 1) ∧ gR n k (i + 1) ≤ 13 := by rw [eg]; omega
      exact ⟨Int.mul_nonneg hb.1 g0.1, Int.mul_le_mul hb.2 g0.2 g0.1 (by omega)⟩
    rw [q_X12_choose_5, if_neg (show ¬ ((k : Nat) : Int) < ((i + 1 : Nat) : Int) by omega), if_neg (show ¬ ((i + 1 : Nat) : Int) = 0 by omega), w32_id (x := (n : Int) - (k : Int)) (by omega) (by omega), w32_id (x := (n : Int) - (k : Int) + ((i + 1 : Nat) : Int)) (by omega) (by omega), ← eg, w64_id (x := chL (gR n k) i * gR n k (i + 1)) (by omega) (by omega), ← e1, w64_id (by omega) (by omega), w32_n (x := ((i + 1 : Nat) : Int) + 1) (n := i + 1 + 1) (by omega) (by omega)]
    exact ih
theorem r_choose (hD : 1 ≤ D) {n k : Nat} (hn : n ≤ 12) (hk : k ≤ n) : amD amGst D 222 [vI n, vI k] M = some (vL (chL (gC n) k), M) := by
  obtain ⟨d, rfl⟩ := dS hD
  rw [n_X12_choose, q_X12_choose_0, ← chCR n (by omega) k (by omega)]
  exact r_chooseL hn hk k 0 (by omega)
theorem c_powerL {a t : Nat} (ha : a ≤ 9) (ht : t ≤ 12) : ∀ (m i : Nat), i + m = t → e_X0_power_5 d (a : Int) (t : Int) ((a ^ i : Nat) : Int) (i : Int) M = some (vL ((a ^ t : Nat) : Int), M)
  | 0, i, h => by
    have h : i = t := h
    subst h
    rw [q_X0_power_5, if_neg (by omega)]
  | m + 1, i, h => by
    have ih := c_powerL ha ht m (i + 1) (by omega)
    have hb := pw9 (t := i + 1) ha (by omega)
    have e1 : ((a ^ (i + 1) : Nat) : Int) = ((a ^ i : Nat) : Int) * (a : Int) := by rw [Nat.pow_succ, Int.natCast_mul]
    rw [e1] at ih
    have hx : 0 ≤ ((a ^ i : Nat) : Int) * (a : Int) ∧ ((a ^ i : Nat) : Int) * (a : Int) ≤ 282429536481 := by
      rw [← e1]
      generalize a ^ (i + 1) = q at hb ⊢
      omega
    rw [q_X0_power_5, if_pos (show (i : Int) < (t : Int) by omega), w64_id (by omega) (by omega), w32_n (x := (i : Int) + 1) (n := i + 1) (by omega) (by omega)]
    exact ih
theorem c_power (hD : 1 ≤ D) {a t : Nat} (ha : a ≤ 9) (ht : t ≤ 12) : amD amGst D 5 [vI a, vI t] M = some (vL ((a ^ t : Nat) : Int), M) := by
  obtain ⟨d, rfl⟩ := dS hD
  rw [n_X0_power, q_X0_power_0]
  exact c_powerL ha ht t 0 (by omega)
theorem fBe_c {M M' : AmM} (hτ : tOk τ) (hT : cTx 0 τ M) (hs : amSame fBe M M') : cTx 0 τ M' := hT.mv fun c s j hc => hs _ _ _ (by
  unfold sTx at hc
  simp only [Bool.and_eq_true, Bool.or_eq_true, beq_iff_eq] at hc
  obtain ⟨rfl, hc⟩ := hc
  rcases hc with (((((rfl | rfl) | rfl) | rfl) | rfl) | rfl) | rfl <;> rfl)
theorem fBe_s {M M' : AmM} (h : cSc τ 0 ρ M) (hs : amSame fBe M M') : cSc τ 0 ρ M' := h.mv2 fun c j hc => hs _ _ _ (by
  have h10 : c ≠ 10 := by rintro rfl; cases hc
  have h125 : c ≠ 125 := by rintro rfl; cases hc
  have h102 : c ≠ 102 := by rintro rfl; cases hc
  unfold fBe fTh fSt
  simp [h10, h125, h102])
theorem c_dryLoop (hd : 6 ≤ d) (hτ : tOk τ) (hd83 : ρ 83 ≤ 1000000) {s : Int} (hs : 0 ≤ s ∧ s < 256) (hhi : ∀ q, tP τ ≤ q → s.toNat.testBit q = false) (hH : thrH τ s.toNat.testBit 0 ρ) {r n a c : Nat} (hr : r ≤ 9) (hn : n ≤ 12) (ha : a ≤ 9) (hc : c ≤ 9) : ∀ (m w : Nat) (u : AmV) (M : AmM), w + m = n + 1 → cTx 0 τ M → cSc τ 0 ρ M → ∃ M', e_X0_dryEnoughWays_6 d 0 s (r : Int) (n : Int) (a : Int) ((a + c : Nat) : Int) (sumS (oddF τ ρ s.toNat.testBit r n a c) w) (w : Int) u M = some (vL (sumS (oddF τ ρ s.toNat.testBit r n a c) (n + 1)), M') ∧ amSame fBe M M'
  | 0, w, u, M, h, hT, hS => by
    have h : w = n + 1 := h
    subst h
    refine ⟨M, ?_, amSame.refl⟩
    rw [q_X0_dryEnoughWays_6, if_pos (by omega)]
  | m + 1, w, u, M, h, hT, hS => by
    have hb := sumS_b (f := oddF τ ρ s.toNat.testBit r n a c) (b := 260964891708444) (by omega) w (fun i hi => oddF_b hn ha hc (by omega))
    have hF := oddF_b (τ := τ) (ρ := ρ) (S := s.toNat.testBit) (r := r) hn ha hc (show w ≤ n by omega)
    have hch := chC_b n (by omega) w (by omega)
    have hpa := pw9 (t := w) ha (by omega)
    have eq1 : sumS (oddF τ ρ s.toNat.testBit r n a c) (w + 1) = sumS (oddF τ ρ s.toNat.testBit r n a c) w + oddF τ ρ s.toNat.testBit r n a c w := rfl
    have hq1 : (chL (gC n) w).toNat * a ^ w ≤ 260964891708444 := by
      have := wayB (q := (chL (gC n) w).toNat) (a := a) (c := c) (x := w) (y := 0) (by omega) ha hc (by omega)
      rw [Nat.pow_zero, Nat.mul_one] at this
      exact this
    have hq2 : (chL (gC n) w).toNat * a ^ w * c ^ (n - w) ≤ 260964891708444 := wayB (by omega) ha hc (by omega)
    have ew1 : chL (gC n) w * ((a ^ w : Nat) : Int) = (((chL (gC n) w).toNat * a ^ w : Nat) : Int) := by
      rw [Int.natCast_mul]
      congr 1
      omega
    have ew2 : (((chL (gC n) w).toNat * a ^ w : Nat) : Int) * ((c ^ (n - w) : Nat) : Int) = ((wayS n a c w : Nat) : Int) := by
      unfold wayS
      rw [← Int.natCast_mul]
    have hq3 : wayS n a c w ≤ 260964891708444 := hq2
    have ih : ∀ u' M1, amSame fBe M M1 → ∃ M', e_X0_dryEnoughWays_6 d 0 s (r : Int) (n : Int) (a : Int) ((a + c : Nat) : Int) (sumS (oddF τ ρ s.toNat.testBit r n a c) (w + 1)) ((w + 1 : Nat) : Int) u' M1 = some (vL (sumS (oddF τ ρ s.toNat.testBit r n a c) (n + 1)), M') ∧ amSame fBe M M' := fun u' M1 h1 => by
      obtain ⟨M', k1, k2⟩ := c_dryLoop hd hτ hd83 hs hhi hH hr hn ha hc m (w + 1) u' M1 (by omega) (fBe_c hτ hT h1) (fBe_s hS h1)
      exact ⟨M', k1, h1.trans k2⟩
    rw [eq1] at ih
    have ec : w32 (((a + c : Nat) : Int) - (a : Int)) = (c : Int) := w32_n (by omega) (by omega)
    have en : w32 ((n : Int) - (w : Int)) = ((n - w : Nat) : Int) := w32_n (by omega) (by omega)
    rw [q_X0_dryEnoughWays_6, if_neg (show ¬ (n : Int) < (w : Int) by omega), c_choices (by omega) hn (by omega), amCL_s, c_power (by omega) ha (by omega), amCL_s, ec, en, c_power (by omega) hc (by omega), amCL_s, ew1]
    clear ec en
    generalize hQ1 : (chL (gC n) w).toNat * a ^ w = Q1 at hq1 ew2 ⊢
    rw [w64_id (x := ((Q1 : Nat) : Int)) (by omega) (by omega), ew2, w64_id (x := ((wayS n a c w : Nat) : Int)) (by omega) (by omega), w32_n (x := (w : Int) + 1) (n := w + 1) (by omega) (by omega)]
    have ecmp : (0 < amCmp ((wayS n a c w : Nat) : Int) 0) ↔ 0 < wayS n a c w := by
      unfold amCmp
      split
      · omega
      · split <;> omega
    by_cases hpos : 0 < wayS n a c w
    · rw [if_pos (ecmp.mpr hpos)]
      have hn' := hτ.1
      have hwr : w * r ≤ 12 * 9 := Nat.mul_le_mul (by omega) hr
      have ewr : (w : Int) * (r : Int) = ((w * r : Nat) : Int) := by rw [Int.natCast_mul]
      obtain ⟨M1, m1, m2, m3⟩ := c_stCopy (D := d) (r := 53) (by omega) hτ.1 hS.1 (by decide)
      have s1 : amSame fBe M M1 := m3.mono fun c s j h => by unfold fBe; rw [h]; simp
      rw [m1, amCV_s, ewr]
      generalize hwR : w * r = wr at hwr ⊢
      have hρ99 : ∀ j, 1 ≤ j → j ≤ tN τ → 0 ≤ ρ j ∧ ρ j ≤ 99 := fun j b1 b2 => by
        have := hH.1 j b1 b2
        have := hτ.2.1 j b1 b2
        omega
      obtain ⟨M2, k1, k2, k3⟩ := c_rainOn (D := d) (r := 53) (u := (wr : Int)) (by omega) hτ.1 (by omega) hρ99 m2
      have s2 : amSame fBe M M2 := s1.trans (k3.mono fun c s j h => by
        unfold fRn at h
        simp only [Bool.and_eq_true, Bool.or_eq_true, beq_iff_eq] at h
        obtain ⟨rfl, h⟩ := h
        rcases h with rfl | ⟨rfl, rfl⟩ <;> rfl)
      have e57 : M2 5 0 7 = ρ 83 := by rw [s2 5 0 7 (by rfl)]; exact hS.2.2.2
      have hS2 : cSt (tN τ) 53 (odR τ ρ (wr : Int) n) M2 := k2.row hτ.1 fun j b1 b2 => by unfold odR; rw [if_neg (show ¬ j = 83 by omega)]
      have h83 := hH.2.1
      have eday : odR τ ρ (wr : Int) n 83 = ρ 83 + (n : Int) := if_pos rfl
      obtain ⟨M3, t1, t2⟩ := c_allComeOver (D := d) (day := ρ 83 + (n : Int)) (ρ := odR τ ρ (wr : Int) n) (by omega) hτ hs hhi eday (odR_H hτ (by omega) hH) (fBe_c hτ hT s2) hS2
      have s3 : amSame fBe M M3 := s2.trans (t2.mono fun c s j h => by unfold fBe; rw [h]; rfl)
      rw [w32_id (x := ((wr : Nat) : Int)) (by omega) (by omega), k1, amCI_s, e57, w32_id (x := ρ 83 + (n : Int)) (by omega) (by omega), t1, amCI_s]
      have eF : oddF τ ρ s.toNat.testBit r n a c w = if thrB τ s.toNat.testBit (tP τ) 0 (odR τ ρ ((wr : Nat) : Int) n) = true then ((wayS n a c w : Nat) : Int) else 0 := by rw [← hwR]; rfl
      by_cases hb2 : thrB τ s.toNat.testBit (tP τ) 0 (odR τ ρ ((wr : Nat) : Int) n) = true
      · rw [if_pos hb2] at eF
        rw [if_pos hb2, if_neg (show ¬ (1 : Int) = 0 by decide), ← eF, w64_id (by omega) (by omega)]
        exact ih _ M3 s3
      · rw [if_neg hb2] at eF
        have e0 : (0 : Int) = oddF τ ρ s.toNat.testBit r n a c w := eF.symm
        rw [if_neg hb2, if_pos (show (0 : Int) = 0 from rfl), Int.add_zero, w64_id (by omega) (by omega)]
        have := ih (vL ((wayS n a c w : Nat) : Int)) M3 s3
        rw [eF, Int.add_zero] at this
        exact this
    · rw [if_neg (fun q => hpos (ecmp.mp q))]
      have e0 : oddF τ ρ s.toNat.testBit r n a c w = 0 := by
        have hz : wayS n a c w = 0 := by omega
        unfold oddF
        rw [hz]
        split <;> rfl
      have := ih (vL ((wayS n a c w : Nat) : Int)) M amSame.refl
      rw [e0, Int.add_zero] at this
      exact this
end OD
