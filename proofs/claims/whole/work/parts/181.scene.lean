/-! PURE: the class's scenes -/
def cSc (τ : Tx) (s : Nat) (ρ : Rw) (M : AmM) : Prop := cSt (tN τ) s ρ M ∧ (∀ p, p < tP τ → M 108 s p = ρ (50 + p) ∧ M 109 s p = ρ (58 + p) ∧ M 110 s p = ρ (66 + p) ∧ M 111 s p = ρ (74 + p)) ∧ M 5 s 6 = ρ 82 ∧ M 5 s 7 = ρ 83
def fSt (r : Nat) : Nat → Nat → Nat → Bool := fun c s _ => s == r && (c == 112 || c == 113 || c == 6)
def fSc (r : Nat) : Nat → Nat → Nat → Bool := fun c s _ => s == r && (c == 112 || c == 113 || c == 6 || c == 108 || c == 109 || c == 110 || c == 111 || c == 5)
theorem fSt_fSc {r : Nat} : ∀ c s j, fSt r c s j = true → fSc r c s j = true := fun c s j h => by
  unfold fSt at h
  unfold fSc
  simp only [Bool.and_eq_true, Bool.or_eq_true] at h ⊢
  refine ⟨h.1, ?_⟩
  rcases h.2 with (h | h) | h
  · exact Or.inl (Or.inl (Or.inl (Or.inl (Or.inl (Or.inl (Or.inl h))))))
  · exact Or.inl (Or.inl (Or.inl (Or.inl (Or.inl (Or.inl (Or.inr h))))))
  · exact Or.inl (Or.inl (Or.inl (Or.inl (Or.inl (Or.inr h)))))
theorem cSt.mv {n r : Nat} {ρ : Rw} {M M' : AmM} (h : cSt n r ρ M) (hs : ∀ c j, (c = 112 ∨ c = 113 ∨ c = 6) → M' c r j = M c r j) : cSt n r ρ M' := by
  obtain ⟨h1, h2, h3⟩ := h
  exact ⟨by rw [hs 6 _ (by simp)]; exact h1, by rw [hs 6 _ (by simp)]; exact h2, fun j a b => by rw [hs 112 _ (by simp), hs 113 _ (by simp)]; exact h3 j a b⟩
theorem cSc.mv {τ : Tx} {r : Nat} {ρ : Rw} {M M' : AmM} (h : cSc τ r ρ M) (hs : ∀ c j, (c = 112 ∨ c = 113 ∨ c = 6 ∨ c = 108 ∨ c = 109 ∨ c = 110 ∨ c = 111 ∨ c = 5) → M' c r j = M c r j) : cSc τ r ρ M' := by
  obtain ⟨h1, h2, h3, h4⟩ := h
  refine ⟨h1.mv fun c j hc => hs c j (by rcases hc with rfl | rfl | rfl <;> simp), fun p hp => ?_, by rw [hs 5 _ (by simp)]; exact h3, by rw [hs 5 _ (by simp)]; exact h4⟩
  rw [hs 108 _ (by simp), hs 109 _ (by simp), hs 110 _ (by simp), hs 111 _ (by simp)]
  exact h2 p hp
theorem cSt.row {n r : Nat} {ρ ρ' : Rw} {M : AmM} (h : cSt n r ρ M) (hn : n ≤ 24) (he : ∀ j, 1 ≤ j → j < 50 → ρ' j = ρ j) : cSt n r ρ' M := by
  obtain ⟨h1, h2, h3⟩ := h
  exact ⟨h1, by rw [h2]; exact (gonS_eq n ρ ρ' (fun j a b => he j a (by omega))).symm, fun j a b => by rw [he j a (by omega), he (25 + j) (by omega) (by omega)]; exact h3 j a b⟩
section SC
variable {D d n r q : Nat} {τ : Tx} {ρ : Rw} {M : AmM}
/-- stairs copied -/
theorem c_stCopy (hD : 2 ≤ D) (hn : n ≤ 24) (h : cSt n q ρ M) (hne : r ≠ q) : ∃ M', amD amGst D 53 [vR 6 6 r, vR 6 6 q] M = some (vU, M') ∧ cSt n r ρ M' ∧ amSame (fSt r) M M' := by
  obtain ⟨d, rfl⟩ := dS hD
  rw [n_X6_copyFrom, q_X6_copyFrom_0, c_copy (n := 26) (by omega) (by decide) (by decide) (by decide) (by decide), amCV_s, c_copy (n := 26) (by omega) (by decide) (by decide) (by decide) (by decide), amCV_s]
  generalize hM2 : amCpy (amCpy M 112 q 0 112 r 0 ((26 : Nat) : Int)) 113 q 0 113 r 0 ((26 : Nat) : Int) = M2
  have s2 : amSame (fSt r) M M2 := by
    rw [← hM2]
    exact (amSame.refl.cpy (fun j => by simp [fSt])).cpy (fun j => by simp [fSt])
  have e6 : ∀ j, M2 6 q j = M 6 q j := fun j => by rw [← hM2, cpy_c (by decide), cpy_c (by decide)]
  refine ⟨_, rfl, ⟨?_, ?_, fun j a b => ?_⟩, (s2.up (by simp [fSt])).up (by simp [fSt])⟩
  · rw [up_j (by decide), up_on, e6]; exact h.1
  · rw [up_on, up_s (Ne.symm hne), e6]; exact h.2.1
  · rw [up_c (by decide), up_c (by decide), up_c (by decide), up_c (by decide), ← hM2, cpy_c (by decide), cpy_at (by omega), cpy_at (by omega), cpy_c (by decide)]
    exact h.2.2 j a b
/-- a scene copied -/
theorem c_scCopy (hD : 3 ≤ D) (hτ : tOk τ) (h : cSc τ q ρ M) (hne : r ≠ q) : ∃ M', amD amGst D 45 [vR 5 5 r, vR 5 5 q] M = some (vU, M') ∧ cSc τ r ρ M' ∧ amSame (fSc r) M M' := by
  obtain ⟨d, rfl⟩ := dS hD
  have hP := hτ.2.2.2.2.2.2.1
  obtain ⟨M1, m1, m2, m3⟩ := c_stCopy (D := d) (r := r) (by omega) hτ.1 h.1 hne
  rw [n_X5_copyFrom, q_X5_copyFrom_0, m1, amCV_s]
  iterate 4 rw [c_copy (n := 8) (by omega) (by decide) (by decide) (by decide) (by decide), amCV_s]
  generalize hM5 : amCpy (amCpy (amCpy (amCpy M1 108 q 0 108 r 0 ((8 : Nat) : Int)) 109 q 0 109 r 0 ((8 : Nat) : Int)) 110 q 0 110 r 0 ((8 : Nat) : Int)) 111 q 0 111 r 0 ((8 : Nat) : Int) = M5
  have s5 : amSame (fSc r) M M5 := by
    rw [← hM5]
    exact ((((m3.mono fSt_fSc).cpy (fun j => by simp [fSc])).cpy (fun j => by simp [fSc])).cpy (fun j => by simp [fSc])).cpy (fun j => by simp [fSc])
  have hqr : q ≠ r := Ne.symm hne
  have o1 : ∀ c j, M1 c q j = M c q j := fun c j => m3 _ _ _ (by simp [fSt, hqr])
  have e5 : ∀ j, M5 5 q j = M 5 q j := fun j => by rw [← hM5, cpy_c (by decide), cpy_c (by decide), cpy_c (by decide), cpy_c (by decide), o1]
  refine ⟨_, rfl, ⟨?_, fun p hp => ?_, ?_, ?_⟩, (s5.up (by simp [fSc])).up (by simp [fSc])⟩
  · refine m2.mv fun c j hc => ?_
    have h5 : c ≠ 5 := by rcases hc with rfl | rfl | rfl <;> decide
    have h108 : c ≠ 108 ∧ c ≠ 109 ∧ c ≠ 110 ∧ c ≠ 111 := by rcases hc with rfl | rfl | rfl <;> decide
    rw [up_c h5, up_c h5, ← hM5, cpy_c h108.2.2.2, cpy_c h108.2.2.1, cpy_c h108.2.1, cpy_c h108.1]
  · have h9 := h.2.1 p hp
    iterate 8 rw [up_c (by decide)]
    rw [← hM5]
    refine ⟨?_, ?_, ?_, ?_⟩
    · rw [cpy_c (by decide), cpy_c (by decide), cpy_c (by decide), cpy_at (by omega), o1]; exact h9.1
    · rw [cpy_c (by decide), cpy_c (by decide), cpy_at (by omega), cpy_c (by decide), o1]; exact h9.2.1
    · rw [cpy_c (by decide), cpy_at (by omega), cpy_c (by decide), cpy_c (by decide), o1]; exact h9.2.2.1
    · rw [cpy_at (by omega), cpy_c (by decide), cpy_c (by decide), cpy_c (by decide), o1]; exact h9.2.2.2
  · rw [up_j (by decide), up_on, e5]; exact h.2.2.1
  · rw [up_on, up_s hqr, e5]; exact h.2.2.2
theorem c_hasY (hD : 1 ≤ D) (hT : cTx 0 τ M) {p : Int} (hp : 0 ≤ p ∧ p < tP τ) : amD amGst D 83 [vR 8 8 0, vI p] M = some (vI 1, M) := by
  obtain ⟨d, rfl⟩ := dS hD
  rw [n_X8_hasPilgrim, q_X8_hasPilgrim_0, hT.2.2.2.2.1, if_neg (by omega), if_pos (by omega)]
theorem c_hasN (hD : 1 ≤ D) (hT : cTx 0 τ M) {p : Int} (hp : ¬ (0 ≤ p ∧ p < tP τ)) : amD amGst D 83 [vR 8 8 0, vI p] M = some (vI 0, M) := by
  obtain ⟨d, rfl⟩ := dS hD
  rw [n_X8_hasPilgrim, q_X8_hasPilgrim_0, hT.2.2.2.2.1]
  by_cases h : p < 0
  · rw [if_pos h]
  · rw [if_neg h, if_neg (by omega)]
/-- is a pilgrim on the ground -/
theorem c_onGround (hD : 2 ≤ D) (hτ : tOk τ) (hT : cTx 0 τ M) {s p : Nat} (h : cSc τ s ρ M) (hp : p < tP τ) : amD amGst D 48 [vR 5 5 s, vI p] M = some (vI (if ρ (50 + p) = 0 then 1 else 0), M) := by
  obtain ⟨d, rfl⟩ := dS hD
  have hP := hτ.2.2.2.2.2.2.1
  have e : ((p : Nat) : Int).toNat = p := rfl
  rw [n_X5_isOnGround, q_X5_isOnGround_0, c_hasY (by omega) hT ⟨by omega, by omega⟩, amCI_s, if_neg (by decide), c_at (n := 8) (by omega) (by decide) (by decide) (by omega) (by omega), amCI_s, e, (h.2.1 p hp).1]
  split <;> rfl
theorem c_onGroundN (hD : 2 ≤ D) (hT : cTx 0 τ M) {s : Nat} {p : Int} (hp : ¬ (0 ≤ p ∧ p < tP τ)) : amD amGst D 48 [vR 5 5 s, vI p] M = some (vI 0, M) := by
  obtain ⟨d, rfl⟩ := dS hD
  rw [n_X5_isOnGround, q_X5_isOnGround_0, c_hasN (by omega) hT hp, amCI_s, if_pos rfl]
/-- what a going leaves of a row -/
def setS (ρ : Rw) (p : Nat) (R : Nat × Nat × Wk) (j : Nat) : Int := if j = 50 + p then (R.2.1 : Int) else if j = 58 + p then w32 (ρ (58 + p) + R.2.2.2.1) else if j = 66 + p then w32 (ρ (66 + p) + (if R.1 = 0 then 1 else 0)) else if j = 74 + p then (if R.1 = 2 then 1 else 0) else if j < 50 then R.2.2.1 j else ρ j
theorem setS_lt {ρ : Rw} {p : Nat} {R : Nat × Nat × Wk} {j : Nat} (h : j < 50) : setS ρ p R j = R.2.2.1 j := by
  unfold setS
  rw [if_neg (show ¬ j = 50 + p by omega), if_neg (show ¬ j = 58 + p by omega), if_neg (show ¬ j = 66 + p by omega), if_neg (show ¬ j = 74 + p by omega), if_pos h]
theorem setS_50 {ρ : Rw} {p q : Nat} {R : Nat × Nat × Wk} (hp : p < 8) (hq : q < 8) : setS ρ p R (50 + q) = if q = p then (R.2.1 : Int) else ρ (50 + q) := by
  unfold setS
  by_cases h : q = p
  · rw [if_pos (show 50 + q = 50 + p by omega), if_pos h]
  · rw [if_neg (show ¬ 50 + q = 50 + p by omega), if_neg (show ¬ 50 + q = 58 + p by omega), if_neg (show ¬ 50 + q = 66 + p by omega), if_neg (show ¬ 50 + q = 74 + p by omega), if_neg (show ¬ 50 + q < 50 by omega), if_neg h]
theorem setS_58 {ρ : Rw} {p q : Nat} {R : Nat × Nat × Wk} (hp : p < 8) (hq : q < 8) : setS ρ p R (58 + q) = if q = p then w32 (ρ (58 + p) + R.2.2.2.1) else ρ (58 + q) := by
  unfold setS
  by_cases h : q = p
  · rw [if_neg (show ¬ 58 + q = 50 + p by omega), if_pos (show 58 + q = 58 + p by omega), if_pos h]
  · rw [if_neg (show ¬ 58 + q = 50 + p by omega), if_neg (show ¬ 58 + q = 58 + p by omega), if_neg (show ¬ 58 + q = 66 + p by omega), if_neg (show ¬ 58 + q = 74 + p by omega), if_neg (show ¬ 58 + q < 50 by omega), if_neg h]
theorem setS_66 {ρ : Rw} {p q : Nat} {R : Nat × Nat × Wk} (hp : p < 8) (hq : q < 8) : setS ρ p R (66 + q) = if q = p then w32 (ρ (66 + p) + (if R.1 = 0 then 1 else 0)) else ρ (66 + q) := by
  unfold setS
  by_cases h : q = p
  · rw [if_neg (show ¬ 66 + q = 50 + p by omega), if_neg (show ¬ 66 + q = 58 + p by omega), if_pos (show 66 + q = 66 + p by omega), if_pos h]
  · rw [if_neg (show ¬ 66 + q = 50 + p by omega), if_neg (show ¬ 66 + q = 58 + p by omega), if_neg (show ¬ 66 + q = 66 + p by omega), if_neg (show ¬ 66 + q = 74 + p by omega), if_neg (show ¬ 66 + q < 50 by omega), if_neg h]
theorem setS_74 {ρ : Rw} {p q : Nat} {R : Nat × Nat × Wk} (hp : p < 8) (hq : q < 8) : setS ρ p R (74 + q) = if q = p then (if R.1 = 2 then 1 else 0) else ρ (74 + q) := by
  unfold setS
  by_cases h : q = p
  · rw [if_neg (show ¬ 74 + q = 50 + p by omega), if_neg (show ¬ 74 + q = 58 + p by omega), if_neg (show ¬ 74 + q = 66 + p by omega), if_pos (show 74 + q = 74 + p by omega), if_pos h]
  · rw [if_neg (show ¬ 74 + q = 50 + p by omega), if_neg (show ¬ 74 + q = 58 + p by omega), if_neg (show ¬ 74 + q = 66 + p by omega), if_neg (show ¬ 74 + q = 74 + p by omega), if_neg (show ¬ 74 + q < 50 by omega), if_neg h]
theorem setS_hi {ρ : Rw} {p j : Nat} {R : Nat × Nat × Wk} (hp : p < 8) (hj : 82 ≤ j) : setS ρ p R j = ρ j := by
  unfold setS
  rw [if_neg (show ¬ j = 50 + p by omega), if_neg (show ¬ j = 58 + p by omega), if_neg (show ¬ j = 66 + p by omega), if_neg (show ¬ j = 74 + p by omega), if_neg (show ¬ j < 50 by omega)]
theorem c_settle (hD : 2 ≤ D) {s p o sp : Nat} {led : Int} (hp : p < 8) : ∃ M', amD amGst D 46 [vR 5 5 s, vI p, vI o, vI sp, vI led] M = some (vU, M') ∧ amSame (fun c r _ => r == s && (c == 108 || c == 109 || c == 110 || c == 111)) M M' ∧ ∀ i, M' 108 s i = (if i = p then (sp : Int) else M 108 s i) ∧ M' 109 s i = (if i = p then w32 (M 109 s p + led) else M 109 s i) ∧ M' 110 s i = (if i = p then w32 (M 110 s p + (if o = 0 then 1 else 0)) else M 110 s i) ∧ M' 111 s i = (if i = p then (if o = 2 then 1 else 0) else M 111 s i) := by
  obtain ⟨d, rfl⟩ := dS hD
  have e : ((p : Nat) : Int).toNat = p := rfl
  rw [n_X5_settle, q_X5_settle_0, c_put (n := 8) (by omega) (by decide) (by decide) (by omega) (by omega), amCV_s, c_at (n := 8) (by omega) (by decide) (by decide) (by omega) (by omega), amCI_s, c_put (n := 8) (by omega) (by decide) (by decide) (by omega) (by omega), amCV_s, c_at (n := 8) (by omega) (by decide) (by decide) (by omega) (by omega), amCI_s, e]
  have e9 : (amUp M 108 s p (sp : Int)) 109 s p = M 109 s p := up_c (by decide)
  rw [e9]
  generalize hM3 : amUp (amUp M 108 s p (sp : Int)) 109 s p (w32 (M 109 s p + led)) = M3
  have s3 : amSame (fun c r _ => r == s && (c == 108 || c == 109 || c == 110 || c == 111)) M M3 := by
    rw [← hM3]
    exact (amSame.refl.up (by simp)).up (by simp)
  have e110 : M3 110 s p = M 110 s p := by rw [← hM3, up_c (by decide), up_c (by decide)]
  have key : ∀ z y : Int, z = w32 (M 110 s p + (if o = 0 then 1 else 0)) → y = (if o = 2 then 1 else 0) → amSame (fun c r _ => r == s && (c == 108 || c == 109 || c == 110 || c == 111)) M (amUp (amUp M3 110 s p z) 111 s p y) ∧ ∀ i, (amUp (amUp M3 110 s p z) 111 s p y) 108 s i = (if i = p then (sp : Int) else M 108 s i) ∧ (amUp (amUp M3 110 s p z) 111 s p y) 109 s i = (if i = p then w32 (M 109 s p + led) else M 109 s i) ∧ (amUp (amUp M3 110 s p z) 111 s p y) 110 s i = (if i = p then w32 (M 110 s p + (if o = 0 then 1 else 0)) else M 110 s i) ∧ (amUp (amUp M3 110 s p z) 111 s p y) 111 s i = (if i = p then (if o = 2 then 1 else 0) else M 111 s i) := by
    intro z y hz hy
    refine ⟨(s3.up (by simp)).up (by simp), fun i => ⟨?_, ?_, ?_, ?_⟩⟩
    · rw [up_c (by decide), up_c (by decide), ← hM3, up_c (by decide), up_at]
    · rw [up_c (by decide), up_c (by decide), ← hM3, up_at, up_c (by decide)]
    · rw [up_c (by decide), up_at, hz, ← hM3, up_c (by decide), up_c (by decide)]
    · rw [up_at, hy, up_c (by decide), ← hM3, up_c (by decide), up_c (by decide)]
  rw [e110]
  by_cases h0 : o = 0
  · rw [if_pos (show ((o : Nat) : Int) = 0 by omega), c_put (n := 8) (by omega) (by decide) (by decide) (by omega) (by omega), amCV_s, if_neg (show ¬ ((o : Nat) : Int) = 2 by omega), c_put (n := 8) (by omega) (by decide) (by decide) (by omega) (by omega), amCV_s, e]
    exact ⟨_, rfl, key _ _ (by rw [if_pos h0]) (by rw [if_neg (show ¬ o = 2 by omega)])⟩
  · rw [if_neg (show ¬ ((o : Nat) : Int) = 0 by omega), c_put (n := 8) (by omega) (by decide) (by decide) (by omega) (by omega), amCV_s, e]
    by_cases h2 : o = 2
    · rw [if_pos (show ((o : Nat) : Int) = 2 by omega), c_put (n := 8) (by omega) (by decide) (by decide) (by omega) (by omega), amCV_s, e]
      exact ⟨_, rfl, key _ _ (by rw [if_neg h0]) (by rw [if_pos h2])⟩
    · rw [if_neg (show ¬ ((o : Nat) : Int) = 2 by omega), c_put (n := 8) (by omega) (by decide) (by decide) (by omega) (by omega), amCV_s, e]
      exact ⟨_, rfl, key _ _ (by rw [if_neg h0]) (by rw [if_neg h2])⟩
end SC
