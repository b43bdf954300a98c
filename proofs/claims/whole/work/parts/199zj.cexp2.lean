/-! PURE: the class reads expressions -/
theorem cAt2_mv {C C' : Rw} : ∀ (e : Ex) (i : Nat), cAt C i e → (∀ j, i ≤ j → j < i + e.length → C' j = C j) → cAt C' i e
  | [], _, _, _ => trivial
  | x :: r, i, h, hs => by
    obtain ⟨h1, h2⟩ := h
    have hl : (x :: r).length = r.length + 1 := rfl
    exact ⟨(hs i (by omega) (by omega)).trans h1, cAt2_mv r (i + 1) h2 fun j a b => hs j (by omega) (by omega)⟩
theorem cAt2_app {C : Rw} : ∀ (e e' : Ex) (i : Nat), cAt C i e → cAt C (i + e.length) e' → cAt C i (e ++ e')
  | [], e', i, _, h => h
  | x :: r, e', i, h, h' => ⟨h.1, cAt2_app r e' (i + 1) h.2 (by
    have hl : (x :: r).length = r.length + 1 := rfl
    rw [hl] at h'
    rw [show i + 1 + r.length = i + (r.length + 1) by omega]
    exact h')⟩
/-- all that reading may change in the class -/
def fPa : Nat → Nat → Nat → Bool := fun c s _ => c == 4 || c == 107 || (s == 1 && (c == 8 || c == 118 || c == 119 || c == 120 || c == 121 || c == 100 || c == 101 || c == 1))
/-- what taking a TOKEN changes -/
def fTa : Nat → Nat → Nat → Bool := fun c s j => c == 4 && (s == 0 && (j == 3 || j == 4 || j == 6 || j == 7))
/-- what reading an expression changes, its commands from l on -/
def fEx (l : Nat) : Nat → Nat → Nat → Bool := fun c s j => fTa c s j || (c == 100 && (s == 1 && Nat.ble l j)) || (c == 1 && (s == 1 && j == 1))
theorem fTa_fEx {l : Nat} : ∀ c s j, fTa c s j = true → fEx l c s j = true := fun c s j h => by unfold fEx; rw [h]; rfl
theorem fEx_up {l l' : Nat} (h : l ≤ l') : ∀ c s j, fEx l' c s j = true → fEx l c s j = true := fun c s j hq => by
  unfold fEx at hq ⊢
  simp only [Bool.or_eq_true, Bool.and_eq_true, beq_iff_eq, Nat.ble_eq] at hq ⊢
  rcases hq with (h1 | h1) | h1
  · exact Or.inl (Or.inl h1)
  · exact Or.inl (Or.inr ⟨h1.1, h1.2.1, by omega⟩)
  · exact Or.inr h1
theorem fTa_fPa : ∀ c s j, fTa c s j = true → fPa c s j = true := fun c s j h => by
  unfold fTa at h
  simp only [Bool.and_eq_true, beq_iff_eq] at h
  unfold fPa
  rw [h.1]; rfl
theorem fEx_fPa {l : Nat} : ∀ c s j, fEx l c s j = true → fPa c s j = true := fun c s j h => by
  unfold fEx at h
  simp only [Bool.or_eq_true, Bool.and_eq_true, beq_iff_eq] at h
  rcases h with (h | h) | h
  · exact fTa_fPa c s j h
  · unfold fPa; rw [h.1, h.2.1]; rfl
  · unfold fPa; rw [h.1, h.2.1]; rfl
section CEX
variable {D d t len : Nat} {κ ν : Nat → Nat} {M : AmM}
/-- the TOKENS that the class can come to -/
def cTk (κ ν : Nat → Nat) (M : AmM) : Prop := ∀ q, q ≤ 400 → goK κ q → M 115 0 q = ((κ q : Nat) : Int) ∧ (κ q ≤ 20 → M 116 0 q = ((ν q : Nat) : Int))
theorem cTk.pa {M' : AmM} (h : cTk κ ν M) (hs : amSame fPa M M') : cTk κ ν M' := fun q a b => ⟨(hs 115 0 q (by rfl)).trans (h q a b).1, fun k => (hs 116 0 q (by rfl)).trans ((h q a b).2 k)⟩
/-- at TOKEN t, with len commands -/
def cPs (κ : Nat → Nat) (t len : Nat) (M : AmM) : Prop := (t ≤ 400 ∧ goK κ t ∧ len ≤ t) ∧ M 4 0 3 = (t : Int) ∧ M 4 0 4 = ((κ t : Nat) : Int) ∧ M 4 0 6 = 0 ∧ M 1 1 1 = (len : Int)
/-- behind a FAULT -/
def cFt (c q : Nat) (M : AmM) : Prop := c ≠ 0 ∧ M 4 0 6 = (c : Int) ∧ M 4 0 7 = (q : Int) ∧ M 4 0 4 = 22
theorem cFt.mv {c q : Nat} {M' : AmM} (h : cFt c q M) (h6 : M' 4 0 6 = M 4 0 6) (h7 : M' 4 0 7 = M 4 0 7) (h4 : M' 4 0 4 = M 4 0 4) : cFt c q M' := ⟨h.1, h6.trans h.2.1, h7.trans h.2.2.1, h4.trans h.2.2.2⟩
theorem c_fail (hD : 1 ≤ D) {c : Nat} (hc : c ≠ 0) (h6 : M 4 0 6 = 0) (h3 : M 4 0 3 = (t : Int)) : ∃ M', amD amGst D 42 [vR 4 4 0, vI (c : Int)] M = some (vU, M') ∧ amSame fTa M M' ∧ cFt c t M' := by
  obtain ⟨d, rfl⟩ := dS hD
  refine ⟨_, by rw [n_X4_fail, q_X4_fail_0, if_pos h6], ((amSame.refl.up (by rfl)).up (by rfl)).up (by rfl), hc, ?_, ?_, up_on⟩
  · rw [up_j (by decide), up_j (by decide), up_on]
  · rw [up_j (by decide), up_on, up_j (by decide)]; exact h3
theorem c_failF (hD : 1 ≤ D) {c q : Nat} {x : Int} (h : cFt c q M) : amD amGst D 42 [vR 4 4 0, vI x] M = some (vU, M) := by
  obtain ⟨d, rfl⟩ := dS hD
  rw [n_X4_fail, q_X4_fail_0, h.2.1, if_neg (by have := h.1; omega)]
theorem c_kindAt (hD : 1 ≤ D) {q : Nat} (hq : q ≤ 400) : amD amGst D 67 [vR 7 7 0, vI (q : Int)] M = some (vI (M 115 0 q), M) := by
  obtain ⟨d, rfl⟩ := dS hD
  rw [n_X7_kindAt, q_X7_kindAt_0, if_neg (by omega), if_pos (by omega), if_pos (by omega), tn_cast]
theorem c_valueAt (hD : 1 ≤ D) {q : Nat} (hq : q ≤ 400) : amD amGst D 68 [vR 7 7 0, vI (q : Int)] M = some (vL (M 116 0 q), M) := by
  obtain ⟨d, rfl⟩ := dS hD
  rw [n_X7_valueAt, q_X7_valueAt_0, if_neg (by omega), if_pos (by omega), if_pos (by omega), tn_cast]
theorem c_take (hD : 2 ≤ D) (hT : cTk κ ν M) {w : Nat} (hw : w ≠ 21 ∧ w ≠ 22) (h : cPs κ t len M) : ∃ M', amD amGst D 39 [vR 4 4 0, vI (w : Int)] M = some (vU, M') ∧ amSame fTa M M' ∧ match tkX κ w t with
    | .inl (c, q) => cFt c q M'
    | .inr t1 => cPs κ t1 len M' := by
  obtain ⟨d, rfl⟩ := dS hD
  obtain ⟨⟨h0, hg, hl⟩, h3, h4, h6, h1⟩ := h
  rw [n_X4_take, q_X4_take_0, h4]
  unfold tkX
  by_cases hk : κ t = w
  · rw [if_pos (by omega), if_pos hk, h3]
    by_cases h40 : t < 400
    · rw [if_pos (by omega), if_pos h40, w32_n (x := (t : Int) + 1) (n := t + 1) (by omega) (by omega), up_on, c_kindAt (by omega) (by omega), amCI_s]
      have hg1 : goK κ (t + 1) := hg.nx (by omega) (by omega)
      have ek : amUp M 4 0 3 ((t + 1 : Nat) : Int) 115 0 (t + 1) = ((κ (t + 1) : Nat) : Int) := by rw [up_c (by decide)]; exact (hT (t + 1) (by omega) hg1).1
      refine ⟨_, rfl, (amSame.refl.up (by rfl)).up (by rfl), ⟨by omega, hg1, by omega⟩, ?_, ?_, ?_, ?_⟩
      · rw [up_j (by decide), up_on]
      · rw [up_on, ek]
      · rw [up_j (by decide), up_j (by decide)]; exact h6
      · rw [up_c (by decide), up_c (by decide)]; exact h1
    · rw [if_neg (by omega), if_neg h40]
      obtain ⟨M', a1, a2, a3⟩ := c_fail (D := d) (c := 2) (by omega) (by decide) h6 h3
      exact ⟨M', by rw [show (2 : Int) = ((2 : Nat) : Int) from rfl, a1, amCV_s], a2, a3⟩
  · rw [if_neg (by omega), if_neg hk]
    obtain ⟨M', a1, a2, a3⟩ := c_fail (D := d) (c := 1) (by omega) (by decide) h6 h3
    exact ⟨M', by rw [show (1 : Int) = ((1 : Nat) : Int) from rfl, a1, amCV_s], a2, a3⟩
theorem c_takeF (hD : 2 ≤ D) {c q : Nat} {w : Int} (hw : w ≠ 22) (h : cFt c q M) : amD amGst D 39 [vR 4 4 0, vI w] M = some (vU, M) := by
  obtain ⟨d, rfl⟩ := dS hD
  rw [n_X4_take, q_X4_take_0, h.2.2.2, if_neg (fun q => hw q.symm), c_failF (by omega) h, amCV_s]
theorem c_emit (hD : 2 ≤ D) {k v : Int} (hl : len ≤ 400) (h1 : M 1 1 1 = (len : Int)) (hk : 0 ≤ k ∧ k < 8) (hv : 0 ≤ v ∧ v < 100000) : amD amGst D 14 [vR 1 1 1, vI k, vI v] M = some (vU, amUp (amUp M 100 1 len (k + 8 * v)) 1 1 1 ((len + 1 : Nat) : Int)) := by
  obtain ⟨d, rfl⟩ := dS hD
  rw [n_X1_emit, q_X1_emit_0, h1, if_pos (by omega), c_put (n := 401) (by omega) (by decide) (by decide) (by omega) (by omega), amCV_s, tn_cast, up_c (by decide), h1, w32_n (x := (len : Int) + 1) (n := len + 1) (by omega) (by omega), bOr_cmd hk.1 hk.2 hv.1 hv.2]
def fEm : Nat → Nat → Nat → Bool := fun c s j => (c == 100 && s == 1) || (c == 1 && (s == 1 && j == 1))
theorem fEm_fPa : ∀ c s j, fEm c s j = true → fPa c s j = true := fun c s j h => by
  unfold fEm at h
  simp only [Bool.or_eq_true, Bool.and_eq_true, beq_iff_eq] at h
  rcases h with h | h
  · unfold fPa; rw [h.1, h.2]; rfl
  · unfold fPa; rw [h.1, h.2.1]; rfl
theorem c_emitF (hD : 2 ≤ D) {k v : Int} : ∃ M', amD amGst D 14 [vR 1 1 1, vI k, vI v] M = some (vU, M') ∧ amSame fEm M M' := by
  obtain ⟨d, rfl⟩ := dS hD
  rw [n_X1_emit, q_X1_emit_0]
  by_cases h : M 1 1 1 < 401
  · rw [if_pos h]
    by_cases h0 : 0 ≤ M 1 1 1
    · rw [c_put (n := 401) (by omega) (by decide) (by decide) h0 (by omega), amCV_s]
      exact ⟨_, rfl, (amSame.refl.up (by rfl)).up (by rfl)⟩
    · rw [c_putN (n := 401) (by omega) (by decide) (by decide) (Or.inl (by omega)), amCV_s]
      exact ⟨_, rfl, amSame.refl.up (by rfl)⟩
  · rw [if_neg h]
    exact ⟨M, rfl, amSame.refl⟩
theorem cFt.em {c q : Nat} {M' : AmM} (h : cFt c q M) (hs : amSame fEm M M') : cFt c q M' := h.mv (hs 4 0 6 (by rfl)) (hs 4 0 7 (by rfl)) (hs 4 0 4 (by rfl))
/-- behind a FAULT a unit is nothing -/
theorem c_unitF (hD : 2 ≤ D) {c q : Nat} {n : Int} (h : cFt c q M) : amD amGst D 38 [vR 4 4 0, vI n] M = some (vU, M) := by
  obtain ⟨d, rfl⟩ := dS hD
  rw [n_X4_readUnit, q_X4_readUnit_0, h.2.2.2, if_neg (by decide), if_neg (by decide), if_pos (by decide), q_X4_readUnit_90, h.2.2.2, if_neg (by decide), c_failF (by omega) h, amCV_s]
theorem c_isSign (hD : 1 ≤ D) {k : Nat} : amD amGst D 37 [vI (k : Int)] M = some (vI (if sgnK k = true then 1 else 0), M) := by
  obtain ⟨d, rfl⟩ := dS hD
  rw [n_X4_isSign, q_X4_isSign_0]
  by_cases h : sgnK k = true
  · have h1 := sgnK_b.1 h
    rw [if_pos h]
    by_cases c1 : (k : Int) = 43
    · rw [if_pos c1]
    · rw [if_neg c1]
      by_cases c2 : (k : Int) = 45
      · rw [if_pos c2]
      · rw [if_neg c2]
        by_cases c3 : (k : Int) = 42
        · rw [if_pos c3]
        · rw [if_neg c3, if_pos (by omega)]
  · have h1 : ¬ (k = 43 ∨ k = 45 ∨ k = 42 ∨ k = 47) := fun q => h (sgnK_b.2 q)
    rw [if_neg h, if_neg (by omega), if_neg (by omega), if_neg (by omega), if_neg (by omega)]
theorem c_138F (hd : 2 ≤ d) {c q : Nat} {n l2 l3 : Int} {u4 u5 : AmV} (h : cFt c q M) : ∃ M', e_X4_readSum_138 d n l2 l3 u4 u5 M = some (vU, M') ∧ amSame fEm M M' ∧ cFt c q M' := by
  rw [q_X4_readSum_138]
  by_cases h2 : l2 = -1
  · rw [if_pos h2]; exact ⟨M, rfl, amSame.refl, h⟩
  · rw [if_neg h2]
    obtain ⟨M', a1, a2⟩ := c_emitF (D := d) (M := M) (k := l2) (v := 0) hd
    exact ⟨M', by rw [a1, amCV_s], a2, h.em a2⟩
theorem c_9F (hd : 2 ≤ d) {c q : Nat} {n l2 l3 : Int} {u4 u5 : AmV} (h : cFt c q M) : ∃ M', e_X4_readSum_9 d n l2 l3 u4 u5 M = some (vU, M') ∧ amSame fEm M M' ∧ cFt c q M' := by
  rw [q_X4_readSum_9]
  by_cases h3 : l3 < 400
  · have e22 : amD amGst d 37 [vI 22] M = some (vI 0, M) := by
      have := c_isSign (D := d) (M := M) (k := 22) (by omega)
      exact this
    rw [if_pos h3, h.2.2.2, e22, amCI_s, if_pos (show (0 : Int) = 0 from rfl)]
    exact c_138F hd h
  · rw [if_neg h3]
    exact c_138F hd h
/-- a sum behind a FAULT -/
theorem c_sumF (hD : 3 ≤ D) {c q : Nat} {n : Int} (h : cFt c q M) : ∃ M', amD amGst D 36 [vR 4 4 0, vI n] M = some (vU, M') ∧ amSame fEm M M' ∧ cFt c q M' := by
  obtain ⟨d, rfl⟩ := dS hD
  rw [n_X4_readSum, q_X4_readSum_0, c_unitF (by omega) h, amCV_s]
  exact c_9F (by omega) h
/-- what comes of reading e behind l commands -/
def cOut (κ : Nat → Nat) (l : Nat) (r : Pr (Nat × Ex)) (o : Option (AmV × AmM)) (M : AmM) : Prop := match r with
  | .inl (c, q) => ∃ M', o = some (vU, M') ∧ amSame fPa M M' ∧ cFt c q M'
  | .inr (t1, e) => ∃ M', o = some (vU, M') ∧ amSame (fEx l) M M' ∧ cPs κ t1 (l + e.length) M' ∧ cAt (M' 100 1) l e
def wI (w : Nat) : Int := if w = 0 then -1 else (w : Int) + 2
def cUnC (κ ν : Nat → Nat) (D : Nat) (n : Int) (un : Nat → Pr (Nat × Ex)) : Prop := ∀ (t len : Nat) (M : AmM), cTk κ ν M → cPs κ t len M → cOut κ len (un t) (amD amGst D 38 [vR 4 4 0, vI n] M) M
/-- an operation behind what was read -/
theorem c_opAt {k : Nat} {e : Ex} {l : Nat} (h : cAt (M 100 1) l e) (hk : 2 ≤ k) : cAt (amUp (amUp M 100 1 (l + e.length) ((k : Int) + 2)) 1 1 1 ((l + e.length + 1 : Nat) : Int) 100 1) l (e ++ [(k, 0)]) := by
  refine cAt2_app e [(k, 0)] l (cAt2_mv e l h fun j a b => ?_) ⟨?_, trivial⟩
  · rw [up_c (by decide), up_j (by omega)]
  · rw [up_c (by decide), up_on]
    unfold cCmd
    rw [if_neg (show ¬ k = 0 by omega), if_neg (show ¬ k = 1 by omega)]
theorem cPs.em {v : Int} (h : cPs κ t len M) (hl : len + 1 ≤ t) : cPs κ t (len + 1) (amUp (amUp M 100 1 len v) 1 1 1 ((len + 1 : Nat) : Int)) := by
  obtain ⟨⟨h0, hg, h5⟩, h3, h4, h6, h1⟩ := h
  exact ⟨⟨h0, hg, hl⟩, by rw [up_c (by decide), up_c (by decide)]; exact h3, by rw [up_c (by decide), up_c (by decide)]; exact h4, by rw [up_c (by decide), up_c (by decide)]; exact h6, up_on⟩
theorem em_fEx {l : Nat} {v x : Int} (hl : l ≤ len) : amSame (fEx l) M (amUp (amUp M 100 1 len v) 1 1 1 x) := (amSame.refl.up (by
  unfold fEx
  rw [ble_t hl]
  simp)).up (by unfold fEx; simp)
end CEX
