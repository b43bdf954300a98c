/-! PURE: the tape and what was told: feed, back, place, tell, forget -/
def fd1 (L : Nat) (B : Nat → Int) (v s : Int) : Nat → Int := fun j => if j = L then w8 (w8 (bShr v s)) else B j
def fd4 (L : Nat) (B : Nat → Int) (v : Int) : Nat → Int := fd1 (L + 3) (fd1 (L + 2) (fd1 (L + 1) (fd1 L B v 24) v 16) v 8) v 0
def fd20 (L : Nat) (B : Nat → Int) (v1 v2 v3 v4 v5 : Int) : Nat → Int := fd4 (L + 16) (fd4 (L + 12) (fd4 (L + 8) (fd4 (L + 4) (fd4 L B v1) v2) v3) v4) v5
def cTp (L : Nat) (B : Nat → Int) (M : AmM) : Prop := L ≤ 2000 ∧ M 7 0 1 = L ∧ ∀ j, j < L → M 114 0 j = B j
def rTp (L : Nat) (B : Nat → Int) (M : AmM) : Prop := L ≤ 2000 ∧ M 12 0 2 = L ∧ ∀ j, j < L → M 129 0 j = B j
def cTo (k : Nat) (S T : Nat → Int) (M : AmM) : Prop := k ≤ 30 ∧ M 9 0 5 = k ∧ ∀ i, i < k → M 122 0 i = S i ∧ M 123 0 i = T i
def rTo (k : Nat) (S T : Nat → Int) (M : AmM) : Prop := k ≤ 30 ∧ M 12 0 65 = k ∧ ∀ i, i < k → M 166 0 i = S i ∧ M 167 0 i = T i
def fCt : Nat → Nat → Nat → Bool := fun c _ j => c == 114 || (c == 7 && j == 1)
def fRt : Nat → Nat → Nat → Bool := fun c _ j => c == 129 || (c == 12 && j == 2)
section TP
variable {D d v : Nat} {τ : Tx} {ρ : Rw} {M : AmM} {N L : Nat} {B : Nat → Int}
theorem c_put1 (hL : L < 2000) {x s : Int} (hs : 0 ≤ s ∧ s ≤ 24) (h : cTp L B M) : ∃ M', e_X7_addFour_3 d x s M = e_X7_addFour_3 d x (s - 8) M' ∧ cTp (L + 1) (fd1 L B x s) M' ∧ amSame fCt M M' := by
  obtain ⟨h1, h2, h3⟩ := h
  have e : ((L : Nat) : Int).toNat = L := rfl
  refine ⟨amUp (amUp M 114 0 L (w8 (w8 (bShr x s)))) 7 0 1 ((L + 1 : Nat) : Int), ?_, ⟨by omega, up_on, fun j hj => ?_⟩, (amSame.refl.up (by rfl)).up (by rfl)⟩
  · rw [q_X7_addFour_3, h2, e, if_neg (show ¬ s < 0 by omega), if_neg (show ¬ (L : Int) < 0 by omega), if_pos (show (L : Int) < 2000 by omega), if_pos (show (0 : Int) ≤ (L : Int) ∧ (L : Int) < 2000 by omega), up_c (show 7 ≠ 114 by decide), h2, w32_n (x := (L : Int) + 1) (n := L + 1) (by omega) (by omega), q_X7_addFour_49, w32_id (x := s + -8) (by omega) (by omega), show s + -8 = s - 8 by omega]
  · rw [up_c (by decide), up_at]
    unfold fd1
    by_cases hj2 : j = L
    · rw [if_pos hj2, if_pos hj2]
    · rw [if_neg hj2, if_neg hj2]; exact h3 j (by omega)
theorem c_addFour (hD : 1 ≤ D) (hL : L + 4 ≤ 2000) {x : Int} (h : cTp L B M) : ∃ M', amD amGst D 64 [vR 7 7 0, vI x] M = some (vU, M') ∧ cTp (L + 4) (fd4 L B x) M' ∧ amSame fCt M M' := by
  obtain ⟨d, rfl⟩ := dS hD
  obtain ⟨M1, a1, a2, a3⟩ := c_put1 (d := d) (x := x) (s := 24) (by omega) (by omega) h
  obtain ⟨M2, b1, b2, b3⟩ := c_put1 (d := d) (x := x) (s := 16) (by omega) (by omega) a2
  obtain ⟨M3, c1, c2, c3⟩ := c_put1 (d := d) (x := x) (s := 8) (by omega) (by omega) b2
  obtain ⟨M4, e1, e2, e3⟩ := c_put1 (d := d) (x := x) (s := 0) (by omega) (by omega) c2
  refine ⟨M4, ?_, e2, ((a3.trans b3).trans c3).trans e3⟩
  rw [n_X7_addFour, q_X7_addFour_0]
  refine a1.trans (b1.trans (c1.trans (e1.trans ?_)))
  rw [q_X7_addFour_3, if_pos (by omega)]
theorem c_feedN (hD : 2 ≤ D) {x1 x2 x3 x4 x5 : Int} (hL : 2000 < L + 20) (h : cTp L B M) : amD amGst D 107 [vR 11 11 0, vI x1, vI x2, vI x3, vI x4, vI x5] M = some (vI (-1), M) := by
  obtain ⟨d, rfl⟩ := dS hD
  obtain ⟨d, rfl⟩ := dS (show 0 + 1 ≤ d by omega)
  obtain ⟨h1, h2, h3⟩ := h
  rw [n_X11_feed, q_X11_feed_0, n_X7_add, q_X7_add_0, h2, w32_n (x := (L : Int) + 20) (n := L + 20) (by omega) (by omega), if_pos (by omega), amCI_s]
theorem c_feed (hD : 3 ≤ D) {x1 x2 x3 x4 x5 : Int} (hL : L + 20 ≤ 2000) (h : cTp L B M) : ∃ M', amD amGst D 107 [vR 11 11 0, vI x1, vI x2, vI x3, vI x4, vI x5] M = some (vI ((L + 20 : Nat) : Int), M') ∧ cTp (L + 20) (fd20 L B x1 x2 x3 x4 x5) M' ∧ amSame fCt M M' := by
  obtain ⟨d, rfl⟩ := dS hD
  obtain ⟨d, rfl⟩ := dS (show 1 + 1 ≤ d by omega)
  obtain ⟨M1, a1, a2, a3⟩ := c_addFour (D := d) (x := x1) (by omega) (by omega) h
  obtain ⟨M2, b1, b2, b3⟩ := c_addFour (D := d) (x := x2) (by omega) (by omega) a2
  obtain ⟨M3, c1, c2, c3⟩ := c_addFour (D := d) (x := x3) (by omega) (by omega) b2
  obtain ⟨M4, e1, e2, e3⟩ := c_addFour (D := d) (x := x4) (by omega) (by omega) c2
  obtain ⟨M5, f1, f2, f3⟩ := c_addFour (D := d) (x := x5) (by omega) (by omega) e2
  refine ⟨M5, ?_, f2, (((a3.trans b3).trans c3).trans e3).trans f3⟩
  rw [n_X11_feed, q_X11_feed_0, n_X7_add, q_X7_add_0, h.2.1, w32_n (x := (L : Int) + 20) (n := L + 20) (by omega) (by omega), if_neg (by omega), a1, amCV_s, b1, amCV_s, c1, amCV_s, e1, amCV_s, f1, amCV_s, amCI_s, f2.2.1]
theorem c_backN (hD : 2 ≤ D) {n : Int} (hn : ¬ (0 ≤ n ∧ n ≤ (L : Int))) (h : cTp L B M) : amD amGst D 108 [vR 11 11 0, vI n] M = some (vI (-1), M) := by
  obtain ⟨d, rfl⟩ := dS hD
  obtain ⟨d, rfl⟩ := dS (show 0 + 1 ≤ d by omega)
  rw [n_X11_back, q_X11_back_0, n_X7_cut, q_X7_cut_0, h.2.1]
  by_cases h1 : n < 0
  · rw [if_pos h1, amCI_s]
  · rw [if_neg h1, if_pos (by omega), amCI_s]
theorem c_back (hD : 2 ≤ D) {n : Nat} (hn : n ≤ L) (h : cTp L B M) : ∃ M', amD amGst D 108 [vR 11 11 0, vI n] M = some (vI ((L - n : Nat) : Int), M') ∧ cTp (L - n) B M' ∧ amSame fCt M M' := by
  obtain ⟨d, rfl⟩ := dS hD
  obtain ⟨d, rfl⟩ := dS (show 0 + 1 ≤ d by omega)
  obtain ⟨h1, h2, h3⟩ := h
  rw [n_X11_back, q_X11_back_0, n_X7_cut, q_X7_cut_0, h2, if_neg (by omega), if_neg (by omega), w32_n (x := (L : Int) - (n : Int)) (n := L - n) (by omega) (by omega), up_on, amCI_s]
  exact ⟨_, rfl, ⟨by omega, up_on, fun j hj => by rw [up_c (by decide)]; exact h3 j (by omega)⟩, amSame.refl.up (by rfl)⟩
theorem r_put1 (hL : L < 2000) {x s : Int} (hs : 0 ≤ s ∧ s ≤ 24) (h : rTp L B M) : ∃ M', e_X12_put_3 d x s M = e_X12_put_3 d x (s - 8) M' ∧ rTp (L + 1) (fd1 L B x s) M' ∧ amSame fRt M M' := by
  obtain ⟨h1, h2, h3⟩ := h
  have e : ((L : Nat) : Int).toNat = L := rfl
  refine ⟨amUp (amUp M 129 0 L (w8 (w8 (bShr x s)))) 12 0 2 ((L + 1 : Nat) : Int), ?_, ⟨by omega, up_on, fun j hj => ?_⟩, (amSame.refl.up (by rfl)).up (by rfl)⟩
  · rw [q_X12_put_3, h2, e, if_neg (show ¬ s < 0 by omega), if_pos (show (0 : Int) ≤ (L : Int) ∧ (L : Int) < 2000 by omega), up_c (show 12 ≠ 129 by decide), h2, w32_n (x := (L : Int) + 1) (n := L + 1) (by omega) (by omega), q_X12_put_30, w32_id (x := s + -8) (by omega) (by omega), show s + -8 = s - 8 by omega]
  · rw [up_c (by decide), up_at]
    unfold fd1
    by_cases hj2 : j = L
    · rw [if_pos hj2, if_pos hj2]
    · rw [if_neg hj2, if_neg hj2]; exact h3 j (by omega)
theorem r_put (hD : 1 ≤ D) (hL : L + 4 ≤ 2000) {x : Int} (h : rTp L B M) : ∃ M', amD amGst D 148 [vR 12 12 0, vI x] M = some (vU, M') ∧ rTp (L + 4) (fd4 L B x) M' ∧ amSame fRt M M' := by
  obtain ⟨d, rfl⟩ := dS hD
  obtain ⟨M1, a1, a2, a3⟩ := r_put1 (d := d) (x := x) (s := 24) (by omega) (by omega) h
  obtain ⟨M2, b1, b2, b3⟩ := r_put1 (d := d) (x := x) (s := 16) (by omega) (by omega) a2
  obtain ⟨M3, c1, c2, c3⟩ := r_put1 (d := d) (x := x) (s := 8) (by omega) (by omega) b2
  obtain ⟨M4, e1, e2, e3⟩ := r_put1 (d := d) (x := x) (s := 0) (by omega) (by omega) c2
  refine ⟨M4, ?_, e2, ((a3.trans b3).trans c3).trans e3⟩
  rw [n_X12_put, q_X12_put_0]
  refine a1.trans (b1.trans (c1.trans (e1.trans ?_)))
  rw [q_X12_put_3, if_pos (by omega)]
theorem r_feedN (hD : 1 ≤ D) {x1 x2 x3 x4 x5 : Int} (hL : 2000 < L + 20) (h : rTp L B M) : amD amGst D 147 [vR 12 12 0, vI x1, vI x2, vI x3, vI x4, vI x5] M = some (vI (-1), M) := by
  obtain ⟨d, rfl⟩ := dS hD
  obtain ⟨h1, h2, h3⟩ := h
  rw [n_X12_feed, q_X12_feed_0, h2, w32_n (x := (L : Int) + 20) (n := L + 20) (by omega) (by omega), if_pos (by omega)]
theorem r_feed (hD : 2 ≤ D) {x1 x2 x3 x4 x5 : Int} (hL : L + 20 ≤ 2000) (h : rTp L B M) : ∃ M', amD amGst D 147 [vR 12 12 0, vI x1, vI x2, vI x3, vI x4, vI x5] M = some (vI ((L + 20 : Nat) : Int), M') ∧ rTp (L + 20) (fd20 L B x1 x2 x3 x4 x5) M' ∧ amSame fRt M M' := by
  obtain ⟨d, rfl⟩ := dS hD
  obtain ⟨M1, a1, a2, a3⟩ := r_put (D := d) (x := x1) (by omega) (by omega) h
  obtain ⟨M2, b1, b2, b3⟩ := r_put (D := d) (x := x2) (by omega) (by omega) a2
  obtain ⟨M3, c1, c2, c3⟩ := r_put (D := d) (x := x3) (by omega) (by omega) b2
  obtain ⟨M4, e1, e2, e3⟩ := r_put (D := d) (x := x4) (by omega) (by omega) c2
  obtain ⟨M5, f1, f2, f3⟩ := r_put (D := d) (x := x5) (by omega) (by omega) e2
  refine ⟨M5, ?_, f2, (((a3.trans b3).trans c3).trans e3).trans f3⟩
  rw [n_X12_feed, q_X12_feed_0, h.2.1, w32_n (x := (L : Int) + 20) (n := L + 20) (by omega) (by omega), if_neg (by omega), a1, amCV_s, b1, amCV_s, c1, amCV_s, e1, amCV_s, f1, amCV_s, f2.2.1]
theorem r_backN (hD : 1 ≤ D) {n : Int} (hn : ¬ (0 ≤ n ∧ n ≤ (L : Int))) (h : rTp L B M) : amD amGst D 149 [vR 12 12 0, vI n] M = some (vI (-1), M) := by
  obtain ⟨d, rfl⟩ := dS hD
  rw [n_X12_back, q_X12_back_0, h.2.1]
  by_cases h1 : n < 0
  · rw [if_pos h1]
  · rw [if_neg h1, if_pos (by omega)]
theorem r_back (hD : 1 ≤ D) {n : Nat} (hn : n ≤ L) (h : rTp L B M) : ∃ M', amD amGst D 149 [vR 12 12 0, vI n] M = some (vI ((L - n : Nat) : Int), M') ∧ rTp (L - n) B M' ∧ amSame fRt M M' := by
  obtain ⟨d, rfl⟩ := dS hD
  obtain ⟨h1, h2, h3⟩ := h
  rw [n_X12_back, q_X12_back_0, h2, if_neg (by omega), if_neg (by omega), w32_n (x := (L : Int) - (n : Int)) (n := L - n) (by omega) (by omega), up_on]
  exact ⟨_, rfl, ⟨by omega, up_on, fun j hj => by rw [up_c (by decide)]; exact h3 j (by omega)⟩, amSame.refl.up (by rfl)⟩
/-- told -/
def fCo : Nat → Nat → Nat → Bool := fun c _ j => c == 122 || c == 123 || (c == 9 && j == 5)
def fRq : Nat → Nat → Nat → Bool := fun c _ j => c == 166 || c == 167 || (c == 12 && j == 65)
variable {k : Nat} {S T : Nat → Int}
theorem c_tellN (hD : 2 ≤ D) (hS : cSc τ 0 ρ M) (hk : cTo k S T M) {s t : Int} (h : ¬ ((1 ≤ s ∧ s ≤ tN τ) ∧ (0 ≤ t ∧ t ≤ 99) ∧ k < 30)) : amD amGst D 128 [vR 11 11 0, vI s, vI t] M = some (vI (-1), M) := by
  obtain ⟨d, rfl⟩ := dS hD
  rw [n_X11_tell, q_X11_tell_0]
  by_cases h1 : 1 ≤ s ∧ s ≤ tN τ
  · rw [c_isStepY (n := tN τ) (by omega) hS.1.1 h1, amCI_s, if_neg (show ¬ (1 : Int) = 0 by decide)]
    by_cases h2 : t < 0
    · rw [if_pos h2]
    · rw [if_neg h2]
      by_cases h3 : 99 < t
      · rw [if_pos h3]
      · obtain ⟨d, rfl⟩ := dS (show 0 + 1 ≤ d by omega)
        have hk1 := hk.1
        rw [if_neg h3, n_X9_add, q_X9_add_0, hk.2.1, if_neg (by omega), amCI_s]
  · rw [c_isStepN (n := tN τ) (by omega) hS.1.1 h1, amCI_s, if_pos (show (0 : Int) = 0 from rfl)]
theorem c_tell (hD : 3 ≤ D) (hS : cSc τ 0 ρ M) (hk : cTo k S T M) {s t : Int} (h1 : 1 ≤ s ∧ s ≤ tN τ) (h2 : 0 ≤ t ∧ t ≤ 99) (h3 : k < 30) : ∃ M', amD amGst D 128 [vR 11 11 0, vI s, vI t] M = some (vI (k : Int), M') ∧ cTo (k + 1) (fun i => if i = k then s else S i) (fun i => if i = k then t else T i) M' ∧ amSame fCo M M' := by
  obtain ⟨d, rfl⟩ := dS hD
  obtain ⟨d, rfl⟩ := dS (show 1 + 1 ≤ d by omega)
  have e : ((k : Nat) : Int).toNat = k := rfl
  obtain ⟨k1, k2, k3⟩ := hk
  rw [n_X11_tell, q_X11_tell_0, c_isStepY (n := tN τ) (by omega) hS.1.1 h1, amCI_s, if_neg (show ¬ (1 : Int) = 0 by decide), if_neg (show ¬ t < 0 by omega), if_neg (show ¬ 99 < t by omega), n_X9_add, q_X9_add_0, k2, if_pos (show (k : Int) < 30 by omega), c_put (n := 30) (by omega) (by decide) (by decide) (by omega) (by omega), amCV_s, e, up_c (show 9 ≠ 122 by decide), k2, c_put (n := 30) (by omega) (by decide) (by decide) (by omega) (by omega), amCV_s, e, up_on, up_c (show 9 ≠ 123 by decide), up_c (show 9 ≠ 122 by decide), k2, w32_n (x := (k : Int) + 1) (n := k + 1) (by omega) (by omega), w32_n (x := ((k + 1 : Nat) : Int) - 1) (n := k) (by omega) (by omega), amCI_s]
  refine ⟨_, rfl, ⟨by omega, up_on, fun i hi => ?_⟩, ((amSame.refl.up (by rfl)).up (by rfl)).up (by rfl)⟩
  rw [up_c (by decide), up_c (by decide), up_at, up_c (by decide), up_at, up_c (by decide)]
  dsimp only
  by_cases hik : i = k
  · rw [if_pos hik, if_pos hik, if_pos hik, if_pos hik]; exact ⟨rfl, rfl⟩
  · rw [if_neg hik, if_neg hik, if_neg hik, if_neg hik]; exact k3 i (by omega)
theorem r_tellN (hD : 3 ≤ D) (hτ : tOk τ) (hT : rTx v τ M) (hk : rTo k S T M) {s t : Int} (h : ¬ ((1 ≤ s ∧ s ≤ tN τ) ∧ (0 ≤ t ∧ t ≤ 99) ∧ k < 30)) : amD amGst D 233 [vR 12 12 0, vI s, vI t] M = some (vI (-1), M) := by
  obtain ⟨d, rfl⟩ := dS hD
  have hk1 := hk.1
  rw [n_X12_tell_, q_X12_tell__0, hk.2.1]
  by_cases h0 : k = 30
  · rw [if_pos (by omega)]
  · rw [if_neg (by omega)]
    by_cases h1 : 1 ≤ s ∧ s ≤ tN τ
    · rw [r_isStepY (by omega) hτ hT h1, amCI_s, if_neg (show ¬ (1 : Int) = 0 by decide), r_inN (by omega) (by omega), amCI_s, if_pos (show (0 : Int) = 0 from rfl)]
    · rw [r_isStepN (by omega) hτ hT h1, amCI_s, if_pos (show (0 : Int) = 0 from rfl)]
theorem r_tell (hD : 3 ≤ D) (hτ : tOk τ) (hT : rTx v τ M) (hk : rTo k S T M) {s t : Int} (h1 : 1 ≤ s ∧ s ≤ tN τ) (h2 : 0 ≤ t ∧ t ≤ 99) (h3 : k < 30) : ∃ M', amD amGst D 233 [vR 12 12 0, vI s, vI t] M = some (vI (k : Int), M') ∧ rTo (k + 1) (fun i => if i = k then s else S i) (fun i => if i = k then t else T i) M' ∧ amSame fRq M M' := by
  obtain ⟨d, rfl⟩ := dS hD
  have e : ((k : Nat) : Int).toNat = k := rfl
  obtain ⟨k1, k2, k3⟩ := hk
  rw [n_X12_tell_, q_X12_tell__0, k2, if_neg (show ¬ (k : Int) = 30 by omega), r_isStepY (by omega) hτ hT h1, amCI_s, if_neg (show ¬ (1 : Int) = 0 by decide), r_inY (by omega) h2, amCI_s, if_neg (show ¬ (1 : Int) = 0 by decide), up_c (show 12 ≠ 166 by decide), k2, e, if_pos (show (0 : Int) ≤ (k : Int) ∧ (k : Int) < 30 by omega), if_pos (show (0 : Int) ≤ (k : Int) ∧ (k : Int) < 30 by omega), q_X12_tell__49, up_on, up_c (show 12 ≠ 167 by decide), up_c (show 12 ≠ 166 by decide), k2, w32_n (x := (k : Int) + 1) (n := k + 1) (by omega) (by omega), w32_n (x := ((k + 1 : Nat) : Int) - 1) (n := k) (by omega) (by omega)]
  refine ⟨_, rfl, ⟨by omega, up_on, fun i hi => ?_⟩, ((amSame.refl.up (by rfl)).up (by rfl)).up (by rfl)⟩
  rw [up_c (by decide), up_c (by decide), up_at, up_c (by decide), up_at, up_c (by decide)]
  dsimp only
  by_cases hik : i = k
  · rw [if_pos hik, if_pos hik, if_pos hik, if_pos hik]; exact ⟨rfl, rfl⟩
  · rw [if_neg hik, if_neg hik, if_neg hik, if_neg hik]; exact k3 i (by omega)
theorem c_forget (hD : 1 ≤ D) (hk : cTo k S T M) : ∃ M', amD amGst D 129 [vR 11 11 0] M = some (vI (k : Int), M') ∧ cTo 0 S T M' ∧ amSame fCo M M' := by
  obtain ⟨d, rfl⟩ := dS hD
  rw [n_X11_forget, q_X11_forget_0, hk.2.1]
  exact ⟨_, rfl, ⟨by omega, up_on, fun i hi => by omega⟩, amSame.refl.up (by rfl)⟩
theorem r_forget (hD : 1 ≤ D) (hk : rTo k S T M) : ∃ M', amD amGst D 234 [vR 12 12 0] M = some (vI (k : Int), M') ∧ rTo 0 S T M' ∧ amSame fRq M M' := by
  obtain ⟨d, rfl⟩ := dS hD
  rw [n_X12_forget, q_X12_forget_0, hk.2.1]
  exact ⟨_, rfl, ⟨by omega, up_on, fun i hi => by omega⟩, amSame.refl.up (by rfl)⟩
end TP
