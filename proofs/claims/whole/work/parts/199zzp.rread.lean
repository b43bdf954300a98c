/-! PURE: the reference reads a text: before and behind its parse -/
theorem sSd_iff {v c j : Nat} : sSd v c j = true ↔ ((c = 137 ∨ c = 139 ∨ c = 141 ∨ c = 142 ∨ c = 143 ∨ c = 146) ∧ j = v) ∨ (c = 138 ∧ 25 * v ≤ j ∧ j < 25 * v + 25) ∨ (c = 140 ∧ 14 * v ≤ j ∧ j < 14 * v + 14) ∨ ((c = 144 ∨ c = 145) ∧ 8 * v ≤ j ∧ j < 8 * v + 8) ∨ ((c = 147 ∨ c = 148) ∧ 4 * v ≤ j ∧ j < 4 * v + 4) ∨ ((149 ≤ c ∧ c ≤ 153) ∧ 50 * v ≤ j ∧ j < 50 * v + 50) ∨ ((c = 154 ∨ c = 155) ∧ 420 * v ≤ j ∧ j < 420 * v + 420) := by
  unfold sSd
  simp only [Bool.or_eq_true, Bool.and_eq_true, beq_iff_eq, inR_iff]
  have h5 : (c = 149 ∨ c = 150 ∨ c = 151 ∨ c = 152 ∨ c = 153) ↔ (149 ≤ c ∧ c ≤ 153) := by omega
  constructor
  · rintro ((((((h | h) | h) | h) | h) | h) | h)
    · exact Or.inl ⟨by omega, h.2⟩
    · exact Or.inr (Or.inl h)
    · exact Or.inr (Or.inr (Or.inl h))
    · exact Or.inr (Or.inr (Or.inr (Or.inl h)))
    · exact Or.inr (Or.inr (Or.inr (Or.inr (Or.inl h))))
    · exact Or.inr (Or.inr (Or.inr (Or.inr (Or.inr (Or.inl ⟨by omega, h.2⟩)))))
    · exact Or.inr (Or.inr (Or.inr (Or.inr (Or.inr (Or.inr h)))))
  · rintro (h | h | h | h | h | h | h)
    · exact Or.inl (Or.inl (Or.inl (Or.inl (Or.inl (Or.inl ⟨by omega, h.2⟩)))))
    · exact Or.inl (Or.inl (Or.inl (Or.inl (Or.inl (Or.inr h)))))
    · exact Or.inl (Or.inl (Or.inl (Or.inl (Or.inr h))))
    · exact Or.inl (Or.inl (Or.inl (Or.inr h)))
    · exact Or.inl (Or.inl (Or.inr h))
    · exact Or.inl (Or.inr ⟨by omega, h.2⟩)
    · exact Or.inr h
def rTy (v : Nat) (τ : Tx) (M : AmM) : Prop := ∀ M' : AmM, (∀ c j, sSd v c j = true → M' c 0 j = M c 0 j) → M' 12 0 18 = (v : Int) → rTx v τ M'
theorem rTy.mv {v : Nat} {τ : Tx} {M M' : AmM} (h : rTy v τ M) (hs : ∀ c j, sSd v c j = true → M' c 0 j = M c 0 j) : rTy v τ M' := fun M2 h2 h3 => h M2 (fun c j hc => (h2 c j hc).trans (hs c j hc)) h3
section RRD
variable {d t v L : Nat} {κ ν P : Nat → Nat} {M : AmM} {B : Nat → Int}
theorem rS_ty (hv : v ≤ 1) {x : Dr} (hS : rS v κ P t x M) : rTy v x.1 M := fun M' hs h18 => by
  obtain ⟨cd, br, h1, h2, h3, h4, h5, h6, h7⟩ := hS
  obtain ⟨g0, ⟨g1, g2, g3, g4, g5, g6⟩, g7, g8, g9, g10⟩ := h3
  have ht := h1.1.1
  have e1 : ∀ c, (c = 137 ∨ c = 139 ∨ c = 141 ∨ c = 142 ∨ c = 143) → M' c 0 v = M c 0 v := fun c hc => hs c v (sSd_iff.2 (Or.inl ⟨by omega, rfl⟩))
  refine ⟨hv, h18, (e1 137 (by decide)).trans g1, fun j a b => (hs 138 _ ?_).trans (g7 j a b), (e1 139 (by decide)).trans g2, fun j a => (hs 140 _ ?_).trans (g8 j a), (e1 141 (by decide)).trans g3, (e1 142 (by decide)).trans g4, (e1 143 (by decide)).trans g5, fun p a => ⟨(hs 144 _ ?_).trans (g9 p a).1, (hs 145 _ ?_).trans (g9 p a).2.1⟩, fun w hw => ?_⟩
  · exact sSd_iff.2 (Or.inr (Or.inl ⟨rfl, by omega, by omega⟩))
  · exact sSd_iff.2 (Or.inr (Or.inr (Or.inl ⟨rfl, by omega, by omega⟩)))
  · exact sSd_iff.2 (Or.inr (Or.inr (Or.inr (Or.inl ⟨Or.inl rfl, by omega, by omega⟩))))
  · exact sSd_iff.2 (Or.inr (Or.inr (Or.inr (Or.inl ⟨Or.inr rfl, by omega, by omega⟩))))
  · have e7 : ∀ c, c = 147 ∨ c = 148 → M' c 0 (4 * v + w) = M c 0 (4 * v + w) := fun c hc => hs c _ (sSd_iff.2 (Or.inr (Or.inr (Or.inr (Or.inr (Or.inl ⟨hc, by omega, by omega⟩))))))
    have hq := g10 w hw
    have f7 := e7 147 (Or.inl rfl)
    have f8 := e7 148 (Or.inr rfl)
    revert hq
    cases tL x.1 w with
    | none => intro hq; exact f7.trans (Eq.trans hq f8.symm)
    | some l =>
      intro hq
      obtain ⟨f, c1, c2, c3, c4⟩ := hq
      exact ⟨f, f7.trans c1, f8.trans c2, c3, c4 M' fun c j hz => hs c j (by
        have hz2 := sZz_iff.1 hz
        exact sSd_iff.2 (by omega))⟩
/-- the text copied -/
theorem r_copyT (hw : ∀ j, j < L → w8 (B j) = B j) (hL : L ≤ 2000) : ∀ (k i : Nat) (M : AmM), i + k = L → M 12 0 4 = (L : Int) → (∀ j, j < L → M 129 0 j = B j) → (∀ j, j < i → M 130 0 j = B j) → ∃ M', e_X12_read_10 d (i : Int) M = e_X12_read_10 d (L : Int) M' ∧ amSame (fun c _ _ => c == 130) M M' ∧ ∀ j, j < L → M' 130 0 j = B j
  | 0, i, M, hk, h4, h9, h0 => by
    have hk : i = L := hk
    subst hk
    exact ⟨M, rfl, amSame.refl, h0⟩
  | k + 1, i, M, hk, h4, h9, h0 => by
    obtain ⟨M1, a1, a2, a3⟩ := r_copyT hw hL k (i + 1) (amUp M 130 0 i (B i)) (by omega) ((up_c (by decide)).trans h4) (fun j hj => (up_c (by decide)).trans (h9 j hj)) (fun j hj => by
      by_cases ej : j = i
      · rw [ej, up_on]
      · rw [up_j ej]; exact h0 j (by omega))
    refine ⟨M1, ?_, (amSame.refl.up (by rfl)).trans a2, a3⟩
    rw [q_X12_read_10, h4, if_pos (show (i : Int) < (L : Int) by omega), if_pos (show (0 : Int) ≤ (i : Int) ∧ (i : Int) < 2000 by omega), if_pos (show (0 : Int) ≤ (i : Int) ∧ (i : Int) < 2000 by omega), tn_cast, h9 i (by omega), hw i (by omega), w32_n (x := (i : Int) + 1) (n := i + 1) (by omega) (by omega)]
    exact a1
/-- the laws of the draft: none -/
theorem r_noLaws (hv : v ≤ 1) : ∀ (k i : Nat) (M : AmM), i + k = 4 → M 12 0 19 = (v : Int) → (∀ j, j < i → M 147 0 (4 * v + j) = 0 ∧ M 148 0 (4 * v + j) = 0) → ∃ M', e_X12_read_165 d (i : Int) M = e_X12_read_204 d 4 M' ∧ amSame (fun c _ j => (c == 147 || c == 148) && inR (4 * v) 4 j) M M' ∧ ∀ j, j < 4 → M' 147 0 (4 * v + j) = 0 ∧ M' 148 0 (4 * v + j) = 0
  | 0, i, M, hk, h19, h0 => by
    have hk : i = 4 := hk
    subst hk
    exact ⟨M, by rw [q_X12_read_165, if_neg (by decide)]; rfl, amSame.refl, h0⟩
  | k + 1, i, M, hk, h19, h0 => by
    have hin : inR (4 * v) 4 (4 * v + i) = true := inR_iff.2 ⟨by omega, by omega⟩
    obtain ⟨M1, a1, a2, a3⟩ := r_noLaws hv k (i + 1) (amUp (amUp M 147 0 (4 * v + i) 0) 148 0 (4 * v + i) 0) (by omega) ((up_c (by decide)).trans ((up_c (by decide)).trans h19)) (fun j hj => by
      rw [up_c (by decide)]
      by_cases ej : j = i
      · rw [ej, up_on, up_on]; exact ⟨rfl, rfl⟩
      · rw [up_j (by omega), up_j (by omega), up_c (by decide)]; exact h0 j (by omega))
    have i8 : (0 : Int) ≤ ((4 * v + i : Nat) : Int) ∧ ((4 * v + i : Nat) : Int) < 8 := by omega
    have i4 : (i : Int) < 4 := by omega
    have w1 : w32 (4 * (v : Int)) = ((4 * v : Nat) : Int) := w32_n (by omega) (by omega)
    have w2 : w32 (((4 * v : Nat) : Int) + (i : Int)) = ((4 * v + i : Nat) : Int) := w32_n (by omega) (by omega)
    have w3 : w32 ((i : Int) + 1) = ((i + 1 : Nat) : Int) := w32_n (by omega) (by omega)
    have u19 : amUp M 147 0 (4 * v + i) 0 12 0 19 = (v : Int) := (up_c (by decide)).trans h19
    refine ⟨M1, ?_, ((amSame.refl.up (by rw [hin]; rfl)).up (by rw [hin]; rfl)).trans a2, a3⟩
    rw [q_X12_read_165, if_pos i4, h19, w1, w2, if_pos i8, tn_cast, u19, w1, w2, if_pos i8, tn_cast, q_X12_read_198, w3]
    exact a1
end RRD
