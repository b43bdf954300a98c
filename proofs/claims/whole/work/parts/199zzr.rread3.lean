/-! PURE: the reference reads a text -/
def fRr0 (sd : Nat) : Nat → Nat → Nat → Bool := fun c s j => fRP sd c s j || fRt1 c s j || c == 130 || (c == 12 && (j == 2 || j == 4 || j == 17 || j == 19))
def fRr1 (sd : Nat) : Nat → Nat → Nat → Bool := fun c s j => fRr0 sd c s j || (c == 12 && (j == 18 || j == 53 || j == 65)) || c == 159 || c == 160 || c == 169
theorem fRP_fRr0 {sd : Nat} : ∀ c s j, fRP sd c s j = true → fRr0 sd c s j = true := fun c s j h => by unfold fRr0; rw [h]; rfl
theorem fRt1_fRr0 {sd : Nat} : ∀ c s j, fRt1 c s j = true → fRr0 sd c s j = true := fun c s j h => by unfold fRr0; rw [h, Bool.or_true]; rfl
theorem fRr0_fRr1 {sd : Nat} : ∀ c s j, fRr0 sd c s j = true → fRr1 sd c s j = true := fun c s j h => by unfold fRr1; rw [h]; rfl
theorem fRs0_fRr0 {sd : Nat} : ∀ c s j, fRs0 sd c s j = true → fRr0 sd c s j = true := fun c s j h => fRP_fRr0 c s j (by
  unfold fRs0 at h
  rw [Bool.or_eq_true] at h
  rcases h with h | h
  · unfold fRP; simp only [Bool.or_eq_true, Bool.and_eq_true, beq_iff_eq] at h ⊢; omega
  · exact sSd_fRP h)
def fRz0 (sd : Nat) : Nat → Nat → Nat → Bool := fun c s j => fRP sd c s j || (c == 12 && j == 17)
def fRz1 (sd : Nat) : Nat → Nat → Nat → Bool := fun c s j => fRz0 sd c s j || (c == 12 && (j == 18 || j == 53 || j == 65)) || c == 159 || c == 160 || c == 169
theorem fRP_fRz0 {sd : Nat} : ∀ c s j, fRP sd c s j = true → fRz0 sd c s j = true := fun c s j h => by unfold fRz0; rw [h]; rfl
theorem fRz0_fRz1 {sd : Nat} : ∀ c s j, fRz0 sd c s j = true → fRz1 sd c s j = true := fun c s j h => by unfold fRz1; rw [h]; rfl
theorem fRz0_fRr0 {sd : Nat} : ∀ c s j, fRz0 sd c s j = true → fRr0 sd c s j = true := fun c s j h => by
  unfold fRz0 at h
  rw [Bool.or_eq_true] at h
  rcases h with h | h
  · exact fRP_fRr0 c s j h
  · unfold fRr0; simp only [Bool.or_eq_true, Bool.and_eq_true, beq_iff_eq] at h ⊢; omega
theorem fRz1_fRr1 {sd : Nat} : ∀ c s j, fRz1 sd c s j = true → fRr1 sd c s j = true := fun c s j h => by
  unfold fRz1 at h
  rw [Bool.or_eq_true, Bool.or_eq_true, Bool.or_eq_true, Bool.or_eq_true] at h
  rcases h with (((h | h) | h) | h) | h
  · exact fRr0_fRr1 c s j (fRz0_fRr0 c s j h)
  · unfold fRr1; rw [h]; simp
  · unfold fRr1; rw [h]; simp
  · unfold fRr1; rw [h]; simp
  · unfold fRr1; rw [h]; simp
section RRF
variable {D d t v L sd : Nat} {κ ν P : Nat → Nat} {M : AmM} {B : Nat → Int} {Y : Nat → Nat}
/-- from the parse on -/
theorem r_226 (hs : sd ≤ 1) (hd : 1 ≤ d) {r : Pr Dr} {l1 : Int} {o : Option (AmV × AmM)} (hok : ∀ τ, rdN r = some τ → tOk τ) (h : rPo sd κ P r d l1 o M) : ∃ M', o = some (vI (rdA r), M') ∧ M' 12 0 17 = rdP P r ∧ match rdN r with
    | none => amSame (fRz0 sd) M M'
    | some τ => amSame (fRz1 sd) M M' ∧ M' 12 0 18 = (sd : Int) ∧ rTy sd τ M' ∧ rNow (bgS τ) M' ∧ M' 12 0 53 = 0 ∧ M' 12 0 65 = 0 ∧ ∀ s, s < 3 → M' 169 0 s = 0 := by
  revert h hok
  unfold rPo
  cases r with
  | inl y =>
    obtain ⟨c, q⟩ := y
    intro hok h
    obtain ⟨M1, a1, a2, a3⟩ := h
    have b1 := a3.1
    have b2 := a3.2.1
    have hp : 0 < M1 12 0 13 := by omega
    have e13 : ∀ z : Int, amUp M1 12 0 17 z 12 0 13 = M1 12 0 13 := fun z => up_j (by decide)
    rw [a1, q_X12_read_226, if_pos hp, e13, if_pos hp, b2]
    exact ⟨_, rfl, up_on.trans a3.2.2.1, (a2.mono fRP_fRz0).up (by unfold fRz0; simp)⟩
  | inr x =>
    intro hok h
    obtain ⟨M1, t, a1, a2, a3⟩ := h
    have hty := rS_ty hs a3
    obtain ⟨cd, br, h1, h2, h3, h4, h5, h6, h7⟩ := a3
    have hn : ¬ 0 < M1 12 0 13 := by rw [h1.2.2]; decide
    have e13 : ∀ z : Int, amUp M1 12 0 17 z 12 0 13 = M1 12 0 13 := fun z => up_j (by decide)
    have e15 : ∀ z : Int, amUp M1 12 0 17 z 12 0 15 = M1 12 0 15 := fun z => up_j (by decide)
    have e19 : ∀ z : Int, amUp M1 12 0 17 z 12 0 19 = (sd : Int) := fun z => (up_j (by decide)).trans h2.1
    rw [a1, q_X12_read_226, if_neg hn]
    by_cases h0 : x.2.2.2.1 = 0
    · have eN : rdN (.inr x) = some x.1 := if_pos h0
      have eP : rdP P (.inr x) = -1 := if_pos h0
      have eA : rdA (.inr x) = 0 := by show ((x.2.2.2.1 : Nat) : Int) = 0; omega
      have hl : ¬ 0 < M1 12 0 15 := by rw [h4.1]; omega
      have hτ := hok x.1 eN
      rw [if_neg hl, e13, if_neg hn, e15, if_neg hl, e19, eN, eP, eA]
      have u18 : amUp (amUp M1 12 0 17 (-1)) 12 0 18 (sd : Int) 12 0 18 = (sd : Int) := up_on
      have hty2 : rTy sd x.1 (amUp (amUp M1 12 0 17 (-1)) 12 0 18 (sd : Int)) := hty.mv fun c j hc => by
        have hc := sSd_iff.1 hc
        rw [up_c (show c ≠ 12 by omega), up_c (show c ≠ 12 by omega)]
      obtain ⟨M2, b1, b2, b3⟩ := r_begins (D := d) hd hτ (hty2 _ (fun _ _ _ => rfl) u18)
      obtain ⟨M3, c1, c2, c3⟩ := r_nowT (d := d) 100 0 M2 rfl (fun j hj => absurd hj (Nat.not_lt_zero j))
      rw [show ((0 : Nat) : Int) = 0 from rfl] at c1
      rw [b1, amCV_s, c1, r_333]
      have s2 : amSame (fRz1 sd) M M2 := (((a2.mono fRP_fRz0).mono fRz0_fRz1).up (by unfold fRz1 fRz0; simp)).up (by unfold fRz1; simp) |>.trans (b3.mono fun c s j h => by
        have h : (c == 160) = true := h
        unfold fRz1; rw [h]; simp)
      have s3 : amSame (fRz1 sd) M M3 := s2.trans (c2.mono fun c s j h => by
        have h : (c == 159) = true := h
        unfold fRz1; rw [h]; simp)
      refine ⟨_, rfl, ?_, ((((s3.up (by unfold fRz1; simp)).up (by unfold fRz1; simp)).up (by unfold fRz1; simp)).up (by unfold fRz1; simp)).up (by unfold fRz1; simp), ?_, ?_, fun j hj => ?_, ?_, ?_, fun s hs3 => ?_⟩
      · rw [up_c (by decide), up_c (by decide), up_c (by decide), up_j (by decide), up_j (by decide), c2 12 0 17 (by rfl), b3 12 0 17 (by rfl), up_j (by decide), up_on]
      · rw [up_c (by decide), up_c (by decide), up_c (by decide), up_j (by decide), up_j (by decide), c2 12 0 18 (by rfl), b3 12 0 18 (by rfl), up_on]
      · refine hty2.mv fun c j hc => ?_
        have hc := sSd_iff.1 hc
        have n169 : c ≠ 169 := by omega
        have n12 : c ≠ 12 := by omega
        rw [up_c n169, up_c n169, up_c n169, up_c n12, up_c n12, c2 c 0 j (beq_false_of_ne (by omega)), b3 c 0 j (beq_false_of_ne (by omega))]
      · rw [up_c (by decide), up_c (by decide), up_c (by decide), up_c (by decide), up_c (by decide), c3 j hj, c2 160 0 j (by rfl)]
        exact b2 j hj
      · rw [up_c (by decide), up_c (by decide), up_c (by decide), up_j (by decide), up_on]
      · rw [up_c (by decide), up_c (by decide), up_c (by decide), up_on]
      · rw [up_at, up_at, up_at]
        have : s = 0 ∨ s = 1 ∨ s = 2 := by omega
        rcases this with rfl | rfl | rfl <;> rfl
    · have eN : rdN (.inr x) = none := if_neg h0
      have eP : rdP P (.inr x) = ((P x.2.2.2.2 : Nat) : Int) := if_neg h0
      have hl : 0 < M1 12 0 15 := by rw [h4.1]; omega
      rw [if_pos hl, e13, if_neg hn, e15, if_pos hl, eN, eP, h4.1]
      exact ⟨_, rfl, up_on.trans (h4.2 h0), (a2.mono fRP_fRz0).up (by unfold fRz0; simp)⟩
theorem r_read (hD : 9 ≤ D) (hv : v ≤ 1) (h18 : M 12 0 18 = (v : Int)) (hK : rKy M) (hT : rTp L B M) (hw : ∀ j, j < L → w8 (B j) = B j) (hY : ∀ j, Y j < 256) (hBY : ∀ j, j < L → bAnd (B j) 255 = ((Y j : Nat) : Int)) : ∃ M', amD amGst D 163 [vR 12 12 0] M = some (vI (rdA (rdX L Y)), M') ∧ M' 12 0 2 = 0 ∧ M' 12 0 17 = rdP (tkP L Y) (rdX L Y) ∧ match rdN (rdX L Y) with
    | none => amSame (fRr0 (1 - v)) M M'
    | some τ => amSame (fRr1 (1 - v)) M M' ∧ M' 12 0 18 = ((1 - v : Nat) : Int) ∧ rTy (1 - v) τ M' ∧ rNow (bgS τ) M' ∧ M' 12 0 53 = 0 ∧ M' 12 0 65 = 0 ∧ ∀ s, s < 3 → M' 169 0 s = 0 := by
  obtain ⟨d, rfl⟩ := dS (show 1 ≤ D by omega)
  have hL := hT.1
  have hs : 1 - v ≤ 1 := by omega
  obtain ⟨M1, a1, a2, a3⟩ := r_copyT (d := d) (B := B) hw hL L 0 (amUp M 12 0 4 (L : Int)) (Nat.zero_add L) up_on (fun j hj => (up_c (by decide)).trans (hT.2.2 j hj)) (fun j hj => absurd hj (Nat.not_lt_zero j))
  rw [show ((0 : Nat) : Int) = 0 from rfl] at a1
  have e4 : M1 12 0 4 = (L : Int) := (a2 12 0 4 (by rfl)).trans up_on
  have hB2 : rBy L Y (amUp M1 12 0 2 0) := ⟨hL, (up_j (by decide)).trans e4, hY, fun j hj => by rw [up_c (by decide), a3 j hj]; exact hBY j hj⟩
  have hK2 : rKy (amUp M1 12 0 2 0) := fun k hk => by
    rw [up_c (by decide), a2 135 0 k (by rfl), up_c (by decide)]; exact hK k hk
  obtain ⟨M3, b1, b2, b3⟩ := r_cut (D := d) (by omega) hB2 hK2
  have s3 : amSame (fRr0 (1 - v)) M M3 := (((amSame.refl.up (by unfold fRr0; simp)).trans (a2.mono fun c s j h => by
    have h : (c == 130) = true := h
    unfold fRr0; rw [h]; simp)).up (by unfold fRr0; simp)).trans (b2.mono fRt1_fRr0)
  have e18 : M3 12 0 18 = (v : Int) := by
    rw [b2 12 0 18 (by rfl), up_j (by decide), a2 12 0 18 (by rfl), up_j (by decide)]; exact h18
  have e2 : M3 12 0 2 = 0 := (b2 12 0 2 (by rfl)).trans up_on
  have w1 : w32 (1 - (v : Int)) = ((1 - v : Nat) : Int) := w32_n (by omega) (by omega)
  have u18 : (amUp (amUp (amUp (amUp M3 12 0 11 0) 12 0 12 0) 12 0 13 0) 12 0 15 0) 12 0 18 = (v : Int) := by
    rw [up_j (by decide), up_j (by decide), up_j (by decide), up_j (by decide)]; exact e18
  rw [n_X12_read, q_X12_read_0, hT.2.1, a1, q_X12_read_10, e4, if_neg (show ¬ (L : Int) < (L : Int) by omega), b1, amCV_s, u18, w1]
  clear w1
  have s4 : amSame (fRr0 (1 - v)) M (amUp (amUp (amUp (amUp (amUp M3 12 0 11 0) 12 0 12 0) 12 0 13 0) 12 0 15 0) 12 0 19 ((1 - v : Nat) : Int)) := (((((s3.up (by unfold fRr0 fRP fRti fRta fRlt; simp)).up (by unfold fRr0 fRP; simp)).up (by unfold fRr0 fRP fRti fRta fRlt; simp)).up (by unfold fRr0 fRP fRti fRta fRlt; simp)).up (by unfold fRr0; simp))
  have v11 : amUp (amUp (amUp (amUp (amUp M3 12 0 11 0) 12 0 12 0) 12 0 13 0) 12 0 15 0) 12 0 19 ((1 - v : Nat) : Int) 12 0 11 = 0 := by
    rw [up_j (by decide), up_j (by decide), up_j (by decide), up_j (by decide), up_on]
  have v12 : amUp (amUp (amUp (amUp (amUp M3 12 0 11 0) 12 0 12 0) 12 0 13 0) 12 0 15 0) 12 0 19 ((1 - v : Nat) : Int) 12 0 12 = 0 := by
    rw [up_j (by decide), up_j (by decide), up_j (by decide), up_on]
  have v13 : amUp (amUp (amUp (amUp (amUp M3 12 0 11 0) 12 0 12 0) 12 0 13 0) 12 0 15 0) 12 0 19 ((1 - v : Nat) : Int) 12 0 13 = 0 := by
    rw [up_j (by decide), up_j (by decide), up_on]
  have v15 : amUp (amUp (amUp (amUp (amUp M3 12 0 11 0) 12 0 12 0) 12 0 13 0) 12 0 15 0) 12 0 19 ((1 - v : Nat) : Int) 12 0 15 = 0 := by
    rw [up_j (by decide), up_on]
  have v2 : amUp (amUp (amUp (amUp (amUp M3 12 0 11 0) 12 0 12 0) 12 0 13 0) 12 0 15 0) 12 0 19 ((1 - v : Nat) : Int) 12 0 2 = 0 := by
    rw [up_j (by decide), up_j (by decide), up_j (by decide), up_j (by decide), up_j (by decide)]; exact e2
  have v19 : amUp (amUp (amUp (amUp (amUp M3 12 0 11 0) 12 0 12 0) 12 0 13 0) 12 0 15 0) 12 0 19 ((1 - v : Nat) : Int) 12 0 19 = ((1 - v : Nat) : Int) := up_on
  have hT4 : rTk (tkK L Y) (tkV L Y) (tkP L Y) (amUp (amUp (amUp (amUp (amUp M3 12 0 11 0) 12 0 12 0) 12 0 13 0) 12 0 15 0) 12 0 19 ((1 - v : Nat) : Int)) := by
    have h3 : rTk (tkK L Y) (tkV L Y) (tkP L Y) M3 := fun q hq hg => b3 q hq fun p hp => (hg p hp).1
    exact h3.mv fun c j q => by
      have n12 : c ≠ 12 := by omega
      rw [up_c n12, up_c n12, up_c n12, up_c n12, up_c n12]
  generalize amUp (amUp (amUp (amUp (amUp M3 12 0 11 0) 12 0 12 0) 12 0 13 0) 12 0 15 0) 12 0 19 ((1 - v : Nat) : Int) = M4 at *
  generalize hsd : 1 - v = sd at *
  obtain ⟨Z, c1, c2, c3, c4, c5⟩ := r_reset (d := d) hs (l1 := (L : Int)) v19
  have z12 : ∀ j, j ≠ 20 → j ≠ 34 → j ≠ 40 → Z 12 0 j = M4 12 0 j := fun j h1 h2 h3 => c2 12 0 j (by
    unfold fRs0 sSd
    rw [beq_false_of_ne h1, beq_false_of_ne h2, beq_false_of_ne h3]; rfl)
  have hTZ : rTk (tkK L Y) (tkV L Y) (tkP L Y) Z := hT4.mv fun c j q => c2 c 0 j (by
    unfold fRs0 sSd
    rcases q with rfl | rfl | rfl | rfl <;> rfl)
  have hSZ : rS sd (tkK L Y) (tkP L Y) 0 dr0 Z := ⟨420 * sd, 50 * sd, ⟨⟨Nat.zero_le _, fun p hp => absurd hp (Nat.not_lt_zero p)⟩, (z12 11 (by decide) (by decide) (by decide)).trans v11, (z12 13 (by decide) (by decide) (by decide)).trans v13⟩, ⟨(z12 19 (by decide) (by decide) (by decide)).trans v19, (z12 12 (by decide) (by decide) (by decide)).trans v12, c3.2.2, c3.2.1, c3.1⟩, ⟨⟨Nat.zero_le _, Nat.zero_le _, Nat.zero_le _, Nat.zero_le _⟩, c4, fun j a b => absurd b (by show ¬ j ≤ 0; omega), fun j a => absurd a (Nat.not_lt_zero j), fun p a => absurd a (Nat.not_lt_zero p), fun w hw => (c5 w hw).1.trans (c5 w hw).2.symm⟩, ⟨(z12 15 (by decide) (by decide) (by decide)).trans v15, fun q => absurd rfl q⟩, fun q => absurd rfl q, ⟨Nat.le_refl _, Nat.le_refl _⟩, Nat.le_refl _, Nat.le_refl _⟩
  have hp := r_parseLoop (d := d) (by omega) hs tkK_lt tkV_lt (fun i j h => tkP_mono h) (l1 := 4) 401 0 dr0 Z (by omega) hTZ hSZ (fun q => absurd rfl q)
  obtain ⟨M5, f1, f2, f3⟩ := r_226 (κ := tkK L Y) (P := tkP L Y) hs (by omega) (fun τ h => rdN_ok (L := L) (Y := Y) h) hp
  have sZ : amSame (fRr0 sd) M Z := s4.trans (c2.mono fRs0_fRr0)
  rw [c1]
  have zz2 : Z 12 0 2 = 0 := (z12 2 (by decide) (by decide) (by decide)).trans v2
  revert f1 f2 f3
  unfold rdX
  cases hN : rdN (prS (tkK L Y) (tkV L Y) 401 0 dr0) with
  | none =>
    intro f1 f2 f3
    have f3 : amSame (fRz0 sd) Z M5 := f3
    exact ⟨M5, f1, (f3 12 0 2 (by rfl)).trans zz2, f2, sZ.trans (f3.mono fRz0_fRr0)⟩
  | some τ =>
    intro f1 f2 f3
    exact ⟨M5, f1, (f3.1 12 0 2 (by rfl)).trans zz2, f2, (sZ.mono fRr0_fRr1).trans (f3.1.mono fRz1_fRr1), f3.2⟩
end RRF
