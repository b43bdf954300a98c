/-! PURE: the reference's laws: what is told, and what is behind a FAULT -/
def fLw (v br cd : Nat) : Nat → Nat → Nat → Bool := fun c s j => fRx (420 * v + 420) cd c s j || (c == 12 && j == 34) || ((c == 149 || c == 150 || c == 151 || c == 152 || c == 153) && (Nat.ble br j && Nat.blt j (50 * v + 50)))
theorem fRx_fLw {v br cd : Nat} : ∀ c s j, fRx (420 * v + 420) cd c s j = true → fLw v br cd c s j = true := fun c s j h => by unfold fLw; rw [h]; rfl
theorem fRta_fLw {v br cd : Nat} : ∀ c s j, fRta c s j = true → fLw v br cd c s j = true := fun c s j h => fRx_fLw c s j (fRta_fRx c s j h)
theorem fLw_34 {v br cd s : Nat} : fLw v br cd 12 s 34 = true := by unfold fLw; simp
theorem fLw_44 {v br cd s : Nat} : fLw v br cd 12 s 44 = true := by unfold fLw fRx; simp
theorem fLw_b {v br cd c s j : Nat} (hc : c = 149 ∨ c = 150 ∨ c = 151 ∨ c = 152 ∨ c = 153) (h1 : br ≤ j) (h2 : j < 50 * v + 50) : fLw v br cd c s j = true := by
  unfold fLw
  simp only [Bool.or_eq_true, Bool.and_eq_true, beq_iff_eq, Nat.ble_eq, Nat.blt_eq]
  omega
theorem fLw_up {v br cd br' cd' : Nat} (hb : br ≤ br') (hc : cd ≤ cd') : ∀ c s j, fLw v br' cd' c s j = true → fLw v br cd c s j = true := fun c s j h => by
  unfold fLw at h ⊢
  rw [Bool.or_eq_true, Bool.or_eq_true] at h
  rcases h with (h | h) | h
  · rw [fRx_up hc c s j h]; rfl
  · rw [h, Bool.or_true]; rfl
  · simp only [Bool.or_eq_true, Bool.and_eq_true, beq_iff_eq, Nat.ble_eq, Nat.blt_eq] at h ⊢
    exact Or.inr ⟨h.1, by omega, h.2.2⟩
theorem fLw_fRP {v br cd : Nat} (hb : 50 * v ≤ br) (hc : 420 * v ≤ cd) : ∀ c s j, fLw v br cd c s j = true → fRP v c s j = true := fun c s j h => by
  unfold fLw at h
  rw [Bool.or_eq_true, Bool.or_eq_true] at h
  rcases h with (h | h) | h
  · exact fRx_fRP hc c s j h
  · unfold fRP; simp only [Bool.or_eq_true, Bool.and_eq_true, beq_iff_eq] at h ⊢; omega
  · refine sSd_fRP ?_
    simp only [Bool.or_eq_true, Bool.and_eq_true, beq_iff_eq, Nat.ble_eq, Nat.blt_eq] at h
    unfold sSd; simp only [Bool.or_eq_true, Bool.and_eq_true, beq_iff_eq, inR_iff]; omega
theorem sZz_fLw {v br cd c j : Nat} (h : sZz v br cd c j = true) : fLw v br cd c 0 j = false := by
  rw [sZz_iff] at h
  have hc : c ≠ 12 := by omega
  have h6 : c ≠ 156 := by omega
  cases hf : fLw v br cd c 0 j with
  | false => rfl
  | true =>
    exfalso
    unfold fLw fRx fRta at hf
    simp only [Bool.or_eq_true, Bool.and_eq_true, beq_iff_eq, Nat.ble_eq, Nat.blt_eq] at hf
    omega
theorem sDm_fLw {v br cd c j : Nat} (h : sDm v br cd c j = true) : fLw v br cd c 0 j = false := by
  unfold sDm at h
  rw [Bool.or_eq_true] at h
  rcases h with h | h
  · rw [Bool.and_eq_true, Nat.ble_eq, Nat.ble_eq] at h
    cases hf : fLw v br cd c 0 j with
    | false => rfl
    | true =>
      exfalso
      unfold fLw fRx fRta at hf
      simp only [Bool.or_eq_true, Bool.and_eq_true, beq_iff_eq, Nat.ble_eq, Nat.blt_eq] at hf
      omega
  · exact sZz_fLw h
section RSL
variable {D d t v : Nat} {κ ν P : Nat → Nat} {M : AmM} {lf : Nat × Nat}
theorem r_exprF (hD : 1 ≤ D) {c q : Nat} (h : rFt P c q M) : amD amGst D 176 [vR 12 12 0] M = some (vU, amUp M 12 0 44 0) := by
  obtain ⟨d, rfl⟩ := dS hD
  have b1 := h.1
  have b2 : amUp M 12 0 44 0 12 0 13 = (c : Int) := (up_j (by decide)).trans h.2.1
  rw [n_X12_expression, q_X12_expression_0, q_X12_expression_12, if_neg (show ¬ (1 : Int) = 0 by decide), b2, if_neg (show ¬ (c : Int) = 0 by omega)]
theorem r_termF (hD : 2 ≤ D) {c q b : Nat} (h : rFt P c q M) (h34 : M 12 0 34 = (b : Int)) (hb : b < 100) : amD amGst D 173 [vR 12 12 0] M = some (vU, amUp (amUp (amUp M 152 0 b (M 12 0 40)) 153 0 b (M 12 0 40)) 12 0 34 ((b + 1 : Nat) : Int)) := by
  obtain ⟨d, rfl⟩ := dS (show 1 ≤ D by omega)
  have b1 := h.1
  have b2 : amUp M 152 0 b (M 12 0 40) 12 0 13 = (c : Int) := (up_c (by decide)).trans h.2.1
  have b3 : amUp M 152 0 b (M 12 0 40) 12 0 34 = (b : Int) := (up_c (by decide)).trans h34
  have b4 : amUp M 152 0 b (M 12 0 40) 12 0 40 = M 12 0 40 := up_c (by decide)
  have b5 : amUp (amUp M 152 0 b (M 12 0 40)) 153 0 b (M 12 0 40) 12 0 34 = (b : Int) := (up_c (by decide)).trans b3
  rw [n_X12_term, q_X12_term_0, h34, if_pos (show (0 : Int) ≤ (b : Int) ∧ (b : Int) < 100 by omega), tn_cast, b2, if_neg (show ¬ (c : Int) = 0 by omega), q_X12_term_24, b3, if_pos (show (0 : Int) ≤ (b : Int) ∧ (b : Int) < 100 by omega), tn_cast, b4, b5, w32_n (x := (b : Int) + 1) (n := b + 1) (by omega) (by omega), q_X12_term_47]
/-- behind a FAULT: what changes -/
def fO (v br cd : Nat) (P : Nat → Nat) (c q : Nat) (o : Option (AmV × AmM)) (M : AmM) : Prop := ∃ M', o = some (vU, M') ∧ amSame (fLw v br cd) M M' ∧ rFt P c q M'
theorem fO.pre {br cd c q : Nat} {o : Option (AmV × AmM)} {M0 : AmM} (h : fO v br cd P c q o M) (hs : amSame (fLw v br cd) M0 M) : fO v br cd P c q o M0 := by
  obtain ⟨M', a1, a2, a3⟩ := h
  exact ⟨M', a1, hs.trans a2, a3⟩
theorem rFt.up {c q c' j : Nat} {z : Int} (h : rFt P c q M) (hc : c' ≠ 12 ∨ j = 34 ∨ j = 44) : rFt P c q (amUp M c' 0 j z) := by
  have e : ∀ i, i = 11 ∨ i = 13 ∨ i = 14 → amUp M c' 0 j z 12 0 i = M 12 0 i := fun i hi => by
    rcases hc with hc | hc
    · exact up_c (fun q => hc q.symm)
    · exact up_j (by omega)
  exact h.mv (e 11 (by decide)) (e 13 (by decide)) (e 14 (by decide))
theorem r_134F (hd : 3 ≤ d) {c q b br cd : Nat} {l1 l2 l3 : Int} (h : rFt P c q M) (h34 : M 12 0 34 = (b : Int)) (hb : br ≤ b) (hb2 : b < 50 * v + 50) (hb3 : b < 100) : fO v br cd P c q (e_X12_tellLaw_134 d l1 l2 l3 M) M := by
  have f1 : rFt P c q (amUp M 149 0 b 0) := h.up (Or.inl (by decide))
  have b2 : amUp M 149 0 b 0 12 0 34 = (b : Int) := (up_c (by decide)).trans h34
  have f2 : rFt P c q (amUp (amUp (amUp (amUp M 149 0 b 0) 152 0 b (amUp M 149 0 b 0 12 0 40)) 153 0 b (amUp M 149 0 b 0 12 0 40)) 12 0 34 ((b + 1 : Nat) : Int)) := ((f1.up (Or.inl (by decide))).up (Or.inl (by decide))).up (Or.inr (Or.inl rfl))
  have p1 := f2.1
  have p2 := f2.2.1
  rw [q_X12_tellLaw_134, h34, if_pos (show (0 : Int) ≤ (b : Int) ∧ (b : Int) < 100 by omega), tn_cast, r_termF (by omega) f1 b2 hb3, amCV_s, r_mustF hd f2, amCV_s, if_pos (by omega)]
  exact ⟨_, rfl, (((amSame.refl.up (fLw_b (by decide) hb hb2)).up (fLw_b (by decide) hb hb2)).up (fLw_b (by decide) hb hb2)).up fLw_34, f2⟩
theorem r_17F (hd : 3 ≤ d) {c q b br cd : Nat} {l1 l2 l3 : Int} (h : rFt P c q M) (h34 : M 12 0 34 = (b : Int)) (hb : br ≤ b) (hb2 : b < 50 * v + 50) (hb3 : b < 100) : fO v br cd P c q (e_X12_tellLaw_17 d l1 l2 l3 M) M := by
  have b1 := h.1
  have b2 := h.2.1
  rw [q_X12_tellLaw_17, if_neg (by omega)]
  exact r_134F hd h h34 hb hb2 hb3
/-- the tails of a branch -/
noncomputable def lT6 (d : Nat) (l1 l2 l3 : Int) (M : AmM) : Option (AmV × AmM) := amCV (amD amGst d 162 [vR 12 12 0, vI 31] M) fun M6 => e_X12_tellLaw_17 d l1 l2 l3 M6
noncomputable def lT5 (d : Nat) (l1 l2 l3 : Int) (M : AmM) : Option (AmV × AmM) := amCV (amD amGst d 173 [vR 12 12 0] M) fun M5 => lT6 d l1 l2 l3 M5
noncomputable def lT4 (d : Nat) (l1 l2 l3 : Int) (M : AmM) : Option (AmV × AmM) := amCV (amD amGst d 162 [vR 12 12 0, vI 30] M) fun M4 => lT5 d l1 l2 l3 M4
noncomputable def lT2 (d : Nat) (l1 l2 l3 : Int) (M : AmM) : Option (AmV × AmM) := amCV (amD amGst d 162 [vR 12 12 0, vI 13] M) fun M2 => if (0 : Int) ≤ M2 12 0 34 ∧ M2 12 0 34 < 100 then (if (amUp M2 151 0 (M2 12 0 34).toNat (M2 12 0 40)) 12 0 13 = 0 then (amCV (amD amGst d 176 [vR 12 12 0] (amUp M2 151 0 (M2 12 0 34).toNat (M2 12 0 40))) fun M3 => lT4 d l1 l2 l3 M3) else (lT4 d l1 l2 l3 (amUp M2 151 0 (M2 12 0 34).toNat (M2 12 0 40)))) else none
theorem q_81 {l1 l2 l3 : Int} : e_X12_tellLaw_81 d l1 l2 l3 M = amCV (amD amGst d 176 [vR 12 12 0] M) fun M1 => lT2 d l1 l2 l3 M1 := q_X12_tellLaw_81 d l1 l2 l3 M
theorem r_lT6F (hd : 3 ≤ d) {c q b br cd : Nat} {l1 l2 l3 : Int} (h : rFt P c q M) (h34 : M 12 0 34 = (b : Int)) (hb : br ≤ b) (hb2 : b < 50 * v + 50) (hb3 : b < 100) : fO v br cd P c q (lT6 d l1 l2 l3 M) M := by
  unfold lT6
  rw [r_mustF hd h, amCV_s]
  exact r_17F hd h h34 hb hb2 hb3
theorem r_lT5F (hd : 3 ≤ d) {c q b br cd : Nat} {l1 l2 l3 : Int} (h : rFt P c q M) (h34 : M 12 0 34 = (b : Int)) (hb : br ≤ b) (hb2 : b + 1 < 50 * v + 50) (hb3 : b + 1 < 100) : fO v br cd P c q (lT5 d l1 l2 l3 M) M := by
  unfold lT5
  rw [r_termF (by omega) h h34 (by omega), amCV_s]
  refine (r_lT6F (b := b + 1) hd (((h.up (Or.inl (by decide))).up (Or.inl (by decide))).up (Or.inr (Or.inl rfl))) up_on (by omega) hb2 hb3).pre ?_
  exact ((amSame.refl.up (fLw_b (by decide) hb (by omega))).up (fLw_b (by decide) hb (by omega))).up fLw_34
theorem r_lT4F (hd : 3 ≤ d) {c q b br cd : Nat} {l1 l2 l3 : Int} (h : rFt P c q M) (h34 : M 12 0 34 = (b : Int)) (hb : br ≤ b) (hb2 : b + 1 < 50 * v + 50) (hb3 : b + 1 < 100) : fO v br cd P c q (lT4 d l1 l2 l3 M) M := by
  unfold lT4
  rw [r_mustF hd h, amCV_s]
  exact r_lT5F hd h h34 hb hb2 hb3
theorem r_lT2F (hd : 3 ≤ d) {c q b br cd : Nat} {l1 l2 l3 : Int} (h : rFt P c q M) (h34 : M 12 0 34 = (b : Int)) (hb : br ≤ b) (hb2 : b + 1 < 50 * v + 50) (hb3 : b + 1 < 100) : fO v br cd P c q (lT2 d l1 l2 l3 M) M := by
  have b1 := h.1
  have f2 : ∀ z, rFt P c q (amUp M 151 0 b z) := fun z => h.up (Or.inl (by decide))
  have b2 := (f2 (M 12 0 40)).2.1
  unfold lT2
  rw [r_mustF hd h, amCV_s, h34, if_pos (show (0 : Int) ≤ (b : Int) ∧ (b : Int) < 100 by omega), tn_cast, if_neg (by omega)]
  exact (r_lT4F hd (f2 _) ((up_c (by decide)).trans h34) hb hb2 hb3).pre (amSame.refl.up (fLw_b (by decide) hb (by omega)))
theorem r_81F (hd : 3 ≤ d) {c q b br cd : Nat} {l1 l2 l3 : Int} (h : rFt P c q M) (h34 : M 12 0 34 = (b : Int)) (hb : br ≤ b) (hb2 : b + 1 < 50 * v + 50) (hb3 : b + 1 < 100) : fO v br cd P c q (e_X12_tellLaw_81 d l1 l2 l3 M) M := by
  rw [q_81, r_exprF (by omega) h, amCV_s]
  exact (r_lT2F hd (h.up (Or.inr (Or.inr rfl))) ((up_j (by decide)).trans h34) hb hb2 hb3).pre (amSame.refl.up fLw_44)
end RSL
