/-! PURE: the reference's season -/
section SEB
variable {D d v : Nat} {τ : Tx} {ρ : Rw} {M : AmM} {N : Nat}
theorem sends_end {p : Int} {l2 x : Int} {M1 M' : AmM} (h : e_X12_sends_52 d p l2 M1 = some (vI x, M')) : M' 12 0 51 = M1 12 0 51 := by
  rw [q_X12_sends_52] at h
  split at h
  · split at h
    · cases h; exact up_c (by decide)
    · cases h
  · cases h; rfl
theorem sends_mid {p : Int} {l2 x : Int} {M1 M' : AmM} (h : e_X12_sends_35 d p l2 M1 = some (vI x, M')) : M' 12 0 51 = M1 12 0 51 := by
  rw [q_X12_sends_35] at h
  split at h
  · split at h
    · exact (sends_end h).trans (up_c (by decide))
    · cases h
  · exact sends_end h
/-- a going sent over the row; the first step lost of it -/
theorem r_sendsF (hD : 6 ≤ D) (hτ : tOk τ) (hT : rTx v τ M) (hR : rRow ρ M) (hr : rOk τ ρ) (hd : 0 ≤ ρ 83) {p : Nat} (hp : p < tP τ) (h74 : ρ (74 + p) = 0) (h66 : w32 (ρ (66 + p)) = ρ (66 + p)) (h51 : M 12 0 51 = -1) :
    ∃ M', amD amGst D 195 [vR 12 12 0, vI p] M = some (vI ((goR τ ρ p).1 : Nat), M') ∧ amSame fRo M M' ∧ rRow (goS τ ρ p) M' ∧ M' 12 0 51 = (goR τ ρ p).2.2.2.2 := by
  obtain ⟨M', a1, a2, a3⟩ := r_sends hD hτ hT hR hr hd hp h74 h66
  refine ⟨M', a1, a2, a3, ?_⟩
  obtain ⟨d, rfl⟩ := dS hD
  obtain ⟨M1, m1, m2, m3, m4⟩ := r_comesOf (D := d) (by omega) hτ hd hp hT hR rfl hr
  have h3 := m3.2.2
  rw [h51] at h3
  rw [n_X12_sends, q_X12_sends_0, m1, amCI_s] at a1
  refine Eq.trans ?_ h3
  split at a1
  · split at a1
    · exact (sends_mid a1).trans ((up_c (by decide)).trans (up_c (by decide)))
    · cases a1
  · cases a1
/-- the reference's notes -/
def rNt (day0 : Int) (o : Nt) (M : AmM) : Prop := match o with
  | none => M 12 0 60 = -1
  | some (i, s, b) => M 12 0 60 = day0 + (i : Int) ∧ M 12 0 61 = s ∧ M 12 0 62 = b
theorem rNt.mv {day0 : Int} {o : Nt} {M M' : AmM} (h : rNt day0 o M) (hs : ∀ j, 60 ≤ j → j ≤ 62 → M' 12 0 j = M 12 0 j) : rNt day0 o M' := by
  have h4 := hs 60 (by omega) (by omega)
  have h5 := hs 61 (by omega) (by omega)
  have h6 := hs 62 (by omega) (by omega)
  unfold rNt at h ⊢
  cases o with
  | none => exact h4.trans h
  | some x => exact ⟨h4.trans h.1, h5.trans h.2.1, h6.trans h.2.2⟩
/-- what a season changes in the reference -/
def fRs : Nat → Nat → Nat → Bool := fun c s j => fRo c s j || c == 164 || (c == 12 && (j == 60 || j == 61 || j == 62))
theorem fRo_fRs : ∀ c s j, fRo c s j = true → fRs c s j = true := fun c s j h => by unfold fRs; rw [h]; rfl
theorem sRx_fRs : ∀ c j, sRx c j = true → ∀ s, fRs c s j = false := fun c j h s => by
  unfold fRs
  rw [sRx_fRo c j h s]
  unfold sRx sLw at h
  simp only [Bool.or_eq_true, Bool.and_eq_true, beq_iff_eq] at h
  rcases h with h | h
  · have hc : c ≠ 164 ∧ c ≠ 12 := by omega
    rw [beq_false_of_ne hc.1, beq_false_of_ne hc.2]; rfl
  · rw [h.1, h.2]; rfl
theorem rTx.rs {v : Nat} {τ : Tx} {M M' : AmM} (h : rTx v τ M) (hs : amSame fRs M M') : rTx v τ M' := h.mv fun c j hc => hs _ _ _ (sRx_fRs c j hc 0)
theorem r_noteEnd {l1 l2 l3 day0 : Int} {i : Nat} (hR : rRow ρ M) (h83 : ρ 83 = day0 + i) (ho : rNt day0 none M) : ∃ M', e_X12_notes_65 d l1 l2 l3 M = some (vU, M') ∧ rNt day0 (ntO i l2 l1 none) M' ∧ amSame (fun c s j => c == 12 && (j == 60 || j == 61 || j == 62)) M M' := by
  have e83 : (83 : Int).toNat = 83 := rfl
  have r83 := hR 83 (by omega)
  rw [q_X12_notes_65]
  by_cases h : l2 < 0
  · refine ⟨M, by rw [if_pos h], ?_, amSame.refl⟩
    show rNt day0 (if l2 < 0 then none else some (i, l2, l1)) M
    rw [if_pos h]
    exact ho
  · refine ⟨_, by rw [if_neg h, if_pos ⟨by omega, by omega⟩], ?_, ((amSame.refl.up (by rfl)).up (by rfl)).up (by rfl)⟩
    show rNt day0 (if l2 < 0 then none else some (i, l2, l1)) _
    rw [if_neg h]
    refine ⟨?_, ?_, ?_⟩
    · rw [up_j (by decide), up_j (by decide), up_on, r83, h83]
    · rw [up_j (by decide), up_on]
    · rw [up_on]
theorem r_notesP (hD : 1 ≤ D) (hτ : tOk τ) (hT : rTx v τ M) (hR : rRow ρ M) {day0 : Int} (hd0 : 0 ≤ day0) {i p : Nat} {o : Nt} (h83 : ρ 83 = day0 + i) (ho : rNt day0 o M) : ∃ M', amD amGst D 225 [vR 12 12 0, vI (p : Int)] M = some (vU, M') ∧ rNt day0 (ntO i (M 12 0 51) (p : Int) o) M' ∧ amSame (fun c s j => c == 12 && (j == 60 || j == 61 || j == 62)) M M' := by
  obtain ⟨d, rfl⟩ := dS hD
  have hv := hT.1
  have hn := hτ.1
  have e : ((v : Nat) : Int).toNat = v := rfl
  rw [n_X12_notes, q_X12_notes_0]
  cases o with
  | some x =>
    have h4 : M 12 0 60 = day0 + (x.1 : Int) := ho.1
    exact ⟨M, by rw [h4, if_neg (by omega)], ho, amSame.refl⟩
  | none =>
    have h4 : M 12 0 60 = -1 := ho
    obtain ⟨M', a1, a2, a3⟩ := r_noteEnd (d := d) (l1 := (p : Int)) (l2 := M 12 0 51) (l3 := (tN τ : Int)) hR h83 ho
    refine ⟨M', ?_, a2, a3⟩
    rw [h4, if_pos (show (-1 : Int) < 0 by omega), if_neg (show ¬ (p : Int) < 0 by omega), hT.2.1, if_pos (show (0 : Int) ≤ (v : Int) ∧ (v : Int) < 2 by omega), e, hT.2.2.1, q_X12_notes_31]
    by_cases h0 : (0 : Int) < (tN τ : Int)
    · rw [if_pos h0, if_neg (show ¬ (p : Int) < 0 by omega)]
      exact a1
    · rw [if_neg h0]
      exact a1
/-- the steps from s down: the last one found lost -/
def dnF (u : Int) (ρ : Rw) : Nat → Int → Int
  | 0, acc => acc
  | s + 1, acc => dnF u ρ s (if 0 < ρ (s + 1) ∧ ρ (s + 1) ≤ u then ((s + 1 : Nat) : Int) else acc)
theorem dnF_eq {u : Int} {ρ : Rw} : ∀ (n : Nat) (acc : Int), dnF u ρ n acc = if rnF u ρ n = -1 then acc else rnF u ρ n
  | 0, acc => by unfold dnF rnF; rw [if_pos rfl]
  | n + 1, acc => by
    unfold dnF
    rw [dnF_eq n]
    have e : rnF u ρ (n + 1) = if rnF u ρ n = -1 ∧ 0 < ρ (n + 1) ∧ ρ (n + 1) ≤ u then ((n + 1 : Nat) : Int) else rnF u ρ n := rfl
    by_cases h1 : rnF u ρ n = -1
    · by_cases h2 : 0 < ρ (n + 1) ∧ ρ (n + 1) ≤ u
      · have e2 := e.trans (if_pos ⟨h1, h2⟩)
        rw [e2, if_pos h1, if_pos h2, if_neg (by omega)]
      · have e2 := e.trans (if_neg (fun q => h2 q.2))
        rw [e2, if_pos h1, if_neg h2, if_pos h1]
    · have e2 := e.trans (if_neg (fun q => h1 q.1))
      rw [e2, if_neg h1, if_neg h1]
theorem r_notesDown {u day0 : Int} {i n : Nat} (hn : n ≤ 24) {ρ0 : Rw} (hρ : ∀ s, 1 ≤ s → s ≤ n → 0 ≤ ρ0 s ∧ ρ s = (if ρ0 s < u then 0 else ρ0 s - u) ∧ M 164 0 s = (if 0 < ρ0 s then 1 else 0)) (hR : rRow ρ M) (h83 : ρ 83 = day0 + i) (ho : rNt day0 none M) : ∀ (s : Nat) (acc : Int), s ≤ n → ∃ M', e_X12_notes_31 d (-2) acc (s : Int) M = some (vU, M') ∧ rNt day0 (ntO i (dnF u ρ0 s acc) (-2) none) M' ∧ amSame (fun c s j => c == 12 && (j == 60 || j == 61 || j == 62)) M M'
  | 0, acc, h => by
    rw [q_X12_notes_31, if_neg (by omega)]
    exact r_noteEnd hR h83 ho
  | s + 1, acc, h => by
    have e1 : (((s + 1 : Nat) : Int)).toNat = s + 1 := rfl
    obtain ⟨q1, q2, q3⟩ := hρ (s + 1) (by omega) (by omega)
    have r1 := hR (s + 1) (by omega)
    have ih := fun acc => r_notesDown hn hρ hR h83 ho s acc (by omega)
    rw [q_X12_notes_31, if_pos (show (0 : Int) < ((s + 1 : Nat) : Int) by omega), if_pos (show (-2 : Int) < 0 by omega), e1, r1, w32_n (x := ((s + 1 : Nat) : Int) + (-1)) (n := s) (by omega) (by omega), if_pos (show (0 : Int) ≤ ((s + 1 : Nat) : Int) ∧ ((s + 1 : Nat) : Int) < 25 by omega), if_pos (show (0 : Int) ≤ ((s + 1 : Nat) : Int) ∧ ((s + 1 : Nat) : Int) < 100 by omega)]
    unfold dnF
    by_cases h0 : 0 < ρ0 (s + 1)
    · have q4 : M 164 0 (s + 1) = 1 := q3.trans (if_pos h0)
      rw [q4, if_neg (show ¬ (1 : Int) = 0 by decide)]
      by_cases h2 : ρ0 (s + 1) ≤ u
      · have ez : ρ (s + 1) = 0 := by rw [q2]; split <;> omega
        rw [if_pos ez, if_pos (⟨h0, h2⟩ : 0 < ρ0 (s + 1) ∧ ρ0 (s + 1) ≤ u)]
        exact ih _
      · have ez : ¬ ρ (s + 1) = 0 := by rw [q2]; split <;> omega
        rw [if_neg ez, if_neg (fun q : 0 < ρ0 (s + 1) ∧ ρ0 (s + 1) ≤ u => h2 q.2)]
        exact ih _
    · have q4 : M 164 0 (s + 1) = 0 := q3.trans (if_neg h0)
      rw [q4, if_pos (show (0 : Int) = 0 from rfl), if_neg (fun q : 0 < ρ0 (s + 1) ∧ ρ0 (s + 1) ≤ u => h0 q.1)]
      exact ih _
theorem r_notesN (hD : 1 ≤ D) (hτ : tOk τ) (hT : rTx v τ M) {u day0 : Int} (hd0 : 0 ≤ day0) {i : Nat} {o : Nt} {ρ0 : Rw} (hρ : ∀ s, 1 ≤ s → s ≤ tN τ → 0 ≤ ρ0 s ∧ ρ s = (if ρ0 s < u then 0 else ρ0 s - u) ∧ M 164 0 s = (if 0 < ρ0 s then 1 else 0)) (hR : rRow ρ M) (h83 : ρ 83 = day0 + i) (ho : rNt day0 o M) : ∃ M', amD amGst D 225 [vR 12 12 0, vI (-2)] M = some (vU, M') ∧ rNt day0 (ntO i (rnF u ρ0 (tN τ)) (-2) o) M' ∧ amSame (fun c s j => c == 12 && (j == 60 || j == 61 || j == 62)) M M' := by
  obtain ⟨d, rfl⟩ := dS hD
  have hv := hT.1
  have hn := hτ.1
  have e : ((v : Nat) : Int).toNat = v := rfl
  rw [n_X12_notes, q_X12_notes_0]
  cases o with
  | some x =>
    have h4 : M 12 0 60 = day0 + (x.1 : Int) := ho.1
    exact ⟨M, by rw [h4, if_neg (by omega)], ho, amSame.refl⟩
  | none =>
    have h4 : M 12 0 60 = -1 := ho
    obtain ⟨M', a1, a2, a3⟩ := r_notesDown (d := d) hn hρ hR h83 ho (tN τ) (-1) (by omega)
    have ed : dnF u ρ0 (tN τ) (-1) = rnF u ρ0 (tN τ) := by
      rw [dnF_eq]
      split
      · rename_i h; exact h.symm
      · rfl
    rw [ed] at a2
    refine ⟨M', ?_, a2, a3⟩
    rw [h4, if_pos (show (-1 : Int) < 0 by omega), if_pos (show (-2 : Int) < 0 by omega), hT.2.1, if_pos (show (0 : Int) ≤ (v : Int) ∧ (v : Int) < 2 by omega), e, hT.2.2.1]
    exact a1
theorem r_marksLoop (hτ : tOk τ) (hR : rRow ρ M) : ∀ (k m : Nat) (M1 : AmM), m + k = tN τ → rTx v τ M1 → amSame (fun c _ _ => c == 164) M M1 → (∀ s, 1 ≤ s → s ≤ m → M1 164 0 s = (if 0 < ρ s then 1 else 0)) → ∃ M', e_X12_marks_2 d ((m + 1 : Nat) : Int) M1 = some (vU, M') ∧ amSame (fun c _ _ => c == 164) M M' ∧ ∀ s, 1 ≤ s → s ≤ tN τ → M' 164 0 s = (if 0 < ρ s then 1 else 0)
  | 0, m, M1, h, hT, hs, hm => by
    have hv := hT.1
    have e : ((v : Nat) : Int).toNat = v := rfl
    have h : m = tN τ := h
    refine ⟨M1, ?_, hs, fun s h1 h2 => hm s h1 (by omega)⟩
    rw [q_X12_marks_2, hT.2.1, e, hT.2.2.1, if_pos (by omega), if_pos (by omega)]
  | k + 1, m, M1, h, hT, hs, hm => by
    have hv := hT.1
    have hn := hτ.1
    have e : ((v : Nat) : Int).toNat = v := rfl
    have e1 : (((m + 1 : Nat) : Int)).toNat = m + 1 := rfl
    have r1 : M1 160 0 (m + 1) = ρ (m + 1) := by rw [hs 160 0 (m + 1) (by rfl)]; exact hR (m + 1) (by omega)
    have nx : ∀ z : Int, z = (if 0 < ρ (m + 1) then 1 else 0) → ∃ M', e_X12_marks_2 d ((m + 1 + 1 : Nat) : Int) (amUp M1 164 0 (m + 1) z) = some (vU, M') ∧ amSame (fun c _ _ => c == 164) M M' ∧ ∀ s, 1 ≤ s → s ≤ tN τ → M' 164 0 s = (if 0 < ρ s then 1 else 0) := fun z hz => r_marksLoop hτ hR k (m + 1) (amUp M1 164 0 (m + 1) z) (by omega) (hT.mv fun c j hc => up_c fun ec => by subst ec; revert hc; unfold sRx sLw; simp) (hs.up (by rfl)) fun s h1 h2 => by
      rw [up_at]
      by_cases es : s = m + 1
      · subst es; rw [if_pos rfl]; exact hz
      · rw [if_neg es]; exact hm s h1 (by omega)
    rw [q_X12_marks_2, hT.2.1, e, e1, hT.2.2.1, r1, if_pos (show (0 : Int) ≤ (v : Int) ∧ (v : Int) < 2 by omega), if_neg (show ¬ ((tN τ : Nat) : Int) < ((m + 1 : Nat) : Int) by omega), if_pos (show (0 : Int) ≤ ((m + 1 : Nat) : Int) ∧ ((m + 1 : Nat) : Int) < 100 by omega), w32_n (x := ((m + 1 : Nat) : Int) + 1) (n := m + 1 + 1) (by omega) (by omega), if_pos (show (0 : Int) ≤ ((m + 1 : Nat) : Int) ∧ ((m + 1 : Nat) : Int) < 25 by omega)]
    by_cases h0 : 0 < ρ (m + 1)
    · rw [if_pos h0]
      exact nx 1 (by rw [if_pos h0])
    · rw [if_neg h0, if_pos (show (0 : Int) ≤ ((m + 1 : Nat) : Int) ∧ ((m + 1 : Nat) : Int) < 25 by omega)]
      exact nx 0 (by rw [if_neg h0])
theorem r_marks (hD : 1 ≤ D) (hτ : tOk τ) (hT : rTx v τ M) (hR : rRow ρ M) : ∃ M', amD amGst D 224 [vR 12 12 0] M = some (vU, M') ∧ amSame (fun c _ _ => c == 164) M M' ∧ ∀ s, 1 ≤ s → s ≤ tN τ → M' 164 0 s = (if 0 < ρ s then 1 else 0) := by
  obtain ⟨d, rfl⟩ := dS hD
  rw [n_X12_marks, q_X12_marks_0]
  exact r_marksLoop hτ hR (tN τ) 0 M (by omega) hT amSame.refl fun s h1 h2 => by omega
end SEB
