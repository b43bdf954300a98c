/-! PURE: the reference's walkers -/
section TLR
variable {D d v : Nat} {τ : Tx} {ρ : Rw} {M : AmM} {N n r : Nat} {S T : Nat → Int} {K k : Nat}
theorem r_beginA : ∀ (k i : Nat) (M : AmM), i + k = 100 → (∀ j, j < i → M 160 0 j = 0) → ∃ M', e_X12_begins_2 d (i : Int) M = e_X12_begins_23 d 1 M' ∧ (∀ j, j < 100 → M' 160 0 j = 0) ∧ amSame (fun c _ _ => c == 160) M M'
  | 0, i, M, h, hz => by
    have h : i = 100 := h
    subst h
    exact ⟨M, by rw [q_X12_begins_2, if_neg (by omega)], hz, amSame.refl⟩
  | k + 1, i, M, h, hz => by
    have e : ((i : Nat) : Int).toNat = i := rfl
    obtain ⟨M', a1, a2, a3⟩ := r_beginA k (i + 1) (amUp M 160 0 i 0) (by omega) fun j hj => by
      rw [up_at]
      split
      · rfl
      · exact hz j (by omega)
    refine ⟨M', ?_, a2, (amSame.refl.up (by rfl)).trans a3⟩
    rw [q_X12_begins_2, if_pos (show (i : Int) < 100 by omega), if_pos (by omega), e, w32_n (x := (i : Int) + 1) (n := i + 1) (by omega) (by omega)]
    exact a1
theorem r_beginB (hτ : tOk τ) : ∀ (k m : Nat) (M : AmM), m + k = tN τ → rTx v τ M → (∀ j, j < 100 → M 160 0 j = if 1 ≤ j ∧ j ≤ m then tTh τ j else 0) → ∃ M', e_X12_begins_23 d ((m + 1 : Nat) : Int) M = some (vU, M') ∧ rRow (bgS τ) M' ∧ amSame (fun c _ _ => c == 160) M M'
  | 0, m, M, h, hT, hr => by
    have hv := hT.1
    have hn := hτ.1
    have e : ((v : Nat) : Int).toNat = v := rfl
    have h : m = tN τ := h
    refine ⟨amUp M 160 0 82 (tB τ), ?_, fun j hj => ?_, amSame.refl.up (by rfl)⟩
    · rw [q_X12_begins_23, hT.2.1, e, hT.2.2.1, hT.2.2.2.2.2.2.1, if_pos ⟨by omega, by omega⟩, if_pos (by omega), if_pos ⟨by omega, by omega⟩, if_pos ⟨by omega, by omega⟩]
    · rw [up_at]
      unfold bgS
      by_cases e82 : j = 82
      · rw [if_pos e82, if_neg (by omega), if_pos e82]
      · rw [if_neg e82, hr j hj, h]
        by_cases hj : 1 ≤ j ∧ j ≤ tN τ
        · rw [if_pos hj, if_pos hj]
        · rw [if_neg hj, if_neg hj, if_neg e82]
  | k + 1, m, M, h, hT, hr => by
    have hv := hT.1
    have hn := hτ.1
    have e : ((v : Nat) : Int).toNat = v := rfl
    have e1 : (((m + 1 : Nat) : Int)).toNat = m + 1 := rfl
    have e2 : (((25 * v + (m + 1) : Nat) : Int)).toNat = 25 * v + (m + 1) := rfl
    obtain ⟨M', a1, a2, a3⟩ := r_beginB hτ k (m + 1) (amUp M 160 0 (m + 1) (tTh τ (m + 1))) (by omega) (hT.ro (amSame.refl.up (by rfl))) fun j hj => by
      rw [up_at]
      by_cases ej : j = m + 1
      · subst ej; rw [if_pos rfl, if_pos ⟨by omega, by omega⟩]
      · rw [if_neg ej, hr j hj]
        by_cases hj : 1 ≤ j ∧ j ≤ m
        · rw [if_pos hj, if_pos ⟨by omega, by omega⟩]
        · rw [if_neg hj, if_neg (by omega)]
    refine ⟨M', ?_, a2, (amSame.refl.up (by rfl)).trans a3⟩
    rw [q_X12_begins_23, r_25v hT (show m + 1 < 100 by omega), hT.2.1, e, e1, e2, hT.2.2.1, hT.2.2.2.1 (m + 1) (by omega) (by omega), if_pos (show (0 : Int) ≤ (v : Int) ∧ (v : Int) < 2 by omega), if_neg (show ¬ ((tN τ : Nat) : Int) < ((m + 1 : Nat) : Int) by omega), if_pos (show (0 : Int) ≤ ((25 * v + (m + 1) : Nat) : Int) ∧ ((25 * v + (m + 1) : Nat) : Int) < 50 by omega), if_pos (show (0 : Int) ≤ ((m + 1 : Nat) : Int) ∧ ((m + 1 : Nat) : Int) < 100 by omega), w32_n (x := ((m + 1 : Nat) : Int) + 1) (n := m + 1 + 1) (by omega) (by omega)]
    exact a1
theorem r_begins (hD : 1 ≤ D) (hτ : tOk τ) (hT : rTx v τ M) : ∃ M', amD amGst D 185 [vR 12 12 0] M = some (vU, M') ∧ rRow (bgS τ) M' ∧ amSame (fun c _ _ => c == 160) M M' := by
  obtain ⟨d, rfl⟩ := dS hD
  obtain ⟨M1, a1, a2, a3⟩ := r_beginA (d := d) 100 0 M (by omega) (fun j hj => by omega)
  obtain ⟨M2, b1, b2, b3⟩ := r_beginB (d := d) hτ (tN τ) 0 M1 (by omega) (hT.ro (a3.mono f160_fRo)) (fun j hj => by
    rw [a2 j hj, if_neg (by omega)])
  refine ⟨M2, ?_, b2, a3.trans b3⟩
  rw [n_X12_begins, q_X12_begins_0]
  exact a1.trans b1
theorem r_fitSet (hd : 6 ≤ d) (hτ : tOk τ) {s : Nat} (hs : s < 256) {kk : Int} : ∀ (m p : Nat) (ρ : Rw) (M : AmM), p + m = tP τ → wkH τ p ρ → rTx v τ M → rRow ρ M → ∃ M', e_X12_isFit_6 d (s : Int) kk (p : Int) M = e_X12_isFit_37 d (s : Int) kk 0 M' ∧ amSame fRo M M' ∧ rRow (setR τ s.testBit m p ρ) M'
  | 0, p, ρ, M, h, hH, hT, hR => by
    have h : p = tP τ := h
    exact ⟨M, by rw [q_X12_isFit_6, r_many (by omega) hT, amCI_s, if_neg (by omega)], amSame.refl, hR⟩
  | m + 1, p, ρ, M, h, hH, hT, hR => by
    have hP := hτ.2.2.2.2.2.2.1
    rw [q_X12_isFit_6, r_many (by omega) hT, amCI_s, if_pos (by omega), bBit s hs p (by omega), w32_n (x := (p : Int) + 1) (n := p + 1) (by omega) (by omega), setR_s]
    by_cases hb : s.testBit p = true
    · have h2 := hH.1.2.2 p (by omega) (by omega) rfl
      obtain ⟨M1, t1, t2, t3⟩ := r_sends (D := d) (by omega) hτ hT hR hH.1.1 hH.1.2.1 (p := p) (by omega) h2.1 h2.2
      have eB : (if s.testBit p = true then (1 : Int) else 0) = 1 := if_pos hb
      rw [eB, if_pos (show (1 : Int) = 1 from rfl), t1, amCI_s, if_pos hb]
      obtain ⟨M2, b1, b2, b3⟩ := r_fitSet hd hτ hs (kk := kk) m (p + 1) (goS τ ρ p) M1 (by omega) (hH.go hτ (by omega)) (hT.ro t2) t3
      exact ⟨M2, b1, t2.trans b2, b3⟩
    · have eB : (if s.testBit p = true then (1 : Int) else 0) = 0 := if_neg hb
      rw [eB, if_neg (show ¬ (0 : Int) = 1 by decide), if_neg hb]
      exact r_fitSet hd hτ hs m (p + 1) ρ M (by omega) hH.nx hT hR
theorem r_fitL (hτ : tOk τ) (hk : rTo K S T M) (hS : toOk τ K S) (hR : rRow ρ M) (h : k ≤ K) {s : Int} : ∀ (m i : Nat), i + m = k → e_X12_isFit_37 d s (k : Int) (i : Int) M = some (vI (if fitL ρ S T m i = true then 1 else 0), M)
  | 0, i, hi => by
    have hi : i = k := hi
    rw [q_X12_isFit_37, if_neg (by omega)]
    rfl
  | m + 1, i, hi => by
    have hn := hτ.1
    have hK := hk.1
    have hb := hS i (by omega)
    obtain ⟨t1, t2⟩ := hk.2.2 i (by omega)
    have ih := r_fitL hτ hk hS hR h (s := s) m (i + 1) (by omega)
    rw [q_X12_isFit_37, if_pos (by omega), tn_cast, t1, t2, hR (S i).toNat (by omega), if_pos (by omega), if_pos (by omega), if_pos (by omega), w32_n (x := (i : Int) + 1) (n := i + 1) (by omega) (by omega)]
    unfold fitL
    by_cases hf : ρ (S i).toNat = T i
    · rw [if_pos hf, if_pos hf]; exact ih
    · rw [if_neg hf, if_neg hf]; rfl
theorem rTo.ro {M' : AmM} (h : rTo K S T M) (hs : amSame fRo M M') : rTo K S T M' := ⟨h.1, (hs 12 0 65 (by rfl)).trans h.2.1, fun i hi => ⟨(hs 166 0 i (by rfl)).trans (h.2.2 i hi).1, (hs 167 0 i (by rfl)).trans (h.2.2 i hi).2⟩⟩
theorem r_isFit (hD : 7 ≤ D) (hτ : tOk τ) (hT : rTx v τ M) (hk : rTo K S T M) (hS : toOk τ K S) {s : Nat} (hs : s < 256) (h : k ≤ K) : ∃ M', amD amGst D 235 [vR 12 12 0, vI (s : Int), vI (k : Int)] M = some (vI (if fitS τ S T k s = true then 1 else 0), M') ∧ amSame fRo M M' := by
  obtain ⟨d, rfl⟩ := dS hD
  obtain ⟨M1, a1, a2, a3⟩ := r_begins (D := d) (by omega) hτ hT
  have s1 := a3.mono f160_fRo
  obtain ⟨M2, b1, b2, b3⟩ := r_fitSet (d := d) (by omega) hτ hs (kk := (k : Int)) (tP τ) 0 (bgS τ) M1 (by omega) (bgS_H hτ) (hT.ro s1) a2
  have c1 := r_fitL (d := d) (s := (s : Int)) hτ ((hk.ro s1).ro b2) hS b3 h k 0 (by omega)
  refine ⟨M2, ?_, s1.trans b2⟩
  rw [n_X12_isFit, q_X12_isFit_0, a1, amCV_s]
  exact b1.trans c1
def fRv : Nat → Nat → Nat → Bool := fun c s j => fRo c s j || c == 168 || (c == 12 && j == 69)
theorem fRo_fRv : ∀ c s j, fRo c s j = true → fRv c s j = true := fun c s j h => by unfold fRv; rw [h]; rfl
theorem sRx_fRv : ∀ c j, sRx c j = true → ∀ s, fRv c s j = false := fun c j h s => by
  unfold fRv
  rw [sRx_fRo c j h s]
  unfold sRx sLw at h
  simp only [Bool.or_eq_true, Bool.and_eq_true, beq_iff_eq] at h
  rcases h with h | h
  · have hc : c ≠ 168 ∧ c ≠ 12 := by omega
    rw [beq_false_of_ne hc.1, beq_false_of_ne hc.2]; rfl
  · rw [h.1, h.2]; rfl
theorem rTx.rv {M' : AmM} (h : rTx v τ M) (hs : amSame fRv M M') : rTx v τ M' := h.mv fun c j hc => hs _ _ _ (sRx_fRv c j hc 0)
theorem rTo.rv {M' : AmM} (h : rTo K S T M) (hs : amSame fRv M M') : rTo K S T M' := ⟨h.1, (hs 12 0 65 (by rfl)).trans h.2.1, fun i hi => ⟨(hs 166 0 i (by rfl)).trans (h.2.2 i hi).1, (hs 167 0 i (by rfl)).trans (h.2.2 i hi).2⟩⟩
/-- the walkers that the reference wrote down -/
def rLs (l : List Nat) (M : AmM) : Prop := M 12 0 69 = (l.length : Int) ∧ ∀ (j : Nat) (x : Nat), l[j]? = some x → M 168 0 j = (x : Int)
theorem r_fillLoop (hd : 7 ≤ d) (hτ : tOk τ) (hS : toOk τ K S) (h : k ≤ K) : ∀ (m s : Nat) (M : AmM), s + m = 2 ^ tP τ → rTx v τ M → rTo K S T M → rLs (lsF (fitS τ S T k) s) M → ∃ M', e_X12_fillsWalkers_7 d (k : Int) (s : Int) M = some (vU, M') ∧ amSame fRv M M' ∧ rLs (lsF (fitS τ S T k) (2 ^ tP τ)) M'
  | 0, s, M, hs, hT, hk, hL => by
    have hP := hτ.2.2.2.2.2.2.1
    have hs : s = 2 ^ tP τ := hs
    exact ⟨M, by rw [q_X12_fillsWalkers_7, r_many (by omega) hT, amCI_s, bShl1 _ (by omega), if_neg (by omega)], amSame.refl, by rw [← hs]; exact hL⟩
  | m + 1, s, M, hs, hT, hk, hL => by
    have hP := hτ.2.2.2.2.2.2.1
    have h8 := pw8 hτ
    have hl := lsF_len (F := fitS τ S T k) s
    obtain ⟨M1, a1, a2⟩ := r_isFit (D := d) (by omega) hτ hT hk hS (show s < 256 by omega) h
    have hL1 : rLs (lsF (fitS τ S T k) s) M1 := ⟨(a2 12 0 69 (by rfl)).trans hL.1, fun j x hx => (a2 168 0 j (by rfl)).trans (hL.2 j x hx)⟩
    have s1 := a2.mono fRo_fRv
    rw [q_X12_fillsWalkers_7, r_many (by omega) hT, amCI_s, bShl1 _ (by omega), if_pos (by omega), a1, amCI_s]
    by_cases hF : fitS τ S T k s = true
    · have e69 := hL1.1
      have s2 : amSame fRv M1 (amUp (amUp M1 168 0 (lsF (fitS τ S T k) s).length (s : Int)) 12 0 69 (((lsF (fitS τ S T k) s).length + 1 : Nat) : Int)) := (amSame.refl.up (by rfl)).up (by rfl)
      obtain ⟨M2, b1, b2, b3⟩ := r_fillLoop hd hτ hS h m (s + 1) _ (by omega) ((hT.rv s1).rv s2) ((hk.rv s1).rv s2) (by
        rw [lsF_T hF]
        refine ⟨by rw [up_on, List.length_append]; rfl, fun j x hx => ?_⟩
        rw [up_c (by decide), up_at]
        by_cases ej : j = (lsF (fitS τ S T k) s).length
        · rw [if_pos ej]
          rw [ej, List.getElem?_append_right (Nat.le_refl _), Nat.sub_self] at hx
          have hx : some s = some x := hx
          cases hx; rfl
        · rw [if_neg ej]
          by_cases hlt : j < (lsF (fitS τ S T k) s).length
          · rw [List.getElem?_append_left hlt] at hx
            exact hL1.2 j x hx
          · rw [List.getElem?_eq_none (by rw [List.length_append]; show _ + 1 ≤ j; omega)] at hx
            cases hx)
      refine ⟨M2, ?_, (s1.trans s2).trans b2, b3⟩
      have eB : (if fitS τ S T k s = true then (1 : Int) else 0) = 1 := if_pos hF
      rw [eB, if_neg (show ¬ (1 : Int) = 0 by decide), e69, tn_cast, up_c (show 12 ≠ 168 by decide), e69, if_pos (by omega), w32_n (x := ((lsF (fitS τ S T k) s).length : Int) + 1) (n := (lsF (fitS τ S T k) s).length + 1) (by omega) (by omega), q_X12_fillsWalkers_49, w32_n (x := (s : Int) + 1) (n := s + 1) (by omega) (by omega)]
      exact b1
    · obtain ⟨M2, b1, b2, b3⟩ := r_fillLoop hd hτ hS h m (s + 1) M1 (by omega) (hT.rv s1) (hk.rv s1) (by rw [lsF_F hF]; exact hL1)
      refine ⟨M2, ?_, s1.trans b2, b3⟩
      have eB : (if fitS τ S T k s = true then (1 : Int) else 0) = 0 := if_neg hF
      rw [eB, if_pos (show (0 : Int) = 0 from rfl), q_X12_fillsWalkers_49, w32_n (x := (s : Int) + 1) (n := s + 1) (by omega) (by omega)]
      exact b1
theorem r_fills (hD : 8 ≤ D) (hτ : tOk τ) (hT : rTx v τ M) (hk : rTo K S T M) (hS : toOk τ K S) (h : k ≤ K) : ∃ M', amD amGst D 236 [vR 12 12 0, vI (k : Int)] M = some (vU, M') ∧ amSame fRv M M' ∧ rLs (lsF (fitS τ S T k) (2 ^ tP τ)) M' := by
  obtain ⟨d, rfl⟩ := dS hD
  have s0 : amSame fRv M (amUp M 12 0 69 0) := amSame.refl.up (by rfl)
  obtain ⟨M1, a1, a2, a3⟩ := r_fillLoop (d := d) (k := k) (by omega) hτ hS h (2 ^ tP τ) 0 (amUp M 12 0 69 0) (by omega) (hT.rv s0) (hk.rv s0) ⟨up_on, fun j x hx => by cases hx⟩
  refine ⟨M1, ?_, s0.trans a2, a3⟩
  rw [n_X12_fillsWalkers, q_X12_fillsWalkers_0]
  exact a1
theorem r_fitsN (hD : 2 ≤ D) (hk : rTo K S T M) {k : Int} (h : ¬ (0 ≤ k ∧ k ≤ (K : Int))) : amD amGst D 237 [vR 12 12 0, vI k] M = some (vI (-1), M) := by
  obtain ⟨d, rfl⟩ := dS hD
  rw [n_X12_fits, q_X12_fits_0, hk.2.1, r_inN (by omega) h, amCI_s, if_pos (show (0 : Int) = 0 from rfl)]
theorem r_fits (hD : 9 ≤ D) (hτ : tOk τ) (hT : rTx v τ M) (hk : rTo K S T M) (hS : toOk τ K S) (h : k ≤ K) : ∃ M', amD amGst D 237 [vR 12 12 0, vI (k : Int)] M = some (vI ((lsF (fitS τ S T k) (2 ^ tP τ)).length : Int), M') ∧ amSame fRv M M' := by
  obtain ⟨d, rfl⟩ := dS hD
  obtain ⟨M1, a1, a2, a3⟩ := r_fills (D := d) (by omega) hτ hT hk hS h
  refine ⟨M1, ?_, a2⟩
  rw [n_X12_fits, q_X12_fits_0, hk.2.1, r_inY (by omega) (by omega), amCI_s, if_neg (show ¬ (1 : Int) = 0 by decide), a1, amCV_s, a3.1]
theorem r_walkersN (hD : 2 ≤ D) (hk : rTo K S T M) {k i : Int} (h : ¬ (0 ≤ k ∧ k ≤ (K : Int))) : amD amGst D 238 [vR 12 12 0, vI k, vI i] M = some (vI (-1), M) := by
  obtain ⟨d, rfl⟩ := dS hD
  rw [n_X12_walkers, q_X12_walkers_0, hk.2.1, r_inN (by omega) h, amCI_s, if_pos (show (0 : Int) = 0 from rfl)]
theorem r_walkers (hD : 9 ≤ D) (hτ : tOk τ) (hT : rTx v τ M) (hk : rTo K S T M) (hS : toOk τ K S) (h : k ≤ K) {i : Int} : ∃ M', amD amGst D 238 [vR 12 12 0, vI (k : Int), vI i] M = some (vI (wlkS τ S T k i), M') ∧ amSame fRv M M' := by
  obtain ⟨d, rfl⟩ := dS hD
  obtain ⟨M1, a1, a2, a3⟩ := r_fills (D := d) (by omega) hτ hT hk hS h
  refine ⟨M1, ?_, a2⟩
  have hl := lsF_len (F := fitS τ S T k) (2 ^ tP τ)
  have h8 := pw8 hτ
  rw [n_X12_walkers, q_X12_walkers_0, hk.2.1, r_inY (by omega) (by omega), amCI_s, if_neg (show ¬ (1 : Int) = 0 by decide), a1, amCV_s, a3.1, w32_id (x := ((lsF (fitS τ S T k) (2 ^ tP τ)).length : Int) - 1) (by omega) (by omega)]
  unfold wlkS
  by_cases hi : 0 ≤ i ∧ i ≤ ((lsF (fitS τ S T k) (2 ^ tP τ)).length : Int) - 1
  · have e := a3.2 i.toNat _ (List.getElem?_eq_getElem (show i.toNat < (lsF (fitS τ S T k) (2 ^ tP τ)).length by omega))
    rw [r_inY (by omega) hi, amCI_s, if_neg (show ¬ (1 : Int) = 0 by decide), if_pos (by omega), if_neg (by omega), e, List.getElem?_eq_getElem (show i.toNat < (lsF (fitS τ S T k) (2 ^ tP τ)).length by omega)]
  · rw [r_inN (by omega) hi, amCI_s, if_pos (show (0 : Int) = 0 from rfl)]
    by_cases h0 : i < 0
    · rw [if_pos h0]
    · rw [if_neg h0, List.getElem?_eq_none (by omega)]
theorem r_whoLoop {kk sure : Int} {L : List Nat} (hL : ∀ x ∈ L, x < 256) (hlen : L.length ≤ 256) (hM : rLs L M) : ∀ (R : List Nat) (i a b : Nat), i + R.length = L.length → (∀ j, R[j]? = L[i + j]?) → a < 256 → b < 256 → e_X12_who_40 d kk sure (a : Int) (b : Int) (i : Int) M = some (vI (if sure = 0 then ((orL R a : Nat) : Int) else ((anL R b : Nat) : Int)), M)
  | [], i, a, b, h, hR, ha, hb => by
    have h : i = L.length := h
    rw [q_X12_who_40, hM.1, if_neg (by omega)]
    by_cases h0 : sure = 0
    · rw [if_pos h0, if_pos h0]; rfl
    · rw [if_neg h0, if_neg h0]; rfl
  | x :: R, i, a, b, h, hR, ha, hb => by
    have h : i + (R.length + 1) = L.length := h
    have h0 := hR 0
    have h0 : some x = L[i]? := h0
    have ex := hM.2 i x h0.symm
    have hx : x < 256 := hL x (List.mem_of_getElem? h0.symm)
    have hab := Nat.and_le_left (n := b) (m := x)
    have ih := r_whoLoop (kk := kk) (sure := sure) hL hlen hM R (i + 1) (a ||| x) (b &&& x) (by omega) (fun j => by
      have := hR (j + 1)
      rw [show i + 1 + j = i + (j + 1) by omega]
      exact this) (Nat.or_lt_two_pow (n := 8) ha hx) (by omega)
    rw [q_X12_who_40, hM.1, if_pos (by omega), if_pos (by omega), if_pos (by omega), tn_cast, ex, bOr_b ha hx, bAnd_b hb hx, w32_n (x := (i : Int) + 1) (n := i + 1) (by omega) (by omega)]
    exact ih
theorem r_whoN (hD : 2 ≤ D) (hk : rTo K S T M) {k sure : Int} (h : ¬ (0 ≤ k ∧ k ≤ (K : Int))) : amD amGst D 239 [vR 12 12 0, vI k, vI sure] M = some (vI (-1), M) := by
  obtain ⟨d, rfl⟩ := dS hD
  rw [n_X12_who, q_X12_who_0, hk.2.1, r_inN (by omega) h, amCI_s, if_pos (show (0 : Int) = 0 from rfl)]
theorem r_who (hD : 9 ≤ D) (hτ : tOk τ) (hT : rTx v τ M) (hk : rTo K S T M) (hS : toOk τ K S) (h : k ≤ K) {sure : Int} : ∃ M', amD amGst D 239 [vR 12 12 0, vI (k : Int), vI sure] M = some (vI ((whoS τ S T k sure : Nat) : Int), M') ∧ amSame fRv M M' := by
  obtain ⟨d, rfl⟩ := dS hD
  obtain ⟨M1, a1, a2, a3⟩ := r_fills (D := d) (by omega) hτ hT hk hS h
  refine ⟨M1, ?_, a2⟩
  have hl := lsF_len (F := fitS τ S T k) (2 ^ tP τ)
  have h8 := pw8 hτ
  have lp := fun b (hb : b < 256) => r_whoLoop (d := d) (kk := (k : Int)) (sure := sure) (lsF_256 hτ (Nat.le_refl _)) (by omega) a3 _ 0 0 b (Nat.zero_add _) (fun j => by rw [Nat.zero_add]) (by omega) hb
  have e69 := a3.1
  rw [n_X12_who, q_X12_who_0, hk.2.1, r_inY (by omega) (by omega), amCI_s, if_neg (show ¬ (1 : Int) = 0 by decide), a1, amCV_s, e69]
  have l0 := lp 0 (by omega)
  have l255 := lp 255 (by omega)
  unfold whoS
  by_cases h0 : (lsF (fitS τ S T k) (2 ^ tP τ)).length = 0
  · have en : lsF (fitS τ S T k) (2 ^ tP τ) = [] := List.eq_nil_of_length_eq_zero h0
    rw [if_pos (by omega)]
    refine l0.trans ?_
    rw [en]
    by_cases hs : sure = 0
    · rw [if_pos hs, if_pos hs]
    · rw [if_neg hs, if_neg hs]; rfl
  · rw [if_neg (by omega)]
    refine l255.trans ?_
    by_cases hs : sure = 0
    · rw [if_pos hs, if_pos hs]
    · rw [if_neg hs, if_neg hs, if_neg h0]
theorem c_fitsN (hD : 2 ≤ D) (hk : cTo K S T M) {k : Int} (h : ¬ (0 ≤ k ∧ k ≤ (K : Int))) : amD amGst D 130 [vR 11 11 0, vI k] M = some (vI (-1), M) := by
  obtain ⟨d, rfl⟩ := dS hD
  rw [n_X11_fits, q_X11_fits_0, c_knowsN (by omega) hk h, amCI_s, if_pos (show (0 : Int) = 0 from rfl)]
theorem c_walkersN (hD : 2 ≤ D) (hk : cTo K S T M) {k i : Int} (h : ¬ (0 ≤ k ∧ k ≤ (K : Int))) : amD amGst D 131 [vR 11 11 0, vI k, vI i] M = some (vI (-1), M) := by
  obtain ⟨d, rfl⟩ := dS hD
  rw [n_X11_walkers, q_X11_walkers_0, c_knowsN (by omega) hk h, amCI_s, if_pos (show (0 : Int) = 0 from rfl)]
theorem c_whoN (hD : 2 ≤ D) (hk : cTo K S T M) {k sure : Int} (h : ¬ (0 ≤ k ∧ k ≤ (K : Int))) : amD amGst D 132 [vR 11 11 0, vI k, vI sure] M = some (vI (-1), M) := by
  obtain ⟨d, rfl⟩ := dS hD
  rw [n_X11_who, q_X11_who_0, c_knowsN (by omega) hk h, amCI_s, if_pos (show (0 : Int) = 0 from rfl)]
end TLR
