/-! PURE: the reference's orders -/
/-- what orders change in the reference -/
def fRd : Nat → Nat → Nat → Bool := fun c s j => fRo c s j || c == 162 || c == 163 || (c == 12 && (j == 55 || j == 58 || j == 59))
theorem fRo_fRd : ∀ c s j, fRo c s j = true → fRd c s j = true := fun c s j h => by unfold fRd; rw [h]; rfl
theorem sRx_fRd : ∀ c j, sRx c j = true → ∀ s, fRd c s j = false := fun c j h s => by
  unfold fRd
  rw [sRx_fRo c j h s]
  unfold sRx sLw at h
  simp only [Bool.or_eq_true, Bool.and_eq_true, beq_iff_eq] at h
  rcases h with h | h
  · have hc : c ≠ 162 ∧ c ≠ 163 ∧ c ≠ 12 := by omega
    rw [beq_false_of_ne hc.1, beq_false_of_ne hc.2.1, beq_false_of_ne hc.2.2]; rfl
  · rw [h.1, h.2]; rfl
section RD
variable {D d v : Nat} {τ : Tx} {ρ : Rw} {M : AmM} {N n : Nat}
theorem rTx.rd {M' : AmM} (h : rTx v τ M) (hs : amSame fRd M M') : rTx v τ M' := h.mv fun c j hc => hs _ _ _ (sRx_fRd c j hc 0)
theorem rNow.rd {M' : AmM} (h : rNow ρ M) (hs : amSame fRd M M') : rNow ρ M' := h.mv fun j => hs 159 0 j (by rfl)
/-- the pilgrims of a set, in their order -/
theorem r_fillOLoop (hd : 1 ≤ d) (hτ : tOk τ) {s : Nat} (hs : s < 256) : ∀ (m i : Nat) (l : List Nat) (M : AmM), i + m = tP τ → l.length ≤ i → rTx v τ M → M 12 0 55 = (l.length : Int) → (∀ j x : Nat, l[j]? = some x → M 162 0 j = (x : Int)) → ∃ M', e_X12_fillsOrder_7 d (s : Int) (i : Int) M = some (vU, M') ∧ amSame fRd M M' ∧ M' 12 0 55 = ((l ++ bitF s m i).length : Int) ∧ (∀ j x : Nat, (l ++ bitF s m i)[j]? = some x → M' 162 0 j = (x : Int))
  | 0, i, l, M, h, hl, hT, h55, hx => by
    have h : i = tP τ := h
    have e : l ++ bitF s 0 i = l := List.append_nil l
    rw [e]
    exact ⟨M, by rw [q_X12_fillsOrder_7, r_many (by omega) hT, amCI_s, if_neg (by omega)], amSame.refl, h55, hx⟩
  | m + 1, i, l, M, h, hl, hT, h55, hx => by
    have hP := hτ.2.2.2.2.2.2.1
    rw [q_X12_fillsOrder_7, r_many (by omega) hT, amCI_s, if_pos (by omega), bBit s hs i (by omega)]
    by_cases hb : s.testBit i = true
    · have e : bitF s (m + 1) i = i :: bitF s m (i + 1) := if_pos hb
      have hT1 : (if s.testBit i = true then (1 : Int) else 0) = 1 := if_pos hb
      have e2 : l ++ bitF s (m + 1) i = (l ++ [i]) ++ bitF s m (i + 1) := by rw [e, List.append_assoc]; rfl
      have el : (l ++ [i]).length = l.length + 1 := by rw [List.length_append]; rfl
      rw [hT1, if_neg (show ¬ (1 : Int) = 0 by decide), h55, tn_cast, up_c (show 12 ≠ 162 by decide), h55, if_pos (by omega), w32_n (x := (l.length : Int) + 1) (n := l.length + 1) (by omega) (by omega), q_X12_fillsOrder_46, w32_n (x := (i : Int) + 1) (n := i + 1) (by omega) (by omega), e2]
      have s1 : amSame fRd M (amUp (amUp M 162 0 l.length (i : Int)) 12 0 55 ((l.length + 1 : Nat) : Int)) := (amSame.refl.up (by rfl)).up (by rfl)
      obtain ⟨M', a1, a2, a3⟩ := r_fillOLoop hd hτ hs m (i + 1) (l ++ [i]) _ (by omega) (by omega) (hT.rd s1) (by rw [up_on, el]) fun j x hj => by
        rw [up_c (by decide), up_at]
        by_cases ej : j = l.length
        · rw [ej, List.getElem?_append_right (Nat.le_refl _), Nat.sub_self] at hj
          have hj : some i = some x := hj
          cases hj
          rw [if_pos ej]
        · rw [if_neg ej]
          by_cases hlt : j < l.length
          · rw [List.getElem?_append_left hlt] at hj
            exact hx j x hj
          · rw [List.getElem?_eq_none (by omega)] at hj
            cases hj
      exact ⟨M', a1, s1.trans a2, a3⟩
    · have e : bitF s (m + 1) i = bitF s m (i + 1) := if_neg hb
      have hT1 : (if s.testBit i = true then (1 : Int) else 0) = 0 := if_neg hb
      rw [hT1, if_pos (show (0 : Int) = 0 from rfl), q_X12_fillsOrder_46, w32_n (x := (i : Int) + 1) (n := i + 1) (by omega) (by omega), e]
      exact r_fillOLoop hd hτ hs m (i + 1) l M (by omega) (by omega) hT h55 hx
theorem r_fillsOrder (hD : 2 ≤ D) (hτ : tOk τ) {s : Nat} (hs : s < 256) (hhi : ∀ q, tP τ ≤ q → s.testBit q = false) (hT : rTx v τ M) : ∃ M', amD amGst D 209 [vR 12 12 0, vI (s : Int)] M = some (vU, M') ∧ amSame fRd M M' ∧ M' 12 0 55 = ((cntB s : Nat) : Int) ∧ (∀ j x : Nat, (bitF s 8 0)[j]? = some x → M' 162 0 j = (x : Int)) := by
  obtain ⟨d, rfl⟩ := dS hD
  have hP := hτ.2.2.2.2.2.2.1
  have e : bitF s 8 0 = bitF s (tP τ) 0 := by
    have := bitF_cut (x := s) (8 - tP τ) (tP τ) 0 fun q hq => hhi q (by omega)
    rw [show tP τ + (8 - tP τ) = 8 by omega] at this
    exact this
  have s0 : amSame fRd M (amUp M 12 0 55 0) := amSame.refl.up (by rfl)
  obtain ⟨M', a1, a2, a3, a4⟩ := r_fillOLoop (d := d) (by omega) hτ hs (tP τ) 0 [] (amUp M 12 0 55 0) (by omega) (Nat.le_refl 0) (hT.rd s0) up_on fun j x h => by cases h
  rw [List.nil_append] at a3 a4
  rw [← e] at a3 a4
  rw [bitF_len] at a3
  refine ⟨M', ?_, s0.trans a2, a3, a4⟩
  rw [n_X12_fillsOrder, q_X12_fillsOrder_0]
  exact a1
/-- an order's own rows -/
def ordH (τ : Tx) (o : List Nat) (ρ : Rw) : Prop := rOk τ ρ ∧ 0 ≤ ρ 83 ∧ s66 τ ρ ∧ (∀ p ∈ o, p < tP τ ∧ ρ (74 + p) = 0) ∧ nodL o = true
theorem ordH.go {p : Nat} {o : List Nat} (hτ : tOk τ) (h : ordH τ (p :: o) ρ) : ordH τ o (goS τ ρ p) := by
  have hP := hτ.2.2.2.2.2.2.1
  have hn := hτ.1
  obtain ⟨h1, h2, h3, h4, h5⟩ := h
  have hp := (h4 p (List.mem_cons_self ..)).1
  have hok := comesS_ok (τ := τ) (vow := tV τ p) (day := ρ 83) (x := (ρ, 0, -1)) (tkWV hτ hp).1 hτ.1 h1
  obtain ⟨h6, h7⟩ := nodL_cons h5
  refine ⟨fun j a b => ?_, ?_, h3.go hτ hp, fun q hq => ?_, h7⟩
  · have e : goS τ ρ p j = (goR τ ρ p).2.2.1 j := setS_lt (by omega)
    rw [e]; exact hok.1 j a b
  · rw [goS_83 (by omega)]; exact h2
  · have hq2 := h4 q (List.mem_cons_of_mem _ hq)
    refine ⟨hq2.1, ?_⟩
    unfold goS
    rw [setS_74 (by omega) (by omega), if_neg (fun e => h6 q hq e.symm)]
    exact hq2.2
theorem r_runLoop (hd : 6 ≤ d) (hτ : tOk τ) (hn7 : n ≤ 8) {s more : Int} : ∀ (o : List Nat) (k : Nat) (c t : Int) (ρ : Rw) (u6 : AmV) (M : AmM), k + o.length = n → ((0 ≤ c ∧ c ≤ k) ∧ 0 ≤ t ∧ t ≤ k) → M 12 0 55 = (n : Int) → (∀ j x : Nat, o[j]? = some x → M 162 0 (k + j) = (x : Int)) → ordH τ o ρ → rTx v τ M → rRow ρ M → ∃ (M' : AmM) (u : AmV), e_X12_orders_28 d s more c t (k : Int) u6 M = e_X12_orders_28 d s more (runL τ o ρ c t).1 (runL τ o ρ c t).2 (n : Int) u M' ∧ amSame fRo M M'
  | [], k, c, t, ρ, u6, M, h, hc, h55, hx, hH, hT, hR => by
    have h : k = n := h
    exact ⟨M, u6, by rw [h]; rfl, amSame.refl⟩
  | p :: o, k, c, t, ρ, u6, M, h, hc, h55, hx, hH, hT, hR => by
    have h : k + (o.length + 1) = n := h
    have hp := hH.2.2.2.1 p (List.mem_cons_self ..)
    have ep := hx 0 p rfl
    obtain ⟨M1, a1, a2, a3⟩ := r_sends (D := d) (by omega) hτ hT hR hH.1 hH.2.1 hp.1 hp.2 (hH.2.2.1 p hp.1)
    have i0 := in0_b (goR τ ρ p).1
    have i2 := in2_b (goR τ ρ p).1
    obtain ⟨M2, u, b1, b2⟩ := r_runLoop hd hτ hn7 (s := s) (more := more) o (k + 1) (c + in0 (goR τ ρ p).1) (t + in2 (goR τ ρ p).1) (goS τ ρ p) (vI ((goR τ ρ p).1 : Nat)) M1 (by omega) (by omega) ((a2 12 0 55 (by rfl)).trans h55) (fun j x hj => by
      rw [a2 162 0 _ (by rfl), show k + 1 + j = k + (j + 1) by omega]
      exact hx (j + 1) x hj) (hH.go hτ) (hT.ro a2) a3
    refine ⟨M2, u, ?_, a2.trans b2⟩
    have er : runL τ (p :: o) ρ c t = runL τ o (goS τ ρ p) (c + in0 (goR τ ρ p).1) (t + in2 (goR τ ρ p).1) := rfl
    rw [er, ← b1, q_X12_orders_28, h55, if_pos (show (k : Int) < (n : Int) by omega), if_pos (show (0 : Int) ≤ (k : Int) ∧ (k : Int) < 8 by omega), tn_cast, show M 162 0 k = (p : Int) from ep, a1, amCI_s, w32_n (x := (k : Int) + 1) (n := k + 1) (by omega) (by omega)]
    unfold in0 in2
    by_cases h0 : (goR τ ρ p).1 = 0
    · rw [if_pos (show (((goR τ ρ p).1 : Nat) : Int) = 0 by omega), if_neg (show ¬ (((goR τ ρ p).1 : Nat) : Int) = 2 by omega), if_pos h0, if_neg (show ¬ (goR τ ρ p).1 = 2 by omega), w32_id (x := c + 1) (by omega) (by omega), show t + 0 = t by omega]
    · rw [if_neg (show ¬ (((goR τ ρ p).1 : Nat) : Int) = 0 by omega), if_neg h0]
      by_cases h2 : (goR τ ρ p).1 = 2
      · rw [if_pos (show (((goR τ ρ p).1 : Nat) : Int) = 2 by omega), if_pos h2, w32_id (x := t + 1) (by omega) (by omega), show c + 0 = c by omega]
      · rw [if_neg (show ¬ (((goR τ ρ p).1 : Nat) : Int) = 2 by omega), if_neg h2, show t + 0 = t by omega, show c + 0 = c by omega]
/-- the best, in the reference -/
def rBs (z : Bs) (M : AmM) : Prop := M 12 0 58 = z.1 ∧ M 12 0 59 = z.2.1 ∧ ∀ j x : Nat, z.2.2[j]? = some x → M 163 0 j = (x : Int)
theorem r_bestLoop (hn7 : n ≤ 8) {s more c t : Int} {u6 : AmV} : ∀ (m k : Nat) (M : AmM), k + m = n → M 12 0 55 = (n : Int) → ∃ M', e_X12_orders_112 d s more c t (k : Int) u6 M = (amCI (amD amGst d 210 [vR 12 12 0] M') fun v1 M1 => e_X12_orders_12 d s v1 (vI c) (vI t) (vI (n : Int)) u6 M1) ∧ amSame (fun c _ _ => c == 163) M M' ∧ (∀ j, k ≤ j → j < n → M' 163 0 j = M 162 0 j) ∧ ∀ j, j < k → M' 163 0 j = M 163 0 j
  | 0, k, M, h, h55 => by
    have h : k = n := h
    exact ⟨M, by rw [q_X12_orders_112, h55, if_neg (by omega), h], amSame.refl, fun j a b => by omega, fun j _ => rfl⟩
  | m + 1, k, M, h, h55 => by
    obtain ⟨M', a1, a2, a3, a4⟩ := r_bestLoop hn7 (s := s) (more := more) (c := c) (t := t) (u6 := u6) m (k + 1) (amUp M 163 0 k (M 162 0 k)) (by omega) ((up_c (by decide)).trans h55)
    refine ⟨M', ?_, (amSame.refl.up (by rfl)).trans a2, fun j a b => ?_, fun j a => ?_⟩
    · rw [q_X12_orders_112, h55, if_pos (show (k : Int) < (n : Int) by omega), if_pos (show (0 : Int) ≤ (k : Int) ∧ (k : Int) < 8 by omega), if_pos (show (0 : Int) ≤ (k : Int) ∧ (k : Int) < 8 by omega), tn_cast, w32_n (x := (k : Int) + 1) (n := k + 1) (by omega) (by omega)]
      exact a1
    · by_cases ej : j = k
      · subst ej
        rw [a4 j (by omega), up_on]
      · rw [a3 j (by omega) b, up_c (by decide)]
    · rw [a4 j (by omega), up_j (by omega)]
/-! the next order -/
theorem r_revLoop (hn7 : n ≤ 8) {a : Nat → Nat} {l1 l2 : Int} : ∀ (k x y : Nat) (g : Nat → Nat) (l3 : Int) (M : AmM), y < n → y ≤ x + 2 * k → (∀ j, j < n → M 162 0 j = ((a (g j) : Nat) : Int)) → ∃ M', e_X12_nextOrder_107 d l1 l2 l3 (x : Int) (y : Int) M = some (vI 1, M') ∧ amSame (fun c _ _ => c == 162) M M' ∧ ∀ j, j < n → M' 162 0 j = ((a (rvG k x y g j) : Nat) : Int)
  | 0, x, y, g, l3, M, hy, hk, hg => by
    exact ⟨M, by rw [q_X12_nextOrder_107, if_neg (by omega)], amSame.refl, hg⟩
  | k + 1, x, y, g, l3, M, hy, hk, hg => by
    unfold rvG
    by_cases h : x < y
    · obtain ⟨M', a1, a2, a3⟩ := r_revLoop hn7 (a := a) (l1 := l1) (l2 := l2) k (x + 1) (y - 1) (swpG g x y) ((a (g x) : Nat) : Int) (amUp (amUp M 162 0 x ((a (g y) : Nat) : Int)) 162 0 y ((a (g x) : Nat) : Int)) (by omega) (by omega) fun j hj => by
        rw [up_at, up_at]
        unfold swpG
        by_cases e1 : j = y
        · rw [if_pos e1, if_pos e1]
        · rw [if_neg e1, if_neg e1]
          by_cases e2 : j = x
          · rw [if_pos e2, if_pos e2]
          · rw [if_neg e2, if_neg e2]; exact hg j hj
      rw [if_pos h]
      refine ⟨M', ?_, ((amSame.refl.up (by rfl)).up (by rfl)).trans a2, a3⟩
      rw [q_X12_nextOrder_107, if_pos (by omega), if_pos (show (0 : Int) ≤ (x : Int) ∧ (x : Int) < 8 by omega), if_pos (show (0 : Int) ≤ (y : Int) ∧ (y : Int) < 8 by omega), if_pos (show (0 : Int) ≤ (x : Int) ∧ (x : Int) < 8 by omega), if_pos (show (0 : Int) ≤ (y : Int) ∧ (y : Int) < 8 by omega), tn_cast, tn_cast, hg x (by omega), hg y hy, q_X12_nextOrder_144, w32_n (x := (x : Int) + 1) (n := x + 1) (by omega) (by omega), w32_n (x := (y : Int) + (-1)) (n := y - 1) (by omega) (by omega)]
      exact a1
    · rw [if_neg h]
      exact ⟨M, by rw [q_X12_nextOrder_107, if_neg (by omega)], amSame.refl, hg⟩
theorem r_jLoop (hn7 : n ≤ 8) {a g : Nat → Nat} (hu : upL a n) (hgn : ∀ j, j < n → g j < n) (h55 : M 12 0 55 = (n : Int)) (hg : ∀ j, j < n → M 162 0 j = ((a (g j) : Nat) : Int)) {i : Nat} (hi : i + 1 < n) (hii : ¬ g (i + 1) < g i) : ∀ m : Nat, i + 1 + m < n → ∃ M', e_X12_nextOrder_47 d (i : Int) ((i + 1 + m : Nat) : Int) M = some (vI 1, M') ∧ amSame (fun c _ _ => c == 162) M M' ∧ ∀ j, j < n → M' 162 0 j = ((a (rvG 8 (i + 1) (n - 1) (swpG g i (nxJ g (g i) (i + 1 + m))) j) : Nat) : Int)
  | m, hm => by
    have hstop : ∀ j : Nat, i < j → j < n → ¬ g j < g i → ∃ M', e_X12_nextOrder_47 d (i : Int) (j : Int) M = some (vI 1, M') ∧ amSame (fun c _ _ => c == 162) M M' ∧ ∀ k, k < n → M' 162 0 k = ((a (rvG 8 (i + 1) (n - 1) (swpG g i j) k) : Nat) : Int) := fun j h1 h2 h3 => by
      obtain ⟨M', a1, a2, a3⟩ := r_revLoop (d := d) hn7 (a := a) (l1 := (i : Int)) (l2 := (j : Int)) 8 (i + 1) (n - 1) (swpG g i j) ((a (g i) : Nat) : Int) (amUp (amUp M 162 0 i ((a (g j) : Nat) : Int)) 162 0 j ((a (g i) : Nat) : Int)) (by omega) (by omega) fun k hk => by
        rw [up_at, up_at]
        unfold swpG
        by_cases e1 : k = j
        · rw [if_pos e1, if_pos e1]
        · rw [if_neg e1, if_neg e1]
          by_cases e2 : k = i
          · rw [if_pos e2, if_pos e2]
          · rw [if_neg e2, if_neg e2]; exact hg k hk
      refine ⟨M', ?_, ((amSame.refl.up (by rfl)).up (by rfl)).trans a2, a3⟩
      have hlt : ¬ ((a (g j) : Nat) : Int) < ((a (g i) : Nat) : Int) := fun q => h3 ((upL_lt hu (hgn j h2) (hgn i (by omega))).1 (by omega))
      rw [q_X12_nextOrder_47, if_pos (show (0 : Int) ≤ (j : Int) ∧ (j : Int) < 8 by omega), if_pos (show (0 : Int) ≤ (i : Int) ∧ (i : Int) < 8 by omega), tn_cast, tn_cast, hg j h2, hg i (by omega), if_neg hlt, if_pos (show (0 : Int) ≤ (i : Int) ∧ (i : Int) < 8 by omega), if_pos (show (0 : Int) ≤ (j : Int) ∧ (j : Int) < 8 by omega), if_pos (show (0 : Int) ≤ (i : Int) ∧ (i : Int) < 8 by omega), if_pos (show (0 : Int) ≤ (j : Int) ∧ (j : Int) < 8 by omega), q_X12_nextOrder_94, w32_n (x := (i : Int) + 1) (n := i + 1) (by omega) (by omega), up_c (show 12 ≠ 162 by decide), up_c (show 12 ≠ 162 by decide), h55, w32_n (x := (n : Int) - 1) (n := n - 1) (by omega) (by omega)]
      exact a1
    by_cases hlt : g (i + 1 + m) < g i
    · cases m with
      | zero => exact absurd hlt hii
      | succ m =>
        have ej : nxJ g (g i) (i + 1 + (m + 1)) = nxJ g (g i) (i + 1 + m) := if_pos hlt
        obtain ⟨M', a1, a2, a3⟩ := r_jLoop hn7 hu hgn h55 hg hi hii m (by omega)
        rw [ej]
        refine ⟨M', ?_, a2, a3⟩
        have hlt2 : ((a (g (i + 1 + (m + 1))) : Nat) : Int) < ((a (g i) : Nat) : Int) := by
          have := (upL_lt hu (hgn _ hm) (hgn i (by omega))).2 hlt
          omega
        rw [q_X12_nextOrder_47, if_pos (show (0 : Int) ≤ ((i + 1 + (m + 1) : Nat) : Int) ∧ ((i + 1 + (m + 1) : Nat) : Int) < 8 by omega), if_pos (show (0 : Int) ≤ (i : Int) ∧ (i : Int) < 8 by omega), tn_cast, tn_cast, hg _ hm, hg i (by omega), if_pos hlt2, w32_n (x := ((i + 1 + (m + 1) : Nat) : Int) + (-1)) (n := i + 1 + m) (by omega) (by omega)]
        exact a1
    · have ej : nxJ g (g i) (i + 1 + m) = i + 1 + m := by
        rw [show i + 1 + m = i + m + 1 by omega]
        show (if g (i + m + 1) < g i then _ else _) = _
        rw [if_neg (by rw [show i + m + 1 = i + 1 + m by omega]; exact hlt)]
      rw [ej]
      exact hstop _ (by omega) hm hlt
theorem nxI_of {g : Nat → Nat} : ∀ (k i : Nat), nxI g k = some i → i < k ∧ ¬ g (i + 1) < g i
  | 0, i, h => by cases h
  | k + 1, i, h => by
    unfold nxI at h
    split at h
    · have := nxI_of k i h
      exact ⟨by omega, this.2⟩
    · rename_i hq
      cases h
      exact ⟨by omega, hq⟩
theorem r_iLoop (hn7 : n ≤ 8) {a g : Nat → Nat} (hu : upL a n) (hgn : ∀ j, j < n → g j < n) (h55 : M 12 0 55 = (n : Int)) (hg : ∀ j, j < n → M 162 0 j = ((a (g j) : Nat) : Int)) : ∀ k : Nat, k < n → match nxI g k with
    | none => e_X12_nextOrder_7 d ((k : Int) - 1) M = some (vI 0, M)
    | some i => ∃ M', e_X12_nextOrder_7 d ((k : Int) - 1) M = some (vI 1, M') ∧ amSame (fun c _ _ => c == 162) M M' ∧ ∀ j, j < n → M' 162 0 j = ((a (rvG 8 (i + 1) (n - 1) (swpG g i (nxJ g (g i) (n - 1))) j) : Nat) : Int)
  | 0, hk => by
    show e_X12_nextOrder_7 d (((0 : Nat) : Int) - 1) M = some (vI 0, M)
    rw [q_X12_nextOrder_7, if_pos (show ((0 : Nat) : Int) - 1 < 0 by omega), if_pos (show ((0 : Nat) : Int) - 1 < 0 by omega)]
  | k + 1, hk => by
    have ih := r_iLoop hn7 hu hgn h55 hg k (by omega)
    have e0 : ((k + 1 : Nat) : Int) - 1 = (k : Int) := by omega
    have hq : e_X12_nextOrder_7 d (k : Int) M = if g (k + 1) < g k then e_X12_nextOrder_7 d ((k : Int) - 1) M else e_X12_nextOrder_47 d (k : Int) ((n - 1 : Nat) : Int) M := by
      rw [q_X12_nextOrder_7, if_neg (show ¬ (k : Int) < 0 by omega), if_pos (show (0 : Int) ≤ (k : Int) ∧ (k : Int) < 8 by omega), w32_n (x := (k : Int) + 1) (n := k + 1) (by omega) (by omega), if_pos (show (0 : Int) ≤ ((k + 1 : Nat) : Int) ∧ ((k + 1 : Nat) : Int) < 8 by omega), tn_cast, tn_cast, hg k (by omega), hg (k + 1) hk, w32_id (x := (k : Int) + (-1)) (by omega) (by omega), h55, w32_n (x := (n : Int) - 1) (n := n - 1) (by omega) (by omega), if_neg (show ¬ (k : Int) < 0 by omega)]
      by_cases h : g (k + 1) < g k
      · rw [if_pos h, if_pos (by have := (upL_lt hu (hgn _ hk) (hgn k (by omega))).2 h; omega)]
        rfl
      · rw [if_neg h, if_neg (fun q => h ((upL_lt hu (hgn _ hk) (hgn k (by omega))).1 (by omega)))]
    rw [e0, hq]
    unfold nxI
    by_cases h : g (k + 1) < g k
    · rw [if_pos h, if_pos h]
      exact ih
    · rw [if_neg h, if_neg h]
      have := r_jLoop (d := d) hn7 hu hgn h55 hg hk h (n - 2 - k) (by omega)
      rw [show k + 1 + (n - 2 - k) = n - 1 by omega] at this
      exact this
end RD
