/-! PURE: the class's search for the best order -/
def fSe (dep : Nat) : Nat → Nat → Nat → Bool := fun c s j => c == 10 || c == 125 || (c == 102 && s == 0) || ((c == 112 || c == 113 || c == 6) && (Nat.ble (46 + dep) s && Nat.ble s 52)) || (c == 105 && Nat.ble dep j) || c == 106 || (c == 3 && (j == 7 || j == 8))
theorem ble_t {a b : Nat} (h : a ≤ b) : Nat.ble a b = true := Nat.ble_eq_true_of_le h
theorem fSe_up {dep : Nat} : ∀ c s j, fSe (dep + 1) c s j = true → fSe dep c s j = true := fun c s j h => by
  unfold fSe at h ⊢
  simp only [Bool.or_eq_true, Bool.and_eq_true, beq_iff_eq, Nat.ble_eq] at h ⊢
  omega
theorem fTh_fSe {dep : Nat} (hd : dep ≤ 6) : ∀ c s j, fTh (46 + dep) c s j = true → fSe dep c s j = true := fun c s j h => by
  unfold fTh at h
  unfold fSe
  simp only [Bool.or_eq_true, Bool.and_eq_true, beq_iff_eq, Nat.ble_eq] at h ⊢
  omega
theorem fSt_fSe {dep : Nat} (hd : dep ≤ 6) : ∀ c s j, fSt (46 + dep) c s j = true → fSe dep c s j = true := fun c s j h => by
  unfold fSt at h
  unfold fSe
  simp only [Bool.or_eq_true, Bool.and_eq_true, beq_iff_eq, Nat.ble_eq] at h ⊢
  omega
theorem sTx_fSe {dep : Nat} : ∀ c s j, sTx 0 c s j = true → fSe dep c s j = false := fun c s j hc => by
  unfold sTx at hc
  simp only [Bool.and_eq_true, Bool.or_eq_true, beq_iff_eq] at hc
  obtain ⟨rfl, hc⟩ := hc
  rcases hc with ((((((rfl | rfl) | rfl) | rfl) | rfl) | rfl) | rfl) <;> rfl
/-- the best so far, and the path -/
def cBs (z : Bs) (M : AmM) : Prop := M 3 0 7 = z.1 ∧ M 3 0 8 = z.2.1 ∧ ∀ (j x : Nat), z.2.2[j]? = some x → M 106 0 j = (x : Int)
def cPh (P : List Nat) (M : AmM) : Prop := ∀ (j x : Nat), P[j]? = some x → M 105 0 j = (x : Int)
theorem cBs.mv {z : Bs} {M M' : AmM} (h : cBs z M) (h3 : ∀ j, (j = 7 ∨ j = 8) → M' 3 0 j = M 3 0 j) (h6 : ∀ j, M' 106 0 j = M 106 0 j) : cBs z M' := ⟨(h3 7 (Or.inl rfl)).trans h.1, (h3 8 (Or.inr rfl)).trans h.2.1, fun j x hx => (h6 j).trans (h.2.2 j x hx)⟩
section SRC
variable {D d v : Nat} {τ : Tx} {ρ : Rw} {M : AmM} {N n : Nat}
/-- what a search is called with -/
def schH (τ : Tx) (n x dep : Nat) (P : List Nat) (c s : Int) (ρ : Rw) (z : Bs) (M : AmM) : Prop :=
  (x < 256 ∧ ∀ q, tP τ ≤ q → x.testBit q = false) ∧ (bitF x 8 0).length = n ∧ dep + n ≤ 7 ∧ P.length = dep ∧ ((0 ≤ c ∧ c ≤ dep) ∧ 0 ≤ s ∧ s ≤ dep) ∧ M 3 0 5 = ((dep + n : Nat) : Int) ∧ M 3 0 6 = ρ 83 ∧ 0 ≤ ρ 83 ∧ rOk τ ρ ∧ cTx 0 τ M ∧ cSt (tN τ) (45 + dep) ρ M ∧ cBs z M ∧ cPh P M
def schC (τ : Tx) (D n : Nat) : Prop := ∀ (x dep : Nat) (P : List Nat) (c s : Int) (ρ : Rw) (z : Bs) (M : AmM), schH τ n x dep P c s ρ z M → ∃ M', amD amGst D 27 [vR 3 3 0, vI dep, vI x, vI c, vI s] M = some (vU, M') ∧ amSame (fSe dep) M M' ∧ cBs (dfsS τ n (bitF x 8 0) P c s ρ z) M'
theorem c_schChild (hd : 5 ≤ d) (hτ : tOk τ) (hC : schC τ d n) {x dep i : Nat} {P : List Nat} {c s l5 : Int} {u7 : AmV} {ρ : Rw} {z : Bs} {M : AmM} (hi : i < 8) (hb : x.testBit i = true) (hH : schH τ (n + 1) x dep P c s ρ z M) : ∃ (M' : AmM) (u : AmV), e_X3_search_117 d (dep : Int) (x : Int) c s l5 (i : Int) u7 M = e_X3_search_117 d (dep : Int) (x : Int) c s l5 ((i + 1 : Nat) : Int) u M' ∧ amSame (fSe dep) M M' ∧ cBs (dfsS τ n (bitF (clrN x i) 8 0) (P ++ [i]) (c + in0 (goR τ ρ i).1) (s + in2 (goR τ ρ i).1) (goS τ ρ i) z) M' := by
  obtain ⟨⟨hx, hhi⟩, hlen, hdn, hP, ⟨hc, hs⟩, h5, h6, h83, hr, hT, hS, hB, hPh⟩ := hH
  have hP8 := hτ.2.2.2.2.2.2.1
  have hip : i < tP τ := by
    by_cases hip : i < tP τ
    · exact hip
    · rw [hhi i (by omega)] at hb; cases hb
  obtain ⟨M1, a1, a2, a3⟩ := c_stCopy (D := d) (r := 46 + dep) (by omega) hτ.1 hS (by omega)
  have s1 : amSame (fSe dep) M M1 := a3.mono (fSt_fSe (by omega))
  have hT1 : cTx 0 τ M1 := hT.mv fun c s j hc => s1 _ _ _ (sTx_fSe c s j hc)
  obtain ⟨M2, t1, t2, t3, t4⟩ := c_through (D := d) (r := 46 + dep) (day := ρ 83) (by omega) hτ hT1 h83 hip a2 hr
  have e : comesS τ (tV τ i) (tW τ i) (ρ 83) (ρ, 0, -1) = goR τ ρ i := rfl
  rw [e] at t1 t3
  have s2 : amSame (fSe dep) M1 M2 := t2.mono (fTh_fSe (by omega))
  have s3 : amSame (fSe dep) M2 (amUp M2 105 0 dep (i : Int)) := amSame.refl.up (by
    unfold fSe
    rw [ble_t (Nat.le_refl dep)]
    simp)
  have s13 := (s1.trans s2).trans s3
  have hT3 : cTx 0 τ (amUp M2 105 0 dep (i : Int)) := hT.mv fun c s j hc => s13 _ _ _ (sTx_fSe c s j hc)
  have hin0 := in0_b (goR τ ρ i).1
  have hin2 := in2_b (goR τ ρ i).1
  have hclen := clr_len x hx i hi hb
  have hok := comesS_ok (τ := τ) (vow := tV τ i) (day := ρ 83) (x := (ρ, 0, -1)) (tkWV hτ hip).1 hτ.1 hr
  have hH3 : schH τ n (clrN x i) (dep + 1) (P ++ [i]) (c + in0 (goR τ ρ i).1) (s + in2 (goR τ ρ i).1) (goS τ ρ i) z (amUp M2 105 0 dep (i : Int)) := by
    refine ⟨⟨clrN_lt hx, fun q hq => ?_⟩, by omega, by omega, by rw [List.length_append, hP]; rfl, ⟨⟨by omega, by omega⟩, by omega, by omega⟩, ?_, ?_, ?_, ?_, hT3, ?_, ?_, ?_⟩
    · by_cases hq8 : q < 8
      · rw [clrN_bit hq8, hhi q hq]; rfl
      · have h4 : (2 : Nat) ^ 8 ≤ 2 ^ q := Nat.pow_le_pow_right (by omega) (by omega)
        have h5 : (2 : Nat) ^ 8 = 256 := rfl
        have h6 := clrN_lt (p := i) hx
        exact Nat.testBit_lt_two_pow (by omega)
    · rw [s13 3 0 5 (by rfl), h5, show dep + (n + 1) = dep + 1 + n by omega]
    · rw [s13 3 0 6 (by rfl), h6, goS_83 hi]
    · rw [goS_83 hi]; exact h83
    · intro j h1 h2
      have hn := hτ.1
      have e : goS τ ρ i j = (goR τ ρ i).2.2.1 j := setS_lt (by omega)
      rw [e]; exact hok.1 j h1 h2
    · rw [show 45 + (dep + 1) = 46 + dep by omega]
      exact (t3.1.row hτ.1 fun j _ hj => setS_lt hj).up (by decide)
    · refine hB.mv (fun j hj => ?_) (fun j => ?_)
      · have e1 : M1 3 0 j = M 3 0 j := a3 3 0 j (by unfold fSt; simp)
        have e2 : M2 3 0 j = M1 3 0 j := t2 3 0 j (by unfold fTh; simp)
        rw [up_c (by decide), e2, e1]
      · have e1 : M1 106 0 j = M 106 0 j := a3 106 0 j (by unfold fSt; simp)
        have e2 : M2 106 0 j = M1 106 0 j := t2 106 0 j (by unfold fTh; simp)
        rw [up_c (by decide), e2, e1]
    · intro j y hy
      rw [up_at]
      by_cases ej : j = dep
      · subst ej
        rw [List.getElem?_append_right (by omega), hP, Nat.sub_self] at hy
        have hy : some i = some y := hy
        cases hy
        rw [if_pos rfl]
      · rw [if_neg ej]
        have e1 : M1 105 0 j = M 105 0 j := a3 105 0 j (by unfold fSt; simp)
        have e2 : M2 105 0 j = M1 105 0 j := t2 105 0 j (by unfold fTh; simp)
        rw [e2, e1]
        by_cases hlt : j < dep
        · rw [List.getElem?_append_left (by omega)] at hy
          exact hPh j y hy
        · rw [List.getElem?_eq_none (by rw [List.length_append]; show _ + 1 ≤ j; omega)] at hy
          cases hy
  obtain ⟨M4, k1, k2, k3⟩ := hC _ _ _ _ _ _ _ _ hH3
  refine ⟨M4, vI ((goR τ ρ i).1 : Nat), ?_, s13.trans (k2.mono fSe_up), k3⟩
  have hT : (if x.testBit i = true then (1 : Int) else 0) = 1 := if_pos hb
  have e6 : M1 3 0 6 = ρ 83 := by rw [a3 3 0 6 (by unfold fSt; simp)]; exact h6
  have er1 : ((((dep + 1 : Nat) : Int)).toNat + 45) = 46 + dep := by rw [tn_cast]; omega
  have er0 : ((((dep : Nat) : Int)).toNat + 45) = 45 + dep := by rw [tn_cast]; omega
  rw [q_X3_search_117, if_pos (show (i : Int) < 8 by omega), c_has (by omega) (show (0 : Int) ≤ (x : Int) ∧ (x : Int) < 256 by omega) hi, amCI_s, tn_cast, hT, if_neg (show ¬ (1 : Int) = 0 by decide), w32_n (x := (dep : Int) + 1) (n := dep + 1) (by omega) (by omega), er1, er0, if_pos (show (0 : Int) ≤ ((dep + 1 : Nat) : Int) ∧ ((dep + 1 : Nat) : Int) < 8 by omega), if_pos (show (0 : Int) ≤ (dep : Int) ∧ (dep : Int) < 8 by omega), a1, amCV_s, if_pos (show (0 : Int) ≤ ((dep + 1 : Nat) : Int) ∧ ((dep + 1 : Nat) : Int) < 8 by omega), e6, t1, amCI_s, if_pos (show (0 : Int) ≤ (dep : Int) ∧ (dep : Int) < 7 by omega), tn_cast, bClr x hx i hi, w32_n (x := (i : Int) + 1) (n := i + 1) (by omega) (by omega)]
  unfold in0 in2 at k1
  by_cases h0 : (goR τ ρ i).1 = 0
  · rw [if_pos h0, if_neg (by omega)] at k1
    rw [if_pos (show (((goR τ ρ i).1 : Nat) : Int) = 0 by omega), if_neg (show ¬ (((goR τ ρ i).1 : Nat) : Int) = 2 by omega), w32_id (x := c + 1) (by omega) (by omega), w32_id (x := s + 0) (by omega) (by omega), k1, amCV_s]
  · rw [if_neg h0] at k1
    rw [if_neg (show ¬ (((goR τ ρ i).1 : Nat) : Int) = 0 by omega)]
    by_cases h2 : (goR τ ρ i).1 = 2
    · rw [if_pos h2] at k1
      rw [if_pos (show (((goR τ ρ i).1 : Nat) : Int) = 2 by omega), w32_id (x := c + 0) (by omega) (by omega), w32_id (x := s + 1) (by omega) (by omega), k1, amCV_s]
    · rw [if_neg h2] at k1
      rw [if_neg (show ¬ (((goR τ ρ i).1 : Nat) : Int) = 2 by omega), w32_id (x := c + 0) (by omega) (by omega), w32_id (x := s + 0) (by omega) (by omega), k1, amCV_s]
theorem schH.mv {x dep : Nat} {P : List Nat} {c s : Int} {z z' : Bs} {M' : AmM} (h : schH τ n x dep P c s ρ z M) (hs : amSame (fSe dep) M M') (hB : cBs z' M') : schH τ n x dep P c s ρ z' M' := by
  obtain ⟨hx, hlen, hdn, hP, hc, h5, h6, h83, hr, hT, hS, -, hPh⟩ := h
  refine ⟨hx, hlen, hdn, hP, hc, (hs 3 0 5 (by rfl)).trans h5, (hs 3 0 6 (by rfl)).trans h6, h83, hr, hT.mv fun c s j hc => hs _ _ _ (sTx_fSe c s j hc), hS.mv fun c j hc => hs _ _ _ ?_, hB, fun j y hy => ?_⟩
  · unfold fSe
    rw [show Nat.ble (46 + dep) (45 + dep) = false from ble_f (by omega)]
    rcases hc with rfl | rfl | rfl <;> simp
  · have hj : j < dep := by
      by_cases hj : j < dep
      · exact hj
      · rw [List.getElem?_eq_none (by omega)] at hy; cases hy
    rw [hs 105 0 j (by
      unfold fSe
      rw [show Nat.ble dep j = false from ble_f hj]
      rfl)]
    exact hPh j y hy
theorem c_schLoop (hd : 5 ≤ d) (hτ : tOk τ) (hC : schC τ d n) {x dep : Nat} {P : List Nat} {c s l5 : Int} : ∀ (m i : Nat) (u7 : AmV) (z : Bs) (M : AmM), i + m = 8 → schH τ (n + 1) x dep P c s ρ z M → ∃ M', e_X3_search_117 d (dep : Int) (x : Int) c s l5 (i : Int) u7 M = some (vU, M') ∧ amSame (fSe dep) M M' ∧ cBs ((bitF x m i).foldl (fun z i => dfsS τ n (bitF (clrN x i) 8 0) (P ++ [i]) (c + in0 (goR τ ρ i).1) (s + in2 (goR τ ρ i).1) (goS τ ρ i) z) z) M'
  | 0, i, u7, z, M, h, hH => by
    have h : i = 8 := h
    exact ⟨M, by rw [q_X3_search_117, if_neg (by omega)], amSame.refl, hH.2.2.2.2.2.2.2.2.2.2.2.1⟩
  | m + 1, i, u7, z, M, h, hH => by
    have hx := hH.1.1
    by_cases hb : x.testBit i = true
    · obtain ⟨M1, u, a1, a2, a3⟩ := c_schChild (l5 := l5) (u7 := u7) hd hτ hC (show i < 8 by omega) hb hH
      obtain ⟨M2, b1, b2, b3⟩ := c_schLoop hd hτ hC (l5 := l5) m (i + 1) u _ M1 (by omega) (hH.mv a2 a3)
      refine ⟨M2, a1.trans b1, a2.trans b2, ?_⟩
      have e : bitF x (m + 1) i = i :: bitF x m (i + 1) := if_pos hb
      rw [e, List.foldl_cons]
      exact b3
    · obtain ⟨M2, b1, b2, b3⟩ := c_schLoop hd hτ hC (l5 := l5) m (i + 1) u7 z M (by omega) hH
      have hT : (if x.testBit i = true then (1 : Int) else 0) = 0 := if_neg hb
      have e : bitF x (m + 1) i = bitF x m (i + 1) := if_neg hb
      rw [e]
      refine ⟨M2, ?_, b2, b3⟩
      rw [q_X3_search_117, if_pos (show (i : Int) < 8 by omega), c_has (by omega) (show (0 : Int) ≤ (x : Int) ∧ (x : Int) < 256 by omega) (show i < 8 by omega), amCI_s, tn_cast, hT, if_pos (show (0 : Int) = 0 from rfl), w32_n (x := (i : Int) + 1) (n := i + 1) (by omega) (by omega)]
      exact b1
theorem c_search (hτ : tOk τ) : ∀ (n D : Nat), n + 6 ≤ D → schC τ D n
  | n, 0, hD => by omega
  | 0, d + 1, hD => fun x dep P c s ρ z M hH => by
    obtain ⟨hx, hlen, hdn, hP, ⟨hc, hs⟩, h5, h6, h83, hr, hT, hS, hB, hPh⟩ := hH
    have h5 : M 3 0 5 = (dep : Int) := h5
    have e0 : w32 (w32 (c + (dep : Int)) - (dep : Int)) = c := by
      rw [w32_id (x := c + (dep : Int)) (by omega) (by omega), w32_id (by omega) (by omega)]
      omega
    have hend : e_X3_search_38 d (dep : Int) (x : Int) c s c M = some (vU, amCpy (amUp (amUp M 3 0 7 c) 3 0 8 s) 105 0 0 106 0 0 ((7 : Nat) : Int)) := by
      rw [q_X3_search_38, h5, if_neg (by omega), c_copy (n := 7) (by omega) (by decide) (by decide) (by decide) (by decide), amCV_s]
    have hfin : amSame (fSe dep) M (amCpy (amUp (amUp M 3 0 7 c) 3 0 8 s) 105 0 0 106 0 0 ((7 : Nat) : Int)) := ((amSame.refl.up (by unfold fSe; simp)).up (by unfold fSe; simp)).cpy fun j => by unfold fSe; simp
    have hbs : cBs (c, s, P) (amCpy (amUp (amUp M 3 0 7 c) 3 0 8 s) 105 0 0 106 0 0 ((7 : Nat) : Int)) := by
      refine ⟨?_, ?_, fun j y hy => ?_⟩
      · rw [cpy_c (by decide), up_j (by decide), up_on]
      · rw [cpy_c (by decide), up_on]
      · have hj : j < dep := by
          by_cases hj : j < dep
          · exact hj
          · have hy : P[j]? = some y := hy
            rw [List.getElem?_eq_none (by omega)] at hy; cases hy
        rw [cpy_at (by omega), up_c (by decide), up_c (by decide)]
        exact hPh j y hy
    show ∃ M', _ ∧ _ ∧ cBs (bst z (c, s, P)) M'
    rw [n_X3_search, q_X3_search_0, h5, e0, hB.1, hB.2.1]
    unfold bst
    by_cases h1 : c < z.1
    · rw [if_pos h1, if_neg (show ¬ (z.1 < c ∨ (c = z.1 ∧ s < z.2.1)) by omega)]
      exact ⟨M, rfl, amSame.refl, hB⟩
    · rw [if_neg h1]
      by_cases h2 : c = z.1
      · rw [if_pos h2]
        by_cases h3 : s < z.2.1
        · rw [if_pos h3, hend, if_pos (show (z.1 < c ∨ (c = z.1 ∧ s < z.2.1)) by omega)]
          exact ⟨_, rfl, hfin, hbs⟩
        · rw [if_neg h3, if_neg (show ¬ (z.1 < c ∨ (c = z.1 ∧ s < z.2.1)) by omega)]
          exact ⟨M, rfl, amSame.refl, hB⟩
      · rw [if_neg h2, hend, if_pos (show (z.1 < c ∨ (c = z.1 ∧ s < z.2.1)) by omega)]
        exact ⟨_, rfl, hfin, hbs⟩
  | n + 1, d + 1, hD => fun x dep P c s ρ z M hH => by
    have hC := c_search hτ n d (by omega)
    have hH2 := hH
    obtain ⟨hx, hlen, hdn, hP, ⟨hc, hs⟩, h5, h6, h83, hr, hT, hS, hB, hPh⟩ := hH2
    have e0 : w32 (w32 (c + ((dep + (n + 1) : Nat) : Int)) - (dep : Int)) = c + ((n + 1 : Nat) : Int) := by
      rw [w32_id (x := c + ((dep + (n + 1) : Nat) : Int)) (by omega) (by omega), w32_id (by omega) (by omega)]
      omega
    have hgo : ∃ M', e_X3_search_38 d (dep : Int) (x : Int) c s (c + ((n + 1 : Nat) : Int)) M = some (vU, M') ∧ amSame (fSe dep) M M' ∧ cBs (dfsS τ (n + 1) (bitF x 8 0) P c s ρ z) M' := by
      rw [dfs_bits hx.1, q_X3_search_38, h5, if_pos (by omega), if_neg (by omega), if_pos (by omega), w32_n (x := (dep : Int) + 1) (n := dep + 1) (by omega) (by omega), if_pos (by omega), if_pos (by omega), if_pos (by omega)]
      exact c_schLoop (by omega) hτ hC 8 0 vU z M (by omega) hH
    rw [n_X3_search, q_X3_search_0, h5, e0, hB.1, hB.2.1]
    by_cases h1 : c + ((n + 1 : Nat) : Int) < z.1
    · rw [if_pos h1, dfs_cut (n + 1) _ _ _ _ _ z (Or.inl h1)]
      exact ⟨M, rfl, amSame.refl, hB⟩
    · rw [if_neg h1]
      by_cases h2 : c + ((n + 1 : Nat) : Int) = z.1
      · rw [if_pos h2]
        by_cases h3 : s < z.2.1
        · rw [if_pos h3]; exact hgo
        · rw [if_neg h3, dfs_cut (n + 1) _ _ _ _ _ z (Or.inr ⟨h2, by omega⟩)]
          exact ⟨M, rfl, amSame.refl, hB⟩
      · rw [if_neg h2]; exact hgo
end SRC
