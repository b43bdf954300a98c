/-! PURE: the reference's orders, one after the other -/
def hdOk (n : Nat) (os : List (List Nat)) : Bool := match os with
  | [] => false
  | l :: _ => eqL l (tabL (fun j => j) n 0)
theorem firstP : ∀ n : Nat, n < 8 → hdOk n (permL n (List.range n)) = true := by decide +kernel
section RE
variable {D d v : Nat} {τ : Tx} {ρ : Rw} {M : AmM} {N n : Nat}
theorem r_nextOrder (hD : 1 ≤ D) (hn7 : n ≤ 8) {a g : Nat → Nat} (hu : upL a n) (hgn : ∀ j, j < n → g j < n) (h55 : M 12 0 55 = (n : Int)) (hg : ∀ j, j < n → M 162 0 j = ((a (g j) : Nat) : Int)) : match nextG n g with
    | none => amD amGst D 210 [vR 12 12 0] M = some (vI 0, M)
    | some g' => ∃ M', amD amGst D 210 [vR 12 12 0] M = some (vI 1, M') ∧ amSame (fun c _ _ => c == 162) M M' ∧ ∀ j, j < n → M' 162 0 j = ((a (g' j) : Nat) : Int) := by
  obtain ⟨d, rfl⟩ := dS hD
  have e0 : amD amGst (d + 1) 210 [vR 12 12 0] M = e_X12_nextOrder_7 d ((n : Int) - 2) M := by
    rw [n_X12_nextOrder, q_X12_nextOrder_0, h55, w32_id (by omega) (by omega)]
  rw [e0]
  unfold nextG
  cases n with
  | zero =>
    show e_X12_nextOrder_7 d (((0 : Nat) : Int) - 2) M = some (vI 0, M)
    rw [q_X12_nextOrder_7, if_pos (show ((0 : Nat) : Int) - 2 < 0 by omega), if_pos (show ((0 : Nat) : Int) - 2 < 0 by omega)]
  | succ n =>
    have h := r_iLoop (d := d) hn7 hu hgn h55 hg n (by omega)
    rw [show ((n + 1 : Nat) : Int) - 2 = (n : Int) - 1 by omega, show n + 1 - 1 = n by omega]
    rw [show n + 1 - 1 = n by omega] at h
    cases hI : nxI g n with
    | none => rw [hI] at h; exact h
    | some i => rw [hI] at h; exact h
/-- one order tried, and the best kept -/
theorem r_ordOne (hd : 6 ≤ d) (hτ : tOk τ) (hn7 : n ≤ 7) {s : Int} {o : List Nat} {z : Bs} {u3 u4 u5 u6 : AmV} (ho : o.length = n) (h55 : M 12 0 55 = (n : Int)) (hx : ∀ j x : Nat, o[j]? = some x → M 162 0 j = (x : Int)) (hH : ordH τ o ρ) (hT : rTx v τ M) (hS : rNow ρ M) (hB : rBs z M) : ∃ (M' : AmM) (w3 w4 w5 w6 : AmV), e_X12_orders_12 d s 1 u3 u4 u5 u6 M = (amCI (amD amGst d 210 [vR 12 12 0] M') fun v1 M1 => e_X12_orders_12 d s v1 w3 w4 w5 w6 M1) ∧ amSame fRd M M' ∧ rBs (cndS τ [] ρ 0 0 z o) M' ∧ M' 12 0 55 = (n : Int) ∧ (∀ j, M' 162 0 j = M 162 0 j) := by
  obtain ⟨M1, a1, a2, a3⟩ := r_takes (D := d) (by omega) hS
  obtain ⟨M2, u, b1, b2⟩ := r_runLoop (d := d) (n := n) (s := s) (more := 1) hd hτ (by omega) o 0 0 0 ρ u6 M1 (by omega) ⟨⟨by omega, by omega⟩, by omega, by omega⟩ ((a3 12 0 55 (by rfl)).trans h55) (fun j x hj => by
    rw [a3 162 0 _ (by rfl), Nat.zero_add]
    exact hx j x hj) hH (hT.ro (a3.mono f160_fRo)) a2
  have s2 : amSame fRo M M2 := (a3.mono f160_fRo).trans b2
  have h552 : M2 12 0 55 = (n : Int) := (s2 12 0 55 (by rfl)).trans h55
  have hB2 : rBs z M2 := ⟨(s2 12 0 58 (by rfl)).trans hB.1, (s2 12 0 59 (by rfl)).trans hB.2.1, fun j x hj => (s2 163 0 j (by rfl)).trans (hB.2.2 j x hj)⟩
  have e12 : e_X12_orders_12 d s 1 u3 u4 u5 u6 M = e_X12_orders_28 d s 1 (runL τ o ρ 0 0).1 (runL τ o ρ 0 0).2 (n : Int) u M2 := by
    rw [q_X12_orders_12, if_neg (show ¬ (1 : Int) = 0 by decide), a1, amCV_s]
    rw [show ((0 : Nat) : Int) = 0 from rfl] at b1
    exact b1
  generalize hr1 : (runL τ o ρ 0 0).1 = c at e12
  generalize hr2 : (runL τ o ρ 0 0).2 = t at e12
  have ec : cndS τ [] ρ 0 0 z o = if z.1 < c ∨ (c = z.1 ∧ t < z.2.1) then (c, t, o) else z := by
    unfold cndS
    rw [hr1, hr2, List.nil_append]
    rfl
  have hnew : (z.1 < c ∨ (c = z.1 ∧ t < z.2.1)) → ∃ (M' : AmM) (w3 w4 w5 w6 : AmV), e_X12_orders_112 d s 1 c t 0 u (amUp (amUp M2 12 0 58 c) 12 0 59 t) = (amCI (amD amGst d 210 [vR 12 12 0] M') fun v1 M1 => e_X12_orders_12 d s v1 w3 w4 w5 w6 M1) ∧ amSame fRd M M' ∧ rBs (cndS τ [] ρ 0 0 z o) M' ∧ M' 12 0 55 = (n : Int) ∧ (∀ j, M' 162 0 j = M 162 0 j) := fun hc => by
    rw [ec, if_pos hc]
    have h553 : amUp (amUp M2 12 0 58 c) 12 0 59 t 12 0 55 = (n : Int) := by rw [up_j (by decide), up_j (by decide)]; exact h552
    obtain ⟨M3, k1, k2, k3, k4⟩ := r_bestLoop (d := d) (n := n) (s := s) (more := 1) (c := c) (t := t) (u6 := u) (by omega) n 0 (amUp (amUp M2 12 0 58 c) 12 0 59 t) (by omega) h553
    refine ⟨M3, _, _, _, _, k1, ((((s2.mono fRo_fRd).up (by rfl)).up (by rfl)).trans (k2.mono fun c s j h => by unfold fRd; rw [h]; simp)), ⟨?_, ?_, fun j x hj => ?_⟩, (k2 12 0 55 (by rfl)).trans h553, fun j => ?_⟩
    · rw [k2 12 0 58 (by rfl), up_j (by decide), up_on]
    · rw [k2 12 0 59 (by rfl), up_on]
    · have hj : o[j]? = some x := hj
      have hjn : j < n := by
        by_cases hjn : j < n
        · exact hjn
        · rw [List.getElem?_eq_none (by omega)] at hj; cases hj
      rw [k3 j (by omega) hjn, up_c (by decide), up_c (by decide), s2 162 0 j (by rfl)]
      exact hx j x hj
    · rw [k2 162 0 j (by rfl), up_c (by decide), up_c (by decide)]
      exact s2 162 0 j (by rfl)
  have hold : ¬ (z.1 < c ∨ (c = z.1 ∧ t < z.2.1)) → ∃ (M' : AmM) (w3 w4 w5 w6 : AmV), (amCI (amD amGst d 210 [vR 12 12 0] M2) fun v2 M2 => e_X12_orders_12 d s v2 (vI c) (vI t) (vI (n : Int)) u M2) = (amCI (amD amGst d 210 [vR 12 12 0] M') fun v1 M1 => e_X12_orders_12 d s v1 w3 w4 w5 w6 M1) ∧ amSame fRd M M' ∧ rBs (cndS τ [] ρ 0 0 z o) M' ∧ M' 12 0 55 = (n : Int) ∧ (∀ j, M' 162 0 j = M 162 0 j) := fun hc => by
    rw [ec, if_neg hc]
    exact ⟨M2, vI c, vI t, vI (n : Int), u, rfl, s2.mono fRo_fRd, hB2, h552, fun j => s2 162 0 j (by rfl)⟩
  rw [e12, q_X12_orders_28, h552, if_neg (show ¬ (n : Int) < (n : Int) by omega), hB2.1, hB2.2.1]
  by_cases h1 : z.1 < c
  · rw [if_pos h1]; exact hnew (Or.inl h1)
  · rw [if_neg h1]
    by_cases h2 : c = z.1
    · rw [if_pos h2]
      by_cases h3 : t < z.2.1
      · rw [if_pos h3]; exact hnew (Or.inr ⟨h2, h3⟩)
      · rw [if_neg h3]; exact hold (by omega)
    · rw [if_neg h2]; exact hold (by omega)
theorem get_map {a : Nat → Nat} {l : List Nat} {j x : Nat} (h : (l.map a)[j]? = some x) : a (getL l j) = x := by
  rw [List.getElem?_map] at h
  cases hl : l[j]? with
  | none => rw [hl] at h; cases h
  | some y =>
    rw [hl] at h
    have h : some (a y) = some x := h
    cases h
    rw [getL_get l j y hl]
theorem r_ordLoop (hd : 6 ≤ d) (hτ : tOk τ) (hn7 : n ≤ 7) {s : Int} {a : Nat → Nat} (hu : upL a n) (ha : ∀ r, r < n → a r < tP τ ∧ ρ (74 + a r) = 0) (hr : rOk τ ρ ∧ 0 ≤ ρ 83 ∧ s66 τ ρ) : ∀ (rest : List (List Nat)) (l : List Nat) (z : Bs) (u3 u4 u5 u6 : AmV) (M : AmM), chN n (l :: rest) = true → M 12 0 55 = (n : Int) → (∀ j, j < n → M 162 0 j = ((a (getL l j) : Nat) : Int)) → rTx v τ M → rNow ρ M → rBs z M → ∃ M', e_X12_orders_12 d s 1 u3 u4 u5 u6 M = some (vU, M') ∧ amSame fRd M M' ∧ rBs (((l :: rest).map (fun o => o.map a)).foldl (cndS τ [] ρ 0 0) z) M'
  | rest, l, z, u3, u4, u5, u6, M, hc, h55, hx, hT, hS, hB => by
    have hok : okL n l = true := by
      cases rest with
      | nil =>
        have hc : (okL n l && nxOk n l none) = true := hc
        rw [Bool.and_eq_true] at hc
        exact hc.1
      | cons l' r =>
        have hc : (okL n l && (nxOk n l (some l') && chN n (l' :: r))) = true := hc
        rw [Bool.and_eq_true] at hc
        exact hc.1
    obtain ⟨k1, k2, k3⟩ := okL_of hok
    have hgn : ∀ j, j < n → getL l j < n := fun j hj => getL_lt (f := fun y => y < n) l j (by omega) k2
    have hH : ordH τ (l.map a) ρ := by
      refine ⟨hr.1, hr.2.1, hr.2.2, fun p hp => ?_, nodL_map hu l k2 k3⟩
      obtain ⟨y, hy1, hy2⟩ := List.mem_map.1 hp
      subst hy2
      exact ha y (k2 y hy1)
    obtain ⟨M1, w3, w4, w5, w6, b1, b2, b3, b4, b5⟩ := r_ordOne (d := d) (s := s) (u3 := u3) (u4 := u4) (u5 := u5) (u6 := u6) hd hτ hn7 (o := l.map a) (by rw [List.length_map, k1]) h55 (fun j x hj => by
      have hjl : j < n := by
        by_cases hjl : j < n
        · exact hjl
        · rw [List.getElem?_eq_none (by rw [List.length_map]; omega)] at hj; cases hj
      rw [hx j hjl, get_map hj]) hH hT hS hB
    have hnx := r_nextOrder (D := d) (by omega) (show n ≤ 8 by omega) hu hgn b4 (fun j hj => (b5 j).trans (hx j hj))
    rw [List.map_cons, List.foldl_cons]
    cases rest with
    | nil =>
      have hc : (okL n l && nxOk n l none) = true := hc
      rw [Bool.and_eq_true] at hc
      rw [nxOk_none hc.2] at hnx
      refine ⟨M1, ?_, b2, b3⟩
      rw [b1, hnx, amCI_s, q_X12_orders_12, if_pos (show (0 : Int) = 0 from rfl)]
    | cons l' r =>
      have hc : (okL n l && (nxOk n l (some l') && chN n (l' :: r))) = true := hc
      rw [Bool.and_eq_true, Bool.and_eq_true] at hc
      obtain ⟨g, hg1, hg2⟩ := nxOk_some hc.2.1
      rw [hg1] at hnx
      obtain ⟨M2, c1, c2, c3⟩ := hnx
      have s2 : amSame fRd M1 M2 := c2.mono fun c s j h => by unfold fRd; rw [h]; simp
      have hB2 : rBs (cndS τ [] ρ 0 0 z (l.map a)) M2 := ⟨(c2 12 0 58 (by rfl)).trans b3.1, (c2 12 0 59 (by rfl)).trans b3.2.1, fun j x hj => (c2 163 0 j (by rfl)).trans (b3.2.2 j x hj)⟩
      obtain ⟨M3, f1, f2, f3⟩ := r_ordLoop hd hτ hn7 (s := s) hu ha hr r l' _ w3 w4 w5 w6 M2 hc.2.2 ((c2 12 0 55 (by rfl)).trans b4) (fun j hj => by rw [c3 j hj, hg2 j hj]) ((hT.rd b2).rd s2) ((hS.rd b2).rd s2) hB2
      refine ⟨M3, ?_, (b2.trans s2).trans f2, f3⟩
      rw [b1, c1, amCI_s]
      exact f1
theorem r_orders (hD : 7 ≤ D) (hτ : tOk τ) (hN : sOk τ N ρ) (h66 : s66 τ ρ) (hT : rTx v τ M) (hS : rNow ρ M) {s : Int} (h : onSet τ ρ s) (h7 : cntB s.toNat ≤ 7) : ∃ M', amD amGst D 211 [vR 12 12 0, vI s] M = some (vU, M') ∧ amSame fRd M M' ∧ rBs (ordS τ ρ s.toNat) M' := by
  obtain ⟨d, rfl⟩ := dS hD
  have hP := hτ.2.2.2.2.2.2.1
  have hlt := onSet_lt hP h
  have hs : ((s.toNat : Nat) : Int) = s := by omega
  obtain ⟨M1, a1, a2, a3, a4⟩ := r_fillsOrder (D := d) (by omega) hτ (s := s.toNat) (by omega) (bitHi h) hT
  rw [hs] at a1
  have hlen : (bitF s.toNat 8 0).length = cntB s.toNat := bitF_len 8 0
  have hu : upL (getL (bitF s.toNat 8 0)) (cntB s.toNat) := by
    rw [← hlen]
    exact bitF_up 8 0
  have ha : ∀ r, r < cntB s.toNat → getL (bitF s.toNat 8 0) r < tP τ ∧ ρ (74 + getL (bitF s.toNat 8 0) r) = 0 := fun r hr => getL_lt (f := fun p => p < tP τ ∧ ρ (74 + p) = 0) _ r (by omega) fun p hp => by
    have hb := (bitF_ge 8 0 p hp).2.2
    have hpp : p < tP τ := by
      by_cases hpp : p < tP τ
      · exact hpp
      · rw [bitHi h p (by omega)] at hb; cases hb
    exact ⟨hpp, (hN.2.1 p hpp).2.2 (h.2.2 p hpp hb)⟩
  have hch := perm_chN (cntB s.toNat) h7
  have ho := ordS_eq (τ := τ) (ρ := ρ) (s := s.toNat)
  have hfst : ∀ (os : List (List Nat)) (z z' : Bs), z.1 = -1 → z'.1 = -1 → os ≠ [] → os.foldl (cndS τ [] ρ 0 0) z = os.foldl (cndS τ [] ρ 0 0) z' := fun os z z' h1 h2 h3 => by
    cases os with
    | nil => exact absurd rfl h3
    | cons o os =>
      rw [List.foldl_cons, List.foldl_cons]
      obtain ⟨z1, z2, z3⟩ := z
      obtain ⟨y1, y2, y3⟩ := z'
      have h1 : z1 = -1 := h1
      have h2 : y1 = -1 := h2
      subst h1; subst h2
      rw [bst_first (y := y2) (m := y3)]
  have hrow : ∀ j, j < cntB s.toNat → amUp M1 12 0 58 (-1) 162 0 j = ((getL (bitF s.toNat 8 0) j : Nat) : Int) := fun j hj => by
    rw [up_c (by decide)]
    exact a4 j _ (getL_some _ j (by omega))
  have s1 : amSame fRd M (amUp M1 12 0 58 (-1)) := a2.up (by rfl)
  have hid : ∀ (rs : List (List Nat)), permL (cntB s.toNat) (List.range (cntB s.toNat)) = rs → ∃ l rest, rs = l :: rest ∧ ∀ j, j < cntB s.toNat → getL l j = j := fun rs hrs => by
    have h1 := firstP (cntB s.toNat) (by omega)
    rw [hrs] at h1
    cases rs with
    | nil => cases h1
    | cons l rest =>
      have h1 := eqL_of _ _ h1
      refine ⟨l, rest, rfl, fun j hj => ?_⟩
      rw [h1, tabL_get _ 0 j hj, Nat.zero_add]
  obtain ⟨l, rest, hl1, hl2⟩ := hid _ rfl
  rw [hl1] at hch ho
  obtain ⟨M2, b1, b2, b3⟩ := r_ordLoop (d := d) (s := s) (by omega) hτ h7 hu ha ⟨hN.1, hN.2.2.2.1, h66⟩ rest l (-1, M1 12 0 59, []) vU vU vU vU (amUp M1 12 0 58 (-1)) hch ((up_j (by decide)).trans a3) (fun j hj => by rw [hrow j hj, hl2 j hj]) (hT.rd s1) (hS.rd s1) ⟨up_on, up_j (by decide), fun j x hj => by cases hj⟩
  refine ⟨M2, ?_, s1.trans b2, ?_⟩
  · rw [n_X12_orders, q_X12_orders_0, a1, amCV_s]
    exact b1
  · rw [ho, hfst _ (-1, 0, []) (-1, M1 12 0 59, []) rfl rfl (by rw [List.map_cons]; exact List.cons_ne_nil _ _)]
    exact b3
theorem r_bitsLoop {s : Nat} (hs : s < 256) : ∀ (m i : Nat) (c : Int), i + m = 8 → (0 ≤ c ∧ c ≤ i) → e_X12_bits_4 d (s : Int) c (i : Int) M = some (vI (c + ((cntR s.testBit m i : Nat) : Int)), M)
  | 0, i, c, h, hc => by
    have h : i = 8 := h
    rw [q_X12_bits_4, if_neg (by omega)]
    show some (vI c, M) = some (vI (c + ((0 : Nat) : Int)), M)
    rw [show c + ((0 : Nat) : Int) = c by omega]
  | m + 1, i, c, h, hc => by
    rw [q_X12_bits_4, if_pos (by omega), bBit s hs i (by omega), w32_n (x := (i : Int) + 1) (n := i + 1) (by omega) (by omega)]
    have ec : cntR s.testBit (m + 1) i = (if s.testBit i = true then 1 else 0) + cntR s.testBit m (i + 1) := rfl
    rw [ec]
    by_cases hb : s.testBit i = true
    · have e1 : (if s.testBit i = true then (1 : Int) else 0) = 1 := if_pos hb
      have e2 : (if s.testBit i = true then 1 else 0) = 1 := if_pos hb
      rw [e1, e2, w32_id (x := c + 1) (by omega) (by omega), r_bitsLoop hs m (i + 1) (c + 1) (by omega) (by omega)]
      congr 3
      omega
    · have e1 : (if s.testBit i = true then (1 : Int) else 0) = 0 := if_neg hb
      have e2 : (if s.testBit i = true then 1 else 0) = 0 := if_neg hb
      rw [e1, e2, w32_id (x := c + 0) (by omega) (by omega), r_bitsLoop hs m (i + 1) (c + 0) (by omega) (by omega)]
      congr 3
      omega
theorem r_bitsS (hD : 1 ≤ D) {s : Int} (hs : 0 ≤ s ∧ s < 256) : amD amGst D 207 [vI s] M = some (vI ((cntB s.toNat : Nat) : Int), M) := by
  obtain ⟨d, rfl⟩ := dS hD
  have := r_bitsLoop (d := d) (M := M) (s := s.toNat) (by omega) 8 0 0 (by omega) (by omega)
  rw [show ((s.toNat : Nat) : Int) = s by omega] at this
  rw [n_X12_bits, q_X12_bits_0]
  refine this.trans ?_
  rw [show (0 : Int) + ((cntR s.toNat.testBit 8 0 : Nat) : Int) = ((cntB s.toNat : Nat) : Int) by unfold cntB; omega]
theorem r_orderN (hD : 3 ≤ D) (hτ : tOk τ) (hT : rTx v τ M) (hS : rNow ρ M) {s w : Int} (h : ¬ (onSet τ ρ s ∧ 0 ≤ w ∧ w ≤ 1)) : amD amGst D 212 [vR 12 12 0, vI s, vI w] M = some (vI (-1), M) := by
  obtain ⟨d, rfl⟩ := dS hD
  rw [n_X12_order, q_X12_order_0]
  by_cases h1 : onSet τ ρ s
  · rw [r_isSetY (by omega) hτ hT hS h1, amCI_s, if_neg (show ¬ (1 : Int) = 0 by decide), r_inN (by omega) (fun q => h ⟨h1, q⟩), amCI_s, if_pos (show (0 : Int) = 0 from rfl)]
  · rw [r_isSetN (by omega) hτ hT hS h1, amCI_s, if_pos (show (0 : Int) = 0 from rfl)]
theorem r_orderM (hD : 3 ≤ D) (hτ : tOk τ) (hT : rTx v τ M) (hS : rNow ρ M) {s w : Int} (h : onSet τ ρ s) (hw : 0 ≤ w ∧ w ≤ 1) (h7 : 7 < cntB s.toNat) : amD amGst D 212 [vR 12 12 0, vI s, vI w] M = some (vI (-2), M) := by
  obtain ⟨d, rfl⟩ := dS hD
  have hlt := onSet_lt hτ.2.2.2.2.2.2.1 h
  rw [n_X12_order, q_X12_order_0, r_isSetY (by omega) hτ hT hS h, amCI_s, if_neg (show ¬ (1 : Int) = 0 by decide), r_inY (by omega) hw, amCI_s, if_neg (show ¬ (1 : Int) = 0 by decide), r_bitsS (by omega) hlt, amCI_s, if_pos (by omega)]
theorem r_order (hD : 8 ≤ D) (hτ : tOk τ) (hN : sOk τ N ρ) (h66 : s66 τ ρ) (hT : rTx v τ M) (hS : rNow ρ M) {s w : Int} (h : onSet τ ρ s) (hw : 0 ≤ w ∧ w ≤ 1) (h7 : cntB s.toNat ≤ 7) : ∃ M', amD amGst D 212 [vR 12 12 0, vI s, vI w] M = some (vI (if w = 0 then (ordS τ ρ s.toNat).1 else (ordS τ ρ s.toNat).2.1), M') ∧ amSame fRd M M' := by
  obtain ⟨d, rfl⟩ := dS hD
  have hlt := onSet_lt hτ.2.2.2.2.2.2.1 h
  obtain ⟨M1, a1, a2, a3⟩ := r_orders (D := d) (by omega) hτ hN h66 hT hS h h7
  refine ⟨M1, ?_, a2⟩
  rw [n_X12_order, q_X12_order_0, r_isSetY (by omega) hτ hT hS h, amCI_s, if_neg (show ¬ (1 : Int) = 0 by decide), r_inY (by omega) hw, amCI_s, if_neg (show ¬ (1 : Int) = 0 by decide), r_bitsS (by omega) hlt, amCI_s, if_neg (by omega), a1, amCV_s, a3.1, a3.2.1]
  by_cases h0 : w = 0
  · rw [if_pos h0, if_pos h0]
  · rw [if_neg h0, if_neg h0]
theorem r_orderAtN (hD : 3 ≤ D) (hτ : tOk τ) (hT : rTx v τ M) (hS : rNow ρ M) {s i : Int} (h : ¬ (onSet τ ρ s ∧ 0 ≤ i ∧ i < ((cntB s.toNat : Nat) : Int))) : amD amGst D 213 [vR 12 12 0, vI s, vI i] M = some (vI (-1), M) := by
  obtain ⟨d, rfl⟩ := dS hD
  rw [n_X12_orderAt, q_X12_orderAt_0]
  by_cases h1 : onSet τ ρ s
  · have hlt := onSet_lt hτ.2.2.2.2.2.2.1 h1
    rw [r_isSetY (by omega) hτ hT hS h1, amCI_s, if_neg (show ¬ (1 : Int) = 0 by decide)]
    by_cases h2 : i < 0
    · rw [if_pos h2]
    · rw [if_neg h2, r_bitsS (by omega) hlt, amCI_s, if_neg (show ¬ i < ((cntB s.toNat : Nat) : Int) from fun h3 => h ⟨h1, by omega, h3⟩)]
  · rw [r_isSetN (by omega) hτ hT hS h1, amCI_s, if_pos (show (0 : Int) = 0 from rfl)]
theorem r_orderAtM (hD : 3 ≤ D) (hτ : tOk τ) (hT : rTx v τ M) (hS : rNow ρ M) {s i : Int} (h : onSet τ ρ s) (hi : 0 ≤ i ∧ i < ((cntB s.toNat : Nat) : Int)) (h7 : 7 < cntB s.toNat) : amD amGst D 213 [vR 12 12 0, vI s, vI i] M = some (vI (-2), M) := by
  obtain ⟨d, rfl⟩ := dS hD
  have hlt := onSet_lt hτ.2.2.2.2.2.2.1 h
  rw [n_X12_orderAt, q_X12_orderAt_0, r_isSetY (by omega) hτ hT hS h, amCI_s, if_neg (show ¬ (1 : Int) = 0 by decide), if_neg (show ¬ i < 0 by omega), r_bitsS (by omega) hlt, amCI_s, if_pos hi.2, r_bitsS (by omega) hlt, amCI_s, if_pos (by omega)]
theorem r_orderAt (hD : 8 ≤ D) (hτ : tOk τ) (hN : sOk τ N ρ) (h66 : s66 τ ρ) (hT : rTx v τ M) (hS : rNow ρ M) {s i : Int} (h : onSet τ ρ s) (hi : 0 ≤ i ∧ i < ((cntB s.toNat : Nat) : Int)) (h7 : cntB s.toNat ≤ 7) {x : Nat} (hx : (ordS τ ρ s.toNat).2.2[i.toNat]? = some x) : ∃ M', amD amGst D 213 [vR 12 12 0, vI s, vI i] M = some (vI (x : Int), M') ∧ amSame fRd M M' := by
  obtain ⟨d, rfl⟩ := dS hD
  have hlt := onSet_lt hτ.2.2.2.2.2.2.1 h
  obtain ⟨M1, a1, a2, a3⟩ := r_orders (D := d) (by omega) hτ hN h66 hT hS h h7
  refine ⟨M1, ?_, a2⟩
  rw [n_X12_orderAt, q_X12_orderAt_0, r_isSetY (by omega) hτ hT hS h, amCI_s, if_neg (show ¬ (1 : Int) = 0 by decide), if_neg (show ¬ i < 0 by omega), r_bitsS (by omega) hlt, amCI_s, if_pos hi.2, r_bitsS (by omega) hlt, amCI_s, if_neg (by omega), a1, amCV_s, if_pos (by omega), a3.2.2 _ x hx]
end RE
