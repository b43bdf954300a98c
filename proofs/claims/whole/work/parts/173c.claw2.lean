theorem c_less {d t i q : Nat} {l1 l5 last x : Int} {u7 u8 u9 : AmV} {M : AmM} (hi : i < q) (hq : q ≤ 401) (hcmd : M 100 t i = 3 + 8 * (q : Int)) (hx : M 102 t 1 = x) :
    e_X1_worth_34 d t l1 last 2 l5 i u7 u8 u9 M = if x < last then e_X1_worth_34 d t l1 last 0 l5 ((i + 1 : Nat) : Int) (vI 3) (vI q) (vI x) M else e_X1_worth_34 d t l1 last 0 l5 q (vI 3) (vI q) (vI x) M := by
  have hand : bAnd (M 100 t i) 7 = 3 := by rw [hcmd, bAnd_7 (by omega) (by omega)]; omega
  have hshr : bShr (M 100 t i) 3 = (q : Int) := by rw [hcmd, bShr_3 (by omega) (by omega)]; omega
  have hm : w32 ((2 : Int) + (-1)) = 1 := by rw [w32_id (by omega) (by omega)]; rfl
  have e1 : w32 ((i : Int) + 1) = ((i + 1 : Nat) : Int) := by rw [w32_id (by omega) (by omega)]; omega
  have e2 : w32 (w32 ((q : Int) - 1) + 1) = (q : Int) := by
    rw [w32_id (x := (q : Int) - 1) (by omega) (by omega), w32_id (by omega) (by omega)]
    omega
  have h1 : (1 : Int).toNat = 1 := rfl
  have h2 : ((i : Nat) : Int).toNat = i := rfl
  rw [q_X1_worth_34, h2, hand, hshr, hm, h1, e1, e2, hx]
  rw [if_neg (by omega), if_pos (by omega), if_pos ⟨by omega, by omega⟩, if_pos ⟨by omega, by omega⟩, if_neg (by omega), if_neg (by omega), if_neg (by omega), if_neg (by omega), if_pos (by omega), if_pos ⟨by omega, by omega⟩, if_pos rfl, if_pos (show (i : Int) < (q : Int) by omega)]
theorem c_stop {d t i : Nat} {l1 l4 l5 last : Int} {u7 u8 u9 : AmV} {M : AmM} (hi : i ≤ 400) (h : M 100 t i = 0) : e_X1_worth_34 d t l1 last l4 l5 i u7 u8 u9 M = some (vI last, M) := by
  have h2 : ((i : Nat) : Int).toNat = i := rfl
  have h0 : bAnd 0 7 = 0 := by rw [bAnd_7 (by omega) (by omega)]; rfl
  rw [q_X1_worth_34, h2, h, h0]
  rw [if_neg (by omega), if_pos (by omega), if_pos ⟨by omega, by omega⟩, if_pos ⟨by omega, by omega⟩, if_pos rfl]
/-- a law: its rows of commands give its value; 0, if it is broken -/
theorem c_law {d t : Nat} {l1 l5 : Int} {C : Rw} {lk : Nat → Int} : ∀ (l : List (Ex × Ex × Ex)) (e : Ex) (i : Nat) (last : Int) (u7 u8 u9 : AmV) (M : AmM), (∀ j, j < 401 → M 100 t j = C j) → (∀ j, j < 7 → M 125 0 j = lk j) → cLw C i l e → i + lwLen l e ≤ 401 → lwOk (l, e) →
    ∃ M', amSame (fKe t) M M' ∧ e_X1_worth_34 d t l1 last 0 l5 i u7 u8 u9 M = some (vI ((lwVal lk l e).getD 0), M')
  | [], e, i, last, u7, u8, u9, M, hC, hl, ha, hi, hok => by
    have hi : i + (e.length + 1) ≤ 401 := hi
    have hok := hok.2
    obtain ⟨M', m1, m2⟩ := c_exp (d := d) (t := t) (B := 20) (l1 := l1) (l5 := l5) (C := C) (lk := lk) e i [] last u7 u8 u9 M hC hl ha.1 (by omega) (by omega) (by show 0 ≤ 20; omega) ⟨1, hok.1⟩ hok.2 trivial
    refine ⟨M', m1, ?_⟩
    show e_X1_worth_34 d t l1 last (([] : List Int).length : Nat) l5 i u7 u8 u9 M = some (vI ((exVal lk e).getD 0), M')
    rcases exVal_of (lk := lk) hok with ⟨v, h1, h2⟩ | ⟨h1, h2⟩
    · rw [h1] at m2
      obtain ⟨last', w7, w8, w9, n1, n2⟩ := m2
      rw [n1, h2]
      have hlast : last' = v := n2.1
      have hstop : M' 100 t (i + e.length) = 0 := by rw [m1 _ _ _ (by simp [fKe]), hC _ (by omega)]; exact ha.2
      rw [q_X1_worth_34, if_neg (by omega), if_pos (by omega), if_pos ⟨by omega, by omega⟩, if_pos ⟨by omega, by omega⟩]
      simp only [Int.toNat_natCast, hstop]
      rw [if_pos (by rw [bAnd_7 (by omega) (by omega)]; rfl), hlast]
      rfl
    · rw [h1] at m2
      rw [m2, h2]
      rfl
  | (a, b, c) :: l, e, i, last, u7, u8, u9, M, hC, hl, ha, hi, hok => by
    have hi : i + (a.length + b.length + c.length + 2 + lwLen l e) ≤ 401 := hi
    obtain ⟨c1, c2, c3, c4, c5, c6⟩ := ha
    obtain ⟨oa, ob, oc⟩ := hok.1 (a, b, c) (by simp)
    have okr : lwOk (l, e) := ⟨fun q hq => hok.1 q (by simp [hq]), hok.2⟩
    have hpos : 1 ≤ lwLen l e := by cases l with | nil => (unfold lwLen; omega) | cons q l => (unfold lwLen; omega)
    obtain ⟨M1, m1, m2⟩ := c_exp (d := d) (t := t) (B := 20) (l1 := l1) (l5 := l5) (C := C) (lk := lk) a i [] last u7 u8 u9 M hC hl c1 (by omega) (by omega) (by show 0 ≤ 20; omega) ⟨1, oa.1⟩ oa.2 trivial
    rcases exVal_of (lk := lk) oa with ⟨x, h1, h2⟩ | ⟨h1, h2⟩
    · rw [h1] at m2
      obtain ⟨last1, w7, w8, w9, n1, n2⟩ := m2
      have hC1 : ∀ j, j < 401 → M1 100 t j = C j := fun j hj => (m1 _ _ _ (by rfl)).trans (hC j hj)
      have hl1 : ∀ j, j < 7 → M1 125 0 j = lk j := fun j hj => (m1 _ _ _ (by rfl)).trans (hl j hj)
      have hb1 : exH 21 b ([x] : List Int).length = some 2 := exH_shift (B := 20) (u := 1) b 0 1 ob.1
      obtain ⟨M2, k1, k2⟩ := c_exp (d := d) (t := t) (B := 21) (l1 := l1) (l5 := l5) (C := C) (lk := lk) b (i + a.length) [x] last1 w7 w8 w9 M1 hC1 hl1 c2 (by omega) (by omega) (by show 1 ≤ 21; omega) ⟨2, hb1⟩ ob.2 n2
      have hrb : exRun lk b [x] = (exRun lk b []).map (· ++ [x]) := exRun_app (B := 20) b [] 1 ob.1
      rcases exVal_of (lk := lk) ob with ⟨y, h3, h4⟩ | ⟨h3, h4⟩
      · have hrb : exRun lk b [x] = some [y, x] := by rw [hrb, h3]; rfl
        rw [hrb] at k2
        obtain ⟨last2, y7, y8, y9, p1, p2⟩ := k2
        have hC2 : ∀ j, j < 401 → M2 100 t j = C j := fun j hj => (k1 _ _ _ (by rfl)).trans (hC1 j hj)
        have hl2 : ∀ j, j < 7 → M2 125 0 j = lk j := fun j hj => (k1 _ _ _ (by rfl)).trans (hl1 j hj)
        have hy : last2 = y := p2.1
        have hx : M2 102 t 1 = x := p2.2.1
        subst hy
        have hcmd : M2 100 t (i + a.length + b.length) = 3 + 8 * ((i + a.length + b.length + c.length + 2 : Nat) : Int) := (hC2 _ (by omega)).trans c3
        have hgo := (n1.trans p1).trans (c_less (d := d) (t := t) (i := i + a.length + b.length) (q := i + a.length + b.length + c.length + 2) (l1 := l1) (l5 := l5) (last := last2) (x := x) (u7 := y7) (u8 := y8) (u9 := y9) (M := M2) (by omega) (by omega) hcmd hx)
        have hval : lwVal lk ((a, b, c) :: l) e = if x < last2 then exVal lk c else lwVal lk l e := by
          show (match exVal lk a, exVal lk b with
            | some x, some y => if x < y then exVal lk c else lwVal lk l e
            | _, _ => none) = _
          rw [h2, h4]
        rw [hval]
        by_cases hlt : x < last2
        · rw [if_pos hlt] at hgo ⊢
          obtain ⟨M3, r1, r2⟩ := c_exp (d := d) (t := t) (B := 20) (l1 := l1) (l5 := l5) (C := C) (lk := lk) c (i + a.length + b.length + 1) [] last2 (vI 3) (vI ((i + a.length + b.length + c.length + 2 : Nat) : Int)) (vI x) M2 hC2 hl2 c4 (by omega) (by omega) (by show 0 ≤ 20; omega) ⟨1, oc.1⟩ oc.2 trivial
          refine ⟨M3, (m1.trans k1).trans r1, hgo.trans ?_⟩
          rcases exVal_of (lk := lk) oc with ⟨v, h5, h6⟩ | ⟨h5, h6⟩
          · rw [h5] at r2
            obtain ⟨last3, z7, z8, z9, s1, s2⟩ := r2
            have hl3 : last3 = v := s2.1
            have hstop : M3 100 t (i + a.length + b.length + 1 + c.length) = 0 := (r1 _ _ _ (by rfl)).trans ((hC2 _ (by omega)).trans c5)
            refine s1.trans ((c_stop (by omega) hstop).trans ?_)
            rw [h6, hl3]
            rfl
          · rw [h5] at r2
            refine r2.trans ?_
            rw [h6]
            rfl
        · rw [if_neg hlt] at hgo ⊢
          obtain ⟨M3, r1, r2⟩ := c_law (d := d) (t := t) (l1 := l1) (l5 := l5) (C := C) (lk := lk) l e (i + a.length + b.length + c.length + 2) last2 (vI 3) (vI ((i + a.length + b.length + c.length + 2 : Nat) : Int)) (vI x) M2 hC2 hl2 c6 (by omega) okr
          exact ⟨M3, (m1.trans k1).trans r1, hgo.trans r2⟩
      · have hrb : exRun lk b [x] = none := by rw [hrb, h3]; rfl
        rw [hrb] at k2
        refine ⟨M2, m1.trans k1, (n1.trans k2).trans ?_⟩
        have hval : lwVal lk ((a, b, c) :: l) e = none := by
          show (match exVal lk a, exVal lk b with
            | some x, some y => if x < y then exVal lk c else lwVal lk l e
            | _, _ => none) = _
          rw [h2, h4]
        rw [hval]
        rfl
    · rw [h1] at m2
      refine ⟨M1, m1, m2.trans ?_⟩
      have hval : lwVal lk ((a, b, c) :: l) e = none := by
        show (match exVal lk a, exVal lk b with
          | some x, some y => if x < y then exVal lk c else lwVal lk l e
          | _, _ => none) = _
        rw [h2]
      rw [hval]
      rfl
