theorem c_op {d t n k i : Nat} {l1 l5 last a : Int} {u7 u8 u9 : AmV} {M : AmM} (hi : i < 400) (hk : 2 ≤ k ∧ k < 6) (hand2 : bAnd (M 100 t i) 7 = (k : Int) + 2) (hka : M 102 t (n + 1) = a) (hn : n + 2 ≤ 23) :
    (∀ c, exOp k a last = some c → e_X1_worth_34 d t l1 last ((n + 2 : Nat) : Int) l5 i u7 u8 u9 M = e_X1_worth_34 d t l1 c ((n + 1 : Nat) : Int) l5 ((i + 1 : Nat) : Int) (vI ((k : Int) + 2)) (vI (bShr (M 100 t i) 3)) (vI a) M) ∧ (exOp k a last = none → e_X1_worth_34 d t l1 last ((n + 2 : Nat) : Int) l5 i u7 u8 u9 M = some (vI 0, M)) := by
  have hn1 : w32 (((n + 2 : Nat) : Int) + (-1)) = ((n + 1 : Nat) : Int) := by rw [w32_id (by omega) (by omega)]; omega
  have hi1 : w32 ((i : Int) + 1) = ((i + 1 : Nat) : Int) := by rw [w32_id (by omega) (by omega)]; omega
  have h1 : ((n + 1 : Nat) : Int).toNat = n + 1 := rfl
  have h2 : ((i : Nat) : Int).toNat = i := rfl
  rw [q_X1_worth_34, h2, hn1, h1, hand2, hka, hi1]
  rw [if_neg (by omega), if_pos (by omega), if_pos ⟨by omega, by omega⟩, if_pos ⟨by omega, by omega⟩, if_neg (by omega), if_neg (by omega), if_neg (by omega), if_neg (by omega), if_pos (by omega), if_pos ⟨by omega, by omega⟩, if_neg (by omega)]
  refine ⟨fun c hc => ?_, fun hc => ?_⟩
  · unfold exOp at hc
    by_cases h5 : k = 5
    · rw [if_neg (by omega), if_neg (by omega), if_neg (by omega)] at hc
      rw [if_pos (by omega)]
      by_cases h0 : last = 0
      · rw [if_pos h0] at hc; cases hc
      · rw [if_neg h0] at hc
        rw [if_neg h0, if_neg h0]
        cases hc; rfl
    · rw [if_neg (by omega)]
      by_cases h2 : k = 2
      · rw [if_pos h2] at hc
        rw [if_pos (by omega)]
        cases hc; rfl
      · rw [if_neg h2] at hc
        rw [if_neg (by omega)]
        by_cases h3 : k = 3
        · rw [if_pos h3] at hc
          rw [if_pos (by omega)]
          cases hc; rfl
        · rw [if_neg h3, if_pos (by omega)] at hc
          rw [if_neg (by omega)]
          cases hc; rfl
  · unfold exOp at hc
    by_cases h2 : k = 2
    · rw [if_pos h2] at hc; cases hc
    · by_cases h3 : k = 3
      · rw [if_neg h2, if_pos h3] at hc; cases hc
      · by_cases h4 : k = 4
        · rw [if_neg h2, if_neg h3, if_pos h4] at hc; cases hc
        · rw [if_neg h2, if_neg h3, if_neg h4] at hc
          by_cases h0 : last = 0
          · rw [if_pos (by omega), if_pos h0]
          · rw [if_neg h0] at hc; cases hc
/-- one expression: its value on the pile, or all is 0 -/
theorem c_exp {d t B : Nat} {l1 l5 : Int} {C : Rw} {lk : Nat → Int} : ∀ (e : Ex) (i : Nat) (st : List Int) (last : Int) (u7 u8 u9 : AmV) (M : AmM), (∀ j, j < 401 → M 100 t j = C j) → (∀ j, j < 7 → M 125 0 j = lk j) → cAt C i e → i + e.length ≤ 400 → B ≤ 23 → st.length ≤ B → (∃ h, exH B e st.length = some h) → (∀ x ∈ e, 0 ≤ x.2 ∧ x.2 < 10000) → cPi (M 102 t) st last →
    ∃ M', amSame (fKe t) M M' ∧ match exRun lk e st with
      | some st' => ∃ last' w7 w8 w9, e_X1_worth_34 d t l1 last st.length l5 i u7 u8 u9 M = e_X1_worth_34 d t l1 last' st'.length l5 (i + e.length : Nat) w7 w8 w9 M' ∧ cPi (M' 102 t) st' last'
      | none => e_X1_worth_34 d t l1 last st.length l5 i u7 u8 u9 M = some (vI 0, M')
  | [], i, st, last, u7, u8, u9, M, hC, hl, ha, hi, hB, hst, hh, hv, hp => ⟨M, amSame.refl, last, u7, u8, u9, rfl, hp⟩
  | (k, v) :: r, i, st, last, u7, u8, u9, M, hC, hl, ha, hi, hB, hst, hh, hv, hp => by
    have hi : i + (r.length + 1) ≤ 400 := hi
    obtain ⟨h, hh⟩ := hh
    obtain ⟨ha1, ha2⟩ := ha
    have hv0 := hv (k, v) (by simp)
    have hv1 : ∀ x ∈ r, 0 ≤ x.2 ∧ x.2 < 10000 := fun x hx => hv x (by simp [hx])
    have hcm : M 100 t i = cCmd (k, v) := (hC i (by omega)).trans ha1
    have hk6 : k < 6 := by
      unfold exH at hh
      split at hh
      · omega
      · split at hh
        · omega
        · split at hh
          · omega
          · cases hh
    obtain ⟨b1, b2, b3, b4⟩ := cCmd_b (x := (k, v)) hk6 hv0
    have hand : bAnd (M 100 t i) 7 = (if k = 0 then 1 else if k = 1 then 2 else (k : Int) + 2) := by rw [hcm, bAnd_7 b1 (by omega), b3]
    have hlen : e_X1_worth_34 d t l1 last st.length l5 i u7 u8 u9 M = e_X1_worth_34 d t l1 last st.length l5 i u7 u8 u9 M := rfl
    have hlast : (i + ((k, v) :: r).length : Nat) = (i + 1 + r.length : Nat) := by show i + (r.length + 1) = _; omega
    by_cases hk : k < 2
    · -- a number or a look
      have hshr : bShr (M 100 t i) 3 = v := by rw [hcm, bShr_3 b1 (by omega)]; exact b4 hk
      have hs2 : st.length < B ∧ exH B r (st.length + 1) = some h ∧ (k = 1 → 0 ≤ v ∧ v < 7) := by
        unfold exH at hh
        split at hh
        · split at hh
          · exact ⟨by assumption, hh, fun q => by omega⟩
          · cases hh
        · split at hh
          · split at hh
            · rename_i q; exact ⟨q.1, hh, fun _ => q.2⟩
            · cases hh
          · omega
      obtain ⟨g1, g2, g3⟩ := hs2
      have hx : exRun lk ((k, v) :: r) st = exRun lk r ((if k = 0 then v else lk v.toNat) :: st) := by
        show (if k = 0 then exRun lk r (v :: st) else if k = 1 then exRun lk r (lk v.toNat :: st) else _) = _
        by_cases hk0 : k = 0
        · rw [if_pos hk0, if_pos hk0]
        · rw [if_neg hk0, if_pos (by omega), if_neg hk0]
      have hM1 : ∀ j, amUp M 102 t st.length last 102 t j = if j = st.length then last else M 102 t j := fun j => up_at
      obtain ⟨M', m1, m2⟩ := c_exp (d := d) (t := t) (l1 := l1) (l5 := l5) (C := C) (lk := lk) r (i + 1) ((if k = 0 then v else lk v.toNat) :: st) (if k = 0 then v else lk v.toNat) (vI (if k = 0 then 1 else 2)) (vI v) u9 (amUp M 102 t st.length last)
        (fun j hj => by rw [up_c (by decide)]; exact hC j hj) (fun j hj => by rw [up_c (by decide)]; exact hl j hj) ha2 (by omega) hB (by show st.length + 1 ≤ B; omega) ⟨h, g2⟩ hv1 ⟨rfl, by
          have h9 := cPi_push (v := 0) hp
          have e : amUp M 102 t st.length last 102 t = fun j => if j = st.length then last else M 102 t j := funext hM1
          rw [e]; exact h9⟩
      refine ⟨M', (amSame.refl.up (by simp [fKe])).trans m1, ?_⟩
      have hgo : e_X1_worth_34 d t l1 last st.length l5 i u7 u8 u9 M = e_X1_worth_34 d t l1 (if k = 0 then v else lk v.toNat) ((if k = 0 then v else lk v.toNat) :: st).length l5 ((i + 1 : Nat) : Int) (vI (if k = 0 then 1 else 2)) (vI v) u9 (amUp M 102 t st.length last) := by
        rw [q_X1_worth_34, if_neg (by omega), if_pos (by omega), if_pos ⟨by omega, by omega⟩, if_pos ⟨by omega, by omega⟩]
        rw [tn_cast, hshr]
        have h91 : ∀ z : Int, z = 1 ∨ z = 2 → (z = 1 ↔ k = 0) → e_X1_worth_91 d t l1 last st.length l5 i z v u9 M = e_X1_worth_34 d t l1 (if k = 0 then v else lk v.toNat) ((if k = 0 then v else lk v.toNat) :: st).length l5 ((i + 1 : Nat) : Int) (vI (if k = 0 then 1 else 2)) (vI v) u9 (amUp M 102 t st.length last) := by
          intro z hz hz2
          rw [q_X1_worth_91, if_neg (by omega), if_pos (by omega), if_pos ⟨by omega, by omega⟩, tn_cast, q_X1_worth_114]
          have e1 : w32 ((st.length : Int) + 1) = (((if k = 0 then v else lk v.toNat) :: st).length : Int) := by
            rw [w32_id (by omega) (by omega)]; simp
          have e2 : w32 ((i : Int) + 1) = ((i + 1 : Nat) : Int) := by rw [w32_id (by omega) (by omega)]; omega
          rw [e1, e2]
          by_cases hk0 : k = 0
          · rw [if_pos (hz2.mpr hk0), hz2.mpr hk0, if_pos hk0, if_pos hk0]
          · have hz1 : z = 2 := by
              rcases hz with h | h
              · exact absurd (hz2.mp h) hk0
              · exact h
            have g4 := g3 (by omega)
            rw [if_neg (by omega), if_neg (by omega), if_pos g4.2, if_pos ⟨g4.1, g4.2⟩, up_c (by decide), hl _ (by omega), hz1, if_neg hk0, if_neg hk0]
        by_cases hk0 : k = 0
        · rw [if_pos hk0] at hand
          rw [hand, if_neg (by decide), if_pos rfl]
          exact (h91 1 (Or.inl rfl) ⟨fun _ => hk0, fun _ => rfl⟩)
        · rw [if_neg hk0, if_pos (by omega)] at hand
          rw [hand, if_neg (by decide), if_neg (by decide), if_pos rfl]
          exact (h91 2 (Or.inr rfl) ⟨fun q => by omega, fun q => absurd q hk0⟩)
      rw [hx]
      split
      · rename_i st' he
        rw [he] at m2
        obtain ⟨last', w7, w8, w9, n1, n2⟩ := m2
        exact ⟨last', w7, w8, w9, by rw [hgo, n1, hlast], n2⟩
      · rename_i he
        rw [he] at m2
        rw [hgo]; exact m2
    · -- an operation
      have hh2 : 2 ≤ st.length ∧ exH B r (st.length - 1) = some h := by
        unfold exH at hh
        split at hh
        · omega
        · split at hh
          · omega
          · split at hh
            · rename_i q; exact ⟨q.2, hh⟩
            · cases hh
      match st, hh2, hp, hst with
      | [], hh2, _, _ => exact absurd hh2.1 (by simp)
      | [_], hh2, _, _ => exact absurd hh2.1 (by simp)
      | b :: a :: rest, hh2, hp, hst =>
        obtain ⟨hb, hp2⟩ := hp
        obtain ⟨hka, hke⟩ := hp2
        subst hb
        have hL : (last :: a :: rest).length = rest.length + 2 := rfl
        rw [hL] at hst
        have hand2 : bAnd (M 100 t i) 7 = (k : Int) + 2 := by rw [hand, if_neg (by omega), if_neg (by omega)]
        obtain ⟨hgo, hno⟩ := c_op (d := d) (t := t) (n := rest.length) (k := k) (i := i) (l1 := l1) (l5 := l5) (last := last) (a := a) (u7 := u7) (u8 := u8) (u9 := u9) (M := M) (by omega) ⟨by omega, hk6⟩ hand2 hka (by omega)
        have hx : exRun lk ((k, v) :: r) (last :: a :: rest) = match exOp k a last with
          | some c => exRun lk r (c :: rest)
          | none => none := by
          show (if k = 0 then _ else if k = 1 then _ else _) = _
          rw [if_neg (by omega), if_neg (by omega)]
          rfl
        cases hc : exOp k a last with
        | none =>
          rw [hc] at hx
          have hx : exRun lk ((k, v) :: r) (last :: a :: rest) = none := hx
          refine ⟨M, amSame.refl, ?_⟩
          rw [hx]
          exact hno hc
        | some c =>
          rw [hc] at hx
          have hx : exRun lk ((k, v) :: r) (last :: a :: rest) = exRun lk r (c :: rest) := hx
          obtain ⟨M', m1, m2⟩ := c_exp (d := d) (t := t) (B := B) (l1 := l1) (l5 := l5) (C := C) (lk := lk) r (i + 1) (c :: rest) c (vI ((k : Int) + 2)) (vI (bShr (M 100 t i) 3)) (vI a) M hC hl ha2 (by omega) hB (by show rest.length + 1 ≤ B; omega) ⟨h, hh2.2⟩ hv1 ⟨rfl, hke⟩
          refine ⟨M', m1, ?_⟩
          rw [hx]
          split
          · rename_i st' he
            rw [he] at m2
            obtain ⟨last', w7, w8, w9, n1, n2⟩ := m2
            exact ⟨last', w7, w8, w9, by rw [hlast]; exact (hgo c hc).trans n1, n2⟩
          · rename_i he
            rw [he] at m2
            exact (hgo c hc).trans m2
