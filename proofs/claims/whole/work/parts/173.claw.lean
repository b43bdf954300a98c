/-! PURE: the laws in the class, as rows of commands -/
def cCmd (x : Nat × Int) : Int := if x.1 = 0 then 1 + 8 * x.2 else if x.1 = 1 then 2 + 8 * x.2 else (x.1 : Int) + 2
def cAt (C : Rw) : Nat → Ex → Prop
  | _, [] => True
  | i, x :: r => C i = cCmd x ∧ cAt C (i + 1) r
def cLw (C : Rw) : Nat → List (Ex × Ex × Ex) → Ex → Prop
  | i, [], e => cAt C i e ∧ C (i + e.length) = 0
  | i, (a, b, c) :: r, e => cAt C i a ∧ cAt C (i + a.length) b ∧ C (i + a.length + b.length) = 3 + 8 * ((i + a.length + b.length + c.length + 2 : Nat) : Int) ∧ cAt C (i + a.length + b.length + 1) c ∧ C (i + a.length + b.length + 1 + c.length) = 0 ∧ cLw C (i + a.length + b.length + c.length + 2) r e
/-- what lies under the top of the pile -/
def cKe (K : Rw) : List Int → Prop
  | [] => True
  | v :: r => K (r.length + 1) = v ∧ cKe K r
def cPi (K : Rw) (st : List Int) (last : Int) : Prop := match st with
  | [] => True
  | v :: r => last = v ∧ cKe K r
theorem cKe_up {K : Rw} {j : Nat} {v : Int} : ∀ {r : List Int}, cKe K r → r.length < j → cKe (fun i => if i = j then v else K i) r
  | [], _, _ => trivial
  | x :: r, h, hj => by
    have hj : r.length + 1 < j := hj
    exact ⟨by show (if r.length + 1 = j then v else K (r.length + 1)) = x; rw [if_neg (by omega)]; exact h.1, cKe_up h.2 (by omega)⟩
theorem cPi_push {K : Rw} {st : List Int} {last v : Int} (h : cPi K st last) : cKe (fun i => if i = st.length then last else K i) st := by
  cases st with
  | nil => trivial
  | cons x r => exact ⟨by show (if r.length + 1 = (x :: r).length then last else _) = x; rw [if_pos rfl]; exact h.1, cKe_up h.2 (by show r.length < r.length + 1; omega)⟩
/-- the class's memory while a law is run: all but the pile stands -/
def fKe (t : Nat) : Nat → Nat → Nat → Bool := fun c s _ => c == 102 && s == t
theorem cCmd_b {x : Nat × Int} (h1 : x.1 < 6) (h2 : 0 ≤ x.2 ∧ x.2 < 10000) : 0 ≤ cCmd x ∧ cCmd x < 100000 ∧ cCmd x % 8 = (if x.1 = 0 then 1 else if x.1 = 1 then 2 else (x.1 : Int) + 2) ∧ (x.1 < 2 → cCmd x / 8 = x.2) := by
  unfold cCmd
  split
  · refine ⟨by omega, by omega, by omega, fun _ => by omega⟩
  · split
    · refine ⟨by omega, by omega, by omega, fun _ => by omega⟩
    · refine ⟨by omega, by omega, by omega, fun _ => by omega⟩
/-- one expression: its value on the pile, or all is 0 -/
theorem c_exp {d t B : Nat} {l1 l5 : Int} {C : Rw} {lk : Nat → Int} : ∀ (e : Ex) (i : Nat) (st : List Int) (last : Int) (u7 u8 u9 : AmV) (M : AmM), (∀ j, j < 401 → M 100 t j = C j) → (∀ j, j < 7 → M 125 0 j = lk j) → cAt C i e → i + e.length ≤ 400 → B ≤ 23 → st.length ≤ B → (∃ h, exH B e st.length = some h) → (∀ x ∈ e, 0 ≤ x.2 ∧ x.2 < 10000) → cPi (M 102 t) st last →
    ∃ M', amSame (fKe t) M M' ∧ match exRun lk e st with
      | some st' => ∃ last' w7 w8 w9, e_X1_worth_34 d t l1 last st.length l5 i u7 u8 u9 M = e_X1_worth_34 d t l1 last' st'.length l5 (i + e.length : Nat) w7 w8 w9 M' ∧ cPi (M' 102 t) st' last'
      | none => e_X1_worth_34 d t l1 last st.length l5 i u7 u8 u9 M = some (vI 0, M')
  | [], i, st, last, u7, u8, u9, M, hC, hl, ha, hi, hB, hst, hh, hv, hp => ⟨M, amSame.refl, last, u7, u8, u9, rfl, hp⟩
  | (k, v) :: r, i, st, last, u7, u8, u9, M, hC, hl, ha, hi, hB, hst, hh, hv, hp => by
    have hi : i + (r.length + 1) ≤ 400 := hi
    obtain ⟨h, hh⟩ := hh
    obtain ⟨ha1, ha2⟩ := ha
    have hv0 := hv (k, v) (by simp)
    have hv1 : ∀ x ∈ r, 0 ≤ x.2 ∧ x.2 < 10000 := fun x hx => hv x (by simp [hx])
    have hcm : M 100 t i = cCmd (k, v) := (hC i (by omega)).trans ha1
    have hk6 : k < 6 := by
      unfold exH at hh
      split at hh
      · omega
      · split at hh
        · omega
        · split at hh
          · omega
          · cases hh
    obtain ⟨b1, b2, b3, b4⟩ := cCmd_b (x := (k, v)) hk6 hv0
    have hand : bAnd (M 100 t i) 7 = (if k = 0 then 1 else if k = 1 then 2 else (k : Int) + 2) := by rw [hcm, bAnd_7 b1 (by omega), b3]
    have hlen : e_X1_worth_34 d t l1 last st.length l5 i u7 u8 u9 M = e_X1_worth_34 d t l1 last st.length l5 i u7 u8 u9 M := rfl
    have hlast : (i + ((k, v) :: r).length : Nat) = (i + 1 + r.length : Nat) := by show i + (r.length + 1) = _; omega
    by_cases hk : k < 2
    · -- a number or a look
      have hshr : bShr (M 100 t i) 3 = v := by rw [hcm, bShr_3 b1 (by omega)]; exact b4 hk
      have hs2 : st.length < B ∧ exH B r (st.length + 1) = some h ∧ (k = 1 → 0 ≤ v ∧ v < 7) := by
        unfold exH at hh
        split at hh
        · split at hh
          · exact ⟨by assumption, hh, fun q => by omega⟩
          · cases hh
        · split at hh
          · split at hh
            · rename_i q; exact ⟨q.1, hh, fun _ => q.2⟩
            · cases hh
          · omega
      obtain ⟨g1, g2, g3⟩ := hs2
      have hx : exRun lk ((k, v) :: r) st = exRun lk r ((if k = 0 then v else lk v.toNat) :: st) := by
        show (if k = 0 then exRun lk r (v :: st) else if k = 1 then exRun lk r (lk v.toNat :: st) else _) = _
        by_cases hk0 : k = 0
        · rw [if_pos hk0, if_pos hk0]
        · rw [if_neg hk0, if_pos (by omega), if_neg hk0]
      have hM1 : ∀ j, amUp M 102 t st.length last 102 t j = if j = st.length then last else M 102 t j := fun j => up_at
      obtain ⟨M', m1, m2⟩ := c_exp (d := d) (t := t) (l1 := l1) (l5 := l5) (C := C) (lk := lk) r (i + 1) ((if k = 0 then v else lk v.toNat) :: st) (if k = 0 then v else lk v.toNat) (vI (if k = 0 then 1 else 2)) (vI v) u9 (amUp M 102 t st.length last)
        (fun j hj => by rw [up_c (by decide)]; exact hC j hj) (fun j hj => by rw [up_c (by decide)]; exact hl j hj) ha2 (by omega) hB (by show st.length + 1 ≤ B; omega) ⟨h, g2⟩ hv1 ⟨rfl, by
          have h9 := cPi_push (v := 0) hp
          have e : amUp M 102 t st.length last 102 t = fun j => if j = st.length then last else M 102 t j := funext hM1
          rw [e]; exact h9⟩
      refine ⟨M', (amSame.refl.up (by simp [fKe])).trans m1, ?_⟩
      have hgo : e_X1_worth_34 d t l1 last st.length l5 i u7 u8 u9 M = e_X1_worth_34 d t l1 (if k = 0 then v else lk v.toNat) ((if k = 0 then v else lk v.toNat) :: st).length l5 ((i + 1 : Nat) : Int) (vI (if k = 0 then 1 else 2)) (vI v) u9 (amUp M 102 t st.length last) := by
        rw [q_X1_worth_34, if_neg (by omega), if_pos (by omega), if_pos ⟨by omega, by omega⟩, if_pos ⟨by omega, by omega⟩]
        rw [tn_cast, hand, hshr]
        have h91 : ∀ z : Int, z = 1 ∨ z = 2 → (z = 1 ↔ k = 0) → e_X1_worth_91 d t l1 last st.length l5 i z v u9 M = e_X1_worth_34 d t l1 (if k = 0 then v else lk v.toNat) ((if k = 0 then v else lk v.toNat) :: st).length l5 ((i + 1 : Nat) : Int) (vI (if k = 0 then 1 else 2)) (vI v) u9 (amUp M 102 t st.length last) := by
          intro z hz hz2
          rw [q_X1_worth_91, if_neg (by omega), if_pos (by omega), if_pos ⟨by omega, by omega⟩, tn_cast, q_X1_worth_114]
          have e1 : w32 ((st.length : Int) + 1) = (((if k = 0 then v else lk v.toNat) :: st).length : Int) := by
            rw [w32_id (by omega) (by omega)]; simp
          have e2 : w32 ((i : Int) + 1) = ((i + 1 : Nat) : Int) := by rw [w32_id (by omega) (by omega)]; omega
          rw [e1, e2]
          by_cases hk0 : k = 0
          · rw [if_pos (hz2.mpr hk0), hz2.mpr hk0, if_pos hk0, if_pos hk0]
          · have hz1 : z = 2 := by
              rcases hz with h | h
              · exact absurd (hz2.mp h) hk0
              · exact h
            have g4 := g3 (by omega)
            rw [if_neg (by omega), if_neg (by omega), if_pos g4.2, if_pos ⟨g4.1, g4.2⟩, up_c (by decide), hl _ (by omega), hz1, if_neg hk0, if_neg hk0]
        by_cases hk0 : k = 0
        · rw [if_pos hk0, if_neg (by omega), if_pos rfl]
          exact (h91 1 (Or.inl rfl) ⟨fun _ => hk0, fun _ => rfl⟩)
        · rw [if_neg hk0, if_pos (by omega), if_neg (by omega), if_neg (by omega), if_pos rfl]
          exact (h91 2 (Or.inr rfl) ⟨fun q => by omega, fun q => absurd q hk0⟩)
      rw [hx]
      split
      · rename_i st' he
        rw [he] at m2
        obtain ⟨last', w7, w8, w9, n1, n2⟩ := m2
        exact ⟨last', w7, w8, w9, by rw [hgo, n1, hlast], n2⟩
      · rename_i he
        rw [he] at m2
        rw [hgo]; exact m2
    · -- an operation
      have hh2 : 2 ≤ st.length ∧ exH B r (st.length - 1) = some h := by
        unfold exH at hh
        split at hh
        · omega
        · split at hh
          · omega
          · split at hh
            · rename_i q; exact ⟨q.2, hh⟩
            · cases hh
      match st, hh2, hp, hst with
      | [], hh2, _, _ => exact absurd hh2.1 (by simp)
      | [_], hh2, _, _ => exact absurd hh2.1 (by simp)
      | b :: a :: rest, hh2, hp, hst =>
        obtain ⟨hb, hp2⟩ := hp
        obtain ⟨hka, hke⟩ := hp2
        subst hb
        have hL : (last :: a :: rest).length = rest.length + 2 := rfl
        rw [hL] at hst
        have hn1 : w32 (((last :: a :: rest).length : Int) + (-1)) = ((rest.length + 1 : Nat) : Int) := by rw [hL, w32_id (by omega) (by omega)]; omega
        have hi1 : w32 ((i : Int) + 1) = ((i + 1 : Nat) : Int) := by rw [w32_id (by omega) (by omega)]; omega
        have hand2 : bAnd (M 100 t i) 7 = (k : Int) + 2 := by rw [hand, if_neg (by omega), if_neg (by omega)]
        have hgo : ∀ c, exOp k a last = some c → e_X1_worth_34 d t l1 last (last :: a :: rest).length l5 i u7 u8 u9 M = e_X1_worth_34 d t l1 c (c :: rest).length l5 ((i + 1 : Nat) : Int) (vI ((k : Int) + 2)) (vI (bShr (M 100 t i) 3)) (vI a) M := by
          intro c hc
          rw [q_X1_worth_34, if_neg (by omega), if_pos (by omega), if_pos ⟨by omega, by omega⟩, if_pos ⟨by omega, by omega⟩]
          simp only [Int.toNat_natCast, hand2, hn1, hka, hi1]
          rw [if_neg (by omega), if_neg (by omega), if_neg (by omega), if_neg (by omega), if_pos (by omega), if_pos ⟨by omega, by omega⟩, if_neg (by omega)]
          unfold exOp at hc
          by_cases h5 : k = 5
          · rw [if_pos (by omega)]
            rw [if_neg (by omega), if_neg (by omega), if_neg (by omega)] at hc
            by_cases h0 : last = 0
            · rw [if_pos h0] at hc; cases hc
            · rw [if_neg h0] at hc
              rw [if_neg h0, if_neg h0]
              cases hc; rfl
          · rw [if_neg (by omega)]
            by_cases h2 : k = 2
            · rw [if_pos h2] at hc
              rw [if_pos (by omega)]
              cases hc; rfl
            · rw [if_neg h2] at hc
              rw [if_neg (by omega)]
              by_cases h3 : k = 3
              · rw [if_pos h3] at hc
                rw [if_pos (by omega)]
                cases hc; rfl
              · rw [if_neg h3, if_pos (by omega)] at hc
                rw [if_neg (by omega)]
                cases hc; rfl
        have hno : exOp k a last = none → e_X1_worth_34 d t l1 last (last :: a :: rest).length l5 i u7 u8 u9 M = some (vI 0, M) := by
          intro hc
          rw [q_X1_worth_34, if_neg (by omega), if_pos (by omega), if_pos ⟨by omega, by omega⟩, if_pos ⟨by omega, by omega⟩]
          simp only [Int.toNat_natCast, hand2, hn1, hka, hi1]
          rw [if_neg (by omega), if_neg (by omega), if_neg (by omega), if_neg (by omega), if_pos (by omega), if_pos ⟨by omega, by omega⟩, if_neg (by omega)]
          unfold exOp at hc
          by_cases h2 : k = 2
          · rw [if_pos h2] at hc; cases hc
          · by_cases h3 : k = 3
            · rw [if_neg h2, if_pos h3] at hc; cases hc
            · by_cases h4 : k = 4
              · rw [if_neg h2, if_neg h3, if_pos h4] at hc; cases hc
              · rw [if_neg h2, if_neg h3, if_neg h4] at hc
                by_cases h0 : last = 0
                · rw [if_pos (by omega), if_pos h0]
                · rw [if_neg h0] at hc; cases hc
        have hx : exRun lk ((k, v) :: r) (last :: a :: rest) = match exOp k a last with
          | some c => exRun lk r (c :: rest)
          | none => none := by
          show (if k = 0 then _ else if k = 1 then _ else _) = _
          rw [if_neg (by omega), if_neg (by omega)]
        cases hc : exOp k a last with
        | none =>
          rw [hc] at hx
          have hx : exRun lk ((k, v) :: r) (last :: a :: rest) = none := hx
          refine ⟨M, amSame.refl, ?_⟩
          rw [hx]
          exact hno hc
        | some c =>
          rw [hc] at hx
          have hx : exRun lk ((k, v) :: r) (last :: a :: rest) = exRun lk r (c :: rest) := hx
          obtain ⟨M', m1, m2⟩ := c_exp (d := d) (t := t) (B := B) (l1 := l1) (l5 := l5) (C := C) (lk := lk) r (i + 1) (c :: rest) c (vI ((k : Int) + 2)) (vI (bShr (M 100 t i) 3)) (vI a) M hC hl ha2 (by omega) hB (by show rest.length + 1 ≤ B; omega) ⟨h, hh2.2⟩ hv1 ⟨rfl, hke⟩
          refine ⟨M', m1, ?_⟩
          rw [hx]
          split
          · rename_i st' he
            rw [he] at m2
            obtain ⟨last', w7, w8, w9, n1, n2⟩ := m2
            exact ⟨last', w7, w8, w9, by rw [hgo c hc, n1, hlast], n2⟩
          · rename_i he
            rw [he] at m2
            rw [hgo c hc]; exact m2
theorem exRun_len {lk : Nat → Int} {B : Nat} : ∀ (e : Ex) (st st' : List Int) (h : Nat), exH B e st.length = some h → exRun lk e st = some st' → st'.length = h
  | [], st, st', h, h1, h2 => by
    have h1 : some st.length = some h := h1
    have h2 : some st = some st' := h2
    cases h1; cases h2; rfl
  | (k, v) :: r, st, st', h, h1, h2 => by
    unfold exH at h1
    unfold exRun at h2
    split at h1
    · rename_i hk
      rw [if_pos hk] at h2
      split at h1
      · exact exRun_len r _ _ _ h1 h2
      · cases h1
    · rename_i hk
      rw [if_neg hk] at h2
      split at h1
      · rename_i hk1
        rw [if_pos hk1] at h2
        split at h1
        · exact exRun_len r _ _ _ h1 h2
        · cases h1
      · rename_i hk1
        rw [if_neg hk1] at h2
        split at h1
        · split at h2
          · rename_i b a st2
            split at h2
            · exact exRun_len r _ _ _ h1 h2
            · cases h2
          · cases h2
        · cases h1
theorem exH_shift {B u : Nat} : ∀ (e : Ex) (h h' : Nat), exH B e h = some h' → exH (B + u) e (h + u) = some (h' + u)
  | [], h, h', h1 => by
    have h1 : some h = some h' := h1
    cases h1; rfl
  | (k, v) :: r, h, h', h1 => by
    unfold exH at h1 ⊢
    split at h1
    · rename_i hk
      rw [if_pos hk]
      split at h1
      · rename_i hb
        rw [if_pos (by omega), show h + u + 1 = h + 1 + u by omega]
        exact exH_shift r _ _ h1
      · cases h1
    · rename_i hk
      rw [if_neg hk]
      split at h1
      · rename_i hk1
        rw [if_pos hk1]
        split at h1
        · rename_i hb
          rw [if_pos ⟨by omega, hb.2⟩, show h + u + 1 = h + 1 + u by omega]
          exact exH_shift r _ _ h1
        · cases h1
      · rename_i hk1
        rw [if_neg hk1]
        split at h1
        · rename_i hb
          rw [if_pos ⟨hb.1, by omega⟩, show h + u - 1 = h - 1 + u by omega]
          exact exH_shift r _ _ h1
        · cases h1
theorem exRun_app {lk : Nat → Int} {B : Nat} {u : List Int} : ∀ (e : Ex) (st : List Int) (h : Nat), exH B e st.length = some h → exRun lk e (st ++ u) = (exRun lk e st).map (· ++ u)
  | [], st, h, _ => rfl
  | (k, v) :: r, st, h, h1 => by
    unfold exH at h1
    unfold exRun
    split at h1
    · rename_i hk
      rw [if_pos hk, if_pos hk]
      split at h1
      · exact exRun_app r (v :: st) h h1
      · cases h1
    · rename_i hk
      rw [if_neg hk, if_neg hk]
      split at h1
      · rename_i hk1
        rw [if_pos hk1, if_pos hk1]
        split at h1
        · exact exRun_app r (lk v.toNat :: st) h h1
        · cases h1
      · rename_i hk1
        rw [if_neg hk1, if_neg hk1]
        split at h1
        · rename_i hb
          match st, hb, h1 with
          | [], hb, _ => exact absurd hb.2 (by simp)
          | [_], hb, _ => exact absurd hb.2 (by simp)
          | b :: a :: st2, hb, h1 =>
            show (match exOp k a b with
              | some c => exRun lk r (c :: (st2 ++ u))
              | none => none) = Option.map _ (match exOp k a b with
              | some c => exRun lk r (c :: st2)
              | none => none)
            cases exOp k a b with
            | none => rfl
            | some c => exact exRun_app r (c :: st2) h h1
        · cases h1
theorem exVal_of {lk : Nat → Int} {e : Ex} (h : exOk e) : (∃ v, exRun lk e [] = some [v] ∧ exVal lk e = some v) ∨ (exRun lk e [] = none ∧ exVal lk e = none) := by
  unfold exVal
  cases hr : exRun lk e [] with
  | none => exact Or.inr ⟨rfl, rfl⟩
  | some st =>
    have hl := exRun_len e [] st 1 h.1 hr
    match st, hl with
    | [v], _ => exact Or.inl ⟨v, rfl, rfl⟩
/-- a law: its rows of commands give its value; 0, if it is broken -/
theorem c_law {d t : Nat} {l1 l5 : Int} {C : Rw} {lk : Nat → Int} : ∀ (l : List (Ex × Ex × Ex)) (e : Ex) (i : Nat) (last : Int) (u7 u8 u9 : AmV) (M : AmM), (∀ j, j < 401 → M 100 t j = C j) → (∀ j, j < 7 → M 125 0 j = lk j) → cLw C i l e → i + lwLen l e ≤ 401 → lwOk (l, e) →
    ∃ M', amSame (fKe t) M M' ∧ e_X1_worth_34 d t l1 last 0 l5 i u7 u8 u9 M = some (vI ((lwVal lk l e).getD 0), M')
  | [], e, i, last, u7, u8, u9, M, hC, hl, ha, hi, hok => by
    have hi : i + (e.length + 1) ≤ 401 := hi
    have hok := hok.2
    obtain ⟨M', m1, m2⟩ := c_exp (d := d) (t := t) (B := 20) (l1 := l1) (l5 := l5) (C := C) (lk := lk) e i [] last u7 u8 u9 M hC hl ha.1 (by omega) (by omega) (by show 0 ≤ 20; omega) ⟨1, hok.1⟩ hok.2 trivial
    refine ⟨M', m1, ?_⟩
    show e_X1_worth_34 d t l1 last (([] : List Int).length : Nat) l5 i u7 u8 u9 M = some (vI ((exVal lk e).getD 0), M')
    rcases exVal_of (lk := lk) hok with ⟨v, h1, h2⟩ | ⟨h1, h2⟩
    · rw [h1] at m2
      obtain ⟨last', w7, w8, w9, n1, n2⟩ := m2
      rw [n1, h2]
      have hlast : last' = v := n2.1
      have hstop : M' 100 t (i + e.length) = 0 := by rw [m1 _ _ _ (by simp [fKe]), hC _ (by omega)]; exact ha.2
      rw [q_X1_worth_34, if_neg (by omega), if_pos (by omega), if_pos ⟨by omega, by omega⟩, if_pos ⟨by omega, by omega⟩]
      simp only [Int.toNat_natCast, hstop]
      rw [if_pos (by rw [bAnd_7 (by omega) (by omega)]; rfl), hlast]
      rfl
    · rw [h1] at m2
      rw [m2, h2]
      rfl
  | (a, b, c) :: l, e, i, last, u7, u8, u9, M, hC, hl, ha, hi, hok => by
    have hi : i + (a.length + b.length + c.length + 2 + lwLen l e) ≤ 401 := hi
    obtain ⟨c1, c2, c3, c4, c5, c6⟩ := ha
    obtain ⟨oa, ob, oc⟩ := hok.1 (a, b, c) (by simp)
    have okr : lwOk (l, e) := ⟨fun q hq => hok.1 q (by simp [hq]), hok.2⟩
    have hpos : 1 ≤ lwLen l e := by cases l with | nil => (unfold lwLen; omega) | cons q l => (unfold lwLen; omega)
    obtain ⟨M1, m1, m2⟩ := c_exp (d := d) (t := t) (B := 20) (l1 := l1) (l5 := l5) (C := C) (lk := lk) a i [] last u7 u8 u9 M hC hl c1 (by omega) (by omega) (by show 0 ≤ 20; omega) ⟨1, oa.1⟩ oa.2 trivial
    show ∃ M', _ ∧ e_X1_worth_34 d t l1 last (([] : List Int).length : Nat) l5 i u7 u8 u9 M = some (vI ((match exVal lk a, exVal lk b with
      | some x, some y => if x < y then exVal lk c else lwVal lk l e
      | _, _ => none).getD 0), M')
    rcases exVal_of (lk := lk) oa with ⟨x, h1, h2⟩ | ⟨h1, h2⟩
    · rw [h1] at m2
      obtain ⟨last1, w7, w8, w9, n1, n2⟩ := m2
      rw [n1, h2]
      have hC1 : ∀ j, j < 401 → M1 100 t j = C j := fun j hj => by rw [m1 _ _ _ (by simp [fKe])]; exact hC j hj
      have hl1 : ∀ j, j < 7 → M1 125 0 j = lk j := fun j hj => by rw [m1 _ _ _ (by simp [fKe])]; exact hl j hj
      have hb1 : exH 21 b ([x] : List Int).length = some 2 := exH_shift (B := 20) (u := 1) b 0 1 ob.1
      obtain ⟨M2, k1, k2⟩ := c_exp (d := d) (t := t) (B := 21) (l1 := l1) (l5 := l5) (C := C) (lk := lk) b (i + a.length) [x] last1 w7 w8 w9 M1 hC1 hl1 c2 (by omega) (by omega) (by show 1 ≤ 21; omega) ⟨2, hb1⟩ ob.2 n2
      have hrb : exRun lk b [x] = (exRun lk b []).map (· ++ [x]) := exRun_app (B := 20) b [] 1 ob.1
      rcases exVal_of (lk := lk) ob with ⟨y, h3, h4⟩ | ⟨h3, h4⟩
      · rw [hrb, h3] at k2
        obtain ⟨last2, y7, y8, y9, p1, p2⟩ := k2
        rw [p1, h4]
        have hC2 : ∀ j, j < 401 → M2 100 t j = C j := fun j hj => by rw [k1 _ _ _ (by simp [fKe])]; exact hC1 j hj
        have hl2 : ∀ j, j < 7 → M2 125 0 j = lk j := fun j hj => by rw [k1 _ _ _ (by simp [fKe])]; exact hl1 j hj
        have hy : last2 = y := p2.1
        have hx : M2 102 t 1 = x := p2.2.1
        subst hy
        have hcmd : M2 100 t (i + a.length + b.length) = 3 + 8 * ((i + a.length + b.length + c.length + 2 : Nat) : Int) := by rw [hC2 _ (by omega)]; exact c3
        have hand : bAnd (M2 100 t (i + a.length + b.length)) 7 = 3 := by rw [hcmd, bAnd_7 (by omega) (by omega)]; omega
        have hshr : bShr (M2 100 t (i + a.length + b.length)) 3 = ((i + a.length + b.length + c.length + 2 : Nat) : Int) := by rw [hcmd, bShr_3 (by omega) (by omega)]; omega
        have hm : w32 (((([last2] ++ [x] : List Int).length : Nat) : Int) + (-1)) = 1 := by show w32 ((2 : Int) + (-1)) = 1; rw [w32_id (by omega) (by omega)]; rfl
        have e1 : w32 (((i + a.length + b.length : Nat) : Int) + 1) = ((i + a.length + b.length + 1 : Nat) : Int) := by rw [w32_id (by omega) (by omega)]; omega
        have e2 : w32 (amMax ((i + a.length + b.length : Nat) : Int) (w32 (((i + a.length + b.length + c.length + 2 : Nat) : Int) - 1)) + 1) = ((i + a.length + b.length + c.length + 2 : Nat) : Int) := by
          rw [w32_id (x := ((i + a.length + b.length + c.length + 2 : Nat) : Int) - 1) (by omega) (by omega)]
          unfold amMax
          rw [if_pos (by omega), w32_id (by omega) (by omega)]
          omega
        have e3 : M2 102 t (1 : Int).toNat = x := hx
        rw [q_X1_worth_34, if_neg (by omega), if_pos (by omega), if_pos ⟨by omega, by omega⟩, if_pos ⟨by omega, by omega⟩]
        simp only [Int.toNat_natCast, hand, hshr, hm, e1, e2, e3]
        rw [if_neg (by omega), if_neg (by omega), if_neg (by omega), if_neg (by omega), if_pos (by omega), if_pos ⟨by omega, by omega⟩, if_pos rfl]
        by_cases hlt : x < last2
        · rw [if_pos hlt]
          obtain ⟨M3, r1, r2⟩ := c_exp (d := d) (t := t) (B := 20) (l1 := l1) (l5 := l5) (C := C) (lk := lk) c (i + a.length + b.length + 1) [] last2 (vI 3) (vI ((i + a.length + b.length + c.length + 2 : Nat) : Int)) (vI x) M2 hC2 hl2 c4 (by omega) (by omega) (by show 0 ≤ 20; omega) ⟨1, oc.1⟩ oc.2 trivial
          refine ⟨M3, (m1.trans k1).trans r1, ?_⟩
          show e_X1_worth_34 d t l1 last2 (([] : List Int).length : Nat) l5 ((i + a.length + b.length + 1 : Nat) : Int) _ _ _ M2 = some (vI ((if x < last2 then exVal lk c else lwVal lk l e).getD 0), M3)
          rw [if_pos hlt]
          rcases exVal_of (lk := lk) oc with ⟨v, h5, h6⟩ | ⟨h5, h6⟩
          · rw [h5] at r2
            obtain ⟨last3, z7, z8, z9, s1, s2⟩ := r2
            rw [s1, h6]
            have hl3 : last3 = v := s2.1
            have hstop : M3 100 t (i + a.length + b.length + 1 + c.length) = 0 := by rw [r1 _ _ _ (by simp [fKe]), hC2 _ (by omega)]; exact c5
            rw [q_X1_worth_34, if_neg (by omega), if_pos (by omega), if_pos ⟨by omega, by omega⟩, if_pos ⟨by omega, by omega⟩]
            simp only [Int.toNat_natCast, hstop]
            rw [if_pos (by rw [bAnd_7 (by omega) (by omega)]; rfl), hl3]
            rfl
          · rw [h5] at r2
            rw [r2, h6]
            rfl
        · rw [if_neg hlt]
          obtain ⟨M3, r1, r2⟩ := c_law (d := d) (t := t) (l1 := l1) (l5 := l5) (C := C) (lk := lk) l e (i + a.length + b.length + c.length + 2) last2 (vI 3) (vI ((i + a.length + b.length + c.length + 2 : Nat) : Int)) (vI x) M2 hC2 hl2 c6 (by omega) okr
          refine ⟨M3, (m1.trans k1).trans r1, ?_⟩
          show _ = some (vI ((if x < last2 then exVal lk c else lwVal lk l e).getD 0), M3)
          rw [if_neg hlt]
          exact r2
      · rw [hrb, h3] at k2
        have k2 : e_X1_worth_34 d t l1 last1 (([x] : List Int).length : Nat) l5 ((i + a.length : Nat) : Int) w7 w8 w9 M1 = some (vI 0, M2) := k2
        refine ⟨M2, m1.trans k1, ?_⟩
        rw [k2, h4]
        rfl
    · rw [h1] at m2
      refine ⟨M1, m1, ?_⟩
      rw [m2, h2]
      rfl
