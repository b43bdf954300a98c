/-! PURE: the laws in the reference -/
def rAt (M : AmM) : Nat → Ex → Prop
  | _, [] => True
  | i, x :: r => (M 154 0 i = x.1 ∧ M 155 0 i = x.2) ∧ rAt M (i + 1) r
def rPi (K : Rw) : List Int → Prop
  | [] => True
  | v :: r => K r.length = v ∧ rPi K r
theorem rPi_up {K : Rw} {j : Nat} {v : Int} : ∀ {r : List Int}, rPi K r → r.length ≤ j → rPi (fun i => if i = j then v else K i) r
  | [], _, _ => trivial
  | x :: r, h, hj => by
    have hj : r.length + 1 ≤ j := hj
    exact ⟨by show (if r.length = j then v else K r.length) = x; rw [if_neg (by omega)]; exact h.1, rPi_up h.2 (by omega)⟩
theorem rPi_put {K : Rw} {v : Int} {r : List Int} (h : rPi K r) : rPi (fun i => if i = r.length then v else K i) (v :: r) := ⟨if_pos rfl, rPi_up h (Nat.le_refl _)⟩
def fTo : Nat → Nat → Nat → Bool := fun c _ _ => c == 158
/-- what asking the reference for wear changes -/
def fRw : Nat → Nat → Nat → Bool := fun c _ j => c == 157 || c == 158 || (c == 12 && j == 47)
theorem rAt.mv {M M' : AmM} (hc : ∀ j, M' 154 0 j = M 154 0 j) (hv : ∀ j, M' 155 0 j = M 155 0 j) : ∀ {i : Nat} {e : Ex}, rAt M i e → rAt M' i e
  | _, [], _ => trivial
  | i, x :: r, h => ⟨⟨by rw [hc]; exact h.1.1, by rw [hv]; exact h.1.2⟩, rAt.mv hc hv h.2⟩
theorem r_exp {d : Nat} {l1 : Int} {T : Nat} {lk : Nat → Int} : ∀ (e : Ex) (i : Nat) (st : List Int) (u5 u6 u7 : AmV) (M : AmM), rAt M i e → (∀ j, j < 7 → M 157 0 j = lk j) → i + e.length ≤ T → T ≤ 840 → st.length ≤ 20 → (∃ h, exH 20 e st.length = some h) → rPi (M 158 0) st →
    ∃ M', amSame fTo M M' ∧ match exRun lk e st with
      | some st' => ∃ w5 w6 w7, e_X12_termOf_5 d l1 T st.length i u5 u6 u7 M = e_X12_termOf_5 d l1 T st'.length (i + e.length : Nat) w5 w6 w7 M' ∧ rPi (M' 158 0) st'
      | none => e_X12_termOf_5 d l1 T st.length i u5 u6 u7 M = some (vI 0, amUp M' 12 0 47 1)
  | [], i, st, u5, u6, u7, M, ha, hl, hi, hT, hst, hh, hp => ⟨M, amSame.refl, u5, u6, u7, rfl, hp⟩
  | (k, v) :: r, i, st, u5, u6, u7, M, ha, hl, hi, hT, hst, hh, hp => by
    have hi : i + (r.length + 1) ≤ T := hi
    obtain ⟨h, hh⟩ := hh
    obtain ⟨⟨hk, hv⟩, ha2⟩ := ha
    have hk : M 154 0 i = (k : Int) := hk
    have hv : M 155 0 i = v := hv
    have hlast : (i + ((k, v) :: r).length : Nat) = (i + 1 + r.length : Nat) := by show i + (r.length + 1) = _; omega
    have hi1 : w32 ((i : Int) + 1) = ((i + 1 : Nat) : Int) := by rw [w32_id (by omega) (by omega)]; omega
    by_cases hk2 : k < 2
    · have hs2 : st.length < 20 ∧ exH 20 r (st.length + 1) = some h ∧ (k = 1 → 0 ≤ v ∧ v < 7) := by
        unfold exH at hh
        split at hh
        · split at hh
          · exact ⟨by assumption, hh, fun q => by omega⟩
          · cases hh
        · split at hh
          · split at hh
            · rename_i q; exact ⟨q.1, hh, fun _ => q.2⟩
            · cases hh
          · omega
      obtain ⟨g1, g2, g3⟩ := hs2
      have hx : exRun lk ((k, v) :: r) st = exRun lk r ((if k = 0 then v else lk v.toNat) :: st) := by
        show (if k = 0 then exRun lk r (v :: st) else if k = 1 then exRun lk r (lk v.toNat :: st) else _) = _
        by_cases hk0 : k = 0
        · rw [if_pos hk0, if_pos hk0]
        · rw [if_neg hk0, if_pos (by omega), if_neg hk0]
      have e1 : w32 ((st.length : Int) + 1) = (((if k = 0 then v else lk v.toNat) :: st).length : Int) := by
        rw [w32_id (by omega) (by omega)]; simp
      obtain ⟨M', m1, m2⟩ := r_exp (d := d) (l1 := l1) (T := T) (lk := lk) r (i + 1) ((if k = 0 then v else lk v.toNat) :: st) (vI k) u6 u7 (amUp M 158 0 st.length (if k = 0 then v else lk v.toNat))
        (ha2.mv (fun j => up_c (by decide)) (fun j => up_c (by decide))) (fun j hj => by rw [up_c (by decide)]; exact hl j hj) (by omega) hT (by show st.length + 1 ≤ 20; omega) ⟨h, g2⟩ (by
          have e : amUp M 158 0 st.length (if k = 0 then v else lk v.toNat) 158 0 = fun j => if j = st.length then (if k = 0 then v else lk v.toNat) else M 158 0 j := funext fun j => up_at
          rw [e]; exact rPi_put hp)
      refine ⟨M', (amSame.refl.up (by simp [fTo])).trans m1, ?_⟩
      have hgo : e_X12_termOf_5 d l1 T st.length i u5 u6 u7 M = e_X12_termOf_5 d l1 T ((if k = 0 then v else lk v.toNat) :: st).length ((i + 1 : Nat) : Int) (vI k) u6 u7 (amUp M 158 0 st.length (if k = 0 then v else lk v.toNat)) := by
        rw [q_X12_termOf_5, if_pos (by omega), if_pos ⟨by omega, by omega⟩]
        simp only [Int.toNat_natCast, hk, hv, hi1, e1]
        rw [if_pos (by omega)]
        by_cases hk0 : k = 0
        · rw [if_pos (by omega), if_pos ⟨by omega, by omega⟩, if_pos ⟨by omega, by omega⟩, if_pos hk0]
        · have g4 := g3 (by omega)
          rw [if_neg (by omega), if_pos ⟨by omega, by omega⟩, if_pos g4, if_pos ⟨by omega, by omega⟩, if_neg hk0, hl _ (by omega)]
      rw [hx]
      split
      · rename_i st' he
        rw [he] at m2
        obtain ⟨w5, w6, w7, n1, n2⟩ := m2
        exact ⟨w5, w6, w7, by rw [hgo, n1, hlast], n2⟩
      · rename_i he
        rw [he] at m2
        rw [hgo]; exact m2
    · have hh2 : 2 ≤ st.length ∧ k < 6 ∧ exH 20 r (st.length - 1) = some h := by
        unfold exH at hh
        split at hh
        · omega
        · split at hh
          · omega
          · split at hh
            · rename_i q; exact ⟨q.2, q.1, hh⟩
            · cases hh
      match st, hh2, hp, hst with
      | [], hh2, _, _ => exact absurd hh2.1 (by simp)
      | [_], hh2, _, _ => exact absurd hh2.1 (by simp)
      | b :: a :: rest, hh2, hp, hst =>
        obtain ⟨hkb, hka, hke⟩ := hp
        have hkb : M 158 0 (rest.length + 1) = b := hkb
        have hL : (b :: a :: rest).length = rest.length + 2 := rfl
        rw [hL] at hst
        have hn1 : w32 (((b :: a :: rest).length : Int) + (-1)) = ((rest.length + 1 : Nat) : Int) := by rw [hL, w32_id (by omega) (by omega)]; omega
        have hn2 : w32 (((rest.length + 1 : Nat) : Int) - 1) = ((rest.length : Nat) : Int) := by rw [w32_id (by omega) (by omega)]; omega
        have hgo : ∀ c, exOp k a b = some c → e_X12_termOf_5 d l1 T (b :: a :: rest).length i u5 u6 u7 M = e_X12_termOf_5 d l1 T (c :: rest).length ((i + 1 : Nat) : Int) (vI k) (vI a) (vI b) (amUp M 158 0 rest.length c) := by
          intro c hc
          have h104 : e_X12_termOf_104 d l1 T ((rest.length + 1 : Nat) : Int) i k a b M = e_X12_termOf_5 d l1 T (c :: rest).length ((i + 1 : Nat) : Int) (vI k) (vI a) (vI b) (amUp M 158 0 rest.length c) := by
            unfold exOp at hc
            rw [q_X12_termOf_104, hn2, hi1]
            simp only [Int.toNat_natCast]
            by_cases h2 : k = 2
            · rw [if_pos h2] at hc
              rw [if_pos (by omega), if_pos ⟨by omega, by omega⟩]
              cases hc; rfl
            · rw [if_neg h2] at hc
              rw [if_neg (by omega)]
              by_cases h3 : k = 3
              · rw [if_pos h3] at hc
                rw [if_pos (by omega), if_pos ⟨by omega, by omega⟩]
                cases hc; rfl
              · rw [if_neg h3] at hc
                rw [if_neg (by omega)]
                by_cases h4 : k = 4
                · rw [if_pos h4] at hc
                  rw [if_pos (by omega), if_pos ⟨by omega, by omega⟩]
                  cases hc; rfl
                · rw [if_neg h4] at hc
                  rw [if_neg (by omega)]
                  by_cases h0 : b = 0
                  · rw [if_pos h0] at hc; cases hc
                  · rw [if_neg h0] at hc
                    rw [if_neg h0, if_pos ⟨by omega, by omega⟩]
                    cases hc; rfl
          rw [q_X12_termOf_5, if_pos (by omega), if_pos ⟨by omega, by omega⟩]
          simp only [Int.toNat_natCast, hk, hn1, hn2, hka, hkb]
          rw [if_neg (by omega), if_pos ⟨by omega, by omega⟩, if_pos ⟨by omega, by omega⟩]
          by_cases h5 : k = 5
          · rw [if_pos (by omega)]
            by_cases h0 : b = 0
            · unfold exOp at hc
              rw [if_neg (by omega), if_neg (by omega), if_neg (by omega), if_pos h0] at hc
              cases hc
            · rw [if_neg h0]; exact h104
          · rw [if_neg (by omega)]; exact h104
        have hno : exOp k a b = none → e_X12_termOf_5 d l1 T (b :: a :: rest).length i u5 u6 u7 M = some (vI 0, amUp M 12 0 47 1) := by
          intro hc
          rw [q_X12_termOf_5, if_pos (by omega), if_pos ⟨by omega, by omega⟩]
          simp only [Int.toNat_natCast, hk, hn1, hn2, hka, hkb]
          rw [if_neg (by omega), if_pos ⟨by omega, by omega⟩, if_pos ⟨by omega, by omega⟩]
          unfold exOp at hc
          by_cases h2 : k = 2
          · rw [if_pos h2] at hc; cases hc
          · by_cases h3 : k = 3
            · rw [if_neg h2, if_pos h3] at hc; cases hc
            · by_cases h4 : k = 4
              · rw [if_neg h2, if_neg h3, if_pos h4] at hc; cases hc
              · rw [if_neg h2, if_neg h3, if_neg h4] at hc
                by_cases h0 : b = 0
                · rw [if_pos (by omega), if_pos h0]
                · rw [if_neg h0] at hc; cases hc
        have hx : exRun lk ((k, v) :: r) (b :: a :: rest) = match exOp k a b with
          | some c => exRun lk r (c :: rest)
          | none => none := by
          show (if k = 0 then _ else if k = 1 then _ else _) = _
          rw [if_neg (by omega), if_neg (by omega)]
          rfl
        cases hc : exOp k a b with
        | none =>
          rw [hc] at hx
          have hx : exRun lk ((k, v) :: r) (b :: a :: rest) = none := hx
          refine ⟨M, amSame.refl, ?_⟩
          rw [hx]
          exact hno hc
        | some c =>
          rw [hc] at hx
          have hx : exRun lk ((k, v) :: r) (b :: a :: rest) = exRun lk r (c :: rest) := hx
          obtain ⟨M', m1, m2⟩ := r_exp (d := d) (l1 := l1) (T := T) (lk := lk) r (i + 1) (c :: rest) (vI k) (vI a) (vI b) (amUp M 158 0 rest.length c) (ha2.mv (fun j => up_c (by decide)) (fun j => up_c (by decide))) (fun j hj => by rw [up_c (by decide)]; exact hl j hj) (by omega) hT (by show rest.length + 1 ≤ 20; omega) ⟨h, hh2.2.2⟩ (by
            have e : amUp M 158 0 rest.length c 158 0 = fun j => if j = rest.length then c else M 158 0 j := funext fun j => up_at
            rw [e]; exact rPi_put hke)
          refine ⟨M', (amSame.refl.up (by simp [fTo])).trans m1, ?_⟩
          rw [hx]
          split
          · rename_i st' he
            rw [he] at m2
            obtain ⟨w5, w6, w7, n1, n2⟩ := m2
            exact ⟨w5, w6, w7, by rw [hgo c hc, n1, hlast], n2⟩
          · rename_i he
            rw [he] at m2
            rw [hgo c hc]; exact m2
/-- a term's value; if it is broken, 0, and that is noted -/
theorem r_termOf {D : Nat} (hD : 1 ≤ D) {e : Ex} {i : Nat} {lk : Nat → Int} {M : AmM} (ha : rAt M i e) (hl : ∀ j, j < 7 → M 157 0 j = lk j) (hi : i + e.length ≤ 840) (hok : exOk e) :
    ∃ M', amD amGst D 178 [vR 12 12 0, vI i, vI (i + e.length : Nat)] M = some (vI ((exVal lk e).getD 0), M') ∧ amSame (fun c _ j => c == 158 || (c == 12 && j == 47)) M M' ∧ M' 12 0 47 = (match exVal lk e with
      | some _ => M 12 0 47
      | none => 1) := by
  obtain ⟨d, rfl⟩ := dS hD
  obtain ⟨M', m1, m2⟩ := r_exp (d := d) (l1 := i) (T := i + e.length) (lk := lk) e i [] vU vU vU M ha hl (Nat.le_refl _) hi (by show 0 ≤ 20; omega) ⟨1, hok.1⟩ trivial
  have hs : amSame (fun c _ j => c == 158 || (c == 12 && j == 47)) M M' := m1.mono fun c s j h => by
    have h : (c == 158) = true := h
    show (c == 158 || _) = true
    rw [h]; rfl
  rw [n_X12_termOf, q_X12_termOf_0]
  rcases exVal_of (lk := lk) hok with ⟨v, h1, h2⟩ | ⟨h1, h2⟩
  · rw [h1] at m2
    obtain ⟨w5, w6, w7, n1, n2⟩ := m2
    refine ⟨M', ?_, hs, ?_⟩
    · have n1 : e_X12_termOf_5 d i (i + e.length : Nat) 0 i vU vU vU M = e_X12_termOf_5 d i (i + e.length : Nat) (1 : Nat) (i + e.length : Nat) w5 w6 w7 M' := n1
      rw [n1, q_X12_termOf_5, if_neg (by omega), if_pos ⟨by decide, by decide⟩, h2]
      have n3 : M' 158 0 0 = v := n2.1
      rw [n3]; rfl
    · rw [h2]; exact m1 _ _ _ (by rfl)
  · rw [h1] at m2
    refine ⟨amUp M' 12 0 47 1, ?_, hs.up (by simp), ?_⟩
    · have m2 : e_X12_termOf_5 d i (i + e.length : Nat) 0 i vU vU vU M = some (vI 0, amUp M' 12 0 47 1) := m2
      rw [m2, h2]; rfl
    · rw [h2, up_on]
def rBr (M : AmM) (b : Nat) (q : Ex × Ex × Ex) : Prop := M 149 0 b = 1 ∧ ∃ x : Nat, M 150 0 b = x ∧ M 151 0 b = (x + q.1.length : Nat) ∧ M 152 0 b = (x + q.1.length + q.2.1.length : Nat) ∧ M 153 0 b = (x + q.1.length + q.2.1.length + q.2.2.length : Nat) ∧ x + q.1.length + q.2.1.length + q.2.2.length ≤ 840 ∧ rAt M x q.1 ∧ rAt M (x + q.1.length) q.2.1 ∧ rAt M (x + q.1.length + q.2.1.length) q.2.2
def rEn (M : AmM) (b : Nat) (e : Ex) : Prop := M 149 0 b = 0 ∧ ∃ x : Nat, M 152 0 b = x ∧ M 153 0 b = (x + e.length : Nat) ∧ x + e.length ≤ 840 ∧ rAt M x e
def rLw (M : AmM) : Nat → List (Ex × Ex × Ex) → Ex → Prop
  | f, [], e => rEn M f e
  | f, q :: r, e => rBr M f q ∧ rLw M (f + 1) r e
/-- the cells that laws lie in -/
def sLw : Nat → Bool := fun c => c == 149 || c == 150 || c == 151 || c == 152 || c == 153 || c == 154 || c == 155
theorem rBr.mv {M M' : AmM} {b : Nat} {q : Ex × Ex × Ex} (hs : ∀ c j, sLw c = true → M' c 0 j = M c 0 j) (h : rBr M b q) : rBr M' b q := by
  obtain ⟨h1, x, h2, h3, h4, h5, h6, h7, h8, h9⟩ := h
  exact ⟨by rw [hs _ _ rfl]; exact h1, x, by rw [hs _ _ rfl]; exact h2, by rw [hs _ _ rfl]; exact h3, by rw [hs _ _ rfl]; exact h4, by rw [hs _ _ rfl]; exact h5, h6, h7.mv (fun j => hs _ _ rfl) (fun j => hs _ _ rfl), h8.mv (fun j => hs _ _ rfl) (fun j => hs _ _ rfl), h9.mv (fun j => hs _ _ rfl) (fun j => hs _ _ rfl)⟩
theorem rEn.mv {M M' : AmM} {b : Nat} {e : Ex} (hs : ∀ c j, sLw c = true → M' c 0 j = M c 0 j) (h : rEn M b e) : rEn M' b e := by
  obtain ⟨h1, x, h2, h3, h4, h5⟩ := h
  exact ⟨by rw [hs _ _ rfl]; exact h1, x, by rw [hs _ _ rfl]; exact h2, by rw [hs _ _ rfl]; exact h3, h4, h5.mv (fun j => hs _ _ rfl) (fun j => hs _ _ rfl)⟩
theorem rLw.mv {M M' : AmM} (hs : ∀ c j, sLw c = true → M' c 0 j = M c 0 j) : ∀ {f : Nat} {r : List (Ex × Ex × Ex)} {e : Ex}, rLw M f r e → rLw M' f r e
  | _, [], _, h => rEn.mv hs h
  | _, _ :: _, _, h => ⟨rBr.mv hs h.1, rLw.mv hs h.2⟩
/-- a law, branch by branch -/
theorem r_law {d : Nat} {l1 l2 l3 l4 l5 l6 l7 : Int} {lk : Nat → Int} (hd : 1 ≤ d) : ∀ (l : List (Ex × Ex × Ex)) (e : Ex) (f : Nat) (u10 u11 : AmV) (M : AmM), rLw M f l e → (∀ j, j < 7 → M 157 0 j = lk j) → M 12 0 47 = 0 → f + l.length + 1 ≤ 100 → lwOk (l, e) →
    ∃ M', amSame (fun c _ j => c == 158 || (c == 12 && j == 47)) M M' ∧ e_X12_wearOf_160 d l1 l2 l3 l4 l5 l6 l7 (f + l.length + 1 : Nat) f u10 u11 M = some (vI (clampS (lwVal lk l e)), M')
  | [], e, f, u10, u11, M, ha, hl, h47, hf, hok => by
    have hf : f + 0 + 1 ≤ 100 := hf
    obtain ⟨a1, x, a2, a3, a4, a5⟩ := ha
    obtain ⟨M1, m1, m2, m3⟩ := r_termOf (D := d) hd a5 hl a4 hok.2
    refine ⟨M1, m2, ?_⟩
    rw [q_X12_wearOf_160, if_pos (by show (f : Int) < ((f + 0 + 1 : Nat) : Int); omega), if_pos ⟨by omega, by omega⟩]
    simp only [Int.toNat_natCast]
    rw [if_pos a1, q_X12_wearOf_236, if_pos ⟨by omega, by omega⟩, if_pos ⟨by omega, by omega⟩]
    simp only [Int.toNat_natCast]
    rw [a2, a3, m1, amCI_s, m3]
    show _ = some (vI (clampS (exVal lk e)), M1)
    cases hv : exVal lk e with
    | none => exact (if_neg (show ¬ (1 : Int) = 0 by decide)).trans rfl
    | some w =>
      show (if M 12 0 47 = 0 then (if w < 0 then (some (vI 0, M1)) else (if 99 < w then (some (vI 99, M1)) else (some (vI w, M1)))) else (some (vI 0, M1))) = some (vI (if w < 0 then 0 else if 99 < w then 99 else w), M1)
      rw [if_pos h47]
      split
      · rfl
      · split <;> rfl
  | (a, b, c) :: l, e, f, u10, u11, M, ha, hl, h47, hf, hok => by
    have hf : f + (l.length + 1) + 1 ≤ 100 := hf
    have e9 : (f + ((a, b, c) :: l).length + 1 : Nat) = (f + 1 + l.length + 1 : Nat) := by show f + (l.length + 1) + 1 = _; omega
    obtain ⟨⟨a1, x, a2, a3, a4, a5, a6, a7, a8, a9⟩, ar⟩ := ha
    have a3 : M 151 0 f = (x + a.length : Nat) := a3
    have a4 : M 152 0 f = (x + a.length + b.length : Nat) := a4
    have a5 : M 153 0 f = (x + a.length + b.length + c.length : Nat) := a5
    have a6 : x + a.length + b.length + c.length ≤ 840 := a6
    obtain ⟨oa, ob, oc⟩ := hok.1 (a, b, c) (by simp)
    have okr : lwOk (l, e) := ⟨fun q hq => hok.1 q (by simp [hq]), hok.2⟩
    obtain ⟨M1, m1, m2, m3⟩ := r_termOf (D := d) hd a7 hl (by show x + a.length ≤ 840; omega) oa
    have o1 : ∀ q i j, q ≠ 158 → q ≠ 12 → M1 q i j = M q i j := fun q i j h1 h2 => m2 _ _ _ (by simp [h1, h2])
    have hl1 : ∀ j, j < 7 → M1 157 0 j = lk j := fun j hj => by rw [o1 _ _ _ (by decide) (by decide)]; exact hl j hj
    obtain ⟨M2, k1, k2, k3⟩ := r_termOf (D := d) hd (M := M1) (a8.mv (fun j => o1 _ _ _ (by decide) (by decide)) (fun j => o1 _ _ _ (by decide) (by decide))) hl1 (by show x + a.length + b.length ≤ 840; omega) ob
    have o2 : ∀ q i j, q ≠ 158 → q ≠ 12 → M2 q i j = M q i j := fun q i j h1 h2 => (k2 _ _ _ (by simp [h1, h2])).trans (o1 q i j h1 h2)
    have hl2 : ∀ j, j < 7 → M2 157 0 j = lk j := fun j hj => by rw [o2 _ _ _ (by decide) (by decide)]; exact hl j hj
    have b3 : M1 151 0 f = (x + a.length : Nat) := by rw [o1 _ _ _ (by decide) (by decide)]; exact a3
    have b4 : M1 152 0 f = (x + a.length + b.length : Nat) := by rw [o1 _ _ _ (by decide) (by decide)]; exact a4
    rw [e9, q_X12_wearOf_160, if_pos (by omega), if_pos ⟨by omega, by omega⟩]
    simp only [Int.toNat_natCast]
    rw [if_neg (by rw [a1]; decide), if_pos ⟨by omega, by omega⟩, if_pos ⟨by omega, by omega⟩, a2, a3, m1, amCI_s, if_pos ⟨by omega, by omega⟩, if_pos ⟨by omega, by omega⟩, b3, b4, k1, amCI_s, k3, m3]
    show ∃ M', _ ∧ _ = some (vI (clampS (match exVal lk a, exVal lk b with
      | some x, some y => if x < y then exVal lk c else lwVal lk l e
      | _, _ => none)), M')
    cases hva : exVal lk a with
    | none =>
      refine ⟨M2, m2.trans k2, ?_⟩
      cases hvb : exVal lk b with
      | none => exact (if_neg (show ¬ (1 : Int) = 0 by decide)).trans rfl
      | some y => exact (if_neg (show ¬ (1 : Int) = 0 by decide)).trans rfl
    | some y1 =>
      cases hvb : exVal lk b with
      | none => exact ⟨M2, m2.trans k2, (if_neg (show ¬ (1 : Int) = 0 by decide)).trans rfl⟩
      | some y2 =>
        have h472 : M2 12 0 47 = 0 := by rw [k3, hvb, m3, hva]; exact h47
        show ∃ M', _ ∧ (if M 12 0 47 = 0 then (if y1 < y2 then _ else _) else _) = some (vI (clampS (if y1 < y2 then exVal lk c else lwVal lk l e)), M')
        rw [if_pos h47]
        by_cases hlt : y1 < y2
        · rw [if_pos hlt, if_pos hlt]
          obtain ⟨M3, r1, r2, r3⟩ := r_termOf (D := d) hd (M := M2) (a9.mv (fun j => o2 _ _ _ (by decide) (by decide)) (fun j => o2 _ _ _ (by decide) (by decide))) hl2 a6 oc
          refine ⟨M3, (m2.trans k2).trans r2, ?_⟩
          rw [q_X12_wearOf_236, if_pos ⟨by omega, by omega⟩, if_pos ⟨by omega, by omega⟩]
          simp only [Int.toNat_natCast]
          rw [o2 152 _ _ (by decide) (by decide), o2 153 _ _ (by decide) (by decide), a4, a5, r1, amCI_s, r3]
          cases hvc : exVal lk c with
          | none => exact (if_neg (show ¬ (1 : Int) = 0 by decide)).trans rfl
          | some w =>
            show (if M2 12 0 47 = 0 then (if w < 0 then (some (vI 0, M3)) else (if 99 < w then (some (vI 99, M3)) else (some (vI w, M3)))) else (some (vI 0, M3))) = some (vI (if w < 0 then 0 else if 99 < w then 99 else w), M3)
            rw [if_pos h472]
            split
            · rfl
            · split <;> rfl
        · rw [if_neg hlt, if_neg hlt, w32_id (by omega) (by omega)]
          obtain ⟨M3, r1, r2⟩ := r_law (d := d) (l1 := l1) (l2 := l2) (l3 := l3) (l4 := l4) (l5 := l5) (l6 := l6) (l7 := l7) (lk := lk) hd l e (f + 1) (vI y1) (vI y2) M2 (ar.mv fun q j hq => by
            unfold sLw at hq
            simp only [Bool.or_eq_true, beq_iff_eq] at hq
            rcases hq with (((((rfl | rfl) | rfl) | rfl) | rfl) | rfl) | rfl <;> exact o2 _ _ _ (by decide) (by decide)) hl2 h472 (by omega) okr
          exact ⟨M3, (m2.trans k2).trans r1, r2⟩
