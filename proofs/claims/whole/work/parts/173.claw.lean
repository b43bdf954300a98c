/-! PURE: the laws in the class, as rows of commands -/
def cCmd (x : Nat × Int) : Int := if x.1 = 0 then 1 + 8 * x.2 else if x.1 = 1 then 2 + 8 * x.2 else (x.1 : Int) + 2
def cAt (C : Rw) : Nat → Ex → Prop
  | _, [] => True
  | i, x :: r => C i = cCmd x ∧ cAt C (i + 1) r
def cLw (C : Rw) : Nat → List (Ex × Ex × Ex) → Ex → Prop
  | i, [], e => cAt C i e ∧ C (i + e.length) = 0
  | i, (a, b, c) :: r, e => cAt C i a ∧ cAt C (i + a.length) b ∧ C (i + a.length + b.length) = 3 + 8 * ((i + a.length + b.length + c.length + 2 : Nat) : Int) ∧ cAt C (i + a.length + b.length + 1) c ∧ C (i + a.length + b.length + 1 + c.length) = 0 ∧ cLw C (i + a.length + b.length + c.length + 2) r e
/-- what lies under the top of the pile -/
def cKe (K : Rw) : List Int → Prop
  | [] => True
  | v :: r => K (r.length + 1) = v ∧ cKe K r
def cPi (K : Rw) (st : List Int) (last : Int) : Prop := match st with
  | [] => True
  | v :: r => last = v ∧ cKe K r
theorem cKe_up {K : Rw} {j : Nat} {v : Int} : ∀ {r : List Int}, cKe K r → r.length < j → cKe (fun i => if i = j then v else K i) r
  | [], _, _ => trivial
  | x :: r, h, hj => by
    have hj : r.length + 1 < j := hj
    exact ⟨by show (if r.length + 1 = j then v else K (r.length + 1)) = x; rw [if_neg (by omega)]; exact h.1, cKe_up h.2 (by omega)⟩
theorem cPi_push {K : Rw} {st : List Int} {last v : Int} (h : cPi K st last) : cKe (fun i => if i = st.length then last else K i) st := by
  cases st with
  | nil => trivial
  | cons x r => exact ⟨(if_pos (rfl : r.length + 1 = (x :: r).length)).trans h.1, cKe_up h.2 (by show r.length < r.length + 1; omega)⟩
/-- the class's memory while a law is run: all but the pile stands -/
def fKe (t : Nat) : Nat → Nat → Nat → Bool := fun c s _ => c == 102 && s == t
theorem cCmd_b {x : Nat × Int} (h1 : x.1 < 6) (h2 : 0 ≤ x.2 ∧ x.2 < 10000) : 0 ≤ cCmd x ∧ cCmd x < 100000 ∧ cCmd x % 8 = (if x.1 = 0 then 1 else if x.1 = 1 then 2 else (x.1 : Int) + 2) ∧ (x.1 < 2 → cCmd x / 8 = x.2) := by
  unfold cCmd
  split
  · refine ⟨by omega, by omega, by omega, fun _ => by omega⟩
  · split
    · refine ⟨by omega, by omega, by omega, fun _ => by omega⟩
    · refine ⟨by omega, by omega, by omega, fun _ => by omega⟩
theorem exRun_len {lk : Nat → Int} {B : Nat} : ∀ (e : Ex) (st st' : List Int) (h : Nat), exH B e st.length = some h → exRun lk e st = some st' → st'.length = h
  | [], st, st', h, h1, h2 => by
    have h1 : some st.length = some h := h1
    have h2 : some st = some st' := h2
    cases h1; cases h2; rfl
  | (k, v) :: r, st, st', h, h1, h2 => by
    unfold exH at h1
    unfold exRun at h2
    split at h1
    · rename_i hk
      rw [if_pos hk] at h2
      split at h1
      · exact exRun_len r _ _ _ h1 h2
      · cases h1
    · rename_i hk
      rw [if_neg hk] at h2
      split at h1
      · rename_i hk1
        rw [if_pos hk1] at h2
        split at h1
        · exact exRun_len r _ _ _ h1 h2
        · cases h1
      · rename_i hk1
        rw [if_neg hk1] at h2
        split at h1
        · split at h2
          · rename_i b a st2
            split at h2
            · exact exRun_len (B := B) r _ _ _ (by exact h1) h2
            · cases h2
          · cases h2
        · cases h1
theorem exH_shift {B u : Nat} : ∀ (e : Ex) (h h' : Nat), exH B e h = some h' → exH (B + u) e (h + u) = some (h' + u)
  | [], h, h', h1 => by
    have h1 : some h = some h' := h1
    cases h1; rfl
  | (k, v) :: r, h, h', h1 => by
    unfold exH at h1 ⊢
    split at h1
    · rename_i hk
      rw [if_pos hk]
      split at h1
      · rename_i hb
        rw [if_pos (by omega), show h + u + 1 = h + 1 + u by omega]
        exact exH_shift r _ _ h1
      · cases h1
    · rename_i hk
      rw [if_neg hk]
      split at h1
      · rename_i hk1
        rw [if_pos hk1]
        split at h1
        · rename_i hb
          rw [if_pos ⟨by omega, hb.2⟩, show h + u + 1 = h + 1 + u by omega]
          exact exH_shift r _ _ h1
        · cases h1
      · rename_i hk1
        rw [if_neg hk1]
        split at h1
        · rename_i hb
          rw [if_pos ⟨hb.1, by omega⟩, show h + u - 1 = h - 1 + u by omega]
          exact exH_shift r _ _ h1
        · cases h1
theorem exRun_app {lk : Nat → Int} {B : Nat} {u : List Int} : ∀ (e : Ex) (st : List Int) (h : Nat), exH B e st.length = some h → exRun lk e (st ++ u) = (exRun lk e st).map (· ++ u)
  | [], st, h, _ => rfl
  | (k, v) :: r, st, h, h1 => by
    unfold exH at h1
    unfold exRun
    split at h1
    · rename_i hk
      rw [if_pos hk, if_pos hk]
      split at h1
      · exact exRun_app r (v :: st) h h1
      · cases h1
    · rename_i hk
      rw [if_neg hk, if_neg hk]
      split at h1
      · rename_i hk1
        rw [if_pos hk1, if_pos hk1]
        split at h1
        · exact exRun_app r (lk v.toNat :: st) h h1
        · cases h1
      · rename_i hk1
        rw [if_neg hk1, if_neg hk1]
        split at h1
        · rename_i hb
          match st, hb, h1 with
          | [], hb, _ => exact absurd hb.2 (by simp)
          | [_], hb, _ => exact absurd hb.2 (by simp)
          | b :: a :: st2, hb, h1 =>
            show (match exOp k a b with
              | some c => exRun lk r (c :: (st2 ++ u))
              | none => none) = Option.map _ (match exOp k a b with
              | some c => exRun lk r (c :: st2)
              | none => none)
            cases exOp k a b with
            | none => rfl
            | some c => exact exRun_app r (c :: st2) h h1
        · cases h1
theorem exVal_of {lk : Nat → Int} {e : Ex} (h : exOk e) : (∃ v, exRun lk e [] = some [v] ∧ exVal lk e = some v) ∨ (exRun lk e [] = none ∧ exVal lk e = none) := by
  unfold exVal
  cases hr : exRun lk e [] with
  | none => exact Or.inr ⟨rfl, rfl⟩
  | some st =>
    have hl := exRun_len e [] st 1 h.1 hr
    match st, hl with
    | [v], _ => exact Or.inl ⟨v, rfl, rfl⟩
