/-! PURE: statements of a text -/
/-- (the draft, laws told, names, the later FAULT: its number and TOKEN; 0: none) -/
abbrev Dr : Type := Tx × Nat × (Nat → Nat) × (Nat × Nat)
def txS (τ : Tx) (n : Nat) (row : Rw) : Tx := (n, row, τ.2.2)
def txR (τ : Tx) (n : Nat) (row : Rw) : Tx := (τ.1, τ.2.1, n, row, τ.2.2.2.2)
def txB (τ : Tx) (b g : Int) : Tx := (τ.1, τ.2.1, τ.2.2.1, τ.2.2.2.1, b, g, τ.2.2.2.2.2.2)
def txP (τ : Tx) (w v : Int) : Tx := (τ.1, τ.2.1, τ.2.2.1, τ.2.2.2.1, τ.2.2.2.2.1, τ.2.2.2.2.2.1, tP τ + 1, rUp (tW τ) (tP τ) w, rUp (tV τ) (tP τ) v, tL τ)
def txL (τ : Tx) (v : Nat) (l : Lw) : Tx := (τ.1, τ.2.1, τ.2.2.1, τ.2.2.2.1, τ.2.2.2.2.1, τ.2.2.2.2.2.1, τ.2.2.2.2.2.2.1, τ.2.2.2.2.2.2.2.1, τ.2.2.2.2.2.2.2.2.1, fun i => if i = v then some l else tL τ i)
def tx0 : Tx := (0, fun _ => 0, 0, fun _ => 0, 0, 0, 0, fun _ => 0, fun _ => 0, fun _ => none)
def lfS (lf : Nat × Nat) (c t : Nat) (bad : Bool) : Nat × Nat := if bad = true ∧ lf.1 = 0 then (c, t) else lf
section TXT
variable (κ ν : Nat → Nat)
def intS (least most t : Nat) (lf : Nat × Nat) : Pr (Nat × Nat × Nat) := if κ t = 20 then (if t < 400 then .inr (t + 1, lfS lf 5 t (decide (ν t < least ∨ most < ν t))) else .inl (2, t)) else .inl (1, t)
/-- a row of numbers, k more at most -/
def rwS (f most : Nat) : Nat → Nat → Nat → Rw → Nat × Nat → Pr (Nat × Nat × Rw × Nat × Nat)
  | 0, t, n, row, lf => if κ t = 20 then .inl (2, t) else .inr (t, n, row, lf)
  | k + 1, t, n, row, lf => if κ t = 20 then (if t < 400 then rwS f most k (t + 1) (n + 1) (rUp row (f + n) ((ν t : Nat) : Int)) (lfS lf 5 t (decide (ν t < 0 ∨ most < ν t))) else .inl (2, t)) else .inr (t, n, row, lf)
def vwS (t : Nat) : Pr Nat := if 8 ≤ κ t ∧ κ t ≤ 11 then (if t < 400 then .inr (t + 1) else .inl (2, t)) else .inl (1, t)
def anyN (nm : Nat → Nat) (v : Nat) : Nat → Bool
  | 0 => false
  | n + 1 => anyN nm v n || nm n == v
def nmS (nm : Nat → Nat) (n t : Nat) (lf : Nat × Nat) : Pr (Nat × Nat × Nat) := if κ t = 19 then (if t < 400 then .inr (t + 1, lfS lf 3 t (anyN nm (ν t) n)) else .inl (2, t)) else .inl (1, t)
/-- one if -/
def if1 (t : Nat) : Pr (Nat × Ex × Ex × Ex) := match tkX κ 5 t with
  | .inl x => .inl x
  | .inr t1 => (match smX κ ν 6 t1 with
    | .inl x => .inl x
    | .inr (t2, a) => (match tkX κ 60 t2 with
      | .inl x => .inl x
      | .inr t3 => (match smX κ ν 6 t3 with
        | .inl x => .inl x
        | .inr (t4, b) => (match tkX κ 6 t4 with
          | .inl x => .inl x
          | .inr t5 => (match smX κ ν 6 t5 with
            | .inl x => .inl x
            | .inr (t6, c) => (match tkX κ 7 t6 with
              | .inl x => .inl x
              | .inr t7 => .inr (t7, a, b, c)))))))
/-- the ifs of a law, k more at most -/
def ifS : Nat → Nat → List (Ex × Ex × Ex) → Pr (Nat × List (Ex × Ex × Ex))
  | 0, t, l => if κ t = 5 then .inl (2, t) else .inr (t, l)
  | k + 1, t, l => if κ t = 5 then (match if1 κ ν t with
    | .inl x => .inl x
    | .inr (t1, q) => ifS k t1 (l ++ [q])) else .inr (t, l)
def semS (t : Nat) (x : Dr) : Pr (Nat × Dr) := match tkX κ 59 t with
  | .inl y => .inl y
  | .inr t1 => .inr (t1, x)
def st0 (t : Nat) (x : Dr) : Pr (Nat × Dr) := if t < 400 then (match rwS κ ν 1 99 24 (t + 1) 0 (tTh x.1) x.2.2.2 with
  | .inl y => .inl y
  | .inr (t1, n, row, lf) => semS κ t1 (txS x.1 n row, x.2.1, x.2.2.1, lf)) else .inl (2, t)
def st1 (t : Nat) (x : Dr) : Pr (Nat × Dr) := if t < 400 then (match rwS κ ν 0 9 14 (t + 1) 0 (tRn x.1) x.2.2.2 with
  | .inl y => .inl y
  | .inr (t1, n, row, lf) => semS κ t1 (txR x.1 n row, x.2.1, x.2.2.1, lf)) else .inl (2, t)
def st2 (t : Nat) (x : Dr) : Pr (Nat × Dr) := if t < 400 then (match intS κ ν 0 999 (t + 1) x.2.2.2 with
  | .inl y => .inl y
  | .inr (t1, lf) => (match intS κ ν 0 99 t1 lf with
    | .inl y => .inl y
    | .inr (t2, lf2) => semS κ t2 (txB x.1 ((ν (t + 1) : Nat) : Int) ((ν t1 : Nat) : Int), x.2.1, x.2.2.1, lf2))) else .inl (2, t)
def st3 (t : Nat) (x : Dr) : Pr (Nat × Dr) := if tP x.1 < 8 then (if t < 400 then (match nmS κ ν x.2.2.1 (tP x.1) (t + 1) x.2.2.2 with
  | .inl y => .inl y
  | .inr (t1, lf) => (match intS κ ν 1 30 t1 lf with
    | .inl y => .inl y
    | .inr (t2, lf2) => (match vwS κ t2 with
      | .inl y => .inl y
      | .inr t3 => semS κ t3 (txP x.1 ((ν t1 : Nat) : Int) ((κ t2 - 8 : Nat) : Int), x.2.1, (fun i => if i = tP x.1 then ν (t + 1) else x.2.2.1 i), lf2)))) else .inl (2, t)) else .inl (2, t)
def st4 (t : Nat) (x : Dr) : Pr (Nat × Dr) := if x.2.1 < 8 then (if t < 400 then (match vwS κ (t + 1) with
  | .inl y => .inl y
  | .inr t1 => (match tkX κ 61 t1 with
    | .inl y => .inl y
    | .inr t2 => (match ifS κ ν 4 t2 [] with
      | .inl y => .inl y
      | .inr (t3, l) => (match smX κ ν 6 t3 with
        | .inl y => .inl y
        | .inr (t4, e) => semS κ t4 (txL x.1 (κ (t + 1) - 8) (l, e), x.2.1 + 1, x.2.2.1, x.2.2.2))))) else .inl (2, t)) else .inl (2, t)
def stS (t : Nat) (x : Dr) : Pr (Nat × Dr) := if κ t = 0 then st0 κ ν t x else if κ t = 1 then st1 κ ν t x else if κ t = 2 then st2 κ ν t x else if κ t = 3 then st3 κ ν t x else if κ t = 4 then st4 κ ν t x else .inl (1, t)
def prS : Nat → Nat → Dr → Pr Dr
  | 0, t, _ => .inl (9, t)
  | k + 1, t, x => if κ t = 21 then .inr x else match stS κ ν t x with
    | .inl y => .inl y
    | .inr (t1, x1) => prS k t1 x1
end TXT
section TX2
variable {κ ν : Nat → Nat}
theorem intS_ok {least most t : Nat} {lf : Nat × Nat} {y : Nat × Nat × Nat} (h : intS κ ν least most t lf = .inr y) : κ t = 20 ∧ t < 400 ∧ y = (t + 1, lfS lf 5 t (decide (ν t < least ∨ most < ν t))) := by
  unfold intS at h
  by_cases h1 : κ t = 20
  · rw [if_pos h1] at h
    by_cases h2 : t < 400
    · rw [if_pos h2] at h; cases h; exact ⟨h1, h2, rfl⟩
    · rw [if_neg h2] at h; cases h
  · rw [if_neg h1] at h; cases h
theorem nmS_ok {nm : Nat → Nat} {n t : Nat} {lf : Nat × Nat} {y : Nat × Nat × Nat} (h : nmS κ ν nm n t lf = .inr y) : κ t = 19 ∧ t < 400 ∧ y = (t + 1, lfS lf 3 t (anyN nm (ν t) n)) := by
  unfold nmS at h
  by_cases h1 : κ t = 19
  · rw [if_pos h1] at h
    by_cases h2 : t < 400
    · rw [if_pos h2] at h; cases h; exact ⟨h1, h2, rfl⟩
    · rw [if_neg h2] at h; cases h
  · rw [if_neg h1] at h; cases h
theorem vwS_ok {t t1 : Nat} (h : vwS κ t = .inr t1) : (8 ≤ κ t ∧ κ t ≤ 11) ∧ t < 400 ∧ t1 = t + 1 := by
  unfold vwS at h
  by_cases h1 : 8 ≤ κ t ∧ κ t ≤ 11
  · rw [if_pos h1] at h
    by_cases h2 : t < 400
    · rw [if_pos h2] at h; cases h; exact ⟨h1, h2, rfl⟩
    · rw [if_neg h2] at h; cases h
  · rw [if_neg h1] at h; cases h
/-- the later FAULT lies behind -/
theorem lfS_lt {lf : Nat × Nat} {c t : Nat} {b : Bool} (h : lf.1 ≠ 0 → lf.2 < t) : (lfS lf c t b).1 ≠ 0 → (lfS lf c t b).2 < t + 1 := by
  unfold lfS
  split
  · intro _; show t < t + 1; omega
  · intro q; have := h q; omega
end TX2
