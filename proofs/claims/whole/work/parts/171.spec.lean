/-! PURE: texts, laws, rows, walking -/
abbrev Rw : Type := Nat → Int
abbrev Ex : Type := List (Nat × Int)
abbrev Lw : Type := List (Ex × Ex × Ex) × Ex
abbrev Tx : Type := Nat × Rw × Nat × Rw × Int × Int × Nat × Rw × Rw × (Nat → Option Lw)
def tN (τ : Tx) : Nat := τ.1
def tTh (τ : Tx) : Rw := τ.2.1
def tR (τ : Tx) : Nat := τ.2.2.1
def tRn (τ : Tx) : Rw := τ.2.2.2.1
def tB (τ : Tx) : Int := τ.2.2.2.2.1
def tG (τ : Tx) : Int := τ.2.2.2.2.2.1
def tP (τ : Tx) : Nat := τ.2.2.2.2.2.2.1
def tW (τ : Tx) : Rw := τ.2.2.2.2.2.2.2.1
def tV (τ : Tx) : Rw := τ.2.2.2.2.2.2.2.2.1
def tL (τ : Tx) : Nat → Option Lw := τ.2.2.2.2.2.2.2.2.2
/-- one operation: 2 +, 3 -, 4 *, 5 / -/
def exOp (k : Nat) (a b : Int) : Option Int := if k = 2 then some (w32 (a + b)) else if k = 3 then some (w32 (a - b)) else if k = 4 then some (w32 (a * b)) else if b = 0 then none else some (w32 (Int.tdiv a b))
/-- an expression, its operations behind their sides, run over a pile -/
def exRun (lk : Nat → Int) : Ex → List Int → Option (List Int)
  | [], st => some st
  | (k, v) :: r, st => if k = 0 then exRun lk r (v :: st) else if k = 1 then exRun lk r (lk v.toNat :: st) else match st with
    | b :: a :: st' => (match exOp k a b with
      | some c => exRun lk r (c :: st')
      | none => none)
    | _ => none
def exVal (lk : Nat → Int) (e : Ex) : Option Int := match exRun lk e [] with
  | some (v :: _) => some v
  | _ => none
def lwVal (lk : Nat → Int) : List (Ex × Ex × Ex) → Ex → Option Int
  | [], e => exVal lk e
  | (a, b, c) :: r, e => match exVal lk a, exVal lk b with
    | some x, some y => if x < y then exVal lk c else lwVal lk r e
    | _, _ => none
/-- the greatest height of the pile -/
def exH (B : Nat) : Ex → Nat → Option Nat
  | [], h => some h
  | (k, v) :: r, h => if k = 0 then (if h < B then exH B r (h + 1) else none) else if k = 1 then (if h < B ∧ 0 ≤ v ∧ v < 7 then exH B r (h + 1) else none) else if k < 6 ∧ 2 ≤ h then exH B r (h - 1) else none
def exOk (e : Ex) : Prop := exH 20 e 0 = some 1 ∧ ∀ x ∈ e, 0 ≤ x.2 ∧ x.2 < 10000
def lwOk (l : Lw) : Prop := (∀ q ∈ l.1, exOk q.1 ∧ exOk q.2.1 ∧ exOk q.2.2) ∧ exOk l.2
def lwLen : List (Ex × Ex × Ex) → Ex → Nat
  | [], e => e.length + 1
  | (a, b, c) :: r, e => a.length + b.length + c.length + 2 + lwLen r e
def tOk (τ : Tx) : Prop := tN τ ≤ 24 ∧ (∀ j, 1 ≤ j → j ≤ tN τ → 0 ≤ tTh τ j ∧ tTh τ j ≤ 99) ∧ tR τ ≤ 14 ∧ (∀ j, j < tR τ → 0 ≤ tRn τ j ∧ tRn τ j ≤ 9) ∧ (0 ≤ tB τ ∧ tB τ ≤ 999) ∧ (0 ≤ tG τ ∧ tG τ ≤ 99) ∧ tP τ ≤ 8 ∧ (∀ p, p < tP τ → (1 ≤ tW τ p ∧ tW τ p ≤ 30) ∧ 0 ≤ tV τ p ∧ tV τ p ≤ 3) ∧ ∀ v, v < 4 → ∀ l, tL τ v = some l → lwOk l
def rainS (τ : Tx) (day : Int) : Int := if tR τ = 0 then 0 else tRn τ (Int.tmod day (tR τ : Int)).toNat
def lookS (heavy t s day wet up gone : Int) : Nat → Int := fun k => match k with
  | 0 => heavy
  | 1 => t
  | 2 => s
  | 3 => day
  | 4 => wet
  | 5 => up
  | _ => gone
def clampS (o : Option Int) : Int := match o with
  | none => 0
  | some w => if w < 0 then 0 else if 99 < w then 99 else w
def wearS (τ : Tx) (vow heavy s t day up gone : Int) : Int := match tL τ vow.toNat with
  | none => heavy
  | some l => clampS (lwVal (lookS heavy t s day (rainS τ day) up gone) l.1 l.2)
theorem clampS_b (o : Option Int) : 0 ≤ clampS o ∧ clampS o ≤ 99 := by
  unfold clampS
  split
  · omega
  · split
    · omega
    · split <;> omega
theorem wearS_b {τ : Tx} {vow heavy s t day up gone : Int} (h : 0 ≤ heavy ∧ heavy ≤ 2000) : 0 ≤ wearS τ vow heavy s t day up gone ∧ wearS τ vow heavy s t day up gone ≤ 2000 := by
  unfold wearS
  split
  · exact h
  · have := clampS_b (lwVal (lookS heavy t s day (rainS τ day) up gone) (‹Lw›).1 (‹Lw›).2)
    omega
theorem rainS_b {τ : Tx} (h : tOk τ) {day : Int} (hd : 0 ≤ day) : 0 ≤ rainS τ day ∧ rainS τ day ≤ 9 := by
  unfold rainS
  split
  · omega
  · rename_i h0
    have h1 : Int.tmod day (tR τ : Int) = day % (tR τ : Int) := Int.tmod_eq_emod_of_nonneg hd
    have h2 := Int.emod_nonneg day (show (tR τ : Int) ≠ 0 by omega)
    have h3 := Int.emod_lt_of_pos day (show (0 : Int) < (tR τ : Int) by omega)
    exact h.2.2.2.1 _ (by rw [h1]; omega)
/-- how many of the first n are not there -/
def gonS : Nat → Rw → Int
  | 0, _ => 0
  | n + 1, ρ => gonS n ρ + (if ρ (n + 1) = 0 then 1 else 0)
theorem gonS_b : ∀ (n : Nat) (ρ : Rw), 0 ≤ gonS n ρ ∧ gonS n ρ ≤ n
  | 0, _ => by unfold gonS; omega
  | n + 1, ρ => by
    have := gonS_b n ρ
    unfold gonS
    split <;> omega
theorem gonS_eq : ∀ (n : Nat) (ρ ρ' : Rw), (∀ j, 1 ≤ j → j ≤ n → ρ' j = ρ j) → gonS n ρ' = gonS n ρ
  | 0, _, _, _ => rfl
  | n + 1, ρ, ρ', h => by
    unfold gonS
    rw [gonS_eq n ρ ρ' (fun j h1 h2 => h j h1 (by omega)), h (n + 1) (by omega) (by omega)]
def rUp (ρ : Rw) (j : Nat) (v : Int) : Rw := fun i => if i = j then v else ρ i
theorem rUp_on {ρ : Rw} {j : Nat} {v : Int} : rUp ρ j v j = v := if_pos rfl
theorem rUp_ne {ρ : Rw} {j : Nat} {v : Int} {i : Nat} (h : i ≠ j) : rUp ρ j v i = ρ i := if_neg h
theorem gonS_up : ∀ (n : Nat) (ρ : Rw) (s : Nat) (v : Int), 1 ≤ s → s ≤ n → gonS n (rUp ρ s v) = gonS n ρ - (if ρ s = 0 then 1 else 0) + (if v = 0 then 1 else 0)
  | 0, _, _, _, _, h => by omega
  | n + 1, ρ, s, v, h1, h2 => by
    unfold gonS
    by_cases hs : s = n + 1
    · subst hs
      rw [rUp_on, gonS_eq n ρ (rUp ρ (n + 1) v) (fun j h3 h4 => rUp_ne (by omega))]
      omega
    · rw [gonS_up n ρ s v h1 (by omega), rUp_ne (i := n + 1) (by omega)]
      omega
/-- (row, what is led, the first step worn away) -/
abbrev Wk : Type := Rw × Int × Int
/-- one wear of a step -/
def hold1 (w : Int) (s : Nat) (x : Wk) : Bool × Wk :=
  let was := x.1 s
  let ρ1 := rUp x.1 s (if was < w then 0 else was - w)
  let y : Int × Int := (w32 (x.2.1 + (was - ρ1 s)), if 0 < was ∧ ρ1 s = 0 ∧ x.2.2 < 0 then (s : Int) else x.2.2)
  if was < w then (false, ρ1, y) else (true, rUp ρ1 (25 + s) (w32 (ρ1 (25 + s) + 1)), y)
def kW (vow : Int) : Nat := if vow = 1 then 2 else 1
/-- a tread: k wears -/
def holdS (τ : Tx) (vow heavy day up : Int) (s : Nat) : Nat → Wk → Bool × Wk
  | 0, x => (true, x)
  | k + 1, x => match hold1 (wearS τ vow heavy s (x.1 s) day up (gonS (tN τ) x.1)) s x with
    | (false, x') => (false, x')
    | (true, x') => holdS τ vow heavy day up s k x'
def nxU (n : Nat) (ρ : Rw) (vow : Int) (at_ : Nat) : Nat := if vow = 2 then (if n + 1 ≤ at_ + 2 then n + 1 else if 0 < ρ (at_ + 2) then at_ + 2 else at_ + 1) else at_ + 1
def nxD (ρ : Rw) (vow : Int) (at_ : Nat) : Nat := if vow = 2 then (if at_ ≤ 2 then 0 else if 0 < ρ (at_ - 2) then at_ - 2 else at_ - 1) else at_ - 1
/-- up: 0 at the top, 1 turned back, 2 broken -/
def upS (τ : Tx) (vow heavy day : Int) : Nat → Nat → Wk → Nat × Nat × Wk
  | 0, at_, x => (0, at_, x)
  | k + 1, at_, x => if tN τ + 1 ≤ at_ then (0, at_, x) else
    let to := nxU (tN τ) x.1 vow at_
    if tN τ + 1 ≤ to then (0, to, x) else if x.1 to ≤ 0 then (1, at_, x) else match holdS τ vow heavy day 1 to (kW vow) x with
      | (false, x') => (2, at_, x')
      | (true, x') => upS τ vow heavy day k to x'
/-- down: 0 on the ground, 2 stuck -/
def dnS (τ : Tx) (vow heavy day : Int) : Nat → Nat → Wk → Nat × Nat × Wk
  | 0, at_, x => (0, at_, x)
  | k + 1, at_, x => if at_ = 0 then (0, 0, x) else
    let to := nxD x.1 vow at_
    if to = 0 then (0, 0, x) else if x.1 to ≤ 0 then (2, at_, x) else match holdS τ vow heavy day 0 to (kW vow) x with
      | (false, x') => (2, at_, x')
      | (true, x') => dnS τ vow heavy day k to x'
/-- what comes of a going: (0 came, 1 turned back, 2 stuck; where; row, led, lost) -/
def comesS (τ : Tx) (vow heavy day : Int) (x : Wk) : Nat × Nat × Wk := match upS τ vow heavy day 26 0 x with
  | (2, at_, x1) => (if at_ = 0 then 1 else 2, at_, x1)
  | (1, at_, x1) => (match dnS τ vow heavy day 26 at_ x1 with
    | (d, at2, x2) => (if d = 0 then 1 else 2, at2, x2))
  | (_, at_, x1) => if vow = 3 then (0, at_, x1) else dnS τ vow heavy day 26 at_ x1
/-- the thickness of each step is in bounds -/
def rOk (τ : Tx) (ρ : Rw) : Prop := ∀ j, 1 ≤ j → j ≤ tN τ → 0 ≤ ρ j ∧ ρ j ≤ tTh τ j
theorem hold1_ok {τ : Tx} {w : Int} {s : Nat} {x : Wk} (hw : 0 ≤ w) (hs : 1 ≤ s ∧ s ≤ tN τ) (hn : tN τ ≤ 24) (h : rOk τ x.1) : rOk τ (hold1 w s x).2.1 := by
  have h0 := h s hs.1 hs.2
  have key : rOk τ (rUp x.1 s (if x.1 s < w then 0 else x.1 s - w)) := fun j h1 h2 => by
    by_cases hj : j = s
    · subst hj
      rw [rUp_on]
      split <;> omega
    · rw [rUp_ne hj]; exact h j h1 h2
  unfold hold1
  dsimp only
  split
  · rename_i hlt
    rw [if_pos hlt] at key
    exact key
  · rename_i hlt
    rw [if_neg hlt] at key
    intro j h1 h2
    show 0 ≤ rUp (rUp x.1 s (x.1 s - w)) (25 + s) _ j ∧ rUp (rUp x.1 s (x.1 s - w)) (25 + s) _ j ≤ tTh τ j
    rw [rUp_ne (by omega)]
    exact key j h1 h2
theorem holdS_ok {τ : Tx} {vow heavy day up : Int} {s : Nat} (hh : 0 ≤ heavy ∧ heavy ≤ 2000) (hs : 1 ≤ s ∧ s ≤ tN τ) (hn : tN τ ≤ 24) : ∀ (k : Nat) (x : Wk), rOk τ x.1 → rOk τ (holdS τ vow heavy day up s k x).2.1
  | 0, x, h => h
  | k + 1, x, h => by
    have h1 := hold1_ok (w := wearS τ vow heavy s (x.1 s) day up (gonS (tN τ) x.1)) (wearS_b hh).1 hs hn h
    unfold holdS
    split
    · rename_i x' he; rw [he] at h1; exact h1
    · rename_i x' he; rw [he] at h1; exact holdS_ok hh hs hn k x' h1
theorem nxU_b {n : Nat} {ρ : Rw} {vow : Int} {a : Nat} (h : a ≤ n) : a < nxU n ρ vow a ∧ nxU n ρ vow a ≤ n + 1 := by
  unfold nxU
  split
  · split
    · omega
    · split <;> omega
  · omega
theorem nxD_b {ρ : Rw} {vow : Int} {a : Nat} (h : 1 ≤ a) : nxD ρ vow a < a := by
  unfold nxD
  split
  · split
    · omega
    · split <;> omega
  · omega
theorem upS_ok {τ : Tx} {vow heavy day : Int} (hh : 0 ≤ heavy ∧ heavy ≤ 2000) (hn : tN τ ≤ 24) : ∀ (k a : Nat) (x : Wk), a ≤ tN τ + 1 → rOk τ x.1 → rOk τ (upS τ vow heavy day k a x).2.2.1 ∧ (upS τ vow heavy day k a x).2.1 ≤ tN τ + 1
  | 0, a, x, ha, h => ⟨h, ha⟩
  | k + 1, a, x, ha, h => by
    unfold upS
    split
    · exact ⟨h, ha⟩
    · rename_i h1
      have h2 := nxU_b (ρ := x.1) (vow := vow) (show a ≤ tN τ by omega)
      dsimp only
      split
      · exact ⟨h, h2.2⟩
      · split
        · exact ⟨h, ha⟩
        · have h3 := holdS_ok (τ := τ) (vow := vow) (day := day) (up := 1) (s := nxU (tN τ) x.1 vow a) hh ⟨by omega, by omega⟩ hn (kW vow) x h
          split
          · rename_i x' he; rw [he] at h3; exact ⟨h3, ha⟩
          · rename_i x' he; rw [he] at h3; exact upS_ok hh hn k _ x' h2.2 h3
theorem dnS_ok {τ : Tx} {vow heavy day : Int} (hh : 0 ≤ heavy ∧ heavy ≤ 2000) (hn : tN τ ≤ 24) : ∀ (k a : Nat) (x : Wk), a ≤ tN τ + 1 → rOk τ x.1 → rOk τ (dnS τ vow heavy day k a x).2.2.1 ∧ (dnS τ vow heavy day k a x).2.1 ≤ tN τ + 1
  | 0, a, x, ha, h => ⟨h, ha⟩
  | k + 1, a, x, ha, h => by
    unfold dnS
    split
    · exact ⟨h, by show 0 ≤ _; omega⟩
    · rename_i h1
      have h2 := nxD_b (ρ := x.1) (vow := vow) (show 1 ≤ a by omega)
      dsimp only
      split
      · exact ⟨h, by show 0 ≤ _; omega⟩
      · split
        · exact ⟨h, ha⟩
        · have h3 := holdS_ok (τ := τ) (vow := vow) (day := day) (up := 0) (s := nxD x.1 vow a) hh ⟨by omega, by omega⟩ hn (kW vow) x h
          split
          · rename_i x' he; rw [he] at h3; exact ⟨h3, ha⟩
          · rename_i x' he; rw [he] at h3; exact dnS_ok hh hn k _ x' (by omega) h3
