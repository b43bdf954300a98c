/-! PURE: walkers: sets sent over the stairs by the text -/
/-- the row that all begins with -/
def bgS (τ : Tx) : Rw := fun j => if 1 ≤ j ∧ j ≤ tN τ then tTh τ j else if j = 82 then tB τ else 0
def setR (τ : Tx) (S : Nat → Bool) : Nat → Nat → Rw → Rw
  | 0, _, ρ => ρ
  | k + 1, p, ρ => if S p = true then setR τ S k (p + 1) (goS τ ρ p) else setR τ S k (p + 1) ρ
theorem setR_s {τ : Tx} {S : Nat → Bool} {k p : Nat} {ρ : Rw} : setR τ S (k + 1) p ρ = if S p = true then setR τ S k (p + 1) (goS τ ρ p) else setR τ S k (p + 1) ρ := rfl
theorem setR_cut {τ : Tx} {S : Nat → Bool} : ∀ (m p : Nat) (ρ : Rw), (∀ q, p ≤ q → S q = false) → setR τ S m p ρ = ρ
  | 0, _, _, _ => rfl
  | m + 1, p, ρ, h => by
    unfold setR
    rw [if_neg (by rw [h p (Nat.le_refl p)]; decide)]
    exact setR_cut m (p + 1) ρ fun q hq => h q (by omega)
theorem setR_app {τ : Tx} {S : Nat → Bool} : ∀ (k m p : Nat) (ρ : Rw), setR τ S (k + m) p ρ = setR τ S m (p + k) (setR τ S k p ρ)
  | 0, m, p, ρ => by rw [Nat.zero_add]; rfl
  | k + 1, m, p, ρ => by
    rw [show k + 1 + m = k + m + 1 by omega, show p + (k + 1) = p + 1 + k by omega]
    have e1 := setR_app (τ := τ) (S := S) k m (p + 1)
    rw [setR_s (k := k + m), setR_s (k := k)]
    split
    · exact e1 _
    · exact e1 _
theorem setR_eq {τ : Tx} {S S' : Nat → Bool} : ∀ (k p : Nat) (ρ : Rw), (∀ q, p ≤ q → q < p + k → S q = S' q) → setR τ S k p ρ = setR τ S' k p ρ
  | 0, _, _, _ => rfl
  | k + 1, p, ρ, h => by
    unfold setR
    rw [h p (by omega) (by omega), setR_eq k (p + 1) (goS τ ρ p) fun q h1 h2 => h q (by omega) (by omega), setR_eq k (p + 1) ρ fun q h1 h2 => h q (by omega) (by omega)]
/-- what is so between two goings -/
def wkH (τ : Tx) (i : Nat) (ρ : Rw) : Prop := thrH τ (fun _ => true) i ρ ∧ ρ 83 = 0
theorem wkH.nx {τ : Tx} {i : Nat} {ρ : Rw} (h : wkH τ i ρ) : wkH τ (i + 1) ρ := ⟨h.1.nx, h.2⟩
theorem wkH.go {τ : Tx} {i : Nat} {ρ : Rw} (hτ : tOk τ) (h : wkH τ i ρ) (hi : i < tP τ) : wkH τ (i + 1) (goS τ ρ i) := by
  have hP := hτ.2.2.2.2.2.2.1
  exact ⟨h.1.go hτ hi, (goS_83 (by omega)).trans h.2⟩
theorem setR_H {τ : Tx} {S : Nat → Bool} (hτ : tOk τ) : ∀ (k p : Nat) (ρ : Rw), p + k ≤ tP τ → wkH τ p ρ → wkH τ (p + k) (setR τ S k p ρ)
  | 0, p, ρ, _, h => h
  | k + 1, p, ρ, hk, h => by
    rw [show p + (k + 1) = p + 1 + k by omega]
    unfold setR
    split
    · exact setR_H hτ k (p + 1) _ (by omega) (h.go hτ (by omega))
    · exact setR_H hτ k (p + 1) ρ (by omega) h.nx
theorem bgS_H {τ : Tx} (hτ : tOk τ) : wkH τ 0 (bgS τ) := by
  have hP := hτ.2.2.2.2.2.2.1
  have hn := hτ.1
  have hz : ∀ j, 24 < j → j ≠ 82 → bgS τ j = 0 := fun j h1 h2 => by
    unfold bgS
    rw [if_neg (by omega), if_neg h2]
  refine ⟨⟨fun j h1 h2 => ?_, ?_, fun p _ hp _ => ⟨hz _ (by omega) (by omega), ?_⟩⟩, hz 83 (by omega) (by omega)⟩
  · have e : bgS τ j = tTh τ j := if_pos ⟨h1, h2⟩
    rw [e]
    have := hτ.2.1 j h1 h2
    omega
  · rw [hz 83 (by omega) (by omega)]; omega
  · rw [hz (66 + p) (by omega) (by omega)]; rfl
/-- the row behind a set of walkers -/
def wrkS (τ : Tx) (s : Nat) : Rw := setR τ s.testBit (tP τ) 0 (bgS τ)
theorem wrkS_0 (τ : Tx) : wrkS τ 0 = bgS τ := setR_cut (tP τ) 0 (bgS τ) fun q _ => Nat.zero_testBit q
theorem wrkS_H {τ : Tx} (hτ : tOk τ) (s : Nat) : wkH τ (tP τ) (wrkS τ s) := by
  have := setR_H (S := s.testBit) hτ (tP τ) 0 (bgS τ) (by omega) (bgS_H hτ)
  rw [Nat.zero_add] at this
  exact this
/-- the last of a set walks over what the others left -/
theorem wrkS_last {τ : Tx} (hτ : tOk τ) {s l : Nat} (hl : l < tP τ) (hs : s < 256) (h1 : s.testBit l = true) (h2 : ∀ q, l < q → s.testBit q = false) : wrkS τ s = goS τ (wrkS τ (clrN s l)) l ∧ rOk τ (wrkS τ (clrN s l)) ∧ wrkS τ (clrN s l) 83 = 0 := by
  have hP := hτ.2.2.2.2.2.2.1
  have hc := clrN_lt (x := s) (p := l) hs
  have h3 : ∀ q, l ≤ q → (clrN s l).testBit q = false := fun q hq => by
    by_cases h8 : q < 8
    · rw [clrN_bit h8]
      by_cases e : q = l
      · subst e; simp
      · rw [h2 q (by omega)]; rfl
    · have h4 : (2 : Nat) ^ 8 ≤ 2 ^ q := Nat.pow_le_pow_right (by omega) (by omega)
      have h5 : (2 : Nat) ^ 8 = 256 := rfl
      exact Nat.testBit_lt_two_pow (by omega)
  have e1 : wrkS τ (clrN s l) = setR τ s.testBit l 0 (bgS τ) := by
    unfold wrkS
    rw [show tP τ = l + (tP τ - l) by omega, setR_app, setR_cut (tP τ - l) (0 + l) _ fun q hq => h3 q (by omega)]
    exact setR_eq l 0 _ fun q _ hq => by
      rw [clrN_bit (by omega), decide_eq_false (show ¬ q = l by omega)]
      simp
  have e2 : wrkS τ s = goS τ (setR τ s.testBit l 0 (bgS τ)) l := by
    unfold wrkS
    rw [show tP τ = l + (1 + (tP τ - l - 1)) by omega, setR_app, setR_app, setR_cut (tP τ - l - 1) (0 + l + 1) _ fun q hq => h2 q (by omega), Nat.zero_add]
    show (if s.testBit l = true then goS τ _ l else _) = _
    rw [if_pos h1]
  have hH := setR_H (S := s.testBit) hτ l 0 (bgS τ) (by omega) (bgS_H hτ)
  rw [e1]
  exact ⟨e2, hH.1.1, hH.2⟩
/-- does a row fit what was told -/
def fitL (ρ : Rw) (S T : Nat → Int) : Nat → Nat → Bool
  | 0, _ => true
  | k + 1, i => if ρ (S i).toNat = T i then fitL ρ S T k (i + 1) else false
def fitS (τ : Tx) (S T : Nat → Int) (k : Nat) (s : Nat) : Bool := fitL (wrkS τ s) S T k 0
/-- those of the first m that fit -/
def lsF (F : Nat → Bool) : Nat → List Nat
  | 0 => []
  | m + 1 => lsF F m ++ (if F m = true then [m] else [])
theorem lsF_T {F : Nat → Bool} {m : Nat} (h : F m = true) : lsF F (m + 1) = lsF F m ++ [m] := by
  show lsF F m ++ (if F m = true then [m] else []) = _
  rw [if_pos h]
theorem lsF_F {F : Nat → Bool} {m : Nat} (h : ¬ F m = true) : lsF F (m + 1) = lsF F m := by
  show lsF F m ++ (if F m = true then [m] else []) = _
  rw [if_neg h, List.append_nil]
theorem lsF_len {F : Nat → Bool} : ∀ m : Nat, (lsF F m).length ≤ m
  | 0 => Nat.le_refl 0
  | m + 1 => by
    have := lsF_len (F := F) m
    by_cases h : F m = true
    · rw [lsF_T h, List.length_append]; show _ + 1 ≤ _; omega
    · rw [lsF_F h]; omega
theorem lsF_lt {F : Nat → Bool} : ∀ (m : Nat), ∀ x ∈ lsF F m, x < m
  | 0, x, h => by cases h
  | m + 1, x, h => by
    have ih := lsF_lt (F := F) m
    by_cases hF : F m = true
    · rw [lsF_T hF] at h
      rcases List.mem_append.1 h with h | h
      · have := ih x h; omega
      · have := List.mem_singleton.1 h; omega
    · rw [lsF_F hF] at h
      have := ih x h; omega
def orL (l : List Nat) (a : Nat) : Nat := l.foldl (fun a x => a ||| x) a
def anL (l : List Nat) (a : Nat) : Nat := l.foldl (fun a x => a &&& x) a
theorem orL_bit {q : Nat} : ∀ (l : List Nat) (a : Nat), (orL l a).testBit q = (a.testBit q || l.any (fun x => x.testBit q))
  | [], a => by unfold orL; simp
  | x :: l, a => by
    have := orL_bit (q := q) l (a ||| x)
    rw [Nat.testBit_or] at this
    show (orL l (a ||| x)).testBit q = _
    rw [this, List.any_cons, Bool.or_assoc]
theorem anL_bit {q : Nat} : ∀ (l : List Nat) (a : Nat), (anL l a).testBit q = (a.testBit q && l.all (fun x => x.testBit q))
  | [], a => by unfold anL; simp
  | x :: l, a => by
    have := anL_bit (q := q) l (a &&& x)
    rw [Nat.testBit_and] at this
    show (anL l (a &&& x)).testBit q = _
    rw [this, List.all_cons, Bool.and_assoc]
theorem orL_lt : ∀ (l : List Nat) (a : Nat), a < 256 → (∀ x ∈ l, x < 256) → orL l a < 256
  | [], a, h, _ => h
  | x :: l, a, h, hl => orL_lt l (a ||| x) (Nat.or_lt_two_pow (n := 8) h (hl x (List.mem_cons_self ..))) fun y hy => hl y (List.mem_cons_of_mem _ hy)
theorem anL_lt : ∀ (l : List Nat) (a : Nat), a < 256 → anL l a < 256
  | [], a, h => h
  | x :: l, a, h => anL_lt l (a &&& x) (by
    have := Nat.and_le_left (n := a) (m := x)
    omega)
/-- whoever is in all is in some -/
theorem anL_or : ∀ (l : List Nat), (∀ x ∈ l, x < 256) → anL l (orL l 0) = if l.length = 0 then 0 else anL l 255
  | [], _ => rfl
  | x :: l, hl => by
    rw [if_neg (by show ¬ l.length + 1 = 0; omega)]
    refine byte_eq (anL_lt _ _ (orL_lt _ _ (by omega) hl)) (anL_lt _ _ (by omega)) fun q hq => ?_
    rw [anL_bit, anL_bit, orL_bit, b255 q hq, List.any_cons, List.all_cons]
    cases x.testBit q <;> simp
def whoS (τ : Tx) (S T : Nat → Int) (k : Nat) (sure : Int) : Nat := if sure = 0 then orL (lsF (fitS τ S T k) (2 ^ tP τ)) 0 else if (lsF (fitS τ S T k) (2 ^ tP τ)).length = 0 then 0 else anL (lsF (fitS τ S T k) (2 ^ tP τ)) 255
def wlkS (τ : Tx) (S T : Nat → Int) (k : Nat) (i : Int) : Int := if i < 0 then -1 else match (lsF (fitS τ S T k) (2 ^ tP τ))[i.toNat]? with
  | some x => (x : Int)
  | none => -1
