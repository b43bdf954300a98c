/-! PURE: the TOKENS of a text: L bytes, byte i is Y i -/
section LEX
variable {L : Nat} {Y : Nat → Nat}
def byY (L : Nat) (Y : Nat → Nat) (i : Nat) : Nat := if i < L then Y i else 0
def isBl (c : Nat) : Bool := c == 9 || c == 10 || c == 13 || c == 32
def isLe (c : Nat) : Bool := Nat.ble 97 c && Nat.ble c 122
def isDi (c : Nat) : Bool := Nat.ble 48 c && Nat.ble c 57
/-- from i on, as long as p holds, k at most -/
def runY (L : Nat) (Y : Nat → Nat) (p : Nat → Bool) : Nat → Nat → Nat
  | 0, i => i
  | k + 1, i => if i < L ∧ p (byY L Y i) = true then runY L Y p k (i + 1) else i
theorem runY_ge {p : Nat → Bool} : ∀ k i : Nat, i ≤ runY L Y p k i ∧ (i ≤ L → runY L Y p k i ≤ L)
  | 0, i => ⟨Nat.le_refl i, fun h => h⟩
  | k + 1, i => by
    unfold runY
    split
    · rename_i h
      have := runY_ge (p := p) k (i + 1)
      exact ⟨by omega, fun _ => this.2 (by omega)⟩
    · exact ⟨Nat.le_refl i, fun h => h⟩
/-- it ends where p doesn't hold -/
theorem runY_end {p : Nat → Bool} : ∀ k i : Nat, L ≤ i + k → ¬ (runY L Y p k i < L ∧ p (byY L Y (runY L Y p k i)) = true)
  | 0, i, h => fun q => by
    have : i < L := q.1
    omega
  | k + 1, i, h => by
    unfold runY
    split
    · exact runY_end k (i + 1) (by omega)
    · assumption
theorem runY_in {p : Nat → Bool} : ∀ k i j : Nat, i ≤ j → j < runY L Y p k i → j < L ∧ p (byY L Y j) = true
  | 0, i, j, h1, h2 => by
    have : j < i := h2
    omega
  | k + 1, i, j, h1, h2 => by
    unfold runY at h2
    split at h2
    · rename_i h
      by_cases e : j = i
      · subst e; exact h
      · exact runY_in k (i + 1) j (by omega) h2
    · omega
theorem runY_eq {p : Nat → Bool} {k i e : Nat} (h : L ≤ i + k) (hi : i ≤ e) (h1 : ∀ j, i ≤ j → j < e → j < L ∧ p (byY L Y j) = true) (h2 : ¬ (e < L ∧ p (byY L Y e) = true)) : runY L Y p k i = e := by
  have ha := runY_ge (L := L) (Y := Y) (p := p) k i
  have hb := runY_end (L := L) (Y := Y) (p := p) k i h
  by_cases hlt : runY L Y p k i < e
  · exact absurd (h1 _ ha.1 hlt) hb
  · by_cases hgt : e < runY L Y p k i
    · exact absurd (runY_in k i e hi hgt) h2
    · omega
def sigY (c : Nat) : Bool := c == 59 || c == 61 || c == 43 || c == 45 || c == 42 || c == 47 || c == 60 || c == 40 || c == 41
def stY (L : Nat) (Y : Nat → Nat) (i : Nat) : Nat := runY L Y isBl L i
def enY (L : Nat) (Y : Nat → Nat) (s : Nat) : Nat := if isLe (byY L Y s) = true then runY L Y isLe L (s + 1) else if isDi (byY L Y s) = true then runY L Y isDi L (s + 1) else s + 1
/-- the word at s .. e - 1 -/
def isWd (L : Nat) (Y : Nat → Nat) (w s e : Nat) : Nat → Nat → Bool
  | 0, _ => true
  | k + 1, i => if amWords.getD (8 * w + i) 0 = (if s + i < e then byY L Y (s + i) else 32) then isWd L Y w s e k (i + 1) else false
def wdY (L : Nat) (Y : Nat → Nat) (s e : Nat) : Nat → Nat → Nat
  | 0, _ => 19
  | k + 1, w => if isWd L Y w s e 8 0 = true then w else wdY L Y s e k (w + 1)
def kdY (L : Nat) (Y : Nat → Nat) (s e : Nat) : Nat := if L ≤ s then 21 else if isLe (byY L Y s) = true then (if 8 < e - s then 22 else wdY L Y s e 19 0) else if isDi (byY L Y s) = true then (if 4 < e - s then 22 else 20) else if sigY (byY L Y s) = true then byY L Y s else 22
/-- numbers of letters, and of digits -/
def vlL (f : Nat → Nat) : Nat → Nat
  | 0 => 0
  | n + 1 => 27 * vlL f n + (f n - 96)
def vlD (f : Nat → Nat) : Nat → Nat
  | 0 => 0
  | n + 1 => 10 * vlD f n + (f n - 48)
/-- where the j-th TOKEN may begin -/
def posY (L : Nat) (Y : Nat → Nat) : Nat → Nat
  | 0 => 0
  | j + 1 => enY L Y (stY L Y (posY L Y j))
def tkP (L : Nat) (Y : Nat → Nat) (j : Nat) : Nat := stY L Y (posY L Y j)
def tkE (L : Nat) (Y : Nat → Nat) (j : Nat) : Nat := enY L Y (tkP L Y j)
def tkK (L : Nat) (Y : Nat → Nat) (j : Nat) : Nat := kdY L Y (tkP L Y j) (tkE L Y j)
def tkV (L : Nat) (Y : Nat → Nat) (j : Nat) : Nat := if isDi (byY L Y (tkP L Y j)) = true then vlD (fun i => byY L Y (tkP L Y j + i)) (tkE L Y j - tkP L Y j) else vlL (fun i => byY L Y (tkP L Y j + i)) (tkE L Y j - tkP L Y j)
theorem isLe_b {c : Nat} : isLe c = true ↔ (97 ≤ c ∧ c ≤ 122) := by
  unfold isLe
  rw [Bool.and_eq_true, Nat.ble_eq, Nat.ble_eq]
theorem isDi_b {c : Nat} : isDi c = true ↔ (48 ≤ c ∧ c ≤ 57) := by
  unfold isDi
  rw [Bool.and_eq_true, Nat.ble_eq, Nat.ble_eq]
theorem isBl_b {c : Nat} : isBl c = true ↔ (c = 9 ∨ c = 10 ∨ c = 13 ∨ c = 32) := by
  unfold isBl
  simp only [Bool.or_eq_true, beq_iff_eq]
  omega
theorem byY_lt (hY : ∀ i, Y i < 256) (i : Nat) : byY L Y i < 256 := by
  unfold byY
  split
  · exact hY i
  · omega
theorem byY_0 {i : Nat} (h : L ≤ i) : byY L Y i = 0 := if_neg (by omega)
theorem enY_gt (s : Nat) : s < enY L Y s := by
  unfold enY
  split
  · have := (runY_ge (L := L) (Y := Y) (p := isLe) L (s + 1)).1; omega
  · split
    · have := (runY_ge (L := L) (Y := Y) (p := isDi) L (s + 1)).1; omega
    · omega
theorem enY_le {s : Nat} (h : s < L) : enY L Y s ≤ L := by
  unfold enY
  split
  · exact (runY_ge (L := L) (Y := Y) (p := isLe) L (s + 1)).2 (by omega)
  · split
    · exact (runY_ge (L := L) (Y := Y) (p := isDi) L (s + 1)).2 (by omega)
    · omega
theorem stY_ge (i : Nat) : i ≤ stY L Y i ∧ (i ≤ L → stY L Y i ≤ L) := runY_ge L i
/-- TOKENS stand one behind the other -/
theorem tkP_up (j : Nat) : tkP L Y j < tkP L Y (j + 1) := by
  have h1 := enY_gt (L := L) (Y := Y) (tkP L Y j)
  have h2 := (stY_ge (L := L) (Y := Y) (posY L Y (j + 1))).1
  have e : posY L Y (j + 1) = enY L Y (tkP L Y j) := rfl
  show _ < stY L Y (posY L Y (j + 1))
  omega
theorem tkP_lt {i j : Nat} (h : i < j) : tkP L Y i < tkP L Y j := by
  induction j with
  | zero => omega
  | succ j ih =>
    have h1 := tkP_up (L := L) (Y := Y) j
    by_cases e : i = j
    · subst e; exact h1
    · have := ih (by omega); omega
theorem kdY_21 {s e : Nat} (h : s < L) (hb : byY L Y s ≠ 21) : kdY L Y s e ≠ 21 := by
  have hw : ∀ k w, w + k ≤ 19 → wdY L Y s e k w ≠ 21 := fun k => by
    induction k with
    | zero => intro w _; unfold wdY; decide
    | succ k ih =>
      intro w hw
      unfold wdY
      split
      · omega
      · exact ih (w + 1) (by omega)
  unfold kdY
  rw [if_neg (by omega)]
  split
  · split
    · decide
    · exact hw 19 0 (by omega)
  · split
    · split <;> decide
    · split
      · exact hb
      · decide
theorem sigY_21 {c : Nat} (h : sigY c = true) : 40 ≤ c ∧ c ≤ 61 := by
  unfold sigY at h
  simp only [Bool.or_eq_true, beq_iff_eq] at h
  omega
theorem wdY_le {s e : Nat} : ∀ k w : Nat, w + k ≤ 19 → wdY L Y s e k w ≤ 19
  | 0, w, _ => by unfold wdY; omega
  | k + 1, w, h => by
    unfold wdY
    split
    · omega
    · exact wdY_le k (w + 1) (by omega)
/-- the kinds: the end stands behind all bytes -/
theorem kdY_end {s e : Nat} : kdY L Y s e = 21 ↔ L ≤ s := by
  refine ⟨fun h => ?_, fun h => if_pos h⟩
  by_cases hs : L ≤ s
  · exact hs
  · exfalso
    revert h
    unfold kdY
    rw [if_neg hs]
    split
    · split
      · decide
      · have := wdY_le (L := L) (Y := Y) (s := s) (e := e) 19 0 (by omega)
        omega
    · split
      · split <;> decide
      · split
        · rename_i h
          have := sigY_21 h
          omega
        · decide
theorem tkP_le (j : Nat) (h : ∀ q, q < j → tkK L Y q ≠ 21) : tkP L Y j ≤ L ∧ posY L Y j ≤ L := by
  have key : posY L Y j ≤ L := by
    cases j with
    | zero => exact Nat.zero_le L
    | succ j =>
      have h1 := h j (by omega)
      have h2 : tkP L Y j < L := by
        by_cases h2 : tkP L Y j < L
        · exact h2
        · exact absurd (kdY_end.2 (by omega)) h1
      exact enY_le h2
  exact ⟨(stY_ge _).2 key, key⟩
/-- numbers of letters are told apart -/
theorem vlL_inj {f g : Nat → Nat} : ∀ n m : Nat, (∀ i, i < n → 97 ≤ f i ∧ f i ≤ 122) → (∀ i, i < m → 97 ≤ g i ∧ g i ≤ 122) → vlL f n = vlL g m → n = m ∧ ∀ i, i < n → f i = g i
  | 0, 0, _, _, _ => ⟨rfl, fun i h => by omega⟩
  | 0, m + 1, _, hg, h => by
    have := hg m (by omega)
    have h : 0 = 27 * vlL g m + (g m - 96) := h
    omega
  | n + 1, 0, hf, _, h => by
    have := hf n (by omega)
    have h : 27 * vlL f n + (f n - 96) = 0 := h
    omega
  | n + 1, m + 1, hf, hg, h => by
    have h1 := hf n (by omega)
    have h2 := hg m (by omega)
    have h : 27 * vlL f n + (f n - 96) = 27 * vlL g m + (g m - 96) := h
    obtain ⟨e1, e2⟩ := vlL_inj n m (fun i hi => hf i (by omega)) (fun i hi => hg i (by omega)) (by omega)
    subst e1
    refine ⟨rfl, fun i hi => ?_⟩
    by_cases e : i = n
    · subst e; omega
    · exact e2 i (by omega)
theorem vlL_lt {f : Nat → Nat} : ∀ n : Nat, n ≤ 8 → (∀ i, i < n → 97 ≤ f i ∧ f i ≤ 122) → vlL f n < 27 ^ n
  | 0, _, _ => by show 0 < 1; omega
  | n + 1, hn, hf => by
    have := hf n (by omega)
    have ih := vlL_lt n (by omega) (fun i hi => hf i (by omega))
    show 27 * vlL f n + (f n - 96) < 27 ^ (n + 1)
    rw [Nat.pow_succ]
    omega
theorem vlD_lt {f : Nat → Nat} : ∀ n : Nat, (∀ i, i < n → 48 ≤ f i ∧ f i ≤ 57) → vlD f n < 10 ^ n
  | 0, _ => by show 0 < 1; omega
  | n + 1, hf => by
    have := hf n (by omega)
    have ih := vlD_lt n (fun i hi => hf i (by omega))
    show 10 * vlD f n + (f n - 48) < 10 ^ (n + 1)
    rw [Nat.pow_succ]
    omega
/-- how long each word is -/
def wdN (w : Nat) : Nat := [5, 4, 5, 7, 3, 2, 4, 4, 5, 5, 4, 5, 6, 5, 4, 3, 3, 2, 4].getD w 0
theorem wd_row : ∀ w : Nat, w < 19 → ∀ i : Nat, i < 8 → (i < wdN w → 97 ≤ amWords.getD (8 * w + i) 0 ∧ amWords.getD (8 * w + i) 0 ≤ 122) ∧ (wdN w ≤ i → amWords.getD (8 * w + i) 0 = 32) := by decide +kernel
theorem wdN_b : ∀ w : Nat, w < 19 → wdN w ≤ 7 := by decide +kernel
theorem isWd_iff {w s e : Nat} : ∀ k i : Nat, isWd L Y w s e k i = true ↔ ∀ j, i ≤ j → j < i + k → amWords.getD (8 * w + j) 0 = (if s + j < e then byY L Y (s + j) else 32)
  | 0, i => ⟨fun _ j h1 h2 => by omega, fun _ => rfl⟩
  | k + 1, i => by
    unfold isWd
    have ih := isWd_iff (w := w) (s := s) (e := e) k (i + 1)
    refine ⟨fun h => ?_, fun h => ?_⟩
    · by_cases h0 : amWords.getD (8 * w + i) 0 = (if s + i < e then byY L Y (s + i) else 32)
      · rw [if_pos h0] at h
        intro j h1 h2
        by_cases ej : j = i
        · subst ej; exact h0
        · exact ih.1 h j (by omega) (by omega)
      · rw [if_neg h0] at h; cases h
    · rw [if_pos (h i (by omega) (by omega))]
      exact ih.2 fun j h1 h2 => h j (by omega) (by omega)
/-- a word is known by its number -/
theorem isWd_val {w s e : Nat} (hw : w < 19) (hse : s ≤ e) (he : e - s ≤ 7) (hl : ∀ j, s ≤ j → j < e → 97 ≤ byY L Y j ∧ byY L Y j ≤ 122) : isWd L Y w s e 8 0 = true ↔ vlL (fun i => amWords.getD (8 * w + i) 0) (wdN w) = vlL (fun i => byY L Y (s + i)) (e - s) := by
  have hN := wdN_b w hw
  have hr := wd_row w hw
  rw [isWd_iff]
  refine ⟨fun h => ?_, fun h => ?_⟩
  · have e1 : wdN w = e - s := by
      by_cases h1 : wdN w < e - s
      · have h2 := h (wdN w) (by omega) (by omega)
        rw [if_pos (by omega), (hr (wdN w) (by omega)).2 (Nat.le_refl _)] at h2
        have := hl (s + wdN w) (by omega) (by omega)
        omega
      · by_cases h1 : e - s < wdN w
        · have h2 := h (e - s) (by omega) (by omega)
          rw [if_neg (by omega)] at h2
          have := (hr (e - s) (by omega)).1 h1
          omega
        · omega
    rw [e1]
    have key : ∀ n, n ≤ e - s → vlL (fun i => amWords.getD (8 * w + i) 0) n = vlL (fun i => byY L Y (s + i)) n := fun n => by
      induction n with
      | zero => intro _; rfl
      | succ n ih =>
        intro hn
        have h2 := h n (by omega) (by omega)
        rw [if_pos (by omega)] at h2
        show 27 * vlL _ n + (amWords.getD (8 * w + n) 0 - 96) = 27 * vlL _ n + (byY L Y (s + n) - 96)
        rw [ih (by omega), h2]
    exact key (e - s) (Nat.le_refl _)
  · obtain ⟨e1, e2⟩ := vlL_inj (wdN w) (e - s) (fun i hi => (hr i (by omega)).1 hi) (fun i hi => hl (s + i) (by omega) (by omega)) h
    intro j h1 h2
    by_cases hj : s + j < e
    · rw [if_pos hj]
      exact e2 j (by omega)
    · rw [if_neg hj]
      exact (hr j (by omega)).2 (by omega)
theorem isWd_8 {w s e : Nat} (hw : w < 19) (he : e - s = 8) (hl : ∀ j, s ≤ j → j < e → 97 ≤ byY L Y j ∧ byY L Y j ≤ 122) : ¬ isWd L Y w s e 8 0 = true := fun h => by
  have hN := wdN_b w hw
  have h2 := (isWd_iff 8 0).1 h 7 (by omega) (by omega)
  rw [if_pos (by omega), (wd_row w hw 7 (by omega)).2 hN] at h2
  have := hl (s + 7) (by omega) (by omega)
  omega
end LEX
