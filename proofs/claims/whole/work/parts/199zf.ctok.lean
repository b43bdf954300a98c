/-! PURE: the class cuts the tape into TOKENS -/
section CTK
variable {D d L : Nat} {Y : Nat → Nat} {M : AmM}
/-- the bytes as the class reads them -/
def cBy (L : Nat) (Y : Nat → Nat) (M : AmM) : Prop := L ≤ 2000 ∧ M 7 0 1 = (L : Int) ∧ (∀ j, Y j < 256) ∧ ∀ j, j < L → bAnd (M 114 0 j) 255 = ((Y j : Nat) : Int)
def fTk1 : Nat → Nat → Nat → Bool := fun c _ _ => c == 115 || c == 116 || c == 117
theorem cBy.mv {M' : AmM} (h : cBy L Y M) (hs : amSame fTk1 M M') : cBy L Y M' := ⟨h.1, (hs 7 0 1 (by rfl)).trans h.2.1, h.2.2.1, fun j hj => by rw [hs 114 0 j (by rfl)]; exact h.2.2.2 j hj⟩
theorem c_byteAt (hD : 1 ≤ D) (h : cBy L Y M) {i : Nat} : amD amGst D 77 [vR 7 7 0, vI (i : Int)] M = some (vI ((byY L Y i : Nat) : Int), M) := by
  obtain ⟨d, rfl⟩ := dS hD
  have h0 := h.1
  rw [n_X7_byteAt, q_X7_byteAt_0, h.2.1, if_neg (show ¬ (i : Int) < 0 by omega)]
  unfold byY
  by_cases hi : i < L
  · rw [if_pos (show (i : Int) < (L : Int) by omega), if_pos (show (i : Int) < 2000 by omega), if_pos (by omega), tn_cast, h.2.2.2 i hi, if_pos hi]
  · rw [if_neg (show ¬ (i : Int) < (L : Int) by omega), if_neg hi]
    rfl
theorem c_isBlank (hD : 1 ≤ D) {c : Nat} : amD amGst D 78 [vI (c : Int)] M = some (vI (if isBl c = true then 1 else 0), M) := by
  obtain ⟨d, rfl⟩ := dS hD
  rw [n_X7_isBlank, q_X7_isBlank_0]
  by_cases h : isBl c = true
  · rw [if_pos h]
    have h := isBl_b.1 h
    by_cases h1 : (c : Int) = 9
    · rw [if_pos h1]
    · rw [if_neg h1]
      by_cases h2 : (c : Int) = 10
      · rw [if_pos h2]
      · rw [if_neg h2]
        by_cases h3 : (c : Int) = 13
        · rw [if_pos h3]
        · rw [if_neg h3, if_pos (by omega)]
  · have h1 : ¬ (c = 9 ∨ c = 10 ∨ c = 13 ∨ c = 32) := fun q => h (isBl_b.2 q)
    rw [if_neg h, if_neg (by omega), if_neg (by omega), if_neg (by omega), if_neg (by omega)]
theorem c_isLetter (hD : 1 ≤ D) {c : Nat} : amD amGst D 79 [vI (c : Int)] M = some (vI (if isLe c = true then 1 else 0), M) := by
  obtain ⟨d, rfl⟩ := dS hD
  rw [n_X7_isLetter, q_X7_isLetter_0]
  by_cases h : isLe c = true
  · have h1 := isLe_b.1 h
    rw [if_pos h, if_neg (by omega), if_neg (by omega)]
  · have h1 : ¬ (97 ≤ c ∧ c ≤ 122) := fun q => h (isLe_b.2 q)
    rw [if_neg h]
    by_cases h2 : (c : Int) < 97
    · rw [if_pos h2]
    · rw [if_neg h2, if_pos (by omega)]
theorem c_isDigit (hD : 1 ≤ D) {c : Nat} : amD amGst D 80 [vI (c : Int)] M = some (vI (if isDi c = true then 1 else 0), M) := by
  obtain ⟨d, rfl⟩ := dS hD
  rw [n_X7_isDigit, q_X7_isDigit_0]
  by_cases h : isDi c = true
  · have h1 := isDi_b.1 h
    rw [if_pos h, if_neg (by omega), if_neg (by omega)]
  · have h1 : ¬ (48 ≤ c ∧ c ≤ 57) := fun q => h (isDi_b.2 q)
    rw [if_neg h]
    by_cases h2 : (c : Int) < 48
    · rw [if_pos h2]
    · rw [if_neg h2, if_pos (by omega)]
theorem b01 {b : Bool} : (if b = true then (1 : Int) else 0) = 0 ↔ b = false := by cases b <;> simp
theorem c_blankLoop (hd : 1 ≤ d) (h : cBy L Y M) {l1 : Int} : ∀ k i : Nat, L ≤ i + k → e_X7_afterBlanks_2 d l1 (i : Int) M = some (vI ((runY L Y isBl k i : Nat) : Int), M)
  | 0, i, hk => by
    rw [q_X7_afterBlanks_2, h.2.1, if_neg (by omega)]; rfl
  | k + 1, i, hk => by
    have h0 := h.1
    rw [q_X7_afterBlanks_2, h.2.1]
    unfold runY
    by_cases hi : i < L
    · rw [if_pos (by omega), c_byteAt hd h, amCI_s, c_isBlank hd, amCI_s, w32_n (x := (i : Int) + 1) (n := i + 1) (by omega) (by omega)]
      by_cases hb : isBl (byY L Y i) = true
      · rw [if_neg (by rw [b01, hb]; decide), if_pos ⟨hi, hb⟩]
        exact c_blankLoop hd h k (i + 1) (by omega)
      · rw [if_pos (b01.2 (Bool.not_eq_true _ ▸ hb)), if_neg (fun q => hb q.2)]
    · rw [if_neg (by omega), if_neg (fun q => hi q.1)]
theorem c_afterBlanks (hD : 2 ≤ D) (h : cBy L Y M) {i : Nat} : amD amGst D 71 [vR 7 7 0, vI (i : Int)] M = some (vI ((stY L Y i : Nat) : Int), M) := by
  obtain ⟨d, rfl⟩ := dS hD
  rw [n_X7_afterBlanks, q_X7_afterBlanks_0]
  exact c_blankLoop (by omega) h L i (by omega)
theorem c_letLoop (hd : 1 ≤ d) (h : cBy L Y M) {l1 : Int} : ∀ k i : Nat, L ≤ i + k → i ≤ L + 1 → e_X7_endOf_15 d l1 (i : Int) M = some (vI ((runY L Y isLe k i : Nat) : Int), M)
  | 0, i, hk, _ => by
    rw [q_X7_endOf_15, h.2.1, if_neg (by omega)]; rfl
  | k + 1, i, hk, _ => by
    have h0 := h.1
    rw [q_X7_endOf_15, h.2.1]
    unfold runY
    by_cases hi : i < L
    · rw [if_pos (by omega), c_byteAt hd h, amCI_s, c_isLetter hd, amCI_s, w32_n (x := (i : Int) + 1) (n := i + 1) (by omega) (by omega)]
      by_cases hb : isLe (byY L Y i) = true
      · rw [if_neg (by rw [b01, hb]; decide), if_pos ⟨hi, hb⟩]
        exact c_letLoop hd h k (i + 1) (by omega) (by omega)
      · rw [if_pos (b01.2 (Bool.not_eq_true _ ▸ hb)), if_neg (fun q => hb q.2)]
    · rw [if_neg (by omega), if_neg (fun q => hi q.1)]
theorem c_digLoop (hd : 1 ≤ d) (h : cBy L Y M) {l1 : Int} : ∀ k i : Nat, L ≤ i + k → i ≤ L + 1 → e_X7_endOf_51 d l1 (i : Int) M = some (vI ((runY L Y isDi k i : Nat) : Int), M)
  | 0, i, hk, _ => by
    rw [q_X7_endOf_51, h.2.1, if_neg (by omega)]; rfl
  | k + 1, i, hk, _ => by
    have h0 := h.1
    rw [q_X7_endOf_51, h.2.1]
    unfold runY
    by_cases hi : i < L
    · rw [if_pos (by omega), c_byteAt hd h, amCI_s, c_isDigit hd, amCI_s, w32_n (x := (i : Int) + 1) (n := i + 1) (by omega) (by omega)]
      by_cases hb : isDi (byY L Y i) = true
      · rw [if_neg (by rw [b01, hb]; decide), if_pos ⟨hi, hb⟩]
        exact c_digLoop hd h k (i + 1) (by omega) (by omega)
      · rw [if_pos (b01.2 (Bool.not_eq_true _ ▸ hb)), if_neg (fun q => hb q.2)]
    · rw [if_neg (by omega), if_neg (fun q => hi q.1)]
theorem c_endOf (hD : 2 ≤ D) (h : cBy L Y M) {s : Nat} (hs : s ≤ L) : amD amGst D 72 [vR 7 7 0, vI (s : Int)] M = some (vI ((enY L Y s : Nat) : Int), M) := by
  obtain ⟨d, rfl⟩ := dS hD
  have h0 := h.1
  rw [n_X7_endOf, q_X7_endOf_0, c_byteAt (by omega) h, amCI_s, c_isLetter (by omega), amCI_s, w32_n (x := (s : Int) + 1) (n := s + 1) (by omega) (by omega)]
  unfold enY
  by_cases hb : isLe (byY L Y s) = true
  · rw [if_neg (by rw [b01, hb]; decide), if_pos hb]
    exact c_letLoop (by omega) h L (s + 1) (by omega) (by omega)
  · rw [if_pos (b01.2 (Bool.not_eq_true _ ▸ hb)), if_neg hb, c_byteAt (by omega) h, amCI_s, c_isDigit (by omega), amCI_s]
    by_cases hb2 : isDi (byY L Y s) = true
    · rw [if_neg (by rw [b01, hb2]; decide), if_pos hb2]
      exact c_digLoop (by omega) h L (s + 1) (by omega) (by omega)
    · rw [if_pos (b01.2 (Bool.not_eq_true _ ▸ hb2)), if_neg hb2]
theorem c_wordLoop (hd : 1 ≤ d) (h : cBy L Y M) {w s e : Nat} (hw : w < 19) (hs : s ≤ 3000) : ∀ (k i : Nat) (u5 u6 : AmV), i + k = 8 → e_X7_isWord_3 d (w : Int) (s : Int) (e : Int) (i : Int) u5 u6 M = some (vI (if isWd L Y w s e k i = true then 1 else 0), M)
  | 0, i, u5, u6, hk => by
    rw [q_X7_isWord_3, if_neg (by omega)]; rfl
  | k + 1, i, u5, u6, hk => by
    have ih := c_wordLoop hd h hw hs (e := e) k (i + 1)
    rw [q_X7_isWord_3, if_pos (by omega), w32_n (x := (s : Int) + (i : Int)) (n := s + i) (by omega) (by omega), w32_n (x := (w : Int) * 8) (n := 8 * w) (by omega) (by omega), w32_n (x := ((8 * w : Nat) : Int) + (i : Int)) (n := 8 * w + i) (by omega) (by omega), tn_cast, w32_n (x := (i : Int) + 1) (n := i + 1) (by omega) (by omega)]
    unfold isWd
    by_cases hi : s + i < e
    · rw [if_pos (show ((s + i : Nat) : Int) < (e : Int) by omega), if_pos hi, c_byteAt hd h, amCI_s, if_neg (by omega), if_pos (by omega), if_pos (by omega)]
      by_cases hc : amWords.getD (8 * w + i) 0 = byY L Y (s + i)
      · rw [if_pos hc, if_pos (by omega)]
        exact ih _ _ (by omega)
      · rw [if_neg hc, if_neg (by omega)]; rfl
    · rw [if_neg (show ¬ ((s + i : Nat) : Int) < (e : Int) by omega), if_neg hi, if_neg (by omega), if_pos (by omega), if_pos (by omega)]
      by_cases hc : amWords.getD (8 * w + i) 0 = 32
      · rw [if_pos hc, if_pos (by omega)]
        exact ih _ _ (by omega)
      · rw [if_neg hc, if_neg (by omega)]; rfl
theorem c_wordOf (hD : 3 ≤ D) (h : cBy L Y M) {s e : Nat} (hs : s ≤ 3000) : amD amGst D 74 [vR 7 7 0, vI (s : Int), vI (e : Int)] M = some (vI ((wdY L Y s e 19 0 : Nat) : Int), M) := by
  obtain ⟨d, rfl⟩ := dS hD
  obtain ⟨d, rfl⟩ := dS (show 1 + 1 ≤ d by omega)
  have key : ∀ k w : Nat, w + k = 19 → e_X7_wordOf_2 (d + 1) (s : Int) (e : Int) (w : Int) M = some (vI ((wdY L Y s e k w : Nat) : Int), M) := fun k => by
    induction k with
    | zero =>
      intro w hw
      have hw : w = 19 := hw
      rw [q_X7_wordOf_2, if_pos (by omega)]; rfl
    | succ k ih =>
      intro w hw
      rw [q_X7_wordOf_2, if_neg (by omega), n_X7_isWord, q_X7_isWord_0]
      have hl := c_wordLoop (d := d) (by omega) h (e := e) (show w < 19 by omega) hs 8 0 vU vU rfl
      rw [show ((0 : Nat) : Int) = 0 from rfl] at hl
      rw [hl, amCI_s, w32_n (x := (w : Int) + 1) (n := w + 1) (by omega) (by omega)]
      unfold wdY
      by_cases hc : isWd L Y w s e 8 0 = true
      · rw [if_neg (by rw [b01, hc]; decide), if_pos hc]
      · rw [if_pos (b01.2 (Bool.not_eq_true _ ▸ hc)), if_neg hc]
        exact ih (w + 1) (by omega)
  rw [n_X7_wordOf, q_X7_wordOf_0]
  exact key 19 0 rfl
theorem sig_idx : ∀ c : Nat, c < 256 → (amIdxF ((c : Int) % 65536) amSigns 0 < 0 ↔ ¬ sigY c = true) := by decide +kernel
theorem c_kindOf (hD : 4 ≤ D) (h : cBy L Y M) {s e : Nat} (hse : s ≤ e) (he : e ≤ 3000) : amD amGst D 73 [vR 7 7 0, vI (s : Int), vI (e : Int)] M = some (vI ((kdY L Y s e : Nat) : Int), M) := by
  obtain ⟨d, rfl⟩ := dS hD
  have h0 := h.1
  have hb256 := byY_lt (L := L) h.2.2.1 s
  rw [n_X7_kindOf, q_X7_kindOf_0, h.2.1]
  unfold kdY
  by_cases hs : L ≤ s
  · rw [if_neg (by omega), if_pos hs]; rfl
  · rw [if_pos (by omega), if_neg hs, c_byteAt (by omega) h, amCI_s, c_isLetter (by omega), amCI_s, w32_n (x := (e : Int) - (s : Int)) (n := e - s) (by omega) (by omega)]
    by_cases hb : isLe (byY L Y s) = true
    · rw [if_neg (by rw [b01, hb]; decide), if_pos hb]
      by_cases h8 : 8 < e - s
      · rw [if_pos (by omega), if_pos h8]; rfl
      · rw [if_neg (by omega), if_neg h8, c_wordOf (by omega) h (by omega), amCI_s]
    · rw [if_pos (b01.2 (Bool.not_eq_true _ ▸ hb)), if_neg hb, c_isDigit (by omega), amCI_s]
      by_cases hb2 : isDi (byY L Y s) = true
      · rw [if_neg (by rw [b01, hb2]; decide), if_pos hb2]
        by_cases h4 : 4 < e - s
        · rw [if_pos (by omega), if_pos h4]; rfl
        · rw [if_neg (by omega), if_neg h4]; rfl
      · rw [if_pos (b01.2 (Bool.not_eq_true _ ▸ hb2)), if_neg hb2, if_pos (by omega)]
        by_cases hsg : sigY (byY L Y s) = true
        · rw [if_neg (fun q => (sig_idx _ hb256).1 q hsg), if_pos hsg]
        · rw [if_pos ((sig_idx _ hb256).2 hsg), if_neg hsg]; rfl
/-- the value: some number; of letters alone and of digits alone the right one -/
theorem c_valLoop (hd : 1 ≤ d) (h : cBy L Y M) {l1 : Int} {e : Nat} (he : e ≤ 3000) : ∀ (k i : Nat) (x : Int) (u6 : AmV), i + k = e → ∃ y : Int, e_X7_valueOf_5 d l1 (e : Int) x (i : Int) u6 M = some (vL y, M)
  | 0, i, x, u6, hk => ⟨x, by rw [q_X7_valueOf_5, if_neg (by omega)]⟩
  | k + 1, i, x, u6, hk => by
    rw [q_X7_valueOf_5, if_pos (by omega), c_byteAt hd h, amCI_s, c_isDigit hd, amCI_s, w32_n (x := (i : Int) + 1) (n := i + 1) (by omega) (by omega)]
    split
    · exact c_valLoop hd h he k (i + 1) _ _ (by omega)
    · exact c_valLoop hd h he k (i + 1) _ _ (by omega)
theorem pw27 : ∀ n : Nat, n < 9 → 27 ^ n ≤ 282429536481 := by decide +kernel
theorem c_valLet (hd : 1 ≤ d) (h : cBy L Y M) {l1 : Int} {s e : Nat} (he : e ≤ 3000) (h8 : e - s ≤ 8) (hl : ∀ j, s ≤ j → j < e → 97 ≤ byY L Y j ∧ byY L Y j ≤ 122) : ∀ (k n : Nat) (u6 : AmV), s + n + k = e → e_X7_valueOf_5 d l1 (e : Int) ((vlL (fun i => byY L Y (s + i)) n : Nat) : Int) ((s + n : Nat) : Int) u6 M = some (vL ((vlL (fun i => byY L Y (s + i)) (e - s) : Nat) : Int), M)
  | 0, n, u6, hk => by
    rw [q_X7_valueOf_5, if_neg (by omega), show e - s = n by omega]
  | k + 1, n, u6, hk => by
    have hb := hl (s + n) (by omega) (by omega)
    have h1 := vlL_lt (f := fun i => byY L Y (s + i)) n (by omega) (fun i hi => hl (s + i) (by omega) (by omega))
    have h2 := pw27 n (by omega)
    have hnd : isDi (byY L Y (s + n)) = false := by
      rw [← Bool.not_eq_true, isDi_b]; omega
    have ih := c_valLet hd h (l1 := l1) he h8 hl k (n + 1)
    have en : vlL (fun i => byY L Y (s + i)) (n + 1) = 27 * vlL (fun i => byY L Y (s + i)) n + (byY L Y (s + n) - 96) := rfl
    rw [q_X7_valueOf_5, if_pos (by omega), c_byteAt hd h, amCI_s, c_isDigit hd, amCI_s, if_pos (b01.2 hnd), w32_n (x := ((s + n : Nat) : Int) + 1) (n := s + (n + 1)) (by omega) (by omega), w64_id (x := ((vlL (fun i => byY L Y (s + i)) n : Nat) : Int) * 27) (by omega) (by omega), w64_id (x := ((vlL (fun i => byY L Y (s + i)) n : Nat) : Int) * 27 + ((byY L Y (s + n) : Nat) : Int)) (by omega) (by omega), w64_id (x := ((vlL (fun i => byY L Y (s + i)) n : Nat) : Int) * 27 + ((byY L Y (s + n) : Nat) : Int) - 97) (by omega) (by omega), w64_id (x := ((vlL (fun i => byY L Y (s + i)) n : Nat) : Int) * 27 + ((byY L Y (s + n) : Nat) : Int) - 97 + 1) (by omega) (by omega), show ((vlL (fun i => byY L Y (s + i)) n : Nat) : Int) * 27 + ((byY L Y (s + n) : Nat) : Int) - 97 + 1 = ((vlL (fun i => byY L Y (s + i)) (n + 1) : Nat) : Int) by rw [en]; omega]
    exact ih _ (by omega)
theorem pw10 : ∀ n : Nat, n < 5 → 10 ^ n ≤ 10000 := by decide +kernel
theorem c_valDig (hd : 1 ≤ d) (h : cBy L Y M) {l1 : Int} {s e : Nat} (he : e ≤ 3000) (h8 : e - s ≤ 4) (hl : ∀ j, s ≤ j → j < e → 48 ≤ byY L Y j ∧ byY L Y j ≤ 57) : ∀ (k n : Nat) (u6 : AmV), s + n + k = e → e_X7_valueOf_5 d l1 (e : Int) ((vlD (fun i => byY L Y (s + i)) n : Nat) : Int) ((s + n : Nat) : Int) u6 M = some (vL ((vlD (fun i => byY L Y (s + i)) (e - s) : Nat) : Int), M)
  | 0, n, u6, hk => by
    rw [q_X7_valueOf_5, if_neg (by omega), show e - s = n by omega]
  | k + 1, n, u6, hk => by
    have hb := hl (s + n) (by omega) (by omega)
    have h1 := vlD_lt (f := fun i => byY L Y (s + i)) n (fun i hi => hl (s + i) (by omega) (by omega))
    have h2 := pw10 n (by omega)
    have hnd : isDi (byY L Y (s + n)) = true := isDi_b.2 hb
    have ih := c_valDig hd h (l1 := l1) he h8 hl k (n + 1)
    have en : vlD (fun i => byY L Y (s + i)) (n + 1) = 10 * vlD (fun i => byY L Y (s + i)) n + (byY L Y (s + n) - 48) := rfl
    rw [q_X7_valueOf_5, if_pos (by omega), c_byteAt hd h, amCI_s, c_isDigit hd, amCI_s, if_neg (by rw [b01, hnd]; decide), w32_n (x := ((s + n : Nat) : Int) + 1) (n := s + (n + 1)) (by omega) (by omega), w64_id (x := ((vlD (fun i => byY L Y (s + i)) n : Nat) : Int) * 10) (by omega) (by omega), w64_id (x := ((vlD (fun i => byY L Y (s + i)) n : Nat) : Int) * 10 + ((byY L Y (s + n) : Nat) : Int)) (by omega) (by omega), w64_id (x := ((vlD (fun i => byY L Y (s + i)) n : Nat) : Int) * 10 + ((byY L Y (s + n) : Nat) : Int) - 48) (by omega) (by omega), show ((vlD (fun i => byY L Y (s + i)) n : Nat) : Int) * 10 + ((byY L Y (s + n) : Nat) : Int) - 48 = ((vlD (fun i => byY L Y (s + i)) (n + 1) : Nat) : Int) by rw [en]; omega]
    exact ih _ (by omega)
end CTK
