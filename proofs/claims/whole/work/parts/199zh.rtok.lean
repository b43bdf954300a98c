/-! PURE: the reference cuts its text into TOKENS -/
theorem rNoLe {L : Nat} {Y : Nat → Nat} {s : Nat} (hs : s < L) (hb : isLe (byY L Y s) = true) : isLe (byY L Y (enY L Y s)) = false := by
  have e : enY L Y s = runY L Y isLe L (s + 1) := if_pos hb
  have h := runY_end (L := L) (Y := Y) (p := isLe) L (s + 1) (by omega)
  rw [← e] at h
  by_cases h1 : enY L Y s < L
  · rw [← Bool.not_eq_true]
    exact fun q => h ⟨h1, q⟩
  · rw [byY_0 (by omega)]; rfl
theorem rNoDi {L : Nat} {Y : Nat → Nat} {s : Nat} (hs : s < L) (hb : isDi (byY L Y s) = true) : isDi (byY L Y (enY L Y s)) = false := by
  have hl : ¬ isLe (byY L Y s) = true := fun q => by
    have h3 := isLe_b.1 q
    have h4 := isDi_b.1 hb
    omega
  have e : enY L Y s = runY L Y isDi L (s + 1) := (if_neg hl).trans (if_pos hb)
  have h := runY_end (L := L) (Y := Y) (p := isDi) L (s + 1) (by omega)
  rw [← e] at h
  by_cases h1 : enY L Y s < L
  · rw [← Bool.not_eq_true]
    exact fun q => h ⟨h1, q⟩
  · rw [byY_0 (by omega)]; rfl
/-- class words, in the order of the reference's keys -/
def wkL (k : Nat) : Nat := [0, 1, 2, 3, 4, 8, 9, 10, 11, 5, 6, 7, 12, 13, 14, 15, 16, 17, 18].getD k 0
theorem wkL_b : ∀ k : Nat, k < 19 → wkL k < 19 ∧ kR (wkL k) = 20 + k := by decide +kernel
theorem kR_b : ∀ w : Nat, w < 19 → 20 ≤ kR w ∧ kR w < 39 ∧ wkL (kR w - 20) = w := by decide +kernel
theorem wd_uniq : ∀ w : Nat, w < 19 → ∀ w' : Nat, w' < 19 → vlL (fun i => amWords.getD (8 * w + i) 0) (wdN w) = vlL (fun i => amWords.getD (8 * w' + i) 0) (wdN w') → w = w' := by decide +kernel
def kyV (k : Nat) : Nat := vlL (fun i => amWords.getD (8 * wkL k + i) 0) (wdN (wkL k))
theorem wdY_of {L : Nat} {Y : Nat → Nat} {s e : Nat} : ∀ k w : Nat, w + k = 19 → (wdY L Y s e k w = 19 ∧ ∀ w', w ≤ w' → w' < 19 → ¬ isWd L Y w' s e 8 0 = true) ∨ (wdY L Y s e k w < 19 ∧ isWd L Y (wdY L Y s e k w) s e 8 0 = true)
  | 0, w, h => Or.inl ⟨rfl, fun w' h1 h2 => by omega⟩
  | k + 1, w, h => by
    unfold wdY
    by_cases hc : isWd L Y w s e 8 0 = true
    · rw [if_pos hc]; exact Or.inr ⟨by omega, hc⟩
    · rw [if_neg hc]
      rcases wdY_of k (w + 1) (by omega) with ⟨h1, h2⟩ | h1
      · exact Or.inl ⟨h1, fun w' a b => by
          by_cases ew : w' = w
          · subst ew; exact hc
          · exact h2 w' (by omega) b⟩
      · exact Or.inr h1
section RTK
variable {D d L : Nat} {Y : Nat → Nat} {M : AmM}
def rBy (L : Nat) (Y : Nat → Nat) (M : AmM) : Prop := L ≤ 2000 ∧ M 12 0 4 = (L : Int) ∧ (∀ j, Y j < 256) ∧ ∀ j, j < L → bAnd (M 130 0 j) 255 = ((Y j : Nat) : Int)
def rKy (M : AmM) : Prop := ∀ k, k < 19 → M 135 0 k = ((kyV k : Nat) : Int)
def fRt1 : Nat → Nat → Nat → Bool := fun c _ j => c == 131 || c == 132 || c == 133 || c == 134 || (c == 12 && j == 10)
theorem rBy.mv {M' : AmM} (h : rBy L Y M) (hs : amSame fRt1 M M') : rBy L Y M' := ⟨h.1, (hs 12 0 4 (by rfl)).trans h.2.1, h.2.2.1, fun j hj => by rw [hs 130 0 j (by rfl)]; exact h.2.2.2 j hj⟩
theorem rKy.mv {M' : AmM} (h : rKy M) (hs : amSame fRt1 M M') : rKy M' := fun k hk => (hs 135 0 k (by rfl)).trans (h k hk)
theorem r_byteAt (hD : 1 ≤ D) (h : rBy L Y M) {i : Nat} : amD amGst D 150 [vR 12 12 0, vI (i : Int)] M = some (vI ((byY L Y i : Nat) : Int), M) := by
  obtain ⟨d, rfl⟩ := dS hD
  have h0 := h.1
  rw [n_X12_byteAt, q_X12_byteAt_0, h.2.1]
  unfold byY
  by_cases hi : i < L
  · rw [if_pos (show (i : Int) < (L : Int) by omega), if_pos (by omega), tn_cast, h.2.2.2 i hi, if_pos hi]
  · rw [if_neg (show ¬ (i : Int) < (L : Int) by omega), if_neg hi]
    rfl
theorem r_isLetter (hD : 1 ≤ D) {c : Nat} : amD amGst D 152 [vI (c : Int)] M = some (vI (if isLe c = true then 1 else 0), M) := by
  obtain ⟨d, rfl⟩ := dS hD
  rw [n_X12_isLetter, q_X12_isLetter_0]
  by_cases h : isLe c = true
  · have h1 := isLe_b.1 h
    rw [if_pos h, if_neg (by omega), if_neg (by omega)]
  · have h1 : ¬ (97 ≤ c ∧ c ≤ 122) := fun q => h (isLe_b.2 q)
    rw [if_neg h]
    by_cases h2 : (c : Int) < 97
    · rw [if_pos h2]
    · rw [if_neg h2, if_pos (by omega)]
theorem r_isDigit (hD : 1 ≤ D) {c : Nat} : amD amGst D 151 [vI (c : Int)] M = some (vI (if isDi c = true then 1 else 0), M) := by
  obtain ⟨d, rfl⟩ := dS hD
  rw [n_X12_isDigit, q_X12_isDigit_0]
  by_cases h : isDi c = true
  · have h1 := isDi_b.1 h
    rw [if_pos h, if_neg (by omega), if_neg (by omega)]
  · have h1 : ¬ (48 ≤ c ∧ c ≤ 57) := fun q => h (isDi_b.2 q)
    rw [if_neg h]
    by_cases h2 : (c : Int) < 48
    · rw [if_pos h2]
    · rw [if_neg h2, if_pos (by omega)]
theorem r_token (hD : 1 ≤ D) {j : Nat} {k p x n : Int} (hj : j < 403) (h : M 12 0 10 = (j : Int)) : amD amGst D 155 [vR 12 12 0, vI k, vI p, vI x, vL n] M = some (vU, amUp (amUp (amUp (amUp (amUp M 131 0 j k) 132 0 j p) 133 0 j x) 134 0 j n) 12 0 10 ((j + 1 : Nat) : Int)) := by
  obtain ⟨d, rfl⟩ := dS hD
  rw [n_X12_token, q_X12_token_0, up_c (show 12 ≠ 131 by decide), h, tn_cast, if_pos (by omega), if_pos (by omega), q_X12_token_20, up_c (show 12 ≠ 133 by decide), up_c (show 12 ≠ 132 by decide), up_c (show 12 ≠ 131 by decide), h, tn_cast, if_pos (by omega), if_pos (by omega), q_X12_token_41, up_c (show 12 ≠ 134 by decide), up_c (show 12 ≠ 133 by decide), up_c (show 12 ≠ 132 by decide), up_c (show 12 ≠ 131 by decide), h, w32_n (x := (j : Int) + 1) (n := j + 1) (by omega) (by omega)]
/-- one TOKEN in the reference -/
def rTe (L : Nat) (Y : Nat → Nat) (q : Nat) (M : AmM) : Prop := M 131 0 q = ((kR (tkK L Y q) : Nat) : Int) ∧ M 132 0 q = ((tkP L Y q : Nat) : Int) ∧ (tkK L Y q = 20 → M 133 0 q = ((tkV L Y q : Nat) : Int)) ∧ (tkK L Y q ≤ 19 → M 134 0 q = ((tkV L Y q : Nat) : Int))
theorem rTe.mv {q : Nat} {M' : AmM} (h : rTe L Y q M) (h1 : M' 131 0 q = M 131 0 q) (h2 : M' 132 0 q = M 132 0 q) (h3 : M' 133 0 q = M 133 0 q) (h4 : M' 134 0 q = M 134 0 q) : rTe L Y q M' := ⟨h1.trans h.1, h2.trans h.2.1, fun q => h3.trans (h.2.2.1 q), fun q => h4.trans (h.2.2.2 q)⟩
theorem cmp0 {x y : Int} : amCmp x y = 0 ↔ x = y := by
  unfold amCmp
  split
  · exact ⟨fun h => by omega, fun h => by omega⟩
  · split
    · rename_i h; exact ⟨fun _ => h, fun _ => rfl⟩
    · rename_i h; exact ⟨fun q => by omega, fun q => absurd q h⟩
theorem r_keyLoop (hK : rKy M) {l1 l2 l3 : Int} {s e : Nat} (hse : s ≤ e) (he : e - s ≤ 7) (hl : ∀ j, s ≤ j → j < e → 97 ≤ byY L Y j ∧ byY L Y j ≤ 122) : ∀ (m k : Nat) (l6 : Int), k + m = 19 → l6 = (if wdY L Y s e 19 0 < 19 ∧ kR (wdY L Y s e 19 0) - 20 < k then ((kR (wdY L Y s e 19 0) : Nat) : Int) else 1) → e_X12_cut_146 d l1 l2 l3 ((vlL (fun i => byY L Y (s + i)) (e - s) : Nat) : Int) l6 (k : Int) M = e_X12_cut_179 d l1 l2 l3 ((vlL (fun i => byY L Y (s + i)) (e - s) : Nat) : Int) ((kR (wdY L Y s e 19 0) : Nat) : Int) (vI 19) M
  | 0, k, l6, h, h6 => by
    have h : k = 19 := h
    subst h
    rw [q_X12_cut_146, if_neg (by omega), h6]
    have h7 := wdY_of (L := L) (Y := Y) (s := s) (e := e) 19 0 rfl
    rcases h7 with ⟨h8, -⟩ | ⟨h8, -⟩
    · rw [h8, if_neg (by omega)]; rfl
    · have := kR_b _ h8
      rw [if_pos ⟨h8, by omega⟩]; rfl
  | m + 1, k, l6, h, h6 => by
    have hw := wkL_b k (by omega)
    have hval := isWd_val (L := L) (Y := Y) (w := wkL k) hw.1 hse he hl
    have h7 := wdY_of (L := L) (Y := Y) (s := s) (e := e) 19 0 rfl
    rw [q_X12_cut_146, if_pos (by omega), if_pos (by omega), tn_cast, hK k (by omega), w32_n (x := 20 + (k : Int)) (n := 20 + k) (by omega) (by omega), w32_n (x := (k : Int) + 1) (n := k + 1) (by omega) (by omega)]
    by_cases hm : isWd L Y (wkL k) s e 8 0 = true
    · have hv := hval.1 hm
      have eW : wdY L Y s e 19 0 = wkL k := by
        rcases h7 with ⟨-, h8⟩ | ⟨h8, h9⟩
        · exact absurd hm (h8 _ (by omega) hw.1)
        · have h10 := (isWd_val (L := L) (Y := Y) h8 hse he hl).1 h9
          exact wd_uniq _ h8 _ hw.1 (h10.trans hv.symm)
      rw [if_pos (cmp0.2 (by show ((kyV k : Nat) : Int) = _; unfold kyV; rw [hv]))]
      refine r_keyLoop hK hse he hl m (k + 1) _ (by omega) ?_
      rw [eW, hw.2, if_pos ⟨hw.1, by omega⟩]
    · have hne : ¬ amCmp ((kyV k : Nat) : Int) ((vlL (fun i => byY L Y (s + i)) (e - s) : Nat) : Int) = 0 := fun q => by
        have q := cmp0.1 q
        unfold kyV at q
        exact hm (hval.2 (by omega))
      rw [if_neg hne]
      refine r_keyLoop hK hse he hl m (k + 1) _ (by omega) ?_
      rw [h6]
      by_cases h8 : wdY L Y s e 19 0 < 19
      · have h9 : isWd L Y (wdY L Y s e 19 0) s e 8 0 = true := by
          rcases h7 with ⟨h10, -⟩ | ⟨-, h10⟩
          · omega
          · exact h10
        have h11 := kR_b _ h8
        have h12 : kR (wdY L Y s e 19 0) - 20 ≠ k := fun q => by
          rw [q] at h11
          rw [h11.2.2] at hm
          exact hm h9
        by_cases h13 : kR (wdY L Y s e 19 0) - 20 < k
        · rw [if_pos ⟨h8, h13⟩, if_pos ⟨h8, by omega⟩]
        · rw [if_neg (fun q => h13 q.2), if_neg (fun q => by omega)]
      · rw [if_neg (fun q => h8 q.1), if_neg (fun q => h8 q.1)]
theorem r_letLoop (hd : 1 ≤ d) (h : rBy L Y M) (hK : rKy M) {s : Nat} {l2 : Int} {u6 u7 : AmV} (hs : s < L) (hb : isLe (byY L Y s) = true) : ∀ (k n : Nat), s + n + k = enY L Y s → ∃ (u2 u3 u4 w6 w7 : AmV) (nm : Int), e_X12_cut_85 d (s : Int) l2 (n : Int) ((vlL (fun i => byY L Y (s + i)) (min n 8) : Nat) : Int) u6 u7 M = (amCV (amD amGst d 155 [vR 12 12 0, vI ((kR (kdY L Y s (enY L Y s)) : Nat) : Int), vI (s : Int), vI 0, vL nm] M) fun M1 => e_X12_cut_7 d ((enY L Y s : Nat) : Int) u2 u3 u4 w6 w7 M1) ∧ (kdY L Y s (enY L Y s) ≤ 19 → nm = ((vlL (fun i => byY L Y (s + i)) (enY L Y s - s) : Nat) : Int))
  | 0, n, hk => by
    have hle := enY_le (Y := Y) hs
    have hgt := enY_gt (L := L) (Y := Y) s
    have hL := h.1
    have hnl := rNoLe (Y := Y) hs hb
    have ekd : kdY L Y s (enY L Y s) = if 8 < enY L Y s - s then 22 else wdY L Y s (enY L Y s) 19 0 := by
      unfold kdY
      rw [if_neg (by omega), if_pos hb]
    have en : s + n = enY L Y s := hk
    have ens : enY L Y s - s = n := by omega
    rw [q_X12_cut_85, w32_n (x := (s : Int) + (n : Int)) (n := s + n) (by omega) (by omega), r_byteAt hd h, amCI_s, en, r_isLetter hd, amCI_s, if_pos (b01.2 hnl)]
    by_cases h8 : 8 < n
    · have e22 : kdY L Y s (enY L Y s) = 22 := by rw [ekd, if_pos (by omega)]
      rw [if_pos (by omega), if_pos (by omega), q_X12_cut_179, w32_n (x := (s : Int) + (n : Int)) (n := enY L Y s) (by omega) (by omega), e22]
      exact ⟨_, _, _, _, _, _, rfl, fun q => by omega⟩
    · have ew : kdY L Y s (enY L Y s) = wdY L Y s (enY L Y s) 19 0 := by rw [ekd, if_neg (by omega)]
      rw [if_neg (by omega), show min n 8 = n by omega]
      by_cases h7 : 7 < n
      · have e19 : wdY L Y s (enY L Y s) 19 0 = 19 := by
          rcases wdY_of (L := L) (Y := Y) (s := s) (e := enY L Y s) 19 0 rfl with ⟨h9, -⟩ | ⟨h9, h10⟩
          · exact h9
          · exact absurd h10 (isWd_8 h9 (by omega) (tok_let hs hb))
        rw [if_pos (by omega), q_X12_cut_179, w32_n (x := (s : Int) + (n : Int)) (n := enY L Y s) (by omega) (by omega), ew, e19]
        exact ⟨_, _, _, _, _, _, rfl, fun _ => by rw [ens]⟩
      · rw [if_neg (by omega)]
        have hkl := r_keyLoop (d := d) (M := M) hK (l1 := (s : Int)) (l2 := l2) (l3 := (n : Int)) (show s ≤ enY L Y s by omega) (by omega) (tok_let hs hb) 19 0 1 rfl (by rw [if_neg (by omega)])
        rw [ens, show ((0 : Nat) : Int) = 0 from rfl] at hkl
        rw [hkl, q_X12_cut_179, w32_n (x := (s : Int) + (n : Int)) (n := enY L Y s) (by omega) (by omega), ew]
        exact ⟨_, _, _, _, _, _, rfl, fun _ => by rw [ens]⟩
  | k + 1, n, hk => by
    have hle := enY_le (Y := Y) hs
    have hL := h.1
    have hlet := tok_let hs hb (s + n) (by omega) (by omega)
    have hil : isLe (byY L Y (s + n)) = true := isLe_b.2 hlet
    have ih := r_letLoop hd h hK (l2 := l2) (u6 := u6) (u7 := u7) hs hb k (n + 1) (by omega)
    rw [q_X12_cut_85, w32_n (x := (s : Int) + (n : Int)) (n := s + n) (by omega) (by omega), r_byteAt hd h, amCI_s, r_isLetter hd, amCI_s, if_neg (by rw [b01, hil]; decide), w32_n (x := (n : Int) + 1) (n := n + 1) (by omega) (by omega)]
    by_cases h8 : n < 8
    · have h1 := vlL_lt (f := fun i => byY L Y (s + i)) n (by omega) (fun i hi => tok_let hs hb (s + i) (by omega) (by omega))
      have h2 := pw27 n (by omega)
      have e1 : min n 8 = n := by omega
      have e2 : min (n + 1) 8 = n + 1 := by omega
      have en : vlL (fun i => byY L Y (s + i)) (n + 1) = 27 * vlL (fun i => byY L Y (s + i)) n + (byY L Y (s + n) - 96) := rfl
      obtain ⟨d', ed⟩ := dS (show 0 + 1 ≤ d by omega)
      have hap : amD amGst d 153 [vL ((vlL (fun i => byY L Y (s + i)) n : Nat) : Int), vI ((byY L Y (s + n) : Nat) : Int)] M = some (vL ((vlL (fun i => byY L Y (s + i)) (n + 1) : Nat) : Int), M) := by
        rw [ed, n_X12_appends, q_X12_appends_0, if_neg (by omega), w32_id (x := ((byY L Y (s + n) : Nat) : Int) - 97) (by omega) (by omega), w32_id (x := ((byY L Y (s + n) : Nat) : Int) - 97 + 1) (by omega) (by omega), w64_id (x := 27 * ((vlL (fun i => byY L Y (s + i)) n : Nat) : Int)) (by omega) (by omega), w64_id (by omega) (by omega)]
        exact congrArg (fun z => some (vL z, M)) (by rw [en]; omega)
      rw [e2] at ih
      rw [if_pos (by omega), e1, r_byteAt hd h, amCI_s, hap, amCL_s]
      exact ih
    · have e1 : min n 8 = min (n + 1) 8 := by omega
      rw [if_neg (by omega), e1]
      exact ih
theorem r_digLoop (hd : 1 ≤ d) (h : rBy L Y M) {s : Nat} {l2 : Int} {u6 u7 : AmV} (hs : s < L) (hb : isDi (byY L Y s) = true) : ∀ (k n : Nat), s + n + k = enY L Y s → ∃ (u2 u3 u4 w6 w7 : AmV) (v : Int), e_X12_cut_208 d (s : Int) l2 (n : Int) ((vlD (fun i => byY L Y (s + i)) (min n 4) : Nat) : Int) u6 u7 M = (amCV (amD amGst d 155 [vR 12 12 0, vI ((kR (kdY L Y s (enY L Y s)) : Nat) : Int), vI (s : Int), vI v, vL 0] M) fun M1 => e_X12_cut_7 d ((enY L Y s : Nat) : Int) u2 u3 u4 w6 w7 M1) ∧ (kdY L Y s (enY L Y s) = 20 → v = ((vlD (fun i => byY L Y (s + i)) (enY L Y s - s) : Nat) : Int))
  | 0, n, hk => by
    have hle := enY_le (Y := Y) hs
    have hgt := enY_gt (L := L) (Y := Y) s
    have hL := h.1
    have hnl := rNoDi (Y := Y) hs hb
    have hl : ¬ isLe (byY L Y s) = true := fun q => by
      have h3 := isLe_b.1 q
      have h4 := isDi_b.1 hb
      omega
    have ekd : kdY L Y s (enY L Y s) = if 4 < enY L Y s - s then 22 else 20 := by
      unfold kdY
      rw [if_neg (by omega), if_neg hl, if_pos hb]
    have en : s + n = enY L Y s := hk
    have ens : enY L Y s - s = n := by omega
    rw [q_X12_cut_208, w32_n (x := (s : Int) + (n : Int)) (n := s + n) (by omega) (by omega), r_byteAt hd h, amCI_s, en, r_isDigit hd, amCI_s, if_pos (b01.2 hnl), ekd, ens]
    by_cases h4 : 4 < n
    · rw [if_pos (by omega), if_pos h4]
      exact ⟨_, _, _, _, _, _, rfl, fun q => by omega⟩
    · rw [if_neg (by omega), if_neg h4, show min n 4 = n by omega]
      exact ⟨_, _, _, _, _, _, rfl, fun _ => rfl⟩
  | k + 1, n, hk => by
    have hle := enY_le (Y := Y) hs
    have hL := h.1
    have hdig := tok_dig hs hb (s + n) (by omega) (by omega)
    have hil : isDi (byY L Y (s + n)) = true := isDi_b.2 hdig
    have ih := r_digLoop hd h (l2 := l2) (u6 := u6) (u7 := u7) hs hb k (n + 1) (by omega)
    rw [q_X12_cut_208, w32_n (x := (s : Int) + (n : Int)) (n := s + n) (by omega) (by omega), r_byteAt hd h, amCI_s, r_isDigit hd, amCI_s, if_neg (by rw [b01, hil]; decide), w32_n (x := (n : Int) + 1) (n := n + 1) (by omega) (by omega)]
    by_cases h8 : n < 4
    · have h1 := vlD_lt (f := fun i => byY L Y (s + i)) n (fun i hi => tok_dig hs hb (s + i) (by omega) (by omega))
      have h2 := pw10 n (by omega)
      have e1 : min n 4 = n := by omega
      have e2 : min (n + 1) 4 = n + 1 := by omega
      have en : vlD (fun i => byY L Y (s + i)) (n + 1) = 10 * vlD (fun i => byY L Y (s + i)) n + (byY L Y (s + n) - 48) := rfl
      rw [e2] at ih
      rw [if_pos (by omega), e1, r_byteAt hd h, amCI_s, w32_id (x := 10 * ((vlD (fun i => byY L Y (s + i)) n : Nat) : Int)) (by omega) (by omega), w32_id (x := 10 * ((vlD (fun i => byY L Y (s + i)) n : Nat) : Int) + ((byY L Y (s + n) : Nat) : Int)) (by omega) (by omega), w32_id (x := 10 * ((vlD (fun i => byY L Y (s + i)) n : Nat) : Int) + ((byY L Y (s + n) : Nat) : Int) - 48) (by omega) (by omega), show 10 * ((vlD (fun i => byY L Y (s + i)) n : Nat) : Int) + ((byY L Y (s + n) : Nat) : Int) - 48 = ((vlD (fun i => byY L Y (s + i)) (n + 1) : Nat) : Int) by rw [en]; omega]
      exact ih
    · have e1 : min n 4 = min (n + 1) 4 := by omega
      rw [if_neg (by omega), e1]
      exact ih
theorem stY_bl {i : Nat} (hi : i < L) (hb : isBl (byY L Y i) = true) : stY L Y i = stY L Y (i + 1) := by
  refine runY_eq (by omega) ?_ (fun j h1 h2 => ?_) ?_
  · have := (stY_ge (L := L) (Y := Y) (i + 1)).1; omega
  · by_cases ej : j = i
    · subst ej; exact ⟨hi, hb⟩
    · exact runY_in L (i + 1) j (by omega) h2
  · exact runY_end L (i + 1) (by omega)
theorem stY_nb {i : Nat} (hb : ¬ isBl (byY L Y i) = true) : stY L Y i = i := runY_eq (by omega) (Nat.le_refl i) (fun j h1 h2 => by omega) (fun q => hb q.2)
theorem stY_end {i : Nat} (h : L ≤ i) : stY L Y i = i := runY_eq (by omega) (Nat.le_refl i) (fun j h1 h2 => by omega) (fun q => by have := q.1; omega)
/-- behind one TOKEN more -/
theorem rTe_put {j : Nat} {k p x n : Int} (he : ∀ q, q < j → rTe L Y q M) (h1 : k = ((kR (tkK L Y j) : Nat) : Int)) (h2 : p = ((tkP L Y j : Nat) : Int)) (h3 : tkK L Y j = 20 → x = ((tkV L Y j : Nat) : Int)) (h4 : tkK L Y j ≤ 19 → n = ((tkV L Y j : Nat) : Int)) : ∀ q, q < j + 1 → rTe L Y q (amUp (amUp (amUp (amUp (amUp M 131 0 j k) 132 0 j p) 133 0 j x) 134 0 j n) 12 0 10 ((j + 1 : Nat) : Int)) := fun q hq => by
  by_cases ej : q = j
  · subst ej
    refine ⟨?_, ?_, fun h => ?_, fun h => ?_⟩
    · rw [up_c (by decide), up_c (by decide), up_c (by decide), up_c (by decide), up_on]; exact h1
    · rw [up_c (by decide), up_c (by decide), up_c (by decide), up_on]; exact h2
    · rw [up_c (by decide), up_c (by decide), up_on]; exact h3 h
    · rw [up_c (by decide), up_on]; exact h4 h
  · refine (he q (by omega)).mv ?_ ?_ ?_ ?_
    · rw [up_c (by decide), up_c (by decide), up_c (by decide), up_c (by decide), up_j ej]
    · rw [up_c (by decide), up_c (by decide), up_c (by decide), up_j ej, up_c (by decide)]
    · rw [up_c (by decide), up_c (by decide), up_j ej, up_c (by decide), up_c (by decide)]
    · rw [up_c (by decide), up_j ej, up_c (by decide), up_c (by decide), up_c (by decide)]
theorem rSame_put {j : Nat} {k p x n : Int} : amSame fRt1 M (amUp (amUp (amUp (amUp (amUp M 131 0 j k) 132 0 j p) 133 0 j x) 134 0 j n) 12 0 10 ((j + 1 : Nat) : Int)) := ((((amSame.refl.up (by rfl)).up (by rfl)).up (by rfl)).up (by rfl)).up (by rfl)
theorem r_cutLoop (hd : 2 ≤ d) : ∀ (k i j : Nat) (u2 u3 u4 u6 u7 : AmV) (M : AmM), L + 1 ≤ i + k → i ≤ L → stY L Y i = tkP L Y j → j ≤ 401 → M 12 0 10 = (j : Int) → rBy L Y M → rKy M → (∀ q, q < j → rTe L Y q M) → ∃ M', e_X12_cut_7 d (i : Int) u2 u3 u4 u6 u7 M = some (vU, M') ∧ amSame fRt1 M M' ∧ ∀ q, q ≤ 400 → (∀ p, p < q → tkK L Y p ≠ 21) → rTe L Y q M'
  | 0, i, j, u2, u3, u4, u6, u7, M, hk, hi, hst, hj, h10, hB, hK, he => by omega
  | k + 1, i, j, u2, u3, u4, u6, u7, M, hk, hi, hst, hj, h10, hB, hK, he => by
    have hL := hB.1
    rw [q_X12_cut_7, h10]
    by_cases h4 : 400 < j
    · rw [if_pos (by omega)]
      exact ⟨M, rfl, amSame.refl, fun q hq _ => he q (by omega)⟩
    · rw [if_neg (by omega), r_byteAt (by omega) hB, amCI_s, hB.2.1, w32_n (x := (i : Int) + 1) (n := i + 1) (by omega) (by omega)]
      by_cases hlt : i < L
      · rw [if_pos (by omega)]
        by_cases hbl : isBl (byY L Y i) = true
        · have hc := isBl_b.1 hbl
          have ih := fun u2 => r_cutLoop hd k (i + 1) j u2 u3 u4 u6 u7 M (by omega) (by omega) ((stY_bl hlt hbl).symm.trans hst) hj h10 hB hK he
          by_cases c1 : ((byY L Y i : Nat) : Int) = 9
          · rw [if_pos c1]; exact ih _
          · rw [if_neg c1]
            by_cases c2 : ((byY L Y i : Nat) : Int) = 10
            · rw [if_pos c2]; exact ih _
            · rw [if_neg c2]
              by_cases c3 : ((byY L Y i : Nat) : Int) = 13
              · rw [if_pos c3]; exact ih _
              · rw [if_neg c3, if_pos (by omega)]; exact ih _
        · have hc : ¬ (byY L Y i = 9 ∨ byY L Y i = 10 ∨ byY L Y i = 13 ∨ byY L Y i = 32) := fun q => hbl (isBl_b.2 q)
          have hp : tkP L Y j = i := hst.symm.trans (stY_nb hbl)
          have hen : enY L Y i = tkE L Y j := by unfold tkE; rw [hp]
          have hkd : kdY L Y i (enY L Y i) = tkK L Y j := by unfold tkK tkE; rw [hp]
          have hgt := enY_gt (L := L) (Y := Y) i
          have hle := enY_le (Y := Y) hlt
          have hst' : stY L Y (enY L Y i) = tkP L Y (j + 1) := by
            have e : posY L Y (j + 1) = enY L Y (tkP L Y j) := rfl
            show _ = stY L Y (posY L Y (j + 1))
            rw [e, hp]
          rw [if_neg (by omega), if_neg (by omega), if_neg (by omega), if_neg (by omega), r_isLetter (by omega), amCI_s]
          by_cases hb : isLe (byY L Y i) = true
          · have hnd : ¬ isDi (byY L Y i) = true := fun q => by
              have h3 := isLe_b.1 hb
              have h5 := isDi_b.1 q
              omega
            obtain ⟨v2, v3, v4, v6, v7, nm, a1, a2⟩ := r_letLoop (d := d) (l2 := ((byY L Y i : Nat) : Int)) (u6 := u6) (u7 := u7) (by omega) hB hK hlt hb (enY L Y i - i) 0 (by omega)
            rw [hkd] at a1 a2
            obtain ⟨M2, b1, b2, b3⟩ := r_cutLoop hd k (enY L Y i) (j + 1) v2 v3 v4 v6 v7 _ (by omega) hle hst' (by omega) up_on (hB.mv rSame_put) (hK.mv rSame_put) (rTe_put (k := ((kR (tkK L Y j) : Nat) : Int)) (p := (i : Int)) (x := 0) (n := nm) he rfl (by rw [hp]) (fun q => by
              exfalso
              have h9 : kdY L Y i (enY L Y i) = 20 := hkd.trans q
              unfold kdY at h9
              rw [if_neg (by omega), if_pos hb] at h9
              have h11 := wdY_le (L := L) (Y := Y) (s := i) (e := enY L Y i) 19 0 (by omega)
              split at h9 <;> omega) (fun q => by
              rw [a2 q]
              unfold tkV
              rw [hp, if_neg hnd, ← hen]))
            refine ⟨M2, ?_, rSame_put.trans b2, b3⟩
            rw [if_neg (by rw [b01, hb]; decide)]
            refine a1.trans ?_
            rw [r_token (by omega) (by omega) h10, amCV_s]
            exact b1
          · rw [if_pos (b01.2 (Bool.not_eq_true _ ▸ hb)), r_isDigit (by omega), amCI_s]
            by_cases hb2 : isDi (byY L Y i) = true
            · obtain ⟨v2, v3, v4, v6, v7, x, a1, a2⟩ := r_digLoop (d := d) (l2 := ((byY L Y i : Nat) : Int)) (u6 := u6) (u7 := u7) (by omega) hB hlt hb2 (enY L Y i - i) 0 (by omega)
              rw [hkd] at a1 a2
              obtain ⟨M2, b1, b2, b3⟩ := r_cutLoop hd k (enY L Y i) (j + 1) v2 v3 v4 v6 v7 _ (by omega) hle hst' (by omega) up_on (hB.mv rSame_put) (hK.mv rSame_put) (rTe_put (k := ((kR (tkK L Y j) : Nat) : Int)) (p := (i : Int)) (x := x) (n := 0) he rfl (by rw [hp]) (fun q => by
                rw [a2 q]
                unfold tkV
                rw [hp, if_pos hb2, ← hen]) (fun q => by
                exfalso
                have h9 : kdY L Y i (enY L Y i) ≤ 19 := by rw [hkd]; exact q
                unfold kdY at h9
                rw [if_neg (by omega), if_neg hb, if_pos hb2] at h9
                split at h9 <;> omega))
              refine ⟨M2, ?_, rSame_put.trans b2, b3⟩
              rw [if_neg (by rw [b01, hb2]; decide)]
              refine a1.trans ?_
              rw [r_token (by omega) (by omega) h10, amCV_s]
              exact b1
            · have he1 : enY L Y i = i + 1 := (if_neg hb).trans (if_neg hb2)
              have hk2 : tkK L Y j = if sigY (byY L Y i) = true then byY L Y i else 22 := by
                rw [← hkd]
                unfold kdY
                rw [if_neg (by omega), if_neg hb, if_neg hb2]
              have hkb : 22 ≤ tkK L Y j := by
                rw [hk2]
                split
                · rename_i hsg
                  have := sigY_40 hsg
                  omega
                · omega
              obtain ⟨M2, b1, b2, b3⟩ := r_cutLoop hd k (enY L Y i) (j + 1) (vI ((byY L Y i : Nat) : Int)) u3 u4 u6 u7 _ (by omega) hle hst' (by omega) up_on (hB.mv rSame_put) (hK.mv rSame_put) (rTe_put (k := ((kR (tkK L Y j) : Nat) : Int)) (p := (i : Int)) (x := 0) (n := 0) he rfl (by rw [hp]) (fun q => by omega) (fun q => by omega))
              refine ⟨M2, ?_, rSame_put.trans b2, b3⟩
              rw [if_pos (b01.2 (Bool.not_eq_true _ ▸ hb2)), r_byteAt (by omega) hB, amCI_s, r_sign (by omega), ← hk2, r_token (by omega) (by omega) h10, amCV_s, amCI_s, w32_n (x := (i : Int) + 1) (n := i + 1) (by omega) (by omega), ← he1]
              exact b1
      · have hiL : i = L := by omega
        have hp : tkP L Y j = L := by rw [← hst, hiL]; exact stY_end (Nat.le_refl L)
        have h21 : tkK L Y j = 21 := kdY_end.2 (by omega)
        rw [if_neg (by omega), r_token (by omega) (show j < 403 by omega) h10, amCV_s]
        refine ⟨_, rfl, rSame_put, fun q hq hg => rTe_put he (by rw [h21]; rfl) (by rw [hp]) (fun q => by omega) (fun q => by omega) q ?_⟩
        by_cases hqj : q < j + 1
        · exact hqj
        · exact absurd h21 (hg j (by omega))
theorem r_cut (hD : 3 ≤ D) (hB : rBy L Y M) (hK : rKy M) : ∃ M', amD amGst D 156 [vR 12 12 0] M = some (vU, M') ∧ amSame fRt1 M M' ∧ ∀ q, q ≤ 400 → (∀ p, p < q → tkK L Y p ≠ 21) → rTe L Y q M' := by
  obtain ⟨d, rfl⟩ := dS hD
  have s0 : amSame fRt1 M (amUp M 12 0 10 0) := amSame.refl.up (by rfl)
  obtain ⟨M', a1, a2, a3⟩ := r_cutLoop (d := d) (by omega) (L + 1) 0 0 vU vU vU vU vU (amUp M 12 0 10 0) (by omega) (by omega) rfl (by omega) up_on (hB.mv s0) (hK.mv s0) (fun q hq => by omega)
  refine ⟨M', ?_, s0.trans a2, a3⟩
  rw [n_X12_cut, q_X12_cut_0]
  exact a1
end RTK
