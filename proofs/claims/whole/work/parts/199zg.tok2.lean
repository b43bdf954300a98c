/-! PURE: the class's TOKENS, all of them; the reference's -/
section TKB
variable {D d L : Nat} {Y : Nat → Nat} {M : AmM}
theorem tok_let {s : Nat} (hs : s < L) (hb : isLe (byY L Y s) = true) : ∀ j, s ≤ j → j < enY L Y s → 97 ≤ byY L Y j ∧ byY L Y j ≤ 122 := fun j h1 h2 => by
  have e : enY L Y s = runY L Y isLe L (s + 1) := if_pos hb
  rw [e] at h2
  by_cases ej : j = s
  · subst ej; exact isLe_b.1 hb
  · exact isLe_b.1 (runY_in L (s + 1) j (by omega) h2).2
theorem tok_dig {s : Nat} (hs : s < L) (hb : isDi (byY L Y s) = true) : ∀ j, s ≤ j → j < enY L Y s → 48 ≤ byY L Y j ∧ byY L Y j ≤ 57 := fun j h1 h2 => by
  have hl : ¬ isLe (byY L Y s) = true := fun q => by
    have h3 := isLe_b.1 q
    have h4 := isDi_b.1 hb
    omega
  have e : enY L Y s = runY L Y isDi L (s + 1) := (if_neg hl).trans (if_pos hb)
  rw [e] at h2
  by_cases ej : j = s
  · subst ej; exact isDi_b.1 hb
  · exact isDi_b.1 (runY_in L (s + 1) j (by omega) h2).2
/-- one TOKEN in the class -/
def cEn (L : Nat) (Y : Nat → Nat) (q : Nat) (M : AmM) : Prop := M 115 0 q = ((tkK L Y q : Nat) : Int) ∧ M 117 0 q = ((tkP L Y q : Nat) : Int) ∧ (tkK L Y q ≤ 20 → M 116 0 q = ((tkV L Y q : Nat) : Int))
def tkGo (L : Nat) (Y : Nat → Nat) (q : Nat) : Prop := ∀ p, p < q → tkK L Y p ≠ 21 ∧ tkK L Y p ≠ 22
theorem sigY_40 {c : Nat} (h : sigY c = true) : 40 ≤ c := (sigY_21 h).1
/-- what the class has for the value of a TOKEN -/
theorem c_valueOf (hD : 2 ≤ D) (h : cBy L Y M) {j : Nat} (hp : tkP L Y j ≤ L) : ∃ y : Int, amD amGst D 76 [vR 7 7 0, vI ((tkP L Y j : Nat) : Int), vI ((tkE L Y j : Nat) : Int)] M = some (vL y, M) ∧ (tkK L Y j ≤ 20 → y = ((tkV L Y j : Nat) : Int)) := by
  obtain ⟨d, rfl⟩ := dS hD
  have h0 := h.1
  have hgt := enY_gt (L := L) (Y := Y) (tkP L Y j)
  have hle : tkE L Y j ≤ L + 1 := by
    by_cases hs : tkP L Y j < L
    · have := enY_le (Y := Y) hs
      show enY L Y (tkP L Y j) ≤ L + 1
      omega
    · show enY L Y (tkP L Y j) ≤ L + 1
      have hb0 : byY L Y (tkP L Y j) = 0 := byY_0 (by omega)
      unfold enY
      rw [hb0, if_neg (by decide), if_neg (by decide)]
      omega
  rw [n_X7_valueOf, q_X7_valueOf_0]
  by_cases hk : tkK L Y j ≤ 20
  · have hs : tkP L Y j < L := by
      by_cases hs : tkP L Y j < L
      · exact hs
      · have : tkK L Y j = 21 := kdY_end.2 (by omega)
        omega
    have hk2 := hk
    unfold tkK kdY at hk2
    rw [if_neg (by omega)] at hk2
    by_cases hb : isLe (byY L Y (tkP L Y j)) = true
    · rw [if_pos hb] at hk2
      have h8 : tkE L Y j - tkP L Y j ≤ 8 := by
        by_cases h8 : 8 < tkE L Y j - tkP L Y j
        · rw [if_pos h8] at hk2; omega
        · omega
      have hnd : ¬ isDi (byY L Y (tkP L Y j)) = true := fun q => by
        have h3 := isLe_b.1 hb
        have h4 := isDi_b.1 q
        omega
      refine ⟨_, c_valLet (d := d) (by omega) h (l1 := ((tkP L Y j : Nat) : Int)) (by omega) h8 (tok_let hs hb) (tkE L Y j - tkP L Y j) 0 vU (by show tkP L Y j + 0 + (tkE L Y j - tkP L Y j) = tkE L Y j; have : tkP L Y j < tkE L Y j := hgt; omega), fun _ => ?_⟩
      unfold tkV
      rw [if_neg hnd]
    · rw [if_neg hb] at hk2
      by_cases hb2 : isDi (byY L Y (tkP L Y j)) = true
      · rw [if_pos hb2] at hk2
        have h4 : tkE L Y j - tkP L Y j ≤ 4 := by
          by_cases h4 : 4 < tkE L Y j - tkP L Y j
          · rw [if_pos h4] at hk2; omega
          · omega
        refine ⟨_, c_valDig (d := d) (by omega) h (l1 := ((tkP L Y j : Nat) : Int)) (by omega) h4 (tok_dig hs hb2) (tkE L Y j - tkP L Y j) 0 vU (by show tkP L Y j + 0 + (tkE L Y j - tkP L Y j) = tkE L Y j; have : tkP L Y j < tkE L Y j := hgt; omega), fun _ => ?_⟩
        unfold tkV
        rw [if_pos hb2]
      · rw [if_neg hb2] at hk2
        by_cases hsg : sigY (byY L Y (tkP L Y j)) = true
        · rw [if_pos hsg] at hk2
          have := sigY_40 hsg
          omega
        · rw [if_neg hsg] at hk2
          omega
  · have hlt : tkP L Y j < tkE L Y j := hgt
    obtain ⟨y, hy⟩ := c_valLoop (d := d) (by omega) h (l1 := ((tkP L Y j : Nat) : Int)) (e := tkE L Y j) (by omega) (tkE L Y j - tkP L Y j) (tkP L Y j) 0 vU (by omega)
    exact ⟨y, hy, fun q => absurd q hk⟩
theorem cEn.mv {q : Nat} {M' : AmM} (h : cEn L Y q M) (h1 : M' 115 0 q = M 115 0 q) (h2 : M' 117 0 q = M 117 0 q) (h3 : M' 116 0 q = M 116 0 q) : cEn L Y q M' := ⟨h1.trans h.1, h2.trans h.2.1, fun q => h3.trans (h.2.2 q)⟩
theorem c_cutLoop (hd : 4 ≤ d) : ∀ (k j : Nat) (u4 u5 : AmV) (M : AmM), j + k = 401 → cBy L Y M → tkGo L Y j → (∀ q, q < j → cEn L Y q M) → ∃ M', e_X7_cutIntoTokens_6 d ((posY L Y j : Nat) : Int) 1 (j : Int) u4 u5 M = some (vU, M') ∧ amSame fTk1 M M' ∧ ∀ q, q ≤ 400 → tkGo L Y q → cEn L Y q M'
  | 0, j, u4, u5, M, h, hB, hg, he => by
    have h : j = 401 := h
    exact ⟨M, by rw [q_X7_cutIntoTokens_6, if_neg (by omega)], amSame.refl, fun q hq _ => he q (by omega)⟩
  | k + 1, j, u4, u5, M, h, hB, hg, he => by
    have h0 := hB.1
    have hle := tkP_le (L := L) (Y := Y) j fun q hq => (hg q hq).1
    have hgt : tkP L Y j < tkE L Y j := enY_gt _
    have hE : tkE L Y j ≤ L + 1 := by
      by_cases hs : tkP L Y j < L
      · have := enY_le (Y := Y) hs
        show enY L Y (tkP L Y j) ≤ L + 1
        omega
      · have hb0 : byY L Y (tkP L Y j) = 0 := byY_0 (by omega)
        show enY L Y (tkP L Y j) ≤ L + 1
        unfold enY
        rw [hb0, if_neg (by decide), if_neg (by decide)]
        omega
    have hst : amD amGst d 71 [vR 7 7 0, vI ((posY L Y j : Nat) : Int)] M = some (vI ((tkP L Y j : Nat) : Int), M) := c_afterBlanks (by omega) hB
    have hen : amD amGst d 72 [vR 7 7 0, vI ((tkP L Y j : Nat) : Int)] M = some (vI ((tkE L Y j : Nat) : Int), M) := c_endOf (by omega) hB (by omega)
    have hkd : amD amGst d 73 [vR 7 7 0, vI ((tkP L Y j : Nat) : Int), vI ((tkE L Y j : Nat) : Int)] M = some (vI ((tkK L Y j : Nat) : Int), M) := c_kindOf (by omega) hB (by omega) (by omega)
    have s1 : amSame fTk1 M (amUp (amUp M 115 0 j ((tkK L Y j : Nat) : Int)) 117 0 j ((tkP L Y j : Nat) : Int)) := (amSame.refl.up (by rfl)).up (by rfl)
    obtain ⟨y, hv1, hv2⟩ := c_valueOf (D := d) (by omega) (hB.mv s1) hle.1
    have s2 : amSame fTk1 M (amUp (amUp (amUp M 115 0 j ((tkK L Y j : Nat) : Int)) 117 0 j ((tkP L Y j : Nat) : Int)) 116 0 j y) := s1.up (by rfl)
    have hent : ∀ q, q < j + 1 → cEn L Y q (amUp (amUp (amUp M 115 0 j ((tkK L Y j : Nat) : Int)) 117 0 j ((tkP L Y j : Nat) : Int)) 116 0 j y) := fun q hq => by
      by_cases ej : q = j
      · subst ej
        refine ⟨?_, ?_, fun hk => ?_⟩
        · rw [up_c (by decide), up_c (by decide), up_on]
        · rw [up_c (by decide), up_on]
        · rw [up_on, hv2 hk]
      · refine (he q (by omega)).mv ?_ ?_ ?_
        · rw [up_c (by decide), up_c (by decide), up_j ej]
        · rw [up_c (by decide), up_j ej, up_c (by decide)]
        · rw [up_j ej, up_c (by decide), up_c (by decide)]
    have e0 : e_X7_cutIntoTokens_6 d ((posY L Y j : Nat) : Int) 1 (j : Int) u4 u5 M = e_X7_cutIntoTokens_80 d ((tkP L Y j : Nat) : Int) 1 (j : Int) ((tkE L Y j : Nat) : Int) ((tkK L Y j : Nat) : Int) (amUp (amUp (amUp M 115 0 j ((tkK L Y j : Nat) : Int)) 117 0 j ((tkP L Y j : Nat) : Int)) 116 0 j y) := by
      rw [q_X7_cutIntoTokens_6, if_pos (by omega), if_neg (show ¬ (1 : Int) = 0 by decide), hst, amCI_s, hen, amCI_s, hkd, amCI_s, if_pos (show (0 : Int) ≤ (j : Int) ∧ (j : Int) < 401 by omega), tn_cast, c_put (n := 401) (by omega) (by decide) (by decide) (by omega) (by omega), amCV_s, tn_cast, if_pos (show (j : Int) < 401 by omega), hv1, amCL_s, if_pos (show (0 : Int) ≤ (j : Int) ∧ (j : Int) < 401 by omega)]
    rw [e0, q_X7_cutIntoTokens_80, w32_n (x := (j : Int) + 1) (n := j + 1) (by omega) (by omega)]
    have hstop : (tkK L Y j = 21 ∨ tkK L Y j = 22) → ∃ M', e_X7_cutIntoTokens_6 d ((tkE L Y j : Nat) : Int) 0 ((j + 1 : Nat) : Int) (vI ((tkE L Y j : Nat) : Int)) (vI ((tkK L Y j : Nat) : Int)) (amUp (amUp (amUp M 115 0 j ((tkK L Y j : Nat) : Int)) 117 0 j ((tkP L Y j : Nat) : Int)) 116 0 j y) = some (vU, M') ∧ amSame fTk1 M M' ∧ ∀ q, q ≤ 400 → tkGo L Y q → cEn L Y q M' := fun hs => by
      refine ⟨_, ?_, s2, fun q hq hgq => hent q ?_⟩
      · rw [q_X7_cutIntoTokens_6]
        by_cases h4 : ((j + 1 : Nat) : Int) < 401
        · rw [if_pos h4, if_pos (show (0 : Int) = 0 from rfl)]
        · rw [if_neg h4]
      · by_cases hq2 : q < j + 1
        · exact hq2
        · have := hgq j (by omega)
          omega
    by_cases h21 : tkK L Y j = 21
    · rw [if_pos (by omega)]
      exact hstop (Or.inl h21)
    · rw [if_neg (by omega)]
      by_cases h22 : tkK L Y j = 22
      · rw [if_pos (by omega)]
        exact hstop (Or.inr h22)
      · rw [if_neg (by omega)]
        have hgo : tkGo L Y (j + 1) := fun p hp => by
          by_cases ep : p = j
          · subst ep; exact ⟨h21, h22⟩
          · exact hg p (by omega)
        obtain ⟨M', a1, a2, a3⟩ := c_cutLoop hd k (j + 1) (vI ((tkE L Y j : Nat) : Int)) (vI ((tkK L Y j : Nat) : Int)) _ (by omega) (hB.mv s2) hgo hent
        exact ⟨M', a1, s2.trans a2, a3⟩
theorem c_cut (hD : 5 ≤ D) (hB : cBy L Y M) : ∃ M', amD amGst D 70 [vR 7 7 0] M = some (vU, M') ∧ amSame fTk1 M M' ∧ ∀ q, q ≤ 400 → tkGo L Y q → cEn L Y q M' := by
  obtain ⟨d, rfl⟩ := dS hD
  rw [n_X7_cutIntoTokens, q_X7_cutIntoTokens_0]
  exact c_cutLoop (by omega) 401 0 vU vU M rfl hB (fun p hp => by omega) (fun q hq => by omega)
/-! the reference -/
def rkL : List Nat := [20, 21, 22, 23, 24, 29, 30, 31, 25, 26, 27, 28, 32, 33, 34, 35, 36, 37, 38, 1, 2, 0, 3, 3, 3, 3, 3, 3, 3, 3, 3, 3, 3, 3, 3, 3, 3, 3, 3, 3, 6, 7, 10, 8, 3, 9, 3, 15, 3, 3, 3, 3, 3, 3, 3, 3, 3, 3, 3, 4, 13, 5]
/-- the reference's kinds -/
def kR (k : Nat) : Nat := rkL.getD k 3
theorem sg_59 {i x : Int} {c : Nat} (hc : c = 59) : e_X12_sign_0 d i (c : Int) x M = (amCV (amD amGst d 155 [vR 12 12 0, vI 4, vI i, vI 0, vL 0] M) fun M2 => some (vI 1, M2)) := by
  rw [q_X12_sign_0, if_pos (by omega), if_neg (by omega), if_neg (by omega), q_X12_sign_65, if_neg (by omega), if_neg (by omega), q_X12_sign_85, if_neg (by omega)]
theorem sg_61 {i x : Int} {c : Nat} (hc : c = 61) : e_X12_sign_0 d i (c : Int) x M = (amCV (amD amGst d 155 [vR 12 12 0, vI 5, vI i, vI 0, vL 0] M) fun M2 => some (vI 1, M2)) := by
  rw [q_X12_sign_0, if_neg (by omega), if_pos (by omega), if_neg (by omega), if_neg (by omega), q_X12_sign_65, if_neg (by omega), if_neg (by omega), q_X12_sign_85, if_neg (by omega)]
theorem sg_40 {i x : Int} {c : Nat} (hc : c = 40) : e_X12_sign_0 d i (c : Int) x M = (amCV (amD amGst d 155 [vR 12 12 0, vI 6, vI i, vI 0, vL 0] M) fun M2 => some (vI 1, M2)) := by
  rw [q_X12_sign_0, if_neg (by omega), if_neg (by omega), if_pos (by omega), if_neg (by omega), if_neg (by omega), q_X12_sign_65, if_neg (by omega), if_neg (by omega), q_X12_sign_85, if_neg (by omega)]
theorem sg_41 {i x : Int} {c : Nat} (hc : c = 41) : e_X12_sign_0 d i (c : Int) x M = (amCV (amD amGst d 155 [vR 12 12 0, vI 7, vI i, vI 0, vL 0] M) fun M2 => some (vI 1, M2)) := by
  rw [q_X12_sign_0, if_neg (by omega), if_neg (by omega), if_neg (by omega), if_pos (by omega), if_neg (by omega), if_neg (by omega), q_X12_sign_65, if_neg (by omega), if_neg (by omega), q_X12_sign_85, if_neg (by omega)]
theorem sg_43 {i x : Int} {c : Nat} (hc : c = 43) : e_X12_sign_0 d i (c : Int) x M = (amCV (amD amGst d 155 [vR 12 12 0, vI 8, vI i, vI 0, vL 0] M) fun M2 => some (vI 1, M2)) := by
  rw [q_X12_sign_0, if_neg (by omega), if_neg (by omega), if_neg (by omega), if_neg (by omega), if_pos (by omega), if_neg (by omega), q_X12_sign_65, if_neg (by omega), if_neg (by omega), q_X12_sign_85, if_neg (by omega)]
theorem sg_45 {i x : Int} {c : Nat} (hc : c = 45) : e_X12_sign_0 d i (c : Int) x M = (amCV (amD amGst d 155 [vR 12 12 0, vI 9, vI i, vI 0, vL 0] M) fun M2 => some (vI 1, M2)) := by
  rw [q_X12_sign_0, if_neg (by omega), if_neg (by omega), if_neg (by omega), if_neg (by omega), if_neg (by omega), if_pos (by omega), q_X12_sign_65, if_neg (by omega), if_neg (by omega), q_X12_sign_85, if_neg (by omega)]
theorem sg_42 {i x : Int} {c : Nat} (hc : c = 42) : e_X12_sign_0 d i (c : Int) x M = (amCV (amD amGst d 155 [vR 12 12 0, vI 10, vI i, vI 0, vL 0] M) fun M2 => some (vI 1, M2)) := by
  rw [q_X12_sign_0, if_neg (by omega), if_neg (by omega), if_neg (by omega), if_neg (by omega), if_neg (by omega), if_neg (by omega), q_X12_sign_65, if_pos (by omega), if_neg (by omega), q_X12_sign_85, if_neg (by omega)]
theorem sg_60 {i x : Int} {c : Nat} (hc : c = 60) : e_X12_sign_0 d i (c : Int) x M = (amCV (amD amGst d 155 [vR 12 12 0, vI 13, vI i, vI 0, vL 0] M) fun M2 => some (vI 1, M2)) := by
  rw [q_X12_sign_0, if_neg (by omega), if_neg (by omega), if_neg (by omega), if_neg (by omega), if_neg (by omega), if_neg (by omega), q_X12_sign_65, if_neg (by omega), if_neg (by omega), q_X12_sign_85, if_pos (by omega)]
theorem sg_47 {i x : Int} {c : Nat} (hc : c = 47) : e_X12_sign_0 d i (c : Int) x M = (amCV (amD amGst d 155 [vR 12 12 0, vI 15, vI i, vI 0, vL 0] M) fun M2 => some (vI 1, M2)) := by
  rw [q_X12_sign_0, if_neg (by omega), if_neg (by omega), if_neg (by omega), if_neg (by omega), if_neg (by omega), if_neg (by omega), q_X12_sign_65, if_neg (by omega), if_pos (by omega), q_X12_sign_85, if_neg (by omega)]
theorem sg_0 {i x : Int} {c : Nat} (hc : ¬ sigY c = true) : e_X12_sign_0 d i (c : Int) x M = (amCV (amD amGst d 155 [vR 12 12 0, vI 3, vI i, vI 0, vL 0] M) fun M2 => some (vI 1, M2)) := by
  have hn : c ≠ 59 ∧ c ≠ 61 ∧ c ≠ 40 ∧ c ≠ 41 ∧ c ≠ 43 ∧ c ≠ 45 ∧ c ≠ 42 ∧ c ≠ 47 ∧ c ≠ 60 := by
    unfold sigY at hc
    simp only [Bool.or_eq_true, beq_iff_eq] at hc
    omega
  rw [q_X12_sign_0, if_neg (by omega), if_neg (by omega), if_neg (by omega), if_neg (by omega), if_neg (by omega), if_neg (by omega), q_X12_sign_65, if_neg (by omega), if_neg (by omega), q_X12_sign_85, if_neg (by omega)]
theorem r_sign (hD : 1 ≤ D) {i x : Int} {c : Nat} : amD amGst D 157 [vR 12 12 0, vI i, vI (c : Int), vI x] M = (amCV (amD amGst (D - 1) 155 [vR 12 12 0, vI ((kR (if sigY c = true then c else 22) : Nat) : Int), vI i, vI 0, vL 0] M) fun M2 => some (vI 1, M2)) := by
  obtain ⟨d, rfl⟩ := dS hD
  rw [n_X12_sign]
  show _ = (amCV (amD amGst d 155 [vR 12 12 0, vI ((kR (if sigY c = true then c else 22) : Nat) : Int), vI i, vI 0, vL 0] M) fun M2 => some (vI 1, M2))
  by_cases h : sigY c = true
  · rw [if_pos h]
    unfold sigY at h
    simp only [Bool.or_eq_true, beq_iff_eq] at h
    rcases h with (((((((h | h) | h) | h) | h) | h) | h) | h) | h
    · rw [sg_59 h, h]; rfl
    · rw [sg_61 h, h]; rfl
    · rw [sg_43 h, h]; rfl
    · rw [sg_45 h, h]; rfl
    · rw [sg_42 h, h]; rfl
    · rw [sg_47 h, h]; rfl
    · rw [sg_60 h, h]; rfl
    · rw [sg_40 h, h]; rfl
    · rw [sg_41 h, h]; rfl
  · rw [if_neg h, sg_0 h]; rfl
end TKB
