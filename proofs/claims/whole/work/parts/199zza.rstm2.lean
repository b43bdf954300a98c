/-! PURE: what the reference's draft holds -/
def inR (l n j : Nat) : Bool := Nat.ble l j && Nat.blt j (l + n)
theorem inR_iff {l n j : Nat} : inR l n j = true ↔ l ≤ j ∧ j < l + n := by
  unfold inR
  rw [Bool.and_eq_true, Nat.ble_eq, Nat.blt_eq]
/-- the cells of one side -/
def sSd (v c j : Nat) : Bool := ((c == 137 || c == 139 || c == 141 || c == 142 || c == 143 || c == 146) && j == v) || (c == 138 && inR (25 * v) 25 j) || (c == 140 && inR (14 * v) 14 j) || ((c == 144 || c == 145) && inR (8 * v) 8 j) || ((c == 147 || c == 148) && inR (4 * v) 4 j) || ((c == 149 || c == 150 || c == 151 || c == 152 || c == 153) && inR (50 * v) 50 j) || ((c == 154 || c == 155) && inR (420 * v) 420 j)
/-- what reading a text changes in the reference -/
def fRP (v : Nat) : Nat → Nat → Nat → Bool := fun c s j => fRti c s j || (c == 12 && (j == 12 || j == 20 || j == 34 || j == 40 || j == 44)) || c == 136 || c == 156 || sSd v c j
theorem fRti_fRP {v : Nat} : ∀ c s j, fRti c s j = true → fRP v c s j = true := fun c s j h => by unfold fRP; rw [h]; rfl
theorem fRta_fRP {v : Nat} : ∀ c s j, fRta c s j = true → fRP v c s j = true := fun c s j h => fRti_fRP c s j (fRta_fRti c s j h)
theorem sSd_fRP {v : Nat} {c s j : Nat} (h : sSd v c j = true) : fRP v c s j = true := by unfold fRP; rw [h]; exact Bool.or_true _
theorem fRx_fRP {v l : Nat} (hl : 420 * v ≤ l) : ∀ c s j, fRx (420 * v + 420) l c s j = true → fRP v c s j = true := fun c s j h => by
  unfold fRx at h
  simp only [Bool.or_eq_true, Bool.and_eq_true, beq_iff_eq, Nat.ble_eq, Nat.blt_eq] at h
  rcases h with ((h | h) | h) | h
  · exact fRta_fRP c s j h
  · unfold fRP; simp only [Bool.or_eq_true, Bool.and_eq_true, beq_iff_eq]; omega
  · unfold fRP; simp only [Bool.or_eq_true, Bool.and_eq_true, beq_iff_eq]; omega
  · refine sSd_fRP ?_
    unfold sSd
    simp only [Bool.or_eq_true, Bool.and_eq_true, beq_iff_eq, inR_iff]
    omega
def sZz (v br cd c j : Nat) : Bool := ((c == 149 || c == 150 || c == 151 || c == 152 || c == 153) && (Nat.ble (50 * v) j && Nat.blt j br)) || ((c == 154 || c == 155) && (Nat.ble (420 * v) j && Nat.blt j cd))
theorem sZz_iff {v br cd c j : Nat} : sZz v br cd c j = true ↔ ((149 ≤ c ∧ c ≤ 153) ∧ 50 * v ≤ j ∧ j < br) ∨ ((c = 154 ∨ c = 155) ∧ 420 * v ≤ j ∧ j < cd) := by
  unfold sZz
  simp only [Bool.or_eq_true, Bool.and_eq_true, beq_iff_eq, Nat.ble_eq, Nat.blt_eq]
  omega
/-- a law, wherever else the cells change -/
def rLz (v br cd : Nat) (M : AmM) (f : Nat) (r : List (Ex × Ex × Ex)) (e : Ex) : Prop := ∀ M' : AmM, (∀ c j, sZz v br cd c j = true → M' c 0 j = M c 0 j) → rLw M' f r e
theorem rLz.mv {v br cd br' cd' f : Nat} {M M' : AmM} {r : List (Ex × Ex × Ex)} {e : Ex} (h : rLz v br cd M f r e) (hb : br ≤ br') (hc : cd ≤ cd') (hs : ∀ c j, sZz v br cd c j = true → M' c 0 j = M c 0 j) : rLz v br' cd' M' f r e := fun M2 h2 => h M2 fun c j hz => (h2 c j (by rw [sZz_iff] at hz ⊢; omega)).trans (hs c j hz)
/-- the draft -/
def rDm (v : Nat) (x : Dr) (cd br : Nat) (M : AmM) : Prop := (tN x.1 ≤ 24 ∧ tR x.1 ≤ 14 ∧ tP x.1 ≤ 8 ∧ x.2.1 ≤ 8) ∧ (M 137 0 v = tN x.1 ∧ M 139 0 v = tR x.1 ∧ M 141 0 v = tB x.1 ∧ M 142 0 v = tG x.1 ∧ M 143 0 v = tP x.1 ∧ M 146 0 v = ((x.2.1 : Nat) : Int)) ∧ (∀ j, 1 ≤ j → j ≤ tN x.1 → M 138 0 (25 * v + j) = tTh x.1 j) ∧ (∀ j, j < tR x.1 → M 140 0 (14 * v + j) = tRn x.1 j) ∧ (∀ p, p < tP x.1 → M 144 0 (8 * v + p) = tW x.1 p ∧ M 145 0 (8 * v + p) = tV x.1 p ∧ M 136 0 p = ((x.2.2.1 p : Nat) : Int)) ∧
  ∀ w, w < 4 → match tL x.1 w with
    | none => M 147 0 (4 * v + w) = M 148 0 (4 * v + w)
    | some l => ∃ f : Nat, M 147 0 (4 * v + w) = f ∧ M 148 0 (4 * v + w) = (f + l.1.length + 1 : Nat) ∧ f + l.1.length + 1 ≤ 100 ∧ rLz v br cd M f l.1 l.2
def sDm (v br cd c j : Nat) : Bool := (Nat.ble 136 c && Nat.ble c 148) || sZz v br cd c j
theorem sDm_lo {v br cd c j : Nat} (h : 136 ≤ c) (h' : c ≤ 148) : sDm v br cd c j = true := by unfold sDm; rw [Nat.ble_eq_true_of_le h, Nat.ble_eq_true_of_le h']; rfl
theorem rDm.mv {v cd br cd' br' : Nat} {x : Dr} {M M' : AmM} (h : rDm v x cd br M) (hb : br ≤ br') (hc : cd ≤ cd') (hs : ∀ c j, sDm v br cd c j = true → M' c 0 j = M c 0 j) : rDm v x cd' br' M' := by
  obtain ⟨h0, ⟨h1, h2, h3, h4, h5, h6⟩, h7, h8, h9, h10⟩ := h
  have hl : ∀ c j, 136 ≤ c → c ≤ 148 → M' c 0 j = M c 0 j := fun c j a b => hs c j (sDm_lo a b)
  refine ⟨h0, ⟨(hl 137 v (by decide) (by decide)).trans h1, (hl 139 v (by decide) (by decide)).trans h2, (hl 141 v (by decide) (by decide)).trans h3, (hl 142 v (by decide) (by decide)).trans h4, (hl 143 v (by decide) (by decide)).trans h5, (hl 146 v (by decide) (by decide)).trans h6⟩, fun j a b => (hl 138 _ (by decide) (by decide)).trans (h7 j a b), fun j a => (hl 140 _ (by decide) (by decide)).trans (h8 j a), fun p a => ⟨(hl 144 _ (by decide) (by decide)).trans (h9 p a).1, (hl 145 _ (by decide) (by decide)).trans (h9 p a).2.1, (hl 136 _ (by decide) (by decide)).trans (h9 p a).2.2⟩, fun w a => ?_⟩
  have hw := h10 w a
  have e7 := hl 147 (4 * v + w) (by decide) (by decide)
  have e8 := hl 148 (4 * v + w) (by decide) (by decide)
  revert hw
  cases tL x.1 w with
  | none => intro hw; exact e7.trans (Eq.trans hw e8.symm)
  | some l =>
    intro hw
    obtain ⟨f, a1, a2, a3, a4⟩ := hw
    exact ⟨f, e7.trans a1, e8.trans a2, a3, a4.mv hb hc fun c j hz => hs c j (by unfold sDm; rw [hz]; exact Bool.or_true _)⟩
theorem rDm.ti {v cd br : Nat} {x : Dr} {M M' : AmM} (h : rDm v x cd br M) (hs : amSame fRti M M') : rDm v x cd br M' := h.mv (Nat.le_refl _) (Nat.le_refl _) fun c j hz => hs c 0 j (by
  unfold sDm at hz
  rw [Bool.or_eq_true, sZz_iff, Bool.and_eq_true, Nat.ble_eq, Nat.ble_eq] at hz
  have hc : c ≠ 12 := by omega
  unfold fRti fRta fRlt
  rw [beq_false_of_ne hc]; rfl)
/-- the fields of a draft -/
def rDf (v n cd br : Nat) (M : AmM) : Prop := M 12 0 19 = (v : Int) ∧ M 12 0 12 = 0 ∧ M 12 0 40 = (cd : Int) ∧ M 12 0 34 = (br : Int) ∧ M 12 0 20 = (n : Int)
theorem rDf.ti {v n cd br : Nat} {M M' : AmM} (h : rDf v n cd br M) (hs : amSame fRti M M') : rDf v n cd br M' := ⟨(hs 12 0 19 (by rfl)).trans h.1, (hs 12 0 12 (by rfl)).trans h.2.1, (hs 12 0 40 (by rfl)).trans h.2.2.1, (hs 12 0 34 (by rfl)).trans h.2.2.2.1, (hs 12 0 20 (by rfl)).trans h.2.2.2.2⟩
def rS (v : Nat) (κ P : Nat → Nat) (t : Nat) (x : Dr) (M : AmM) : Prop := ∃ cd br : Nat, rPs κ t M ∧ rDf v (tP x.1) cd br M ∧ rDm v x cd br M ∧ rLf P x.2.2.2 M ∧ (x.2.2.2.1 ≠ 0 → x.2.2.2.2 < t) ∧ (420 * v ≤ cd ∧ cd ≤ 420 * v + t) ∧ 50 * v ≤ br ∧ br ≤ 50 * v + 5 * x.2.1
/-- what comes of a statement -/
def rO (v : Nat) (κ P : Nat → Nat) (r : Pr (Nat × Dr)) (o : Option (AmV × AmM)) (M : AmM) : Prop := match r with
  | .inl (c, q) => ∃ M', o = some (vU, M') ∧ amSame (fRP v) M M' ∧ rFt P c q M'
  | .inr (t1, x1) => ∃ M', o = some (vU, M') ∧ amSame (fRP v) M M' ∧ rS v κ P t1 x1 M'
section RSU
variable {D d t v : Nat} {κ ν P : Nat → Nat} {M : AmM} {lf : Nat × Nat}
/-- rows of numbers -/
noncomputable def tlR (c2 d : Nat) (n : Int) (M : AmM) : Option (AmV × AmM) := amCV (amD amGst d 162 [vR 12 12 0, vI 4] M) fun M2 => if (0 : Int) ≤ M2 12 0 19 ∧ M2 12 0 19 < 2 then (some (vU, amUp M2 c2 0 (M2 12 0 19).toNat n)) else none
def fRr (c1 A w : Nat) : Nat → Nat → Nat → Bool := fun c s j => fRti c s j || (c == c1 && inR A w j)
def fRq2 (c1 c2 A w v : Nat) : Nat → Nat → Nat → Bool := fun c s j => fRr c1 A w c s j || (c == c2 && j == v)
theorem fRti_fRr {c1 A w : Nat} : ∀ c s j, fRti c s j = true → fRr c1 A w c s j = true := fun c s j h => by unfold fRr; rw [h]; rfl
theorem fRr_fRq2 {c1 c2 A w v : Nat} : ∀ c s j, fRr c1 A w c s j = true → fRq2 c1 c2 A w v c s j = true := fun c s j h => by unfold fRq2; rw [h]; rfl
theorem r_rows (hd : 3 ≤ d) (hv : v ≤ 1) (hκ : ∀ q, κ q < 62) (hPm : ∀ i j, i < j → P i < P j) {E E28 : Int → AmM → Option (AmV × AmM)} {c1 c2 A w f room most : Nat} (hc : c1 = 138 ∨ c1 = 140) (hc2 : c2 ≠ 12) (hw : f + room ≤ w)
    (hE : ∀ (n : Int) (M : AmM), E n M = if M 12 0 13 = 0 then (amCI (amD amGst d 158 [vR 12 12 0, vI 2] M) fun v1 M1 => if v1 = 0 then (tlR c2 d n M1) else (if n = (room : Int) then (amCV (amD amGst d 159 [vR 12 12 0, vI 2] M1) fun M3 => E28 n M3) else (E28 n M1))) else (tlR c2 d n M))
    (hF : ∀ (n : Int) (M : AmM), 0 < M 12 0 13 → E28 n M = some (vU, M))
    (hG : ∀ (n : Nat) (M : AmM), n < room → ¬ 0 < M 12 0 13 → M 12 0 19 = (v : Int) → E28 (n : Int) M = amCI (amD amGst d 167 [vR 12 12 0, vI 0, vI (most : Int)] M) fun v1 M1 => E ((n + 1 : Nat) : Int) (amUp M1 c1 0 (A + (f + n)) v1)) : ∀ (k t n : Nat) (row : Rw) (lf : Nat × Nat) (M : AmM), n + k = room → rTk κ ν P M → rPs κ t M → rLf P lf M → (lf.1 ≠ 0 → lf.2 < t) → M 12 0 19 = (v : Int) → (∀ j, j < n → M c1 0 (A + (f + j)) = row (f + j)) → match rwS κ ν f most k t n row lf with
    | .inl (c, q) => ∃ M', E (n : Int) M = some (vU, M') ∧ amSame (fRq2 c1 c2 A w v) M M' ∧ rFt P c q M'
    | .inr (t1, n2, row1, lf1) => ∃ M', E (n : Int) M = tlR c2 d (n2 : Int) M' ∧ amSame (fRr c1 A w) M M' ∧ rPs κ t1 M' ∧ rLf P lf1 M' ∧ (lf1.1 ≠ 0 → lf1.2 < t1) ∧ (∀ j, j < n2 → M' c1 0 (A + (f + j)) = row1 (f + j)) ∧ n2 ≤ room ∧ t ≤ t1
  | 0, t, n, row, lf, M, hk, hT, h, hlf, hll, h19, hrow => by
    have k20 := kRv (hκ t) (show 20 < 62 by decide) (show kR 20 = 2 by rfl) (by decide)
    unfold rwS
    rw [hE, if_pos h.2.2]
    by_cases hk2 : κ t = 20
    · obtain ⟨M2, a1, a2, a3⟩ := r_fail (D := d) (c := 2) (by omega) hT h (by decide)
      rw [show ((2 : Nat) : Int) = 2 from rfl] at a1
      have b1 := a3.1
      have b2 := a3.2.1
      rw [if_pos hk2, r_isY (k := 2) (by omega) hT h (by have := k20.2 hk2; omega), amCI_s, if_neg (show ¬ (1 : Int) = 0 by decide), if_pos (show (n : Int) = (room : Int) by omega), a1, amCV_s, hF _ _ (by omega)]
      exact ⟨M2, rfl, ((a2.mono fRta_fRti).mono fRti_fRr).mono fRr_fRq2, a3⟩
    · rw [if_neg hk2, r_isN (k := 2) (by omega) hT h (fun z => hk2 (k20.1 (by omega))), amCI_s, if_pos (show (0 : Int) = 0 from rfl)]
      exact ⟨M, rfl, amSame.refl, h, hlf, hll, hrow, by omega, Nat.le_refl t⟩
  | k + 1, t, n, row, lf, M, hk, hT, h, hlf, hll, h19, hrow => by
    have k20 := kRv (hκ t) (show 20 < 62 by decide) (show kR 20 = 2 by rfl) (by decide)
    unfold rwS
    rw [hE, if_pos h.2.2]
    by_cases hk2 : κ t = 20
    · have hi := r_bounded (D := d) (least := 0) (most := most) hd hκ hPm hT h hlf hll
      unfold intS at hi
      rw [if_pos hk2] at hi
      have hc12 : c1 ≠ 12 := by omega
      have e12 : ∀ (M1 : AmM) (y : Int) (j : Nat), amUp M1 c1 0 (A + (f + n)) y 12 0 j = M1 12 0 j := fun M1 y j => up_c (fun q => hc12 q.symm)
      have hin : inR A w (A + (f + n)) = true := inR_iff.2 (by omega)
      have hfr : ∀ s : Nat, fRr c1 A w c1 s (A + (f + n)) = true := fun s => by unfold fRr; rw [hin, beq_self_eq_true]; exact Bool.or_true _
      rw [if_pos hk2, r_isY (k := 2) (by omega) hT h (by have := k20.2 hk2; omega), amCI_s, if_neg (show ¬ (1 : Int) = 0 by decide), if_neg (show ¬ (n : Int) = (room : Int) by omega), hG n M (by omega) (by rw [h.2.2]; decide) h19]
      by_cases h40 : t < 400
      · rw [if_pos h40] at hi ⊢
        obtain ⟨M1, a1, a2, a3, a4⟩ := hi
        rw [show ((0 : Nat) : Int) = 0 from rfl] at a1
        have hT1 := hT.ti a2
        have s2 : amSame (fRr c1 A w) M (amUp M1 c1 0 (A + (f + n)) ((ν t : Nat) : Int)) := (a2.mono fRti_fRr).up (hfr 0)
        have ih := r_rows hd hv hκ hPm (most := most) hc hc2 hw hE hF hG k (t + 1) (n + 1) (rUp row (f + n) ((ν t : Nat) : Int)) _ (amUp M1 c1 0 (A + (f + n)) ((ν t : Nat) : Int)) (by omega) (hT1.mv fun c j q => up_c (by omega)) (a3.mv (e12 _ _ 11) (e12 _ _ 13)) ⟨(e12 _ _ 15).trans a4.1, fun q => (e12 _ _ 16).trans (a4.2 q)⟩ (lfS_lt hll) ((e12 _ _ 19).trans ((a2 12 0 19 (by rfl)).trans h19)) (fun j hj => by
          by_cases ej : j = n
          · subst ej; rw [up_on, rUp_on]
          · rw [up_j (by omega), rUp_ne (by omega), a2 c1 0 (A + (f + j)) (by
              unfold fRti fRta fRlt
              rw [beq_false_of_ne hc12]; rfl)]
            exact hrow j (by omega))
        rw [a1, amCI_s]
        revert ih
        cases rwS κ ν f most k (t + 1) (n + 1) (rUp row (f + n) ((ν t : Nat) : Int)) (lfS lf 5 t (decide (ν t < 0 ∨ most < ν t))) with
        | inl y =>
          obtain ⟨c, q⟩ := y
          intro ih
          obtain ⟨M3, b1, b2, b3⟩ := ih
          exact ⟨M3, b1, (s2.mono fRr_fRq2).trans b2, b3⟩
        | inr y =>
          obtain ⟨t1, n2, row1, lf1⟩ := y
          intro ih
          obtain ⟨M3, b1, b2, b3, b4, b5, b6, b7, b8⟩ := ih
          exact ⟨M3, b1, s2.trans b2, b3, b4, b5, b6, b7, by omega⟩
      · rw [if_neg h40] at hi ⊢
        obtain ⟨M1, y, a1, a2, a3⟩ := hi
        rw [show ((0 : Nat) : Int) = 0 from rfl] at a1
        have hf2 : rFt P 2 t (amUp M1 c1 0 (A + (f + n)) y) := a3.mv (e12 _ _ 11) (e12 _ _ 13) (e12 _ _ 14)
        have e19 : amUp M1 c1 0 (A + (f + n)) y 12 0 19 = (v : Int) := (e12 _ _ 19).trans ((a2 12 0 19 (by rfl)).trans h19)
        have b1 := hf2.1
        have b2 := hf2.2.1
        rw [a1, amCI_s, hE, if_neg (by omega)]
        unfold tlR
        rw [r_mustF (by omega) hf2, amCV_s, e19, if_pos (by omega), tn_cast]
        exact ⟨_, rfl, (((a2.mono fRti_fRr).up (hfr 0)).mono fRr_fRq2).up (by unfold fRq2; simp), hf2.mv (up_c (fun q => hc2 q.symm)) (up_c (fun q => hc2 q.symm)) (up_c (fun q => hc2 q.symm))⟩
    · rw [if_neg hk2, r_isN (k := 2) (by omega) hT h (fun z => hk2 (k20.1 (by omega))), amCI_s, if_pos (show (0 : Int) = 0 from rfl)]
      exact ⟨M, rfl, amSame.refl, h, hlf, hll, hrow, by omega, Nat.le_refl t⟩
end RSU
