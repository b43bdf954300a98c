/-! PURE: the reference's pilgrims, whole -/
section RSY
variable {D d t v : Nat} {κ ν P : Nat → Nat} {M : AmM} {lf : Nat × Nat}
theorem r_pilF (hd : 3 ≤ d) {M0 : AmM} {c q l : Nat} (hl : 8 * v + l < 16) (hl8 : l < 8) (hs : amSame fRti M0 M) (h : rFt P c q M) {l2 l3 : Int} : ∃ M', e_X12_tellPilgrim_30 d ((8 * v + l : Nat) : Int) l2 l3 M = some (vU, M') ∧ amSame (fRP v) M0 M' ∧ rFt P c q M' := by
  rw [r_30F h, r_73F hd h hl]
  exact ⟨_, rfl, (((hs.mono fRti_fRpi).up (fRpi_W (Or.inl rfl) hl8)).up (fRpi_W (Or.inr rfl) hl8)).mono fRpi_fRP, (h.mv (up_c (by decide)) (up_c (by decide)) (up_c (by decide))).mv (up_c (by decide)) (up_c (by decide)) (up_c (by decide))⟩
theorem q_pil {n tk : Nat} (hv : v ≤ 1) (hn : n ≤ 8) (h19 : M 12 0 19 = (v : Int)) (h143 : M 143 0 v = (n : Int)) (h11 : M 12 0 11 = (tk : Int)) : amD amGst (d + 1) 171 [vR 12 12 0] M = amCV (amD amGst d 162 [vR 12 12 0, vI 1] M) fun M1 => e_X12_tellPilgrim_30 d ((8 * v + n : Nat) : Int) (tk : Int) 0 M1 := by
  have w1 : w32 (8 * (v : Int)) = ((8 * v : Nat) : Int) := w32_n (by omega) (by omega)
  have w2 : w32 (((8 * v : Nat) : Int) + (n : Int)) = ((8 * v + n : Nat) : Int) := w32_n (by omega) (by omega)
  rw [n_X12_tellPilgrim, q_X12_tellPilgrim_0, h19, if_pos (show (0 : Int) ≤ (v : Int) ∧ (v : Int) < 2 by omega), tn_cast, h143, w1, w2, h11]
theorem r_pil (hd : 3 ≤ d) (hv : v ≤ 1) (hκ : ∀ q, κ q < 62) (hPm : ∀ i j, i < j → P i < P j) {x : Dr} {M1 : AmM} {n tk cd br : Nat} (hn : n = tP x.1) (hn8 : n < 8) (hl16 : 8 * v + n < 16) (a2 : amSame fRta M M1) (hT1 : rTk κ ν P M1) (a3 : rPs κ tk M1) (l1 : rLf P x.2.2.2 M1) (hll : x.2.2.2.1 ≠ 0 → x.2.2.2.2 < tk) (h2 : rDf v n cd br M) (h3 : rDm v x cd br M) (h6 : 420 * v ≤ cd ∧ cd ≤ 420 * v + tk) (h7 : 50 * v ≤ br ∧ br ≤ 50 * v + 5 * x.2.1) : rO v κ P (match nmS κ ν x.2.2.1 n tk x.2.2.2 with
      | .inl y => .inl y
      | .inr (t1, lf) => (match intS κ ν 1 30 t1 lf with
        | .inl y => .inl y
        | .inr (t2, lf2) => (match vwS κ t2 with
          | .inl y => .inl y
          | .inr t3 => semS κ t3 (txP x.1 ((ν t1 : Nat) : Int) ((κ t2 - 8 : Nat) : Int), x.2.1, (fun i => if i = tP x.1 then ν tk else x.2.2.1 i), lf2)))) (amD amGst (d + 1) 171 [vR 12 12 0] M1) M := by
  have q19 : M1 12 0 19 = (v : Int) := (a2 12 0 19 (by rfl)).trans h2.1
  have q143 : M1 143 0 v = (n : Int) := (a2 143 0 v (by rfl)).trans (h3.2.1.2.2.2.2.1.trans (congrArg (fun z : Nat => (z : Int)) hn.symm))
  have q136 : ∀ j, j < n → M 136 0 j = ((x.2.2.1 j : Nat) : Int) := fun j hj => (h3.2.2.2.2.1 j (by rw [← hn]; exact hj)).2.2
  obtain ⟨M2, b1, b2, b3⟩ := r_must (D := d) (w := 19) (k := 1) hd hκ hT1 a3 (by decide) (by rfl) (by decide)
  rw [show ((1 : Nat) : Int) = 1 from rfl] at b1
  rw [q_pil hv (Nat.le_of_lt hn8) q19 q143 a3.2.1, b1, amCV_s]
  have s2 : amSame fRti M M2 := (a2.trans b2).mono fRta_fRti
  revert b3
  unfold tkX nmS
  by_cases hk1 : κ tk = 19
  · rw [if_pos hk1, if_pos hk1]
    by_cases h41 : tk < 400
    · rw [if_pos h41, if_pos h41]
      intro b3
      have hT2 := hT1.ti (b2.mono fRta_fRti)
      have n20 : M2 12 0 20 = (n : Int) := (s2 12 0 20 (by rfl)).trans h2.2.2.2.2
      have l2 : rLf P (lfS x.2.2.2 3 tk (anyN x.2.2.1 (ν tk) 0)) M2 := by
        show rLf P (lfS x.2.2.2 3 tk false) M2
        rw [lfS_f]
        exact l1.ta b2
      obtain ⟨M3, c1, c2, c3⟩ := r_names (d := d) (nm := x.2.2.1) (n := n) (tk := tk) (l1 := ((8 * v + n : Nat) : Int)) (Nat.le_trans (by decide) hd) hPm (Nat.le_of_lt hn8) hT2 a3.1 hk1 b3.2.2 n20 (fun j hj => (s2 136 0 j (by rfl)).trans (q136 j hj)) hll n 0 M2 (Nat.zero_add n) amSame.refl l2
      rw [show ((0 : Nat) : Int) = 0 from rfl] at c1
      rw [c1]
      exact r_st3b (d := d) (M := M) (M1 := M3) (tk := tk) (t1 := tk + 1) (l3 := (n : Int)) hd hv hκ hPm hn hn8 hk1 a3.1 (s2.trans (c2.mono fRlt_fRti)) (hT2.ti (c2.mono fRlt_fRti)) (b3.lt c2) c3 (lfS_lt hll) h2 h3 ⟨h6.1, Nat.le_trans h6.2 (Nat.le_succ _)⟩ h7
    · rw [if_neg h41, if_neg h41]
      intro b3
      exact r_pilF hd hl16 hn8 s2 b3
  · rw [if_neg hk1, if_neg hk1]
    intro b3
    exact r_pilF hd hl16 hn8 s2 b3
theorem r_st3 (hd : 4 ≤ d) (hv : v ≤ 1) (hκ : ∀ q, κ q < 62) (hPm : ∀ i j, i < j → P i < P j) {x : Dr} {n : Nat} (hn : n = tP x.1) (hT : rTk κ ν P M) (hk : κ t = 3) (hS : rS v κ P t x M) : rO v κ P (st3 κ ν t x) (amCV (amD amGst d 165 [vR 12 12 0, vI (M 143 0 v), vI 8] M) fun M10 => if M10 12 0 13 = 0 then (amCV (amD amGst d 171 [vR 12 12 0] M10) fun M11 => some (vU, M11)) else (some (vU, M10))) M := by
  obtain ⟨cd, br, h1, h2, h3, h4, h5, h6, h7⟩ := hS
  have e143 : M 143 0 v = (n : Int) := h3.2.1.2.2.2.2.1.trans (congrArg (fun z : Nat => (z : Int)) hn.symm)
  have hP8 : n ≤ 8 := by rw [hn]; exact h3.1.2.2.1
  obtain ⟨M1, a1, a2, a3⟩ := r_room (d := d) (n := n) (by omega) hT h1 (by omega)
  rw [e143, a1, amCV_s]
  unfold st3
  rw [← hn] at h2
  rw [← hn]
  by_cases h8 : n = 8
  · rw [if_pos h8] at a3
    have b1 := a3.1
    have b2 := a3.2.1
    rw [if_neg (show ¬ n < 8 by omega), if_neg (show ¬ M1 12 0 13 = 0 by omega)]
    exact ⟨M1, rfl, a2.mono fRta_fRP, a3⟩
  · rw [if_neg h8] at a3
    have hn8 : n < 8 := by omega
    have hl16 : 8 * v + n < 16 := by omega
    have hll : x.2.2.2.1 ≠ 0 → x.2.2.2.2 < t + 1 := fun q => Nat.lt_succ_of_lt (h5 q)
    obtain ⟨d', rfl⟩ := dS (show 1 ≤ d by omega)
    rw [if_pos hn8]
    unfold goX at a3
    by_cases h40 : t < 400
    · rw [if_pos h40] at a3 ⊢
      have a3 : rPs κ (t + 1) M1 := a3
      rw [if_pos a3.2.2]
      have hr := r_pil (d := d') (Nat.le_of_succ_le_succ hd) hv hκ hPm hn hn8 hl16 a2 (hT.ti (a2.mono fRta_fRti)) a3 (h4.ta a2) hll h2 h3 ⟨h6.1, Nat.le_trans h6.2 (Nat.le_succ _)⟩ h7
      rw [← hn] at hr
      exact hr.tl amSame.refl
    · rw [if_neg h40] at a3 ⊢
      have a3 : rFt P 2 t M1 := a3
      have b1 := a3.1
      have b2 := a3.2.1
      rw [if_neg (show ¬ M1 12 0 13 = 0 by omega)]
      exact ⟨M1, rfl, a2.mono fRta_fRP, a3⟩
end RSY
