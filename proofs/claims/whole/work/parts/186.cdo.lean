/-! PURE: the class's night, mend, undo, hold, restore -/
section CDO
variable {D d : Nat} {τ : Tx} {ρ : Rw} {P : List Rw} {M M' : AmM} {N : Nat}
theorem cSc.past (h : cSc τ 0 ρ M) (hs : amSame sPa M M') : cSc τ 0 ρ M' := h.mv2 fun c j hc => hs _ _ _ (by
  unfold sPa
  have h11 : c ≠ 11 := by rintro rfl; cases hc
  rw [beq_false_of_ne h11]; simp)
theorem cPa.now (h : cPa τ P M) (hs : amSame (fSc 0) M M') : cPa τ P M' := h.mv fun c s j hc => hs _ _ _ (by
  unfold sPa at hc
  simp only [Bool.and_eq_true, Bool.or_eq_true, beq_iff_eq] at hc
  rcases hc with ⟨⟨h0, h⟩, _⟩ | ⟨rfl, _⟩
  · have := Nat.le_of_ble_eq_true h
    exact scC_sc h0 (by omega)
  · simp [fSc])
theorem sOk.one (h : sOk τ N ρ) : sOk1 τ (100 * (N : Int)) ρ := h
theorem sOk1.sOk {B : Int} (h : sOk1 τ B ρ) (hB : B ≤ 100 * (N : Int)) : sOk τ N ρ := ⟨h.1, h.2.1, h.2.2.1, h.2.2.2.1, by have := h.2.2.2.2; omega⟩
theorem c_nightN (hD : 1 ≤ D) {n : Int} (hn : ¬ (0 ≤ n ∧ n ≤ 100)) : amD amGst D 116 [vR 11 11 0, vI n] M = some (vI (-1), M) := by
  obtain ⟨d, rfl⟩ := dS hD
  rw [n_X11_night, q_X11_night_0]
  by_cases h : n < 0
  · rw [if_pos h]
  · rw [if_neg h, if_pos (by omega)]
theorem c_night0 (hD : 1 ≤ D) (hS : cSc τ 0 ρ M) : amD amGst D 116 [vR 11 11 0, vI 0] M = some (vI (ρ 83), M) := by
  obtain ⟨d, rfl⟩ := dS hD
  rw [n_X11_night, q_X11_night_0, if_neg (by omega), if_neg (by omega), if_neg (by omega), hS.2.2.2]
theorem c_night (hD : 5 ≤ D) (hτ : tOk τ) (hN5 : N ≤ 1000) (hN : sOk τ N ρ) (hT : cTx 0 τ M) (hS : cSc τ 0 ρ M) (hP : cPa τ P M) {n : Nat} (h1 : 1 ≤ n) (h2 : n ≤ 100) :
    ∃ M', amD amGst D 116 [vR 11 11 0, vI n] M = some (vI ((ntN τ n ρ) 83), M') ∧ amSame fGo M M' ∧ cSc τ 0 (ntN τ n ρ) M' ∧ cPa τ ((ρ :: P).take 40) M' ∧ cDr M' := by
  obtain ⟨d, rfl⟩ := dS hD
  obtain ⟨M3, k1, k2, k3⟩ := c_keepPast (D := d) (by omega) hτ hS hP
  have s3 : amSame fGo M M3 := k3.mono sPa_fGo
  obtain ⟨M4, t1, t2, t3⟩ := c_nightLoop (d := d) (by omega) hτ n 0 ρ (100 * (N : Int)) M3 (by omega) (by omega) hN.one (hT.go s3) (hS.past k3)
  refine ⟨_, ?_, ((s3.trans (t3.mono fSc_fGo)).up (by rfl)).up (by rfl), t2.dr, (k2.now t3).dr, cDr_of⟩
  have e0 : ((0 + n : Nat) : Int) = (n : Int) := by omega
  rw [e0] at t1
  rw [n_X11_night, q_X11_night_0, if_neg (by omega), if_neg (by omega), if_pos (by omega), k1, amCV_s]
  exact t1
/-- a step mended -/
def mdS (ρ : Rw) (s : Nat) (m : Int) : Rw := fun j => if j = 82 then ρ 82 - m else rUp ρ s (ρ s + m) j
theorem mdS_ok {s : Nat} {m : Int} (hτ : tOk τ) (hN : sOk τ N ρ) (hs : 1 ≤ s ∧ s ≤ tN τ) (hm : 1 ≤ m ∧ m ≤ ρ 82 ∧ m ≤ tTh τ s - ρ s) : sOk τ N (mdS ρ s m) := by
  obtain ⟨a1, a2, a3, a4, a5⟩ := hN
  have hn := hτ.1
  have hP := hτ.2.2.2.2.2.2.1
  have e : ∀ j, j ≠ 82 → j ≠ s → mdS ρ s m j = ρ j := fun j h1 h2 => by unfold mdS; rw [if_neg h1, rUp_ne h2]
  refine ⟨fun j b1 b2 => ?_, fun p hp => ?_, ?_, ?_⟩
  · by_cases hj : j = s
    · subst hj
      have h1 : mdS ρ j m j = ρ j + m := by unfold mdS; rw [if_neg (by omega), rUp_on]
      rw [h1]
      have := a1 j b1 b2
      omega
    · rw [e j (by omega) hj]; exact a1 j b1 b2
  · rw [e _ (by omega) (by omega), e _ (by omega) (by omega)]; exact a2 p hp
  · show 0 ≤ ρ 82 - m ∧ ρ 82 - m ≤ 9999
    omega
  · rw [e _ (by omega) (by omega)]; exact ⟨a4, a5⟩
theorem c_mendN (hD : 2 ≤ D) (hS : cSc τ 0 ρ M) {s m : Int} (h : ¬ ((1 ≤ s ∧ s ≤ tN τ) ∧ 1 ≤ m)) : amD amGst D 117 [vR 11 11 0, vI s, vI m] M = some (vI (-1), M) := by
  obtain ⟨d, rfl⟩ := dS hD
  rw [n_X11_mend, q_X11_mend_0]
  by_cases h1 : 1 ≤ s ∧ s ≤ tN τ
  · rw [c_isStepY (n := tN τ) (by omega) hS.1.1 h1, amCI_s, if_neg (by decide), if_pos (by omega)]
  · rw [c_isStepN (n := tN τ) (by omega) hS.1.1 h1, amCI_s, if_pos rfl]
theorem c_mendC (hD : 2 ≤ D) (hτ : tOk τ) (hN : sOk τ N ρ) (hT : cTx 0 τ M) (hS : cSc τ 0 ρ M) {s : Nat} {m : Int} (hs : 1 ≤ s ∧ s ≤ tN τ) (hm : 1 ≤ m) (h : ¬ (m ≤ ρ 82 ∧ m ≤ tTh τ s - ρ s)) : amD amGst D 117 [vR 11 11 0, vI s, vI m] M = some (vI (-2), M) := by
  obtain ⟨d, rfl⟩ := dS hD
  have hn := hτ.1
  have a1 := hN.1 s hs.1 hs.2
  have a2 := hτ.2.1 s hs.1 hs.2
  have e : ((s : Nat) : Int).toNat = s := rfl
  rw [n_X11_mend, q_X11_mend_0, c_isStepY (n := tN τ) (by omega) hS.1.1 (by omega), amCI_s, if_neg (by decide), if_neg (by omega), c_thickAt (by omega) (by omega), amCI_s, (hS.1.2.2 s hs.1 hs.2).1, hS.2.2.1]
  by_cases h1 : m ≤ ρ 82
  · rw [if_neg (by omega), c_at (n := 26) (by omega) (by decide) (by decide) (by omega) (by omega), amCI_s, e, hT.2.2.2.2.2.1 s hs.1 hs.2, w32_id (by omega) (by omega), if_pos (by omega)]
  · rw [if_pos (by omega)]
theorem c_mend (hD : 5 ≤ D) (hτ : tOk τ) (hN : sOk τ N ρ) (hT : cTx 0 τ M) (hS : cSc τ 0 ρ M) (hP : cPa τ P M) {s : Nat} {m : Int} (hs : 1 ≤ s ∧ s ≤ tN τ) (hm : 1 ≤ m ∧ m ≤ ρ 82 ∧ m ≤ tTh τ s - ρ s) :
    ∃ M', amD amGst D 117 [vR 11 11 0, vI s, vI m] M = some (vI (ρ 82 - m), M') ∧ amSame fGo M M' ∧ cSc τ 0 (mdS ρ s m) M' ∧ cPa τ ((ρ :: P).take 40) M' ∧ cDr M' := by
  obtain ⟨d, rfl⟩ := dS hD
  have hn := hτ.1
  have hP8 := hτ.2.2.2.2.2.2.1
  have a1 := hN.1 s hs.1 hs.2
  have a2 := hτ.2.1 s hs.1 hs.2
  have a3 := hN.2.2.1
  have e : ((s : Nat) : Int).toNat = s := rfl
  obtain ⟨M3, k1, k2, k3⟩ := c_keepPast (D := d) (by omega) hτ hS hP
  have s3 : amSame fGo M M3 := k3.mono sPa_fGo
  have hS3 := hS.past k3
  have hg := gonS_b (tN τ) ρ
  have hg2 := hS3.1.2.1
  have e3 := (hS3.1.2.2 s hs.1 hs.2).1
  have key := hS3.1.set (v := ρ s + m) hn hs a1.1 (by omega)
  rw [n_X11_mend, q_X11_mend_0, c_isStepY (n := tN τ) (by omega) hS.1.1 (by omega), amCI_s, if_neg (by decide), if_neg (by omega), c_thickAt (by omega) (by omega), amCI_s, (hS.1.2.2 s hs.1 hs.2).1, hS.2.2.1, if_neg (by omega), c_at (n := 26) (by omega) (by decide) (by decide) (by omega) (by omega), amCI_s, e, hT.2.2.2.2.2.1 s hs.1 hs.2, w32_id (x := tTh τ s - ρ s) (by omega) (by omega), if_neg (by omega), k1, amCV_s, w32_id (x := ρ s + m) (by omega) (by omega), c_setThick (by omega) (by omega) (by rw [hg2]; omega), amCV_s]
  generalize hM4 : amUp (amUp M3 6 0 3 (M3 6 0 3 + (if 0 < M3 112 0 s then 1 else 0) - (if 0 < ρ s + m then 1 else 0))) 112 0 s (ρ s + m) = M4 at key ⊢
  have s4 : amSame (fSc 0) M3 M4 := by
    rw [← hM4]
    exact (amSame.refl.up (by rfl)).up (by rfl)
  have o4 : ∀ c j, c ≠ 6 → c ≠ 112 → M4 c 0 j = M3 c 0 j := fun c j h1 h2 => by rw [← hM4, up_c h2, up_c h1]
  rw [o4 5 6 (by decide) (by decide), hS3.2.2.1, w32_id (x := ρ 82 - m) (by omega) (by omega), c_drop (by omega), amCV_s, up_c (by decide), up_c (by decide), up_on]
  have s5 : amSame (fSc 0) M3 (amUp M4 5 0 6 (ρ 82 - m)) := s4.up (by rfl)
  have er : ∀ j, j ≠ 82 → mdS ρ s m j = rUp ρ s (ρ s + m) j := fun j h => if_neg h
  have er2 : ∀ j, 50 ≤ j → j ≠ 82 → mdS ρ s m j = ρ j := fun j h h2 => by rw [er j h2, rUp_ne (by omega)]
  refine ⟨_, rfl, ((s3.trans (s5.mono fSc_fGo)).up (by rfl)).up (by rfl), cSc.dr ⟨?_, fun p hp => ?_, ?_, ?_⟩, (k2.now s5).dr, cDr_of⟩
  · exact (key.up (by decide)).row hn fun j b1 b2 => er j (by omega)
  · rw [er2 _ (by omega) (by omega), er2 _ (by omega) (by omega), er2 _ (by omega) (by omega), er2 _ (by omega) (by omega), up_c (by decide), up_c (by decide), up_c (by decide), up_c (by decide), o4 _ _ (by decide) (by decide), o4 _ _ (by decide) (by decide), o4 _ _ (by decide) (by decide), o4 _ _ (by decide) (by decide)]
    exact hS3.2.1 p hp
  · rw [up_on]; rfl
  · rw [up_j (by decide), o4 _ _ (by decide) (by decide), er2 _ (by omega) (by omega)]; exact hS3.2.2.2
theorem c_undoN (hD : 1 ≤ D) (hP : cPa τ [] M) : amD amGst D 118 [vR 11 11 0] M = some (vI 0, M) := by
  obtain ⟨d, rfl⟩ := dS hD
  have h := hP.2.1
  rw [n_X11_undo, q_X11_undo_0, h, if_neg (by decide)]
theorem c_undo (hD : 5 ≤ D) (hτ : tOk τ) (hP : cPa τ (ρ :: P) M) :
    ∃ M', amD amGst D 118 [vR 11 11 0] M = some (vI 1, M') ∧ amSame fGo M M' ∧ cSc τ 0 ρ M' ∧ cPa τ P M' ∧ cDr M' := by
  obtain ⟨d, rfl⟩ := dS hD
  obtain ⟨d, rfl⟩ := dS (show 3 + 1 ≤ d by omega)
  obtain ⟨h1, h2, e, h3, h4, h5⟩ := hP
  have h0 := h5 0 ρ rfl
  have hl : (ρ :: P).length = P.length + 1 := rfl
  rw [hl] at h1 h2
  have em : Int.tmod (((e + 39 : Nat) : Int)) 40 = (((e + 39) % 40 : Nat) : Int) := by
    rw [Int.tmod_eq_emod_of_nonneg (by omega)]; omega
  have e40 : (e + 39) % 40 < 40 := Nat.mod_lt _ (by omega)
  have et : ((((e + 39) % 40 : Nat) : Int)).toNat = (e + 39) % 40 := rfl
  rw [n_X11_undo, q_X11_undo_0, h2, if_pos (by omega), if_neg (show ¬ (40 : Int) = 0 by decide), up_j (by decide), h4, w32_n (x := ((P.length + 1 : Nat) : Int) - 1) (n := P.length) (by omega) (by omega), w32_n (x := (e : Int) + 40) (n := e + 40) (by omega) (by omega), w32_n (x := ((e + 40 : Nat) : Int) - 1) (n := e + 39) (by omega) (by omega), em, q_X11_undo_35, up_on, n_X11_goOnFromp, q_X11_goOnFromp_0, et, if_neg (show ¬ (((e + 39) % 40 : Nat) : Int) < 0 by omega), if_pos (show (((e + 39) % 40 : Nat) : Int) < 40 by omega), if_pos (show (0 : Int) ≤ (((e + 39) % 40 : Nat) : Int) ∧ (((e + 39) % 40 : Nat) : Int) < 40 by omega), if_pos (show (0 : Int) ≤ (((e + 39) % 40 : Nat) : Int) ∧ (((e + 39) % 40 : Nat) : Int) < 40 by omega)]
  generalize hM1 : amUp (amUp M 11 0 13 (P.length : Int)) 11 0 14 (((e + 39) % 40 : Nat) : Int) = M1
  have hP1 : cPa τ P M1 := by
    refine ⟨by omega, by rw [← hM1, up_j (by decide), up_on], (e + 39) % 40, e40, by rw [← hM1, up_on], fun i ρ' hi => ?_⟩
    have h6 := h5 (i + 1) ρ' hi
    have hi2 := (List.getElem?_eq_some_iff.mp hi).1
    have e3 : 1 + ((e + 39) % 40 + 39 - i) % 40 = 1 + (e + 39 - (i + 1)) % 40 := by omega
    rw [e3]
    exact h6.mv2 fun c j hc => by
      have h11 : c ≠ 11 := by rintro rfl; cases hc
      rw [← hM1, up_c h11, up_c h11]
  have hS1 : cSc τ ((e + 39) % 40 + 1) ρ M1 := by
    have e3 : (e + 39) % 40 + 1 = 1 + (e + 39 - 0) % 40 := by omega
    rw [e3]
    exact h0.mv2 fun c j hc => by
      have h11 : c ≠ 11 := by rintro rfl; cases hc
      rw [← hM1, up_c h11, up_c h11]
  obtain ⟨M2, m1, m2, m3⟩ := c_scCopy (D := d) (r := 0) (by omega) hτ hS1 (by omega)
  have s1 : amSame fGo M M1 := by
    rw [← hM1]
    exact (amSame.refl.up (by rfl)).up (by rfl)
  rw [m1, amCV_s, c_drop (by omega), amCV_s, amCI_s]
  exact ⟨_, rfl, ((s1.trans (m3.mono fSc_fGo)).up (by rfl)).up (by rfl), m2.dr, (hP1.now m3).dr, cDr_of⟩
/-- what is held -/
def cHe (τ : Tx) (H : Nat → Option Rw) (M : AmM) : Prop := ∀ s, s < 3 → match H s with
  | none => M 128 0 s = 0
  | some ρ => M 128 0 s = 1 ∧ cSc τ (41 + s) ρ M
def sHe : Nat → Nat → Nat → Bool := fun c s j => (c == 128) || (scC c && Nat.ble 41 s && Nat.ble s 43)
theorem cHe.mv {H : Nat → Option Rw} (h : cHe τ H M) (hs : ∀ c s j, sHe c s j = true → M' c s j = M c s j) : cHe τ H M' := fun s hs3 => by
  have h1 := h s hs3
  have e : M' 128 0 s = M 128 0 s := hs _ _ _ (by rfl)
  cases hH : H s with
  | none => rw [hH] at h1; show M' 128 0 s = 0; rw [e]; exact h1
  | some ρ =>
    rw [hH] at h1
    refine ⟨by rw [e]; exact h1.1, h1.2.mv2 fun c j hc => hs _ _ _ ?_⟩
    unfold sHe
    rw [hc, show Nat.ble 41 (41 + s) = true from Nat.ble_eq_true_of_le (by omega), show Nat.ble (41 + s) 43 = true from Nat.ble_eq_true_of_le (by omega)]
    simp
theorem sHe_fGo : ∀ c s j, sHe c s j = true → fGo c s j = false := fun c s j h => by
  unfold sHe at h
  simp only [Bool.and_eq_true, Bool.or_eq_true, beq_iff_eq] at h
  rcases h with rfl | ⟨⟨h0, h1⟩, h2⟩
  · unfold fGo sPa fTh; simp [scC]
  · have h1 := Nat.le_of_ble_eq_true h1
    have h40 : Nat.ble s 40 = false := by
      cases hb : Nat.ble s 40 with
      | false => rfl
      | true => have := Nat.le_of_ble_eq_true hb; omega
    have h11 : c ≠ 11 := by rintro rfl; cases h0
    have h3 : c ≠ 3 := by rintro rfl; cases h0
    have hc0 : c ≠ 0 := by rintro rfl; cases h0
    have h10 : c ≠ 10 := by rintro rfl; cases h0
    have h125 : c ≠ 125 := by rintro rfl; cases h0
    have h102 : c ≠ 102 := by rintro rfl; cases h0
    have hs0 : s ≠ 0 := by omega
    unfold fGo sPa fTh
    simp [h40, h11, h3, hc0, h10, h125, h102, hs0]
theorem cHe.go {H : Nat → Option Rw} (h : cHe τ H M) (hs : amSame fGo M M') : cHe τ H M' := h.mv fun c s j hc => hs c s j (sHe_fGo c s j hc)
end CDO
