/-! PURE: the class's calls that do something: go, night, mend, undo, hold, restore -/
/-- what such a call may change -/
def fGo : Nat → Nat → Nat → Bool := fun c s j => sPa c s j || fTh 0 c s j || (s == 0 && scC c) || (c == 3 && j == 4) || (c == 0 && j == 3)
theorem sPa_fGo : ∀ c s j, sPa c s j = true → fGo c s j = true := fun c s j h => by unfold fGo; rw [h]; rfl
theorem fTh_fGo : ∀ c s j, fTh 0 c s j = true → fGo c s j = true := fun c s j h => by
  unfold fGo; rw [h]; cases sPa c s j <;> rfl
theorem fSc_fGo : ∀ c s j, fSc 0 c s j = true → fGo c s j = true := fun c s j h => by
  obtain ⟨rfl, hc⟩ := fSc_scC h
  unfold fGo; rw [hc]; simp
theorem sTx_fGo : ∀ c s j, sTx 0 c s j = true → fGo c s j = false := fun c s j h => by
  unfold sTx at h
  simp only [Bool.and_eq_true, Bool.or_eq_true, beq_iff_eq] at h
  obtain ⟨rfl, h⟩ := h
  rcases h with (((((rfl | rfl) | rfl) | rfl) | rfl) | rfl) | rfl <;> rfl
theorem cTx.go {τ : Tx} {M M' : AmM} (h : cTx 0 τ M) (hs : amSame fGo M M') : cTx 0 τ M' := h.mv fun c s j hc => hs c s j (sTx_fGo c s j hc)
/-- the answers that are kept are dropped -/
def cDr (M : AmM) : Prop := M 3 0 4 = -1 ∧ M 0 0 3 = -1
section CGO
variable {D d : Nat} {τ : Tx} {ρ : Rw} {P : List Rw} {M : AmM} {N : Nat}
theorem cDr_of {M : AmM} : cDr (amUp (amUp M 3 0 4 (-1)) 0 0 3 (-1)) := ⟨by rw [up_c (by decide), up_on], up_on⟩
theorem cSc.dr {s : Nat} (h : cSc τ s ρ M) : cSc τ s ρ (amUp (amUp M 3 0 4 (-1)) 0 0 3 (-1)) := h.mv2 fun c j hc => by
  have h1 : c ≠ 0 := by rintro rfl; cases hc
  have h2 : c ≠ 3 := by rintro rfl; cases hc
  rw [up_c h1, up_c h2]
theorem cPa.dr (h : cPa τ P M) : cPa τ P (amUp (amUp M 3 0 4 (-1)) 0 0 3 (-1)) := h.mv fun c s j hc => by
  have h1 : c ≠ 0 := by rintro rfl; cases hc
  have h2 : c ≠ 3 := by rintro rfl; cases hc
  rw [up_c h1, up_c h2]
theorem c_goN (hD : 2 ≤ D) (hT : cTx 0 τ M) {p : Int} (hp : ¬ (0 ≤ p ∧ p < tP τ)) : amD amGst D 114 [vR 11 11 0, vI p] M = some (vI (-1), M) := by
  obtain ⟨d, rfl⟩ := dS hD
  rw [n_X11_go, q_X11_go_0, c_hasN (by omega) hT hp, amCI_s, if_pos rfl]
theorem c_goA (hD : 3 ≤ D) (hτ : tOk τ) (hT : cTx 0 τ M) (hS : cSc τ 0 ρ M) {p : Nat} (hp : p < tP τ) (hg : ρ (50 + p) ≠ 0) : amD amGst D 114 [vR 11 11 0, vI p] M = some (vI 3, M) := by
  obtain ⟨d, rfl⟩ := dS hD
  rw [n_X11_go, q_X11_go_0, c_hasY (by omega) hT ⟨by omega, by omega⟩, amCI_s, if_neg (by decide), c_onGround (by omega) hτ hT hS hp, amCI_s, if_neg hg, if_pos rfl]
theorem c_go (hD : 6 ≤ D) (hτ : tOk τ) (hN : sOk τ N ρ) (hT : cTx 0 τ M) (hS : cSc τ 0 ρ M) (hP : cPa τ P M) {p : Nat} (hp : p < tP τ) (hg : ρ (50 + p) = 0) :
    ∃ M', amD amGst D 114 [vR 11 11 0, vI p] M = some (vI ((goR τ ρ p).1 : Nat), M') ∧ amSame fGo M M' ∧ cSc τ 0 (goS τ ρ p) M' ∧ cPa τ ((ρ :: P).take 40) M' ∧ cDr M' := by
  obtain ⟨d, rfl⟩ := dS hD
  have hP8 := hτ.2.2.2.2.2.2.1
  obtain ⟨M3, k1, k2, k3⟩ := c_keepPast (D := d) (by omega) hτ hS hP
  have s3 : amSame fGo M M3 := k3.mono sPa_fGo
  have hS3 : cSc τ 0 ρ M3 := hS.mv2 fun c j hc => k3 _ _ _ (by
    unfold sPa
    have h11 : c ≠ 11 := by rintro rfl; cases hc
    rw [beq_false_of_ne h11]; simp)
  have hT3 := hT.go s3
  obtain ⟨M4, t1, t2, t3, t4⟩ := c_through (D := d) (r := 0) (by omega) hτ hT3 hN.2.2.2.1 hp hS3.1 hN.1
  have s4 : amSame fGo M M4 := s3.trans (t2.mono fTh_fGo)
  obtain ⟨M5, e1, e2, e3⟩ := c_settle (D := d) (s := 0) (p := p) (o := (goR τ ρ p).1) (sp := (goR τ ρ p).2.1) (led := (goR τ ρ p).2.2.2.1) (M := M4) (by omega) (by omega)
  have s5 : amSame fGo M M5 := s4.trans (e2.mono fun c s j h => by
    simp only [Bool.and_eq_true, Bool.or_eq_true, beq_iff_eq] at h
    obtain ⟨rfl, h⟩ := h
    rcases h with ((rfl | rfl) | rfl) | rfl <;> rfl)
  have e83 : M3 5 0 7 = ρ 83 := hS3.2.2.2
  refine ⟨_, ?_, (s5.up (by rfl)).up (by rfl), cSc.dr ?_, cPa.dr ?_, cDr_of⟩
  · rw [n_X11_go, q_X11_go_0, c_hasY (by omega) hT ⟨by omega, by omega⟩, amCI_s, if_neg (by decide), c_onGround (by omega) hτ hT hS hp, amCI_s, if_pos hg, if_neg (by decide), k1, amCV_s, e83, t1, amCI_s, t4, t3.2.1]
    refine (congrArg (fun o => amCV o _) e1).trans ?_
    rw [amCV_s, c_drop (by omega), amCV_s]
    rfl
  · -- the scene
    have o4 : ∀ c j, c ≠ 108 ∧ c ≠ 109 ∧ c ≠ 110 ∧ c ≠ 111 → M5 c 0 j = M4 c 0 j := fun c j hc => e2 _ _ _ (by simp [hc.1, hc.2.1, hc.2.2.1, hc.2.2.2])
    have o3 : ∀ c j, c = 108 ∨ c = 109 ∨ c = 110 ∨ c = 111 ∨ c = 5 → M4 c 0 j = M3 c 0 j := fun c j hc => t2 _ _ _ (by rcases hc with rfl | rfl | rfl | rfl | rfl <;> rfl)
    refine ⟨?_, fun q hq => ?_, ?_, ?_⟩
    · have h1 : cSt (tN τ) 0 (goR τ ρ p).2.2.1 M5 := t3.1.mv fun c j hc => o4 c j (by rcases hc with rfl | rfl | rfl <;> decide)
      exact h1.row hτ.1 fun j _ hj => setS_lt hj
    · have h9 := e3 q
      have h8 := hS3.2.1 q hq
      have h7 := hS3.2.1 p hp
      unfold goS
      rw [setS_50 (by omega) (by omega), setS_58 (by omega) (by omega), setS_66 (by omega) (by omega), setS_74 (by omega) (by omega), h9.1, h9.2.1, h9.2.2.1, h9.2.2.2, o3 108 _ (by simp), o3 109 _ (by simp), o3 109 _ (by simp), o3 110 _ (by simp), o3 110 _ (by simp), o3 111 _ (by simp), h8.1, h8.2.1, h8.2.2.1, h8.2.2.2, h7.2.1, h7.2.2.1]
      exact ⟨rfl, rfl, rfl, rfl⟩
    · unfold goS
      rw [setS_hi (by omega) (by omega), o4 _ _ (by decide), o3 5 _ (by simp)]; exact hS3.2.2.1
    · unfold goS
      rw [setS_hi (by omega) (by omega), o4 _ _ (by decide), o3 5 _ (by simp)]; exact hS3.2.2.2
  · refine k2.mv fun c s j hc => ?_
    have h1 : M5 c s j = M4 c s j := e2 _ _ _ (by
      unfold sPa at hc
      simp only [Bool.and_eq_true, Bool.or_eq_true, beq_iff_eq] at hc
      rcases hc with ⟨⟨_, h⟩, _⟩ | ⟨rfl, _⟩
      · have := Nat.le_of_ble_eq_true h
        simp; omega
      · simp)
    have h2 : M4 c s j = M3 c s j := t2 _ _ _ (by
      unfold sPa at hc
      simp only [Bool.and_eq_true, Bool.or_eq_true, beq_iff_eq] at hc
      rcases hc with ⟨⟨h0, h⟩, _⟩ | ⟨rfl, _⟩
      · have := Nat.le_of_ble_eq_true h
        unfold fTh
        have h10 : c ≠ 10 := by rintro rfl; cases h0
        have h125 : c ≠ 125 := by rintro rfl; cases h0
        have h102 : c ≠ 102 := by rintro rfl; cases h0
        have hs0 : s ≠ 0 := by omega
        simp [h10, h125, hs0]
      · simp [fTh])
    rw [h1, h2]
end CGO
