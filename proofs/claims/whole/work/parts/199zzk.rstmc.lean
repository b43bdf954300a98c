/-! PURE: the reference's statements and its parse -/
section RSQ
variable {d t v cd : Nat} {κ ν P : Nat → Nat} {M : AmM}
theorem r_st4 (hd : 7 ≤ d) (hv : v ≤ 1) (hκ : ∀ q, κ q < 62) (hν : ∀ t, κ t = 20 → ν t < 10000) {x : Dr} {n : Nat} (hn : n = x.2.1) (hT : rTk κ ν P M) (hk : κ t = 4) (hS : rS v κ P t x M) : rO v κ P (st4 κ ν t x) (amCV (amD amGst d 165 [vR 12 12 0, vI (M 146 0 v), vI 8] M) fun M12 => if M12 12 0 13 = 0 then (amCV (amD amGst d 172 [vR 12 12 0] M12) fun M13 => some (vU, M13)) else (some (vU, M12))) M := by
  have hS0 := hS
  obtain ⟨cd, br, h1, h2, h3, h4, h5, h6, h7⟩ := hS
  have e146 : M 146 0 v = (n : Int) := h3.2.1.2.2.2.2.2.trans (congrArg (fun z : Nat => (z : Int)) hn.symm)
  have hP8 : n ≤ 8 := by rw [hn]; exact h3.1.2.2.2
  obtain ⟨M1, a1, a2, a3⟩ := r_room (d := d) (n := n) (by omega) hT h1 (by omega)
  rw [e146, a1, amCV_s]
  unfold st4
  rw [← hn]
  by_cases h8 : n = 8
  · rw [if_pos h8] at a3
    have b1 := a3.1
    have b2 := a3.2.1
    rw [if_neg (show ¬ n < 8 by omega), if_neg (show ¬ M1 12 0 13 = 0 by omega)]
    exact ⟨M1, rfl, a2.mono fRta_fRP, a3⟩
  · rw [if_neg h8] at a3
    have hn8 : n < 8 := by omega
    obtain ⟨d', rfl⟩ := dS (show 1 ≤ d by omega)
    rw [if_pos hn8]
    unfold goX at a3
    by_cases h40 : t < 400
    · rw [if_pos h40] at a3 ⊢
      have a3 : rPs κ (t + 1) M1 := a3
      rw [if_pos a3.2.2]
      have hr := r_lawS (d := d') (x := x) (Nat.le_of_succ_le_succ hd) hv hκ hν (by rw [← hn]; exact hn8) (hT.ti (a2.mono fRta_fRti)) (hS0.ta a2 a3 (Nat.le_succ t))
      rw [← hn] at hr
      exact (hr.pre (a2.mono fRta_fRP)).tl amSame.refl
    · rw [if_neg h40] at a3 ⊢
      have a3 : rFt P 2 t M1 := a3
      have b1 := a3.1
      have b2 := a3.2.1
      rw [if_neg (show ¬ M1 12 0 13 = 0 by omega)]
      exact ⟨M1, rfl, a2.mono fRta_fRP, a3⟩
theorem r_stS (hd : 7 ≤ d) (hv : v ≤ 1) (hκ : ∀ q, κ q < 62) (hν : ∀ t, κ t = 20 → ν t < 10000) (hPm : ∀ i j, i < j → P i < P j) {x : Dr} (hT : rTk κ ν P M) (hS : rS v κ P t x M) : rO v κ P (stS κ ν t x) (amD amGst (d + 1) 166 [vR 12 12 0] M) M := by
  have h := hS.choose_spec.choose_spec
  have hp := h.1
  have h131 := (hT t hp.1.1 hp.1.2).1
  have h19 := h.2.1.1
  have hlt := hκ t
  have ht4 := hp.1.1
  have i403 : (0 : Int) ≤ (t : Int) ∧ (t : Int) < 403 := by omega
  have i2 : (0 : Int) ≤ (v : Int) ∧ (v : Int) < 2 := by omega
  rw [n_X12_tell, q_X12_tell_0, hp.2.1, if_pos i403, tn_cast, h131, h19, tn_cast]
  have k0 := kRv (hκ t) (show 0 < 62 by decide) (show kR 0 = 20 by rfl) (by decide)
  have k1 := kRv (hκ t) (show 1 < 62 by decide) (show kR 1 = 21 by rfl) (by decide)
  have k2 := kRv (hκ t) (show 2 < 62 by decide) (show kR 2 = 22 by rfl) (by decide)
  have k3 := kRv (hκ t) (show 3 < 62 by decide) (show kR 3 = 23 by rfl) (by decide)
  have k4 := kRv (hκ t) (show 4 < 62 by decide) (show kR 4 = 24 by rfl) (by decide)
  unfold stS
  by_cases c0 : κ t = 0
  · rw [if_pos c0, if_pos (show ((kR (κ t) : Nat) : Int) = 20 by have := k0.2 c0; omega)]
    exact r_st0 (by omega) hv hκ hPm hT c0 hS
  rw [if_neg c0, if_neg (show ¬ ((kR (κ t) : Nat) : Int) = 20 by intro z; exact c0 (k0.1 (by omega)))]
  by_cases c1 : κ t = 1
  · rw [if_pos c1, if_pos (show ((kR (κ t) : Nat) : Int) = 21 by have := k1.2 c1; omega)]
    exact r_st1 (by omega) hv hκ hPm hT c1 hS
  rw [if_neg c1, if_neg (show ¬ ((kR (κ t) : Nat) : Int) = 21 by intro z; exact c1 (k1.1 (by omega)))]
  by_cases c2 : κ t = 2
  · rw [if_pos c2, if_pos (show ((kR (κ t) : Nat) : Int) = 22 by have := k2.2 c2; omega)]
    exact r_st2 (by omega) hv hκ hPm hT c2 hS
  rw [if_neg c2, if_neg (show ¬ ((kR (κ t) : Nat) : Int) = 22 by intro z; exact c2 (k2.1 (by omega)))]
  by_cases c3 : κ t = 3
  · rw [if_pos c3, if_pos (show ((kR (κ t) : Nat) : Int) = 23 by have := k3.2 c3; omega), if_pos i2]
    exact r_st3 (by omega) hv hκ hPm rfl hT c3 hS
  rw [if_neg c3, if_neg (show ¬ ((kR (κ t) : Nat) : Int) = 23 by intro z; exact c3 (k3.1 (by omega)))]
  by_cases c4 : κ t = 4
  · rw [if_pos c4, if_pos (show ((kR (κ t) : Nat) : Int) = 24 by have := k4.2 c4; omega), if_pos i2]
    exact r_st4 hd hv hκ hν rfl hT c4 hS
  rw [if_neg c4, if_neg (show ¬ ((kR (κ t) : Nat) : Int) = 24 by intro z; exact c4 (k4.1 (by omega)))]
  obtain ⟨M1, a1, a2, a3⟩ := r_fail (D := d) (c := 1) (by omega) hT hp (by decide)
  rw [show ((1 : Nat) : Int) = 1 from rfl] at a1
  rw [a1, amCV_s]
  exact ⟨M1, rfl, a2.mono fRta_fRP, a3⟩
theorem r_stSD {D : Nat} (hD : 8 ≤ D) (hv : v ≤ 1) (hκ : ∀ q, κ q < 62) (hν : ∀ t, κ t = 20 → ν t < 10000) (hPm : ∀ i j, i < j → P i < P j) {x : Dr} (hT : rTk κ ν P M) (hS : rS v κ P t x M) : rO v κ P (stS κ ν t x) (amD amGst D 166 [vR 12 12 0] M) M := by
  obtain ⟨d, rfl⟩ := dS (show 1 ≤ D by omega)
  exact r_stS (Nat.le_of_succ_le_succ hD) hv hκ hν hPm hT hS
/-- what comes of a text -/
def rPo (v : Nat) (κ P : Nat → Nat) (r : Pr Dr) (d : Nat) (l1 : Int) (o : Option (AmV × AmM)) (M : AmM) : Prop := match r with
  | .inl (c, q) => ∃ M', o = e_X12_read_226 d l1 M' ∧ amSame (fRP v) M M' ∧ rFt P c q M'
  | .inr x => ∃ (M' : AmM) (t : Nat), o = e_X12_read_226 d l1 M' ∧ amSame (fRP v) M M' ∧ rS v κ P t x M'
theorem rTk_rP (hT : rTk κ ν P M) {M' : AmM} (hs : amSame (fRP v) M M') : rTk κ ν P M' := hT.mv fun c j q => hs c 0 j (by
  unfold fRP fRti fRta fRlt sSd
  rcases q with rfl | rfl | rfl | rfl <;> rfl)
theorem r_parseLoop (hd : 8 ≤ d) (hv : v ≤ 1) (hκ : ∀ q, κ q < 62) (hν : ∀ t, κ t = 20 → ν t < 10000) (hPm : ∀ i j, i < j → P i < P j) {l1 : Int} : ∀ (k t : Nat) (x : Dr) (M : AmM), 401 ≤ t + k → rTk κ ν P M → rS v κ P t x M → lfOk κ x.2.2.2 → rPo v κ P (prS κ ν k t x) d l1 (e_X12_read_204 d l1 M) M
  | 0, t, x, M, hk, hT, hS, hl => by
    have h := hS.choose_spec.choose_spec.1.1.1
    exact absurd h (by omega)
  | k + 1, t, x, M, hk, hT, hS, hl => by
    have hp : rPs κ t M := hS.choose_spec.choose_spec.1
    have k21 := kRv (hκ t) (show 21 < 62 by decide) (show kR 21 = 0 by rfl) (by decide)
    unfold prS
    rw [q_X12_read_204, if_pos hp.2.2]
    by_cases hz : κ t = 21
    · rw [if_pos hz, r_isY (k := 0) (by omega) hT hp (by have := k21.2 hz; omega), amCI_s, if_neg (show ¬ (1 : Int) = 0 by decide)]
      exact ⟨M, t, rfl, amSame.refl, hS⟩
    · rw [if_neg hz, r_isN (k := 0) (by omega) hT hp (fun z => hz (k21.1 (by omega))), amCI_s, if_pos (show (0 : Int) = 0 from rfl)]
      have hi := r_stSD (D := d) hd hv hκ hν hPm hT hS
      have hg := stS_g (κ := κ) (ν := ν) hp.1 hl
      revert hi hg
      unfold rO stG
      cases stS κ ν t x with
      | inl y =>
        obtain ⟨c, q⟩ := y
        intro hi _
        obtain ⟨M1, a1, a2, a3⟩ := hi
        have b1 := a3.1
        have b2 := a3.2.1
        rw [a1, amCV_s, q_X12_read_204, if_neg (by omega)]
        exact ⟨M1, rfl, a2, a3⟩
      | inr y =>
        obtain ⟨t1, x1⟩ := y
        intro hi hg
        obtain ⟨M1, a1, a2, a3⟩ := hi
        have ih := r_parseLoop hd hv hκ hν hPm (l1 := l1) k t1 x1 M1 (by have := hg.2.1; omega) (rTk_rP hT a2) a3 hg.2.2
        rw [a1, amCV_s]
        show rPo v κ P (prS κ ν k t1 x1) _ l1 _ M
        revert ih
        unfold rPo
        cases prS κ ν k t1 x1 with
        | inl y =>
          obtain ⟨c, q⟩ := y
          intro ih
          obtain ⟨M2, b1, b2, b3⟩ := ih
          exact ⟨M2, b1, a2.trans b2, b3⟩
        | inr y =>
          intro ih
          obtain ⟨M2, t2, b1, b2, b3⟩ := ih
          exact ⟨M2, t2, b1, a2.trans b2, b3⟩
end RSQ
