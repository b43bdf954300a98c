/-! PURE: the law's loop, whole -/
theorem law_go {d L : Nat} (hD : 24 ≤ d) (hLL : L ≤ 3072) : ∀ (m i N : Nat) (M : AmM), L ≤ i + m → 6 * N ≤ i → i ≤ L + 6 → jI N M → (M 90 1 0).toNat = L → (∀ j, -2147483648 ≤ M 90 0 j ∧ M 90 0 j < 2147483648) → ∃ M', e_L_law_18 d (i : Int) M = some (vI 1, M')
  | m, i, N, M, hm, hN6, hi6, hI, hL, hs => by
    have ew : w32 ((L : Int) - 6) = (L : Int) - 6 := by unfold w32; omega
    rw [q_L_law_18, hL, ew]
    by_cases h6 : (L : Int) - 6 < (i : Int)
    · rw [if_pos h6]; exact ⟨M, rfl⟩
    rw [if_neg h6, if_pos (show (0 : Int) ≤ (i : Int) ∧ (i : Int) < (L : Int) by omega), tn_cast]
    rw [← hL]
    have hi : i + 6 ≤ L := by omega
    have hN5 : N ≤ 1000 := by omega
    have ih : ∀ M2, jI (N + 1) M2 → (∀ s j, M2 90 s j = M 90 s j) → ∃ M', e_L_law_18 d (w32 ((i : Int) + 6)) M2 = some (vI 1, M') := fun M2 hI2 h90 => by
      rw [show w32 ((i : Int) + 6) = ((i + 6 : Nat) : Int) from w32_n (by omega) (by omega)]
      match m, hm with
      | 0, hm => exact absurd hm (by omega)
      | m + 1, hm => exact law_go hD hLL m (i + 6) (N + 1) M2 (by omega) (by omega) (by omega) hI2 (by rw [h90]; exact hL) (fun j => by rw [h90]; exact hs j)
    have hI0 := hI
    obtain ⟨τ, ρ, P, H, L0, B, k, S, T, f, v, hP, hK, hM, hR⟩ := hI
    by_cases c0 : bAnd (M 90 0 i) 31 = 0
    · rw [if_pos c0]; exact ll5 (j_feed hD hP hK hM hR) hL hi hLL ih
    rw [if_neg c0]
    by_cases c1 : bAnd (M 90 0 i) 31 = 1
    · rw [if_pos c1]; exact ll1 (j_back hD hP hK hM hR) hL hi hLL ih
    rw [if_neg c1]
    by_cases c2 : bAnd (M 90 0 i) 31 = 2
    · rw [if_pos c2]; exact ll0 (j_read hD hP hK hM hR) hL hi hLL ih
    rw [if_neg c2]
    by_cases c3 : bAnd (M 90 0 i) 31 = 3
    · rw [if_pos c3]; exact ll0 (j_place hD hP hK hM hR) hL hi hLL ih
    rw [if_neg c3]
    by_cases c4 : bAnd (M 90 0 i) 31 = 4
    · rw [if_pos c4]; exact ll2 (j_step hD hP hK hM hR) hL hi hLL ih
    rw [if_neg c4]
    by_cases c5 : bAnd (M 90 0 i) 31 = 5
    · rw [if_pos c5]; exact ll2 (j_pilgrim hD hP hK hM hR) hL hi hLL ih
    rw [if_neg c5]
    by_cases c6 : bAnd (M 90 0 i) 31 = 6
    · rw [if_pos c6]; exact llW (fun up hup => j_wear hD hP hK hM hR hup) hL hi hLL ih
    rw [if_neg c6]
    by_cases c7 : bAnd (M 90 0 i) 31 = 7
    · rw [if_pos c7]; exact ll1 (j_go hD hP hK hM hR) hL hi hLL ih
    rw [if_neg c7]
    by_cases c8 : bAnd (M 90 0 i) 31 = 8
    · rw [if_pos c8]; exact ll2 (j_would hD hP hK hM hR) hL hi hLL ih
    rw [if_neg c8]
    by_cases c9 : bAnd (M 90 0 i) 31 = 9
    · rw [if_pos c9]; exact ll1 (j_night hD hN5 hP hK hM hR) hL hi hLL ih
    rw [if_neg c9]
    by_cases c10 : bAnd (M 90 0 i) 31 = 10
    · rw [if_pos c10]; exact ll2 (j_mend hD hP hK hM hR) hL hi hLL ih
    rw [if_neg c10]
    by_cases c11 : bAnd (M 90 0 i) 31 = 11
    · rw [if_pos c11]; exact ll0 (j_undo hD hP hK hM hR) hL hi hLL ih
    rw [if_neg c11]
    by_cases c12 : bAnd (M 90 0 i) 31 = 12
    · rw [if_pos c12]; exact ll2 (j_order hD hP hK hM hR (hs _)) hL hi hLL ih
    rw [if_neg c12]
    by_cases c13 : bAnd (M 90 0 i) 31 = 13
    · rw [if_pos c13]; exact ll2 (j_orderAt hD hP hK hM hR (hs _)) hL hi hLL ih
    rw [if_neg c13]
    by_cases c14 : bAnd (M 90 0 i) 31 = 14
    · rw [if_pos c14]; exact ll2 (j_need hD hP hK hM hR (hs _)) hL hi hLL ih
    rw [if_neg c14]
    by_cases c15 : bAnd (M 90 0 i) 31 = 15
    · rw [if_pos c15]; exact ll1 (j_bears hD hP hK hM hR (hs _)) hL hi hLL ih
    rw [if_neg c15]
    by_cases c16 : bAnd (M 90 0 i) 31 = 16
    · rw [if_pos c16]; exact llL (j_odds hD hN5 hP hK hM hR (hs _)) hL hi hLL ih
    rw [if_neg c16]
    by_cases c17 : bAnd (M 90 0 i) 31 = 17
    · rw [if_pos c17]; exact ll2 (j_season hD hN5 hP hK hM hR) hL hi hLL ih
    rw [if_neg c17]
    by_cases c18 : bAnd (M 90 0 i) 31 = 18
    · rw [if_pos c18]; exact ll1 (j_rescue hD hP hK hM hR) hL hi hLL ih
    rw [if_neg c18]
    by_cases c19 : bAnd (M 90 0 i) 31 = 19
    · rw [if_pos c19]; exact ll1 (j_bell hD hP hK hM hR) hL hi hLL ih
    rw [if_neg c19]
    by_cases c20 : bAnd (M 90 0 i) 31 = 20
    · rw [if_pos c20]; exact ll0 (j_fair hD hP hK hM hR) hL hi hLL ih
    rw [if_neg c20]
    by_cases c21 : bAnd (M 90 0 i) 31 = 21
    · rw [if_pos c21]; exact ll2 (j_tell hD hP hK hM hR) hL hi hLL ih
    rw [if_neg c21]
    by_cases c22 : bAnd (M 90 0 i) 31 = 22
    · rw [if_pos c22]; exact ll0 (j_forget hD hP hK hM hR) hL hi hLL ih
    rw [if_neg c22]
    by_cases c23 : bAnd (M 90 0 i) 31 = 23
    · rw [if_pos c23]; exact ll1 (j_fits hD hP hK hM hR) hL hi hLL ih
    rw [if_neg c23]
    by_cases c24 : bAnd (M 90 0 i) 31 = 24
    · rw [if_pos c24]; exact ll2 (j_walkers hD hP hK hM hR) hL hi hLL ih
    rw [if_neg c24]
    by_cases c25 : bAnd (M 90 0 i) 31 = 25
    · rw [if_pos c25]; exact llO (fun up _ => j_who hD hP hK hM hR) hL hi hLL ih
    rw [if_neg c25]
    by_cases c26 : bAnd (M 90 0 i) 31 = 26
    · rw [if_pos c26]; exact ll1 (j_hold hD hP hK hM hR) hL hi hLL ih
    rw [if_neg c26]
    by_cases c27 : bAnd (M 90 0 i) 31 = 27
    · rw [if_pos c27]; exact ll1 (j_restore hD hP hK hM hR) hL hi hLL ih
    rw [if_neg c27]
    by_cases c28 : bAnd (M 90 0 i) 31 = 28
    · rw [if_pos c28]; exact ll1 (j_count hD hP hK hM hR) hL hi hLL ih
    rw [if_neg c28]
    exact ih M ⟨τ, ρ, P, H, L0, B, k, S, T, f, v, hP.nx, hK, hM, hR⟩ fun _ _ => rfl
