/-! PURE: odds, asked of both -/
section OD2
variable {D d v : Nat} {τ : Tx} {ρ : Rw} {M : AmM} {N : Nat}
theorem c_areOn2 (hD : 4 ≤ D) (hτ : tOk τ) (hT : cTx 0 τ M) (hS : cSc τ 0 ρ M) {s : Int} (hs : -2147483648 ≤ s ∧ s < 2147483648) : ∃ x : Int, amD amGst D 140 [vR 11 11 0, vI s] M = some (vI x, M) := by
  by_cases h : onSet τ ρ s
  · exact ⟨1, c_areOnY hD hτ hT hS hs h⟩
  · exact ⟨0, c_areOnN hD hτ hT hS hs h⟩
theorem c_odds56 (hd : 4 ≤ d) (hτ : tOk τ) (hT : cTx 0 τ M) (hS : cSc τ 0 ρ M) {s r n a b x : Int} (hs : -2147483648 ≤ s ∧ s < 2147483648) : e_X11_odds_56 d s r n a b x M = some (vL (-1), M) := by
  obtain ⟨y, hy⟩ := c_areOn2 (D := d) (by omega) hτ hT hS hs
  rw [q_X11_odds_56, hy, amCI_s]
  by_cases h1 : y = 0
  · rw [if_pos h1]
  · rw [if_neg h1]
    by_cases h2 : x = 0
    · rw [if_pos h2]
    · rw [if_neg h2, if_pos rfl]
theorem c_odds24 (hd : 4 ≤ d) (hτ : tOk τ) (hT : cTx 0 τ M) (hS : cSc τ 0 ρ M) {s r n a b : Int} (hs : -2147483648 ≤ s ∧ s < 2147483648) : e_X11_odds_24 d s r n a b M = some (vL (-1), M) := by
  obtain ⟨y, hy⟩ := c_areOn2 (D := d) (by omega) hτ hT hS hs
  rw [q_X11_odds_24]
  by_cases h1 : b < 1
  · rw [if_pos h1]; exact c_odds56 hd hτ hT hS hs
  rw [if_neg h1]
  by_cases h2 : 9 < b
  · rw [if_pos h2]; exact c_odds56 hd hτ hT hS hs
  rw [if_neg h2]
  by_cases h3 : a < 0
  · rw [if_pos h3]; exact c_odds56 hd hτ hT hS hs
  rw [if_neg h3]
  by_cases h4 : b < a
  · rw [if_pos h4]; exact c_odds56 hd hτ hT hS hs
  rw [if_neg h4, hy, amCI_s]
  by_cases h5 : y = 0
  · rw [if_pos h5]
  · rw [if_neg h5, if_pos rfl]
def oddOk (τ : Tx) (ρ : Rw) (s r n a b : Int) : Prop := onSet τ ρ s ∧ (0 ≤ r ∧ r ≤ 9) ∧ (0 ≤ n ∧ n ≤ 12) ∧ (1 ≤ b ∧ b ≤ 9) ∧ 0 ≤ a ∧ a ≤ b
theorem c_oddsN (hD : 5 ≤ D) (hτ : tOk τ) (hT : cTx 0 τ M) (hS : cSc τ 0 ρ M) {s r n a b : Int} (hs : -2147483648 ≤ s ∧ s < 2147483648) (h : ¬ oddOk τ ρ s r n a b) : amD amGst D 123 [vR 11 11 0, vI s, vI r, vI n, vI a, vI b] M = some (vL (-1), M) := by
  obtain ⟨d, rfl⟩ := dS hD
  rw [n_X11_odds, q_X11_odds_0]
  by_cases h1 : r < 0
  · rw [if_pos h1]; exact c_odds24 (by omega) hτ hT hS hs
  rw [if_neg h1]
  by_cases h2 : 9 < r
  · rw [if_pos h2]; exact c_odds24 (by omega) hτ hT hS hs
  rw [if_neg h2]
  by_cases h3 : n < 0
  · rw [if_pos h3]; exact c_odds24 (by omega) hτ hT hS hs
  rw [if_neg h3]
  by_cases h4 : 12 < n
  · rw [if_pos h4]; exact c_odds24 (by omega) hτ hT hS hs
  rw [if_neg h4]
  by_cases k1 : b < 1
  · rw [if_pos k1]; exact c_odds56 (by omega) hτ hT hS hs
  rw [if_neg k1]
  by_cases k2 : 9 < b
  · rw [if_pos k2]; exact c_odds56 (by omega) hτ hT hS hs
  rw [if_neg k2]
  by_cases k3 : a < 0
  · rw [if_pos k3]; exact c_odds56 (by omega) hτ hT hS hs
  rw [if_neg k3]
  by_cases k4 : b < a
  · rw [if_pos k4]; exact c_odds56 (by omega) hτ hT hS hs
  rw [if_neg k4, c_areOnN (by omega) hτ hT hS hs (fun q => h ⟨q, by omega, by omega, by omega, by omega, by omega⟩), amCI_s, if_pos rfl]
theorem c_odds (hD : 8 ≤ D) (hτ : tOk τ) (hN5 : N ≤ 1000) (hN : sOk τ N ρ) (h66 : ∀ p, p < tP τ → w32 (ρ (66 + p)) = ρ (66 + p)) (hT : cTx 0 τ M) (hS : cSc τ 0 ρ M) {s : Int} (h : onSet τ ρ s) {r n a c : Nat} (hr : r ≤ 9) (hn : n ≤ 12) (hb : 1 ≤ a + c ∧ a + c ≤ 9) : ∃ M', amD amGst D 123 [vR 11 11 0, vI s, vI r, vI n, vI a, vI ((a + c : Nat) : Int)] M = some (vL (sumS (oddF τ ρ s.toNat.testBit r n a c) (n + 1)), M') ∧ amSame fBe M M' := by
  obtain ⟨d, rfl⟩ := dS hD
  obtain ⟨d, rfl⟩ := dS (show 6 + 1 ≤ d by omega)
  have hP := hτ.2.2.2.2.2.2.1
  have hlt := onSet_lt hP h
  have h83 := hN.2.2.2.2
  obtain ⟨M', m1, m2⟩ := c_dryLoop (d := d) (by omega) hτ (by omega) hlt (bitHi h) (thrH_of hN h66 h) hr hn (a := a) (c := c) (by omega) (by omega) (n + 1) 0 vU M (by omega) hT hS
  refine ⟨M', ?_, m2⟩
  have m1 : e_X0_dryEnoughWays_6 d 0 s (r : Int) (n : Int) (a : Int) ((a + c : Nat) : Int) 0 0 vU M = some (vL (sumS (oddF τ ρ s.toNat.testBit r n a c) (n + 1)), M') := m1
  rw [n_X11_odds, q_X11_odds_0, if_neg (show ¬ (r : Int) < 0 by omega), if_neg (show ¬ 9 < (r : Int) by omega), if_neg (show ¬ (n : Int) < 0 by omega), if_neg (show ¬ 12 < (n : Int) by omega), if_neg (show ¬ ((a + c : Nat) : Int) < 1 by omega), if_neg (show ¬ 9 < ((a + c : Nat) : Int) by omega), if_neg (show ¬ (a : Int) < 0 by omega), if_neg (show ¬ ((a + c : Nat) : Int) < (a : Int) by omega), c_areOnY (by omega) hτ hT hS (by omega) h, amCI_s, if_neg (show ¬ (1 : Int) = 0 by decide), if_neg (show ¬ (1 : Int) = 0 by decide), if_neg (show ¬ (1 : Int) = 0 by decide), n_X0_dryEnoughWays, q_X0_dryEnoughWays_0, m1, amCL_s]
theorem r_oddsN (hD : 3 ≤ D) (hτ : tOk τ) (hT : rTx v τ M) (hS : rNow ρ M) {s r n a b : Int} (h : ¬ oddOk τ ρ s r n a b) : amD amGst D 223 [vR 12 12 0, vI s, vI r, vI n, vI a, vI b] M = some (vL (-1), M) := by
  obtain ⟨d, rfl⟩ := dS hD
  rw [n_X12_odds, q_X12_odds_0]
  by_cases h1 : onSet τ ρ s
  · rw [r_isSetY (by omega) hτ hT hS h1, amCI_s, if_neg (show ¬ (1 : Int) = 0 by decide)]
    by_cases h2 : 0 ≤ r ∧ r ≤ 9
    · rw [r_inY (by omega) h2, amCI_s, if_neg (show ¬ (1 : Int) = 0 by decide)]
      by_cases h3 : 0 ≤ n ∧ n ≤ 12
      · rw [r_inY (by omega) h3, amCI_s, if_neg (show ¬ (1 : Int) = 0 by decide)]
        by_cases h4 : 1 ≤ b ∧ b ≤ 9
        · rw [r_inY (by omega) h4, amCI_s, if_neg (show ¬ (1 : Int) = 0 by decide), r_inN (by omega) (fun q => h ⟨h1, h2, h3, h4, q⟩), amCI_s, if_pos (show (0 : Int) = 0 from rfl)]
        · rw [r_inN (by omega) h4, amCI_s, if_pos (show (0 : Int) = 0 from rfl)]
      · rw [r_inN (by omega) h3, amCI_s, if_pos (show (0 : Int) = 0 from rfl)]
    · rw [r_inN (by omega) h2, amCI_s, if_pos (show (0 : Int) = 0 from rfl)]
  · rw [r_isSetN (by omega) hτ hT hS h1, amCI_s, if_pos (show (0 : Int) = 0 from rfl)]
/-- the ways, multiplied one by one -/
theorem r_waysL {s r l6 u6 : Int} {n w a c q : Nat} (hq : q ≤ 924) (hn : n ≤ 12) (hw : w ≤ n) (hac : a + c ≤ 9) : ∀ (m i x y : Nat), i + m = n → x = min i w → y = i - x → e_X12_odds_163 d s r (n : Int) (a : Int) ((a + c : Nat) : Int) l6 (w : Int) ((q * a ^ x * c ^ y : Nat) : Int) (i : Int) M = e_X12_odds_60 d s r (n : Int) (a : Int) ((a + c : Nat) : Int) (w64 (l6 + ((q * a ^ w * c ^ (n - w) : Nat) : Int))) (w32 ((w : Int) + 1)) (vL ((q * a ^ w * c ^ (n - w) : Nat) : Int)) (vI (n : Int)) M
  | 0, i, x, y, h, hx, hy => by
    have h : i = n := h
    subst h
    have hx : x = w := by omega
    subst hx
    subst hy
    rw [q_X12_odds_163, if_neg (by omega)]
  | m + 1, i, x, y, h, hx, hy => by
    rw [q_X12_odds_163, if_pos (show (i : Int) < (n : Int) by omega), w32_n (x := (i : Int) + 1) (n := i + 1) (by omega) (by omega)]
    by_cases hiw : i < w
    · have ih := r_waysL hq hn hw hac (s := s) (r := r) (l6 := l6) (u6 := u6) m (i + 1) (x + 1) y (by omega) (by omega) (by omega)
      have e1 : ((q * a ^ (x + 1) * c ^ y : Nat) : Int) = ((q * a ^ x * c ^ y : Nat) : Int) * (a : Int) := by
        rw [← Int.natCast_mul, Nat.pow_succ]
        congr 1
        rw [← Nat.mul_assoc q, Nat.mul_right_comm (q * a ^ x) a (c ^ y)]
      have hb : q * a ^ (x + 1) * c ^ y ≤ 260964891708444 := wayB hq (by omega) (by omega) (by omega)
      have hx2 : 0 ≤ ((q * a ^ x * c ^ y : Nat) : Int) * (a : Int) ∧ ((q * a ^ x * c ^ y : Nat) : Int) * (a : Int) ≤ 260964891708444 := by
        rw [← e1]
        generalize q * a ^ (x + 1) * c ^ y = z at hb ⊢
        omega
      rw [e1] at ih
      rw [if_pos (by omega), w64_id (by omega) (by omega)]
      exact ih
    · have ih := r_waysL hq hn hw hac (s := s) (r := r) (l6 := l6) (u6 := u6) m (i + 1) x (y + 1) (by omega) (by omega) (by omega)
      have e1 : ((q * a ^ x * c ^ (y + 1) : Nat) : Int) = ((q * a ^ x * c ^ y : Nat) : Int) * (c : Int) := by
        rw [← Int.natCast_mul, Nat.pow_succ, Nat.mul_assoc (q * a ^ x)]
      have hb : q * a ^ x * c ^ (y + 1) ≤ 260964891708444 := wayB hq (by omega) (by omega) (by omega)
      have hx2 : 0 ≤ ((q * a ^ x * c ^ y : Nat) : Int) * (c : Int) ∧ ((q * a ^ x * c ^ y : Nat) : Int) * (c : Int) ≤ 260964891708444 := by
        rw [← e1]
        generalize q * a ^ x * c ^ (y + 1) = z at hb ⊢
        omega
      rw [e1] at ih
      rw [if_neg (by omega), w32_n (x := ((a + c : Nat) : Int) - (a : Int)) (n := c) (by omega) (by omega), w64_id (by omega) (by omega)]
      exact ih
/-- the rain, and then the last of it: the row to walk over -/
theorem r_oddRain (hτ : tOk τ) {s r a b l6 : Int} {n w wr : Nat} (hr : rOk τ ρ) (h83 : 0 ≤ ρ 83 ∧ ρ 83 ≤ 1000000) (hn : n ≤ 12) (hwr : w32 ((w : Int) * r) = (wr : Int)) (hwr2 : wr ≤ 1000) (u : AmV) : ∀ (k m : Nat) (M : AmM), m + k = tN τ → rTx v τ M → rRow (rnR (wr : Int) ρ m) M → ∃ M', e_X12_odds_73 d s r (n : Int) a b l6 (w : Int) ((m + 1 : Nat) : Int) u M = (amCI (amD amGst d 220 [vR 12 12 0, vI s] M') fun v1 M1 => if v1 = 0 then (e_X12_odds_60 d s r (n : Int) a b l6 (w32 ((w : Int) + 1)) (vI ((tN τ + 1 : Nat) : Int)) u M1) else (amCL (amD amGst d 222 [vI (n : Int), vI (w : Int)] M1) fun v2 M2 => e_X12_odds_163 d s r (n : Int) a b l6 (w : Int) v2 0 M2)) ∧ rRow (odR τ ρ (wr : Int) n) M' ∧ amSame (fun c _ _ => c == 160) M M'
  | 0, m, M, h, hT, hR => by
    have h : m = tN τ := h
    have hv := hT.1
    have hn' := hτ.1
    have e : ((v : Nat) : Int).toNat = v := rfl
    have h83' := hR 83 (by omega)
    rw [rnR_hi (by omega)] at h83'
    have e83 : (83 : Int).toNat = 83 := rfl
    refine ⟨amUp M 160 0 83 (ρ 83 + (n : Int)), ?_, fun j hj => ?_, amSame.refl.up (by rfl)⟩
    · rw [q_X12_odds_73, hT.2.1, e, hT.2.2.1, if_pos (show (0 : Int) ≤ (v : Int) ∧ (v : Int) < 2 by omega), if_pos (show ((tN τ : Nat) : Int) < ((m + 1 : Nat) : Int) by omega), if_pos (show (0 : Int) ≤ 83 ∧ (83 : Int) < 100 by omega), if_pos (show (0 : Int) ≤ 83 ∧ (83 : Int) < 100 by omega), h83', w32_id (x := ρ 83 + (n : Int)) (by omega) (by omega), h]
    · rw [up_at]
      unfold odR
      by_cases hj2 : j = 83
      · rw [if_pos hj2, if_pos hj2]
      · rw [if_neg hj2, if_neg hj2, hR j hj, h]
  | k + 1, m, M, h, hT, hR => by
    have hv := hT.1
    have hn' := hτ.1
    have e : ((v : Nat) : Int).toNat = v := rfl
    have e1 : (((m + 1 : Nat) : Int)).toNat = m + 1 := rfl
    have h1 := hR (m + 1) (by omega)
    rw [rnR_nx] at h1
    have b1 := hr (m + 1) (by omega) (by omega)
    have b2 := hτ.2.1 (m + 1) (by omega) (by omega)
    have nx : ∀ x : Int, x = (if ρ (m + 1) < (wr : Int) then 0 else ρ (m + 1) - (wr : Int)) → ∃ M', e_X12_odds_73 d s r (n : Int) a b l6 (w : Int) ((m + 1 + 1 : Nat) : Int) u (amUp M 160 0 (m + 1) x) = (amCI (amD amGst d 220 [vR 12 12 0, vI s] M') fun v1 M1 => if v1 = 0 then (e_X12_odds_60 d s r (n : Int) a b l6 (w32 ((w : Int) + 1)) (vI ((tN τ + 1 : Nat) : Int)) u M1) else (amCL (amD amGst d 222 [vI (n : Int), vI (w : Int)] M1) fun v2 M2 => e_X12_odds_163 d s r (n : Int) a b l6 (w : Int) v2 0 M2)) ∧ rRow (odR τ ρ (wr : Int) n) M' ∧ amSame (fun c _ _ => c == 160) M M' := fun x hx => by
      obtain ⟨M', a1, a2, a3⟩ := r_oddRain hτ hr h83 hn hwr hwr2 u k (m + 1) (amUp M 160 0 (m + 1) x) (by omega) (hT.ro (amSame.refl.up (by rfl))) (fun j hj => by
        rw [rnR_s, up_at]
        by_cases hj1 : j = m + 1
        · subst hj1; rw [if_pos rfl, rUp_on, hx]
        · rw [if_neg hj1, rUp_ne hj1]; exact hR j hj)
      exact ⟨M', a1, a2, (amSame.refl.up (by rfl)).trans a3⟩
    rw [q_X12_odds_73, hT.2.1, e, e1, hT.2.2.1, if_pos (show (0 : Int) ≤ (v : Int) ∧ (v : Int) < 2 by omega), if_neg (show ¬ ((tN τ : Nat) : Int) < ((m + 1 : Nat) : Int) by omega), if_pos (show (0 : Int) ≤ ((m + 1 : Nat) : Int) ∧ ((m + 1 : Nat) : Int) < 100 by omega), hwr, h1]
    clear hwr
    rw [w32_n (x := ((m + 1 : Nat) : Int) + 1) (n := m + 1 + 1) (by omega) (by omega)]
    by_cases hlt : (wr : Int) < ρ (m + 1)
    · rw [if_pos hlt, if_pos (show (0 : Int) ≤ ((m + 1 : Nat) : Int) ∧ ((m + 1 : Nat) : Int) < 100 by omega), if_pos (show (0 : Int) ≤ ((m + 1 : Nat) : Int) ∧ ((m + 1 : Nat) : Int) < 100 by omega), w32_id (x := ρ (m + 1) - (wr : Int)) (by omega) (by omega)]
      exact nx _ (by rw [if_neg (by omega)])
    · rw [if_neg hlt, if_pos (show (0 : Int) ≤ ((m + 1 : Nat) : Int) ∧ ((m + 1 : Nat) : Int) < 100 by omega)]
      exact nx _ (by split <;> omega)
end OD2
