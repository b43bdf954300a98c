/-! PURE: the class's units and sums -/
section CEZ
variable {D d t len : Nat} {κ ν : Nat → Nat} {M : AmM}
/-- at TOKEN t, whatever the commands -/
def cPz (κ : Nat → Nat) (t : Nat) (M : AmM) : Prop := (t ≤ 400 ∧ goK κ t) ∧ M 4 0 3 = (t : Int) ∧ M 4 0 4 = ((κ t : Nat) : Int) ∧ M 4 0 6 = 0
theorem cPs.z (h : cPs κ t len M) : cPz κ t M := ⟨⟨h.1.1, h.1.2.1⟩, h.2.1, h.2.2.1, h.2.2.2.1⟩
theorem cPz.s (h : cPz κ t M) (hl : len ≤ t) (h1 : M 1 1 1 = (len : Int)) : cPs κ t len M := ⟨⟨h.1.1, h.1.2, hl⟩, h.2.1, h.2.2.1, h.2.2.2, h1⟩
theorem cPz.mv {M' : AmM} (h : cPz κ t M) (hs : ∀ j, M' 4 0 j = M 4 0 j) : cPz κ t M' := ⟨h.1, (hs 3).trans h.2.1, (hs 4).trans h.2.2.1, (hs 6).trans h.2.2.2⟩
theorem c_takeZ (hD : 2 ≤ D) (hT : cTk κ ν M) {w : Nat} (hw : w ≠ 21 ∧ w ≠ 22) (h : cPz κ t M) : ∃ M', amD amGst D 39 [vR 4 4 0, vI (w : Int)] M = some (vU, M') ∧ amSame fTa M M' ∧ match tkX κ w t with
    | .inl (c, q) => cFt c q M'
    | .inr t1 => cPz κ t1 M' := by
  obtain ⟨d, rfl⟩ := dS hD
  obtain ⟨⟨h0, hg⟩, h3, h4, h6⟩ := h
  rw [n_X4_take, q_X4_take_0, h4]
  unfold tkX
  by_cases hk : κ t = w
  · rw [if_pos (by omega), if_pos hk, h3]
    by_cases h40 : t < 400
    · rw [if_pos (by omega), if_pos h40, w32_n (x := (t : Int) + 1) (n := t + 1) (by omega) (by omega), up_on, c_kindAt (by omega) (by omega), amCI_s]
      have hg1 : goK κ (t + 1) := hg.nx (by omega) (by omega)
      have ek : amUp M 4 0 3 ((t + 1 : Nat) : Int) 115 0 (t + 1) = ((κ (t + 1) : Nat) : Int) := by rw [up_c (by decide)]; exact (hT (t + 1) (by omega) hg1).1
      refine ⟨_, rfl, (amSame.refl.up (by rfl)).up (by rfl), ⟨by omega, hg1⟩, ?_, ?_, ?_⟩
      · rw [up_j (by decide), up_on]
      · rw [up_on, ek]
      · rw [up_j (by decide), up_j (by decide)]; exact h6
    · rw [if_neg (by omega), if_neg h40]
      obtain ⟨M', a1, a2, a3⟩ := c_fail (D := d) (c := 2) (by omega) (by decide) h6 h3
      exact ⟨M', by rw [show (2 : Int) = ((2 : Nat) : Int) from rfl, a1, amCV_s], a2, a3⟩
  · rw [if_neg (by omega), if_neg hk]
    obtain ⟨M', a1, a2, a3⟩ := c_fail (D := d) (c := 1) (by omega) (by decide) h6 h3
    exact ⟨M', by rw [show (1 : Int) = ((1 : Nat) : Int) from rfl, a1, amCV_s], a2, a3⟩
def cSmC (κ ν : Nat → Nat) (D : Nat) (n : Int) (f : Nat → Pr (Nat × Ex)) : Prop := ∀ (t len : Nat) (M : AmM), cTk κ ν M → cPs κ t len M → cOut κ len (f t) (amD amGst D 36 [vR 4 4 0, vI n] M) M
theorem c_unitX (hd : 3 ≤ d) (hν : ∀ t, κ t = 20 → ν t < 10000) {n : Int} (hn : 0 ≤ n ∧ n ≤ 6) {sub : Option (Nat → Pr (Nat × Ex))} (h0 : sub = none → ¬ n < 6) (h1 : ∀ f, sub = some f → n < 6 ∧ cSmC κ ν d (n + 1) f) : cUnC κ ν (d + 1) n (unX κ ν sub) := fun t len M hT h => by
  have h4 := h.2.2.1
  have hlt := h.1
  rw [n_X4_readUnit, q_X4_readUnit_0, h4]
  unfold unX
  by_cases h20 : κ t = 20
  · have hv := hν t h20
    have h116 := (hT t hlt.1 hlt.2.1).2 (by omega)
    rw [if_pos (show ((κ t : Nat) : Int) = 20 by omega), if_pos h20, h.2.1, c_valueAt (by omega) hlt.1, amCL_s, h116, w32_n (x := ((ν t : Nat) : Int)) (n := ν t) rfl (by omega), c_emit (by omega) (by omega) h.2.2.2.2 (by omega) (by omega), amCV_s]
    have s1 : amSame (fEx len) M (amUp (amUp M 100 1 len (1 + 8 * ((ν t : Nat) : Int))) 1 1 1 ((len + 1 : Nat) : Int)) := em_fEx (Nat.le_refl len)
    have hz : cPz κ t (amUp (amUp M 100 1 len (1 + 8 * ((ν t : Nat) : Int))) 1 1 1 ((len + 1 : Nat) : Int)) := h.z.mv fun j => by rw [up_c (by decide), up_c (by decide)]
    obtain ⟨M2, a1, a2, a3⟩ := c_takeZ (D := d) (w := 20) (by omega) (hT.pa (s1.mono fEx_fPa)) (by decide) hz
    have ek : tkX κ 20 t = if t < 400 then .inr (t + 1) else .inl (2, t) := if_pos h20
    rw [ek] at a3
    rw [show ((20 : Nat) : Int) = 20 from rfl] at a1
    rw [a1, amCV_s]
    by_cases h40 : t < 400
    · rw [if_pos h40] at a3 ⊢
      refine ⟨M2, rfl, s1.trans (a2.mono fTa_fEx), a3.s (by show len + 1 ≤ t + 1; omega) ?_, ?_, trivial⟩
      · rw [a2 1 1 1 (by rfl), up_on]; rfl
      · rw [a2 100 1 len (by rfl), up_c (by decide), up_on]
        rfl
    · rw [if_neg h40] at a3 ⊢
      exact ⟨M2, rfl, (s1.mono fEx_fPa).trans (a2.mono fTa_fPa), a3⟩
  · rw [if_neg (show ¬ ((κ t : Nat) : Int) = 20 by omega), if_neg h20]
    by_cases hv : 12 ≤ κ t ∧ κ t ≤ 18
    · rw [if_neg (show ¬ ((κ t : Nat) : Int) < 12 by omega), if_neg (show ¬ (18 : Int) < ((κ t : Nat) : Int) by omega), if_pos hv]
      obtain ⟨M2, a1, a2, a3⟩ := c_takeZ (D := d) (w := κ t) (by omega) hT (by omega) h.z
      have ek : tkX κ (κ t) t = if t < 400 then .inr (t + 1) else .inl (2, t) := if_pos rfl
      rw [ek] at a3
      rw [a1, amCV_s, w32_n (x := ((κ t : Nat) : Int) - 12) (n := κ t - 12) (by omega) (by omega)]
      by_cases h40 : t < 400
      · rw [if_pos h40] at a3 ⊢
        have e111 : M2 1 1 1 = (len : Int) := (a2 1 1 1 (by rfl)).trans h.2.2.2.2
        rw [c_emit (by omega) (by omega) e111 (by omega) (by omega), amCV_s]
        refine ⟨_, rfl, (a2.mono fTa_fEx).trans (em_fEx (Nat.le_refl len)), (a3.mv fun j => by rw [up_c (by decide), up_c (by decide)]).s (by show len + 1 ≤ t + 1; omega) up_on, ?_, trivial⟩
        rw [up_c (by decide), up_on]
        rfl
      · rw [if_neg h40] at a3 ⊢
        obtain ⟨M3, b1, b2⟩ := c_emitF (D := d) (M := M2) (k := 2) (v := ((κ t - 12 : Nat) : Int)) (by omega)
        exact ⟨M3, by rw [b1, amCV_s], (a2.mono fTa_fPa).trans (b2.mono fEm_fPa), a3.em b2⟩
    · have e90 : (if ((κ t : Nat) : Int) < 12 then e_X4_readUnit_90 d n (w32 (((κ t : Nat) : Int) - 12)) M else if (18 : Int) < ((κ t : Nat) : Int) then e_X4_readUnit_90 d n (w32 (((κ t : Nat) : Int) - 12)) M else amCV (amD amGst d 39 [vR 4 4 0, vI ((κ t : Nat) : Int)] M) fun M4 => amCV (amD amGst d 14 [vR 1 1 1, vI 2, vI (w32 (((κ t : Nat) : Int) - 12))] M4) fun M5 => some (vU, M5)) = e_X4_readUnit_90 d n (w32 (((κ t : Nat) : Int) - 12)) M := by
        by_cases h12 : ((κ t : Nat) : Int) < 12
        · rw [if_pos h12]
        · rw [if_neg h12, if_pos (by omega)]
      rw [e90, if_neg hv, q_X4_readUnit_90, h4]
      by_cases h40 : κ t = 40
      · rw [if_pos (show ((κ t : Nat) : Int) = 40 by omega), if_pos h40]
        cases sub with
        | none =>
          obtain ⟨M2, a1, a2, a3⟩ := c_fail (D := d) (c := 2) (by omega) (by decide) h.2.2.2.1 h.2.1
          rw [if_neg (h0 rfl), show (2 : Int) = ((2 : Nat) : Int) from rfl, a1, amCV_s]
          exact ⟨M2, rfl, a2.mono fTa_fPa, a3⟩
        | some f =>
          obtain ⟨hn6, hC⟩ := h1 f rfl
          obtain ⟨M2, a1, a2, a3⟩ := c_take (D := d) (w := 40) (by omega) hT (by decide) h
          have ek : tkX κ 40 t = if t < 400 then .inr (t + 1) else .inl (2, t) := if_pos h40
          rw [ek] at a3
          rw [show ((40 : Nat) : Int) = 40 from rfl] at a1
          rw [if_pos hn6, a1, amCV_s, w32_id (x := n + 1) (by omega) (by omega)]
          show cOut κ len (if t < 400 then (match f (t + 1) with
            | .inl x => .inl x
            | .inr (t1, e) => (match tkX κ 41 t1 with
              | .inl x => .inl x
              | .inr t2 => .inr (t2, e))) else .inl (2, t)) _ M
          by_cases h44 : t < 400
          · rw [if_pos h44] at a3 ⊢
            have hT2 := hT.pa (a2.mono fTa_fPa)
            have hs := hC (t + 1) len M2 hT2 a3
            cases hf : f (t + 1) with
            | inl x =>
              obtain ⟨c, q⟩ := x
              rw [hf] at hs
              obtain ⟨M3, b1, b2, b3⟩ := hs
              rw [b1, amCV_s, c_takeF (by omega) (by decide) b3, amCV_s]
              exact ⟨M3, rfl, (a2.mono fTa_fPa).trans b2, b3⟩
            | inr x =>
              obtain ⟨t1, e⟩ := x
              rw [hf] at hs
              obtain ⟨M3, b1, b2, b3, b4⟩ := hs
              obtain ⟨M4, c1, c2, c3⟩ := c_take (D := d) (w := 41) (by omega) (hT2.pa (b2.mono fEx_fPa)) (by decide) b3
              rw [show ((41 : Nat) : Int) = 41 from rfl] at c1
              rw [b1, amCV_s, c1, amCV_s]
              show cOut κ len (match tkX κ 41 t1 with
                | .inl x => .inl x
                | .inr t2 => .inr (t2, e)) _ M
              have s4 : amSame (fEx len) M M4 := ((a2.mono fTa_fEx).trans b2).trans (c2.mono fTa_fEx)
              cases hk : tkX κ 41 t1 with
              | inl x =>
                obtain ⟨c, q⟩ := x
                rw [hk] at c3
                exact ⟨M4, rfl, s4.mono fEx_fPa, c3⟩
              | inr t2 =>
                rw [hk] at c3
                exact ⟨M4, rfl, s4, c3, cAt2_mv e len b4 fun j _ _ => c2 100 1 j (by rfl)⟩
          · rw [if_neg h44] at a3 ⊢
            obtain ⟨M3, b1, b2, b3⟩ := c_sumF (D := d) (n := n + 1) (by omega) a3
            rw [b1, amCV_s, c_takeF (by omega) (by decide) b3, amCV_s]
            exact ⟨M3, rfl, (a2.mono fTa_fPa).trans (b2.mono fEm_fPa), b3⟩
      · rw [if_neg (show ¬ ((κ t : Nat) : Int) = 40 by omega), if_neg h40]
        obtain ⟨M2, a1, a2, a3⟩ := c_fail (D := d) (c := 1) (by omega) (by decide) h.2.2.2.1 h.2.1
        rw [show (1 : Int) = ((1 : Nat) : Int) from rfl, a1, amCV_s]
        exact ⟨M2, rfl, a2.mono fTa_fPa, a3⟩
theorem c_sumX (hd : 3 ≤ d) {n : Int} {un : Nat → Pr (Nat × Ex)} (hC : cUnC κ ν d n un) (hG : ∀ t t1 e, un t = .inr (t1, e) → t < t1 ∧ e.length ≤ t1 - t) : cSmC κ ν (d + 1) n (smB κ un) := fun t len M hT h => by
  rw [n_X4_readSum, q_X4_readSum_0]
  have hu := hC t len M hT h
  unfold smB
  cases hun : un t with
  | inl x =>
    obtain ⟨c, q⟩ := x
    rw [hun] at hu
    obtain ⟨M1, a1, a2, a3⟩ := hu
    obtain ⟨M2, b1, b2, b3⟩ := c_9F (d := d) (n := n) (l2 := -1) (l3 := 0) (u4 := vU) (u5 := vU) (by omega) a3
    rw [a1, amCV_s]
    exact ⟨M2, b1, a2.trans (b2.mono fEm_fPa), b3⟩
  | inr x =>
    obtain ⟨t1, e⟩ := x
    rw [hun] at hu
    obtain ⟨M1, a1, a2, a3, a4⟩ := hu
    obtain ⟨g1, g2⟩ := hG t t1 e hun
    have hlen := h.1.2.2
    rw [a1, amCV_s]
    have hl := c_smLoop hd hC hG (l := len) 401 t1 e 0 0 vU vU M1 (by omega) (by omega) (Or.inl rfl) (by rw [if_pos rfl]; omega) (hT.pa (a2.mono fEx_fPa)) a3 a4
    revert hl
    show cOut κ len (lpX κ un 401 t1 e 0) (e_X4_readSum_9 d n (-1) 0 vU vU M1) M1 → cOut κ len (lpX κ un 401 t1 e 0) (e_X4_readSum_9 d n (-1) 0 vU vU M1) M
    cases lpX κ un 401 t1 e 0 with
    | inl x =>
      obtain ⟨c, q⟩ := x
      intro hl
      obtain ⟨M2, b1, b2, b3⟩ := hl
      exact ⟨M2, b1, (a2.mono fEx_fPa).trans b2, b3⟩
    | inr x =>
      obtain ⟨t2, e2⟩ := x
      intro hl
      obtain ⟨M2, b1, b2, b3⟩ := hl
      exact ⟨M2, b1, a2.trans b2, b3⟩
theorem c_sums (hν : ∀ t, κ t = 20 → ν t < 10000) : ∀ (m D : Nat), m ≤ 6 → 2 * m + 6 ≤ D → cSmC κ ν D (((6 - m : Nat) : Int)) (smX κ ν m)
  | m, 0, _, hD => by omega
  | m, 1, _, hD => by omega
  | 0, d + 2, hm, hD => by
    have hu : cUnC κ ν (d + 1) 6 (unX κ ν none) := c_unitX (by omega) hν (by omega) (fun _ => by omega) (fun f hf => by cases hf)
    exact c_sumX (by omega) hu fun t t1 e hq => by
      have := exGood_un hν 0 t t1 e hq
      exact ⟨this.1, this.2.2.1⟩
  | m + 1, d + 2, hm, hD => by
    have ih := c_sums hν m d (by omega) (by omega)
    have hu : cUnC κ ν (d + 1) (((6 - (m + 1) : Nat) : Int)) (unX κ ν (some (smX κ ν m))) := c_unitX (by omega) hν (by omega) (fun q => by cases q) (fun f hf => by
      cases hf
      refine ⟨by omega, ?_⟩
      rw [show ((6 - (m + 1) : Nat) : Int) + 1 = ((6 - m : Nat) : Int) by omega]
      exact ih)
    exact c_sumX (by omega) hu fun t t1 e hq => by
      have := exGood_un hν (m + 1) t t1 e hq
      exact ⟨this.1, this.2.2.1⟩
/-- an expression of a law -/
theorem c_expr (hν : ∀ t, κ t = 20 → ν t < 10000) (hD : 18 ≤ D) : cSmC κ ν D 0 (smX κ ν 6) := c_sums hν 6 D (by omega) (by omega)
end CEZ
