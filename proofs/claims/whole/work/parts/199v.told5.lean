/-! PURE: the class's fits, walkers, who -/
theorem lsF_get {F : Nat → Bool} {j : Nat} : ∀ (k m : Nat), j < (lsF F m).length → (lsF F (m + k))[j]? = (lsF F m)[j]?
  | 0, m, _ => rfl
  | k + 1, m, h => by
    have ih := lsF_get (F := F) k m h
    have hl : j < (lsF F (m + k)).length := by
      by_cases hl : j < (lsF F (m + k)).length
      · exact hl
      · rw [List.getElem?_eq_none (by omega), List.getElem?_eq_getElem h] at ih
        cases ih
    rw [← ih, show m + (k + 1) = m + k + 1 by omega]
    by_cases hF : F (m + k) = true
    · rw [lsF_T hF, List.getElem?_append_left hl]
    · rw [lsF_F hF]
theorem lsF_new {F : Nat → Bool} {m n : Nat} (hF : F m = true) (h : m < n) : (lsF F n)[(lsF F m).length]? = some m := by
  have e := lsF_get (F := F) (j := (lsF F m).length) (n - (m + 1)) (m + 1) (by rw [lsF_T hF, List.length_append]; exact Nat.lt_succ_self _)
  rw [show m + 1 + (n - (m + 1)) = n by omega] at e
  rw [e, lsF_T hF, List.getElem?_append_right (Nat.le_refl _), Nat.sub_self]
  rfl
theorem bOr_b {a b : Nat} (ha : a < 256) (hb : b < 256) : bOr (a : Int) (b : Int) = ((a ||| b : Nat) : Int) := bOr_n (by omega) (by omega) (by omega) (by omega)
theorem bAnd_b {a b : Nat} (ha : a < 256) (hb : b < 256) : bAnd (a : Int) (b : Int) = ((a &&& b : Nat) : Int) := bAnd_n (by omega) (by omega) (by omega) (by omega)
theorem orL_app {l : List Nat} {x a : Nat} : orL (l ++ [x]) a = orL l a ||| x := by unfold orL; rw [List.foldl_append]; rfl
theorem anL_app {l : List Nat} {x a : Nat} : anL (l ++ [x]) a = anL l a &&& x := by unfold anL; rw [List.foldl_append]; rfl
section TLE
variable {D d v : Nat} {τ : Tx} {ρ : Rw} {M : AmM} {N n r : Nat} {S T : Nat → Int} {K k : Nat}
/-- what the class holds of walkers -/
def cWl (τ : Tx) (M : AmM) : Prop := M 9 0 7 = 0 ∨ (M 9 0 7 = 1 ∧ cWr τ (2 ^ tP τ) M)
def toOk (τ : Tx) (K : Nat) (S : Nat → Int) : Prop := ∀ i, i < K → 1 ≤ S i ∧ S i ≤ tN τ
theorem cTo.tl {M' : AmM} (h : cTo K S T M) (hs : amSame fTl M M') : cTo K S T M' := ⟨h.1, (hs 9 0 5 (by rfl)).trans h.2.1, fun i hi => ⟨(hs 122 0 i (by rfl)).trans (h.2.2 i hi).1, (hs 123 0 i (by rfl)).trans (h.2.2 i hi).2⟩⟩
theorem c_knowsN (hD : 1 ≤ D) (hk : cTo K S T M) {k : Int} (h : ¬ (0 ≤ k ∧ k ≤ (K : Int))) : amD amGst D 87 [vR 9 9 0, vI k] M = some (vI 0, M) := by
  obtain ⟨d, rfl⟩ := dS hD
  rw [n_X9_knows, q_X9_knows_0, hk.2.1]
  by_cases h0 : k < 0
  · rw [if_pos h0]
  · rw [if_neg h0, if_pos (by omega)]
theorem c_knows (hD : 8 ≤ D) (hτ : tOk τ) (hT : cTx 0 τ M) (hk : cTo K S T M) (hW : cWl τ M) (h : k ≤ K) : ∃ M', amD amGst D 87 [vR 9 9 0, vI (k : Int)] M = some (vI 1, M') ∧ amSame fTl M M' ∧ M' 9 0 7 = 1 ∧ cWr τ (2 ^ tP τ) M' := by
  obtain ⟨d, rfl⟩ := dS hD
  rw [n_X9_knows, q_X9_knows_0, hk.2.1, if_neg (by omega), if_neg (by omega)]
  rcases hW with h7 | ⟨h7, hW⟩
  · obtain ⟨M1, a1, a2, a3, a4⟩ := c_walkAll (D := d) (by omega) hτ hT
    exact ⟨M1, by rw [if_pos h7, a1, amCV_s], a2, a4, a3⟩
  · exact ⟨M, by rw [h7, if_neg (show ¬ (1 : Int) = 0 by decide)], amSame.refl, h7, hW⟩
theorem c_fitLoop (hd : 1 ≤ d) (hτ : tOk τ) (hk : cTo K S T M) (hS : toOk τ K S) (hW : cWr τ (2 ^ tP τ) M) {s : Nat} (hs : s < 2 ^ tP τ) (h : k ≤ K) : ∀ (m i : Nat), i + m = k → e_X9_isFitting_2 d (s : Int) (k : Int) (i : Int) M = some (vI (if fitL (wrkS τ s) S T m i = true then 1 else 0), M)
  | 0, i, hi => by
    have hi : i = k := hi
    rw [q_X9_isFitting_2, if_neg (by omega)]
    rfl
  | m + 1, i, hi => by
    have hn := hτ.1
    have h8 := pw8 hτ
    have hK := hk.1
    have hb := hS i (by omega)
    obtain ⟨t1, t2⟩ := hk.2.2 i (by omega)
    have eS : S i = (((S i).toNat : Nat) : Int) := by omega
    have e1 : w32 (((26 * s : Nat) : Int) + S i) = ((26 * s + (S i).toNat : Nat) : Int) := w32_n (by omega) (by omega)
    have ih := c_fitLoop hd hτ hk hS hW hs h m (i + 1) (by omega)
    rw [q_X9_isFitting_2, if_pos (by omega), c_at (n := 30) (by omega) (by decide) (by decide) (by omega) (by omega), amCI_s, tn_cast, t1, w32_n (x := (s : Int) * 26) (n := 26 * s) (by omega) (by omega), e1, c_at (n := 6656) (by omega) (by decide) (by decide) (by omega) (by omega), amCI_s, tn_cast, hW s hs _ (by omega) (by omega), c_at (n := 30) (by omega) (by decide) (by decide) (by omega) (by omega), amCI_s, tn_cast, t2, w32_n (x := (i : Int) + 1) (n := i + 1) (by omega) (by omega)]
    unfold fitL
    by_cases hf : wrkS τ s (S i).toNat = T i
    · rw [if_pos hf, if_pos hf]; exact ih
    · rw [if_neg hf, if_neg hf]; rfl
theorem c_isFit (hD : 2 ≤ D) (hτ : tOk τ) (hk : cTo K S T M) (hS : toOk τ K S) (hW : cWr τ (2 ^ tP τ) M) {s : Nat} (hs : s < 2 ^ tP τ) (h : k ≤ K) : amD amGst D 93 [vR 9 9 0, vI (s : Int), vI (k : Int)] M = some (vI (if fitS τ S T k s = true then 1 else 0), M) := by
  obtain ⟨d, rfl⟩ := dS hD
  rw [n_X9_isFitting, q_X9_isFitting_0]
  exact c_fitLoop (by omega) hτ hk hS hW hs h k 0 (by omega)
theorem c_fittingLoop (hd : 2 ≤ d) (hτ : tOk τ) (hT : cTx 0 τ M) (hk : cTo K S T M) (hS : toOk τ K S) (hW : cWr τ (2 ^ tP τ) M) (h : k ≤ K) : ∀ (m s : Nat), s + m = 2 ^ tP τ → e_X9_fitting_4 d (k : Int) ((lsF (fitS τ S T k) s).length : Int) (s : Int) M = some (vI ((lsF (fitS τ S T k) (2 ^ tP τ)).length : Int), M)
  | 0, s, hs => by
    have hs : s = 2 ^ tP τ := hs
    rw [q_X9_fitting_4, c_sets (by omega) hτ hT, amCI_s, if_neg (by omega), hs]
  | m + 1, s, hs => by
    have h8 := pw8 hτ
    have ih := c_fittingLoop hd hτ hT hk hS hW h m (s + 1) (by omega)
    have hl := lsF_len (F := fitS τ S T k) s
    rw [q_X9_fitting_4, c_sets (by omega) hτ hT, amCI_s, if_pos (by omega), c_isFit (by omega) hτ hk hS hW (by omega) h, amCI_s, w32_n (x := (s : Int) + 1) (n := s + 1) (by omega) (by omega)]
    by_cases hF : fitS τ S T k s = true
    · rw [lsF_T hF, List.length_append] at ih
      rw [if_pos hF, if_neg (show ¬ (1 : Int) = 0 by decide), w32_n (x := ((lsF (fitS τ S T k) s).length : Int) + 1) (n := (lsF (fitS τ S T k) s).length + [s].length) (by show _ + 1 = ((_ + 1 : Nat) : Int); omega) (by show _ + 1 < 2147483648; omega)]
      exact ih
    · rw [lsF_F hF] at ih
      rw [if_neg hF, if_pos (show (0 : Int) = 0 from rfl), w32_n (x := ((lsF (fitS τ S T k) s).length : Int) + 0) (n := (lsF (fitS τ S T k) s).length) (by omega) (by omega)]
      exact ih
theorem c_fits (hD : 9 ≤ D) (hτ : tOk τ) (hT : cTx 0 τ M) (hk : cTo K S T M) (hS : toOk τ K S) (hW : cWl τ M) (h : k ≤ K) : ∃ M', amD amGst D 130 [vR 11 11 0, vI (k : Int)] M = some (vI ((lsF (fitS τ S T k) (2 ^ tP τ)).length : Int), M') ∧ amSame fTl M M' ∧ cWl τ M' := by
  obtain ⟨d, rfl⟩ := dS hD
  obtain ⟨M1, a1, a2, a3, a4⟩ := c_knows (D := d) (by omega) hτ hT hk hW h
  obtain ⟨d, rfl⟩ := dS (show 7 + 1 ≤ d by omega)
  have := c_fittingLoop (d := d) (by omega) hτ (hT.tl a2) (hk.tl a2) hS a4 h (2 ^ tP τ) 0 (by omega)
  refine ⟨M1, ?_, a2, Or.inr ⟨a3, a4⟩⟩
  rw [n_X11_fits, q_X11_fits_0, a1, amCI_s, if_neg (show ¬ (1 : Int) = 0 by decide), n_X9_fitting, q_X9_fitting_0]
  exact (congrArg (fun o => amCI o _) this).trans rfl
theorem c_atLoop (hd : 2 ≤ d) (hτ : tOk τ) (hT : cTx 0 τ M) (hk : cTo K S T M) (hS : toOk τ K S) (hW : cWr τ (2 ^ tP τ) M) (h : k ≤ K) {i : Int} : ∀ (m s : Nat), s + m = 2 ^ tP τ → (i < 0 ∨ ((lsF (fitS τ S T k) s).length : Int) ≤ i) → e_X9_fittingAt_5 d (k : Int) i ((lsF (fitS τ S T k) s).length : Int) (s : Int) M = some (vI (wlkS τ S T k i), M)
  | 0, s, hs, hi => by
    have hs : s = 2 ^ tP τ := hs
    rw [q_X9_fittingAt_5, c_sets (by omega) hτ hT, amCI_s, if_neg (by omega)]
    unfold wlkS
    by_cases h0 : i < 0
    · rw [if_pos h0]
    · rw [hs] at hi
      rw [if_neg h0, List.getElem?_eq_none (by omega)]
  | m + 1, s, hs, hi => by
    have h8 := pw8 hτ
    have hl := lsF_len (F := fitS τ S T k) s
    rw [q_X9_fittingAt_5, c_sets (by omega) hτ hT, amCI_s, if_pos (by omega), c_isFit (by omega) hτ hk hS hW (by omega) h, amCI_s, w32_n (x := (s : Int) + 1) (n := s + 1) (by omega) (by omega)]
    by_cases hF : fitS τ S T k s = true
    · rw [if_pos hF, if_neg (show ¬ (1 : Int) = 0 by decide)]
      by_cases e : ((lsF (fitS τ S T k) s).length : Int) = i
      · rw [if_pos e]
        unfold wlkS
        have e2 : i.toNat = (lsF (fitS τ S T k) s).length := by omega
        rw [if_neg (by omega), e2, lsF_new hF (by omega)]
      · have ih := c_atLoop hd hτ hT hk hS hW h (i := i) m (s + 1) (by omega)
        rw [lsF_T hF, List.length_append] at ih
        rw [if_neg e, w32_n (x := ((lsF (fitS τ S T k) s).length : Int) + 1) (n := (lsF (fitS τ S T k) s).length + [s].length) (by show _ + 1 = ((_ + 1 : Nat) : Int); omega) (by show _ + 1 < 2147483648; omega)]
        exact ih (by
          have : ([s] : List Nat).length = 1 := rfl
          omega)
    · have ih := c_atLoop hd hτ hT hk hS hW h (i := i) m (s + 1) (by omega)
      rw [lsF_F hF] at ih
      rw [if_neg hF, if_pos (show (0 : Int) = 0 from rfl)]
      exact ih hi
theorem c_walkers (hD : 9 ≤ D) (hτ : tOk τ) (hT : cTx 0 τ M) (hk : cTo K S T M) (hS : toOk τ K S) (hW : cWl τ M) (h : k ≤ K) {i : Int} : ∃ M', amD amGst D 131 [vR 11 11 0, vI (k : Int), vI i] M = some (vI (wlkS τ S T k i), M') ∧ amSame fTl M M' ∧ cWl τ M' := by
  obtain ⟨d, rfl⟩ := dS hD
  obtain ⟨M1, a1, a2, a3, a4⟩ := c_knows (D := d) (by omega) hτ hT hk hW h
  obtain ⟨d, rfl⟩ := dS (show 7 + 1 ≤ d by omega)
  have := c_atLoop (d := d) (by omega) hτ (hT.tl a2) (hk.tl a2) hS a4 h (i := i) (2 ^ tP τ) 0 (by omega) (by show i < 0 ∨ (0 : Int) ≤ i; omega)
  refine ⟨M1, ?_, a2, Or.inr ⟨a3, a4⟩⟩
  rw [n_X11_walkers, q_X11_walkers_0, a1, amCI_s, if_neg (show ¬ (1 : Int) = 0 by decide), n_X9_fittingAt, q_X9_fittingAt_0]
  exact (congrArg (fun o => amCI o _) this).trans rfl
theorem lsF_256 (hτ : tOk τ) {F : Nat → Bool} {s : Nat} (hs : s ≤ 2 ^ tP τ) : ∀ x ∈ lsF F s, x < 256 := fun x hx => by
  have := lsF_lt s x hx
  have := pw8 hτ
  omega
theorem c_someLoop (hd : 2 ≤ d) (hτ : tOk τ) (hT : cTx 0 τ M) (hk : cTo K S T M) (hS : toOk τ K S) (hW : cWr τ (2 ^ tP τ) M) (h : k ≤ K) : ∀ (m s : Nat), s + m = 2 ^ tP τ → e_X9_inSome_4 d (k : Int) ((orL (lsF (fitS τ S T k) s) 0 : Nat) : Int) (s : Int) M = some (vI ((orL (lsF (fitS τ S T k) (2 ^ tP τ)) 0 : Nat) : Int), M)
  | 0, s, hs => by
    have hs : s = 2 ^ tP τ := hs
    rw [q_X9_inSome_4, c_sets (by omega) hτ hT, amCI_s, if_neg (by omega), hs]
  | m + 1, s, hs => by
    have h8 := pw8 hτ
    have ih := c_someLoop hd hτ hT hk hS hW h m (s + 1) (by omega)
    have hl := orL_lt (lsF (fitS τ S T k) s) 0 (by omega) (lsF_256 hτ (by omega))
    rw [q_X9_inSome_4, c_sets (by omega) hτ hT, amCI_s, if_pos (by omega), c_isFit (by omega) hτ hk hS hW (by omega) h, amCI_s, w32_n (x := (s : Int) + 1) (n := s + 1) (by omega) (by omega)]
    by_cases hF : fitS τ S T k s = true
    · rw [lsF_T hF, orL_app] at ih
      rw [if_pos hF, if_neg (show ¬ (1 : Int) = 0 by decide), bOr_b hl (by omega)]
      exact ih
    · have e0 := bOr_b hl (show 0 < 256 by omega)
      rw [Nat.or_zero] at e0
      rw [lsF_F hF] at ih
      rw [if_neg hF, if_pos (show (0 : Int) = 0 from rfl)]
      rw [show ((0 : Nat) : Int) = 0 from rfl] at e0
      rw [e0]
      exact ih
theorem c_allLoopW (hd : 2 ≤ d) (hτ : tOk τ) (hT : cTx 0 τ M) (hk : cTo K S T M) (hS : toOk τ K S) (hW : cWr τ (2 ^ tP τ) M) (h : k ≤ K) {a : Nat} (ha : a < 256) : ∀ (m s : Nat), s + m = 2 ^ tP τ → e_X9_inAll_8 d (k : Int) ((anL (lsF (fitS τ S T k) s) a : Nat) : Int) (s : Int) M = some (vI ((anL (lsF (fitS τ S T k) (2 ^ tP τ)) a : Nat) : Int), M)
  | 0, s, hs => by
    have hs : s = 2 ^ tP τ := hs
    rw [q_X9_inAll_8, c_sets (by omega) hτ hT, amCI_s, if_neg (by omega), hs]
  | m + 1, s, hs => by
    have h8 := pw8 hτ
    have ih := c_allLoopW hd hτ hT hk hS hW h ha m (s + 1) (by omega)
    have hl := anL_lt (lsF (fitS τ S T k) s) a ha
    rw [q_X9_inAll_8, c_sets (by omega) hτ hT, amCI_s, if_pos (by omega), c_isFit (by omega) hτ hk hS hW (by omega) h, amCI_s, w32_n (x := (s : Int) + 1) (n := s + 1) (by omega) (by omega)]
    by_cases hF : fitS τ S T k s = true
    · rw [lsF_T hF, anL_app] at ih
      rw [if_pos hF, if_neg (show ¬ (1 : Int) = 0 by decide), bAnd_b hl (by omega)]
      exact ih
    · rw [lsF_F hF] at ih
      rw [if_neg hF, if_pos (show (0 : Int) = 0 from rfl), bSelf _ hl]
      exact ih
theorem c_who (hD : 10 ≤ D) (hτ : tOk τ) (hT : cTx 0 τ M) (hk : cTo K S T M) (hS : toOk τ K S) (hW : cWl τ M) (h : k ≤ K) {sure : Int} : ∃ M', amD amGst D 132 [vR 11 11 0, vI (k : Int), vI sure] M = some (vI ((whoS τ S T k sure : Nat) : Int), M') ∧ amSame fTl M M' ∧ cWl τ M' := by
  obtain ⟨d, rfl⟩ := dS hD
  obtain ⟨M1, a1, a2, a3, a4⟩ := c_knows (D := d) (by omega) hτ hT hk hW h
  obtain ⟨d, rfl⟩ := dS (show 7 + 1 ≤ d by omega)
  have hsome : ∀ d', 2 ≤ d' → amD amGst (d' + 1) 90 [vR 9 9 0, vI (k : Int)] M1 = some (vI ((orL (lsF (fitS τ S T k) (2 ^ tP τ)) 0 : Nat) : Int), M1) := fun d' hd' => by
    rw [n_X9_inSome, q_X9_inSome_0]
    exact c_someLoop hd' hτ (hT.tl a2) (hk.tl a2) hS a4 h (2 ^ tP τ) 0 (by omega)
  refine ⟨M1, ?_, a2, Or.inr ⟨a3, a4⟩⟩
  rw [n_X11_who, q_X11_who_0, a1, amCI_s, if_neg (show ¬ (1 : Int) = 0 by decide)]
  unfold whoS
  by_cases h0 : sure = 0
  · rw [if_pos h0, if_pos h0, hsome d (by omega), amCI_s]
  · rw [if_neg h0, if_neg h0, n_X9_inAll, q_X9_inAll_0]
    obtain ⟨d', e'⟩ := dS (show 2 + 1 ≤ d by omega)
    have hlt := orL_lt (lsF (fitS τ S T k) (2 ^ tP τ)) 0 (by omega) (lsF_256 hτ (Nat.le_refl _))
    have := c_allLoopW (d := d) (by omega) hτ (hT.tl a2) (hk.tl a2) hS a4 h hlt (2 ^ tP τ) 0 (by omega)
    rw [anL_or _ (lsF_256 hτ (Nat.le_refl _))] at this
    rw [show amD amGst d 90 [vR 9 9 0, vI (k : Int)] M1 = some (vI ((orL (lsF (fitS τ S T k) (2 ^ tP τ)) 0 : Nat) : Int), M1) by rw [e']; exact hsome d' (by omega), amCI_s]
    exact (congrArg (fun o => amCI o _) this).trans rfl
end TLE
