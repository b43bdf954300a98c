/-! PURE: feed, back, tell, forget, hold, odds -/
theorem w8_w8 (x : Int) : w8 (w8 x) = w8 x := by unfold w8; omega
theorem fd1_ok {L : Nat} {B : Nat → Int} {x s : Int} (h : ∀ j, j < L → w8 (B j) = B j) : ∀ j, j < L + 1 → w8 (fd1 L B x s j) = fd1 L B x s j := fun j hj => by
  unfold fd1
  by_cases e : j = L
  · rw [if_pos e, w8_w8]
  · rw [if_neg e]; exact h j (by omega)
theorem fd4_ok {L : Nat} {B : Nat → Int} {x : Int} (h : ∀ j, j < L → w8 (B j) = B j) : ∀ j, j < L + 4 → w8 (fd4 L B x j) = fd4 L B x j := fd1_ok (fd1_ok (fd1_ok (fd1_ok h)))
theorem fd20_ok {L : Nat} {B : Nat → Int} {x1 x2 x3 x4 x5 : Int} (h : ∀ j, j < L → w8 (B j) = B j) : ∀ j, j < L + 20 → w8 (fd20 L B x1 x2 x3 x4 x5 j) = fd20 L B x1 x2 x3 x4 x5 j := fd4_ok (fd4_ok (fd4_ok (fd4_ok (fd4_ok h))))
section JN7
variable {D N v L L' k k' : Nat} {τ : Tx} {ρ : Rw} {P : List Rw} {H : Nat → Option Rw} {B S T B' S' T' : Nat → Int} {f : Int} {M M' : AmM}
theorem fTT_no {c s j : Nat} (h : c = 122 ∨ c = 123 ∨ (c = 9 ∧ j = 5) ∨ c = 114 ∨ (c = 7 ∧ j = 1)) : cSd c = true ∧ sTx 0 c s j = false ∧ scC c = false ∧ sPa c s j = false ∧ sHe c s j = false ∧ sM c s j = false := by
  refine ⟨?_, ?_, ?_, ?_, ?_, ?_⟩
  · unfold cSd; simp only [Bool.or_eq_true, Bool.and_eq_true, Nat.ble_eq]; omega
  · cases hb : sTx 0 c s j with
    | false => rfl
    | true => exfalso; unfold sTx at hb; simp only [Bool.or_eq_true, Bool.and_eq_true, beq_iff_eq] at hb; omega
  · cases hb : scC c with
    | false => rfl
    | true => exfalso; unfold scC at hb; simp only [Bool.or_eq_true, beq_iff_eq] at hb; omega
  · cases hb : sPa c s j with
    | false => rfl
    | true => exfalso; unfold sPa scC at hb; simp only [Bool.or_eq_true, Bool.and_eq_true, beq_iff_eq, Nat.ble_eq] at hb; omega
  · cases hb : sHe c s j with
    | false => rfl
    | true => exfalso; unfold sHe scC at hb; simp only [Bool.or_eq_true, Bool.and_eq_true, beq_iff_eq, Nat.ble_eq] at hb; omega
  · cases hb : sM c s j with
    | false => rfl
    | true => exfalso; unfold sM at hb; simp only [Bool.or_eq_true, Bool.and_eq_true, beq_iff_eq] at hb; omega
theorem fCo_q : ∀ c s j, fCo c s j = true → c = 122 ∨ c = 123 ∨ (c = 9 ∧ j = 5) ∨ c = 114 ∨ (c = 7 ∧ j = 1) := fun c s j h => by
  unfold fCo at h; simp only [Bool.or_eq_true, Bool.and_eq_true, beq_iff_eq] at h; omega
theorem fCt_q : ∀ c s j, fCt c s j = true → c = 122 ∨ c = 123 ∨ (c = 9 ∧ j = 5) ∨ c = 114 ∨ (c = 7 ∧ j = 1) := fun c s j h => by
  unfold fCt at h; simp only [Bool.or_eq_true, Bool.and_eq_true, beq_iff_eq] at h; omega
theorem offF {F : Nat → Nat → Nat → Bool} {Q : Prop} {c s j : Nat} (h : F c s j = true → Q) (hn : ¬ Q) : F c s j = false := by
  cases hb : F c s j with
  | false => rfl
  | true => exact absurd (h hb) hn
theorem jK.tt {F : Nat → Nat → Nat → Bool} (hF : ∀ c s j, F c s j = true → c = 122 ∨ c = 123 ∨ (c = 9 ∧ j = 5) ∨ c = 114 ∨ (c = 7 ∧ j = 1)) (h : jK τ ρ P H L B k S T f M) (hs : amSame F M M') (h5 : cTp L' B' M') (h6 : cTo k' S' T' M') : jK τ ρ P H L' B' k' S' T' f M' := by
  have key : ∀ (q : Nat → Nat → Nat → Bool), (∀ c s j, (c = 122 ∨ c = 123 ∨ (c = 9 ∧ j = 5) ∨ c = 114 ∨ (c = 7 ∧ j = 1)) → q c s j = false) → ∀ c s j, q c s j = true → M' c s j = M c s j := fun q hq c s j h => hs c s j (by
    cases hb : F c s j with
    | false => rfl
    | true => rw [hq c s j (hF c s j hb)] at h; cases h)
  exact ⟨h.1.mv (key _ fun c s j q => (fTT_no q).2.1), h.2.1.mv2 fun c j hc => key (fun c _ _ => scC c) (fun c s j q => (fTT_no (s := s) q).2.2.1) c 0 j hc, h.2.2.1.mv (key _ fun c s j q => (fTT_no q).2.2.2.1), h.2.2.2.1.mv (key _ fun c s j q => (fTT_no q).2.2.2.2.1), h5, h6, (hs 11 0 15 (offF (hF 11 0 15) (by decide))).trans h.2.2.2.2.2.2⟩
theorem jM.tt {F : Nat → Nat → Nat → Bool} (hF : ∀ c s j, F c s j = true → c = 122 ∨ c = 123 ∨ (c = 9 ∧ j = 5) ∨ c = 114 ∨ (c = 7 ∧ j = 1)) (h : jM τ ρ M) (hs : amSame F M M') : jM τ ρ M' := h.mv fun c j q => hs c 0 j (by
  cases hb : F c 0 j with
  | false => rfl
  | true => rw [(fTT_no (s := 0) (hF c 0 j hb)).2.2.2.2.2] at q; cases q)
theorem fRq_q : ∀ c s j, fRq c s j = true → c = 166 ∨ c = 167 ∨ (c = 12 ∧ j = 65) ∨ c = 129 ∨ (c = 12 ∧ j = 2) := fun c s j h => by
  unfold fRq at h; simp only [Bool.or_eq_true, Bool.and_eq_true, beq_iff_eq] at h; omega
theorem fRt_q : ∀ c s j, fRt c s j = true → c = 166 ∨ c = 167 ∨ (c = 12 ∧ j = 65) ∨ c = 129 ∨ (c = 12 ∧ j = 2) := fun c s j h => by
  unfold fRt at h; simp only [Bool.or_eq_true, Bool.and_eq_true, beq_iff_eq] at h; omega
theorem fQQ_r {c j : Nat} (h : c = 166 ∨ c = 167 ∨ (c = 12 ∧ j = 65) ∨ c = 129 ∨ (c = 12 ∧ j = 2)) : rSd c = true := by
  unfold rSd; simp only [Bool.or_eq_true, beq_iff_eq, Nat.ble_eq]; omega
theorem jR.tt {F : Nat → Nat → Nat → Bool} (hF : ∀ c s j, F c s j = true → c = 166 ∨ c = 167 ∨ (c = 12 ∧ j = 65) ∨ c = 129 ∨ (c = 12 ∧ j = 2)) (h : jR v τ ρ P H L B k S T f M) (hs : amSame F M M') (h6 : rTp L' B' M') (h7 : rTo k' S' T' M') : jR v τ ρ P H L' B' k' S' T' f M' := by
  have o : ∀ c j, ¬ (c = 166 ∨ c = 167 ∨ (c = 12 ∧ j = 65) ∨ c = 129 ∨ (c = 12 ∧ j = 2)) → M' c 0 j = M c 0 j := fun c j q => hs c 0 j (offF (hF c 0 j) q)
  obtain ⟨h1, h2, h3, h4, h5, _, _, h8, h9⟩ := h
  exact ⟨⟨h1.1, (o 12 18 (by decide)).trans h1.2⟩, h2.mv fun c j q => o c j (by have := sSd_iff.1 q; omega), h3.mv fun j => o 159 j (by omega), h4.mv (o 12 53 (by decide)) fun j => o 161 j (by omega), h5.mv (fun j => o 169 j (by omega)) fun j => o 170 j (by omega), h6, h7, fun i hi => (o 135 i (by omega)).trans (h8 i hi), (o 12 17 (by decide)).trans h9⟩
theorem cTo.tt (h : cTo k S T M) (hs : amSame fCt M M') : cTo k S T M' := ⟨h.1, (hs 9 0 5 (by rfl)).trans h.2.1, fun i hi => ⟨(hs 122 0 i (by rfl)).trans (h.2.2 i hi).1, (hs 123 0 i (by rfl)).trans (h.2.2 i hi).2⟩⟩
theorem rTo.tt (h : rTo k S T M) (hs : amSame fRt M M') : rTo k S T M' := ⟨h.1, (hs 12 0 65 (by rfl)).trans h.2.1, fun i hi => ⟨(hs 166 0 i (by rfl)).trans (h.2.2 i hi).1, (hs 167 0 i (by rfl)).trans (h.2.2 i hi).2⟩⟩
theorem cTp.tt (h : cTp L B M) (hs : amSame fCo M M') : cTp L B M' := ⟨h.1, (hs 7 0 1 (by rfl)).trans h.2.1, fun j hj => (hs 114 0 j (by rfl)).trans (h.2.2 j hj)⟩
theorem rTp.tt (h : rTp L B M) (hs : amSame fRq M M') : rTp L B M' := ⟨h.1, (hs 12 0 2 (by rfl)).trans h.2.1, fun j hj => (hs 129 0 j (by rfl)).trans (h.2.2 j hj)⟩
theorem j_feed (hD : 24 ≤ D) (hP : jP N τ ρ P H L B k S) (hK : jK τ ρ P H L B k S T f M) (hM : jM τ ρ M) (hR : jR v τ ρ P H L B k S T f M) {x1 x2 x3 x4 x5 : Int} : jOp D N 107 147 [vI x1, vI x2, vI x3, vI x4, vI x5] M := by
  by_cases h : L + 20 ≤ 2000
  · obtain ⟨M1, a1, a2, a3⟩ := c_feed (D := D) (by omega) (x1 := x1) (x2 := x2) (x3 := x3) (x4 := x4) (x5 := x5) h hK.2.2.2.2.1
    have hR1 := hR.mid (fun c s j q => (fTT_no (s := s) (fCt_q c s j q)).1) a3
    obtain ⟨M2, b1, b2, b3⟩ := r_feed (D := D) (by omega) (x1 := x1) (x2 := x2) (x3 := x3) (x4 := x4) (x5 := x5) h hR1.2.2.2.2.2.1
    exact jOp_mk (fun c s j q => (fTT_no (s := s) (fCt_q c s j q)).1) (fun c s j q => fQQ_r (fRt_q c s j q)) a1 a3 b1 b3 ⟨hP.1, hP.nx.2.1, hP.nx.2.2.1, hP.nx.2.2.2.1, hP.2.2.2.2.1, fd20_ok hP.2.2.2.2.2⟩ (hK.tt fCt_q a3 a2 (hK.2.2.2.2.2.1.tt a3)) (hM.tt fCt_q a3) (hR1.tt fRt_q b3 b2 (hR1.2.2.2.2.2.2.1.tt b3))
  · exact jOp_ask fNone_c fNone_r hP hK hM hR ⟨M, c_feedN (by omega) (by omega) hK.2.2.2.2.1, amSame.refl⟩ fun M1 hR1 => ⟨M1, r_feedN (by omega) (by omega) hR1.2.2.2.2.2.1, amSame.refl⟩
theorem j_back (hD : 24 ≤ D) (hP : jP N τ ρ P H L B k S) (hK : jK τ ρ P H L B k S T f M) (hM : jM τ ρ M) (hR : jR v τ ρ P H L B k S T f M) {n : Int} : jOp D N 108 149 [vI n] M := by
  by_cases h : 0 ≤ n ∧ n ≤ (L : Int)
  · obtain ⟨m, rfl⟩ : ∃ m : Nat, n = (m : Int) := ⟨n.toNat, by omega⟩
    have hm : m ≤ L := by omega
    obtain ⟨M1, a1, a2, a3⟩ := c_back (D := D) (by omega) hm hK.2.2.2.2.1
    have hR1 := hR.mid (fun c s j q => (fTT_no (s := s) (fCt_q c s j q)).1) a3
    obtain ⟨M2, b1, b2, b3⟩ := r_back (D := D) (by omega) hm hR1.2.2.2.2.2.1
    exact jOp_mk (fun c s j q => (fTT_no (s := s) (fCt_q c s j q)).1) (fun c s j q => fQQ_r (fRt_q c s j q)) a1 a3 b1 b3 ⟨hP.1, hP.nx.2.1, hP.nx.2.2.1, hP.nx.2.2.2.1, hP.2.2.2.2.1, fun j hj => hP.2.2.2.2.2 j (by omega)⟩ (hK.tt fCt_q a3 a2 (hK.2.2.2.2.2.1.tt a3)) (hM.tt fCt_q a3) (hR1.tt fRt_q b3 b2 (hR1.2.2.2.2.2.2.1.tt b3))
  · exact jOp_ask fNone_c fNone_r hP hK hM hR ⟨M, c_backN (by omega) h hK.2.2.2.2.1, amSame.refl⟩ fun M1 hR1 => ⟨M1, r_backN (by omega) h hR1.2.2.2.2.2.1, amSame.refl⟩
theorem j_tell (hD : 24 ≤ D) (hP : jP N τ ρ P H L B k S) (hK : jK τ ρ P H L B k S T f M) (hM : jM τ ρ M) (hR : jR v τ ρ P H L B k S T f M) {s t : Int} : jOp D N 128 233 [vI s, vI t] M := by
  by_cases h : (1 ≤ s ∧ s ≤ tN τ) ∧ (0 ≤ t ∧ t ≤ 99) ∧ k < 30
  · obtain ⟨M1, a1, a2, a3⟩ := c_tell (D := D) (by omega) hK.2.1 hK.2.2.2.2.2.1 h.1 h.2.1 h.2.2
    have hR1 := hR.mid (fun c s j q => (fTT_no (s := s) (fCo_q c s j q)).1) a3
    obtain ⟨M2, b1, b2, b3⟩ := r_tell (D := D) (by omega) hP.1 hR1.tx hR1.2.2.2.2.2.2.1 h.1 h.2.1 h.2.2
    exact jOp_mk (fun c s j q => (fTT_no (s := s) (fCo_q c s j q)).1) (fun c s j q => fQQ_r (fRq_q c s j q)) a1 a3 b1 b3 ⟨hP.1, hP.nx.2.1, hP.nx.2.2.1, hP.nx.2.2.2.1, fun i hi => (by
      show 1 ≤ (if i = k then s else S i) ∧ (if i = k then s else S i) ≤ tN τ
      by_cases e : i = k
      · rw [if_pos e]; exact h.1
      · rw [if_neg e]; exact hP.2.2.2.2.1 i (by omega)), hP.2.2.2.2.2⟩ (hK.tt fCo_q a3 (hK.2.2.2.2.1.tt a3) a2) (hM.tt fCo_q a3) (hR1.tt fRq_q b3 (hR1.2.2.2.2.2.1.tt b3) b2)
  · exact jOp_ask fNone_c fNone_r hP hK hM hR ⟨M, c_tellN (by omega) hK.2.1 hK.2.2.2.2.2.1 h, amSame.refl⟩ fun M1 hR1 => ⟨M1, r_tellN (by omega) hP.1 hR1.tx hR1.2.2.2.2.2.2.1 h, amSame.refl⟩
theorem j_forget (hD : 24 ≤ D) (hP : jP N τ ρ P H L B k S) (hK : jK τ ρ P H L B k S T f M) (hM : jM τ ρ M) (hR : jR v τ ρ P H L B k S T f M) : jOp D N 129 234 [] M := by
  obtain ⟨M1, a1, a2, a3⟩ := c_forget (D := D) (by omega) hK.2.2.2.2.2.1
  have hR1 := hR.mid (fun c s j q => (fTT_no (s := s) (fCo_q c s j q)).1) a3
  obtain ⟨M2, b1, b2, b3⟩ := r_forget (D := D) (by omega) hR1.2.2.2.2.2.2.1
  exact jOp_mk (fun c s j q => (fTT_no (s := s) (fCo_q c s j q)).1) (fun c s j q => fQQ_r (fRq_q c s j q)) a1 a3 b1 b3 ⟨hP.1, hP.nx.2.1, hP.nx.2.2.1, hP.nx.2.2.2.1, fun i hi => absurd hi (Nat.not_lt_zero i), hP.2.2.2.2.2⟩ (hK.tt fCo_q a3 (hK.2.2.2.2.1.tt a3) a2) (hM.tt fCo_q a3) (hR1.tt fRq_q b3 (hR1.2.2.2.2.2.1.tt b3) b2)
end JN7
