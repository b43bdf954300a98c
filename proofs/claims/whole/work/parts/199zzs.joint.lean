/-! PURE: both sides at once -/
def jO (τ : Tx) (N : Nat) (ρ : Rw) : Prop := sOk τ N ρ ∧ s66 τ ρ
def jP (N : Nat) (τ : Tx) (ρ : Rw) (P : List Rw) (H : Nat → Option Rw) (L : Nat) (B : Nat → Int) (k : Nat) (S : Nat → Int) : Prop := tOk τ ∧ jO τ N ρ ∧ (∀ σ ∈ P, jO τ N σ) ∧ (∀ s σ, s < 3 → H s = some σ → jO τ N σ) ∧ toOk τ k S ∧ ∀ j, j < L → w8 (B j) = B j
/-- the class's side -/
def jK (τ : Tx) (ρ : Rw) (P : List Rw) (H : Nat → Option Rw) (L : Nat) (B : Nat → Int) (k : Nat) (S T : Nat → Int) (f : Int) (M : AmM) : Prop := cTx 0 τ M ∧ cSc τ 0 ρ M ∧ cPa τ P M ∧ cHe τ H M ∧ cTp L B M ∧ cTo k S T M ∧ M 11 0 15 = f
/-- what the class remembers of answers -/
def jM (τ : Tx) (ρ : Rw) (M : AmM) : Prop := cWl τ M ∧ cMs τ ρ M ∧ cMo τ ρ M
/-- the reference's side -/
def jR (v : Nat) (τ : Tx) (ρ : Rw) (P : List Rw) (H : Nat → Option Rw) (L : Nat) (B : Nat → Int) (k : Nat) (S T : Nat → Int) (f : Int) (M : AmM) : Prop := (v ≤ 1 ∧ M 12 0 18 = (v : Int)) ∧ rTy v τ M ∧ rNow ρ M ∧ rPa P M ∧ rHe H M ∧ rTp L B M ∧ rTo k S T M ∧ rKy M ∧ M 12 0 17 = f
def sK : Nat → Nat → Nat → Bool := fun c s j => sTx 0 c s j || (scC c && Nat.ble s 43) || (c == 11 && (j == 13 || j == 14 || j == 15)) || c == 128 || (c == 7 && j == 1) || c == 114 || (c == 9 && j == 5) || c == 122 || c == 123
def sM : Nat → Nat → Nat → Bool := fun c _ j => (c == 9 && j == 7) || c == 124 || c == 0 || c == 3 || c == 106
def sQ : Nat → Nat → Bool := fun c j => (Nat.ble 137 c && Nat.ble c 155) || c == 159 || c == 161 || c == 169 || c == 170 || c == 129 || c == 166 || c == 167 || c == 135 || (c == 12 && (j == 2 || j == 17 || j == 18 || j == 53 || j == 65))
section JNT
variable {N v L k : Nat} {τ : Tx} {ρ : Rw} {P : List Rw} {H : Nat → Option Rw} {B S T : Nat → Int} {f : Int} {M M' : AmM}
theorem jK.mv (h : jK τ ρ P H L B k S T f M) (hs : ∀ c s j, sK c s j = true → M' c s j = M c s j) : jK τ ρ P H L B k S T f M' := by
  obtain ⟨h1, h2, h3, h4, h5, h6, h7⟩ := h
  refine ⟨h1.mv fun c s j q => hs c s j (by unfold sK; rw [q]; rfl), h2.mv2 fun c j q => hs c 0 j (by unfold sK; rw [q]; simp), h3.mv fun c s j q => hs c s j ?_, h4.mv fun c s j q => hs c s j ?_, ⟨h5.1, (hs 7 0 1 (by rfl)).trans h5.2.1, fun j hj => (hs 114 0 j (by rfl)).trans (h5.2.2 j hj)⟩, ⟨h6.1, (hs 9 0 5 (by rfl)).trans h6.2.1, fun i hi => ⟨(hs 122 0 i (by rfl)).trans (h6.2.2 i hi).1, (hs 123 0 i (by rfl)).trans (h6.2.2 i hi).2⟩⟩, (hs 11 0 15 (by rfl)).trans h7⟩
  · unfold sPa at q
    unfold sK
    rw [Bool.or_eq_true] at q
    rcases q with q | q
    · rw [Bool.and_eq_true, Bool.and_eq_true, Nat.ble_eq, Nat.ble_eq] at q
      rw [q.1.1, Nat.ble_eq_true_of_le (show s ≤ 43 by omega)]; simp
    · rw [Bool.and_eq_true, Bool.or_eq_true] at q
      rw [q.1]
      rcases q.2 with q | q <;> rw [q] <;> simp
  · unfold sHe at q
    unfold sK
    rw [Bool.or_eq_true] at q
    rcases q with q | q
    · rw [q]; simp
    · rw [Bool.and_eq_true, Bool.and_eq_true] at q
      rw [q.1.1, q.2]; simp
theorem jM.mv (h : jM τ ρ M) (hs : ∀ c j, sM c 0 j = true → M' c 0 j = M c 0 j) : jM τ ρ M' := by
  obtain ⟨h1, h2, h3⟩ := h
  refine ⟨?_, ?_, ?_⟩
  · rcases h1 with h1 | h1
    · exact Or.inl ((hs 9 7 (by rfl)).trans h1)
    · exact Or.inr ⟨(hs 9 7 (by rfl)).trans h1.1, h1.2.mv fun j => hs 124 j (by rfl)⟩
  · rcases h2 with h2 | ⟨n, a, b, c, d, e⟩
    · exact Or.inl ((hs 0 3 (by rfl)).trans h2)
    · exact Or.inr ⟨n, a, b, (hs 0 3 (by rfl)).trans c, d.mv fun j _ _ => hs 0 j (by rfl), (hs 0 7 (by rfl)).trans e⟩
  · rcases h3 with h3 | ⟨s, a, b, c, d⟩
    · exact Or.inl ((hs 3 4 (by rfl)).trans h3)
    · exact Or.inr ⟨s, a, b, (hs 3 4 (by rfl)).trans c, d.mv (fun j _ => hs 3 j (by rfl)) fun j => hs 106 j (by rfl)⟩
theorem jR.mv (h : jR v τ ρ P H L B k S T f M) (hs : ∀ c j, sQ c j = true → M' c 0 j = M c 0 j) : jR v τ ρ P H L B k S T f M' := by
  obtain ⟨h1, h2, h3, h4, h5, h6, h7, h8, h9⟩ := h
  refine ⟨⟨h1.1, (hs 12 18 (by rfl)).trans h1.2⟩, h2.mv fun c j q => hs c j ?_, h3.mv fun j => hs 159 j (by rfl), h4.mv (hs 12 53 (by rfl)) fun j => hs 161 j (by rfl), h5.mv (fun j => hs 169 j (by rfl)) fun j => hs 170 j (by rfl), ⟨h6.1, (hs 12 2 (by rfl)).trans h6.2.1, fun j hj => (hs 129 j (by rfl)).trans (h6.2.2 j hj)⟩, ⟨h7.1, (hs 12 65 (by rfl)).trans h7.2.1, fun i hi => ⟨(hs 166 i (by rfl)).trans (h7.2.2 i hi).1, (hs 167 i (by rfl)).trans (h7.2.2 i hi).2⟩⟩, fun i hi => (hs 135 i (by rfl)).trans (h8 i hi), (hs 12 17 (by rfl)).trans h9⟩
  have q := sSd_iff.1 q
  unfold sQ
  rw [Nat.ble_eq_true_of_le (show 137 ≤ c by omega), Nat.ble_eq_true_of_le (show c ≤ 155 by omega)]
  rfl
theorem jR.tx (h : jR v τ ρ P H L B k S T f M) : rTx v τ M := h.2.1 M (fun _ _ _ => rfl) h.1.2
/-- both sides, after at most N calls -/
def jI (N : Nat) (M : AmM) : Prop := ∃ (τ : Tx) (ρ : Rw) (P : List Rw) (H : Nat → Option Rw) (L : Nat) (B : Nat → Int) (k : Nat) (S T : Nat → Int) (f : Int) (v : Nat), jP N τ ρ P H L B k S ∧ jK τ ρ P H L B k S T f M ∧ jM τ ρ M ∧ jR v τ ρ P H L B k S T f M
/-- the columns of each side -/
def cSd (c : Nat) : Bool := Nat.ble c 11 || (Nat.ble 100 c && Nat.ble c 128)
def rSd (c : Nat) : Bool := c == 12 || Nat.ble 129 c
theorem sK_c {c s j : Nat} (h : sK c s j = true) : cSd c = true := by
  unfold sK sTx scC at h
  unfold cSd
  simp only [Bool.or_eq_true, Bool.and_eq_true, beq_iff_eq, Nat.ble_eq] at h ⊢
  omega
theorem sM_c {c s j : Nat} (h : sM c s j = true) : cSd c = true := by
  unfold sM at h
  unfold cSd
  simp only [Bool.or_eq_true, Bool.and_eq_true, beq_iff_eq, Nat.ble_eq] at h ⊢
  omega
theorem sQ_c {c j : Nat} (h : sQ c j = true) : rSd c = true := by
  unfold sQ at h
  unfold rSd
  simp only [Bool.or_eq_true, Bool.and_eq_true, beq_iff_eq, Nat.ble_eq] at h ⊢
  omega
theorem cSd_r {c : Nat} (h : cSd c = true) : rSd c = false := by
  unfold cSd at h
  unfold rSd
  simp only [Bool.or_eq_true, Bool.and_eq_true, Nat.ble_eq] at h
  rw [beq_false_of_ne (show c ≠ 12 by omega), Bool.false_or]
  cases hb : Nat.ble 129 c with
  | false => rfl
  | true => rw [Nat.ble_eq] at hb; exfalso; omega
/-- one call each -/
def jOp (D N i1 i2 : Nat) (a : List AmV) (M : AmM) : Prop := ∃ (x : Int) (M1 M2 : AmM), amD amGst D i1 (vR 11 11 0 :: a) M = some (vI x, M1) ∧ amD amGst D i2 (vR 12 12 0 :: a) M1 = some (vI x, M2) ∧ jI (N + 1) M2 ∧ (∀ s j, M1 90 s j = M 90 s j) ∧ ∀ s j, M2 90 s j = M 90 s j
end JNT
