/-! PURE: memories, what changes in them -/
theorem dS {D k : Nat} (h : k + 1 ≤ D) : ∃ d, D = d + 1 := ⟨D - 1, by omega⟩
def amSame (F : Nat → Nat → Nat → Bool) (M M' : AmM) : Prop := ∀ c s j, F c s j = false → M' c s j = M c s j
theorem amSame.refl {F : Nat → Nat → Nat → Bool} {M : AmM} : amSame F M M := fun _ _ _ _ => rfl
theorem amSame.trans {F : Nat → Nat → Nat → Bool} {M M' M2 : AmM} (h : amSame F M M') (h' : amSame F M' M2) : amSame F M M2 := fun c s j hf => (h' c s j hf).trans (h c s j hf)
theorem amSame.mono {F F' : Nat → Nat → Nat → Bool} {M M' : AmM} (h : amSame F M M') (hF : ∀ c s j, F c s j = true → F' c s j = true) : amSame F' M M' := fun c s j hf => h c s j (by
  cases hb : F c s j with
  | false => rfl
  | true => rw [hF c s j hb] at hf; cases hf)
theorem amSame.up {F : Nat → Nat → Nat → Bool} {M M' : AmM} {c s j : Nat} {v : Int} (h : amSame F M M') (hF : F c s j = true) : amSame F M (amUp M' c s j v) := fun c' s' j' hf => by
  rw [← h c' s' j' hf]
  unfold amUp
  cases hb : (c' == c && (s' == s && j' == j)) with
  | false => rfl
  | true =>
    simp only [Bool.and_eq_true, beq_iff_eq] at hb
    obtain ⟨rfl, rfl, rfl⟩ := hb
    rw [hF] at hf; cases hf
theorem amSame.cpy {F : Nat → Nat → Nat → Bool} {M M' : AmM} {c0 s0 c s : Nat} {sp dp n : Int} (h : amSame F M M') (hF : ∀ j, F c s j = true) : amSame F M (amCpy M' c0 s0 sp c s dp n) := fun c' s' j' hf => by
  rw [← h c' s' j' hf]
  unfold amCpy
  split
  · rename_i hb
    obtain ⟨rfl, rfl, -⟩ := hb
    rw [hF] at hf; cases hf
  · rfl
theorem up_on {M : AmM} {c s j : Nat} {v : Int} : amUp M c s j v c s j = v := by unfold amUp; simp
theorem up_c {M : AmM} {c s j : Nat} {v : Int} {c' s' j' : Nat} (h : c' ≠ c) : amUp M c s j v c' s' j' = M c' s' j' := by unfold amUp; rw [beq_false_of_ne h]; rfl
theorem up_s {M : AmM} {c s j : Nat} {v : Int} {c' s' j' : Nat} (h : s' ≠ s) : amUp M c s j v c' s' j' = M c' s' j' := by unfold amUp; rw [beq_false_of_ne h, Bool.false_and, Bool.and_false]; rfl
theorem up_j {M : AmM} {c s j : Nat} {v : Int} {c' s' j' : Nat} (h : j' ≠ j) : amUp M c s j v c' s' j' = M c' s' j' := by unfold amUp; rw [beq_false_of_ne h, Bool.and_false, Bool.and_false]; rfl
theorem up_at {M : AmM} {c s j : Nat} {v : Int} {j' : Nat} : amUp M c s j v c s j' = if j' = j then v else M c s j' := by
  by_cases h : j' = j
  · subst h; rw [up_on, if_pos rfl]
  · rw [up_j h, if_neg h]
theorem cpy_at {M : AmM} {c0 s0 c s : Nat} {n : Int} {j : Nat} (h : (j : Int) < n) : amCpy M c0 s0 0 c s 0 n c s j = M c0 s0 j := by
  unfold amCpy
  rw [if_pos ⟨rfl, rfl, by omega, by omega⟩]
  congr 1
  omega
theorem cpy_c {M : AmM} {c0 s0 c s : Nat} {sp dp n : Int} {c' s' j : Nat} (h : c' ≠ c) : amCpy M c0 s0 sp c s dp n c' s' j = M c' s' j := by
  unfold amCpy
  rw [if_neg (fun q => h q.1)]
theorem cpy_s {M : AmM} {c0 s0 c s : Nat} {sp dp n : Int} {c' s' j : Nat} (h : s' ≠ s) : amCpy M c0 s0 sp c s dp n c' s' j = M c' s' j := by
  unfold amCpy
  rw [if_neg (fun q => h q.2.1)]
theorem ld_c {M : AmM} {c n : Nat} (h90 : c ≠ 90) (h : amLenL.getD c 0 = n) : amLd M c = n := by
  unfold amLd
  rw [beq_false_of_ne h90]
  exact h
theorem tn_cast (n : Nat) : ((n : Int)).toNat = n := rfl
theorem w32_n {x : Int} {n : Nat} (h : x = (n : Int)) (hn : n < 2147483648) : w32 x = (n : Int) := by rw [h]; exact w32_id (by omega) (by omega)
/-! the class's own leaves -/
theorem c_at {D c r n : Nat} {j : Int} {M : AmM} (hD : 1 ≤ D) (h90 : c ≠ 90) (hn : amLenL.getD c 0 = n) (h0 : 0 ≤ j) (h1 : j < (n : Int)) : amD amGst D 142 [vR 20 c r, vI j] M = some (vI (M c r j.toNat), M) := by
  obtain ⟨d, rfl⟩ := dS hD
  have hl := ld_c (M := M) h90 hn
  rw [n_X11_at, q_X11_at_0, if_neg (by omega), hl, if_pos h1, if_pos ⟨h0, h1⟩]
theorem c_atN {D c r n : Nat} {j : Int} {M : AmM} (hD : 1 ≤ D) (h90 : c ≠ 90) (hn : amLenL.getD c 0 = n) (h : j < 0 ∨ (n : Int) ≤ j) : amD amGst D 142 [vR 20 c r, vI j] M = some (vI 0, M) := by
  obtain ⟨d, rfl⟩ := dS hD
  have hl := ld_c (M := M) h90 hn
  rw [n_X11_at, q_X11_at_0, hl]
  by_cases h0 : j < 0
  · rw [if_pos h0]
  · rw [if_neg h0, if_neg (by omega)]
theorem c_put {D c r n : Nat} {j v : Int} {M : AmM} (hD : 1 ≤ D) (h90 : c ≠ 90) (hn : amLenL.getD c 0 = n) (h0 : 0 ≤ j) (h1 : j < (n : Int)) : amD amGst D 143 [vR 20 c r, vI j, vI v] M = some (vU, amUp M c r j.toNat v) := by
  obtain ⟨d, rfl⟩ := dS hD
  have hl := ld_c (M := M) h90 hn
  have hb : (!(c == 90)) = true := by rw [beq_false_of_ne h90]; rfl
  rw [n_X11_put, q_X11_put_0, if_neg (by omega), hl, if_pos h1, hb, cond_true, if_pos ⟨h0, h1⟩]
theorem c_putN {D c r n : Nat} {j v : Int} {M : AmM} (hD : 1 ≤ D) (h90 : c ≠ 90) (hn : amLenL.getD c 0 = n) (h : j < 0 ∨ (n : Int) ≤ j) : amD amGst D 143 [vR 20 c r, vI j, vI v] M = some (vU, M) := by
  obtain ⟨d, rfl⟩ := dS hD
  have hl := ld_c (M := M) h90 hn
  rw [n_X11_put, q_X11_put_0, hl]
  by_cases h0 : j < 0
  · rw [if_pos h0]
  · rw [if_neg h0, if_neg (by omega)]
theorem c_copy {D c r c1 r1 n : Nat} {M : AmM} (hD : 1 ≤ D) (h90 : c ≠ 90) (h91 : c1 ≠ 90) (hn : amLenL.getD c 0 = n) (hn1 : amLenL.getD c1 0 = n) : amD amGst D 144 [vR 20 c r, vR 20 c1 r1] M = some (vU, amCpy M c r 0 c1 r1 0 (n : Int)) := by
  obtain ⟨d, rfl⟩ := dS hD
  have hl := ld_c (M := M) h90 hn
  have hl1 := ld_c (M := M) h91 hn1
  have hb : (!(c1 == 90) && !(c == 90)) = true := by rw [beq_false_of_ne h90, beq_false_of_ne h91]; rfl
  have hm : amMin (n : Int) (n : Int) = (n : Int) := by unfold amMin; rw [if_neg (by omega)]
  rw [n_X11_copy, q_X11_copy_0, hl, hl1, hb, cond_true, hm, if_pos ⟨by omega, by omega, by omega, by omega, by omega⟩]
theorem c_wipe_loop {d c r n : Nat} (h90 : c ≠ 90) (hn : amLenL.getD c 0 = n) (hn2 : n < 10000) : ∀ (k : Nat) (i : Nat) (M : AmM), i + k = n → ∃ M', e_X11_wipe_2 d c r (i : Int) M = some (vU, M') ∧ amSame (fun c' s' _ => c' == c && s' == r) M M' ∧ (∀ j, j < i → M' c r j = M c r j) ∧ ∀ j, i ≤ j → j < n → M' c r j = 0
  | 0, i, M, h => by
    have hl := ld_c (M := M) h90 hn
    refine ⟨M, ?_, amSame.refl, fun _ _ => rfl, fun j h1 h2 => by omega⟩
    rw [q_X11_wipe_2, hl, if_neg (by omega)]
  | k + 1, i, M, h => by
    have hl := ld_c (M := M) h90 hn
    have hb : (!(c == 90)) = true := by rw [beq_false_of_ne h90]; rfl
    obtain ⟨M', h1, h2, h3, h4⟩ := c_wipe_loop (d := d) (r := r) h90 hn hn2 k (i + 1) (amUp M c r i 0) (by omega)
    refine ⟨M', ?_, ?_, fun j hj => ?_, fun j hj hj2 => ?_⟩
    · rw [q_X11_wipe_2, hl, if_pos (by omega), hb, cond_true, if_pos ⟨by omega, by omega⟩, w32_id (by omega) (by omega)]
      exact h1
    · exact (amSame.refl.up (by simp)).trans h2
    · rw [h3 j (by omega), up_j (by omega)]
    · by_cases hi : j = i
      · subst hi
        rw [h3 j (by omega), up_on]
      · exact h4 j (by omega) hj2
theorem c_wipe {D c r n : Nat} {M : AmM} (hD : 1 ≤ D) (h90 : c ≠ 90) (hn : amLenL.getD c 0 = n) (hn2 : n < 10000) : ∃ M', amD amGst D 145 [vR 20 c r] M = some (vU, M') ∧ amSame (fun c' s' _ => c' == c && s' == r) M M' ∧ ∀ j, j < n → M' c r j = 0 := by
  obtain ⟨d, rfl⟩ := dS hD
  obtain ⟨M', h1, h2, -, h4⟩ := c_wipe_loop (d := d) (r := r) h90 hn hn2 n 0 M (by omega)
  exact ⟨M', by rw [n_X11_wipe, q_X11_wipe_0]; exact h1, h2, fun j hj => h4 j (by omega) hj⟩
