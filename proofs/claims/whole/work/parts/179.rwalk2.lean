/-! PURE: the reference's goings -/
theorem rX.mv {x : Wk} {M M' : AmM} (h : rX x M) (hs : amSame fRw M M') : rX x M' := h.rw hs
section RW2
variable {D d v : Nat} {τ : Tx} {ρ : Rw} {M : AmM} {vow heavy day : Int}
theorem hold1_off {w : Int} {s : Nat} {x : Wk} {j : Nat} (hs : 1 ≤ s ∧ s ≤ 24) (hj : 50 ≤ j) : (hold1 w s x).2.1 j = x.1 j := by
  unfold hold1
  dsimp only
  split
  · exact rUp_ne (by omega)
  · show rUp (rUp _ _ _) _ _ j = _
    rw [rUp_ne (by omega), rUp_ne (by omega)]
theorem holdS_off {up : Int} {s j : Nat} (hs : 1 ≤ s ∧ s ≤ 24) (hj : 50 ≤ j) : ∀ (k : Nat) (x : Wk), (holdS τ vow heavy day up s k x).2.1 j = x.1 j
  | 0, _ => rfl
  | k + 1, x => by
    have h1 := hold1_off (w := wearS τ vow heavy s (x.1 s) day up (gonS (tN τ) x.1)) (x := x) hs hj
    unfold holdS
    split
    · rename_i x' he; rw [he] at h1; exact h1
    · rename_i x' he; rw [he] at h1; rw [holdS_off hs hj k x']; exact h1
theorem upS_off {j : Nat} (hn : tN τ ≤ 24) (hj : 50 ≤ j) : ∀ (k a : Nat) (x : Wk), (upS τ vow heavy day k a x).2.2.1 j = x.1 j
  | 0, _, _ => rfl
  | k + 1, a, x => by
    unfold upS
    split
    · rfl
    · rename_i ha
      have hb := nxU_b (n := tN τ) (ρ := x.1) (vow := vow) (show a ≤ tN τ by omega)
      dsimp only
      split
      · rfl
      · split
        · rfl
        · have h1 := holdS_off (τ := τ) (vow := vow) (heavy := heavy) (day := day) (up := 1) (s := nxU (tN τ) x.1 vow a) ⟨by omega, by omega⟩ hj (kW vow) x
          split
          · rename_i x' he; rw [he] at h1; exact h1
          · rename_i x' he; rw [he] at h1; rw [upS_off hn hj k _ x']; exact h1
theorem dnS_off {j : Nat} (hn : tN τ ≤ 24) (hj : 50 ≤ j) : ∀ (k a : Nat) (x : Wk), a ≤ tN τ + 1 → (dnS τ vow heavy day k a x).2.2.1 j = x.1 j
  | 0, _, _, _ => rfl
  | k + 1, a, x, ha => by
    unfold dnS
    split
    · rfl
    · rename_i h0
      have hb := nxD_b (ρ := x.1) (vow := vow) (show 1 ≤ a by omega)
      dsimp only
      split
      · rfl
      · split
        · rfl
        · have h1 := holdS_off (τ := τ) (vow := vow) (heavy := heavy) (day := day) (up := 0) (s := nxD x.1 vow a) ⟨by omega, by omega⟩ hj (kW vow) x
          split
          · rename_i x' he; rw [he] at h1; exact h1
          · rename_i x' he; rw [he] at h1; rw [dnS_off hn hj k _ x' (by omega)]; exact h1
end RW2
