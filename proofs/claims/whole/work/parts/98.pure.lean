/-! PURE MEETS THE MACHINE -/
theorem am_pure : amPure := fun M L h => by
  obtain ⟨hL, h90, hI, hf, ha⟩ := h
  have f0 : ∀ c j, (c, 0) ∈ amFull → c < 13 → j < (amFkL.getD c []).length → (amFkL.getD c []).getD j 0 ≠ 2 → M c 0 j = amI0 c j := fun c j x y z w => hf (c, 0) x y j z w
  have g0 : ∀ c n j, (c, 0, n) ∈ amIP → j < n → M c 0 j = amI0 c j := fun c n j x y => ha (c, 0, n) x j y
  have hj : jF M := by
    refine ⟨⟨?_, ?_, ?_, ?_, ?_, ?_, ?_⟩, ⟨?_, ?_, ?_, ?_, ?_⟩, ⟨?_, ?_, ?_, ?_, ?_⟩, ⟨?_, ?_, ?_, ?_, ?_⟩, fun j hj => ?_, fun j hj => ?_, fun j hj => ?_, fun k hk => ?_, ⟨?_, ?_, ?_, ?_, ?_⟩, fun j hj => ⟨?_, ?_⟩, fun j hj => ?_⟩
    · exact f0 0 3 (by decide +kernel) (by decide) (by decide) (by decide)
    · exact f0 3 4 (by decide +kernel) (by decide) (by decide) (by decide)
    · exact f0 5 6 (by decide +kernel) (by decide) (by decide) (by decide)
    · exact f0 5 7 (by decide +kernel) (by decide) (by decide) (by decide)
    · exact f0 6 2 (by decide +kernel) (by decide) (by decide) (by decide)
    · exact f0 6 3 (by decide +kernel) (by decide) (by decide) (by decide)
    · exact f0 7 1 (by decide +kernel) (by decide) (by decide) (by decide)
    · exact f0 8 5 (by decide +kernel) (by decide) (by decide) (by decide)
    · exact f0 8 6 (by decide +kernel) (by decide) (by decide) (by decide)
    · exact f0 8 7 (by decide +kernel) (by decide) (by decide) (by decide)
    · exact f0 8 8 (by decide +kernel) (by decide) (by decide) (by decide)
    · exact f0 8 9 (by decide +kernel) (by decide) (by decide) (by decide)
    · exact f0 9 5 (by decide +kernel) (by decide) (by decide) (by decide)
    · exact f0 9 7 (by decide +kernel) (by decide) (by decide) (by decide)
    · exact f0 11 13 (by decide +kernel) (by decide) (by decide) (by decide)
    · exact f0 11 14 (by decide +kernel) (by decide) (by decide) (by decide)
    · exact f0 11 15 (by decide +kernel) (by decide) (by decide) (by decide)
    · exact f0 12 2 (by decide +kernel) (by decide) (by decide) (by decide)
    · exact f0 12 17 (by decide +kernel) (by decide) (by decide) (by decide)
    · exact f0 12 18 (by decide +kernel) (by decide) (by decide) (by decide)
    · exact f0 12 53 (by decide +kernel) (by decide) (by decide) (by decide)
    · exact f0 12 65 (by decide +kernel) (by decide) (by decide) (by decide)
    · exact g0 101 4 j (by decide) hj
    · exact g0 128 3 j (by decide) hj
    · exact g0 169 3 j (by decide) hj
    · rw [g0 135 19 k (by decide) hk, kyV_all k hk]; rfl
    · exact g0 137 2 0 (by decide) (by decide)
    · exact g0 139 2 0 (by decide) (by decide)
    · exact g0 141 2 0 (by decide) (by decide)
    · exact g0 142 2 0 (by decide) (by decide)
    · exact g0 143 2 0 (by decide) (by decide)
    · exact g0 147 8 j (by decide) (by omega)
    · exact g0 148 8 j (by decide) (by omega)
    · exact g0 159 100 j (by decide) hj
  have h32 : ∀ j, -2147483648 ≤ M 90 0 j ∧ M 90 0 j < 2147483648 := fun j => by
    have := (hI 90 0 j).1 (by decide +kernel)
    unfold i32 at this
    omega
  obtain ⟨M', hM⟩ := law_go (d := 24) (Nat.le_refl _) hL L 0 0 M (by omega) (by omega) (by omega) (jI_first hj) (by rw [h90]; exact tn_cast L) h32
  exact ⟨24, M', by decide, hM⟩
