/-! PURE: the class reads a text -/
section CRD
variable {D d : Nat} {M : AmM}
def fCp : Nat → Nat → Nat → Bool := fun c s _ => s == 0 && (c == 118 || c == 119 || c == 120 || c == 121 || c == 100 || c == 101 || c == 1 || c == 8)
theorem c_copyFrom (hD : 3 ≤ D) {x : Dr} {len : Nat} (h : cDr0 x len M) (hl : len ≤ 401) : ∃ M', amD amGst D 82 [vR 8 8 0, vR 8 8 1] M = some (vU, M') ∧ amSame fCp M M' ∧ cTx 0 x.1 M' := by
  obtain ⟨d, rfl⟩ := dS (show 1 ≤ D by omega)
  obtain ⟨d', rfl⟩ := dS (show 1 ≤ d by omega)
  obtain ⟨g0, ⟨g1, g2, g3, g4, g5, g6⟩, g7, g8, g9, g10⟩ := h
  rw [n_X8_copyFrom, q_X8_copyFrom_0, c_copy (n := 26) (by omega) (by decide) (by decide) (by rfl) (by rfl), amCV_s, c_copy (n := 14) (by omega) (by decide) (by decide) (by rfl) (by rfl), amCV_s, c_copy (n := 8) (by omega) (by decide) (by decide) (by rfl) (by rfl), amCV_s, c_copy (n := 8) (by omega) (by decide) (by decide) (by rfl) (by rfl), amCV_s, n_X1_copyFrom, q_X1_copyFrom_0, c_copy (n := 401) (by omega) (by decide) (by decide) (by rfl) (by rfl), amCV_s, c_copy (n := 4) (by omega) (by decide) (by decide) (by rfl) (by rfl), amCV_s, amCV_s, q_X8_copyFrom_79]
  generalize hA : amCpy M 118 1 0 118 0 0 ((26 : Nat) : Int) = A
  generalize hB : amCpy A 119 1 0 119 0 0 ((14 : Nat) : Int) = B
  generalize hC : amCpy B 120 1 0 120 0 0 ((8 : Nat) : Int) = C
  generalize hE : amCpy C 121 1 0 121 0 0 ((8 : Nat) : Int) = E
  generalize hF : amCpy E 100 1 0 100 0 0 ((401 : Nat) : Int) = F
  generalize hG : amCpy F 101 1 0 101 0 0 ((4 : Nat) : Int) = G
  have sG : amSame fCp M G := by
    subst hG; subst hF; subst hE; subst hC; subst hB; subst hA
    exact (((((amSame.refl.cpy (fun _ => by rfl)).cpy (fun _ => by rfl)).cpy (fun _ => by rfl)).cpy (fun _ => by rfl)).cpy (fun _ => by rfl)).cpy (fun _ => by rfl)
  have cG : ∀ c j, c ≠ 101 → c ≠ 100 → c ≠ 121 → c ≠ 120 → c ≠ 119 → c ≠ 118 → G c 0 j = M c 0 j := fun c j a1 a2 a3 a4 a5 a6 => by
    subst hG; subst hF; subst hE; subst hC; subst hB; subst hA
    rw [cpy_c a1, cpy_c a2, cpy_c a3, cpy_c a4, cpy_c a5, cpy_c a6]
  have f118 : ∀ j, j < 26 → G 118 0 j = M 118 1 j := fun j hj => by
    subst hG; subst hF; subst hE; subst hC; subst hB; subst hA
    rw [cpy_c (by decide), cpy_c (by decide), cpy_c (by decide), cpy_c (by decide), cpy_c (by decide), cpy_at (by omega)]
  have f119 : ∀ j, j < 14 → G 119 0 j = M 119 1 j := fun j hj => by
    subst hG; subst hF; subst hE; subst hC; subst hB; subst hA
    rw [cpy_c (by decide), cpy_c (by decide), cpy_c (by decide), cpy_c (by decide), cpy_at (by omega), cpy_c (by decide)]
  have f120 : ∀ j, j < 8 → G 120 0 j = M 120 1 j := fun j hj => by
    subst hG; subst hF; subst hE; subst hC; subst hB; subst hA
    rw [cpy_c (by decide), cpy_c (by decide), cpy_c (by decide), cpy_at (by omega), cpy_c (by decide), cpy_c (by decide)]
  have f121 : ∀ j, j < 8 → G 121 0 j = M 121 1 j := fun j hj => by
    subst hG; subst hF; subst hE; subst hC; subst hB; subst hA
    rw [cpy_c (by decide), cpy_c (by decide), cpy_at (by omega), cpy_c (by decide), cpy_c (by decide), cpy_c (by decide)]
  have f100 : ∀ j, j < 401 → G 100 0 j = M 100 1 j := fun j hj => by
    subst hG; subst hF; subst hE; subst hC; subst hB; subst hA
    rw [cpy_c (by decide), cpy_at (by omega), cpy_c (by decide), cpy_c (by decide), cpy_c (by decide), cpy_c (by decide)]
  have f101 : ∀ j, j < 4 → G 101 0 j = M 101 1 j := fun j hj => by
    subst hG; subst hF; subst hE; subst hC; subst hB; subst hA
    rw [cpy_at (by omega), cpy_c (by decide), cpy_c (by decide), cpy_c (by decide), cpy_c (by decide), cpy_c (by decide)]
  have r8 : ∀ j, G 8 1 j = M 8 1 j := fun j => sG 8 1 j (by rfl)
  clear hA hB hC hE hF hG
  refine ⟨_, rfl, (((((sG.up (by rfl)).up (by rfl)).up (by rfl)).up (by rfl)).up (by rfl)).up (by rfl), ?_⟩
  generalize hZ : (amUp (amUp (amUp (amUp (amUp (amUp G 1 0 1 (G 1 1 1)) 8 0 5 _) 8 0 6 _) 8 0 7 _) 8 0 8 _) 8 0 9 _) = Z
  have z8 : ∀ c s j, c ≠ 8 → c ≠ 1 → Z c s j = G c s j := fun c s j a b => by
    rw [← hZ, up_c a, up_c a, up_c a, up_c a, up_c a, up_c b]
  refine ⟨?_, ?_, ?_, ?_, ?_, fun j a b => ?_, fun j a => ?_, fun p a => ?_, fun v a => ?_⟩
  · rw [← hZ, up_j (by decide), up_j (by decide), up_j (by decide), up_j (by decide), up_on, up_c (by decide), r8, g1]
  · rw [← hZ, up_j (by decide), up_j (by decide), up_j (by decide), up_on, up_s (by decide), up_c (by decide), r8, g2]
  · rw [← hZ, up_j (by decide), up_j (by decide), up_on, up_s (by decide), up_s (by decide), up_c (by decide), r8, g3]
  · rw [← hZ, up_j (by decide), up_on, up_s (by decide), up_s (by decide), up_s (by decide), up_c (by decide), r8, g4]
  · rw [← hZ, up_on, up_s (by decide), up_s (by decide), up_s (by decide), up_s (by decide), up_c (by decide), r8, g5]
  · rw [z8 _ _ _ (by decide) (by decide), f118 j (by omega)]; exact g7 j a b
  · rw [z8 _ _ _ (by decide) (by decide), f119 j (by omega)]; exact g8 j a
  · rw [z8 _ _ _ (by decide) (by decide), z8 _ _ _ (by decide) (by decide), f120 p (by omega), f121 p (by omega)]; exact ⟨(g9 p a).1, (g9 p a).2.1⟩
  · have hq := g10 v a
    have e1 : Z 101 0 v = M 101 1 v := (z8 _ _ _ (by decide) (by decide)).trans (f101 v a)
    rw [e1]
    revert hq
    cases tL x.1 v with
    | none => intro hq; exact hq
    | some l =>
      intro hq
      obtain ⟨i, c1, c2, c3⟩ := hq
      exact ⟨i, c1, by omega, cLw_mv l.1 l.2 i c3 fun j a b => (z8 _ _ _ (by decide) (by decide)).trans (f100 j (by omega))⟩
end CRD
