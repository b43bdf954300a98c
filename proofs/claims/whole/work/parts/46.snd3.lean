/-! CONSTRUCTORS ARE SOUND: runs -/
section AmP1
variable {cal0 : AmG → Nat → List AmV → AmM → Option (AmV × AmM)} {cal1 : Nat → List AmV → AmM → AmG → Nat → Option (AmM × AmG × Nat)} {cd : List (Option AmE)}
theorem amEx1_n (hc : ∀ ct as M G n M' G' n', cal1 ct as M G n = some (M', G', n') → n ≤ n') {i : Jvm.ClassFile.Instr} {nx a b q : Nat} {z : Int} {ts : List Nat} {L st : List AmV} {M : AmM} {G : AmG} {n pc' : Nat} {L' st' : List AmV} {M' : AmM} {G' : AmG} {n' : Nat} (h : amEx1 cal0 cal1 i nx a b q z ts L st M G n = .inl (pc', L', st', M', G', n')) : n ≤ n' := by
  have gen : amLift (amEx G (cal0 G) i nx a b q z ts L st M) G n = .inl (pc', L', st', M', G', n') → n ≤ n' := fun h => by
    obtain ⟨-, -, rfl⟩ := amLift_l h
    exact Nat.le_refl _
  cases i
  case new x =>
    have h2 : (match amFull[n]? with
      | some (c, s) => bif c == a then (.inl (nx, L, vR c c s :: st, amRst M c s, amGst1 G c s, n + 1) : AmR1) else amNo1
      | none => amNo1) = .inl (pc', L', st', M', G', n') := h
    split at h2
    · rename_i c s hx
      cases hb : (c == a) with
      | false => rw [hb] at h2; cases h2
      | true => rw [hb] at h2; cases h2; exact Nat.le_succ _
    · cases h2
  case newarray at_ =>
    have h2 : (match st with
      | .inr (.inl k) :: st' => (match amFull[n]? with
        | some (c, s) => bif amKndL.getD c 99 == a && decide (k = (amLenL.getD c 0 : Int)) then (.inl (nx, L, vR a c s :: st', amRst M c s, amGst1 G c s, n + 1) : AmR1) else amNo1
        | none => amNo1)
      | _ => amNo1) = .inl (pc', L', st', M', G', n') := h
    split at h2
    · rename_i k st1
      split at h2
      · rename_i c1 s1 hx
        cases hb : (amKndL.getD c1 99 == a && decide (k = (amLenL.getD c1 0 : Int))) with
        | false => rw [hb] at h2; cases h2
        | true => rw [hb] at h2; cases h2; exact Nat.le_succ _
      · cases h2
    · cases h2
  case anewarray x =>
    have h2 : (match st with
      | .inr (.inl k) :: st' => (match amFull[n]? with
        | some (c, s) => bif amKndL.getD c 99 == a && decide (k = (amLenL.getD c 0 : Int)) then (.inl (nx, L, vR a c s :: st', amRst M c s, amGst1 G c s, n + 1) : AmR1) else amNo1
        | none => amNo1)
      | _ => amNo1) = .inl (pc', L', st', M', G', n') := h
    split at h2
    · rename_i k st1
      split at h2
      · rename_i c1 s1 hx
        cases hb : (amKndL.getD c1 99 == a && decide (k = (amLenL.getD c1 0 : Int))) with
        | false => rw [hb] at h2; cases h2
        | true => rw [hb] at h2; cases h2; exact Nat.le_succ _
      · cases h2
    · cases h2
  case aastore =>
    have h2 : (match st with
      | .inl (some (kv, cv, sv)) :: .inr (.inl j) :: .inl (some (k, c, s)) :: st' => bif (k == 24 && cv == 5 || k == 25 && cv == 6) && (decide (0 ≤ j) && decide (j < (amLenL.getD c 0 : Int))) then (.inl (nx, L, st', M, amGup G c s j.toNat (vR kv cv sv), n) : AmR1) else amNo1
      | _ => amNo1) = .inl (pc', L', st', M', G', n') := h
    split at h2
    · rename_i kv cv sv j k c1 s1 st1
      cases hb : ((k == 24 && cv == 5 || k == 25 && cv == 6) && (decide (0 ≤ j) && decide (j < (amLenL.getD c1 0 : Int)))) with
      | false => rw [hb] at h2; cases h2
      | true => rw [hb] at h2; cases h2; exact Nat.le_refl _
    · cases h2
  case putfield x =>
    by_cases hq : q = 2
    · subst hq
      have h2 : (match st with
        | .inl (some (kv, cv, sv)) :: .inl (some (_, c, s)) :: st' => bif c == a then (.inl (nx, L, st', M, amGup G c s b (vR kv cv sv), n) : AmR1) else amNo1
        | _ => amNo1) = .inl (pc', L', st', M', G', n') := h
      split at h2
      · rename_i kv cv sv k1 c1 s1 st1
        cases hb : (c1 == a) with
        | false => rw [hb] at h2; cases h2
        | true => rw [hb] at h2; cases h2; exact Nat.le_refl _
      · cases h2
    · have h1 : amLift (amEx G (cal0 G) (.putfield x) nx a b q z ts L st M) G n = .inl (pc', L', st', M', G', n') := by
        match q, hq, h with
        | 0, _, h => exact h
        | 1, _, h => exact h
        | 2, hq, _ => exact absurd rfl hq
        | k + 3, _, h => exact h
      exact gen h1
  case invokespecial x =>
    have h9 : (match (generalizing := false) q with
      | 8 => (match st with
        | .inl (some _) :: st' => bif Nat.ble (amCat st') 8 then (.inl (nx, L, st', M, G, n) : AmR1) else amNo1
        | _ => amNo1)
      | _ => (match st.drop (b - 1) with
        | .inl (some (_, c, _)) :: _ => bif c == a && (Nat.ble b st.length && Nat.ble (amCat (st.drop b)) 8) then (match cal1 a (st.take b).reverse M G n with
          | some (M', G', n') => (.inl (nx, L, st.drop b, M', G', n') : AmR1)
          | none => amNo1) else amNo1
        | _ => amNo1)) = .inl (pc', L', st', M', G', n') := h
    split at h9
    · split at h9
      · rename_i st1
        cases hb : Nat.ble (amCat st1) 8 with
        | false => rw [hb] at h9; cases h9
        | true => rw [hb] at h9; cases h9; exact Nat.le_refl _
      · cases h9
    · split at h9
      · rename_i c1 s1 r1 hd
        cases hb : (c1 == a && (Nat.ble b st.length && Nat.ble (amCat (st.drop b)) 8)) with
        | false => rw [hb] at h9; cases h9
        | true =>
          rw [hb] at h9
          simp only [cond_true] at h9
          split at h9
          · rename_i M2 G2 n2 hc2
            cases h9
            exact hc _ _ _ _ _ _ _ _ hc2
          · cases h9
      · cases h9
  all_goals exact gen h
theorem amEx1_r (Z : AmZ) {i : Jvm.ClassFile.Instr} {nx a b q : Nat} {z : Int} {ts : List Nat} {L st : List AmV} {M : AmM} {G : AmG} {n : Nat} {M' : AmM} {G' : AmG} {n' : Nat} (h : amEx1 cal0 cal1 i nx a b q z ts L st M G n = .inr (some (M', G', n'))) : i = .return_ ∧ st = [] ∧ M' = M ∧ G' = G ∧ n' = n := by
  have genr : amLift (amEx G (cal0 G) i nx a b q z ts L st M) G n = .inr (some (M', G', n')) → i = .ireturn ∨ i = .lreturn ∨ i = .return_ := fun h => by
    obtain ⟨h1, -, -⟩ := amLift_r h
    exact am_retI (Z := zz Z (fun _ _ => 0) 0 G) h1
  cases i
  case new x =>
    exfalso
    have h2 : (match amFull[n]? with
      | some (c, s) => bif c == a then (.inl (nx, L, vR c c s :: st, amRst M c s, amGst1 G c s, n + 1) : AmR1) else amNo1
      | none => amNo1) = .inr (some (M', G', n')) := h
    split at h2
    · rename_i c s hx
      cases hb : (c == a) with
      | false => rw [hb] at h2; cases h2
      | true => rw [hb] at h2; cases h2
    · cases h2
  case newarray at_ =>
    exfalso
    have h2 : (match st with
      | .inr (.inl k) :: st' => (match amFull[n]? with
        | some (c, s) => bif amKndL.getD c 99 == a && decide (k = (amLenL.getD c 0 : Int)) then (.inl (nx, L, vR a c s :: st', amRst M c s, amGst1 G c s, n + 1) : AmR1) else amNo1
        | none => amNo1)
      | _ => amNo1) = .inr (some (M', G', n')) := h
    split at h2
    · rename_i k st1
      split at h2
      · rename_i c1 s1 hx
        cases hb : (amKndL.getD c1 99 == a && decide (k = (amLenL.getD c1 0 : Int))) with
        | false => rw [hb] at h2; cases h2
        | true => rw [hb] at h2; cases h2
      · cases h2
    · cases h2
  case anewarray x =>
    exfalso
    have h2 : (match st with
      | .inr (.inl k) :: st' => (match amFull[n]? with
        | some (c, s) => bif amKndL.getD c 99 == a && decide (k = (amLenL.getD c 0 : Int)) then (.inl (nx, L, vR a c s :: st', amRst M c s, amGst1 G c s, n + 1) : AmR1) else amNo1
        | none => amNo1)
      | _ => amNo1) = .inr (some (M', G', n')) := h
    split at h2
    · rename_i k st1
      split at h2
      · rename_i c1 s1 hx
        cases hb : (amKndL.getD c1 99 == a && decide (k = (amLenL.getD c1 0 : Int))) with
        | false => rw [hb] at h2; cases h2
        | true => rw [hb] at h2; cases h2
      · cases h2
    · cases h2
  case aastore =>
    exfalso
    have h2 : (match st with
      | .inl (some (kv, cv, sv)) :: .inr (.inl j) :: .inl (some (k, c, s)) :: st' => bif (k == 24 && cv == 5 || k == 25 && cv == 6) && (decide (0 ≤ j) && decide (j < (amLenL.getD c 0 : Int))) then (.inl (nx, L, st', M, amGup G c s j.toNat (vR kv cv sv), n) : AmR1) else amNo1
      | _ => amNo1) = .inr (some (M', G', n')) := h
    split at h2
    · rename_i kv cv sv j k c1 s1 st1
      cases hb : ((k == 24 && cv == 5 || k == 25 && cv == 6) && (decide (0 ≤ j) && decide (j < (amLenL.getD c1 0 : Int)))) with
      | false => rw [hb] at h2; cases h2
      | true => rw [hb] at h2; cases h2
    · cases h2
  case putfield x =>
    exfalso
    by_cases hq : q = 2
    · subst hq
      have h2 : (match st with
        | .inl (some (kv, cv, sv)) :: .inl (some (_, c, s)) :: st' => bif c == a then (.inl (nx, L, st', M, amGup G c s b (vR kv cv sv), n) : AmR1) else amNo1
        | _ => amNo1) = .inr (some (M', G', n')) := h
      split at h2
      · rename_i kv cv sv k1 c1 s1 st1
        cases hb : (c1 == a) with
        | false => rw [hb] at h2; cases h2
        | true => rw [hb] at h2; cases h2
      · cases h2
    · have h1 : amLift (amEx G (cal0 G) (.putfield x) nx a b q z ts L st M) G n = .inr (some (M', G', n')) := by
        match q, hq, h with
        | 0, _, h => exact h
        | 1, _, h => exact h
        | 2, hq, _ => exact absurd rfl hq
        | k + 3, _, h => exact h
      obtain ⟨h1, -, -⟩ := amLift_r h1
      rcases am_retI (Z := zz Z (fun _ _ => 0) 0 G) h1 with e | e | e <;> cases e
  case invokespecial x =>
    exfalso
    have h9 : (match (generalizing := false) q with
      | 8 => (match st with
        | .inl (some _) :: st' => bif Nat.ble (amCat st') 8 then (.inl (nx, L, st', M, G, n) : AmR1) else amNo1
        | _ => amNo1)
      | _ => (match st.drop (b - 1) with
        | .inl (some (_, c, _)) :: _ => bif c == a && (Nat.ble b st.length && Nat.ble (amCat (st.drop b)) 8) then (match cal1 a (st.take b).reverse M G n with
          | some (M', G', n') => (.inl (nx, L, st.drop b, M', G', n') : AmR1)
          | none => amNo1) else amNo1
        | _ => amNo1)) = .inr (some (M', G', n')) := h
    split at h9
    · split at h9
      · rename_i st1
        cases hb : Nat.ble (amCat st1) 8 with
        | false => rw [hb] at h9; cases h9
        | true => rw [hb] at h9; cases h9
      · cases h9
    · split at h9
      · rename_i c1 s1 r1 hd
        cases hb : (c1 == a && (Nat.ble b st.length && Nat.ble (amCat (st.drop b)) 8)) with
        | false => rw [hb] at h9; cases h9
        | true =>
          rw [hb] at h9
          simp only [cond_true] at h9
          split at h9 <;> cases h9
      · cases h9
  case ireturn =>
    exfalso
    obtain ⟨h1, -, -⟩ := amLift_r (r := amEx G (cal0 G) .ireturn nx a b q z ts L st M) h
    have h2 : (match st with
      | [.inr (.inl x)] => (match (generalizing := false) q with
        | 0 => (.inr (some (vI x, M)) : AmR)
        | _ => bif amZ x then (.inr (some (vI x, M)) : AmR) else amNo)
      | _ => (amNo : AmR)) = .inr (some (vU, M')) := h1
    split at h2
    · rename_i x
      split at h2
      · cases h2
      · cases hz : amZ x with
        | false => rw [hz] at h2; cases h2
        | true => rw [hz] at h2; cases h2
    · cases h2
  case lreturn =>
    exfalso
    obtain ⟨h1, -, -⟩ := amLift_r (r := amEx G (cal0 G) .lreturn nx a b q z ts L st M) h
    have h2 : (match st with
      | [.inr (.inr (.inl x))] => (.inr (some (vL x, M)) : AmR)
      | _ => (amNo : AmR)) = .inr (some (vU, M')) := h1
    split at h2 <;> cases h2
  case return_ =>
    obtain ⟨h1, rfl, rfl⟩ := amLift_r (r := amEx G (cal0 G) .return_ nx a b q z ts L st M) h
    have h2 : (match st with
      | [] => (.inr (some (vU, M)) : AmR)
      | _ => (amNo : AmR)) = .inr (some (vU, M')) := h1
    split at h2
    · cases h2; exact ⟨rfl, rfl, rfl, rfl, rfl⟩
    · cases h2
  all_goals
    exfalso
    rcases genr h with e | e | e <;> cases e
theorem amStep1_of {pc : Nat} {L st : List AmV} {M : AmM} {G : AmG} {n : Nat} {en : AmE} (h : cd[pc]? = some (some en)) : amStep1 cal0 cal1 cd (pc, L, st, M, G, n) = amEx1 cal0 cal1 en.1 en.2.1 en.2.2.1 en.2.2.2.1 en.2.2.2.2.1 en.2.2.2.2.2.1 en.2.2.2.2.2.2 L st M G n := by
  unfold amStep1
  simp only [h]
theorem amStep1_en {c : AmC1} {r : AmR1} (h : amStep1 cal0 cal1 cd c = r) (hr : r ≠ amNo1) : ∃ en, cd[c.1]? = some (some en) := by
  unfold amStep1 at h
  cases hcd : cd[c.1]? with
  | none => rw [hcd] at h; exact absurd h.symm hr
  | some oe =>
    cases oe with
    | none => rw [hcd] at h; exact absurd h.symm hr
    | some en => exact ⟨en, rfl⟩
theorem amB_n (hc : ∀ ct as M G n M' G' n', cal1 ct as M G n = some (M', G', n') → n ≤ n') : ∀ (k : Nat) (c c' : AmC1), amB (amStep1 cal0 cal1 cd) k c = .inl c' → c.2.2.2.2.2 ≤ c'.2.2.2.2.2
  | 0, c, c', h => by
    have h : (.inl c : AmR1) = .inl c' := h
    cases h
    exact Nat.le_refl _
  | k + 1, c, c', h => by
    unfold amB at h
    cases hf : amStep1 cal0 cal1 cd c with
    | inr r => rw [hf] at h; cases h
    | inl c1 =>
      rw [hf] at h
      have h1 := amB_n hc k c1 c' h
      obtain ⟨en, hen⟩ := amStep1_en hf (by intro h; cases h)
      obtain ⟨pc, L, st, M, G, n⟩ := c
      obtain ⟨pc1, L1, st1, M1, G1, n1⟩ := c1
      rw [amStep1_of hen] at hf
      exact Nat.le_trans (amEx1_n hc hf) h1
end AmP1
theorem amN_B {σ ρ : Type} {f : σ → σ ⊕ Option ρ} {r : ρ} : ∀ {k : Nat} {c : σ}, amN f k c = some r → ∃ j c', amB f j c = .inl c' ∧ f c' = .inr (some r)
  | 0, _, h => by cases h
  | k + 1, c, h => by
    unfold amN at h
    cases hf : f c with
    | inl c1 =>
      rw [hf] at h
      obtain ⟨j, c', h1, h2⟩ := amN_B h
      exact ⟨j + 1, c', by unfold amB; rw [hf]; exact h1, h2⟩
    | inr o =>
      rw [hf] at h
      have h : o = some r := h
      subst h
      exact ⟨0, c, rfl, hf⟩
theorem amD1_n : ∀ (d ct : Nat) (as : List AmV) (M : AmM) (G : AmG) (n : Nat) (M' : AmM) (G' : AmG) (n' : Nat), amD1 d ct as M G n = some (M', G', n') → n ≤ n'
  | 0, _, _, _, _, _, _, _, _, h => by cases h
  | d + 1, ct, as, M, G, n, M', G', n', h => by
    have h : (bif Nat.ble (amLay as).length (amCtL.getD ct 0) && amLgB [] 0 (amLay as) then amN (amStep1 (fun G => amDf G 4) (amD1 d) (amCtC.getD ct [])) 3000 (0, amEnt (amCtL.getD ct 0) as, [], M, G, n) else none) = some (M', G', n') := h
    cases hb : (Nat.ble (amLay as).length (amCtL.getD ct 0) && amLgB [] 0 (amLay as)) with
    | false => rw [hb] at h; cases h
    | true =>
      rw [hb] at h
      obtain ⟨j, c', h1, h2⟩ := amN_B h
      have h3 := amB_n (amD1_n d) j _ c' h1
      obtain ⟨en, hen⟩ := amStep1_en h2 (by intro h; cases h)
      obtain ⟨pc, L, st, M1, G1, n1⟩ := c'
      rw [amStep1_of hen] at h2
      obtain ⟨-, -, -, -, rfl⟩ := amEx1_r ((fun _ _ => 0), [], G, (fun _ => 0), (((fun _ => 0), (fun _ _ => 0)) : va_G), (fun _ => True), (fun _ => 0), 0) h2
      exact h3
section AmC2
variable {p : Program} {l : Launch} {e : Env} {R : Room} {s : State} {m : MethodId} {args : Array Value} {below : List Frame} {meth : Method} {c : Code} {Q : State → Prop}
variable {cc : ByteArray} {Z : AmZ} {nL : Nat} {o : Nat} {ret : Option FieldType} {cal1 : Nat → List AmV → AmM → AmG → Nat → Option (AmM × AmG × Nat)} {cd : List (Option AmE)}
/-- a run of a constructor -/
theorem am_run1 {lo d : Nat} (hcal : amAll1 l Z lo d cal1) (hn1 : ∀ ct as M G n M' G' n', cal1 ct as M G n = some (M', G', n') → n ≤ n') (S : CallFix p m c cc nL s args amT0 (amR o)) (hAO : amAOs s) (hlo : lo ≤ s.heap.size) (hA : ∀ q, s.heap.size ≤ q → zA Z q) (hin : meth.name = "<init>" ∨ o = 13)
    (hR : d + 31 ≤ R.frames ∧ 6100 + 200 * d ≤ R.locals) (hchk : amChkQ cc o ret cd = true) {pc' : Nat} {L' st' : List AmV} {M' : AmM} {G' : AmG} {n' : Nat} :
    ∀ (k pc : Nat) (L st : List AmV) (M : AmM) (G : AmG) (n cells slots : Nat) (ad : Nat → Nat → Nat) (ls : Array Slot) (H : Heap) (locs : List Loc),
      amB (amStep1 (fun G => amDf G 4) cal1 cd) k (pc, L, st, M, G, n) = .inl (pc', L', st', M', G', n') → cells + (n' - n) ≤ R.cells ∧ slots + (amSz n' - amSz n) ≤ R.slots →
      amKS (zz Z ad n G) s → amXS (zz Z ad n G) s s.heap → amFx1 (zz Z ad n G) → amRel (zz Z ad n G) s.heap nL [] L st M ls H locs →
      (∀ (ad' : Nat → Nat → Nat) (ls' : Array Slot) (H' : Heap) (locs' : List Loc), amAgr (amFull.take n) ad ad' → amFx1 (zz Z ad' n' G') → amRel (zz Z ad' n' G') s.heap nL [] L' st' M' ls' H' locs' → W p l e R s m args below meth c H' locs' (cells + (n' - n)) (slots + (amSz n' - amSz n)) Q (F0 m pc' ls' (st'.map (amV ad')))) →
      W p l e R s m args below meth c H locs cells slots Q (F0 m pc ls (st.map (amV ad))) := by
  intro k
  induction k with
  | zero =>
    intro pc L st M G n cells slots ad ls H locs h hRc hK hX hfx hr kk
    have h : (.inl (pc, L, st, M, G, n) : AmR1) = .inl (pc', L', st', M', G', n') := h
    cases h
    have k1 := kk ad ls H locs amAgr.refl hfx hr
    rw [Nat.sub_self, Nat.sub_self, Nat.add_zero, Nat.add_zero] at k1
    exact k1
  | succ k ih =>
    intro pc L st M G n cells slots ad ls H locs h hRc hK hX hfx hr kk
    unfold amB at h
    cases hf : amStep1 (fun G => amDf G 4) cal1 cd (pc, L, st, M, G, n) with
    | inr r => rw [hf] at h; cases h
    | inl c1 =>
      rw [hf] at h
      have h : amB (amStep1 (fun G => amDf G 4) cal1 cd) k c1 = .inl (pc', L', st', M', G', n') := h
      obtain ⟨en, hen⟩ := amStep1_en hf (by intro h; cases h)
      obtain ⟨pc1, L1, st1, M1, G1, n1⟩ := c1
      rw [amStep1_of hen] at hf
      have g1 : n ≤ n1 := amEx1_n hn1 hf
      have g2 : n1 ≤ n' := amB_n hn1 k _ _ h
      have g3 := amSz_mono g1
      have g4 := amSz_mono g2
      obtain ⟨i, nx, a, b, q, z, ts⟩ := en
      refine am_sim1 hcal S hK hAO hX hlo hA hfx hin hR ⟨by omega, by omega⟩ hen hchk hf hr fun ad1 ls1 H1 locs1 _ a1 f1 r1 => ?_
      refine ih pc1 L1 st1 M1 G1 n1 _ _ ad1 ls1 H1 locs1 h ⟨by omega, by omega⟩ (amKS_agr a1 hK) (amXS_agr a1 hX) f1 r1 fun ad2 ls2 H2 locs2 a2 f2 r2 => ?_
      have k1 := kk ad2 ls2 H2 locs2 (a1.trans g1 a2) f2 r2
      rw [show cells + (n' - n) = cells + (n1 - n) + (n' - n1) by omega, show slots + (amSz n' - amSz n) = slots + (amSz n1 - amSz n) + (amSz n' - amSz n1) by omega] at k1
      exact k1
end AmC2
theorem am_entry1 {ad : Nat → Nat → Nat} {as : List AmV} {N : Nat} {al : List (Nat × Nat)} (has : ∀ w ∈ as, amOk al w ∧ amSet w) (hlg : amLgB [] 0 (amLay as) = true) (hlen : (amLay as).length ≤ N) (m : MethodId) : ∃ ls : Array Slot, entryFrame m (as.map (amV ad)).toArray N = F0 m 0 ls (([] : List AmV).map (amV ad)) ∧ (ls.size = N ∧ lv_wf ls ∧ ∀ (i : Nat) (v : AmV), (amEnt N as)[i]? = some v → amSet v → ls[i]? = some (.val (amV ad v))) ∧ (amEnt N as).length = N ∧ (∀ v ∈ amEnt N as, amOk al v) ∧ (∀ (i : Nat) (x : Int), (amEnt N as)[i]? = some (vL x) → i ∈ ([] : List Nat)) := by
  have hset : ∀ w ∈ as, amSet w := fun w hw => (has w hw).2
  rw [lg_entry_eq]
  have hl0 := amLay_len (ad := ad) as hset
  have hle := lv_entry (as.map (amV ad)) (n := N) (by rw [hl0]; exact hlen)
  refine ⟨_, rfl, ⟨hle.1, hle.2.1, fun i w hw hws => ?_⟩, ?_, fun w hw => ?_, fun i x hx => ?_⟩
  · have hw : (amLay as ++ List.replicate (N - (amLay as).length) vU)[i]? = some w := hw
    by_cases hi : i < (amLay as).length
    · rw [List.getElem?_append_left hi] at hw
      have h2 := amLay_at (ad := ad) as hset i w hw hws
      rw [List.getElem?_toArray, List.getElem?_append_left (by rw [hl0]; exact hi)]
      exact h2
    · rw [List.getElem?_append_right (by omega), List.getElem?_replicate] at hw
      split at hw
      · cases hw; exact absurd hws (fun q => q)
      · cases hw
  · show (amLay as ++ List.replicate (N - (amLay as).length) vU).length = _
    rw [List.length_append, List.length_replicate]; omega
  · have hw : w ∈ amLay as ++ List.replicate (N - (amLay as).length) vU := hw
    rcases List.mem_append.mp hw with hw | hw
    · rcases amLay_mem as w hw with rfl | hw
      · trivial
      · exact (has w hw).1
    · rw [(List.mem_replicate.mp hw).2]; trivial
  · have hx : (amLay as ++ List.replicate (N - (amLay as).length) vU)[i]? = some (vL x) := hx
    by_cases hi : i < (amLay as).length
    · rw [List.getElem?_append_left hi] at hx
      have := amLgB_of 0 _ hlg i x hx
      rwa [Nat.zero_add] at this
    · rw [List.getElem?_append_right (by omega), List.getElem?_replicate] at hx
      split at hx
      · cases hx
      · cases hx
/-- EVERY CONSTRUCTOR OF THE SMALL MACHINE HAS ITS CONTRACT -/
theorem am_sound1 (l : Launch) (Z : AmZ) (lo : Nat) : ∀ d, amAll1 l Z lo d (amD1 d) := by
  intro d
  induction d with
  | zero => intro ct as M G n M' G' n' _ h; cases h
  | succ d ih =>
    intro ct as M G n M' G' n' hct h
    have h1 : (bif Nat.ble (amLay as).length (amCtL.getD ct 0) && amLgB [] 0 (amLay as) then amN (amStep1 (fun G => amDf G 4) (amD1 d) (amCtC.getD ct [])) 3000 (0, amEnt (amCtL.getD ct 0) as, [], M, G, n) else none) = some (M', G', n') := h
    refine ⟨amD1_n (d + 1) ct as M G n M' G' n' h, fun ad has hfx hpu => ?_⟩
    cases hb : (Nat.ble (amLay as).length (amCtL.getD ct 0) && amLgB [] 0 (amLay as)) with
    | false => rw [hb] at h1; cases h1
    | true =>
      rw [hb] at h1
      simp only [Bool.and_eq_true] at hb
      have hlen := Nat.le_of_ble_eq_true hb.1
      obtain ⟨j, c', hB, hE⟩ := amN_B h1
      obtain ⟨en, hen⟩ := amStep1_en hE (by intro h; cases h)
      obtain ⟨pc', L', st', M2, G2, n2⟩ := c'
      rw [amStep1_of hen] at hE
      obtain ⟨e1, rfl, rfl, rfl, rfl⟩ := amEx1_r Z hE
      obtain ⟨m1, m2, m3, m4, m5, m6, m7, m8⟩ := amCt_ok ct hct
      have hchk := amChkQ_all ct hct
      obtain ⟨hcS, -⟩ := am_chkQ hchk hen
      obtain ⟨i, nx, a, b, q, z, ts⟩ := en
      have e1 : i = .return_ := e1
      subst e1
      obtain ⟨len, hdec, hln, -⟩ := am_chk1_of (cc := amByC.getD ct ⟨#[]⟩) (o := ct) (ret := none) (lg := []) (pc := pc') (en := (.return_, nx, a, b, q, z, ts)) hcS
      obtain ⟨rfl, -⟩ := hln (fun _ _ _ _ h => by cases h)
      refine Met.ofW (cc := amByC.getD ct ⟨#[]⟩) (maxL := amCtL.getD ct 0) (ret := none) m4 rfl ?_
      intro p e s m args below meth c s₁ B hml hv
      obtain ⟨⟨rfl, hKS, hP, hXS, hlo⟩, hAO, hA⟩ := hv
      have hts0 := atoms_spec (ws := amWsC ct) B.pre
      have hts : ∀ w ∈ amT0, w.before ((as.map (amV (zAd (zz Z ad n G)))).toArray) s = true := fun w hw => hts0 w (List.mem_cons_of_mem _ hw)
      have hown : s.vm.findClass (amR ct) = some m.cls := by rw [← m6]; exact findClass_of_methodNamed B.named
      have hin : meth.name = "<init>" := by rw [(name_of_methodNamed B.named B.method).1]; exact m7
      obtain ⟨ls, he, g1, g2, g3, g4⟩ := am_entry1 (ad := ad) has hb.2 hlen m
      have he : entryFrame m (as.map (amV (zAd (zz Z ad n G)))).toArray (amCtL.getD ct 0) = F0 m 0 ls (([] : List AmV).map (amV ad)) := he
      rw [he]
      refine am_run1 (R := amRm1 (d + 1) (n' - n) (amSz n' - amSz n)) ih (amD1_n d) ⟨B.exec, B.bytes, hml, hown, hts⟩ hAO hlo hA (Or.inl hin) ⟨by show d + 31 ≤ d + 1 + 30; omega, by show 6100 + 200 * d ≤ 200 * (d + 1) + 6000; omega⟩ hchk j 0 _ [] M G n 0 0 ad ls s.heap [] hB ⟨by show 0 + (n' - n) ≤ n' - n; omega, by show 0 + (amSz n' - amSz n) ≤ amSz n' - amSz n; omega⟩ hKS hXS hfx ⟨g1, g2, g3, g4, fun w hw => (by simp at hw), hP, hpu.1, va_S.rf, hpu.2.1, hpu.2.2⟩ fun ad' ls' H' locs' hag hfx' hr' => ?_
      rw [Nat.zero_add, Nat.zero_add]
      have hS := hr'.2.2.2.2.2.2.2.1
      refine W.vret B.exec B.bytes B.returns (fun t ht _ => ⟨rfl, by rw [ht]; exact hS.1, fun q h1 h2 => by rw [ht]; exact hS.2.1 q h1 h2, ad', hag, by rw [ht]; exact hr'.2.2.2.2.2.1, ⟨hr'.2.2.2.2.2.2.1, hr'.2.2.2.2.2.2.2.2.1, hr'.2.2.2.2.2.2.2.2.2⟩, hfx'⟩) hS.2.2 hdec B.notSynchronized
