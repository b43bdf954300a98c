section AmS6
variable {p : Program} {l : Launch} {e : Env} {R : Room} {s : State} {m : MethodId} {args : Array Value} {below : List Frame} {meth : Method} {c : Code} {cells slots : Nat} {Q : State → Prop}
variable {cc : ByteArray} {Z : AmZ} {nL : Nat} {lg : List Nat} {L st : List AmV} {M : AmM} {ls : Array Slot} {H : Heap} {locs : List Loc} {pc : Nat}
variable {ConT ConL : List (Nat × Nat × Int)} {StrT : List (Nat × Nat × Nat)} {FldT MthT : List (Nat × Nat × Nat × Nat)} {Npar : Nat → Nat} {o : Nat} {ret : Option FieldType} {cal : Nat → List AmV → AmM → Option (AmV × AmM)} {nx a b q : Nat} {z : Int} {ts : List Nat} {c' : AmC}
/-- the new world behind a write -/
theorem amRel.put {H0 H1 : Heap} {locs1 : List Loc} {st' : List AmV} {C s' j : Nat} {v : Int} (hr : amRel Z H0 nL lg L st M ls H locs) (hs : ∀ v ∈ st', v ∈ st) (h1 : va_P (zD Z) amClasses (amW Z (amUp M C s' j v)) H1) (h2 : va_D (zA Z) (amW Z (amUp M C s' j v))) (h3 : va_S (zA Z) H0 H1 locs1) (h4 : amKndL.getD C 99 ≠ 21 → i32 v) (h5 : i64 v) (h6 : C ≠ 90) :
    amRel Z H0 nL lg L st' (amUp M C s' j v) ls H1 locs1 :=
  ⟨hr.1, hr.2.1, hr.2.2.1, hr.2.2.2.1, fun v hv => hr.2.2.2.2.1 v (hs v hv), h1, h2, h3, amUp_I hr.2.2.2.2.2.2.2.2.1 h4 h5, amUp_X hr.2.2.2.2.2.2.2.2.2 h6⟩
theorem i32_64 {x : Int} (h : i32 x) : i64 x := by unfold i32 at h; unfold i64; omega
theorem amRow_len {ad : Nat → Nat → Nat} {C : Nat} {f : Nat → Int} {g : Nat → AmV} : ((List.range (amFkL.getD C []).length).map (amFv ad C f g)).length = (amFkL.getD C []).length := by simp
theorem amRow_get {ad : Nat → Nat → Nat} {C k : Nat} {f : Nat → Int} {g : Nat → AmV} (hk : k < (amFkL.getD C []).length) : ((List.range (amFkL.getD C []).length).map (amFv ad C f g))[k]? = some (amFv ad C f g k) := by
  rw [List.getElem?_map, List.getElem?_range hk]; rfl
theorem amRow_set {ad : Nat → Nat → Nat} {C k : Nat} {f f' : Nat → Int} {g : Nat → AmV} {x : Int} (hk : k < (amFkL.getD C []).length) (hq : (amFkL.getD C []).getD k 0 ≠ 2) (h1 : f' k = x) (h2 : ∀ j, j ≠ k → f' j = f j) :
    ((List.range (amFkL.getD C []).length).map (amFv ad C f g)).set k (.int (Int32.ofInt x)) = (List.range (amFkL.getD C []).length).map (amFv ad C f' g) := by
  apply List.ext_getElem?
  intro i
  by_cases hi : i = k
  · subst hi
    rw [List.getElem?_set_self (by rw [amRow_len]; exact hk), amRow_get hk]
    unfold amFv
    split
    · rename_i h; exact absurd h hq
    · rw [h1]
  · rw [List.getElem?_set_ne (Ne.symm hi), List.getElem?_map, List.getElem?_map]
    cases hr : (List.range (amFkL.getD C []).length)[i]? with
    | none => rfl
    | some w =>
      have : w = i := by
        obtain ⟨hl, he⟩ := List.getElem?_eq_some_iff.mp hr
        rw [List.getElem_range] at he
        exact he.symm
      subst this
      simp only [Option.map_some]
      unfold amFv
      rw [h2 w hi]
theorem am_okR {k C s' : Nat} (h : amOk (zAl Z) (vR k C s')) (h90 : C ≠ 90) (h98 : C ≠ 98) (h99 : C ≠ 99) : (C, s') ∈ zAl Z := by
  rcases h.2 with h | ⟨h | h | h, -⟩
  · exact h.1
  · exact absurd h h90
  · exact absurd h h98
  · exact absurd h h99
theorem am_getf {x : Nat} (hF : ∀ t ∈ FldT, amFldOk t) (S : CallFix p m c cc nL s args amT0 (amR o)) (hK : amKS Z s) (hfx : amFx Z) (hd : decode cc pc = .ok (.getfield x, 3))
    (hc : amChkI ConT ConL StrT FldT MthT Npar o ret lg pc (.getfield x) (pc + 3) a b q z ts = true) (h : amEx (zG Z) cal (.getfield x) (pc + 3) a b q z ts L st M = .inl c')
    (hr : amRel Z s.heap nL lg L st M ls H locs) (kk : amGo p l e R s m args below meth c cells slots Q Z nL lg c') : W p l e R s m args below meth c H locs cells slots Q (F0 m pc ls (st.map (amV (zAd Z)))) := by
  obtain ⟨hx, hb, hml, hown, hts⟩ := S
  have hc2 : (FldT.contains (o, x, a, b) && (decide (a < 13) && (decide (b < (amFkL.getD a []).length) && decide (q = (amFkL.getD a []).getD b 0)))) = true := hc
  simp only [Bool.and_eq_true, decide_eq_true_eq, List.contains_iff_mem] at hc2
  obtain ⟨e1, e2, e3, e4⟩ := hc2
  have h2 : (match st with
    | .inl (some (_, c, s)) :: st' => (bif c == a then (match (generalizing := false) q with
      | 2 => .inl (pc + 3, L, zG Z c s b :: st', M)
      | _ => .inl (pc + 3, L, vI (M c s b) :: st', M)) else amNo : AmR)
    | _ => amNo) = .inl c' := h
  split at h2
  · rename_i k1 C s' st'
    cases hC : C == a with
    | false => rw [hC] at h2; cases h2
    | true =>
      have hCa : C = a := eq_of_beq hC
      subst hCa
      rw [hC] at h2
      have hok := hr.top (v := vR k1 C s') (by simp)
      have hmem := am_okR hok (by omega) (by omega) (by omega)
      obtain ⟨cl1, cl2, cl3, ty, cl4⟩ := amCl_ok e2
      obtain ⟨pp, hp1, hp2⟩ := amW_at (M := M) hmem
      have hce : amCell (zC Z) (zAd Z) C (M C s') (zG Z C s') = .inr (C, (List.range (amFkL.getD C []).length).map (amFv (zAd Z) C (M C s') (zG Z C s'))) := if_pos e2
      rw [hce] at hp2
      have hs : ∀ v ∈ st', amOk (zAl Z) v ∧ amSet v := fun v hv => hr.2.2.2.2.1 v (by simp [hv])
      have key : W p l e R s m args below meth c H locs cells slots Q (F0 m (pc + 3) ls (amFv (zAd Z) C (M C s') (zG Z C s') b :: st'.map (amV (zAd Z)))) := by
        unfold amFv
        split
        · rename_i hq2
          have hq : q = 2 := e4.trans hq2
          subst hq
          cases h2
          obtain ⟨g1, g2, r, g3⟩ := (hfx.2.2.2 (C, s') hmem b).1 e2 hq2
          refine kk ls H locs (hr.st fun v hv => ?_)
          rcases List.mem_cons.mp hv with rfl | hv
          · exact ⟨g1, g2⟩
          · exact hs v hv
        · rename_i hq2
          have hq : q ≠ 2 := fun z => hq2 (e4.symm.trans z)
          have h3 : (.inl (pc + 3, L, vI (M C s' b) :: st', M) : AmR) = .inl c' := by
            rw [← h2]
            show _ = (match (generalizing := false) q with
              | 2 => (.inl (pc + 3, L, zG Z C s' b :: st', M) : AmR)
              | _ => (.inl (pc + 3, L, vI (M C s' b) :: st', M) : AmR))
            split
            · rename_i hz; exact absurd rfl hq
            · rfl
          cases h3
          refine kk ls H locs (hr.st fun v hv => ?_)
          rcases List.mem_cons.mp hv with rfl | hv
          · exact ⟨(hr.2.2.2.2.2.2.2.2.1 C s' b).1 (by rw [amKnd_lo C e2]; omega), trivial⟩
          · exact hs v hv
      rcases hF _ e1 with hl | hl
      · exact va_get (D := zD Z) (ci := C) hx hb hts cl2 hown hK.1 hr.2.2.2.2.2.1 pp hp2 cl1 b e3 (hts _ hl) (fun _ h => h) (amRow_get e3) hd key
      · exact va_getN (D := zD Z) (ci := C) hx hb hts cl2 hown hK.1 hr.2.2.2.2.2.1 pp hp2 cl1 b e3 (va_Nw.use rfl (hK.2.1 _ hl)) (fun _ h => h) (amRow_get e3) hd key
  · cases h2
theorem am_putf {x : Nat} (hF : ∀ t ∈ FldT, amFldOk t) (S : CallFix p m c cc nL s args amT0 (amR o)) (hK : amKS Z s) (hfx : amFx Z) (hd : decode cc pc = .ok (.putfield x, 3))
    (hc : amChkI ConT ConL StrT FldT MthT Npar o ret lg pc (.putfield x) (pc + 3) a b q z ts = true) (h : amEx (zG Z) cal (.putfield x) (pc + 3) a b q z ts L st M = .inl c')
    (hr : amRel Z s.heap nL lg L st M ls H locs) (kk : amGo p l e R s m args below meth c cells slots Q Z nL lg c') : W p l e R s m args below meth c H locs cells slots Q (F0 m pc ls (st.map (amV (zAd Z)))) := by
  obtain ⟨hx, hb, hml, hown, hts⟩ := S
  have hc2 : (FldT.contains (o, x, a, b) && (decide (a < 13) && (decide (b < (amFkL.getD a []).length) && (decide (q = (amFkL.getD a []).getD b 0) && (decide ((amTf a b).2.2.2 = false) && (decide (q = 0 ∧ (amTf a b).2.2.1 = "I") || decide (q = 3 ∧ (amTf a b).2.2.1 = "Z"))))))) = true := hc
  simp only [Bool.and_eq_true, Bool.or_eq_true, decide_eq_true_eq, List.contains_iff_mem] at hc2
  obtain ⟨e1, e2, e3, e4, e5, e6⟩ := hc2
  have h2 : (match st with
    | .inr (.inl x) :: .inl (some (_, c, s)) :: st' => (bif c == a then (match (generalizing := false) q with
      | 0 => .inl (pc + 3, L, st', amUp M c s b x)
      | 3 => bif amZ x then .inl (pc + 3, L, st', amUp M c s b x) else amNo
      | _ => amNo) else amNo : AmR)
    | _ => amNo) = .inl c' := h
  split at h2
  · rename_i y k1 C s' st'
    cases hC : C == a with
    | false => rw [hC] at h2; cases h2
    | true =>
      have hCa : C = a := eq_of_beq hC
      subst hCa
      rw [hC] at h2
      have hok := hr.top (v := vR k1 C s') (by simp)
      have hy : i32 y := hr.top (v := vI y) (by simp)
      have hmem := am_okR hok (by omega) (by omega) (by omega)
      obtain ⟨cl1, cl2, cl3, ty, cl4⟩ := amCl_ok e2
      obtain ⟨pp, hp1, hp2⟩ := amW_at (M := M) hmem
      have hce : ∀ M : AmM, amCell (zC Z) (zAd Z) C (M C s') (zG Z C s') = .inr (C, (List.range (amFkL.getD C []).length).map (amFv (zAd Z) C (M C s') (zG Z C s'))) := fun M => if_pos e2
      rw [hce] at hp2
      have hq2 : (amFkL.getD C []).getD b 0 ≠ 2 := by rw [← e4]; rcases e6 with ⟨h, -⟩ | ⟨h, -⟩ <;> omega
      have hb01 : q = 3 → y = 0 ∨ y = 1 := by
        intro hq
        subst hq
        cases hz : amZ y with
        | false =>
          have h2 : (bif amZ y then (.inl (pc + 3, L, st', amUp M C s' b y) : AmR) else amNo) = .inl c' := h2
          rw [hz] at h2; cases h2
        | true => simpa [amZ] using hz
      have hcc : c' = (pc + 3, L, st', amUp M C s' b y) := by
        rcases e6 with ⟨hq, -⟩ | ⟨hq, -⟩
        · subst hq; cases h2; rfl
        · have h01 := hb01 hq
          subst hq
          have h2 : (bif amZ y then (.inl (pc + 3, L, st', amUp M C s' b y) : AmR) else amNo) = .inl c' := h2
          have hz : amZ y = true := by simpa [amZ] using h01
          rw [hz] at h2; cases h2; rfl
      subst hcc
      have hset := amW_set (Z := Z) (M := M) (M' := amUp M C s' b y) (x := .inr (C, ((List.range (amFkL.getD C []).length).map (amFv (zAd Z) C (M C s') (zG Z C s'))).set b (.int (Int32.ofInt y)))) hfx.1 hp1 (fun c' s2 h => amUp_off h) (by rw [hce (amUp M C s' b y), amRow_set (f' := amUp M C s' b y C s') e3 hq2 (by rw [amUp_on, if_pos rfl]) (fun j hj => by rw [amUp_on, if_neg hj])])
      obtain ⟨ty1, f1, f2, f3⟩ : ∃ ty1 : FieldType, parseFieldDescriptor (amTf C b).2.2.1 = some ty1 ∧ narrow ty1 (.int (Int32.ofInt y)) = .int (Int32.ofInt y) ∧ fits ty1 (.int (Int32.ofInt y)) = true := by
        rcases e6 with ⟨hq, ht⟩ | ⟨hq, ht⟩
        · exact ⟨.int, by rw [ht]; rfl, rfl, rfl⟩
        · rcases hb01 hq with rfl | rfl
          · exact ⟨.boolean, by rw [ht]; rfl, by decide, by decide⟩
          · exact ⟨.boolean, by rw [ht]; rfl, by decide, by decide⟩
      have fin : ∀ (H1 : Heap) (locs1 : List Loc), va_P (zD Z) amClasses ((amW Z M).set pp (zAd Z C s', .inr (C, ((List.range (amFkL.getD C []).length).map (amFv (zAd Z) C (M C s') (zG Z C s'))).set b (.int (Int32.ofInt y))))) H1 → va_D (zA Z) ((amW Z M).set pp (zAd Z C s', .inr (C, ((List.range (amFkL.getD C []).length).map (amFv (zAd Z) C (M C s') (zG Z C s'))).set b (.int (Int32.ofInt y))))) → va_S (zA Z) s.heap H1 locs1 → W p l e R s m args below meth c H1 locs1 cells slots Q (F0 m (pc + 3) ls (st'.map (amV (zAd Z)))) := by
        intro H1 locs1 g1 g2 g3
        rw [hset] at g1 g2
        exact kk ls H1 locs1 (hr.put (fun v hv => by simp [hv]) g1 g2 g3 (fun _ => hy) (i32_64 hy) (by omega))
      rcases hF _ e1 with hl | hl
      · exact va_put (D := zD Z) (ci := C) hx hb hts cl2 ty cl4 cl3 hown hK.1 hr.2.2.2.2.2.1 hr.2.2.2.2.2.2.1 hr.2.2.2.2.2.2.2.1 pp hp2 cl1 b e3 (hts _ hl) (fun _ h => h) e5 f1 f2 f3 (by rw [amRow_len]; exact e3) hd fin
      · exact va_putN (D := zD Z) (ci := C) hx hb hts cl2 ty cl4 cl3 hown hK.1 hr.2.2.2.2.2.1 hr.2.2.2.2.2.2.1 hr.2.2.2.2.2.2.2.1 pp hp2 cl1 b e3 (va_Nw.use rfl (hK.2.1 _ hl)) (fun _ h => h) e5 f1 f2 f3 (by rw [amRow_len]; exact e3) hd fin
  · cases h2
end AmS6
