section AmST
def amSm (k : Nat) : Room := { frames := k, cells := 0, slots := 0, locals := 60 * k }
def amVp (N : Nat) (len : List Nat) (byt : List (List Int32)) (adK adV : Nat → Nat) (A : Nat → Prop) (as : List Value) : Array Value → State → Prop := fun v U => v = as.toArray ∧ amVS N len byt adK adV A U U.heap
def amVq (r : Option Value) : Array Value → State → Outcome → State → Prop := fun _ st oc t => oc = .returned r ∧ t.heap = st.heap
variable {l : Launch} {N : Nat} {len : List Nat} {byt : List (List Int32)} {adK adV : Nat → Nat} {A : Nat → Prop} {i : Nat}
theorem mJ0_coder (hi : i < N) : Met l yJ0_coder_7d493 jw_J0_coder_7d493 (amSm 0) (amVp N len byt adK adV A [.ref (adK i)]) (amVq (some (.int 0))) 0 0 A := by
  refine Met.ofW (cc := cJ0_coder_7d493) (maxL := 1) (ret := some .byte) (by decide +kernel) rfl ?_
  intro p e s m args below meth c s₁ B hml hv
  obtain ⟨rfl, hV⟩ := hv
  have hts0 := atoms_spec (ws := jw_J0_coder_7d493) B.pre
  have hts : ∀ w ∈ amT0, w.before _ s = true := fun w hw => hts0 w (List.mem_cons_of_mem _ hw)
  have hown : s.vm.findClass RJ0 = some m.cls := findClass_of_methodNamed B.named
  have hx := B.exec
  have hb := B.bytes
  rw [lg_entry_eq]
  refine va_gets hx hb hV.2.1 va_S.rf hown (hts _ jl_J0_38) (fun _ h => h) dJ0_coder_7d493_0 ?_
  refine lv_if_eq hx hb dJ0_coder_7d493_3 (tgt := 13) (by decide) ?_ ?_
  · intro h; exact absurd h (by decide)
  intro _
  refine lv_aload_n hx hb (i := 0) (x := adK i) dJ0_coder_7d493_6 rfl rfl ?_
  refine vk_getf hx hb (hV.1.1 i hi).2.1 va_S.rf hown (hts _ jl_J0_15) (fun _ h => h) dJ0_coder_7d493_7 ?_
  refine lv_goto hx hb dJ0_coder_7d493_10 (tgt := 14) (by decide) ?_
  exact W.zret (ty := .byte) hx hb B.returns (by decide) (fun t ht _ => ⟨rfl, ht⟩) (fun _ h => by cases h) dJ0_coder_7d493_14 B.notSynchronized
theorem mJ0_isLatin1 (hi : i < N) : Met l yJ0_isLatin1_aae02 jw_J0_isLatin1_aae02 (amSm 0) (amVp N len byt adK adV A [.ref (adK i)]) (amVq (some (.int 1))) 0 0 A := by
  refine Met.ofW (cc := cJ0_isLatin1_aae02) (maxL := 1) (ret := some .boolean) (by decide +kernel) rfl ?_
  intro p e s m args below meth c s₁ B hml hv
  obtain ⟨rfl, hV⟩ := hv
  have hts0 := atoms_spec (ws := jw_J0_isLatin1_aae02) B.pre
  have hts : ∀ w ∈ amT0, w.before _ s = true := fun w hw => hts0 w (List.mem_cons_of_mem _ hw)
  have hown : s.vm.findClass RJ0 = some m.cls := findClass_of_methodNamed B.named
  have hx := B.exec
  have hb := B.bytes
  rw [lg_entry_eq]
  refine va_gets hx hb hV.2.1 va_S.rf hown (hts _ jl_J0_38) (fun _ h => h) dJ0_isLatin1_aae02_0 ?_
  refine lv_if_eq hx hb dJ0_isLatin1_aae02_3 (tgt := 17) (by decide) ?_ ?_
  · intro h; exact absurd h (by decide)
  intro _
  refine lv_aload_n hx hb (i := 0) (x := adK i) dJ0_isLatin1_aae02_6 rfl rfl ?_
  refine vk_getf hx hb (hV.1.1 i hi).2.1 va_S.rf hown (hts _ jl_J0_15) (fun _ h => h) dJ0_isLatin1_aae02_7 ?_
  refine lv_if_ne hx hb dJ0_isLatin1_aae02_10 (tgt := 17) (by decide) ?_ ?_
  · intro h; exact absurd rfl h
  intro _
  refine lv_iconst hx hb (v := 1) dJ0_isLatin1_aae02_13 (by decide) ?_
  refine lv_goto hx hb dJ0_isLatin1_aae02_14 (tgt := 18) (by decide) ?_
  exact W.zret (ty := .boolean) hx hb B.returns (by decide) (fun t ht _ => ⟨rfl, ht⟩) (fun _ h => by cases h) dJ0_isLatin1_aae02_18 B.notSynchronized
theorem mJ3_checkIndex {x y : Int32} {v : Value} (hc : v.category = 1) (h0 : ¬ x < 0) (h1 : x < y) : Met l yJ3_checkIndex_8e157 jw_J3_checkIndex_8e157 (amSm 0) (amVp N len byt adK adV A [.int x, .int y, v]) (amVq (some (.int x))) 0 0 A := by
  refine Met.ofW (cc := cJ3_checkIndex_8e157) (maxL := 3) (ret := some .int) (by decide +kernel) rfl ?_
  intro p e s m args below meth c s₁ B hml hv
  obtain ⟨rfl, hV⟩ := hv
  have hx := B.exec
  have hb := B.bytes
  rw [lg_entry_eq]
  refine lv_iload_n hx hb (i := 0) (x := x) dJ3_checkIndex_8e157_0 rfl rfl ?_
  refine lv_if_lt hx hb dJ3_checkIndex_8e157_1 (tgt := 9) (by decide) (fun h => absurd h h0) fun _ => ?_
  refine lv_iload_n hx hb (i := 0) (x := x) dJ3_checkIndex_8e157_4 rfl rfl ?_
  refine lv_iload_n hx hb (i := 1) (x := y) dJ3_checkIndex_8e157_5 rfl rfl ?_
  refine lv_icmp_lt hx hb dJ3_checkIndex_8e157_6 (tgt := 16) (by decide) (fun _ => ?_) (fun h => absurd h1 h)
  refine lv_iload_n hx hb (i := 0) (x := x) dJ3_checkIndex_8e157_16 rfl rfl ?_
  exact W.iret hx hb B.returns (fun t ht _ => ⟨rfl, ht⟩) (fun _ h => by cases h) dJ3_checkIndex_8e157_17 B.notSynchronized
end AmST
section AmST2
variable {p : Program} {l : Launch} {e : Env} {R : Room} {s : State} {m : MethodId} {args : Array Value} {below : List Frame} {meth : Method} {c : Code} {H : Heap} {locs : List Loc} {cells slots : Nat} {Q : State → Prop} {pc : Nat} {ls : Array Slot} {A : Nat → Prop}
/-- behind a call that only reads -/
theorem js_back {r : Option Value} {av : Array Value} {st0 rest : List Value} (hl : ∀ q ∈ locs, A q.base) (hrun : va_Run p l e R s m args below meth c H locs cells slots 0 0 (F0 m pc ls st0) rest (amVq r av) A)
    (kk : ∀ locs1 : List Loc, (∀ q ∈ locs1, A q.base) → W p l e R s m args below meth c H locs1 cells slots Q (F0 m (pc + 3) ls (r.toList ++ rest))) : W p l e R s m args below meth c H locs cells slots Q (F0 m pc ls st0) := by
  intro T hT X
  obtain ⟨w, st₀, t, T', L', h0, X', hL, e1, e2, ⟨hw, hh⟩, st1⟩ := hrun T hT X
  cases hw
  obtain ⟨t2, a1, b1⟩ := kk (locs ++ L') (fun q hq => by
    rcases List.mem_append.mp hq with h | h
    · exact hl q h
    · exact hL q h) T' (by rw [e1, hh, h0]) X'
  exact ⟨t2, st1 t2 a1, b1⟩
variable {N : Nat} {len : List Nat} {byt : List (List Int32)} {adK adV : Nat → Nat} {y : MethodName} {bytes cc : ByteArray} {maxL nL k n index : Nat} {ret : Option FieldType} {own : String}
theorem amVp_blind {as : List Value} : FrameBlind (amVp N len byt adK adV A as) := by
  intro av U g mk h
  exact ⟨h.1, amVS.moved (u := U) (U := U.calling g mk av) (Vm.Alike.refl U.vm) h.2⟩
theorem js_callS {r : Option Value} {As rest st0 : List Value} (S : CallFix p m c cc nL s args amT0 own) (hM : Met l y (Cond.code y bytes maxL ret :: amT0) (amSm k) (amVp N len byt adK adV A As) (amVq r) 0 0 A) (hg : GoodIn amT0 (Cond.code y bytes maxL ret :: amT0))
    (hl : Cond.methodLink own index y ∈ amT0) (hst : Cond.static y ∈ amT0) (hini : Cond.initialized y.cls ∈ amT0) (hd : y.cls ≠ "java/lang/invoke/MethodHandle" ∧ y.cls ≠ "java/lang/invoke/VarHandle" ∧ (parseMethodDescriptor y.desc).map (fun d => d.parameters.length) = some As.length)
    (hR : k + 1 ≤ R.frames ∧ 8 + (maxL + 11) + 60 * k ≤ R.locals ∧ cells ≤ R.cells ∧ slots ≤ R.slots) (hV : amVS N len byt adK adV A s s.heap) (hS : va_S A s.heap H locs) (hn : ls.size = nL) (hstack : st0 = As.reverse ++ rest) (hcat : (rest.map fun v => v.category).sum ≤ 8) (hdg : decode cc pc = .ok (.invokestatic index, 3))
    (kk : ∀ locs1 : List Loc, (∀ q ∈ locs1, A q.base) → W p l e R s m args below meth c H locs1 cells slots Q (F0 m (pc + 3) ls (r.toList ++ rest))) : W p l e R s m args below meth c H locs cells slots Q (F0 m pc ls st0) := by
  refine js_back (av := As.toArray) (rest := rest) hS.2.2 ?_ kk
  obtain ⟨hx, hb, hml, hown, hts⟩ := S
  exact va_runS ⟨hx, hb, hml, hown, hts⟩ hM ⟨callB_of As.length hts hg rfl rfl rfl (hts _ hini) (hts _ hl) hd ⟨hR.1, hR.2.1⟩, hts _ hst⟩ ⟨amVp_blind, fun U hU hW => ⟨rfl, by rw [hU]; exact amVS.moved hW.alike (hV.kept hS.2.1)⟩⟩ rfl rfl hn hstack (lv_room hcat) hdg ⟨hR.2.2.1, hR.2.2.2⟩
theorem js_callV {r : Option Value} {b : Nat} {As rest st0 : List Value} (S : CallFix p m c cc nL s args amT0 own) (hM : Met l y (Cond.code y bytes maxL ret :: amT0) (amSm k) (amVp N len byt adK adV A (.ref b :: As)) (amVq r) 0 0 A) (hg : GoodIn amT0 (Cond.code y bytes maxL ret :: amT0))
    (hl : Cond.methodLink own index y ∈ amT0) (hst : Cond.instanceMethod y ∈ amT0 ∧ Cond.selects y.cls y y ∈ amT0) (hini : Cond.initialized y.cls ∈ amT0) (hd : y.cls ≠ "java/lang/invoke/MethodHandle" ∧ y.cls ≠ "java/lang/invoke/VarHandle" ∧ (parseMethodDescriptor y.desc).map (fun d => d.parameters.length) = some As.length)
    (hR : k + 1 ≤ R.frames ∧ 8 + (maxL + 11) + 60 * k ≤ R.locals ∧ cells ≤ R.cells ∧ slots ≤ R.slots) (hV : amVS N len byt adK adV A s s.heap) (hrecv : ∃ cell : Cell, H[b]? = some cell ∧ cell.vm.isStatics = false ∧ s.vm.findClass y.cls = some cell.cls) (hS : va_S A s.heap H locs) (hn : ls.size = nL) (hstack : st0 = As.reverse ++ .ref b :: rest) (hcat : (rest.map fun v => v.category).sum ≤ 8) (hdg : decode cc pc = .ok (.invokevirtual index, 3))
    (kk : ∀ locs1 : List Loc, (∀ q ∈ locs1, A q.base) → W p l e R s m args below meth c H locs1 cells slots Q (F0 m (pc + 3) ls (r.toList ++ rest))) : W p l e R s m args below meth c H locs cells slots Q (F0 m pc ls st0) := by
  refine js_back (av := (Value.ref b :: As).toArray) (rest := rest) hS.2.2 ?_ kk
  obtain ⟨hx, hb, hml, hown, hts⟩ := S
  exact va_runV ⟨hx, hb, hml, hown, hts⟩ hM ⟨callB_of As.length hts hg rfl rfl rfl (hts _ hini) (hts _ hl) hd ⟨hR.1, hR.2.1⟩, hts _ hst.1, hts _ hst.2⟩ ⟨amVp_blind, hrecv, fun U hU hW => ⟨rfl, by rw [hU]; exact amVS.moved hW.alike (hV.kept hS.2.1)⟩⟩ rfl rfl hn hstack (lv_room hcat) hdg ⟨hR.2.2.1, hR.2.2.2⟩
end AmST2
section AmST3
variable {l : Launch} {N : Nat} {len : List Nat} {byt : List (List Int32)} {adK adV : Nat → Nat} {A : Nat → Prop} {i : Nat}
theorem mJ0_checkIndex {x y : Int32} (h0 : ¬ x < 0) (h1 : x < y) : Met l yJ0_checkIndex_df160 jw_J0_checkIndex_df160 (amSm 1) (amVp N len byt adK adV A [.int x, .int y]) (amVq none) 0 0 A := by
  refine Met.ofW (cc := cJ0_checkIndex_df160) (maxL := 2) (ret := none) (by decide +kernel) rfl ?_
  intro p e s m args below meth c s₁ B hml hv
  obtain ⟨rfl, hV⟩ := hv
  have hts0 := atoms_spec (ws := jw_J0_checkIndex_df160) B.pre
  have hts : ∀ w ∈ amT0, w.before _ s = true := fun w hw => hts0 w (List.mem_cons_of_mem _ hw)
  have hown : s.vm.findClass RJ0 = some m.cls := findClass_of_methodNamed B.named
  have hx := B.exec
  have hb := B.bytes
  rw [lg_entry_eq]
  have go : ∀ v : Value, v.category = 1 → W p l e (amSm 1) s m [Value.int x, .int y].toArray below meth c s.heap [] 0 0 (MQ below (amVq none) [Value.int x, .int y].toArray s 0 0 A) (F0 m 5 (lg_sl [Value.int x, .int y] ++ List.replicate (2 - (lg_sl [Value.int x, .int y]).length) Slot.unset).toArray [v, .int y, .int x]) := by
    intro v hv
    refine js_callS (N := N) (len := len) (byt := byt) (adK := adK) (adV := adV) (k := 0) (As := [.int x, .int y, v]) (rest := []) (r := some (.int x)) ⟨hx, hb, hml, hown, hts⟩ (mJ3_checkIndex hv h0 h1) jg_J3_checkIndex_8e157 jl_J0_1059 jm_J3_checkIndex_8e157 ji_J3 (show _ ∧ _ ∧ _ = some 3 by decide +kernel) (by decide) hV va_S.rf rfl rfl (by decide) dJ0_checkIndex_df160_5 fun locs1 hl => ?_
    refine lv_pop hx hb dJ0_checkIndex_df160_8 rfl ?_
    exact W.vret hx hb B.returns (fun t ht _ => ⟨rfl, ht⟩) hl dJ0_checkIndex_df160_9 B.notSynchronized
  refine lv_iload_n hx hb (i := 0) (x := x) dJ0_checkIndex_df160_0 rfl rfl ?_
  refine lv_iload_n hx hb (i := 1) (x := y) dJ0_checkIndex_df160_1 rfl rfl ?_
  rcases hV.2.2 with hz | ⟨t, hz⟩
  · exact va_gets hx hb hz va_S.rf hown (hts _ jl_J0_1053) (fun _ h => h) dJ0_checkIndex_df160_2 (go .null rfl)
  · exact va_gets hx hb hz va_S.rf hown (hts _ jl_J0_1053) (fun _ h => h) dJ0_checkIndex_df160_2 (go (.ref t) rfl)
end AmST3
