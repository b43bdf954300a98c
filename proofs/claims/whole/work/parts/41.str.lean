section AmST
/-- the String constants, and the statics that their methods read -/
def amVS (N : Nat) (len : List Nat) (byt : List (List Int32)) (adK adV : Nat → Nat) (A : Nat → Prop) (U : State) (H : Heap) : Prop :=
  vk_S N len byt adK adV A U H ∧ va_Z "java/lang/String" "COMPACT_STRINGS" "Z" (.int 1) A U H ∧ va_Zq "jdk/internal/util/Preconditions" "SIOOBE_FORMATTER" "Ljava/util/function/BiFunction;" A U H
def amSm (k : Nat) : Room := { frames := k, cells := 0, slots := 0, locals := 60 * k }
def amVp (N : Nat) (len : List Nat) (byt : List (List Int32)) (adK adV : Nat → Nat) (A : Nat → Prop) (as : List Value) : Array Value → State → Prop := fun v U => v = as.toArray ∧ amVS N len byt adK adV A U U.heap
def amVq (r : Option Value) : Array Value → State → Outcome → State → Prop := fun _ st oc t => oc = .returned r ∧ t.heap = st.heap
variable {l : Launch} {N : Nat} {len : List Nat} {byt : List (List Int32)} {adK adV : Nat → Nat} {A : Nat → Prop} {i : Nat}
theorem mJ0_coder (hi : i < N) : Met l yJ0_coder_7d493 jw_J0_coder_7d493 (amSm 0) (amVp N len byt adK adV A [.ref (adK i)]) (amVq (some (.int 0))) 0 0 A := by
  refine Met.ofW (cc := cJ0_coder_7d493) (maxL := 1) (ret := some .byte) (by decide +kernel) rfl ?_
  intro p e s m args below meth c s₁ B hml hv
  obtain ⟨rfl, hV⟩ := hv
  have hts0 := atoms_spec (ws := jw_J0_coder_7d493) B.pre
  have hts : ∀ w ∈ amT0, w.before _ s = true := fun w hw => hts0 w (List.mem_cons_of_mem _ hw)
  have hown : s.vm.findClass RJ0 = some m.cls := findClass_of_methodNamed B.named
  have hx := B.exec
  have hb := B.bytes
  rw [lg_entry_eq]
  refine va_gets hx hb hV.2.1 va_S.rf hown (hts _ jl_J0_38) (fun _ h => h) dJ0_coder_7d493_0 ?_
  refine lv_if_eq hx hb dJ0_coder_7d493_3 (tgt := 13) (by decide) ?_ ?_
  · intro h; exact absurd h (by decide)
  intro _
  refine lv_aload_n hx hb (i := 0) (x := adK i) dJ0_coder_7d493_6 rfl rfl ?_
  refine vk_getf hx hb (hV.1.1 i hi).2.1 va_S.rf hown (hts _ jl_J0_15) (fun _ h => h) dJ0_coder_7d493_7 ?_
  refine lv_goto hx hb dJ0_coder_7d493_10 (tgt := 14) (by decide) ?_
  exact W.zret (ty := .byte) hx hb B.returns (by decide) (fun t ht _ => ⟨rfl, ht⟩) (fun _ h => by cases h) dJ0_coder_7d493_14 B.notSynchronized
end AmST
