section AmS9
variable {p : Program} {l : Launch} {e : Env} {R : Room} {s : State} {m : MethodId} {args : Array Value} {below : List Frame} {meth : Method} {c : Code} {cells slots : Nat} {Q : State → Prop}
variable {cc : ByteArray} {Z : AmZ} {nL : Nat} {lg : List Nat} {L st : List AmV} {M : AmM} {ls : Array Slot} {H : Heap} {locs : List Loc} {pc : Nat}
variable {Npar : Nat → Nat} {o : Nat} {ret : Option FieldType} {cal : Nat → List AmV → AmM → Option (AmV × AmM)} {nx a b q : Nat} {z : Int} {ts : List Nat} {c' : AmC}
/-- what a method's state is, at its entry -/
def amSt (Z : AmZ) (lo : Nat) (M : AmM) (U : State) : Prop := amKS Z U ∧ va_P (zD Z) amClasses (amW Z M) U.heap ∧ amXS Z U U.heap ∧ lo ≤ U.heap.size
def amPre (Z : AmZ) (lo : Nat) (as : List AmV) (M : AmM) : Array Value → State → Prop := fun v U => v = (as.map (amV (zAd Z))).toArray ∧ amSt Z lo M U
def amRetV (ad : Nat → Nat → Nat) : AmV → Option Value
  | .inr (.inr (.inr _)) => none
  | v => some (amV ad v)
/-- pure facts that hold of a world and go on -/
def amPu0 (Z : AmZ) (M : AmM) : Prop := va_D (zA Z) (amW Z M) ∧ amI M ∧ amX Z M
def amPost (Z : AmZ) (v : AmV) (M' : AmM) : Array Value → State → Outcome → State → Prop := fun _ st oc t => oc = .returned (amRetV (zAd Z) v) ∧ va_P (zD Z) amClasses (amW Z M') t.heap ∧ st.heap.size ≤ t.heap.size ∧ (∀ q, q < st.heap.size → ¬ zA Z q → t.heap[q]? = st.heap[q]?) ∧ amPu0 Z M' ∧ amOk (zAl Z) v ∧ (∀ k c s, v ≠ vR k c s) ∧ v ≠ vN
def amPsh : AmV → List AmV → List AmV
  | .inr (.inr (.inr _)), st => st
  | v, st => v :: st
def amRm (d : Nat) : Room := { frames := d + 10, cells := 0, slots := 0, locals := 200 * d + 2000 }
def amWs (mid : Nat) : List Jvm.Cond := Jvm.Cond.code (amYm mid) (amBy.getD mid ⟨#[]⟩) (amMaxL.getD mid 0) (amRt.getD mid none) :: amT0
/-- the contract of a call of the small machine -/
def amMet (l : Launch) (Z : AmZ) (lo d mid : Nat) (as : List AmV) (M : AmM) (v : AmV) (M' : AmM) : Prop :=
  Met l (amYm mid) (amWs mid) (amRm d) (amPre Z lo as M) (amPost Z v M') 0 0 (zA Z)
theorem amD_of {A : Nat → Prop} {Z : AmZ} {M M' : AmM} (h : va_D A (amW Z M)) : va_D A (amW Z M') := by
  have key : ∀ (i : Nat) (x : Nat × va_E), (amW Z M')[i]? = some x → ∃ y, (amW Z M)[i]? = some y ∧ y.1 = x.1 := by
    intro i x hx
    unfold amW at hx ⊢
    rw [List.getElem?_map] at hx ⊢
    cases hn : (zAl Z)[i]? with
    | none => rw [hn] at hx; cases hx
    | some n => rw [hn] at hx; cases hx; exact ⟨_, rfl, rfl⟩
  refine ⟨fun i j x y hi hj hxy => ?_, fun k x hk => ?_⟩
  · obtain ⟨x0, h1, h2⟩ := key i x hi
    obtain ⟨y0, h3, h4⟩ := key j y hj
    exact h.1 i j x0 y0 h1 h3 (by rw [h2, h4, hxy])
  · obtain ⟨x0, h1, h2⟩ := key k x hk
    rw [← h2]
    exact h.2 k x0 h1
theorem amCat_eq {ad : Nat → Nat → Nat} : ∀ st : List AmV, ((st.map (amV ad)).map fun v => v.category).sum = amCat st
  | [] => rfl
  | .inl none :: r => by
    show 1 + ((r.map (amV ad)).map fun v => v.category).sum = amCat r + 1
    rw [amCat_eq r]; omega
  | .inl (some (k, c, s)) :: r => by
    show 1 + ((r.map (amV ad)).map fun v => v.category).sum = amCat r + 1
    rw [amCat_eq r]; omega
  | .inr (.inl x) :: r => by
    show 1 + ((r.map (amV ad)).map fun v => v.category).sum = amCat r + 1
    rw [amCat_eq r]; omega
  | .inr (.inr (.inl x)) :: r => by
    show 2 + ((r.map (amV ad)).map fun v => v.category).sum = amCat r + 2
    rw [amCat_eq r]; omega
  | .inr (.inr (.inr x)) :: r => by
    show 1 + ((r.map (amV ad)).map fun v => v.category).sum = amCat r + 1
    rw [amCat_eq r]; omega
/-- the state of a callee, out of the caller's -/
theorem amSt_of (hK : amKS Z s) (hX : amXS Z s s.heap) (hr : amRel Z s.heap nL lg L st M ls H locs) {lo : Nat} (hlo : lo ≤ s.heap.size) {U : State} (hU : U.heap = H) (hW : s.WarmedH U.vm) : amSt Z lo M U := by
  have hS := hr.2.2.2.2.2.2.2.1
  refine ⟨⟨va_K.moved hW.alike hK.1, fun w hw => ?_, vk_R.warm hW hK.2.2.1, vk_R.warm hW hK.2.2.2⟩, by rw [hU]; exact hr.2.2.2.2.2.1, ⟨?_, ?_, hX.2.2.1, ?_⟩, by rw [hU]; exact Nat.le_trans hlo hS.1⟩
  · have h1 := hK.2.1 w hw
    have h2 : amNest w = true := (List.mem_filter.mp hw).2
    cases w <;> first | (cases h2; done) | skip
    case fieldLinkNest => exact va_Nw.warmF hW h1
    case methodLinkNest => exact va_Nw.warmM hW h1
  · rw [hU]
    exact va_X.moved hW.alike (va_X.kept hX.1 (hS.2.1 _ hX.2.1 hX.2.2.1))
  · rw [hU]; exact Nat.lt_of_lt_of_le hX.2.1 hS.1
  · obtain ⟨adV, hV⟩ := hX.2.2.2
    rw [hU]
    exact ⟨adV, amVS.moved hW.alike (hV.kept hS.2.1)⟩
theorem amPre_blind {lo : Nat} {as : List AmV} : FrameBlind (amPre Z lo as M) := by
  intro av U g mk h
  obtain ⟨e1, ⟨k1, k2, k3, k4⟩, e3, ⟨x1, x2, x3, adV, x4⟩, e5⟩ := h
  refine ⟨e1, ⟨⟨va_K.moved (u := U) (U := U.calling g mk av) (Vm.Alike.refl U.vm) k1, fun w hw => va_Nw.same ?_ (u := U) (U := U.calling g mk av) rfl (k2 w hw), vk_R.same (u := U) (U := U.calling g mk av) rfl k3, vk_R.same (u := U) (U := U.calling g mk av) rfl k4⟩, e3, ⟨va_X.moved (u := U) (U := U.calling g mk av) (Vm.Alike.refl U.vm) x1, x2, x3, adV, amVS.moved (u := U) (U := U.calling g mk av) (Vm.Alike.refl U.vm) x4⟩, e5⟩⟩
  have h2 : amNest w = true := (List.mem_filter.mp hw).2
  cases w <;> first | (cases h2; done) | rfl
/-- behind a call -/
theorem am_back {v : AmV} {M' : AmM} {av : Array Value} {st0 : List Value} {st' : List AmV} (hfx : amFx Z) (hS : va_S (zA Z) s.heap H locs)
    (hrun : va_Run p l e R s m args below meth c H locs cells slots 0 0 (F0 m pc ls st0) (st'.map (amV (zAd Z))) (amPost Z v M' av) (zA Z))
    (hr : amRel Z s.heap nL lg L st M ls H locs) (hs : ∀ w ∈ st', w ∈ st)
    (kk : amGo p l e R s m args below meth c cells slots Q Z nL lg (pc + 3, L, amPsh v st', M')) : W p l e R s m args below meth c H locs cells slots Q (F0 m pc ls st0) := by
  intro T hT X
  obtain ⟨w, st₀, t, T', L', h0, X', hL, e1, e2, ⟨hw, hP, hz, hk, hp, hv⟩, st1⟩ := hrun T hT X
  rw [h0] at hz hk
  have hS' : va_S (zA Z) s.heap T'.heap (locs ++ L') := ⟨Nat.le_trans hS.1 (by rw [e1]; exact hz), fun q h1 h2 => by rw [e1, hk q (Nat.lt_of_lt_of_le h1 hS.1) h2]; exact hS.2.1 q h1 h2, fun q hq => by
      rcases List.mem_append.mp hq with h | h
      · exact hS.2.2 q h
      · exact hL q h⟩
  have hrel : ∀ st2 : List AmV, (∀ w ∈ st2, amOk (zAl Z) w ∧ amSet w) → amRel Z s.heap nL lg L st2 M' ls T'.heap (locs ++ L') := fun st2 h2 => ⟨hr.1, hr.2.1, hr.2.2.1, hr.2.2.2.1, h2, by rw [e1]; exact hP, hp.1, hS', hp.2.1, hp.2.2⟩
  have hst : ∀ w ∈ st', amOk (zAl Z) w ∧ amSet w := fun w hw => hr.2.2.2.2.1 w (hs w hw)
  rcases v with (_ | ⟨k, c, s⟩) | x | x | x
  · exact absurd rfl hv.2.2
  · exact absurd rfl (hv.2.1 k c s)
  · cases hw
    obtain ⟨t2, a1, b1⟩ := kk ls T'.heap (locs ++ L') (hrel (vI x :: st') (fun w hw => by
      rcases List.mem_cons.mp hw with rfl | hw
      · exact ⟨hv.1, trivial⟩
      · exact hst w hw)) T' rfl X'
    exact ⟨t2, st1 t2 a1, b1⟩
  · cases hw
    obtain ⟨t2, a1, b1⟩ := kk ls T'.heap (locs ++ L') (hrel (vL x :: st') (fun w hw => by
      rcases List.mem_cons.mp hw with rfl | hw
      · exact ⟨hv.1, trivial⟩
      · exact hst w hw)) T' rfl X'
    exact ⟨t2, st1 t2 a1, b1⟩
  · cases hw
    obtain ⟨t2, a1, b1⟩ := kk ls T'.heap (locs ++ L') (hrel st' hst) T' rfl X'
    exact ⟨t2, st1 t2 a1, b1⟩
end AmS9
