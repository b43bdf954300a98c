theorem amDef_ok : (List.range 13).all (fun a => (List.range (amFkL.getD a []).length).all fun j => decide ((parseFieldDescriptor (amTf a j).2.2.1).map defaultValue = some (if (amFkL.getD a []).getD j 0 = 2 then Value.null else Value.int 0))) = true := by decide +kernel
theorem amDef {a j : Nat} (ha : a < 13) (hj : j < (amFkL.getD a []).length) {ty : FieldType} (h : parseFieldDescriptor (amTf a j).2.2.1 = some ty) : defaultValue ty = if (amFkL.getD a []).getD j 0 = 2 then Value.null else Value.int 0 := by
  have h1 := List.all_eq_true.mp (List.all_eq_true.mp amDef_ok a (List.mem_range.mpr ha)) j (List.mem_range.mpr hj)
  have h2 := of_decide_eq_true h1
  rw [h] at h2
  exact Option.some.inj h2
section AmMk
variable {p : Program} {l : Launch} {e : Env} {R : Room} {s : State} {m : MethodId} {args : Array Value} {below : List Frame} {meth : Method} {c : Code} {cells slots : Nat} {Q : State → Prop}
variable {cc : ByteArray} {Z : AmZ} {nL : Nat} {lg : List Nat} {L st : List AmV} {M : AmM} {ls : Array Slot} {H : Heap} {locs : List Loc} {pc : Nat} {o : Nat}
theorem amMap_agr {al : List (Nat × Nat)} {ad ad' : Nat → Nat → Nat} (h : amAgr al ad ad') {st : List AmV} (hs : ∀ v ∈ st, amOk al v) : st.map (amV ad') = st.map (amV ad) := List.map_congr_left fun v hv => h.v (hs v hv)
theorem am_newS {x a s' : Nat} (S : CallFix p m c cc nL s args amT0 (amR o)) (hK : amKS Z s) (hfx : amFx1 Z) (hA : ∀ q, s.heap.size ≤ q → zA Z q) (ha : a < 13) (hcl : Jvm.Cond.classLink (amR o) x (amR a) ∈ amT0) (hins : Jvm.Cond.instantiable (amR a) (amFkL.getD a []).length ∈ amT0) (hini : Jvm.Cond.initialized (amR a) ∈ amT0) (hn : (a, s') ∉ zAl Z)
    (hc : cells + 1 ≤ R.cells) (hsl : slots + (amFkL.getD a []).length ≤ R.slots) (hd : decode cc pc = .ok (.new x, 3)) (hr : amRel Z s.heap nL lg L st M ls H locs)
    (kk : ∀ (q : Nat) (H1 : Heap), amFx1 (amZn Z (amAu (zAd Z) a s' q) (zAl Z ++ [(a, s')]) (amGst1 (zG Z) a s')) → amRel (amZn Z (amAu (zAd Z) a s' q) (zAl Z ++ [(a, s')]) (amGst1 (zG Z) a s')) s.heap nL lg L (vR a a s' :: st) (amRst M a s') ls H1 locs → W p l e R s m args below meth c H1 locs (cells + 1) (slots + (amFkL.getD a []).length) Q (F0 m (pc + 3) ls ((vR a a s' :: st).map (amV (amAu (zAd Z) a s' q))))) :
    W p l e R s m args below meth c H locs cells slots Q (F0 m pc ls (st.map (amV (zAd Z)))) := by
  obtain ⟨hx, hb, hml, hown, hts⟩ := S
  obtain ⟨cl1, cl2, cl3, ty, cl4⟩ := amCl_ok ha
  refine va_new (D := zD Z) (A := zA Z) (ws := amW Z M) (H0 := s.heap) (ci := a) (fs := (List.range (amFkL.getD a []).length).map (amFv (zAd Z) a (fun _ => 0) (fun _ => vN))) hx hb hts cl2 ty cl4 hown (hts _ hcl) (hts _ hins) (hts _ hini) hK.1 hr.2.2.2.2.2.1 hr.2.2.2.2.2.2.1 hr.2.2.2.2.2.2.2.1 hA cl1 (fun j hj => ?_) hc hsl hd fun q H1 g1 g2 g3 => ?_
  · rw [amDef ha hj (cl4 j hj)]
    have e1 := amRow_get (ad := zAd Z) (f := fun _ => 0) (g := fun _ => vN) hj
    have e2 : vp_V ((List.range (amFkL.getD a []).length).map (amFv (zAd Z) a (fun _ => 0) (fun _ => vN))) j = amFv (zAd Z) a (fun _ => 0) (fun _ => vN) j := by
      unfold vp_V
      rw [List.getD_eq_getElem?_getD, e1]
      rfl
    rw [e2]
    unfold amFv
    by_cases h2 : (amFkL.getD a []).getD j 0 = 2
    · rw [if_pos h2, h2]; rfl
    · rw [if_neg h2]
      split
      · rename_i h3; exact absurd h3 h2
      · rfl
  · have hcell : (.inr (a, (List.range (amFkL.getD a []).length).map (amFv (zAd Z) a (fun _ => 0) (fun _ => vN))) : va_E) = amCell (zC Z) (zAd Z) a (fun _ => 0) (fun _ => vN) := (if_pos ha).symm
    rw [hcell] at g1 g2
    have hr1 := hr.made (q := q) hfx hn (Or.inl ha) (amKnd_lo a ha) (fun v hv => hv) g1 g2 g3
    have h9 := kk q H1 (amFx1_new hfx hn (Or.inl ha)) hr1
    have hag := amAu_agr (ad := zAd Z) (q := q) hn (Or.inl ha)
    rw [List.map_cons, amMap_agr hag (fun v hv => (hr.2.2.2.2.1 v hv).1), show amV (amAu (zAd Z) a s' q) (vR a a s') = .ref q by show Value.ref (amAu (zAd Z) a s' q a s') = _; unfold amAu; rw [if_pos ⟨rfl, rfl⟩]] at h9
    exact h9
/-- an array of numbers -/
theorem am_newaS {a k s' : Nat} {at_ : ArrayType} {n : Int} (S : CallFix p m c cc nL s args amT0 (amR o)) (hK : amKS Z s) (hfx : amFx1 Z) (hA : ∀ q, s.heap.size ≤ q → zA Z q) (hk : 20 ≤ k ∧ k ≤ 23) (hty : (amTys (zC Z))[k - 20]? = some (zC Z k, newarray.typeOf at_)) (harr : Jvm.Cond.arrayClass (newarray.typeOf at_) ∈ amT0) (hkn : amKndL.getD a 99 = k) (ha : 100 ≤ a) (hlen : n = (amLenL.getD a 0 : Int)) (hn : (a, s') ∉ zAl Z)
    {st' : List AmV} (hst : st = vI n :: st') (hc : cells + 1 ≤ R.cells) (hsl : slots + amLenL.getD a 0 ≤ R.slots) (hd : decode cc pc = .ok (.newarray at_, 2)) (hr : amRel Z s.heap nL lg L st M ls H locs)
    (kk : ∀ (q : Nat) (H1 : Heap), amFx1 (amZn Z (amAu (zAd Z) a s' q) (zAl Z ++ [(a, s')]) (amGst1 (zG Z) a s')) → amRel (amZn Z (amAu (zAd Z) a s' q) (zAl Z ++ [(a, s')]) (amGst1 (zG Z) a s')) s.heap nL lg L (vR k a s' :: st') (amRst M a s') ls H1 locs → W p l e R s m args below meth c H1 locs (cells + 1) (slots + amLenL.getD a 0) Q (F0 m (pc + 2) ls ((vR k a s' :: st').map (amV (amAu (zAd Z) a s' q))))) :
    W p l e R s m args below meth c H locs cells slots Q (F0 m pc ls (st.map (amV (zAd Z)))) := by
  obtain ⟨hx, hb, hml, hown, hts⟩ := S
  subst hst
  have hsm := amLen_lt a
  have hni : i32 n := by unfold i32; omega
  have h13 : ¬ a < 13 := by omega
  have hcell : ∀ cA : ClassId, vp_cell cA (amArr (zAd Z) a (fun _ => 0) (fun _ => vN)) = arrV cA (amLenL.getD a 0) (fun _ => defaultValue (newarray.typeOf at_)) := by
    intro cA
    have hkk : k = 20 ∨ k = 21 ∨ k = 22 ∨ k = 23 := by omega
    rcases hkk with rfl | rfl | rfl | rfl
    · rw [amArr_i hkn (Or.inl rfl), vp_cell_i]
      have : newarray.typeOf at_ = .int := (Prod.mk.inj (Option.some.inj hty)).2.symm
      rw [this]; rfl
    · rw [amArr_l hkn, vp_cell_l]
      have : newarray.typeOf at_ = .long := (Prod.mk.inj (Option.some.inj hty)).2.symm
      rw [this]; rfl
    · rw [amArr_i hkn (by omega), vp_cell_i]
      have : newarray.typeOf at_ = .byte := (Prod.mk.inj (Option.some.inj hty)).2.symm
      rw [this]; rfl
    · rw [amArr_i hkn (by omega), vp_cell_i]
      have : newarray.typeOf at_ = .boolean := (Prod.mk.inj (Option.some.inj hty)).2.symm
      rw [this]; rfl
  refine va_newa (D := zD Z) (A := zA Z) (ws := amW Z M) (H0 := s.heap) (n := Int32.ofInt n) (N' := amLenL.getD a 0) (a0 := amArr (zAd Z) a (fun _ => 0) (fun _ => vN)) hx hb (hts _ harr) rfl hK.1 hr.2.2.2.2.2.1 hr.2.2.2.2.2.2.1 hr.2.2.2.2.2.2.2.1 hA hcell (fun h => by
    have := (of_lt hni (y := 0) am_0).mp h
    omega) (by rw [of_cl hni]; omega) ?_ hc hsl hd fun q cA H1 hK1 g1 g2 g3 => ?_
  · have : componentBytes (newarray.typeOf at_) ≤ 8 := by cases at_ <;> decide
    calc amLenL.getD a 0 * componentBytes (newarray.typeOf at_) ≤ 10000 * 8 := Nat.mul_le_mul (Nat.le_of_lt hsm) this
      _ ≤ 536870912 := by decide
  · have hcA : cA = zC Z k := by
      have h1 := (hK1.2 6 (cA, newarray.typeOf at_) (by rfl)).2
      have h2 := (hK1.2 (k - 20) (zC Z k, newarray.typeOf at_) (by rw [List.getElem?_append_left (show k - 20 < 6 by omega)]; exact hty)).2
      cases at_ <;> exact Option.some.inj (h1.symm.trans h2)
    subst hcA
    have hce : (.inl (zC Z k, amArr (zAd Z) a (fun _ => 0) (fun _ => vN)) : va_E) = amCell (zC Z) (zAd Z) a (fun _ => 0) (fun _ => vN) := by
      unfold amCell
      rw [if_neg h13, hkn]
    rw [hce] at g1 g2
    have hr1 := hr.made (q := q) hfx hn (Or.inr ha) hkn (st' := st') (fun v hv => by simp [hv]) g1 g2 g3
    have h9 := kk q H1 (amFx1_new hfx hn (Or.inr ha)) hr1
    have hag := amAu_agr (ad := zAd Z) (q := q) hn (Or.inr ha)
    rw [List.map_cons, amMap_agr hag (fun v hv => (hr.2.2.2.2.1 v (by simp [hv])).1), show amV (amAu (zAd Z) a s' q) (vR k a s') = .ref q by show Value.ref (amAu (zAd Z) a s' q a s') = _; unfold amAu; rw [if_pos ⟨rfl, rfl⟩]] at h9
    exact h9
end AmMk
