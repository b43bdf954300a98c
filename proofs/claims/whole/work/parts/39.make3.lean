theorem amGup_off {G : AmG} {c s j : Nat} {v : AmV} {c' s' : Nat} (h : ¬ (c' = c ∧ s' = s)) : amGup G c s j v c' s' = G c' s' := by
  funext j'
  unfold amGup
  have : (c' == c && (s' == s && j' == j)) = false := by
    by_cases h1 : c' = c
    · by_cases h2 : s' = s
      · exact absurd ⟨h1, h2⟩ h
      · simp [h2]
    · simp [h1]
  rw [this]; rfl
theorem amGup_on {G : AmG} {c s j : Nat} {v : AmV} {j' : Nat} : amGup G c s j v c s j' = if j' = j then v else G c s j' := by
  unfold amGup
  by_cases h : j' = j
  · simp [h]
  · have e : (j' == j) = false := beq_false_of_ne h
    simp [e, h]
theorem amW_setG {Z : AmZ} {M : AmM} {c s p j : Nat} {v : AmV} {x : va_E} (hn : amInj (zAl Z)) (hp : (zAl Z)[p]? = some (c, s)) (hx : x = amCell (zC Z) (zAd Z) c (M c s) (amGup (zG Z) c s j v c s)) : (amW Z M).set p (zAd Z c s, x) = amW (amZn Z (zAd Z) (zAl Z) (amGup (zG Z) c s j v)) M := by
  apply List.ext_getElem?
  intro i
  by_cases hi : i = p
  · subst hi
    have hl : i < (amW Z M).length := by unfold amW; rw [List.length_map]; exact (List.getElem?_eq_some_iff.mp hp).1
    rw [List.getElem?_set_self hl]
    show _ = ((zAl Z).map fun n => (zAd Z n.1 n.2, amCell (zC Z) (zAd Z) n.1 (M n.1 n.2) (amGup (zG Z) c s j v n.1 n.2)))[i]?
    rw [List.getElem?_map, hp, hx]
    rfl
  · rw [List.getElem?_set_ne (Ne.symm hi)]
    show ((zAl Z).map fun n => (zAd Z n.1 n.2, amCell (zC Z) (zAd Z) n.1 (M n.1 n.2) (zG Z n.1 n.2)))[i]? = ((zAl Z).map fun n => (zAd Z n.1 n.2, amCell (zC Z) (zAd Z) n.1 (M n.1 n.2) (amGup (zG Z) c s j v n.1 n.2)))[i]?
    rw [List.getElem?_map, List.getElem?_map]
    cases ha : (zAl Z)[i]? with
    | none => rfl
    | some n =>
      have hne : ¬ (n.1 = c ∧ n.2 = s) := by
        rintro ⟨e1, e2⟩
        apply hi
        have e : n = (c, s) := by rw [← e1, ← e2]
        rw [e] at ha
        exact hn i p _ ha hp
      simp only [Option.map_some]
      rw [amGup_off hne]
theorem amFx1_gup {Z : AmZ} {c s j : Nat} {r : Option (Nat × Nat × Nat)} (hfx : amFx1 Z) (hr : amOk (zAl Z) (.inl r)) : amFx1 (amZn Z (zAd Z) (zAl Z) (amGup (zG Z) c s j (.inl r))) := by
  refine ⟨hfx.1, hfx.2.1, hfx.2.2.1, fun n h j' => ?_⟩
  show amOk (zAl Z) (amGup (zG Z) c s j (.inl r) n.1 n.2 j') ∧ ∃ r', amGup (zG Z) c s j (.inl r) n.1 n.2 j' = .inl r'
  by_cases hne : n.1 = c ∧ n.2 = s
  · rw [hne.1, hne.2, amGup_on]
    split
    · exact ⟨hr, r, rfl⟩
    · rw [← hne.1, ← hne.2]; exact hfx.2.2.2 n h j'
  · rw [amGup_off hne]; exact hfx.2.2.2 n h j'
section AmMk3
variable {p : Program} {l : Launch} {e : Env} {R : Room} {s : State} {m : MethodId} {args : Array Value} {below : List Frame} {meth : Method} {c : Code} {cells slots : Nat} {Q : State → Prop}
variable {cc : ByteArray} {Z : AmZ} {nL : Nat} {lg : List Nat} {L st : List AmV} {M : AmM} {ls : Array Slot} {H : Heap} {locs : List Loc} {pc : Nat} {o : Nat}
theorem amRow_setG {ad : Nat → Nat → Nat} {C k : Nat} {f : Nat → Int} {g g' : Nat → AmV} {v : AmV} (hk : k < (amFkL.getD C []).length) (hq : (amFkL.getD C []).getD k 0 = 2) (h1 : g' k = v) (h2 : ∀ j, j ≠ k → g' j = g j) :
    ((List.range (amFkL.getD C []).length).map (amFv ad C f g)).set k (amV ad v) = (List.range (amFkL.getD C []).length).map (amFv ad C f g') := by
  apply List.ext_getElem?
  intro i
  by_cases hi : i = k
  · subst hi
    rw [List.getElem?_set_self (by rw [amRow_len]; exact hk), amRow_get hk]
    unfold amFv
    rw [hq, h1]
    rfl
  · rw [List.getElem?_set_ne (Ne.symm hi), List.getElem?_map, List.getElem?_map]
    cases hr : (List.range (amFkL.getD C []).length)[i]? with
    | none => rfl
    | some w =>
      have : w = i := by
        obtain ⟨hl, he⟩ := List.getElem?_eq_some_iff.mp hr
        rw [List.getElem_range] at he
        exact he.symm
      subst this
      simp only [Option.map_some]
      unfold amFv
      rw [h2 w hi]
/-- a constructor lays a reference into a final field of its object -/
theorem am_putR {x b C s' kv cv sv k1 : Nat} {st' : List AmV} (S : CallFix p m c cc nL s args amT0 (amR o)) (hK : amKS Z s) (hfx : amFx1 Z) (hC : C < 13) (hb3 : b < (amFkL.getD C []).length) (hq : (amFkL.getD C []).getD b 0 = 2) (hl : Jvm.Cond.fieldLink (amR o) x (amTf C b).1 (amTf C b).2.1 (amTf C b).2.2.1 ∈ amT0) (hfin : (amTf C b).2.2.2 = true) (hin : meth.name = "<init>") (hdecl : (amTf C b).1 = amR o)
    (hty : ∃ ty, parseFieldDescriptor (amTf C b).2.2.1 = some ty ∧ narrow ty (.ref (zAd Z cv sv)) = .ref (zAd Z cv sv) ∧ fits ty (.ref (zAd Z cv sv)) = true) (hst : st = vR kv cv sv :: vR k1 C s' :: st') (hd : decode cc pc = .ok (.putfield x, 3)) (hr : amRel Z s.heap nL lg L st M ls H locs)
    (kk : ∀ (H1 : Heap) (locs1 : List Loc), amFx1 (amZn Z (zAd Z) (zAl Z) (amGup (zG Z) C s' b (vR kv cv sv))) → amRel (amZn Z (zAd Z) (zAl Z) (amGup (zG Z) C s' b (vR kv cv sv))) s.heap nL lg L st' M ls H1 locs1 → W p l e R s m args below meth c H1 locs1 cells slots Q (F0 m (pc + 3) ls (st'.map (amV (zAd Z))))) :
    W p l e R s m args below meth c H locs cells slots Q (F0 m pc ls (st.map (amV (zAd Z)))) := by
  obtain ⟨hx, hb, hml, hown, hts⟩ := S
  subst hst
  obtain ⟨cl1, cl2, cl3, ty, cl4⟩ := amCl_ok hC
  obtain ⟨ty1, t1, t2, t3⟩ := hty
  have hokv : amOk (zAl Z) (vR kv cv sv) := hr.top (by simp)
  have hok : amOk (zAl Z) (vR k1 C s') := hr.top (by simp)
  have hmem := am_okR hok (by omega) (by omega) (by omega)
  obtain ⟨pp, hp1, hp2⟩ := amW_at (M := M) hmem
  have hce : ∀ g, amCell (zC Z) (zAd Z) C (M C s') g = .inr (C, (List.range (amFkL.getD C []).length).map (amFv (zAd Z) C (M C s') g)) := fun g => if_pos hC
  rw [hce] at hp2
  refine va_putF (D := zD Z) (ci := C) hx hb hts cl2 ty cl4 cl3 hown hK.1 hr.2.2.2.2.2.1 hr.2.2.2.2.2.2.1 hr.2.2.2.2.2.2.2.1 pp hp2 cl1 b hb3 (hts _ hl) (fun _ h => h) hfin hin hdecl t1 t2 t3 (by rw [amRow_len]; exact hb3) hd fun H1 locs1 g1 g2 g3 => ?_
  have hset := amW_setG (Z := Z) (M := M) (j := b) (v := vR kv cv sv) (x := .inr (C, ((List.range (amFkL.getD C []).length).map (amFv (zAd Z) C (M C s') (zG Z C s'))).set b (amV (zAd Z) (vR kv cv sv)))) hfx.1 hp1 (by rw [hce, amRow_setG (g' := amGup (zG Z) C s' b (vR kv cv sv) C s') hb3 hq (by rw [amGup_on, if_pos rfl]) (fun j hj => by rw [amGup_on, if_neg hj])])
  rw [hset] at g1 g2
  exact kk H1 locs1 (amFx1_gup hfx hokv) ⟨hr.1, hr.2.1, hr.2.2.1, hr.2.2.2.1, fun v hv => hr.2.2.2.2.1 v (by simp [hv]), g1, g2, g3, hr.2.2.2.2.2.2.2.2.1, hr.2.2.2.2.2.2.2.2.2⟩
/-- a reference into an array of them -/
theorem am_aastS {C s' k kv cv sv : Nat} {j : Int} {st' : List AmV} (S : CallFix p m c cc nL s args amT0 (amR o)) (hK : amKS Z s) (hfx : amFx1 Z) (hk : k = 24 ∧ cv = 5 ∨ k = 25 ∧ cv = 6) (hj : 0 ≤ j ∧ j < (amLenL.getD C 0 : Int)) (hst : st = vR kv cv sv :: vI j :: vR k C s' :: st') (hd : decode cc pc = .ok (.aastore, 1)) (hr : amRel Z s.heap nL lg L st M ls H locs)
    (kk : ∀ (H1 : Heap) (locs1 : List Loc), amFx1 (amZn Z (zAd Z) (zAl Z) (amGup (zG Z) C s' j.toNat (vR kv cv sv))) → amRel (amZn Z (zAd Z) (zAl Z) (amGup (zG Z) C s' j.toNat (vR kv cv sv))) s.heap nL lg L st' M ls H1 locs1 → W p l e R s m args below meth c H1 locs1 cells slots Q (F0 m (pc + 1) ls (st'.map (amV (zAd Z))))) :
    W p l e R s m args below meth c H locs cells slots Q (F0 m pc ls (st.map (amV (zAd Z)))) := by
  obtain ⟨hx, hb, hml, hown, hts⟩ := S
  subst hst
  have hji : i32 j := hr.top (v := vI j) (by simp)
  have hokv : amOk (zAl Z) (vR kv cv sv) := hr.top (by simp)
  have hok : amOk (zAl Z) (vR k C s') := hr.top (by simp)
  have h90 : C ≠ 90 := by rintro rfl; have h9 : amKndL.getD 90 99 = k := hok.1; rw [amKnd_90.1] at h9; omega
  have hcv : cv < 13 := by omega
  have hmemv := am_okR hokv (by omega) (by omega) (by omega)
  obtain ⟨pv, hpv1, hpv2⟩ := amW_at (M := M) hmemv
  have hce : amCell (zC Z) (zAd Z) cv (M cv sv) (zG Z cv sv) = .inr (cv, (List.range (amFkL.getD cv []).length).map (amFv (zAd Z) cv (M cv sv) (zG Z cv sv))) := if_pos hcv
  rw [hce] at hpv2
  obtain ⟨clv, -⟩ := amCl_ok hcv
  obtain ⟨hmem, h13, hkn, pp, hp1, hp2⟩ := am_arr hr hfx.fx hok (by omega) h90
  rw [amArr_q hkn (by omega)] at hp2
  have eu : va_up (fun i => amRf (zAd Z) (zG Z C s' i)) j.toNat (some (zAd Z cv sv)) = fun i => amRf (zAd Z) (amGup (zG Z) C s' j.toNat (vR kv cv sv) C s' i) := by
    funext i
    rw [amGup_on]
    unfold va_up
    by_cases h : i = j.toNat
    · rw [if_pos h, if_pos h]; rfl
    · rw [if_neg h, if_neg h]
  have hset := amW_setG (Z := Z) (M := M) (j := j.toNat) (v := vR kv cv sv) (x := .inl (zC Z k, amLenL.getD C 0, .inr (.inr (.inr (.inr (va_up (fun i => amRf (zAd Z) (zG Z C s' i)) j.toNat (some (zAd Z cv sv)))))))) hfx.1 hp1 (by
    unfold amCell
    rw [if_neg h13, hkn, amArr_q hkn (by omega), eu])
  have fin : ∀ (H1 : Heap) (locs1 : List Loc), va_P (zD Z) amClasses ((amW Z M).set pp (zAd Z C s', .inl (zC Z k, amLenL.getD C 0, .inr (.inr (.inr (.inr (va_up (fun i => amRf (zAd Z) (zG Z C s' i)) j.toNat (some (zAd Z cv sv))))))))) H1 → va_D (zA Z) ((amW Z M).set pp (zAd Z C s', .inl (zC Z k, amLenL.getD C 0, .inr (.inr (.inr (.inr (va_up (fun i => amRf (zAd Z) (zG Z C s' i)) j.toNat (some (zAd Z cv sv))))))))) → va_S (zA Z) s.heap H1 locs1 → W p l e R s m args below meth c H1 locs1 cells slots Q (F0 m (pc + 1) ls (st'.map (amV (zAd Z)))) := by
    intro H1 locs1 g1 g2 g3
    rw [hset] at g1 g2
    exact kk H1 locs1 (amFx1_gup hfx hokv) ⟨hr.1, hr.2.1, hr.2.2.1, hr.2.2.2.1, fun v hv => hr.2.2.2.2.1 v (by simp [hv]), g1, g2, g3, hr.2.2.2.2.2.2.2.2.1, hr.2.2.2.2.2.2.2.2.2⟩
  rcases hk with ⟨rfl, rfl⟩ | ⟨rfl, rfl⟩
  · refine va_astq (D := zD Z) hx hb hK.1 hr.2.2.2.2.2.1 hr.2.2.2.2.2.2.1 hr.2.2.2.2.2.2.2.1 pp 4 pv 5 hp2 rfl hpv2 clv ((of_in hji).mpr hj) hd fun H1 locs1 g1 g2 g3 => ?_
    rw [of_cl hji] at g1 g2
    exact fin H1 locs1 g1 g2 g3
  · refine va_astq (D := zD Z) hx hb hK.1 hr.2.2.2.2.2.1 hr.2.2.2.2.2.2.1 hr.2.2.2.2.2.2.2.1 pp 5 pv 6 hp2 rfl hpv2 clv ((of_in hji).mpr hj) hd fun H1 locs1 g1 g2 g3 => ?_
    rw [of_cl hji] at g1 g2
    exact fin H1 locs1 g1 g2 g3
/-- an array of references -/
theorem am_newqS {x a k s' : Nat} {Cn : String} {n : Int} (S : CallFix p m c cc nL s args amT0 (amR o)) (hK : amKS Z s) (hAO : va_AO Cn s) (hfx : amFx1 Z) (hA : ∀ q, s.heap.size ≤ q → zA Z q) (hk : k = 24 ∧ Cn = "SaltStairs$Scene" ∨ k = 25 ∧ Cn = "SaltStairs$Stairs") (hcl : Jvm.Cond.classLink (amR o) x Cn ∈ amT0) (hkn : amKndL.getD a 99 = k) (ha : 100 ≤ a) (hlen : n = (amLenL.getD a 0 : Int)) (hn : (a, s') ∉ zAl Z)
    {st' : List AmV} (hst : st = vI n :: st') (hc : cells + 1 ≤ R.cells) (hsl : slots + amLenL.getD a 0 ≤ R.slots) (hd : decode cc pc = .ok (.anewarray x, 3)) (hr : amRel Z s.heap nL lg L st M ls H locs)
    (kk : ∀ (q : Nat) (H1 : Heap), amFx1 (amZn Z (amAu (zAd Z) a s' q) (zAl Z ++ [(a, s')]) (amGst1 (zG Z) a s')) → amRel (amZn Z (amAu (zAd Z) a s' q) (zAl Z ++ [(a, s')]) (amGst1 (zG Z) a s')) s.heap nL lg L (vR k a s' :: st') (amRst M a s') ls H1 locs → W p l e R s m args below meth c H1 locs (cells + 1) (slots + amLenL.getD a 0) Q (F0 m (pc + 3) ls ((vR k a s' :: st').map (amV (amAu (zAd Z) a s' q))))) :
    W p l e R s m args below meth c H locs cells slots Q (F0 m pc ls (st.map (amV (zAd Z)))) := by
  obtain ⟨hx, hb, hml, hown, hts⟩ := S
  subst hst
  have hsm := amLen_lt a
  have hni : i32 n := by unfold i32; omega
  have h13 : ¬ a < 13 := by omega
  refine va_newq (D := zD Z) (A := zA Z) (ws := amW Z M) (H0 := s.heap) (n := Int32.ofInt n) (N' := amLenL.getD a 0) hx hb hown (hts _ hcl) hAO hK.1 hr.2.2.2.2.2.1 hr.2.2.2.2.2.2.1 hr.2.2.2.2.2.2.2.1 hA (fun h => by
    have := (of_lt hni (y := 0) am_0).mp h
    omega) (by rw [of_cl hni]; omega) (by omega) hc hsl hd fun q cA H1 hK1 g1 g2 g3 => ?_
  have hcA : cA = zC Z k := by
    obtain ⟨kA, comp, -, -, -, h1⟩ := (hK1.2 6 (cA, .object Cn) (by rfl)).2
    rcases hk with ⟨rfl, rfl⟩ | ⟨rfl, rfl⟩
    · obtain ⟨kA2, comp2, -, -, -, h2⟩ := (hK1.2 4 (zC Z 24, .object "SaltStairs$Scene") (by rfl)).2
      exact Option.some.inj (h1.symm.trans h2)
    · obtain ⟨kA2, comp2, -, -, -, h2⟩ := (hK1.2 5 (zC Z 25, .object "SaltStairs$Stairs") (by rfl)).2
      exact Option.some.inj (h1.symm.trans h2)
  subst hcA
  have hce : (.inl (zC Z k, amLenL.getD a 0, .inr (.inr (.inr (.inr (fun _ => none))))) : va_E) = amCell (zC Z) (zAd Z) a (fun _ => 0) (fun _ => vN) := by
    unfold amCell
    rw [if_neg h13, hkn, amArr_q hkn (by omega)]
    rfl
  rw [hce] at g1 g2
  have hr1 := hr.made (q := q) hfx hn (Or.inr ha) hkn (st' := st') (fun v hv => by simp [hv]) g1 g2 g3
  have h9 := kk q H1 (amFx1_new hfx hn (Or.inr ha)) hr1
  have hag := amAu_agr (ad := zAd Z) (q := q) hn (Or.inr ha)
  rw [List.map_cons, amMap_agr hag (fun v hv => (hr.2.2.2.2.1 v (by simp [hv])).1), show amV (amAu (zAd Z) a s' q) (vR k a s') = .ref q by show Value.ref (amAu (zAd Z) a s' q a s') = _; unfold amAu; rw [if_pos ⟨rfl, rfl⟩]] at h9
  exact h9
end AmMk3
