def amChk1 (cc : ByteArray) (o : Nat) (ret : Option FieldType) (lg : List Nat) (pc : Nat) (e : AmE) : Bool := match decode cc pc with
  | .ok (i', len) => decide (i' = e.1) && ((match e.1 with
    | .tableswitch _ _ _ _ => true
    | i => decide (len = amLenI i) && decide (e.2.1 = pc + amLenI i)) && amChkI amConT amConL amStrT amFldT amMthT (fun m => amNp.getD m 0) o ret lg pc e.1 e.2.1 e.2.2.1 e.2.2.2.1 e.2.2.2.2.1 e.2.2.2.2.2.1 e.2.2.2.2.2.2)
  | _ => false
def amChkC (cc : ByteArray) (o : Nat) (ret : Option FieldType) (lg : List Nat) (cd : List (Option AmE)) : Bool := (List.range cd.length).all fun pc => match cd.getD pc none with
  | none => true
  | some e => amChk1 cc o ret lg pc e
def amMidOk (mid : Nat) : Prop := Jvm.Cond.code (amYm mid) (amBy.getD mid ⟨#[]⟩) (amMaxL.getD mid 0) (amRt.getD mid none) ∈ amT0 ∧ Jvm.Cond.initialized (amYm mid).cls ∈ amT0 ∧ plainName (amYm mid).cls = true ∧
  ((amYm mid).cls ≠ "java/lang/invoke/MethodHandle" ∧ (amYm mid).cls ≠ "java/lang/invoke/VarHandle" ∧ (parseMethodDescriptor (amYm mid).desc).map (fun d => d.parameters.length) = some (amNp.getD mid 0)) ∧ (amYm mid).cls = amR (amOwn.getD mid 99) ∧ amMaxL.getD mid 0 ≤ 12
theorem amGoodIn {mid : Nat} (h : amMidOk mid) : GoodIn amT0 (amWs mid) := by
  have key : ∀ w ∈ amT0, w ∈ amT0 ∧ ((w.onTables && w.keeps) = true ∨ ∃ ty, w = .arrayClass ty) := fun w hw => ⟨hw, good_of_word (List.mem_filter.mp hw).2⟩
  intro w hw
  rcases List.mem_cons.mp hw with rfl | hw
  · exact key _ h.1
  · exact key _ hw
section AmSI
variable {p : Program} {l : Launch} {e : Env} {R : Room} {s : State} {m : MethodId} {args : Array Value} {below : List Frame} {meth : Method} {c : Code} {cells slots : Nat} {Q : State → Prop}
variable {cc : ByteArray} {Z : AmZ} {nL : Nat} {lg : List Nat} {L st : List AmV} {M : AmM} {ls : Array Slot} {H : Heap} {locs : List Loc} {pc : Nat}
variable {o : Nat} {ret : Option FieldType} {cal : Nat → List AmV → AmM → Option (AmV × AmM)} {nx a b q : Nat} {z : Int} {ts : List Nat} {c' : AmC}
theorem amPu_inl {z : Int} {r : Option (AmV × AmM)} {f : List AmV → AmM → AmR} (h : amPu z r f = .inl c') : ∃ v M', r = some (v, M') ∧ ((v = vU ∧ f [] M' = .inl c') ∨ ((∃ x, v = vI x) ∧ f [v] M' = .inl c') ∨ ((∃ x, v = vL x) ∧ f [v] M' = .inl c')) := by
  rcases r with _ | ⟨_ | x | x | x, M'⟩
  · cases h
  · cases h
  · have h2 : (bif z == 1 then f [vI x] M' else amNo) = .inl c' := h
    cases hz : (z == 1) with
    | false => rw [hz] at h2; cases h2
    | true => rw [hz] at h2; exact ⟨_, _, rfl, Or.inr (Or.inl ⟨⟨x, rfl⟩, h2⟩)⟩
  · have h2 : (bif z == 2 then f [vL x] M' else amNo) = .inl c' := h
    cases hz : (z == 2) with
    | false => rw [hz] at h2; cases h2
    | true => rw [hz] at h2; exact ⟨_, _, rfl, Or.inr (Or.inr ⟨⟨x, rfl⟩, h2⟩)⟩
  · have h2 : (bif z == 0 then f [] M' else amNo) = .inl c' := h
    cases hz : (z == 0) with
    | false => rw [hz] at h2; cases h2
    | true => rw [hz] at h2; exact ⟨_, _, rfl, Or.inl ⟨rfl, h2⟩⟩
/-- every call of the small machine has its contract -/
def amAll (l : Launch) (Z : AmZ) (lo d : Nat) (cal : Nat → List AmV → AmM → Option (AmV × AmM)) : Prop := ∀ (mid : Nat) (as : List AmV) (M : AmM) (v : AmV) (M' : AmM), mid < 245 → cal mid as M = some (v, M') → (∀ w ∈ as, amOk (zAl Z) w ∧ amSet w) → amPu0 Z M → amMet l Z lo d mid as M v M'
theorem am_goBack {lo d mid : Nat} {as st' : List AmV} {v : AmV} {M' : AmM} (hm : amMet l Z lo d mid as M v M') {f : List AmV → AmM → AmR} (hf : f = fun r M' => .inl (pc + 3, L, r ++ st', M'))
    (h : (v = vU ∧ f [] M' = .inl c') ∨ ((∃ x, v = vI x) ∧ f [v] M' = .inl c') ∨ ((∃ x, v = vL x) ∧ f [v] M' = .inl c')) : c' = (pc + 3, L, amPsh v st', M') := by
  subst hf
  rcases h with ⟨rfl, h⟩ | ⟨⟨x, rfl⟩, h⟩ | ⟨⟨x, rfl⟩, h⟩ <;> (cases h; rfl)
def amMtLt : Prop := (∀ t ∈ amMthT, t.2.2.2 ≠ 9 → t.2.2.1 < 245) ∧ ∀ t ∈ amMthT, t.2.2.2 = 0 ∨ t.2.2.2 = 1 → amOwn.getD t.2.2.1 99 < 13
theorem am_invV {x lo d : Nat} (hA : amAll l Z lo d cal) (hMid : ∀ mid, mid < 245 → amMidOk mid) (hMt : amMtLt) (S : CallFix p m c cc nL s args amT0 (amR o)) (hK : amKS Z s) (hX : amXS Z s s.heap) (hfx : amFx Z) (hlo : lo ≤ s.heap.size)
    (hR : d + 11 ≤ R.frames ∧ 2031 + 200 * d ≤ R.locals ∧ cells ≤ R.cells ∧ slots ≤ R.slots) (hd : decode cc pc = .ok (.invokevirtual x, 3))
    (e1 : (o, x, a, 0) ∈ amMthT ∨ (o, x, a, 1) ∈ amMthT) (e2 : b = amNp.getD a 0 + 1) (h : amInv cal (pc + 3) a b 1 z L st M = .inl c')
    (hr : amRel Z s.heap nL lg L st M ls H locs) (kk : amGo p l e R s m args below meth c cells slots Q Z nL lg c') : W p l e R s m args below meth c H locs cells slots Q (F0 m pc ls (st.map (amV (zAd Z)))) := by
  have ha : a < 245 := by rcases e1 with h | h <;> exact hMt.1 _ h (by simp)
  have hOw : amOwn.getD a 99 < 13 := by rcases e1 with h | h <;> exact hMt.2 _ h (by simp)
  obtain ⟨m1, m2, m3, m4, m5, m6⟩ := hMid a ha
  have h2 : (match st.drop (b - 1) with
    | .inl (some (_, c, _)) :: _ => bif c == amOwn.getD a 99 && (Nat.ble b st.length && Nat.ble (amCat (st.drop b)) 8) then amPu z (cal a (st.take b).reverse M) (fun r M' => .inl (pc + 3, L, r ++ st.drop b, M')) else amNo
    | _ => (amNo : AmR)) = .inl c' := h
  split at h2
  · rename_i k C s' r' hdrop
    cases hb : (C == amOwn.getD a 99 && (Nat.ble b st.length && Nat.ble (amCat (st.drop b)) 8)) with
    | false => rw [hb] at h2; cases h2
    | true =>
      rw [hb] at h2
      simp only [Bool.and_eq_true, beq_iff_eq] at hb
      obtain ⟨f1, f2, f3⟩ := hb
      have f2 := Nat.le_of_ble_eq_true f2
      have f3 := Nat.le_of_ble_eq_true f3
      obtain ⟨v, M', g1, g2⟩ := amPu_inl (show amPu z (cal a (st.take b).reverse M) (fun r M' => .inl (pc + 3, L, r ++ st.drop b, M')) = .inl c' from h2)
      have hb1 : b - 1 + 1 = b := by omega
      have hrest : st.drop b = r' := by rw [← hb1, ← List.drop_drop, hdrop]; rfl
      have htake : st.take b = st.take (b - 1) ++ [vR k C s'] := by
        rw [← hb1, List.take_add, hdrop, hb1]; rfl
      have has : (st.take b).reverse = vR k C s' :: (st.take (b - 1)).reverse := by rw [htake, List.reverse_append]; rfl
      have hstk : st = st.take (b - 1) ++ vR k C s' :: r' := by rw [← hdrop, List.take_append_drop]
      have hin : ∀ w ∈ (st.take b).reverse, amOk (zAl Z) w ∧ amSet w := fun w hw => hr.2.2.2.2.1 w (List.mem_of_mem_take (List.mem_reverse.mp hw))
      have hm := hA a _ M v M' ha g1 hin ⟨hr.2.2.2.2.2.2.1, hr.2.2.2.2.2.2.2.2.1, hr.2.2.2.2.2.2.2.2.2⟩
      have hCl : C < 13 := by rw [f1]; exact hOw
      obtain ⟨cl1, -⟩ := amCl_ok hCl
      have hok := (hin (vR k C s') (by rw [has]; simp)).1
      have hmem := am_okR hok (by omega) (by omega) (by omega)
      obtain ⟨pp, hp1, hp2⟩ := amW_at (M := M) hmem
      have hce : amCell (zC Z) (zAd Z) C (M C s') (zG Z C s') = .inr (C, (List.range (amFkL.getD C []).length).map (amFv (zAd Z) C (M C s') (zG Z C s'))) := if_pos hCl
      rw [hce] at hp2
      have hrecv : ∃ cell : Cell, H[zAd Z C s']? = some cell ∧ cell.vm.isStatics = false ∧ s.vm.findClass (amYm a).cls = some cell.cls := by
        rw [m5, ← f1]
        exact va_recv hK.1 hr.2.2.2.2.2.1 cl1 hp2
      have hcc := am_goBack (pc := pc) (L := L) (f := fun r M' => .inl (pc + 3, L, r ++ st.drop b, M')) (st' := r') hm (by rw [hrest]) g2
      subst hcc
      have hlen : (((st.take (b - 1)).reverse).map (amV (zAd Z))).length = amNp.getD a 0 := by
        rw [List.length_map, List.length_reverse, List.length_take]; omega
      have hstack : st.map (amV (zAd Z)) = (((st.take (b - 1)).reverse).map (amV (zAd Z))).reverse ++ Value.ref (zAd Z C s') :: r'.map (amV (zAd Z)) := by
        conv => lhs; rw [hstk]
        simp [List.map_reverse, amV]
      have hpre : ∀ U : State, U.heap = H → s.WarmedH U.vm → amPre Z lo (st.take b).reverse M (Value.ref (zAd Z C s') :: ((st.take (b - 1)).reverse).map (amV (zAd Z))).toArray U := fun U hU hW => ⟨by rw [has]; rfl, amSt_of hK hX hr hlo hU hW⟩
      have hroom : (amRm d).frames + 1 ≤ R.frames ∧ 8 + (amMaxL.getD a 0 + 11) + (amRm d).locals ≤ R.locals := ⟨hR.1, by show 8 + (amMaxL.getD a 0 + 11) + (200 * d + 2000) ≤ R.locals; omega⟩
      have hWr : 2 * (F0 m pc ls (st.map (amV (zAd Z)))).monitorRoom + ((r'.map (amV (zAd Z))).map fun v => v.category).sum ≤ 8 := lv_room (by rw [amCat_eq, ← hrest]; exact f3)
      refine am_back hfx hr.2.2.2.2.2.2.2.1 (av := (Value.ref (zAd Z C s') :: ((st.take (b - 1)).reverse).map (amV (zAd Z))).toArray) ?_ hr (fun w hw => by rw [hstk]; simp [hw]) kk
      obtain ⟨hx, hbb, hml, hown, hts⟩ := S
      rcases e1 with e1 | e1
      · obtain ⟨l1, l2, l3⟩ : Jvm.Cond.methodLink (amR o) x (amYm a) ∈ amT0 ∧ Jvm.Cond.instanceMethod (amYm a) ∈ amT0 ∧ Jvm.Cond.selects (amYm a).cls (amYm a) (amYm a) ∈ amT0 := amMth_ok _ e1
        exact va_runV ⟨hx, hbb, hml, hown, hts⟩ hm ⟨callB_of (amNp.getD a 0) hts (amGoodIn (hMid a ha)) rfl rfl rfl (hts _ m2) (hts _ l1) m4 hroom, hts _ l2, hts _ l3⟩ ⟨amPre_blind, hrecv, hpre⟩ rfl hlen hr.1.1 hstack hWr hd ⟨hR.2.2.1, hR.2.2.2⟩
      · obtain ⟨l1, l2, l3⟩ : Jvm.Cond.methodLinkNest (amR o) x (amYm a) "SaltStairs" ∈ amNs ∧ Jvm.Cond.instanceMethod (amYm a) ∈ amT0 ∧ Jvm.Cond.selects (amYm a).cls (amYm a) (amYm a) ∈ amT0 := amMth_ok _ e1
        exact va_runVN ⟨hx, hbb, hml, hown, hts⟩ hm ⟨va_cnB (amNp.getD a 0) hts (amGoodIn (hMid a ha)) rfl rfl rfl (hK.2.1 _ l1) (hts _ m2) m4 hroom, hts _ l2, hts _ l3⟩ ⟨amPre_blind, hrecv, hpre⟩ rfl hlen hr.1.1 hstack hWr hd ⟨hR.2.2.1, hR.2.2.2⟩
  · cases h2
theorem am_invS {x lo d : Nat} (hA : amAll l Z lo d cal) (hMid : ∀ mid, mid < 245 → amMidOk mid) (hMt : amMtLt) (S : CallFix p m c cc nL s args amT0 (amR o)) (hK : amKS Z s) (hX : amXS Z s s.heap) (hfx : amFx Z) (hlo : lo ≤ s.heap.size)
    (hR : d + 11 ≤ R.frames ∧ 2031 + 200 * d ≤ R.locals ∧ cells ≤ R.cells ∧ slots ≤ R.slots) (hd : decode cc pc = .ok (.invokestatic x, 3))
    (e1 : (o, x, a, 2) ∈ amMthT ∨ (o, x, a, 3) ∈ amMthT) (e2 : b = amNp.getD a 0) (h : amInv cal (pc + 3) a b 0 z L st M = .inl c')
    (hr : amRel Z s.heap nL lg L st M ls H locs) (kk : amGo p l e R s m args below meth c cells slots Q Z nL lg c') : W p l e R s m args below meth c H locs cells slots Q (F0 m pc ls (st.map (amV (zAd Z)))) := by
  have ha : a < 245 := by rcases e1 with h | h <;> exact hMt.1 _ h (by simp)
  obtain ⟨m1, m2, m3, m4, m5, m6⟩ := hMid a ha
  have h2 : (bif Nat.ble b st.length && Nat.ble (amCat (st.drop b)) 8 then amPu z (cal a (st.take b).reverse M) (fun r M' => .inl (pc + 3, L, r ++ st.drop b, M')) else (amNo : AmR)) = .inl c' := h
  cases hb : (Nat.ble b st.length && Nat.ble (amCat (st.drop b)) 8) with
  | false => rw [hb] at h2; cases h2
  | true =>
    rw [hb] at h2
    simp only [Bool.and_eq_true] at hb
    obtain ⟨f2, f3⟩ := hb
    have f2 := Nat.le_of_ble_eq_true f2
    have f3 := Nat.le_of_ble_eq_true f3
    obtain ⟨v, M', g1, g2⟩ := amPu_inl (show amPu z (cal a (st.take b).reverse M) (fun r M' => .inl (pc + 3, L, r ++ st.drop b, M')) = .inl c' from h2)
    have hin : ∀ w ∈ (st.take b).reverse, amOk (zAl Z) w ∧ amSet w := fun w hw => hr.2.2.2.2.1 w (List.mem_of_mem_take (List.mem_reverse.mp hw))
    have hm := hA a _ M v M' ha g1 hin ⟨hr.2.2.2.2.2.2.1, hr.2.2.2.2.2.2.2.2.1, hr.2.2.2.2.2.2.2.2.2⟩
    have hcc := am_goBack (pc := pc) (L := L) (f := fun r M' => .inl (pc + 3, L, r ++ st.drop b, M')) (st' := st.drop b) hm rfl g2
    subst hcc
    have hlen : (((st.take b).reverse).map (amV (zAd Z))).length = amNp.getD a 0 := by
      rw [List.length_map, List.length_reverse, List.length_take]; omega
    have hstack : st.map (amV (zAd Z)) = (((st.take b).reverse).map (amV (zAd Z))).reverse ++ (st.drop b).map (amV (zAd Z)) := by
      rw [← List.map_reverse, List.reverse_reverse, ← List.map_append, List.take_append_drop]
    have hpre : ∀ U : State, U.heap = H → s.WarmedH U.vm → amPre Z lo (st.take b).reverse M (((st.take b).reverse).map (amV (zAd Z))).toArray U := fun U hU hW => ⟨rfl, amSt_of hK hX hr hlo hU hW⟩
    have hroom : (amRm d).frames + 1 ≤ R.frames ∧ 8 + (amMaxL.getD a 0 + 11) + (amRm d).locals ≤ R.locals := ⟨hR.1, by show 8 + (amMaxL.getD a 0 + 11) + (200 * d + 2000) ≤ R.locals; omega⟩
    have hWr : 2 * (F0 m pc ls (st.map (amV (zAd Z)))).monitorRoom + (((st.drop b).map (amV (zAd Z))).map fun v => v.category).sum ≤ 8 := lv_room (by rw [amCat_eq]; exact f3)
    refine am_back hfx hr.2.2.2.2.2.2.2.1 (av := (((st.take b).reverse).map (amV (zAd Z))).toArray) ?_ hr (fun w hw => List.mem_of_mem_drop hw) kk
    obtain ⟨hx, hbb, hml, hown, hts⟩ := S
    rcases e1 with e1 | e1
    · obtain ⟨l1, l2⟩ : Jvm.Cond.methodLink (amR o) x (amYm a) ∈ amT0 ∧ Jvm.Cond.static (amYm a) ∈ amT0 := amMth_ok _ e1
      exact va_runS ⟨hx, hbb, hml, hown, hts⟩ hm ⟨callB_of (amNp.getD a 0) hts (amGoodIn (hMid a ha)) rfl rfl rfl (hts _ m2) (hts _ l1) m4 hroom, hts _ l2⟩ ⟨amPre_blind, hpre⟩ rfl hlen hr.1.1 hstack hWr hd ⟨hR.2.2.1, hR.2.2.2⟩
    · obtain ⟨l1, l2⟩ : Jvm.Cond.methodLinkNest (amR o) x (amYm a) "SaltStairs" ∈ amNs ∧ Jvm.Cond.static (amYm a) ∈ amT0 := amMth_ok _ e1
      exact va_runSN ⟨hx, hbb, hml, hown, hts⟩ hm ⟨va_cnB (amNp.getD a 0) hts (amGoodIn (hMid a ha)) rfl rfl rfl (hK.2.1 _ l1) (hts _ m2) m4 hroom, hts _ l2, trivial⟩ ⟨amPre_blind, hpre⟩ rfl hlen hr.1.1 hstack hWr hd ⟨hR.2.2.1, hR.2.2.2⟩
end AmSI
