theorem amCon_ok : ∀ t ∈ amConT, Jvm.Cond.constant (amR t.1) t.2.1 (Int32.ofInt t.2.2) ∈ amT0 := by decide +kernel
theorem amConL_ok : ∀ t ∈ amConL, Jvm.Cond.constantLong (amR t.1) t.2.1 (Int64.ofInt t.2.2) ∈ amT0 := by decide +kernel
theorem amStr_ok : ∀ t ∈ amStrT, (t.1 = 7 ∧ t.2.1 = 84 ∧ t.2.2 = 98) ∨ (t.1 = 7 ∧ t.2.1 = 73 ∧ t.2.2 = 99) := by decide +kernel
/-- the String methods (shown elsewhere) -/
def amStrOk (Z : AmZ) : Prop := ∀ {p : Program} {l : Launch} {e : Env} {R : Room} {s : State} {m : MethodId} {args : Array Value} {below : List Frame} {meth : Method} {c : Code} {cells slots : Nat} {Q : State → Prop} {cc : ByteArray} {nL : Nat} {lg : List Nat} {L st : List AmV} {M : AmM} {ls : Array Slot} {H : Heap} {locs : List Loc} {pc o x a b q : Nat} {z : Int} {cal : Nat → List AmV → AmM → Option (AmV × AmM)} {c' : AmC},
  CallFix p m c cc nL s args amT0 (amR o) → amKS Z s → amXS Z s s.heap → amFx Z → 11 ≤ R.frames ∧ 2031 ≤ R.locals ∧ cells ≤ R.cells ∧ slots ≤ R.slots → decode cc pc = .ok (.invokevirtual x, 3) → (q = 9 ∧ (o, x, 1009, 9) ∈ amMthT ∨ q = 10 ∧ (o, x, 1010, 9) ∈ amMthT ∨ q = 11 ∧ (o, x, 1011, 9) ∈ amMthT) →
  amInv cal (pc + 3) a b q z L st M = .inl c' → amRel Z s.heap nL lg L st M ls H locs → amGo p l e R s m args below meth c cells slots Q Z nL lg c' → W p l e R s m args below meth c H locs cells slots Q (F0 m pc ls (st.map (amV (zAd Z))))
section AmSS
variable {p : Program} {l : Launch} {e : Env} {R : Room} {s : State} {m : MethodId} {args : Array Value} {below : List Frame} {meth : Method} {c : Code} {cells slots : Nat} {Q : State → Prop}
variable {cc : ByteArray} {Z : AmZ} {nL : Nat} {lg : List Nat} {L st : List AmV} {M : AmM} {ls : Array Slot} {H : Heap} {locs : List Loc} {pc : Nat}
variable {o : Nat} {ret : Option FieldType} {cal : Nat → List AmV → AmM → Option (AmV × AmM)} {nx a b q : Nat} {z : Int} {ts : List Nat} {c' : AmC}
theorem am_sim {i : Jvm.ClassFile.Instr} {len lo d : Nat} (hStr : amStrOk Z) (hA : amAll l Z lo d cal) (hMid : ∀ mid, mid < 245 → amMidOk mid) (hMt : amMtLt) (S : CallFix p m c cc nL s args amT0 (amR o)) (hK : amKS Z s) (hX : amXS Z s s.heap) (hfx : amFx Z) (hlo : lo ≤ s.heap.size)
    (hR : d + 11 ≤ R.frames ∧ 2031 + 200 * d ≤ R.locals ∧ cells ≤ R.cells ∧ slots ≤ R.slots) (hd : decode cc pc = .ok (i, len)) (hn : (∀ d lo hi of, i ≠ .tableswitch d lo hi of) → len = amLenI i ∧ nx = pc + amLenI i)
    (hc : amChkI amConT amConL amStrT amFldT amMthT (fun m => amNp.getD m 0) o ret lg pc i nx a b q z ts = true) (h : amEx (zG Z) cal i nx a b q z ts L st M = .inl c')
    (hr : amRel Z s.heap nL lg L st M ls H locs) (kk : amGo p l e R s m args below meth c cells slots Q Z nL lg c') : W p l e R s m args below meth c H locs cells slots Q (F0 m pc ls (st.map (amV (zAd Z)))) := by
  cases hiA : amIsA i with
  | true =>
    obtain ⟨rfl, rfl⟩ := hn (fun _ _ _ _ h => by rw [h] at hiA; cases hiA)
    exact am_simA hiA S.1 S.2.1 hd rfl hc h hr kk
  | false =>
  cases hiB : amIsB i with
  | true => exact am_simB hiB S.1 S.2.1 hd (fun h9 => by
      obtain ⟨h1, h2⟩ := hn h9
      cases i <;> first | (cases hiB; done) | exact ⟨h1, h2⟩ | exact absurd rfl (h9 _ _ _ _)) hc h hr kk
  | false =>
  have hR1 : 1 ≤ R.frames ∧ 31 ≤ R.locals ∧ cells ≤ R.cells ∧ slots ≤ R.slots := ⟨by omega, by omega, hR.2.2.1, hR.2.2.2⟩
  cases i
  case getfield x => obtain ⟨rfl, rfl⟩ := hn (fun _ _ _ _ h => by cases h); exact am_getf amFld_ok S hK hfx hd hc h hr kk
  case putfield x => obtain ⟨rfl, rfl⟩ := hn (fun _ _ _ _ h => by cases h); exact am_putf amFld_ok S hK hfx hd hc h hr kk
  case arraylength => obtain ⟨rfl, rfl⟩ := hn (fun _ _ _ _ h => by cases h); exact am_alen S hK hX hfx hd h hr kk
  case iaload => obtain ⟨rfl, rfl⟩ := hn (fun _ _ _ _ h => by cases h); exact am_iald S hK hX hfx hd h hr kk
  case baload => obtain ⟨rfl, rfl⟩ := hn (fun _ _ _ _ h => by cases h); exact am_bald S hK hfx hd h hr kk
  case laload => obtain ⟨rfl, rfl⟩ := hn (fun _ _ _ _ h => by cases h); exact am_lald S hK hfx hd h hr kk
  case aaload => obtain ⟨rfl, rfl⟩ := hn (fun _ _ _ _ h => by cases h); exact am_aald S hK hfx hd h hr kk
  case iastore => obtain ⟨rfl, rfl⟩ := hn (fun _ _ _ _ h => by cases h); exact am_iast S hK hfx hd h hr kk
  case bastore => obtain ⟨rfl, rfl⟩ := hn (fun _ _ _ _ h => by cases h); exact am_bast S hK hfx hd h hr kk
  case lastore => obtain ⟨rfl, rfl⟩ := hn (fun _ _ _ _ h => by cases h); exact am_last S hK hfx hd h hr kk
  case invokevirtual x =>
    obtain ⟨rfl, rfl⟩ := hn (fun _ _ _ _ h => by cases h)
    have hi : amInv cal (pc + 3) a b q z L st M = .inl c' := h
    match q, hc, hi with
    | 1, hc, hi =>
      have hc2 : ((amMthT.contains (o, x, a, 0) || amMthT.contains (o, x, a, 1)) && decide (b = amNp.getD a 0 + 1)) = true := hc
      simp only [Bool.and_eq_true, Bool.or_eq_true, decide_eq_true_eq, List.contains_iff_mem] at hc2
      exact am_invV hA hMid hMt S hK hX hfx hlo hR hd hc2.1 hc2.2 hi hr kk
    | 9, hc, hi =>
      have hc2 : amMthT.contains (o, x, 1009, 9) = true := hc
      simp only [List.contains_iff_mem] at hc2
      exact hStr S hK hX hfx ⟨by omega, by omega, hR.2.2⟩ hd (Or.inl ⟨rfl, hc2⟩) hi hr kk
    | 10, hc, hi =>
      have hc2 : amMthT.contains (o, x, 1010, 9) = true := hc
      simp only [List.contains_iff_mem] at hc2
      exact hStr S hK hX hfx ⟨by omega, by omega, hR.2.2⟩ hd (Or.inr (Or.inl ⟨rfl, hc2⟩)) hi hr kk
    | 11, hc, hi =>
      have hc2 : amMthT.contains (o, x, 1011, 9) = true := hc
      simp only [List.contains_iff_mem] at hc2
      exact hStr S hK hX hfx ⟨by omega, by omega, hR.2.2⟩ hd (Or.inr (Or.inr ⟨rfl, hc2⟩)) hi hr kk
    | 0, hc, hi => cases hc
    | 2, hc, hi => cases hc
    | 3, hc, hi => cases hc
    | 4, hc, hi => cases hc
    | 5, hc, hi => cases hc
    | 6, hc, hi => cases hc
    | 7, hc, hi => cases hc
    | 8, hc, hi => cases hc
    | n + 12, hc, hi => cases hc
  case invokestatic x =>
    obtain ⟨rfl, rfl⟩ := hn (fun _ _ _ _ h => by cases h)
    have hi : amInv cal (pc + 3) a b q z L st M = .inl c' := h
    match q, hc, hi with
    | 0, hc, hi =>
      have hc2 : ((amMthT.contains (o, x, a, 2) || amMthT.contains (o, x, a, 3)) && decide (b = amNp.getD a 0)) = true := hc
      simp only [Bool.and_eq_true, Bool.or_eq_true, decide_eq_true_eq, List.contains_iff_mem] at hc2
      exact am_invS hA hMid hMt S hK hX hfx hlo hR hd hc2.1 hc2.2 hi hr kk
    | 5, hc, hi =>
      have hc2 : amMthT.contains (o, x, 1005, 9) = true := hc
      simp only [List.contains_iff_mem] at hc2
      exact am_max S hR1 hd hc2 hi hr kk
    | 6, hc, hi =>
      have hc2 : amMthT.contains (o, x, 1006, 9) = true := hc
      simp only [List.contains_iff_mem] at hc2
      exact am_min S hR1 hd hc2 hi hr kk
    | 7, hc, hi =>
      have hc2 : amMthT.contains (o, x, 1007, 9) = true := hc
      simp only [List.contains_iff_mem] at hc2
      exact am_cpy S hK hfx hR1 hd hc2 hi hr kk
    | 1, hc, hi => cases hc
    | 2, hc, hi => cases hc
    | 3, hc, hi => cases hc
    | 4, hc, hi => cases hc
    | n + 8, hc, hi => cases hc
  case ldc x =>
    obtain ⟨rfl, rfl⟩ := hn (fun _ _ _ _ h => by cases h)
    obtain ⟨hx, hb, hml, hown, hts⟩ := S
    match q, hc, h with
    | 0, hc, h =>
      have hc2 : (amConT.contains (o, x, z) && amR32 z) = true := hc
      simp only [Bool.and_eq_true, List.contains_iff_mem] at hc2
      cases h
      exact am_push (v := vI z) ⟨amR32_of hc2.2, trivial⟩ (fun k1 => lv_ldc hx hb hown (hts _ (amCon_ok _ hc2.1)) hd k1) hr kk
    | n + 1, hc, h =>
      have hc2 : amStrT.contains (o, x, a) = true := hc
      simp only [List.contains_iff_mem] at hc2
      cases h
      rcases amStr_ok _ hc2 with ⟨rfl, rfl, rfl⟩ | ⟨rfl, rfl, rfl⟩
      · exact am_push (v := vR 29 98 0) ⟨⟨amKnd_90.2.1, Or.inr ⟨by omega, rfl⟩⟩, trivial⟩ (fun k1 => va_ldcS hx hb hown hK.2.2.1 hd k1) hr kk
      · exact am_push (v := vR 29 99 0) ⟨⟨amKnd_90.2.2, Or.inr ⟨by omega, rfl⟩⟩, trivial⟩ (fun k1 => va_ldcS hx hb hown hK.2.2.2 hd k1) hr kk
  case ldc_w x =>
    obtain ⟨rfl, rfl⟩ := hn (fun _ _ _ _ h => by cases h)
    obtain ⟨hx, hb, hml, hown, hts⟩ := S
    have hc2 : (amConT.contains (o, x, z) && amR32 z) = true := hc
    simp only [Bool.and_eq_true, List.contains_iff_mem] at hc2
    cases h
    exact am_push (v := vI z) ⟨amR32_of hc2.2, trivial⟩ (fun k1 => lv_ldcw hx hb hown (hts _ (amCon_ok _ hc2.1)) hd k1) hr kk
  case ldc2_w x =>
    obtain ⟨rfl, rfl⟩ := hn (fun _ _ _ _ h => by cases h)
    obtain ⟨hx, hb, hml, hown, hts⟩ := S
    have hc2 : (amConL.contains (o, x, z) && amR64 z) = true := hc
    simp only [Bool.and_eq_true, List.contains_iff_mem] at hc2
    cases h
    exact am_push (v := vL z) ⟨amR64_of hc2.2, trivial⟩ (fun k1 => lv_ldc2 hx hb hown (hts _ (amConL_ok _ hc2.1)) hd k1) hr kk
  case ireturn =>
    exfalso
    have h2 : (match st with
      | [.inr (.inl x)] => (match (generalizing := false) q with
        | 0 => (.inr (some (vI x, M)) : AmR)
        | _ => bif amZ x then (.inr (some (vI x, M)) : AmR) else amNo)
      | _ => (amNo : AmR)) = .inl c' := h
    split at h2
    · rename_i x
      split at h2
      · cases h2
      · cases hz : amZ x with
        | false => rw [hz] at h2; cases h2
        | true => rw [hz] at h2; cases h2
    · cases h2
  case lreturn =>
    exfalso
    have h2 : (match st with
      | [.inr (.inr (.inl x))] => (.inr (some (vL x, M)) : AmR)
      | _ => (amNo : AmR)) = .inl c' := h
    split at h2 <;> cases h2
  case return_ =>
    exfalso
    have h2 : (match st with
      | [] => (.inr (some (vU, M)) : AmR)
      | _ => (amNo : AmR)) = .inl c' := h
    split at h2 <;> cases h2
  all_goals first | (cases hiA; done) | (cases hiB; done) | (have h' : (amNo : AmR) = .inl c' := h; cases h')
/-- the returns -/
theorem am_ret {i : Jvm.ClassFile.Instr} {len : Nat} {v : AmV} {M' : AmM} (hx : p.tables.exec = Jvm.exec) (hb : c.code = cc) (hret : meth.sig.returnType = ret) (hlk : meth.locks = false) (hfx : amFx Z) (hd : decode cc pc = .ok (i, len)) (hn : (∀ d lo hi of, i ≠ .tableswitch d lo hi of) → len = amLenI i ∧ nx = pc + amLenI i)
    (hc : amChkI amConT amConL amStrT amFldT amMthT (fun m => amNp.getD m 0) o ret lg pc i nx a b q z ts = true) (h : amEx (zG Z) cal i nx a b q z ts L st M = .inr (some (v, M')))
    (hr : amRel Z s.heap nL lg L st M ls H locs) : W p l e R s m args below meth c H locs 0 0 (MQ below (amPost Z v M') args s 0 0 (zA Z)) (F0 m pc ls (st.map (amV (zAd Z)))) := by
  have hS := hr.2.2.2.2.2.2.2.1
  have hpu : amPu0 Z M := ⟨hr.2.2.2.2.2.2.1, hr.2.2.2.2.2.2.2.2.1, hr.2.2.2.2.2.2.2.2.2⟩
  have hpost : M' = M → (amOk (zAl Z) v ∧ (∀ k c s, v ≠ vR k c s) ∧ v ≠ vN) → ∀ (t : State) (w : Option Value), w = amRetV (zAd Z) v → t.heap = H → amPost Z v M' args s (.returned w) t := fun hM hv t w hw ht => ⟨by rw [hw], by rw [hM, ht]; exact hr.2.2.2.2.2.1, by rw [ht]; exact hS.1, fun q h1 h2 => by rw [ht]; exact hS.2.1 q h1 h2, by rw [hM]; exact hpu, hv⟩
  cases i
  case ireturn =>
    obtain ⟨rfl, rfl⟩ := hn (fun _ _ _ _ h => by cases h)
    have h2 : (match st with
      | [.inr (.inl x)] => (match (generalizing := false) q with
        | 0 => (.inr (some (vI x, M)) : AmR)
        | _ => bif amZ x then (.inr (some (vI x, M)) : AmR) else amNo)
      | _ => (amNo : AmR)) = .inr (some (v, M')) := h
    split at h2
    · rename_i x
      have hxx : i32 x := hr.top (v := vI x) (by simp)
      have hc2 : (match (generalizing := false) q with
        | 0 => decide (ret = some .int)
        | _ => decide (ret = some .boolean)) = true := hc
      split at h2
      · cases h2
        exact W.iret hx hb (hret.trans (of_decide_eq_true hc2)) (fun t ht _ => hpost rfl ⟨hxx, (fun _ _ _ h => by cases h), (fun h => by cases h)⟩ t _ rfl ht) hS.2.2 hd hlk
      · rename_i hq
        cases hz : amZ x with
        | false => rw [hz] at h2; cases h2
        | true =>
          rw [hz] at h2
          cases h2
          have h01 : x = 0 ∨ x = 1 := by simpa [amZ] using hz
          have hrb : ret = some .boolean := by
            split at hc2
            · exact absurd rfl hq
            · exact of_decide_eq_true hc2
          exact W.zret (ty := .boolean) hx hb (hret.trans hrb) (by rcases h01 with rfl | rfl <;> decide) (fun t ht _ => hpost rfl ⟨hxx, (fun _ _ _ h => by cases h), (fun h => by cases h)⟩ t _ rfl ht) hS.2.2 hd hlk
    · cases h2
  case lreturn =>
    obtain ⟨rfl, rfl⟩ := hn (fun _ _ _ _ h => by cases h)
    have h2 : (match st with
      | [.inr (.inr (.inl x))] => (.inr (some (vL x, M)) : AmR)
      | _ => (amNo : AmR)) = .inr (some (v, M')) := h
    split at h2
    · rename_i x
      cases h2
      have hxx : i64 x := hr.top (v := vL x) (by simp)
      have hc2 : decide (ret = some .long) = true := hc
      exact W.lret hx hb (hret.trans (of_decide_eq_true hc2)) (fun t ht _ => hpost rfl ⟨hxx, (fun _ _ _ h => by cases h), (fun h => by cases h)⟩ t _ rfl ht) hS.2.2 hd hlk
    · cases h2
  case return_ =>
    obtain ⟨rfl, rfl⟩ := hn (fun _ _ _ _ h => by cases h)
    have h2 : (match st with
      | [] => (.inr (some (vU, M)) : AmR)
      | _ => (amNo : AmR)) = .inr (some (v, M')) := h
    split at h2
    · cases h2
      have hc2 : decide (ret = none) = true := hc
      exact W.vret hx hb (hret.trans (of_decide_eq_true hc2)) (fun t ht _ => hpost rfl ⟨trivial, (fun _ _ _ h => by cases h), (fun h => by cases h)⟩ t _ rfl ht) hS.2.2 hd hlk
    · cases h2
  case tableswitch d lo hi2 offs =>
    exfalso
    have h2 : (match st with
      | .inr (.inl x) :: st' => (amTs x z ts (fun t => .inl (t, L, st', M)) a : AmR)
      | _ => amNo) = .inr (some (v, M')) := h
    have key : ∀ (x : Int) (st' : List AmV) (ts : List Nat) (lo : Int) (d : Nat), ∃ t, amTs x lo ts (fun t => .inl (t, L, st', M)) d = .inl (t, L, st', M) := by
      intro x st' ts
      induction ts with
      | nil => intro lo d; exact ⟨d, rfl⟩
      | cons t ts ih =>
        intro lo d
        unfold amTs
        by_cases hx : x = lo
        · rw [if_pos hx]; exact ⟨t, rfl⟩
        · rw [if_neg hx]; exact ih _ _
    split at h2
    · rename_i x st'
      obtain ⟨t, ht⟩ := key x st' ts z a
      rw [ht] at h2
      cases h2
    · cases h2
  all_goals
    exfalso
    first
    | (have h' : (amNo : AmR) = .inr (some (v, M')) := h; cases h'; done)
    | (simp only [amEx, amLoI, amLoL, amLoA, amStoI, amStoL, amStoA, amInv, amPu, amIf, Bool.cond_eq_ite] at h
       repeat' (split at h)
       all_goals first | (cases h; done) | (simp [amNo] at h; done))
end AmSS
