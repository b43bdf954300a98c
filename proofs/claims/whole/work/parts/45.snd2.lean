theorem am_chk1_of {cc : ByteArray} {o : Nat} {ret : Option FieldType} {lg : List Nat} {pc : Nat} {en : AmE} (h : amChk1 cc o ret lg pc en = true) : ∃ len, decode cc pc = .ok (en.1, len) ∧ ((∀ d lo hi of, en.1 ≠ .tableswitch d lo hi of) → len = amLenI en.1 ∧ en.2.1 = pc + amLenI en.1) ∧
    amChkI amConT amConL amStrT amFldT amMthT (fun m => amNp.getD m 0) o ret lg pc en.1 en.2.1 en.2.2.1 en.2.2.2.1 en.2.2.2.2.1 en.2.2.2.2.2.1 en.2.2.2.2.2.2 = true := by
  unfold amChk1 at h
  split at h
  · rename_i i' len hdec
    simp only [Bool.and_eq_true, decide_eq_true_eq] at h
    obtain ⟨rfl, h3, h4⟩ := h
    refine ⟨len, hdec, fun hne => ?_, h4⟩
    split at h3
    · rename_i d lo hi of heq
      exact absurd heq (hne d lo hi of)
    · simpa using h3
  · cases h
theorem am_chkQ {cc : ByteArray} {o : Nat} {ret : Option FieldType} {cd : List (Option AmE)} {pc : Nat} {en : AmE} (hchk : amChkQ cc o ret cd = true) (h : cd[pc]? = some (some en)) : amChkS cc o pc ret en = true ∧ (amSpec en.1 en.2.2.2.2.1 = true → decode cc pc = .ok (en.1, amLenS en.1) ∧ en.2.1 = pc + amLenS en.1) := by
  have hl : pc < cd.length := (List.getElem?_eq_some_iff.mp h).1
  have h1 := List.all_eq_true.mp hchk pc (List.mem_range.mpr hl)
  have hg : cd.getD pc none = some en := by rw [List.getD_eq_getElem?_getD, h]; rfl
  rw [hg] at h1
  simp only [Bool.and_eq_true] at h1
  refine ⟨h1.1, fun hs => ?_⟩
  have h2 := h1.2
  rw [hs] at h2
  simp only [cond_true] at h2
  split at h2
  · rename_i i' len hdec
    simp only [Bool.and_eq_true, decide_eq_true_eq] at h2
    obtain ⟨rfl, rfl, h4⟩ := h2
    exact ⟨hdec, h4⟩
  · cases h2
section AmC1
variable {p : Program} {l : Launch} {e : Env} {R : Room} {s : State} {m : MethodId} {args : Array Value} {below : List Frame} {meth : Method} {c : Code} {cells slots : Nat} {Q : State → Prop}
variable {cc : ByteArray} {Z : AmZ} {ad : Nat → Nat → Nat} {n : Nat} {G : AmG} {nL : Nat} {L st : List AmV} {M : AmM} {ls : Array Slot} {H : Heap} {locs : List Loc} {pc : Nat}
variable {o : Nat} {ret : Option FieldType} {cal1 : Nat → List AmV → AmM → AmG → Nat → Option (AmM × AmG × Nat)} {nx a b q : Nat} {z : Int} {ts : List Nat} {cd : List (Option AmE)}
/-- behind a constructor's call -/
theorem am_back1 {M' : AmM} {G' : AmG} {n' : Nat} {av : Array Value} {st0 : List Value} {st' : List AmV} (hn : n ≤ n') (hS : va_S (zA Z) s.heap H locs)
    (hrun : va_Run p l e R s m args below meth c H locs cells slots (n' - n) (amSz n' - amSz n) (F0 m pc ls st0) (st'.map (amV ad)) (amPost1 Z ad n M' G' n' av) (zA Z))
    (hr : amRel (zz Z ad n G) s.heap nL [] L st M ls H locs) (hs : ∀ w ∈ st', w ∈ st)
    (kk : ∀ (ad' : Nat → Nat → Nat) (ls' : Array Slot) (H' : Heap) (locs' : List Loc), amAgr (amFull.take n) ad ad' → amFx1 (zz Z ad' n' G') → amRel (zz Z ad' n' G') s.heap nL [] L st' M' ls' H' locs' → W p l e R s m args below meth c H' locs' (cells + (n' - n)) (slots + (amSz n' - amSz n)) Q (F0 m (pc + 3) ls' (st'.map (amV ad')))) :
    W p l e R s m args below meth c H locs cells slots Q (F0 m pc ls st0) := by
  intro T hT X
  obtain ⟨w, st₀, t, T', L', h0, X', hL, e1, e2, ⟨hw, hz, hk, ad', hag, hP, hp, hfx⟩, st1⟩ := hrun T hT X
  rw [h0] at hz hk
  have hS' : va_S (zA Z) s.heap T'.heap (locs ++ L') := ⟨Nat.le_trans hS.1 (by rw [e1]; exact hz), fun q h1 h2 => by rw [e1, hk q (Nat.lt_of_lt_of_le h1 hS.1) h2]; exact hS.2.1 q h1 h2, fun q hq => by
      rcases List.mem_append.mp hq with h | h
      · exact hS.2.2 q h
      · exact hL q h⟩
  have hsub : ∀ x ∈ amFull.take n, x ∈ amFull.take n' := fun x hx => amTk_sub hn hx
  obtain ⟨⟨l1, l2, l3⟩, r2, r3, r4, r5, -⟩ := hr
  have hrel : amRel (zz Z ad' n' G') s.heap nL [] L st' M' ls T'.heap (locs ++ L') := ⟨⟨l1, l2, fun i v hi hs => by
      rw [l3 i v hi hs]
      show some (Slot.val (amV ad v)) = some (Slot.val (amV ad' v))
      rw [hag.v (r3 v (List.mem_of_getElem? hi))]⟩, r2, fun v hv => amOk_mono hsub (r3 v hv), r4, fun v hv => ⟨amOk_mono hsub (r5 v (hs v hv)).1, (r5 v (hs v hv)).2⟩, by rw [e1]; exact hP, hp.1, hS', hp.2.1, hp.2.2⟩
  have hst : st'.map (amV ad') = st'.map (amV ad) := amMap_agr hag fun v hv => (r5 v (hs v hv)).1
  cases hw
  have k1 := kk ad' ls T'.heap (locs ++ L') hag hfx hrel
  rw [hst] at k1
  obtain ⟨t2, a1, b1⟩ := k1 T' rfl X'
  exact ⟨t2, st1 t2 a1, b1⟩
theorem amKnd_100 {k c : Nat} (h : amKndL.getD c 99 = k) (hk : 20 ≤ k ∧ k ≤ 25) (h90 : c ≠ 90) : 100 ≤ c := by
  have key : ∀ c, c < 100 → c ≠ 90 → ¬ (20 ≤ amKndL.getD c 99 ∧ amKndL.getD c 99 ≤ 25) := by decide +kernel
  rcases Nat.lt_or_ge c 100 with h1 | h1
  · rw [← h] at hk; exact absurd hk (key c h1 h90)
  · exact h1
/-- one instruction of a constructor -/
theorem am_sim1 {i : Jvm.ClassFile.Instr} {pc' : Nat} {L' st' : List AmV} {M' : AmM} {G' : AmG} {n' lo d : Nat} (hcal : amAll1 l Z lo d cal1) (S : CallFix p m c cc nL s args amT0 (amR o)) (hK : amKS (zz Z ad n G) s) (hAO : amAOs s) (hX : amXS (zz Z ad n G) s s.heap) (hlo : lo ≤ s.heap.size) (hA : ∀ q, s.heap.size ≤ q → zA Z q) (hfx : amFx1 (zz Z ad n G)) (hin : meth.name = "<init>" ∨ o = 13)
    (hR : d + 31 ≤ R.frames ∧ 6100 + 200 * d ≤ R.locals) (hRc : cells + (n' - n) ≤ R.cells ∧ slots + (amSz n' - amSz n) ≤ R.slots)
    (hcd : cd[pc]? = some (some (i, nx, a, b, q, z, ts))) (hchk : amChkQ cc o ret cd = true)
    (h : amEx1 (fun G => amDf G 4) cal1 i nx a b q z ts L st M G n = .inl (pc', L', st', M', G', n'))
    (hr : amRel (zz Z ad n G) s.heap nL [] L st M ls H locs)
    (kk : ∀ (ad' : Nat → Nat → Nat) (ls' : Array Slot) (H' : Heap) (locs' : List Loc), n ≤ n' → amAgr (amFull.take n) ad ad' → amFx1 (zz Z ad' n' G') → amRel (zz Z ad' n' G') s.heap nL [] L' st' M' ls' H' locs' → W p l e R s m args below meth c H' locs' (cells + (n' - n)) (slots + (amSz n' - amSz n)) Q (F0 m pc' ls' (st'.map (amV ad')))) :
    W p l e R s m args below meth c H locs cells slots Q (F0 m pc ls (st.map (amV ad))) := by
  obtain ⟨hcS, hcD⟩ := am_chkQ hchk hcd
  have gen : ∀ {i : Jvm.ClassFile.Instr}, amChk1 cc o ret [] pc (i, nx, a, b, q, z, ts) = true → amLift (amEx G (amDf G 4) i nx a b q z ts L st M) G n = .inl (pc', L', st', M', G', n') → W p l e R s m args below meth c H locs cells slots Q (F0 m pc ls (st.map (amV ad))) := by
    intro i hc1 h1
    obtain ⟨h2, rfl, rfl⟩ := amLift_l h1
    obtain ⟨len, hdec, hn, hc⟩ := am_chk1_of hc1
    rw [Nat.sub_self, Nat.sub_self, Nat.add_zero, Nat.add_zero] at hRc
    have hall : amAll l (zz Z ad n' G') lo 4 (amDf G' 4) := fun mid as M v M' h1 h2 h3 h4 => am_sound l (zz Z ad n' G') lo (am_str _) hfx.fx amMid_all amMt_lt 4 mid as M v M' h1 (amDf_D 4 mid as M _ h2) h3 h4
    refine am_sim (Z := zz Z ad n' G') (d := 4) (am_str _) hall (fun mid h => (amMid_all mid h).1) amMt_lt S hK hX hfx.fx hlo ⟨by omega, by omega, hRc.1, hRc.2⟩ hdec hn hc h2 hr fun ls' H' locs' hr' => ?_
    have k1 := kk ad ls' H' locs' (Nat.le_refl _) amAgr.refl hfx hr'
    rw [Nat.sub_self, Nat.sub_self, Nat.add_zero, Nat.add_zero] at k1
    exact k1
  have made : ∀ {c1 s1 : Nat}, amFull[n]? = some (c1, s1) → n + 1 - n = 1 ∧ amSz (n + 1) - amSz n = amSize (c1, s1) ∧ (c1, s1) ∉ zAl (zz Z ad n G) ∧ amFull.take (n + 1) = zAl (zz Z ad n G) ++ [(c1, s1)] := fun hx => ⟨by omega, by rw [amSz_s hx]; omega, amTk_new hx, amTk_s hx⟩
  cases i
  case new x =>
    obtain ⟨hd, hnx⟩ := hcD rfl
    have hd : decode cc pc = .ok (.new x, 3) := hd
    have hc2 : amNewT.contains (o, x, a) = true := hcS
    obtain ⟨w1, w2, w3, w4⟩ := amNew_ok _ (List.contains_iff_mem.mp hc2)
    have h2 : (match amFull[n]? with
      | some (c, s) => bif c == a then (.inl (nx, L, vR c c s :: st, amRst M c s, amGst1 G c s, n + 1) : AmR1) else amNo1
      | none => amNo1) = .inl (pc', L', st', M', G', n') := h
    split at h2
    · rename_i c1 s1 hx
      cases hb : (c1 == a) with
      | false => rw [hb] at h2; cases h2
      | true =>
        rw [hb] at h2
        have hca : c1 = a := by simpa using hb
        subst hca
        cases h2
        obtain ⟨e1, e2, e3, e4⟩ := made hx
        have e5 : amSize (c1, s1) = (amFkL.getD c1 []).length := if_pos w4
        rw [e1, e2, e5] at hRc
        refine am_newS (Z := zz Z ad n G) S hK hfx hA w4 w1 w2 w3 e3 hRc.1 hRc.2 hd hr fun q H1 f1 r1 => ?_
        have k1 := kk (amAu ad c1 s1 q) ls H1 locs (by omega) (amAu_agr e3 (Or.inl w4)) (by show amFx1 (amZn Z _ (amFull.take (n + 1)) _); rw [e4]; exact f1) (by show amRel (amZn Z _ (amFull.take (n + 1)) _) _ _ _ _ _ _ _ _ _; rw [e4]; exact r1)
        rw [e1, e2, e5, show nx = pc + 3 from hnx] at k1
        exact k1
    · cases h2
  case newarray at_ =>
    obtain ⟨hd, hnx⟩ := hcD rfl
    have hd : decode cc pc = .ok (.newarray at_, 2) := hd
    have h2 : (match st with
      | .inr (.inl k) :: st' => (match amFull[n]? with
        | some (c, s) => bif amKndL.getD c 99 == a && decide (k = (amLenL.getD c 0 : Int)) then (.inl (nx, L, vR a c s :: st', amRst M c s, amGst1 G c s, n + 1) : AmR1) else amNo1
        | none => amNo1)
      | _ => amNo1) = .inl (pc', L', st', M', G', n') := h
    split at h2
    · rename_i k st1
      split at h2
      · rename_i c1 s1 hx
        cases hb : (amKndL.getD c1 99 == a && decide (k = (amLenL.getD c1 0 : Int))) with
        | false => rw [hb] at h2; cases h2
        | true =>
          rw [hb] at h2
          simp only [Bool.and_eq_true, beq_iff_eq, decide_eq_true_eq] at hb
          obtain ⟨hb1, hb2⟩ := hb
          cases h2
          obtain ⟨e1, e2, e3, e4⟩ := made hx
          have hc2 : (match (generalizing := false) at_ with
            | .int => a == 20
            | .long => a == 21
            | .byte => a == 22
            | .boolean => a == 23
            | _ => false) = true := hcS
          have ha : 20 ≤ a ∧ a ≤ 23 ∧ (amTys (zC Z))[a - 20]? = some (zC Z a, newarray.typeOf at_) ∧ Jvm.Cond.arrayClass (newarray.typeOf at_) ∈ amT0 := by
            split at hc2 <;> first | (cases hc2; done) | skip
            · have : a = 20 := by simpa using hc2
              subst this; exact ⟨by omega, by omega, rfl, amAc_int⟩
            · have : a = 21 := by simpa using hc2
              subst this; exact ⟨by omega, by omega, rfl, amAc_long⟩
            · have : a = 22 := by simpa using hc2
              subst this; exact ⟨by omega, by omega, rfl, amAc_byte⟩
            · have : a = 23 := by simpa using hc2
              subst this; exact ⟨by omega, by omega, rfl, amAc_boolean⟩
          have h100 := amKnd_100 hb1 ⟨ha.1, by omega⟩ (amFull_k _ (List.mem_of_getElem? hx)).2
          have e5 : amSize (c1, s1) = amLenL.getD c1 0 := if_neg (by show ¬ c1 < 13; omega)
          rw [e1, e2, e5] at hRc
          refine am_newaS (Z := zz Z ad n G) S hK hfx hA ⟨ha.1, ha.2.1⟩ ha.2.2.1 ha.2.2.2 hb1 h100 hb2 e3 rfl hRc.1 hRc.2 hd hr fun q H1 f1 r1 => ?_
          have k1 := kk (amAu ad c1 s1 q) ls H1 locs (by omega) (amAu_agr e3 (Or.inr h100)) (by show amFx1 (amZn Z _ (amFull.take (n + 1)) _); rw [e4]; exact f1) (by show amRel (amZn Z _ (amFull.take (n + 1)) _) _ _ _ _ _ _ _ _ _; rw [e4]; exact r1)
          rw [e1, e2, e5, show nx = pc + 2 from hnx] at k1
          exact k1
      · cases h2
    · cases h2
  case anewarray x =>
    obtain ⟨hd, hnx⟩ := hcD rfl
    have hd : decode cc pc = .ok (.anewarray x, 3) := hd
    have hc2 : amAnwT.contains (o, x, a) = true := hcS
    have hk := amAnw_ok _ (List.contains_iff_mem.mp hc2)
    have h2 : (match st with
      | .inr (.inl k) :: st' => (match amFull[n]? with
        | some (c, s) => bif amKndL.getD c 99 == a && decide (k = (amLenL.getD c 0 : Int)) then (.inl (nx, L, vR a c s :: st', amRst M c s, amGst1 G c s, n + 1) : AmR1) else amNo1
        | none => amNo1)
      | _ => amNo1) = .inl (pc', L', st', M', G', n') := h
    split at h2
    · rename_i k st1
      split at h2
      · rename_i c1 s1 hx
        cases hb : (amKndL.getD c1 99 == a && decide (k = (amLenL.getD c1 0 : Int))) with
        | false => rw [hb] at h2; cases h2
        | true =>
          rw [hb] at h2
          simp only [Bool.and_eq_true, beq_iff_eq, decide_eq_true_eq] at hb
          obtain ⟨hb1, hb2⟩ := hb
          cases h2
          obtain ⟨e1, e2, e3, e4⟩ := made hx
          have ha : 24 ≤ a ∧ a ≤ 25 := by rcases hk with ⟨h, -⟩ | ⟨h, -⟩ <;> (have h : a = _ := h; omega)
          have h100 := amKnd_100 hb1 ⟨by omega, by omega⟩ (amFull_k _ (List.mem_of_getElem? hx)).2
          have e5 : amSize (c1, s1) = amLenL.getD c1 0 := if_neg (by show ¬ c1 < 13; omega)
          rw [e1, e2, e5] at hRc
          have fin : ∀ (q : Nat) (H1 : Heap), amFx1 (amZn (zz Z ad n G) (amAu (zAd (zz Z ad n G)) c1 s1 q) (zAl (zz Z ad n G) ++ [(c1, s1)]) (amGst1 (zG (zz Z ad n G)) c1 s1)) → amRel (amZn (zz Z ad n G) (amAu (zAd (zz Z ad n G)) c1 s1 q) (zAl (zz Z ad n G) ++ [(c1, s1)]) (amGst1 (zG (zz Z ad n G)) c1 s1)) s.heap nL [] L (vR a c1 s1 :: st1) (amRst M c1 s1) ls H1 locs → W p l e R s m args below meth c H1 locs (cells + 1) (slots + amLenL.getD c1 0) Q (F0 m (pc + 3) ls ((vR a c1 s1 :: st1).map (amV (amAu (zAd (zz Z ad n G)) c1 s1 q)))) := by
            intro q H1 f1 r1
            have k1 := kk (amAu ad c1 s1 q) ls H1 locs (by omega) (amAu_agr e3 (Or.inr h100)) (by show amFx1 (amZn Z _ (amFull.take (n + 1)) _); rw [e4]; exact f1) (by show amRel (amZn Z _ (amFull.take (n + 1)) _) _ _ _ _ _ _ _ _ _; rw [e4]; exact r1)
            rw [e1, e2, e5, show nx = pc + 3 from hnx] at k1
            exact k1
          rcases hk with ⟨rfl, hk⟩ | ⟨rfl, hk⟩
          · exact am_newqS (Z := zz Z ad n G) (Cn := "SaltStairs$Scene") S hK hAO.1 hfx hA (Or.inl ⟨rfl, rfl⟩) hk hb1 h100 hb2 e3 rfl hRc.1 hRc.2 hd hr fin
          · exact am_newqS (Z := zz Z ad n G) (Cn := "SaltStairs$Stairs") S hK hAO.2 hfx hA (Or.inr ⟨rfl, rfl⟩) hk hb1 h100 hb2 e3 rfl hRc.1 hRc.2 hd hr fin
      · cases h2
    · cases h2
  case aastore =>
    obtain ⟨hd, hnx⟩ := hcD rfl
    have hd : decode cc pc = .ok (.aastore, 1) := hd
    have h2 : (match st with
      | .inl (some (kv, cv, sv)) :: .inr (.inl j) :: .inl (some (k, c, s)) :: st' => bif (k == 24 && cv == 5 || k == 25 && cv == 6) && (decide (0 ≤ j) && decide (j < (amLenL.getD c 0 : Int))) then (.inl (nx, L, st', M, amGup G c s j.toNat (vR kv cv sv), n) : AmR1) else amNo1
      | _ => amNo1) = .inl (pc', L', st', M', G', n') := h
    split at h2
    · rename_i kv cv sv j k c1 s1 st1
      cases hb : ((k == 24 && cv == 5 || k == 25 && cv == 6) && (decide (0 ≤ j) && decide (j < (amLenL.getD c1 0 : Int)))) with
      | false => rw [hb] at h2; cases h2
      | true =>
        rw [hb] at h2
        simp only [Bool.and_eq_true, Bool.or_eq_true, beq_iff_eq, decide_eq_true_eq] at hb
        cases h2
        refine am_aastS (Z := zz Z ad n G) S hK hfx hb.1 hb.2 rfl hd hr fun H1 locs1 f1 r1 => ?_
        have k1 := kk ad ls H1 locs1 (Nat.le_refl _) amAgr.refl f1 r1
        rw [Nat.sub_self, Nat.sub_self, Nat.add_zero, Nat.add_zero, show nx = pc + 1 from hnx] at k1
        exact k1
    · cases h2
  case putfield x =>
    by_cases hq : q = 2
    · subst hq
      obtain ⟨hd, hnx⟩ := hcD rfl
      have hd : decode cc pc = .ok (.putfield x, 3) := hd
      have hc2 : amPutT.contains (o, x, a, b) = true := hcS
      obtain ⟨w1, w2, w3, w4, w5, w6, w7, ty, w8, w9⟩ := amPut_ok _ (List.contains_iff_mem.mp hc2)
      have w2 : o = a := w2
      have w3 : a < 13 := w3
      have h2 : (match st with
        | .inl (some (kv, cv, sv)) :: .inl (some (_, c, s)) :: st' => bif c == a then (.inl (nx, L, st', M, amGup G c s b (vR kv cv sv), n) : AmR1) else amNo1
        | _ => amNo1) = .inl (pc', L', st', M', G', n') := h
      split at h2
      · rename_i kv cv sv k1 c1 s1 st1
        cases hb : (c1 == a) with
        | false => rw [hb] at h2; cases h2
        | true =>
          rw [hb] at h2
          have hca : c1 = a := by simpa using hb
          subst hca
          cases h2
          refine am_putR (Z := zz Z ad n G) S hK hfx w3 w4 w5 w1 w6 (by rcases hin with h | h; exact h; omega) w7 ⟨ty, w8, w9 _⟩ rfl hd hr fun H1 locs1 f1 r1 => ?_
          have k1 := kk ad ls H1 locs1 (Nat.le_refl _) amAgr.refl f1 r1
          rw [Nat.sub_self, Nat.sub_self, Nat.add_zero, Nat.add_zero, show nx = pc + 3 from hnx] at k1
          exact k1
      · cases h2
    · have h1 : amLift (amEx G (amDf G 4) (.putfield x) nx a b q z ts L st M) G n = .inl (pc', L', st', M', G', n') := by
        match q, hq, h with
        | 0, _, h => exact h
        | 1, _, h => exact h
        | 2, hq, _ => exact absurd rfl hq
        | k + 3, _, h => exact h
      have hc1 : amChk1 cc o ret [] pc (.putfield x, nx, a, b, q, z, ts) = true := by
        match q, hq, hcS with
        | 0, _, h => exact h
        | 1, _, h => exact h
        | 2, hq, _ => exact absurd rfl hq
        | k + 3, _, h => exact h
      exact gen hc1 h1
  case invokespecial x =>
    obtain ⟨hd, hnx⟩ := hcD rfl
    have hd : decode cc pc = .ok (.invokespecial x, 3) := hd
    by_cases hq : q = 8
    · subst hq
      have hc2 : amObjT.contains (o, x) = true := hcS
      have w1 : Jvm.Cond.methodLink (amR o) x Lib.objectInit ∈ amT0 := amObj_ok _ (List.contains_iff_mem.mp hc2)
      have h2 : (match st with
        | .inl (some _) :: st' => bif Nat.ble (amCat st') 8 then (.inl (nx, L, st', M, G, n) : AmR1) else amNo1
        | _ => amNo1) = .inl (pc', L', st', M', G', n') := h
      split at h2
      · rename_i r st1
        obtain ⟨kr, cr, sr⟩ := r
        cases hb : Nat.ble (amCat st1) 8 with
        | false => rw [hb] at h2; cases h2
        | true =>
          rw [hb] at h2
          have hcat := Nat.le_of_ble_eq_true hb
          cases h2
          obtain ⟨hx, hbb, hml, hown, hts⟩ := S
          have hrm : 2 * (F0 m pc ls ((Sum.inl (some (kr, cr, sr)) :: st' : List AmV).map (amV ad))).monitorRoom + ((st'.map (amV ad)).map fun v => v.category).sum ≤ 8 := lv_room (by rw [amCat_eq]; exact hcat)
          refine W.objInit hx hbb hown (hts _ w1) (hts _ amObj_i) (hts _ amObj_c) rfl (by rw [hml]; exact hr.1.1) (a := ad cr sr) (rest := st'.map (amV ad)) rfl hd (by omega) (by omega) ?_
          have k1 := kk ad ls H locs (Nat.le_refl _) amAgr.refl hfx (hr.st fun v hv => hr.2.2.2.2.1 v (by simp [hv]))
          rw [Nat.sub_self, Nat.sub_self, Nat.add_zero, Nat.add_zero, show nx = pc + 3 from hnx] at k1
          exact k1
      · cases h2
    · have hc2 : ((amIniT.contains (o, x, a, 0) || amIniT.contains (o, x, a, 1)) && decide (b = amNpC.getD a 0 + 1)) = true := by
        have h9 : (match (generalizing := false) q with
          | 8 => amObjT.contains (o, x)
          | _ => (amIniT.contains (o, x, a, 0) || amIniT.contains (o, x, a, 1)) && decide (b = amNpC.getD a 0 + 1)) = true := hcS
        split at h9
        · exact absurd rfl hq
        · exact h9
      simp only [Bool.and_eq_true, Bool.or_eq_true, decide_eq_true_eq, List.contains_iff_mem] at hc2
      obtain ⟨hc2, hb1⟩ := hc2
      have hl : a < 13 ∧ ((Jvm.Cond.methodLink (amR o) x (amYc a) ∈ amT0) ∨ (Jvm.Cond.methodLinkNest (amR o) x (amYc a) "SaltStairs" ∈ amNs)) := by
        rcases hc2 with h | h
        · obtain ⟨h1, h2⟩ := amIni_ok _ h
          refine ⟨h1, ?_⟩
          rcases h2 with ⟨-, h2⟩ | ⟨h2, -⟩
          · exact Or.inl h2
          · exact absurd h2 (by show ¬ (0 : Nat) = 1; decide)
        · obtain ⟨h1, h2⟩ := amIni_ok _ h
          refine ⟨h1, ?_⟩
          rcases h2 with ⟨h2, -⟩ | ⟨-, h2⟩
          · exact absurd h2 (by show ¬ (1 : Nat) = 0; decide)
          · exact Or.inr h2
      obtain ⟨ha, hl⟩ := hl
      have h2 : (match st.drop (b - 1) with
        | .inl (some (_, c, _)) :: _ => bif c == a && (Nat.ble b st.length && Nat.ble (amCat (st.drop b)) 8) then (match cal1 a (st.take b).reverse M G n with
          | some (M', G', n') => (.inl (nx, L, st.drop b, M', G', n') : AmR1)
          | none => amNo1) else amNo1
        | _ => amNo1) = .inl (pc', L', st', M', G', n') := by
        have h9 : (match (generalizing := false) q with
          | 8 => (match st with
            | .inl (some _) :: st' => bif Nat.ble (amCat st') 8 then (.inl (nx, L, st', M, G, n) : AmR1) else amNo1
            | _ => amNo1)
          | _ => (match st.drop (b - 1) with
            | .inl (some (_, c, _)) :: _ => bif c == a && (Nat.ble b st.length && Nat.ble (amCat (st.drop b)) 8) then (match cal1 a (st.take b).reverse M G n with
              | some (M', G', n') => (.inl (nx, L, st.drop b, M', G', n') : AmR1)
              | none => amNo1) else amNo1
            | _ => amNo1)) = .inl (pc', L', st', M', G', n') := h
        split at h9
        · exact absurd rfl hq
        · exact h9
      split at h2
      · rename_i k C s' r' hdrop
        cases hb : (C == a && (Nat.ble b st.length && Nat.ble (amCat (st.drop b)) 8)) with
        | false => rw [hb] at h2; cases h2
        | true =>
          rw [hb] at h2
          simp only [Bool.and_eq_true, beq_iff_eq] at hb
          obtain ⟨f1, f2, f3⟩ := hb
          have f2 := Nat.le_of_ble_eq_true f2
          have f3 := Nat.le_of_ble_eq_true f3
          subst f1
          simp only [cond_true] at h2
          split at h2
          · rename_i M2 G2 n2 hc3
            cases h2
            have hb2 : b - 1 + 1 = b := by omega
            have hrest : st.drop b = r' := by rw [← hb2, ← List.drop_drop, hdrop]; rfl
            have htake : st.take b = st.take (b - 1) ++ [vR k C s'] := by
              rw [← hb2, List.take_add, hdrop, hb2]; rfl
            have has : (st.take b).reverse = vR k C s' :: (st.take (b - 1)).reverse := by rw [htake, List.reverse_append]; rfl
            have hstk : st = st.take (b - 1) ++ vR k C s' :: r' := by rw [← hdrop, List.take_append_drop]
            have hin2 : ∀ w ∈ (st.take b).reverse, amOk (amFull.take n) w ∧ amSet w := fun w hw => hr.2.2.2.2.1 w (List.mem_of_mem_take (List.mem_reverse.mp hw))
            obtain ⟨hnn, hm⟩ := hcal C _ M G n M' G' n' ha hc3
            have hm := hm ad hin2 hfx ⟨hr.2.2.2.2.2.2.1, hr.2.2.2.2.2.2.2.2.1, hr.2.2.2.2.2.2.2.2.2⟩
            obtain ⟨m1, m2, m3, m4, m5, m6, m7, m8⟩ := amCt_ok C ha
            have hlen : (((st.take (b - 1)).reverse).map (amV ad)).length = amNpC.getD C 0 := by
              rw [List.length_map, List.length_reverse, List.length_take]; omega
            have hstack : st.map (amV ad) = (((st.take (b - 1)).reverse).map (amV ad)).reverse ++ Value.ref (ad C s') :: r'.map (amV ad) := by
              conv => lhs; rw [hstk]
              simp [List.map_reverse, amV]
            have hpre : ∀ U : State, U.heap = H → s.WarmedH U.vm → amPre1 (zz Z ad n G) lo (st.take b).reverse M (Value.ref (ad C s') :: ((st.take (b - 1)).reverse).map (amV ad)).toArray U := fun U hU hW => ⟨⟨by rw [has]; rfl, amSt_of hK hX hr hlo hU hW⟩, ⟨va_AO.moved hW.alike hAO.1, va_AO.moved hW.alike hAO.2⟩, fun q hq => hA q (by rw [hU] at hq; exact Nat.le_trans hr.2.2.2.2.2.2.2.1.1 hq)⟩
            have hroom : (amRm1 d (n' - n) (amSz n' - amSz n)).frames + 1 ≤ R.frames ∧ 8 + (amCtL.getD C 0 + 11) + (amRm1 d (n' - n) (amSz n' - amSz n)).locals ≤ R.locals := ⟨hR.1, by show 8 + (amCtL.getD C 0 + 11) + (200 * d + 6000) ≤ R.locals; omega⟩
            have hWr : 2 * (F0 m pc ls (st.map (amV ad))).monitorRoom + ((r'.map (amV ad)).map fun v => v.category).sum ≤ 8 := lv_room (by rw [amCat_eq, ← hrest]; exact f3)
            refine am_back1 (G' := G') (n' := n') (M' := M') (st' := r') hnn hr.2.2.2.2.2.2.2.1 (av := (Value.ref (ad C s') :: ((st.take (b - 1)).reverse).map (amV ad)).toArray) ?_ hr (fun w hw => by rw [hstk]; simp [hw]) fun ad' ls' H' locs' g1 g2 g3 => ?_
            · obtain ⟨hx, hbb, hml, hown, hts⟩ := S
              rcases hl with l1 | l1
              · exact va_runI ⟨hx, hbb, hml, hown, hts⟩ hm ⟨callB_of (amNpC.getD C 0) hts (amGoodInC (amCt_ok C ha)) rfl rfl rfl (hts _ m2) (hts _ l1) m5 hroom, m7, hts _ m3⟩ ⟨amPre1_blind, hpre⟩ rfl hlen hr.1.1 hstack hWr hd hRc
              · exact va_runIN ⟨hx, hbb, hml, hown, hts⟩ hm ⟨va_cnB (amNpC.getD C 0) hts (amGoodInC (amCt_ok C ha)) rfl rfl rfl (hK.2.1 _ l1) (hts _ m2) m5 hroom, m7, hts _ m3⟩ ⟨amPre1_blind, hpre⟩ rfl hlen hr.1.1 hstack hWr hd hRc
            · rw [hrest] at kk
              have k1 := kk ad' ls' H' locs' hnn g1 g2 g3
              rw [show nx = pc + 3 from hnx] at k1
              exact k1
          · cases h2
      · cases h2
  all_goals exact gen hcS h
end AmC1
