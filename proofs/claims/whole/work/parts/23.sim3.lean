section AmS3
variable {p : Program} {l : Launch} {e : Env} {R : Room} {s : State} {m : MethodId} {args : Array Value} {below : List Frame} {meth : Method} {c : Code} {cells slots : Nat} {Q : State → Prop}
variable {cc : ByteArray} {Z : AmZ} {nL : Nat} {lg : List Nat} {L st : List AmV} {M : AmM} {ls : Array Slot} {H : Heap} {locs : List Loc} {pc : Nat}
variable {ConT ConL : List (Nat × Nat × Int)} {StrT : List (Nat × Nat × Nat)} {FldT MthT : List (Nat × Nat × Nat × Nat)} {Npar : Nat → Nat} {o : Nat} {ret : Option FieldType} {cal : Nat → List AmV → AmM → Option (AmV × AmM)} {nx a b q : Nat} {z : Int} {ts : List Nat} {c' : AmC}
/-- the instructions on locals and stack alone -/
def amIsA : Jvm.ClassFile.Instr → Bool
  | .iload _ => true | .iload_n _ => true | .lload _ => true | .lload_n _ => true | .aload _ => true | .aload_n _ => true
  | .istore _ => true | .istore_n _ => true | .lstore _ => true | .lstore_n _ => true | .astore _ => true | .astore_n _ => true
  | .iconst _ => true | .bipush _ => true | .sipush _ => true | .lconst _ => true | .iinc _ _ => true
  | .iadd => true | .isub => true | .imul => true | .idiv => true | .irem => true | .iand => true | .ior => true | .ixor => true | .ishl => true | .ishr => true | .iushr => true
  | .ladd => true | .lsub => true | .lmul => true | .ldiv => true | .lcmp => true | .i2l => true | .l2i => true | .i2b => true | .i2c => true
  | .dup => true | .pop => true | .dup2 => true | .goto _ => true
  | _ => false
theorem am_simA {i : Jvm.ClassFile.Instr} (hi : amIsA i = true) (hx : p.tables.exec = Jvm.exec) (hb : c.code = cc) (hd : decode cc pc = .ok (i, amLenI i)) (hn : nx = pc + amLenI i)
    (hc : amChkI ConT ConL StrT FldT MthT Npar o ret lg pc i nx a b q z ts = true) (h : amEx (zG Z) cal i nx a b q z ts L st M = .inl c')
    (hr : amRel Z s.heap nL lg L st M ls H locs) (kk : amGo p l e R s m args below meth c cells slots Q Z nL lg c') : W p l e R s m args below meth c H locs cells slots Q (F0 m pc ls (st.map (amV (zAd Z)))) := by
  subst hn
  cases i <;> first | (cases hi; done) | skip
  case iload k => exact am_loI h (fun x h1 k1 => lv_iload hx hb hd h1 k1) hr kk
  case iload_n k => exact am_loI h (fun x h1 k1 => lv_iload_n hx hb hd rfl h1 k1) hr kk
  case lload k => exact am_loL h (fun x h1 k1 => lv_lload hx hb hd h1 k1) hr kk
  case lload_n k => exact am_loL h (fun x h1 k1 => lv_lload_n hx hb hd rfl h1 k1) hr kk
  case aload k => exact am_loA h (fun x h1 k1 => lv_aload hx hb hd h1 k1) hr kk
  case aload_n k => exact am_loA h (fun x h1 k1 => lv_aload_n hx hb hd rfl h1 k1) hr kk
  case istore k => exact am_stI h (amQb_of hc) (fun x rest lv lv' h1 h2 h3 k1 => lv_istore hx hb hd h1 h2 h3 k1) hr kk
  case istore_n k => exact am_stI h (amQb_of hc) (fun x rest lv lv' h1 h2 h3 k1 => lv_istore_n hx hb hd rfl h1 h2 h3 k1) hr kk
  case astore k => exact am_stA h (amQb_of hc) (fun x rest lv lv' h1 h2 h3 k1 => lv_astore hx hb hd h1 h2 h3 k1) hr kk
  case astore_n k => exact am_stA h (amQb_of hc) (fun x rest lv lv' h1 h2 h3 k1 => lv_astore_n hx hb hd rfl h1 h2 h3 k1) hr kk
  case lstore k =>
    have hc2 : (amQb lg k q && lg.contains k) = true := hc
    simp only [Bool.and_eq_true] at hc2
    exact am_stL h (amQb_of hc2.1) (by simpa using hc2.2) (fun x rest lv lv' h1 h2 h3 k1 => lv_lstore hx hb hd h1 h2 h3 k1) hr kk
  case lstore_n k =>
    have hc2 : (amQb lg k.val q && lg.contains k.val) = true := hc
    simp only [Bool.and_eq_true] at hc2
    exact am_stL h (amQb_of hc2.1) (by simpa using hc2.2) (fun x rest lv lv' h1 h2 h3 k1 => lv_lstore_n hx hb hd rfl h1 h2 h3 k1) hr kk
  case iconst n =>
    have hc2 : (decide (n = z) && amR32 z) = true := hc
    simp only [Bool.and_eq_true, decide_eq_true_eq] at hc2
    cases h
    exact am_push (v := vI z) ⟨amR32_of hc2.2, trivial⟩ (fun k1 => lv_iconst hx hb hd (by rw [hc2.1]) k1) hr kk
  case bipush n =>
    have hc2 : (decide ((Int8.ofInt n).toInt32 = Int32.ofInt z) && amR32 z) = true := hc
    simp only [Bool.and_eq_true, decide_eq_true_eq] at hc2
    cases h
    exact am_push (v := vI z) ⟨amR32_of hc2.2, trivial⟩ (fun k1 => lv_bipush hx hb hd hc2.1 k1) hr kk
  case sipush n =>
    have hc2 : (decide ((Int16.ofInt n).toInt32 = Int32.ofInt z) && amR32 z) = true := hc
    simp only [Bool.and_eq_true, decide_eq_true_eq] at hc2
    cases h
    exact am_push (v := vI z) ⟨amR32_of hc2.2, trivial⟩ (fun k1 => lv_sipush hx hb hd hc2.1 k1) hr kk
  case lconst n =>
    have hc2 : decide (((n : Nat) : Int) = z) = true := hc
    simp only [decide_eq_true_eq] at hc2
    cases h
    refine am_push (v := vL z) ⟨?_, trivial⟩ (fun k1 => lv_lconst hx hb hd (by rw [← hc2]; exact (Int64.ofInt_eq_ofNat).symm) k1) hr kk
    show i64 z
    have := n.isLt
    unfold i64; omega
  case iinc k n =>
    have hc2 : (decide (n = z) && amQb lg k q) = true := hc
    simp only [Bool.and_eq_true, decide_eq_true_eq] at hc2
    obtain ⟨rfl, hc3⟩ := hc2
    have h2 : (match L[k]? with
      | some (.inr (.inl x)) => (.inl (pc + 3, amSt1 L k (vI (w32 (x + n))) q, st, M) : AmR)
      | _ => amNo) = .inl c' := h
    split at h2
    · rename_i x hxk
      cases h2
      obtain ⟨g1, g2⟩ := hr.get hxk trivial
      have hk2 : k < nL := by rw [← hr.2.1]; exact (List.getElem?_eq_some_iff.mp hxk).1
      obtain ⟨pp, hpp⟩ := List.getElem?_of_mem (amLv_mem (ad := zAd Z) hxk trivial)
      refine lv_iinc (v := Int32.ofInt (w32 (x + n))) hx hb hd hr.has (k := pp) hpp ?_ hk2 rfl fun ls' hl => ?_
      · rw [of_w32, Int32.ofInt_add]
      · exact kk ls' H locs (hr.sto (v := vI (w32 (x + n))) (w32_i _) rfl hk2 (amQb_of hc3) (fun v hv => hv) hl)
    · cases h2
  case iadd => exact am_bin h rfl (fun x y _ _ => by rw [of_w32, Int32.ofInt_add]) (fun x y _ _ => w32_i _) (fun x y rest k1 => lv_iadd hx hb hd k1) hr kk
  case isub => exact am_bin h rfl (fun x y _ _ => by rw [of_w32, Int32.ofInt_sub]) (fun x y _ _ => w32_i _) (fun x y rest k1 => lv_isub hx hb hd k1) hr kk
  case imul => exact am_bin h rfl (fun x y _ _ => by rw [of_w32, Int32.ofInt_mul]) (fun x y _ _ => w32_i _) (fun x y rest k1 => lv_imul hx hb hd k1) hr kk
  case iand => exact am_bin (f := bAnd) h rfl (fun x y _ _ => Int32.ofInt_toInt _) (fun x y _ _ => toInt_i _) (fun x y rest k1 => lv_iand hx hb hd k1) hr kk
  case ior => exact am_bin (f := bOr) h rfl (fun x y _ _ => Int32.ofInt_toInt _) (fun x y _ _ => toInt_i _) (fun x y rest k1 => lv_ior hx hb hd k1) hr kk
  case ixor => exact am_bin (f := bXor) h rfl (fun x y _ _ => Int32.ofInt_toInt _) (fun x y _ _ => toInt_i _) (fun x y rest k1 => lv_ixor hx hb hd k1) hr kk
  case ishl => exact am_bin (f := bShl) (g := fun x y => x <<< (y &&& 31)) h rfl (fun x y _ _ => Int32.ofInt_toInt _) (fun x y _ _ => toInt_i _) (fun x y rest k1 => lv_ishl hx hb hd k1) hr kk
  case ishr => exact am_bin (f := bShr) (g := fun x y => x >>> (y &&& 31)) h rfl (fun x y _ _ => Int32.ofInt_toInt _) (fun x y _ _ => toInt_i _) (fun x y rest k1 => lv_ishr hx hb hd k1) hr kk
  case iushr => exact am_bin (f := bUsh) (g := fun x y => (x.toUInt32 >>> (y.toUInt32 &&& Int32.toUInt32 31)).toInt32) h rfl (fun x y _ _ => Int32.ofInt_toInt _) (fun x y _ _ => toInt_i _) (fun x y rest k1 => lv_iushr hx hb hd rfl k1) hr kk
  case idiv =>
    have h2 : (match st with
      | .inr (.inl y) :: .inr (.inl x) :: st' => (if y = 0 then amNo else .inl (pc + 1, L, vI (w32 (Int.tdiv x y)) :: st', M) : AmR)
      | _ => amNo) = .inl c' := h
    split at h2
    · rename_i y x st'
      have hy : i32 y := hr.top (v := vI y) (by simp)
      have hxx : i32 x := hr.top (v := vI x) (by simp)
      by_cases h0 : y = 0
      · rw [if_pos h0] at h2; cases h2
      · rw [if_neg h0] at h2
        cases h2
        refine lv_idiv hx hb hd (fun q => h0 ((of_eq hy (y := 0) (by unfold i32; omega)).mp q)) ?_
        rw [of_div hxx hy]
        refine kk ls H locs (hr.st fun v hv => ?_)
        rcases List.mem_cons.mp hv with rfl | hv
        · exact ⟨w32_i _, trivial⟩
        · exact hr.2.2.2.2.1 v (by simp [hv])
    · cases h2
  case irem =>
    have h2 : (match st with
      | .inr (.inl y) :: .inr (.inl x) :: st' => (if y = 0 then amNo else .inl (pc + 1, L, vI (Int.tmod x y) :: st', M) : AmR)
      | _ => amNo) = .inl c' := h
    split at h2
    · rename_i y x st'
      have hy : i32 y := hr.top (v := vI y) (by simp)
      have hxx : i32 x := hr.top (v := vI x) (by simp)
      by_cases h0 : y = 0
      · rw [if_pos h0] at h2; cases h2
      · rw [if_neg h0] at h2
        cases h2
        refine lv_irem hx hb hd (fun q => h0 ((of_eq hy (y := 0) (by unfold i32; omega)).mp q)) ?_
        rw [of_rem hxx hy h0]
        refine kk ls H locs (hr.st fun v hv => ?_)
        rcases List.mem_cons.mp hv with rfl | hv
        · exact ⟨tmod_i hxx h0 hy, trivial⟩
        · exact hr.2.2.2.2.1 v (by simp [hv])
    · cases h2
  case ladd => exact am_lbin h rfl (fun x y _ _ => by rw [of_w64, Int64.ofInt_add]) (fun x y _ _ => w64_i _) (fun x y rest k1 => lv_ladd hx hb hd k1) hr kk
  case lsub => exact am_lbin h rfl (fun x y _ _ => by rw [of_w64, Int64.ofInt_sub]) (fun x y _ _ => w64_i _) (fun x y rest k1 => lv_lsub hx hb hd k1) hr kk
  case lmul => exact am_lbin h rfl (fun x y _ _ => by rw [of_w64, Int64.ofInt_mul]) (fun x y _ _ => w64_i _) (fun x y rest k1 => lv_lmul hx hb hd k1) hr kk
  case ldiv =>
    have h2 : (match st with
      | .inr (.inr (.inl y)) :: .inr (.inr (.inl x)) :: st' => (if y = 0 then amNo else .inl (pc + 1, L, vL (w64 (Int.tdiv x y)) :: st', M) : AmR)
      | _ => amNo) = .inl c' := h
    split at h2
    · rename_i y x st'
      have hy : i64 y := hr.top (v := vL y) (by simp)
      have hxx : i64 x := hr.top (v := vL x) (by simp)
      by_cases h0 : y = 0
      · rw [if_pos h0] at h2; cases h2
      · rw [if_neg h0] at h2
        cases h2
        refine lv_ldiv hx hb hd (fun q => h0 (by have := congrArg Int64.toInt q; rw [i64_of hy] at this; exact this)) ?_
        rw [of_ldiv hxx hy]
        refine kk ls H locs (hr.st fun v hv => ?_)
        rcases List.mem_cons.mp hv with rfl | hv
        · exact ⟨w64_i _, trivial⟩
        · exact hr.2.2.2.2.1 v (by simp [hv])
    · cases h2
  case lcmp =>
    have h2 : (match st with
      | .inr (.inr (.inl y)) :: .inr (.inr (.inl x)) :: st' => (.inl (pc + 1, L, vI (amCmp x y) :: st', M) : AmR)
      | _ => amNo) = .inl c' := h
    split at h2
    · rename_i y x st'
      cases h2
      have hy : i64 y := hr.top (v := vL y) (by simp)
      have hxx : i64 x := hr.top (v := vL x) (by simp)
      refine W.lcmp hx hb hd ?_
      rw [of_cmp hxx hy]
      refine kk ls H locs (hr.st fun v hv => ?_)
      rcases List.mem_cons.mp hv with rfl | hv
      · exact ⟨amCmp_i _ _, trivial⟩
      · exact hr.2.2.2.2.1 v (by simp [hv])
    · cases h2
  case i2l =>
    have h2 : (match st with
      | .inr (.inl x) :: st' => (.inl (pc + 1, L, vL x :: st', M) : AmR)
      | _ => amNo) = .inl c' := h
    split at h2
    · rename_i x st'
      cases h2
      have hxx : i32 x := hr.top (v := vI x) (by simp)
      refine lv_i2l hx hb hd (of_2l hxx) (kk ls H locs (hr.st fun v hv => ?_))
      rcases List.mem_cons.mp hv with rfl | hv
      · exact ⟨by show i64 x; unfold i32 at hxx; unfold i64; omega, trivial⟩
      · exact hr.2.2.2.2.1 v (by simp [hv])
    · cases h2
  case l2i =>
    have h2 : (match st with
      | .inr (.inr (.inl x)) :: st' => (.inl (pc + 1, L, vI (w32 x) :: st', M) : AmR)
      | _ => amNo) = .inl c' := h
    split at h2
    · rename_i x st'
      cases h2
      have hxx : i64 x := hr.top (v := vL x) (by simp)
      refine lv_l2i hx hb hd (of_2i hxx) (kk ls H locs (hr.st fun v hv => ?_))
      rcases List.mem_cons.mp hv with rfl | hv
      · exact ⟨w32_i x, trivial⟩
      · exact hr.2.2.2.2.1 v (by simp [hv])
    · cases h2
  case i2b => exact am_un (f := w8) h rfl (fun x h1 => (of_8 h1).symm) (fun x _ => w8_i x) (fun x rest k1 => lv_i2b hx hb hd rfl k1) hr kk
  case i2c => exact am_un (f := fun x => x % 65536) h rfl (fun x h1 => (of_2c h1).symm) (fun x _ => by unfold i32; omega) (fun x rest k1 => lv_i2c hx hb hd rfl k1) hr kk
  case goto off =>
    have hc2 : decide ((pc : Int) + off = (a : Int)) = true := hc
    cases h
    exact lv_goto hx hb hd (of_decide_eq_true hc2) (kk ls H locs hr)
  case dup =>
    have h2 : (match st with
      | .inr (.inl x) :: st' => (.inl (pc + 1, L, vI x :: vI x :: st', M) : AmR)
      | .inl r :: st' => .inl (pc + 1, L, .inl r :: .inl r :: st', M)
      | _ => amNo) = .inl c' := h
    split at h2
    · rename_i x st'
      cases h2
      refine lv_dup hx hb hd rfl (kk ls H locs (hr.st fun v hv => hr.2.2.2.2.1 v (by simpa using hv)))
    · rename_i r st'
      cases h2
      refine lv_dup hx hb hd (by rcases r with _ | ⟨_, _, _⟩ <;> rfl) (kk ls H locs (hr.st fun v hv => hr.2.2.2.2.1 v (by simpa using hv)))
    · cases h2
  case pop =>
    have h2 : (match st with
      | .inr (.inl _) :: st' => (.inl (pc + 1, L, st', M) : AmR)
      | .inl _ :: st' => .inl (pc + 1, L, st', M)
      | _ => amNo) = .inl c' := h
    split at h2
    · rename_i x st'
      cases h2
      refine lv_pop hx hb hd rfl (kk ls H locs (hr.st fun v hv => hr.2.2.2.2.1 v (by simp [hv])))
    · rename_i r st'
      cases h2
      refine lv_pop hx hb hd (by rcases r with _ | ⟨_, _, _⟩ <;> rfl) (kk ls H locs (hr.st fun v hv => hr.2.2.2.2.1 v (by simp [hv])))
    · cases h2
  case dup2 =>
    have h2 : (match st with
      | .inr (.inl x) :: .inl r :: st' => (.inl (pc + 1, L, vI x :: .inl r :: vI x :: .inl r :: st', M) : AmR)
      | _ => amNo) = .inl c' := h
    split at h2
    · rename_i x r st'
      cases h2
      refine lv_dup2_11 hx hb hd rfl (by rcases r with _ | ⟨_, _, _⟩ <;> rfl) (kk ls H locs (hr.st fun v hv => hr.2.2.2.2.1 v ?_))
      simp only [List.mem_cons] at hv ⊢
      rcases hv with h | h | h | h | h <;> simp [h]
    · cases h2
end AmS3
