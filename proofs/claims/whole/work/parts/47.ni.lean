/-! WHAT CONSTRUCTORS DO DOESN'T DEPEND ON THE SCRIPT -/
def ov (X : Nat → Nat → Int) (M : AmM) : AmM := fun c s j => bif c == 90 then X s j else M c s j
def n90 : AmV → Bool
  | .inl (some (_, c, _)) => !(c == 90)
  | _ => true
def amOvR (X : Nat → Nat → Int) : AmR → AmR
  | .inl (pc, L, st, M) => .inl (pc, L, st, ov X M)
  | .inr (some (v, M)) => .inr (some (v, ov X M))
  | .inr none => .inr none
def amN9R : AmR → Prop
  | .inl (_, L, st, _) => L.all n90 = true ∧ st.all n90 = true
  | _ => True
theorem ov_ne {X : Nat → Nat → Int} {M : AmM} {c : Nat} (h : c ≠ 90) : ov X M c = M c := by
  funext s j
  unfold ov
  rw [beq_false_of_ne h]
  rfl
theorem ov_up {X : Nat → Nat → Int} {M : AmM} {c s j : Nat} {v : Int} (h : c ≠ 90) : amUp (ov X M) c s j v = ov X (amUp M c s j v) := by
  funext c' s' j'
  unfold amUp ov
  by_cases h1 : c' = 90
  · subst h1
    rw [beq_false_of_ne (Ne.symm h)]
    rfl
  · rw [beq_false_of_ne h1]
    rfl
theorem ov_rst {X : Nat → Nat → Int} {M : AmM} {c s : Nat} (h : c ≠ 90) : amRst (ov X M) c s = ov X (amRst M c s) := by
  funext c' s' j'
  unfold amRst ov
  by_cases h1 : c' = 90
  · subst h1
    rw [beq_false_of_ne (Ne.symm h)]
    rfl
  · rw [beq_false_of_ne h1]
    rfl
theorem ov_ld {X : Nat → Nat → Int} {M : AmM} {c : Nat} (h : c ≠ 90) : amLd (ov X M) c = amLd M c := by
  unfold amLd
  rw [beq_false_of_ne h]
  rfl
theorem n90_at {L : List AmV} {k : Nat} {v : AmV} (h : L.all n90 = true) (hk : L[k]? = some v) : n90 v = true := List.all_eq_true.mp h v (List.mem_of_getElem? hk)
theorem n90_set {L : List AmV} {k : Nat} {v : AmV} (h : L.all n90 = true) (hv : n90 v = true) : (L.set k v).all n90 = true := List.all_eq_true.mpr fun w hw => by
  rcases List.mem_or_eq_of_mem_set hw with hw | rfl
  · exact List.all_eq_true.mp h w hw
  · exact hv
theorem n90_st1 {L : List AmV} {k q : Nat} {v : AmV} (h : L.all n90 = true) (hv : n90 v = true) : (amSt1 L k v q).all n90 = true := by
  unfold amSt1
  split
  · exact n90_set h hv
  · exact n90_set (n90_set h rfl) hv
theorem n90_c {k c s : Nat} (h : n90 (vR k c s) = true) : c ≠ 90 := by
  have h : (!(c == 90)) = true := h
  simpa using h
theorem n90_and {a b : Bool} (h : (a && b) = true) : a = true ∧ b = true := by simpa using h
def amNiM : List Nat := [11, 153, 154]
def amNiOk : AmE → Bool := fun e => match e.1 with
  | .aload_n _ => true
  | .iload_n _ => true
  | .iload _ => true
  | .istore_n _ => true
  | .lload_n _ => true
  | .iconst _ => true
  | .bipush _ => true
  | .sipush _ => true
  | .lconst _ => true
  | .ldc2_w _ => true
  | .dup => true
  | .goto _ => true
  | .if_icmp _ _ => true
  | .ifCond _ _ => true
  | .iinc _ _ => true
  | .isub => true
  | .iadd => true
  | .i2l => true
  | .ladd => true
  | .lmul => true
  | .return_ => true
  | .lreturn => true
  | .arraylength => true
  | .iastore => true
  | .lastore => true
  | .getfield _ => true
  | .putfield _ => true
  | .invokevirtual _ => e.2.2.2.2.1 == 1 && amNiM.contains e.2.2.1
  | .invokestatic _ => e.2.2.2.2.1 == 0 && amNiM.contains e.2.2.1
  | _ => false
section AmNI
variable {X : Nat → Nat → Int} {G : AmG} {cal : Nat → List AmV → AmM → Option (AmV × AmM)} {nx a b q : Nat} {z : Int} {ts : List Nat} {L st : List AmV} {M : AmM} {r : AmR}
def amNiC (X : Nat → Nat → Int) (cal : Nat → List AmV → AmM → Option (AmV × AmM)) : Prop := ∀ mid ∈ amNiM, ∀ (as : List AmV) (M : AmM) (v : AmV) (M' : AmM), as.all n90 = true → cal mid as M = some (v, M') → cal mid as (ov X M) = some (v, ov X M')
theorem am_niL (hL : L.all n90 = true) (hst : st.all n90 = true) {k : Nat} : (amLoI L st M nx k = r → r ≠ amNo → amLoI L st (ov X M) nx k = amOvR X r ∧ amN9R r) ∧ (amLoL L st M nx k = r → r ≠ amNo → amLoL L st (ov X M) nx k = amOvR X r ∧ amN9R r) ∧ (amLoA L st M nx k = r → r ≠ amNo → amLoA L st (ov X M) nx k = amOvR X r ∧ amN9R r) := by
  refine ⟨fun h hne => ?_, fun h hne => ?_, fun h hne => ?_⟩
  · unfold amLoI at h ⊢
    split at h
    · rename_i x hk; subst h; exact ⟨rfl, hL, hst⟩
    · exact absurd h.symm hne
  · unfold amLoL at h ⊢
    split at h
    · rename_i x hk; subst h; exact ⟨rfl, hL, hst⟩
    · exact absurd h.symm hne
  · unfold amLoA at h ⊢
    split at h
    · rename_i x hk
      subst h
      refine ⟨rfl, hL, ?_⟩
      have := n90_at hL hk
      simp only [List.all_cons, this, hst, Bool.and_self]
    · exact absurd h.symm hne
theorem am_niS (hL : L.all n90 = true) (hst : st.all n90 = true) {k : Nat} (h : amStoI L st M nx k q = r) (hne : r ≠ amNo) : amStoI L st (ov X M) nx k q = amOvR X r ∧ amN9R r := by
  unfold amStoI at h ⊢
  split at h
  · rename_i x st'
    cases hb : Nat.blt k L.length with
    | false => rw [hb] at h; exact absurd h.symm hne
    | true => rw [hb] at h; subst h; exact ⟨rfl, n90_st1 hL rfl, hst⟩
  · exact absurd h.symm hne
theorem am_niPu (f : List AmV → AmM → AmR) (hf : ∀ l M r, l.all n90 = true → f l M = r → r ≠ amNo → f l (ov X M) = amOvR X r ∧ amN9R r) {o o' : Option (AmV × AmM)} (ho : ∀ v M', o = some (v, M') → o' = some (v, ov X M')) (h : amPu z o f = r) (hne : r ≠ amNo) : amPu z o' f = amOvR X r ∧ amN9R r := by
  rcases o with _ | ⟨_ | x | x | _, M'⟩
  · exact absurd h.symm hne
  · exact absurd h.symm hne
  · rw [ho _ _ rfl]
    have h : (bif z == 1 then f [vI x] M' else amNo) = r := h
    show (bif z == 1 then f [vI x] (ov X M') else amNo) = _ ∧ _
    cases hb : z == 1 with
    | false => rw [hb] at h; exact absurd h.symm hne
    | true => rw [hb] at h; exact hf _ _ _ rfl h hne
  · rw [ho _ _ rfl]
    have h : (bif z == 2 then f [vL x] M' else amNo) = r := h
    show (bif z == 2 then f [vL x] (ov X M') else amNo) = _ ∧ _
    cases hb : z == 2 with
    | false => rw [hb] at h; exact absurd h.symm hne
    | true => rw [hb] at h; exact hf _ _ _ rfl h hne
  · rw [ho _ _ rfl]
    have h : (bif z == 0 then f [] M' else amNo) = r := h
    show (bif z == 0 then f [] (ov X M') else amNo) = _ ∧ _
    cases hb : z == 0 with
    | false => rw [hb] at h; exact absurd h.symm hne
    | true => rw [hb] at h; exact hf _ _ _ rfl h hne
theorem am_niV (hC : amNiC X cal) (hq : q = 0 ∨ q = 1) (ha : a ∈ amNiM) (hL : L.all n90 = true) (hst : st.all n90 = true) (h : amInv cal nx a b q z L st M = r) (hne : r ≠ amNo) : amInv cal nx a b q z L st (ov X M) = amOvR X r ∧ amN9R r := by
  have hdr : (st.drop b).all n90 = true := List.all_eq_true.mpr fun w hw => List.all_eq_true.mp hst w (List.mem_of_mem_drop hw)
  have htk : ((st.take b).reverse).all n90 = true := List.all_eq_true.mpr fun w hw => List.all_eq_true.mp hst w (List.mem_of_mem_take (List.mem_reverse.mp hw))
  have key : amPu z (cal a (st.take b).reverse M) (fun r M' => .inl (nx, L, r ++ st.drop b, M')) = r → amPu z (cal a (st.take b).reverse (ov X M)) (fun r M' => .inl (nx, L, r ++ st.drop b, M')) = amOvR X r ∧ amN9R r := fun h => by
    refine am_niPu _ (fun l M r hl h hne => ?_) (fun v M' h => hC a ha _ _ _ _ htk h) h hne
    subst h
    exact ⟨rfl, hL, by rw [List.all_append, hl, hdr]; rfl⟩
  rcases hq with rfl | rfl
  · have h : (bif Nat.ble b st.length && Nat.ble (amCat (st.drop b)) 8 then amPu z (cal a (st.take b).reverse M) (fun r M' => .inl (nx, L, r ++ st.drop b, M')) else amNo) = r := h
    show (bif Nat.ble b st.length && Nat.ble (amCat (st.drop b)) 8 then amPu z (cal a (st.take b).reverse (ov X M)) (fun r M' => .inl (nx, L, r ++ st.drop b, M')) else amNo) = _ ∧ _
    cases hb : (Nat.ble b st.length && Nat.ble (amCat (st.drop b)) 8) with
    | false => rw [hb] at h; exact absurd h.symm hne
    | true => rw [hb] at h; exact key h
  · have h : (match (generalizing := false) st.drop (b - 1) with
      | .inl (some (_, c, _)) :: _ => bif c == amOwn.getD a 99 && (Nat.ble b st.length && Nat.ble (amCat (st.drop b)) 8) then amPu z (cal a (st.take b).reverse M) (fun r M' => .inl (nx, L, r ++ st.drop b, M')) else amNo
      | _ => (amNo : AmR)) = r := h
    show (match (generalizing := false) st.drop (b - 1) with
      | .inl (some (_, c, _)) :: _ => bif c == amOwn.getD a 99 && (Nat.ble b st.length && Nat.ble (amCat (st.drop b)) 8) then amPu z (cal a (st.take b).reverse (ov X M)) (fun r M' => .inl (nx, L, r ++ st.drop b, M')) else amNo
      | _ => (amNo : AmR)) = _ ∧ _
    split at h
    · rename_i k c s rr hd
      cases hb : (c == amOwn.getD a 99 && (Nat.ble b st.length && Nat.ble (amCat (st.drop b)) 8)) with
      | false => rw [hb] at h; exact absurd h.symm hne
      | true => rw [hb] at h; exact key h
    · exact absurd h.symm hne
theorem amIf_ni {c : Jvm.ClassFile.Cond} {x y : Int} {A B A' B' : AmR} (hA : A' = amOvR X A ∧ amN9R A) (hB : B' = amOvR X B ∧ amN9R B) : amIf c x y A' B' = amOvR X (amIf c x y A B) ∧ amN9R (amIf c x y A B) := by
  cases c <;> (unfold amIf; dsimp only; split <;> assumption)
/-- one instruction -/
theorem amEx_ni (hC : amNiC X cal) (hG : ∀ c s j, n90 (G c s j) = true) {i : Jvm.ClassFile.Instr} (hi : amNiOk (i, nx, a, b, q, z, ts) = true) (hL : L.all n90 = true) (hst : st.all n90 = true) (h : amEx G cal i nx a b q z ts L st M = r) (hne : r ≠ amNo) : amEx G cal i nx a b q z ts L st (ov X M) = amOvR X r ∧ amN9R r := by
  cases i
  case aload_n k => exact (am_niL hL hst).2.2 h hne
  case iload_n k => exact (am_niL hL hst).1 h hne
  case iload k => exact (am_niL hL hst).1 h hne
  case lload_n k => exact (am_niL hL hst).2.1 h hne
  case istore_n k => exact am_niS hL hst h hne
  case iconst k => subst h; exact ⟨rfl, hL, hst⟩
  case bipush k => subst h; exact ⟨rfl, hL, hst⟩
  case sipush k => subst h; exact ⟨rfl, hL, hst⟩
  case lconst k => subst h; exact ⟨rfl, hL, hst⟩
  case ldc2_w k => subst h; exact ⟨rfl, hL, hst⟩
  case goto k => subst h; exact ⟨rfl, hL, hst⟩
  case dup =>
    have h2 : (match (generalizing := false) st with
      | .inr (.inl x) :: st' => (.inl (nx, L, vI x :: vI x :: st', M) : AmR)
      | .inl r :: st' => .inl (nx, L, .inl r :: .inl r :: st', M)
      | _ => amNo) = r := h
    split at h2
    · subst h2; exact ⟨rfl, hL, hst⟩
    · subst h2
      refine ⟨rfl, hL, ?_⟩
      have h3 := n90_and hst
      simp only [List.all_cons, h3.1, h3.2, Bool.and_self]
    · exact absurd h2.symm hne
  case if_icmp c k =>
    have h2 : (match (generalizing := false) st with
      | .inr (.inl y) :: .inr (.inl x) :: st' => amIf c x y (.inl (a, L, st', M)) (.inl (nx, L, st', M))
      | _ => (amNo : AmR)) = r := h
    split at h2
    · subst h2; exact amIf_ni ⟨rfl, hL, hst⟩ ⟨rfl, hL, hst⟩
    · exact absurd h2.symm hne
  case ifCond c k =>
    have h2 : (match (generalizing := false) st with
      | .inr (.inl x) :: st' => amIf c x 0 (.inl (a, L, st', M)) (.inl (nx, L, st', M))
      | _ => (amNo : AmR)) = r := h
    split at h2
    · subst h2; exact amIf_ni ⟨rfl, hL, hst⟩ ⟨rfl, hL, hst⟩
    · exact absurd h2.symm hne
  case iinc k w =>
    have h2 : (match (generalizing := false) L[k]? with
      | some (.inr (.inl x)) => (.inl (nx, amSt1 L k (vI (w32 (x + z))) q, st, M) : AmR)
      | _ => amNo) = r := h
    show (match (generalizing := false) L[k]? with
      | some (.inr (.inl x)) => (.inl (nx, amSt1 L k (vI (w32 (x + z))) q, st, ov X M) : AmR)
      | _ => amNo) = _ ∧ _
    split at h2
    · rename_i x hk; subst h2; exact ⟨rfl, n90_st1 hL rfl, hst⟩
    · exact absurd h2.symm hne
  case isub =>
    have h2 : (match (generalizing := false) st with
      | .inr (.inl y) :: .inr (.inl x) :: st' => (.inl (nx, L, vI (w32 (x - y)) :: st', M) : AmR)
      | _ => amNo) = r := h
    split at h2
    · subst h2; exact ⟨rfl, hL, hst⟩
    · exact absurd h2.symm hne
  case iadd =>
    have h2 : (match (generalizing := false) st with
      | .inr (.inl y) :: .inr (.inl x) :: st' => (.inl (nx, L, vI (w32 (x + y)) :: st', M) : AmR)
      | _ => amNo) = r := h
    split at h2
    · subst h2; exact ⟨rfl, hL, hst⟩
    · exact absurd h2.symm hne
  case ladd =>
    have h2 : (match (generalizing := false) st with
      | .inr (.inr (.inl y)) :: .inr (.inr (.inl x)) :: st' => (.inl (nx, L, vL (w64 (x + y)) :: st', M) : AmR)
      | _ => amNo) = r := h
    split at h2
    · subst h2; exact ⟨rfl, hL, hst⟩
    · exact absurd h2.symm hne
  case lmul =>
    have h2 : (match (generalizing := false) st with
      | .inr (.inr (.inl y)) :: .inr (.inr (.inl x)) :: st' => (.inl (nx, L, vL (w64 (x * y)) :: st', M) : AmR)
      | _ => amNo) = r := h
    split at h2
    · subst h2; exact ⟨rfl, hL, hst⟩
    · exact absurd h2.symm hne
  case i2l =>
    have h2 : (match (generalizing := false) st with
      | .inr (.inl x) :: st' => (.inl (nx, L, vL x :: st', M) : AmR)
      | _ => amNo) = r := h
    split at h2
    · subst h2; exact ⟨rfl, hL, hst⟩
    · exact absurd h2.symm hne
  case return_ =>
    have h2 : (match (generalizing := false) st with
      | [] => (.inr (some (vU, M)) : AmR)
      | _ => amNo) = r := h
    split at h2
    · subst h2; exact ⟨rfl, trivial⟩
    · exact absurd h2.symm hne
  case lreturn =>
    have h2 : (match (generalizing := false) st with
      | [.inr (.inr (.inl x))] => (.inr (some (vL x, M)) : AmR)
      | _ => amNo) = r := h
    split at h2
    · subst h2; exact ⟨rfl, trivial⟩
    · exact absurd h2.symm hne
  case arraylength =>
    have h2 : (match (generalizing := false) st with
      | .inl (some (k, c, _)) :: st' => bif Nat.ble 20 k && Nat.ble k 25 then (.inl (nx, L, vI (amLd M c : Int) :: st', M) : AmR) else amNo
      | _ => amNo) = r := h
    split at h2
    · rename_i k c s st'
      have hc := n90_c (k := k) (s := s) (n90_and hst).1
      have hs := (n90_and hst).2
      show (bif Nat.ble 20 k && Nat.ble k 25 then (.inl (nx, L, vI (amLd (ov X M) c : Int) :: st', ov X M) : AmR) else amNo) = _ ∧ _
      rw [ov_ld hc]
      cases hb : (Nat.ble 20 k && Nat.ble k 25) with
      | false => rw [hb] at h2; exact absurd h2.symm hne
      | true => rw [hb] at h2; subst h2; exact ⟨rfl, hL, hs⟩
    · exact absurd h2.symm hne
  case iastore =>
    have h2 : (match (generalizing := false) st with
      | .inr (.inl x) :: .inr (.inl j) :: .inl (some (k, c, s)) :: st' => bif k == 20 && !(c == 90) then (if 0 ≤ j ∧ j < (amLd M c : Int) then (.inl (nx, L, st', amUp M c s j.toNat x) : AmR) else amNo) else amNo
      | _ => amNo) = r := h
    split at h2
    · rename_i x j k c s st'
      have hs : (n90 (vR k c s) && st'.all n90) = true := hst
      have hc := n90_c (k := k) (s := s) (n90_and hs).1
      have hs := (n90_and hs).2
      show (bif k == 20 && !(c == 90) then (if 0 ≤ j ∧ j < (amLd (ov X M) c : Int) then (.inl (nx, L, st', amUp (ov X M) c s j.toNat x) : AmR) else amNo) else amNo) = _ ∧ _
      rw [ov_ld hc, ov_up hc]
      cases hb : (k == 20 && !(c == 90)) with
      | false => rw [hb] at h2; exact absurd h2.symm hne
      | true =>
        rw [hb] at h2
        simp only [cond_true] at h2 ⊢
        split at h2
        · rename_i hj; subst h2; rw [if_pos hj]; exact ⟨rfl, hL, hs⟩
        · exact absurd h2.symm hne
    · exact absurd h2.symm hne
  case lastore =>
    have h2 : (match (generalizing := false) st with
      | .inr (.inr (.inl x)) :: .inr (.inl j) :: .inl (some (k, c, s)) :: st' => bif k == 21 then (if 0 ≤ j ∧ j < (amLd M c : Int) then (.inl (nx, L, st', amUp M c s j.toNat x) : AmR) else amNo) else amNo
      | _ => amNo) = r := h
    split at h2
    · rename_i x j k c s st'
      have hs : (n90 (vR k c s) && st'.all n90) = true := hst
      have hc := n90_c (k := k) (s := s) (n90_and hs).1
      have hs := (n90_and hs).2
      show (bif k == 21 then (if 0 ≤ j ∧ j < (amLd (ov X M) c : Int) then (.inl (nx, L, st', amUp (ov X M) c s j.toNat x) : AmR) else amNo) else amNo) = _ ∧ _
      rw [ov_ld hc, ov_up hc]
      cases hb : (k == 21) with
      | false => rw [hb] at h2; exact absurd h2.symm hne
      | true =>
        rw [hb] at h2
        simp only [cond_true] at h2 ⊢
        split at h2
        · rename_i hj; subst h2; rw [if_pos hj]; exact ⟨rfl, hL, hs⟩
        · exact absurd h2.symm hne
    · exact absurd h2.symm hne
  case getfield k =>
    have h2 : (match (generalizing := false) st with
      | .inl (some (_, c, s)) :: st' => bif c == a then (match (generalizing := false) q with
        | 2 => (.inl (nx, L, G c s b :: st', M) : AmR)
        | _ => .inl (nx, L, vI (M c s b) :: st', M)) else amNo
      | _ => amNo) = r := h
    split at h2
    · rename_i k c s st'
      have hc := n90_c (k := k) (s := s) (n90_and hst).1
      have hs := (n90_and hst).2
      show (bif c == a then (match (generalizing := false) q with
        | 2 => (.inl (nx, L, G c s b :: st', ov X M) : AmR)
        | _ => .inl (nx, L, vI (ov X M c s b) :: st', ov X M)) else amNo) = _ ∧ _
      rw [ov_ne hc]
      cases hb : (c == a) with
      | false => rw [hb] at h2; exact absurd h2.symm hne
      | true =>
        rw [hb] at h2
        simp only [cond_true] at h2 ⊢
        split at h2
        · subst h2
          refine ⟨rfl, hL, ?_⟩
          simp only [List.all_cons, hG c s b, hs, Bool.and_self]
        · subst h2
          exact ⟨rfl, hL, hs⟩
    · exact absurd h2.symm hne
  case putfield k =>
    have h2 : (match (generalizing := false) st with
      | .inr (.inl x) :: .inl (some (_, c, s)) :: st' => bif c == a then (match (generalizing := false) q with
        | 0 => (.inl (nx, L, st', amUp M c s b x) : AmR)
        | 3 => bif amZ x then .inl (nx, L, st', amUp M c s b x) else amNo
        | _ => amNo) else amNo
      | _ => amNo) = r := h
    split at h2
    · rename_i x k c s st'
      have hs : (n90 (vR k c s) && st'.all n90) = true := hst
      have hc := n90_c (k := k) (s := s) (n90_and hs).1
      have hs := (n90_and hs).2
      show (bif c == a then (match (generalizing := false) q with
        | 0 => (.inl (nx, L, st', amUp (ov X M) c s b x) : AmR)
        | 3 => bif amZ x then .inl (nx, L, st', amUp (ov X M) c s b x) else amNo
        | _ => amNo) else amNo) = _ ∧ _
      rw [ov_up hc]
      cases hb : (c == a) with
      | false => rw [hb] at h2; exact absurd h2.symm hne
      | true =>
        rw [hb] at h2
        match q, h2 with
        | 0, h2 => subst h2; exact ⟨rfl, hL, hs⟩
        | 1, h2 => exact absurd h2.symm hne
        | 2, h2 => exact absurd h2.symm hne
        | 3, h2 =>
          have h2 : (bif amZ x then (.inl (nx, L, st', amUp M c s b x) : AmR) else amNo) = r := h2
          show (bif amZ x then (.inl (nx, L, st', ov X (amUp M c s b x)) : AmR) else amNo) = _ ∧ _
          cases hz : amZ x with
          | false => rw [hz] at h2; exact absurd h2.symm hne
          | true => rw [hz] at h2; subst h2; exact ⟨rfl, hL, hs⟩
        | n + 4, h2 => exact absurd h2.symm hne
    · exact absurd h2.symm hne
  case invokevirtual k =>
    have hi : (q == 1 && amNiM.contains a) = true := hi
    have h3 := n90_and hi
    exact am_niV hC (Or.inr (by simpa using h3.1)) (List.contains_iff_mem.mp h3.2) hL hst h hne
  case invokestatic k =>
    have hi : (q == 0 && amNiM.contains a) = true := hi
    have h3 := n90_and hi
    exact am_niV hC (Or.inl (by simpa using h3.1)) (List.contains_iff_mem.mp h3.2) hL hst h hne
  all_goals exact absurd hi (by intro h; cases h)
end AmNI
def amNiCd (cd : List (Option AmE)) : Bool := cd.all fun o => match o with
  | none => true
  | some e => amNiOk e
theorem amNi_tab : ∀ mid ∈ amNiM, amNiCd (amCodes.getD mid []) = true := by decide +kernel
theorem amLay_n90 : ∀ (as : List AmV), as.all n90 = true → (amLay as).all n90 = true
  | [], _ => rfl
  | .inr (.inr (.inl x)) :: r, h => amLay_n90 r h
  | .inr (.inl x) :: r, h => amLay_n90 r h
  | .inl q :: r, h => by
    have h : (n90 (.inl q) && r.all n90) = true := h
    show (n90 (.inl q) && (amLay r).all n90) = true
    rw [(n90_and h).1, amLay_n90 r (n90_and h).2]; rfl
  | .inr (.inr (.inr x)) :: r, h => amLay_n90 r h
theorem amEnt_n90 {as : List AmV} {N : Nat} (h : as.all n90 = true) : (amEnt N as).all n90 = true := by
  unfold amEnt
  rw [List.all_append, amLay_n90 as h]
  refine List.all_eq_true.mpr fun w hw => ?_
  rw [(List.mem_replicate.mp hw).2]; rfl
theorem amNi_run {X : Nat → Nat → Int} {G : AmG} {cal : Nat → List AmV → AmM → Option (AmV × AmM)} {cd : List (Option AmE)} (hC : amNiC X cal) (hG : ∀ c s j, n90 (G c s j) = true) (hcd : amNiCd cd = true) {v : AmV} {M' : AmM} : ∀ (k pc : Nat) (L st : List AmV) (M : AmM), L.all n90 = true → st.all n90 = true → amN (amStep G cal cd) k (pc, L, st, M) = some (v, M') → amN (amStep G cal cd) k (pc, L, st, ov X M) = some (v, ov X M')
  | 0, _, _, _, _, _, _, h => by cases h
  | k + 1, pc, L, st, M, hL, hst, h => by
    unfold amN at h ⊢
    cases he : cd[pc]? with
    | none =>
      have : amStep G cal cd (pc, L, st, M) = amNo := by unfold amStep; simp only [he]
      rw [this] at h; cases h
    | some oe =>
      cases oe with
      | none =>
        have : amStep G cal cd (pc, L, st, M) = amNo := by unfold amStep; simp only [he]
        rw [this] at h; cases h
      | some en =>
        have hs : ∀ M, amStep G cal cd (pc, L, st, M) = amEx G cal en.1 en.2.1 en.2.2.1 en.2.2.2.1 en.2.2.2.2.1 en.2.2.2.2.2.1 en.2.2.2.2.2.2 L st M := fun M => by unfold amStep; simp only [he]
        have hok : amNiOk en = true := List.all_eq_true.mp hcd _ (List.mem_of_getElem? he)
        rw [hs] at h
        rw [hs]
        obtain ⟨i, nx, a, b, q, z, ts⟩ := en
        cases hx : amEx G cal i nx a b q z ts L st M with
        | inl c' =>
          have h3 := amEx_ni hC hG hok hL hst hx (by intro h; cases h)
          obtain ⟨pc', L', st', M1⟩ := c'
          rw [hx] at h
          rw [h3.1]
          exact amNi_run hC hG hcd k pc' L' st' M1 h3.2.1 h3.2.2 h
        | inr o =>
          rw [hx] at h
          have h : o = some (v, M') := h
          subst h
          have h3 := amEx_ni hC hG hok hL hst hx (by intro h; cases h)
          rw [h3.1]
          rfl
theorem amDf_ni {X : Nat → Nat → Int} {G : AmG} (hG : ∀ c s j, n90 (G c s j) = true) : ∀ d, amNiC X (amDf G d)
  | 0 => fun _ _ _ _ _ _ _ h => by cases h
  | d + 1 => fun mid hm as M v M' has h => by
    have h : (bif Nat.ble (amLay as).length (amMaxL.getD mid 0) && amLgB (amLg.getD mid []) 0 (amLay as) then amN (amStep G (amDf G d) (amCodes.getD mid [])) 2000 (0, amEnt (amMaxL.getD mid 0) as, [], M) else none) = some (v, M') := h
    show (bif Nat.ble (amLay as).length (amMaxL.getD mid 0) && amLgB (amLg.getD mid []) 0 (amLay as) then amN (amStep G (amDf G d) (amCodes.getD mid [])) 2000 (0, amEnt (amMaxL.getD mid 0) as, [], ov X M) else none) = some (v, ov X M')
    cases hb : (Nat.ble (amLay as).length (amMaxL.getD mid 0) && amLgB (amLg.getD mid []) 0 (amLay as)) with
    | false => rw [hb] at h; cases h
    | true => rw [hb] at h; exact amNi_run (amDf_ni hG d) hG (amNi_tab mid hm) _ _ _ _ _ (amEnt_n90 has) rfl h
/-! constructors -/
def amOvR1 (X : Nat → Nat → Int) : AmR1 → AmR1
  | .inl (pc, L, st, M, G, n) => .inl (pc, L, st, ov X M, G, n)
  | .inr (some (M, G, n)) => .inr (some (ov X M, G, n))
  | .inr none => .inr none
def amN9R1 : AmR1 → Prop
  | .inl (_, L, st, _, G, _) => L.all n90 = true ∧ st.all n90 = true ∧ ∀ c s j, n90 (G c s j) = true
  | .inr (some (_, G, _)) => ∀ c s j, n90 (G c s j) = true
  | .inr none => True
def amNiOk1 (e : AmE) : Bool := match e.1 with
  | .new _ => true
  | .newarray _ => true
  | .anewarray _ => true
  | .aastore => true
  | .invokespecial _ => true
  | _ => amNiOk e
def amNiC1 (X : Nat → Nat → Int) (cal1 : Nat → List AmV → AmM → AmG → Nat → Option (AmM × AmG × Nat)) : Prop := ∀ ct as M G n M' G' n', as.all n90 = true → (∀ c s j, n90 (G c s j) = true) → cal1 ct as M G n = some (M', G', n') → cal1 ct as (ov X M) G n = some (ov X M', G', n') ∧ ∀ c s j, n90 (G' c s j) = true
theorem amGst1_n90 {G : AmG} {c s : Nat} (hG : ∀ c s j, n90 (G c s j) = true) : ∀ c' s' j, n90 (amGst1 G c s c' s' j) = true := fun c' s' j => by
  unfold amGst1
  cases (c' == c && s' == s)
  · exact hG c' s' j
  · rfl
theorem amGup_n90 {G : AmG} {c s i : Nat} {v : AmV} (hG : ∀ c s j, n90 (G c s j) = true) (hv : n90 v = true) : ∀ c' s' j, n90 (amGup G c s i v c' s' j) = true := fun c' s' j => by
  unfold amGup
  cases (c' == c && (s' == s && j == i))
  · exact hG c' s' j
  · exact hv
theorem amEx1_ni {X : Nat → Nat → Int} {cal1 : Nat → List AmV → AmM → AmG → Nat → Option (AmM × AmG × Nat)} (hC : amNiC1 X cal1) {i : Jvm.ClassFile.Instr} {nx a b q : Nat} {z : Int} {ts : List Nat} {L st : List AmV} {M : AmM} {G : AmG} {n : Nat} {r : AmR1} (hG : ∀ c s j, n90 (G c s j) = true) (hi : amNiOk1 (i, nx, a, b, q, z, ts) = true) (hL : L.all n90 = true) (hst : st.all n90 = true) (h : amEx1 (fun G => amDf G 4) cal1 i nx a b q z ts L st M G n = r) (hne : r ≠ amNo1) : amEx1 (fun G => amDf G 4) cal1 i nx a b q z ts L st (ov X M) G n = amOvR1 X r ∧ amN9R1 r := by
  have gen : amNiOk (i, nx, a, b, q, z, ts) = true → amLift (amEx G (amDf G 4) i nx a b q z ts L st M) G n = r → amLift (amEx G (amDf G 4) i nx a b q z ts L st (ov X M)) G n = amOvR1 X r ∧ amN9R1 r := fun hi h => by
    cases hx : amEx G (amDf G 4) i nx a b q z ts L st M with
    | inl c' =>
      obtain ⟨h1, h2⟩ := amEx_ni (amDf_ni (X := X) hG 4) hG hi hL hst hx (by intro h; cases h)
      obtain ⟨pc', L', st', M1⟩ := c'
      rw [hx] at h
      have h : (.inl (pc', L', st', M1, G, n) : AmR1) = r := h
      subst h
      rw [h1]
      exact ⟨rfl, h2.1, h2.2, hG⟩
    | inr o =>
      rw [hx] at h
      rcases o with _ | ⟨(_ | _ | _ | _), M1⟩
      · exact absurd h.symm hne
      · exact absurd h.symm hne
      · exact absurd h.symm hne
      · exact absurd h.symm hne
      · obtain ⟨h1, h2⟩ := amEx_ni (amDf_ni (X := X) hG 4) hG hi hL hst hx (by intro h; cases h)
        have h : (.inr (some (M1, G, n)) : AmR1) = r := h
        subst h
        rw [h1]
        exact ⟨rfl, hG⟩
  have h90 : ∀ {c s : Nat}, amFull[n]? = some (c, s) → c ≠ 90 := fun hx => (amFull_k _ (List.mem_of_getElem? hx)).2
  have hv : ∀ {c s k : Nat}, c ≠ 90 → n90 (vR k c s) = true := fun {c s k} h => by show (!(c == 90)) = true; rw [beq_false_of_ne h]; rfl
  cases i
  case new x =>
    have h2 : (match (generalizing := false) amFull[n]? with
      | some (c, s) => bif c == a then (.inl (nx, L, vR c c s :: st, amRst M c s, amGst1 G c s, n + 1) : AmR1) else amNo1
      | none => amNo1) = r := h
    show (match (generalizing := false) amFull[n]? with
      | some (c, s) => bif c == a then (.inl (nx, L, vR c c s :: st, amRst (ov X M) c s, amGst1 G c s, n + 1) : AmR1) else amNo1
      | none => amNo1) = _ ∧ _
    split at h2
    · rename_i c s hx
      have hc := h90 hx
      cases hb : (c == a) with
      | false => rw [hb] at h2; exact absurd h2.symm hne
      | true =>
        rw [hb] at h2
        subst h2
        simp only [cond_true]
        rw [ov_rst hc]
        refine ⟨rfl, hL, ?_, amGst1_n90 hG⟩
        rw [List.all_cons, hst, hv hc]; rfl
    · exact absurd h2.symm hne
  case newarray at_ =>
    have h2 : (match (generalizing := false) st with
      | .inr (.inl k) :: st' => (match (generalizing := false) amFull[n]? with
        | some (c, s) => bif amKndL.getD c 99 == a && decide (k = (amLenL.getD c 0 : Int)) then (.inl (nx, L, vR a c s :: st', amRst M c s, amGst1 G c s, n + 1) : AmR1) else amNo1
        | none => amNo1)
      | _ => amNo1) = r := h
    split at h2
    · rename_i k st1
      split at h2
      · rename_i c1 s1 hx
        have hc := h90 hx
        show (match (generalizing := false) amFull[n]? with
          | some (c, s) => bif amKndL.getD c 99 == a && decide (k = (amLenL.getD c 0 : Int)) then (.inl (nx, L, vR a c s :: st1, amRst (ov X M) c s, amGst1 G c s, n + 1) : AmR1) else amNo1
          | none => amNo1) = _ ∧ _
        simp only [hx]
        cases hb : (amKndL.getD c1 99 == a && decide (k = (amLenL.getD c1 0 : Int))) with
        | false => rw [hb] at h2; exact absurd h2.symm hne
        | true =>
          rw [hb] at h2
          subst h2
          simp only [cond_true]
          rw [ov_rst hc]
          refine ⟨rfl, hL, ?_, amGst1_n90 hG⟩
          rw [List.all_cons, hv hc]; exact hst
      · exact absurd h2.symm hne
    · exact absurd h2.symm hne
  case anewarray x =>
    have h2 : (match (generalizing := false) st with
      | .inr (.inl k) :: st' => (match (generalizing := false) amFull[n]? with
        | some (c, s) => bif amKndL.getD c 99 == a && decide (k = (amLenL.getD c 0 : Int)) then (.inl (nx, L, vR a c s :: st', amRst M c s, amGst1 G c s, n + 1) : AmR1) else amNo1
        | none => amNo1)
      | _ => amNo1) = r := h
    split at h2
    · rename_i k st1
      split at h2
      · rename_i c1 s1 hx
        have hc := h90 hx
        show (match (generalizing := false) amFull[n]? with
          | some (c, s) => bif amKndL.getD c 99 == a && decide (k = (amLenL.getD c 0 : Int)) then (.inl (nx, L, vR a c s :: st1, amRst (ov X M) c s, amGst1 G c s, n + 1) : AmR1) else amNo1
          | none => amNo1) = _ ∧ _
        simp only [hx]
        cases hb : (amKndL.getD c1 99 == a && decide (k = (amLenL.getD c1 0 : Int))) with
        | false => rw [hb] at h2; exact absurd h2.symm hne
        | true =>
          rw [hb] at h2
          subst h2
          simp only [cond_true]
          rw [ov_rst hc]
          refine ⟨rfl, hL, ?_, amGst1_n90 hG⟩
          rw [List.all_cons, hv hc]; exact hst
      · exact absurd h2.symm hne
    · exact absurd h2.symm hne
  case aastore =>
    have h2 : (match (generalizing := false) st with
      | .inl (some (kv, cv, sv)) :: .inr (.inl j) :: .inl (some (k, c, s)) :: st' => bif (k == 24 && cv == 5 || k == 25 && cv == 6) && (decide (0 ≤ j) && decide (j < (amLenL.getD c 0 : Int))) then (.inl (nx, L, st', M, amGup G c s j.toNat (vR kv cv sv), n) : AmR1) else amNo1
      | _ => amNo1) = r := h
    split at h2
    · rename_i kv cv sv j k c1 s1 st1
      have h3 : (n90 (vR kv cv sv) && (n90 (vI j) && (n90 (vR k c1 s1) && st1.all n90))) = true := hst
      have h4 := n90_and h3
      have h5 : (n90 (vR k c1 s1) && st1.all n90) = true := h4.2
      show (bif (k == 24 && cv == 5 || k == 25 && cv == 6) && (decide (0 ≤ j) && decide (j < (amLenL.getD c1 0 : Int))) then (.inl (nx, L, st1, ov X M, amGup G c1 s1 j.toNat (vR kv cv sv), n) : AmR1) else amNo1) = _ ∧ _
      cases hb : ((k == 24 && cv == 5 || k == 25 && cv == 6) && (decide (0 ≤ j) && decide (j < (amLenL.getD c1 0 : Int)))) with
      | false => rw [hb] at h2; exact absurd h2.symm hne
      | true =>
        rw [hb] at h2
        subst h2
        exact ⟨rfl, hL, (n90_and h5).2, amGup_n90 hG h4.1⟩
    · exact absurd h2.symm hne
  case putfield x =>
    by_cases hq : q = 2
    · subst hq
      have h2 : (match (generalizing := false) st with
        | .inl (some (kv, cv, sv)) :: .inl (some (_, c, s)) :: st' => bif c == a then (.inl (nx, L, st', M, amGup G c s b (vR kv cv sv), n) : AmR1) else amNo1
        | _ => amNo1) = r := h
      split at h2
      · rename_i kv cv sv k1 c1 s1 st1
        have h3 : (n90 (vR kv cv sv) && (n90 (vR k1 c1 s1) && st1.all n90)) = true := hst
        have h4 := n90_and h3
        show (bif c1 == a then (.inl (nx, L, st1, ov X M, amGup G c1 s1 b (vR kv cv sv), n) : AmR1) else amNo1) = _ ∧ _
        cases hb : (c1 == a) with
        | false => rw [hb] at h2; exact absurd h2.symm hne
        | true =>
          rw [hb] at h2
          subst h2
          exact ⟨rfl, hL, (n90_and h4.2).2, amGup_n90 hG h4.1⟩
      · exact absurd h2.symm hne
    · match q, hq, hi, h, gen with
      | 0, _, hi, h, gen => exact gen hi h
      | 1, _, hi, h, gen => exact gen hi h
      | 2, hq, _, _, _ => exact absurd rfl hq
      | k + 3, _, hi, h, gen => exact gen hi h
  case invokespecial x =>
    have h9 : (match (generalizing := false) q with
      | 8 => (match (generalizing := false) st with
        | .inl (some _) :: st' => bif Nat.ble (amCat st') 8 then (.inl (nx, L, st', M, G, n) : AmR1) else amNo1
        | _ => amNo1)
      | _ => (match (generalizing := false) st.drop (b - 1) with
        | .inl (some (_, c, _)) :: _ => bif c == a && (Nat.ble b st.length && Nat.ble (amCat (st.drop b)) 8) then (match (generalizing := false) cal1 a (st.take b).reverse M G n with
          | some (M', G', n') => (.inl (nx, L, st.drop b, M', G', n') : AmR1)
          | none => amNo1) else amNo1
        | _ => amNo1)) = r := h
    show (match (generalizing := false) q with
      | 8 => (match (generalizing := false) st with
        | .inl (some _) :: st' => bif Nat.ble (amCat st') 8 then (.inl (nx, L, st', ov X M, G, n) : AmR1) else amNo1
        | _ => amNo1)
      | _ => (match (generalizing := false) st.drop (b - 1) with
        | .inl (some (_, c, _)) :: _ => bif c == a && (Nat.ble b st.length && Nat.ble (amCat (st.drop b)) 8) then (match (generalizing := false) cal1 a (st.take b).reverse (ov X M) G n with
          | some (M', G', n') => (.inl (nx, L, st.drop b, M', G', n') : AmR1)
          | none => amNo1) else amNo1
        | _ => amNo1)) = _ ∧ _
    by_cases hq : q = 8
    · subst hq
      replace h9 : (match (generalizing := false) st with
        | .inl (some _) :: st' => bif Nat.ble (amCat st') 8 then (.inl (nx, L, st', M, G, n) : AmR1) else amNo1
        | _ => amNo1) = r := h9
      split at h9
      · rename_i rr st1
        have h4 := n90_and hst
        show (bif Nat.ble (amCat st1) 8 then (.inl (nx, L, st1, ov X M, G, n) : AmR1) else amNo1) = _ ∧ _
        cases hb : Nat.ble (amCat st1) 8 with
        | false => rw [hb] at h9; exact absurd h9.symm hne
        | true => rw [hb] at h9; subst h9; exact ⟨rfl, hL, h4.2, hG⟩
      · exact absurd h9.symm hne
    · have hdr : (st.drop b).all n90 = true := List.all_eq_true.mpr fun w hw => List.all_eq_true.mp hst w (List.mem_of_mem_drop hw)
      have htk : ((st.take b).reverse).all n90 = true := List.all_eq_true.mpr fun w hw => List.all_eq_true.mp hst w (List.mem_of_mem_take (List.mem_reverse.mp hw))
      split at h9
      · exact absurd rfl hq
      · split at h9
        · rename_i k1 c1 s1 r1 hd
          cases hb : (c1 == a && (Nat.ble b st.length && Nat.ble (amCat (st.drop b)) 8)) with
          | false => rw [hb] at h9; exact absurd h9.symm hne
          | true =>
            rw [hb] at h9
            simp only [cond_true] at h9 ⊢
            cases hc2 : cal1 a (st.take b).reverse M G n with
            | none => rw [hc2] at h9; exact absurd h9.symm hne
            | some w =>
              obtain ⟨M2, G2, n2⟩ := w
              rw [hc2] at h9
              subst h9
              obtain ⟨g1, g2⟩ := hC _ _ _ _ _ _ _ _ htk hG hc2
              rw [g1]
              exact ⟨rfl, hL, hdr, g2⟩
        · exact absurd h9.symm hne
  all_goals exact gen hi h
def amNiCd1 (cd : List (Option AmE)) : Bool := cd.all fun o => match o with
  | none => true
  | some e => amNiOk1 e
theorem amNi_tab1 : amCtC.all amNiCd1 = true := by decide +kernel
theorem amNi_run1 {X : Nat → Nat → Int} {cal1 : Nat → List AmV → AmM → AmG → Nat → Option (AmM × AmG × Nat)} {cd : List (Option AmE)} (hC : amNiC1 X cal1) (hcd : amNiCd1 cd = true) {M' : AmM} {G' : AmG} {n' : Nat} : ∀ (k pc : Nat) (L st : List AmV) (M : AmM) (G : AmG) (n : Nat), L.all n90 = true → st.all n90 = true → (∀ c s j, n90 (G c s j) = true) → amN (amStep1 (fun G => amDf G 4) cal1 cd) k (pc, L, st, M, G, n) = some (M', G', n') → amN (amStep1 (fun G => amDf G 4) cal1 cd) k (pc, L, st, ov X M, G, n) = some (ov X M', G', n') ∧ ∀ c s j, n90 (G' c s j) = true
  | 0, _, _, _, _, _, _, _, _, _, h => by cases h
  | k + 1, pc, L, st, M, G, n, hL, hst, hG, h => by
    unfold amN at h ⊢
    cases he : cd[pc]? with
    | none =>
      have : amStep1 (fun G => amDf G 4) cal1 cd (pc, L, st, M, G, n) = amNo1 := by unfold amStep1; simp only [he]
      rw [this] at h; cases h
    | some oe =>
      cases oe with
      | none =>
        have : amStep1 (fun G => amDf G 4) cal1 cd (pc, L, st, M, G, n) = amNo1 := by unfold amStep1; simp only [he]
        rw [this] at h; cases h
      | some en =>
        have hok : amNiOk1 en = true := List.all_eq_true.mp hcd _ (List.mem_of_getElem? he)
        rw [amStep1_of he] at h
        rw [amStep1_of he]
        obtain ⟨i, nx, a, b, q, z, ts⟩ := en
        cases hx : amEx1 (fun G => amDf G 4) cal1 i nx a b q z ts L st M G n with
        | inl c' =>
          have h3 := amEx1_ni hC hG hok hL hst hx (by intro h; cases h)
          obtain ⟨pc', L', st', M1, G1, n1⟩ := c'
          rw [hx] at h
          rw [h3.1]
          exact amNi_run1 hC hcd k pc' L' st' M1 G1 n1 h3.2.1 h3.2.2.1 h3.2.2.2 h
        | inr o =>
          rw [hx] at h
          have h : o = some (M', G', n') := h
          subst h
          have h3 := amEx1_ni hC hG hok hL hst hx (by intro h; cases h)
          rw [h3.1]
          exact ⟨rfl, h3.2⟩
theorem amD1_ni {X : Nat → Nat → Int} : ∀ d, amNiC1 X (amD1 d)
  | 0 => fun _ _ _ _ _ _ _ _ _ _ h => by cases h
  | d + 1 => fun ct as M G n M' G' n' has hG h => by
    have h : (bif Nat.ble (amLay as).length (amCtL.getD ct 0) && amLgB [] 0 (amLay as) then amN (amStep1 (fun G => amDf G 4) (amD1 d) (amCtC.getD ct [])) 3000 (0, amEnt (amCtL.getD ct 0) as, [], M, G, n) else none) = some (M', G', n') := h
    show (bif Nat.ble (amLay as).length (amCtL.getD ct 0) && amLgB [] 0 (amLay as) then amN (amStep1 (fun G => amDf G 4) (amD1 d) (amCtC.getD ct [])) 3000 (0, amEnt (amCtL.getD ct 0) as, [], ov X M, G, n) else none) = some (ov X M', G', n') ∧ _
    have hcd : amNiCd1 (amCtC.getD ct []) = true := by
      rw [List.getD_eq_getElem?_getD]
      cases hg : amCtC[ct]? with
      | none => rfl
      | some cd => exact List.all_eq_true.mp amNi_tab1 cd (List.mem_of_getElem? hg)
    cases hb : (Nat.ble (amLay as).length (amCtL.getD ct 0) && amLgB [] 0 (amLay as)) with
    | false => rw [hb] at h; cases h
    | true => rw [hb] at h; exact amNi_run1 (amD1_ni d) hcd _ _ _ _ _ _ _ (amEnt_n90 has) rfl hG h
