/-! THE SMALL MACHINE: bytecode over typed columns of whole numbers. A value: a cell (kind, column, row), null, an int, a long, nothing. -/
abbrev AmV : Type := Option (Nat × Nat × Nat) ⊕ (Int ⊕ (Int ⊕ Unit))
abbrev AmM : Type := Nat → Nat → Nat → Int
abbrev AmG : Type := Nat → Nat → Nat → AmV
abbrev AmE : Type := Jvm.ClassFile.Instr × Nat × Nat × Nat × Nat × Int × List Nat
abbrev AmC : Type := Nat × List AmV × List AmV × AmM
abbrev AmR : Type := AmC ⊕ Option (AmV × AmM)
abbrev vR (k c s : Nat) : AmV := .inl (some (k, c, s))
abbrev vN : AmV := .inl none
abbrev vI (x : Int) : AmV := .inr (.inl x)
abbrev vL (x : Int) : AmV := .inr (.inr (.inl x))
abbrev vU : AmV := .inr (.inr (.inr ()))
def w32 (x : Int) : Int := (x + 2147483648) % 4294967296 - 2147483648
def w64 (x : Int) : Int := (x + 9223372036854775808) % 18446744073709551616 - 9223372036854775808
def w8 (x : Int) : Int := (x + 128) % 256 - 128
def i32 (x : Int) : Prop := -2147483648 ≤ x ∧ x < 2147483648
def i64 (x : Int) : Prop := -9223372036854775808 ≤ x ∧ x < 9223372036854775808
def bAnd (x y : Int) : Int := (Int32.ofInt x &&& Int32.ofInt y).toInt
def bOr (x y : Int) : Int := (Int32.ofInt x ||| Int32.ofInt y).toInt
def bXor (x y : Int) : Int := (Int32.ofInt x ^^^ Int32.ofInt y).toInt
def bShl (x y : Int) : Int := (Int32.ofInt x <<< (Int32.ofInt y &&& 31)).toInt
def bShr (x y : Int) : Int := (Int32.ofInt x >>> (Int32.ofInt y &&& 31)).toInt
def bUsh (x y : Int) : Int := ((Int32.ofInt x).toUInt32 >>> ((Int32.ofInt y).toUInt32 &&& Int32.toUInt32 31)).toInt32.toInt
def amCmp (x y : Int) : Int := if x < y then -1 else if x = y then 0 else 1
def amMax (x y : Int) : Int := if x < y then y else x
def amMin (x y : Int) : Int := if y < x then y else x
def amZ (x : Int) : Bool := x == 0 || x == 1
def amUp (M : AmM) (c s j : Nat) (v : Int) : AmM := fun c' s' j' => bif (c' == c && (s' == s && j' == j)) then v else M c' s' j'
def amCpy (M : AmM) (c0 s0 : Nat) (sp : Int) (c1 s1 : Nat) (dp n : Int) : AmM := fun c s j => if c = c1 ∧ s = s1 ∧ dp ≤ (j : Int) ∧ (j : Int) < dp + n then M c0 s0 (sp + ((j : Int) - dp)).toNat else M c s j
def amLd (M : AmM) (c : Nat) : Nat := bif c == 90 then (M 90 1 0).toNat else amLenL.getD c 0
def amIdxF (x : Int) : List Nat → Int → Int
  | [], _ => -1
  | b :: l, k => if (b : Int) = x then k else amIdxF x l (k + 1)
def amStr (c : Nat) : List Nat := if c = 98 then amWords else amSigns
def amSt1 (L : List AmV) (i : Nat) (v : AmV) (q : Nat) : List AmV := match q with
  | 0 => L.set i v
  | _ => (L.set (i - 1) vU).set i v
def amSt2 (L : List AmV) (i : Nat) (v : AmV) (q : Nat) : List AmV := (amSt1 L i v q).set (i + 1) vU
def amNo : AmR := .inr none
def amLoI (L st : List AmV) (M : AmM) (nx k : Nat) : AmR := match L[k]? with
  | some (.inr (.inl x)) => .inl (nx, L, vI x :: st, M)
  | _ => amNo
def amLoL (L st : List AmV) (M : AmM) (nx k : Nat) : AmR := match L[k]? with
  | some (.inr (.inr (.inl x))) => .inl (nx, L, vL x :: st, M)
  | _ => amNo
def amLoA (L st : List AmV) (M : AmM) (nx k : Nat) : AmR := match L[k]? with
  | some (.inl (some r)) => .inl (nx, L, .inl (some r) :: st, M)
  | _ => amNo
def amStoI (L st : List AmV) (M : AmM) (nx k q : Nat) : AmR := match st with
  | .inr (.inl x) :: st' => bif Nat.blt k L.length then .inl (nx, amSt1 L k (vI x) q, st', M) else amNo
  | _ => amNo
def amStoL (L st : List AmV) (M : AmM) (nx k q : Nat) : AmR := match st with
  | .inr (.inr (.inl x)) :: st' => bif Nat.blt (k + 1) L.length then .inl (nx, amSt2 L k (vL x) q, st', M) else amNo
  | _ => amNo
def amStoA (L st : List AmV) (M : AmM) (nx k q : Nat) : AmR := match st with
  | .inl (some r) :: st' => bif Nat.blt k L.length then .inl (nx, amSt1 L k (.inl (some r)) q, st', M) else amNo
  | _ => amNo
def amIf (c : Jvm.ClassFile.Cond) (x y : Int) (A B : AmR) : AmR := match c with
  | .eq => if x = y then A else B
  | .ne => if x = y then B else A
  | .lt => if x < y then A else B
  | .ge => if x < y then B else A
  | .gt => if y < x then A else B
  | .le => if y < x then B else A
def amTs (x : Int) : Int → List Nat → (Nat → AmR) → Nat → AmR
  | _, [], f, d => f d
  | lo, t :: ts, f, d => if x = lo then f t else amTs x (lo + 1) ts f d
def amPu (z : Int) (o : Option (AmV × AmM)) (f : List AmV → AmM → AmR) : AmR := match o with
  | some (.inr (.inr (.inr ())), M') => bif z == 0 then f [] M' else amNo
  | some (.inr (.inl r), M') => bif z == 1 then f [vI r] M' else amNo
  | some (.inr (.inr (.inl r)), M') => bif z == 2 then f [vL r] M' else amNo
  | _ => amNo
def amCat : List AmV → Nat
  | [] => 0
  | .inr (.inr (.inl _)) :: r => amCat r + 2
  | _ :: r => amCat r + 1
def amInv (cal : Nat → List AmV → AmM → Option (AmV × AmM)) (nx a b q : Nat) (z : Int) (L st : List AmV) (M : AmM) : AmR := match q with
  | 0 => bif Nat.ble b st.length && Nat.ble (amCat (st.drop b)) 8 then amPu z (cal a (st.take b).reverse M) (fun r M' => .inl (nx, L, r ++ st.drop b, M')) else amNo
  | 1 => (match st.drop (b - 1) with
    | .inl (some (_, c, _)) :: _ => bif c == amOwn.getD a 99 && (Nat.ble b st.length && Nat.ble (amCat (st.drop b)) 8) then amPu z (cal a (st.take b).reverse M) (fun r M' => .inl (nx, L, r ++ st.drop b, M')) else amNo
    | _ => amNo)
  | 5 => (match st with
    | .inr (.inl y) :: .inr (.inl x) :: st' => bif Nat.ble (amCat st') 8 then .inl (nx, L, vI (amMax x y) :: st', M) else amNo
    | _ => amNo)
  | 6 => (match st with
    | .inr (.inl y) :: .inr (.inl x) :: st' => bif Nat.ble (amCat st') 8 then .inl (nx, L, vI (amMin x y) :: st', M) else amNo
    | _ => amNo)
  | 7 => (match st with
    | .inr (.inl n) :: .inr (.inl dp) :: .inl (some (k1, c1, s1)) :: .inr (.inl sp) :: .inl (some (k0, c0, s0)) :: st' =>
      bif Nat.ble (amCat st') 8 && (k1 == 20 && (k0 == 20 && (!(c1 == 90) && !(c0 == 90)))) then (if 0 ≤ sp ∧ 0 ≤ dp ∧ 0 ≤ n ∧ sp + n ≤ (amLd M c0 : Int) ∧ dp + n ≤ (amLd M c1 : Int) then .inl (nx, L, st', amCpy M c0 s0 sp c1 s1 dp n) else amNo) else amNo
    | _ => amNo)
  | 9 => (match st with
    | .inl (some (29, c, _)) :: st' => bif Nat.ble (amCat st') 8 then .inl (nx, L, vI ((amStr c).length : Int) :: st', M) else amNo
    | _ => amNo)
  | 10 => (match st with
    | .inr (.inl j) :: .inl (some (29, c, _)) :: st' => bif Nat.ble (amCat st') 8 then (if 0 ≤ j ∧ j < ((amStr c).length : Int) then .inl (nx, L, vI ((amStr c).getD j.toNat 0 : Nat) :: st', M) else amNo) else amNo
    | _ => amNo)
  | 11 => (match st with
    | .inr (.inl x) :: .inl (some (29, c, _)) :: st' => bif Nat.ble (amCat st') 8 then (if 0 ≤ x ∧ x < 256 then .inl (nx, L, vI (amIdxF x (amStr c) 0) :: st', M) else amNo) else amNo
    | _ => amNo)
  | _ => amNo
def amEx (G : AmG) (cal : Nat → List AmV → AmM → Option (AmV × AmM)) (i : Jvm.ClassFile.Instr) (nx a b q : Nat) (z : Int) (ts : List Nat) (L st : List AmV) (M : AmM) : AmR := match i with
  | .iload k => amLoI L st M nx k
  | .iload_n k => amLoI L st M nx k.val
  | .lload k => amLoL L st M nx k
  | .lload_n k => amLoL L st M nx k.val
  | .aload k => amLoA L st M nx k
  | .aload_n k => amLoA L st M nx k.val
  | .istore k => amStoI L st M nx k q
  | .istore_n k => amStoI L st M nx k.val q
  | .lstore k => amStoL L st M nx k q
  | .lstore_n k => amStoL L st M nx k.val q
  | .astore k => amStoA L st M nx k q
  | .astore_n k => amStoA L st M nx k.val q
  | .iconst _ => .inl (nx, L, vI z :: st, M)
  | .bipush _ => .inl (nx, L, vI z :: st, M)
  | .sipush _ => .inl (nx, L, vI z :: st, M)
  | .lconst _ => .inl (nx, L, vL z :: st, M)
  | .ldc _ => (match q with
    | 0 => .inl (nx, L, vI z :: st, M)
    | _ => .inl (nx, L, vR 29 a 0 :: st, M))
  | .ldc_w _ => .inl (nx, L, vI z :: st, M)
  | .ldc2_w _ => .inl (nx, L, vL z :: st, M)
  | .iinc k _ => (match L[k]? with
    | some (.inr (.inl x)) => .inl (nx, amSt1 L k (vI (w32 (x + z))) q, st, M)
    | _ => amNo)
  | .iadd => (match st with
    | .inr (.inl y) :: .inr (.inl x) :: st' => .inl (nx, L, vI (w32 (x + y)) :: st', M)
    | _ => amNo)
  | .isub => (match st with
    | .inr (.inl y) :: .inr (.inl x) :: st' => .inl (nx, L, vI (w32 (x - y)) :: st', M)
    | _ => amNo)
  | .imul => (match st with
    | .inr (.inl y) :: .inr (.inl x) :: st' => .inl (nx, L, vI (w32 (x * y)) :: st', M)
    | _ => amNo)
  | .idiv => (match st with
    | .inr (.inl y) :: .inr (.inl x) :: st' => if y = 0 then amNo else .inl (nx, L, vI (w32 (Int.tdiv x y)) :: st', M)
    | _ => amNo)
  | .irem => (match st with
    | .inr (.inl y) :: .inr (.inl x) :: st' => if y = 0 then amNo else .inl (nx, L, vI (Int.tmod x y) :: st', M)
    | _ => amNo)
  | .iand => (match st with
    | .inr (.inl y) :: .inr (.inl x) :: st' => .inl (nx, L, vI (bAnd x y) :: st', M)
    | _ => amNo)
  | .ior => (match st with
    | .inr (.inl y) :: .inr (.inl x) :: st' => .inl (nx, L, vI (bOr x y) :: st', M)
    | _ => amNo)
  | .ixor => (match st with
    | .inr (.inl y) :: .inr (.inl x) :: st' => .inl (nx, L, vI (bXor x y) :: st', M)
    | _ => amNo)
  | .ishl => (match st with
    | .inr (.inl y) :: .inr (.inl x) :: st' => .inl (nx, L, vI (bShl x y) :: st', M)
    | _ => amNo)
  | .ishr => (match st with
    | .inr (.inl y) :: .inr (.inl x) :: st' => .inl (nx, L, vI (bShr x y) :: st', M)
    | _ => amNo)
  | .iushr => (match st with
    | .inr (.inl y) :: .inr (.inl x) :: st' => .inl (nx, L, vI (bUsh x y) :: st', M)
    | _ => amNo)
  | .ladd => (match st with
    | .inr (.inr (.inl y)) :: .inr (.inr (.inl x)) :: st' => .inl (nx, L, vL (w64 (x + y)) :: st', M)
    | _ => amNo)
  | .lsub => (match st with
    | .inr (.inr (.inl y)) :: .inr (.inr (.inl x)) :: st' => .inl (nx, L, vL (w64 (x - y)) :: st', M)
    | _ => amNo)
  | .lmul => (match st with
    | .inr (.inr (.inl y)) :: .inr (.inr (.inl x)) :: st' => .inl (nx, L, vL (w64 (x * y)) :: st', M)
    | _ => amNo)
  | .ldiv => (match st with
    | .inr (.inr (.inl y)) :: .inr (.inr (.inl x)) :: st' => if y = 0 then amNo else .inl (nx, L, vL (w64 (Int.tdiv x y)) :: st', M)
    | _ => amNo)
  | .lcmp => (match st with
    | .inr (.inr (.inl y)) :: .inr (.inr (.inl x)) :: st' => .inl (nx, L, vI (amCmp x y) :: st', M)
    | _ => amNo)
  | .i2l => (match st with
    | .inr (.inl x) :: st' => .inl (nx, L, vL x :: st', M)
    | _ => amNo)
  | .l2i => (match st with
    | .inr (.inr (.inl x)) :: st' => .inl (nx, L, vI (w32 x) :: st', M)
    | _ => amNo)
  | .i2b => (match st with
    | .inr (.inl x) :: st' => .inl (nx, L, vI (w8 x) :: st', M)
    | _ => amNo)
  | .i2c => (match st with
    | .inr (.inl x) :: st' => .inl (nx, L, vI (x % 65536) :: st', M)
    | _ => amNo)
  | .dup => (match st with
    | .inr (.inl x) :: st' => .inl (nx, L, vI x :: vI x :: st', M)
    | .inl r :: st' => .inl (nx, L, .inl r :: .inl r :: st', M)
    | _ => amNo)
  | .pop => (match st with
    | .inr (.inl _) :: st' => .inl (nx, L, st', M)
    | .inl _ :: st' => .inl (nx, L, st', M)
    | _ => amNo)
  | .dup2 => (match st with
    | .inr (.inl x) :: .inl r :: st' => .inl (nx, L, vI x :: .inl r :: vI x :: .inl r :: st', M)
    | _ => amNo)
  | .goto _ => .inl (a, L, st, M)
  | .ifCond c _ => (match st with
    | .inr (.inl x) :: st' => amIf c x 0 (.inl (a, L, st', M)) (.inl (nx, L, st', M))
    | _ => amNo)
  | .if_icmp c _ => (match st with
    | .inr (.inl y) :: .inr (.inl x) :: st' => amIf c x y (.inl (a, L, st', M)) (.inl (nx, L, st', M))
    | _ => amNo)
  | .ifnonnull _ => (match st with
    | .inl (some _) :: st' => .inl (a, L, st', M)
    | _ => amNo)
  | .ifnull _ => (match st with
    | .inl (some _) :: st' => .inl (nx, L, st', M)
    | _ => amNo)
  | .tableswitch _ _ _ _ => (match st with
    | .inr (.inl x) :: st' => amTs x z ts (fun t => .inl (t, L, st', M)) a
    | _ => amNo)
  | .getfield _ => (match st with
    | .inl (some (_, c, s)) :: st' => bif c == a then (match q with
      | 2 => .inl (nx, L, G c s b :: st', M)
      | _ => .inl (nx, L, vI (M c s b) :: st', M)) else amNo
    | _ => amNo)
  | .putfield _ => (match st with
    | .inr (.inl x) :: .inl (some (_, c, s)) :: st' => bif c == a then (match q with
      | 0 => .inl (nx, L, st', amUp M c s b x)
      | 3 => bif amZ x then .inl (nx, L, st', amUp M c s b x) else amNo
      | _ => amNo) else amNo
    | _ => amNo)
  | .arraylength => (match st with
    | .inl (some (k, c, _)) :: st' => bif Nat.ble 20 k && Nat.ble k 25 then .inl (nx, L, vI (amLd M c : Int) :: st', M) else amNo
    | _ => amNo)
  | .iaload => (match st with
    | .inr (.inl j) :: .inl (some (k, c, s)) :: st' => bif k == 20 then (if 0 ≤ j ∧ j < (amLd M c : Int) then .inl (nx, L, vI (M c s j.toNat) :: st', M) else amNo) else amNo
    | _ => amNo)
  | .baload => (match st with
    | .inr (.inl j) :: .inl (some (k, c, s)) :: st' => bif k == 22 || k == 23 then (if 0 ≤ j ∧ j < (amLd M c : Int) then .inl (nx, L, vI (M c s j.toNat) :: st', M) else amNo) else amNo
    | _ => amNo)
  | .laload => (match st with
    | .inr (.inl j) :: .inl (some (k, c, s)) :: st' => bif k == 21 then (if 0 ≤ j ∧ j < (amLd M c : Int) then .inl (nx, L, vL (M c s j.toNat) :: st', M) else amNo) else amNo
    | _ => amNo)
  | .aaload => (match st with
    | .inr (.inl j) :: .inl (some (k, c, s)) :: st' => bif k == 24 || k == 25 then (if 0 ≤ j ∧ j < (amLd M c : Int) then .inl (nx, L, G c s j.toNat :: st', M) else amNo) else amNo
    | _ => amNo)
  | .iastore => (match st with
    | .inr (.inl x) :: .inr (.inl j) :: .inl (some (k, c, s)) :: st' => bif k == 20 && !(c == 90) then (if 0 ≤ j ∧ j < (amLd M c : Int) then .inl (nx, L, st', amUp M c s j.toNat x) else amNo) else amNo
    | _ => amNo)
  | .bastore => (match st with
    | .inr (.inl x) :: .inr (.inl j) :: .inl (some (k, c, s)) :: st' => if 0 ≤ j ∧ j < (amLd M c : Int) then (match k with
      | 22 => .inl (nx, L, st', amUp M c s j.toNat (w8 x))
      | 23 => bif amZ x then .inl (nx, L, st', amUp M c s j.toNat x) else amNo
      | _ => amNo) else amNo
    | _ => amNo)
  | .lastore => (match st with
    | .inr (.inr (.inl x)) :: .inr (.inl j) :: .inl (some (k, c, s)) :: st' => bif k == 21 then (if 0 ≤ j ∧ j < (amLd M c : Int) then .inl (nx, L, st', amUp M c s j.toNat x) else amNo) else amNo
    | _ => amNo)
  | .invokevirtual _ => amInv cal nx a b q z L st M
  | .invokestatic _ => amInv cal nx a b q z L st M
  | .ireturn => (match st with
    | [.inr (.inl x)] => (match q with
      | 0 => .inr (some (vI x, M))
      | _ => bif amZ x then .inr (some (vI x, M)) else amNo)
    | _ => amNo)
  | .lreturn => (match st with
    | [.inr (.inr (.inl x))] => .inr (some (vL x, M))
    | _ => amNo)
  | .return_ => (match st with
    | [] => .inr (some (vU, M))
    | _ => amNo)
  | _ => amNo
def amStep (G : AmG) (cal : Nat → List AmV → AmM → Option (AmV × AmM)) (cd : List (Option AmE)) (c : AmC) : AmR := match cd[c.1]? with
  | some (some (i, nx, a, b, q, z, ts)) => amEx G cal i nx a b q z ts c.2.1 c.2.2.1 c.2.2.2
  | _ => amNo
/-! runs: a step is a function; a run is where its steps end -/
def amN {σ ρ : Type} (f : σ → σ ⊕ Option ρ) : Nat → σ → Option ρ
  | 0, _ => none
  | n + 1, c => match f c with
    | .inl c' => amN f n c'
    | .inr r => r
theorem amN_mono {σ ρ : Type} {f : σ → σ ⊕ Option ρ} {r : ρ} : ∀ {n : Nat} {c : σ}, amN f n c = some r → ∀ {m : Nat}, n ≤ m → amN f m c = some r
  | 0, _, h, _, _ => by cases h
  | n + 1, c, h, m, hm => by
    obtain ⟨m, rfl⟩ : ∃ k, m = k + 1 := ⟨m - 1, by omega⟩
    unfold amN at h ⊢
    cases hf : f c with
    | inl c' => rw [hf] at h; exact amN_mono h (by omega)
    | inr r' => rw [hf] at h; exact h
noncomputable def amRun {σ ρ : Type} (f : σ → σ ⊕ Option ρ) (c : σ) : Option ρ := Classical.epsilon (fun o : Option ρ => (∃ n r, amN f n c = some r ∧ o = some r) ∨ ((∀ n, amN f n c = none) ∧ o = none))
theorem amRun_spec {σ ρ : Type} (f : σ → σ ⊕ Option ρ) (c : σ) : (∃ n r, amN f n c = some r ∧ amRun f c = some r) ∨ ((∀ n, amN f n c = none) ∧ amRun f c = none) := by
  refine Classical.epsilon_spec (p := fun o : Option ρ => (∃ n r, amN f n c = some r ∧ o = some r) ∨ ((∀ n, amN f n c = none) ∧ o = none)) ?_
  by_cases h : ∃ n r, amN f n c = some r
  · obtain ⟨n, r, h⟩ := h
    exact ⟨some r, Or.inl ⟨n, r, h, rfl⟩⟩
  · refine ⟨none, Or.inr ⟨fun n => ?_, rfl⟩⟩
    cases hn : amN f n c with
    | none => rfl
    | some r => exact absurd ⟨n, r, hn⟩ h
theorem amRun_of {σ ρ : Type} {f : σ → σ ⊕ Option ρ} {c : σ} {r : ρ} {n : Nat} (h : amN f n c = some r) : amRun f c = some r := by
  rcases amRun_spec f c with ⟨m, r', h', e⟩ | ⟨h', -⟩
  · rw [e]
    have h1 := amN_mono h (Nat.le_max_left n m)
    have h2 := amN_mono h' (Nat.le_max_right n m)
    exact h2.symm.trans h1
  · rw [h' n] at h; cases h
theorem amRun_ex {σ ρ : Type} {f : σ → σ ⊕ Option ρ} {c : σ} {r : ρ} (h : amRun f c = some r) : ∃ n, amN f n c = some r := by
  rcases amRun_spec f c with ⟨m, r', h', e⟩ | ⟨-, e⟩
  · exact ⟨m, by rw [h', ← e, h]⟩
  · rw [e] at h; cases h
theorem amRun_in {σ ρ : Type} {f : σ → σ ⊕ Option ρ} {c c' : σ} (h : f c = .inl c') : amRun f c = amRun f c' := by
  rcases amRun_spec f c' with ⟨m, r, h', e⟩ | ⟨h', e⟩
  · rw [e]
    exact amRun_of (n := m + 1) (by unfold amN; rw [h]; exact h')
  · rw [e]
    rcases amRun_spec f c with ⟨m, r, h2, -⟩ | ⟨-, e2⟩
    · cases m with
      | zero => cases h2
      | succ m => unfold amN at h2; rw [h] at h2; have h3 := (h' m).symm.trans h2; cases h3
    · exact e2
theorem amRun_out {σ ρ : Type} {f : σ → σ ⊕ Option ρ} {c : σ} {r : Option ρ} (h : f c = .inr r) : amRun f c = r := by
  rcases amRun_spec f c with ⟨m, r', h', e⟩ | ⟨h', e⟩
  · cases m with
    | zero => cases h'
    | succ m => unfold amN at h'; rw [h] at h'; rw [e]; exact h'.symm
  · have h1 := h' 1
    unfold amN at h1
    rw [h] at h1
    rw [e]
    exact h1.symm
def amB {σ ρ : Type} (f : σ → σ ⊕ Option ρ) : Nat → σ → σ ⊕ Option ρ
  | 0, c => .inl c
  | n + 1, c => match f c with
    | .inl c' => amB f n c'
    | .inr r => .inr r
noncomputable def amK {σ ρ : Type} (f : σ → σ ⊕ Option ρ) (x : σ ⊕ Option ρ) : Option ρ := match x with
  | .inl c => amRun f c
  | .inr r => r
theorem amRun_B {σ ρ : Type} {f : σ → σ ⊕ Option ρ} : ∀ (k : Nat) (c : σ), amRun f c = amK f (amB f k c)
  | 0, _ => rfl
  | k + 1, c => by
    unfold amB
    cases hf : f c with
    | inl c' => rw [amRun_in hf]; exact amRun_B k c'
    | inr r => rw [amRun_out hf]; rfl
theorem amRun_b {σ ρ : Type} {f : σ → σ ⊕ Option ρ} (k : Nat) {c : σ} {x : σ ⊕ Option ρ} (h : amB f k c = x) : amRun f c = amK f x := h ▸ amRun_B k c
def amT {σ ρ : Type} (f : σ → σ ⊕ Option ρ) : Nat → σ → σ ⊕ Option ρ
  | 0, c => f c
  | n + 1, c => match f c with
    | .inl c' => amT f n c'
    | .inr r => .inr r
theorem amRun_T {σ ρ : Type} {f : σ → σ ⊕ Option ρ} : ∀ (k : Nat) (c : σ), amRun f c = amK f (amT f k c)
  | 0, c => by
    unfold amT
    cases hf : f c with
    | inl c' => rw [amRun_in hf]; rfl
    | inr r => rw [amRun_out hf]; rfl
  | k + 1, c => by
    unfold amT
    cases hf : f c with
    | inl c' => rw [amRun_in hf]; exact amRun_T k c'
    | inr r => rw [amRun_out hf]; rfl
theorem amRun_t {σ ρ : Type} {f : σ → σ ⊕ Option ρ} (k : Nat) {c : σ} {x : σ ⊕ Option ρ} (h : amT f k c = x) : amRun f c = amK f x := h ▸ amRun_T k c
theorem amK_if {σ ρ : Type} {f : σ → σ ⊕ Option ρ} {p : Prop} {ip : Decidable p} {a b : σ ⊕ Option ρ} {A B : Option ρ} (h1 : amK f a = A) (h2 : amK f b = B) : amK f (@ite _ p ip a b) = @ite _ p ip A B := by
  by_cases h : p <;> simp [h, h1, h2]
theorem amK_bif {σ ρ : Type} {f : σ → σ ⊕ Option ρ} {p : Bool} {a b : σ ⊕ Option ρ} {A B : Option ρ} (h1 : amK f a = A) (h2 : amK f b = B) : amK f (bif p then a else b) = bif p then A else B := by
  cases p <;> simp [h1, h2]
/-- what goes on behind a call -/
def amCV {ρ : Type} (o : Option (AmV × AmM)) (f : AmM → Option ρ) : Option ρ := match o with
  | some (.inr (.inr (.inr ())), M') => f M'
  | _ => none
def amCI {ρ : Type} (o : Option (AmV × AmM)) (f : Int → AmM → Option ρ) : Option ρ := match o with
  | some (.inr (.inl r), M') => f r M'
  | _ => none
def amCL {ρ : Type} (o : Option (AmV × AmM)) (f : Int → AmM → Option ρ) : Option ρ := match o with
  | some (.inr (.inr (.inl r)), M') => f r M'
  | _ => none
theorem amCV_s {ρ : Type} {f : AmM → Option ρ} {M : AmM} : amCV (some (vU, M)) f = f M := rfl
theorem amCI_s {ρ : Type} {f : Int → AmM → Option ρ} {r : Int} {M : AmM} : amCI (some (vI r, M)) f = f r M := rfl
theorem amCL_s {ρ : Type} {f : Int → AmM → Option ρ} {r : Int} {M : AmM} : amCL (some (vL r, M)) f = f r M := rfl
theorem amK_pV {f : AmC → AmR} {o : Option (AmV × AmM)} {g : List AmV → AmM → AmR} {T : AmM → Option (AmV × AmM)} (h : ∀ M', amK f (g [] M') = T M') : amK f (amPu 0 o g) = amCV o T := by
  rcases o with _ | ⟨_ | _ | _ | _, M'⟩ <;> first | rfl | exact h M'
theorem amK_pI {f : AmC → AmR} {o : Option (AmV × AmM)} {g : List AmV → AmM → AmR} {T : Int → AmM → Option (AmV × AmM)} (h : ∀ r M', amK f (g [vI r] M') = T r M') : amK f (amPu 1 o g) = amCI o T := by
  rcases o with _ | ⟨_ | r | _ | _, M'⟩ <;> first | rfl | exact h r M'
theorem amK_pL {f : AmC → AmR} {o : Option (AmV × AmM)} {g : List AmV → AmM → AmR} {T : Int → AmM → Option (AmV × AmM)} (h : ∀ r M', amK f (g [vL r] M') = T r M') : amK f (amPu 2 o g) = amCL o T := by
  rcases o with _ | ⟨_ | _ | r | _, M'⟩ <;> first | rfl | exact h r M'
theorem w32_id {x : Int} (h1 : -2147483648 ≤ x) (h2 : x < 2147483648) : w32 x = x := by unfold w32; omega
theorem w64_id {x : Int} (h1 : -9223372036854775808 ≤ x) (h2 : x < 9223372036854775808) : w64 x = x := by unfold w64; omega
theorem w32_i (x : Int) : i32 (w32 x) := by unfold w32 i32; omega
theorem w64_i (x : Int) : i64 (w64 x) := by unfold w64 i64; omega
