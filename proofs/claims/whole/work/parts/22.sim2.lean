/-! what a program checks of each instruction of a method -/
def amLenI : Jvm.ClassFile.Instr → Nat
  | .iload _ => 2 | .lload _ => 2 | .aload _ => 2 | .istore _ => 2 | .lstore _ => 2 | .astore _ => 2 | .bipush _ => 2 | .ldc _ => 2
  | .sipush _ => 3 | .iinc _ _ => 3 | .goto _ => 3 | .ifCond _ _ => 3 | .if_icmp _ _ => 3 | .ifnull _ => 3 | .ifnonnull _ => 3 | .getfield _ => 3 | .putfield _ => 3
  | .invokevirtual _ => 3 | .invokestatic _ => 3 | .ldc_w _ => 3 | .ldc2_w _ => 3 | .invokespecial _ => 3 | .new _ => 3 | .anewarray _ => 3 | .newarray _ => 2
  | _ => 1
def amR (o : Nat) : String := [RX0, RX1, RX2, RX3, RX4, RX5, RX6, RX7, RX8, RX9, RX10, RX11, RX12, RL, RJ6].getD o ""
def amTf (c : Nat) : u_T := [TX0, TX1, TX2, TX3, TX4, TX5, TX6, TX7, TX8, TX9, TX10, TX11, TX12].getD c TX0
def amR32 (z : Int) : Bool := decide (-2147483648 ≤ z) && decide (z < 2147483648)
def amR64 (z : Int) : Bool := decide (-9223372036854775808 ≤ z) && decide (z < 9223372036854775808)
def amQb (lg : List Nat) (k q : Nat) : Bool := q == 1 || (k == 0 || !(lg.contains (k - 1)))
theorem amQb_of {lg : List Nat} {k q : Nat} (h : amQb lg k q = true) : amQ lg k q := by
  unfold amQb at h
  simp only [Bool.or_eq_true, beq_iff_eq, Bool.not_eq_true', List.contains_eq_mem, decide_eq_false_iff_not] at h
  exact h
theorem amR32_of {z : Int} (h : amR32 z = true) : i32 z := by unfold amR32 at h; simp only [Bool.and_eq_true, decide_eq_true_eq] at h; exact h
theorem amR64_of {z : Int} (h : amR64 z = true) : i64 z := by unfold amR64 at h; simp only [Bool.and_eq_true, decide_eq_true_eq] at h; exact h
def amChkI (ConT : List (Nat × Nat × Int)) (ConL : List (Nat × Nat × Int)) (StrT : List (Nat × Nat × Nat)) (FldT MthT : List (Nat × Nat × Nat × Nat)) (Npar : Nat → Nat) (o : Nat) (ret : Option FieldType) (lg : List Nat) (pc : Nat) (i : Jvm.ClassFile.Instr) (nx a b q : Nat) (z : Int) (ts : List Nat) : Bool := match i with
  | .iconst n => decide (n = z) && amR32 z
  | .bipush n => decide ((Int8.ofInt n).toInt32 = Int32.ofInt z) && amR32 z
  | .sipush n => decide ((Int16.ofInt n).toInt32 = Int32.ofInt z) && amR32 z
  | .lconst n => decide (((n : Nat) : Int) = z)
  | .ldc x => (match q with
    | 0 => ConT.contains (o, x, z) && amR32 z
    | _ => StrT.contains (o, x, a))
  | .ldc_w x => ConT.contains (o, x, z) && amR32 z
  | .ldc2_w x => ConL.contains (o, x, z) && amR64 z
  | .iinc k n => decide (n = z) && amQb lg k q
  | .istore k => amQb lg k q
  | .istore_n k => amQb lg k.val q
  | .astore k => amQb lg k q
  | .astore_n k => amQb lg k.val q
  | .lstore k => amQb lg k q && lg.contains k
  | .lstore_n k => amQb lg k.val q && lg.contains k.val
  | .goto off => decide ((pc : Int) + off = (a : Int))
  | .ifCond _ off => decide ((pc : Int) + off = (a : Int))
  | .if_icmp _ off => decide ((pc : Int) + off = (a : Int))
  | .ifnull off => decide ((pc : Int) + off = (a : Int))
  | .ifnonnull off => decide ((pc : Int) + off = (a : Int))
  | .tableswitch d lo hi offs => decide ((pc : Int) + d = (a : Int)) && (decide (lo = z) && (decide (hi = z + (ts.length : Int) - 1) && (amR32 z && (amR32 hi && (decide (offs.toList.length = ts.length) && (List.range ts.length).all (fun j => decide ((pc : Int) + offs.toList.getD j 0 = ((ts.getD j 0 : Nat) : Int))))))))
  | .getfield x => FldT.contains (o, x, a, b) && (decide (a < 13) && (decide (b < (amFkL.getD a []).length) && decide (q = (amFkL.getD a []).getD b 0)))
  | .putfield x => FldT.contains (o, x, a, b) && (decide (a < 13) && (decide (b < (amFkL.getD a []).length) && (decide (q = (amFkL.getD a []).getD b 0) && (decide ((amTf a b).2.2.2 = false) && (decide (q = 0 ∧ (amTf a b).2.2.1 = "I") || decide (q = 3 ∧ (amTf a b).2.2.1 = "Z"))))))
  | .invokevirtual x => (match q with
    | 1 => (MthT.contains (o, x, a, 0) || MthT.contains (o, x, a, 1)) && decide (b = Npar a + 1)
    | 9 => MthT.contains (o, x, 1009, 9)
    | 10 => MthT.contains (o, x, 1010, 9)
    | 11 => MthT.contains (o, x, 1011, 9)
    | _ => false)
  | .invokestatic x => (match q with
    | 0 => (MthT.contains (o, x, a, 2) || MthT.contains (o, x, a, 3)) && decide (b = Npar a)
    | 5 => MthT.contains (o, x, 1005, 9)
    | 6 => MthT.contains (o, x, 1006, 9)
    | 7 => MthT.contains (o, x, 1007, 9)
    | _ => false)
  | .ireturn => (match q with
    | 0 => decide (ret = some .int)
    | _ => decide (ret = some .boolean))
  | .lreturn => decide (ret = some .long)
  | .return_ => decide (ret = none)
  | _ => true
section AmS
variable {p : Program} {l : Launch} {e : Env} {R : Room} {s : State} {m : MethodId} {args : Array Value} {below : List Frame} {meth : Method} {c : Code} {cells slots : Nat} {Q : State → Prop}
variable {cc : ByteArray} {Z : AmZ} {nL : Nat} {lg : List Nat} {L st : List AmV} {M : AmM} {ls : Array Slot} {H : Heap} {locs : List Loc} {pc : Nat}
/-- what is to be shown behind an instruction -/
def amGo (p : Program) (l : Launch) (e : Env) (R : Room) (s : State) (m : MethodId) (args : Array Value) (below : List Frame) (meth : Method) (c : Code) (cells slots : Nat) (Q : State → Prop) (Z : AmZ) (nL : Nat) (lg : List Nat) (n : AmC) : Prop :=
  ∀ (ls : Array Slot) (H : Heap) (locs : List Loc), amRel Z s.heap nL lg n.2.1 n.2.2.1 n.2.2.2 ls H locs → W p l e R s m args below meth c H locs cells slots Q (F0 m n.1 ls (n.2.2.1.map (amV (zAd Z))))
theorem am_bin {f : Int → Int → Int} {g : Int32 → Int32 → Int32} {c' : AmC} {nx : Nat} {o : AmR} (ho : o = .inl c')
    (h : o = (match st with
      | .inr (.inl y) :: .inr (.inl x) :: st' => (.inl (nx, L, vI (f x y) :: st', M) : AmR)
      | _ => amNo))
    (hfg : ∀ x y, i32 x → i32 y → Int32.ofInt (f x y) = g (Int32.ofInt x) (Int32.ofInt y)) (hf : ∀ x y, i32 x → i32 y → i32 (f x y))
    (row : ∀ (x y : Int32) (rest : List Value), W p l e R s m args below meth c H locs cells slots Q (F0 m nx ls (.int (g x y) :: rest)) → W p l e R s m args below meth c H locs cells slots Q (F0 m pc ls (.int y :: .int x :: rest)))
    (hr : amRel Z s.heap nL lg L st M ls H locs) (kk : amGo p l e R s m args below meth c cells slots Q Z nL lg c') : W p l e R s m args below meth c H locs cells slots Q (F0 m pc ls (st.map (amV (zAd Z)))) := by
  subst ho
  split at h
  · rename_i y x st'
    cases h
    have h1 : i32 y := hr.top (v := vI y) (by simp)
    have h2 : i32 x := hr.top (v := vI x) (by simp)
    refine row (Int32.ofInt x) (Int32.ofInt y) (st'.map (amV (zAd Z))) ?_
    rw [← hfg x y h2 h1]
    refine kk ls H locs (hr.st fun v hv => ?_)
    rcases List.mem_cons.mp hv with rfl | hv
    · exact ⟨hf x y h2 h1, trivial⟩
    · exact hr.2.2.2.2.1 v (by simp [hv])
  · cases h
theorem am_lbin {f : Int → Int → Int} {g : Int64 → Int64 → Int64} {c' : AmC} {nx : Nat} {o : AmR} (ho : o = .inl c')
    (h : o = (match st with
      | .inr (.inr (.inl y)) :: .inr (.inr (.inl x)) :: st' => (.inl (nx, L, vL (f x y) :: st', M) : AmR)
      | _ => amNo))
    (hfg : ∀ x y, i64 x → i64 y → Int64.ofInt (f x y) = g (Int64.ofInt x) (Int64.ofInt y)) (hf : ∀ x y, i64 x → i64 y → i64 (f x y))
    (row : ∀ (x y : Int64) (rest : List Value), W p l e R s m args below meth c H locs cells slots Q (F0 m nx ls (.long (g x y) :: rest)) → W p l e R s m args below meth c H locs cells slots Q (F0 m pc ls (.long y :: .long x :: rest)))
    (hr : amRel Z s.heap nL lg L st M ls H locs) (kk : amGo p l e R s m args below meth c cells slots Q Z nL lg c') : W p l e R s m args below meth c H locs cells slots Q (F0 m pc ls (st.map (amV (zAd Z)))) := by
  subst ho
  split at h
  · rename_i y x st'
    cases h
    have h1 : i64 y := hr.top (v := vL y) (by simp)
    have h2 : i64 x := hr.top (v := vL x) (by simp)
    refine row (Int64.ofInt x) (Int64.ofInt y) (st'.map (amV (zAd Z))) ?_
    rw [← hfg x y h2 h1]
    refine kk ls H locs (hr.st fun v hv => ?_)
    rcases List.mem_cons.mp hv with rfl | hv
    · exact ⟨hf x y h2 h1, trivial⟩
    · exact hr.2.2.2.2.1 v (by simp [hv])
  · cases h
theorem am_un {f : Int → Int} {g : Int32 → Int32} {c' : AmC} {nx : Nat} {o : AmR} (ho : o = .inl c')
    (h : o = (match st with
      | .inr (.inl x) :: st' => (.inl (nx, L, vI (f x) :: st', M) : AmR)
      | _ => amNo))
    (hfg : ∀ x, i32 x → Int32.ofInt (f x) = g (Int32.ofInt x)) (hf : ∀ x, i32 x → i32 (f x))
    (row : ∀ (x : Int32) (rest : List Value), W p l e R s m args below meth c H locs cells slots Q (F0 m nx ls (.int (g x) :: rest)) → W p l e R s m args below meth c H locs cells slots Q (F0 m pc ls (.int x :: rest)))
    (hr : amRel Z s.heap nL lg L st M ls H locs) (kk : amGo p l e R s m args below meth c cells slots Q Z nL lg c') : W p l e R s m args below meth c H locs cells slots Q (F0 m pc ls (st.map (amV (zAd Z)))) := by
  subst ho
  split at h
  · rename_i x st'
    cases h
    have h2 : i32 x := hr.top (v := vI x) (by simp)
    refine row (Int32.ofInt x) (st'.map (amV (zAd Z))) ?_
    rw [← hfg x h2]
    refine kk ls H locs (hr.st fun v hv => ?_)
    rcases List.mem_cons.mp hv with rfl | hv
    · exact ⟨hf x h2, trivial⟩
    · exact hr.2.2.2.2.1 v (by simp [hv])
  · cases h
/-- a push -/
theorem am_push {v : AmV} {nx : Nat} (hv : amOk (zAl Z) v ∧ amSet v) (row : W p l e R s m args below meth c H locs cells slots Q (F0 m nx ls (amV (zAd Z) v :: st.map (amV (zAd Z)))) → W p l e R s m args below meth c H locs cells slots Q (F0 m pc ls (st.map (amV (zAd Z)))))
    (hr : amRel Z s.heap nL lg L st M ls H locs) (kk : amGo p l e R s m args below meth c cells slots Q Z nL lg (nx, L, v :: st, M)) : W p l e R s m args below meth c H locs cells slots Q (F0 m pc ls (st.map (amV (zAd Z)))) :=
  row (kk ls H locs (hr.st fun w hw => by
    rcases List.mem_cons.mp hw with rfl | hw
    · exact hv
    · exact hr.2.2.2.2.1 w hw))
theorem am_loI {c' : AmC} {nx k : Nat} (h : amLoI L st M nx k = .inl c') (row : ∀ x : Int32, ls[k]? = some (.val (.int x)) → W p l e R s m args below meth c H locs cells slots Q (F0 m nx ls (.int x :: st.map (amV (zAd Z)))) → W p l e R s m args below meth c H locs cells slots Q (F0 m pc ls (st.map (amV (zAd Z)))))
    (hr : amRel Z s.heap nL lg L st M ls H locs) (kk : amGo p l e R s m args below meth c cells slots Q Z nL lg c') : W p l e R s m args below meth c H locs cells slots Q (F0 m pc ls (st.map (amV (zAd Z)))) := by
  unfold amLoI at h
  split at h
  · rename_i x hx
    cases h
    obtain ⟨g1, g2⟩ := hr.get hx trivial
    exact am_push (v := vI x) ⟨g2, trivial⟩ (row _ g1) hr kk
  · cases h
theorem am_loL {c' : AmC} {nx k : Nat} (h : amLoL L st M nx k = .inl c') (row : ∀ x : Int64, ls[k]? = some (.val (.long x)) → W p l e R s m args below meth c H locs cells slots Q (F0 m nx ls (.long x :: st.map (amV (zAd Z)))) → W p l e R s m args below meth c H locs cells slots Q (F0 m pc ls (st.map (amV (zAd Z)))))
    (hr : amRel Z s.heap nL lg L st M ls H locs) (kk : amGo p l e R s m args below meth c cells slots Q Z nL lg c') : W p l e R s m args below meth c H locs cells slots Q (F0 m pc ls (st.map (amV (zAd Z)))) := by
  unfold amLoL at h
  split at h
  · rename_i x hx
    cases h
    obtain ⟨g1, g2⟩ := hr.get hx trivial
    exact am_push (v := vL x) ⟨g2, trivial⟩ (row _ g1) hr kk
  · cases h
theorem am_loA {c' : AmC} {nx k : Nat} (h : amLoA L st M nx k = .inl c') (row : ∀ x : Nat, ls[k]? = some (.val (.ref x)) → W p l e R s m args below meth c H locs cells slots Q (F0 m nx ls (.ref x :: st.map (amV (zAd Z)))) → W p l e R s m args below meth c H locs cells slots Q (F0 m pc ls (st.map (amV (zAd Z)))))
    (hr : amRel Z s.heap nL lg L st M ls H locs) (kk : amGo p l e R s m args below meth c cells slots Q Z nL lg c') : W p l e R s m args below meth c H locs cells slots Q (F0 m pc ls (st.map (amV (zAd Z)))) := by
  unfold amLoA at h
  split at h
  · rename_i x hx
    cases h
    obtain ⟨g1, g2⟩ := hr.get hx trivial
    obtain ⟨k1, c1, s1⟩ := x
    exact am_push (v := vR k1 c1 s1) ⟨g2, trivial⟩ (row _ g1) hr kk
  · cases h
theorem am_stI {c' : AmC} {nx k q : Nat} (h : amStoI L st M nx k q = .inl c') (hq : amQ lg k q)
    (row : ∀ (x : Int32) (rest : List Value) (lv lv' : List (Nat × Value)), lv_has ls nL lv → k < nL → (k, Value.int x) :: lv.filter (fun q => !(q.1 == k) && !(q.1 + 1 == k && q.2.category == 2)) = lv' → (∀ ls' : Array Slot, lv_has ls' nL lv' → W p l e R s m args below meth c H locs cells slots Q (F0 m nx ls' rest)) → W p l e R s m args below meth c H locs cells slots Q (F0 m pc ls (.int x :: rest)))
    (hr : amRel Z s.heap nL lg L st M ls H locs) (kk : amGo p l e R s m args below meth c cells slots Q Z nL lg c') : W p l e R s m args below meth c H locs cells slots Q (F0 m pc ls (st.map (amV (zAd Z)))) := by
  unfold amStoI at h
  split at h
  · rename_i x st'
    cases hk : Nat.blt k L.length with
    | false => rw [hk] at h; cases h
    | true =>
      rw [hk] at h
      cases h
      have hk2 : k < nL := by rw [← hr.2.1]; exact Nat.le_of_ble_eq_true hk
      refine row (Int32.ofInt x) (st'.map (amV (zAd Z))) _ _ hr.has hk2 rfl fun ls' hl => ?_
      exact kk ls' H locs (hr.sto (v := vI x) (hr.top (v := vI x) (by simp)) rfl hk2 hq (fun v hv => by simp [hv]) hl)
  · cases h
theorem am_stA {c' : AmC} {nx k q : Nat} (h : amStoA L st M nx k q = .inl c') (hq : amQ lg k q)
    (row : ∀ (x : Nat) (rest : List Value) (lv lv' : List (Nat × Value)), lv_has ls nL lv → k < nL → (k, Value.ref x) :: lv.filter (fun q => !(q.1 == k) && !(q.1 + 1 == k && q.2.category == 2)) = lv' → (∀ ls' : Array Slot, lv_has ls' nL lv' → W p l e R s m args below meth c H locs cells slots Q (F0 m nx ls' rest)) → W p l e R s m args below meth c H locs cells slots Q (F0 m pc ls (.ref x :: rest)))
    (hr : amRel Z s.heap nL lg L st M ls H locs) (kk : amGo p l e R s m args below meth c cells slots Q Z nL lg c') : W p l e R s m args below meth c H locs cells slots Q (F0 m pc ls (st.map (amV (zAd Z)))) := by
  unfold amStoA at h
  split at h
  · rename_i x st'
    obtain ⟨k1, c1, s1⟩ := x
    cases hk : Nat.blt k L.length with
    | false => rw [hk] at h; cases h
    | true =>
      rw [hk] at h
      cases h
      have hk2 : k < nL := by rw [← hr.2.1]; exact Nat.le_of_ble_eq_true hk
      refine row (zAd Z c1 s1) (st'.map (amV (zAd Z))) _ _ hr.has hk2 rfl fun ls' hl => ?_
      exact kk ls' H locs (hr.sto (v := vR k1 c1 s1) (hr.top (v := vR k1 c1 s1) (by simp)) rfl hk2 hq (fun v hv => by simp [hv]) hl)
  · cases h
theorem am_stL {c' : AmC} {nx k q : Nat} (h : amStoL L st M nx k q = .inl c') (hq : amQ lg k q) (hkl : k ∈ lg)
    (row : ∀ (x : Int64) (rest : List Value) (lv lv' : List (Nat × Value)), lv_has ls nL lv → k + 1 < nL → (k, Value.long x) :: lv.filter (fun q => !(q.1 == k) && (!(q.1 == k + 1) && !(q.1 + 1 == k && q.2.category == 2))) = lv' → (∀ ls' : Array Slot, lv_has ls' nL lv' → W p l e R s m args below meth c H locs cells slots Q (F0 m nx ls' rest)) → W p l e R s m args below meth c H locs cells slots Q (F0 m pc ls (.long x :: rest)))
    (hr : amRel Z s.heap nL lg L st M ls H locs) (kk : amGo p l e R s m args below meth c cells slots Q Z nL lg c') : W p l e R s m args below meth c H locs cells slots Q (F0 m pc ls (st.map (amV (zAd Z)))) := by
  unfold amStoL at h
  split at h
  · rename_i x st'
    cases hk : Nat.blt (k + 1) L.length with
    | false => rw [hk] at h; cases h
    | true =>
      rw [hk] at h
      cases h
      have hk2 : k + 1 < nL := by rw [← hr.2.1]; exact Nat.le_of_ble_eq_true hk
      refine row (Int64.ofInt x) (st'.map (amV (zAd Z))) _ _ hr.has hk2 rfl fun ls' hl => ?_
      exact kk ls' H locs (hr.sto2 (hr.top (v := vL x) (by simp)) hk2 hkl hq (fun v hv => by simp [hv]) hl)
  · cases h
theorem am_if {C : Prop} {iC : Decidable C} {A B : AmC} {c' : AmC} (h : (@ite AmR C iC (.inl A) (.inl B)) = .inl c') : (C ∧ c' = A) ∨ (¬ C ∧ c' = B) := by
  by_cases hC : C
  · rw [if_pos hC] at h; cases h; exact Or.inl ⟨hC, rfl⟩
  · rw [if_neg hC] at h; cases h; exact Or.inr ⟨hC, rfl⟩
end AmS
