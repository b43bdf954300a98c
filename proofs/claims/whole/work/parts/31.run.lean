theorem amMax_w : Jvm.Cond.static Lib.Math.max.name ∈ amT0 ∧ Jvm.Cond.initialized "java/lang/Math" ∈ amT0 ∧ Jvm.Cond.code Lib.Math.max.name Lib.Math.max.code 2 (some .int) ∈ amT0 := ⟨amIn0 765 (by decide +kernel) (by decide +kernel), amIn0 185 (by decide +kernel) (by decide +kernel), amIn0 766 (by decide +kernel) (by decide +kernel)⟩
theorem amMin_w : Jvm.Cond.static Lib.Math.min.name ∈ amT0 ∧ Jvm.Cond.code Lib.Math.min.name Lib.Math.min.code 2 (some .int) ∈ amT0 := ⟨amIn0 768 (by decide +kernel) (by decide +kernel), amIn0 769 (by decide +kernel) (by decide +kernel)⟩
theorem amCpy_w : Jvm.Cond.native arraycopyName ∈ amT0 ∧ Jvm.Cond.static arraycopyName ∈ amT0 ∧ Jvm.Cond.initialized "java/lang/System" ∈ amT0 := ⟨amIn0 930 (by decide +kernel) (by decide +kernel), amIn0 929 (by decide +kernel) (by decide +kernel), amIn0 187 (by decide +kernel) (by decide +kernel)⟩
theorem amNfw : nativeFrameWords "java/lang/System" "arraycopy" 5 = 7 := by decide +kernel
section AmSR
variable {p : Program} {l : Launch} {e : Env} {R : Room} {s : State} {m : MethodId} {args : Array Value} {below : List Frame} {meth : Method} {c : Code} {cells slots : Nat} {Q : State → Prop}
variable {cc : ByteArray} {Z : AmZ} {nL : Nat} {lg : List Nat} {L st : List AmV} {M : AmM} {ls : Array Slot} {H : Heap} {locs : List Loc} {pc : Nat}
variable {o : Nat} {ret : Option FieldType} {cal : Nat → List AmV → AmM → Option (AmV × AmM)} {nx a b q : Nat} {z : Int} {ts : List Nat} {c' : AmC}
theorem am_max {x : Nat} (S : CallFix p m c cc nL s args amT0 (amR o)) (hR : 1 ≤ R.frames ∧ 31 ≤ R.locals ∧ cells ≤ R.cells ∧ slots ≤ R.slots) (hd : decode cc pc = .ok (.invokestatic x, 3))
    (e1 : (o, x, 1005, 9) ∈ amMthT) (h : amInv cal (pc + 3) a b 5 z L st M = .inl c')
    (hr : amRel Z s.heap nL lg L st M ls H locs) (kk : amGo p l e R s m args below meth c cells slots Q Z nL lg c') : W p l e R s m args below meth c H locs cells slots Q (F0 m pc ls (st.map (amV (zAd Z)))) := by
  obtain ⟨hx, hb, hml, hown, hts⟩ := S
  have h2 : (match st with
    | .inr (.inl y) :: .inr (.inl x) :: st' => (bif Nat.ble (amCat st') 8 then .inl (pc + 3, L, vI (amMax x y) :: st', M) else amNo : AmR)
    | _ => amNo) = .inl c' := h
  split at h2
  · rename_i y x1 st'
    cases hb2 : Nat.ble (amCat st') 8 with
    | false => rw [hb2] at h2; cases h2
    | true =>
      rw [hb2] at h2
      have f3 := Nat.le_of_ble_eq_true hb2
      cases h2
      have hy : i32 y := hr.top (v := vI y) (by simp)
      have hxx : i32 x1 := hr.top (v := vI x1) (by simp)
      have l1 : Jvm.Cond.methodLink (amR o) x Lib.Math.max.name ∈ amT0 := amMth_ok _ e1
      refine va_mmax hx hb (hml.trans hr.1.1.symm) hown (hts _ l1) (hts _ amMax_w.1) (hts _ amMax_w.2.1) (hts _ amMax_w.2.2) hR.1 (by rw [amCat_eq]; omega) hR.2.2.1 hR.2.2.2 hd ?_
      have ev : (if Int32.ofInt x1 < Int32.ofInt y then Int32.ofInt y else Int32.ofInt x1) = Int32.ofInt (amMax x1 y) := by
        unfold amMax
        by_cases hlt : x1 < y
        · rw [if_pos hlt, if_pos ((of_lt hxx hy).mpr hlt)]
        · rw [if_neg hlt, if_neg (fun k => hlt ((of_lt hxx hy).mp k))]
      rw [ev]
      refine kk ls H locs (hr.st fun v hv => ?_)
      rcases List.mem_cons.mp hv with rfl | hv
      · refine ⟨?_, trivial⟩
        show i32 (amMax x1 y)
        unfold amMax; split
        · exact hy
        · exact hxx
      · exact hr.2.2.2.2.1 v (by simp [hv])
  · cases h2
theorem am_min {x : Nat} (S : CallFix p m c cc nL s args amT0 (amR o)) (hR : 1 ≤ R.frames ∧ 31 ≤ R.locals ∧ cells ≤ R.cells ∧ slots ≤ R.slots) (hd : decode cc pc = .ok (.invokestatic x, 3))
    (e1 : (o, x, 1006, 9) ∈ amMthT) (h : amInv cal (pc + 3) a b 6 z L st M = .inl c')
    (hr : amRel Z s.heap nL lg L st M ls H locs) (kk : amGo p l e R s m args below meth c cells slots Q Z nL lg c') : W p l e R s m args below meth c H locs cells slots Q (F0 m pc ls (st.map (amV (zAd Z)))) := by
  obtain ⟨hx, hb, hml, hown, hts⟩ := S
  have h2 : (match st with
    | .inr (.inl y) :: .inr (.inl x) :: st' => (bif Nat.ble (amCat st') 8 then .inl (pc + 3, L, vI (amMin x y) :: st', M) else amNo : AmR)
    | _ => amNo) = .inl c' := h
  split at h2
  · rename_i y x1 st'
    cases hb2 : Nat.ble (amCat st') 8 with
    | false => rw [hb2] at h2; cases h2
    | true =>
      rw [hb2] at h2
      have f3 := Nat.le_of_ble_eq_true hb2
      cases h2
      have hy : i32 y := hr.top (v := vI y) (by simp)
      have hxx : i32 x1 := hr.top (v := vI x1) (by simp)
      have l1 : Jvm.Cond.methodLink (amR o) x Lib.Math.min.name ∈ amT0 := amMth_ok _ e1
      refine va_mmin hx hb (hml.trans hr.1.1.symm) hown (hts _ l1) (hts _ amMin_w.1) (hts _ amMax_w.2.1) (hts _ amMin_w.2) hR.1 (by rw [amCat_eq]; omega) hR.2.2.1 hR.2.2.2 hd ?_
      have ev : (if Int32.ofInt y < Int32.ofInt x1 then Int32.ofInt y else Int32.ofInt x1) = Int32.ofInt (amMin x1 y) := by
        unfold amMin
        by_cases hlt : y < x1
        · rw [if_pos hlt, if_pos ((of_lt hy hxx).mpr hlt)]
        · rw [if_neg hlt, if_neg (fun k => hlt ((of_lt hy hxx).mp k))]
      rw [ev]
      refine kk ls H locs (hr.st fun v hv => ?_)
      rcases List.mem_cons.mp hv with rfl | hv
      · refine ⟨?_, trivial⟩
        show i32 (amMin x1 y)
        unfold amMin; split
        · exact hy
        · exact hxx
      · exact hr.2.2.2.2.1 v (by simp [hv])
  · cases h2
theorem am_cpy {x : Nat} (S : CallFix p m c cc nL s args amT0 (amR o)) (hK : amKS Z s) (hfx : amFx Z) (hR : 1 ≤ R.frames ∧ 31 ≤ R.locals ∧ cells ≤ R.cells ∧ slots ≤ R.slots) (hd : decode cc pc = .ok (.invokestatic x, 3))
    (e1 : (o, x, 1007, 9) ∈ amMthT) (h : amInv cal (pc + 3) a b 7 z L st M = .inl c')
    (hr : amRel Z s.heap nL lg L st M ls H locs) (kk : amGo p l e R s m args below meth c cells slots Q Z nL lg c') : W p l e R s m args below meth c H locs cells slots Q (F0 m pc ls (st.map (amV (zAd Z)))) := by
  obtain ⟨hx, hb, hml, hown, hts⟩ := S
  have h2 : (match st with
    | .inr (.inl n) :: .inr (.inl dp) :: .inl (some (k1, c1, s1)) :: .inr (.inl sp) :: .inl (some (k0, c0, s0)) :: st' =>
      (bif Nat.ble (amCat st') 8 && (k1 == 20 && (k0 == 20 && (!(c1 == 90) && !(c0 == 90)))) then (if 0 ≤ sp ∧ 0 ≤ dp ∧ 0 ≤ n ∧ sp + n ≤ (amLd M c0 : Int) ∧ dp + n ≤ (amLd M c1 : Int) then .inl (pc + 3, L, st', amCpy M c0 s0 sp c1 s1 dp n) else amNo) else amNo : AmR)
    | _ => amNo) = .inl c' := h
  split at h2
  · rename_i n dp k1 c1 s1 sp k0 c0 s0 st'
    cases hb2 : (Nat.ble (amCat st') 8 && (k1 == 20 && (k0 == 20 && (!(c1 == 90) && !(c0 == 90))))) with
    | false => rw [hb2] at h2; cases h2
    | true =>
      rw [hb2] at h2
      simp only [Bool.and_eq_true, beq_iff_eq, Bool.not_eq_true', beq_eq_false_iff_ne] at hb2
      obtain ⟨f3, rfl, rfl, n1, n0⟩ := hb2
      have f3 := Nat.le_of_ble_eq_true f3
      by_cases hin : 0 ≤ sp ∧ 0 ≤ dp ∧ 0 ≤ n ∧ sp + n ≤ (amLd M c0 : Int) ∧ dp + n ≤ (amLd M c1 : Int)
      · have h3 : (.inl (pc + 3, L, st', amCpy M c0 s0 sp c1 s1 dp n) : AmR) = .inl c' := by rw [← h2]; exact (if_pos hin).symm
        cases h3
        obtain ⟨i1, i2, i3, i4, i5⟩ := hin
        have hn : i32 n := hr.top (v := vI n) (by simp)
        have hdp : i32 dp := hr.top (v := vI dp) (by simp)
        have hsp : i32 sp := hr.top (v := vI sp) (by simp)
        have hok1 := hr.top (v := vR 20 c1 s1) (by simp)
        have hok0 := hr.top (v := vR 20 c0 s0) (by simp)
        obtain ⟨hmem1, h131, hkn1, p1, hp1, hw1⟩ := am_arr hr hfx hok1 (by omega) n1
        obtain ⟨hmem0, h130, hkn0, p0, hp0, hw0⟩ := am_arr hr hfx hok0 (by omega) n0
        rw [amArr_i hkn1 (Or.inl rfl)] at hw1
        rw [amArr_i hkn0 (Or.inl rfl)] at hw0
        rw [amLd_n n0] at i4
        rw [amLd_n n1] at i5
        have l1 : Jvm.Cond.methodLink (amR o) x arraycopyName ∈ amT0 := amMth_ok _ e1
        have ng : ∀ y : Int, i32 y → 0 ≤ y → ¬ Int32.ofInt y < 0 := fun y hy h0 k => by
          have := (of_lt hy (y := 0) am_0).mp k
          omega
        have en : ∀ c' s', ¬ (c' = c1 ∧ s' = s1) → amCpy M c0 s0 sp c1 s1 dp n c' s' = M c' s' := fun c' s' hne => by
          funext j
          unfold amCpy
          rw [if_neg (fun k => hne ⟨k.1, k.2.1⟩)]
        have eq : va_cpy (fun j => Int32.ofInt (M c0 s0 j)) (fun j => Int32.ofInt (M c1 s1 j)) sp.toNat dp.toNat n.toNat = fun j => Int32.ofInt (amCpy M c0 s0 sp c1 s1 dp n c1 s1 j) := by
          funext j
          unfold va_cpy amCpy
          by_cases hj : dp ≤ (j : Int) ∧ (j : Int) < dp + n
          · rw [if_pos (by omega), if_pos ⟨rfl, rfl, hj.1, hj.2⟩, show sp.toNat + (j - dp.toNat) = (sp + ((j : Int) - dp)).toNat by omega]
          · rw [if_neg (by omega), if_neg (fun k => hj ⟨k.2.2.1, k.2.2.2⟩)]
        have hset := amW_set (Z := Z) (M := M) (M' := amCpy M c0 s0 sp c1 s1 dp n) (x := .inl (zC Z 20, amLenL.getD c1 0, .inl (va_cpy (fun j => Int32.ofInt (M c0 s0 j)) (fun j => Int32.ofInt (M c1 s1 j)) sp.toNat dp.toNat n.toNat))) hfx.1 hp1 en (by
          unfold amCell
          rw [if_neg h131, hkn1, amArr_i hkn1 (Or.inl rfl), eq])
        refine va_copyi (D := zD Z) hx hb (hml.trans hr.1.1.symm) hown (hts _ l1) (hts _ amCpy_w.1) (hts _ amCpy_w.2.1) (hts _ amCpy_w.2.2) hK.1 hr.2.2.2.2.2.1 hr.2.2.2.2.2.2.1 hr.2.2.2.2.2.2.2.1 p0 p1 0 0 hw0 hw1 rfl rfl rfl (ng sp hsp i1) (ng dp hdp i2) (ng n hn i3) (by rw [of_cl hsp, of_cl hn]; omega) (by rw [of_cl hdp, of_cl hn]; omega) (fun _ _ => rfl) hR.1 (by rw [amCat_eq, amNfw]; omega) hd fun H1 locs1 g1 g2 g3 => ?_
        rw [of_cl hsp, of_cl hdp, of_cl hn, hset] at g1 g2
        refine kk ls H1 locs1 ⟨hr.1, hr.2.1, hr.2.2.1, hr.2.2.2.1, fun v hv => hr.2.2.2.2.1 v (by simp [hv]), g1, g2, g3, ?_, ?_⟩
        · intro c' s' j
          have hI := hr.2.2.2.2.2.2.2.2.1
          show (_ → i32 (amCpy M c0 s0 sp c1 s1 dp n c' s' j)) ∧ i64 (amCpy M c0 s0 sp c1 s1 dp n c' s' j)
          unfold amCpy
          split
          · exact ⟨fun _ => (hI c0 s0 _).1 (by rw [hkn0]; omega), (hI c0 s0 _).2⟩
          · exact hI c' s' j
        · have hXX := hr.2.2.2.2.2.2.2.2.2
          refine ⟨?_, fun k hk => ?_⟩
          · show amCpy M c0 s0 sp c1 s1 dp n 90 1 0 = _
            rw [en 90 1 (by omega)]; exact hXX.1
          · show amCpy M c0 s0 sp c1 s1 dp n 90 0 k = _
            rw [en 90 0 (by omega)]; exact hXX.2 k hk
      · have h3 : amNo = .inl c' := by rw [← h2]; exact (if_neg hin).symm
        cases h3
  · cases h2
end AmSR
