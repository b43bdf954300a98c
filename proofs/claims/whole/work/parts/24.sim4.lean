section AmS4
variable {p : Program} {l : Launch} {e : Env} {R : Room} {s : State} {m : MethodId} {args : Array Value} {below : List Frame} {meth : Method} {c : Code} {cells slots : Nat} {Q : State → Prop}
variable {cc : ByteArray} {Z : AmZ} {nL : Nat} {lg : List Nat} {L st : List AmV} {M : AmM} {ls : Array Slot} {H : Heap} {locs : List Loc} {pc : Nat}
variable {ConT ConL : List (Nat × Nat × Int)} {StrT : List (Nat × Nat × Nat)} {FldT MthT : List (Nat × Nat × Nat × Nat)} {Npar : Nat → Nat} {o : Nat} {ret : Option FieldType} {cal : Nat → List AmV → AmM → Option (AmV × AmM)} {nx a b q : Nat} {z : Int} {ts : List Nat} {c' : AmC}
theorem am_0 : i32 0 := by unfold i32; omega
/-- the jumps -/
def amIsB : Jvm.ClassFile.Instr → Bool
  | .ifCond _ _ => true | .if_icmp _ _ => true | .ifnull _ => true | .ifnonnull _ => true | .tableswitch _ _ _ _ => true
  | _ => false
theorem am_simB {i : Jvm.ClassFile.Instr} {len : Nat} (hi : amIsB i = true) (hx : p.tables.exec = Jvm.exec) (hb : c.code = cc) (hd : decode cc pc = .ok (i, len)) (hn : (∀ d lo hi of, i ≠ .tableswitch d lo hi of) → len = 3 ∧ nx = pc + 3)
    (hc : amChkI ConT ConL StrT FldT MthT Npar o ret lg pc i nx a b q z ts = true) (h : amEx (zG Z) cal i nx a b q z ts L st M = .inl c')
    (hr : amRel Z s.heap nL lg L st M ls H locs) (kk : amGo p l e R s m args below meth c cells slots Q Z nL lg c') : W p l e R s m args below meth c H locs cells slots Q (F0 m pc ls (st.map (amV (zAd Z)))) := by
  cases i <;> first | (cases hi; done) | skip
  case ifCond cnd off =>
    obtain ⟨rfl, rfl⟩ := hn (fun _ _ _ _ h => by cases h)
    have ht : (pc : Int) + off = (a : Int) := of_decide_eq_true hc
    have h2 : (match st with
      | .inr (.inl x) :: st' => (amIf cnd x 0 (.inl (a, L, st', M)) (.inl (pc + 3, L, st', M)) : AmR)
      | _ => amNo) = .inl c' := h
    split at h2
    · rename_i x st'
      have hxx : i32 x := hr.top (v := vI x) (by simp)
      have hs : ∀ v ∈ st', amOk (zAl Z) v ∧ amSet v := fun v hv => hr.2.2.2.2.1 v (by simp [hv])
      have e0 : Int32.ofInt x = 0 ↔ x = 0 := of_eq hxx (y := 0) am_0
      have l0 : Int32.ofInt x < 0 ↔ x < 0 := of_lt hxx (y := 0) am_0
      have g0 : 0 < Int32.ofInt x ↔ 0 < x := of_lt (x := 0) am_0 hxx
      have n1 : 0 ≤ Int32.ofInt x ↔ ¬ x < 0 := by rw [show (0 : Int32) ≤ Int32.ofInt x ↔ 0 ≤ x from of_le (x := 0) am_0 hxx]; omega
      have n2 : Int32.ofInt x ≤ 0 ↔ ¬ 0 < x := by rw [show Int32.ofInt x ≤ (0 : Int32) ↔ x ≤ 0 from of_le hxx (y := 0) am_0]; omega
      cases cnd
      · rcases am_if h2 with ⟨hC, rfl⟩ | ⟨hC, rfl⟩
        · exact lv_if_eq hx hb hd ht (fun _ => kk ls H locs (hr.st hs)) (fun k => absurd (e0.mpr hC) k)
        · exact lv_if_eq hx hb hd ht (fun k => absurd (e0.mp k) hC) (fun _ => kk ls H locs (hr.st hs))
      · rcases am_if h2 with ⟨hC, rfl⟩ | ⟨hC, rfl⟩
        · exact lv_if_ne hx hb hd ht (fun k => absurd (e0.mpr hC) k) (fun _ => kk ls H locs (hr.st hs))
        · exact lv_if_ne hx hb hd ht (fun _ => kk ls H locs (hr.st hs)) (fun k => absurd (e0.mp k) hC)
      · rcases am_if h2 with ⟨hC, rfl⟩ | ⟨hC, rfl⟩
        · exact lv_if_lt hx hb hd ht (fun _ => kk ls H locs (hr.st hs)) (fun k => absurd (l0.mpr hC) k)
        · exact lv_if_lt hx hb hd ht (fun k => absurd (l0.mp k) hC) (fun _ => kk ls H locs (hr.st hs))
      · rcases am_if h2 with ⟨hC, rfl⟩ | ⟨hC, rfl⟩
        · exact lv_if_ge hx hb hd ht (fun k => absurd hC (by first | exact n1.mp k | (rw [l0] at k; exact k))) (fun _ => kk ls H locs (hr.st hs))
        · exact lv_if_ge hx hb hd ht (fun _ => kk ls H locs (hr.st hs)) (fun k => absurd (by first | exact n1.mpr hC | (rw [l0]; exact hC)) k)
      · rcases am_if h2 with ⟨hC, rfl⟩ | ⟨hC, rfl⟩
        · exact lv_if_gt hx hb hd ht (fun _ => kk ls H locs (hr.st hs)) (fun k => absurd (g0.mpr hC) k)
        · exact lv_if_gt hx hb hd ht (fun k => absurd (g0.mp k) hC) (fun _ => kk ls H locs (hr.st hs))
      · rcases am_if h2 with ⟨hC, rfl⟩ | ⟨hC, rfl⟩
        · exact lv_if_le hx hb hd ht (fun k => absurd hC (by first | exact n2.mp k | (rw [g0] at k; exact k))) (fun _ => kk ls H locs (hr.st hs))
        · exact lv_if_le hx hb hd ht (fun _ => kk ls H locs (hr.st hs)) (fun k => absurd (by first | exact n2.mpr hC | (rw [g0]; exact hC)) k)
    · cases h2
  case if_icmp cnd off =>
    obtain ⟨rfl, rfl⟩ := hn (fun _ _ _ _ h => by cases h)
    have ht : (pc : Int) + off = (a : Int) := of_decide_eq_true hc
    have h2 : (match st with
      | .inr (.inl y) :: .inr (.inl x) :: st' => (amIf cnd x y (.inl (a, L, st', M)) (.inl (pc + 3, L, st', M)) : AmR)
      | _ => amNo) = .inl c' := h
    split at h2
    · rename_i y x st'
      have hyy : i32 y := hr.top (v := vI y) (by simp)
      have hxx : i32 x := hr.top (v := vI x) (by simp)
      have hs : ∀ v ∈ st', amOk (zAl Z) v ∧ amSet v := fun v hv => hr.2.2.2.2.1 v (by simp [hv])
      have e0 : Int32.ofInt x = Int32.ofInt y ↔ x = y := of_eq hxx hyy
      have l0 : Int32.ofInt x < Int32.ofInt y ↔ x < y := of_lt hxx hyy
      have g0 : Int32.ofInt y < Int32.ofInt x ↔ y < x := of_lt hyy hxx
      have n1 : Int32.ofInt y ≤ Int32.ofInt x ↔ ¬ x < y := by rw [of_le hyy hxx]; omega
      have n2 : Int32.ofInt x ≤ Int32.ofInt y ↔ ¬ y < x := by rw [of_le hxx hyy]; omega
      cases cnd
      · rcases am_if h2 with ⟨hC, rfl⟩ | ⟨hC, rfl⟩
        · exact lv_icmp_eq hx hb hd ht (fun _ => kk ls H locs (hr.st hs)) (fun k => absurd (e0.mpr hC) k)
        · exact lv_icmp_eq hx hb hd ht (fun k => absurd (e0.mp k) hC) (fun _ => kk ls H locs (hr.st hs))
      · rcases am_if h2 with ⟨hC, rfl⟩ | ⟨hC, rfl⟩
        · exact lv_icmp_ne hx hb hd ht (fun k => absurd (e0.mpr hC) k) (fun _ => kk ls H locs (hr.st hs))
        · exact lv_icmp_ne hx hb hd ht (fun _ => kk ls H locs (hr.st hs)) (fun k => absurd (e0.mp k) hC)
      · rcases am_if h2 with ⟨hC, rfl⟩ | ⟨hC, rfl⟩
        · exact lv_icmp_lt hx hb hd ht (fun _ => kk ls H locs (hr.st hs)) (fun k => absurd (l0.mpr hC) k)
        · exact lv_icmp_lt hx hb hd ht (fun k => absurd (l0.mp k) hC) (fun _ => kk ls H locs (hr.st hs))
      · rcases am_if h2 with ⟨hC, rfl⟩ | ⟨hC, rfl⟩
        · exact lv_icmp_ge hx hb hd ht (fun k => absurd hC (by first | exact n1.mp k | (rw [l0] at k; exact k))) (fun _ => kk ls H locs (hr.st hs))
        · exact lv_icmp_ge hx hb hd ht (fun _ => kk ls H locs (hr.st hs)) (fun k => absurd (by first | exact n1.mpr hC | (rw [l0]; exact hC)) k)
      · rcases am_if h2 with ⟨hC, rfl⟩ | ⟨hC, rfl⟩
        · exact lv_icmp_gt hx hb hd ht (fun _ => kk ls H locs (hr.st hs)) (fun k => absurd (g0.mpr hC) k)
        · exact lv_icmp_gt hx hb hd ht (fun k => absurd (g0.mp k) hC) (fun _ => kk ls H locs (hr.st hs))
      · rcases am_if h2 with ⟨hC, rfl⟩ | ⟨hC, rfl⟩
        · exact lv_icmp_le hx hb hd ht (fun k => absurd hC (by first | exact n2.mp k | (rw [g0] at k; exact k))) (fun _ => kk ls H locs (hr.st hs))
        · exact lv_icmp_le hx hb hd ht (fun _ => kk ls H locs (hr.st hs)) (fun k => absurd (by first | exact n2.mpr hC | (rw [g0]; exact hC)) k)
    · cases h2
  case ifnull off =>
    obtain ⟨rfl, rfl⟩ := hn (fun _ _ _ _ h => by cases h)
    have h2 : (match st with
      | .inl (some _) :: st' => (.inl (pc + 3, L, st', M) : AmR)
      | _ => amNo) = .inl c' := h
    split at h2
    · rename_i r st'
      cases h2
      obtain ⟨k1, c1, s1⟩ := r
      exact lv_ifnull hx hb hd (kk ls H locs (hr.st fun v hv => hr.2.2.2.2.1 v (by simp [hv])))
    · cases h2
  case ifnonnull off =>
    obtain ⟨rfl, rfl⟩ := hn (fun _ _ _ _ h => by cases h)
    have h2 : (match st with
      | .inl (some _) :: st' => (.inl (a, L, st', M) : AmR)
      | _ => amNo) = .inl c' := h
    split at h2
    · rename_i r st'
      cases h2
      obtain ⟨k1, c1, s1⟩ := r
      exact lv_ifnonnull hx hb hd (of_decide_eq_true hc) (kk ls H locs (hr.st fun v hv => hr.2.2.2.2.1 v (by simp [hv])))
    · cases h2
  case tableswitch d lo hi2 offs =>
    have hc2 : (decide ((pc : Int) + d = (a : Int)) && (decide (lo = z) && (decide (hi2 = z + (ts.length : Int) - 1) && (amR32 z && (amR32 hi2 && (decide (offs.toList.length = ts.length) && (List.range ts.length).all (fun j => decide ((pc : Int) + offs.toList.getD j 0 = ((ts.getD j 0 : Nat) : Int))))))))) = true := hc
    simp only [Bool.and_eq_true, decide_eq_true_eq, List.all_eq_true, List.mem_range] at hc2
    obtain ⟨e1, e2, e3, e4, e5, e6, e7⟩ := hc2
    subst e2
    have h2 : (match st with
      | .inr (.inl x) :: st' => (amTs x lo ts (fun t => .inl (t, L, st', M)) a : AmR)
      | _ => amNo) = .inl c' := h
    split at h2
    · rename_i x st'
      have hxx : i32 x := hr.top (v := vI x) (by simp)
      have hs : ∀ v ∈ st', amOk (zAl Z) v ∧ amSet v := fun v hv => hr.2.2.2.2.1 v (by simp [hv])
      have key : ∀ (ts : List Nat) (lo : Int) (f : Nat → AmR) (d : Nat), (∃ k, k < ts.length ∧ x = lo + (k : Int) ∧ amTs x lo ts f d = f (ts.getD k 0)) ∨ ((x < lo ∨ lo + (ts.length : Int) - 1 < x) ∧ amTs x lo ts f d = f d) := by
        intro ts
        induction ts with
        | nil => intro lo f d; refine Or.inr ⟨?_, rfl⟩; simp; omega
        | cons t ts ih =>
          intro lo f d
          unfold amTs
          by_cases hxl : x = lo
          · rw [if_pos hxl]; exact Or.inl ⟨0, by simp, by simpa using hxl, rfl⟩
          · rw [if_neg hxl]
            rcases ih (lo + 1) f d with ⟨k, k1, k2, k3⟩ | ⟨k1, k2⟩
            · exact Or.inl ⟨k + 1, by simp; omega, by rw [k2]; push_cast; omega, k3⟩
            · refine Or.inr ⟨?_, k2⟩
              simp only [List.length_cons]; push_cast; omega
      rcases key ts lo (fun t => .inl (t, L, st', M)) a with ⟨k, k1, k2, k3⟩ | ⟨k1, k2⟩
      · rw [k3] at h2
        cases h2
        have hk : offs.toList.getD k 0 = offs.toList[k]'(by omega) := by rw [List.getD_eq_getElem?_getD, List.getElem?_eq_getElem (by omega)]; rfl
        refine lv_tableIn (off := offs.toList.getD k 0) (tgt := ts.getD k 0) hx hb hd (by rw [i32_of hxx]; omega) (by rw [i32_of hxx]; omega) ?_ (e7 k k1) (kk ls H locs (hr.st hs))
        rw [i32_of hxx, show (x - lo).toNat = k by omega, hk, ← Array.getElem?_toList]
        exact List.getElem?_eq_getElem (by omega)
      · rw [k2] at h2
        cases h2
        exact lv_tableOut hx hb hd (by rw [i32_of hxx]; omega) e1 (kk ls H locs (hr.st hs))
    · cases h2
end AmS4
