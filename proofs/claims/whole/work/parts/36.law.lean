-- ===== end of PART A; then your names; then what follows =====
/-! THE CLAIM OUT OF ONE WALK OF THE LAW'S BODY. Your part is whole_start (and what it stands on); all else here is the same for every law, but numbers. -/
def R_law : String := "SaltStairsLaw"
def lw_P (b : Addr) (xs : List Int32) (args : Array Value) (s : State) : Prop := args = #[.ref b] ∧ s.IntsAt b xs ∧ xs.length ≤ 3072 ∧ (Jvm.Cond.and given_1 narrow_1).before args s = true
def lw_Q (_ : Array Value) (s : State) (o : Outcome) (t : State) : Prop := o = .returned (some (.int 1)) ∧ Framed s o t [] 600000 7302250
def lw_Z (below : List Frame) (a : Array Value) (s : State) : State → Prop := fun t => ∃ o, t.status = .running ∧ Ended t below o ∧ lw_Q a s o t
/-- the law's own end, with 1 on the stack, nothing written that was there before, its room as the claim has it -/
theorem lw_ret {p : Program} {l : Launch} {e : Env} {s : State} {m : MethodId} {below : List Frame} {meth : Method} {c : Code} {b : Nat} (hx : p.tables.exec = Jvm.exec) (hb : c.code = code) (hr : meth.sig.returnType = ret) (hlocks : meth.locks = false) {pc : Nat} {H : Heap} {ls : Array Slot} (hdg : decode code pc = .ok (.ireturn, 1)) : W p l e room_1 s m #[Value.ref b] below meth c H [] 600000 7302250 (lw_Z below #[Value.ref b] s) (F0 m pc ls [.int 1]) := by
  intro T hT X
  obtain ⟨fs, hret, hrun, hended, hW, hframe⟩ := X.leave (v := some (.int 1)) (hlocks := hlocks) (fun h => by rw [hr] at h; cases h)
  have hmeth' : T.vm.method? m = some meth := X.method'
  refine ⟨T.setFrames fs, ?_, .returned (some (.int 1)), hrun, hended, rfl, ⟨_, rfl⟩, hW, hframe⟩
  jvm_step X.here [X.here.top, hx, hb, hdg, hmeth', hr, ret, narrow_b1]
  (try refine ⟨rfl, ?_⟩); (try refine ⟨rfl, ?_⟩)
  first | (intro acts; rw [hret _ acts rfl rfl rfl]) | rw [hret _ _ rfl rfl rfl]
  exact Steps.refl _
/-- what holds at the law's entry: the machine, the code, the tables' words (any of lw_tbl by 'hts w (by decide +kernel)'), the script of L ints xs at the cell b, what the Statement gives of the start (any of its parts by flat_of_before) -/
def lw_At (p : Program) (s : State) (m : MethodId) (meth : Method) (c : Code) (b L : Nat) (xs : Nat → Int32) : Prop :=
  p.tables.exec = Jvm.exec ∧ c.code = code ∧ meth.sig.returnType = ret ∧ c.maxLocals = 4 ∧ s.vm.findClass R_law = some m.cls ∧ (∀ w ∈ lw_tbl, w.before #[Value.ref b] s = true) ∧ va_X b L xs s s.heap ∧ b < s.heap.size ∧ meth.locks = false ∧ (Jvm.Cond.and given_1 narrow_1).before #[Value.ref b] s = true

section AmRetI
variable {Z : AmZ} {L st : List AmV} {M : AmM} {cal : Nat → List AmV → AmM → Option (AmV × AmM)} {nx a b q : Nat} {z : Int} {ts : List Nat}
theorem am_retI {i : Jvm.ClassFile.Instr} {v : AmV} {M' : AmM} (h : amEx (zG Z) cal i nx a b q z ts L st M = .inr (some (v, M'))) : i = .ireturn ∨ i = .lreturn ∨ i = .return_ := by
  cases i
  case ireturn => exact Or.inl rfl
  case lreturn => exact Or.inr (Or.inl rfl)
  case return_ => exact Or.inr (Or.inr rfl)
  case tableswitch d lo hi2 offs =>
    exfalso
    have h2 : (match st with
      | .inr (.inl x) :: st' => (amTs x z ts (fun t => .inl (t, L, st', M)) a : AmR)
      | _ => amNo) = .inr (some (v, M')) := h
    have key : ∀ (x : Int) (st' : List AmV) (ts : List Nat) (lo : Int) (d : Nat), ∃ t, amTs x lo ts (fun t => .inl (t, L, st', M)) d = .inl (t, L, st', M) := by
      intro x st' ts
      induction ts with
      | nil => intro lo d; exact ⟨d, rfl⟩
      | cons t ts ih =>
        intro lo d
        unfold amTs
        by_cases hx : x = lo
        · rw [if_pos hx]; exact ⟨t, rfl⟩
        · rw [if_neg hx]; exact ih _ _
    split at h2
    · rename_i x st'
      obtain ⟨t, ht⟩ := key x st' ts z a
      rw [ht] at h2
      cases h2
    · cases h2
  all_goals
    exfalso
    first
    | (have h' : (amNo : AmR) = .inr (some (v, M')) := h; cases h'; done)
    | (simp only [amEx, amLoI, amLoL, amLoA, amStoI, amStoL, amStoA, amInv, amPu, amIf, Bool.cond_eq_ite] at h
       repeat' (split at h)
       all_goals first | (cases h; done) | (simp [amNo] at h; done))
end AmRetI
section AmLaw
variable {p : Program} {l : Launch} {e : Env} {s : State} {m : MethodId} {below : List Frame} {meth : Method} {c : Code} {Z : AmZ} {cells slots : Nat}
/-- the law, from where a world stands: it goes on to its end as the small machine does -/
theorem am_law {b : Nat} {args : Array Value} (hargs : args = #[Value.ref b]) {d n pc : Nat} {L st : List AmV} {M M' : AmM} {ls : Array Slot} {H : Heap} {locs : List Loc} (hStr : amStrOk Z) (hd : d ≤ 300) (hx : p.tables.exec = Jvm.exec) (hb : c.code = code) (hr0 : meth.sig.returnType = some .boolean) (hml : c.maxLocals = 4) (hown : s.vm.findClass R_law = some m.cls) (hts : ∀ w ∈ lw_tbl, w.before args s = true) (hlocks : meth.locks = false)
    (hK : amKS Z s) (hX : amXS Z s s.heap) (hfx : amFx Z) (hA : ∀ q, zA Z q → s.heap.size ≤ q) (hc : cells ≤ 600000) (hs : slots ≤ 7302250)
    (h : amN (amStep (zG Z) (amD (zG Z) d) cdL_law) n (pc, L, st, M) = some (vI 1, M')) (hr : amRel Z s.heap 4 [] L st M ls H locs) : W p l e room_1 s m args below meth c H locs cells slots (lw_Z below args s) (F0 m pc ls (st.map (amV (zAd Z)))) := by
  have hMid : ∀ mid, mid < 245 → amMidOk mid := fun mid h => (amMid_all mid h).1
  refine am_body (v := vI 1) (M' := M') (lo := 0) (ret := some .boolean) (o := 13) (d := d) hStr (am_sound l Z 0 hStr hfx amMid_all amMt_lt d) hMid amMt_lt ⟨hx, hb, hml, hown, fun w hw => hts w (List.mem_filter.mp hw).1⟩ hK hX hfx (Nat.zero_le _) ⟨by show d + 11 ≤ 2048; omega, by show 2031 + 200 * d ≤ 84000; omega, hc, hs⟩ ?_ amLaw_chk n pc L st M ls H locs h hr
  intro i len pc nx a b' q z ts L st M ls H locs hdec hn hchk hex hr
  have hS := hr.2.2.2.2.2.2.2.1
  rcases am_retI hex with rfl | rfl | rfl
  · obtain ⟨rfl, rfl⟩ := hn (fun _ _ _ _ h => by cases h)
    have h2 : (match st with
      | [.inr (.inl x)] => (match (generalizing := false) q with
        | 0 => (.inr (some (vI x, M)) : AmR)
        | _ => bif amZ x then (.inr (some (vI x, M)) : AmR) else amNo)
      | _ => (amNo : AmR)) = .inr (some (vI 1, M')) := hex
    split at h2
    · rename_i x
      have hx1 : x = 1 := by
        split at h2
        · cases h2; rfl
        · cases hz : amZ x with
          | false => rw [hz] at h2; cases h2
          | true => rw [hz] at h2; cases h2; rfl
      subst hx1
      subst hargs
      exact va_forget (fun q hq => hA _ (hS.2.2 q hq)) (W.widen hc hs (lw_ret hx hb hr0 hlocks hdec))
    · cases h2
  · exfalso
    have h2 : (match st with
      | [.inr (.inr (.inl x))] => (.inr (some (vL x, M)) : AmR)
      | _ => (amNo : AmR)) = .inr (some (vI 1, M')) := hex
    split at h2 <;> cases h2
  · exfalso
    have h2 : (match st with
      | [] => (.inr (some (vU, M)) : AmR)
      | _ => (amNo : AmR)) = .inr (some (vI 1, M')) := hex
    split at h2 <;> cases h2
end AmLaw
