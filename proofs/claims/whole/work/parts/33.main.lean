section AmSM
variable {p : Program} {l : Launch} {e : Env} {R : Room} {s : State} {m : MethodId} {args : Array Value} {below : List Frame} {meth : Method} {c : Code}
variable {cc : ByteArray} {Z : AmZ} {nL : Nat} {lg : List Nat} {o : Nat} {ret : Option FieldType} {cal : Nat → List AmV → AmM → Option (AmV × AmM)} {cd : List (Option AmE)} {cells slots : Nat} {Q : State → Prop}
theorem am_chk {pc : Nat} {en : AmE} (hchk : amChkC cc o ret lg cd = true) (h : cd[pc]? = some (some en)) : ∃ len, decode cc pc = .ok (en.1, len) ∧ ((∀ d lo hi of, en.1 ≠ .tableswitch d lo hi of) → len = amLenI en.1 ∧ en.2.1 = pc + amLenI en.1) ∧
    amChkI amConT amConL amStrT amFldT amMthT (fun m => amNp.getD m 0) o ret lg pc en.1 en.2.1 en.2.2.1 en.2.2.2.1 en.2.2.2.2.1 en.2.2.2.2.2.1 en.2.2.2.2.2.2 = true := by
  have hl : pc < cd.length := (List.getElem?_eq_some_iff.mp h).1
  have h1 := List.all_eq_true.mp hchk pc (List.mem_range.mpr hl)
  have hg : cd.getD pc none = some en := by rw [List.getD_eq_getElem?_getD, h]; rfl
  rw [hg] at h1
  have h2 : amChk1 cc o ret lg pc en = true := h1
  unfold amChk1 at h2
  split at h2
  · rename_i i' len hdec
    simp only [Bool.and_eq_true, decide_eq_true_eq] at h2
    obtain ⟨rfl, h3, h4⟩ := h2
    refine ⟨len, hdec, fun hne => ?_, h4⟩
    split at h3
    · rename_i d lo hi of heq
      exact absurd heq (hne d lo hi of)
    · simpa using h3
  · cases h2
theorem am_body {v : AmV} {M' : AmM} {lo d : Nat} (hStr : amStrOk Z) (hA : amAll l Z lo d cal) (hMid : ∀ mid, mid < 245 → amMidOk mid) (hMt : amMtLt) (S : CallFix p m c cc nL s args amT0 (amR o)) (hK : amKS Z s) (hX : amXS Z s s.heap) (hfx : amFx Z) (hlo : lo ≤ s.heap.size)
    (hR : d + 11 ≤ R.frames ∧ 2031 + 200 * d ≤ R.locals ∧ cells ≤ R.cells ∧ slots ≤ R.slots)
    (hEnd : ∀ (i : Jvm.ClassFile.Instr) (len pc nx a b q : Nat) (z : Int) (ts : List Nat) (L st : List AmV) (M : AmM) (ls : Array Slot) (H : Heap) (locs : List Loc), decode cc pc = .ok (i, len) → ((∀ d lo hi of, i ≠ .tableswitch d lo hi of) → len = amLenI i ∧ nx = pc + amLenI i) → amChkI amConT amConL amStrT amFldT amMthT (fun m => amNp.getD m 0) o ret lg pc i nx a b q z ts = true → amEx (zG Z) cal i nx a b q z ts L st M = .inr (some (v, M')) → amRel Z s.heap nL lg L st M ls H locs → W p l e R s m args below meth c H locs cells slots Q (F0 m pc ls (st.map (amV (zAd Z))))) (hchk : amChkC cc o ret lg cd = true) :
    ∀ (n pc : Nat) (L st : List AmV) (M : AmM) (ls : Array Slot) (H : Heap) (locs : List Loc), amN (amStep (zG Z) cal cd) n (pc, L, st, M) = some (v, M') → amRel Z s.heap nL lg L st M ls H locs →
      W p l e R s m args below meth c H locs cells slots Q (F0 m pc ls (st.map (amV (zAd Z)))) := by
  intro n
  induction n with
  | zero => intro pc L st M ls H locs h; cases h
  | succ n ih =>
    intro pc L st M ls H locs h hr
    unfold amN at h
    cases hcd : cd[pc]? with
    | none =>
      have : amStep (zG Z) cal cd (pc, L, st, M) = amNo := by
        unfold amStep
        simp only [hcd]
      rw [this] at h
      cases h
    | some oe =>
      cases oe with
      | none =>
        have : amStep (zG Z) cal cd (pc, L, st, M) = amNo := by
          unfold amStep
          simp only [hcd]
        rw [this] at h
        cases h
      | some en =>
        obtain ⟨len, hdec, hn, hc⟩ := am_chk hchk hcd
        have hst : amStep (zG Z) cal cd (pc, L, st, M) = amEx (zG Z) cal en.1 en.2.1 en.2.2.1 en.2.2.2.1 en.2.2.2.2.1 en.2.2.2.2.2.1 en.2.2.2.2.2.2 L st M := by
          unfold amStep
          simp only [hcd]
        rw [hst] at h
        cases hex : amEx (zG Z) cal en.1 en.2.1 en.2.2.1 en.2.2.2.1 en.2.2.2.2.1 en.2.2.2.2.2.1 en.2.2.2.2.2.2 L st M with
        | inr r =>
          rw [hex] at h
          have h1 : r = some (v, M') := h
          subst h1
          exact hEnd _ _ _ _ _ _ _ _ _ _ _ _ _ _ _ hdec hn hc hex hr
        | inl c' =>
          rw [hex] at h
          obtain ⟨pc', L', st', M1⟩ := c'
          have h1 : amN (amStep (zG Z) cal cd) n (pc', L', st', M1) = some (v, M') := h
          exact am_sim hStr hA hMid hMt S hK hX hfx hlo hR hdec hn hc hex hr fun ls' H' locs' hr' => ih pc' L' st' M1 ls' H' locs' h1 hr'
theorem amLay_at {ad : Nat → Nat → Nat} : ∀ (as : List AmV), (∀ w ∈ as, amSet w) → ∀ (i : Nat) (v : AmV), (amLay as)[i]? = some v → amSet v → (lg_sl (as.map (amV ad)))[i]? = some (.val (amV ad v))
  | [], _, i, v, h, _ => by simp [amLay] at h
  | .inr (.inr (.inl x)) :: r, hs, i, v, h, hv => by
    have e : lg_sl ((.inr (.inr (.inl x)) :: r : List AmV).map (amV ad)) = .val (.long (Int64.ofInt x)) :: .second :: lg_sl (r.map (amV ad)) := rfl
    rw [e]
    have e2 : amLay (.inr (.inr (.inl x)) :: r) = vL x :: vU :: amLay r := rfl
    rw [e2] at h
    match i, h with
    | 0, h => cases h; rfl
    | 1, h => cases h; exact absurd hv (fun q => q)
    | i + 2, h => exact amLay_at r (fun w hw => hs w (List.mem_cons_of_mem _ hw)) i v h hv
  | .inr (.inl x) :: r, hs, i, v, h, hv => by
    have e : lg_sl ((.inr (.inl x) :: r : List AmV).map (amV ad)) = .val (.int (Int32.ofInt x)) :: lg_sl (r.map (amV ad)) := rfl
    rw [e]
    have e2 : amLay (.inr (.inl x) :: r) = vI x :: amLay r := rfl
    rw [e2] at h
    match i, h with
    | 0, h => cases h; rfl
    | i + 1, h => exact amLay_at r (fun w hw => hs w (List.mem_cons_of_mem _ hw)) i v h hv
  | .inl q :: r, hs, i, v, h, hv => by
    have e : lg_sl ((.inl q :: r : List AmV).map (amV ad)) = .val (amV ad (.inl q)) :: lg_sl (r.map (amV ad)) := by
      rcases q with _ | ⟨k, c, s⟩ <;> rfl
    rw [e]
    have e2 : amLay (.inl q :: r) = .inl q :: amLay r := rfl
    rw [e2] at h
    match i, h with
    | 0, h => cases h; rfl
    | i + 1, h => exact amLay_at r (fun w hw => hs w (List.mem_cons_of_mem _ hw)) i v h hv
  | .inr (.inr (.inr x)) :: r, hs, i, v, h, hv => absurd (hs _ List.mem_cons_self) (fun q => q)
theorem amLay_len {ad : Nat → Nat → Nat} : ∀ (as : List AmV), (∀ w ∈ as, amSet w) → (lg_sl (as.map (amV ad))).length = (amLay as).length
  | [], _ => rfl
  | .inr (.inr (.inl x)) :: r, hs => by
    show (Slot.val _ :: Slot.second :: lg_sl (r.map (amV ad))).length = (vL x :: vU :: amLay r).length
    simp [amLay_len r (fun w hw => hs w (List.mem_cons_of_mem _ hw))]
  | .inr (.inl x) :: r, hs => by
    show (Slot.val _ :: lg_sl (r.map (amV ad))).length = (vI x :: amLay r).length
    simp [amLay_len r (fun w hw => hs w (List.mem_cons_of_mem _ hw))]
  | .inl q :: r, hs => by
    have e : lg_sl ((.inl q :: r : List AmV).map (amV ad)) = .val (amV ad (.inl q)) :: lg_sl (r.map (amV ad)) := by
      rcases q with _ | ⟨k, c, s⟩ <;> rfl
    rw [e]
    show (Slot.val _ :: lg_sl (r.map (amV ad))).length = ((.inl q : AmV) :: amLay r).length
    simp [amLay_len r (fun w hw => hs w (List.mem_cons_of_mem _ hw))]
  | .inr (.inr (.inr x)) :: r, hs => absurd (hs _ List.mem_cons_self) (fun q => q)
theorem amLay_mem : ∀ (as : List AmV) (v : AmV), v ∈ amLay as → v = vU ∨ v ∈ as
  | [], v, h => by simp [amLay] at h
  | .inr (.inr (.inl x)) :: r, v, h => by
    have h : v ∈ vL x :: vU :: amLay r := h
    simp only [List.mem_cons] at h ⊢
    rcases h with h | h | h
    · exact Or.inr (Or.inl h)
    · exact Or.inl h
    · rcases amLay_mem r v h with h | h
      · exact Or.inl h
      · exact Or.inr (Or.inr h)
  | .inr (.inl x) :: r, v, h => by
    have h : v ∈ vI x :: amLay r := h
    simp only [List.mem_cons] at h ⊢
    rcases h with h | h
    · exact Or.inr (Or.inl h)
    · rcases amLay_mem r v h with h | h
      · exact Or.inl h
      · exact Or.inr (Or.inr h)
  | .inl q :: r, v, h => by
    have h : v ∈ (.inl q : AmV) :: amLay r := h
    simp only [List.mem_cons] at h ⊢
    rcases h with h | h
    · exact Or.inr (Or.inl h)
    · rcases amLay_mem r v h with h | h
      · exact Or.inl h
      · exact Or.inr (Or.inr h)
  | .inr (.inr (.inr x)) :: r, v, h => by
    have h : v ∈ (.inr (.inr (.inr x)) : AmV) :: amLay r := h
    simp only [List.mem_cons] at h ⊢
    rcases h with h | h
    · exact Or.inr (Or.inl h)
    · rcases amLay_mem r v h with h | h
      · exact Or.inl h
      · exact Or.inr (Or.inr h)
theorem amLgB_of {lg : List Nat} : ∀ (k : Nat) (as : List AmV), amLgB lg k as = true → ∀ (i : Nat) (x : Int), as[i]? = some (vL x) → k + i ∈ lg
  | k, [], _, i, x, h => by simp at h
  | k, .inr (.inr (.inl y)) :: r, hb, i, x, h => by
    have hb : (lg.contains k && amLgB lg (k + 1) r) = true := hb
    simp only [Bool.and_eq_true] at hb
    match i, h with
    | 0, _ => simpa using hb.1
    | i + 1, h => have := amLgB_of (k + 1) r hb.2 i x h; rwa [show k + 1 + i = k + (i + 1) by omega] at this
  | k, .inr (.inl y) :: r, hb, i, x, h => by
    have hb : amLgB lg (k + 1) r = true := hb
    match i, h with
    | 0, h => cases h
    | i + 1, h => have := amLgB_of (k + 1) r hb i x h; rwa [show k + 1 + i = k + (i + 1) by omega] at this
  | k, .inl y :: r, hb, i, x, h => by
    have hb : amLgB lg (k + 1) r = true := hb
    match i, h with
    | 0, h => cases h
    | i + 1, h => have := amLgB_of (k + 1) r hb i x h; rwa [show k + 1 + i = k + (i + 1) by omega] at this
  | k, .inr (.inr (.inr y)) :: r, hb, i, x, h => by
    have hb : amLgB lg (k + 1) r = true := hb
    match i, h with
    | 0, h => cases h
    | i + 1, h => have := amLgB_of (k + 1) r hb i x h; rwa [show k + 1 + i = k + (i + 1) by omega] at this
/-- EVERY CALL OF THE SMALL MACHINE HAS ITS CONTRACT OVER THE REAL ONE -/
theorem am_sound (l : Launch) (Z : AmZ) (lo : Nat) (hStr : amStrOk Z) (hfx : amFx Z) (hMid : ∀ mid, mid < 245 → amMidOk mid ∧ amChkC (amBy.getD mid ⟨#[]⟩) (amOwn.getD mid 99) (amRt.getD mid none) (amLg.getD mid []) (amCodes.getD mid []) = true) (hMt : amMtLt) :
    ∀ d, amAll l Z lo d (amD (zG Z) d) := by
  intro d
  induction d with
  | zero => intro mid as M v M' _ h; cases h
  | succ d ih =>
    intro mid as M v M' hmid h has hpu
    obtain ⟨hOk, hchk⟩ := hMid mid hmid
    have h1 : (bif Nat.ble (amLay as).length (amMaxL.getD mid 0) && amLgB (amLg.getD mid []) 0 (amLay as) then amRun (amStep (zG Z) (amD (zG Z) d) (amCodes.getD mid [])) (0, amEnt (amMaxL.getD mid 0) as, [], M) else none) = some (v, M') := h
    cases hb : (Nat.ble (amLay as).length (amMaxL.getD mid 0) && amLgB (amLg.getD mid []) 0 (amLay as)) with
    | false => rw [hb] at h1; cases h1
    | true =>
      rw [hb] at h1
      simp only [Bool.and_eq_true] at hb
      have hlen := Nat.le_of_ble_eq_true hb.1
      have h1 : amRun (amStep (zG Z) (amD (zG Z) d) (amCodes.getD mid [])) (0, amEnt (amMaxL.getD mid 0) as, [], M) = some (v, M') := h1
      obtain ⟨n, hn⟩ := amRun_ex h1
      have hset : ∀ w ∈ as, amSet w := fun w hw => (has w hw).2
      refine Met.ofW (cc := amBy.getD mid ⟨#[]⟩) (maxL := amMaxL.getD mid 0) (ret := amRt.getD mid none) hOk.2.2.1 rfl ?_
      intro p e s m args below meth c s₁ B hml hv
      obtain ⟨rfl, hKS, hP, hXS, hlo⟩ := hv
      have hts0 := atoms_spec (ws := amWs mid) B.pre
      have hts : ∀ w ∈ amT0, w.before ((as.map (amV (zAd Z))).toArray) s = true := fun w hw => hts0 w (List.mem_cons_of_mem _ hw)
      have hown : s.vm.findClass (amR (amOwn.getD mid 99)) = some m.cls := by rw [← hOk.2.2.2.2.1]; exact findClass_of_methodNamed B.named
      rw [lg_entry_eq]
      have hl0 := amLay_len (ad := zAd Z) as hset
      have hle := lv_entry (as.map (amV (zAd Z))) (n := amMaxL.getD mid 0) (by rw [hl0]; exact hlen)
      refine am_body hStr ih (fun k hk => (hMid k hk).1) hMt ⟨B.exec, B.bytes, hml, hown, hts⟩ hKS hXS hfx hlo (R := amRm (d + 1)) ⟨by show d + 11 ≤ d + 1 + 10; omega, by show 2031 + 200 * d ≤ 200 * (d + 1) + 2000; omega, Nat.le_refl _, Nat.le_refl _⟩ (fun _ _ _ _ _ _ _ _ _ _ _ _ _ _ _ h1 h2 h3 h4 h5 => am_ret B.exec B.bytes B.returns B.notSynchronized hfx h1 h2 h3 h4 h5) hchk n 0 _ [] M _ s.heap [] hn ?_
      refine ⟨⟨hle.1, hle.2.1, fun i w hw hws => ?_⟩, ?_, fun w hw => ?_, fun i x hx => ?_, fun w hw => (by simp at hw), hP, hpu.1, va_S.rf, hpu.2.1, hpu.2.2⟩
      · have hw : (amLay as ++ List.replicate (amMaxL.getD mid 0 - (amLay as).length) vU)[i]? = some w := hw
        by_cases hi : i < (amLay as).length
        · rw [List.getElem?_append_left hi] at hw
          have h2 := amLay_at (ad := zAd Z) as hset i w hw hws
          rw [List.getElem?_toArray, List.getElem?_append_left (by rw [hl0]; exact hi)]
          exact h2
        · rw [List.getElem?_append_right (by omega), List.getElem?_replicate] at hw
          split at hw
          · cases hw; exact absurd hws (fun q => q)
          · cases hw
      · show (amLay as ++ List.replicate (amMaxL.getD mid 0 - (amLay as).length) vU).length = _
        rw [List.length_append, List.length_replicate]; omega
      · have hw : w ∈ amLay as ++ List.replicate (amMaxL.getD mid 0 - (amLay as).length) vU := hw
        rcases List.mem_append.mp hw with hw | hw
        · rcases amLay_mem as w hw with rfl | hw
          · trivial
          · exact (has w hw).1
        · rw [(List.mem_replicate.mp hw).2]; trivial
      · have hx : (amLay as ++ List.replicate (amMaxL.getD mid 0 - (amLay as).length) vU)[i]? = some (vL x) := hx
        by_cases hi : i < (amLay as).length
        · rw [List.getElem?_append_left hi] at hx
          have := amLgB_of 0 _ hb.2 i x hx
          rwa [Nat.zero_add] at this
        · rw [List.getElem?_append_right (by omega), List.getElem?_replicate] at hx
          split at hx
          · cases hx
          · cases hx
end AmSM
