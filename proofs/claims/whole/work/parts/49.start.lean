/-! THE LAW'S START -/
theorem amInst : ∀ a, a < 13 → Jvm.Cond.instantiable (amR a) (amFkL.getD a []).length ∈ amT0 := fun a h => match a, h with
  | 0, _ => amIn0 499 (by decide +kernel) (by decide +kernel)
  | 1, _ => amIn0 230 (by decide +kernel) (by decide +kernel)
  | 2, _ => amIn0 536 (by decide +kernel) (by decide +kernel)
  | 3, _ => amIn0 458 (by decide +kernel) (by decide +kernel)
  | 4, _ => amIn0 315 (by decide +kernel) (by decide +kernel)
  | 5, _ => amIn0 388 (by decide +kernel) (by decide +kernel)
  | 6, _ => amIn0 394 (by decide +kernel) (by decide +kernel)
  | 7, _ => amIn0 198 (by decide +kernel) (by decide +kernel)
  | 8, _ => amIn0 224 (by decide +kernel) (by decide +kernel)
  | 9, _ => amIn0 552 (by decide +kernel) (by decide +kernel)
  | 10, _ => amIn0 355 (by decide +kernel) (by decide +kernel)
  | 11, _ => amIn0 190 (by decide +kernel) (by decide +kernel)
  | 12, _ => amIn0 1398 (by decide +kernel) (by decide +kernel)
  | n + 13, h => absurd h (by omega)
/-- the first memory that the law's loop meets -/
def amFirst (M : AmM) (L : Nat) : Prop := L ≤ 3072 ∧ M 90 1 0 = (L : Int) ∧ amI M ∧ (∀ n ∈ amFull, n.1 < 13 → ∀ j, j < (amFkL.getD n.1 []).length → (amFkL.getD n.1 []).getD j 0 ≠ 2 → M n.1 n.2 j = amI0 n.1 j) ∧ ∀ p ∈ amIP, ∀ j, j < p.2.2 → M p.1 p.2.1 j = amI0 p.1 j
def amPure : Prop := ∀ (M : AmM) (L : Nat), amFirst M L → ∃ d M', d ≤ 300 ∧ amRun (amStep amGst (amD amGst d) cdL_law) (18, [vR 20 90 0, vR 11 11 0, vR 12 12 0, vI 0], [], M) = some (vI 1, M')
theorem amChkM_of {X : Nat → Nat → Int} {M : AmM} {L : Nat} (hL : L ≤ 3072) (hx : X 1 0 = (L : Int)) (hI : amI (ov X M)) (h : amChkM M = true) : amFirst (ov X M) L := by
  unfold amChkM at h
  simp only [Bool.and_eq_true] at h
  obtain ⟨h1, h2⟩ := h
  refine ⟨hL, hx, hI, fun n hn h13 j hj hq => ?_, fun p hp j hj => ?_⟩
  · have h3 := List.all_eq_true.mp h1 n hn
    have hb : Nat.blt n.1 13 = true := by simpa [Nat.blt_eq] using h13
    rw [hb] at h3
    simp only [cond_true] at h3
    have h4 := List.all_eq_true.mp h3 j (List.mem_range.mpr hj)
    have hb2 : ((amFkL.getD n.1 []).getD j 0 == 2) = false := beq_false_of_ne hq
    rw [hb2] at h4
    rw [ov_ne (by omega)]
    simpa using h4
  · have h3 := List.all_eq_true.mp h2 p hp
    have h4 := List.all_eq_true.mp h3 j (List.mem_range.mpr hj)
    have h90 : p.1 ≠ 90 := by
      have : ∀ p ∈ amIP, p.1 ≠ 90 := by decide +kernel
      exact this p hp
    rw [ov_ne h90]
    simpa using h4
theorem amD_regraph {A : Nat → Prop} {Z : AmZ} {ad : Nat → Nat → Nat} {n : Nat} {G G' : AmG} {M : AmM} (h : va_D A (amW (zz Z ad n G) M)) : va_D A (amW (zz Z ad n G') M) := by
  have key : ∀ (i : Nat) (x : Nat × va_E), (amW (zz Z ad n G') M)[i]? = some x → ∃ y, (amW (zz Z ad n G) M)[i]? = some y ∧ y.1 = x.1 := by
    intro i x hx
    unfold amW at hx ⊢
    rw [List.getElem?_map] at hx ⊢
    have e : zAl (zz Z ad n G') = zAl (zz Z ad n G) := rfl
    rw [e] at hx
    cases hn : (zAl (zz Z ad n G))[i]? with
    | none => rw [hn] at hx; cases hx
    | some n => rw [hn] at hx; cases hx; exact ⟨_, rfl, rfl⟩
  refine ⟨fun i j x y hi hj hxy => ?_, fun k x hk => ?_⟩
  · obtain ⟨x0, h1, h2⟩ := key i x hi
    obtain ⟨y0, h3, h4⟩ := key j y hj
    exact h.1 i j x0 y0 h1 h3 (by rw [h2, h4, hxy])
  · obtain ⟨x0, h1, h2⟩ := key k x hk
    rw [← h2]
    exact h.2 k x0 h1
theorem amFx_regraph {Z : AmZ} {ad : Nat → Nat → Nat} {G : AmG} (hG : amChkG G = true) (h : amFx1 (zz Z ad 470 G)) : amFx (zz Z ad 470 amGst) := by
  have hall := List.all_eq_true.mp hG
  have htk : amFull.take 470 = amFull := amFull_tk
  refine ⟨h.1, h.2.1, h.2.2.1, fun n hn j => ⟨fun h13 hq => ?_, fun hj hk => ?_⟩⟩
  · have hmem : n ∈ amFull := by rw [← htk]; exact hn
    have hj : j < (amFkL.getD n.1 []).length := by
      rw [List.getD_eq_getElem?_getD] at hq
      cases hg : (amFkL.getD n.1 [])[j]? with
      | none => rw [hg] at hq; cases hq
      | some w => exact (List.getElem?_eq_some_iff.mp hg).1
    have hc := hall n hmem
    have hb : Nat.blt n.1 13 = true := by simpa [Nat.blt_eq] using h13
    rw [hb] at hc
    simp only [cond_true] at hc
    have h2 := List.all_eq_true.mp hc j (List.mem_range.mpr hj)
    rw [hq] at h2
    have h4 : G n.1 n.2 j = amGst n.1 n.2 j := by simpa using h2
    obtain ⟨k1, r, k2⟩ := h.2.2.2 n hn j
    have k1 : amOk (zAl (zz Z ad 470 amGst)) (G n.1 n.2 j) := k1
    have k2 : G n.1 n.2 j = .inl r := k2
    rw [h4] at k1 k2
    show amOk (zAl (zz Z ad 470 amGst)) (amGst n.1 n.2 j) ∧ amSet (amGst n.1 n.2 j) ∧ ∃ r, amGst n.1 n.2 j = .inl r
    exact ⟨k1, by rw [k2]; trivial, r, k2⟩
  · have hmem : n ∈ amFull := by rw [← htk]; exact hn
    have hc := hall n hmem
    have h13 : ¬ n.1 < 13 := fun h13 => by have := amKnd_lo n.1 h13; omega
    have hb : Nat.blt n.1 13 = false := by
      cases hb : Nat.blt n.1 13 with
      | false => rfl
      | true => exact absurd (by simpa [Nat.blt_eq] using hb) h13
    rw [hb] at hc
    have hb2 : (amKndL.getD n.1 99 == 24 || amKndL.getD n.1 99 == 25) = true := by
      rcases hk with h | h <;> rw [h] <;> rfl
    rw [hb2] at hc
    simp only [cond_false, cond_true] at hc
    have h2 := List.all_eq_true.mp hc j (List.mem_range.mpr hj)
    have h4 : G n.1 n.2 j = amGst n.1 n.2 j := by simpa using h2
    obtain ⟨k1, r, k2⟩ := h.2.2.2 n hn j
    have k1 : amOk (zAl (zz Z ad 470 amGst)) (G n.1 n.2 j) := k1
    have k2 : G n.1 n.2 j = .inl r := k2
    rw [h4] at k1 k2
    exact ⟨k1, r, k2⟩
theorem amArr_ty {s : State} {args : Array Value} {ty : FieldType} (h : (Jvm.Cond.arrayClass ty).before args s = true) (hty : ty = .int ∨ ty = .long ∨ ty = .byte ∨ ty = .boolean) : ∃ cA : ClassId, ArrOfT s cA ty ∧ va_RA s cA ty := by
  obtain ⟨cA, kA, comp, h1, h2, h3⟩ := Cond.arrayClass_spec h
  refine ⟨cA, fun n z => ⟨fun k hq => (by cases hq), kA, h2, comp, h3⟩, ?_⟩
  rcases hty with rfl | rfl | rfl | rfl <;> exact h1
theorem amArr_ob {s : State} {args : Array Value} {C : String} (h : (Jvm.Cond.arrayOver (.object C)).before args s = true) : ∃ cA : ClassId, ArrOfT s cA (.object C) ∧ va_RA s cA (.object C) := by
  obtain ⟨comp, cA, kA, h1, h2, h3, h4, h5⟩ := Cond.arrayOver_spec h
  exact ⟨cA, fun N z => ⟨(fun k h => by cases h), kA, h3, comp, h4⟩, kA, comp, h3, h4, h1, h5⟩
def amTm (i : Nat) : Term := match i with
  | 0 => .string RX7 84
  | _ => .string RX7 73
theorem amNar_e : ∀ i, i < 2 → (Cond.exactly (amTm i) "java/lang/String" ∈ flatC (Jvm.Cond.and given_1 narrow_1)) ∧ (Cond.eq (.field (amTm i) "java/lang/String" "coder" "B") (.int 0) ∈ flatC (Jvm.Cond.and given_1 narrow_1)) ∧ (Cond.arrayOf (.field (amTm i) "java/lang/String" "value" "[B") .byte ∈ flatC (Jvm.Cond.and given_1 narrow_1)) ∧ (Cond.eq (.length (.field (amTm i) "java/lang/String" "value" "[B")) (.int (Int32.ofNat ([amWords.length, amSigns.length].getD i 0))) ∈ flatC (Jvm.Cond.and given_1 narrow_1)) := by decide +kernel
def amNarF (j : Nat) : Cond := Cond.eq (.elem (.field (amTm 0) "java/lang/String" "value" "[B") (.int (Int32.ofNat j))) (.int (amWordsI.getD j 0))
theorem amNar_l : ((flatC (Jvm.Cond.and given_1 narrow_1)).drop 39).take 152 = (List.range 152).map amNarF := by decide +kernel
theorem amNar_0 : ∀ j, j < 152 → Cond.eq (.elem (.field (amTm 0) "java/lang/String" "value" "[B") (.int (Int32.ofNat j))) (.int (([amWordsI, amSignsI].getD 0 []).getD j 0)) ∈ flatC (Jvm.Cond.and given_1 narrow_1) := fun j hj => by
  have h : amNarF j ∈ (List.range 152).map amNarF := List.mem_map.mpr ⟨j, List.mem_range.mpr hj, rfl⟩
  rw [← amNar_l] at h
  exact List.mem_of_mem_drop (List.mem_of_mem_take h)
theorem amNar_1 : ∀ j, j < 9 → Cond.eq (.elem (.field (amTm 1) "java/lang/String" "value" "[B") (.int (Int32.ofNat j))) (.int (([amWordsI, amSignsI].getD 1 []).getD j 0)) ∈ flatC (Jvm.Cond.and given_1 narrow_1) := by decide +kernel
theorem amNar_n : Cond.not (Cond.eq (amTm 0) (amTm 1)) ∈ flatC (Jvm.Cond.and given_1 narrow_1) ∨ Cond.not (Cond.eq (amTm 1) (amTm 0)) ∈ flatC (Jvm.Cond.and given_1 narrow_1) := by decide +kernel
theorem amNar_s : Cond.eq (.static "java/lang/String" "COMPACT_STRINGS" "Z") (.int 1) ∈ flatC (Jvm.Cond.and given_1 narrow_1) ∧ Cond.isRef (.static "jdk/internal/util/Preconditions" "SIOOBE_FORMATTER" "Ljava/util/function/BiFunction;") ∈ flatC (Jvm.Cond.and given_1 narrow_1) := by decide +kernel
theorem amLen_w : amWords.length = 152 ∧ amSigns.length = 9 := by decide +kernel
theorem am_const {s : State} {b : Nat} {A : Nat → Prop} (hts : ∀ w ∈ lw_tbl, w.before #[Value.ref b] s = true) (hgv : (Jvm.Cond.and given_1 narrow_1).before #[Value.ref b] s = true) (hA : ∀ a : Nat, a < s.heap.size → ¬ A a) :
    ∃ adK adV : Nat → Nat, amVS 2 [amWords.length, amSigns.length] [amWordsI, amSignsI] adK adV A s s.heap ∧ vk_R RX7 84 amWordsT (adK 0) s ∧ vk_R RX7 73 amSignsT (adK 1) s := by
  have hf := flat_of_before _ hgv
  obtain ⟨adK, adV, h1, h2⟩ := vk_Sof (args := #[Value.ref b]) (s := s) (N := 2) (tm := amTm) (len := [amWords.length, amSigns.length]) (byt := [amWordsI, amSignsI]) (A := A) (by decide +kernel) (fun i hi => hf _ (amNar_e i hi).1) (fun i hi => hf _ (amNar_e i hi).2.1) (fun i hi => hf _ (amNar_e i hi).2.2.1) (fun i hi => hf _ (amNar_e i hi).2.2.2) (fun i hi j hj => by
    match i, hi, hj with
    | 0, _, hj => exact hf _ (amNar_0 j (by rw [← amLen_w.1]; exact hj))
    | 1, _, hj => exact hf _ (amNar_1 j (by rw [← amLen_w.2]; exact hj))
    | n + 2, hi, _ => omega) (fun i j hi hj hij => by
    match i, j, hi, hj, hij with
    | 0, 0, _, _, h => exact absurd rfl h
    | 1, 1, _, _, h => exact absurd rfl h
    | 0, 1, _, _, _ => exact amNar_n.elim (fun h => Or.inl (hf _ h)) (fun h => Or.inr (hf _ h))
    | 1, 0, _, _, _ => exact amNar_n.elim (fun h => Or.inr (hf _ h)) (fun h => Or.inl (hf _ h))
    | n + 2, _, hi, _, _ => omega
    | 0, n + 2, _, hj, _ => omega
    | 1, n + 2, _, hj, _ => omega) hA
  refine ⟨adK, adV, ⟨h1, ?_, ?_⟩, ?_, ?_⟩
  · exact va_Zof (hts _ (List.mem_of_getElem? (i := 709) (by decide +kernel))) (hts _ (List.mem_of_getElem? (i := 181) (by decide +kernel))) (va_eqt (hf _ amNar_s.1)) hA
  · exact va_Zqof (hts _ (List.mem_of_getElem? (i := 725) (by decide +kernel))) (hts _ (List.mem_of_getElem? (i := 183) (by decide +kernel))) (hf _ amNar_s.2) hA
  · exact vk_R.of (hts _ (List.mem_of_getElem? (i := 699) (by decide +kernel))) (h2 0 (by decide))
  · exact vk_R.of (hts _ (List.mem_of_getElem? (i := 748) (by decide +kernel))) (h2 1 (by decide))
/-- the classes and array classes, as the tables have them -/
theorem am_classes {s : State} {b : Nat} (hts : ∀ w ∈ lw_tbl, w.before #[Value.ref b] s = true) : ∃ (D : va_G) (cA : Nat → ClassId), va_K D amClasses (amTys cA) s := by
  have hts0 : ∀ w ∈ amT0, w.before #[Value.ref b] s = true := fun w hw => hts w (List.mem_filter.mp hw).1
  have h1 : ∀ k : Nat, ∃ x : ClassId × (Nat → Nat), ∀ q : vw_C, amClasses[k]? = some q → u_Kn s q.1 q.2.1 q.2.2 x.1 x.2 := by
    intro k
    by_cases hk : k < 13
    · obtain ⟨c1, c2, -⟩ := amCl_ok hk
      obtain ⟨cC, iS, hx⟩ := u_known hts0 c2 (hts0 _ (amInst k hk))
      exact ⟨(cC, iS), fun q hq => by rw [c1] at hq; cases hq; exact hx⟩
    · refine ⟨(0, fun _ => 0), fun q hq => ?_⟩
      have := (List.getElem?_eq_some_iff.mp hq).1
      exact absurd (show k < 13 from this) hk
  obtain ⟨f, hf⟩ := Classical.axiomOfChoice h1
  obtain ⟨cI, i1, i2⟩ := amArr_ty (hts0 _ amAc_int) (Or.inl rfl)
  obtain ⟨cL, l1, l2⟩ := amArr_ty (hts0 _ amAc_long) (Or.inr (Or.inl rfl))
  obtain ⟨cB, b1, b2⟩ := amArr_ty (hts0 _ amAc_byte) (Or.inr (Or.inr (Or.inl rfl)))
  obtain ⟨cZ, z1, z2⟩ := amArr_ty (hts0 _ amAc_boolean) (Or.inr (Or.inr (Or.inr rfl)))
  obtain ⟨cS, s1, s2⟩ := amArr_ob (C := "SaltStairs$Scene") (hts _ (List.mem_of_getElem? (i := 454) (by decide +kernel)))
  obtain ⟨cT, t1, t2⟩ := amArr_ob (C := "SaltStairs$Stairs") (hts _ (List.mem_of_getElem? (i := 464) (by decide +kernel)))
  refine ⟨(fun k => (f k).1, fun k => (f k).2), fun k => match k with
    | 20 => cI
    | 21 => cL
    | 22 => cB
    | 23 => cZ
    | 24 => cS
    | _ => cT, fun c q hq => hf c q hq, fun k q hk => ?_⟩
  match k, hk with
  | 0, hk => cases hk; exact ⟨i1, i2⟩
  | 1, hk => cases hk; exact ⟨l1, l2⟩
  | 2, hk => cases hk; exact ⟨b1, b2⟩
  | 3, hk => cases hk; exact ⟨z1, z2⟩
  | 4, hk => cases hk; exact ⟨s1, s2⟩
  | 5, hk => cases hk; exact ⟨t1, t2⟩
  | n + 6, hk => simp [amTys] at hk
set_option maxRecDepth 100000 in
theorem amSz_all : amSz 470 ≤ 7302250 ∧ 470 ≤ 600000 := by decide +kernel
/-- from the law's entry to its end, if the small machine comes to 1 -/
theorem am_start (hpure : amPure) {p : Program} {e : Env} {s : State} {m : MethodId} {below : List Frame} {meth : Method} {c : Code} (l : Launch) {b L : Nat} {xs : Nat → Int32} (hL : L ≤ 3072) (C0 : lw_At p s m meth c b L xs) : W p l e room_1 s m #[Value.ref b] below meth c s.heap [] 0 0 (lw_Z below #[Value.ref b] s) (entryFrame m ([Value.ref b] : List Value).toArray 4) := by
  obtain ⟨hx, hb, hr, hml, hown, hts, hX, hbl, hlocks, hgv⟩ := id C0
  have hA : ∀ a : Nat, a < s.heap.size → ¬ (fun q : Nat => s.heap.size ≤ q) a := fun a h => Nat.not_le.mpr h
  obtain ⟨adK, adV, hVS, hR1, hR2⟩ := am_const (A := fun q => s.heap.size ≤ q) hts hgv hA
  obtain ⟨D, cA, hK⟩ := am_classes hts
  have hts0 : ∀ w ∈ amT0, w.before #[Value.ref b] s = true := fun w hw => hts w (List.mem_filter.mp hw).1
  generalize had : (fun c s => if c = 90 then b else if c = 98 then adK 0 else if c = 99 then adK 1 else 0 : Nat → Nat → Nat) = ad
  have h90 : ad 90 0 = b := by rw [← had]; rfl
  have h98 : ad 98 0 = adK 0 := by rw [← had]; rfl
  have h99 : ad 99 0 = adK 1 := by rw [← had]; rfl
  generalize hZ : ((ad, [], amGz, cA, D, (fun q => s.heap.size ≤ q), xs, L) : AmZ) = Z
  have z1 : zL Z = L := by rw [← hZ]
  have z2 : zX Z = xs := by rw [← hZ]
  have z3 : zA Z = fun q => s.heap.size ≤ q := by rw [← hZ]
  have z4 : zD Z = D := by rw [← hZ]
  have z5 : zC Z = cA := by rw [← hZ]
  have hKS : amKS (zz Z ad 0 amGz) s := by
    refine ⟨?_, fun w hw => ?_, ?_, ?_⟩
    · show va_K (zD Z) amClasses (amTys (zC Z)) s
      rw [z4, z5]; exact hK
    · have hwm := List.mem_filter.mp hw
      have h2 : amNest w = true := hwm.2
      refine va_Nw.of ?_ (hts w hwm.1)
      cases w <;> first | (cases h2; done) | rfl
    · show vk_R RX7 84 amWordsT (ad 98 0) s
      rw [h98]; exact hR1
    · show vk_R RX7 73 amSignsT (ad 99 0) s
      rw [h99]; exact hR2
  have hXS : amXS (zz Z ad 0 amGz) s s.heap := by
    refine ⟨?_, ?_, ?_, adV, ?_⟩
    · show va_X (ad 90 0) (zL Z) (zX Z) s s.heap
      rw [h90, z1, z2]; exact hX
    · show ad 90 0 < s.heap.size
      rw [h90]; exact hbl
    · show ¬ zA Z (ad 90 0)
      rw [h90, z3]; exact hA b hbl
    · show amVS 2 [amWords.length, amSigns.length] [amWordsI, amSignsI] (fun i => ad (98 + i) 0) adV (zA Z) s s.heap
      rw [z3]
      have hk : ∀ i, i < 2 → ad (98 + i) 0 = adK i := fun i hi => by
        match i, hi with
        | 0, _ => exact h98
        | 1, _ => exact h99
        | n + 2, hi => omega
      obtain ⟨⟨k1, k2⟩, k3⟩ := hVS
      refine ⟨⟨fun i hi => ?_, fun i j hi hj he => k2 i j hi hj ?_⟩, k3⟩
      · have k4 := k1 i hi
        show va_O "java/lang/String" (ad (98 + i) 0) _ s s.heap ∧ va_OF "java/lang/String" "coder" "B" (.int 0) (ad (98 + i) 0) _ s s.heap ∧ va_OF "java/lang/String" "value" "[B" (.ref (adV i)) (ad (98 + i) 0) _ s s.heap ∧ va_T .byte (adV i) _ _ _ s s.heap
        rw [hk i hi]; exact k4
      · have he : ad (98 + i) 0 = ad (98 + j) 0 := he
        rw [hk i hi, hk j hj] at he
        exact he
  have hAO : amAOs s := ⟨va_AO.of (hts _ (List.mem_of_getElem? (i := 454) (by decide +kernel))), va_AO.of (hts _ (List.mem_of_getElem? (i := 464) (by decide +kernel)))⟩
  have hS : CallFix p m c code 4 s #[Value.ref b] amT0 (amR 13) := ⟨hx, hb, hml, hown, hts0⟩
  generalize hXX : (fun s j => if s = 1 then (if j = 0 then (L : Int) else 0) else if s = 0 ∧ j < L then (xs j).toInt else 0 : Nat → Nat → Int) = X
  have x1 : X 1 0 = (L : Int) := by rw [← hXX]; rfl
  have x2 : ∀ j, j < L → X 0 j = (xs j).toInt := fun j hj => by rw [← hXX]; show (if (0 : Nat) = 1 then _ else if (0 : Nat) = 0 ∧ j < L then _ else _) = _; rw [if_neg (by decide), if_pos ⟨rfl, hj⟩]
  have x3 : ∀ s j, i32 (X s j) := fun s j => by
    rw [← hXX]
    show i32 (if s = 1 then (if j = 0 then (L : Int) else 0) else if s = 0 ∧ j < L then (xs j).toInt else 0)
    split
    · split
      · unfold i32; omega
      · unfold i32; omega
    · split
      · exact toInt_i _
      · unfold i32; omega
  have hI0 : amI (ov X amZ0) := fun c s j => by
    unfold ov
    cases hc : c == 90 with
    | true => simp only [cond_true]; have := x3 s j; exact ⟨fun _ => this, by unfold i32 at this; unfold i64; omega⟩
    | false => simp only [cond_false]; exact ⟨fun _ => by show i32 0; unfold i32; omega, by show i64 0; unfold i64; omega⟩
  have hfx0 : amFx1 (zz Z ad 0 amGz) := ⟨fun i j n h => (by have h : ([] : List (Nat × Nat))[i]? = some n := h; simp at h), by show zL Z ≤ 3072; rw [z1]; exact hL, fun n h => (by have h : n ∈ ([] : List (Nat × Nat)) := h; simp at h), fun n h => (by have h : n ∈ ([] : List (Nat × Nat)) := h; simp at h)⟩
  obtain ⟨ls, he, g1, g2, g3, g4⟩ := am_entry1 (ad := ad) (as := [vR 20 90 0]) (N := 4) (al := amFull.take 0) (fun w hw => by
    rw [List.mem_singleton.mp hw]
    exact ⟨⟨by decide +kernel, Or.inr ⟨Or.inl rfl, rfl⟩⟩, trivial⟩) rfl (by decide) m
  have he : entryFrame m ([Value.ref (ad 90 0)] : List Value).toArray 4 = F0 m 0 ls (([] : List AmV).map (amV ad)) := he
  rw [h90] at he
  rw [he]
  have hrel : amRel (zz Z ad 0 amGz) s.heap 4 [] [vR 20 90 0, vU, vU, vU] [] (ov X amZ0) ls s.heap [] := ⟨g1, g2, g3, g4, fun w hw => (by simp at hw), fun k q h => (by have h : ([] : va_W)[k]? = some q := h; simp at h), ⟨fun i j x y h => (by have h : ([] : va_W)[i]? = some x := h; simp at h), fun k x h => (by have h : ([] : va_W)[k]? = some x := h; simp at h)⟩, va_S.rf, hI0, by show X 1 0 = (zL Z : Int); rw [z1]; exact x1, fun j hj => by have hj : j < zL Z := hj; show X 0 j = (zX Z j).toInt; rw [z2]; rw [z1] at hj; exact x2 j hj⟩
  obtain ⟨M2, G2, M3, G3, hc1, hc2, hG, hM⟩ := am_first X
  have hB := am_lawB hc1 hc2
  refine am_run1 (Z := Z) (R := room_1) (am_sound1 l Z 0 5) (amD1_n 5) hS hAO (Nat.zero_le _) (fun q h => by rw [z3]; exact h) (Or.inr rfl) ⟨by show 5 + 31 ≤ 2048; omega, by show 6100 + 200 * 5 ≤ 84000; omega⟩ amChkQ_L 10 0 _ [] (ov X amZ0) amGz 0 0 0 ad ls s.heap [] hB ⟨?_, ?_⟩ hKS hXS hfx0 hrel fun ad' ls' H' locs' hag hfx' hr' => ?_
  · show 0 + (470 - 0) ≤ 600000
    have := amSz_all.2; omega
  · show 0 + (amSz 470 - amSz 0) ≤ 7302250
    have := amSz_all.1; omega
  · have hpu := hr'.2.2.2.2.2.2.2.2
    obtain ⟨d, M', hd, hrun⟩ := hpure (ov X M3) L (amChkM_of hL x1 hpu.1 hM)
    obtain ⟨n, hn⟩ := amRun_ex hrun
    have hKS' : amKS (zz Z ad' 470 amGst) s := amKS_agr hag hKS
    have hXS' : amXS (zz Z ad' 470 amGst) s s.heap := amXS_agr hag hXS
    have hrel' : amRel (zz Z ad' 470 amGst) s.heap 4 [] [vR 20 90 0, vR 11 11 0, vR 12 12 0, vI 0] [] (ov X M3) ls' H' locs' := ⟨hr'.1, hr'.2.1, hr'.2.2.1, hr'.2.2.2.1, hr'.2.2.2.2.1, am_regraph hG rfl hr'.2.2.2.2.2.1, amD_regraph hr'.2.2.2.2.2.2.1, hr'.2.2.2.2.2.2.2⟩
    refine am_law (Z := zz Z ad' 470 amGst) rfl (am_str _) hd hx hb hr hml hown hts hlocks hKS' hXS' (amFx_regraph hG hfx') (fun q h => by have h : zA Z q := h; rw [z3] at h; exact h) ?_ ?_ hn hrel'
    · have := amSz_all.2; omega
    · have := amSz_all.1; omega
