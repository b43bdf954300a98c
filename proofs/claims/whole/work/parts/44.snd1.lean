/-! CONSTRUCTORS ARE SOUND -/
theorem amInv_mono {cal cal' : Nat → List AmV → AmM → Option (AmV × AmM)} (hc : ∀ mid as M r, cal mid as M = some r → cal' mid as M = some r) {nx a b q : Nat} {z : Int} {L st : List AmV} {M : AmM} {x : AmR} (h : amInv cal nx a b q z L st M = x) (hx : x ≠ amNo) : amInv cal' nx a b q z L st M = x := by
  have key : ∀ (as : List AmV) (f : List AmV → AmM → AmR), amPu z (cal a as M) f = x → amPu z (cal' a as M) f = x := by
    intro as f h
    cases hcal : cal a as M with
    | none => rw [hcal] at h; exact absurd h.symm hx
    | some r => rw [hc _ _ _ _ hcal]; rw [hcal] at h; exact h
  match q, h with
  | 0, h =>
    have h : (bif Nat.ble b st.length && Nat.ble (amCat (st.drop b)) 8 then amPu z (cal a (st.take b).reverse M) (fun r M' => .inl (nx, L, r ++ st.drop b, M')) else amNo) = x := h
    show (bif Nat.ble b st.length && Nat.ble (amCat (st.drop b)) 8 then amPu z (cal' a (st.take b).reverse M) (fun r M' => .inl (nx, L, r ++ st.drop b, M')) else amNo) = x
    cases hb : (Nat.ble b st.length && Nat.ble (amCat (st.drop b)) 8) with
    | false => rw [hb] at h; exact h
    | true => rw [hb] at h; simp only [cond_true] at h ⊢; exact key _ _ h
  | 1, h =>
    have h : (match st.drop (b - 1) with
      | .inl (some (_, c, _)) :: _ => bif c == amOwn.getD a 99 && (Nat.ble b st.length && Nat.ble (amCat (st.drop b)) 8) then amPu z (cal a (st.take b).reverse M) (fun r M' => .inl (nx, L, r ++ st.drop b, M')) else amNo
      | _ => (amNo : AmR)) = x := h
    show (match st.drop (b - 1) with
      | .inl (some (_, c, _)) :: _ => bif c == amOwn.getD a 99 && (Nat.ble b st.length && Nat.ble (amCat (st.drop b)) 8) then amPu z (cal' a (st.take b).reverse M) (fun r M' => .inl (nx, L, r ++ st.drop b, M')) else amNo
      | _ => (amNo : AmR)) = x
    split at h
    · rename_i k c s r hd
      show (bif c == amOwn.getD a 99 && (Nat.ble b st.length && Nat.ble (amCat (st.drop b)) 8) then amPu z (cal' a (st.take b).reverse M) (fun r M' => .inl (nx, L, r ++ st.drop b, M')) else amNo) = x
      cases hb : (c == amOwn.getD a 99 && (Nat.ble b st.length && Nat.ble (amCat (st.drop b)) 8)) with
      | false => rw [hb] at h; exact h
      | true => rw [hb] at h; simp only [cond_true] at h ⊢; exact key _ _ h
    · exact absurd h.symm hx
  | 2, h => exact h
  | 3, h => exact h
  | 4, h => exact h
  | 5, h => exact h
  | 6, h => exact h
  | 7, h => exact h
  | 8, h => exact h
  | 9, h => exact h
  | 10, h => exact h
  | 11, h => exact h
  | n + 12, h => exact h
theorem amEx_mono {G : AmG} {cal cal' : Nat → List AmV → AmM → Option (AmV × AmM)} (hc : ∀ mid as M r, cal mid as M = some r → cal' mid as M = some r) {i : Jvm.ClassFile.Instr} {nx a b q : Nat} {z : Int} {ts : List Nat} {L st : List AmV} {M : AmM} {x : AmR} (h : amEx G cal i nx a b q z ts L st M = x) (hx : x ≠ amNo) : amEx G cal' i nx a b q z ts L st M = x := by
  cases i
  case invokevirtual y => exact amInv_mono hc h hx
  case invokestatic y => exact amInv_mono hc h hx
  all_goals exact h
theorem amN_mono2 {G : AmG} {cal cal' : Nat → List AmV → AmM → Option (AmV × AmM)} (hc : ∀ mid as M r, cal mid as M = some r → cal' mid as M = some r) {cd : List (Option AmE)} {r : AmV × AmM} : ∀ (n : Nat) (c : AmC), amN (amStep G cal cd) n c = some r → amN (amStep G cal' cd) n c = some r
  | 0, _, h => h
  | n + 1, c, h => by
    unfold amN at h ⊢
    have hs : ∀ x : AmR, amStep G cal cd c = x → x ≠ amNo → amStep G cal' cd c = x := by
      intro x hx hne
      unfold amStep at hx ⊢
      cases hcd : cd[c.1]? with
      | none => rw [hcd] at hx; exact hx
      | some oe =>
        cases oe with
        | none => rw [hcd] at hx; exact hx
        | some en => rw [hcd] at hx; exact amEx_mono hc hx hne
    cases hx : amStep G cal cd c with
    | inl c' =>
      rw [hx] at h
      rw [hs _ hx (by intro h; cases h)]
      exact amN_mono2 hc n c' h
    | inr o =>
      rw [hx] at h
      have h : o = some r := h
      subst h
      rw [hs _ hx (by intro h; cases h)]
theorem amDf_D {G : AmG} : ∀ (d mid : Nat) (as : List AmV) (M : AmM) (r : AmV × AmM), amDf G d mid as M = some r → amD G d mid as M = some r
  | 0, _, _, _, _, h => by cases h
  | d + 1, mid, as, M, r, h => by
    have h : (bif Nat.ble (amLay as).length (amMaxL.getD mid 0) && amLgB (amLg.getD mid []) 0 (amLay as) then amN (amStep G (amDf G d) (amCodes.getD mid [])) 2000 (0, amEnt (amMaxL.getD mid 0) as, [], M) else none) = some r := h
    show (bif Nat.ble (amLay as).length (amMaxL.getD mid 0) && amLgB (amLg.getD mid []) 0 (amLay as) then amRun (amStep G (amD G d) (amCodes.getD mid [])) (0, amEnt (amMaxL.getD mid 0) as, [], M) else none) = some r
    cases hb : (Nat.ble (amLay as).length (amMaxL.getD mid 0) && amLgB (amLg.getD mid []) 0 (amLay as)) with
    | false => rw [hb] at h; cases h
    | true => rw [hb] at h; exact amRun_of (amN_mono2 (amDf_D d) _ _ h)
/-! names in order -/
def amSize (n : Nat × Nat) : Nat := if n.1 < 13 then (amFkL.getD n.1 []).length else amLenL.getD n.1 0
def amSz (n : Nat) : Nat := ((amFull.take n).map amSize).sum
theorem amTk_s {n : Nat} {x : Nat × Nat} (h : amFull[n]? = some x) : amFull.take (n + 1) = amFull.take n ++ [x] := by
  rw [List.take_add_one, h]; rfl
theorem amSz_s {n : Nat} {x : Nat × Nat} (h : amFull[n]? = some x) : amSz (n + 1) = amSz n + amSize x := by
  unfold amSz
  rw [amTk_s h]
  simp
theorem amTk_sub {n n' : Nat} (h : n ≤ n') {x : Nat × Nat} (hx : x ∈ amFull.take n) : x ∈ amFull.take n' := by
  have : amFull.take n = (amFull.take n').take n := by rw [List.take_take, Nat.min_eq_left h]
  rw [this] at hx
  exact List.mem_of_mem_take hx
theorem amSz_mono {n n' : Nat} (h : n ≤ n') : amSz n ≤ amSz n' := by
  unfold amSz
  have : amFull.take n' = amFull.take n ++ (amFull.take n').drop n := by
    conv => lhs; rw [← List.take_append_drop n (amFull.take n')]
    rw [List.take_take, Nat.min_eq_left h]
  rw [this]
  simp
def amNd : List Nat → Bool
  | [] => true
  | a :: l => l.all (fun b => !(Nat.beq a b)) && amNd l
theorem amNd_of : ∀ {l : List Nat}, amNd l = true → ∀ {i j a : Nat}, l[i]? = some a → l[j]? = some a → i = j
  | [], _, i, j, a, h, _ => by simp at h
  | b :: l, h, i, j, a, hi, hj => by
    unfold amNd at h
    simp only [Bool.and_eq_true, List.all_eq_true, Bool.not_eq_true'] at h
    obtain ⟨h1, h2⟩ := h
    have key : ∀ k : Nat, l[k]? = some b → False := fun k hk => by
      have := h1 b (List.mem_of_getElem? hk)
      rw [show Nat.beq b b = true from Nat.beq_refl b] at this
      cases this
    match i, j with
    | 0, 0 => rfl
    | 0, j + 1 => cases hi; exact (key j hj).elim
    | i + 1, 0 => cases hj; exact (key i hi).elim
    | i + 1, j + 1 => rw [amNd_of h2 (i := i) (j := j) (a := a) hi hj]
theorem amFull_nd : amNd (amFull.map fun n => n.1 * 1000 + n.2) = true := by decide +kernel
theorem amFull_k : ∀ n ∈ amFull, (n.1 < 13 ∨ 100 ≤ n.1) ∧ n.1 ≠ 90 := by decide +kernel
theorem amTk_new {n : Nat} {x : Nat × Nat} (h : amFull[n]? = some x) : x ∉ amFull.take n := by
  intro hx
  obtain ⟨i, hi⟩ := List.getElem?_of_mem hx
  have hl : i < (amFull.take n).length := (List.getElem?_eq_some_iff.mp hi).1
  have hin : i < n := by rw [List.length_take] at hl; omega
  rw [List.getElem?_take_of_lt hin] at hi
  have := amNd_of amFull_nd (i := i) (j := n) (a := x.1 * 1000 + x.2) (by rw [List.getElem?_map, hi]; rfl) (by rw [List.getElem?_map, h]; rfl)
  omega
/-! the state of a constructor -/
abbrev zz (Z : AmZ) (ad : Nat → Nat → Nat) (n : Nat) (G : AmG) : AmZ := amZn Z ad (amFull.take n) G
theorem amAgr.refl {al : List (Nat × Nat)} {ad : Nat → Nat → Nat} : amAgr al ad ad := fun _ _ _ => rfl
theorem amAgr.trans {n n' : Nat} {ad ad' ad2 : Nat → Nat → Nat} (h : amAgr (amFull.take n) ad ad') (hn : n ≤ n') (h' : amAgr (amFull.take n') ad' ad2) : amAgr (amFull.take n) ad ad2 := fun c s hc => by
  rw [h' c s (amOkN_mono (fun _ hx => amTk_sub hn hx) hc), h c s hc]
theorem amKS_agr {Z : AmZ} {ad ad' : Nat → Nat → Nat} {n n' : Nat} {G G' : AmG} {U : State} (hag : amAgr (amFull.take n) ad ad') (h : amKS (zz Z ad n G) U) : amKS (zz Z ad' n' G') U := by
  have h98 : ad' 98 0 = ad 98 0 := hag 98 0 (Or.inr ⟨by omega, rfl⟩)
  have h99 : ad' 99 0 = ad 99 0 := hag 99 0 (Or.inr ⟨by omega, rfl⟩)
  refine ⟨h.1, h.2.1, ?_, ?_⟩
  · show vk_R RX7 84 amWordsT (ad' 98 0) U
    rw [h98]; exact h.2.2.1
  · show vk_R RX7 73 amSignsT (ad' 99 0) U
    rw [h99]; exact h.2.2.2
theorem amXS_agr {Z : AmZ} {ad ad' : Nat → Nat → Nat} {n n' : Nat} {G G' : AmG} {U : State} {H : Heap} (hag : amAgr (amFull.take n) ad ad') (h : amXS (zz Z ad n G) U H) : amXS (zz Z ad' n' G') U H := by
  have h90 : ad' 90 0 = ad 90 0 := hag 90 0 (Or.inr ⟨by omega, rfl⟩)
  obtain ⟨h1, h2, h3, adV, ⟨h4, h6⟩, h5⟩ := h
  have hk : ∀ i, i < 2 → ad' (98 + i) 0 = ad (98 + i) 0 := fun i hi => hag (98 + i) 0 (Or.inr ⟨by omega, rfl⟩)
  refine ⟨?_, ?_, ?_, adV, ⟨fun i hi => ?_, fun i j hi hj => ?_⟩, h5⟩
  · show va_X (ad' 90 0) _ _ U H
    rw [h90]; exact h1
  · show ad' 90 0 < _
    rw [h90]; exact h2
  · show ¬ zA Z (ad' 90 0)
    rw [h90]; exact h3
  · have h7 := h4 i hi
    show va_O "java/lang/String" (ad' (98 + i) 0) _ U H ∧ va_OF "java/lang/String" "coder" "B" (.int 0) (ad' (98 + i) 0) _ U H ∧ va_OF "java/lang/String" "value" "[B" (.ref (adV i)) (ad' (98 + i) 0) _ U H ∧ va_T .byte (adV i) _ _ _ U H
    rw [hk i hi]; exact h7
  · show ad' (98 + i) 0 = ad' (98 + j) 0 → i = j
    rw [hk i hi, hk j hj]; exact h6 i j hi hj
def amAOs (U : State) : Prop := va_AO "SaltStairs$Scene" U ∧ va_AO "SaltStairs$Stairs" U
def amRm1 (d mc ms : Nat) : Room := { frames := d + 30, cells := mc, slots := ms, locals := 200 * d + 6000 }
def amPre1 (Z : AmZ) (lo : Nat) (as : List AmV) (M : AmM) : Array Value → State → Prop := fun v U => (v = (as.map (amV (zAd Z))).toArray ∧ amSt Z lo M U) ∧ amAOs U ∧ ∀ q, U.heap.size ≤ q → zA Z q
def amPost1 (Z : AmZ) (ad : Nat → Nat → Nat) (n : Nat) (M' : AmM) (G' : AmG) (n' : Nat) : Array Value → State → Outcome → State → Prop := fun _ st oc t => oc = .returned none ∧ st.heap.size ≤ t.heap.size ∧ (∀ q, q < st.heap.size → ¬ zA Z q → t.heap[q]? = st.heap[q]?) ∧ ∃ ad', amAgr (amFull.take n) ad ad' ∧ va_P (zD Z) amClasses (amW (zz Z ad' n' G') M') t.heap ∧ amPu0 (zz Z ad' n' G') M' ∧ amFx1 (zz Z ad' n' G')
def amAll1 (l : Launch) (Z : AmZ) (lo d : Nat) (cal1 : Nat → List AmV → AmM → AmG → Nat → Option (AmM × AmG × Nat)) : Prop :=
  ∀ (ct : Nat) (as : List AmV) (M : AmM) (G : AmG) (n : Nat) (M' : AmM) (G' : AmG) (n' : Nat), ct < 13 → cal1 ct as M G n = some (M', G', n') → n ≤ n' ∧ ∀ ad : Nat → Nat → Nat, (∀ w ∈ as, amOk (amFull.take n) w ∧ amSet w) → amFx1 (zz Z ad n G) → amPu0 (zz Z ad n G) M →
    Met l (amYc ct) (amWsC ct) (amRm1 d (n' - n) (amSz n' - amSz n)) (amPre1 (zz Z ad n G) lo as M) (amPost1 Z ad n M' G' n') (n' - n) (amSz n' - amSz n) (zA Z)
theorem amPre1_blind {Z : AmZ} {lo : Nat} {as : List AmV} {M : AmM} : FrameBlind (amPre1 Z lo as M) := by
  intro av U g mk h
  exact ⟨amPre_blind _ _ _ _ h.1, ⟨va_AO.moved (u := U) (U := U.calling g mk av) (Vm.Alike.refl U.vm) h.2.1.1, va_AO.moved (u := U) (U := U.calling g mk av) (Vm.Alike.refl U.vm) h.2.1.2⟩, h.2.2⟩
theorem amGoodInC {a : Nat} (h : amCtOk a) : GoodIn amT0 (amWsC a) := by
  intro w hw
  rcases List.mem_cons.mp hw with rfl | hw
  · exact amGoodT h.1
  · exact amGoodT hw
theorem amLift_l {r : AmR} {G G' : AmG} {n n' pc : Nat} {L st : List AmV} {M : AmM} (h : amLift r G n = .inl (pc, L, st, M, G', n')) : r = .inl (pc, L, st, M) ∧ G' = G ∧ n' = n := by
  rcases r with ⟨p, l, s, m⟩ | (_ | ⟨(_ | _ | _ | _), m⟩)
  · cases h; exact ⟨rfl, rfl, rfl⟩
  all_goals cases h
theorem amLift_r {r : AmR} {G G' : AmG} {n n' : Nat} {M : AmM} (h : amLift r G n = .inr (some (M, G', n'))) : r = .inr (some (vU, M)) ∧ G' = G ∧ n' = n := by
  rcases r with ⟨p, l, s, m⟩ | (_ | ⟨(_ | _ | _ | _), m⟩)
  all_goals first | (cases h; done) | skip
  cases h; exact ⟨rfl, rfl, rfl⟩
