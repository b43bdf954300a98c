/-! THE TIE between the small machine and the real one -/
theorem i32_of {x : Int} (h : i32 x) : (Int32.ofInt x).toInt = x := Int32.toInt_ofInt_of_le (by unfold i32 at h; omega) (by unfold i32 at h; omega)
theorem i64_of {x : Int} (h : i64 x) : (Int64.ofInt x).toInt = x := Int64.toInt_ofInt_of_le (by unfold i64 at h; omega) (by unfold i64 at h; omega)
theorem w32_b (x : Int) : w32 x = x.bmod 4294967296 := by unfold w32; rw [Int.bmod_def]; split <;> omega
theorem w64_b (x : Int) : w64 x = x.bmod 18446744073709551616 := by unfold w64; rw [Int.bmod_def]; split <;> omega
theorem of_w32 (x : Int) : Int32.ofInt (w32 x) = Int32.ofInt x := Int32.toInt_inj.mp (by rw [i32_of (w32_i x), Int32.toInt_ofInt, w32_b])
theorem of_w64 (x : Int) : Int64.ofInt (w64 x) = Int64.ofInt x := Int64.toInt_inj.mp (by rw [i64_of (w64_i x), Int64.toInt_ofInt, w64_b])
theorem toInt_i (x : Int32) : i32 x.toInt := ⟨by have := x.le_toInt; omega, by have := x.toInt_lt; omega⟩
theorem toInt_l (x : Int64) : i64 x.toInt := ⟨by have := x.le_toInt; omega, by have := x.toInt_lt; omega⟩
theorem of_lt {x y : Int} (hx : i32 x) (hy : i32 y) : Int32.ofInt x < Int32.ofInt y ↔ x < y := by rw [Int32.lt_iff_toInt_lt, i32_of hx, i32_of hy]
theorem of_eq {x y : Int} (hx : i32 x) (hy : i32 y) : Int32.ofInt x = Int32.ofInt y ↔ x = y := by rw [← Int32.toInt_inj, i32_of hx, i32_of hy]
theorem of_le {x y : Int} (hx : i32 x) (hy : i32 y) : Int32.ofInt x ≤ Int32.ofInt y ↔ x ≤ y := by rw [Int32.le_iff_toInt_le, i32_of hx, i32_of hy]
theorem of_div {x y : Int} (hx : i32 x) (hy : i32 y) : Int32.ofInt x / Int32.ofInt y = Int32.ofInt (w32 (Int.tdiv x y)) := Int32.toInt_inj.mp (by rw [Int32.toInt_div, i32_of hx, i32_of hy, i32_of (w32_i _), w32_b])
theorem of_ldiv {x y : Int} (hx : i64 x) (hy : i64 y) : Int64.ofInt x / Int64.ofInt y = Int64.ofInt (w64 (Int.tdiv x y)) := Int64.toInt_inj.mp (by rw [Int64.toInt_div, i64_of hx, i64_of hy, i64_of (w64_i _), w64_b])
theorem tmod_i {x y : Int} (hx : i32 x) (hy : y ≠ 0) (hy2 : i32 y) : i32 (Int.tmod x y) := by
  unfold i32 at *
  rcases Int.lt_or_le y 0 with h | h
  · have h1 := tmod_bounds (a := x) (M := -y) (by omega)
    rw [Int.tmod_neg] at h1
    omega
  · have h1 := tmod_bounds (a := x) (M := y) (by omega)
    omega
theorem of_rem {x y : Int} (hx : i32 x) (hy : i32 y) (h0 : y ≠ 0) : Int32.ofInt x - Int32.ofInt x / Int32.ofInt y * Int32.ofInt y = Int32.ofInt (Int.tmod x y) := Int32.toInt_inj.mp (by rw [rem_toInt, i32_of hx, i32_of hy, i32_of (tmod_i hx h0 hy)])
theorem of_in {j : Int} {n : Nat} (hj : i32 j) : vp_in (Int32.ofInt j) n ↔ 0 ≤ j ∧ j < n := by rw [vp_in_iff, i32_of hj]
theorem of_cl {j : Int} (hj : i32 j) : (Int32.ofInt j).toNatClampNeg = j.toNat := Int32.toNatClampNeg_ofInt_of_le (by unfold i32 at hj; omega) (by unfold i32 at hj; omega)
theorem of_8 {x : Int} (h : i32 x) : (Int32.ofInt x).toInt8.toInt32 = Int32.ofInt (w8 x) := Int32.toInt_inj.mp (by
  have e : w8 x = x.bmod 256 := by unfold w8; rw [Int.bmod_def]; split <;> omega
  rw [Int8.toInt_toInt32, Int32.toInt_toInt8, i32_of h, i32_of (by unfold w8 i32; omega), e])
theorem w8_i (x : Int) : i32 (w8 x) := by unfold w8 i32; omega
theorem of_2l {x : Int} (h : i32 x) : (Int32.ofInt x).toInt64 = Int64.ofInt x := Int64.toInt_inj.mp (by
  rw [Int32.toInt_toInt64, i32_of h, i64_of (by unfold i32 at h; unfold i64; omega)])
theorem of_2i {x : Int} (h : i64 x) : (Int64.ofInt x).toInt32 = Int32.ofInt (w32 x) := Int32.toInt_inj.mp (by
  rw [Int64.toInt_toInt32, i64_of h, i32_of (w32_i x), w32_b])
theorem of_2c {x : Int} (h : i32 x) : ((Int32.ofInt x).toUInt32 % 65536).toInt32 = Int32.ofInt (x % 65536) := by
  have h1 : i32 (x % 65536) := by unfold i32; omega
  have key : ((Int32.ofInt x).toUInt32 % 65536).toNat = (x % 65536).toNat := by
    have : (Int32.ofInt x).toUInt32.toNat = (x % 4294967296).toNat := by
      show (BitVec.ofInt 32 x).toNat = _
      rw [BitVec.toNat_ofInt]
      rfl
    rw [UInt32.toNat_mod, this]
    show (x % 4294967296).toNat % 65536 = _
    omega
  refine Int32.toInt_inj.mp ?_
  rw [i32_of h1]
  have h2 : (((Int32.ofInt x).toUInt32 % 65536).toInt32).toInt = ((((Int32.ofInt x).toUInt32 % 65536).toNat : Nat) : Int).bmod 4294967296 := by
    show BitVec.toInt _ = _
    rw [BitVec.toInt_eq_toNat_bmod]
    rfl
  rw [h2, key, Int.bmod_def]
  split <;> omega
theorem of_cmp {x y : Int} (hx : i64 x) (hy : i64 y) : lg_cmp (Int64.ofInt x) (Int64.ofInt y) = Int32.ofInt (amCmp x y) := by
  have a1 : Int64.ofInt y < Int64.ofInt x ↔ y < x := by rw [Int64.lt_iff_toInt_lt, i64_of hx, i64_of hy]
  have a2 : Int64.ofInt x = Int64.ofInt y ↔ x = y := by rw [← Int64.toInt_inj, i64_of hx, i64_of hy]
  unfold lg_cmp amCmp
  simp only [a1, a2]
  rcases Int.lt_trichotomy x y with h | h | h
  · rw [if_neg (by omega), if_neg (by omega), if_pos h]; rfl
  · rw [if_neg (by omega), if_pos h, if_neg (by omega), if_pos h]; rfl
  · rw [if_pos h, if_neg (by omega), if_neg (by omega)]; rfl
theorem amCmp_i (x y : Int) : i32 (amCmp x y) := by unfold amCmp i32; split <;> (try split) <;> omega
/-- (addresses, names, graph, array classes, classes, what may change, script, its length) -/
abbrev AmZ : Type := (Nat → Nat → Nat) × List (Nat × Nat) × AmG × (Nat → ClassId) × va_G × (Nat → Prop) × (Nat → Int32) × Nat
abbrev zAd (Z : AmZ) := Z.1
abbrev zAl (Z : AmZ) := Z.2.1
abbrev zG (Z : AmZ) := Z.2.2.1
abbrev zC (Z : AmZ) := Z.2.2.2.1
abbrev zD (Z : AmZ) := Z.2.2.2.2.1
abbrev zA (Z : AmZ) := Z.2.2.2.2.2.1
abbrev zX (Z : AmZ) := Z.2.2.2.2.2.2.1
abbrev zL (Z : AmZ) := Z.2.2.2.2.2.2.2
def amV (ad : Nat → Nat → Nat) : AmV → Value
  | .inl none => .null
  | .inl (some (_, c, s)) => .ref (ad c s)
  | .inr (.inl x) => .int (Int32.ofInt x)
  | .inr (.inr (.inl x)) => .long (Int64.ofInt x)
  | .inr (.inr (.inr _)) => .null
def amOkN (al : List (Nat × Nat)) (c s : Nat) : Prop := ((c, s) ∈ al ∧ c ≠ 90 ∧ c ≠ 98 ∧ c ≠ 99) ∨ ((c = 90 ∨ c = 98 ∨ c = 99) ∧ s = 0)
def amOk (al : List (Nat × Nat)) : AmV → Prop
  | .inl none => True
  | .inl (some (k, c, s)) => amKndL.getD c 99 = k ∧ amOkN al c s
  | .inr (.inl x) => i32 x
  | .inr (.inr (.inl x)) => i64 x
  | .inr (.inr (.inr _)) => True
def amSet : AmV → Prop
  | .inr (.inr (.inr _)) => False
  | _ => True
def amFv (ad : Nat → Nat → Nat) (c : Nat) (f : Nat → Int) (g : Nat → AmV) (j : Nat) : Value := match (amFkL.getD c []).getD j 0 with
  | 2 => amV ad (g j)
  | _ => .int (Int32.ofInt (f j))
def amRf (ad : Nat → Nat → Nat) : AmV → Option Nat
  | .inl (some (_, c, s)) => some (ad c s)
  | _ => none
def amArr (ad : Nat → Nat → Nat) (c : Nat) (f : Nat → Int) (g : Nat → AmV) : vp_A := (amLenL.getD c 0, match amKndL.getD c 99 with
  | 21 => .inr (.inl fun j => Int64.ofInt (f j))
  | 24 => .inr (.inr (.inr (.inr fun j => amRf ad (g j))))
  | 25 => .inr (.inr (.inr (.inr fun j => amRf ad (g j))))
  | _ => .inl fun j => Int32.ofInt (f j))
def amCell (cA : Nat → ClassId) (ad : Nat → Nat → Nat) (c : Nat) (f : Nat → Int) (g : Nat → AmV) : va_E := if c < 13 then .inr (c, (List.range (amFkL.getD c []).length).map (amFv ad c f g)) else .inl (cA (amKndL.getD c 99), amArr ad c f g)
def amW (Z : AmZ) (M : AmM) : va_W := (zAl Z).map fun n => (zAd Z n.1 n.2, amCell (zC Z) (zAd Z) n.1 (M n.1 n.2) (zG Z n.1 n.2))
def amTys (cA : Nat → ClassId) : List (ClassId × FieldType) := [(cA 20, .int), (cA 21, .long), (cA 22, .byte), (cA 23, .boolean), (cA 24, .object "SaltStairs$Scene"), (cA 25, .object "SaltStairs$Stairs")]
def amI (M : AmM) : Prop := ∀ c s j, (amKndL.getD c 99 ≠ 21 → i32 (M c s j)) ∧ i64 (M c s j)
def amX (Z : AmZ) (M : AmM) : Prop := M 90 1 0 = (zL Z : Int) ∧ ∀ j, j < zL Z → M 90 0 j = (zX Z j).toInt
def amInj (l : List (Nat × Nat)) : Prop := ∀ (i j : Nat) (n : Nat × Nat), l[i]? = some n → l[j]? = some n → i = j
def amGood (w : Jvm.Cond) : Bool := goodWord w
def amT0 : List Jvm.Cond := lw_tbl.filter amGood
def amNest (w : Jvm.Cond) : Bool := match w with
  | .fieldLinkNest _ _ _ _ _ _ => true
  | .methodLinkNest _ _ _ _ => true
  | _ => false
def amNs : List Jvm.Cond := lw_tbl.filter amNest
def amWordsT : String := "steps   rain    brine   pilgrim law     if      then    else    plain   knees   long    stays   weight  thick   step    day     wet     up      gone    "
def amSignsT : String := ";=+-*/<()"
def amWordsI : List Int32 := amWords.map fun n => Int32.ofNat n
def amSignsI : List Int32 := amSigns.map fun n => Int32.ofNat n
/-- the String constants, and the statics that their methods read -/
def amVS (N : Nat) (len : List Nat) (byt : List (List Int32)) (adK adV : Nat → Nat) (A : Nat → Prop) (U : State) (H : Heap) : Prop :=
  vk_S N len byt adK adV A U H ∧ va_Z "java/lang/String" "COMPACT_STRINGS" "Z" (.int 1) A U H ∧ va_Zq "jdk/internal/util/Preconditions" "SIOOBE_FORMATTER" "Ljava/util/function/BiFunction;" A U H
theorem amVS.moved {N : Nat} {len : List Nat} {byt : List (List Int32)} {adK adV : Nat → Nat} {A : Nat → Prop} {H : Heap} {u U : State} (hvm : u.vm.Alike U.vm) (h : amVS N len byt adK adV A u H) : amVS N len byt adK adV A U H := ⟨vk_S.moved hvm h.1, va_Z.moved hvm h.2.1, va_Zq.moved hvm h.2.2⟩
theorem amVS.kept {N : Nat} {len : List Nat} {byt : List (List Int32)} {adK adV : Nat → Nat} {A : Nat → Prop} {H : Heap} {U : State} {H1 : Heap} (h : amVS N len byt adK adV A U H) (hq : ∀ a : Nat, a < H.size → ¬ A a → H1[a]? = H[a]?) : amVS N len byt adK adV A U H1 := ⟨h.1.kept hq, h.2.1.kept hq, h.2.2.kept hq⟩
/-- what the classes, links and constants are, at a state -/
def amKS (Z : AmZ) (U : State) : Prop := va_K (zD Z) amClasses (amTys (zC Z)) U ∧ (∀ w ∈ amNs, va_Nw w U) ∧ vk_R RX7 84 amWordsT (zAd Z 98 0) U ∧ vk_R RX7 73 amSignsT (zAd Z 99 0) U
/-- what stands outside the world: the script (and the String constants) -/
def amXS (Z : AmZ) (U : State) (H : Heap) : Prop := va_X (zAd Z 90 0) (zL Z) (zX Z) U H ∧ zAd Z 90 0 < H.size ∧ ¬ zA Z (zAd Z 90 0) ∧ ∃ adV : Nat → Nat, amVS 2 [amWords.length, amSigns.length] [amWordsI, amSignsI] (fun i => zAd Z (98 + i) 0) adV (zA Z) U H
/-- what never changes in a run -/
def amFx (Z : AmZ) : Prop := amInj (zAl Z) ∧ zL Z ≤ 3072 ∧ (∀ n ∈ zAl Z, n.1 < 13 ∨ 100 ≤ n.1) ∧ (∀ n ∈ zAl Z, ∀ j, (n.1 < 13 → (amFkL.getD n.1 []).getD j 0 = 2 → amOk (zAl Z) (zG Z n.1 n.2 j) ∧ amSet (zG Z n.1 n.2 j) ∧ ∃ r, zG Z n.1 n.2 j = .inl r) ∧ (j < amLenL.getD n.1 0 → amKndL.getD n.1 99 = 24 ∨ amKndL.getD n.1 99 = 25 → amOk (zAl Z) (zG Z n.1 n.2 j) ∧ ∃ r, zG Z n.1 n.2 j = .inl r))
/-- a frame and a world, small and real -/
def amRel (Z : AmZ) (H0 : Heap) (nL : Nat) (lg : List Nat) (L st : List AmV) (M : AmM) (ls : Array Slot) (H : Heap) (locs : List Loc) : Prop :=
  (ls.size = nL ∧ lv_wf ls ∧ ∀ (i : Nat) (v : AmV), L[i]? = some v → amSet v → ls[i]? = some (.val (amV (zAd Z) v))) ∧ L.length = nL ∧ (∀ v ∈ L, amOk (zAl Z) v) ∧ (∀ (i : Nat) (x : Int), L[i]? = some (vL x) → i ∈ lg) ∧ (∀ v ∈ st, amOk (zAl Z) v ∧ amSet v) ∧
  va_P (zD Z) amClasses (amW Z M) H ∧ va_D (zA Z) (amW Z M) ∧ va_S (zA Z) H0 H locs ∧ amI M ∧ amX Z M
theorem amRel.st {Z : AmZ} {H0 H : Heap} {nL : Nat} {lg : List Nat} {L st st' : List AmV} {M : AmM} {ls : Array Slot} {locs : List Loc} (h : amRel Z H0 nL lg L st M ls H locs) (hs : ∀ v ∈ st', amOk (zAl Z) v ∧ amSet v) : amRel Z H0 nL lg L st' M ls H locs :=
  ⟨h.1, h.2.1, h.2.2.1, h.2.2.2.1, hs, h.2.2.2.2.2⟩
theorem amRel.top {Z : AmZ} {H0 H : Heap} {nL : Nat} {lg : List Nat} {L st : List AmV} {M : AmM} {ls : Array Slot} {locs : List Loc} (h : amRel Z H0 nL lg L st M ls H locs) {v : AmV} (hv : v ∈ st) : amOk (zAl Z) v := (h.2.2.2.2.1 v hv).1
theorem amSet_ne {v : AmV} (h : amSet v) : v ≠ vU := fun e => by subst e; exact h
theorem amW_at {Z : AmZ} {M : AmM} {c s : Nat} (h : (c, s) ∈ zAl Z) : ∃ p : Nat, (zAl Z)[p]? = some (c, s) ∧ (amW Z M)[p]? = some (zAd Z c s, amCell (zC Z) (zAd Z) c (M c s) (zG Z c s)) := by
  obtain ⟨p, hp⟩ := List.getElem?_of_mem h
  exact ⟨p, hp, by simp [amW, hp]⟩
theorem amW_set {Z : AmZ} {M M' : AmM} {c s p : Nat} {x : va_E} (hn : amInj (zAl Z)) (hp : (zAl Z)[p]? = some (c, s)) (hM : ∀ c' s', ¬ (c' = c ∧ s' = s) → M' c' s' = M c' s') (hx : x = amCell (zC Z) (zAd Z) c (M' c s) (zG Z c s)) : (amW Z M).set p (zAd Z c s, x) = amW Z M' := by
  apply List.ext_getElem?
  intro i
  by_cases hi : i = p
  · subst hi
    have hl : i < (amW Z M).length := by unfold amW; rw [List.length_map]; exact (List.getElem?_eq_some_iff.mp hp).1
    rw [List.getElem?_set_self hl]
    simp [amW, hp, hx]
  · rw [List.getElem?_set_ne (Ne.symm hi)]
    unfold amW
    rw [List.getElem?_map, List.getElem?_map]
    cases ha : (zAl Z)[i]? with
    | none => rfl
    | some n =>
      have hne : ¬ (n.1 = c ∧ n.2 = s) := by
        rintro ⟨e1, e2⟩
        apply hi
        have e : n = (c, s) := by rw [← e1, ← e2]
        rw [e] at ha
        exact hn i p _ ha hp
      simp only [Option.map_some]
      rw [hM n.1 n.2 hne]
theorem amUp_off {M : AmM} {c s j : Nat} {v : Int} {c' s' : Nat} (h : ¬ (c' = c ∧ s' = s)) : amUp M c s j v c' s' = M c' s' := by
  funext j'
  unfold amUp
  have : (c' == c && (s' == s && j' == j)) = false := by
    by_cases h1 : c' = c
    · by_cases h2 : s' = s
      · exact absurd ⟨h1, h2⟩ h
      · simp [h2]
    · simp [h1]
  rw [this]
  rfl
theorem amUp_on {M : AmM} {c s j : Nat} {v : Int} {j' : Nat} : amUp M c s j v c s j' = if j' = j then v else M c s j' := by
  unfold amUp
  by_cases h : j' = j
  · simp [h]
  · have e : (j' == j) = false := beq_false_of_ne h
    simp [e, h]
theorem amUp_I {M : AmM} {c s j : Nat} {v : Int} (h : amI M) (hv : amKndL.getD c 99 ≠ 21 → i32 v) (hv2 : i64 v) : amI (amUp M c s j v) := by
  intro c' s' j'
  by_cases hc : c' = c ∧ s' = s
  · obtain ⟨rfl, rfl⟩ := hc
    rw [amUp_on]
    by_cases hj : j' = j
    · rw [if_pos hj]; exact ⟨hv, hv2⟩
    · rw [if_neg hj]; exact h c' s' j'
  · rw [amUp_off hc]; exact h c' s' j'
theorem amUp_X {Z : AmZ} {M : AmM} {c s j : Nat} {v : Int} (h : amX Z M) (hc : c ≠ 90) : amX Z (amUp M c s j v) := by
  refine ⟨?_, fun k hk => ?_⟩
  · rw [amUp_off (by omega)]; exact h.1
  · rw [amUp_off (by omega)]; exact h.2 k hk
