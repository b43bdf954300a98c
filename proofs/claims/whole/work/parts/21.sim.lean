/-! instructions on locals and stack -/
theorem amRel.get {Z : AmZ} {H0 H : Heap} {nL : Nat} {lg : List Nat} {L st : List AmV} {M : AmM} {ls : Array Slot} {locs : List Loc} (h : amRel Z H0 nL lg L st M ls H locs) {k : Nat} {v : AmV} (hk : L[k]? = some v) (hs : amSet v) : ls[k]? = some (.val (amV (zAd Z) v)) ∧ amOk (zAl Z) v :=
  ⟨h.1.2.2 k v hk hs, h.2.2.1 v (List.mem_of_getElem? hk)⟩
def amLv (ad : Nat → Nat → Nat) (L : List AmV) : List (Nat × Value) := (List.range L.length).filterMap fun (i : Nat) => match (L[i]? : Option AmV) with
  | some (.inr (.inr (.inr ()))) => none
  | some v => some (i, amV ad v)
  | none => none
theorem amLv_mem {ad : Nat → Nat → Nat} {L : List AmV} {i : Nat} {v : AmV} (h : L[i]? = some v) (hs : amSet v) : (i, amV ad v) ∈ amLv ad L := by
  refine List.mem_filterMap.mpr ⟨i, List.mem_range.mpr (List.getElem?_eq_some_iff.mp h).1, ?_⟩
  rw [h]
  rcases v with r | x | x | x
  · rfl
  · rfl
  · rfl
  · exact absurd hs (fun q => q)
theorem amLv_of {ad : Nat → Nat → Nat} {L : List AmV} {q : Nat × Value} (h : q ∈ amLv ad L) : ∃ v, L[q.1]? = some v ∧ amSet v ∧ q.2 = amV ad v := by
  obtain ⟨i, -, hi⟩ := List.mem_filterMap.mp h
  cases hL : L[i]? with
  | none => rw [hL] at hi; cases hi
  | some v =>
    rw [hL] at hi
    rcases v with r | x | x | x
    · cases hi; exact ⟨_, hL, trivial, rfl⟩
    · cases hi; exact ⟨_, hL, trivial, rfl⟩
    · cases hi; exact ⟨_, hL, trivial, rfl⟩
    · cases hi
theorem amRel.has {Z : AmZ} {H0 H : Heap} {nL : Nat} {lg : List Nat} {L st : List AmV} {M : AmM} {ls : Array Slot} {locs : List Loc} (h : amRel Z H0 nL lg L st M ls H locs) : lv_has ls nL (amLv (zAd Z) L) :=
  ⟨h.1.1, h.1.2.1, fun q hq => by
    obtain ⟨v, h1, h2, h3⟩ := amLv_of hq
    rw [h3]
    exact h.1.2.2 q.1 v h1 h2⟩
def amQ (lg : List Nat) (k q : Nat) : Prop := q = 1 ∨ k = 0 ∨ (k - 1) ∉ lg
theorem amSt1_len {L : List AmV} {k : Nat} {v : AmV} {q : Nat} : (amSt1 L k v q).length = L.length := by
  unfold amSt1; split <;> simp
theorem amSt1_get {L : List AmV} {k : Nat} {v : AmV} {q i : Nat} {w : AmV} (h : (amSt1 L k v q)[i]? = some w) (hs : amSet w) : (i = k ∧ w = v) ∨ (i ≠ k ∧ L[i]? = some w ∧ (q ≠ 0 → i + 1 ≠ k)) := by
  unfold amSt1 at h
  split at h
  · by_cases hi : i = k
    · subst hi
      have hl : i < L.length := by simpa using (List.getElem?_eq_some_iff.mp h).1
      rw [List.getElem?_set_self hl] at h
      exact Or.inl ⟨rfl, (Option.some.inj h).symm⟩
    · rw [List.getElem?_set_ne (Ne.symm hi)] at h
      exact Or.inr ⟨hi, h, fun z => absurd rfl z⟩
  · by_cases hi : i = k
    · subst hi
      have hl : i < L.length := by simpa using (List.getElem?_eq_some_iff.mp h).1
      rw [List.getElem?_set_self (by simpa using hl)] at h
      exact Or.inl ⟨rfl, (Option.some.inj h).symm⟩
    · rw [List.getElem?_set_ne (Ne.symm hi)] at h
      by_cases h2 : i = k - 1
      · subst h2
        have hl : k - 1 < L.length := by simpa using (List.getElem?_eq_some_iff.mp h).1
        rw [List.getElem?_set_self hl] at h
        cases h
        exact absurd hs (fun q => q)
      · rw [List.getElem?_set_ne (Ne.symm h2)] at h
        exact Or.inr ⟨hi, h, fun _ => by omega⟩
theorem amSt1_mem {L : List AmV} {k : Nat} {v : AmV} {q : Nat} {w : AmV} (h : w ∈ amSt1 L k v q) : w = v ∨ w = vU ∨ w ∈ L := by
  unfold amSt1 at h
  split at h
  · rcases List.mem_or_eq_of_mem_set h with h | h
    · exact Or.inr (Or.inr h)
    · exact Or.inl h
  · rcases List.mem_or_eq_of_mem_set h with h | h
    · rcases List.mem_or_eq_of_mem_set h with h | h
      · exact Or.inr (Or.inr h)
      · exact Or.inr (Or.inl h)
    · exact Or.inl h
theorem amCat_v {ad : Nat → Nat → Nat} (v : AmV) : (amV ad v).category = 1 ∨ (∃ x, v = vL x ∧ (amV ad v).category = 2) := by
  rcases v with (_ | ⟨k, c, s⟩) | x | x | x
  · exact Or.inl rfl
  · exact Or.inl rfl
  · exact Or.inl rfl
  · exact Or.inr ⟨x, rfl, rfl⟩
  · exact Or.inl rfl
/-- behind a store of one word -/
theorem amRel.sto {Z : AmZ} {H0 H : Heap} {nL : Nat} {lg : List Nat} {L st st' : List AmV} {M : AmM} {ls ls' : Array Slot} {locs : List Loc} (h : amRel Z H0 nL lg L st M ls H locs) {k q : Nat} {v : AmV} (hv : amOk (zAl Z) v) (h1 : (amV (zAd Z) v).category = 1) (hk : k < nL) (hq : amQ lg k q) (hs : ∀ v ∈ st', v ∈ st)
    (hl : lv_has ls' nL ((k, amV (zAd Z) v) :: (amLv (zAd Z) L).filter (fun q => !(q.1 == k) && !(q.1 + 1 == k && q.2.category == 2)))) : amRel Z H0 nL lg (amSt1 L k v q) st' M ls' H locs := by
  refine ⟨⟨hl.1, hl.2.1, fun i w hw hset => ?_⟩, by rw [amSt1_len]; exact h.2.1, fun w hw => ?_, fun i x hx => ?_, fun w hw => h.2.2.2.2.1 w (hs w hw), h.2.2.2.2.2⟩
  · rcases amSt1_get hw hset with ⟨rfl, rfl⟩ | ⟨hi, hL, hq1⟩
    · exact hl.2.2 _ List.mem_cons_self
    · refine hl.2.2 (i, amV (zAd Z) w) (List.mem_cons_of_mem _ (List.mem_filter.mpr ⟨amLv_mem hL hset, ?_⟩))
      have e1 : (i == k) = false := beq_false_of_ne hi
      have e2 : (i + 1 == k && (amV (zAd Z) w).category == 2) = false := by
        rcases amCat_v (ad := zAd Z) w with hc | ⟨x, rfl, hc⟩
        · rw [hc]; simp
        · have hm := h.2.2.2.1 i x hL
          have : i + 1 ≠ k := by
            rcases hq with rfl | rfl | hq
            · exact hq1 (by decide)
            · omega
            · intro e
              apply hq
              rw [show k - 1 = i by omega]
              exact hm
          rw [beq_false_of_ne this]; rfl
      simp only [e1, e2]
      rfl
  · rcases amSt1_mem hw with rfl | rfl | hw
    · exact hv
    · trivial
    · exact h.2.2.1 w hw
  · rcases amSt1_get hx trivial with ⟨-, rfl⟩ | ⟨-, hL, -⟩
    · cases h1
    · exact h.2.2.2.1 i x hL
/-- behind a store of two words -/
theorem amRel.sto2 {Z : AmZ} {H0 H : Heap} {nL : Nat} {lg : List Nat} {L st st' : List AmV} {M : AmM} {ls ls' : Array Slot} {locs : List Loc} (h : amRel Z H0 nL lg L st M ls H locs) {k q : Nat} {x : Int} (hv : i64 x) (hk : k + 1 < nL) (hkl : k ∈ lg) (hq : amQ lg k q) (hs : ∀ v ∈ st', v ∈ st)
    (hl : lv_has ls' nL ((k, Value.long (Int64.ofInt x)) :: (amLv (zAd Z) L).filter (fun q => !(q.1 == k) && (!(q.1 == k + 1) && !(q.1 + 1 == k && q.2.category == 2))))) : amRel Z H0 nL lg (amSt2 L k (vL x) q) st' M ls' H locs := by
  have key : ∀ (i : Nat) (w : AmV), (amSt2 L k (vL x) q)[i]? = some w → amSet w → i ≠ k + 1 ∧ (amSt1 L k (vL x) q)[i]? = some w := by
    intro i w hw hset
    unfold amSt2 at hw
    by_cases hi : i = k + 1
    · subst hi
      have hl : k + 1 < (amSt1 L k (vL x) q).length := by simpa using (List.getElem?_eq_some_iff.mp hw).1
      rw [List.getElem?_set_self hl] at hw
      cases hw
      exact absurd hset (fun q => q)
    · rw [List.getElem?_set_ne (Ne.symm hi)] at hw
      exact ⟨hi, hw⟩
  refine ⟨⟨hl.1, hl.2.1, fun i w hw hset => ?_⟩, by unfold amSt2; rw [List.length_set, amSt1_len]; exact h.2.1, fun w hw => ?_, fun i y hy => ?_, fun w hw => h.2.2.2.2.1 w (hs w hw), h.2.2.2.2.2⟩
  · obtain ⟨hi1, hw⟩ := key i w hw hset
    rcases amSt1_get hw hset with ⟨rfl, rfl⟩ | ⟨hi, hL, hq1⟩
    · exact hl.2.2 _ List.mem_cons_self
    · refine hl.2.2 (i, amV (zAd Z) w) (List.mem_cons_of_mem _ (List.mem_filter.mpr ⟨amLv_mem hL hset, ?_⟩))
      have e1 : (i == k) = false := beq_false_of_ne hi
      have e3 : (i == k + 1) = false := beq_false_of_ne hi1
      have e2 : (i + 1 == k && (amV (zAd Z) w).category == 2) = false := by
        rcases amCat_v (ad := zAd Z) w with hc | ⟨x, rfl, hc⟩
        · rw [hc]; simp
        · have hm := h.2.2.2.1 i x hL
          have : i + 1 ≠ k := by
            rcases hq with rfl | rfl | hq
            · exact hq1 (by decide)
            · omega
            · intro e
              apply hq
              rw [show k - 1 = i by omega]
              exact hm
          rw [beq_false_of_ne this]; rfl
      simp only [e1, e2, e3]
      rfl
  · unfold amSt2 at hw
    rcases List.mem_or_eq_of_mem_set hw with hw | rfl
    · rcases amSt1_mem hw with rfl | rfl | hw
      · exact hv
      · trivial
      · exact h.2.2.1 w hw
    · trivial
  · obtain ⟨-, hy⟩ := key i _ hy trivial
    rcases amSt1_get hy trivial with ⟨rfl, -⟩ | ⟨-, hL, -⟩
    · exact hkl
    · exact h.2.2.2.1 i y hL
