/-! WHAT CONSTRUCTORS DO: cells are made in the order of amFull -/
def amFx1 (Z : AmZ) : Prop := amInj (zAl Z) ∧ zL Z ≤ 3072 ∧ (∀ n ∈ zAl Z, n.1 < 13 ∨ 100 ≤ n.1) ∧ ∀ n ∈ zAl Z, ∀ j, amOk (zAl Z) (zG Z n.1 n.2 j) ∧ ∃ r, zG Z n.1 n.2 j = .inl r
theorem amFx1.fx {Z : AmZ} (h : amFx1 Z) : amFx Z := ⟨h.1, h.2.1, h.2.2.1, fun n hn j => by
  obtain ⟨h1, r, h2⟩ := h.2.2.2 n hn j
  exact ⟨fun _ _ => ⟨h1, by rw [h2]; trivial, r, h2⟩, fun _ _ => ⟨h1, r, h2⟩⟩⟩
def amZn (Z : AmZ) (ad : Nat → Nat → Nat) (al : List (Nat × Nat)) (G : AmG) : AmZ := (ad, al, G, zC Z, zD Z, zA Z, zX Z, zL Z)
def amAu (ad : Nat → Nat → Nat) (c s q : Nat) : Nat → Nat → Nat := fun c' s' => if c' = c ∧ s' = s then q else ad c' s'
def amRst (M : AmM) (c s : Nat) : AmM := fun c' s' j => bif (c' == c && s' == s) then 0 else M c' s' j
def amGst1 (G : AmG) (c s : Nat) : AmG := fun c' s' j => bif (c' == c && s' == s) then vN else G c' s' j
def amGup (G : AmG) (c s j : Nat) (v : AmV) : AmG := fun c' s' j' => bif (c' == c && (s' == s && j' == j)) then v else G c' s' j'
theorem amRst_off {M : AmM} {c s c' s' : Nat} (h : ¬ (c' = c ∧ s' = s)) : amRst M c s c' s' = M c' s' := by
  funext j
  unfold amRst
  have : (c' == c && s' == s) = false := by
    by_cases h1 : c' = c
    · by_cases h2 : s' = s
      · exact absurd ⟨h1, h2⟩ h
      · simp [h2]
    · simp [h1]
  rw [this]; rfl
theorem amRst_on {M : AmM} {c s : Nat} : amRst M c s c s = fun _ => 0 := by
  funext j; unfold amRst; simp
theorem amGst1_off {G : AmG} {c s c' s' : Nat} (h : ¬ (c' = c ∧ s' = s)) : amGst1 G c s c' s' = G c' s' := by
  funext j
  unfold amGst1
  have : (c' == c && s' == s) = false := by
    by_cases h1 : c' = c
    · by_cases h2 : s' = s
      · exact absurd ⟨h1, h2⟩ h
      · simp [h2]
    · simp [h1]
  rw [this]; rfl
theorem amGst1_on {G : AmG} {c s : Nat} : amGst1 G c s c s = fun _ => vN := by
  funext j; unfold amGst1; simp
theorem amOkN_mono {al al' : List (Nat × Nat)} (hs : ∀ n ∈ al, n ∈ al') {c s : Nat} (h : amOkN al c s) : amOkN al' c s := by
  rcases h with ⟨h1, h2⟩ | h
  · exact Or.inl ⟨hs _ h1, h2⟩
  · exact Or.inr h
theorem amOk_mono {al al' : List (Nat × Nat)} (hs : ∀ n ∈ al, n ∈ al') {v : AmV} (h : amOk al v) : amOk al' v := by
  rcases v with (_ | ⟨k, c, s⟩) | x | x | x
  · trivial
  · exact ⟨h.1, amOkN_mono hs h.2⟩
  · exact h
  · exact h
  · exact h
/-- two ways to give addresses agree on what is there -/
def amAgr (al : List (Nat × Nat)) (ad ad' : Nat → Nat → Nat) : Prop := ∀ c s, amOkN al c s → ad' c s = ad c s
theorem amAgr.v {al : List (Nat × Nat)} {ad ad' : Nat → Nat → Nat} (h : amAgr al ad ad') {v : AmV} (hv : amOk al v) : amV ad' v = amV ad v := by
  rcases v with (_ | ⟨k, c, s⟩) | x | x | x
  · rfl
  · show Value.ref (ad' c s) = Value.ref (ad c s)
    rw [h c s hv.2]
  · rfl
  · rfl
  · rfl
theorem amAgr.rf {al : List (Nat × Nat)} {ad ad' : Nat → Nat → Nat} (h : amAgr al ad ad') {v : AmV} (hv : amOk al v) : amRf ad' v = amRf ad v := by
  rcases v with (_ | ⟨k, c, s⟩) | x | x | x
  · rfl
  · show some (ad' c s) = some (ad c s)
    rw [h c s hv.2]
  · rfl
  · rfl
  · rfl
theorem amAgr.cell {al : List (Nat × Nat)} {ad ad' : Nat → Nat → Nat} (h : amAgr al ad ad') {cA : Nat → ClassId} {c : Nat} {f : Nat → Int} {g : Nat → AmV} (hg : ∀ j, amOk al (g j)) : amCell cA ad' c f g = amCell cA ad c f g := by
  unfold amCell
  split
  · have : amFv ad' c f g = amFv ad c f g := by
      funext j
      unfold amFv
      split
      · exact h.v (hg j)
      · rfl
    rw [this]
  · have : amArr ad' c f g = amArr ad c f g := by
      have e : (fun j => amRf ad' (g j)) = fun j => amRf ad (g j) := funext fun j => h.rf (hg j)
      unfold amArr
      rw [e]
    rw [this]
theorem amAu_agr {al : List (Nat × Nat)} {ad : Nat → Nat → Nat} {c s q : Nat} (hn : (c, s) ∉ al) (hc : c < 13 ∨ 100 ≤ c) : amAgr al ad (amAu ad c s q) := by
  intro c' s' h
  unfold amAu
  rw [if_neg]
  rintro ⟨rfl, rfl⟩
  rcases h with ⟨h, -⟩ | ⟨h, -⟩
  · exact hn h
  · omega
theorem amInj_app {al : List (Nat × Nat)} {n : Nat × Nat} (h : amInj al) (hn : n ∉ al) : amInj (al ++ [n]) := by
  intro i j x hi hj
  by_cases h1 : i < al.length
  · rw [List.getElem?_append_left h1] at hi
    by_cases h2 : j < al.length
    · rw [List.getElem?_append_left h2] at hj
      exact h i j x hi hj
    · rw [List.getElem?_append_right (by omega)] at hj
      have hx : x = n := by
        have := List.mem_of_getElem? hj
        simpa using this
      subst hx
      exact absurd (List.mem_of_getElem? hi) hn
  · rw [List.getElem?_append_right (by omega)] at hi
    have hx : x = n := by
      have := List.mem_of_getElem? hi
      simpa using this
    have hi1 : i - al.length < 1 := by simpa using (List.getElem?_eq_some_iff.mp hi).1
    by_cases h2 : j < al.length
    · rw [List.getElem?_append_left h2] at hj
      subst hx
      exact absurd (List.mem_of_getElem? hj) hn
    · rw [List.getElem?_append_right (by omega)] at hj
      have hj1 : j - al.length < 1 := by simpa using (List.getElem?_eq_some_iff.mp hj).1
      omega
/-- a world with one cell more -/
theorem amW_new {Z : AmZ} {M : AmM} {c s q : Nat} (hfx : amFx1 Z) (hn : (c, s) ∉ zAl Z) (hc : c < 13 ∨ 100 ≤ c) :
    amW (amZn Z (amAu (zAd Z) c s q) (zAl Z ++ [(c, s)]) (amGst1 (zG Z) c s)) (amRst M c s) = amW Z M ++ [(q, amCell (zC Z) (zAd Z) c (fun _ => 0) (fun _ => vN))] := by
  have hag := amAu_agr (ad := zAd Z) (q := q) hn hc
  show (zAl Z ++ [(c, s)]).map (fun n => (amAu (zAd Z) c s q n.1 n.2, amCell (zC Z) (amAu (zAd Z) c s q) n.1 (amRst M c s n.1 n.2) (amGst1 (zG Z) c s n.1 n.2))) = _
  rw [List.map_append]
  congr 1
  · unfold amW
    refine List.map_congr_left fun n hn2 => ?_
    have hne : ¬ (n.1 = c ∧ n.2 = s) := by
      rintro ⟨e1, e2⟩
      apply hn
      rw [← e1, ← e2]
      exact hn2
    have hokn : amOkN (zAl Z) n.1 n.2 := Or.inl ⟨hn2, by have := hfx.2.2.1 n hn2; omega⟩
    rw [hag _ _ hokn, amRst_off hne, amGst1_off hne, hag.cell (fun j => (hfx.2.2.2 n hn2 j).1)]
  · show [(amAu (zAd Z) c s q c s, amCell (zC Z) (amAu (zAd Z) c s q) c (amRst M c s c s) (amGst1 (zG Z) c s c s))] = _
    rw [amRst_on, amGst1_on, hag.cell (g := fun _ => vN) (fun j => (trivial : amOk (zAl Z) vN))]
    unfold amAu
    rw [if_pos ⟨rfl, rfl⟩]
theorem amFx1_new {Z : AmZ} {c s q : Nat} (hfx : amFx1 Z) (hn : (c, s) ∉ zAl Z) (hc : c < 13 ∨ 100 ≤ c) : amFx1 (amZn Z (amAu (zAd Z) c s q) (zAl Z ++ [(c, s)]) (amGst1 (zG Z) c s)) := by
  have hsub : ∀ n ∈ zAl Z, n ∈ zAl Z ++ [(c, s)] := fun n h => List.mem_append_left _ h
  refine ⟨amInj_app hfx.1 hn, hfx.2.1, fun n h => ?_, fun n h j => ?_⟩
  · rcases List.mem_append.mp h with h | h
    · exact hfx.2.2.1 n h
    · rw [List.mem_singleton.mp h]; exact hc
  · show amOk (zAl Z ++ [(c, s)]) (amGst1 (zG Z) c s n.1 n.2 j) ∧ ∃ r, amGst1 (zG Z) c s n.1 n.2 j = .inl r
    by_cases hne : n.1 = c ∧ n.2 = s
    · rw [hne.1, hne.2, amGst1_on]
      exact ⟨trivial, none, rfl⟩
    · rw [amGst1_off hne]
      have hmem : n ∈ zAl Z := by
        rcases List.mem_append.mp h with h | h
        · exact h
        · rw [List.mem_singleton.mp h] at hne; exact absurd ⟨rfl, rfl⟩ hne
      exact ⟨amOk_mono hsub (hfx.2.2.2 n hmem j).1, (hfx.2.2.2 n hmem j).2⟩
/-- a frame and a world when a cell has come -/
theorem amRel.made {Z : AmZ} {H0 H H1 : Heap} {nL : Nat} {lg : List Nat} {L st st' : List AmV} {M : AmM} {ls : Array Slot} {locs locs1 : List Loc} {c s q k : Nat} (hr : amRel Z H0 nL lg L st M ls H locs) (hfx : amFx1 Z) (hn : (c, s) ∉ zAl Z) (hc : c < 13 ∨ 100 ≤ c) (hk : amKndL.getD c 99 = k) (hst : ∀ v ∈ st', v ∈ st)
    (h1 : va_P (zD Z) amClasses (amW Z M ++ [(q, amCell (zC Z) (zAd Z) c (fun _ => 0) (fun _ => vN))]) H1) (h2 : va_D (zA Z) (amW Z M ++ [(q, amCell (zC Z) (zAd Z) c (fun _ => 0) (fun _ => vN))])) (h3 : va_S (zA Z) H0 H1 locs1) :
    amRel (amZn Z (amAu (zAd Z) c s q) (zAl Z ++ [(c, s)]) (amGst1 (zG Z) c s)) H0 nL lg L (vR k c s :: st') (amRst M c s) ls H1 locs1 := by
  have hag := amAu_agr (ad := zAd Z) (q := q) hn hc
  have hsub : ∀ n ∈ zAl Z, n ∈ zAl Z ++ [(c, s)] := fun n h => List.mem_append_left _ h
  obtain ⟨⟨l1, l2, l3⟩, r2, r3, r4, r5, r6, r7, r8, r9, r10⟩ := hr
  refine ⟨⟨l1, l2, fun i v hi hs => ?_⟩, r2, fun v hv => amOk_mono hsub (r3 v hv), r4, fun v hv => ?_, by rw [amW_new hfx hn hc]; exact h1, by rw [amW_new hfx hn hc]; exact h2, h3, ?_, ?_⟩
  · rw [l3 i v hi hs]
    show some (Slot.val (amV (zAd Z) v)) = some (Slot.val (amV (amAu (zAd Z) c s q) v))
    rw [hag.v (r3 v (List.mem_of_getElem? hi))]
  · rcases List.mem_cons.mp hv with rfl | hv
    · exact ⟨⟨hk, Or.inl ⟨List.mem_append_right _ (List.mem_singleton.mpr rfl), by omega⟩⟩, trivial⟩
    · exact ⟨amOk_mono hsub (r5 v (hst v hv)).1, (r5 v (hst v hv)).2⟩
  · intro c' s' j
    by_cases hne : c' = c ∧ s' = s
    · rw [hne.1, hne.2, amRst_on]
      exact ⟨fun _ => by show i32 0; unfold i32; omega, by show i64 0; unfold i64; omega⟩
    · rw [amRst_off hne]; exact r9 c' s' j
  · refine ⟨?_, fun j hj => ?_⟩
    · show amRst M c s 90 1 0 = _
      rw [amRst_off (by omega)]; exact r10.1
    · show amRst M c s 90 0 j = _
      rw [amRst_off (by omega)]; exact r10.2 j hj
