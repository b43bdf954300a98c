/-! PURE: orders by rank -/
theorem getL_lt {f : Nat → Prop} : ∀ (l : List Nat) (k : Nat), k < l.length → (∀ x ∈ l, f x) → f (getL l k)
  | [], k, h, _ => by cases h
  | x :: l, 0, h, hf => hf x (List.mem_cons_self ..)
  | x :: l, k + 1, h, hf => getL_lt l k (Nat.lt_of_succ_lt_succ h) fun y hy => hf y (List.mem_cons_of_mem _ hy)
theorem getL_get : ∀ (l : List Nat) (k x : Nat), l[k]? = some x → getL l k = x
  | [], k, x, h => by cases h
  | y :: l, 0, x, h => by
    have h : some y = some x := h
    cases h; rfl
  | y :: l, k + 1, x, h => getL_get l k x h
theorem getL_some : ∀ (l : List Nat) (k : Nat), k < l.length → l[k]? = some (getL l k)
  | [], k, h => by cases h
  | y :: l, 0, _ => rfl
  | y :: l, k + 1, h => getL_some l k (Nat.lt_of_succ_lt_succ h)
theorem tab_map : ∀ l : List Nat, (List.range l.length).map (getL l) = l
  | [] => rfl
  | x :: l => by
    show (List.range (l.length + 1)).map (getL (x :: l)) = x :: l
    rw [List.range_succ_eq_map, List.map_cons, List.map_map]
    have := tab_map l
    show x :: (List.range l.length).map (getL l) = x :: l
    rw [this]
/-- strictly rising -/
def upL (a : Nat → Nat) (n : Nat) : Prop := ∀ r r', r < r' → r' < n → a r < a r'
theorem upL_lt {a : Nat → Nat} {n r r' : Nat} (h : upL a n) (h1 : r < n) (h2 : r' < n) : a r < a r' ↔ r < r' := by
  refine ⟨fun h3 => ?_, fun h3 => h r r' h3 h2⟩
  by_cases h4 : r < r'
  · exact h4
  · by_cases h5 : r = r'
    · subst h5; omega
    · have := h r' r (by omega) h1; omega
theorem bitF_up {x : Nat} : ∀ m i : Nat, upL (getL (bitF x m i)) (bitF x m i).length
  | 0, _ => fun r r' h1 h2 => by cases h2
  | m + 1, i => by
    by_cases hb : x.testBit i = true
    · have e : bitF x (m + 1) i = i :: bitF x m (i + 1) := if_pos hb
      have ih := bitF_up (x := x) m (i + 1)
      rw [e]
      intro r r' h1 h2
      have h2 : r' < (bitF x m (i + 1)).length + 1 := h2
      cases r' with
      | zero => omega
      | succ r' =>
        cases r with
        | zero =>
          have := getL_lt (f := fun y => i < y) (bitF x m (i + 1)) r' (by omega) fun y hy => (bitF_ge m (i + 1) y hy).1
          exact this
        | succ r => exact ih r r' (by omega) (by omega)
    · have e : bitF x (m + 1) i = bitF x m (i + 1) := if_neg hb
      rw [e]
      exact bitF_up m (i + 1)
theorem okL_of {n : Nat} {l : List Nat} (h : okL n l = true) : l.length = n ∧ (∀ x ∈ l, x < n) ∧ nodL l = true := by
  unfold okL at h
  rw [Bool.and_eq_true, Bool.and_eq_true] at h
  refine ⟨Nat.eq_of_beq_eq_true h.1, fun x hx => ?_, h.2.2⟩
  exact Nat.le_of_ble_eq_true (List.all_eq_true.1 h.2.1 x hx)
theorem nodL_map {a : Nat → Nat} {n : Nat} (hu : upL a n) : ∀ l : List Nat, (∀ x ∈ l, x < n) → nodL l = true → nodL (l.map a) = true
  | [], _, _ => rfl
  | x :: l, hl, h => by
    unfold nodL at h
    rw [Bool.and_eq_true] at h
    rw [List.map_cons]
    unfold nodL
    rw [Bool.and_eq_true]
    refine ⟨?_, nodL_map hu l (fun y hy => hl y (List.mem_cons_of_mem _ hy)) h.2⟩
    rw [Bool.not_eq_true', List.any_eq_false] at h ⊢
    intro y hy
    obtain ⟨z, hz1, hz2⟩ := List.mem_map.1 hy
    have h1 := h.1 z hz1
    intro hb
    apply h1
    have hb := Nat.eq_of_beq_eq_true hb
    subst hz2
    have hx := hl x (List.mem_cons_self ..)
    have hz := hl z (List.mem_cons_of_mem _ hz1)
    have : x = z := by
      by_cases h3 : x < z
      · have := hu x z h3 hz; omega
      · by_cases h4 : z < x
        · have := hu z x h4 hx; omega
        · omega
    subst this
    exact Nat.beq_refl x
theorem nodL_cons {x : Nat} {l : List Nat} (h : nodL (x :: l) = true) : (∀ y ∈ l, x ≠ y) ∧ nodL l = true := by
  unfold nodL at h
  rw [Bool.and_eq_true, Bool.not_eq_true', List.any_eq_false] at h
  refine ⟨fun y hy e => h.1 y hy ?_, h.2⟩
  subst e
  exact Nat.beq_refl x
theorem perm_chN : ∀ n : Nat, n ≤ 7 → chN n (permL n (List.range n)) = true := fun n hn => by
  have h : n = 0 ∨ n = 1 ∨ n = 2 ∨ n = 3 ∨ n = 4 ∨ n = 5 ∨ n = 6 ∨ n = 7 := by omega
  rcases h with rfl | rfl | rfl | rfl | rfl | rfl | rfl | rfl
  · exact perm0
  · exact perm1
  · exact perm2
  · exact perm3
  · exact perm4
  · exact perm5
  · exact perm6
  · exact perm7
theorem eqL_of : ∀ l m : List Nat, eqL l m = true → l = m
  | [], [], _ => rfl
  | x :: l, y :: m, h => by
    unfold eqL at h
    rw [Bool.and_eq_true] at h
    rw [Nat.eq_of_beq_eq_true h.1, eqL_of l m h.2]
  | [], _ :: _, h => by cases h
  | _ :: _, [], h => by cases h
theorem tabL_get {g : Nat → Nat} : ∀ (k i j : Nat), j < k → getL (tabL g k i) j = g (i + j)
  | 0, _, _, h => by cases h
  | k + 1, i, 0, _ => rfl
  | k + 1, i, j + 1, h => by
    have := tabL_get (g := g) k (i + 1) j (Nat.lt_of_succ_lt_succ h)
    rw [show i + (j + 1) = i + 1 + j by omega]
    exact this
/-- the orders of a set, by rank -/
theorem perm_bits {s : Nat} : permL (cntB s) (bitF s 8 0) = (permL (cntB s) (List.range (cntB s))).map (fun o => o.map (getL (bitF s 8 0))) := by
  have e : (List.range (bitF s 8 0).length).map (getL (bitF s 8 0)) = bitF s 8 0 := tab_map _
  rw [bitF_len] at e
  rw [← permL_map]
  unfold cntB
  rw [e]
/-- what the next one is -/
theorem nxOk_some {n : Nat} {l l' : List Nat} (h : nxOk n l (some l') = true) : ∃ g, nextG n (getL l) = some g ∧ ∀ j, j < n → g j = getL l' j := by
  unfold nxOk at h
  split at h
  · rename_i q; cases q
  · rename_i g l2 hg q
    cases q
    refine ⟨g, hg, fun j hj => ?_⟩
    rw [← eqL_of _ _ h, tabL_get n 0 j hj, Nat.zero_add]
  · cases h
theorem nxOk_none {n : Nat} {l : List Nat} (h : nxOk n l none = true) : nextG n (getL l) = none := by
  unfold nxOk at h
  split at h
  · assumption
  · rename_i q; cases q
  · cases h
theorem runL_b {τ : Tx} : ∀ (o : List Nat) (ρ : Rw) (c s : Int), c ≤ (runL τ o ρ c s).1
  | [], _, c, _ => Int.le_refl c
  | p :: o, ρ, c, s => by
    have := runL_b (τ := τ) o (goS τ ρ p) (c + in0 (goR τ ρ p).1) (s + in2 (goR τ ρ p).1)
    have := in0_b (goR τ ρ p).1
    show c ≤ (runL τ o (goS τ ρ p) _ _).1
    omega
/-- the first is taken, whatever stands there -/
theorem bst_first {τ : Tx} {ρ : Rw} {x y : Int} {l m o : List Nat} : cndS τ [] ρ 0 0 (-1, x, l) o = cndS τ [] ρ 0 0 (-1, y, m) o := by
  have := runL_b (τ := τ) o ρ 0 0
  unfold cndS bst
  rw [if_pos (Or.inl (show (-1 : Int) < (runL τ o ρ 0 0).1 by omega)), if_pos (Or.inl (show (-1 : Int) < (runL τ o ρ 0 0).1 by omega))]
theorem fold_len {τ : Tx} {ρ : Rw} {n : Nat} : ∀ (os : List (List Nat)) (z : Bs), (∀ o ∈ os, o.length = n) → z.2.2.length = n → (os.foldl (cndS τ [] ρ 0 0) z).2.2.length = n
  | [], _, _, h => h
  | o :: os, z, ho, h => by
    rw [List.foldl_cons]
    refine fold_len os _ (fun y hy => ho y (List.mem_cons_of_mem _ hy)) ?_
    unfold cndS bst
    split
    · show ([] ++ o).length = n
      rw [List.nil_append]
      exact ho o (List.mem_cons_self ..)
    · exact h
/-- the first of several is taken -/
theorem fold_len1 {τ : Tx} {ρ : Rw} {n : Nat} {x : Int} {m o : List Nat} {os : List (List Nat)} (ho : ∀ y ∈ o :: os, y.length = n) : ((o :: os).foldl (cndS τ [] ρ 0 0) (-1, x, m)).2.2.length = n := by
  have := runL_b (τ := τ) o ρ 0 0
  rw [List.foldl_cons]
  refine fold_len os _ (fun y hy => ho y (List.mem_cons_of_mem _ hy)) ?_
  unfold cndS bst
  rw [if_pos (Or.inl (show (-1 : Int) < (runL τ o ρ 0 0).1 by omega))]
  show ([] ++ o).length = n
  rw [List.nil_append]
  exact ho o (List.mem_cons_self ..)
theorem chN_len {n : Nat} : ∀ os : List (List Nat), chN n os = true → ∀ o ∈ os, o.length = n
  | [], h => by cases h
  | [l], h => fun o ho => by
    have h : (okL n l && nxOk n l none) = true := h
    rw [Bool.and_eq_true] at h
    rw [List.mem_singleton.1 ho]
    exact (okL_of h.1).1
  | l :: l' :: r, h => fun o ho => by
    have h : (okL n l && (nxOk n l (some l') && chN n (l' :: r))) = true := h
    rw [Bool.and_eq_true, Bool.and_eq_true] at h
    rcases List.mem_cons.1 ho with ho | ho
    · subst ho; exact (okL_of h.1).1
    · exact chN_len (l' :: r) h.2.2 o ho
theorem ordS_eq {τ : Tx} {ρ : Rw} {s : Nat} : ordS τ ρ s = ((permL (cntB s) (List.range (cntB s))).map (fun o => o.map (getL (bitF s 8 0)))).foldl (cndS τ [] ρ 0 0) (-1, 0, []) := by
  unfold ordS
  rw [dfs_perm, perm_bits]
theorem ordS_get {τ : Tx} {ρ : Rw} {s : Nat} (h7 : cntB s ≤ 7) {i : Nat} (hi : i < cntB s) : ∃ x, (ordS τ ρ s).2.2[i]? = some x := by
  have h1 := perm_chN (cntB s) h7
  have hl : (ordS τ ρ s).2.2.length = cntB s := by
    rw [ordS_eq]
    generalize permL (cntB s) (List.range (cntB s)) = os at h1
    cases os with
    | nil => cases h1
    | cons o os =>
      rw [List.map_cons]
      refine fold_len1 fun y hy => ?_
      rw [← List.map_cons (f := fun o => List.map (getL (bitF s 8 0)) o)] at hy
      obtain ⟨z, hz1, hz2⟩ := List.mem_map.1 hy
      subst hz2
      rw [List.length_map]
      exact chN_len _ h1 z hz1
  exact ⟨_, getL_some _ i (by omega)⟩
