/-! PURE: the best order: depth first, and one after the other -/
theorem pickL_map (f : Nat → Nat) : ∀ l : List Nat, pickL (l.map f) = (pickL l).map (fun q => (f q.1, q.2.map f))
  | [] => rfl
  | x :: l => by
    show (f x, l.map f) :: (pickL (l.map f)).map (fun q => (q.1, f x :: q.2)) = _
    rw [pickL_map f l, List.map_map]
    show _ = (f x, l.map f) :: ((pickL l).map (fun q => (q.1, x :: q.2))).map (fun q => (f q.1, q.2.map f))
    rw [List.map_map]
    rfl
theorem flatMap_map1 {α β γ : Type} (f : α → β) (g : β → List γ) : ∀ l : List α, (l.map f).flatMap g = l.flatMap (fun x => g (f x))
  | [] => rfl
  | x :: l => by
    rw [List.map_cons, List.flatMap_cons, List.flatMap_cons, flatMap_map1 f g l]
theorem map_flatMap1 {α β γ : Type} (f : β → γ) (g : α → List β) : ∀ l : List α, (l.flatMap g).map f = l.flatMap (fun x => (g x).map f)
  | [] => rfl
  | x :: l => by
    rw [List.flatMap_cons, List.flatMap_cons, List.map_append, map_flatMap1 f g l]
theorem permL_map (f : Nat → Nat) : ∀ (n : Nat) (l : List Nat), permL n (l.map f) = (permL n l).map (fun o => o.map f)
  | 0, _ => rfl
  | n + 1, l => by
    show (pickL (l.map f)).flatMap (fun q => (permL n q.2).map (fun o => q.1 :: o)) = ((pickL l).flatMap (fun q => (permL n q.2).map (fun o => q.1 :: o))).map (fun o => o.map f)
    rw [pickL_map, flatMap_map1, map_flatMap1]
    congr 1
    funext q
    show (permL n (q.2.map f)).map (fun o => f q.1 :: o) = _
    rw [permL_map f n q.2, List.map_map, List.map_map]
    rfl
theorem foldl_fm {α β γ : Type} (f : α → List β) (g : γ → β → γ) : ∀ (l : List α) (z : γ), (l.flatMap f).foldl g z = l.foldl (fun z x => (f x).foldl g z) z
  | [], _ => rfl
  | x :: l, z => by
    rw [List.flatMap_cons, List.foldl_append, List.foldl_cons]
    exact foldl_fm f g l _
theorem foldl_id {α γ : Type} (f : γ → α → γ) (z : γ) : ∀ l : List α, (∀ x ∈ l, f z x = z) → l.foldl f z = z
  | [], _ => rfl
  | x :: l, h => by
    rw [List.foldl_cons, h x (List.mem_cons_self ..)]
    exact foldl_id f z l fun y hy => h y (List.mem_cons_of_mem _ hy)
/-- (how many came, how many are stuck, the order) -/
abbrev Bs : Type := Int × Int × List Nat
def bst (b c : Bs) : Bs := if b.1 < c.1 ∨ (c.1 = b.1 ∧ c.2.1 < b.2.1) then c else b
def in0 (o : Nat) : Int := if o = 0 then 1 else 0
def in2 (o : Nat) : Int := if o = 2 then 1 else 0
def runL (τ : Tx) : List Nat → Rw → Int → Int → Int × Int
  | [], _, c, s => (c, s)
  | p :: o, ρ, c, s => runL τ o (goS τ ρ p) (c + in0 (goR τ ρ p).1) (s + in2 (goR τ ρ p).1)
def cndS (τ : Tx) (P : List Nat) (ρ : Rw) (c s : Int) (z : Bs) (o : List Nat) : Bs := bst z ((runL τ o ρ c s).1, (runL τ o ρ c s).2, P ++ o)
def dfsS (τ : Tx) : Nat → List Nat → List Nat → Int → Int → Rw → Bs → Bs
  | 0, _, P, c, s, _, z => bst z (c, s, P)
  | n + 1, l, P, c, s, ρ, z => (pickL l).foldl (fun z q => dfsS τ n q.2 (P ++ [q.1]) (c + in0 (goR τ ρ q.1).1) (s + in2 (goR τ ρ q.1).1) (goS τ ρ q.1) z) z
theorem dfs_perm {τ : Tx} : ∀ (n : Nat) (l P : List Nat) (c s : Int) (ρ : Rw) (z : Bs), dfsS τ n l P c s ρ z = (permL n l).foldl (cndS τ P ρ c s) z
  | 0, l, P, c, s, ρ, z => by
    show bst z (c, s, P) = bst z (c, s, P ++ [])
    rw [List.append_nil]
  | n + 1, l, P, c, s, ρ, z => by
    show (pickL l).foldl _ z = ((pickL l).flatMap _).foldl _ z
    rw [foldl_fm]
    congr 1
    funext z q
    rw [List.foldl_map, dfs_perm n]
    congr 1
    funext z o
    unfold cndS
    rw [List.append_assoc]
    rfl
theorem in0_b (o : Nat) : 0 ≤ in0 o ∧ in0 o ≤ 1 := by unfold in0; split <;> omega
theorem in2_b (o : Nat) : 0 ≤ in2 o ∧ in2 o ≤ 1 := by unfold in2; split <;> omega
/-- nothing below is better -/
theorem dfs_cut {τ : Tx} : ∀ (n : Nat) (l P : List Nat) (c s : Int) (ρ : Rw) (z : Bs), (c + n < z.1 ∨ (c + n = z.1 ∧ z.2.1 ≤ s)) → dfsS τ n l P c s ρ z = z
  | 0, l, P, c, s, ρ, z, h => by
    show bst z (c, s, P) = z
    unfold bst
    rw [if_neg]
    show ¬ (z.1 < c ∨ (c = z.1 ∧ s < z.2.1))
    omega
  | n + 1, l, P, c, s, ρ, z, h => by
    show (pickL l).foldl _ z = z
    refine foldl_id _ z _ fun q _ => dfs_cut n _ _ _ _ _ z ?_
    have h0 := in0_b (goR τ ρ q.1).1
    have h2 := in2_b (goR τ ρ q.1).1
    omega
/-- the numbers of a set's pilgrims, from i on -/
def bitF (x : Nat) : Nat → Nat → List Nat
  | 0, _ => []
  | m + 1, i => if x.testBit i = true then i :: bitF x m (i + 1) else bitF x m (i + 1)
theorem pick_bits : ∀ x : Nat, x < 256 → pickL (bitF x 8 0) = (bitF x 8 0).map (fun i => (i, bitF (clrN x i) 8 0)) := by decide +kernel
theorem bitF_len {x : Nat} : ∀ m i : Nat, (bitF x m i).length = cntR x.testBit m i
  | 0, _ => rfl
  | m + 1, i => by
    have := bitF_len (x := x) m (i + 1)
    unfold bitF cntR
    split
    · rw [List.length_cons, this]; omega
    · rw [this]; omega
theorem bitF_cut {x : Nat} : ∀ (k m i : Nat), (∀ q, i + m ≤ q → x.testBit q = false) → bitF x (m + k) i = bitF x m i
  | 0, m, i, _ => rfl
  | k + 1, 0, i, h => by
    rw [show 0 + (k + 1) = k + 1 by omega]
    unfold bitF
    rw [if_neg (by rw [h i (by omega)]; decide)]
    have := bitF_cut k 0 (i + 1) fun q hq => h q (by omega)
    rw [Nat.zero_add] at this
    exact this
  | k + 1, m + 1, i, h => by
    rw [show m + 1 + (k + 1) = m + (k + 1) + 1 by omega]
    have := bitF_cut (x := x) (k + 1) m (i + 1) fun q hq => h q (by omega)
    unfold bitF
    rw [this]
theorem bitF_ge {x : Nat} : ∀ (m i : Nat), ∀ q ∈ bitF x m i, i ≤ q ∧ q < i + m ∧ x.testBit q = true
  | 0, _, q, h => by cases h
  | m + 1, i, q, h => by
    unfold bitF at h
    split at h
    · rename_i hb
      rcases List.mem_cons.1 h with h | h
      · subst h; exact ⟨Nat.le_refl _, by omega, hb⟩
      · have := bitF_ge m (i + 1) q h; exact ⟨by omega, by omega, this.2.2⟩
    · have := bitF_ge m (i + 1) q h; exact ⟨by omega, by omega, this.2.2⟩
theorem dfs_bits {τ : Tx} {x n : Nat} (hx : x < 256) {P : List Nat} {c s : Int} {ρ : Rw} {z : Bs} : dfsS τ (n + 1) (bitF x 8 0) P c s ρ z = (bitF x 8 0).foldl (fun z i => dfsS τ n (bitF (clrN x i) 8 0) (P ++ [i]) (c + in0 (goR τ ρ i).1) (s + in2 (goR τ ρ i).1) (goS τ ρ i) z) z := by
  show (pickL (bitF x 8 0)).foldl _ z = _
  rw [pick_bits x hx, List.foldl_map]
theorem clr_len : ∀ x : Nat, x < 256 → ∀ i : Nat, i < 8 → x.testBit i = true → (bitF (clrN x i) 8 0).length + 1 = (bitF x 8 0).length := by decide +kernel
