theorem js_nat (n : Nat) : Int32.ofNat n = Int32.ofInt (n : Int) := rfl
theorem js_and : ∀ k : Nat, k < 128 → Int32.ofNat k &&& 255 = Int32.ofNat k := by decide +kernel
theorem js_2c : ∀ k : Nat, k < 128 → ((Int32.ofNat k).toUInt32 % 65536).toInt32 = Int32.ofNat k := by decide +kernel
theorem js_nar : ∀ k : Nat, k < 128 → narrow .char (.int (Int32.ofNat k)) = .int (Int32.ofNat k) := by decide +kernel
theorem js_byt {ns : List Nat} {j : Nat} (hj : j < ns.length) (hs : ∀ z ∈ ns, z < 128) : ns.getD j 0 < 128 ∧ (ns.map fun n => Int32.ofNat n).getD j 0 = Int32.ofNat (ns.getD j 0) := by
  have e : ns[j]? = some ns[j] := List.getElem?_eq_getElem hj
  rw [List.getD_eq_getElem?_getD, List.getD_eq_getElem?_getD, List.getElem?_map, e]
  exact ⟨hs _ (List.getElem_mem hj), rfl⟩
section AmST4
variable {l : Launch} {N : Nat} {len : List Nat} {byt : List (List Int32)} {adK adV : Nat → Nat} {A : Nat → Prop} {i : Nat} {ns : List Nat} {x : Int}
def jsOf (N : Nat) (len : List Nat) (byt : List (List Int32)) (i : Nat) (ns : List Nat) : Prop := i < N ∧ len.getD i 0 = ns.length ∧ (byt.getD i [] = ns.map fun n => Int32.ofNat n) ∧ ns.length < 1000 ∧ 0 < ns.length ∧ ∀ z ∈ ns, z < 128
theorem mJ1_charAt (hi : jsOf N len byt i ns) (h0 : 0 ≤ x) (h1 : x < ns.length) : Met l yJ1_charAt_3b067 jw_J1_charAt_3b067 (amSm 2) (amVp N len byt adK adV A [.ref (adV i), .int (Int32.ofInt x)]) (amVq (some (.int (Int32.ofInt ((ns.getD x.toNat 0 : Nat) : Int))))) 0 0 A := by
  obtain ⟨hN, hn, hy, hs, hp, hs2⟩ := hi
  refine Met.ofW (cc := cJ1_charAt_3b067) (maxL := 2) (ret := some .char) (by decide +kernel) rfl ?_
  intro p e s m args below meth c s₁ B hml hv
  obtain ⟨rfl, hV⟩ := hv
  have hts0 := atoms_spec (ws := jw_J1_charAt_3b067) B.pre
  have hts : ∀ w ∈ amT0, w.before _ s = true := fun w hw => hts0 w (List.mem_cons_of_mem _ hw)
  have hown : s.vm.findClass RJ1 = some m.cls := findClass_of_methodNamed B.named
  have hx := B.exec
  have hb := B.bytes
  rw [lg_entry_eq]
  have hT := (hV.1.1 i hN).2.2.2
  have xi : i32 x := by unfold i32; omega
  have ni : i32 (ns.length : Int) := by unfold i32; omega
  have zi : i32 0 := by unfold i32; omega
  obtain ⟨k1, k2⟩ := js_byt (j := x.toNat) (ns := ns) (by omega) hs2
  refine lv_iload_n hx hb (i := 1) (x := Int32.ofInt x) dJ1_charAt_3b067_0 rfl rfl ?_
  refine lv_aload_n hx hb (i := 0) (x := adV i) dJ1_charAt_3b067_1 rfl rfl ?_
  refine va_tlen hx hb hT va_S.rf (v := Int32.ofInt (ns.length : Int)) (by rw [hn]; rfl) dJ1_charAt_3b067_2 ?_
  refine js_callS (N := N) (len := len) (byt := byt) (adK := adK) (adV := adV) (k := 1) (As := [.int (Int32.ofInt x), .int (Int32.ofInt (ns.length : Int))]) (rest := []) (r := none) ⟨hx, hb, hml, hown, hts⟩ (mJ0_checkIndex (fun h => by
    have := (of_lt xi zi).mp h
    omega) ((of_lt xi ni).mpr h1)) jg_J0_checkIndex_df160 jl_J1_9 jm_J0_checkIndex_df160 ji_J0 (show _ ∧ _ ∧ _ = some 2 by decide +kernel) (by decide) hV va_S.rf rfl rfl (by decide) dJ1_charAt_3b067_3 fun locs1 hl => ?_
  refine lv_aload_n hx hb (i := 0) (x := adV i) dJ1_charAt_3b067_6 rfl rfl ?_
  refine lv_iload_n hx hb (i := 1) (x := Int32.ofInt x) dJ1_charAt_3b067_7 rfl rfl ?_
  refine va_tb hx hb hT ⟨Nat.le_refl _, fun _ _ _ => rfl, hl⟩ ((of_in xi).mpr ⟨h0, by rw [hn]; exact h1⟩) (v := .int (Int32.ofNat (ns.getD x.toNat 0))) (by show Value.int _ = _; rw [of_cl xi, hy, k2]) dJ1_charAt_3b067_8 ?_
  refine lv_sipush hx hb (v := 255) dJ1_charAt_3b067_9 (by decide) ?_
  refine lv_iand hx hb dJ1_charAt_3b067_12 ?_
  rw [js_and _ k1]
  refine lv_i2c hx hb (v := Int32.ofNat (ns.getD x.toNat 0)) dJ1_charAt_3b067_13 (js_2c _ k1) ?_
  exact W.zret (ty := .char) hx hb B.returns (js_nar _ k1) (fun t ht _ => ⟨rfl, ht⟩) hl dJ1_charAt_3b067_14 B.notSynchronized
theorem mJ0_length (hi : jsOf N len byt i ns) : Met l yJ0_length_8abf5 jw_J0_length_8abf5 (amSm 1) (amVp N len byt adK adV A [.ref (adK i)]) (amVq (some (.int (Int32.ofInt (ns.length : Int))))) 0 0 A := by
  obtain ⟨hN, hn, hy, hs, hp, hs2⟩ := hi
  refine Met.ofW (cc := cJ0_length_8abf5) (maxL := 1) (ret := some .int) (by decide +kernel) rfl ?_
  intro p e s m args below meth c s₁ B hml hv
  obtain ⟨rfl, hV⟩ := hv
  have hts0 := atoms_spec (ws := jw_J0_length_8abf5) B.pre
  have hts : ∀ w ∈ amT0, w.before _ s = true := fun w hw => hts0 w (List.mem_cons_of_mem _ hw)
  have hown : s.vm.findClass RJ0 = some m.cls := findClass_of_methodNamed B.named
  have hx := B.exec
  have hb := B.bytes
  rw [lg_entry_eq]
  have hT := (hV.1.1 i hN).2.2.2
  refine lv_aload_n hx hb (i := 0) (x := adK i) dJ0_length_8abf5_0 rfl rfl ?_
  refine vk_getf hx hb (hV.1.1 i hN).2.2.1 va_S.rf hown (hts _ jl_J0_9) (fun _ h => h) dJ0_length_8abf5_1 ?_
  refine va_tlen hx hb hT va_S.rf (v := Int32.ofInt (ns.length : Int)) (by rw [hn]; rfl) dJ0_length_8abf5_4 ?_
  refine lv_aload_n hx hb (i := 0) (x := adK i) dJ0_length_8abf5_5 rfl rfl ?_
  refine js_callV (N := N) (len := len) (byt := byt) (adK := adK) (adV := adV) (k := 0) (As := []) (rest := [.int (Int32.ofInt (ns.length : Int))]) (r := some (.int 0)) ⟨hx, hb, hml, hown, hts⟩ (mJ0_coder hN) jg_J0_coder_7d493 jl_J0_335 jm_J0_coder_7d493 ji_J0 (show _ ∧ _ ∧ _ = some 0 by decide +kernel) (by decide) hV (vk_recv hV.1 hN va_S.rf) va_S.rf rfl rfl (by show 1 ≤ 8; decide) dJ0_length_8abf5_6 fun locs1 hl => ?_
  refine lv_ishr hx hb dJ0_length_8abf5_9 ?_
  have e0 : Int32.ofInt (ns.length : Int) >>> ((0 : Int32) &&& 31) = Int32.ofInt (ns.length : Int) := by
    have q : ∀ k : Nat, k < 1000 → Int32.ofNat k >>> ((0 : Int32) &&& 31) = Int32.ofNat k := by decide +kernel
    exact q _ hs
  rw [e0]
  exact W.iret hx hb B.returns (fun t ht _ => ⟨rfl, ht⟩) hl dJ0_length_8abf5_10 B.notSynchronized
theorem mJ0_charAt (hi : jsOf N len byt i ns) (h0 : 0 ≤ x) (h1 : x < ns.length) : Met l yJ0_charAt_5068e jw_J0_charAt_5068e (amSm 3) (amVp N len byt adK adV A [.ref (adK i), .int (Int32.ofInt x)]) (amVq (some (.int (Int32.ofInt ((ns.getD x.toNat 0 : Nat) : Int))))) 0 0 A := by
  have hi' := hi
  obtain ⟨hN, hn, hy, hs, hp, hs2⟩ := hi
  refine Met.ofW (cc := cJ0_charAt_5068e) (maxL := 2) (ret := some .char) (by decide +kernel) rfl ?_
  intro p e s m args below meth c s₁ B hml hv
  obtain ⟨rfl, hV⟩ := hv
  have hts0 := atoms_spec (ws := jw_J0_charAt_5068e) B.pre
  have hts : ∀ w ∈ amT0, w.before _ s = true := fun w hw => hts0 w (List.mem_cons_of_mem _ hw)
  have hown : s.vm.findClass RJ0 = some m.cls := findClass_of_methodNamed B.named
  have hx := B.exec
  have hb := B.bytes
  rw [lg_entry_eq]
  obtain ⟨k1, k2⟩ := js_byt (j := x.toNat) (ns := ns) (by omega) hs2
  refine lv_aload_n hx hb (i := 0) (x := adK i) dJ0_charAt_5068e_0 rfl rfl ?_
  refine js_callV (N := N) (len := len) (byt := byt) (adK := adK) (adV := adV) (k := 0) (As := []) (rest := []) (r := some (.int 1)) ⟨hx, hb, hml, hown, hts⟩ (mJ0_isLatin1 hN) jg_J0_isLatin1_aae02 jl_J0_492 jm_J0_isLatin1_aae02 ji_J0 (show _ ∧ _ ∧ _ = some 0 by decide +kernel) (by decide) hV (vk_recv hV.1 hN va_S.rf) va_S.rf rfl rfl (by decide) dJ0_charAt_5068e_1 fun locs1 hl => ?_
  have hS1 : va_S A s.heap s.heap locs1 := ⟨Nat.le_refl _, fun _ _ _ => rfl, hl⟩
  refine lv_if_eq hx hb dJ0_charAt_5068e_4 (tgt := 16) (by decide) ?_ ?_
  · intro h; exact absurd h (by decide)
  intro _
  refine lv_aload_n hx hb (i := 0) (x := adK i) dJ0_charAt_5068e_7 rfl rfl ?_
  refine vk_getf hx hb (hV.1.1 i hN).2.2.1 hS1 hown (hts _ jl_J0_9) (fun _ h => h) dJ0_charAt_5068e_8 ?_
  refine lv_iload_n hx hb (i := 1) (x := Int32.ofInt x) dJ0_charAt_5068e_11 rfl rfl ?_
  refine js_callS (N := N) (len := len) (byt := byt) (adK := adK) (adV := adV) (k := 2) (As := [.ref (adV i), .int (Int32.ofInt x)]) (rest := []) (r := some (.int (Int32.ofInt ((ns.getD x.toNat 0 : Nat) : Int)))) ⟨hx, hb, hml, hown, hts⟩ (mJ1_charAt hi' h0 h1) jg_J1_charAt_3b067 jl_J0_495 jm_J1_charAt_3b067 ji_J1 (show _ ∧ _ ∧ _ = some 2 by decide +kernel) (by decide) hV hS1 rfl rfl (by decide) dJ0_charAt_5068e_12 fun locs2 hl2 => ?_
  exact W.zret (ty := .char) hx hb B.returns (js_nar _ k1) (fun t ht _ => ⟨rfl, ht⟩) hl2 dJ0_charAt_5068e_15 B.notSynchronized
theorem mJ1_canEncode (h0 : 0 ≤ x) (h1 : x < 256) : Met l yJ1_canEncode_9a6ad jw_J1_canEncode_9a6ad (amSm 0) (amVp N len byt adK adV A [.int (Int32.ofInt x)]) (amVq (some (.int 1))) 0 0 A := by
  refine Met.ofW (cc := cJ1_canEncode_9a6ad) (maxL := 1) (ret := some .boolean) (by decide +kernel) rfl ?_
  intro p e s m args below meth c s₁ B hml hv
  obtain ⟨rfl, hV⟩ := hv
  have hx := B.exec
  have hb := B.bytes
  rw [lg_entry_eq]
  have xi : i32 x := by unfold i32; omega
  refine lv_iload_n hx hb (i := 0) (x := Int32.ofInt x) dJ1_canEncode_9a6ad_0 rfl rfl ?_
  refine lv_if_lt hx hb dJ1_canEncode_9a6ad_1 (tgt := 15) (by decide) (fun h => ?_) fun _ => ?_
  · have := (of_lt xi (y := 0) (by unfold i32; omega)).mp h
    omega
  refine lv_iload_n hx hb (i := 0) (x := Int32.ofInt x) dJ1_canEncode_9a6ad_4 rfl rfl ?_
  refine lv_sipush hx hb (v := Int32.ofInt 255) dJ1_canEncode_9a6ad_5 (by decide) ?_
  refine lv_icmp_gt hx hb dJ1_canEncode_9a6ad_8 (tgt := 15) (by decide) (fun h => ?_) fun _ => ?_
  · have := (of_lt (x := 255) (by unfold i32; omega) xi).mp h
    omega
  refine lv_iconst hx hb (v := 1) dJ1_canEncode_9a6ad_11 (by decide) ?_
  refine lv_goto hx hb dJ1_canEncode_9a6ad_12 (tgt := 16) (by decide) ?_
  exact W.zret (ty := .boolean) hx hb B.returns (by decide) (fun t ht _ => ⟨rfl, ht⟩) (fun _ h => by cases h) dJ1_canEncode_9a6ad_16 B.notSynchronized
theorem js_8 : ∀ k : Nat, k < 256 → (Int32.ofNat k).toInt8.toInt32 = Int32.ofInt (if k < 128 then (k : Int) else (k : Int) - 256) := by decide +kernel
theorem mJ1_indexOfChar (hi : jsOf N len byt i ns) (h0 : 0 ≤ x) (h1 : x < 256) : Met l yJ1_indexOfChar_4cfef jw_J1_indexOfChar_4cfef (amSm 0) (amVp N len byt adK adV A [.ref (adV i), .int (Int32.ofInt x), .int 0, .int (Int32.ofInt (ns.length : Int))]) (amVq (some (.int (Int32.ofInt (amIdxF x ns 0))))) 0 0 A := by
  obtain ⟨hN, hn, hy, hs, hp, hs2⟩ := hi
  refine Met.ofW (cc := cJ1_indexOfChar_4cfef) (maxL := 6) (ret := some .int) (by decide +kernel) rfl ?_
  intro p e s m args below meth c s₁ B hml hv
  obtain ⟨rfl, hV⟩ := hv
  have hx := B.exec
  have hb := B.bytes
  rw [lg_entry_eq]
  have hT := (hV.1.1 i hN).2.2.2
  have ni : i32 (ns.length : Int) := by unfold i32; omega
  obtain ⟨k, rfl⟩ : ∃ k : Nat, x = (k : Int) := ⟨x.toNat, by omega⟩
  have hk : k < 256 := by omega
  have hb8 := js_8 k hk
  generalize hbb : (if k < 128 then (k : Int) else (k : Int) - 256) = bb at hb8
  have bi : i32 bb := by unfold i32; split at hbb <;> omega
  have hl0 := lv_entry [.ref (adV i), .int (Int32.ofInt (k : Int)), .int 0, .int (Int32.ofInt (ns.length : Int))] (n := 6) (by show 4 ≤ 6; decide)
  have loop : ∀ (r j : Nat) (ls : Array Slot), j + r = ns.length → amIdxF (k : Int) (ns.drop j) (j : Int) = amIdxF (k : Int) ns 0 → lv_has ls 6 [(5, .int (Int32.ofInt (j : Int))), (4, .int (Int32.ofInt bb)), (0, .ref (adV i)), (1, .int (Int32.ofInt (k : Int))), (2, .int 0), (3, .int (Int32.ofInt (ns.length : Int)))] →
      W p l e (amSm 0) s m [Value.ref (adV i), .int (Int32.ofInt (k : Int)), .int 0, .int (Int32.ofInt (ns.length : Int))].toArray below meth c s.heap [] 0 0 (MQ below (amVq (some (.int (Int32.ofInt (amIdxF (k : Int) ns 0))))) [Value.ref (adV i), .int (Int32.ofInt (k : Int)), .int 0, .int (Int32.ofInt (ns.length : Int))].toArray s 0 0 A) (F0 m 7 ls []) := by
    intro r
    induction r with
    | zero =>
      intro j ls hj hI hls
      have ji : i32 (j : Int) := by unfold i32; omega
      refine lv_iload hx hb (i := 5) dJ1_indexOfChar_4cfef_7 (lv_at hls 0 rfl) ?_
      refine lv_iload_n hx hb (i := 3) dJ1_indexOfChar_4cfef_9 rfl (lv_at hls 5 rfl) ?_
      refine lv_icmp_ge hx hb dJ1_indexOfChar_4cfef_10 (tgt := 31) (by decide) (fun _ => ?_) (fun h => absurd ((of_le ni ji).mpr (by omega)) h)
      refine lv_iconst hx hb (v := Int32.ofInt (-1)) dJ1_indexOfChar_4cfef_31 (by decide) ?_
      rw [← hI, List.drop_eq_nil_of_le (by omega)]
      exact W.iret hx hb B.returns (fun t ht _ => ⟨rfl, ht⟩) (fun _ h => by cases h) dJ1_indexOfChar_4cfef_32 B.notSynchronized
    | succ r ih =>
      intro j ls hj hI hls
      have ji : i32 (j : Int) := by unfold i32; omega
      have hjl : j < ns.length := by omega
      obtain ⟨k1, k2⟩ := js_byt (j := j) (ns := ns) hjl hs2
      refine lv_iload hx hb (i := 5) dJ1_indexOfChar_4cfef_7 (lv_at hls 0 rfl) ?_
      refine lv_iload_n hx hb (i := 3) dJ1_indexOfChar_4cfef_9 rfl (lv_at hls 5 rfl) ?_
      refine lv_icmp_ge hx hb dJ1_indexOfChar_4cfef_10 (tgt := 31) (by decide) (fun h => ?_) (fun _ => ?_)
      · have := (of_le ni ji).mp h
        omega
      refine lv_aload_n hx hb (i := 0) dJ1_indexOfChar_4cfef_13 rfl (lv_at hls 2 rfl) ?_
      refine lv_iload hx hb (i := 5) dJ1_indexOfChar_4cfef_14 (lv_at hls 0 rfl) ?_
      refine va_tb hx hb hT va_S.rf ((of_in ji).mpr ⟨by omega, by rw [hn]; omega⟩) (v := .int (Int32.ofNat (ns.getD j 0))) (by show Value.int _ = _; rw [of_cl ji, hy]; exact congrArg Value.int k2) dJ1_indexOfChar_4cfef_16 ?_
      refine lv_iload hx hb (i := 4) dJ1_indexOfChar_4cfef_17 (lv_at hls 1 rfl) ?_
      have hd : ns.drop j = ns.getD j 0 :: ns.drop (j + 1) := by
        rw [List.drop_eq_getElem_cons hjl, List.getD_eq_getElem?_getD, List.getElem?_eq_getElem hjl]
        rfl
      have hgi : i32 ((ns.getD j 0 : Nat) : Int) := by unfold i32; omega
      rw [hd] at hI
      refine lv_icmp_ne hx hb dJ1_indexOfChar_4cfef_19 (tgt := 25) (by decide) (fun h => ?_) (fun h => ?_)
      · have hne : ¬ ((ns.getD j 0 : Nat) : Int) = (k : Int) := by
          intro e
          apply h
          have : k < 128 := by omega
          rw [if_pos this] at hbb
          rw [← hbb, ← e]
          rfl
        refine lv_iinc hx hb (v := Int32.ofInt ((j + 1 : Nat) : Int)) (lv' := [(5, .int (Int32.ofInt ((j + 1 : Nat) : Int))), (4, .int (Int32.ofInt bb)), (0, .ref (adV i)), (1, .int (Int32.ofInt (k : Int))), (2, .int 0), (3, .int (Int32.ofInt (ns.length : Int)))]) dJ1_indexOfChar_4cfef_25 hls (k := 0) rfl ?_ (by decide) rfl fun ls' hls' => ?_
        · rw [← Int32.ofInt_add]
          rfl
        refine lv_goto hx hb dJ1_indexOfChar_4cfef_28 (tgt := 7) (by decide) ?_
        refine ih (j + 1) ls' (by omega) ?_ hls'
        rw [← hI]
        show _ = if ((ns.getD j 0 : Nat) : Int) = (k : Int) then (j : Int) else amIdxF (k : Int) (ns.drop (j + 1)) ((j : Int) + 1)
        rw [if_neg hne]
        rfl
      · have he : ((ns.getD j 0 : Nat) : Int) = (k : Int) := by
          have := (of_eq hgi bi).mp h
          split at hbb <;> omega
        refine lv_iload hx hb (i := 5) dJ1_indexOfChar_4cfef_22 (lv_at hls 0 rfl) ?_
        have hI2 : (j : Int) = amIdxF (k : Int) ns 0 := by
          rw [← hI]
          show _ = if ((ns.getD j 0 : Nat) : Int) = (k : Int) then (j : Int) else amIdxF (k : Int) (ns.drop (j + 1)) ((j : Int) + 1)
          rw [if_pos he]
        rw [← hI2]
        exact W.iret hx hb B.returns (fun t ht _ => ⟨rfl, ht⟩) (fun _ h => by cases h) dJ1_indexOfChar_4cfef_24 B.notSynchronized
  refine lv_iload_n hx hb (i := 1) dJ1_indexOfChar_4cfef_0 rfl (lv_at hl0 1 rfl) ?_
  refine lv_i2b hx hb (v := Int32.ofInt bb) dJ1_indexOfChar_4cfef_1 hb8 ?_
  refine lv_istore hx hb dJ1_indexOfChar_4cfef_2 hl0 (by decide) rfl fun ls1 hl1 => ?_
  refine lv_iload_n hx hb (i := 2) dJ1_indexOfChar_4cfef_4 rfl (lv_at hl1 3 rfl) ?_
  refine lv_istore hx hb dJ1_indexOfChar_4cfef_5 hl1 (by decide) rfl fun ls2 hl2 => ?_
  exact loop ns.length 0 ls2 (by omega) rfl hl2
theorem mJ1_indexOf (hi : jsOf N len byt i ns) (h0 : 0 ≤ x) (h1 : x < 256) : Met l yJ1_indexOf_4cfef jw_J1_indexOf_4cfef (amSm 1) (amVp N len byt adK adV A [.ref (adV i), .int (Int32.ofInt x), .int 0, .int (Int32.ofInt (ns.length : Int))]) (amVq (some (.int (Int32.ofInt (amIdxF x ns 0))))) 0 0 A := by
  have hi' := hi
  obtain ⟨hN, hn, hy, hs, hp, hs2⟩ := hi
  refine Met.ofW (cc := cJ1_indexOf_4cfef) (maxL := 4) (ret := some .int) (by decide +kernel) rfl ?_
  intro p e s m args below meth c s₁ B hml hv
  obtain ⟨rfl, hV⟩ := hv
  have hts0 := atoms_spec (ws := jw_J1_indexOf_4cfef) B.pre
  have hts : ∀ w ∈ amT0, w.before _ s = true := fun w hw => hts0 w (List.mem_cons_of_mem _ hw)
  have hown : s.vm.findClass RJ1 = some m.cls := findClass_of_methodNamed B.named
  have hx := B.exec
  have hb := B.bytes
  rw [lg_entry_eq]
  have hT := (hV.1.1 i hN).2.2.2
  have ni : i32 (ns.length : Int) := by unfold i32; omega
  have hl0 := lv_entry [.ref (adV i), .int (Int32.ofInt x), .int 0, .int (Int32.ofInt (ns.length : Int))] (n := 4) (by show 4 ≤ 4; decide)
  refine lv_iload_n hx hb (i := 1) dJ1_indexOf_4cfef_0 rfl (lv_at hl0 1 rfl) ?_
  refine js_callS (N := N) (len := len) (byt := byt) (adK := adK) (adV := adV) (k := 0) (As := [.int (Int32.ofInt x)]) (rest := []) (r := some (.int 1)) ⟨hx, hb, hml, hown, hts⟩ (mJ1_canEncode h0 h1) jg_J1_canEncode_9a6ad jl_J1_88 jm_J1_canEncode_9a6ad ji_J1 (show _ ∧ _ ∧ _ = some 1 by decide +kernel) (by decide) hV va_S.rf rfl rfl (by decide) dJ1_indexOf_4cfef_1 fun locs1 hlo => ?_
  have hS1 : va_S A s.heap s.heap locs1 := ⟨Nat.le_refl _, fun _ _ _ => rfl, hlo⟩
  refine lv_if_ne hx hb dJ1_indexOf_4cfef_4 (tgt := 9) (by decide) (fun _ => ?_) (fun h => absurd h (by decide))
  refine lv_iload_n hx hb (i := 2) dJ1_indexOf_4cfef_9 rfl (lv_at hl0 2 rfl) ?_
  refine lv_iconst hx hb (v := 0) dJ1_indexOf_4cfef_10 (by decide) ?_
  refine va_mmax hx hb (hml.trans hl0.1.symm) hown (hts _ jl_J1_92) (hts _ amMax_w.1) (hts _ amMax_w.2.1) (hts _ amMax_w.2.2) (by decide) (by decide) (by decide) (by decide) dJ1_indexOf_4cfef_11 ?_
  refine lv_istore_n hx hb (x := 0) (i := 2) dJ1_indexOf_4cfef_14 rfl hl0 (by decide) rfl fun ls1 hl1 => ?_
  refine lv_iload_n hx hb (i := 3) dJ1_indexOf_4cfef_15 rfl (lv_at hl1 3 rfl) ?_
  refine lv_aload_n hx hb (i := 0) dJ1_indexOf_4cfef_16 rfl (lv_at hl1 1 rfl) ?_
  refine va_tlen hx hb hT hS1 (v := Int32.ofInt (ns.length : Int)) (by rw [hn]; rfl) dJ1_indexOf_4cfef_17 ?_
  refine va_mmin hx hb (hml.trans hl1.1.symm) hown (hts _ jl_J1_38) (hts _ amMin_w.1) (hts _ amMax_w.2.1) (hts _ amMin_w.2) (by decide) (by decide) (by decide) (by decide) dJ1_indexOf_4cfef_18 ?_
  rw [ite_self]
  refine lv_istore_n hx hb (x := Int32.ofInt (ns.length : Int)) (i := 3) dJ1_indexOf_4cfef_21 rfl hl1 (by decide) rfl fun ls2 hl2 => ?_
  refine lv_iload_n hx hb (i := 2) dJ1_indexOf_4cfef_22 rfl (lv_at hl2 1 rfl) ?_
  refine lv_iload_n hx hb (i := 3) dJ1_indexOf_4cfef_23 rfl (lv_at hl2 0 rfl) ?_
  refine lv_icmp_lt hx hb dJ1_indexOf_4cfef_24 (tgt := 29) (by decide) (fun _ => ?_) (fun h => absurd ((of_lt (x := 0) (by unfold i32; omega) ni).mpr (by omega)) h)
  refine lv_aload_n hx hb (i := 0) dJ1_indexOf_4cfef_29 rfl (lv_at hl2 2 rfl) ?_
  refine lv_iload_n hx hb (i := 1) dJ1_indexOf_4cfef_30 rfl (lv_at hl2 3 rfl) ?_
  refine lv_iload_n hx hb (i := 2) dJ1_indexOf_4cfef_31 rfl (lv_at hl2 1 rfl) ?_
  refine lv_iload_n hx hb (i := 3) dJ1_indexOf_4cfef_32 rfl (lv_at hl2 0 rfl) ?_
  refine js_callS (N := N) (len := len) (byt := byt) (adK := adK) (adV := adV) (k := 0) (As := [.ref (adV i), .int (Int32.ofInt x), .int 0, .int (Int32.ofInt (ns.length : Int))]) (rest := []) (r := some (.int (Int32.ofInt (amIdxF x ns 0)))) ⟨hx, hb, hml, hown, hts⟩ (mJ1_indexOfChar hi' h0 h1) jg_J1_indexOfChar_4cfef jl_J1_95 jm_J1_indexOfChar_4cfef ji_J1 (show _ ∧ _ ∧ _ = some 4 by decide +kernel) (by decide) hV hS1 hl2.1 rfl (by decide) dJ1_indexOf_4cfef_33 fun locs2 hlo2 => ?_
  exact W.iret hx hb B.returns (fun t ht _ => ⟨rfl, ht⟩) hlo2 dJ1_indexOf_4cfef_36 B.notSynchronized
theorem mJ0_indexOf2 (hi : jsOf N len byt i ns) (h0 : 0 ≤ x) (h1 : x < 256) : Met l yJ0_indexOf_7cf53 jw_J0_indexOf_7cf53 (amSm 2) (amVp N len byt adK adV A [.ref (adK i), .int (Int32.ofInt x), .int 0]) (amVq (some (.int (Int32.ofInt (amIdxF x ns 0))))) 0 0 A := by
  have hi' := hi
  obtain ⟨hN, hn, hy, hs, hp, hs2⟩ := hi
  refine Met.ofW (cc := cJ0_indexOf_7cf53) (maxL := 3) (ret := some .int) (by decide +kernel) rfl ?_
  intro p e s m args below meth c s₁ B hml hv
  obtain ⟨rfl, hV⟩ := hv
  have hts0 := atoms_spec (ws := jw_J0_indexOf_7cf53) B.pre
  have hts : ∀ w ∈ amT0, w.before _ s = true := fun w hw => hts0 w (List.mem_cons_of_mem _ hw)
  have hown : s.vm.findClass RJ0 = some m.cls := findClass_of_methodNamed B.named
  have hx := B.exec
  have hb := B.bytes
  rw [lg_entry_eq]
  refine lv_aload_n hx hb (i := 0) (x := adK i) dJ0_indexOf_7cf53_0 rfl rfl ?_
  refine js_callV (N := N) (len := len) (byt := byt) (adK := adK) (adV := adV) (k := 0) (As := []) (rest := []) (r := some (.int 1)) ⟨hx, hb, hml, hown, hts⟩ (mJ0_isLatin1 hN) jg_J0_isLatin1_aae02 jl_J0_492 jm_J0_isLatin1_aae02 ji_J0 (show _ ∧ _ ∧ _ = some 0 by decide +kernel) (by decide) hV (vk_recv hV.1 hN va_S.rf) va_S.rf rfl rfl (by decide) dJ0_indexOf_7cf53_1 fun locs1 hl => ?_
  have hS1 : va_S A s.heap s.heap locs1 := ⟨Nat.le_refl _, fun _ _ _ => rfl, hl⟩
  refine lv_if_eq hx hb dJ0_indexOf_7cf53_4 (tgt := 23) (by decide) ?_ ?_
  · intro h; exact absurd h (by decide)
  intro _
  refine lv_aload_n hx hb (i := 0) (x := adK i) dJ0_indexOf_7cf53_7 rfl rfl ?_
  refine vk_getf hx hb (hV.1.1 i hN).2.2.1 hS1 hown (hts _ jl_J0_9) (fun _ h => h) dJ0_indexOf_7cf53_8 ?_
  refine lv_iload_n hx hb (i := 1) (x := Int32.ofInt x) dJ0_indexOf_7cf53_11 rfl rfl ?_
  refine lv_iload_n hx hb (i := 2) (x := 0) dJ0_indexOf_7cf53_12 rfl rfl ?_
  refine lv_aload_n hx hb (i := 0) (x := adK i) dJ0_indexOf_7cf53_13 rfl rfl ?_
  refine js_callV (N := N) (len := len) (byt := byt) (adK := adK) (adV := adV) (k := 1) (As := []) (rest := [.int 0, .int (Int32.ofInt x), .ref (adV i)]) (r := some (.int (Int32.ofInt (ns.length : Int)))) ⟨hx, hb, hml, hown, hts⟩ (mJ0_length hi') jg_J0_length_8abf5 jl_J0_505 jm_J0_length_8abf5 ji_J0 (show _ ∧ _ ∧ _ = some 0 by decide +kernel) (by decide) hV (vk_recv hV.1 hN hS1) hS1 rfl rfl (by show 3 ≤ 8; decide) dJ0_indexOf_7cf53_14 fun locs2 hl2 => ?_
  have hS2 : va_S A s.heap s.heap locs2 := ⟨Nat.le_refl _, fun _ _ _ => rfl, hl2⟩
  refine js_callS (N := N) (len := len) (byt := byt) (adK := adK) (adV := adV) (k := 1) (As := [.ref (adV i), .int (Int32.ofInt x), .int 0, .int (Int32.ofInt (ns.length : Int))]) (rest := []) (r := some (.int (Int32.ofInt (amIdxF x ns 0)))) ⟨hx, hb, hml, hown, hts⟩ (mJ1_indexOf hi' h0 h1) jg_J1_indexOf_4cfef jl_J0_637 jm_J1_indexOf_4cfef ji_J1 (show _ ∧ _ ∧ _ = some 4 by decide +kernel) (by decide) hV hS2 rfl rfl (by decide) dJ0_indexOf_7cf53_17 fun locs3 hl3 => ?_
  refine lv_goto hx hb dJ0_indexOf_7cf53_20 (tgt := 36) (by decide) ?_
  exact W.iret hx hb B.returns (fun t ht _ => ⟨rfl, ht⟩) hl3 dJ0_indexOf_7cf53_36 B.notSynchronized
theorem mJ0_indexOf (hi : jsOf N len byt i ns) (h0 : 0 ≤ x) (h1 : x < 256) : Met l yJ0_indexOf_0f7a4 jw_J0_indexOf_0f7a4 (amSm 3) (amVp N len byt adK adV A [.ref (adK i), .int (Int32.ofInt x)]) (amVq (some (.int (Int32.ofInt (amIdxF x ns 0))))) 0 0 A := by
  have hi' := hi
  obtain ⟨hN, hn, hy, hs, hp, hs2⟩ := hi
  refine Met.ofW (cc := cJ0_indexOf_0f7a4) (maxL := 2) (ret := some .int) (by decide +kernel) rfl ?_
  intro p e s m args below meth c s₁ B hml hv
  obtain ⟨rfl, hV⟩ := hv
  have hts0 := atoms_spec (ws := jw_J0_indexOf_0f7a4) B.pre
  have hts : ∀ w ∈ amT0, w.before _ s = true := fun w hw => hts0 w (List.mem_cons_of_mem _ hw)
  have hown : s.vm.findClass RJ0 = some m.cls := findClass_of_methodNamed B.named
  have hx := B.exec
  have hb := B.bytes
  rw [lg_entry_eq]
  refine lv_aload_n hx hb (i := 0) (x := adK i) dJ0_indexOf_0f7a4_0 rfl rfl ?_
  refine lv_iload_n hx hb (i := 1) (x := Int32.ofInt x) dJ0_indexOf_0f7a4_1 rfl rfl ?_
  refine lv_iconst hx hb (v := 0) dJ0_indexOf_0f7a4_2 (by decide) ?_
  refine js_callV (N := N) (len := len) (byt := byt) (adK := adK) (adV := adV) (k := 2) (As := [.int (Int32.ofInt x), .int 0]) (rest := []) (r := some (.int (Int32.ofInt (amIdxF x ns 0)))) ⟨hx, hb, hml, hown, hts⟩ (mJ0_indexOf2 hi' h0 h1) jg_J0_indexOf_7cf53 jl_J0_633 jm_J0_indexOf_7cf53 ji_J0 (show _ ∧ _ ∧ _ = some 2 by decide +kernel) (by decide) hV (vk_recv hV.1 hN va_S.rf) va_S.rf rfl rfl (by decide) dJ0_indexOf_0f7a4_3 fun locs1 hl => ?_
  exact W.iret hx hb B.returns (fun t ht _ => ⟨rfl, ht⟩) hl dJ0_indexOf_0f7a4_6 B.notSynchronized
end AmST4
theorem js_knd : ∀ c, c < amKndL.length → amKndL.getD c 99 = 29 → c = 98 ∨ c = 99 := by decide +kernel
theorem js_of0 : jsOf 2 [amWords.length, amSigns.length] [amWordsI, amSignsI] 0 (amStr 98) := ⟨by decide, rfl, rfl, by decide +kernel, by decide +kernel, by decide +kernel⟩
theorem js_of1 : jsOf 2 [amWords.length, amSigns.length] [amWordsI, amSignsI] 1 (amStr 99) := ⟨by decide, rfl, rfl, by decide +kernel, by decide +kernel, by decide +kernel⟩
theorem js_k {Z : AmZ} {c s : Nat} (h : amOk (zAl Z) (vR 29 c s)) : ∃ i, c = 98 + i ∧ s = 0 ∧ jsOf 2 [amWords.length, amSigns.length] [amWordsI, amSignsI] i (amStr c) := by
  obtain ⟨hk, hn⟩ := h
  have hc : c = 98 ∨ c = 99 := by
    by_cases hl : c < amKndL.length
    · exact js_knd c hl hk
    · have e : amKndL.getD c 99 = 99 := by rw [List.getD_eq_getElem?_getD, List.getElem?_eq_none (by omega)]; rfl
      rw [e] at hk
      cases hk
  have hs : s = 0 := by
    rcases hn with hn | hn
    · omega
    · exact hn.2
  rcases hc with rfl | rfl
  · exact ⟨0, rfl, hs, js_of0⟩
  · exact ⟨1, rfl, hs, js_of1⟩
theorem js_idx {x : Int} : ∀ (l : List Nat) (k : Int), 0 ≤ k → k + l.length < 2000 → i32 (amIdxF x l k) := by
  intro l
  induction l with
  | nil => intro k _ _; show i32 (-1); unfold i32; omega
  | cons b l ih =>
    intro k h0 h1
    have h2 : k + ((l.length + 1 : Nat) : Int) < 2000 := h1
    show i32 (if (b : Int) = x then k else amIdxF x l (k + 1))
    split
    · unfold i32; omega
    · exact ih (k + 1) (by omega) (by omega)
theorem am_str (Z : AmZ) : amStrOk Z := by
  intro p l e R s m args below meth c cells slots Q cc nL lg L st M ls H locs pc o x a b q z cal c' S hK hX hfx hR hd hq hi hr kk
  obtain ⟨adV, hV⟩ := hX.2.2.2
  have hS := hr.2.2.2.2.2.2.2.1
  have back : ∀ (v : Int) (st' : List AmV), i32 v → (∀ w ∈ st', w ∈ st) → c' = (pc + 3, L, vI v :: st', M) → ∀ locs1 : List Loc, (∀ q ∈ locs1, zA Z q.base) →
      W p l e R s m args below meth c H locs1 cells slots Q (F0 m (pc + 3) ls ((some (Value.int (Int32.ofInt v))).toList ++ st'.map (amV (zAd Z)))) := by
    intro v st' hv hs hc locs1 hl
    subst hc
    refine kk ls H locs1 ⟨hr.1, hr.2.1, hr.2.2.1, hr.2.2.2.1, fun w hw => ?_, hr.2.2.2.2.2.1, hr.2.2.2.2.2.2.1, ⟨hS.1, hS.2.1, hl⟩, hr.2.2.2.2.2.2.2.2⟩
    rcases List.mem_cons.mp hw with rfl | hw
    · exact ⟨hv, trivial⟩
    · exact hr.2.2.2.2.1 w (hs w hw)
  rcases hq with ⟨rfl, hq⟩ | ⟨rfl, hq⟩ | ⟨rfl, hq⟩
  · have h2 : (match st with
      | .inl (some (29, c, _)) :: st' => (bif Nat.ble (amCat st') 8 then .inl (pc + 3, L, vI ((amStr c).length : Int) :: st', M) else amNo : AmR)
      | _ => amNo) = .inl c' := hi
    split at h2
    · rename_i c1 s1 st'
      cases hb2 : Nat.ble (amCat st') 8 with
      | false => rw [hb2] at h2; cases h2
      | true =>
        rw [hb2] at h2
        have f3 := Nat.le_of_ble_eq_true hb2
        cases h2
        obtain ⟨i, rfl, rfl, hj⟩ := js_k (Z := Z) (hr.top (v := vR 29 c1 s1) (by simp))
        have hni : i32 ((amStr (98 + i)).length : Int) := by have := hj.2.2.2.1; unfold i32; omega
        have hrecv := vk_recv (i := i) hV.1 hj.1 hS
        exact js_callV (b := zAd Z (98 + i) 0) (As := []) (k := 1) (rest := st'.map (amV (zAd Z))) S (mJ0_length (adK := fun i => zAd Z (98 + i) 0) (adV := adV) (A := zA Z) hj) jg_J0_length_8abf5 (amMth_ok _ hq) jm_J0_length_8abf5 ji_J0 (show _ ∧ _ ∧ _ = some 0 by decide +kernel) ⟨by omega, by omega, hR.2.2.1, hR.2.2.2⟩ hV hrecv hS hr.1.1 rfl (by rw [amCat_eq]; exact f3) hd (back _ st' hni (fun w hw => by simp [hw]) rfl)
    · cases h2
  · have h2 : (match st with
      | .inr (.inl j) :: .inl (some (29, c, _)) :: st' => (bif Nat.ble (amCat st') 8 then (if 0 ≤ j ∧ j < ((amStr c).length : Int) then .inl (pc + 3, L, vI ((amStr c).getD j.toNat 0 : Nat) :: st', M) else amNo) else amNo : AmR)
      | _ => amNo) = .inl c' := hi
    split at h2
    · rename_i j c1 s1 st'
      cases hb2 : Nat.ble (amCat st') 8 with
      | false => rw [hb2] at h2; cases h2
      | true =>
        rw [hb2] at h2
        have f3 := Nat.le_of_ble_eq_true hb2
        by_cases hjj : 0 ≤ j ∧ j < ((amStr c1).length : Int)
        · rw [if_pos hjj] at h2
          cases h2
          obtain ⟨i, rfl, rfl, hj⟩ := js_k (Z := Z) (hr.top (v := vR 29 c1 s1) (by simp))
          have hb := (js_byt (j := j.toNat) (ns := amStr (98 + i)) (by omega) hj.2.2.2.2.2).1
          have hni : i32 (((amStr (98 + i)).getD j.toNat 0 : Nat) : Int) := by unfold i32; omega
          have hrecv := vk_recv (i := i) hV.1 hj.1 hS
          exact js_callV (b := zAd Z (98 + i) 0) (As := [.int (Int32.ofInt j)]) (k := 3) (rest := st'.map (amV (zAd Z))) S (mJ0_charAt (adK := fun i => zAd Z (98 + i) 0) (adV := adV) (A := zA Z) hj hjj.1 hjj.2) jg_J0_charAt_5068e (amMth_ok _ hq) jm_J0_charAt_5068e ji_J0 (show _ ∧ _ ∧ _ = some 1 by decide +kernel) ⟨by omega, by omega, hR.2.2.1, hR.2.2.2⟩ hV hrecv hS hr.1.1 rfl (by rw [amCat_eq]; exact f3) hd (back _ st' hni (fun w hw => by simp [hw]) rfl)
        · rw [if_neg hjj] at h2
          cases h2
    · cases h2
  · have h2 : (match st with
      | .inr (.inl x) :: .inl (some (29, c, _)) :: st' => (bif Nat.ble (amCat st') 8 then (if 0 ≤ x ∧ x < 256 then .inl (pc + 3, L, vI (amIdxF x (amStr c) 0) :: st', M) else amNo) else amNo : AmR)
      | _ => amNo) = .inl c' := hi
    split at h2
    · rename_i j c1 s1 st'
      cases hb2 : Nat.ble (amCat st') 8 with
      | false => rw [hb2] at h2; cases h2
      | true =>
        rw [hb2] at h2
        have f3 := Nat.le_of_ble_eq_true hb2
        by_cases hjj : 0 ≤ j ∧ j < 256
        · rw [if_pos hjj] at h2
          cases h2
          obtain ⟨i, rfl, rfl, hj⟩ := js_k (Z := Z) (hr.top (v := vR 29 c1 s1) (by simp))
          have hni : i32 (amIdxF j (amStr (98 + i)) 0) := js_idx _ 0 (by omega) (by have := hj.2.2.2.1; omega)
          have hrecv := vk_recv (i := i) hV.1 hj.1 hS
          exact js_callV (b := zAd Z (98 + i) 0) (As := [.int (Int32.ofInt j)]) (k := 3) (rest := st'.map (amV (zAd Z))) S (mJ0_indexOf (adK := fun i => zAd Z (98 + i) 0) (adV := adV) (A := zA Z) hj hjj.1 hjj.2) jg_J0_indexOf_0f7a4 (amMth_ok _ hq) jm_J0_indexOf_0f7a4 ji_J0 (show _ ∧ _ ∧ _ = some 1 by decide +kernel) ⟨by omega, by omega, hR.2.2.1, hR.2.2.2⟩ hV hrecv hS hr.1.1 rfl (by rw [amCat_eq]; exact f3) hd (back _ st' hni (fun w hw => by simp [hw]) rfl)
        · rw [if_neg hjj] at h2
          cases h2
    · cases h2
