/-- one place of a method's code -/
def amChkP (cc : ByteArray) (o : Nat) (ret : Option FieldType) (lg : List Nat) (cd : List (Option AmE)) (pc : Nat) : Bool := match cd.getD pc none with
  | none => true
  | some e => amChk1 cc o ret lg pc e
theorem amChk_app {f : Nat → Bool} {a b : Nat} (h1 : (List.range a).all f = true) (h2 : (List.range b).all (fun k => f (a + k)) = true) : (List.range (a + b)).all f = true := by
  rw [List.range_add, List.all_append, List.all_map, h1]
  exact h2
set_option maxRecDepth 100000 in
theorem amLawC_0 : (List.range 48).all (fun k => amChkP code 13 (some .boolean) [] cdL_law (0 + k)) = true := by decide +kernel
set_option maxRecDepth 100000 in
theorem amLawC_48 : (List.range 48).all (fun k => amChkP code 13 (some .boolean) [] cdL_law (48 + k)) = true := by decide +kernel
set_option maxRecDepth 100000 in
theorem amLawC_96 : (List.range 48).all (fun k => amChkP code 13 (some .boolean) [] cdL_law (96 + k)) = true := by decide +kernel
set_option maxRecDepth 100000 in
theorem amLawC_144 : (List.range 48).all (fun k => amChkP code 13 (some .boolean) [] cdL_law (144 + k)) = true := by decide +kernel
set_option maxRecDepth 100000 in
theorem amLawC_192 : (List.range 48).all (fun k => amChkP code 13 (some .boolean) [] cdL_law (192 + k)) = true := by decide +kernel
set_option maxRecDepth 100000 in
theorem amLawC_240 : (List.range 48).all (fun k => amChkP code 13 (some .boolean) [] cdL_law (240 + k)) = true := by decide +kernel
set_option maxRecDepth 100000 in
theorem amLawC_288 : (List.range 48).all (fun k => amChkP code 13 (some .boolean) [] cdL_law (288 + k)) = true := by decide +kernel
set_option maxRecDepth 100000 in
theorem amLawC_336 : (List.range 48).all (fun k => amChkP code 13 (some .boolean) [] cdL_law (336 + k)) = true := by decide +kernel
set_option maxRecDepth 100000 in
theorem amLawC_384 : (List.range 48).all (fun k => amChkP code 13 (some .boolean) [] cdL_law (384 + k)) = true := by decide +kernel
set_option maxRecDepth 100000 in
theorem amLawC_432 : (List.range 48).all (fun k => amChkP code 13 (some .boolean) [] cdL_law (432 + k)) = true := by decide +kernel
set_option maxRecDepth 100000 in
theorem amLawC_480 : (List.range 48).all (fun k => amChkP code 13 (some .boolean) [] cdL_law (480 + k)) = true := by decide +kernel
set_option maxRecDepth 100000 in
theorem amLawC_528 : (List.range 48).all (fun k => amChkP code 13 (some .boolean) [] cdL_law (528 + k)) = true := by decide +kernel
set_option maxRecDepth 100000 in
theorem amLawC_576 : (List.range 48).all (fun k => amChkP code 13 (some .boolean) [] cdL_law (576 + k)) = true := by decide +kernel
set_option maxRecDepth 100000 in
theorem amLawC_624 : (List.range 48).all (fun k => amChkP code 13 (some .boolean) [] cdL_law (624 + k)) = true := by decide +kernel
set_option maxRecDepth 100000 in
theorem amLawC_672 : (List.range 48).all (fun k => amChkP code 13 (some .boolean) [] cdL_law (672 + k)) = true := by decide +kernel
set_option maxRecDepth 100000 in
theorem amLawC_720 : (List.range 48).all (fun k => amChkP code 13 (some .boolean) [] cdL_law (720 + k)) = true := by decide +kernel
set_option maxRecDepth 100000 in
theorem amLawC_768 : (List.range 48).all (fun k => amChkP code 13 (some .boolean) [] cdL_law (768 + k)) = true := by decide +kernel
set_option maxRecDepth 100000 in
theorem amLawC_816 : (List.range 48).all (fun k => amChkP code 13 (some .boolean) [] cdL_law (816 + k)) = true := by decide +kernel
set_option maxRecDepth 100000 in
theorem amLawC_864 : (List.range 48).all (fun k => amChkP code 13 (some .boolean) [] cdL_law (864 + k)) = true := by decide +kernel
set_option maxRecDepth 100000 in
theorem amLawC_912 : (List.range 48).all (fun k => amChkP code 13 (some .boolean) [] cdL_law (912 + k)) = true := by decide +kernel
set_option maxRecDepth 100000 in
theorem amLawC_960 : (List.range 48).all (fun k => amChkP code 13 (some .boolean) [] cdL_law (960 + k)) = true := by decide +kernel
set_option maxRecDepth 100000 in
theorem amLawC_1008 : (List.range 24).all (fun k => amChkP code 13 (some .boolean) [] cdL_law (1008 + k)) = true := by decide +kernel
theorem amLawD_0 : (List.range 0).all (amChkP code 13 (some .boolean) [] cdL_law) = true := rfl
theorem amLawD_48 : (List.range 48).all (amChkP code 13 (some .boolean) [] cdL_law) = true := amChk_app (a := 0) (b := 48) amLawD_0 amLawC_0
theorem amLawD_96 : (List.range 96).all (amChkP code 13 (some .boolean) [] cdL_law) = true := amChk_app (a := 48) (b := 48) amLawD_48 amLawC_48
theorem amLawD_144 : (List.range 144).all (amChkP code 13 (some .boolean) [] cdL_law) = true := amChk_app (a := 96) (b := 48) amLawD_96 amLawC_96
theorem amLawD_192 : (List.range 192).all (amChkP code 13 (some .boolean) [] cdL_law) = true := amChk_app (a := 144) (b := 48) amLawD_144 amLawC_144
theorem amLawD_240 : (List.range 240).all (amChkP code 13 (some .boolean) [] cdL_law) = true := amChk_app (a := 192) (b := 48) amLawD_192 amLawC_192
theorem amLawD_288 : (List.range 288).all (amChkP code 13 (some .boolean) [] cdL_law) = true := amChk_app (a := 240) (b := 48) amLawD_240 amLawC_240
theorem amLawD_336 : (List.range 336).all (amChkP code 13 (some .boolean) [] cdL_law) = true := amChk_app (a := 288) (b := 48) amLawD_288 amLawC_288
theorem amLawD_384 : (List.range 384).all (amChkP code 13 (some .boolean) [] cdL_law) = true := amChk_app (a := 336) (b := 48) amLawD_336 amLawC_336
theorem amLawD_432 : (List.range 432).all (amChkP code 13 (some .boolean) [] cdL_law) = true := amChk_app (a := 384) (b := 48) amLawD_384 amLawC_384
theorem amLawD_480 : (List.range 480).all (amChkP code 13 (some .boolean) [] cdL_law) = true := amChk_app (a := 432) (b := 48) amLawD_432 amLawC_432
theorem amLawD_528 : (List.range 528).all (amChkP code 13 (some .boolean) [] cdL_law) = true := amChk_app (a := 480) (b := 48) amLawD_480 amLawC_480
theorem amLawD_576 : (List.range 576).all (amChkP code 13 (some .boolean) [] cdL_law) = true := amChk_app (a := 528) (b := 48) amLawD_528 amLawC_528
theorem amLawD_624 : (List.range 624).all (amChkP code 13 (some .boolean) [] cdL_law) = true := amChk_app (a := 576) (b := 48) amLawD_576 amLawC_576
theorem amLawD_672 : (List.range 672).all (amChkP code 13 (some .boolean) [] cdL_law) = true := amChk_app (a := 624) (b := 48) amLawD_624 amLawC_624
theorem amLawD_720 : (List.range 720).all (amChkP code 13 (some .boolean) [] cdL_law) = true := amChk_app (a := 672) (b := 48) amLawD_672 amLawC_672
theorem amLawD_768 : (List.range 768).all (amChkP code 13 (some .boolean) [] cdL_law) = true := amChk_app (a := 720) (b := 48) amLawD_720 amLawC_720
theorem amLawD_816 : (List.range 816).all (amChkP code 13 (some .boolean) [] cdL_law) = true := amChk_app (a := 768) (b := 48) amLawD_768 amLawC_768
theorem amLawD_864 : (List.range 864).all (amChkP code 13 (some .boolean) [] cdL_law) = true := amChk_app (a := 816) (b := 48) amLawD_816 amLawC_816
theorem amLawD_912 : (List.range 912).all (amChkP code 13 (some .boolean) [] cdL_law) = true := amChk_app (a := 864) (b := 48) amLawD_864 amLawC_864
theorem amLawD_960 : (List.range 960).all (amChkP code 13 (some .boolean) [] cdL_law) = true := amChk_app (a := 912) (b := 48) amLawD_912 amLawC_912
theorem amLawD_1008 : (List.range 1008).all (amChkP code 13 (some .boolean) [] cdL_law) = true := amChk_app (a := 960) (b := 48) amLawD_960 amLawC_960
theorem amLawD_1032 : (List.range 1032).all (amChkP code 13 (some .boolean) [] cdL_law) = true := amChk_app (a := 1008) (b := 24) amLawD_1008 amLawC_1008
set_option maxRecDepth 100000 in
theorem amLaw_len : cdL_law.length = 1032 := by decide +kernel
theorem amLaw_chk : amChkC code 13 (some .boolean) [] cdL_law = true := by
  unfold amChkC
  rw [amLaw_len]
  exact amLawD_1032
