/-! constructors: names, links -/
def amYcL : List MethodName := [yX0_init, yX1_init, yX2_init, yX3_init, yX4_init, yX5_init, yX6_init, yX7_init, yX8_init, yX9_init, yX10_init, yX11_init, yX12_init]
def amByC : List ByteArray := [cX0_init, cX1_init, cX2_init, cX3_init, cX4_init, cX5_init, cX6_init, cX7_init, cX8_init, cX9_init, cX10_init, cX11_init, cX12_init]
def amNpC : List Nat := [2, 0, 2, 1, 1, 1, 0, 0, 0, 2, 1, 0, 0]
def amYc (a : Nat) : MethodName := amYcL.getD a ⟨"", "", ""⟩
def amWsC (a : Nat) : List Jvm.Cond := Jvm.Cond.code (amYc a) (amByC.getD a ⟨#[]⟩) (amCtL.getD a 0) none :: amT0
def amCtOk (a : Nat) : Prop := Jvm.Cond.code (amYc a) (amByC.getD a ⟨#[]⟩) (amCtL.getD a 0) none ∈ amT0 ∧ Jvm.Cond.initialized (amYc a).cls ∈ amT0 ∧ Jvm.Cond.instanceMethod (amYc a) ∈ amT0 ∧ plainName (amYc a).cls = true ∧
  ((amYc a).cls ≠ "java/lang/invoke/MethodHandle" ∧ (amYc a).cls ≠ "java/lang/invoke/VarHandle" ∧ (parseMethodDescriptor (amYc a).desc).map (fun d => d.parameters.length) = some (amNpC.getD a 0)) ∧ (amYc a).cls = amR a ∧ (amYc a).name = "<init>" ∧ amCtL.getD a 0 ≤ 4
theorem amCtOk_0 : amCtOk 0 := ⟨amIn0 502 (by decide +kernel) (by decide +kernel), amIn0 177 (by decide +kernel) (by decide +kernel), amIn0 501 (by decide +kernel) (by decide +kernel), by decide +kernel, by decide +kernel, by decide +kernel, by decide +kernel, by decide +kernel⟩
theorem amCtOk_1 : amCtOk 1 := ⟨amIn0 233 (by decide +kernel) (by decide +kernel), amIn0 171 (by decide +kernel) (by decide +kernel), amIn0 232 (by decide +kernel) (by decide +kernel), by decide +kernel, by decide +kernel, by decide +kernel, by decide +kernel, by decide +kernel⟩
theorem amCtOk_2 : amCtOk 2 := ⟨amIn0 539 (by decide +kernel) (by decide +kernel), amIn0 178 (by decide +kernel) (by decide +kernel), amIn0 538 (by decide +kernel) (by decide +kernel), by decide +kernel, by decide +kernel, by decide +kernel, by decide +kernel, by decide +kernel⟩
theorem amCtOk_3 : amCtOk 3 := ⟨amIn0 461 (by decide +kernel) (by decide +kernel), amIn0 176 (by decide +kernel) (by decide +kernel), amIn0 460 (by decide +kernel) (by decide +kernel), by decide +kernel, by decide +kernel, by decide +kernel, by decide +kernel, by decide +kernel⟩
theorem amCtOk_4 : amCtOk 4 := ⟨amIn0 318 (by decide +kernel) (by decide +kernel), amIn0 172 (by decide +kernel) (by decide +kernel), amIn0 317 (by decide +kernel) (by decide +kernel), by decide +kernel, by decide +kernel, by decide +kernel, by decide +kernel, by decide +kernel⟩
theorem amCtOk_5 : amCtOk 5 := ⟨amIn0 391 (by decide +kernel) (by decide +kernel), amIn0 174 (by decide +kernel) (by decide +kernel), amIn0 390 (by decide +kernel) (by decide +kernel), by decide +kernel, by decide +kernel, by decide +kernel, by decide +kernel, by decide +kernel⟩
theorem amCtOk_6 : amCtOk 6 := ⟨amIn0 397 (by decide +kernel) (by decide +kernel), amIn0 175 (by decide +kernel) (by decide +kernel), amIn0 396 (by decide +kernel) (by decide +kernel), by decide +kernel, by decide +kernel, by decide +kernel, by decide +kernel, by decide +kernel⟩
theorem amCtOk_7 : amCtOk 7 := ⟨amIn0 201 (by decide +kernel) (by decide +kernel), amIn0 169 (by decide +kernel) (by decide +kernel), amIn0 200 (by decide +kernel) (by decide +kernel), by decide +kernel, by decide +kernel, by decide +kernel, by decide +kernel, by decide +kernel⟩
theorem amCtOk_8 : amCtOk 8 := ⟨amIn0 227 (by decide +kernel) (by decide +kernel), amIn0 170 (by decide +kernel) (by decide +kernel), amIn0 226 (by decide +kernel) (by decide +kernel), by decide +kernel, by decide +kernel, by decide +kernel, by decide +kernel, by decide +kernel⟩
theorem amCtOk_9 : amCtOk 9 := ⟨amIn0 555 (by decide +kernel) (by decide +kernel), amIn0 179 (by decide +kernel) (by decide +kernel), amIn0 554 (by decide +kernel) (by decide +kernel), by decide +kernel, by decide +kernel, by decide +kernel, by decide +kernel, by decide +kernel⟩
theorem amCtOk_10 : amCtOk 10 := ⟨amIn0 358 (by decide +kernel) (by decide +kernel), amIn0 173 (by decide +kernel) (by decide +kernel), amIn0 357 (by decide +kernel) (by decide +kernel), by decide +kernel, by decide +kernel, by decide +kernel, by decide +kernel, by decide +kernel⟩
theorem amCtOk_11 : amCtOk 11 := ⟨amIn0 193 rfl rfl, amIn0 168 (by decide +kernel) (by decide +kernel), amIn0 192 (by decide +kernel) (by decide +kernel), by decide +kernel, by decide +kernel, by decide +kernel, by decide +kernel, by decide +kernel⟩
set_option maxRecDepth 100000 in
theorem amCtOk_12 : amCtOk 12 := ⟨amIn0 1401 rfl rfl, amIn0 180 (by decide +kernel) (by decide +kernel), amIn0 1400 (by decide +kernel) (by decide +kernel), by decide +kernel, by decide +kernel, by decide +kernel, by decide +kernel, by decide +kernel⟩
theorem amCt_ok : ∀ a, a < 13 → amCtOk a := fun a h => match a, h with
  | 0, _ => amCtOk_0
  | 1, _ => amCtOk_1
  | 2, _ => amCtOk_2
  | 3, _ => amCtOk_3
  | 4, _ => amCtOk_4
  | 5, _ => amCtOk_5
  | 6, _ => amCtOk_6
  | 7, _ => amCtOk_7
  | 8, _ => amCtOk_8
  | 9, _ => amCtOk_9
  | 10, _ => amCtOk_10
  | 11, _ => amCtOk_11
  | 12, _ => amCtOk_12
  | n + 13, h => absurd h (by omega)
def amNewOk (t : Nat × Nat × Nat) : Prop := Jvm.Cond.classLink (amR t.1) t.2.1 (amR t.2.2) ∈ amT0 ∧ Jvm.Cond.instantiable (amR t.2.2) (amFkL.getD t.2.2 []).length ∈ amT0 ∧ Jvm.Cond.initialized (amR t.2.2) ∈ amT0 ∧ t.2.2 < 13
def amAnwOk (t : Nat × Nat × Nat) : Prop := (t.2.2 = 24 ∧ Jvm.Cond.classLink (amR t.1) t.2.1 "SaltStairs$Scene" ∈ amT0) ∨ (t.2.2 = 25 ∧ Jvm.Cond.classLink (amR t.1) t.2.1 "SaltStairs$Stairs" ∈ amT0)
def amPutOk (t : Nat × Nat × Nat × Nat) : Prop := (Jvm.Cond.fieldLink (amR t.1) t.2.1 (amTf t.2.2.1 t.2.2.2).1 (amTf t.2.2.1 t.2.2.2).2.1 (amTf t.2.2.1 t.2.2.2).2.2.1 ∈ amT0) ∧ t.1 = t.2.2.1 ∧ t.2.2.1 < 13 ∧ t.2.2.2 < (amFkL.getD t.2.2.1 []).length ∧ (amFkL.getD t.2.2.1 []).getD t.2.2.2 0 = 2 ∧ (amTf t.2.2.1 t.2.2.2).2.2.2 = true ∧ (amTf t.2.2.1 t.2.2.2).1 = amR t.1 ∧ ∃ ty, parseFieldDescriptor (amTf t.2.2.1 t.2.2.2).2.2.1 = some ty ∧ ∀ q : Nat, narrow ty (.ref q) = .ref q ∧ fits ty (.ref q) = true
theorem amPutOk_of {t : Nat × Nat × Nat × Nat} (h : Jvm.Cond.fieldLink (amR t.1) t.2.1 (amTf t.2.2.1 t.2.2.2).1 (amTf t.2.2.1 t.2.2.2).2.1 (amTf t.2.2.1 t.2.2.2).2.2.1 ∈ amT0) (h1 : (decide (t.1 = t.2.2.1) && (decide (t.2.2.1 < 13) && (decide (t.2.2.2 < (amFkL.getD t.2.2.1 []).length) && (decide ((amFkL.getD t.2.2.1 []).getD t.2.2.2 0 = 2) && ((amTf t.2.2.1 t.2.2.2).2.2.2 && (decide ((amTf t.2.2.1 t.2.2.2).1 = amR t.1) && (match parseFieldDescriptor (amTf t.2.2.1 t.2.2.2).2.2.1 with
    | some (.object _) => true
    | some (.array _) => true
    | _ => false))))))) = true) : amPutOk t := by
  simp only [Bool.and_eq_true, decide_eq_true_eq] at h1
  obtain ⟨a1, a2, a3, a4, a5, a6, a7⟩ := h1
  refine ⟨h, a1, a2, a3, a4, a5, a6, ?_⟩
  split at a7
  · rename_i hp
    exact ⟨_, hp, fun q => ⟨rfl, rfl⟩⟩
  · rename_i hp
    exact ⟨_, hp, fun q => ⟨rfl, rfl⟩⟩
  · cases a7
def amIniOk (t : Nat × Nat × Nat × Nat) : Prop := t.2.2.1 < 13 ∧ ((t.2.2.2 = 0 ∧ Jvm.Cond.methodLink (amR t.1) t.2.1 (amYc t.2.2.1) ∈ amT0) ∨ (t.2.2.2 = 1 ∧ Jvm.Cond.methodLinkNest (amR t.1) t.2.1 (amYc t.2.2.1) "SaltStairs" ∈ amNs))
def amObjOk (t : Nat × Nat) : Prop := Jvm.Cond.methodLink (amR t.1) t.2 Lib.objectInit ∈ amT0
theorem amNew_0 : amNewOk (0, 9, 6) := ⟨amIn0 504 (by decide +kernel) (by decide +kernel), amIn0 394 (by decide +kernel) (by decide +kernel), amIn0 175 (by decide +kernel) (by decide +kernel), by decide⟩
theorem amNew_1 : amNewOk (3, 9, 6) := ⟨amIn0 463 (by decide +kernel) (by decide +kernel), amIn0 394 (by decide +kernel) (by decide +kernel), amIn0 175 (by decide +kernel) (by decide +kernel), by decide⟩
theorem amNew_2 : amNewOk (4, 9, 8) := ⟨amIn0 320 (by decide +kernel) (by decide +kernel), amIn0 224 (by decide +kernel) (by decide +kernel), amIn0 170 (by decide +kernel) (by decide +kernel), by decide⟩
theorem amNew_3 : amNewOk (5, 9, 6) := ⟨amIn0 393 (by decide +kernel) (by decide +kernel), amIn0 394 (by decide +kernel) (by decide +kernel), amIn0 175 (by decide +kernel) (by decide +kernel), by decide⟩
theorem amNew_4 : amNewOk (8, 24, 1) := ⟨amIn0 229 (by decide +kernel) (by decide +kernel), amIn0 230 (by decide +kernel) (by decide +kernel), amIn0 171 (by decide +kernel) (by decide +kernel), by decide⟩
theorem amNew_5 : amNewOk (9, 9, 6) := ⟨amIn0 557 (by decide +kernel) (by decide +kernel), amIn0 394 (by decide +kernel) (by decide +kernel), amIn0 175 (by decide +kernel) (by decide +kernel), by decide⟩
theorem amNew_6 : amNewOk (11, 9, 7) := ⟨amIn0 197 (by decide +kernel) (by decide +kernel), amIn0 198 (by decide +kernel) (by decide +kernel), amIn0 169 (by decide +kernel) (by decide +kernel), by decide⟩
theorem amNew_7 : amNewOk (11, 16, 8) := ⟨amIn0 223 (by decide +kernel) (by decide +kernel), amIn0 224 (by decide +kernel) (by decide +kernel), amIn0 170 (by decide +kernel) (by decide +kernel), by decide⟩
theorem amNew_8 : amNewOk (11, 23, 4) := ⟨amIn0 314 (by decide +kernel) (by decide +kernel), amIn0 315 (by decide +kernel) (by decide +kernel), amIn0 172 (by decide +kernel) (by decide +kernel), by decide⟩
theorem amNew_9 : amNewOk (11, 32, 10) := ⟨amIn0 354 (by decide +kernel) (by decide +kernel), amIn0 355 (by decide +kernel) (by decide +kernel), amIn0 173 (by decide +kernel) (by decide +kernel), by decide⟩
theorem amNew_10 : amNewOk (11, 41, 5) := ⟨amIn0 387 (by decide +kernel) (by decide +kernel), amIn0 388 (by decide +kernel) (by decide +kernel), amIn0 174 (by decide +kernel) (by decide +kernel), by decide⟩
theorem amNew_11 : amNewOk (11, 59, 6) := ⟨amIn0 455 (by decide +kernel) (by decide +kernel), amIn0 394 (by decide +kernel) (by decide +kernel), amIn0 175 (by decide +kernel) (by decide +kernel), by decide⟩
theorem amNew_12 : amNewOk (11, 66, 3) := ⟨amIn0 457 (by decide +kernel) (by decide +kernel), amIn0 458 (by decide +kernel) (by decide +kernel), amIn0 176 (by decide +kernel) (by decide +kernel), by decide⟩
theorem amNew_13 : amNewOk (11, 75, 0) := ⟨amIn0 498 (by decide +kernel) (by decide +kernel), amIn0 499 (by decide +kernel) (by decide +kernel), amIn0 177 (by decide +kernel) (by decide +kernel), by decide⟩
theorem amNew_14 : amNewOk (11, 84, 2) := ⟨amIn0 535 (by decide +kernel) (by decide +kernel), amIn0 536 (by decide +kernel) (by decide +kernel), amIn0 178 (by decide +kernel) (by decide +kernel), by decide⟩
theorem amNew_15 : amNewOk (11, 91, 9) := ⟨amIn0 551 (by decide +kernel) (by decide +kernel), amIn0 552 (by decide +kernel) (by decide +kernel), amIn0 179 (by decide +kernel) (by decide +kernel), by decide⟩
theorem amNew_16 : amNewOk (13, 7, 11) := ⟨amIn0 189 (by decide +kernel) (by decide +kernel), amIn0 190 (by decide +kernel) (by decide +kernel), amIn0 168 (by decide +kernel) (by decide +kernel), by decide⟩
theorem amNew_17 : amNewOk (13, 10, 12) := ⟨amIn0 1397 (by decide +kernel) (by decide +kernel), amIn0 1398 (by decide +kernel) (by decide +kernel), amIn0 180 (by decide +kernel) (by decide +kernel), by decide⟩
def amNewT : List (Nat × Nat × Nat) := [(0, 9, 6), (3, 9, 6), (4, 9, 8), (5, 9, 6), (8, 24, 1), (9, 9, 6), (11, 9, 7), (11, 16, 8), (11, 23, 4), (11, 32, 10), (11, 41, 5), (11, 59, 6), (11, 66, 3), (11, 75, 0), (11, 84, 2), (11, 91, 9), (13, 7, 11), (13, 10, 12)]
theorem amNew_ok : ∀ t ∈ amNewT, amNewOk t := List.forall_mem_cons.mpr ⟨amNew_0, List.forall_mem_cons.mpr ⟨amNew_1, List.forall_mem_cons.mpr ⟨amNew_2, List.forall_mem_cons.mpr ⟨amNew_3, List.forall_mem_cons.mpr ⟨amNew_4, List.forall_mem_cons.mpr ⟨amNew_5, List.forall_mem_cons.mpr ⟨amNew_6, List.forall_mem_cons.mpr ⟨amNew_7, List.forall_mem_cons.mpr ⟨amNew_8, List.forall_mem_cons.mpr ⟨amNew_9, List.forall_mem_cons.mpr ⟨amNew_10, List.forall_mem_cons.mpr ⟨amNew_11, List.forall_mem_cons.mpr ⟨amNew_12, List.forall_mem_cons.mpr ⟨amNew_13, List.forall_mem_cons.mpr ⟨amNew_14, List.forall_mem_cons.mpr ⟨amNew_15, List.forall_mem_cons.mpr ⟨amNew_16, List.forall_mem_cons.mpr ⟨amNew_17, fun _ h => absurd h List.not_mem_nil⟩⟩⟩⟩⟩⟩⟩⟩⟩⟩⟩⟩⟩⟩⟩⟩⟩⟩
theorem amAnw_0 : amAnwOk (3, 9, 25) := Or.inr ⟨rfl, amIn0 463 (by decide +kernel) (by decide +kernel)⟩
theorem amAnw_1 : amAnwOk (11, 41, 24) := Or.inl ⟨rfl, amIn0 387 (by decide +kernel) (by decide +kernel)⟩
def amAnwT : List (Nat × Nat × Nat) := [(3, 9, 25), (11, 41, 24)]
theorem amAnw_ok : ∀ t ∈ amAnwT, amAnwOk t := List.forall_mem_cons.mpr ⟨amAnw_0, List.forall_mem_cons.mpr ⟨amAnw_1, fun _ h => absurd h List.not_mem_nil⟩⟩
theorem amPut_0 : amPutOk (0, 12, 0, 2) := amPutOk_of (amIn0 508 (by decide +kernel) (by decide +kernel)) (by decide +kernel)
theorem amPut_1 : amPutOk (0, 22, 0, 0) := amPutOk_of (amIn0 506 (by decide +kernel) (by decide +kernel)) (by decide +kernel)
theorem amPut_2 : amPutOk (0, 26, 0, 1) := amPutOk_of (amIn0 507 (by decide +kernel) (by decide +kernel)) (by decide +kernel)
theorem amPut_3 : amPutOk (1, 11, 1, 0) := amPutOk_of (amIn0 239 (by decide +kernel) (by decide +kernel)) (by decide +kernel)
theorem amPut_4 : amPutOk (1, 17, 1, 2) := amPutOk_of (amIn0 242 (by decide +kernel) (by decide +kernel)) (by decide +kernel)
theorem amPut_5 : amPutOk (1, 20, 1, 3) := amPutOk_of (amIn0 243 (by decide +kernel) (by decide +kernel)) (by decide +kernel)
theorem amPut_6 : amPutOk (2, 9, 2, 2) := amPutOk_of (amIn0 543 (by decide +kernel) (by decide +kernel)) (by decide +kernel)
theorem amPut_7 : amPutOk (2, 15, 2, 0) := amPutOk_of (amIn0 541 (by decide +kernel) (by decide +kernel)) (by decide +kernel)
theorem amPut_8 : amPutOk (2, 19, 2, 1) := amPutOk_of (amIn0 542 (by decide +kernel) (by decide +kernel)) (by decide +kernel)
theorem amPut_9 : amPutOk (3, 11, 3, 1) := amPutOk_of (amIn0 467 (by decide +kernel) (by decide +kernel)) (by decide +kernel)
theorem amPut_10 : amPutOk (3, 17, 3, 2) := amPutOk_of (amIn0 468 (by decide +kernel) (by decide +kernel)) (by decide +kernel)
theorem amPut_11 : amPutOk (3, 21, 3, 3) := amPutOk_of (amIn0 469 (by decide +kernel) (by decide +kernel)) (by decide +kernel)
theorem amPut_12 : amPutOk (3, 28, 3, 0) := amPutOk_of (amIn0 466 (by decide +kernel) (by decide +kernel)) (by decide +kernel)
theorem amPut_13 : amPutOk (4, 12, 4, 1) := amPutOk_of (amIn0 323 (by decide +kernel) (by decide +kernel)) (by decide +kernel)
theorem amPut_14 : amPutOk (4, 18, 4, 2) := amPutOk_of (amIn0 325 (by decide +kernel) (by decide +kernel)) (by decide +kernel)
theorem amPut_15 : amPutOk (4, 22, 4, 0) := amPutOk_of (amIn0 322 (by decide +kernel) (by decide +kernel)) (by decide +kernel)
theorem amPut_16 : amPutOk (5, 12, 5, 1) := amPutOk_of (amIn0 416 (by decide +kernel) (by decide +kernel)) (by decide +kernel)
theorem amPut_17 : amPutOk (5, 18, 5, 2) := amPutOk_of (amIn0 421 (by decide +kernel) (by decide +kernel)) (by decide +kernel)
theorem amPut_18 : amPutOk (5, 22, 5, 3) := amPutOk_of (amIn0 424 (by decide +kernel) (by decide +kernel)) (by decide +kernel)
theorem amPut_19 : amPutOk (5, 25, 5, 4) := amPutOk_of (amIn0 426 (by decide +kernel) (by decide +kernel)) (by decide +kernel)
theorem amPut_20 : amPutOk (5, 28, 5, 5) := amPutOk_of (amIn0 428 (by decide +kernel) (by decide +kernel)) (by decide +kernel)
theorem amPut_21 : amPutOk (5, 31, 5, 0) := amPutOk_of (amIn0 415 (by decide +kernel) (by decide +kernel)) (by decide +kernel)
theorem amPut_22 : amPutOk (6, 9, 6, 0) := amPutOk_of (amIn0 399 (by decide +kernel) (by decide +kernel)) (by decide +kernel)
theorem amPut_23 : amPutOk (6, 15, 6, 1) := amPutOk_of (amIn0 400 (by decide +kernel) (by decide +kernel)) (by decide +kernel)
theorem amPut_24 : amPutOk (7, 11, 7, 0) := amPutOk_of (amIn0 203 (by decide +kernel) (by decide +kernel)) (by decide +kernel)
theorem amPut_25 : amPutOk (7, 15, 7, 2) := amPutOk_of (amIn0 206 (by decide +kernel) (by decide +kernel)) (by decide +kernel)
theorem amPut_26 : amPutOk (7, 19, 7, 3) := amPutOk_of (amIn0 207 (by decide +kernel) (by decide +kernel)) (by decide +kernel)
theorem amPut_27 : amPutOk (7, 23, 7, 4) := amPutOk_of (amIn0 208 (by decide +kernel) (by decide +kernel)) (by decide +kernel)
theorem amPut_28 : amPutOk (8, 9, 8, 0) := amPutOk_of (amIn0 253 (by decide +kernel) (by decide +kernel)) (by decide +kernel)
theorem amPut_29 : amPutOk (8, 15, 8, 1) := amPutOk_of (amIn0 258 (by decide +kernel) (by decide +kernel)) (by decide +kernel)
theorem amPut_30 : amPutOk (8, 18, 8, 2) := amPutOk_of (amIn0 260 (by decide +kernel) (by decide +kernel)) (by decide +kernel)
theorem amPut_31 : amPutOk (8, 21, 8, 3) := amPutOk_of (amIn0 265 (by decide +kernel) (by decide +kernel)) (by decide +kernel)
theorem amPut_32 : amPutOk (8, 27, 8, 4) := amPutOk_of (amIn0 269 (by decide +kernel) (by decide +kernel)) (by decide +kernel)
theorem amPut_33 : amPutOk (9, 12, 9, 2) := amPutOk_of (amIn0 561 (by decide +kernel) (by decide +kernel)) (by decide +kernel)
theorem amPut_34 : amPutOk (9, 18, 9, 3) := amPutOk_of (amIn0 562 (by decide +kernel) (by decide +kernel)) (by decide +kernel)
theorem amPut_35 : amPutOk (9, 22, 9, 4) := amPutOk_of (amIn0 563 (by decide +kernel) (by decide +kernel)) (by decide +kernel)
theorem amPut_36 : amPutOk (9, 25, 9, 6) := amPutOk_of (amIn0 566 (by decide +kernel) (by decide +kernel)) (by decide +kernel)
theorem amPut_37 : amPutOk (9, 28, 9, 0) := amPutOk_of (amIn0 559 (by decide +kernel) (by decide +kernel)) (by decide +kernel)
theorem amPut_38 : amPutOk (9, 32, 9, 1) := amPutOk_of (amIn0 560 (by decide +kernel) (by decide +kernel)) (by decide +kernel)
theorem amPut_39 : amPutOk (10, 9, 10, 1) := amPutOk_of (amIn0 361 (by decide +kernel) (by decide +kernel)) (by decide +kernel)
theorem amPut_40 : amPutOk (10, 15, 10, 0) := amPutOk_of (amIn0 360 (by decide +kernel) (by decide +kernel)) (by decide +kernel)
theorem amPut_41 : amPutOk (11, 12, 11, 0) := amPutOk_of (amIn0 585 (by decide +kernel) (by decide +kernel)) (by decide +kernel)
theorem amPut_42 : amPutOk (11, 19, 11, 1) := amPutOk_of (amIn0 586 (by decide +kernel) (by decide +kernel)) (by decide +kernel)
theorem amPut_43 : amPutOk (11, 28, 11, 2) := amPutOk_of (amIn0 587 (by decide +kernel) (by decide +kernel)) (by decide +kernel)
theorem amPut_44 : amPutOk (11, 37, 11, 3) := amPutOk_of (amIn0 588 (by decide +kernel) (by decide +kernel)) (by decide +kernel)
theorem amPut_45 : amPutOk (11, 44, 11, 4) := amPutOk_of (amIn0 589 (by decide +kernel) (by decide +kernel)) (by decide +kernel)
theorem amPut_46 : amPutOk (11, 48, 11, 5) := amPutOk_of (amIn0 590 (by decide +kernel) (by decide +kernel)) (by decide +kernel)
theorem amPut_47 : amPutOk (11, 52, 11, 6) := amPutOk_of (amIn0 591 (by decide +kernel) (by decide +kernel)) (by decide +kernel)
theorem amPut_48 : amPutOk (11, 55, 11, 7) := amPutOk_of (amIn0 592 (by decide +kernel) (by decide +kernel)) (by decide +kernel)
theorem amPut_49 : amPutOk (11, 62, 11, 8) := amPutOk_of (amIn0 593 (by decide +kernel) (by decide +kernel)) (by decide +kernel)
theorem amPut_50 : amPutOk (11, 71, 11, 9) := amPutOk_of (amIn0 594 (by decide +kernel) (by decide +kernel)) (by decide +kernel)
theorem amPut_51 : amPutOk (11, 80, 11, 10) := amPutOk_of (amIn0 595 (by decide +kernel) (by decide +kernel)) (by decide +kernel)
theorem amPut_52 : amPutOk (11, 87, 11, 11) := amPutOk_of (amIn0 596 (by decide +kernel) (by decide +kernel)) (by decide +kernel)
theorem amPut_53 : amPutOk (11, 94, 11, 12) := amPutOk_of (amIn0 597 (by decide +kernel) (by decide +kernel)) (by decide +kernel)
theorem amPut_54 : amPutOk (12, 13, 12, 1) := amPutOk_of (amIn0 1410 (by decide +kernel) (by decide +kernel)) (by decide +kernel)
theorem amPut_55 : amPutOk (12, 17, 12, 3) := amPutOk_of (amIn0 1412 (by decide +kernel) (by decide +kernel)) (by decide +kernel)
theorem amPut_56 : amPutOk (12, 20, 12, 5) := amPutOk_of (amIn0 1414 (by decide +kernel) (by decide +kernel)) (by decide +kernel)
theorem amPut_57 : amPutOk (12, 24, 12, 6) := amPutOk_of (amIn0 1415 (by decide +kernel) (by decide +kernel)) (by decide +kernel)
theorem amPut_58 : amPutOk (12, 27, 12, 7) := amPutOk_of (amIn0 1416 (by decide +kernel) (by decide +kernel)) (by decide +kernel)
theorem amPut_59 : amPutOk (12, 30, 12, 8) := amPutOk_of (amIn0 1417 (by decide +kernel) (by decide +kernel)) (by decide +kernel)
theorem amPut_60 : amPutOk (12, 34, 12, 9) := amPutOk_of (amIn0 1418 (by decide +kernel) (by decide +kernel)) (by decide +kernel)
theorem amPut_61 : amPutOk (12, 40, 12, 21) := amPutOk_of (amIn0 1430 (by decide +kernel) (by decide +kernel)) (by decide +kernel)
theorem amPut_62 : amPutOk (12, 43, 12, 22) := amPutOk_of (amIn0 1431 (by decide +kernel) (by decide +kernel)) (by decide +kernel)
theorem amPut_63 : amPutOk (12, 46, 12, 23) := amPutOk_of (amIn0 1432 (by decide +kernel) (by decide +kernel)) (by decide +kernel)
theorem amPut_64 : amPutOk (12, 49, 12, 24) := amPutOk_of (amIn0 1433 (by decide +kernel) (by decide +kernel)) (by decide +kernel)
theorem amPut_65 : amPutOk (12, 52, 12, 25) := amPutOk_of (amIn0 1434 (by decide +kernel) (by decide +kernel)) (by decide +kernel)
theorem amPut_66 : amPutOk (12, 55, 12, 26) := amPutOk_of (amIn0 1435 (by decide +kernel) (by decide +kernel)) (by decide +kernel)
theorem amPut_67 : amPutOk (12, 58, 12, 27) := amPutOk_of (amIn0 1436 (by decide +kernel) (by decide +kernel)) (by decide +kernel)
theorem amPut_68 : amPutOk (12, 61, 12, 28) := amPutOk_of (amIn0 1437 (by decide +kernel) (by decide +kernel)) (by decide +kernel)
theorem amPut_69 : amPutOk (12, 64, 12, 29) := amPutOk_of (amIn0 1438 (by decide +kernel) (by decide +kernel)) (by decide +kernel)
theorem amPut_70 : amPutOk (12, 67, 12, 30) := amPutOk_of (amIn0 1439 (by decide +kernel) (by decide +kernel)) (by decide +kernel)
theorem amPut_71 : amPutOk (12, 70, 12, 31) := amPutOk_of (amIn0 1440 (by decide +kernel) (by decide +kernel)) (by decide +kernel)
theorem amPut_72 : amPutOk (12, 73, 12, 32) := amPutOk_of (amIn0 1441 (by decide +kernel) (by decide +kernel)) (by decide +kernel)
theorem amPut_73 : amPutOk (12, 76, 12, 33) := amPutOk_of (amIn0 1442 (by decide +kernel) (by decide +kernel)) (by decide +kernel)
theorem amPut_74 : amPutOk (12, 79, 12, 35) := amPutOk_of (amIn0 1444 (by decide +kernel) (by decide +kernel)) (by decide +kernel)
theorem amPut_75 : amPutOk (12, 83, 12, 36) := amPutOk_of (amIn0 1445 (by decide +kernel) (by decide +kernel)) (by decide +kernel)
theorem amPut_76 : amPutOk (12, 86, 12, 37) := amPutOk_of (amIn0 1446 (by decide +kernel) (by decide +kernel)) (by decide +kernel)
theorem amPut_77 : amPutOk (12, 89, 12, 38) := amPutOk_of (amIn0 1447 (by decide +kernel) (by decide +kernel)) (by decide +kernel)
theorem amPut_78 : amPutOk (12, 92, 12, 39) := amPutOk_of (amIn0 1448 (by decide +kernel) (by decide +kernel)) (by decide +kernel)
theorem amPut_79 : amPutOk (12, 95, 12, 41) := amPutOk_of (amIn0 1450 (by decide +kernel) (by decide +kernel)) (by decide +kernel)
theorem amPut_80 : amPutOk (12, 98, 12, 42) := amPutOk_of (amIn0 1451 (by decide +kernel) (by decide +kernel)) (by decide +kernel)
theorem amPut_81 : amPutOk (12, 101, 12, 43) := amPutOk_of (amIn0 1452 (by decide +kernel) (by decide +kernel)) (by decide +kernel)
theorem amPut_82 : amPutOk (12, 104, 12, 45) := amPutOk_of (amIn0 1454 (by decide +kernel) (by decide +kernel)) (by decide +kernel)
theorem amPut_83 : amPutOk (12, 107, 12, 46) := amPutOk_of (amIn0 1455 (by decide +kernel) (by decide +kernel)) (by decide +kernel)
theorem amPut_84 : amPutOk (12, 110, 12, 48) := amPutOk_of (amIn0 1457 (by decide +kernel) (by decide +kernel)) (by decide +kernel)
theorem amPut_85 : amPutOk (12, 113, 12, 49) := amPutOk_of (amIn0 1458 (by decide +kernel) (by decide +kernel)) (by decide +kernel)
theorem amPut_86 : amPutOk (12, 116, 12, 54) := amPutOk_of (amIn0 1463 (by decide +kernel) (by decide +kernel)) (by decide +kernel)
theorem amPut_87 : amPutOk (12, 119, 12, 56) := amPutOk_of (amIn0 1465 (by decide +kernel) (by decide +kernel)) (by decide +kernel)
theorem amPut_88 : amPutOk (12, 122, 12, 57) := amPutOk_of (amIn0 1466 (by decide +kernel) (by decide +kernel)) (by decide +kernel)
theorem amPut_89 : amPutOk (12, 125, 12, 63) := amPutOk_of (amIn0 1472 (by decide +kernel) (by decide +kernel)) (by decide +kernel)
theorem amPut_90 : amPutOk (12, 128, 12, 64) := amPutOk_of (amIn0 1473 (by decide +kernel) (by decide +kernel)) (by decide +kernel)
theorem amPut_91 : amPutOk (12, 131, 12, 66) := amPutOk_of (amIn0 1475 (by decide +kernel) (by decide +kernel)) (by decide +kernel)
theorem amPut_92 : amPutOk (12, 134, 12, 67) := amPutOk_of (amIn0 1476 (by decide +kernel) (by decide +kernel)) (by decide +kernel)
theorem amPut_93 : amPutOk (12, 137, 12, 68) := amPutOk_of (amIn0 1477 (by decide +kernel) (by decide +kernel)) (by decide +kernel)
theorem amPut_94 : amPutOk (12, 140, 12, 70) := amPutOk_of (amIn0 1479 (by decide +kernel) (by decide +kernel)) (by decide +kernel)
theorem amPut_95 : amPutOk (12, 143, 12, 71) := amPutOk_of (amIn0 1480 (by decide +kernel) (by decide +kernel)) (by decide +kernel)
def amPutT : List (Nat × Nat × Nat × Nat) := [(0, 12, 0, 2), (0, 22, 0, 0), (0, 26, 0, 1), (1, 11, 1, 0), (1, 17, 1, 2), (1, 20, 1, 3), (2, 9, 2, 2), (2, 15, 2, 0), (2, 19, 2, 1), (3, 11, 3, 1), (3, 17, 3, 2), (3, 21, 3, 3), (3, 28, 3, 0), (4, 12, 4, 1), (4, 18, 4, 2), (4, 22, 4, 0), (5, 12, 5, 1), (5, 18, 5, 2), (5, 22, 5, 3), (5, 25, 5, 4), (5, 28, 5, 5), (5, 31, 5, 0), (6, 9, 6, 0), (6, 15, 6, 1), (7, 11, 7, 0), (7, 15, 7, 2), (7, 19, 7, 3), (7, 23, 7, 4), (8, 9, 8, 0), (8, 15, 8, 1), (8, 18, 8, 2), (8, 21, 8, 3), (8, 27, 8, 4), (9, 12, 9, 2), (9, 18, 9, 3), (9, 22, 9, 4), (9, 25, 9, 6), (9, 28, 9, 0), (9, 32, 9, 1), (10, 9, 10, 1), (10, 15, 10, 0), (11, 12, 11, 0), (11, 19, 11, 1), (11, 28, 11, 2), (11, 37, 11, 3), (11, 44, 11, 4), (11, 48, 11, 5), (11, 52, 11, 6), (11, 55, 11, 7), (11, 62, 11, 8), (11, 71, 11, 9), (11, 80, 11, 10), (11, 87, 11, 11), (11, 94, 11, 12), (12, 13, 12, 1), (12, 17, 12, 3), (12, 20, 12, 5), (12, 24, 12, 6), (12, 27, 12, 7), (12, 30, 12, 8), (12, 34, 12, 9), (12, 40, 12, 21), (12, 43, 12, 22), (12, 46, 12, 23), (12, 49, 12, 24), (12, 52, 12, 25), (12, 55, 12, 26), (12, 58, 12, 27), (12, 61, 12, 28), (12, 64, 12, 29), (12, 67, 12, 30), (12, 70, 12, 31), (12, 73, 12, 32), (12, 76, 12, 33), (12, 79, 12, 35), (12, 83, 12, 36), (12, 86, 12, 37), (12, 89, 12, 38), (12, 92, 12, 39), (12, 95, 12, 41), (12, 98, 12, 42), (12, 101, 12, 43), (12, 104, 12, 45), (12, 107, 12, 46), (12, 110, 12, 48), (12, 113, 12, 49), (12, 116, 12, 54), (12, 119, 12, 56), (12, 122, 12, 57), (12, 125, 12, 63), (12, 128, 12, 64), (12, 131, 12, 66), (12, 134, 12, 67), (12, 137, 12, 68), (12, 140, 12, 70), (12, 143, 12, 71)]
theorem amPut_ok : ∀ t ∈ amPutT, amPutOk t := List.forall_mem_cons.mpr ⟨amPut_0, List.forall_mem_cons.mpr ⟨amPut_1, List.forall_mem_cons.mpr ⟨amPut_2, List.forall_mem_cons.mpr ⟨amPut_3, List.forall_mem_cons.mpr ⟨amPut_4, List.forall_mem_cons.mpr ⟨amPut_5, List.forall_mem_cons.mpr ⟨amPut_6, List.forall_mem_cons.mpr ⟨amPut_7, List.forall_mem_cons.mpr ⟨amPut_8, List.forall_mem_cons.mpr ⟨amPut_9, List.forall_mem_cons.mpr ⟨amPut_10, List.forall_mem_cons.mpr ⟨amPut_11, List.forall_mem_cons.mpr ⟨amPut_12, List.forall_mem_cons.mpr ⟨amPut_13, List.forall_mem_cons.mpr ⟨amPut_14, List.forall_mem_cons.mpr ⟨amPut_15, List.forall_mem_cons.mpr ⟨amPut_16, List.forall_mem_cons.mpr ⟨amPut_17, List.forall_mem_cons.mpr ⟨amPut_18, List.forall_mem_cons.mpr ⟨amPut_19, List.forall_mem_cons.mpr ⟨amPut_20, List.forall_mem_cons.mpr ⟨amPut_21, List.forall_mem_cons.mpr ⟨amPut_22, List.forall_mem_cons.mpr ⟨amPut_23, List.forall_mem_cons.mpr ⟨amPut_24, List.forall_mem_cons.mpr ⟨amPut_25, List.forall_mem_cons.mpr ⟨amPut_26, List.forall_mem_cons.mpr ⟨amPut_27, List.forall_mem_cons.mpr ⟨amPut_28, List.forall_mem_cons.mpr ⟨amPut_29, List.forall_mem_cons.mpr ⟨amPut_30, List.forall_mem_cons.mpr ⟨amPut_31, List.forall_mem_cons.mpr ⟨amPut_32, List.forall_mem_cons.mpr ⟨amPut_33, List.forall_mem_cons.mpr ⟨amPut_34, List.forall_mem_cons.mpr ⟨amPut_35, List.forall_mem_cons.mpr ⟨amPut_36, List.forall_mem_cons.mpr ⟨amPut_37, List.forall_mem_cons.mpr ⟨amPut_38, List.forall_mem_cons.mpr ⟨amPut_39, List.forall_mem_cons.mpr ⟨amPut_40, List.forall_mem_cons.mpr ⟨amPut_41, List.forall_mem_cons.mpr ⟨amPut_42, List.forall_mem_cons.mpr ⟨amPut_43, List.forall_mem_cons.mpr ⟨amPut_44, List.forall_mem_cons.mpr ⟨amPut_45, List.forall_mem_cons.mpr ⟨amPut_46, List.forall_mem_cons.mpr ⟨amPut_47, List.forall_mem_cons.mpr ⟨amPut_48, List.forall_mem_cons.mpr ⟨amPut_49, List.forall_mem_cons.mpr ⟨amPut_50, List.forall_mem_cons.mpr ⟨amPut_51, List.forall_mem_cons.mpr ⟨amPut_52, List.forall_mem_cons.mpr ⟨amPut_53, List.forall_mem_cons.mpr ⟨amPut_54, List.forall_mem_cons.mpr ⟨amPut_55, List.forall_mem_cons.mpr ⟨amPut_56, List.forall_mem_cons.mpr ⟨amPut_57, List.forall_mem_cons.mpr ⟨amPut_58, List.forall_mem_cons.mpr ⟨amPut_59, List.forall_mem_cons.mpr ⟨amPut_60, List.forall_mem_cons.mpr ⟨amPut_61, List.forall_mem_cons.mpr ⟨amPut_62, List.forall_mem_cons.mpr ⟨amPut_63, List.forall_mem_cons.mpr ⟨amPut_64, List.forall_mem_cons.mpr ⟨amPut_65, List.forall_mem_cons.mpr ⟨amPut_66, List.forall_mem_cons.mpr ⟨amPut_67, List.forall_mem_cons.mpr ⟨amPut_68, List.forall_mem_cons.mpr ⟨amPut_69, List.forall_mem_cons.mpr ⟨amPut_70, List.forall_mem_cons.mpr ⟨amPut_71, List.forall_mem_cons.mpr ⟨amPut_72, List.forall_mem_cons.mpr ⟨amPut_73, List.forall_mem_cons.mpr ⟨amPut_74, List.forall_mem_cons.mpr ⟨amPut_75, List.forall_mem_cons.mpr ⟨amPut_76, List.forall_mem_cons.mpr ⟨amPut_77, List.forall_mem_cons.mpr ⟨amPut_78, List.forall_mem_cons.mpr ⟨amPut_79, List.forall_mem_cons.mpr ⟨amPut_80, List.forall_mem_cons.mpr ⟨amPut_81, List.forall_mem_cons.mpr ⟨amPut_82, List.forall_mem_cons.mpr ⟨amPut_83, List.forall_mem_cons.mpr ⟨amPut_84, List.forall_mem_cons.mpr ⟨amPut_85, List.forall_mem_cons.mpr ⟨amPut_86, List.forall_mem_cons.mpr ⟨amPut_87, List.forall_mem_cons.mpr ⟨amPut_88, List.forall_mem_cons.mpr ⟨amPut_89, List.forall_mem_cons.mpr ⟨amPut_90, List.forall_mem_cons.mpr ⟨amPut_91, List.forall_mem_cons.mpr ⟨amPut_92, List.forall_mem_cons.mpr ⟨amPut_93, List.forall_mem_cons.mpr ⟨amPut_94, List.forall_mem_cons.mpr ⟨amPut_95, fun _ h => absurd h List.not_mem_nil⟩⟩⟩⟩⟩⟩⟩⟩⟩⟩⟩⟩⟩⟩⟩⟩⟩⟩⟩⟩⟩⟩⟩⟩⟩⟩⟩⟩⟩⟩⟩⟩⟩⟩⟩⟩⟩⟩⟩⟩⟩⟩⟩⟩⟩⟩⟩⟩⟩⟩⟩⟩⟩⟩⟩⟩⟩⟩⟩⟩⟩⟩⟩⟩⟩⟩⟩⟩⟩⟩⟩⟩⟩⟩⟩⟩⟩⟩⟩⟩⟩⟩⟩⟩⟩⟩⟩⟩⟩⟩⟩⟩⟩⟩⟩⟩
theorem amIni_0 : amIniOk (0, 11, 6, 1) := ⟨by decide, Or.inr ⟨rfl, amInN 505 (by decide +kernel) (by decide +kernel)⟩⟩
theorem amIni_1 : amIniOk (3, 32, 6, 1) := ⟨by decide, Or.inr ⟨rfl, amInN 465 (by decide +kernel) (by decide +kernel)⟩⟩
theorem amIni_2 : amIniOk (4, 11, 8, 1) := ⟨by decide, Or.inr ⟨rfl, amInN 321 (by decide +kernel) (by decide +kernel)⟩⟩
theorem amIni_3 : amIniOk (5, 11, 6, 1) := ⟨by decide, Or.inr ⟨rfl, amInN 395 (by decide +kernel) (by decide +kernel)⟩⟩
theorem amIni_4 : amIniOk (8, 26, 1, 1) := ⟨by decide, Or.inr ⟨rfl, amInN 231 (by decide +kernel) (by decide +kernel)⟩⟩
theorem amIni_5 : amIniOk (9, 11, 6, 1) := ⟨by decide, Or.inr ⟨rfl, amInN 558 (by decide +kernel) (by decide +kernel)⟩⟩
theorem amIni_6 : amIniOk (11, 11, 7, 1) := ⟨by decide, Or.inr ⟨rfl, amInN 199 (by decide +kernel) (by decide +kernel)⟩⟩
theorem amIni_7 : amIniOk (11, 18, 8, 1) := ⟨by decide, Or.inr ⟨rfl, amInN 225 (by decide +kernel) (by decide +kernel)⟩⟩
theorem amIni_8 : amIniOk (11, 25, 4, 1) := ⟨by decide, Or.inr ⟨rfl, amInN 316 (by decide +kernel) (by decide +kernel)⟩⟩
theorem amIni_9 : amIniOk (11, 34, 10, 1) := ⟨by decide, Or.inr ⟨rfl, amInN 356 (by decide +kernel) (by decide +kernel)⟩⟩
theorem amIni_10 : amIniOk (11, 43, 5, 1) := ⟨by decide, Or.inr ⟨rfl, amInN 389 (by decide +kernel) (by decide +kernel)⟩⟩
theorem amIni_11 : amIniOk (11, 61, 6, 1) := ⟨by decide, Or.inr ⟨rfl, amInN 456 (by decide +kernel) (by decide +kernel)⟩⟩
theorem amIni_12 : amIniOk (11, 68, 3, 1) := ⟨by decide, Or.inr ⟨rfl, amInN 459 (by decide +kernel) (by decide +kernel)⟩⟩
theorem amIni_13 : amIniOk (11, 77, 0, 1) := ⟨by decide, Or.inr ⟨rfl, amInN 500 (by decide +kernel) (by decide +kernel)⟩⟩
theorem amIni_14 : amIniOk (11, 86, 2, 1) := ⟨by decide, Or.inr ⟨rfl, amInN 537 (by decide +kernel) (by decide +kernel)⟩⟩
theorem amIni_15 : amIniOk (11, 93, 9, 1) := ⟨by decide, Or.inr ⟨rfl, amInN 553 (by decide +kernel) (by decide +kernel)⟩⟩
theorem amIni_16 : amIniOk (13, 9, 11, 0) := ⟨by decide, Or.inl ⟨rfl, amIn0 191 (by decide +kernel) (by decide +kernel)⟩⟩
theorem amIni_17 : amIniOk (13, 12, 12, 0) := ⟨by decide, Or.inl ⟨rfl, amIn0 1399 (by decide +kernel) (by decide +kernel)⟩⟩
def amIniT : List (Nat × Nat × Nat × Nat) := [(0, 11, 6, 1), (3, 32, 6, 1), (4, 11, 8, 1), (5, 11, 6, 1), (8, 26, 1, 1), (9, 11, 6, 1), (11, 11, 7, 1), (11, 18, 8, 1), (11, 25, 4, 1), (11, 34, 10, 1), (11, 43, 5, 1), (11, 61, 6, 1), (11, 68, 3, 1), (11, 77, 0, 1), (11, 86, 2, 1), (11, 93, 9, 1), (13, 9, 11, 0), (13, 12, 12, 0)]
theorem amIni_ok : ∀ t ∈ amIniT, amIniOk t := List.forall_mem_cons.mpr ⟨amIni_0, List.forall_mem_cons.mpr ⟨amIni_1, List.forall_mem_cons.mpr ⟨amIni_2, List.forall_mem_cons.mpr ⟨amIni_3, List.forall_mem_cons.mpr ⟨amIni_4, List.forall_mem_cons.mpr ⟨amIni_5, List.forall_mem_cons.mpr ⟨amIni_6, List.forall_mem_cons.mpr ⟨amIni_7, List.forall_mem_cons.mpr ⟨amIni_8, List.forall_mem_cons.mpr ⟨amIni_9, List.forall_mem_cons.mpr ⟨amIni_10, List.forall_mem_cons.mpr ⟨amIni_11, List.forall_mem_cons.mpr ⟨amIni_12, List.forall_mem_cons.mpr ⟨amIni_13, List.forall_mem_cons.mpr ⟨amIni_14, List.forall_mem_cons.mpr ⟨amIni_15, List.forall_mem_cons.mpr ⟨amIni_16, List.forall_mem_cons.mpr ⟨amIni_17, fun _ h => absurd h List.not_mem_nil⟩⟩⟩⟩⟩⟩⟩⟩⟩⟩⟩⟩⟩⟩⟩⟩⟩⟩
theorem amObj_0 : amObjOk (0, 3) := amIn0 503 (by decide +kernel) (by decide +kernel)
theorem amObj_1 : amObjOk (1, 3) := amIn0 234 (by decide +kernel) (by decide +kernel)
theorem amObj_2 : amObjOk (2, 3) := amIn0 540 (by decide +kernel) (by decide +kernel)
theorem amObj_3 : amObjOk (3, 3) := amIn0 462 (by decide +kernel) (by decide +kernel)
theorem amObj_4 : amObjOk (4, 3) := amIn0 319 (by decide +kernel) (by decide +kernel)
theorem amObj_5 : amObjOk (5, 3) := amIn0 392 (by decide +kernel) (by decide +kernel)
theorem amObj_6 : amObjOk (6, 3) := amIn0 398 (by decide +kernel) (by decide +kernel)
theorem amObj_7 : amObjOk (7, 3) := amIn0 202 (by decide +kernel) (by decide +kernel)
theorem amObj_8 : amObjOk (8, 3) := amIn0 228 (by decide +kernel) (by decide +kernel)
theorem amObj_9 : amObjOk (9, 3) := amIn0 556 (by decide +kernel) (by decide +kernel)
theorem amObj_10 : amObjOk (10, 3) := amIn0 359 (by decide +kernel) (by decide +kernel)
theorem amObj_11 : amObjOk (11, 3) := amIn0 194 (by decide +kernel) (by decide +kernel)
theorem amObj_12 : amObjOk (12, 7) := amIn0 1402 (by decide +kernel) (by decide +kernel)
def amObjT : List (Nat × Nat) := [(0, 3), (1, 3), (2, 3), (3, 3), (4, 3), (5, 3), (6, 3), (7, 3), (8, 3), (9, 3), (10, 3), (11, 3), (12, 7)]
theorem amObj_ok : ∀ t ∈ amObjT, amObjOk t := List.forall_mem_cons.mpr ⟨amObj_0, List.forall_mem_cons.mpr ⟨amObj_1, List.forall_mem_cons.mpr ⟨amObj_2, List.forall_mem_cons.mpr ⟨amObj_3, List.forall_mem_cons.mpr ⟨amObj_4, List.forall_mem_cons.mpr ⟨amObj_5, List.forall_mem_cons.mpr ⟨amObj_6, List.forall_mem_cons.mpr ⟨amObj_7, List.forall_mem_cons.mpr ⟨amObj_8, List.forall_mem_cons.mpr ⟨amObj_9, List.forall_mem_cons.mpr ⟨amObj_10, List.forall_mem_cons.mpr ⟨amObj_11, List.forall_mem_cons.mpr ⟨amObj_12, fun _ h => absurd h List.not_mem_nil⟩⟩⟩⟩⟩⟩⟩⟩⟩⟩⟩⟩⟩
theorem amObj_i : Jvm.Cond.instanceMethod Lib.objectInit ∈ amT0 := amIn0 195 (by decide +kernel) (by decide +kernel)
theorem amObj_c : Jvm.Cond.code Lib.objectInit ⟨#[0xb1]⟩ 1 none ∈ amT0 := amIn0 196 (by decide +kernel) (by decide +kernel)
theorem amAc_int : Jvm.Cond.arrayClass .int ∈ amT0 := amIn0 221 (by decide +kernel) (by decide +kernel)
theorem amAc_long : Jvm.Cond.arrayClass .long ∈ amT0 := amIn0 222 (by decide +kernel) (by decide +kernel)
theorem amAc_byte : Jvm.Cond.arrayClass .byte ∈ amT0 := amIn0 220 (by decide +kernel) (by decide +kernel)
theorem amAc_boolean : Jvm.Cond.arrayClass .boolean ∈ amT0 := amIn0 497 (by decide +kernel) (by decide +kernel)
theorem amAo_Scene : Jvm.Cond.arrayOver (.object "SaltStairs$Scene") ∈ lw_tbl := List.mem_of_getElem? (i := 454) (by decide +kernel)
theorem amAo_Stairs : Jvm.Cond.arrayOver (.object "SaltStairs$Stairs") ∈ lw_tbl := List.mem_of_getElem? (i := 464) (by decide +kernel)
/-- an instruction of a constructor fits the tables -/
def amChkS (cc : ByteArray) (o pc : Nat) (ret : Option FieldType) (e : AmE) : Bool := match e.1 with
  | .new x => amNewT.contains (o, x, e.2.2.1)
  | .newarray t => (match t with
    | .int => e.2.2.1 == 20
    | .long => e.2.2.1 == 21
    | .byte => e.2.2.1 == 22
    | .boolean => e.2.2.1 == 23
    | _ => false)
  | .anewarray x => amAnwT.contains (o, x, e.2.2.1)
  | .aastore => true
  | .invokespecial x => (match e.2.2.2.2.1 with
    | 8 => amObjT.contains (o, x)
    | _ => (amIniT.contains (o, x, e.2.2.1, 0) || amIniT.contains (o, x, e.2.2.1, 1)) && decide (e.2.2.2.1 = amNpC.getD e.2.2.1 0 + 1))
  | .putfield x => (match e.2.2.2.2.1 with
    | 2 => amPutT.contains (o, x, e.2.2.1, e.2.2.2.1)
    | _ => amChk1 cc o ret [] pc e)
  | _ => amChk1 cc o ret [] pc e
def amLenS : Jvm.ClassFile.Instr → Nat
  | .newarray _ => 2
  | .aastore => 1
  | _ => 3
def amSpec : Jvm.ClassFile.Instr → Nat → Bool
  | .new _, _ => true
  | .newarray _, _ => true
  | .anewarray _, _ => true
  | .aastore, _ => true
  | .invokespecial _, _ => true
  | .putfield _, 2 => true
  | _, _ => false
def amChkQ (cc : ByteArray) (o : Nat) (ret : Option FieldType) (cd : List (Option AmE)) : Bool := (List.range cd.length).all fun pc => match cd.getD pc none with
  | none => true
  | some e => amChkS cc o pc ret e && (bif amSpec e.1 e.2.2.2.2.1 then (match decode cc pc with
    | .ok (i', len) => decide (i' = e.1) && (decide (len = amLenS e.1) && decide (e.2.1 = pc + amLenS e.1))
    | _ => false) else true)
def amChkR (cc : ByteArray) (o : Nat) (ret : Option FieldType) (cd : List (Option AmE)) (pc : Nat) : Bool := match cd.getD pc none with
  | none => true
  | some e => amChkS cc o pc ret e && (bif amSpec e.1 e.2.2.2.2.1 then (match decode cc pc with
    | .ok (i', len) => decide (i' = e.1) && (decide (len = amLenS e.1) && decide (e.2.1 = pc + amLenS e.1))
    | _ => false) else true)
set_option maxRecDepth 100000 in
theorem amChkQ_0 : amChkQ cX0_init 0 none ccX0 = true := by decide +kernel
set_option maxRecDepth 100000 in
theorem amChkQ_1 : amChkQ cX1_init 1 none ccX1 = true := by decide +kernel
set_option maxRecDepth 100000 in
theorem amChkQ_2 : amChkQ cX2_init 2 none ccX2 = true := by decide +kernel
set_option maxRecDepth 100000 in
theorem amChkQ_3 : amChkQ cX3_init 3 none ccX3 = true := by decide +kernel
set_option maxRecDepth 100000 in
theorem amChkQ_4 : amChkQ cX4_init 4 none ccX4 = true := by decide +kernel
set_option maxRecDepth 100000 in
theorem amChkQ_5 : amChkQ cX5_init 5 none ccX5 = true := by decide +kernel
set_option maxRecDepth 100000 in
theorem amChkQ_6 : amChkQ cX6_init 6 none ccX6 = true := by decide +kernel
set_option maxRecDepth 100000 in
theorem amChkQ_7 : amChkQ cX7_init 7 none ccX7 = true := by decide +kernel
set_option maxRecDepth 100000 in
theorem amChkQ_8 : amChkQ cX8_init 8 none ccX8 = true := by decide +kernel
set_option maxRecDepth 100000 in
theorem amChkQ_9 : amChkQ cX9_init 9 none ccX9 = true := by decide +kernel
set_option maxRecDepth 100000 in
theorem amChkQ_10 : amChkQ cX10_init 10 none ccX10 = true := by decide +kernel
set_option maxRecDepth 100000 in
theorem amChkR_11_0 : (List.range 40).all (fun k => amChkR cX11_init 11 none ccX11 (0 + k)) = true := by decide +kernel
theorem amChkT_11_40 : (List.range 40).all (amChkR cX11_init 11 none ccX11) = true := amChk_app (a := 0) (b := 40) (rfl : (List.range 0).all (amChkR cX11_init 11 none ccX11) = true) amChkR_11_0
set_option maxRecDepth 100000 in
theorem amChkR_11_40 : (List.range 40).all (fun k => amChkR cX11_init 11 none ccX11 (40 + k)) = true := by decide +kernel
theorem amChkT_11_80 : (List.range 80).all (amChkR cX11_init 11 none ccX11) = true := amChk_app (a := 40) (b := 40) amChkT_11_40 amChkR_11_40
set_option maxRecDepth 100000 in
theorem amChkR_11_80 : (List.range 40).all (fun k => amChkR cX11_init 11 none ccX11 (80 + k)) = true := by decide +kernel
theorem amChkT_11_120 : (List.range 120).all (amChkR cX11_init 11 none ccX11) = true := amChk_app (a := 80) (b := 40) amChkT_11_80 amChkR_11_80
set_option maxRecDepth 100000 in
theorem amChkR_11_120 : (List.range 40).all (fun k => amChkR cX11_init 11 none ccX11 (120 + k)) = true := by decide +kernel
theorem amChkT_11_160 : (List.range 160).all (amChkR cX11_init 11 none ccX11) = true := amChk_app (a := 120) (b := 40) amChkT_11_120 amChkR_11_120
set_option maxRecDepth 100000 in
theorem amChkR_11_160 : (List.range 40).all (fun k => amChkR cX11_init 11 none ccX11 (160 + k)) = true := by decide +kernel
theorem amChkT_11_200 : (List.range 200).all (amChkR cX11_init 11 none ccX11) = true := amChk_app (a := 160) (b := 40) amChkT_11_160 amChkR_11_160
set_option maxRecDepth 100000 in
theorem amChkR_11_200 : (List.range 40).all (fun k => amChkR cX11_init 11 none ccX11 (200 + k)) = true := by decide +kernel
theorem amChkT_11_240 : (List.range 240).all (amChkR cX11_init 11 none ccX11) = true := amChk_app (a := 200) (b := 40) amChkT_11_200 amChkR_11_200
set_option maxRecDepth 100000 in
theorem amChkR_11_240 : (List.range 12).all (fun k => amChkR cX11_init 11 none ccX11 (240 + k)) = true := by decide +kernel
theorem amChkT_11_252 : (List.range 252).all (amChkR cX11_init 11 none ccX11) = true := amChk_app (a := 240) (b := 12) amChkT_11_240 amChkR_11_240
set_option maxRecDepth 100000 in
theorem amChkN_11 : ccX11.length = 252 := by decide +kernel
theorem amChkQ_11 : amChkQ cX11_init 11 none ccX11 = true := by
  show (List.range ccX11.length).all (amChkR cX11_init 11 none ccX11) = true
  rw [amChkN_11]
  exact amChkT_11_252
set_option maxRecDepth 100000 in
theorem amChkR_12_0 : (List.range 40).all (fun k => amChkR cX12_init 12 none ccX12 (0 + k)) = true := by decide +kernel
theorem amChkT_12_40 : (List.range 40).all (amChkR cX12_init 12 none ccX12) = true := amChk_app (a := 0) (b := 40) (rfl : (List.range 0).all (amChkR cX12_init 12 none ccX12) = true) amChkR_12_0
set_option maxRecDepth 100000 in
theorem amChkR_12_40 : (List.range 40).all (fun k => amChkR cX12_init 12 none ccX12 (40 + k)) = true := by decide +kernel
theorem amChkT_12_80 : (List.range 80).all (amChkR cX12_init 12 none ccX12) = true := amChk_app (a := 40) (b := 40) amChkT_12_40 amChkR_12_40
set_option maxRecDepth 100000 in
theorem amChkR_12_80 : (List.range 40).all (fun k => amChkR cX12_init 12 none ccX12 (80 + k)) = true := by decide +kernel
theorem amChkT_12_120 : (List.range 120).all (amChkR cX12_init 12 none ccX12) = true := amChk_app (a := 80) (b := 40) amChkT_12_80 amChkR_12_80
set_option maxRecDepth 100000 in
theorem amChkR_12_120 : (List.range 40).all (fun k => amChkR cX12_init 12 none ccX12 (120 + k)) = true := by decide +kernel
theorem amChkT_12_160 : (List.range 160).all (amChkR cX12_init 12 none ccX12) = true := amChk_app (a := 120) (b := 40) amChkT_12_120 amChkR_12_120
set_option maxRecDepth 100000 in
theorem amChkR_12_160 : (List.range 40).all (fun k => amChkR cX12_init 12 none ccX12 (160 + k)) = true := by decide +kernel
theorem amChkT_12_200 : (List.range 200).all (amChkR cX12_init 12 none ccX12) = true := amChk_app (a := 160) (b := 40) amChkT_12_160 amChkR_12_160
set_option maxRecDepth 100000 in
theorem amChkR_12_200 : (List.range 40).all (fun k => amChkR cX12_init 12 none ccX12 (200 + k)) = true := by decide +kernel
theorem amChkT_12_240 : (List.range 240).all (amChkR cX12_init 12 none ccX12) = true := amChk_app (a := 200) (b := 40) amChkT_12_200 amChkR_12_200
set_option maxRecDepth 100000 in
theorem amChkR_12_240 : (List.range 40).all (fun k => amChkR cX12_init 12 none ccX12 (240 + k)) = true := by decide +kernel
theorem amChkT_12_280 : (List.range 280).all (amChkR cX12_init 12 none ccX12) = true := amChk_app (a := 240) (b := 40) amChkT_12_240 amChkR_12_240
set_option maxRecDepth 100000 in
theorem amChkR_12_280 : (List.range 40).all (fun k => amChkR cX12_init 12 none ccX12 (280 + k)) = true := by decide +kernel
theorem amChkT_12_320 : (List.range 320).all (amChkR cX12_init 12 none ccX12) = true := amChk_app (a := 280) (b := 40) amChkT_12_280 amChkR_12_280
set_option maxRecDepth 100000 in
theorem amChkR_12_320 : (List.range 40).all (fun k => amChkR cX12_init 12 none ccX12 (320 + k)) = true := by decide +kernel
theorem amChkT_12_360 : (List.range 360).all (amChkR cX12_init 12 none ccX12) = true := amChk_app (a := 320) (b := 40) amChkT_12_320 amChkR_12_320
set_option maxRecDepth 100000 in
theorem amChkR_12_360 : (List.range 40).all (fun k => amChkR cX12_init 12 none ccX12 (360 + k)) = true := by decide +kernel
theorem amChkT_12_400 : (List.range 400).all (amChkR cX12_init 12 none ccX12) = true := amChk_app (a := 360) (b := 40) amChkT_12_360 amChkR_12_360
set_option maxRecDepth 100000 in
theorem amChkR_12_400 : (List.range 40).all (fun k => amChkR cX12_init 12 none ccX12 (400 + k)) = true := by decide +kernel
theorem amChkT_12_440 : (List.range 440).all (amChkR cX12_init 12 none ccX12) = true := amChk_app (a := 400) (b := 40) amChkT_12_400 amChkR_12_400
set_option maxRecDepth 100000 in
theorem amChkR_12_440 : (List.range 40).all (fun k => amChkR cX12_init 12 none ccX12 (440 + k)) = true := by decide +kernel
theorem amChkT_12_480 : (List.range 480).all (amChkR cX12_init 12 none ccX12) = true := amChk_app (a := 440) (b := 40) amChkT_12_440 amChkR_12_440
set_option maxRecDepth 100000 in
theorem amChkR_12_480 : (List.range 40).all (fun k => amChkR cX12_init 12 none ccX12 (480 + k)) = true := by decide +kernel
theorem amChkT_12_520 : (List.range 520).all (amChkR cX12_init 12 none ccX12) = true := amChk_app (a := 480) (b := 40) amChkT_12_480 amChkR_12_480
set_option maxRecDepth 100000 in
theorem amChkR_12_520 : (List.range 40).all (fun k => amChkR cX12_init 12 none ccX12 (520 + k)) = true := by decide +kernel
theorem amChkT_12_560 : (List.range 560).all (amChkR cX12_init 12 none ccX12) = true := amChk_app (a := 520) (b := 40) amChkT_12_520 amChkR_12_520
set_option maxRecDepth 100000 in
theorem amChkR_12_560 : (List.range 40).all (fun k => amChkR cX12_init 12 none ccX12 (560 + k)) = true := by decide +kernel
theorem amChkT_12_600 : (List.range 600).all (amChkR cX12_init 12 none ccX12) = true := amChk_app (a := 560) (b := 40) amChkT_12_560 amChkR_12_560
set_option maxRecDepth 100000 in
theorem amChkR_12_600 : (List.range 40).all (fun k => amChkR cX12_init 12 none ccX12 (600 + k)) = true := by decide +kernel
theorem amChkT_12_640 : (List.range 640).all (amChkR cX12_init 12 none ccX12) = true := amChk_app (a := 600) (b := 40) amChkT_12_600 amChkR_12_600
set_option maxRecDepth 100000 in
theorem amChkR_12_640 : (List.range 40).all (fun k => amChkR cX12_init 12 none ccX12 (640 + k)) = true := by decide +kernel
theorem amChkT_12_680 : (List.range 680).all (amChkR cX12_init 12 none ccX12) = true := amChk_app (a := 640) (b := 40) amChkT_12_640 amChkR_12_640
set_option maxRecDepth 100000 in
theorem amChkR_12_680 : (List.range 40).all (fun k => amChkR cX12_init 12 none ccX12 (680 + k)) = true := by decide +kernel
theorem amChkT_12_720 : (List.range 720).all (amChkR cX12_init 12 none ccX12) = true := amChk_app (a := 680) (b := 40) amChkT_12_680 amChkR_12_680
set_option maxRecDepth 100000 in
theorem amChkR_12_720 : (List.range 28).all (fun k => amChkR cX12_init 12 none ccX12 (720 + k)) = true := by decide +kernel
theorem amChkT_12_748 : (List.range 748).all (amChkR cX12_init 12 none ccX12) = true := amChk_app (a := 720) (b := 28) amChkT_12_720 amChkR_12_720
set_option maxRecDepth 100000 in
theorem amChkN_12 : ccX12.length = 748 := by decide +kernel
theorem amChkQ_12 : amChkQ cX12_init 12 none ccX12 = true := by
  show (List.range ccX12.length).all (amChkR cX12_init 12 none ccX12) = true
  rw [amChkN_12]
  exact amChkT_12_748
theorem amChkQ_all : ∀ a, a < 13 → amChkQ (amByC.getD a ⟨#[]⟩) a none (amCtC.getD a []) = true := fun a h => match a, h with
  | 0, _ => amChkQ_0
  | 1, _ => amChkQ_1
  | 2, _ => amChkQ_2
  | 3, _ => amChkQ_3
  | 4, _ => amChkQ_4
  | 5, _ => amChkQ_5
  | 6, _ => amChkQ_6
  | 7, _ => amChkQ_7
  | 8, _ => amChkQ_8
  | 9, _ => amChkQ_9
  | 10, _ => amChkQ_10
  | 11, _ => amChkQ_11
  | 12, _ => amChkQ_12
  | n + 13, h => absurd h (by omega)
def ccL : List (Option AmE) := [some (.new 7, 3, 11, 0, 0, 0, []), none, none, some (.dup, 4, 0, 0, 0, 0, []), some (.invokespecial 9, 7, 11, 1, 0, 0, []), none, none, some (.astore_n 1, 8, 0, 0, 0, 0, []), some (.new 10, 11, 12, 0, 0, 0, []), none, none, some (.dup, 12, 0, 0, 0, 0, []), some (.invokespecial 12, 15, 12, 1, 0, 0, []), none, none, some (.astore_n 2, 16, 0, 0, 0, 0, []), some (.iconst 0, 17, 0, 0, 0, 0, []), some (.istore_n 3, 18, 0, 0, 0, 0, [])]
set_option maxRecDepth 100000 in
theorem amChkQ_L : amChkQ code 13 (some .boolean) ccL = true := by decide +kernel
