/-! what the classes' tables say, class by class -/
def amClOk (a : Nat) : Prop := amClasses[a]? = some (amR a, amTf a, (amFkL.getD a []).length) ∧ (∀ w ∈ u_ws (amR a) (amTf a) (amFkL.getD a []).length, w ∈ amT0) ∧ (∀ x, x < (amFkL.getD a []).length → ∀ y, y < (amFkL.getD a []).length → x ≠ y → (amTf a x).2.1 ≠ (amTf a y).2.1) ∧ ∃ ty : Nat → FieldType, ∀ k, k < (amFkL.getD a []).length → parseFieldDescriptor (amTf a k).2.2.1 = some (ty k)
theorem amCl0 : amClOk 0 := ⟨rfl, by decide +kernel, nmX0, tyX0, tyX0_ok⟩
theorem amCl1 : amClOk 1 := ⟨rfl, by decide +kernel, nmX1, tyX1, tyX1_ok⟩
theorem amCl2 : amClOk 2 := ⟨rfl, by decide +kernel, nmX2, tyX2, tyX2_ok⟩
theorem amCl3 : amClOk 3 := ⟨rfl, by decide +kernel, nmX3, tyX3, tyX3_ok⟩
theorem amCl4 : amClOk 4 := ⟨rfl, by decide +kernel, nmX4, tyX4, tyX4_ok⟩
theorem amCl5 : amClOk 5 := ⟨rfl, by decide +kernel, nmX5, tyX5, tyX5_ok⟩
theorem amCl6 : amClOk 6 := ⟨rfl, by decide +kernel, nmX6, tyX6, tyX6_ok⟩
theorem amCl7 : amClOk 7 := ⟨rfl, by decide +kernel, nmX7, tyX7, tyX7_ok⟩
theorem amCl8 : amClOk 8 := ⟨rfl, by decide +kernel, nmX8, tyX8, tyX8_ok⟩
theorem amCl9 : amClOk 9 := ⟨rfl, by decide +kernel, nmX9, tyX9, tyX9_ok⟩
theorem amCl10 : amClOk 10 := ⟨rfl, by decide +kernel, nmX10, tyX10, tyX10_ok⟩
theorem amCl11 : amClOk 11 := ⟨rfl, by decide +kernel, nmX11, tyX11, tyX11_ok⟩
theorem amCl12 : amClOk 12 := ⟨rfl, by decide +kernel, nmX12, tyX12, tyX12_ok⟩
theorem amCl_ok {a : Nat} (h : a < 13) : amClOk a := by
  match a, h with
  | 0, _ => exact amCl0
  | 1, _ => exact amCl1
  | 2, _ => exact amCl2
  | 3, _ => exact amCl3
  | 4, _ => exact amCl4
  | 5, _ => exact amCl5
  | 6, _ => exact amCl6
  | 7, _ => exact amCl7
  | 8, _ => exact amCl8
  | 9, _ => exact amCl9
  | 10, _ => exact amCl10
  | 11, _ => exact amCl11
  | 12, _ => exact amCl12
  | n + 13, h => omega
theorem amKnd_lo : ∀ c, c < 13 → amKndL.getD c 99 = c := by decide +kernel
def amFldOk (t : Nat × Nat × Nat × Nat) : Prop := Jvm.Cond.fieldLink (amR t.1) t.2.1 (amTf t.2.2.1 t.2.2.2).1 (amTf t.2.2.1 t.2.2.2).2.1 (amTf t.2.2.1 t.2.2.2).2.2.1 ∈ amT0 ∨ Jvm.Cond.fieldLinkNest (amR t.1) t.2.1 (amTf t.2.2.1 t.2.2.2).1 (amTf t.2.2.1 t.2.2.2).2.1 (amTf t.2.2.1 t.2.2.2).2.2.1 "SaltStairs" ∈ amNs
