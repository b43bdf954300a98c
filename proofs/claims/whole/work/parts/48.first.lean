/-! THE FIRST WORLD -/
def amZ0 : AmM := fun _ _ _ => 0
def amGz : AmG := fun _ _ _ => vN
def amC1 : Option (AmM × AmG × Nat) := amD1 5 11 [vR 11 11 0] (amRst amZ0 11 0) (amGst1 amGz 11 0) 1
def amC2 : Option (AmM × AmG × Nat) := match amC1 with
  | some (M, G, n) => bif n == 427 then amD1 5 12 [vR 12 12 0] (amRst M 12 0) (amGst1 G 12 0) 428 else none
  | none => none
/-- the keys of the reference's words -/
def amKeys : List Int := [10495135, 355280, 1424120, 6334396438, 8798, 8740238, 6125212, 247516, 10492462, 249, 399641, 107681, 332864552, 10792937, 388708, 2968, 16922, 583, 149099]
/-- the first number at a place -/
def amI0 (c j : Nat) : Int := match c with
  | 0 => bif j == 3 then -1 else 0
  | 3 => bif j == 4 then -1 else 0
  | 11 => bif j == 15 then -1 else 0
  | 12 => bif j == 17 then -1 else 0
  | 101 => -1
  | 135 => amKeys.getD j 0
  | _ => 0
/-- the arrays whose first numbers matter -/
def amIP : List (Nat × Nat × Nat) := [(101, 0, 4), (101, 1, 4), (128, 0, 3), (169, 0, 3), (135, 0, 19), (137, 0, 2), (139, 0, 2), (141, 0, 2), (142, 0, 2), (143, 0, 2), (146, 0, 2), (147, 0, 8), (148, 0, 8), (159, 0, 100)]
def amChkM1 (M : AmM) : Bool := amFull.all fun n => bif Nat.blt n.1 13 then (List.range (amFkL.getD n.1 []).length).all (fun j => bif (amFkL.getD n.1 []).getD j 0 == 2 then true else decide (M n.1 n.2 j = amI0 n.1 j)) else true
def amChkM2 (M : AmM) : Bool := amIP.all fun p => (List.range p.2.2).all fun j => decide (M p.1 p.2.1 j = amI0 p.1 j)
def amChkM (M : AmM) : Bool := amChkM1 M && amChkM2 M
def amChkG1 (p : Nat → Bool) (G : AmG) : Bool := amFull.all fun n => bif p n.1 then (bif Nat.blt n.1 13 then (List.range (amFkL.getD n.1 []).length).all (fun j => bif (amFkL.getD n.1 []).getD j 0 == 2 then decide (G n.1 n.2 j = amGst n.1 n.2 j) else true) else (bif (amKndL.getD n.1 99 == 24 || amKndL.getD n.1 99 == 25) then (List.range (amLenL.getD n.1 0)).all (fun j => decide (G n.1 n.2 j = amGst n.1 n.2 j)) else true)) else true
def amChkG (G : AmG) : Bool := amFull.all fun n => bif Nat.blt n.1 13 then (List.range (amFkL.getD n.1 []).length).all (fun j => bif (amFkL.getD n.1 []).getD j 0 == 2 then decide (G n.1 n.2 j = amGst n.1 n.2 j) else true) else (bif (amKndL.getD n.1 99 == 24 || amKndL.getD n.1 99 == 25) then (List.range (amLenL.getD n.1 0)).all (fun j => decide (G n.1 n.2 j = amGst n.1 n.2 j)) else true)
theorem amChkG_of {p : Nat → Bool} {G : AmG} (h1 : amChkG1 p G = true) (h2 : amChkG1 (fun c => !p c) G = true) : amChkG G = true := by
  refine List.all_eq_true.mpr fun n hn => ?_
  have k1 := List.all_eq_true.mp h1 n hn
  have k2 := List.all_eq_true.mp h2 n hn
  cases hp : p n.1 with
  | true => rw [hp] at k1; exact k1
  | false => simp only [hp] at k2; exact k2
def amC2s (f : AmM → AmG → Nat → Bool) : Bool := match amC2 with
  | some (M, G, n) => f M G n
  | none => false
set_option maxRecDepth 100000 in
theorem amC_n : amC2s (fun _ _ n => decide (n = 470)) = true := by decide +kernel
set_option maxRecDepth 100000 in
theorem amC_G1 : amC2s (fun _ G _ => amChkG1 (fun c => Nat.beq c 5) G) = true := by decide +kernel
set_option maxRecDepth 100000 in
theorem amC_G2 : amC2s (fun _ G _ => amChkG1 (fun c => !(Nat.beq c 5)) G) = true := by decide +kernel
set_option maxRecDepth 100000 in
theorem amC_M1 : amC2s (fun M _ _ => amChkM1 M) = true := by decide +kernel
set_option maxRecDepth 100000 in
theorem amC_M2 : amC2s (fun M _ _ => amChkM2 M) = true := by decide +kernel
theorem amC_chk : amC2s (fun M G n => decide (n = 470) && (amChkG G && amChkM M)) = true := by
  have h1 := amC_n
  have h2 := amC_G1
  have h3 := amC_G2
  have h4 := amC_M1
  have h5 := amC_M2
  unfold amC2s at h1 h2 h3 h4 h5 ⊢
  cases h : amC2 with
  | none => rw [h] at h1; cases h1
  | some w =>
    obtain ⟨M, G, n⟩ := w
    rw [h] at h1 h2 h3 h4 h5
    have h1 : decide (n = 470) = true := h1
    have h2 : amChkG1 (fun c => Nat.beq c 5) G = true := h2
    have h3 : amChkG1 (fun c => !(Nat.beq c 5)) G = true := h3
    have h4 : amChkM1 M = true := h4
    have h5 : amChkM2 M = true := h5
    show (decide (n = 470) && (amChkG G && (amChkM1 M && amChkM2 M))) = true
    rw [h1, amChkG_of h2 h3, h4, h5]
    rfl
