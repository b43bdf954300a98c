/-! PURE: bits of small numbers -/
theorem bv_of {x : Int} (h0 : 0 ≤ x) (h1 : x < 2147483648) : (Int32.ofInt x).toBitVec.toNat = x.toNat := by
  show (BitVec.ofInt 32 x).toNat = x.toNat
  rw [BitVec.toNat_ofInt]
  have : x % ((2 ^ 32 : Nat) : Int) = x := Int.emod_eq_of_lt h0 (by omega)
  rw [this]
theorem bv_toInt {b : BitVec 32} {n : Nat} (h : b.toNat = n) (hn : n < 2147483648) : b.toInt = (n : Int) := by
  rw [BitVec.toInt_eq_toNat_of_lt (by rw [h]; omega), h]
theorem bAnd_n {x y : Int} (hx : 0 ≤ x) (hx1 : x < 2147483648) (hy : 0 ≤ y) (hy1 : y < 2147483648) : bAnd x y = ((x.toNat &&& y.toNat : Nat) : Int) := by
  have e : bAnd x y = ((Int32.ofInt x).toBitVec &&& (Int32.ofInt y).toBitVec).toInt := rfl
  rw [e]
  refine bv_toInt (by rw [BitVec.toNat_and, bv_of hx hx1, bv_of hy hy1]) ?_
  have := Nat.and_le_left (n := x.toNat) (m := y.toNat)
  omega
theorem bOr_n {x y : Int} (hx : 0 ≤ x) (hx1 : x < 2147483648) (hy : 0 ≤ y) (hy1 : y < 2147483648) : bOr x y = ((x.toNat ||| y.toNat : Nat) : Int) := by
  have e : bOr x y = ((Int32.ofInt x).toBitVec ||| (Int32.ofInt y).toBitVec).toInt := rfl
  rw [e]
  refine bv_toInt (by rw [BitVec.toNat_or, bv_of hx hx1, bv_of hy hy1]) ?_
  exact Nat.or_lt_two_pow (n := 31) (by omega) (by omega)
theorem bAnd_7 {x : Int} (h0 : 0 ≤ x) (h1 : x < 2147483648) : bAnd x 7 = x % 8 := by
  rw [bAnd_n h0 h1 (by omega) (by omega)]
  have : x.toNat &&& (7 : Int).toNat = x.toNat % 8 := Nat.and_two_pow_sub_one_eq_mod x.toNat 3
  rw [this]; omega
theorem bAnd_255 {x : Int} (h0 : 0 ≤ x) (h1 : x < 2147483648) : bAnd x 255 = x % 256 := by
  rw [bAnd_n h0 h1 (by omega) (by omega)]
  have : x.toNat &&& (255 : Int).toNat = x.toNat % 256 := Nat.and_two_pow_sub_one_eq_mod x.toNat 8
  rw [this]; omega
theorem bShr_3 {x : Int} (h0 : 0 ≤ x) (h1 : x < 2147483648) : bShr x 3 = x / 8 := by
  have e : bShr x 3 = ((Int32.ofInt x).toBitVec.sshiftRight 3).toInt := rfl
  have e2 : (Int32.ofInt x).toBitVec.toInt = x := by rw [bv_toInt (bv_of h0 h1) (by omega)]; omega
  rw [e, BitVec.toInt_sshiftRight, e2, Int.shiftRight_eq_div_pow]
  rfl
theorem bShl_3 {x : Int} (h0 : 0 ≤ x) (h1 : x < 100000) : bShl x 3 = 8 * x := by
  have e : bShl x 3 = ((Int32.ofInt x).toBitVec <<< 3).toInt := rfl
  rw [e]
  have h2 : ((Int32.ofInt x).toBitVec <<< 3).toNat = x.toNat * 8 := by
    rw [BitVec.toNat_shiftLeft, bv_of h0 (by omega), Nat.shiftLeft_eq]
    exact Nat.mod_eq_of_lt (by omega)
  rw [bv_toInt h2 (by omega)]
  omega
theorem bOr_cmd {k v : Int} (hk : 0 ≤ k) (hk1 : k < 8) (hv : 0 ≤ v) (hv1 : v < 100000) : bOr k (bShl v 3) = k + 8 * v := by
  rw [bShl_3 hv hv1, bOr_n hk (by omega) (by omega) (by omega)]
  have h1 := Nat.two_pow_add_eq_or_of_lt (i := 3) (b := k.toNat) (by omega) v.toNat
  have h2 : (8 * v).toNat = 2 ^ 3 * v.toNat := by omega
  rw [h2, Nat.or_comm, ← h1]
  omega
