/-! the draws of the class -/
theorem land31 {x : Int} (hx : 0 ≤ x) : bLand x 2147483647 = x % 2147483648 := by
  have h : bLand x 2147483647 = (BitVec.ofInt 64 x &&& 2147483647#64).toInt := rfl
  have hn : (BitVec.ofInt 64 x &&& 2147483647#64).toNat = x.toNat % 2147483648 := by
    rw [BitVec.toNat_and]
    show (BitVec.ofInt 64 x).toNat &&& (2 ^ 31 - 1) = _
    rw [Nat.and_two_pow_sub_one_eq_mod, BitVec.toNat_ofInt]
    omega
  rw [h, BitVec.toInt_eq_toNat_of_lt (by rw [hn]; omega), hn]
  omega
