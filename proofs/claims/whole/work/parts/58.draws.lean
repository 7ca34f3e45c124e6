/-! the draws of the class -/
theorem land31 {x : Int} (hx : 0 ≤ x) : bLand x 2147483647 = x % 2147483648 := by
  have h : bLand x 2147483647 = (BitVec.ofInt 64 x &&& 2147483647#64).toInt := rfl
  have hn : (BitVec.ofInt 64 x &&& 2147483647#64).toNat = x.toNat % 2147483648 := by
    rw [BitVec.toNat_and]
    show (BitVec.ofInt 64 x).toNat &&& (2 ^ 31 - 1) = _
    rw [Nat.and_two_pow_sub_one_eq_mod, BitVec.toNat_ofInt]
    omega
  rw [h, BitVec.toInt_eq_toNat_of_lt (by rw [hn]; omega), hn]
  omega
/-- next(n) -/
theorem ok_next {P : aP} {d : Nat} {K : aK} {I : aI} {R : aR} {S : aS} {m : Int} (hS : S[329]? = some (2, 1)) (hs : 0 ≤ I 329 0 ∧ I 329 0 < 2147483648) (hm : 1 ≤ m ∧ m < 2147483648) (hK : K (some (vi (dr1 (I 329 0) m))) (uI I 329 0 (sdN (I 329 0))) R S) : Ok P 13 (d + 1) [vr 329, vi m] I R S K := by
  have hb := sdN_bd (s := I 329 0)
  have hs2 : 0 ≤ I 329 ((0 : Nat) : Int) ∧ I 329 ((0 : Nat) : Int) < 2147483648 := hs
  have e2 : bLand (I 329 ((0 : Nat) : Int) * 1103515245 + 12345) 2147483647 = sdN (I 329 0) := (land31 (by omega)).trans rfl
  have e : uI I 329 ((0 : Nat) : Int) (sdN (I 329 0)) 329 ((0 : Nat) : Int) = sdN (I 329 0) := uI_at
  refine Ok.of (by decide) rfl (Nat.le_of_ble_eq_true rfl) ?_
  refine Go.walk 400 [] E13 E13_ok (fun G C hG hC => ?_)
  (repeat ((conv => whnf); first | refine ⟨_, by assumption, ?_⟩ | refine ⟨_, _, by assumption, ?_⟩ | refine ⟨(show _ ∧ _ by omega), ?_⟩ | refine ⟨(show _ ∨ _ by omega), ?_⟩ | refine ⟨fun h => absurd h (by decide), fun _ => ?_⟩ | refine ⟨fun _ => ?_, fun h => absurd h (by decide)⟩ | refine ⟨fun _ => ?_, fun h => absurd rfl h⟩ | refine ⟨fun h => absurd rfl h, fun _ => ?_⟩)); try (conv => whnf)
  rw [e2]
  refine ⟨fun _ => ?_, fun q => absurd hm.1 (by omega)⟩
  (repeat ((conv => whnf); first | refine ⟨_, by assumption, ?_⟩ | refine ⟨_, _, by assumption, ?_⟩ | refine ⟨(show _ ∧ _ by omega), ?_⟩ | refine ⟨(show _ ∨ _ by omega), ?_⟩ | refine ⟨fun h => absurd h (by decide), fun _ => ?_⟩ | refine ⟨fun _ => ?_, fun h => absurd h (by decide)⟩ | refine ⟨fun _ => ?_, fun h => absurd rfl h⟩ | refine ⟨fun h => absurd rfl h, fun _ => ?_⟩)); try (conv => whnf)
  rw [e]
  exact hK
