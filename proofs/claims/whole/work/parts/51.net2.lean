/-! a net of the class: changes -/
def FN (a : Nat) (I I' : aI) : Prop := ∀ x, (x < a ∨ a + 13 < x) → I' x = I x
theorem FN.rf {a : Nat} {I : aI} : FN a I I := fun _ _ => rfl
theorem FN.put {a b : Nat} {I I' : aI} {j z : Int} (h : FN a I I') (hb : a ≤ b ∧ b ≤ a + 13) : FN a I (uI I' b j z) := by
  intro x hx
  funext k
  rw [uI_ne (by omega), h x hx]
theorem FN.trans {a : Nat} {I I1 I2 : aI} (h : FN a I I1) (h2 : FN a I1 I2) : FN a I I2 := fun x hx => (h2 x hx).trans (h x hx)
theorem net_row {I : aI} {a b : Nat} {n : aN} {v w z x : Int} {i j : Nat} (hb : (b : Int) = a + 1 + w) (hw : 0 ≤ w ∧ w < 8) (hi : i < 8) (hj : j = 1 + i) (h : I (a + j) x = nf n x i) : uI I b v z (a + j) x = nf (st n v w z) x i := by
  rw [nf_st hw (by omega)]
  by_cases q : x = v ∧ (i : Int) = w
  · rw [if_pos q]
    obtain ⟨q1, q2⟩ := q
    have e : a + j = b := by omega
    subst e
    subst q1
    exact uI_at
  · rw [if_neg q, uI_ne (by omega)]
    exact h
def mK3 (x y z : Int) : Int := bOr (bOr (bOr 0 (if x = 1 then bShl 1 1 else 0)) (if y = 1 then bShl 1 2 else 0)) (if z = 1 then bShl 1 3 else 0)
theorem mKinds_3 (n : aN) : mKinds n = mK3 (kf n 1 0) (kf n 2 0) (kf n 3 0) := rfl
theorem mKinds_cong {n n' : aN} (h : ∀ k : Int, 1 ≤ k → k ≤ 3 → kf n' k 0 = kf n k 0) : mKinds n' = mKinds n := by
  have e1 := h 1 (by omega) (by omega)
  have e2 := h 2 (by omega) (by omega)
  have e3 := h 3 (by omega) (by omega)
  rw [mKinds_3 n', mKinds_3 n]
  exact congr (congr (congrArg mK3 e1) e2) e3
