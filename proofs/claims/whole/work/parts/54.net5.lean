/-! a net of the class: copyFrom -/
theorem cI_ne {I : aI} {x t y : Nat} {sp dp n : Int} (h : y ≠ t) : cI I x sp t dp n y = I y := by
  funext j
  simp [cI, h]
theorem cI_at {I : aI} {x t : Nat} {n j : Int} (h : 0 ≤ j ∧ j < n) : cI I x 0 t 0 n t j = I x j := by
  simp [cI, h]
