/-! the timing of the class -/
def TiS (R : aR) (S : aS) : Prop := S[29]? = some (6, 7) ∧ R 29 0 = some 30 ∧ S[30]? = some (9, 6) ∧ R 29 1 = some 31 ∧ S[31]? = some (9, 6) ∧ R 29 2 = some 32 ∧ S[32]? = some (9, 6) ∧ R 29 3 = some 33 ∧ S[33]? = some (9, 6)
theorem ends_bit {n : aN} (hW : WF n) {v : Int} (hv : 0 ≤ v ∧ v < n 0) : bAnd (bShr (mEnds n) v) 1 = b2i (mEnd n v) := by
  have hN := hW.1
  rw [bit_at (by omega)]
  have ht := tb_mEnds hW (i := v.toNat)
  rw [Int.toNat_of_nonneg hv.1] at ht
  congr 1
  apply Bool.eq_iff_iff.mpr
  rw [ht]
  constructor
  · exact fun h => h.2.2
  · intro h
    have := (mEnd_iff hN.1).mp h
    exact ⟨by omega, hv.2, h⟩
