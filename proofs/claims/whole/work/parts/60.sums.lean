/-! sums taken from either end -/
theorem rf_sum0 {f : Int → Int} {a lo : Int} : ∀ (k : Nat) (hi : Int), hi - lo = k → rf (fun u s => s + f u) a lo hi = a + rf (fun u s => s + f u) 0 lo hi
  | 0, hi, h => by rw [rf_nil (by omega), rf_nil (by omega)]; omega
  | k + 1, hi, h => by
    have ih := rf_sum0 (f := f) (a := a) (lo := lo) k (hi - 1) (by omega)
    have e : hi = hi - 1 + 1 := by omega
    rw [e, rf_succ (by omega), rf_succ (by omega), ih]
    omega
theorem rf_low {f : Int → Int} {a lo : Int} : ∀ (k : Nat) (hi : Int), hi - lo = k + 1 → rf (fun u s => s + f u) a lo hi = f lo + rf (fun u s => s + f u) a (lo + 1) hi
  | 0, hi, h => by
    have e : hi = lo + 1 := by omega
    subst e
    rw [rf_succ (by omega), rf_nil (by omega), rf_nil (by omega)]
    omega
  | k + 1, hi, h => by
    have ih := rf_low (f := f) (a := a) (lo := lo) k (hi - 1) (by omega)
    have e : hi = hi - 1 + 1 := by omega
    rw [e, rf_succ (by omega), rf_succ (by omega), ih]
    omega
