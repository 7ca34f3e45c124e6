/-! bits of whole numbers -/
def tb (x : Int) (i : Nat) : Bool := (BitVec.ofInt 32 x).getLsbD i
theorem tb_bv {b : BitVec 32} {i : Nat} : tb b.toInt i = b.getLsbD i := by
  unfold tb
  rw [BitVec.ofInt_toInt]
theorem tb_or {x y : Int} {i : Nat} : tb (bOr x y) i = (tb x i || tb y i) := by
  have h : bOr x y = (BitVec.ofInt 32 x ||| BitVec.ofInt 32 y).toInt := rfl
  rw [h, tb_bv, BitVec.getLsbD_or]
  rfl
theorem tb_and {x y : Int} {i : Nat} : tb (bAnd x y) i = (tb x i && tb y i) := by
  have h : bAnd x y = (BitVec.ofInt 32 x &&& BitVec.ofInt 32 y).toInt := rfl
  rw [h, tb_bv, BitVec.getLsbD_and]
  rfl
theorem tb_not {x : Int} {i : Nat} (hi : i < 32) : tb (bXor x (-1)) i = !tb x i := by
  have h : bXor x (-1) = (BitVec.ofInt 32 x ^^^ BitVec.ofInt 32 (-1)).toInt := rfl
  have h2 : BitVec.ofInt 32 (-1) = BitVec.allOnes 32 := by decide
  rw [h, tb_bv, BitVec.getLsbD_xor, h2, BitVec.getLsbD_allOnes, decide_eq_true hi]
  simp [tb]
theorem tb_zero {i : Nat} : tb 0 i = false := by
  have h : BitVec.ofInt 32 0 = 0#32 := by decide
  unfold tb
  rw [h, BitVec.getLsbD_zero]
theorem tb_shl {v : Int} {i : Nat} (hv : 0 ≤ v ∧ v < 6) : tb (bShl 1 v) i = decide ((i : Int) = v) := by
  have : v = 0 ∨ v = 1 ∨ v = 2 ∨ v = 3 ∨ v = 4 ∨ v = 5 := by omega
  have key : ∀ k : Nat, k < 6 → BitVec.ofInt 32 (bShl 1 (k : Int)) = BitVec.twoPow 32 k := by decide
  have h := key v.toNat (by omega)
  rw [Int.toNat_of_nonneg hv.1] at h
  unfold tb
  rw [h, BitVec.getLsbD_twoPow, decide_eq_true (show v.toNat < 32 by omega), Bool.true_and]
  apply decide_eq_decide.mpr
  omega
theorem iR_bv {x : Int} (h : iR x) : (BitVec.ofInt 32 x).toInt = x := by
  have := Int32.toInt_ofInt_of_le (n := x) (by omega) (by omega)
  exact this
theorem tb_ext {x y : Int} (hx : iR x) (hy : iR y) (h : ∀ i, i < 32 → tb x i = tb y i) : x = y := by
  have e : BitVec.ofInt 32 x = BitVec.ofInt 32 y := BitVec.eq_of_getLsbD_eq (fun i hi => h i hi)
  rw [← iR_bv hx, ← iR_bv hy, e]
theorem iR_or {x y : Int} : iR (bOr x y) := iR_t32 _
theorem iR_and {x y : Int} : iR (bAnd x y) := iR_t32 _
theorem iR_xor {x y : Int} : iR (bXor x y) := iR_t32 _
theorem iR_shl {x y : Int} : iR (bShl x y) := iR_t32 _
/-- one bit, moved down and cut out -/
theorem bit_at {x v : Int} (hv : 0 ≤ v ∧ v < 6) : bAnd (bShr x v) 1 = b2i (tb x v.toNat) := by
  have h : bAnd (bShr x v) 1 = (BitVec.ofInt 32 (bShr x v) &&& 1#32).toInt := rfl
  have h1 : (BitVec.ofInt 32 (bShr x v)).getLsbD 0 = tb x v.toNat := by
    have h2 : BitVec.ofInt 32 (bShr x v) = (Int32.ofInt x >>> (Int32.ofInt v &&& 31)).toBitVec := BitVec.ofInt_toInt
    rw [h2]
    have : v = 0 ∨ v = 1 ∨ v = 2 ∨ v = 3 ∨ v = 4 ∨ v = 5 := by omega
    have key : ∀ k : Nat, k < 6 → ((Int32.ofInt (k : Int) &&& 31).toBitVec.smod 32).toNat = k := by decide
    have hk := key v.toNat (by omega)
    rw [Int.toNat_of_nonneg hv.1] at hk
    have h3 : (Int32.ofInt x >>> (Int32.ofInt v &&& 31)).toBitVec = (BitVec.ofInt 32 x).sshiftRight' ((Int32.ofInt v &&& 31).toBitVec.smod 32) := rfl
    rw [h3]
    show ((BitVec.ofInt 32 x).sshiftRight ((Int32.ofInt v &&& 31).toBitVec.smod 32).toNat).getLsbD 0 = tb x v.toNat
    rw [hk, BitVec.getLsbD_sshiftRight]
    simp [tb]
    omega
  rw [h, BitVec.and_one_eq_setWidth_ofBool_getLsbD, h1]
  cases tb x v.toNat <;> decide
/-- the bit of a gathering -/
theorem tb_rf {f : Int → Int → Int} {g : Int → Bool} {i : Nat} {a lo : Int} : ∀ (k : Nat) (hi : Int), hi - lo = k → (∀ u x, lo ≤ u → u < hi → tb (f u x) i = (tb x i || g u)) → (tb (rf f a lo hi) i = true ↔ (tb a i = true ∨ ∃ u, lo ≤ u ∧ u < hi ∧ g u = true))
  | 0, hi, h, hs => by
    rw [rf_nil (by omega)]
    constructor
    · exact Or.inl
    · rintro (q | ⟨u, h1, h2, -⟩)
      · exact q
      · omega
  | k + 1, hi, h, hs => by
    have ih := tb_rf (f := f) (g := g) (i := i) (a := a) (lo := lo) k (hi - 1) (by omega) (fun u x h1 h2 => hs u x h1 (by omega))
    have e : hi = hi - 1 + 1 := by omega
    rw [e, rf_succ (by omega), hs (hi - 1) _ (by omega) (by omega), Bool.or_eq_true, ih]
    constructor
    · rintro ((q | ⟨u, h1, h2, h3⟩) | q)
      · exact Or.inl q
      · exact Or.inr ⟨u, h1, by omega, h3⟩
      · exact Or.inr ⟨hi - 1, by omega, by omega, q⟩
    · rintro (q | ⟨u, h1, h2, h3⟩)
      · exact Or.inl (Or.inl q)
      · by_cases q : u = hi - 1
        · subst q; exact Or.inr h3
        · exact Or.inl (Or.inr ⟨u, h1, by omega, h3⟩)
theorem mEnd_iff {n : aN} (hN : 1 ≤ n 0) {v : Int} : mEnd n v = true ↔ 0 < v ∧ ∀ u, 1 ≤ u → u < n 0 → nf n u 0 ≠ v := by
  unfold mEnd
  have key : ∀ (k : Nat) (hi : Int), hi - 1 = k → (rf (fun u b => b && decide (nf n u 0 ≠ v)) (decide (0 < v)) 1 hi = true ↔ 0 < v ∧ ∀ u, 1 ≤ u → u < hi → nf n u 0 ≠ v) := by
    intro k
    induction k with
    | zero =>
      intro hi h
      rw [rf_nil (by omega), decide_eq_true_eq]
      exact ⟨fun q => ⟨q, fun u h1 h2 => by omega⟩, fun q => q.1⟩
    | succ k ih =>
      intro hi h
      have e : hi = hi - 1 + 1 := by omega
      rw [e, rf_succ (by omega), Bool.and_eq_true, ih (hi - 1) (by omega), decide_eq_true_eq]
      constructor
      · rintro ⟨⟨a, b⟩, c⟩
        refine ⟨a, fun u h1 h2 => ?_⟩
        by_cases q : u = hi - 1
        · subst q; exact c
        · exact b u h1 (by omega)
      · rintro ⟨a, b⟩
        exact ⟨⟨a, fun u h1 h2 => b u h1 (by omega)⟩, b (hi - 1) (by omega) (by omega)⟩
  exact key (n 0 - 1).toNat (n 0) (by omega)
/-- the ends, as a set -/
theorem tb_mEnds {n : aN} (hW : WF n) {i : Nat} : tb (mEnds n) i = true ↔ 1 ≤ (i : Int) ∧ (i : Int) < n 0 ∧ mEnd n i = true := by
  have hN := hW.1
  unfold mEnds
  rw [tb_rf (g := fun u => mEnd n u && decide ((i : Int) = u)) (n 0 - 1).toNat (n 0) (by omega) (fun u x h1 h2 => by
    rw [tb_or]
    split
    · rename_i h
      rw [tb_shl (by omega), h, Bool.true_and]
    · rename_i h
      rw [tb_zero]
      cases hq : mEnd n u with
      | true => exact absurd hq h
      | false => rfl)]
  rw [tb_zero]
  constructor
  · rintro (q | ⟨u, h1, h2, h3⟩)
    · cases q
    · rw [Bool.and_eq_true, decide_eq_true_eq] at h3
      obtain ⟨h3, h4⟩ := h3
      subst h4
      exact ⟨h1, h2, h3⟩
  · rintro ⟨h1, h2, h3⟩
    refine Or.inr ⟨i, h1, h2, ?_⟩
    rw [h3, decide_eq_true rfl]
    rfl
/-- all that are there, less those that are above one -/
def cEnds (n : aN) : Int := bAnd (rf (fun v s => bOr s (bShl 1 v)) 0 1 (n 0)) (bXor (rf (fun v s => bOr s (bShl 1 (nf n v 0))) 0 1 (n 0)) (-1))
theorem iR_mEnds {n : aN} (hN : 1 ≤ n 0) : iR (mEnds n) := by
  unfold mEnds
  exact rf_inv (fun _ x => iR x) iR0 (n 0 - 1).toNat (n 0) (by omega) (fun u x _ _ _ => iR_t32 _)
theorem cEnds_eq {n : aN} (hW : WF n) : cEnds n = mEnds n := by
  have hN := hW.1
  refine tb_ext iR_and (iR_mEnds hN.1) (fun i hi => ?_)
  apply Bool.eq_iff_iff.mpr
  rw [tb_mEnds hW, cEnds, tb_and, tb_not hi, Bool.and_eq_true]
  have k1 := tb_rf (f := fun v s => bOr s (bShl 1 v)) (g := fun u => decide ((i : Int) = u)) (i := i) (a := 0) (lo := 1) (n 0 - 1).toNat (n 0) (by omega) (fun u x h1 h2 => by rw [tb_or, tb_shl (by omega)])
  have k2 := tb_rf (f := fun v s => bOr s (bShl 1 (nf n v 0))) (g := fun u => decide ((i : Int) = nf n u 0)) (i := i) (a := 0) (lo := 1) (n 0 - 1).toNat (n 0) (by omega) (fun u x h1 h2 => by
    have := hW.2.1 u (by omega) (by omega)
    rw [tb_or, tb_shl (by omega)])
  rw [tb_zero] at k1 k2
  rw [k1, Bool.not_eq_true', ← Bool.not_eq_true, k2, mEnd_iff hN.1]
  constructor
  · rintro ⟨h1, h2⟩
    rcases h1 with q | ⟨u, g1, g2, g3⟩
    · cases q
    · have g3 := of_decide_eq_true g3
      refine ⟨by omega, by omega, by omega, fun w a b c => h2 (Or.inr ⟨w, a, b, ?_⟩)⟩
      exact decide_eq_true c.symm
  · rintro ⟨h1, h2, h3, h4⟩
    refine ⟨Or.inr ⟨i, h1, h2, decide_eq_true rfl⟩, ?_⟩
    rintro (q | ⟨w, a, b, c⟩)
    · cases q
    · exact h4 w a b (of_decide_eq_true c).symm
