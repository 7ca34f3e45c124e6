/-! what the rows hold, as functions of the net, of what stands where and of the widths -/
def cB (n : aN) (pl wd : Int → Int) : Nat → Int → Int
  | 0, _ => 0
  | f + 1, v => mBear n wd (fun u => mShow n pl (cB n pl wd f) u) v
def bea (n : aN) (pl wd : Int → Int) (v : Int) : Int := cB n pl wd 6 v
def sho (n : aN) (pl wd : Int → Int) (v : Int) : Int := mShow n pl (bea n pl wd) v
theorem wt_cB {n : aN} {pl wd be sh : Int → Int} (h : WtOk n pl wd be sh) : ∀ (f : Nat) (v : Int), 0 ≤ v → v < n 0 → n 0 - v ≤ f → be v = cB n pl wd f v := by
  intro f
  induction f with
  | zero => intro v h0 h1 h2; exact absurd h2 (by omega)
  | succ f ih =>
    intro v h0 h1 h2
    rw [(h v h0 h1).1]
    show _ = mBear n wd _ v
    apply mBear_cong
    intro w h3 h4
    rw [(h w (by omega) h4).2]
    simp only [mShow]
    rw [ih w (by omega) h4 (by omega)]
theorem wt_bea {n : aN} (hn : n 0 ≤ 6) {pl wd be sh : Int → Int} (h : WtOk n pl wd be sh) {v : Int} (h0 : 0 ≤ v) (h1 : v < n 0) : be v = bea n pl wd v ∧ sh v = sho n pl wd v := by
  have e := wt_cB h 6 v h0 h1 (by omega)
  refine ⟨e, ?_⟩
  rw [(h v h0 h1).2]
  simp only [mShow, sho, bea]
  rw [e]
theorem cB_cong {n : aN} {pl wd pl' wd' : Int → Int} : ∀ (f : Nat) (v : Int), 0 ≤ v → (∀ u, v < u → u < n 0 → pl' u = pl u ∧ wd' u = wd u) → cB n pl' wd' f v = cB n pl wd f v := by
  intro f
  induction f with
  | zero => intro v _ _; rfl
  | succ f ih =>
    intro v h0 h
    show mBear n wd' _ v = mBear n wd _ v
    unfold mBear
    apply rf_cong
    intro u h1 h2 x
    have := h u (by omega) h2
    simp only [wt1, mShow]
    rw [this.1, this.2, ih u (by omega) (fun w h3 h4 => h w (by omega) h4)]
theorem bea_cong {n : aN} {pl wd pl' wd' : Int → Int} {v : Int} (h0 : 0 ≤ v) (h : ∀ u, v < u → u < n 0 → pl' u = pl u ∧ wd' u = wd u) : bea n pl' wd' v = bea n pl wd v := cB_cong 6 v h0 h
theorem sho_cong {n : aN} {pl wd pl' wd' : Int → Int} {v : Int} (h0 : 0 ≤ v) (h1 : pl' v = pl v) (h : ∀ u, v < u → u < n 0 → pl' u = pl u ∧ wd' u = wd u) : sho n pl' wd' v = sho n pl wd v := by
  simp only [sho, mShow]
  rw [h1, bea_cong h0 h]
/-- the functions meet the rows' own words -/
theorem cB_any {n : aN} {pl wd : Int → Int} : ∀ (f g : Nat) (v : Int), 0 ≤ v → n 0 - v ≤ f → n 0 - v ≤ g → v < n 0 → cB n pl wd f v = cB n pl wd g v := by
  intro f
  induction f with
  | zero => intro g v h0 h1 h2 h3; exact absurd h1 (by omega)
  | succ f ih =>
    intro g v h0 h1 h2 h3
    obtain ⟨g', rfl⟩ : ∃ g', g = g' + 1 := ⟨g - 1, by omega⟩
    show mBear n wd _ v = mBear n wd _ v
    apply mBear_cong
    intro w h4 h5
    simp only [mShow]
    rw [ih g' w (by omega) (by omega) (by omega) h5]
theorem bea_eq {n : aN} (hn : n 0 ≤ 6) {pl wd : Int → Int} {v : Int} (h0 : 0 ≤ v) (h1 : v < n 0) : bea n pl wd v = mBear n wd (sho n pl wd) v := by
  show mBear n wd (fun u => mShow n pl (cB n pl wd 5) u) v = _
  apply mBear_cong
  intro w h2 h3
  simp only [mShow, sho, bea]
  rw [cB_any 5 6 w (by omega) (by omega) (by omega) h3]
/-! bounds -/
def bd : Nat → Int
  | 0 => 0
  | f + 1 => 9 + f * (18 + 9 + bd f)
theorem bd_nn : ∀ f, 0 ≤ bd f
  | 0 => by decide
  | f + 1 => by
    have := bd_nn f
    have h2 : 0 ≤ (f : Int) * (18 + 9 + bd f) := Int.mul_nonneg (by omega) (by omega)
    show 0 ≤ 9 + (f : Int) * (18 + 9 + bd f)
    omega
theorem cB_bd {n : aN} (hW : WF n) {pl wd : Int → Int} (hpl : ∀ v, 0 ≤ v → v < n 0 → 0 ≤ pl v ∧ pl v ≤ 3) (hwd : ∀ v, 1 ≤ v → v < n 0 → 1 ≤ wd v ∧ wd v ≤ 2) : ∀ (f : Nat) (v : Int), 0 ≤ v → v < n 0 → n 0 - v ≤ f → 0 ≤ cB n pl wd f v ∧ cB n pl wd f v ≤ bd f := by
  intro f
  induction f with
  | zero => intro v h0 h1 h2; exact absurd h2 (by omega)
  | succ f ih =>
    intro v h0 h1 h2
    have hN := hW.1
    have hb := hW.2.1 v h0 (by omega)
    have hbd := bd_nn f
    have key := rf_inv (f := fun u s => s + wt1 n wd (fun u => mShow n pl (cB n pl wd f) u) v u) (a := if mEnd n v = true then nf n v 4 else 0) (lo := v + 1) (fun u s => 0 ≤ s ∧ s ≤ 9 + (u - (v + 1)) * (18 + 9 + bd f)) (by split <;> constructor <;> omega) (n 0 - (v + 1)).toNat (n 0) (by omega) (by
      intro u s h3 h4 h5
      have hu := hW.2.1 u (by omega) (by omega)
      have hpu := hpl u (by omega) h4
      have hwu := hwd u (by omega) h4
      have hc := ih u (by omega) h4 (by omega)
      have hsh : 0 ≤ mShow n pl (cB n pl wd f) u ∧ mShow n pl (cB n pl wd f) u ≤ 9 + bd f := by
        simp only [mShow]
        split
        · have := (hW.2.2.2.2.2 (pl u) (by omega) (by omega)).2.1
          omega
        · omega
      have hcw : 0 ≤ nf n u 2 * wd u ∧ nf n u 2 * wd u ≤ 18 := by
        rcases (show wd u = 1 ∨ wd u = 2 by omega) with e | e <;> rw [e] <;> omega
      have hm : (u + 1 - (v + 1)) * (18 + 9 + bd f) = (u - (v + 1)) * (18 + 9 + bd f) + (18 + 9 + bd f) := by
        rw [show u + 1 - (v + 1) = (u - (v + 1)) + 1 by omega, Int.add_mul, Int.one_mul]
      simp only [wt1]
      split
      · rw [hm]; omega
      · rw [hm]; omega)
    refine ⟨key.1, Int.le_trans key.2 ?_⟩
    show _ ≤ 9 + (f : Int) * (18 + 9 + bd f)
    have : (n 0 - (v + 1)) * (18 + 9 + bd f) ≤ (f : Int) * (18 + 9 + bd f) := Int.mul_le_mul_of_nonneg_right (by omega) (by omega)
    omega
theorem bea_bd {n : aN} (hW : WF n) {pl wd : Int → Int} (hpl : ∀ v, 0 ≤ v → v < n 0 → 0 ≤ pl v ∧ pl v ≤ 3) (hwd : ∀ v, 1 ≤ v → v < n 0 → 1 ≤ wd v ∧ wd v ≤ 2) {v : Int} (h0 : 0 ≤ v) (h1 : v < n 0) : 0 ≤ bea n pl wd v ∧ bea n pl wd v ≤ 15000 ∧ (1 ≤ v → bea n pl wd v ≤ 3000) := by
  have hN := hW.1
  have h6 := cB_bd hW hpl hwd 6 v h0 h1 (by omega)
  have e6 : bd 6 = 11709 := by decide
  have e5 : bd 5 = 2313 := by decide
  refine ⟨h6.1, by show cB n pl wd 6 v ≤ _; omega, fun h => ?_⟩
  have h5 := cB_bd hW hpl hwd 5 v h0 h1 (by omega)
  rw [cB_any 5 6 v h0 (by omega) (by omega) h1] at h5
  show cB n pl wd 6 v ≤ _
  omega
