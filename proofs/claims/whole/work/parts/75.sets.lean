/-! what can be had at a node, out of what can be had below it -/
def wT (n : aN) (u s : Int) : Int := nf n u 1 * nf n u 2 + 2 / nf n u 3 * nf n u 1 * s
def mn (x y : Int) : Int := if x ≤ y then x else y
def jn (n : aN) (u : Int) (a b : aT) : aT := (a.1 + (nf n u 2 * nf n u 3 + b.1), mn a.2.1 (b.2.1 - wT n u b.1), a.2.2 + b.2.2)
def dr (n : aN) (k : Int) (y : aT) : aT := (kf n k 1, y.2.1 - kf n k 3 - 2 * kf n k 2 * y.1, y.2.2 + kf n k 4)
def ptt (n : aN) (y : aT) : aT := (0, y.2.1 - 2 * n 1 * y.1, y.2.2)
theorem mn_le {x y x' y' : Int} (h1 : x ≤ x') (h2 : y ≤ y') : mn x y ≤ mn x' y' := by
  unfold mn
  split <;> split <;> omega
theorem wT_co {n : aN} (hW : WF n) {u : Int} (h1 : 1 ≤ u) (h2 : u < n 0) : 0 ≤ 2 / nf n u 3 * nf n u 1 ∧ 2 / nf n u 3 * nf n u 1 ≤ 18 ∧ 0 ≤ nf n u 1 * nf n u 2 ∧ nf n u 1 * nf n u 2 ≤ 81 ∧ 0 ≤ nf n u 2 * nf n u 3 ∧ nf n u 2 * nf n u 3 ≤ 18 := by
  have hN := hW.1
  obtain ⟨-, b1, b2, b3, -⟩ := hW.2.1 u (by omega) (by omega)
  have b4 := (hW.2.2.1 u h1 h2).1
  have p1 : 0 ≤ nf n u 1 * nf n u 2 := Int.mul_nonneg b1.1 b2.1
  have p2 : nf n u 1 * nf n u 2 ≤ 9 * 9 := Int.mul_le_mul b1.2 b2.2 b2.1 (by omega)
  have p3 : (0 ≤ 2 / nf n u 3 * nf n u 1 ∧ 2 / nf n u 3 * nf n u 1 ≤ 18) ∧ 0 ≤ nf n u 2 * nf n u 3 ∧ nf n u 2 * nf n u 3 ≤ 18 := by
    rcases (show nf n u 3 = 1 ∨ nf n u 3 = 2 by omega) with e | e <;> rw [e]
    · rw [show (2 : Int) / 1 = 2 by decide]; omega
    · rw [show (2 : Int) / 2 = 1 by decide]; omega
  omega
theorem wT_mono {n : aN} (hW : WF n) {u s s' : Int} (h1 : 1 ≤ u) (h2 : u < n 0) (h : s ≤ s') : wT n u s ≤ wT n u s' := by
  have := Int.mul_le_mul_of_nonneg_left h (wT_co hW h1 h2).1
  unfold wT
  omega
theorem wT_bd {n : aN} (hW : WF n) {u s : Int} (h1 : 1 ≤ u) (h2 : u < n 0) (hs : 0 ≤ s ∧ s ≤ 1000000) : 0 ≤ wT n u s ∧ wT n u s ≤ 18000081 := by
  have hc := wT_co hW h1 h2
  have q1 : 0 ≤ 2 / nf n u 3 * nf n u 1 * s := Int.mul_nonneg hc.1 hs.1
  have q2 : 2 / nf n u 3 * nf n u 1 * s ≤ 18 * 1000000 := Int.mul_le_mul hc.2.1 hs.2 hs.1 (by omega)
  unfold wT
  omega
theorem jn_mono {n : aN} (hW : WF n) {u : Int} (h1 : 1 ≤ u) (h2 : u < n 0) {a a' b b' : aT} (ha : wb a a' = true) (hb : wb b b' = true) : wb (jn n u a b) (jn n u a' b') = true := by
  rw [wb_iff] at *
  have hm := wT_mono hW h1 h2 hb.1
  refine ⟨?_, ?_, ?_⟩
  · show a.1 + (nf n u 2 * nf n u 3 + b.1) ≤ a'.1 + (nf n u 2 * nf n u 3 + b'.1)
    omega
  · exact mn_le ha.2.1 (by omega)
  · show a.2.2 + b.2.2 ≤ a'.2.2 + b'.2.2
    omega
theorem dr_mono {n : aN} (hW : WF n) {k : Int} (hk : 1 ≤ k ∧ k ≤ 3) {y y' : aT} (h : wb y y' = true) : wb (dr n k y) (dr n k y') = true := by
  rw [wb_iff] at *
  have hb := (hW.2.2.2.2.2 k hk.1 hk.2).2.2.1
  have hm := Int.mul_le_mul_of_nonneg_left h.1 (show 0 ≤ 2 * kf n k 2 by omega)
  refine ⟨Int.le_refl _, ?_, ?_⟩
  · show y'.2.1 - kf n k 3 - 2 * kf n k 2 * y'.1 ≤ y.2.1 - kf n k 3 - 2 * kf n k 2 * y.1
    omega
  · show y.2.2 + kf n k 4 ≤ y'.2.2 + kf n k 4
    omega
theorem ptt_mono {n : aN} (hW : WF n) {y y' : aT} (h : wb y y' = true) : wb (ptt n y) (ptt n y') = true := by
  rw [wb_iff] at *
  have hb := hW.1
  have hm := Int.mul_le_mul_of_nonneg_left h.1 (show 0 ≤ 2 * n 1 by omega)
  refine ⟨Int.le_refl _, ?_, h.2.2⟩
  show y'.2.1 - 2 * n 1 * y'.1 ≤ y.2.1 - 2 * n 1 * y.1
  omega
theorem fro_iff {L : List aT} {X Y : aT → Prop} (h : Fro L X) (he : ∀ x, X x ↔ Y x) : Fro L Y := by
  have : X = Y := funext (fun x => propext (he x))
  rw [← this]
  exact h
/-- a set, and what g makes of the members of a list -/
def OA (Z : aT → Prop) (g : aT → aT) (D : List aT) : aT → Prop := fun x => Z x ∨ ∃ y ∈ D, x = g y
theorem oa_nil {Z : aT → Prop} {g : aT → aT} {x : aT} : OA Z g [] x ↔ Z x := by
  unfold OA
  constructor
  · rintro (h | ⟨y, hy, -⟩)
    · exact h
    · cases hy
  · exact Or.inl
theorem oa_step {L L' : List aT} {Z : aT → Prop} {g : aT → aT} {D : List aT} {y : aT} (h : Fro L (OA Z g D)) (hm : Mts L (g y) L') : Fro L' (OA Z g (D ++ [y])) := by
  refine fro_iff (mts_fro h hm) (fun x => ?_)
  unfold OA
  constructor
  · rintro ((h | ⟨z, hz, e⟩) | e)
    · exact Or.inl h
    · exact Or.inr ⟨z, List.mem_append_left _ hz, e⟩
    · exact Or.inr ⟨y, by simp, e⟩
  · rintro (h | ⟨z, hz, e⟩)
    · exact Or.inl (Or.inl h)
    · rw [List.mem_append, List.mem_singleton] at hz
      rcases hz with hz | rfl
      · exact Or.inl (Or.inr ⟨z, hz, e⟩)
      · exact Or.inr e
def JX (n : aN) (u : Int) (X Y : aT → Prop) : aT → Prop := fun x => ∃ a b, X a ∧ Y b ∧ x = jn n u a b
def PX (n : aN) (Y : Int → aT → Prop) (v w : Int) : aT → Prop := rf (fun u X => if nf n u 0 = v then JX n u X (Y u) else X) (fun x => x = (0, 900000, 0)) (v + 1) w
/-- how many nodes there are at and below the children of v ahead of w -/
def cs (n : aN) (sz : Int → Nat) (v w : Int) : Nat := rf (fun u s => if nf n u 0 = v then s + sz u else s) 0 (v + 1) w
theorem cs_mono {n : aN} {sz : Int → Nat} {v w : Int} (h : v + 1 ≤ w) : ∀ (k : Nat), cs n sz v w ≤ cs n sz v (w + k)
  | 0 => by rw [show w + ((0 : Nat) : Int) = w by omega]; exact Nat.le_refl _
  | k + 1 => by
    refine Nat.le_trans (cs_mono h k) ?_
    unfold cs
    rw [show w + ((k + 1 : Nat) : Int) = w + (k : Int) + 1 by omega, rf_succ (by omega)]
    split <;> omega
/-- how the sets hang together; W: all ways at a node and below it, B: those with no repeater at the node itself -/
def SE (n : aN) (W B : Int → Int → aT → Prop) (sz : Int → Nat) : Prop :=
  (∀ v t x, 1 ≤ v → v < n 0 → 0 ≤ t → t ≤ 1 → (W v t x ↔ B v t x ∨ ∃ k y, isK n k ∧ B v ((t + kf n k 5) % 2) y ∧ x = dr n k y)) ∧
  (∀ t x, 0 ≤ t → t ≤ 1 → (W 0 t x ↔ B 0 t x)) ∧
  (∀ v t x, 0 ≤ v → v < n 0 → 0 ≤ t → t ≤ 1 → mEnd n v = true → (B v t x ↔ nf n v 6 = t ∧ x = (nf n v 4, nf n v 5, 0))) ∧
  (∀ v t x, 0 ≤ v → v < n 0 → 0 ≤ t → t ≤ 1 → mEnd n v = false → (B v t x ↔ PX n (fun u => W u t) v (n 0) x)) ∧
  (∀ v t x, 0 ≤ v → v < n 0 → 0 ≤ t → t ≤ 1 → W v t x → tB x) ∧
  (∀ v, 0 ≤ v → v < n 0 → cs n sz v (n 0) + 1 = sz v ∧ (sz v : Int) ≤ n 0 - v)
/-- bounds that all triples keep, also those under way -/
def bB (x : aT) : Prop := (0 ≤ x.1 ∧ x.1 ≤ 100000) ∧ (-2000000 ≤ x.2.1 ∧ x.2.1 ≤ 900000) ∧ (0 ≤ x.2.2 ∧ x.2.2 ≤ 100000)
theorem bB.tR {x : aT} (h : bB x) : tR x := by
  obtain ⟨h1, h2, h3⟩ := h
  exact ⟨by omega, by omega, by omega⟩
theorem tB.bB {x : aT} (h : tB x) : bB x := by
  obtain ⟨h1, h2, h3⟩ := h
  exact ⟨by omega, by omega, by omega⟩
theorem SE.bw {n : aN} {W B : Int → Int → aT → Prop} {sz : Int → Nat} (h : SE n W B sz) {v t : Int} {x : aT} (h0 : 0 ≤ v) (h1 : v < n 0) (t0 : 0 ≤ t) (t1 : t ≤ 1) (hx : B v t x) : W v t x := by
  by_cases q : v = 0
  · subst q
    exact (h.2.1 t x t0 t1).mpr hx
  · exact (h.1 v t x (by omega) h1 t0 t1).mpr (Or.inl hx)
theorem px_bd {n : aN} (hW : WF n) {W B : Int → Int → aT → Prop} {sz : Int → Nat} (h : SE n W B sz) {t v : Int} (t0 : 0 ≤ t) (t1 : t ≤ 1) (h0 : 0 ≤ v) : ∀ (k : Nat) (w : Int), w = v + 1 + k → w ≤ n 0 → ∀ x, PX n (fun u => W u t) v w x → (0 ≤ x.1 ∧ x.1 ≤ 15018 * k) ∧ (-1200000 ≤ x.2.1 ∧ x.2.1 ≤ 900000) ∧ (0 ≤ x.2.2 ∧ x.2.2 ≤ 495 * k)
  | 0, w, hw, h1, x, hx => by
    unfold PX at hx
    rw [rf_nil (by omega)] at hx
    subst hx
    refine ⟨?_, ?_, ?_⟩ <;> simp
  | k + 1, w, hw, h1, x, hx => by
    have ih := px_bd hW h t0 t1 h0 k (v + 1 + k) rfl (by omega)
    unfold PX at hx
    rw [show w = v + 1 + (k : Int) + 1 by omega, rf_succ (by omega)] at hx
    split at hx
    · obtain ⟨a, b, ha, hb, rfl⟩ := hx
      obtain ⟨a1, a2, a3⟩ := ih a ha
      obtain ⟨b1, b2, b3⟩ := h.2.2.2.2.1 _ t b (by omega) (by omega) t0 t1 hb
      have hc := wT_co hW (u := v + 1 + k) (by omega) (by omega)
      have q1 : 0 ≤ 2 / nf n (v + 1 + k) 3 * nf n (v + 1 + k) 1 * b.1 := Int.mul_nonneg hc.1 b1.1
      have q2 : 2 / nf n (v + 1 + k) 3 * nf n (v + 1 + k) 1 * b.1 ≤ 18 * 15000 := Int.mul_le_mul hc.2.1 b1.2 b1.1 (by omega)
      refine ⟨?_, ?_, ?_⟩
      · show 0 ≤ a.1 + (nf n (v + 1 + k) 2 * nf n (v + 1 + k) 3 + b.1) ∧ a.1 + (nf n (v + 1 + k) 2 * nf n (v + 1 + k) 3 + b.1) ≤ 15018 * ((k + 1 : Nat) : Int)
        omega
      · show -1200000 ≤ mn a.2.1 (b.2.1 - wT n (v + 1 + k) b.1) ∧ mn a.2.1 (b.2.1 - wT n (v + 1 + k) b.1) ≤ 900000
        unfold mn wT
        split <;> omega
      · show 0 ≤ a.2.2 + b.2.2 ∧ a.2.2 + b.2.2 ≤ 495 * ((k + 1 : Nat) : Int)
        omega
    · have := ih x hx
      omega
theorem px_bB {n : aN} (hW : WF n) {W B : Int → Int → aT → Prop} {sz : Int → Nat} (h : SE n W B sz) {t v w : Int} (t0 : 0 ≤ t) (t1 : t ≤ 1) (h0 : 0 ≤ v) (hw : v + 1 ≤ w) (hn : w ≤ n 0) {x : aT} (hx : PX n (fun u => W u t) v w x) : bB x := by
  have hN := hW.1
  have := px_bd hW h t0 t1 h0 (w - (v + 1)).toNat w (by omega) hn x hx
  obtain ⟨c1, c2, c3⟩ := this
  exact ⟨by omega, by omega, by omega⟩
