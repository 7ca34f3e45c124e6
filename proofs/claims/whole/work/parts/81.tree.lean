/-! the tree: what is below what -/
theorem bel_step {n : aN} (hW : WF n) {x top : Int} (ht : 0 ≤ top) (h6 : x < 6) (hx : top < x) : bel n x top = bel n (nf n x 0) top := by
  unfold bel
  rw [climb_up hW ht h6 hx]
/-- an induction along the way up to c -/
theorem sub_ind {n : aN} (hW : WF n) {c : Int} (hc : 0 ≤ c) (Q : Int → Prop) (h0 : Q c) (hs : ∀ u, u < 6 → c < u → bel n u c = true → bel n (nf n u 0) c = true → c ≤ nf n u 0 → nf n u 0 < u → Q (nf n u 0) → Q u) : ∀ (k : Nat) (u : Int), u ≤ k → u < 6 → bel n u c = true → Q u := by
  intro k
  induction k with
  | zero =>
    intro u h1 h6 hb
    have := bel_le hb
    have e : u = c := by omega
    rw [e]; exact h0
  | succ k ih =>
    intro u h1 h6 hb
    by_cases e : u = c
    · rw [e]; exact h0
    · obtain ⟨a1, a2, a3, a4⟩ := bel_up hW hc h6 hb e
      exact hs u h6 a1 hb a4 a2 a3 (ih _ (by omega) (by omega) a4)
theorem subI {n : aN} (hW : WF n) {c : Int} (hc : 0 ≤ c) (Q : Int → Prop) (h0 : Q c) (hs : ∀ u, u < 6 → c < u → bel n u c = true → bel n (nf n u 0) c = true → c ≤ nf n u 0 → nf n u 0 < u → Q (nf n u 0) → Q u) {u : Int} (h6 : u < 6) (hb : bel n u c = true) : Q u := sub_ind hW hc Q h0 hs 6 u (by omega) h6 hb
theorem bel_trans {n : aN} (hW : WF n) {u c v : Int} (hv : 0 ≤ v) (h6 : u < 6) (h1 : bel n u c = true) (h2 : bel n c v = true) : bel n u v = true := by
  have hvc := bel_le h2
  refine subI hW (c := c) (by omega) (fun u => bel n u v = true) h2 (fun u g6 g1 _ _ _ _ ih => ?_) h6 h1
  rw [bel_step hW hv g6 (by omega)]
  exact ih
theorem bel_mid {n : aN} (hW : WF n) {u w c : Int} (hc : 0 ≤ c) (hcw : c ≤ w) (h6 : u < 6) (h1 : bel n u w = true) (h2 : bel n u c = true) : bel n w c = true := by
  revert h2
  refine subI hW (c := w) (by omega) (fun u => bel n u c = true → bel n w c = true) (fun h => h) (fun u g6 g1 _ _ _ _ ih h => ?_) h6 h1
  rw [bel_step hW hc g6 (by omega)] at h
  exact ih h
theorem bel_child {n : aN} (hW : WF n) {c v : Int} (hv : 0 ≤ v) (h6 : c < 6) (h : v < c) (hc : nf n c 0 = v) : bel n c v = true := by
  rw [bel_step hW hv h6 h, hc]
  exact bel_self
/-- the child towards u -/
theorem child_ex {n : aN} (hW : WF n) {u v : Int} (hv : 0 ≤ v) (h6 : u < 6) (hb : bel n u v = true) (hne : u ≠ v) : ∃ c, v < c ∧ c ≤ u ∧ nf n c 0 = v ∧ bel n u c = true := by
  revert hne
  refine subI hW hv (fun u => u ≠ v → ∃ c, v < c ∧ c ≤ u ∧ nf n c 0 = v ∧ bel n u c = true) (fun h => absurd rfl h) (fun u g6 g1 g2 g3 g4 g5 ih _ => ?_) h6 hb
  by_cases e : nf n u 0 = v
  · exact ⟨u, g1, Int.le_refl _, e, bel_self⟩
  · obtain ⟨c, c1, c2, c3, c4⟩ := ih e
    refine ⟨c, c1, by omega, c3, ?_⟩
    rw [bel_step hW (by omega) g6 (by omega)]
    exact c4
theorem child_lt {n : aN} (hW : WF n) {u c c' v : Int} (hv : 0 ≤ v) (h6 : u < 6) (h1 : bel n u c = true) (h2 : bel n u c' = true) (a1 : v < c) (a2 : v < c') (e2 : nf n c' 0 = v) : ¬ c < c' := by
  intro h
  have l := bel_le h2
  have hm := bel_mid hW (u := u) (w := c') (c := c) (by omega) (by omega) h6 h2 h1
  rw [bel_step hW (by omega) (by omega) h, e2] at hm
  have := bel_le hm
  omega
theorem child_un {n : aN} (hW : WF n) {u c c' v : Int} (hv : 0 ≤ v) (h6 : u < 6) (h1 : bel n u c = true) (h2 : bel n u c' = true) (a1 : v < c) (a2 : v < c') (e1 : nf n c 0 = v) (e2 : nf n c' 0 = v) : c = c' := by
  have := child_lt hW hv h6 h1 h2 a1 a2 e2
  have := child_lt hW hv h6 h2 h1 a2 a1 e1
  omega
theorem bel_not_up {n : aN} (hW : WF n) {c v : Int} (h : v < c) : bel n v c = false := by
  cases q : bel n v c with
  | false => rfl
  | true => have := bel_le q; omega
/-- an end has nothing below it -/
theorem end_sub {n : aN} (hW : WF n) {v u : Int} (hv : 0 ≤ v) (hu : u < n 0) (he : mEnd n v = true) (hb : bel n u v = true) : u = v := by
  have hN := hW.1
  by_cases e : u = v
  · exact e
  · obtain ⟨c, c1, c2, c3, -⟩ := child_ex hW hv (by omega) hb e
    exact absurd c3 (((mEnd_iff hN.1).mp he).2 c (by omega) (by omega))
theorem nend_child {n : aN} (hW : WF n) {v : Int} (hv : 1 ≤ v) (he : mEnd n v = false) : ∃ c, v < c ∧ c < n 0 ∧ nf n c 0 = v := by
  have hN := hW.1
  have h : ¬ (0 < v ∧ ∀ u, 1 ≤ u → u < n 0 → nf n u 0 ≠ v) := fun h => by rw [(mEnd_iff hN.1).mpr h] at he; cases he
  have h2 : ∃ u, 1 ≤ u ∧ u < n 0 ∧ nf n u 0 = v := Classical.byContradiction (fun q => h ⟨by omega, fun u a b e => q ⟨u, a, b, e⟩⟩)
  obtain ⟨u, a, b, e⟩ := h2
  have := (hW.2.1 u (by omega) (by omega)).1.2 a
  exact ⟨u, by omega, b, e⟩
theorem end_below {n : aN} (hW : WF n) : ∀ (k : Nat) (v : Int), n 0 - v ≤ k → 1 ≤ v → v < n 0 → ∃ e, v ≤ e ∧ e < n 0 ∧ mEnd n e = true ∧ bel n e v = true := by
  have hN := hW.1
  intro k
  induction k with
  | zero => intro v h1 h2 h3; omega
  | succ k ih =>
    intro v h1 h2 h3
    cases he : mEnd n v with
    | true => exact ⟨v, Int.le_refl _, h3, he, bel_self⟩
    | false =>
      obtain ⟨c, c1, c2, c3⟩ := nend_child hW h2 he
      obtain ⟨e, e1, e2, e3, e4⟩ := ih c (by omega) (by omega) c2
      exact ⟨e, by omega, e2, e3, bel_trans hW (by omega) (by omega) e4 (bel_child hW (by omega) (by omega) c1 c3)⟩
/-! sums over the tree -/
def sm (f : Int → Int) (lo hi : Int) : Int := rf (fun u s => s + f u) 0 lo hi
theorem sm_nil {f : Int → Int} {lo hi : Int} (h : hi ≤ lo) : sm f lo hi = 0 := rf_nil h
theorem sm_succ {f : Int → Int} {lo hi : Int} (h : lo ≤ hi) : sm f lo (hi + 1) = sm f lo hi + f hi := rf_succ h
theorem sm_cong {f g : Int → Int} {lo hi : Int} (h : ∀ u, lo ≤ u → u < hi → f u = g u) : sm f lo hi = sm g lo hi := rf_cong (fun u h1 h2 x => by rw [h u h1 h2])
/-- an induction on the upper end -/
theorem hi_ind (Q : Int → Prop) {lo : Int} (h0 : ∀ hi, hi ≤ lo → Q hi) (hs : ∀ hi, lo ≤ hi → Q hi → Q (hi + 1)) : ∀ hi, Q hi := by
  have key : ∀ (k : Nat) (hi : Int), hi - lo ≤ k → Q hi := by
    intro k
    induction k with
    | zero => intro hi h; exact h0 hi (by omega)
    | succ k ih =>
      intro hi h
      by_cases q : hi ≤ lo
      · exact h0 hi q
      · have := hs (hi - 1) (by omega) (ih (hi - 1) (by omega))
        rw [show hi - 1 + 1 = hi by omega] at this
        exact this
  exact fun hi => key (hi - lo).toNat hi (by omega)
theorem sm_zero {f : Int → Int} {lo hi : Int} (h : ∀ u, lo ≤ u → u < hi → f u = 0) : sm f lo hi = 0 := by
  revert h
  refine hi_ind (fun hi => (∀ u, lo ≤ u → u < hi → f u = 0) → sm f lo hi = 0) (lo := lo) (fun hi h _ => sm_nil h) (fun hi h ih q => ?_) hi
  rw [sm_succ h, ih (fun u a b => q u a (by omega)), q hi h (by omega)]
  rfl
theorem sm_add {f g : Int → Int} {lo hi : Int} : sm (fun u => f u + g u) lo hi = sm f lo hi + sm g lo hi := by
  refine hi_ind (fun hi => sm (fun u => f u + g u) lo hi = sm f lo hi + sm g lo hi) (lo := lo) (fun hi h => by rw [sm_nil h, sm_nil h, sm_nil h]; rfl) (fun hi h ih => ?_) hi
  rw [sm_succ h, sm_succ h, sm_succ h, ih]
  omega
theorem sm_swap {F : Int → Int → Int} {lo hi lo' hi' : Int} : sm (fun c => sm (fun u => F c u) lo' hi') lo hi = sm (fun u => sm (fun c => F c u) lo hi) lo' hi' := by
  refine hi_ind (fun hi => sm (fun c => sm (fun u => F c u) lo' hi') lo hi = sm (fun u => sm (fun c => F c u) lo hi) lo' hi') (lo := lo) (fun hi h => ?_) (fun hi h ih => ?_) hi
  · rw [sm_nil h, sm_zero (fun u _ _ => sm_nil h)]
  · rw [sm_succ h, ih, ← sm_add]
    exact sm_cong (fun u _ _ => (sm_succ h).symm)
theorem sm_one {f : Int → Int} {lo hi c : Int} (h1 : lo ≤ c) (h2 : c < hi) (h : ∀ u, lo ≤ u → u < hi → u ≠ c → f u = 0) : sm f lo hi = f c := by
  revert h2 h
  refine hi_ind (fun hi => c < hi → (∀ u, lo ≤ u → u < hi → u ≠ c → f u = 0) → sm f lo hi = f c) (lo := lo) (fun hi h a => by omega) (fun hi h ih a q => ?_) hi
  rw [sm_succ h]
  by_cases e : c = hi
  · rw [sm_zero (fun u b1 b2 => q u b1 (by omega) (by omega)), e]
    omega
  · rw [ih (by omega) (fun u b1 b2 b3 => q u b1 (by omega) b3), q hi h (by omega) (fun z => e z.symm)]
    omega
theorem sm_mulr {f : Int → Int} {k lo hi : Int} : sm (fun u => f u * k) lo hi = sm f lo hi * k := by
  refine hi_ind (fun hi => sm (fun u => f u * k) lo hi = sm f lo hi * k) (lo := lo) (fun hi h => by rw [sm_nil h, sm_nil h, Int.zero_mul]) (fun hi h ih => ?_) hi
  rw [sm_succ h, sm_succ h, ih, Int.add_mul]
/-- the whole below v: v itself, and the wholes below its children -/
theorem sm_tree {n : aN} (hW : WF n) {g : Int → Int} {v : Int} (hv : 0 ≤ v) (hvn : v < n 0) : sm (fun u => b2i (bel n u v) * g u) 0 (n 0) = g v + sm (fun c => if nf n c 0 = v then sm (fun u => b2i (bel n u c) * g u) 0 (n 0) else 0) (v + 1) (n 0) := by
  have hN := hW.1
  have e1 : sm (fun c => if nf n c 0 = v then sm (fun u => b2i (bel n u c) * g u) 0 (n 0) else 0) (v + 1) (n 0) = sm (fun c => sm (fun u => (if nf n c 0 = v then b2i (bel n u c) else 0) * g u) 0 (n 0)) (v + 1) (n 0) := by
    refine sm_cong (fun c _ _ => ?_)
    split
    · rfl
    · exact (sm_zero (fun u _ _ => Int.zero_mul _)).symm
  have e2 : sm (fun c => sm (fun u => (if nf n c 0 = v then b2i (bel n u c) else 0) * g u) 0 (n 0)) (v + 1) (n 0) = sm (fun u => (b2i (bel n u v) - (if u = v then 1 else 0)) * g u) 0 (n 0) := by
    rw [sm_swap]
    refine sm_cong (fun u h0 h1 => ?_)
    rw [sm_mulr]
    congr 1
    by_cases q : u = v
    · subst q
      rw [bel_self, if_pos rfl, sm_zero]
      · rfl
      · intro c a b
        rw [bel_not_up hW (by omega)]
        split <;> rfl
    · rw [if_neg q]
      cases hb : bel n u v with
      | false =>
        rw [sm_zero]
        · rfl
        · intro c a b
          split
          · rename_i e
            cases hq : bel n u c with
            | false => rfl
            | true =>
              rw [bel_trans hW hv (by omega) hq (bel_child hW hv (by omega) (by omega) e)] at hb
              cases hb
          · rfl
      | true =>
        obtain ⟨c, c1, c2, c3, c4⟩ := child_ex hW hv (by omega) hb q
        rw [sm_one (c := c) (by omega) (by omega)]
        · rw [if_pos c3, c4]
          rfl
        · intro c' a b hne
          split
          · rename_i e
            cases hq : bel n u c' with
            | false => rfl
            | true => exact absurd (child_un hW hv (by omega) hq c4 (by omega) c1 e c3) hne
          · rfl
  have e3 : sm (fun u => b2i (bel n u v) * g u) 0 (n 0) = sm (fun u => (b2i (bel n u v) - (if u = v then 1 else 0)) * g u + (if u = v then g u else 0)) 0 (n 0) := by
    refine sm_cong (fun u _ _ => ?_)
    rw [Int.sub_mul]
    by_cases q : u = v
    · rw [if_pos q, if_pos q]; omega
    · rw [if_neg q, if_neg q]; omega
  rw [e1, e2, e3, sm_add, sm_one (f := fun u => if u = v then g u else 0) (c := v) hv hvn (fun u _ _ h => if_neg h), if_pos rfl]
  omega
/-- how many are at or below v -/
def szI (n : aN) (v : Int) : Int := sm (fun u => b2i (bel n u v) * 1) 0 (n 0)
def szN (n : aN) (v : Int) : Nat := (szI n v).toNat
theorem szI_bd {n : aN} (hW : WF n) {v : Int} (hv : 0 ≤ v) (hvn : v < n 0) : 0 ≤ szI n v ∧ szI n v ≤ n 0 - v := by
  have key := rf_inv (f := fun u s => s + b2i (bel n u v) * 1) (a := (0 : Int)) (lo := 0) (fun u s => 0 ≤ s ∧ (u ≤ v → s ≤ 0) ∧ (v ≤ u → s ≤ u - v)) (by omega) (n 0).toNat (n 0) (by omega) (by
    intro u s h0 h1 h2
    cases hb : bel n u v with
    | false =>
      show 0 ≤ s + 0 * 1 ∧ (u + 1 ≤ v → s + 0 * 1 ≤ 0) ∧ (v ≤ u + 1 → s + 0 * 1 ≤ u + 1 - v)
      omega
    | true =>
      have := bel_le hb
      show 0 ≤ s + 1 * 1 ∧ (u + 1 ≤ v → s + 1 * 1 ≤ 0) ∧ (v ≤ u + 1 → s + 1 * 1 ≤ u + 1 - v)
      omega)
  exact ⟨key.1, key.2.2 (by omega)⟩
theorem cs_sm {n : aN} (hW : WF n) {v : Int} (hv : 0 ≤ v) : ∀ hi, hi ≤ n 0 → ((cs n (szN n) v hi : Nat) : Int) = sm (fun c => if nf n c 0 = v then szI n c else 0) (v + 1) hi := by
  refine hi_ind (fun hi => hi ≤ n 0 → ((cs n (szN n) v hi : Nat) : Int) = sm (fun c => if nf n c 0 = v then szI n c else 0) (v + 1) hi) (lo := v + 1) (fun hi h _ => ?_) (fun hi h ih hn => ?_)
  · rw [sm_nil h]
    unfold cs
    rw [rf_nil h]
    rfl
  · rw [sm_succ h, cs_succ h, ← ih (by omega)]
    have := szI_bd hW (v := hi) (by omega) (by omega)
    split
    · unfold szN
      omega
    · omega
theorem sz_ok {n : aN} (hW : WF n) {v : Int} (hv : 0 ≤ v) (hvn : v < n 0) : cs n (szN n) v (n 0) + 1 = szN n v ∧ (szN n v : Int) ≤ n 0 - v := by
  have h1 := szI_bd hW hv hvn
  have h2 := cs_sm hW hv (n 0) (Int.le_refl _)
  have h3 := sm_tree hW (g := fun _ => 1) hv hvn
  have h4 : szI n v = 1 + sm (fun c => if nf n c 0 = v then szI n c else 0) (v + 1) (n 0) := h3
  unfold szN at h2 ⊢
  omega
