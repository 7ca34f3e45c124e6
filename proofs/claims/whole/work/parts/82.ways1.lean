/-! times and turns along the tree; the least slack, the wrong ends, the cost, said without a fold -/
theorem cT_any {n : aN} (hW : WF n) {pl wd : Int → Int} {top comes : Int} (ht : 0 ≤ top) : ∀ (f g : Nat) (v : Int), top ≤ v → v < n 0 → v < f → v < g → bel n v top = true → cT n pl wd top comes f v = cT n pl wd top comes g v := by
  have hN := hW.1
  intro f
  induction f with
  | zero => intro g v h0 h1 h2; omega
  | succ f ih =>
    intro g v h0 h1 h2 h3 hb
    obtain ⟨g', rfl⟩ : ∃ g', g = g' + 1 := ⟨g - 1, by omega⟩
    show mTm n pl wd _ _ _ top comes v = mTm n pl wd _ _ _ top comes v
    refine mTm_cong (fun hne => ?_)
    obtain ⟨a1, a2, a3, a4⟩ := bel_up hW ht (by omega) hb hne
    exact ih g' _ a2 (by omega) (by omega) (by omega) a4
theorem cU_any {n : aN} (hW : WF n) {pl : Int → Int} {top turn : Int} (ht : 0 ≤ top) : ∀ (f g : Nat) (v : Int), top ≤ v → v < n 0 → v < f → v < g → bel n v top = true → cU n pl top turn f v = cU n pl top turn g v := by
  have hN := hW.1
  intro f
  induction f with
  | zero => intro g v h0 h1 h2; omega
  | succ f ih =>
    intro g v h0 h1 h2 h3 hb
    obtain ⟨g', rfl⟩ : ∃ g', g = g' + 1 := ⟨g - 1, by omega⟩
    show mTu n pl _ top turn v = mTu n pl _ top turn v
    refine mTu_cong (fun hne => ?_)
    obtain ⟨a1, a2, a3, a4⟩ := bel_up hW ht (by omega) hb hne
    exact ih g' _ a2 (by omega) (by omega) (by omega) a4
theorem tim_top {n : aN} {pl wd : Int → Int} {top comes : Int} : tim n pl wd top comes top = comes + mAdd n pl (bea n pl wd) top := by
  show mTm n pl wd _ _ _ top comes top = _
  unfold mTm
  rw [if_pos rfl]
theorem tim_up {n : aN} (hW : WF n) {pl wd : Int → Int} {top comes u : Int} (ht : 0 ≤ top) (hu : u < n 0) (hb : bel n u top = true) (hne : u ≠ top) : tim n pl wd top comes u = tim n pl wd top comes (nf n u 0) + nf n u 1 * nf n u 2 + 2 / wd u * nf n u 1 * sho n pl wd u + mAdd n pl (bea n pl wd) u := by
  have hN := hW.1
  obtain ⟨a1, a2, a3, a4⟩ := bel_up hW ht (by omega) hb hne
  show mTm n pl wd _ _ _ top comes u = _
  unfold mTm
  rw [if_neg hne, cT_any hW ht 5 6 (nf n u 0) a2 (by omega) (by omega) (by omega) a4]
  rfl
theorem tur_top {n : aN} {pl : Int → Int} {top turn : Int} : tur n pl top turn top = (turn + (if 0 < pl top then kf n (pl top) 5 else 0)) % 2 := by
  show mTu n pl _ top turn top = _
  unfold mTu
  rw [if_pos rfl]
theorem tur_up {n : aN} (hW : WF n) {pl : Int → Int} {top turn u : Int} (ht : 0 ≤ top) (hu : u < n 0) (hb : bel n u top = true) (hne : u ≠ top) : tur n pl top turn u = (tur n pl top turn (nf n u 0) + (if 0 < pl u then kf n (pl u) 5 else 0)) % 2 := by
  have hN := hW.1
  obtain ⟨a1, a2, a3, a4⟩ := bel_up hW ht (by omega) hb hne
  show mTu n pl _ top turn u = _
  unfold mTu
  rw [if_neg hne, cU_any hW ht 5 6 (nf n u 0) a2 (by omega) (by omega) (by omega) a4]
  rfl
/-- what a node bears and shows hangs on what is placed below it alone -/
theorem cB_congS {n : aN} (hW : WF n) {pl pl' wd : Int → Int} : ∀ (f : Nat) (v : Int), 0 ≤ v → v < n 0 → (∀ u, v < u → u < n 0 → bel n u v = true → pl' u = pl u) → cB n pl' wd f v = cB n pl wd f v := by
  have hN := hW.1
  intro f
  induction f with
  | zero => intro v _ _ _; rfl
  | succ f ih =>
    intro v h0 h1 h
    show mBear n wd _ v = mBear n wd _ v
    unfold mBear
    refine rf_cong (fun u a b x => ?_)
    unfold wt1
    by_cases e : nf n u 0 = v
    · rw [if_pos e, if_pos e]
      have hbu := bel_child hW h0 (by omega) (by omega) e
      simp only [mShow]
      rw [h u (by omega) b hbu, ih u (by omega) b (fun w c1 c2 c3 => h w (by omega) c2 (bel_trans hW h0 (by omega) c3 hbu))]
    · rw [if_neg e, if_neg e]
theorem bea_congS {n : aN} (hW : WF n) {pl pl' wd : Int → Int} {v : Int} (h0 : 0 ≤ v) (h1 : v < n 0) (h : ∀ u, v < u → u < n 0 → bel n u v = true → pl' u = pl u) : bea n pl' wd v = bea n pl wd v := cB_congS hW 6 v h0 h1 h
theorem sho_congS {n : aN} (hW : WF n) {pl pl' wd : Int → Int} {v : Int} (h0 : 0 ≤ v) (h1 : v < n 0) (h : ∀ u, v ≤ u → u < n 0 → bel n u v = true → pl' u = pl u) : sho n pl' wd v = sho n pl wd v := by
  simp only [sho, mShow]
  rw [h v (Int.le_refl _) h1 bel_self, bea_congS hW h0 h1 (fun u a b c => h u (by omega) b c)]
/-- the same placed at and below u for each u below c: times differ as they do at c -/
theorem tim_shift {n : aN} (hW : WF n) {pl pl' wd : Int → Int} {c top top' comes comes' dl : Int} (hc : 0 ≤ c) (ht : 0 ≤ top) (ht' : 0 ≤ top') (hct : bel n c top = true) (hct' : bel n c top' = true) (hp : ∀ u, c < u → u < n 0 → bel n u c = true → pl' u = pl u) (h0 : tim n pl wd top comes c = tim n pl' wd top' comes' c + dl) {u : Int} (hu : u < n 0) (hb : bel n u c = true) : tim n pl wd top comes u = tim n pl' wd top' comes' u + dl := by
  have hN := hW.1
  have l1 := bel_le hct
  have l2 := bel_le hct'
  have key : u < 6 := by omega
  revert hu
  refine subI hW hc (fun u => u < n 0 → tim n pl wd top comes u = tim n pl' wd top' comes' u + dl) (fun _ => h0) (fun u g6 g1 g2 g3 g4 g5 ih hu => ?_) key hb
  have e1 := tim_up hW (pl := pl) (wd := wd) (comes := comes) ht hu (bel_trans hW ht g6 g2 hct) (by omega)
  have e2 := tim_up hW (pl := pl') (wd := wd) (comes := comes') ht' hu (bel_trans hW ht' g6 g2 hct') (by omega)
  have hsub : ∀ w, u ≤ w → w < n 0 → bel n w u = true → pl' w = pl w := fun w a b q => hp w (by omega) b (bel_trans hW hc (by omega) q g2)
  have e3 := sho_congS hW (wd := wd) (v := u) (by omega) hu hsub
  have e4 := bea_congS hW (wd := wd) (v := u) (by omega) hu (fun w a b q => hsub w (by omega) b q)
  have e5 : mAdd n pl' (bea n pl' wd) u = mAdd n pl (bea n pl wd) u := mAdd_cong (hsub u (Int.le_refl _) hu bel_self) e4
  rw [e1, e2, ih (by omega), e3, e5]
  omega
theorem tur_same {n : aN} (hW : WF n) {pl pl' : Int → Int} {c top top' turn turn' : Int} (hc : 0 ≤ c) (ht : 0 ≤ top) (ht' : 0 ≤ top') (hct : bel n c top = true) (hct' : bel n c top' = true) (hp : ∀ u, c < u → u < n 0 → bel n u c = true → pl' u = pl u) (h0 : tur n pl top turn c = tur n pl' top' turn' c) {u : Int} (hu : u < n 0) (hb : bel n u c = true) : tur n pl top turn u = tur n pl' top' turn' u := by
  have hN := hW.1
  have l1 := bel_le hct
  have l2 := bel_le hct'
  have key : u < 6 := by omega
  revert hu
  refine subI hW hc (fun u => u < n 0 → tur n pl top turn u = tur n pl' top' turn' u) (fun _ => h0) (fun u g6 g1 g2 g3 g4 g5 ih hu => ?_) key hb
  have e1 := tur_up hW (pl := pl) (turn := turn) ht hu (bel_trans hW ht g6 g2 hct) (by omega)
  have e2 := tur_up hW (pl := pl') (turn := turn') ht' hu (bel_trans hW ht' g6 g2 hct') (by omega)
  rw [e1, e2, ih (by omega), hp u g1 hu g2]
/-- the least slack -/
def SL (n : aN) (tm : Int → Int) (top m : Int) : Prop := m ≤ 900000 ∧ (∀ u, 1 ≤ u → u < n 0 → bel n u top = true → mEnd n u = true → m ≤ nf n u 5 - tm u) ∧ (m = 900000 ∨ ∃ u, 1 ≤ u ∧ u < n 0 ∧ bel n u top = true ∧ mEnd n u = true ∧ m = nf n u 5 - tm u)
theorem sl_un {n : aN} {tm : Int → Int} {top m m' : Int} (h : SL n tm top m) (h' : SL n tm top m') : m = m' := by
  obtain ⟨a1, a2, a3⟩ := h
  obtain ⟨b1, b2, b3⟩ := h'
  have h1 : m ≤ m' := by
    rcases b3 with b3 | ⟨u, c1, c2, c3, c4, c5⟩
    · omega
    · rw [c5]; exact a2 u c1 c2 c3 c4
  have h2 : m' ≤ m := by
    rcases a3 with a3 | ⟨u, c1, c2, c3, c4, c5⟩
    · omega
    · rw [c5]; exact b2 u c1 c2 c3 c4
  omega
theorem mSlack_SL {n : aN} (hN : 1 ≤ n 0) {tm : Int → Int} {top : Int} : SL n tm top (mSlack n tm top) := by
  have key := rf_inv (f := fun v least => if (bel n v top && mEnd n v && decide (nf n v 5 - tm v < least)) = true then nf n v 5 - tm v else least) (a := (900000 : Int)) (lo := 1) (fun hi m => m ≤ 900000 ∧ (∀ u, 1 ≤ u → u < hi → bel n u top = true → mEnd n u = true → m ≤ nf n u 5 - tm u) ∧ (m = 900000 ∨ ∃ u, 1 ≤ u ∧ u < hi ∧ bel n u top = true ∧ mEnd n u = true ∧ m = nf n u 5 - tm u)) ⟨Int.le_refl _, fun u a b => by omega, Or.inl rfl⟩ (n 0 - 1).toNat (n 0) (by omega) (by
    intro v m h1 h2 h3
    obtain ⟨a1, a2, a3⟩ := h3
    split
    · rename_i hc
      simp only [Bool.and_eq_true, decide_eq_true_eq] at hc
      refine ⟨by omega, fun u b1 b2 b3 b4 => ?_, Or.inr ⟨v, h1, by omega, hc.1.1, hc.1.2, rfl⟩⟩
      by_cases e : u = v
      · rw [e]; exact Int.le_refl _
      · have := a2 u b1 (by omega) b3 b4
        omega
    · rename_i hc
      simp only [Bool.and_eq_true, decide_eq_true_eq, not_and, Int.not_lt] at hc
      refine ⟨a1, fun u b1 b2 b3 b4 => ?_, ?_⟩
      · by_cases e : u = v
        · subst e; exact hc ⟨b3, b4⟩
        · exact a2 u b1 (by omega) b3 b4
      · rcases a3 with a3 | ⟨u, c1, c2, c3⟩
        · exact Or.inl a3
        · exact Or.inr ⟨u, c1, by omega, c3⟩)
  exact key
/-- where there is an end below, the least slack is that of one -/
theorem sl_at {n : aN} (hW : WF n) {tm : Int → Int} {top m : Int} (h1 : 1 ≤ top) (h2 : top < n 0) (htm : ∀ u, 1 ≤ u → u < n 0 → bel n u top = true → 0 ≤ tm u) (h : SL n tm top m) : ∃ u, 1 ≤ u ∧ u < n 0 ∧ bel n u top = true ∧ mEnd n u = true ∧ m = nf n u 5 - tm u := by
  have hN := hW.1
  obtain ⟨a1, a2, a3⟩ := h
  rcases a3 with a3 | a3
  · obtain ⟨e, e1, e2, e3, e4⟩ := end_below hW 6 top (by omega) h1 h2
    have := a2 e (by omega) e2 e4 e3
    have := htm e (by omega) e2 e4
    have := (hW.2.1 e (by omega) (by omega)).2.2.2.2.2.1
    omega
  · exact a3
theorem mWrong_0 {n : aN} (hW : WF n) {tu : Int → Int} {top : Int} : mWrong n tu top = 0 ↔ ∀ u, 1 ≤ u → u < n 0 → bel n u top = true → mEnd n u = true → nf n u 6 = tu u := by
  have hN := hW.1
  have hbit : ∀ i : Nat, tb (mWrong n tu top) i = true ↔ ∃ u, 1 ≤ u ∧ u < n 0 ∧ (bel n u top && mEnd n u && decide (nf n u 6 ≠ tu u) && decide ((i : Int) = u)) = true := by
    intro i
    unfold mWrong
    rw [tb_rf (g := fun u => bel n u top && mEnd n u && decide (nf n u 6 ≠ tu u) && decide ((i : Int) = u)) (n 0 - 1).toNat (n 0) (by omega) (fun u x h1 h2 => by
      rw [tb_or]
      split
      · rename_i h
        rw [tb_shl (by omega), h, Bool.true_and]
      · rename_i h
        rw [tb_zero, Bool.eq_false_iff.mpr h, Bool.false_and])]
    rw [tb_zero]
    constructor
    · rintro (q | q)
      · cases q
      · exact q
    · exact Or.inr
  constructor
  · intro h0 u h1 h2 h3 h4
    by_cases q : nf n u 6 = tu u
    · exact q
    · have := (hbit u.toNat).mpr ⟨u, h1, h2, by
        rw [h3, h4, decide_eq_true q, decide_eq_true (show ((u.toNat : Nat) : Int) = u by omega)]
        rfl⟩
      rw [h0, tb_zero] at this
      cases this
  · intro h
    refine tb_ext iR_mWrong iR0 (fun i _ => ?_)
    rw [tb_zero]
    cases hq : tb (mWrong n tu top) i with
    | false => rfl
    | true =>
      obtain ⟨u, h1, h2, h3⟩ := (hbit i).mp hq
      simp only [Bool.and_eq_true, decide_eq_true_eq] at h3
      exact absurd (h u h1 h2 h3.1.1.1 h3.1.1.2) h3.1.2
/-- the cost, as a sum over all -/
def gc (n : aN) (pl : Int → Int) (u : Int) : Int := if 0 < pl u then kf n (pl u) 4 else 0
theorem mCost_sm {n : aN} (hN : 1 ≤ n 0) {pl : Int → Int} (hp : pl 0 = 0) {top : Int} : mCost n pl top = sm (fun u => b2i (bel n u top) * gc n pl u) 0 (n 0) := by
  have e1 : sm (fun u => b2i (bel n u top) * gc n pl u) 0 (n 0) = b2i (bel n 0 top) * gc n pl 0 + sm (fun u => b2i (bel n u top) * gc n pl u) 1 (n 0) := rf_low (lo := 0) (n 0 - 1).toNat (n 0) (by omega)
  have e2 : gc n pl 0 = 0 := by unfold gc; rw [if_neg (by omega)]
  rw [e1, e2, Int.mul_zero, Int.zero_add]
  unfold mCost sm
  refine rf_cong (fun u h1 h2 x => ?_)
  show x + (if (bel n u top && decide (0 < pl u)) = true then kf n (pl u) 4 else 0) = x + b2i (bel n u top) * gc n pl u
  unfold gc
  cases bel n u top with
  | false =>
    show x + (if (false && decide (0 < pl u)) = true then kf n (pl u) 4 else 0) = x + 0 * _
    rw [Bool.false_and, if_neg Bool.false_ne_true, Int.zero_mul]
  | true =>
    show x + (if (true && decide (0 < pl u)) = true then kf n (pl u) 4 else 0) = x + 1 * _
    rw [Bool.true_and, Int.one_mul]
    by_cases q : 0 < pl u
    · rw [if_pos (decide_eq_true q), if_pos q]
    · rw [if_neg (by rw [decide_eq_false q]; exact Bool.false_ne_true), if_neg q]
