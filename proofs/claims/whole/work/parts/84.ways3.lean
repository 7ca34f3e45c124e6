/-! all ways at a node that is no end: one way for each child -/
def PP (n : aN) (pl : Int → Int) (v w : Int) : aT := rf (fun c a => if nf n c 0 = v then jn n c a (trp n pl c) else a) (0, 900000, 0) (v + 1) w
theorem pp_succ {n : aN} {pl : Int → Int} {v c : Int} (h : v + 1 ≤ c) : PP n pl v (c + 1) = if nf n c 0 = v then jn n c (PP n pl v c) (trp n pl c) else PP n pl v c := by
  unfold PP
  rw [rf_succ h]
theorem pp_nil {n : aN} {pl : Int → Int} {v w : Int} (h : w ≤ v + 1) : PP n pl v w = (0, 900000, 0) := by
  unfold PP
  rw [rf_nil h]
theorem pp_cong {n : aN} {pl pl' : Int → Int} {v w : Int} (h : ∀ c, v < c → c < w → nf n c 0 = v → trp n pl' c = trp n pl c) : PP n pl' v w = PP n pl v w := by
  unfold PP
  refine rf_cong (fun c a b x => ?_)
  by_cases e : nf n c 0 = v
  · rw [if_pos e, if_pos e, h c (by omega) b e]
  · rw [if_neg e, if_neg e]
theorem tim_child {n : aN} (hW : WF n) {pl : Int → Int} {v c : Int} (hv : 0 ≤ v) (hc : v < c) (hcn : c < n 0) (e : nf n c 0 = v) (hp : pl v = 0) {u : Int} (hu : u < n 0) (hb : bel n u c = true) : tim n pl (wd0 n) v 0 u = tim n pl (wd0 n) c 0 u + wT n c (sho n pl (wd0 n) c) := by
  have hN := hW.1
  refine tim_shift hW (by omega) hv (by omega) (bel_child hW hv (by omega) hc e) bel_self (fun _ _ _ _ => rfl) ?_ hu hb
  rw [tim_up hW hv hcn (bel_child hW hv (by omega) hc e) (by omega), e, tim_top, tim_top]
  have : mAdd n pl (bea n pl (wd0 n)) v = 0 := by
    unfold mAdd
    rw [if_neg (by omega)]
  rw [this]
  unfold wT
  show 0 + 0 + nf n c 1 * nf n c 2 + 2 / nf n c 3 * nf n c 1 * sho n pl (wd0 n) c + _ = _
  omega
theorem tur_child {n : aN} (hW : WF n) {pl : Int → Int} {v c t : Int} (hv : 0 ≤ v) (hc : v < c) (hcn : c < n 0) (e : nf n c 0 = v) (hp : pl v = 0) (t0 : 0 ≤ t) (t1 : t ≤ 1) {u : Int} (hu : u < n 0) (hb : bel n u c = true) : tur n pl v t u = tur n pl c t u := by
  have hN := hW.1
  refine tur_same hW (by omega) hv (by omega) (bel_child hW hv (by omega) hc e) bel_self (fun _ _ _ _ => rfl) ?_ hu hb
  rw [tur_up hW hv hcn (bel_child hW hv (by omega) hc e) (by omega), e, tur_top, tur_top, if_neg (show ¬ 0 < pl v by omega)]
  rw [show (t + 0) % 2 = t by omega]
theorem pp_1 {n : aN} {pl : Int → Int} {v : Int} : ∀ w, (PP n pl v w).1 = rf (fun u s => s + wt1 n (wd0 n) (sho n pl (wd0 n)) v u) 0 (v + 1) w := by
  refine hi_ind _ (lo := v + 1) (fun w h => ?_) (fun w h ih => ?_)
  · rw [pp_nil h, rf_nil h]
  · rw [pp_succ h, rf_succ h, ← ih]
    unfold wt1
    split
    · show (PP n pl v w).1 + (nf n w 2 * nf n w 3 + sho n pl (wd0 n) w) = (PP n pl v w).1 + (nf n w 2 * nf n w 3 + sho n pl (wd0 n) w)
      rfl
    · omega
theorem pp_3 {n : aN} {pl : Int → Int} {v : Int} : ∀ w, (PP n pl v w).2.2 = sm (fun c => if nf n c 0 = v then mCost n pl c else 0) (v + 1) w := by
  refine hi_ind _ (lo := v + 1) (fun w h => ?_) (fun w h ih => ?_)
  · rw [pp_nil h, sm_nil h]
  · rw [pp_succ h, sm_succ h, ← ih]
    split
    · rfl
    · omega
theorem pp_2 {n : aN} (hW : WF n) {pl : Int → Int} {v : Int} (hv : 0 ≤ v) (hpo : PlOk n pl) (hp : pl v = 0) : ∀ w, w ≤ n 0 → (PP n pl v w).2.1 ≤ 900000 ∧ (∀ c u, v < c → c < w → nf n c 0 = v → 1 ≤ u → u < n 0 → bel n u c = true → mEnd n u = true → (PP n pl v w).2.1 ≤ nf n u 5 - tim n pl (wd0 n) v 0 u) ∧ ((PP n pl v w).2.1 = 900000 ∨ ∃ c u, v < c ∧ c < w ∧ nf n c 0 = v ∧ 1 ≤ u ∧ u < n 0 ∧ bel n u c = true ∧ mEnd n u = true ∧ (PP n pl v w).2.1 = nf n u 5 - tim n pl (wd0 n) v 0 u) := by
  have hN := hW.1
  refine hi_ind _ (lo := v + 1) (fun w h _ => ?_) (fun w h ih hn => ?_)
  · rw [pp_nil h]
    exact ⟨Int.le_refl _, fun c u a b => by omega, Or.inl rfl⟩
  · obtain ⟨a1, a2, a3⟩ := ih (by omega)
    rw [pp_succ h]
    by_cases e : nf n w 0 = v
    · rw [if_pos e]
      have hsl := mSlack_SL (n := n) hN.1 (tm := tim n pl (wd0 n) w 0) (top := w)
      have hat := sl_at hW (by omega) (by omega) (fun u a b c => tim_nn hW hpo (by omega) b c) hsl
      have htc : ∀ u, u < n 0 → bel n u w = true → tim n pl (wd0 n) v 0 u = tim n pl (wd0 n) w 0 u + wT n w (sho n pl (wd0 n) w) := fun u b1 b2 => tim_child hW hv (by omega) (by omega) e hp b1 b2
      have em : (jn n w (PP n pl v w) (trp n pl w)).2.1 = mn (PP n pl v w).2.1 (mSlack n (tim n pl (wd0 n) w 0) w - wT n w (sho n pl (wd0 n) w)) := rfl
      rw [em]
      have m1 : mn (PP n pl v w).2.1 (mSlack n (tim n pl (wd0 n) w 0) w - wT n w (sho n pl (wd0 n) w)) ≤ (PP n pl v w).2.1 := by unfold mn; split <;> omega
      have m2 : mn (PP n pl v w).2.1 (mSlack n (tim n pl (wd0 n) w 0) w - wT n w (sho n pl (wd0 n) w)) ≤ mSlack n (tim n pl (wd0 n) w 0) w - wT n w (sho n pl (wd0 n) w) := by unfold mn; split <;> omega
      have m3 : mn (PP n pl v w).2.1 (mSlack n (tim n pl (wd0 n) w 0) w - wT n w (sho n pl (wd0 n) w)) = (PP n pl v w).2.1 ∨ mn (PP n pl v w).2.1 (mSlack n (tim n pl (wd0 n) w 0) w - wT n w (sho n pl (wd0 n) w)) = mSlack n (tim n pl (wd0 n) w 0) w - wT n w (sho n pl (wd0 n) w) := by
        unfold mn
        split
        · exact Or.inl rfl
        · exact Or.inr rfl
      generalize mn (PP n pl v w).2.1 (mSlack n (tim n pl (wd0 n) w 0) w - wT n w (sho n pl (wd0 n) w)) = m at m1 m2 m3
      refine ⟨by omega, fun c u b1 b2 b3 b4 b5 b6 b7 => ?_, ?_⟩
      · by_cases q : c = w
        · subst q
          have := hsl.2.1 u b4 b5 b6 b7
          rw [htc u b5 b6]
          omega
        · have := a2 c u b1 (by omega) b3 b4 b5 b6 b7
          omega
      · rcases m3 with m3 | m3
        · rw [m3]
          rcases a3 with a3 | ⟨c, u, b1, b2, b3⟩
          · exact Or.inl a3
          · exact Or.inr ⟨c, u, b1, by omega, b3⟩
        · obtain ⟨u, b1, b2, b3, b4, b5⟩ := hat
          refine Or.inr ⟨w, u, by omega, by omega, e, b1, b2, b3, b4, ?_⟩
          rw [m3, htc u b2 b3]
          omega
    · rw [if_neg e]
      refine ⟨a1, fun c u b1 b2 b3 => ?_, ?_⟩
      · have q : c ≠ w := fun z => e (z ▸ b3)
        exact a2 c u b1 (by omega) b3
      · rcases a3 with a3 | ⟨c, u, b1, b2, b3⟩
        · exact Or.inl a3
        · exact Or.inr ⟨c, u, b1, by omega, b3⟩
theorem trp_pp {n : aN} (hW : WF n) {pl : Int → Int} {v : Int} (hv : 0 ≤ v) (hvn : v < n 0) (hpo : PlOk n pl) (hp : pl v = 0) (he : mEnd n v = false) : trp n pl v = PP n pl v (n 0) := by
  have hN := hW.1
  have e1 : sho n pl (wd0 n) v = (PP n pl v (n 0)).1 := by
    rw [pp_1]
    simp only [sho, mShow]
    rw [if_neg (by omega), bea_eq hN.2.1 hv hvn]
    unfold mBear
    rw [if_neg (by rw [he]; exact Bool.false_ne_true)]
  have e3 : mCost n pl v = (PP n pl v (n 0)).2.2 := by
    rw [pp_3, mCost_sm hN.1 hpo.2, sm_tree hW hv hvn]
    have : gc n pl v = 0 := by unfold gc; rw [if_neg (by omega)]
    rw [this, Int.zero_add]
    refine sm_cong (fun c _ _ => ?_)
    rw [mCost_sm hN.1 hpo.2]
  have e2 : mSlack n (tim n pl (wd0 n) v 0) v = (PP n pl v (n 0)).2.1 := by
    obtain ⟨a1, a2, a3⟩ := pp_2 hW hv hpo hp (n 0) (Int.le_refl _)
    refine sl_un (mSlack_SL hN.1) ⟨a1, fun u b1 b2 b3 b4 => ?_, ?_⟩
    · have hne : u ≠ v := fun z => by rw [z, he] at b4; cases b4
      obtain ⟨c, c1, c2, c3, c4⟩ := child_ex hW hv (by omega) b3 hne
      exact a2 c u c1 (by omega) c3 b1 b2 c4 b4
    · rcases a3 with a3 | ⟨c, u, b1, b2, b3, b4, b5, b6, b7, b8⟩
      · exact Or.inl a3
      · exact Or.inr ⟨u, b4, b5, bel_trans hW hv (by omega) b6 (bel_child hW hv (by omega) b1 b3), b7, b8⟩
  unfold trp
  rw [e1, e2, e3]
theorem wrong_pp {n : aN} (hW : WF n) {pl : Int → Int} {v t : Int} (hv : 0 ≤ v) (hp : pl v = 0) (t0 : 0 ≤ t) (t1 : t ≤ 1) (he : mEnd n v = false) : mWrong n (tur n pl v t) v = 0 ↔ ∀ c, v < c → c < n 0 → nf n c 0 = v → mWrong n (tur n pl c t) c = 0 := by
  have hN := hW.1
  rw [mWrong_0 hW]
  constructor
  · intro h c c1 c2 c3
    rw [mWrong_0 hW]
    intro u b1 b2 b3 b4
    rw [← tur_child hW hv c1 c2 c3 hp t0 t1 b2 b3]
    exact h u b1 b2 (bel_trans hW hv (by omega) b3 (bel_child hW hv (by omega) c1 c3)) b4
  · intro h u b1 b2 b3 b4
    have hne : u ≠ v := fun z => by rw [z, he] at b4; cases b4
    obtain ⟨c, c1, c2, c3, c4⟩ := child_ex hW hv (by omega) b3 hne
    rw [tur_child hW hv c1 (by omega) c3 hp t0 t1 b2 c4]
    exact (mWrong_0 hW).mp (h c c1 (by omega) c3) u b1 b2 c4 b4
/-- ways for the children ahead of w, put together -/
theorem px_pp {n : aN} (hW : WF n) {v t : Int} (hv : 0 ≤ v) : ∀ w, w ≤ n 0 → ∀ x, PX n (fun u => WaysX n u t) v w x ↔ ∃ pl : Int → Int, pl 0 = 0 ∧ (∀ c, v < c → c < w → nf n c 0 = v → AsgS n c pl ∧ mWrong n (tur n pl c t) c = 0) ∧ x = PP n pl v w := by
  have hN := hW.1
  refine hi_ind _ (lo := v + 1) (fun w h _ x => ?_) (fun w h ih hn x => ?_)
  · unfold PX
    rw [rf_nil h]
    constructor
    · intro e
      exact ⟨fun _ => 0, rfl, fun c a b => by omega, by rw [pp_nil h]; exact e⟩
    · rintro ⟨pl, -, -, e⟩
      rw [pp_nil h] at e
      exact e
  · rw [px_succ h]
    by_cases e : nf n w 0 = v
    · rw [if_pos e]
      constructor
      · rintro ⟨a, b, ha, hb, rfl⟩
        obtain ⟨pa, a0, a1, rfl⟩ := (ih (by omega) a).mp ha
        obtain ⟨pb, b0, b1, b2, rfl⟩ := (ways_S hW (by omega) (by omega)).mp hb
        have hin : ∀ u, w ≤ u → u < n 0 → bel n u w = true → (fun u => if bel n u w = true then pb u else pa u) u = pb u := fun u _ _ q => if_pos q
        have hout : ∀ c, v < c → c < w → nf n c 0 = v → ∀ u, c ≤ u → u < n 0 → bel n u c = true → (fun u => if bel n u w = true then pb u else pa u) u = pa u := by
          intro c c1 c2 c3 u u1 u2 u3
          refine if_neg (fun q => ?_)
          have := child_un hW hv (by omega) u3 q c1 (by omega) c3 e
          omega
        refine ⟨fun u => if bel n u w = true then pb u else pa u, ?_, fun c c1 c2 c3 => ?_, ?_⟩
        · show (if bel n 0 w = true then pb 0 else pa 0) = 0
          rw [bel_not_up hW (by omega), if_neg Bool.false_ne_true, a0]
        · by_cases q : c = w
          · subst q
            refine ⟨fun u u1 u2 u3 => ?_, by rw [wrong_congS hW (by omega) (by omega) hin]; exact b2⟩
            rw [hin u (bel_le u3) u2 u3]
            exact b1 u u1 u2 u3
          · obtain ⟨d1, d2⟩ := a1 c c1 (by omega) c3
            refine ⟨fun u u1 u2 u3 => ?_, by rw [wrong_congS hW (by omega) (by omega) (hout c c1 (by omega) c3)]; exact d2⟩
            rw [hout c c1 (by omega) c3 u (bel_le u3) u2 u3]
            exact d1 u u1 u2 u3
        · rw [pp_succ h, if_pos e, trp_congS hW (by omega) (by omega) hin, pp_cong (fun c c1 c2 c3 => trp_congS hW (by omega) (by omega) (hout c c1 c2 c3))]
      · rintro ⟨pl, p0, p1, rfl⟩
        rw [pp_succ h, if_pos e]
        obtain ⟨d1, d2⟩ := p1 w (by omega) (by omega) e
        exact ⟨PP n pl v w, trp n pl w, (ih (by omega) _).mpr ⟨pl, p0, fun c c1 c2 c3 => p1 c c1 (by omega) c3, rfl⟩, (ways_S hW (by omega) (by omega)).mpr ⟨pl, p0, d1, d2, rfl⟩, rfl⟩
    · rw [if_neg e, ih (by omega) x]
      constructor
      · rintro ⟨pl, p0, p1, p2⟩
        refine ⟨pl, p0, fun c c1 c2 c3 => ?_, by rw [pp_succ h, if_neg e]; exact p2⟩
        have q : c ≠ w := fun z => e (z ▸ c3)
        exact p1 c c1 (by omega) c3
      · rintro ⟨pl, p0, p1, p2⟩
        rw [pp_succ h, if_neg e] at p2
        exact ⟨pl, p0, fun c c1 c2 c3 => p1 c c1 (by omega) c3, p2⟩
theorem se_4 {n : aN} (hW : WF n) {v t : Int} {x : aT} (hv : 0 ≤ v) (hvn : v < n 0) (t0 : 0 ≤ t) (t1 : t ≤ 1) (he : mEnd n v = false) : BX n v t x ↔ PX n (fun u => WaysX n u t) v (n 0) x := by
  have hN := hW.1
  rw [px_pp hW hv (n 0) (Int.le_refl _)]
  constructor
  · rintro ⟨pl, a1, a0, a2, rfl⟩
    refine ⟨pl, (a1.pl hW).2, fun c c1 c2 c3 => ⟨fun u u1 u2 u3 => ?_, (wrong_pp hW hv a0 t0 t1 he).mp a2 c c1 c2 c3⟩, trp_pp hW hv hvn (a1.pl hW) a0 he⟩
    exact (a1 u (by omega) u2).1 ⟨u1, bel_trans hW hv (by omega) u3 (bel_child hW hv (by omega) c1 c3)⟩
  · rintro ⟨pl, p0, p1, rfl⟩
    have hin : ∀ c, v < c → c < n 0 → nf n c 0 = v → ∀ u, c ≤ u → u < n 0 → bel n u c = true → (fun u => if 1 ≤ u ∧ bel n u v = true ∧ u ≠ v then pl u else 0) u = pl u := by
      intro c c1 c2 c3 u u1 u2 u3
      exact if_pos ⟨by omega, bel_trans hW hv (by omega) u3 (bel_child hW hv (by omega) c1 c3), by omega⟩
    have ha : Asg n v (fun u => if 1 ≤ u ∧ bel n u v = true ∧ u ≠ v then pl u else 0) := by
      intro u u1 u2
      show (_ → (if 1 ≤ u ∧ bel n u v = true ∧ u ≠ v then pl u else 0) = 0 ∨ isK n (if 1 ≤ u ∧ bel n u v = true ∧ u ≠ v then pl u else 0)) ∧ (_ → (if 1 ≤ u ∧ bel n u v = true ∧ u ≠ v then pl u else 0) = 0)
      by_cases q : 1 ≤ u ∧ bel n u v = true ∧ u ≠ v
      · rw [if_pos q]
        refine ⟨fun _ => ?_, fun z => absurd ⟨q.1, q.2.1⟩ z⟩
        obtain ⟨c, c1, c2, c3, c4⟩ := child_ex hW hv (by omega) q.2.1 q.2.2
        exact (p1 c c1 (by omega) c3).1 u q.1 u2 c4
      · rw [if_neg q]
        exact ⟨fun _ => Or.inl rfl, fun _ => rfl⟩
    have a0 : (fun u => if 1 ≤ u ∧ bel n u v = true ∧ u ≠ v then pl u else 0) v = 0 := if_neg (fun z => z.2.2 rfl)
    refine ⟨_, ha, a0, ?_, ?_⟩
    · rw [wrong_pp hW hv a0 t0 t1 he]
      intro c c1 c2 c3
      rw [wrong_congS hW (by omega) c2 (hin c c1 c2 c3)]
      exact (p1 c c1 c2 c3).2
    · rw [trp_pp hW hv hvn (ha.pl hW) a0 he]
      exact (pp_cong (fun c c1 c2 c3 => trp_congS hW (by omega) c2 (hin c c1 c2 c3))).symm
/-- the sets hang together as the class takes them to -/
theorem se_all {n : aN} (hW : WF n) : SE n (WaysX n) (BX n) (szN n) := by
  refine ⟨fun v t x h1 h2 _ _ => se_1 hW h1 h2, fun t x _ _ => se_2 hW, fun v t x h0 h1 t0 t1 he => se_3 hW h0 h1 t0 t1 he, fun v t x h0 h1 t0 t1 he => se_4 hW h0 h1 t0 t1 he, fun v t x h0 h1 _ _ hx => ?_, fun v h0 h1 => sz_ok hW h0 h1⟩
  obtain ⟨pl, a1, -, rfl⟩ := hx
  exact trp_bd hW (a1.pl hW) ⟨h0, h1⟩
/-- the points are made of the ways at the source -/
theorem pox_pts {n : aN} (hW : WF n) {x : aT} : PoX n (WaysX n) x ↔ PtsX n x := by
  have hN := hW.1
  have one : ∀ pl, Asg n 0 pl → ptr n pl = ptt n (trp n pl 0) := by
    intro pl a1
    have hp := a1.pl hW
    have es : sho n pl (wd0 n) 0 = bea n pl (wd0 n) 0 := by
      simp only [sho, mShow]
      rw [if_neg (by have := hp.2; omega)]
    have hsb := src_bd hW hp (wd0_ok hW)
    have et : ∀ u, u < n 0 → bel n u 0 = true → tim n pl (wd0 n) 0 (src n pl (wd0 n)) u = tim n pl (wd0 n) 0 0 u + src n pl (wd0 n) := by
      intro u a b
      refine tim_shift hW (Int.le_refl 0) (Int.le_refl 0) (Int.le_refl 0) bel_self bel_self (fun _ _ _ _ => rfl) ?_ a b
      rw [tim_top, tim_top]
      omega
    have hsl := mSlack_SL (n := n) hN.1 (tm := tim n pl (wd0 n) 0 0) (top := 0)
    have esl : sla n pl (wd0 n) = mSlack n (tim n pl (wd0 n) 0 0) 0 - src n pl (wd0 n) := by
      by_cases h1 : n 0 = 1
      · have e0 : bea n pl (wd0 n) 0 = 0 := by
          rw [bea_eq hN.2.1 (Int.le_refl 0) (by omega)]
          unfold mBear
          rw [rf_nil (by omega), if_neg]
          intro q
          have := ((mEnd_iff hN.1).mp q).1
          omega
        have e1 : src n pl (wd0 n) = 0 := by
          unfold src
          rw [e0, Int.mul_zero]
        unfold sla
        rw [e1]
        omega
      · refine sl_un (mSlack_SL hN.1) ⟨by have := hsl.1; omega, fun u a b c e => ?_, Or.inr ?_⟩
        · have := hsl.2.1 u a b c e
          rw [et u b c]
          omega
        · have hat : ∃ u, 1 ≤ u ∧ u < n 0 ∧ bel n u 0 = true ∧ mEnd n u = true ∧ mSlack n (tim n pl (wd0 n) 0 0) 0 = nf n u 5 - tim n pl (wd0 n) 0 0 u := by
            rcases hsl.2.2 with q | q
            · obtain ⟨e, e1, e2, e3, e4⟩ := end_below hW 6 1 (by omega) (by omega) (by omega)
              have hb0 := bel0 hW (v := e) (by omega) (by omega)
              have := hsl.2.1 e (by omega) e2 hb0 e3
              have := tim_nn hW hp (Int.le_refl 0) e2 hb0
              have := (hW.2.1 e (by omega) (by omega)).2.2.2.2.2.1
              omega
            · exact q
          obtain ⟨u, a, b, c, e, g⟩ := hat
          refine ⟨u, a, b, c, e, ?_⟩
          rw [et u b c]
          omega
    unfold ptr ptt trp
    rw [esl, es]
    rfl
  constructor
  · rintro ⟨y, ⟨pl, a1, a2, rfl⟩, rfl⟩
    exact ⟨pl, a1, a2, (one pl a1).symm⟩
  · rintro ⟨pl, a1, a2, rfl⟩
    exact ⟨trp n pl 0, ⟨pl, a1, a2, rfl⟩, one pl a1⟩
