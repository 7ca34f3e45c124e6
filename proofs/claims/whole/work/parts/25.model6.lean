/-! times and turns as functions; runsAll, slack, wrong, cost, slackNow -/
def cT (n : aN) (pl wd : Int → Int) (top comes : Int) : Nat → Int → Int
  | 0, _ => 0
  | f + 1, v => mTm n pl wd (bea n pl wd) (sho n pl wd) (cT n pl wd top comes f) top comes v
def cU (n : aN) (pl : Int → Int) (top turn : Int) : Nat → Int → Int
  | 0, _ => 0
  | f + 1, v => mTu n pl (cU n pl top turn f) top turn v
def tim (n : aN) (pl wd : Int → Int) (top comes v : Int) : Int := cT n pl wd top comes 6 v
def tur (n : aN) (pl : Int → Int) (top turn v : Int) : Int := cU n pl top turn 6 v
theorem tm_cT {n : aN} (hW : WF n) {pl wd be sh tm tu : Int → Int} {top comes turn : Int} (ht : 0 ≤ top) (hw : WtOk n pl wd be sh) (h : TmOk n pl wd be sh tm tu top comes turn) : ∀ (f : Nat) (v : Int), top ≤ v → v < n 0 → v < f → bel n v top = true → tm v = cT n pl wd top comes f v ∧ tu v = cU n pl top turn f v := by
  intro f
  have hN := hW.1
  induction f with
  | zero => intro v h0 h1 h2; exact absurd h2 (by omega)
  | succ f ih =>
    intro v h0 h1 h2 hb
    obtain ⟨g1, g2⟩ := h v h0 h1 hb
    obtain ⟨w1, w2⟩ := wt_bea hN.2.1 hw (show 0 ≤ v by omega) h1
    by_cases e : v = top
    · refine ⟨?_, ?_⟩
      · rw [g1]
        show _ = mTm n pl wd _ _ _ top comes v
        simp only [mTm, if_pos e, mAdd]
        rw [w1]
      · rw [g2]
        show _ = mTu n pl _ top turn v
        simp only [mTu, if_pos e]
    · have hu := bel_up hW ht (by omega) hb e
      obtain ⟨i1, i2⟩ := ih (nf n v 0) hu.2.1 (by omega) (by omega) hu.2.2.2
      refine ⟨?_, ?_⟩
      · rw [g1]
        show _ = mTm n pl wd _ _ _ top comes v
        simp only [mTm, if_neg e, mAdd]
        rw [w1, w2, i1]
      · rw [g2]
        show _ = mTu n pl _ top turn v
        simp only [mTu, if_neg e]
        rw [i2]
theorem tm_tim {n : aN} (hW : WF n) {pl wd be sh tm tu : Int → Int} {top comes turn : Int} (ht : 0 ≤ top) (hw : WtOk n pl wd be sh) (h : TmOk n pl wd be sh tm tu top comes turn) {v : Int} (h0 : top ≤ v) (h1 : v < n 0) (hb : bel n v top = true) : tm v = tim n pl wd top comes v ∧ tu v = tur n pl top turn v := by
  have hN := hW.1
  exact tm_cT hW ht hw h 6 v h0 h1 (by omega) hb
theorem cU_01 {n : aN} {pl : Int → Int} {top turn : Int} : ∀ (f : Nat) (v : Int), 0 ≤ cU n pl top turn f v ∧ cU n pl top turn f v ≤ 1
  | 0, _ => by show (0 : Int) ≤ 0 ∧ (0 : Int) ≤ 1; omega
  | f + 1, v => by
    show 0 ≤ mTu n pl _ top turn v ∧ mTu n pl _ top turn v ≤ 1
    unfold mTu
    omega
theorem cT_bd {n : aN} (hW : WF n) {pl wd : Int → Int} {top comes : Int} (ht : 0 ≤ top) (hc : 0 ≤ comes ∧ comes ≤ 270000) (hpl : ∀ v, 0 ≤ v → v < n 0 → 0 ≤ pl v ∧ pl v ≤ 3) (hp0 : pl 0 = 0) (hwd : ∀ v, 1 ≤ v → v < n 0 → 1 ≤ wd v ∧ wd v ≤ 2) : ∀ (f : Nat) (v : Int), top ≤ v → v < n 0 → v < f → bel n v top = true → 0 ≤ cT n pl wd top comes f v ∧ cT n pl wd top comes f v ≤ comes + 108180 * (v - top + 1) := by
  intro f
  have hN := hW.1
  induction f with
  | zero => intro v h0 h1 h2; exact absurd h2 (by omega)
  | succ f ih =>
    intro v h0 h1 h2 hb
    have hbe := bea_bd hW hpl hwd (show 0 ≤ v by omega) h1
    have hadd : 0 ≤ mAdd n pl (bea n pl wd) v ∧ mAdd n pl (bea n pl wd) v ≤ 54099 := by
      simp only [mAdd]
      split
      · rename_i hp
        have hv1 : 1 ≤ v := by
          by_cases e : v = 0
          · subst e; omega
          · omega
        have hk := hW.2.2.2.2.2 (pl v) (by omega) (hpl v (by omega) h1).2
        have hm : 0 ≤ 2 * kf n (pl v) 2 * bea n pl wd v ∧ 2 * kf n (pl v) 2 * bea n pl wd v ≤ 18 * 3000 := by
          have := hbe.2.2 hv1
          constructor
          · exact Int.mul_nonneg (by omega) hbe.1
          · exact Int.le_trans (Int.mul_le_mul_of_nonneg_right (show 2 * kf n (pl v) 2 ≤ 18 by omega) hbe.1) (by omega)
        omega
      · omega
    show 0 ≤ mTm n pl wd _ _ _ top comes v ∧ mTm n pl wd _ _ _ top comes v ≤ _
    by_cases e : v = top
    · simp only [mTm, if_pos e]
      omega
    · have hu := bel_up hW ht (by omega) hb e
      have i1 := ih (nf n v 0) hu.2.1 (by omega) (by omega) hu.2.2.2
      have hv := hW.2.1 v (by omega) (by omega)
      have hw := hwd v (by omega) h1
      have hsh : 0 ≤ sho n pl wd v ∧ sho n pl wd v ≤ 3000 := by
        simp only [sho, mShow]
        split
        · rename_i hp
          have hk := (hW.2.2.2.2.2 (pl v) (by omega) (hpl v (by omega) h1).2).2.1
          omega
        · exact ⟨hbe.1, hbe.2.2 (by omega)⟩
      have hrc : 0 ≤ nf n v 1 * nf n v 2 ∧ nf n v 1 * nf n v 2 ≤ 81 := by
        constructor
        · exact Int.mul_nonneg (by omega) (by omega)
        · exact Int.le_trans (Int.mul_le_mul_of_nonneg_right (show nf n v 1 ≤ 9 by omega) (by omega)) (by omega)
      have h2w : 0 ≤ 2 / wd v ∧ 2 / wd v ≤ 2 := by
        rcases (show wd v = 1 ∨ wd v = 2 by omega) with e | e <;> rw [e] <;> decide
      have hr : 0 ≤ 2 / wd v * nf n v 1 ∧ 2 / wd v * nf n v 1 ≤ 18 := by
        constructor
        · exact Int.mul_nonneg (by omega) (by omega)
        · exact Int.le_trans (Int.mul_le_mul_of_nonneg_right h2w.2 (by omega)) (by omega)
      have hrs : 0 ≤ 2 / wd v * nf n v 1 * sho n pl wd v ∧ 2 / wd v * nf n v 1 * sho n pl wd v ≤ 54000 := by
        constructor
        · exact Int.mul_nonneg hr.1 hsh.1
        · exact Int.le_trans (Int.mul_le_mul_of_nonneg_right hr.2 hsh.1) (by omega)
      simp only [mTm, if_neg e]
      omega
theorem tim_bd {n : aN} (hW : WF n) {pl wd : Int → Int} {top comes v : Int} (ht : 0 ≤ top) (hc : 0 ≤ comes ∧ comes ≤ 270000) (hpl : ∀ v, 0 ≤ v → v < n 0 → 0 ≤ pl v ∧ pl v ≤ 3) (hp0 : pl 0 = 0) (hwd : ∀ v, 1 ≤ v → v < n 0 → 1 ≤ wd v ∧ wd v ≤ 2) (h0 : top ≤ v) (h1 : v < n 0) (hb : bel n v top = true) : 0 ≤ tim n pl wd top comes v ∧ tim n pl wd top comes v ≤ 920000 := by
  have hN := hW.1
  have h := cT_bd hW ht hc hpl hp0 hwd 6 v h0 h1 (by omega) hb
  refine ⟨h.1, ?_⟩
  show cT n pl wd top comes 6 v ≤ _
  omega
/-- what runs leaves, told by the functions -/
def Ran (n : aN) (pl wd be sh tm tu : Int → Int) (top comes turn : Int) : Prop := (∀ v, 0 ≤ v → v < n 0 → be v = bea n pl wd v ∧ sh v = sho n pl wd v) ∧ ∀ v, top ≤ v → v < n 0 → bel n v top = true → tm v = tim n pl wd top comes v ∧ tu v = tur n pl top turn v
theorem ok_runs2 {P : aP} {d : Nat} {K : aK} {I : aI} {R : aR} {S : aS} {top comes turn : Int} (hM : MS R S) (hW : WF (I 362)) (ht : 0 ≤ top ∧ top < I 362 0) (hturn : 0 ≤ turn ∧ turn ≤ 1) (hpl : ∀ v, 0 ≤ v → v < I 362 0 → 0 ≤ I 368 v ∧ I 368 v ≤ 3) (hwd : ∀ v, 1 ≤ v → v < I 362 0 → 1 ≤ I 369 v ∧ I 369 v ≤ 2)
    (hK : ∀ I', Fr [370, 371, 372, 373] I I' → Ran (I 362) (I 368) (I 369) (I' 370) (I' 371) (I' 372) (I' 373) top comes turn → K none I' R S) : Ok P 88 (d + 4) [vr 361, vi top, vi comes, vi turn] I R S K :=
  ok_runs hM hW ht hturn hpl hwd (fun I' hF hw h => hK I' hF ⟨fun v h0 h1 => wt_bea hW.1.2.1 hw h0 h1, fun v h0 h1 hb => tm_tim hW ht.1 hw h h0 h1 hb⟩)
/-- runsAll() -/
theorem ok_runsAll {P : aP} {d : Nat} {K : aK} {I : aI} {R : aR} {S : aS} (hM : MS R S) (hW : WF (I 362)) (hpl : ∀ v, 0 ≤ v → v < I 362 0 → 0 ≤ I 368 v ∧ I 368 v ≤ 3) (hwd : ∀ v, 1 ≤ v → v < I 362 0 → 1 ≤ I 369 v ∧ I 369 v ≤ 2)
    (hK : ∀ I', Fr [370, 371, 372, 373] I I' → Ran (I 362) (I 368) (I 369) (I' 370) (I' 371) (I' 372) (I' 373) 0 (2 * I 362 1 * bea (I 362) (I 368) (I 369) 0) 0 → K none I' R S) : Ok P 89 (d + 5) [vr 361] I R S K := by
  obtain ⟨m0, r1, m1, r2, m2, r3, m3, r4, m4, r5, m5, r6, m6, r7, m7, r8, m8, r9, m9, r10, m10, r11, m11, r12, m12, r13, m13, r14, m14, r15, m15⟩ := id hM
  have hN := hW.1
  refine Ok.of (by decide) rfl (Nat.le_of_ble_eq_true rfl) ?_
  refine Go.walk 400 [] E89 E89_ok (fun G C hG hC => ?_)
  (repeat ((conv => whnf); first | refine ⟨_, by assumption, ?_⟩ | refine ⟨_, _, by assumption, ?_⟩ | refine ⟨(show _ ∧ _ by omega), ?_⟩ | refine ⟨(show _ ∨ _ by omega), ?_⟩ | refine ⟨fun h => absurd h (by decide), fun _ => ?_⟩ | refine ⟨fun _ => ?_, fun h => absurd h (by decide)⟩ | refine ⟨fun _ => ?_, fun h => absurd rfl h⟩ | refine ⟨fun h => absurd rfl h, fun _ => ?_⟩)); try (conv => whnf)
  refine hC _ _ _ _ _ _ ?_
  refine ok_weighs hM hW hpl (fun I1 hF1 hWt => ?_)
  have e := hF1 362 (by decide)
  have e8 := hF1 368 (by decide)
  have e9 := hF1 369 (by decide)
  have eb := (wt_bea hN.2.1 hWt (show (0 : Int) ≤ 0 by omega) (by omega)).1
  (repeat ((conv => whnf); first | refine ⟨_, by assumption, ?_⟩ | refine ⟨_, _, by assumption, ?_⟩ | refine ⟨(show _ ∧ _ by omega), ?_⟩ | refine ⟨(show _ ∨ _ by omega), ?_⟩ | refine ⟨fun h => absurd h (by decide), fun _ => ?_⟩ | refine ⟨fun _ => ?_, fun h => absurd h (by decide)⟩ | refine ⟨fun _ => ?_, fun h => absurd rfl h⟩ | refine ⟨fun h => absurd rfl h, fun _ => ?_⟩)); try (conv => whnf)
  refine hC _ _ _ _ _ _ ?_
  rw [e, eb]
  refine ok_runs2 hM (by rw [e]; exact hW) (by rw [e]; omega) (by omega) (by rw [e, e8]; exact hpl) (by rw [e, e9]; exact hwd) (fun I' hF h => ?_)
  rw [e, e8, e9] at h
  (repeat ((conv => whnf); first | refine ⟨_, by assumption, ?_⟩ | refine ⟨_, _, by assumption, ?_⟩ | refine ⟨(show _ ∧ _ by omega), ?_⟩ | refine ⟨(show _ ∨ _ by omega), ?_⟩ | refine ⟨fun h => absurd h (by decide), fun _ => ?_⟩ | refine ⟨fun _ => ?_, fun h => absurd h (by decide)⟩ | refine ⟨fun _ => ?_, fun h => absurd rfl h⟩ | refine ⟨fun h => absurd rfl h, fun _ => ?_⟩)); try (conv => whnf)
  exact hK I' (hF1.trans hF (by simp; omega)) h
def mSlack (n : aN) (tm : Int → Int) (top : Int) : Int := rf (fun v least => if (bel n v top && mEnd n v && decide (nf n v 5 - tm v < least)) = true then nf n v 5 - tm v else least) 900000 1 (n 0)
def mWrong (n : aN) (tu : Int → Int) (top : Int) : Int := rf (fun v set => bOr set (if (bel n v top && mEnd n v && decide (nf n v 6 ≠ tu v)) = true then bShl 1 v else 0)) 0 1 (n 0)
def mCost (n : aN) (pl : Int → Int) (top : Int) : Int := rf (fun v s => s + (if (bel n v top && decide (0 < pl v)) = true then kf n (pl v) 4 else 0)) 0 1 (n 0)
/-- slack(top) -/
theorem ok_slack {P : aP} {d : Nat} {K : aK} {I : aI} {R : aR} {S : aS} {top : Int} (hM : MS R S) (hW : WF (I 362)) (ht : 0 ≤ top ∧ top < 6) (htm : ∀ v, 1 ≤ v → v < I 362 0 → bel (I 362) v top = true → 0 ≤ I 372 v ∧ I 372 v ≤ 920000)
    (hK : K (some (vi (mSlack (I 362) (I 372) top))) I R S) : Ok P 90 (d + 3) [vr 361, vi top] I R S K := by
  obtain ⟨m0, r1, m1, r2, m2, r3, m3, r4, m4, r5, m5, r6, m6, r7, m7, r8, m8, r9, m9, r10, m10, r11, m11, r12, m12, r13, m13, r14, m14, r15, m15⟩ := id hM
  have hN := hW.1
  have loop : ∀ (k : Nat) (v least : Int) (x4 : aV), 1 ≤ v → I 362 0 - v = k → (-920000 ≤ least ∧ least ≤ 900000) → least = rf (fun v least => if (bel (I 362) v top && mEnd (I 362) v && decide (nf (I 362) v 5 - I 372 v < least)) = true then nf (I 362) v 5 - I 372 v else least) 900000 1 v → Go P 90 (d + 3) K 5 [vr 361, vi top, vi least, vi v, x4] [] I R S := by
    intro k
    induction k with
    | zero =>
      intro v least x4 hv hk hb hr
      refine Go.walk 400 [5] E90 E90_ok (fun G C hG hC => ?_)
      (repeat ((conv => whnf); first | refine ⟨_, by assumption, ?_⟩ | refine ⟨_, _, by assumption, ?_⟩ | refine ⟨(show _ ∧ _ by omega), ?_⟩ | refine ⟨(show _ ∨ _ by omega), ?_⟩ | refine ⟨fun h => absurd h (by decide), fun _ => ?_⟩ | refine ⟨fun _ => ?_, fun h => absurd h (by decide)⟩ | refine ⟨fun _ => ?_, fun h => absurd rfl h⟩ | refine ⟨fun h => absurd rfl h, fun _ => ?_⟩)); try (conv => whnf)
      refine ⟨fun _ => ?_, fun h => absurd (show I 362 0 ≤ v by omega) h⟩
      (repeat ((conv => whnf); first | refine ⟨_, by assumption, ?_⟩ | refine ⟨_, _, by assumption, ?_⟩ | refine ⟨(show _ ∧ _ by omega), ?_⟩ | refine ⟨(show _ ∨ _ by omega), ?_⟩ | refine ⟨fun h => absurd h (by decide), fun _ => ?_⟩ | refine ⟨fun _ => ?_, fun h => absurd h (by decide)⟩ | refine ⟨fun _ => ?_, fun h => absurd rfl h⟩ | refine ⟨fun h => absurd rfl h, fun _ => ?_⟩)); try (conv => whnf)
      rw [mSlack, show I 362 0 = v by omega, ← hr] at hK
      exact hK
    | succ k ih =>
      intro v least x4 hv hk hb hr
      have hn := hW.2.1 v (by omega) (by omega)
      refine Go.walk 400 [5] E90 E90_ok (fun G C hG hC => ?_)
      (repeat ((conv => whnf); first | refine ⟨_, by assumption, ?_⟩ | refine ⟨_, _, by assumption, ?_⟩ | refine ⟨(show _ ∧ _ by omega), ?_⟩ | refine ⟨(show _ ∨ _ by omega), ?_⟩ | refine ⟨fun h => absurd h (by decide), fun _ => ?_⟩ | refine ⟨fun _ => ?_, fun h => absurd h (by decide)⟩ | refine ⟨fun _ => ?_, fun h => absurd rfl h⟩ | refine ⟨fun h => absurd rfl h, fun _ => ?_⟩)); try (conv => whnf)
      refine ⟨fun h => absurd h (by omega), fun _ => ?_⟩
      (repeat ((conv => whnf); first | refine ⟨_, by assumption, ?_⟩ | refine ⟨_, _, by assumption, ?_⟩ | refine ⟨(show _ ∧ _ by omega), ?_⟩ | refine ⟨(show _ ∨ _ by omega), ?_⟩ | refine ⟨fun h => absurd h (by decide), fun _ => ?_⟩ | refine ⟨fun _ => ?_, fun h => absurd h (by decide)⟩ | refine ⟨fun _ => ?_, fun h => absurd rfl h⟩ | refine ⟨fun h => absurd rfl h, fun _ => ?_⟩)); try (conv => whnf)
      refine hC _ _ _ _ _ _ ?_
      refine ok_of hM (by omega) ?_
      (repeat ((conv => whnf); first | refine ⟨_, by assumption, ?_⟩ | refine ⟨_, _, by assumption, ?_⟩ | refine ⟨(show _ ∧ _ by omega), ?_⟩ | refine ⟨(show _ ∨ _ by omega), ?_⟩ | refine ⟨fun h => absurd h (by decide), fun _ => ?_⟩ | refine ⟨fun _ => ?_, fun h => absurd h (by decide)⟩ | refine ⟨fun _ => ?_, fun h => absurd rfl h⟩ | refine ⟨fun h => absurd rfl h, fun _ => ?_⟩)); try (conv => whnf)
      refine hC _ _ _ _ _ _ ?_
      refine ok_isBelow hM hW (by omega) (by omega) (fun hbel => ?_) (fun hbel => ?_)
      · have htv := htm v hv (by omega) hbel
        (repeat ((conv => whnf); first | refine ⟨_, by assumption, ?_⟩ | refine ⟨_, _, by assumption, ?_⟩ | refine ⟨(show _ ∧ _ by omega), ?_⟩ | refine ⟨(show _ ∨ _ by omega), ?_⟩ | refine ⟨fun h => absurd h (by decide), fun _ => ?_⟩ | refine ⟨fun _ => ?_, fun h => absurd h (by decide)⟩ | refine ⟨fun _ => ?_, fun h => absurd rfl h⟩ | refine ⟨fun h => absurd rfl h, fun _ => ?_⟩)); try (conv => whnf)
        refine hC _ _ _ _ _ _ ?_
        refine ok_isEnd hM hW (by omega) (fun he => ?_) (fun he => ?_)
        · (repeat ((conv => whnf); first | refine ⟨_, by assumption, ?_⟩ | refine ⟨_, _, by assumption, ?_⟩ | refine ⟨(show _ ∧ _ by omega), ?_⟩ | refine ⟨(show _ ∨ _ by omega), ?_⟩ | refine ⟨fun h => absurd h (by decide), fun _ => ?_⟩ | refine ⟨fun _ => ?_, fun h => absurd h (by decide)⟩ | refine ⟨fun _ => ?_, fun h => absurd rfl h⟩ | refine ⟨fun h => absurd rfl h, fun _ => ?_⟩)); try (conv => whnf)
          refine ⟨fun h => ?_, fun h => ?_⟩
          · (repeat ((conv => whnf); first | refine ⟨_, by assumption, ?_⟩ | refine ⟨_, _, by assumption, ?_⟩ | refine ⟨(show _ ∧ _ by omega), ?_⟩ | refine ⟨(show _ ∨ _ by omega), ?_⟩ | refine ⟨fun h => absurd h (by decide), fun _ => ?_⟩ | refine ⟨fun _ => ?_, fun h => absurd h (by decide)⟩ | refine ⟨fun _ => ?_, fun h => absurd rfl h⟩ | refine ⟨fun h => absurd rfl h, fun _ => ?_⟩)); try (conv => whnf)
            refine hG _ _ _ _ _ _ ?_
            refine ih (v + 1) least _ (by omega) (by omega) hb ?_
            rw [rf_succ hv, ← hr, if_neg (by simp [hbel, he]; omega)]
          · (repeat ((conv => whnf); first | refine ⟨_, by assumption, ?_⟩ | refine ⟨_, _, by assumption, ?_⟩ | refine ⟨(show _ ∧ _ by omega), ?_⟩ | refine ⟨(show _ ∨ _ by omega), ?_⟩ | refine ⟨fun h => absurd h (by decide), fun _ => ?_⟩ | refine ⟨fun _ => ?_, fun h => absurd h (by decide)⟩ | refine ⟨fun _ => ?_, fun h => absurd rfl h⟩ | refine ⟨fun h => absurd rfl h, fun _ => ?_⟩)); try (conv => whnf)
            refine hG _ _ _ _ _ _ ?_
            refine ih (v + 1) _ _ (by omega) (by omega) (by omega) ?_
            rw [rf_succ hv, ← hr, if_pos (by simp [hbel, he]; omega)]
        · (repeat ((conv => whnf); first | refine ⟨_, by assumption, ?_⟩ | refine ⟨_, _, by assumption, ?_⟩ | refine ⟨(show _ ∧ _ by omega), ?_⟩ | refine ⟨(show _ ∨ _ by omega), ?_⟩ | refine ⟨fun h => absurd h (by decide), fun _ => ?_⟩ | refine ⟨fun _ => ?_, fun h => absurd h (by decide)⟩ | refine ⟨fun _ => ?_, fun h => absurd rfl h⟩ | refine ⟨fun h => absurd rfl h, fun _ => ?_⟩)); try (conv => whnf)
          refine hG _ _ _ _ _ _ ?_
          refine ih (v + 1) least _ (by omega) (by omega) hb ?_
          rw [rf_succ hv, ← hr, if_neg (by simp [he])]
      · (repeat ((conv => whnf); first | refine ⟨_, by assumption, ?_⟩ | refine ⟨_, _, by assumption, ?_⟩ | refine ⟨(show _ ∧ _ by omega), ?_⟩ | refine ⟨(show _ ∨ _ by omega), ?_⟩ | refine ⟨fun h => absurd h (by decide), fun _ => ?_⟩ | refine ⟨fun _ => ?_, fun h => absurd h (by decide)⟩ | refine ⟨fun _ => ?_, fun h => absurd rfl h⟩ | refine ⟨fun h => absurd rfl h, fun _ => ?_⟩)); try (conv => whnf)
        refine hG _ _ _ _ _ _ ?_
        refine ih (v + 1) least _ (by omega) (by omega) hb ?_
        rw [rf_succ hv, ← hr, if_neg (by simp [hbel])]
  refine Ok.of (by decide) rfl (Nat.le_of_ble_eq_true rfl) ?_
  refine Go.walk 400 [5] E90 E90_ok (fun G C hG hC => ?_)
  (repeat ((conv => whnf); first | refine ⟨_, by assumption, ?_⟩ | refine ⟨_, _, by assumption, ?_⟩ | refine ⟨(show _ ∧ _ by omega), ?_⟩ | refine ⟨(show _ ∨ _ by omega), ?_⟩ | refine ⟨fun h => absurd h (by decide), fun _ => ?_⟩ | refine ⟨fun _ => ?_, fun h => absurd h (by decide)⟩ | refine ⟨fun _ => ?_, fun h => absurd rfl h⟩ | refine ⟨fun h => absurd rfl h, fun _ => ?_⟩)); try (conv => whnf)
  refine hG _ _ _ _ _ _ ?_
  exact loop (I 362 0 - 1).toNat 1 900000 _ (by omega) (by omega) (by omega) (by rw [rf_nil (by omega)])
/-- wrong(top) -/
theorem ok_wrong {P : aP} {d : Nat} {K : aK} {I : aI} {R : aR} {S : aS} {top : Int} (hM : MS R S) (hW : WF (I 362)) (ht : 0 ≤ top ∧ top < 6) (htu : ∀ v, 1 ≤ v → v < I 362 0 → bel (I 362) v top = true → 0 ≤ I 373 v ∧ I 373 v ≤ 1)
    (hK : K (some (vi (mWrong (I 362) (I 373) top))) I R S) : Ok P 91 (d + 3) [vr 361, vi top] I R S K := by
  obtain ⟨m0, r1, m1, r2, m2, r3, m3, r4, m4, r5, m5, r6, m6, r7, m7, r8, m8, r9, m9, r10, m10, r11, m11, r12, m12, r13, m13, r14, m14, r15, m15⟩ := id hM
  have hN := hW.1
  have loop : ∀ (k : Nat) (v w : Int), 1 ≤ v → I 362 0 - v = k → w = rf (fun v set => bOr set (if (bel (I 362) v top && mEnd (I 362) v && decide (nf (I 362) v 6 ≠ I 373 v)) = true then bShl 1 v else 0)) 0 1 v → Go P 91 (d + 3) K 4 [vr 361, vi top, vi w, vi v] [] I R S := by
    intro k
    induction k with
    | zero =>
      intro v w hv hk hr
      refine Go.walk 400 [4] E91 E91_ok (fun G C hG hC => ?_)
      (repeat ((conv => whnf); first | refine ⟨_, by assumption, ?_⟩ | refine ⟨_, _, by assumption, ?_⟩ | refine ⟨(show _ ∧ _ by omega), ?_⟩ | refine ⟨(show _ ∨ _ by omega), ?_⟩ | refine ⟨fun h => absurd h (by decide), fun _ => ?_⟩ | refine ⟨fun _ => ?_, fun h => absurd h (by decide)⟩ | refine ⟨fun _ => ?_, fun h => absurd rfl h⟩ | refine ⟨fun h => absurd rfl h, fun _ => ?_⟩)); try (conv => whnf)
      refine ⟨fun _ => ?_, fun h => absurd (show I 362 0 ≤ v by omega) h⟩
      (repeat ((conv => whnf); first | refine ⟨_, by assumption, ?_⟩ | refine ⟨_, _, by assumption, ?_⟩ | refine ⟨(show _ ∧ _ by omega), ?_⟩ | refine ⟨(show _ ∨ _ by omega), ?_⟩ | refine ⟨fun h => absurd h (by decide), fun _ => ?_⟩ | refine ⟨fun _ => ?_, fun h => absurd h (by decide)⟩ | refine ⟨fun _ => ?_, fun h => absurd rfl h⟩ | refine ⟨fun h => absurd rfl h, fun _ => ?_⟩)); try (conv => whnf)
      rw [mWrong, show I 362 0 = v by omega, ← hr] at hK
      exact hK
    | succ k ih =>
      intro v w hv hk hr
      have hn := hW.2.1 v (by omega) (by omega)
      refine Go.walk 400 [4] E91 E91_ok (fun G C hG hC => ?_)
      (repeat ((conv => whnf); first | refine ⟨_, by assumption, ?_⟩ | refine ⟨_, _, by assumption, ?_⟩ | refine ⟨(show _ ∧ _ by omega), ?_⟩ | refine ⟨(show _ ∨ _ by omega), ?_⟩ | refine ⟨fun h => absurd h (by decide), fun _ => ?_⟩ | refine ⟨fun _ => ?_, fun h => absurd h (by decide)⟩ | refine ⟨fun _ => ?_, fun h => absurd rfl h⟩ | refine ⟨fun h => absurd rfl h, fun _ => ?_⟩)); try (conv => whnf)
      refine ⟨fun h => absurd h (by omega), fun _ => ?_⟩
      (repeat ((conv => whnf); first | refine ⟨_, by assumption, ?_⟩ | refine ⟨_, _, by assumption, ?_⟩ | refine ⟨(show _ ∧ _ by omega), ?_⟩ | refine ⟨(show _ ∨ _ by omega), ?_⟩ | refine ⟨fun h => absurd h (by decide), fun _ => ?_⟩ | refine ⟨fun _ => ?_, fun h => absurd h (by decide)⟩ | refine ⟨fun _ => ?_, fun h => absurd rfl h⟩ | refine ⟨fun h => absurd rfl h, fun _ => ?_⟩)); try (conv => whnf)
      refine hC _ _ _ _ _ _ ?_
      refine ok_isBelow hM hW (by omega) (by omega) (fun hbel => ?_) (fun hbel => ?_)
      · have htv := htu v hv (by omega) hbel
        (repeat ((conv => whnf); first | refine ⟨_, by assumption, ?_⟩ | refine ⟨_, _, by assumption, ?_⟩ | refine ⟨(show _ ∧ _ by omega), ?_⟩ | refine ⟨(show _ ∨ _ by omega), ?_⟩ | refine ⟨fun h => absurd h (by decide), fun _ => ?_⟩ | refine ⟨fun _ => ?_, fun h => absurd h (by decide)⟩ | refine ⟨fun _ => ?_, fun h => absurd rfl h⟩ | refine ⟨fun h => absurd rfl h, fun _ => ?_⟩)); try (conv => whnf)
        refine hC _ _ _ _ _ _ ?_
        refine ok_isEnd hM hW (by omega) (fun he => ?_) (fun he => ?_)
        · (repeat ((conv => whnf); first | refine ⟨_, by assumption, ?_⟩ | refine ⟨_, _, by assumption, ?_⟩ | refine ⟨(show _ ∧ _ by omega), ?_⟩ | refine ⟨(show _ ∨ _ by omega), ?_⟩ | refine ⟨fun h => absurd h (by decide), fun _ => ?_⟩ | refine ⟨fun _ => ?_, fun h => absurd h (by decide)⟩ | refine ⟨fun _ => ?_, fun h => absurd rfl h⟩ | refine ⟨fun h => absurd rfl h, fun _ => ?_⟩)); try (conv => whnf)
          refine hC _ _ _ _ _ _ ?_
          refine ok_of hM (by omega) ?_
          (repeat ((conv => whnf); first | refine ⟨_, by assumption, ?_⟩ | refine ⟨_, _, by assumption, ?_⟩ | refine ⟨(show _ ∧ _ by omega), ?_⟩ | refine ⟨(show _ ∨ _ by omega), ?_⟩ | refine ⟨fun h => absurd h (by decide), fun _ => ?_⟩ | refine ⟨fun _ => ?_, fun h => absurd h (by decide)⟩ | refine ⟨fun _ => ?_, fun h => absurd rfl h⟩ | refine ⟨fun h => absurd rfl h, fun _ => ?_⟩)); try (conv => whnf)
          refine ⟨fun h => ?_, fun h => ?_⟩
          · (repeat ((conv => whnf); first | refine ⟨_, by assumption, ?_⟩ | refine ⟨_, _, by assumption, ?_⟩ | refine ⟨(show _ ∧ _ by omega), ?_⟩ | refine ⟨(show _ ∨ _ by omega), ?_⟩ | refine ⟨fun h => absurd h (by decide), fun _ => ?_⟩ | refine ⟨fun _ => ?_, fun h => absurd h (by decide)⟩ | refine ⟨fun _ => ?_, fun h => absurd rfl h⟩ | refine ⟨fun h => absurd rfl h, fun _ => ?_⟩)); try (conv => whnf)
            refine hG _ _ _ _ _ _ ?_
            refine ih (v + 1) _ (by omega) (by omega) ?_
            rw [rf_succ hv, ← hr, if_neg (by simp [h])]
          · (repeat ((conv => whnf); first | refine ⟨_, by assumption, ?_⟩ | refine ⟨_, _, by assumption, ?_⟩ | refine ⟨(show _ ∧ _ by omega), ?_⟩ | refine ⟨(show _ ∨ _ by omega), ?_⟩ | refine ⟨fun h => absurd h (by decide), fun _ => ?_⟩ | refine ⟨fun _ => ?_, fun h => absurd h (by decide)⟩ | refine ⟨fun _ => ?_, fun h => absurd rfl h⟩ | refine ⟨fun h => absurd rfl h, fun _ => ?_⟩)); try (conv => whnf)
            refine hG _ _ _ _ _ _ ?_
            refine ih (v + 1) _ (by omega) (by omega) ?_
            rw [rf_succ hv, ← hr, if_pos (by simp [hbel, he, h])]
        · (repeat ((conv => whnf); first | refine ⟨_, by assumption, ?_⟩ | refine ⟨_, _, by assumption, ?_⟩ | refine ⟨(show _ ∧ _ by omega), ?_⟩ | refine ⟨(show _ ∨ _ by omega), ?_⟩ | refine ⟨fun h => absurd h (by decide), fun _ => ?_⟩ | refine ⟨fun _ => ?_, fun h => absurd h (by decide)⟩ | refine ⟨fun _ => ?_, fun h => absurd rfl h⟩ | refine ⟨fun h => absurd rfl h, fun _ => ?_⟩)); try (conv => whnf)
          refine hG _ _ _ _ _ _ ?_
          refine ih (v + 1) _ (by omega) (by omega) ?_
          rw [rf_succ hv, ← hr, if_neg (by simp [he])]
      · (repeat ((conv => whnf); first | refine ⟨_, by assumption, ?_⟩ | refine ⟨_, _, by assumption, ?_⟩ | refine ⟨(show _ ∧ _ by omega), ?_⟩ | refine ⟨(show _ ∨ _ by omega), ?_⟩ | refine ⟨fun h => absurd h (by decide), fun _ => ?_⟩ | refine ⟨fun _ => ?_, fun h => absurd h (by decide)⟩ | refine ⟨fun _ => ?_, fun h => absurd rfl h⟩ | refine ⟨fun h => absurd rfl h, fun _ => ?_⟩)); try (conv => whnf)
        refine hG _ _ _ _ _ _ ?_
        refine ih (v + 1) _ (by omega) (by omega) ?_
        rw [rf_succ hv, ← hr, if_neg (by simp [hbel])]
  refine Ok.of (by decide) rfl (Nat.le_of_ble_eq_true rfl) ?_
  refine Go.walk 400 [4] E91 E91_ok (fun G C hG hC => ?_)
  (repeat ((conv => whnf); first | refine ⟨_, by assumption, ?_⟩ | refine ⟨_, _, by assumption, ?_⟩ | refine ⟨(show _ ∧ _ by omega), ?_⟩ | refine ⟨(show _ ∨ _ by omega), ?_⟩ | refine ⟨fun h => absurd h (by decide), fun _ => ?_⟩ | refine ⟨fun _ => ?_, fun h => absurd h (by decide)⟩ | refine ⟨fun _ => ?_, fun h => absurd rfl h⟩ | refine ⟨fun h => absurd rfl h, fun _ => ?_⟩)); try (conv => whnf)
  refine hG _ _ _ _ _ _ ?_
  exact loop (I 362 0 - 1).toNat 1 0 (by omega) (by omega) (by rw [rf_nil (by omega)])
/-- cost(top) -/
theorem ok_cost {P : aP} {d : Nat} {K : aK} {I : aI} {R : aR} {S : aS} {top : Int} (hM : MS R S) (hW : WF (I 362)) (ht : 0 ≤ top ∧ top < 6) (hpl : ∀ v, 1 ≤ v → v < I 362 0 → 0 ≤ I 368 v ∧ I 368 v ≤ 3)
    (hK : K (some (vi (mCost (I 362) (I 368) top))) I R S) : Ok P 92 (d + 3) [vr 361, vi top] I R S K := by
  obtain ⟨m0, r1, m1, r2, m2, r3, m3, r4, m4, r5, m5, r6, m6, r7, m7, r8, m8, r9, m9, r10, m10, r11, m11, r12, m12, r13, m13, r14, m14, r15, m15⟩ := id hM
  have hN := hW.1
  have loop : ∀ (k : Nat) (v w : Int), 1 ≤ v → I 362 0 - v = k → w = rf (fun v s => s + (if (bel (I 362) v top && decide (0 < I 368 v)) = true then kf (I 362) (I 368 v) 4 else 0)) 0 1 v → Go P 92 (d + 3) K 4 [vr 361, vi top, vi w, vi v] [] I R S := by
    intro k
    induction k with
    | zero =>
      intro v w hv hk hr
      refine Go.walk 400 [4] E92 E92_ok (fun G C hG hC => ?_)
      (repeat ((conv => whnf); first | refine ⟨_, by assumption, ?_⟩ | refine ⟨_, _, by assumption, ?_⟩ | refine ⟨(show _ ∧ _ by omega), ?_⟩ | refine ⟨(show _ ∨ _ by omega), ?_⟩ | refine ⟨fun h => absurd h (by decide), fun _ => ?_⟩ | refine ⟨fun _ => ?_, fun h => absurd h (by decide)⟩ | refine ⟨fun _ => ?_, fun h => absurd rfl h⟩ | refine ⟨fun h => absurd rfl h, fun _ => ?_⟩)); try (conv => whnf)
      refine ⟨fun _ => ?_, fun h => absurd (show I 362 0 ≤ v by omega) h⟩
      (repeat ((conv => whnf); first | refine ⟨_, by assumption, ?_⟩ | refine ⟨_, _, by assumption, ?_⟩ | refine ⟨(show _ ∧ _ by omega), ?_⟩ | refine ⟨(show _ ∨ _ by omega), ?_⟩ | refine ⟨fun h => absurd h (by decide), fun _ => ?_⟩ | refine ⟨fun _ => ?_, fun h => absurd h (by decide)⟩ | refine ⟨fun _ => ?_, fun h => absurd rfl h⟩ | refine ⟨fun h => absurd rfl h, fun _ => ?_⟩)); try (conv => whnf)
      rw [mCost, show I 362 0 = v by omega, ← hr] at hK
      exact hK
    | succ k ih =>
      intro v w hv hk hr
      have hp := hpl v hv (by omega)
      refine Go.walk 400 [4] E92 E92_ok (fun G C hG hC => ?_)
      (repeat ((conv => whnf); first | refine ⟨_, by assumption, ?_⟩ | refine ⟨_, _, by assumption, ?_⟩ | refine ⟨(show _ ∧ _ by omega), ?_⟩ | refine ⟨(show _ ∨ _ by omega), ?_⟩ | refine ⟨fun h => absurd h (by decide), fun _ => ?_⟩ | refine ⟨fun _ => ?_, fun h => absurd h (by decide)⟩ | refine ⟨fun _ => ?_, fun h => absurd rfl h⟩ | refine ⟨fun h => absurd rfl h, fun _ => ?_⟩)); try (conv => whnf)
      refine ⟨fun h => absurd h (by omega), fun _ => ?_⟩
      (repeat ((conv => whnf); first | refine ⟨_, by assumption, ?_⟩ | refine ⟨_, _, by assumption, ?_⟩ | refine ⟨(show _ ∧ _ by omega), ?_⟩ | refine ⟨(show _ ∨ _ by omega), ?_⟩ | refine ⟨fun h => absurd h (by decide), fun _ => ?_⟩ | refine ⟨fun _ => ?_, fun h => absurd h (by decide)⟩ | refine ⟨fun _ => ?_, fun h => absurd rfl h⟩ | refine ⟨fun h => absurd rfl h, fun _ => ?_⟩)); try (conv => whnf)
      refine hC _ _ _ _ _ _ ?_
      refine ok_isBelow hM hW (by omega) (by omega) (fun hbel => ?_) (fun hbel => ?_)
      · (repeat ((conv => whnf); first | refine ⟨_, by assumption, ?_⟩ | refine ⟨_, _, by assumption, ?_⟩ | refine ⟨(show _ ∧ _ by omega), ?_⟩ | refine ⟨(show _ ∨ _ by omega), ?_⟩ | refine ⟨fun h => absurd h (by decide), fun _ => ?_⟩ | refine ⟨fun _ => ?_, fun h => absurd h (by decide)⟩ | refine ⟨fun _ => ?_, fun h => absurd rfl h⟩ | refine ⟨fun h => absurd rfl h, fun _ => ?_⟩)); try (conv => whnf)
        refine ⟨fun h => ?_, fun h => ?_⟩
        · (repeat ((conv => whnf); first | refine ⟨_, by assumption, ?_⟩ | refine ⟨_, _, by assumption, ?_⟩ | refine ⟨(show _ ∧ _ by omega), ?_⟩ | refine ⟨(show _ ∨ _ by omega), ?_⟩ | refine ⟨fun h => absurd h (by decide), fun _ => ?_⟩ | refine ⟨fun _ => ?_, fun h => absurd h (by decide)⟩ | refine ⟨fun _ => ?_, fun h => absurd rfl h⟩ | refine ⟨fun h => absurd rfl h, fun _ => ?_⟩)); try (conv => whnf)
          refine hG _ _ _ _ _ _ ?_
          refine ih (v + 1) _ (by omega) (by omega) ?_
          rw [rf_succ hv, ← hr, if_neg (by simp; omega)]
        · (repeat ((conv => whnf); first | refine ⟨_, by assumption, ?_⟩ | refine ⟨_, _, by assumption, ?_⟩ | refine ⟨(show _ ∧ _ by omega), ?_⟩ | refine ⟨(show _ ∨ _ by omega), ?_⟩ | refine ⟨fun h => absurd h (by decide), fun _ => ?_⟩ | refine ⟨fun _ => ?_, fun h => absurd h (by decide)⟩ | refine ⟨fun _ => ?_, fun h => absurd rfl h⟩ | refine ⟨fun h => absurd rfl h, fun _ => ?_⟩)); try (conv => whnf)
          refine hC _ _ _ _ _ _ ?_
          refine ok_ofKind hM (by omega) ?_
          (repeat ((conv => whnf); first | refine ⟨_, by assumption, ?_⟩ | refine ⟨_, _, by assumption, ?_⟩ | refine ⟨(show _ ∧ _ by omega), ?_⟩ | refine ⟨(show _ ∨ _ by omega), ?_⟩ | refine ⟨fun h => absurd h (by decide), fun _ => ?_⟩ | refine ⟨fun _ => ?_, fun h => absurd h (by decide)⟩ | refine ⟨fun _ => ?_, fun h => absurd rfl h⟩ | refine ⟨fun h => absurd rfl h, fun _ => ?_⟩)); try (conv => whnf)
          refine hG _ _ _ _ _ _ ?_
          refine ih (v + 1) _ (by omega) (by omega) ?_
          rw [rf_succ hv, ← hr, if_pos (by simp [hbel]; omega)]
      · (repeat ((conv => whnf); first | refine ⟨_, by assumption, ?_⟩ | refine ⟨_, _, by assumption, ?_⟩ | refine ⟨(show _ ∧ _ by omega), ?_⟩ | refine ⟨(show _ ∨ _ by omega), ?_⟩ | refine ⟨fun h => absurd h (by decide), fun _ => ?_⟩ | refine ⟨fun _ => ?_, fun h => absurd h (by decide)⟩ | refine ⟨fun _ => ?_, fun h => absurd rfl h⟩ | refine ⟨fun h => absurd rfl h, fun _ => ?_⟩)); try (conv => whnf)
        refine hG _ _ _ _ _ _ ?_
        refine ih (v + 1) _ (by omega) (by omega) ?_
        rw [rf_succ hv, ← hr, if_neg (by simp [hbel])]
  refine Ok.of (by decide) rfl (Nat.le_of_ble_eq_true rfl) ?_
  refine Go.walk 400 [4] E92 E92_ok (fun G C hG hC => ?_)
  (repeat ((conv => whnf); first | refine ⟨_, by assumption, ?_⟩ | refine ⟨_, _, by assumption, ?_⟩ | refine ⟨(show _ ∧ _ by omega), ?_⟩ | refine ⟨(show _ ∨ _ by omega), ?_⟩ | refine ⟨fun h => absurd h (by decide), fun _ => ?_⟩ | refine ⟨fun _ => ?_, fun h => absurd h (by decide)⟩ | refine ⟨fun _ => ?_, fun h => absurd rfl h⟩ | refine ⟨fun h => absurd rfl h, fun _ => ?_⟩)); try (conv => whnf)
  refine hG _ _ _ _ _ _ ?_
  exact loop (I 362 0 - 1).toNat 1 0 (by omega) (by omega) (by rw [rf_nil (by omega)])
