/-! the reference: all of it, from what stands now -/
theorem bel_zero {n : aN} (hW : WF n) : ∀ (k : Nat) (v : Int), 0 ≤ v → v < 6 → v ≤ k → bel n v 0 = true := by
  intro k
  induction k with
  | zero => intro v h0 h1 h2; rw [show v = 0 by omega]; exact bel_self
  | succ k ih =>
    intro v h0 h1 h2
    by_cases e : v = 0
    · rw [e]; exact bel_self
    · have hb := (hW.2.1 v h0 h1).1
      have := ih (nf n v 0) hb.1 (by omega) (by omega)
      simp only [bel, decide_eq_true_eq] at this ⊢
      rw [climb_up hW (by omega) h1 (by omega)]
      exact this
theorem bel0 {n : aN} (hW : WF n) {v : Int} (h0 : 0 ≤ v) (h1 : v < 6) : bel n v 0 = true := bel_zero hW 6 v h0 h1 (by omega)
def pl0 (n : aN) : Int → Int := fun v => nf n v 7
def wd0 (n : aN) : Int → Int := fun v => nf n v 3
def src (n : aN) (pl wd : Int → Int) : Int := 2 * n 1 * bea n pl wd 0
theorem mAdd_cong {n : aN} {pl pl' be be' : Int → Int} {v : Int} (h1 : pl' v = pl v) (h2 : be' v = be v) : mAdd n pl' be' v = mAdd n pl be v := by
  simp only [mAdd]; rw [h1, h2]
theorem cT_cong {n : aN} (hW : WF n) {pl wd pl' wd' : Int → Int} {top comes : Int} (ht : 0 ≤ top) (hp : ∀ u, top ≤ u → u < n 0 → pl' u = pl u) (hw : ∀ u, top < u → u < n 0 → wd' u = wd u) : ∀ (f : Nat) (v : Int), top ≤ v → v < n 0 → bel n v top = true → cT n pl' wd' top comes f v = cT n pl wd top comes f v := by
  intro f
  have hN := hW.1
  induction f with
  | zero => intro v _ _ _; rfl
  | succ f ih =>
    intro v h0 h1 hb
    have hbe : bea n pl' wd' v = bea n pl wd v := bea_cong (by omega) (fun u h3 h4 => ⟨hp u (by omega) h4, hw u (by omega) h4⟩)
    show mTm n pl' wd' _ _ _ top comes v = mTm n pl wd _ _ _ top comes v
    simp only [mTm]
    rw [mAdd_cong (hp v h0 h1) hbe]
    by_cases e : v = top
    · rw [if_pos e, if_pos e]
    · have hu := bel_up hW ht (by omega) hb e
      rw [if_neg e, if_neg e, hw v (by omega) h1, sho_cong (by omega) (hp v h0 h1) (fun u h3 h4 => ⟨hp u (by omega) h4, hw u (by omega) h4⟩), ih (nf n v 0) hu.2.1 (by omega) hu.2.2.2]
theorem cU_cong {n : aN} (hW : WF n) {pl pl' : Int → Int} {top turn : Int} (ht : 0 ≤ top) (hp : ∀ u, top ≤ u → u < n 0 → pl' u = pl u) : ∀ (f : Nat) (v : Int), top ≤ v → v < n 0 → bel n v top = true → cU n pl' top turn f v = cU n pl top turn f v := by
  intro f
  have hN := hW.1
  induction f with
  | zero => intro v _ _ _; rfl
  | succ f ih =>
    intro v h0 h1 hb
    show mTu n pl' _ top turn v = mTu n pl _ top turn v
    simp only [mTu]
    rw [hp v h0 h1]
    by_cases e : v = top
    · rw [if_pos e, if_pos e]
    · have hu := bel_up hW ht (by omega) hb e
      rw [if_neg e, if_neg e, ih (nf n v 0) hu.2.1 (by omega) hu.2.2.2]
/-- what may stand where -/
def PlOk (n : aN) (pl : Int → Int) : Prop := (∀ v, 0 ≤ v → v < n 0 → 0 ≤ pl v ∧ pl v ≤ 3) ∧ pl 0 = 0
def WdOk (n : aN) (wd : Int → Int) : Prop := ∀ v, 1 ≤ v → v < n 0 → 1 ≤ wd v ∧ wd v ≤ 2
theorem pl0_ok {n : aN} (hW : WF n) : PlOk n (pl0 n) := ⟨fun v h0 h1 => (hW.2.1 v h0 (by have := hW.1; omega)).2.2.2.2.2.2.2, hW.2.2.2.2.1⟩
theorem wd0_ok {n : aN} (hW : WF n) : WdOk n (wd0 n) := fun v h0 h1 => ⟨(hW.2.2.1 v h0 h1).1, (hW.2.1 v (by omega) (by have := hW.1; omega)).2.2.2.1.2⟩
theorem src_bd {n : aN} (hW : WF n) {pl wd : Int → Int} (hp : PlOk n pl) (hw : WdOk n wd) : 0 ≤ src n pl wd ∧ src n pl wd ≤ 270000 := by
  have hN := hW.1
  have hb := bea_bd hW hp.1 hw (show (0 : Int) ≤ 0 by omega) (by omega)
  unfold src
  constructor
  · exact Int.mul_nonneg (by omega) hb.1
  · exact Int.le_trans (Int.mul_le_mul_of_nonneg_right (show 2 * n 1 ≤ 18 by omega) hb.1) (by omega)
/-- the rows of the reference, run from the source -/
def AllOk (n : aN) (pl wd : Int → Int) (I : aI) : Prop := ∀ v, 0 ≤ v → v < n 0 → I 370 v = bea n pl wd v ∧ I 371 v = sho n pl wd v ∧ I 372 v = tim n pl wd 0 (src n pl wd) v ∧ I 373 v = tur n pl 0 0 v
theorem ok_runsAll2 {P : aP} {d : Nat} {K : aK} {I : aI} {R : aR} {S : aS} {pl wd : Int → Int} (hM : MS R S) (hW : WF (I 362)) (hp : PlOk (I 362) pl) (hw : WdOk (I 362) wd) (h8 : ∀ v, 0 ≤ v → v < I 362 0 → I 368 v = pl v) (h9 : ∀ v, 1 ≤ v → v < I 362 0 → I 369 v = wd v)
    (hK : ∀ I', Fr [370, 371, 372, 373] I I' → AllOk (I 362) pl wd I' → K none I' R S) : Ok P 89 (d + 5) [vr 361] I R S K := by
  have hN := hW.1
  refine ok_runsAll hM hW (fun v h0 h1 => by rw [h8 v h0 h1]; exact hp.1 v h0 h1) (fun v h0 h1 => by rw [h9 v h0 h1]; exact hw v h0 h1) (fun I' hF h => hK I' hF ?_)
  have hb0 : bea (I 362) (I 368) (I 369) 0 = bea (I 362) pl wd 0 := bea_cong (by omega) (fun u h3 h4 => ⟨h8 u (by omega) h4, h9 u (by omega) h4⟩)
  rw [hb0] at h
  intro v h0 h1
  have hbv := bel0 hW h0 (by omega)
  obtain ⟨g1, g2⟩ := h.1 v h0 h1
  obtain ⟨g3, g4⟩ := h.2 v h0 h1 hbv
  have c1 : bea (I 362) (I 368) (I 369) v = bea (I 362) pl wd v := bea_cong (by omega) (fun u h3 h4 => ⟨h8 u (by omega) h4, h9 u (by omega) h4⟩)
  have c2 : sho (I 362) (I 368) (I 369) v = sho (I 362) pl wd v := sho_cong (by omega) (h8 v h0 h1) (fun u h3 h4 => ⟨h8 u (by omega) h4, h9 u (by omega) h4⟩)
  refine ⟨g1.trans c1, g2.trans c2, g3.trans ?_, g4.trans ?_⟩
  · exact cT_cong hW (by omega) (fun u h3 h4 => h8 u h3 h4) (fun u h3 h4 => h9 u (by omega) h4) 6 v h0 h1 hbv
  · exact cU_cong hW (by omega) (fun u h3 h4 => h8 u h3 h4) 6 v h0 h1 hbv
def sla (n : aN) (pl wd : Int → Int) : Int := mSlack n (tim n pl wd 0 (src n pl wd)) 0
def wro (n : aN) (pl : Int → Int) : Int := mWrong n (tur n pl 0 0) 0
theorem mSlack_cong {n : aN} {tm tm' : Int → Int} {top : Int} (h : ∀ v, 1 ≤ v → v < n 0 → bel n v top = true → tm' v = tm v) : mSlack n tm' top = mSlack n tm top := by
  unfold mSlack
  apply rf_cong
  intro v h1 h2 x
  cases hb : bel n v top with
  | false => simp
  | true => rw [h v h1 h2 hb]
theorem mWrong_cong {n : aN} {tu tu' : Int → Int} {top : Int} (h : ∀ v, 1 ≤ v → v < n 0 → bel n v top = true → tu' v = tu v) : mWrong n tu' top = mWrong n tu top := by
  unfold mWrong
  apply rf_cong
  intro v h1 h2 x
  cases hb : bel n v top with
  | false => simp
  | true => rw [h v h1 h2 hb]
theorem mCost_cong {n : aN} {pl pl' : Int → Int} {top : Int} (h : ∀ v, 1 ≤ v → v < n 0 → bel n v top = true → pl' v = pl v) : mCost n pl' top = mCost n pl top := by
  unfold mCost
  apply rf_cong
  intro v h1 h2 x
  cases hb : bel n v top with
  | false => simp
  | true => rw [h v h1 h2 hb]
theorem ok_slack0 {P : aP} {d : Nat} {K : aK} {I : aI} {R : aR} {S : aS} {n : aN} {pl wd : Int → Int} (hM : MS R S) (hn : I 362 = n) (hW : WF n) (hp : PlOk n pl) (hw : WdOk n wd) (ha : AllOk n pl wd I) (hK : K (some (vi (sla n pl wd))) I R S) : Ok P 90 (d + 3) [vr 361, vi 0] I R S K := by
  subst hn
  have hN := hW.1
  refine ok_slack hM hW (by omega) (fun v h0 h1 hb => ?_) ?_
  · rw [(ha v (by omega) h1).2.2.1]
    exact tim_bd hW (by omega) (src_bd hW hp hw) hp.1 hp.2 hw (by omega) h1 hb
  · rw [mSlack_cong (fun v h0 h1 _ => (ha v (by omega) h1).2.2.1)]
    exact hK
theorem ok_wrong0 {P : aP} {d : Nat} {K : aK} {I : aI} {R : aR} {S : aS} {n : aN} {pl wd : Int → Int} (hM : MS R S) (hn : I 362 = n) (hW : WF n) (ha : AllOk n pl wd I) (hK : K (some (vi (wro n pl))) I R S) : Ok P 91 (d + 3) [vr 361, vi 0] I R S K := by
  subst hn
  have hN := hW.1
  refine ok_wrong hM hW (by omega) (fun v h0 h1 hb => ?_) ?_
  · rw [(ha v (by omega) h1).2.2.2]
    exact cU_01 6 v
  · rw [mWrong_cong (fun v h0 h1 _ => (ha v (by omega) h1).2.2.2)]
    exact hK
theorem ok_cost0 {P : aP} {d : Nat} {K : aK} {I : aI} {R : aR} {S : aS} {n : aN} {pl : Int → Int} (hM : MS R S) (hn : I 362 = n) (hW : WF n) (hp : PlOk n pl) (h8 : ∀ v, 0 ≤ v → v < n 0 → I 368 v = pl v) (hK : K (some (vi (mCost n pl 0))) I R S) : Ok P 92 (d + 3) [vr 361, vi 0] I R S K := by
  subst hn
  have hN := hW.1
  refine ok_cost hM hW (by omega) (fun v h0 h1 => ?_) ?_
  · rw [h8 v (by omega) h1]
    exact hp.1 v (by omega) h1
  · rw [mCost_cong (fun v h0 h1 _ => h8 v (by omega) h1)]
    exact hK
/-- slackNow() -/
theorem ok_slackNow {P : aP} {d : Nat} {K : aK} {I : aI} {R : aR} {S : aS} (hM : MS R S) (hW : WF (I 362)) (hK : ∀ I', Fr [368, 369, 370, 371, 372, 373] I I' → AllOk (I 362) (pl0 (I 362)) (wd0 (I 362)) I' → K (some (vi (sla (I 362) (pl0 (I 362)) (wd0 (I 362))))) I' R S) : Ok P 93 (d + 6) [vr 361] I R S K := by
  obtain ⟨m0, r1, m1, r2, m2, r3, m3, r4, m4, r5, m5, r6, m6, r7, m7, r8, m8, r9, m9, r10, m10, r11, m11, r12, m12, r13, m13, r14, m14, r15, m15⟩ := id hM
  have hN := hW.1
  refine Ok.of (by decide) rfl (Nat.le_of_ble_eq_true rfl) ?_
  refine Go.walk 400 [] E93 E93_ok (fun G C hG hC => ?_)
  (repeat ((conv => whnf); first | refine ⟨_, by assumption, ?_⟩ | refine ⟨_, _, by assumption, ?_⟩ | refine ⟨(show _ ∧ _ by omega), ?_⟩ | refine ⟨(show _ ∨ _ by omega), ?_⟩ | refine ⟨fun h => absurd h (by decide), fun _ => ?_⟩ | refine ⟨fun _ => ?_, fun h => absurd h (by decide)⟩ | refine ⟨fun _ => ?_, fun h => absurd rfl h⟩ | refine ⟨fun h => absurd rfl h, fun _ => ?_⟩)); try (conv => whnf)
  refine hC _ _ _ _ _ _ ?_
  refine ok_asPlaced hM hW (fun I1 hF1 h1 => ?_)
  have e := hF1 362 (by decide)
  (repeat ((conv => whnf); first | refine ⟨_, by assumption, ?_⟩ | refine ⟨_, _, by assumption, ?_⟩ | refine ⟨(show _ ∧ _ by omega), ?_⟩ | refine ⟨(show _ ∨ _ by omega), ?_⟩ | refine ⟨fun h => absurd h (by decide), fun _ => ?_⟩ | refine ⟨fun _ => ?_, fun h => absurd h (by decide)⟩ | refine ⟨fun _ => ?_, fun h => absurd rfl h⟩ | refine ⟨fun h => absurd rfl h, fun _ => ?_⟩)); try (conv => whnf)
  refine hC _ _ _ _ _ _ ?_
  refine ok_runsAll2 (pl := pl0 (I 362)) (wd := wd0 (I 362)) hM (by rw [e]; exact hW) (by rw [e]; exact pl0_ok hW) (by rw [e]; exact wd0_ok hW) (by rw [e]; exact fun v h0 h2 => (h1 v h0 h2).1) (by rw [e]; exact fun v h0 h2 => (h1 v (by omega) h2).2) (fun I2 hF2 h2 => ?_)
  rw [e] at h2
  have e2 : I2 362 = I 362 := by rw [hF2 362 (by decide), e]
  (repeat ((conv => whnf); first | refine ⟨_, by assumption, ?_⟩ | refine ⟨_, _, by assumption, ?_⟩ | refine ⟨(show _ ∧ _ by omega), ?_⟩ | refine ⟨(show _ ∨ _ by omega), ?_⟩ | refine ⟨fun h => absurd h (by decide), fun _ => ?_⟩ | refine ⟨fun _ => ?_, fun h => absurd h (by decide)⟩ | refine ⟨fun _ => ?_, fun h => absurd rfl h⟩ | refine ⟨fun h => absurd rfl h, fun _ => ?_⟩)); try (conv => whnf)
  refine hC _ _ _ _ _ _ ?_
  refine ok_slack0 hM e2 hW (pl0_ok hW) (wd0_ok hW) h2 ?_
  (repeat ((conv => whnf); first | refine ⟨_, by assumption, ?_⟩ | refine ⟨_, _, by assumption, ?_⟩ | refine ⟨(show _ ∧ _ by omega), ?_⟩ | refine ⟨(show _ ∨ _ by omega), ?_⟩ | refine ⟨fun h => absurd h (by decide), fun _ => ?_⟩ | refine ⟨fun _ => ?_, fun h => absurd h (by decide)⟩ | refine ⟨fun _ => ?_, fun h => absurd rfl h⟩ | refine ⟨fun h => absurd rfl h, fun _ => ?_⟩)); try (conv => whnf)
  exact hK I2 (hF1.trans hF2 (by simp; omega)) h2
def mEnds (n : aN) : Int := rf (fun v set => bOr set (if mEnd n v = true then bShl 1 v else 0)) 0 1 (n 0)
/-- ends() -/
theorem ok_mends {P : aP} {d : Nat} {K : aK} {I : aI} {R : aR} {S : aS} (hM : MS R S) (hW : WF (I 362)) (hK : K (some (vi (mEnds (I 362)))) I R S) : Ok P 102 (d + 3) [vr 361] I R S K := by
  obtain ⟨m0, r1, m1, r2, m2, r3, m3, r4, m4, r5, m5, r6, m6, r7, m7, r8, m8, r9, m9, r10, m10, r11, m11, r12, m12, r13, m13, r14, m14, r15, m15⟩ := id hM
  have hN := hW.1
  have loop : ∀ (k : Nat) (v w : Int), 1 ≤ v → I 362 0 - v = k → w = rf (fun v set => bOr set (if mEnd (I 362) v = true then bShl 1 v else 0)) 0 1 v → Go P 102 (d + 3) K 4 [vr 361, vi w, vi v] [] I R S := by
    intro k
    induction k with
    | zero =>
      intro v w hv hk hr
      refine Go.walk 400 [4] E102 E102_ok (fun G C hG hC => ?_)
      (repeat ((conv => whnf); first | refine ⟨_, by assumption, ?_⟩ | refine ⟨_, _, by assumption, ?_⟩ | refine ⟨(show _ ∧ _ by omega), ?_⟩ | refine ⟨(show _ ∨ _ by omega), ?_⟩ | refine ⟨fun h => absurd h (by decide), fun _ => ?_⟩ | refine ⟨fun _ => ?_, fun h => absurd h (by decide)⟩ | refine ⟨fun _ => ?_, fun h => absurd rfl h⟩ | refine ⟨fun h => absurd rfl h, fun _ => ?_⟩)); try (conv => whnf)
      refine ⟨fun _ => ?_, fun h => absurd (show I 362 0 ≤ v by omega) h⟩
      (repeat ((conv => whnf); first | refine ⟨_, by assumption, ?_⟩ | refine ⟨_, _, by assumption, ?_⟩ | refine ⟨(show _ ∧ _ by omega), ?_⟩ | refine ⟨(show _ ∨ _ by omega), ?_⟩ | refine ⟨fun h => absurd h (by decide), fun _ => ?_⟩ | refine ⟨fun _ => ?_, fun h => absurd h (by decide)⟩ | refine ⟨fun _ => ?_, fun h => absurd rfl h⟩ | refine ⟨fun h => absurd rfl h, fun _ => ?_⟩)); try (conv => whnf)
      rw [mEnds, show I 362 0 = v by omega, ← hr] at hK
      exact hK
    | succ k ih =>
      intro v w hv hk hr
      refine Go.walk 400 [4] E102 E102_ok (fun G C hG hC => ?_)
      (repeat ((conv => whnf); first | refine ⟨_, by assumption, ?_⟩ | refine ⟨_, _, by assumption, ?_⟩ | refine ⟨(show _ ∧ _ by omega), ?_⟩ | refine ⟨(show _ ∨ _ by omega), ?_⟩ | refine ⟨fun h => absurd h (by decide), fun _ => ?_⟩ | refine ⟨fun _ => ?_, fun h => absurd h (by decide)⟩ | refine ⟨fun _ => ?_, fun h => absurd rfl h⟩ | refine ⟨fun h => absurd rfl h, fun _ => ?_⟩)); try (conv => whnf)
      refine ⟨fun h => absurd h (by omega), fun _ => ?_⟩
      (repeat ((conv => whnf); first | refine ⟨_, by assumption, ?_⟩ | refine ⟨_, _, by assumption, ?_⟩ | refine ⟨(show _ ∧ _ by omega), ?_⟩ | refine ⟨(show _ ∨ _ by omega), ?_⟩ | refine ⟨fun h => absurd h (by decide), fun _ => ?_⟩ | refine ⟨fun _ => ?_, fun h => absurd h (by decide)⟩ | refine ⟨fun _ => ?_, fun h => absurd rfl h⟩ | refine ⟨fun h => absurd rfl h, fun _ => ?_⟩)); try (conv => whnf)
      refine hC _ _ _ _ _ _ ?_
      refine ok_isEnd hM hW (by omega) (fun he => ?_) (fun he => ?_)
      · (repeat ((conv => whnf); first | refine ⟨_, by assumption, ?_⟩ | refine ⟨_, _, by assumption, ?_⟩ | refine ⟨(show _ ∧ _ by omega), ?_⟩ | refine ⟨(show _ ∨ _ by omega), ?_⟩ | refine ⟨fun h => absurd h (by decide), fun _ => ?_⟩ | refine ⟨fun _ => ?_, fun h => absurd h (by decide)⟩ | refine ⟨fun _ => ?_, fun h => absurd rfl h⟩ | refine ⟨fun h => absurd rfl h, fun _ => ?_⟩)); try (conv => whnf)
        refine hG _ _ _ _ _ _ ?_
        refine ih (v + 1) _ (by omega) (by omega) ?_
        rw [rf_succ hv, ← hr, if_pos he]
      · (repeat ((conv => whnf); first | refine ⟨_, by assumption, ?_⟩ | refine ⟨_, _, by assumption, ?_⟩ | refine ⟨(show _ ∧ _ by omega), ?_⟩ | refine ⟨(show _ ∨ _ by omega), ?_⟩ | refine ⟨fun h => absurd h (by decide), fun _ => ?_⟩ | refine ⟨fun _ => ?_, fun h => absurd h (by decide)⟩ | refine ⟨fun _ => ?_, fun h => absurd rfl h⟩ | refine ⟨fun h => absurd rfl h, fun _ => ?_⟩)); try (conv => whnf)
        refine hG _ _ _ _ _ _ ?_
        refine ih (v + 1) _ (by omega) (by omega) ?_
        rw [rf_succ hv, ← hr, if_neg (by simp [he])]
  refine Ok.of (by decide) rfl (Nat.le_of_ble_eq_true rfl) ?_
  refine Go.walk 400 [4] E102 E102_ok (fun G C hG hC => ?_)
  (repeat ((conv => whnf); first | refine ⟨_, by assumption, ?_⟩ | refine ⟨_, _, by assumption, ?_⟩ | refine ⟨(show _ ∧ _ by omega), ?_⟩ | refine ⟨(show _ ∨ _ by omega), ?_⟩ | refine ⟨fun h => absurd h (by decide), fun _ => ?_⟩ | refine ⟨fun _ => ?_, fun h => absurd h (by decide)⟩ | refine ⟨fun _ => ?_, fun h => absurd rfl h⟩ | refine ⟨fun h => absurd rfl h, fun _ => ?_⟩)); try (conv => whnf)
  refine hG _ _ _ _ _ _ ?_
  exact loop (I 362 0 - 1).toNat 1 0 (by omega) (by omega) (by rw [rf_nil (by omega)])
def isK (n : aN) (k : Int) : Prop := 1 ≤ k ∧ k ≤ 3 ∧ kf n k 0 = 1
def mKinds (n : aN) : Int := bOr (bOr (bOr 0 (if kf n 1 0 = 1 then bShl 1 1 else 0)) (if kf n 2 0 = 1 then bShl 1 2 else 0)) (if kf n 3 0 = 1 then bShl 1 3 else 0)
/-- kindsThere() -/
theorem ok_kindsThere {P : aP} {d : Nat} {K : aK} {I : aI} {R : aR} {S : aS} (hM : MS R S) (hW : WF (I 362)) (hK : K (some (vi (mKinds (I 362)))) I R S) : Ok P 104 (d + 3) [vr 361] I R S K := by
  obtain ⟨m0, r1, m1, r2, m2, r3, m3, r4, m4, r5, m5, r6, m6, r7, m7, r8, m8, r9, m9, r10, m10, r11, m11, r12, m12, r13, m13, r14, m14, r15, m15⟩ := id hM
  have step : ∀ (k w : Int), 1 ≤ k → k ≤ 3 → Go P 104 (d + 3) K 4 [vr 361, vi (bOr w (if kf (I 362) k 0 = 1 then bShl 1 k else 0)), vi (k + 1)] [] I R S → Go P 104 (d + 3) K 4 [vr 361, vi w, vi k] [] I R S := by
    intro k w h1 h2 hg
    refine Go.walk 400 [4] E104 E104_ok (fun G C hG hC => ?_)
    (repeat ((conv => whnf); first | refine ⟨_, by assumption, ?_⟩ | refine ⟨_, _, by assumption, ?_⟩ | refine ⟨(show _ ∧ _ by omega), ?_⟩ | refine ⟨(show _ ∨ _ by omega), ?_⟩ | refine ⟨fun h => absurd h (by decide), fun _ => ?_⟩ | refine ⟨fun _ => ?_, fun h => absurd h (by decide)⟩ | refine ⟨fun _ => ?_, fun h => absurd rfl h⟩ | refine ⟨fun h => absurd rfl h, fun _ => ?_⟩)); try (conv => whnf)
    refine ⟨fun h => absurd h (by omega), fun _ => ?_⟩
    (repeat ((conv => whnf); first | refine ⟨_, by assumption, ?_⟩ | refine ⟨_, _, by assumption, ?_⟩ | refine ⟨(show _ ∧ _ by omega), ?_⟩ | refine ⟨(show _ ∨ _ by omega), ?_⟩ | refine ⟨fun h => absurd h (by decide), fun _ => ?_⟩ | refine ⟨fun _ => ?_, fun h => absurd h (by decide)⟩ | refine ⟨fun _ => ?_, fun h => absurd rfl h⟩ | refine ⟨fun h => absurd rfl h, fun _ => ?_⟩)); try (conv => whnf)
    refine hC _ _ _ _ _ _ ?_
    refine ok_isKind hM (by omega) hW (fun h => ?_) (fun h => ?_)
    · rw [if_pos h.2.2] at hg
      (repeat ((conv => whnf); first | refine ⟨_, by assumption, ?_⟩ | refine ⟨_, _, by assumption, ?_⟩ | refine ⟨(show _ ∧ _ by omega), ?_⟩ | refine ⟨(show _ ∨ _ by omega), ?_⟩ | refine ⟨fun h => absurd h (by decide), fun _ => ?_⟩ | refine ⟨fun _ => ?_, fun h => absurd h (by decide)⟩ | refine ⟨fun _ => ?_, fun h => absurd rfl h⟩ | refine ⟨fun h => absurd rfl h, fun _ => ?_⟩)); try (conv => whnf)
      refine hG _ _ _ _ _ _ ?_
      exact hg
    · rw [if_neg (by omega)] at hg
      (repeat ((conv => whnf); first | refine ⟨_, by assumption, ?_⟩ | refine ⟨_, _, by assumption, ?_⟩ | refine ⟨(show _ ∧ _ by omega), ?_⟩ | refine ⟨(show _ ∨ _ by omega), ?_⟩ | refine ⟨fun h => absurd h (by decide), fun _ => ?_⟩ | refine ⟨fun _ => ?_, fun h => absurd h (by decide)⟩ | refine ⟨fun _ => ?_, fun h => absurd rfl h⟩ | refine ⟨fun h => absurd rfl h, fun _ => ?_⟩)); try (conv => whnf)
      refine hG _ _ _ _ _ _ ?_
      exact hg
  refine Ok.of (by decide) rfl (Nat.le_of_ble_eq_true rfl) ?_
  refine Go.walk 400 [4] E104 E104_ok (fun G C hG hC => ?_)
  (repeat ((conv => whnf); first | refine ⟨_, by assumption, ?_⟩ | refine ⟨_, _, by assumption, ?_⟩ | refine ⟨(show _ ∧ _ by omega), ?_⟩ | refine ⟨(show _ ∨ _ by omega), ?_⟩ | refine ⟨fun h => absurd h (by decide), fun _ => ?_⟩ | refine ⟨fun _ => ?_, fun h => absurd h (by decide)⟩ | refine ⟨fun _ => ?_, fun h => absurd rfl h⟩ | refine ⟨fun h => absurd rfl h, fun _ => ?_⟩)); try (conv => whnf)
  refine hG _ _ _ _ _ _ ?_
  refine step 1 0 (by omega) (by omega) ?_
  refine step 2 _ (by omega) (by omega) ?_
  refine step 3 _ (by omega) (by omega) ?_
  refine Go.walk 400 [] E104 E104_ok (fun G C hG hC => ?_)
  (repeat ((conv => whnf); first | refine ⟨_, by assumption, ?_⟩ | refine ⟨_, _, by assumption, ?_⟩ | refine ⟨(show _ ∧ _ by omega), ?_⟩ | refine ⟨(show _ ∨ _ by omega), ?_⟩ | refine ⟨fun h => absurd h (by decide), fun _ => ?_⟩ | refine ⟨fun _ => ?_, fun h => absurd h (by decide)⟩ | refine ⟨fun _ => ?_, fun h => absurd rfl h⟩ | refine ⟨fun h => absurd rfl h, fun _ => ?_⟩)); try (conv => whnf)
  exact hK
