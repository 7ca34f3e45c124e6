/-! the reference: runs, runsAll, slack, wrong, cost, slackNow -/
theorem bel_up {n : aN} (hW : WF n) {v top : Int} (ht : 0 ≤ top) (h6 : v < 6) (hb : bel n v top = true) (hne : ¬ v = top) : top < v ∧ top ≤ nf n v 0 ∧ nf n v 0 < v ∧ bel n (nf n v 0) top = true := by
  simp only [bel, decide_eq_true_eq] at hb
  have h1 : top < v := by
    by_cases h : top < v
    · exact h
    · rw [climb_id h] at hb; exact absurd hb hne
  rw [climb_up hW ht h6 h1] at hb
  have h2 := (hW.2.1 v (by omega) h6).1.2 (by omega)
  refine ⟨h1, ?_, h2, by simp only [bel, decide_eq_true_eq]; exact hb⟩
  by_cases h : top < nf n v 0
  · omega
  · rw [climb_id h] at hb; omega
theorem bel_self {n : aN} {v : Int} : bel n v v = true := by
  simp only [bel, decide_eq_true_eq]
  exact climb_id (by omega)
def mTm (n : aN) (pl wd be sh tm : Int → Int) (top comes v : Int) : Int := (if v = top then comes else tm (nf n v 0) + nf n v 1 * nf n v 2 + 2 / wd v * nf n v 1 * sh v) + mAdd n pl be v
def mTu (n : aN) (pl tu : Int → Int) (top turn v : Int) : Int := ((if v = top then turn else tu (nf n v 0)) + (if 0 < pl v then kf n (pl v) 5 else 0)) % 2
def TmOk (n : aN) (pl wd be sh tm tu : Int → Int) (top comes turn : Int) : Prop := ∀ v, top ≤ v → v < n 0 → bel n v top = true → tm v = mTm n pl wd be sh tm top comes v ∧ tu v = mTu n pl tu top turn v
theorem mTm_cong {n : aN} {pl wd be sh tm tm' : Int → Int} {top comes v : Int} (h : ¬ v = top → tm' (nf n v 0) = tm (nf n v 0)) : mTm n pl wd be sh tm' top comes v = mTm n pl wd be sh tm top comes v := by
  unfold mTm
  by_cases e : v = top
  · rw [if_pos e, if_pos e]
  · rw [if_neg e, if_neg e, h e]
theorem mTu_cong {n : aN} {pl tu tu' : Int → Int} {top turn v : Int} (h : ¬ v = top → tu' (nf n v 0) = tu (nf n v 0)) : mTu n pl tu' top turn v = mTu n pl tu top turn v := by
  unfold mTu
  by_cases e : v = top
  · rw [if_pos e, if_pos e]
  · rw [if_neg e, if_neg e, h e]
/-- runs(top, comes, turn) -/
theorem ok_runs {P : aP} {d : Nat} {K : aK} {I : aI} {R : aR} {S : aS} {top comes turn : Int} (hM : MS R S) (hW : WF (I 362)) (ht : 0 ≤ top ∧ top < I 362 0) (hturn : 0 ≤ turn ∧ turn ≤ 1) (hpl : ∀ v, 0 ≤ v → v < I 362 0 → 0 ≤ I 368 v ∧ I 368 v ≤ 3) (hwd : ∀ v, 1 ≤ v → v < I 362 0 → 1 ≤ I 369 v ∧ I 369 v ≤ 2)
    (hK : ∀ I', Fr [370, 371, 372, 373] I I' → WtOk (I 362) (I 368) (I 369) (I' 370) (I' 371) → TmOk (I 362) (I 368) (I 369) (I' 370) (I' 371) (I' 372) (I' 373) top comes turn → K none I' R S) : Ok P 88 (d + 4) [vr 361, vi top, vi comes, vi turn] I R S K := by
  obtain ⟨m0, r1, m1, r2, m2, r3, m3, r4, m4, r5, m5, r6, m6, r7, m7, r8, m8, r9, m9, r10, m10, r11, m11, r12, m12, r13, m13, r14, m14, r15, m15⟩ := id hM
  have hN := hW.1
  refine Ok.of (by decide) rfl (Nat.le_of_ble_eq_true rfl) ?_
  refine Go.walk 400 [7] E88 E88_ok (fun G C hG hC => ?_)
  (repeat ((conv => whnf); first | refine ⟨_, by assumption, ?_⟩ | refine ⟨_, _, by assumption, ?_⟩ | refine ⟨(show _ ∧ _ by omega), ?_⟩ | refine ⟨(show _ ∨ _ by omega), ?_⟩ | refine ⟨fun h => absurd h (by decide), fun _ => ?_⟩ | refine ⟨fun _ => ?_, fun h => absurd h (by decide)⟩ | refine ⟨fun _ => ?_, fun h => absurd rfl h⟩ | refine ⟨fun h => absurd rfl h, fun _ => ?_⟩)); try (conv => whnf)
  refine hC _ _ _ _ _ _ ?_
  refine ok_weighs hM hW hpl (fun I1 hF1 hWt => ?_)
  have loop : ∀ (k : Nat) (v : Int) (I' : aI) (x5 x6 x7 : aV), top ≤ v → I 362 0 - v = k → Fr [372, 373] I1 I' → (∀ u, top ≤ u → u < v → bel (I 362) u top = true → I' 372 u = mTm (I 362) (I 368) (I 369) (I1 370) (I1 371) (I' 372) top comes u ∧ I' 373 u = mTu (I 362) (I 368) (I' 373) top turn u ∧ 0 ≤ I' 373 u ∧ I' 373 u ≤ 1) → Go P 88 (d + 4) K 7 [vr 361, vi top, vi comes, vi turn, vi v, x5, x6, x7] [] I' R S := by
    intro k
    induction k with
    | zero =>
      intro v I' x5 x6 x7 hv hk hF hE
      have e : I' 362 = I 362 := by rw [hF 362 (by decide), hF1 362 (by decide)]
      refine Go.walk 400 [7] E88 E88_ok (fun G C hG hC => ?_)
      (repeat ((conv => whnf); first | refine ⟨_, by assumption, ?_⟩ | refine ⟨_, _, by assumption, ?_⟩ | refine ⟨(show _ ∧ _ by omega), ?_⟩ | refine ⟨(show _ ∨ _ by omega), ?_⟩ | refine ⟨fun h => absurd h (by decide), fun _ => ?_⟩ | refine ⟨fun _ => ?_, fun h => absurd h (by decide)⟩ | refine ⟨fun _ => ?_, fun h => absurd rfl h⟩ | refine ⟨fun h => absurd rfl h, fun _ => ?_⟩)); try (conv => whnf)
      rw [e]
      refine ⟨by omega, ?_⟩
      refine ⟨fun _ => ?_, fun h => absurd (show I 362 0 ≤ v by omega) h⟩
      (repeat ((conv => whnf); first | refine ⟨_, by assumption, ?_⟩ | refine ⟨_, _, by assumption, ?_⟩ | refine ⟨(show _ ∧ _ by omega), ?_⟩ | refine ⟨(show _ ∨ _ by omega), ?_⟩ | refine ⟨fun h => absurd h (by decide), fun _ => ?_⟩ | refine ⟨fun _ => ?_, fun h => absurd h (by decide)⟩ | refine ⟨fun _ => ?_, fun h => absurd rfl h⟩ | refine ⟨fun h => absurd rfl h, fun _ => ?_⟩)); try (conv => whnf)
      have e0 := hF 370 (by decide)
      have e1 := hF 371 (by decide)
      refine hK I' (hF1.trans hF (by simp; omega)) (by rw [e0, e1]; exact hWt) ?_
      rw [e0, e1]
      intro u h1 h2 h3
      obtain ⟨g1, g2, -⟩ := hE u h1 (by omega) h3
      exact ⟨g1, g2⟩
    | succ k ih =>
      intro v I' x5 x6 x7 hv hk hF hE
      have e : I' 362 = I 362 := by rw [hF 362 (by decide), hF1 362 (by decide)]
      have e8 : I' 368 = I 368 := by rw [hF 368 (by decide), hF1 368 (by decide)]
      have e9 : I' 369 = I 369 := by rw [hF 369 (by decide), hF1 369 (by decide)]
      have e0 : I' 370 = I1 370 := hF 370 (by decide)
      have e1 : I' 371 = I1 371 := hF 371 (by decide)
      have hb := hW.2.1 v (by omega) (by omega)
      have hp := hpl v (by omega) (by omega)
      refine Go.walk 400 [7] E88 E88_ok (fun G C hG hC => ?_)
      (repeat ((conv => whnf); first | refine ⟨_, by assumption, ?_⟩ | refine ⟨_, _, by assumption, ?_⟩ | refine ⟨(show _ ∧ _ by omega), ?_⟩ | refine ⟨(show _ ∨ _ by omega), ?_⟩ | refine ⟨fun h => absurd h (by decide), fun _ => ?_⟩ | refine ⟨fun _ => ?_, fun h => absurd h (by decide)⟩ | refine ⟨fun _ => ?_, fun h => absurd rfl h⟩ | refine ⟨fun h => absurd rfl h, fun _ => ?_⟩)); try (conv => whnf)
      rw [e]
      refine ⟨by omega, ?_⟩
      refine ⟨fun h => absurd h (by omega), fun _ => ?_⟩
      (repeat ((conv => whnf); first | refine ⟨_, by assumption, ?_⟩ | refine ⟨_, _, by assumption, ?_⟩ | refine ⟨(show _ ∧ _ by omega), ?_⟩ | refine ⟨(show _ ∨ _ by omega), ?_⟩ | refine ⟨fun h => absurd h (by decide), fun _ => ?_⟩ | refine ⟨fun _ => ?_, fun h => absurd h (by decide)⟩ | refine ⟨fun _ => ?_, fun h => absurd rfl h⟩ | refine ⟨fun h => absurd rfl h, fun _ => ?_⟩)); try (conv => whnf)
      refine hC _ _ _ _ _ _ ?_
      refine ok_isBelow hM (by rw [e]; exact hW) (by omega) (by omega) (fun hbel => ?_) (fun hbel => ?_)
      · rw [e] at hbel
        have hend : ∀ (x5 x6 x7 : aV) (z y : Int), z = mTm (I 362) (I 368) (I 369) (I1 370) (I1 371) (I' 372) top comes v → y = mTu (I 362) (I 368) (I' 373) top turn v → 0 ≤ y → y ≤ 1 → Go P 88 (d + 4) K 7 [vr 361, vi top, vi comes, vi turn, vi (v + 1), x5, x6, x7] [] (uI (uI I' 372 v z) 373 v y) R S := by
          intro x5 x6 x7 z y hz hy hy0 hy1
          refine ih (v + 1) _ _ _ _ (by omega) (by omega) ((hF.put (by decide)).put (by decide)) (fun u h1 h2 h3 => ?_)
          have hup : ¬ u = top → nf (I 362) u 0 < u := fun h => (bel_up hW ht.1 (by omega) h3 h).2.2.1
          have c1 : mTm (I 362) (I 368) (I 369) (I1 370) (I1 371) (uI (uI I' 372 v z) 373 v y 372) top comes u = mTm (I 362) (I 368) (I 369) (I1 370) (I1 371) (I' 372) top comes u := mTm_cong (fun h => by have := hup h; rw [uI_ne (by omega), uI_ne (by omega)])
          have c2 : mTu (I 362) (I 368) (uI (uI I' 372 v z) 373 v y 373) top turn u = mTu (I 362) (I 368) (I' 373) top turn u := mTu_cong (fun h => by have := hup h; rw [uI_ne (by omega), uI_ne (by omega)])
          rw [c1, c2]
          by_cases hu : u = v
          · subst hu
            rw [uI_at, uI_ne (by omega), uI_at]
            exact ⟨hz, hy, hy0, hy1⟩
          · rw [uI_ne (by omega), uI_ne (by omega), uI_ne (by omega), uI_ne (by omega)]
            exact hE u h1 (by omega) h3
        have f8 : ∀ z x, uI I' 372 v z 368 x = I 368 x := fun z x => by rw [uI_ne (by omega), e8]
        have f62 : ∀ z, uI I' 372 v z 362 = I 362 := fun z => by funext x; rw [uI_ne (by omega), e]
        have f3 : ∀ z x, uI I' 372 v z 373 x = I' 373 x := fun z x => by rw [uI_ne (by omega)]
        (repeat ((conv => whnf); first | refine ⟨_, by assumption, ?_⟩ | refine ⟨_, _, by assumption, ?_⟩ | refine ⟨(show _ ∧ _ by omega), ?_⟩ | refine ⟨(show _ ∨ _ by omega), ?_⟩ | refine ⟨fun h => absurd h (by decide), fun _ => ?_⟩ | refine ⟨fun _ => ?_, fun h => absurd h (by decide)⟩ | refine ⟨fun _ => ?_, fun h => absurd rfl h⟩ | refine ⟨fun h => absurd rfl h, fun _ => ?_⟩)); try (conv => whnf)
        refine hC _ _ _ _ _ _ ?_
        refine ok_of hM (by omega) ?_
        rw [e]
        (repeat ((conv => whnf); first | refine ⟨_, by assumption, ?_⟩ | refine ⟨_, _, by assumption, ?_⟩ | refine ⟨(show _ ∧ _ by omega), ?_⟩ | refine ⟨(show _ ∨ _ by omega), ?_⟩ | refine ⟨fun h => absurd h (by decide), fun _ => ?_⟩ | refine ⟨fun _ => ?_, fun h => absurd h (by decide)⟩ | refine ⟨fun _ => ?_, fun h => absurd rfl h⟩ | refine ⟨fun h => absurd rfl h, fun _ => ?_⟩)); try (conv => whnf)
        refine ⟨fun hne => ?_, fun heq => ?_⟩
        · have hup := bel_up hW ht.1 (by omega) hbel hne
          have hw := hwd v (by omega) (by omega)
          have hE1 := hE (nf (I 362) v 0) hup.2.1 hup.2.2.1 hup.2.2.2
          have hyb : mTu (I 362) (I 368) (I' 373) top turn v = (I' 373 (nf (I 362) v 0) + (if 0 < I 368 v then kf (I 362) (I 368 v) 5 else 0)) % 2 := by rw [mTu, if_neg hne]
          (repeat ((conv => whnf); first | refine ⟨_, by assumption, ?_⟩ | refine ⟨_, _, by assumption, ?_⟩ | refine ⟨(show _ ∧ _ by omega), ?_⟩ | refine ⟨(show _ ∨ _ by omega), ?_⟩ | refine ⟨fun h => absurd h (by decide), fun _ => ?_⟩ | refine ⟨fun _ => ?_, fun h => absurd h (by decide)⟩ | refine ⟨fun _ => ?_, fun h => absurd rfl h⟩ | refine ⟨fun h => absurd rfl h, fun _ => ?_⟩)); try (conv => whnf)
          refine hC _ _ _ _ _ _ ?_
          refine ok_of hM (by omega) ?_
          rw [e]
          (repeat ((conv => whnf); first | refine ⟨_, by assumption, ?_⟩ | refine ⟨_, _, by assumption, ?_⟩ | refine ⟨(show _ ∧ _ by omega), ?_⟩ | refine ⟨(show _ ∨ _ by omega), ?_⟩ | refine ⟨fun h => absurd h (by decide), fun _ => ?_⟩ | refine ⟨fun _ => ?_, fun h => absurd h (by decide)⟩ | refine ⟨fun _ => ?_, fun h => absurd rfl h⟩ | refine ⟨fun h => absurd rfl h, fun _ => ?_⟩)); try (conv => whnf)
          refine hC _ _ _ _ _ _ ?_
          refine ok_of hM (by omega) ?_
          rw [e]
          (repeat ((conv => whnf); first | refine ⟨_, by assumption, ?_⟩ | refine ⟨_, _, by assumption, ?_⟩ | refine ⟨(show _ ∧ _ by omega), ?_⟩ | refine ⟨(show _ ∨ _ by omega), ?_⟩ | refine ⟨fun h => absurd h (by decide), fun _ => ?_⟩ | refine ⟨fun _ => ?_, fun h => absurd h (by decide)⟩ | refine ⟨fun _ => ?_, fun h => absurd rfl h⟩ | refine ⟨fun h => absurd rfl h, fun _ => ?_⟩)); try (conv => whnf)
          rw [e9]
          refine ⟨by omega, ?_⟩
          (repeat ((conv => whnf); first | refine ⟨_, by assumption, ?_⟩ | refine ⟨_, _, by assumption, ?_⟩ | refine ⟨(show _ ∧ _ by omega), ?_⟩ | refine ⟨(show _ ∨ _ by omega), ?_⟩ | refine ⟨fun h => absurd h (by decide), fun _ => ?_⟩ | refine ⟨fun _ => ?_, fun h => absurd h (by decide)⟩ | refine ⟨fun _ => ?_, fun h => absurd rfl h⟩ | refine ⟨fun h => absurd rfl h, fun _ => ?_⟩)); try (conv => whnf)
          refine hC _ _ _ _ _ _ ?_
          refine ok_of hM (by omega) ?_
          rw [e]
          (repeat ((conv => whnf); first | refine ⟨_, by assumption, ?_⟩ | refine ⟨_, _, by assumption, ?_⟩ | refine ⟨(show _ ∧ _ by omega), ?_⟩ | refine ⟨(show _ ∨ _ by omega), ?_⟩ | refine ⟨fun h => absurd h (by decide), fun _ => ?_⟩ | refine ⟨fun _ => ?_, fun h => absurd h (by decide)⟩ | refine ⟨fun _ => ?_, fun h => absurd rfl h⟩ | refine ⟨fun h => absurd rfl h, fun _ => ?_⟩)); try (conv => whnf)
          refine hC _ _ _ _ _ _ ?_
          refine ok_adds hM (by omega) (by rw [e8]; exact hp) ?_
          rw [e, e8, e0, e1]
          (repeat ((conv => whnf); first | refine ⟨_, by assumption, ?_⟩ | refine ⟨_, _, by assumption, ?_⟩ | refine ⟨(show _ ∧ _ by omega), ?_⟩ | refine ⟨(show _ ∨ _ by omega), ?_⟩ | refine ⟨fun h => absurd h (by decide), fun _ => ?_⟩ | refine ⟨fun _ => ?_, fun h => absurd h (by decide)⟩ | refine ⟨fun _ => ?_, fun h => absurd rfl h⟩ | refine ⟨fun h => absurd rfl h, fun _ => ?_⟩)); try (conv => whnf)
          rw [f8]
          refine ⟨by omega, ?_⟩
          refine ⟨fun h => ?_, fun h => ?_⟩
          · rw [if_neg (by omega)] at hyb
            (repeat ((conv => whnf); first | refine ⟨_, by assumption, ?_⟩ | refine ⟨_, _, by assumption, ?_⟩ | refine ⟨(show _ ∧ _ by omega), ?_⟩ | refine ⟨(show _ ∨ _ by omega), ?_⟩ | refine ⟨fun h => absurd h (by decide), fun _ => ?_⟩ | refine ⟨fun _ => ?_, fun h => absurd h (by decide)⟩ | refine ⟨fun _ => ?_, fun h => absurd rfl h⟩ | refine ⟨fun h => absurd rfl h, fun _ => ?_⟩)); try (conv => whnf)
            refine ⟨fun _ => ?_, fun h2 => absurd h2 hne⟩
            (repeat ((conv => whnf); first | refine ⟨_, by assumption, ?_⟩ | refine ⟨_, _, by assumption, ?_⟩ | refine ⟨(show _ ∧ _ by omega), ?_⟩ | refine ⟨(show _ ∨ _ by omega), ?_⟩ | refine ⟨fun h => absurd h (by decide), fun _ => ?_⟩ | refine ⟨fun _ => ?_, fun h => absurd h (by decide)⟩ | refine ⟨fun _ => ?_, fun h => absurd rfl h⟩ | refine ⟨fun h => absurd rfl h, fun _ => ?_⟩)); try (conv => whnf)
            rw [f3]
            refine ⟨by omega, ?_⟩
            (repeat ((conv => whnf); first | refine ⟨_, by assumption, ?_⟩ | refine ⟨_, _, by assumption, ?_⟩ | refine ⟨(show _ ∧ _ by omega), ?_⟩ | refine ⟨(show _ ∨ _ by omega), ?_⟩ | refine ⟨fun h => absurd h (by decide), fun _ => ?_⟩ | refine ⟨fun _ => ?_, fun h => absurd h (by decide)⟩ | refine ⟨fun _ => ?_, fun h => absurd rfl h⟩ | refine ⟨fun h => absurd rfl h, fun _ => ?_⟩)); try (conv => whnf)
            refine hG _ _ _ _ _ _ ?_
            refine hend _ _ _ _ _ (by rw [mTm, if_neg hne]) (by rw [hyb]) (by omega) (by omega)
          · rw [if_pos (by omega)] at hyb
            have hk5 := (hW.2.2.2.2.2 (I 368 v) (by omega) (by omega)).2.2.2.2.2
            (repeat ((conv => whnf); first | refine ⟨_, by assumption, ?_⟩ | refine ⟨_, _, by assumption, ?_⟩ | refine ⟨(show _ ∧ _ by omega), ?_⟩ | refine ⟨(show _ ∨ _ by omega), ?_⟩ | refine ⟨fun h => absurd h (by decide), fun _ => ?_⟩ | refine ⟨fun _ => ?_, fun h => absurd h (by decide)⟩ | refine ⟨fun _ => ?_, fun h => absurd rfl h⟩ | refine ⟨fun h => absurd rfl h, fun _ => ?_⟩)); try (conv => whnf)
            rw [f8]
            refine hC _ _ _ _ _ _ ?_
            refine ok_ofKind hM (by omega) ?_
            rw [f62]
            (repeat ((conv => whnf); first | refine ⟨_, by assumption, ?_⟩ | refine ⟨_, _, by assumption, ?_⟩ | refine ⟨(show _ ∧ _ by omega), ?_⟩ | refine ⟨(show _ ∨ _ by omega), ?_⟩ | refine ⟨fun h => absurd h (by decide), fun _ => ?_⟩ | refine ⟨fun _ => ?_, fun h => absurd h (by decide)⟩ | refine ⟨fun _ => ?_, fun h => absurd rfl h⟩ | refine ⟨fun h => absurd rfl h, fun _ => ?_⟩)); try (conv => whnf)
            refine ⟨fun _ => ?_, fun h2 => absurd h2 hne⟩
            (repeat ((conv => whnf); first | refine ⟨_, by assumption, ?_⟩ | refine ⟨_, _, by assumption, ?_⟩ | refine ⟨(show _ ∧ _ by omega), ?_⟩ | refine ⟨(show _ ∨ _ by omega), ?_⟩ | refine ⟨fun h => absurd h (by decide), fun _ => ?_⟩ | refine ⟨fun _ => ?_, fun h => absurd h (by decide)⟩ | refine ⟨fun _ => ?_, fun h => absurd rfl h⟩ | refine ⟨fun h => absurd rfl h, fun _ => ?_⟩)); try (conv => whnf)
            rw [f3]
            refine ⟨by omega, ?_⟩
            (repeat ((conv => whnf); first | refine ⟨_, by assumption, ?_⟩ | refine ⟨_, _, by assumption, ?_⟩ | refine ⟨(show _ ∧ _ by omega), ?_⟩ | refine ⟨(show _ ∨ _ by omega), ?_⟩ | refine ⟨fun h => absurd h (by decide), fun _ => ?_⟩ | refine ⟨fun _ => ?_, fun h => absurd h (by decide)⟩ | refine ⟨fun _ => ?_, fun h => absurd rfl h⟩ | refine ⟨fun h => absurd rfl h, fun _ => ?_⟩)); try (conv => whnf)
            refine hG _ _ _ _ _ _ ?_
            refine hend _ _ _ _ _ (by rw [mTm, if_neg hne]) (by rw [hyb]) (by omega) (by omega)
        · have hyb : mTu (I 362) (I 368) (I' 373) top turn v = (turn + (if 0 < I 368 v then kf (I 362) (I 368 v) 5 else 0)) % 2 := by rw [mTu, if_pos heq]
          (repeat ((conv => whnf); first | refine ⟨_, by assumption, ?_⟩ | refine ⟨_, _, by assumption, ?_⟩ | refine ⟨(show _ ∧ _ by omega), ?_⟩ | refine ⟨(show _ ∨ _ by omega), ?_⟩ | refine ⟨fun h => absurd h (by decide), fun _ => ?_⟩ | refine ⟨fun _ => ?_, fun h => absurd h (by decide)⟩ | refine ⟨fun _ => ?_, fun h => absurd rfl h⟩ | refine ⟨fun h => absurd rfl h, fun _ => ?_⟩)); try (conv => whnf)
          refine hC _ _ _ _ _ _ ?_
          refine ok_adds hM (by omega) (by rw [e8]; exact hp) ?_
          rw [e, e8, e0]
          (repeat ((conv => whnf); first | refine ⟨_, by assumption, ?_⟩ | refine ⟨_, _, by assumption, ?_⟩ | refine ⟨(show _ ∧ _ by omega), ?_⟩ | refine ⟨(show _ ∨ _ by omega), ?_⟩ | refine ⟨fun h => absurd h (by decide), fun _ => ?_⟩ | refine ⟨fun _ => ?_, fun h => absurd h (by decide)⟩ | refine ⟨fun _ => ?_, fun h => absurd rfl h⟩ | refine ⟨fun h => absurd rfl h, fun _ => ?_⟩)); try (conv => whnf)
          rw [f8]
          refine ⟨by omega, ?_⟩
          refine ⟨fun h => ?_, fun h => ?_⟩
          · rw [if_neg (by omega)] at hyb
            (repeat ((conv => whnf); first | refine ⟨_, by assumption, ?_⟩ | refine ⟨_, _, by assumption, ?_⟩ | refine ⟨(show _ ∧ _ by omega), ?_⟩ | refine ⟨(show _ ∨ _ by omega), ?_⟩ | refine ⟨fun h => absurd h (by decide), fun _ => ?_⟩ | refine ⟨fun _ => ?_, fun h => absurd h (by decide)⟩ | refine ⟨fun _ => ?_, fun h => absurd rfl h⟩ | refine ⟨fun h => absurd rfl h, fun _ => ?_⟩)); try (conv => whnf)
            refine ⟨fun h2 => absurd heq h2, fun _ => ?_⟩
            (repeat ((conv => whnf); first | refine ⟨_, by assumption, ?_⟩ | refine ⟨_, _, by assumption, ?_⟩ | refine ⟨(show _ ∧ _ by omega), ?_⟩ | refine ⟨(show _ ∨ _ by omega), ?_⟩ | refine ⟨fun h => absurd h (by decide), fun _ => ?_⟩ | refine ⟨fun _ => ?_, fun h => absurd h (by decide)⟩ | refine ⟨fun _ => ?_, fun h => absurd rfl h⟩ | refine ⟨fun h => absurd rfl h, fun _ => ?_⟩)); try (conv => whnf)
            refine hG _ _ _ _ _ _ ?_
            refine hend _ _ _ _ _ (by rw [mTm, if_pos heq]) (by rw [hyb]) (by omega) (by omega)
          · rw [if_pos (by omega)] at hyb
            have hk5 := (hW.2.2.2.2.2 (I 368 v) (by omega) (by omega)).2.2.2.2.2
            (repeat ((conv => whnf); first | refine ⟨_, by assumption, ?_⟩ | refine ⟨_, _, by assumption, ?_⟩ | refine ⟨(show _ ∧ _ by omega), ?_⟩ | refine ⟨(show _ ∨ _ by omega), ?_⟩ | refine ⟨fun h => absurd h (by decide), fun _ => ?_⟩ | refine ⟨fun _ => ?_, fun h => absurd h (by decide)⟩ | refine ⟨fun _ => ?_, fun h => absurd rfl h⟩ | refine ⟨fun h => absurd rfl h, fun _ => ?_⟩)); try (conv => whnf)
            rw [f8]
            refine hC _ _ _ _ _ _ ?_
            refine ok_ofKind hM (by omega) ?_
            rw [f62]
            (repeat ((conv => whnf); first | refine ⟨_, by assumption, ?_⟩ | refine ⟨_, _, by assumption, ?_⟩ | refine ⟨(show _ ∧ _ by omega), ?_⟩ | refine ⟨(show _ ∨ _ by omega), ?_⟩ | refine ⟨fun h => absurd h (by decide), fun _ => ?_⟩ | refine ⟨fun _ => ?_, fun h => absurd h (by decide)⟩ | refine ⟨fun _ => ?_, fun h => absurd rfl h⟩ | refine ⟨fun h => absurd rfl h, fun _ => ?_⟩)); try (conv => whnf)
            refine ⟨fun h2 => absurd heq h2, fun _ => ?_⟩
            (repeat ((conv => whnf); first | refine ⟨_, by assumption, ?_⟩ | refine ⟨_, _, by assumption, ?_⟩ | refine ⟨(show _ ∧ _ by omega), ?_⟩ | refine ⟨(show _ ∨ _ by omega), ?_⟩ | refine ⟨fun h => absurd h (by decide), fun _ => ?_⟩ | refine ⟨fun _ => ?_, fun h => absurd h (by decide)⟩ | refine ⟨fun _ => ?_, fun h => absurd rfl h⟩ | refine ⟨fun h => absurd rfl h, fun _ => ?_⟩)); try (conv => whnf)
            refine hG _ _ _ _ _ _ ?_
            refine hend _ _ _ _ _ (by rw [mTm, if_pos heq]) (by rw [hyb]) (by omega) (by omega)
      · rw [e] at hbel
        (repeat ((conv => whnf); first | refine ⟨_, by assumption, ?_⟩ | refine ⟨_, _, by assumption, ?_⟩ | refine ⟨(show _ ∧ _ by omega), ?_⟩ | refine ⟨(show _ ∨ _ by omega), ?_⟩ | refine ⟨fun h => absurd h (by decide), fun _ => ?_⟩ | refine ⟨fun _ => ?_, fun h => absurd h (by decide)⟩ | refine ⟨fun _ => ?_, fun h => absurd rfl h⟩ | refine ⟨fun h => absurd rfl h, fun _ => ?_⟩)); try (conv => whnf)
        refine hG _ _ _ _ _ _ ?_
        refine ih (v + 1) I' _ _ _ (by omega) (by omega) hF (fun u h1 h2 h3 => ?_)
        by_cases hu : u = v
        · subst hu; rw [hbel] at h3; cases h3
        · exact hE u h1 (by omega) h3
  (repeat ((conv => whnf); first | refine ⟨_, by assumption, ?_⟩ | refine ⟨_, _, by assumption, ?_⟩ | refine ⟨(show _ ∧ _ by omega), ?_⟩ | refine ⟨(show _ ∨ _ by omega), ?_⟩ | refine ⟨fun h => absurd h (by decide), fun _ => ?_⟩ | refine ⟨fun _ => ?_, fun h => absurd h (by decide)⟩ | refine ⟨fun _ => ?_, fun h => absurd rfl h⟩ | refine ⟨fun h => absurd rfl h, fun _ => ?_⟩)); try (conv => whnf)
  refine hG _ _ _ _ _ _ ?_
  exact loop (I 362 0 - top).toNat top I1 _ _ _ (by omega) (by omega) Fr.rf (fun u h1 h2 => absurd h2 (by omega))
