/-! the reference: weighs, adds, runs -/
def wt1 (n : aN) (wd sh : Int → Int) (v u : Int) : Int := if nf n u 0 = v then nf n u 2 * wd u + sh u else 0
def mBear (n : aN) (wd sh : Int → Int) (v : Int) : Int := rf (fun u s => s + wt1 n wd sh v u) (if mEnd n v = true then nf n v 4 else 0) (v + 1) (n 0)
def mShow (n : aN) (pl be : Int → Int) (v : Int) : Int := if 0 < pl v then kf n (pl v) 1 else be v
def WtOk (n : aN) (pl wd be sh : Int → Int) : Prop := ∀ v, 0 ≤ v → v < n 0 → be v = mBear n wd sh v ∧ sh v = mShow n pl be v
theorem mBear_cong {n : aN} {wd sh sh' : Int → Int} {v : Int} (h : ∀ w, v < w → w < n 0 → sh' w = sh w) : mBear n wd sh' v = mBear n wd sh v := by
  unfold mBear
  apply rf_cong
  intro u h1 h2 x
  simp only [wt1]
  rw [h u (by omega) h2]
/-- weighs() -/
theorem ok_weighs {P : aP} {d : Nat} {K : aK} {I : aI} {R : aR} {S : aS} (hM : MS R S) (hW : WF (I 362)) (hpl : ∀ v, 0 ≤ v → v < I 362 0 → 0 ≤ I 368 v ∧ I 368 v ≤ 3) (hK : ∀ I', Fr [370, 371] I I' → WtOk (I 362) (I 368) (I 369) (I' 370) (I' 371) → K none I' R S) : Ok P 86 (d + 3) [vr 361] I R S K := by
  obtain ⟨m0, r1, m1, r2, m2, r3, m3, r4, m4, r5, m5, r6, m6, r7, m7, r8, m8, r9, m9, r10, m10, r11, m11, r12, m12, r13, m13, r14, m14, r15, m15⟩ := id hM
  have hN := hW.1
  have outer : ∀ (k : Nat) (v : Int) (I' : aI) (x2 x3 : aV), v + 1 = k → v < I 362 0 → Fr [370, 371] I I' → (∀ u, v < u → u < I 362 0 → I' 370 u = mBear (I 362) (I 369) (I' 371) u ∧ I' 371 u = mShow (I 362) (I 368) (I' 370) u) → Go P 86 (d + 3) K 9 [vr 361, vi v, x2, x3] [] I' R S := by
    intro k
    induction k with
    | zero =>
      intro v I' x2 x3 hk hv hF hE
      refine Go.walk 400 [9, 36] E86 E86_ok (fun G C hG hC => ?_)
      (repeat ((conv => whnf); first | refine ⟨_, by assumption, ?_⟩ | refine ⟨_, _, by assumption, ?_⟩ | refine ⟨(show _ ∧ _ by omega), ?_⟩ | refine ⟨(show _ ∨ _ by omega), ?_⟩ | refine ⟨fun h => absurd h (by decide), fun _ => ?_⟩ | refine ⟨fun _ => ?_, fun h => absurd h (by decide)⟩ | refine ⟨fun _ => ?_, fun h => absurd rfl h⟩ | refine ⟨fun h => absurd rfl h, fun _ => ?_⟩)); try (conv => whnf)
      refine ⟨fun _ => ?_, fun h => absurd (show v < 0 by omega) h⟩
      (repeat ((conv => whnf); first | refine ⟨_, by assumption, ?_⟩ | refine ⟨_, _, by assumption, ?_⟩ | refine ⟨(show _ ∧ _ by omega), ?_⟩ | refine ⟨(show _ ∨ _ by omega), ?_⟩ | refine ⟨fun h => absurd h (by decide), fun _ => ?_⟩ | refine ⟨fun _ => ?_, fun h => absurd h (by decide)⟩ | refine ⟨fun _ => ?_, fun h => absurd rfl h⟩ | refine ⟨fun h => absurd rfl h, fun _ => ?_⟩)); try (conv => whnf)
      exact hK I' hF (fun u h1 h2 => hE u (by omega) h2)
    | succ k ih =>
      intro v I' x2 x3 hk hv hF hE
      have e := hF 362 (by decide)
      have e8 := hF 368 (by decide)
      have e9 := hF 369 (by decide)
      have inner : ∀ (j : Nat) (u sum : Int), v + 1 ≤ u → I 362 0 - u = j → sum = rf (fun u s => s + wt1 (I 362) (I 369) (I' 371) v u) (if mEnd (I 362) v = true then nf (I 362) v 4 else 0) (v + 1) u → Go P 86 (d + 3) K 36 [vr 361, vi v, vi sum, vi u] [] I' R S := by
        intro j
        induction j with
        | zero =>
          intro u sum hu hj hs
          have hb := hpl v (by omega) hv
          have hend : ∀ z, z = mShow (I 362) (I 368) (uI I' 370 v sum 370) v → Go P 86 (d + 3) K 9 [vr 361, vi (v + -1), vi sum, vi u] [] (uI (uI I' 370 v sum) 371 v z) R S := by
            intro z hz
            refine ih (v + -1) _ _ _ (by omega) (by omega) ((hF.put (by decide)).put (by decide)) (fun w h1 h2 => ?_)
            have hc : ∀ x, v ≤ x → mBear (I 362) (I 369) (uI (uI I' 370 v sum) 371 v z 371) x = mBear (I 362) (I 369) (I' 371) x := by
              intro x hx
              apply mBear_cong
              intro y h3 h4
              rw [uI_ne (by omega), uI_ne (by omega)]
            by_cases hw : w = v
            · subst hw
              refine ⟨?_, ?_⟩
              · rw [hc w (by omega), uI_ne (by omega), uI_at, hs, mBear, show I 362 0 = u by omega]
              · rw [uI_at, hz]
                simp only [mShow]
                rw [uI_ne (a := 371) (by omega)]
            · obtain ⟨g1, g2⟩ := hE w (by omega) h2
              refine ⟨?_, ?_⟩
              · rw [hc w (by omega), uI_ne (by omega), uI_ne (by omega)]; exact g1
              · rw [uI_ne (by omega), uI_ne (by omega), g2]
                simp only [mShow]
                rw [uI_ne (a := 371) (by omega), uI_ne (a := 370) (by omega)]
          have e8' : ∀ x, uI I' 370 v sum 368 x = I 368 x := fun x => by rw [uI_ne (by omega), e8]
          have e62 : uI I' 370 v sum 362 = I 362 := by funext x; rw [uI_ne (by omega), e]
          refine Go.walk 400 [9, 36] E86 E86_ok (fun G C hG hC => ?_)
          (repeat ((conv => whnf); first | refine ⟨_, by assumption, ?_⟩ | refine ⟨_, _, by assumption, ?_⟩ | refine ⟨(show _ ∧ _ by omega), ?_⟩ | refine ⟨(show _ ∨ _ by omega), ?_⟩ | refine ⟨fun h => absurd h (by decide), fun _ => ?_⟩ | refine ⟨fun _ => ?_, fun h => absurd h (by decide)⟩ | refine ⟨fun _ => ?_, fun h => absurd rfl h⟩ | refine ⟨fun h => absurd rfl h, fun _ => ?_⟩)); try (conv => whnf)
          rw [e]
          refine ⟨by omega, ?_⟩
          refine ⟨fun _ => ?_, fun h => absurd (show I 362 0 ≤ u by omega) h⟩
          (repeat ((conv => whnf); first | refine ⟨_, by assumption, ?_⟩ | refine ⟨_, _, by assumption, ?_⟩ | refine ⟨(show _ ∧ _ by omega), ?_⟩ | refine ⟨(show _ ∨ _ by omega), ?_⟩ | refine ⟨fun h => absurd h (by decide), fun _ => ?_⟩ | refine ⟨fun _ => ?_, fun h => absurd h (by decide)⟩ | refine ⟨fun _ => ?_, fun h => absurd rfl h⟩ | refine ⟨fun h => absurd rfl h, fun _ => ?_⟩)); try (conv => whnf)
          rw [e8']
          refine ⟨by omega, ?_⟩
          refine ⟨fun h => ?_, fun h => ?_⟩
          · (repeat ((conv => whnf); first | refine ⟨_, by assumption, ?_⟩ | refine ⟨_, _, by assumption, ?_⟩ | refine ⟨(show _ ∧ _ by omega), ?_⟩ | refine ⟨(show _ ∨ _ by omega), ?_⟩ | refine ⟨fun h => absurd h (by decide), fun _ => ?_⟩ | refine ⟨fun _ => ?_, fun h => absurd h (by decide)⟩ | refine ⟨fun _ => ?_, fun h => absurd rfl h⟩ | refine ⟨fun h => absurd rfl h, fun _ => ?_⟩)); try (conv => whnf)
            refine hG _ _ _ _ _ _ ?_
            exact hend sum (by rw [mShow, if_neg (by omega), uI_at])
          · (repeat ((conv => whnf); first | refine ⟨_, by assumption, ?_⟩ | refine ⟨_, _, by assumption, ?_⟩ | refine ⟨(show _ ∧ _ by omega), ?_⟩ | refine ⟨(show _ ∨ _ by omega), ?_⟩ | refine ⟨fun h => absurd h (by decide), fun _ => ?_⟩ | refine ⟨fun _ => ?_, fun h => absurd h (by decide)⟩ | refine ⟨fun _ => ?_, fun h => absurd rfl h⟩ | refine ⟨fun h => absurd rfl h, fun _ => ?_⟩)); try (conv => whnf)
            rw [e8']
            refine hC _ _ _ _ _ _ ?_
            refine ok_ofKind hM (by omega) ?_
            (repeat ((conv => whnf); first | refine ⟨_, by assumption, ?_⟩ | refine ⟨_, _, by assumption, ?_⟩ | refine ⟨(show _ ∧ _ by omega), ?_⟩ | refine ⟨(show _ ∨ _ by omega), ?_⟩ | refine ⟨fun h => absurd h (by decide), fun _ => ?_⟩ | refine ⟨fun _ => ?_, fun h => absurd h (by decide)⟩ | refine ⟨fun _ => ?_, fun h => absurd rfl h⟩ | refine ⟨fun h => absurd rfl h, fun _ => ?_⟩)); try (conv => whnf)
            refine hG _ _ _ _ _ _ ?_
            exact hend _ (by rw [mShow, if_pos (by omega), e62])
        | succ j ihj =>
          intro u sum hu hj hs
          have hb := (hW.2.1 u (by omega) (by omega)).1
          refine Go.walk 400 [9, 36] E86 E86_ok (fun G C hG hC => ?_)
          (repeat ((conv => whnf); first | refine ⟨_, by assumption, ?_⟩ | refine ⟨_, _, by assumption, ?_⟩ | refine ⟨(show _ ∧ _ by omega), ?_⟩ | refine ⟨(show _ ∨ _ by omega), ?_⟩ | refine ⟨fun h => absurd h (by decide), fun _ => ?_⟩ | refine ⟨fun _ => ?_, fun h => absurd h (by decide)⟩ | refine ⟨fun _ => ?_, fun h => absurd rfl h⟩ | refine ⟨fun h => absurd rfl h, fun _ => ?_⟩)); try (conv => whnf)
          rw [e]
          refine ⟨by omega, ?_⟩
          refine ⟨fun h => absurd h (by omega), fun _ => ?_⟩
          (repeat ((conv => whnf); first | refine ⟨_, by assumption, ?_⟩ | refine ⟨_, _, by assumption, ?_⟩ | refine ⟨(show _ ∧ _ by omega), ?_⟩ | refine ⟨(show _ ∨ _ by omega), ?_⟩ | refine ⟨fun h => absurd h (by decide), fun _ => ?_⟩ | refine ⟨fun _ => ?_, fun h => absurd h (by decide)⟩ | refine ⟨fun _ => ?_, fun h => absurd rfl h⟩ | refine ⟨fun h => absurd rfl h, fun _ => ?_⟩)); try (conv => whnf)
          refine hC _ _ _ _ _ _ ?_
          refine ok_of hM (by omega) ?_
          (repeat ((conv => whnf); first | refine ⟨_, by assumption, ?_⟩ | refine ⟨_, _, by assumption, ?_⟩ | refine ⟨(show _ ∧ _ by omega), ?_⟩ | refine ⟨(show _ ∨ _ by omega), ?_⟩ | refine ⟨fun h => absurd h (by decide), fun _ => ?_⟩ | refine ⟨fun _ => ?_, fun h => absurd h (by decide)⟩ | refine ⟨fun _ => ?_, fun h => absurd rfl h⟩ | refine ⟨fun h => absurd rfl h, fun _ => ?_⟩)); try (conv => whnf)
          rw [e]
          refine ⟨by omega, ?_⟩
          refine ⟨fun h => ?_, fun h => ?_⟩
          · (repeat ((conv => whnf); first | refine ⟨_, by assumption, ?_⟩ | refine ⟨_, _, by assumption, ?_⟩ | refine ⟨(show _ ∧ _ by omega), ?_⟩ | refine ⟨(show _ ∨ _ by omega), ?_⟩ | refine ⟨fun h => absurd h (by decide), fun _ => ?_⟩ | refine ⟨fun _ => ?_, fun h => absurd h (by decide)⟩ | refine ⟨fun _ => ?_, fun h => absurd rfl h⟩ | refine ⟨fun h => absurd rfl h, fun _ => ?_⟩)); try (conv => whnf)
            refine hG _ _ _ _ _ _ ?_
            refine ihj (u + 1) (sum + 0) (by omega) (by omega) ?_
            rw [rf_succ hu, ← hs, wt1, if_neg h]
          · (repeat ((conv => whnf); first | refine ⟨_, by assumption, ?_⟩ | refine ⟨_, _, by assumption, ?_⟩ | refine ⟨(show _ ∧ _ by omega), ?_⟩ | refine ⟨(show _ ∨ _ by omega), ?_⟩ | refine ⟨fun h => absurd h (by decide), fun _ => ?_⟩ | refine ⟨fun _ => ?_, fun h => absurd h (by decide)⟩ | refine ⟨fun _ => ?_, fun h => absurd rfl h⟩ | refine ⟨fun h => absurd rfl h, fun _ => ?_⟩)); try (conv => whnf)
            refine hC _ _ _ _ _ _ ?_
            refine ok_of hM (by omega) ?_
            (repeat ((conv => whnf); first | refine ⟨_, by assumption, ?_⟩ | refine ⟨_, _, by assumption, ?_⟩ | refine ⟨(show _ ∧ _ by omega), ?_⟩ | refine ⟨(show _ ∨ _ by omega), ?_⟩ | refine ⟨fun h => absurd h (by decide), fun _ => ?_⟩ | refine ⟨fun _ => ?_, fun h => absurd h (by decide)⟩ | refine ⟨fun _ => ?_, fun h => absurd rfl h⟩ | refine ⟨fun h => absurd rfl h, fun _ => ?_⟩)); try (conv => whnf)
            refine hG _ _ _ _ _ _ ?_
            refine ihj (u + 1) _ (by omega) (by omega) ?_
            rw [rf_succ hu, ← hs, wt1, if_pos h, e, e9]
      refine Go.walk 400 [9, 36] E86 E86_ok (fun G C hG hC => ?_)
      (repeat ((conv => whnf); first | refine ⟨_, by assumption, ?_⟩ | refine ⟨_, _, by assumption, ?_⟩ | refine ⟨(show _ ∧ _ by omega), ?_⟩ | refine ⟨(show _ ∨ _ by omega), ?_⟩ | refine ⟨fun h => absurd h (by decide), fun _ => ?_⟩ | refine ⟨fun _ => ?_, fun h => absurd h (by decide)⟩ | refine ⟨fun _ => ?_, fun h => absurd rfl h⟩ | refine ⟨fun h => absurd rfl h, fun _ => ?_⟩)); try (conv => whnf)
      refine ⟨fun h => absurd h (by omega), fun _ => ?_⟩
      (repeat ((conv => whnf); first | refine ⟨_, by assumption, ?_⟩ | refine ⟨_, _, by assumption, ?_⟩ | refine ⟨(show _ ∧ _ by omega), ?_⟩ | refine ⟨(show _ ∨ _ by omega), ?_⟩ | refine ⟨fun h => absurd h (by decide), fun _ => ?_⟩ | refine ⟨fun _ => ?_, fun h => absurd h (by decide)⟩ | refine ⟨fun _ => ?_, fun h => absurd rfl h⟩ | refine ⟨fun h => absurd rfl h, fun _ => ?_⟩)); try (conv => whnf)
      refine hC _ _ _ _ _ _ ?_
      refine ok_isEnd hM (by rw [e]; exact hW) (by omega) (fun h => ?_) (fun h => ?_)
      · rw [e] at h
        (repeat ((conv => whnf); first | refine ⟨_, by assumption, ?_⟩ | refine ⟨_, _, by assumption, ?_⟩ | refine ⟨(show _ ∧ _ by omega), ?_⟩ | refine ⟨(show _ ∨ _ by omega), ?_⟩ | refine ⟨fun h => absurd h (by decide), fun _ => ?_⟩ | refine ⟨fun _ => ?_, fun h => absurd h (by decide)⟩ | refine ⟨fun _ => ?_, fun h => absurd rfl h⟩ | refine ⟨fun h => absurd rfl h, fun _ => ?_⟩)); try (conv => whnf)
        refine hC _ _ _ _ _ _ ?_
        refine ok_of hM (by omega) ?_
        (repeat ((conv => whnf); first | refine ⟨_, by assumption, ?_⟩ | refine ⟨_, _, by assumption, ?_⟩ | refine ⟨(show _ ∧ _ by omega), ?_⟩ | refine ⟨(show _ ∨ _ by omega), ?_⟩ | refine ⟨fun h => absurd h (by decide), fun _ => ?_⟩ | refine ⟨fun _ => ?_, fun h => absurd h (by decide)⟩ | refine ⟨fun _ => ?_, fun h => absurd rfl h⟩ | refine ⟨fun h => absurd rfl h, fun _ => ?_⟩)); try (conv => whnf)
        refine hG _ _ _ _ _ _ ?_
        refine inner (I 362 0 - (v + 1)).toNat (v + 1) _ (by omega) (by omega) ?_
        rw [rf_nil (by omega), if_pos h, e]
      · rw [e] at h
        (repeat ((conv => whnf); first | refine ⟨_, by assumption, ?_⟩ | refine ⟨_, _, by assumption, ?_⟩ | refine ⟨(show _ ∧ _ by omega), ?_⟩ | refine ⟨(show _ ∨ _ by omega), ?_⟩ | refine ⟨fun h => absurd h (by decide), fun _ => ?_⟩ | refine ⟨fun _ => ?_, fun h => absurd h (by decide)⟩ | refine ⟨fun _ => ?_, fun h => absurd rfl h⟩ | refine ⟨fun h => absurd rfl h, fun _ => ?_⟩)); try (conv => whnf)
        refine hG _ _ _ _ _ _ ?_
        refine inner (I 362 0 - (v + 1)).toNat (v + 1) 0 (by omega) (by omega) ?_
        rw [rf_nil (by omega), h]; rfl
  refine Ok.of (by decide) rfl (Nat.le_of_ble_eq_true rfl) ?_
  refine Go.walk 400 [9, 36] E86 E86_ok (fun G C hG hC => ?_)
  (repeat ((conv => whnf); first | refine ⟨_, by assumption, ?_⟩ | refine ⟨_, _, by assumption, ?_⟩ | refine ⟨(show _ ∧ _ by omega), ?_⟩ | refine ⟨(show _ ∨ _ by omega), ?_⟩ | refine ⟨fun h => absurd h (by decide), fun _ => ?_⟩ | refine ⟨fun _ => ?_, fun h => absurd h (by decide)⟩ | refine ⟨fun _ => ?_, fun h => absurd rfl h⟩ | refine ⟨fun h => absurd rfl h, fun _ => ?_⟩)); try (conv => whnf)
  refine hG _ _ _ _ _ _ ?_
  exact outer (I 362 0).toNat (I 362 0 - 1) I _ _ (by omega) (by omega) Fr.rf (fun u h1 h2 => absurd h2 (by omega))
def mAdd (n : aN) (pl be : Int → Int) (v : Int) : Int := if 0 < pl v then kf n (pl v) 3 + 2 * kf n (pl v) 2 * be v else 0
/-- adds(v) -/
theorem ok_adds {P : aP} {d : Nat} {K : aK} {I : aI} {R : aR} {S : aS} {v : Int} (hM : MS R S) (hv : 0 ≤ v ∧ v < 6) (hpl : 0 ≤ I 368 v ∧ I 368 v ≤ 3) (hK : K (some (vi (mAdd (I 362) (I 368) (I 370) v))) I R S) : Ok P 87 (d + 2) [vr 361, vi v] I R S K := by
  obtain ⟨m0, r1, m1, r2, m2, r3, m3, r4, m4, r5, m5, r6, m6, r7, m7, r8, m8, r9, m9, r10, m10, r11, m11, r12, m12, r13, m13, r14, m14, r15, m15⟩ := id hM
  refine Ok.of (by decide) rfl (Nat.le_of_ble_eq_true rfl) ?_
  refine Go.walk 400 [] E87 E87_ok (fun G C hG hC => ?_)
  (repeat ((conv => whnf); first | refine ⟨_, by assumption, ?_⟩ | refine ⟨_, _, by assumption, ?_⟩ | refine ⟨(show _ ∧ _ by omega), ?_⟩ | refine ⟨(show _ ∨ _ by omega), ?_⟩ | refine ⟨fun h => absurd h (by decide), fun _ => ?_⟩ | refine ⟨fun _ => ?_, fun h => absurd h (by decide)⟩ | refine ⟨fun _ => ?_, fun h => absurd rfl h⟩ | refine ⟨fun h => absurd rfl h, fun _ => ?_⟩)); try (conv => whnf)
  refine ⟨fun h => ?_, fun h => ?_⟩
  · (repeat ((conv => whnf); first | refine ⟨_, by assumption, ?_⟩ | refine ⟨_, _, by assumption, ?_⟩ | refine ⟨(show _ ∧ _ by omega), ?_⟩ | refine ⟨(show _ ∨ _ by omega), ?_⟩ | refine ⟨fun h => absurd h (by decide), fun _ => ?_⟩ | refine ⟨fun _ => ?_, fun h => absurd h (by decide)⟩ | refine ⟨fun _ => ?_, fun h => absurd rfl h⟩ | refine ⟨fun h => absurd rfl h, fun _ => ?_⟩)); try (conv => whnf)
    rw [mAdd, if_neg (by omega)] at hK
    exact hK
  · (repeat ((conv => whnf); first | refine ⟨_, by assumption, ?_⟩ | refine ⟨_, _, by assumption, ?_⟩ | refine ⟨(show _ ∧ _ by omega), ?_⟩ | refine ⟨(show _ ∨ _ by omega), ?_⟩ | refine ⟨fun h => absurd h (by decide), fun _ => ?_⟩ | refine ⟨fun _ => ?_, fun h => absurd h (by decide)⟩ | refine ⟨fun _ => ?_, fun h => absurd rfl h⟩ | refine ⟨fun h => absurd rfl h, fun _ => ?_⟩)); try (conv => whnf)
    refine hC _ _ _ _ _ _ ?_
    refine ok_ofKind hM (by omega) ?_
    (repeat ((conv => whnf); first | refine ⟨_, by assumption, ?_⟩ | refine ⟨_, _, by assumption, ?_⟩ | refine ⟨(show _ ∧ _ by omega), ?_⟩ | refine ⟨(show _ ∨ _ by omega), ?_⟩ | refine ⟨fun h => absurd h (by decide), fun _ => ?_⟩ | refine ⟨fun _ => ?_, fun h => absurd h (by decide)⟩ | refine ⟨fun _ => ?_, fun h => absurd rfl h⟩ | refine ⟨fun h => absurd rfl h, fun _ => ?_⟩)); try (conv => whnf)
    refine hC _ _ _ _ _ _ ?_
    refine ok_ofKind hM (by omega) ?_
    (repeat ((conv => whnf); first | refine ⟨_, by assumption, ?_⟩ | refine ⟨_, _, by assumption, ?_⟩ | refine ⟨(show _ ∧ _ by omega), ?_⟩ | refine ⟨(show _ ∨ _ by omega), ?_⟩ | refine ⟨fun h => absurd h (by decide), fun _ => ?_⟩ | refine ⟨fun _ => ?_, fun h => absurd h (by decide)⟩ | refine ⟨fun _ => ?_, fun h => absurd rfl h⟩ | refine ⟨fun h => absurd rfl h, fun _ => ?_⟩)); try (conv => whnf)
    rw [mAdd, if_pos (by omega)] at hK
    exact hK
