/-! the reference: drift, undo, the book, the seed, images -/
def driftI : Nat → aN × Int × List aN → aN × Int × List aN
  | 0, x => x
  | m + 1, x => if x.1 0 < 6 then driftI m (driftN x.1 x.2.1, driftS x.2.1, pushH x.2.2 x.1) else x
theorem grow0 {n : aN} {a r c : Int} : growF n a r c 0 = n 0 + 1 := up_at
theorem driftN0 {n : aN} {s : Int} (hn : 0 ≤ n 0) : driftN n s 0 = n 0 + 1 := by
  unfold driftN
  rw [st_lo hn (by omega) (by omega), st_lo hn (by omega) (by omega), st_lo hn (by omega) (by omega)]
  exact grow0
/-- drift(m) -/
theorem ok_mdrift {P : aP} {d : Nat} {K : aK} {I : aI} {R : aR} {S : aS} {m : Int} {h : List aN} (hM : MS R S) (hN : 1 ≤ I 362 0 ∧ I 362 0 ≤ 6) (hH : HistM I h) (hs : 0 ≤ I 361 1 ∧ I 361 1 < 2147483648) (hm : iR m) (h0 : ¬ (1 ≤ m ∧ m ≤ 6) → K (some (vi (-1000000002))) I R S)
    (h1 : 1 ≤ m ∧ m ≤ 6 → ∀ I' n' s' h', (n', s', h') = driftI m.toNat (I 362, I 361 1, h) → MF [362, 363] [1, 3] I I' → I' 362 = n' → I' 361 1 = s' → HistM I' h' → K (some (vi (n' 0))) I' R S) : Ok P 129 (d + 3) [vr 361, vi m] I R S K := by
  obtain ⟨m0, r1, m1, r2, m2, r3, m3, r4, m4, r5, m5, r6, m6, r7, m7, r8, m8, r9, m9, r10, m10, r11, m11, r12, m12, r13, m13, r14, m14, r15, m15⟩ := id hM
  have loop : 1 ≤ m ∧ m ≤ 6 → ∀ (k : Nat) (j : Int) (I' : aI) (g : List aN) (x3 x4 x5 x6 : aV), 0 ≤ j → m - j = k → 1 ≤ I' 362 0 → I' 362 0 ≤ 6 → 0 ≤ I' 361 1 → I' 361 1 < 2147483648 → MF [362, 363] [1, 3] I I' → HistM I' g → driftI k (I' 362, I' 361 1, g) = driftI m.toNat (I 362, I 361 1, h) → Go P 129 (d + 3) K 15 [vr 361, vi m, vi j, x3, x4, x5, x6] [] I' R S := by
    intro hm1 k
    induction k with
    | zero =>
      intro j I' g x3 x4 x5 x6 hj hk n1 n2 s1 s2 hF hg he
      refine Go.walk 400 [15] E129 E129_ok (fun G C hG hC => ?_)
      (repeat ((conv => whnf); first | refine ⟨_, by assumption, ?_⟩ | refine ⟨_, _, by assumption, ?_⟩ | refine ⟨(show _ ∧ _ by omega), ?_⟩ | refine ⟨(show _ ∨ _ by omega), ?_⟩ | refine ⟨fun h => absurd h (by decide), fun _ => ?_⟩ | refine ⟨fun _ => ?_, fun h => absurd h (by decide)⟩ | refine ⟨fun _ => ?_, fun h => absurd rfl h⟩ | refine ⟨fun h => absurd rfl h, fun _ => ?_⟩)); try (conv => whnf)
      refine ⟨fun _ => ?_, fun q => absurd (show m ≤ j by omega) q⟩
      (repeat ((conv => whnf); first | refine ⟨_, by assumption, ?_⟩ | refine ⟨_, _, by assumption, ?_⟩ | refine ⟨(show _ ∧ _ by omega), ?_⟩ | refine ⟨(show _ ∨ _ by omega), ?_⟩ | refine ⟨fun h => absurd h (by decide), fun _ => ?_⟩ | refine ⟨fun _ => ?_, fun h => absurd h (by decide)⟩ | refine ⟨fun _ => ?_, fun h => absurd rfl h⟩ | refine ⟨fun h => absurd rfl h, fun _ => ?_⟩)); try (conv => whnf)
      exact h1 hm1 I' _ _ _ he hF rfl rfl hg
    | succ k ih =>
      intro j I' g x3 x4 x5 x6 hj hk n1 n2 s1 s2 hF hg he
      refine Go.walk 400 [15] E129 E129_ok (fun G C hG hC => ?_)
      (repeat ((conv => whnf); first | refine ⟨_, by assumption, ?_⟩ | refine ⟨_, _, by assumption, ?_⟩ | refine ⟨(show _ ∧ _ by omega), ?_⟩ | refine ⟨(show _ ∨ _ by omega), ?_⟩ | refine ⟨fun h => absurd h (by decide), fun _ => ?_⟩ | refine ⟨fun _ => ?_, fun h => absurd h (by decide)⟩ | refine ⟨fun _ => ?_, fun h => absurd rfl h⟩ | refine ⟨fun h => absurd rfl h, fun _ => ?_⟩)); try (conv => whnf)
      refine ⟨fun q => absurd q (by omega), fun _ => ?_⟩
      (repeat ((conv => whnf); first | refine ⟨_, by assumption, ?_⟩ | refine ⟨_, _, by assumption, ?_⟩ | refine ⟨(show _ ∧ _ by omega), ?_⟩ | refine ⟨(show _ ∨ _ by omega), ?_⟩ | refine ⟨fun h => absurd h (by decide), fun _ => ?_⟩ | refine ⟨fun _ => ?_, fun h => absurd h (by decide)⟩ | refine ⟨fun _ => ?_, fun h => absurd rfl h⟩ | refine ⟨fun h => absurd rfl h, fun _ => ?_⟩)); try (conv => whnf)
      refine ⟨fun q => ?_, fun q => ?_⟩
      · rw [driftI, if_neg (by show ¬ I' 362 0 < 6; omega)] at he
        (repeat ((conv => whnf); first | refine ⟨_, by assumption, ?_⟩ | refine ⟨_, _, by assumption, ?_⟩ | refine ⟨(show _ ∧ _ by omega), ?_⟩ | refine ⟨(show _ ∨ _ by omega), ?_⟩ | refine ⟨fun h => absurd h (by decide), fun _ => ?_⟩ | refine ⟨fun _ => ?_, fun h => absurd h (by decide)⟩ | refine ⟨fun _ => ?_, fun h => absurd rfl h⟩ | refine ⟨fun h => absurd rfl h, fun _ => ?_⟩)); try (conv => whnf)
        exact h1 hm1 I' _ _ _ he hF rfl rfl hg
      · rw [driftI, if_pos (by show I' 362 0 < 6; omega)] at he
        (repeat ((conv => whnf); first | refine ⟨_, by assumption, ?_⟩ | refine ⟨_, _, by assumption, ?_⟩ | refine ⟨(show _ ∧ _ by omega), ?_⟩ | refine ⟨(show _ ∨ _ by omega), ?_⟩ | refine ⟨fun h => absurd h (by decide), fun _ => ?_⟩ | refine ⟨fun _ => ?_, fun h => absurd h (by decide)⟩ | refine ⟨fun _ => ?_, fun h => absurd rfl h⟩ | refine ⟨fun h => absurd rfl h, fun _ => ?_⟩)); try (conv => whnf)
        refine hC _ _ _ _ _ _ ?_
        refine ok_deed hM hg (fun I1 hF1 hg1 => ?_)
        have e := hF1.1 362 (by decide)
        have es : I1 361 1 = I' 361 1 := hF1.2 1 (by decide)
        have t1 := sdN_bd (s := I' 361 1)
        have t2 := sdN_bd (s := sdN (I' 361 1))
        have t3 := sdN_bd (s := sdN (sdN (I' 361 1)))
        have t4 := sdN_bd (s := sdN (sdN (sdN (I' 361 1))))
        have t5 := sdN_bd (s := sdN (sdN (sdN (sdN (I' 361 1)))))
        (repeat ((conv => whnf); first | refine ⟨_, by assumption, ?_⟩ | refine ⟨_, _, by assumption, ?_⟩ | refine ⟨(show _ ∧ _ by omega), ?_⟩ | refine ⟨(show _ ∨ _ by omega), ?_⟩ | refine ⟨fun h => absurd h (by decide), fun _ => ?_⟩ | refine ⟨fun _ => ?_, fun h => absurd h (by decide)⟩ | refine ⟨fun _ => ?_, fun h => absurd rfl h⟩ | refine ⟨fun h => absurd rfl h, fun _ => ?_⟩)); try (conv => whnf)
        refine hC _ _ _ _ _ _ ?_
        rw [e]
        refine ok_draws hM (by omega) (by omega) ?_
        rw [es]
        (repeat ((conv => whnf); first | refine ⟨_, by assumption, ?_⟩ | refine ⟨_, _, by assumption, ?_⟩ | refine ⟨(show _ ∧ _ by omega), ?_⟩ | refine ⟨(show _ ∨ _ by omega), ?_⟩ | refine ⟨fun h => absurd h (by decide), fun _ => ?_⟩ | refine ⟨fun _ => ?_, fun h => absurd h (by decide)⟩ | refine ⟨fun _ => ?_, fun h => absurd rfl h⟩ | refine ⟨fun h => absurd rfl h, fun _ => ?_⟩)); try (conv => whnf)
        refine hC _ _ _ _ _ _ ?_
        refine ok_draws hM (by rw [uI_at]; omega) (by omega) ?_
        rw [uI_at]
        (repeat ((conv => whnf); first | refine ⟨_, by assumption, ?_⟩ | refine ⟨_, _, by assumption, ?_⟩ | refine ⟨(show _ ∧ _ by omega), ?_⟩ | refine ⟨(show _ ∨ _ by omega), ?_⟩ | refine ⟨fun h => absurd h (by decide), fun _ => ?_⟩ | refine ⟨fun _ => ?_, fun h => absurd h (by decide)⟩ | refine ⟨fun _ => ?_, fun h => absurd rfl h⟩ | refine ⟨fun h => absurd rfl h, fun _ => ?_⟩)); try (conv => whnf)
        refine hC _ _ _ _ _ _ ?_
        refine ok_draws hM (by rw [uI_at]; omega) (by omega) ?_
        rw [uI_at]
        (repeat ((conv => whnf); first | refine ⟨_, by assumption, ?_⟩ | refine ⟨_, _, by assumption, ?_⟩ | refine ⟨(show _ ∧ _ by omega), ?_⟩ | refine ⟨(show _ ∨ _ by omega), ?_⟩ | refine ⟨fun h => absurd h (by decide), fun _ => ?_⟩ | refine ⟨fun _ => ?_, fun h => absurd h (by decide)⟩ | refine ⟨fun _ => ?_, fun h => absurd rfl h⟩ | refine ⟨fun h => absurd rfl h, fun _ => ?_⟩)); try (conv => whnf)
        refine hC _ _ _ _ _ _ ?_
        refine ok_comes hM ?_ (fun I2 hF2 h2 => ?_)
        · rw [uI_ne (by omega), uI_ne (by omega), uI_ne (by omega), e]; omega
        have e362 : uI (uI (uI I1 361 1 (sdN (I' 361 1))) 361 1 (sdN (sdN (I' 361 1)))) 361 1 (sdN (sdN (sdN (I' 361 1)))) 362 = I' 362 := by
          funext x
          rw [uI_ne (by omega), uI_ne (by omega), uI_ne (by omega), e]
        rw [e362] at h2
        rw [e362]
        have es2 : I2 361 1 = sdN (sdN (sdN (I' 361 1))) := by rw [hF2 361 (by decide)]; exact uI_at
        (repeat ((conv => whnf); first | refine ⟨_, by assumption, ?_⟩ | refine ⟨_, _, by assumption, ?_⟩ | refine ⟨(show _ ∧ _ by omega), ?_⟩ | refine ⟨(show _ ∨ _ by omega), ?_⟩ | refine ⟨fun h => absurd h (by decide), fun _ => ?_⟩ | refine ⟨fun _ => ?_, fun h => absurd h (by decide)⟩ | refine ⟨fun _ => ?_, fun h => absurd rfl h⟩ | refine ⟨fun h => absurd rfl h, fun _ => ?_⟩)); try (conv => whnf)
        refine hC _ _ _ _ _ _ ?_
        refine ok_draws hM (by omega) (by omega) ?_
        rw [es2]
        (repeat ((conv => whnf); first | refine ⟨_, by assumption, ?_⟩ | refine ⟨_, _, by assumption, ?_⟩ | refine ⟨(show _ ∧ _ by omega), ?_⟩ | refine ⟨(show _ ∨ _ by omega), ?_⟩ | refine ⟨fun h => absurd h (by decide), fun _ => ?_⟩ | refine ⟨fun _ => ?_, fun h => absurd h (by decide)⟩ | refine ⟨fun _ => ?_, fun h => absurd rfl h⟩ | refine ⟨fun h => absurd rfl h, fun _ => ?_⟩)); try (conv => whnf)
        refine hC _ _ _ _ _ _ ?_
        refine ok_sets hM (by omega) ?_
        (repeat ((conv => whnf); first | refine ⟨_, by assumption, ?_⟩ | refine ⟨_, _, by assumption, ?_⟩ | refine ⟨(show _ ∧ _ by omega), ?_⟩ | refine ⟨(show _ ∨ _ by omega), ?_⟩ | refine ⟨fun h => absurd h (by decide), fun _ => ?_⟩ | refine ⟨fun _ => ?_, fun h => absurd h (by decide)⟩ | refine ⟨fun _ => ?_, fun h => absurd rfl h⟩ | refine ⟨fun h => absurd rfl h, fun _ => ?_⟩)); try (conv => whnf)
        refine hC _ _ _ _ _ _ ?_
        have es3 : ∀ z, uI (uI I2 361 1 (sdN (sdN (sdN (sdN (I' 361 1)))))) 362 (20 + 8 * I' 362 0 + 4) z 361 1 = sdN (sdN (sdN (sdN (I' 361 1)))) := fun z => by rw [uI_ne (by omega)]; exact uI_at
        refine ok_draws hM (by rw [es3]; omega) (by omega) ?_
        rw [es3]
        (repeat ((conv => whnf); first | refine ⟨_, by assumption, ?_⟩ | refine ⟨_, _, by assumption, ?_⟩ | refine ⟨(show _ ∧ _ by omega), ?_⟩ | refine ⟨(show _ ∨ _ by omega), ?_⟩ | refine ⟨fun h => absurd h (by decide), fun _ => ?_⟩ | refine ⟨fun _ => ?_, fun h => absurd h (by decide)⟩ | refine ⟨fun _ => ?_, fun h => absurd rfl h⟩ | refine ⟨fun h => absurd rfl h, fun _ => ?_⟩)); try (conv => whnf)
        refine hC _ _ _ _ _ _ ?_
        refine ok_sets hM (by omega) ?_
        (repeat ((conv => whnf); first | refine ⟨_, by assumption, ?_⟩ | refine ⟨_, _, by assumption, ?_⟩ | refine ⟨(show _ ∧ _ by omega), ?_⟩ | refine ⟨(show _ ∨ _ by omega), ?_⟩ | refine ⟨fun h => absurd h (by decide), fun _ => ?_⟩ | refine ⟨fun _ => ?_, fun h => absurd h (by decide)⟩ | refine ⟨fun _ => ?_, fun h => absurd rfl h⟩ | refine ⟨fun h => absurd rfl h, fun _ => ?_⟩)); try (conv => whnf)
        refine hC _ _ _ _ _ _ ?_
        refine ok_draws hM (by rw [uI_ne (by omega), uI_at]; omega) (by omega) ?_
        rw [uI_ne (a := 362) (by omega), uI_at]
        (repeat ((conv => whnf); first | refine ⟨_, by assumption, ?_⟩ | refine ⟨_, _, by assumption, ?_⟩ | refine ⟨(show _ ∧ _ by omega), ?_⟩ | refine ⟨(show _ ∨ _ by omega), ?_⟩ | refine ⟨fun h => absurd h (by decide), fun _ => ?_⟩ | refine ⟨fun _ => ?_, fun h => absurd h (by decide)⟩ | refine ⟨fun _ => ?_, fun h => absurd rfl h⟩ | refine ⟨fun h => absurd rfl h, fun _ => ?_⟩)); try (conv => whnf)
        refine hC _ _ _ _ _ _ ?_
        refine ok_sets hM (by omega) ?_
        (repeat ((conv => whnf); first | refine ⟨_, by assumption, ?_⟩ | refine ⟨_, _, by assumption, ?_⟩ | refine ⟨(show _ ∧ _ by omega), ?_⟩ | refine ⟨(show _ ∨ _ by omega), ?_⟩ | refine ⟨fun h => absurd h (by decide), fun _ => ?_⟩ | refine ⟨fun _ => ?_, fun h => absurd h (by decide)⟩ | refine ⟨fun _ => ?_, fun h => absurd rfl h⟩ | refine ⟨fun h => absurd rfl h, fun _ => ?_⟩)); try (conv => whnf)
        refine hG _ _ _ _ _ _ ?_
        have hn' : ∀ a b c : Int, uI (uI (uI (uI (uI (uI I2 361 1 (sdN (sdN (sdN (sdN (I' 361 1)))))) 362 (20 + 8 * I' 362 0 + 4) a) 361 1 (sdN (sdN (sdN (sdN (sdN (I' 361 1))))))) 362 (20 + 8 * I' 362 0 + 5) b) 361 1 (sdN (sdN (sdN (sdN (sdN (sdN (I' 361 1)))))))) 362 (20 + 8 * I' 362 0 + 6) c 362 = st (st (st (I2 362) (I' 362 0) 4 a) (I' 362 0) 5 b) (I' 362 0) 6 c := by
          intro a b c
          funext x
          simp only [uI, st, up, true_and]
          by_cases q1 : x = 20 + 8 * I' 362 0 + 6
          · simp [q1]
          · by_cases q2 : x = 20 + 8 * I' 362 0 + 5
            · simp [q1, q2]
            · by_cases q3 : x = 20 + 8 * I' 362 0 + 4
              · simp [q1, q2, q3]
              · simp [q1, q2, q3]
        have hFa : MF [362, 363] [1, 3] I I1 := hF.trans hF1 (by simp <;> omega) (by simp <;> omega)
        have hFb : MF [362, 363] [1, 3] I I2 := (((hFa.putF (j := 1) (z := sdN (I' 361 1)) (by decide)).putF (j := 1) (z := sdN (sdN (I' 361 1))) (by decide)).putF (j := 1) (z := sdN (sdN (sdN (I' 361 1)))) (by decide)).trans (MF.of (J := []) hF2 (by decide)) (by simp <;> omega) (by simp <;> omega)
        have hFc : MF [362, 363] [1, 3] I (uI (uI (uI (uI (uI (uI I2 361 1 (sdN (sdN (sdN (sdN (I' 361 1)))))) 362 (20 + 8 * I' 362 0 + 4) (1 + dr1 (sdN (sdN (sdN (I' 361 1)))) 9)) 361 1 (sdN (sdN (sdN (sdN (sdN (I' 361 1))))))) 362 (20 + 8 * I' 362 0 + 5) (dr1 (sdN (sdN (sdN (sdN (I' 361 1))))) 300)) 361 1 (sdN (sdN (sdN (sdN (sdN (sdN (I' 361 1)))))))) 362 (20 + 8 * I' 362 0 + 6) (dr1 (sdN (sdN (sdN (sdN (sdN (I' 361 1)))))) 2)) := (((((hFb.putF (by decide)).put (by decide) (by decide)).putF (by decide)).put (by decide) (by decide)).putF (by decide)).put (by decide) (by decide)
        have hn3 := (hn' (1 + dr1 (sdN (sdN (sdN (I' 361 1)))) 9) (dr1 (sdN (sdN (sdN (sdN (I' 361 1))))) 300) (dr1 (sdN (sdN (sdN (sdN (sdN (I' 361 1)))))) 2))
        rw [h2] at hn3
        have hn4 : st (st (st (growF (I' 362) (sdN (I' 361 1) / 65536 % I' 362 0) (sdN (sdN (I' 361 1)) / 65536 % 10) (sdN (sdN (sdN (I' 361 1))) / 65536 % 10)) (I' 362 0) 4 (1 + dr1 (sdN (sdN (sdN (I' 361 1)))) 9)) (I' 362 0) 5 (dr1 (sdN (sdN (sdN (sdN (I' 361 1))))) 300)) (I' 362 0) 6 (dr1 (sdN (sdN (sdN (sdN (sdN (I' 361 1)))))) 2) = driftN (I' 362) (I' 361 1) := rfl
        rw [hn4] at hn3
        have hs5 : ∀ z, uI (uI (uI (uI (uI (uI I2 361 1 (sdN (sdN (sdN (sdN (I' 361 1)))))) 362 (20 + 8 * I' 362 0 + 4) (1 + dr1 (sdN (sdN (sdN (I' 361 1)))) 9)) 361 1 (sdN (sdN (sdN (sdN (sdN (I' 361 1))))))) 362 (20 + 8 * I' 362 0 + 5) (dr1 (sdN (sdN (sdN (sdN (I' 361 1))))) 300)) 361 1 (sdN (sdN (sdN (sdN (sdN (sdN (I' 361 1)))))))) 362 (20 + 8 * I' 362 0 + 6) z 361 1 = driftS (I' 361 1) := fun z => by rw [uI_ne (by omega)]; exact uI_at
        have hg5 : HistM (uI (uI (uI (uI (uI (uI I2 361 1 (sdN (sdN (sdN (sdN (I' 361 1)))))) 362 (20 + 8 * I' 362 0 + 4) (1 + dr1 (sdN (sdN (sdN (I' 361 1)))) 9)) 361 1 (sdN (sdN (sdN (sdN (sdN (I' 361 1))))))) 362 (20 + 8 * I' 362 0 + 5) (dr1 (sdN (sdN (sdN (sdN (I' 361 1))))) 300)) 361 1 (sdN (sdN (sdN (sdN (sdN (sdN (I' 361 1)))))))) 362 (20 + 8 * I' 362 0 + 6) (dr1 (sdN (sdN (sdN (sdN (sdN (I' 361 1)))))) 2)) (pushH g (I' 362)) := by
          refine hg1.of ?_ ?_
          · rw [uI_ne (by omega), uI_ne (by omega), uI_ne (by omega), uI_ne (by omega), uI_ne (by omega), uI_ne (by omega), hF2 361 (by decide), uI_ne (by omega), uI_ne (by omega), uI_ne (by omega)]
          · funext x
            rw [uI_ne (by omega), uI_ne (by omega), uI_ne (by omega), uI_ne (by omega), uI_ne (by omega), uI_ne (by omega), hF2 363 (by decide), uI_ne (by omega), uI_ne (by omega), uI_ne (by omega)]
        have hs6 := sdN_bd (s := sdN (sdN (sdN (sdN (sdN (I' 361 1))))))
        have hd0 := driftN0 (n := I' 362) (s := I' 361 1) (by omega)
        exact ih (j + 1) (uI (uI (uI (uI (uI (uI I2 361 1 (sdN (sdN (sdN (sdN (I' 361 1)))))) 362 (20 + 8 * I' 362 0 + 4) (1 + dr1 (sdN (sdN (sdN (I' 361 1)))) 9)) 361 1 (sdN (sdN (sdN (sdN (sdN (I' 361 1))))))) 362 (20 + 8 * I' 362 0 + 5) (dr1 (sdN (sdN (sdN (sdN (I' 361 1))))) 300)) 361 1 (sdN (sdN (sdN (sdN (sdN (sdN (I' 361 1)))))))) 362 (20 + 8 * I' 362 0 + 6) (dr1 (sdN (sdN (sdN (sdN (sdN (I' 361 1)))))) 2)) _ _ _ _ _ (by omega) (by omega) (by rw [hn3, hd0]; omega) (by rw [hn3, hd0]; omega) (by rw [hs5]; exact hs6.1) (by rw [hs5]; exact hs6.2) hFc hg5 (by rw [hn3, hs5]; exact he)
  refine Ok.of (by decide) rfl (Nat.le_of_ble_eq_true rfl) ?_
  refine Go.walk 400 [15] E129 E129_ok (fun G C hG hC => ?_)
  (repeat ((conv => whnf); first | refine ⟨_, by assumption, ?_⟩ | refine ⟨_, _, by assumption, ?_⟩ | refine ⟨(show _ ∧ _ by omega), ?_⟩ | refine ⟨(show _ ∨ _ by omega), ?_⟩ | refine ⟨fun h => absurd h (by decide), fun _ => ?_⟩ | refine ⟨fun _ => ?_, fun h => absurd h (by decide)⟩ | refine ⟨fun _ => ?_, fun h => absurd rfl h⟩ | refine ⟨fun h => absurd rfl h, fun _ => ?_⟩)); try (conv => whnf)
  refine hC _ _ _ _ _ _ ?_
  refine ok_in hm (by omega) (by omega) (fun g1 => ?_) (fun g1 => ?_)
  · (repeat ((conv => whnf); first | refine ⟨_, by assumption, ?_⟩ | refine ⟨_, _, by assumption, ?_⟩ | refine ⟨(show _ ∧ _ by omega), ?_⟩ | refine ⟨(show _ ∨ _ by omega), ?_⟩ | refine ⟨fun h => absurd h (by decide), fun _ => ?_⟩ | refine ⟨fun _ => ?_, fun h => absurd h (by decide)⟩ | refine ⟨fun _ => ?_, fun h => absurd rfl h⟩ | refine ⟨fun h => absurd rfl h, fun _ => ?_⟩)); try (conv => whnf)
    refine hG _ _ _ _ _ _ ?_
    exact loop g1 m.toNat 0 I h _ _ _ _ (by omega) (by omega) hN.1 hN.2 hs.1 hs.2 MF.rf hH rfl
  · (repeat ((conv => whnf); first | refine ⟨_, by assumption, ?_⟩ | refine ⟨_, _, by assumption, ?_⟩ | refine ⟨(show _ ∧ _ by omega), ?_⟩ | refine ⟨(show _ ∨ _ by omega), ?_⟩ | refine ⟨fun h => absurd h (by decide), fun _ => ?_⟩ | refine ⟨fun _ => ?_, fun h => absurd h (by decide)⟩ | refine ⟨fun _ => ?_, fun h => absurd rfl h⟩ | refine ⟨fun h => absurd rfl h, fun _ => ?_⟩)); try (conv => whnf)
    exact h0 g1
/-- undo(m) -/
theorem ok_mundo {P : aP} {d : Nat} {K : aK} {I : aI} {R : aR} {S : aS} {m : Int} {h : List aN} (hM : MS R S) (hH : HistM I h) (hm : iR m) (h0 : ¬ (1 ≤ m ∧ m ≤ 16) → K (some (vi (-1000000002))) I R S) (h2 : 1 ≤ m ∧ m ≤ 16 → (h.length : Int) < m → K (some (vi (-1000000003))) I R S)
    (h1 : 1 ≤ m → m ≤ h.length → ∀ I' q, h[h.length - m.toNat]? = some q → MF [362] [3] I I' → (∀ k : Int, 0 ≤ k → k < 68 → I' 362 k = q k) → HistM I' (h.take (h.length - m.toNat)) → K (some (vi ((h.length : Int) - m))) I' R S) : Ok P 130 (d + 2) [vr 361, vi m] I R S K := by
  obtain ⟨m0, r1, m1, r2, m2, r3, m3, r4, m4, r5, m5, r6, m6, r7, m7, r8, m8, r9, m9, r10, m10, r11, m11, r12, m12, r13, m13, r14, m14, r15, m15⟩ := id hM
  obtain ⟨hk, hl, hb⟩ := hH
  have hk' : I 361 ((3 : Nat) : Int) = h.length := hk
  have loop : 1 ≤ m → m ≤ h.length → ∀ q, h[h.length - m.toNat]? = some q → ∀ (j : Nat) (k : Int) (I' : aI), 0 ≤ k → 68 - k = j → MF [362] [3] I I' → I' 361 3 = (h.length : Int) - m → (∀ x : Int, 0 ≤ x → x < k → I' 362 x = q x) → Go P 130 (d + 2) K 36 [vr 361, vi m, vi k] [] I' R S := by
    intro m1 m2 q hq j
    induction j with
    | zero =>
      intro k I' g0 gj hF h3 hx
      have h3' : I' 361 ((3 : Nat) : Int) = (h.length : Int) - m := h3
      refine Go.walk 400 [36] E130 E130_ok (fun G C hG hC => ?_)
      (repeat ((conv => whnf); first | refine ⟨_, by assumption, ?_⟩ | refine ⟨_, _, by assumption, ?_⟩ | refine ⟨(show _ ∧ _ by omega), ?_⟩ | refine ⟨(show _ ∨ _ by omega), ?_⟩ | refine ⟨fun h => absurd h (by decide), fun _ => ?_⟩ | refine ⟨fun _ => ?_, fun h => absurd h (by decide)⟩ | refine ⟨fun _ => ?_, fun h => absurd rfl h⟩ | refine ⟨fun h => absurd rfl h, fun _ => ?_⟩)); try (conv => whnf)
      refine ⟨fun _ => ?_, fun z => absurd (show (68 : Int) ≤ k by omega) z⟩
      (repeat ((conv => whnf); first | refine ⟨_, by assumption, ?_⟩ | refine ⟨_, _, by assumption, ?_⟩ | refine ⟨(show _ ∧ _ by omega), ?_⟩ | refine ⟨(show _ ∨ _ by omega), ?_⟩ | refine ⟨fun h => absurd h (by decide), fun _ => ?_⟩ | refine ⟨fun _ => ?_, fun h => absurd h (by decide)⟩ | refine ⟨fun _ => ?_, fun h => absurd rfl h⟩ | refine ⟨fun h => absurd rfl h, fun _ => ?_⟩)); try (conv => whnf)
      rw [h3']
      refine h1 m1 m2 I' q hq hF (fun x a b => hx x a (by omega)) ⟨?_, by rw [List.length_take]; omega, fun i p hi x a b => ?_⟩
      · rw [h3, List.length_take]; omega
      · rw [hF.1 363 (by decide)]
        have hi2 := (List.getElem?_eq_some_iff.mp hi).1
        rw [List.length_take] at hi2
        rw [List.getElem?_take_of_lt (by omega)] at hi
        exact hb i p hi x a b
    | succ j ih =>
      intro k I' g0 gj hF h3 hx
      have h3' : I' 361 ((3 : Nat) : Int) = (h.length : Int) - m := h3
      have e3 := hF.1 363 (by decide)
      refine Go.walk 400 [36] E130 E130_ok (fun G C hG hC => ?_)
      (repeat ((conv => whnf); first | refine ⟨_, by assumption, ?_⟩ | refine ⟨_, _, by assumption, ?_⟩ | refine ⟨(show _ ∧ _ by omega), ?_⟩ | refine ⟨(show _ ∨ _ by omega), ?_⟩ | refine ⟨fun h => absurd h (by decide), fun _ => ?_⟩ | refine ⟨fun _ => ?_, fun h => absurd h (by decide)⟩ | refine ⟨fun _ => ?_, fun h => absurd rfl h⟩ | refine ⟨fun h => absurd rfl h, fun _ => ?_⟩)); try (conv => whnf)
      refine ⟨fun z => absurd z (by omega), fun _ => ?_⟩
      (repeat ((conv => whnf); first | refine ⟨_, by assumption, ?_⟩ | refine ⟨_, _, by assumption, ?_⟩ | refine ⟨(show _ ∧ _ by omega), ?_⟩ | refine ⟨(show _ ∨ _ by omega), ?_⟩ | refine ⟨fun h => absurd h (by decide), fun _ => ?_⟩ | refine ⟨fun _ => ?_, fun h => absurd h (by decide)⟩ | refine ⟨fun _ => ?_, fun h => absurd rfl h⟩ | refine ⟨fun h => absurd rfl h, fun _ => ?_⟩)); try (conv => whnf)
      refine hG _ _ _ _ _ _ ?_
      rw [h3', e3]
      refine ih (k + 1) _ (by omega) (by omega) (hF.put (by decide) (by decide)) (by rw [uI_ne (by omega)]; exact h3) (fun x a b => ?_)
      by_cases hxk : x = k
      · subst hxk
        rw [uI_at]
        have := hb _ q hq x a (by omega)
        rw [show 68 * ((h.length - m.toNat : Nat) : Int) + x = 68 * ((h.length : Int) - m) + x by omega] at this
        exact this
      · rw [uI_ne (by omega)]; exact hx x a (by omega)
  refine Ok.of (by decide) rfl (Nat.le_of_ble_eq_true rfl) ?_
  refine Go.walk 400 [36] E130 E130_ok (fun G C hG hC => ?_)
  (repeat ((conv => whnf); first | refine ⟨_, by assumption, ?_⟩ | refine ⟨_, _, by assumption, ?_⟩ | refine ⟨(show _ ∧ _ by omega), ?_⟩ | refine ⟨(show _ ∨ _ by omega), ?_⟩ | refine ⟨fun h => absurd h (by decide), fun _ => ?_⟩ | refine ⟨fun _ => ?_, fun h => absurd h (by decide)⟩ | refine ⟨fun _ => ?_, fun h => absurd rfl h⟩ | refine ⟨fun h => absurd rfl h, fun _ => ?_⟩)); try (conv => whnf)
  refine hC _ _ _ _ _ _ ?_
  refine ok_in hm (by omega) (by omega) (fun g1 => ?_) (fun g1 => ?_)
  · (repeat ((conv => whnf); first | refine ⟨_, by assumption, ?_⟩ | refine ⟨_, _, by assumption, ?_⟩ | refine ⟨(show _ ∧ _ by omega), ?_⟩ | refine ⟨(show _ ∨ _ by omega), ?_⟩ | refine ⟨fun h => absurd h (by decide), fun _ => ?_⟩ | refine ⟨fun _ => ?_, fun h => absurd h (by decide)⟩ | refine ⟨fun _ => ?_, fun h => absurd rfl h⟩ | refine ⟨fun h => absurd rfl h, fun _ => ?_⟩)); try (conv => whnf)
    refine ⟨fun g2 => ?_, fun g2 => ?_⟩
    · (repeat ((conv => whnf); first | refine ⟨_, by assumption, ?_⟩ | refine ⟨_, _, by assumption, ?_⟩ | refine ⟨(show _ ∧ _ by omega), ?_⟩ | refine ⟨(show _ ∨ _ by omega), ?_⟩ | refine ⟨fun h => absurd h (by decide), fun _ => ?_⟩ | refine ⟨fun _ => ?_, fun h => absurd h (by decide)⟩ | refine ⟨fun _ => ?_, fun h => absurd rfl h⟩ | refine ⟨fun h => absurd rfl h, fun _ => ?_⟩)); try (conv => whnf)
      refine hG _ _ _ _ _ _ ?_
      have hlt : h.length - m.toNat < h.length := by omega
      rw [hk']
      exact loop g1.1 (by omega) _ (List.getElem?_eq_getElem hlt) 68 0 (uI I 361 3 ((h.length : Int) - m)) (by omega) (by omega) (MF.rf.putF (by decide)) uI_at (fun x a b => absurd b (by omega))
    · (repeat ((conv => whnf); first | refine ⟨_, by assumption, ?_⟩ | refine ⟨_, _, by assumption, ?_⟩ | refine ⟨(show _ ∧ _ by omega), ?_⟩ | refine ⟨(show _ ∨ _ by omega), ?_⟩ | refine ⟨fun h => absurd h (by decide), fun _ => ?_⟩ | refine ⟨fun _ => ?_, fun h => absurd h (by decide)⟩ | refine ⟨fun _ => ?_, fun h => absurd rfl h⟩ | refine ⟨fun h => absurd rfl h, fun _ => ?_⟩)); try (conv => whnf)
      exact h2 g1 (by omega)
  · (repeat ((conv => whnf); first | refine ⟨_, by assumption, ?_⟩ | refine ⟨_, _, by assumption, ?_⟩ | refine ⟨(show _ ∧ _ by omega), ?_⟩ | refine ⟨(show _ ∨ _ by omega), ?_⟩ | refine ⟨fun h => absurd h (by decide), fun _ => ?_⟩ | refine ⟨fun _ => ?_, fun h => absurd h (by decide)⟩ | refine ⟨fun _ => ?_, fun h => absurd rfl h⟩ | refine ⟨fun h => absurd rfl h, fun _ => ?_⟩)); try (conv => whnf)
    exact h0 g1
/-- the book: what is written, in its order -/
def BookM (I : aI) (b : List (Int × Int)) : Prop := I 361 8 = b.length ∧ b.length ≤ 20 ∧ ∀ (j : Nat) (p : Int × Int), b[j]? = some p → I 366 j = p.1 ∧ I 367 j = p.2
/-- write(v, time) -/
theorem ok_mwrite {P : aP} {d : Nat} {K : aK} {I : aI} {R : aR} {S : aS} {v t : Int} {b : List (Int × Int)} (hM : MS R S) (hW : WF (I 362)) (hB : BookM I b) (hv : iR v) (h0 : ¬ (0 ≤ v ∧ v < I 362 0) → K (some (vi (-1000000001))) I R S) (h2 : (0 ≤ v ∧ v < I 362 0) → b.length = 20 → K (some (vi (-1000000004))) I R S)
    (h1 : (0 ≤ v ∧ v < I 362 0) → b.length < 20 → ∀ I', MF [366, 367] [8] I I' → BookM I' (b ++ [(v, t)]) → K (some (vi ((b.length : Int) + 1))) I' R S) : Ok P 131 (d + 3) [vr 361, vi v, vi t] I R S K := by
  obtain ⟨m0, r1, m1, r2, m2, r3, m3, r4, m4, r5, m5, r6, m6, r7, m7, r8, m8, r9, m9, r10, m10, r11, m11, r12, m12, r13, m13, r14, m14, r15, m15⟩ := id hM
  obtain ⟨hk, hl, hb⟩ := hB
  have hk' : I 361 ((8 : Nat) : Int) = b.length := hk
  refine Ok.of (by decide) rfl (Nat.le_of_ble_eq_true rfl) ?_
  refine Go.walk 400 [] E131 E131_ok (fun G C hG hC => ?_)
  (repeat ((conv => whnf); first | refine ⟨_, by assumption, ?_⟩ | refine ⟨_, _, by assumption, ?_⟩ | refine ⟨(show _ ∧ _ by omega), ?_⟩ | refine ⟨(show _ ∨ _ by omega), ?_⟩ | refine ⟨fun h => absurd h (by decide), fun _ => ?_⟩ | refine ⟨fun _ => ?_, fun h => absurd h (by decide)⟩ | refine ⟨fun _ => ?_, fun h => absurd rfl h⟩ | refine ⟨fun h => absurd rfl h, fun _ => ?_⟩)); try (conv => whnf)
  refine hC _ _ _ _ _ _ ?_
  refine ok_isNode hM hv hW (fun g1 => ?_) (fun g1 => ?_)
  · (repeat ((conv => whnf); first | refine ⟨_, by assumption, ?_⟩ | refine ⟨_, _, by assumption, ?_⟩ | refine ⟨(show _ ∧ _ by omega), ?_⟩ | refine ⟨(show _ ∨ _ by omega), ?_⟩ | refine ⟨fun h => absurd h (by decide), fun _ => ?_⟩ | refine ⟨fun _ => ?_, fun h => absurd h (by decide)⟩ | refine ⟨fun _ => ?_, fun h => absurd rfl h⟩ | refine ⟨fun h => absurd rfl h, fun _ => ?_⟩)); try (conv => whnf)
    refine ⟨fun g2 => ?_, fun g2 => ?_⟩
    · have e1 : ∀ z, uI I 366 z v 361 ((8 : Nat) : Int) = b.length := fun z => by rw [uI_ne (by omega)]; exact hk
      (repeat ((conv => whnf); first | refine ⟨_, by assumption, ?_⟩ | refine ⟨_, _, by assumption, ?_⟩ | refine ⟨(show _ ∧ _ by omega), ?_⟩ | refine ⟨(show _ ∨ _ by omega), ?_⟩ | refine ⟨fun h => absurd h (by decide), fun _ => ?_⟩ | refine ⟨fun _ => ?_, fun h => absurd h (by decide)⟩ | refine ⟨fun _ => ?_, fun h => absurd rfl h⟩ | refine ⟨fun h => absurd rfl h, fun _ => ?_⟩)); try (conv => whnf)
      rw [hk']
      rw [e1]
      refine ⟨by omega, ?_⟩
      (repeat ((conv => whnf); first | refine ⟨_, by assumption, ?_⟩ | refine ⟨_, _, by assumption, ?_⟩ | refine ⟨(show _ ∧ _ by omega), ?_⟩ | refine ⟨(show _ ∨ _ by omega), ?_⟩ | refine ⟨fun h => absurd h (by decide), fun _ => ?_⟩ | refine ⟨fun _ => ?_, fun h => absurd h (by decide)⟩ | refine ⟨fun _ => ?_, fun h => absurd rfl h⟩ | refine ⟨fun h => absurd rfl h, fun _ => ?_⟩)); try (conv => whnf)
      have e2 : uI (uI (uI I 366 (b.length : Int) v) 367 (b.length : Int) t) 361 8 ((b.length : Int) + 1) 361 8 = (b.length : Int) + 1 := uI_at
      have e3 : uI (uI I 366 (b.length : Int) v) 367 (b.length : Int) t 361 ((8 : Nat) : Int) = b.length := by rw [uI_ne (by omega), uI_ne (by omega)]; exact hk
      rw [e3]
      refine cast (congrArg (fun z => K (some (Sum.inl z)) _ R S) e2.symm) ?_
      refine h1 g1 (by omega) _ (((MF.rf.put (by decide) (by decide)).put (by decide) (by decide)).putF (by decide)) ⟨?_, by rw [List.length_append, List.length_singleton]; omega, fun j p hj => ?_⟩
      · rw [show ((8 : Nat) : Int) = 8 from rfl, uI_at, List.length_append, List.length_singleton]; omega
      · have a1 : uI (uI (uI I 366 (b.length : Int) v) 367 (b.length : Int) t) 361 ((8 : Nat) : Int) ((b.length : Int) + 1) 366 (j : Int) = uI I 366 (b.length : Int) v 366 (j : Int) := by rw [uI_ne (by omega), uI_ne (by omega)]
        have a2 : uI (uI (uI I 366 (b.length : Int) v) 367 (b.length : Int) t) 361 ((8 : Nat) : Int) ((b.length : Int) + 1) 367 (j : Int) = uI (uI I 366 (b.length : Int) v) 367 (b.length : Int) t 367 (j : Int) := by rw [uI_ne (by omega)]
        rw [a1, a2]
        by_cases hj2 : j < b.length
        · rw [List.getElem?_append_left hj2] at hj
          rw [uI_ne (by omega), uI_ne (by omega), uI_ne (by omega)]
          exact hb j p hj
        · have hz := (List.getElem?_eq_some_iff.mp hj).1
          rw [List.length_append, List.length_singleton] at hz
          have e : j = b.length := by omega
          subst e
          rw [List.getElem?_append_right (Nat.le_refl _), Nat.sub_self] at hj
          cases hj
          exact ⟨uI_at, uI_at⟩
    · (repeat ((conv => whnf); first | refine ⟨_, by assumption, ?_⟩ | refine ⟨_, _, by assumption, ?_⟩ | refine ⟨(show _ ∧ _ by omega), ?_⟩ | refine ⟨(show _ ∨ _ by omega), ?_⟩ | refine ⟨fun h => absurd h (by decide), fun _ => ?_⟩ | refine ⟨fun _ => ?_, fun h => absurd h (by decide)⟩ | refine ⟨fun _ => ?_, fun h => absurd rfl h⟩ | refine ⟨fun h => absurd rfl h, fun _ => ?_⟩)); try (conv => whnf)
      exact h2 g1 (by omega)
  · (repeat ((conv => whnf); first | refine ⟨_, by assumption, ?_⟩ | refine ⟨_, _, by assumption, ?_⟩ | refine ⟨(show _ ∧ _ by omega), ?_⟩ | refine ⟨(show _ ∨ _ by omega), ?_⟩ | refine ⟨fun h => absurd h (by decide), fun _ => ?_⟩ | refine ⟨fun _ => ?_, fun h => absurd h (by decide)⟩ | refine ⟨fun _ => ?_, fun h => absurd rfl h⟩ | refine ⟨fun h => absurd rfl h, fun _ => ?_⟩)); try (conv => whnf)
    exact h0 g1
/-- tear() -/
theorem ok_mtear {P : aP} {d : Nat} {K : aK} {I : aI} {R : aR} {S : aS} {b : List (Int × Int)} (hM : MS R S) (hB : BookM I b) (h1 : ∀ I', MF [] [8] I I' → BookM I' [] → K (some (vi (b.length : Int))) I' R S) : Ok P 132 (d + 1) [vr 361] I R S K := by
  obtain ⟨m0, r1, m1, r2, m2, r3, m3, r4, m4, r5, m5, r6, m6, r7, m7, r8, m8, r9, m9, r10, m10, r11, m11, r12, m12, r13, m13, r14, m14, r15, m15⟩ := id hM
  have hk' : I 361 ((8 : Nat) : Int) = b.length := hB.1
  refine Ok.of (by decide) rfl (Nat.le_of_ble_eq_true rfl) ?_
  refine Go.walk 400 [] E132 E132_ok (fun G C hG hC => ?_)
  (repeat ((conv => whnf); first | refine ⟨_, by assumption, ?_⟩ | refine ⟨_, _, by assumption, ?_⟩ | refine ⟨(show _ ∧ _ by omega), ?_⟩ | refine ⟨(show _ ∨ _ by omega), ?_⟩ | refine ⟨fun h => absurd h (by decide), fun _ => ?_⟩ | refine ⟨fun _ => ?_, fun h => absurd h (by decide)⟩ | refine ⟨fun _ => ?_, fun h => absurd rfl h⟩ | refine ⟨fun h => absurd rfl h, fun _ => ?_⟩)); try (conv => whnf)
  rw [hk']
  exact h1 _ (MF.rf.putF (by decide)) ⟨uI_at, by simp, fun j p h => by cases h⟩
/-- seed(v) -/
theorem ok_mseed {P : aP} {d : Nat} {K : aK} {I : aI} {R : aR} {S : aS} {v : Int} (hM : MS R S) (hv : iR v) (h0 : v < 0 → K (some (vi (-1000000002))) I R S) (h1 : 0 ≤ v → K (some (vi (I 361 1))) (uI I 361 1 v) R S) : Ok P 133 (d + 1) [vr 361, vi v] I R S K := by
  obtain ⟨m0, r1, m1, r2, m2, r3, m3, r4, m4, r5, m5, r6, m6, r7, m7, r8, m8, r9, m9, r10, m10, r11, m11, r12, m12, r13, m13, r14, m14, r15, m15⟩ := id hM
  refine Ok.of (by decide) rfl (Nat.le_of_ble_eq_true rfl) ?_
  refine Go.walk 400 [] E133 E133_ok (fun G C hG hC => ?_)
  (repeat ((conv => whnf); first | refine ⟨_, by assumption, ?_⟩ | refine ⟨_, _, by assumption, ?_⟩ | refine ⟨(show _ ∧ _ by omega), ?_⟩ | refine ⟨(show _ ∨ _ by omega), ?_⟩ | refine ⟨fun h => absurd h (by decide), fun _ => ?_⟩ | refine ⟨fun _ => ?_, fun h => absurd h (by decide)⟩ | refine ⟨fun _ => ?_, fun h => absurd rfl h⟩ | refine ⟨fun h => absurd rfl h, fun _ => ?_⟩)); try (conv => whnf)
  refine ⟨fun g => ?_, fun g => ?_⟩
  · (repeat ((conv => whnf); first | refine ⟨_, by assumption, ?_⟩ | refine ⟨_, _, by assumption, ?_⟩ | refine ⟨(show _ ∧ _ by omega), ?_⟩ | refine ⟨(show _ ∨ _ by omega), ?_⟩ | refine ⟨fun h => absurd h (by decide), fun _ => ?_⟩ | refine ⟨fun _ => ?_, fun h => absurd h (by decide)⟩ | refine ⟨fun _ => ?_, fun h => absurd rfl h⟩ | refine ⟨fun h => absurd rfl h, fun _ => ?_⟩)); try (conv => whnf)
    exact h1 g
  · (repeat ((conv => whnf); first | refine ⟨_, by assumption, ?_⟩ | refine ⟨_, _, by assumption, ?_⟩ | refine ⟨(show _ ∧ _ by omega), ?_⟩ | refine ⟨(show _ ∨ _ by omega), ?_⟩ | refine ⟨fun h => absurd h (by decide), fun _ => ?_⟩ | refine ⟨fun _ => ?_, fun h => absurd h (by decide)⟩ | refine ⟨fun _ => ?_, fun h => absurd rfl h⟩ | refine ⟨fun h => absurd rfl h, fun _ => ?_⟩)); try (conv => whnf)
    exact h0 (by omega)
