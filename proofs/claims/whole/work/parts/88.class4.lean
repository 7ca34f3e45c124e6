/-! the class: drift, undo, the book, the seed, images -/
theorem NetR.cgn {I : aI} {a : Nat} {n n' : aN} (hR : NetR I a n) (h : ∀ k : Int, 0 ≤ k → k < 68 → n' k = n k) : NetR I a n' := by
  obtain ⟨⟨h0, h1, h2⟩, h3, h4, h5⟩ := hR
  have en : ∀ x y : Int, 0 ≤ x → x < 6 → 0 ≤ y → y < 8 → nf n' x y = nf n x y := fun x y g0 g1 g2 g3 => h _ (by omega) (by omega)
  have ek : ∀ x y : Int, 1 ≤ x → x ≤ 3 → 0 ≤ y → y < 6 → kf n' x y = kf n x y := fun x y g0 g1 g2 g3 => h _ (by omega) (by omega)
  refine ⟨⟨by rw [h 0 (by omega) (by omega)]; exact h0, by rw [h 1 (by omega) (by omega)]; exact h1, by rw [mKinds_cong (n := n) (n' := n') (fun k g0 g1 => ek k 0 g0 g1 (by omega) (by omega))]; exact h2⟩, fun x g0 g1 => ?_, fun k g0 g1 => ?_, h5⟩
  · rw [en x 0 g0 g1 (by omega) (by omega), en x 1 g0 g1 (by omega) (by omega), en x 2 g0 g1 (by omega) (by omega), en x 3 g0 g1 (by omega) (by omega), en x 4 g0 g1 (by omega) (by omega), en x 5 g0 g1 (by omega) (by omega), en x 6 g0 g1 (by omega) (by omega), en x 7 g0 g1 (by omega) (by omega)]
    exact h3 x g0 g1
  · rw [ek k 1 g0 g1 (by omega) (by omega), ek k 2 g0 g1 (by omega) (by omega), ek k 3 g0 g1 (by omega) (by omega), ek k 4 g0 g1 (by omega) (by omega), ek k 5 g0 g1 (by omega) (by omega)]
    exact h4 k g0 g1
theorem WF.cgn {n n' : aN} (hW : WF n) (h : ∀ k : Int, 0 ≤ k → k < 68 → n' k = n k) : WF n' := by
  have en : ∀ x y : Int, 0 ≤ x → x < 6 → 0 ≤ y → y < 8 → nf n' x y = nf n x y := fun x y g0 g1 g2 g3 => h _ (by omega) (by omega)
  have ek : ∀ x y : Int, 1 ≤ x → x ≤ 3 → 0 ≤ y → y < 6 → kf n' x y = kf n x y := fun x y g0 g1 g2 g3 => h _ (by omega) (by omega)
  obtain ⟨w1, w2, w3, w4, w5, w6⟩ := hW
  have e0 := h 0 (by omega) (by omega)
  have e1 := h 1 (by omega) (by omega)
  refine ⟨by rw [e0, e1]; exact w1, fun v g0 g1 => ?_, fun v g0 g1 => ?_, fun v g0 g1 g2 => ?_, ?_, fun k g0 g1 => ?_⟩
  · rw [en v 0 g0 g1 (by omega) (by omega), en v 1 g0 g1 (by omega) (by omega), en v 2 g0 g1 (by omega) (by omega), en v 3 g0 g1 (by omega) (by omega), en v 4 g0 g1 (by omega) (by omega), en v 5 g0 g1 (by omega) (by omega), en v 6 g0 g1 (by omega) (by omega), en v 7 g0 g1 (by omega) (by omega)]
    exact w2 v g0 g1
  · rw [e0] at g1
    rw [en v 3 (by omega) (by omega) (by omega) (by omega), en v 4 (by omega) (by omega) (by omega) (by omega)]
    exact w3 v g0 g1
  · rw [e0] at g1
    rw [en v 7 (by omega) (by omega) (by omega) (by omega)] at g2 ⊢
    have hb := (w2 v (by omega) (by omega)).2.2.2.2.2.2.2
    rw [ek _ 0 g2 hb.2 (by omega) (by omega)]
    exact w4 v g0 g1 g2
  · rw [en 0 7 (by omega) (by omega) (by omega) (by omega)]
    exact w5
  · rw [ek k 0 g0 g1 (by omega) (by omega), ek k 1 g0 g1 (by omega) (by omega), ek k 2 g0 g1 (by omega) (by omega), ek k 3 g0 g1 (by omega) (by omega), ek k 4 g0 g1 (by omega) (by omega), ek k 5 g0 g1 (by omega) (by omega)]
    exact w6 k g0 g1
section Dd
variable {n : aN} {h : List aN} {B : List (Int × Int)} {sd : Int} {im : Int → Option (aN × Int)}
theorem CSt.cgn {n' : aN} {I : aI} {R : aR} {S : aS} (hC : CSt n h B sd im I R S) (h5 : I 34 5 = 0) (hn : ∀ k : Int, 0 ≤ k → k < 68 → n' k = n k) : CSt n' h B sd im I R S := by
  obtain ⟨c1, c2, c3, c4, c5, c6, c7, c8, c9⟩ := hC
  exact ⟨c1, c2, c3, c4.cgn hn, c5, c6, c7, c8, Or.inl h5⟩
/-- net and seed are changed, while the choices are not fresh -/
theorem CSt.net2 {n' : aN} {sd' : Int} {I I' : aI} {R : aR} {S : aS} (hC : CSt n h B sd im I R S) (h5 : I 34 5 = 0) (hI : ∀ a, ¬ (1 ≤ a ∧ a ≤ 33) → a ≠ 329 → I' a = I a) (hR : NetR I' 1 n') (hs : I' 329 0 = sd') : CSt n' h B sd' im I' R S := by
  obtain ⟨c1, c2, c3, c4, c5, c6, c7, c8, c9⟩ := hC
  exact ⟨c1, c2, c3, hR, c5.cg (fun a g1 g2 => hI a (by omega) (by omega)), c6.cg (fun a g1 g2 => hI a (by omega) (by omega)), hs, fun i g0 g1 => (c8 i g0 g1).cg g0 g1 (fun a p1 p2 => hI a (by omega) (by omega)), Or.inl (by rw [hI 34 (by omega) (by omega)]; exact h5)⟩
/-- growByDraws() -/
theorem ok_cgrow {P : aP} {d : Nat} {K : aK} {I : aI} {R : aR} {S : aS} (hC0 : CSt n h B sd im I R S) (hW : WF n) (h6 : n 0 < 6) (hs : 0 ≤ sd ∧ sd < 2147483648) (h5 : I 34 5 = 0) (hK : ∀ I', XF I R S I' R S → CSt (driftN n sd) h B (driftS sd) im I' R S → I' 34 5 = 0 → K none I' R S) : Ok P 71 (d + 3) [vr 0] I R S K := by
  have hN := hW.1
  obtain ⟨c1, c2, c3, c4, c5, c6, c7, c8, c9⟩ := id hC0
  obtain ⟨⟨a0, a1, a2, a3, a4, a5, a6, a7, -⟩, ⟨b0, b1, b2, b3, b4, b5, b6⟩, -, -, e3, -⟩ := id c1
  have hN1 := e3 1 (Or.inl rfl)
  have sn := hN1.1
  have e0 : I 1 ((0 : Nat) : Int) = n 0 := c4.1.1
  have ne : ∀ (J : aI) (z : Int) (x : Nat), x ≠ 329 → uI J 329 0 z x = J x := fun J z x hx => by funext k; exact uI_ne (fun e => hx e.1)
  have at0 : ∀ (J : aI) (z : Int), uI J 329 0 z 329 0 = z := fun J z => uI_at
  have s1 := sdN_bd (s := sd)
  have s2 := sdN_bd (s := sdN sd)
  have s3 := sdN_bd (s := sdN (sdN sd))
  have s4 := sdN_bd (s := sdN (sdN (sdN sd)))
  have s5 := sdN_bd (s := sdN (sdN (sdN (sdN sd))))
  refine Ok.of (by decide) rfl (Nat.le_of_ble_eq_true rfl) ?_
  refine Go.walk 400 [] E71 E71_ok (fun G C hG hC => ?_)
  (repeat ((conv => whnf); first | refine ⟨_, by assumption, ?_⟩ | refine ⟨_, _, by assumption, ?_⟩ | refine ⟨(show _ ∧ _ by omega), ?_⟩ | refine ⟨(show _ ∨ _ by omega), ?_⟩ | refine ⟨fun h => absurd h (by decide), fun _ => ?_⟩ | refine ⟨fun _ => ?_, fun h => absurd h (by decide)⟩ | refine ⟨fun _ => ?_, fun h => absurd rfl h⟩ | refine ⟨fun h => absurd rfl h, fun _ => ?_⟩)); try (conv => whnf)
  rw [e0]
  refine hC _ _ _ _ _ _ ?_
  refine ok_next b6 (by rw [c7]; exact hs) (by omega) ?_
  rw [c7]
  (repeat ((conv => whnf); first | refine ⟨_, by assumption, ?_⟩ | refine ⟨_, _, by assumption, ?_⟩ | refine ⟨(show _ ∧ _ by omega), ?_⟩ | refine ⟨(show _ ∨ _ by omega), ?_⟩ | refine ⟨fun h => absurd h (by decide), fun _ => ?_⟩ | refine ⟨fun _ => ?_, fun h => absurd h (by decide)⟩ | refine ⟨fun _ => ?_, fun h => absurd rfl h⟩ | refine ⟨fun h => absurd rfl h, fun _ => ?_⟩)); try (conv => whnf)
  refine hC _ _ _ _ _ _ ?_
  refine ok_next b6 (by rw [at0]; exact s1) (by omega) ?_
  rw [at0]
  (repeat ((conv => whnf); first | refine ⟨_, by assumption, ?_⟩ | refine ⟨_, _, by assumption, ?_⟩ | refine ⟨(show _ ∧ _ by omega), ?_⟩ | refine ⟨(show _ ∨ _ by omega), ?_⟩ | refine ⟨fun h => absurd h (by decide), fun _ => ?_⟩ | refine ⟨fun _ => ?_, fun h => absurd h (by decide)⟩ | refine ⟨fun _ => ?_, fun h => absurd rfl h⟩ | refine ⟨fun h => absurd rfl h, fun _ => ?_⟩)); try (conv => whnf)
  refine hC _ _ _ _ _ _ ?_
  refine ok_next b6 (by rw [at0]; exact s2) (by omega) ?_
  rw [at0]
  (repeat ((conv => whnf); first | refine ⟨_, by assumption, ?_⟩ | refine ⟨_, _, by assumption, ?_⟩ | refine ⟨(show _ ∧ _ by omega), ?_⟩ | refine ⟨(show _ ∨ _ by omega), ?_⟩ | refine ⟨fun h => absurd h (by decide), fun _ => ?_⟩ | refine ⟨fun _ => ?_, fun h => absurd h (by decide)⟩ | refine ⟨fun _ => ?_, fun h => absurd rfl h⟩ | refine ⟨fun h => absurd rfl h, fun _ => ?_⟩)); try (conv => whnf)
  refine hC _ _ _ _ _ _ ?_
  refine ok_next b6 (by rw [at0]; exact s3) (by omega) ?_
  rw [at0]
  (repeat ((conv => whnf); first | refine ⟨_, by assumption, ?_⟩ | refine ⟨_, _, by assumption, ?_⟩ | refine ⟨(show _ ∧ _ by omega), ?_⟩ | refine ⟨(show _ ∨ _ by omega), ?_⟩ | refine ⟨fun h => absurd h (by decide), fun _ => ?_⟩ | refine ⟨fun _ => ?_, fun h => absurd h (by decide)⟩ | refine ⟨fun _ => ?_, fun h => absurd rfl h⟩ | refine ⟨fun h => absurd rfl h, fun _ => ?_⟩)); try (conv => whnf)
  refine hC _ _ _ _ _ _ ?_
  refine ok_next b6 (by rw [at0]; exact s4) (by omega) ?_
  rw [at0]
  (repeat ((conv => whnf); first | refine ⟨_, by assumption, ?_⟩ | refine ⟨_, _, by assumption, ?_⟩ | refine ⟨(show _ ∧ _ by omega), ?_⟩ | refine ⟨(show _ ∨ _ by omega), ?_⟩ | refine ⟨fun h => absurd h (by decide), fun _ => ?_⟩ | refine ⟨fun _ => ?_, fun h => absurd h (by decide)⟩ | refine ⟨fun _ => ?_, fun h => absurd rfl h⟩ | refine ⟨fun h => absurd rfl h, fun _ => ?_⟩)); try (conv => whnf)
  refine hC _ _ _ _ _ _ ?_
  refine ok_next b6 (by rw [at0]; exact s5) (by omega) ?_
  rw [at0]
  generalize hJ : uI (uI (uI (uI (uI (uI I 329 0 (sdN sd)) 329 0 (sdN (sdN sd))) 329 0 (sdN (sdN (sdN sd)))) 329 0 (sdN (sdN (sdN (sdN sd))))) 329 0 (sdN (sdN (sdN (sdN (sdN sd)))))) 329 0 (sdN (sdN (sdN (sdN (sdN (sdN sd)))))) = J
  have hJ1 : ∀ x, x ≠ 329 → J x = I x := fun x hx => by rw [← hJ, ne _ _ x hx, ne _ _ x hx, ne _ _ x hx, ne _ _ x hx, ne _ _ x hx, ne _ _ x hx]
  have hJ2 : J 329 0 = driftS sd := by rw [← hJ]; exact uI_at
  have hRJ : NetR J 1 n := c4.cg (fun x g1 g2 => hJ1 x (by omega))
  (repeat ((conv => whnf); first | refine ⟨_, by assumption, ?_⟩ | refine ⟨_, _, by assumption, ?_⟩ | refine ⟨(show _ ∧ _ by omega), ?_⟩ | refine ⟨(show _ ∨ _ by omega), ?_⟩ | refine ⟨fun h => absurd h (by decide), fun _ => ?_⟩ | refine ⟨fun _ => ?_, fun h => absurd h (by decide)⟩ | refine ⟨fun _ => ?_, fun h => absurd rfl h⟩ | refine ⟨fun h => absurd rfl h, fun _ => ?_⟩)); try (conv => whnf)
  refine hC _ _ _ _ _ _ ?_
  refine ok_grow hN1 hRJ hW h6 (fun I2 hF2 hR2 => ?_)
  (repeat ((conv => whnf); first | refine ⟨_, by assumption, ?_⟩ | refine ⟨_, _, by assumption, ?_⟩ | refine ⟨(show _ ∧ _ by omega), ?_⟩ | refine ⟨(show _ ∨ _ by omega), ?_⟩ | refine ⟨fun h => absurd h (by decide), fun _ => ?_⟩ | refine ⟨fun _ => ?_, fun h => absurd h (by decide)⟩ | refine ⟨fun _ => ?_, fun h => absurd rfl h⟩ | refine ⟨fun h => absurd rfl h, fun _ => ?_⟩)); try (conv => whnf)
  refine hC _ _ _ _ _ _ ?_
  refine ok_tellEnd hN1 hR2 (by omega) (fun I3 hF3 hR3 => ?_)
  (repeat ((conv => whnf); first | refine ⟨_, by assumption, ?_⟩ | refine ⟨_, _, by assumption, ?_⟩ | refine ⟨(show _ ∧ _ by omega), ?_⟩ | refine ⟨(show _ ∨ _ by omega), ?_⟩ | refine ⟨fun h => absurd h (by decide), fun _ => ?_⟩ | refine ⟨fun _ => ?_, fun h => absurd h (by decide)⟩ | refine ⟨fun _ => ?_, fun h => absurd rfl h⟩ | refine ⟨fun h => absurd rfl h, fun _ => ?_⟩)); try (conv => whnf)
  have hI3 : ∀ x, ¬ (1 ≤ x ∧ x ≤ 33) → x ≠ 329 → I3 x = I x := fun x p q => by rw [hF3 x (by omega), hF2 x (by omega), hJ1 x q]
  have ed : driftN n sd = endN (growF n (dr1 sd (n 0)) (dr1 (sdN sd) 10) (dr1 (sdN (sdN sd)) 10)) (n 0) (dr1 (sdN (sdN (sdN sd))) 9 + 1) (dr1 (sdN (sdN (sdN (sdN sd)))) 300) (dr1 (sdN (sdN (sdN (sdN (sdN sd))))) 2) := by
    unfold driftN endN
    rw [Int.add_comm 1]
  rw [← ed] at hR3
  refine hK I3 (XF.of (fun a p q => hI3 a (by omega) (by omega))) (hC0.net2 h5 hI3 hR3 ?_) ?_
  · rw [hF3 329 (by omega), hF2 329 (by omega)]; exact hJ2
  · rw [hI3 34 (by omega) (by omega)]; exact h5
/-- drift(m) -/
theorem ok_cdrift {P : aP} {d : Nat} {K : aK} {I : aI} {R : aR} {S : aS} {m : Int} (hC0 : CSt n h B sd im I R S) (hW : WF n) (hs : 0 ≤ sd ∧ sd < 2147483648) (hm : iR m) (h0 : ¬ (1 ≤ m ∧ m ≤ 6) → K (some (vi (-1000000002))) I R S)
    (h1 : 1 ≤ m ∧ m ≤ 6 → ∀ I' n' s' h', (n', s', h') = driftI m.toNat (n, sd, h) → XF I R S I' R S → CSt n' h' B s' im I' R S → K (some (vi (n' 0))) I' R S) : Ok P 62 (d + 4) [vr 0, vi m] I R S K := by
  obtain ⟨c1, -⟩ := id hC0
  obtain ⟨⟨a0, a1, -⟩, -, -, -, e3, -⟩ := id c1
  have hN1 := e3 1 (Or.inl rfl)
  have sn := hN1.1
  have loop : 1 ≤ m ∧ m ≤ 6 → ∀ (k : Nat) (j : Int) (I' : aI) (n' : aN) (s' : Int) (h' : List aN), 0 ≤ j → m - j = k → WF n' → 0 ≤ s' → s' < 2147483648 → XF I R S I' R S → CSt n' h' B s' im I' R S → driftI k (n', s', h') = driftI m.toNat (n, sd, h) → Go P 62 (d + 4) K 15 [vr 0, vi m, vi j] [] I' R S := by
    intro hmm k
    induction k with
    | zero =>
      intro j I' n' s' h' g0 gk hW' t0 t1 hX hC' he
      have e0 : I' 1 ((0 : Nat) : Int) = n' 0 := hC'.2.2.2.1.1.1
      refine Go.walk 400 [15] E62 E62_ok (fun G C hG hC => ?_)
      (repeat ((conv => whnf); first | refine ⟨_, by assumption, ?_⟩ | refine ⟨_, _, by assumption, ?_⟩ | refine ⟨(show _ ∧ _ by omega), ?_⟩ | refine ⟨(show _ ∨ _ by omega), ?_⟩ | refine ⟨fun h => absurd h (by decide), fun _ => ?_⟩ | refine ⟨fun _ => ?_, fun h => absurd h (by decide)⟩ | refine ⟨fun _ => ?_, fun h => absurd rfl h⟩ | refine ⟨fun h => absurd rfl h, fun _ => ?_⟩)); try (conv => whnf)
      refine ⟨fun _ => ?_, fun q => absurd (show m ≤ j by omega) q⟩
      (repeat ((conv => whnf); first | refine ⟨_, by assumption, ?_⟩ | refine ⟨_, _, by assumption, ?_⟩ | refine ⟨(show _ ∧ _ by omega), ?_⟩ | refine ⟨(show _ ∨ _ by omega), ?_⟩ | refine ⟨fun h => absurd h (by decide), fun _ => ?_⟩ | refine ⟨fun _ => ?_, fun h => absurd h (by decide)⟩ | refine ⟨fun _ => ?_, fun h => absurd rfl h⟩ | refine ⟨fun h => absurd rfl h, fun _ => ?_⟩)); try (conv => whnf)
      rw [e0]
      exact h1 hmm I' n' s' h' he hX hC'
    | succ k ih =>
      intro j I' n' s' h' g0 gk hW' t0 t1 hX hC' he
      have hR' := hC'.2.2.2.1
      have e0 : I' 1 ((0 : Nat) : Int) = n' 0 := hR'.1.1
      refine Go.walk 400 [15] E62 E62_ok (fun G C hG hC => ?_)
      (repeat ((conv => whnf); first | refine ⟨_, by assumption, ?_⟩ | refine ⟨_, _, by assumption, ?_⟩ | refine ⟨(show _ ∧ _ by omega), ?_⟩ | refine ⟨(show _ ∨ _ by omega), ?_⟩ | refine ⟨fun h => absurd h (by decide), fun _ => ?_⟩ | refine ⟨fun _ => ?_, fun h => absurd h (by decide)⟩ | refine ⟨fun _ => ?_, fun h => absurd rfl h⟩ | refine ⟨fun h => absurd rfl h, fun _ => ?_⟩)); try (conv => whnf)
      refine ⟨fun q => absurd q (by omega), fun _ => ?_⟩
      (repeat ((conv => whnf); first | refine ⟨_, by assumption, ?_⟩ | refine ⟨_, _, by assumption, ?_⟩ | refine ⟨(show _ ∧ _ by omega), ?_⟩ | refine ⟨(show _ ∨ _ by omega), ?_⟩ | refine ⟨fun h => absurd h (by decide), fun _ => ?_⟩ | refine ⟨fun _ => ?_, fun h => absurd h (by decide)⟩ | refine ⟨fun _ => ?_, fun h => absurd rfl h⟩ | refine ⟨fun h => absurd rfl h, fun _ => ?_⟩)); try (conv => whnf)
      refine hC _ _ _ _ _ _ ?_
      refine ok_hasRoom hN1 hR' hW' (fun q => ?_) (fun q => ?_)
      · have he2 : driftI k (driftN n' s', driftS s', pushH h' n') = driftI m.toNat (n, sd, h) := by
          rw [← he]
          show _ = if n' 0 < 6 then _ else _
          rw [if_pos q]
        (repeat ((conv => whnf); first | refine ⟨_, by assumption, ?_⟩ | refine ⟨_, _, by assumption, ?_⟩ | refine ⟨(show _ ∧ _ by omega), ?_⟩ | refine ⟨(show _ ∨ _ by omega), ?_⟩ | refine ⟨fun h => absurd h (by decide), fun _ => ?_⟩ | refine ⟨fun _ => ?_, fun h => absurd h (by decide)⟩ | refine ⟨fun _ => ?_, fun h => absurd rfl h⟩ | refine ⟨fun h => absurd rfl h, fun _ => ?_⟩)); try (conv => whnf)
        refine hC _ _ _ _ _ _ ?_
        refine ok_deedC hC' (fun I1 hX1 hC1 h5 => ?_)
        (repeat ((conv => whnf); first | refine ⟨_, by assumption, ?_⟩ | refine ⟨_, _, by assumption, ?_⟩ | refine ⟨(show _ ∧ _ by omega), ?_⟩ | refine ⟨(show _ ∨ _ by omega), ?_⟩ | refine ⟨fun h => absurd h (by decide), fun _ => ?_⟩ | refine ⟨fun _ => ?_, fun h => absurd h (by decide)⟩ | refine ⟨fun _ => ?_, fun h => absurd rfl h⟩ | refine ⟨fun h => absurd rfl h, fun _ => ?_⟩)); try (conv => whnf)
        refine hC _ _ _ _ _ _ ?_
        refine ok_cgrow hC1 hW' q ⟨t0, t1⟩ h5 (fun I2 hX2 hC2 h52 => ?_)
        (repeat ((conv => whnf); first | refine ⟨_, by assumption, ?_⟩ | refine ⟨_, _, by assumption, ?_⟩ | refine ⟨(show _ ∧ _ by omega), ?_⟩ | refine ⟨(show _ ∨ _ by omega), ?_⟩ | refine ⟨fun h => absurd h (by decide), fun _ => ?_⟩ | refine ⟨fun _ => ?_, fun h => absurd h (by decide)⟩ | refine ⟨fun _ => ?_, fun h => absurd rfl h⟩ | refine ⟨fun h => absurd rfl h, fun _ => ?_⟩)); try (conv => whnf)
        refine hG _ _ _ _ _ _ ?_
        have hsb := sdN_bd (s := sdN (sdN (sdN (sdN (sdN s')))))
        exact ih (j + 1) I2 _ _ _ (by omega) (by omega) (wf_drift hW' q) hsb.1 hsb.2 ((hX.tr hX1).tr hX2) hC2 he2
      · have he2 : (n', s', h') = driftI m.toNat (n, sd, h) := by
          rw [← he]
          show _ = if n' 0 < 6 then _ else _
          rw [if_neg q]
        (repeat ((conv => whnf); first | refine ⟨_, by assumption, ?_⟩ | refine ⟨_, _, by assumption, ?_⟩ | refine ⟨(show _ ∧ _ by omega), ?_⟩ | refine ⟨(show _ ∨ _ by omega), ?_⟩ | refine ⟨fun h => absurd h (by decide), fun _ => ?_⟩ | refine ⟨fun _ => ?_, fun h => absurd h (by decide)⟩ | refine ⟨fun _ => ?_, fun h => absurd rfl h⟩ | refine ⟨fun h => absurd rfl h, fun _ => ?_⟩)); try (conv => whnf)
        rw [e0]
        exact h1 hmm I' n' s' h' he2 hX hC'
  refine Ok.of (by decide) rfl (Nat.le_of_ble_eq_true rfl) ?_
  refine Go.walk 400 [15] E62 E62_ok (fun G C hG hC => ?_)
  (repeat ((conv => whnf); first | refine ⟨_, by assumption, ?_⟩ | refine ⟨_, _, by assumption, ?_⟩ | refine ⟨(show _ ∧ _ by omega), ?_⟩ | refine ⟨(show _ ∨ _ by omega), ?_⟩ | refine ⟨fun h => absurd h (by decide), fun _ => ?_⟩ | refine ⟨fun _ => ?_, fun h => absurd h (by decide)⟩ | refine ⟨fun _ => ?_, fun h => absurd rfl h⟩ | refine ⟨fun h => absurd rfl h, fun _ => ?_⟩)); try (conv => whnf)
  refine hC _ _ _ _ _ _ ?_
  refine ok_within hm (by omega) (by omega) (fun q => ?_) (fun q => ?_)
  · (repeat ((conv => whnf); first | refine ⟨_, by assumption, ?_⟩ | refine ⟨_, _, by assumption, ?_⟩ | refine ⟨(show _ ∧ _ by omega), ?_⟩ | refine ⟨(show _ ∨ _ by omega), ?_⟩ | refine ⟨fun h => absurd h (by decide), fun _ => ?_⟩ | refine ⟨fun _ => ?_, fun h => absurd h (by decide)⟩ | refine ⟨fun _ => ?_, fun h => absurd rfl h⟩ | refine ⟨fun h => absurd rfl h, fun _ => ?_⟩)); try (conv => whnf)
    refine hG _ _ _ _ _ _ ?_
    exact loop q m.toNat 0 I n sd h (by omega) (by omega) hW hs.1 hs.2 XF.rf hC0 rfl
  · (repeat ((conv => whnf); first | refine ⟨_, by assumption, ?_⟩ | refine ⟨_, _, by assumption, ?_⟩ | refine ⟨(show _ ∧ _ by omega), ?_⟩ | refine ⟨(show _ ∨ _ by omega), ?_⟩ | refine ⟨fun h => absurd h (by decide), fun _ => ?_⟩ | refine ⟨fun _ => ?_, fun h => absurd h (by decide)⟩ | refine ⟨fun _ => ?_, fun h => absurd rfl h⟩ | refine ⟨fun h => absurd rfl h, fun _ => ?_⟩)); try (conv => whnf)
    exact h0 q
/-- undo(m) -/
theorem ok_cundo {P : aP} {d : Nat} {K : aK} {I : aI} {R : aR} {S : aS} {m : Int} (hC0 : CSt n h B sd im I R S) (hm : iR m) (h0 : ¬ (1 ≤ m ∧ m ≤ 16) → K (some (vi (-1000000002))) I R S) (h2 : 1 ≤ m ∧ m ≤ 16 → (h.length : Int) < m → K (some (vi (-1000000003))) I R S)
    (h1 : 1 ≤ m → m ≤ h.length → ∀ I' q, h[h.length - m.toNat]? = some q → XF I R S I' R S → CSt q (h.take (h.length - m.toNat)) B sd im I' R S → I' 34 5 = 0 → K (some (vi ((h.length : Int) - m))) I' R S) : Ok P 63 (d + 3) [vr 0, vi m] I R S K := by
  obtain ⟨c1, c2, c3, c4, c5, c6, c7, c8, c9⟩ := id hC0
  obtain ⟨⟨a0, a1, a2, a3, a4, a5, a6, a7, -⟩, ⟨b0, b1, b2, b3, b4, b5, b6⟩, -, -, e3, -, -, e6⟩ := id c1
  have s34 := e6.1
  have ep : I 100 ((2 : Nat) : Int) = h.length := c5.1
  have hl16 := c5.2.1
  refine Ok.of (by decide) rfl (Nat.le_of_ble_eq_true rfl) ?_
  refine Go.walk 400 [] E63 E63_ok (fun G C hG hC => ?_)
  (repeat ((conv => whnf); first | refine ⟨_, by assumption, ?_⟩ | refine ⟨_, _, by assumption, ?_⟩ | refine ⟨(show _ ∧ _ by omega), ?_⟩ | refine ⟨(show _ ∨ _ by omega), ?_⟩ | refine ⟨fun h => absurd h (by decide), fun _ => ?_⟩ | refine ⟨fun _ => ?_, fun h => absurd h (by decide)⟩ | refine ⟨fun _ => ?_, fun h => absurd rfl h⟩ | refine ⟨fun h => absurd rfl h, fun _ => ?_⟩)); try (conv => whnf)
  refine hC _ _ _ _ _ _ ?_
  refine ok_within hm (by omega) (by omega) (fun q => ?_) (fun q => ?_)
  · (repeat ((conv => whnf); first | refine ⟨_, by assumption, ?_⟩ | refine ⟨_, _, by assumption, ?_⟩ | refine ⟨(show _ ∧ _ by omega), ?_⟩ | refine ⟨(show _ ∨ _ by omega), ?_⟩ | refine ⟨fun h => absurd h (by decide), fun _ => ?_⟩ | refine ⟨fun _ => ?_, fun h => absurd h (by decide)⟩ | refine ⟨fun _ => ?_, fun h => absurd rfl h⟩ | refine ⟨fun h => absurd rfl h, fun _ => ?_⟩)); try (conv => whnf)
    rw [ep]
    refine ⟨fun q2 => ?_, fun q2 => ?_⟩
    · have hlt : h.length - m.toNat < h.length := by omega
      have hq := List.getElem?_eq_getElem hlt
      (repeat ((conv => whnf); first | refine ⟨_, by assumption, ?_⟩ | refine ⟨_, _, by assumption, ?_⟩ | refine ⟨(show _ ∧ _ by omega), ?_⟩ | refine ⟨(show _ ∨ _ by omega), ?_⟩ | refine ⟨fun h => absurd h (by decide), fun _ => ?_⟩ | refine ⟨fun _ => ?_, fun h => absurd h (by decide)⟩ | refine ⟨fun _ => ?_, fun h => absurd rfl h⟩ | refine ⟨fun h => absurd rfl h, fun _ => ?_⟩)); try (conv => whnf)
      refine hC _ _ _ _ _ _ ?_
      refine ok_goBackBy c1 c5 q.1 q2 hq (fun I1 hI1 hR1 hP1 => ?_)
      (repeat ((conv => whnf); first | refine ⟨_, by assumption, ?_⟩ | refine ⟨_, _, by assumption, ?_⟩ | refine ⟨(show _ ∧ _ by omega), ?_⟩ | refine ⟨(show _ ∨ _ by omega), ?_⟩ | refine ⟨fun h => absurd h (by decide), fun _ => ?_⟩ | refine ⟨fun _ => ?_, fun h => absurd h (by decide)⟩ | refine ⟨fun _ => ?_, fun h => absurd rfl h⟩ | refine ⟨fun h => absurd rfl h, fun _ => ?_⟩)); try (conv => whnf)
      refine hC _ _ _ _ _ _ ?_
      refine ok_forget e6 ?_
      have hI2 : ∀ a, ¬ (1 ≤ a ∧ a ≤ 14) → a ≠ 100 → a ≠ 34 → uI I1 34 5 0 a = I a := fun a p q r => by
        rw [← hI1 a p q]
        funext k
        exact uI_ne (fun e => r e.1)
      have hP2 := hP1.cg (I' := uI I1 34 5 0) (fun a g1 g2 => by funext k; exact uI_ne (by omega))
      have er : uI I1 34 5 0 100 ((2 : Nat) : Int) = (h.length : Int) - m := by
        refine hP2.1.trans ?_
        rw [List.length_take]
        omega
      (repeat ((conv => whnf); first | refine ⟨_, by assumption, ?_⟩ | refine ⟨_, _, by assumption, ?_⟩ | refine ⟨(show _ ∧ _ by omega), ?_⟩ | refine ⟨(show _ ∨ _ by omega), ?_⟩ | refine ⟨fun h => absurd h (by decide), fun _ => ?_⟩ | refine ⟨fun _ => ?_, fun h => absurd h (by decide)⟩ | refine ⟨fun _ => ?_, fun h => absurd rfl h⟩ | refine ⟨fun h => absurd rfl h, fun _ => ?_⟩)); try (conv => whnf)
      rw [er]
      refine h1 q.1 q2 _ _ hq (XF.of (fun a p r => hI2 a (by omega) (by omega) (by omega))) ⟨c1, c2, c3, hR1.cg (fun x g1 g2 => by funext k; exact uI_ne (by omega)), hP2, c6.cg (fun a g1 g2 => hI2 a (by omega) (by omega) (by omega)), by rw [hI2 329 (by omega) (by omega) (by omega)]; exact c7, fun i g0 g1 => (c8 i g0 g1).cg g0 g1 (fun a p r => hI2 a (by omega) (by omega) (by omega)), Or.inl uI_at⟩ uI_at
    · (repeat ((conv => whnf); first | refine ⟨_, by assumption, ?_⟩ | refine ⟨_, _, by assumption, ?_⟩ | refine ⟨(show _ ∧ _ by omega), ?_⟩ | refine ⟨(show _ ∨ _ by omega), ?_⟩ | refine ⟨fun h => absurd h (by decide), fun _ => ?_⟩ | refine ⟨fun _ => ?_, fun h => absurd h (by decide)⟩ | refine ⟨fun _ => ?_, fun h => absurd rfl h⟩ | refine ⟨fun h => absurd rfl h, fun _ => ?_⟩)); try (conv => whnf)
      exact h2 q (by omega)
  · (repeat ((conv => whnf); first | refine ⟨_, by assumption, ?_⟩ | refine ⟨_, _, by assumption, ?_⟩ | refine ⟨(show _ ∧ _ by omega), ?_⟩ | refine ⟨(show _ ∨ _ by omega), ?_⟩ | refine ⟨fun h => absurd h (by decide), fun _ => ?_⟩ | refine ⟨fun _ => ?_, fun h => absurd h (by decide)⟩ | refine ⟨fun _ => ?_, fun h => absurd rfl h⟩ | refine ⟨fun h => absurd rfl h, fun _ => ?_⟩)); try (conv => whnf)
    exact h0 q
/-- the cells of the book, of the seed, of the past's size are changed alone -/
theorem CSt.misc {h' : List aN} {B' : List (Int × Int)} {sd' : Int} {I I' : aI} {R : aR} {S : aS} (hC : CSt n h B sd im I R S) (hN : n 0 ≤ 6) (hI : ∀ a, a < 100 → I' a = I a) (hJ : ∀ a, 331 ≤ a → I' a = I a) (hP : PastR I' h') (hB : BkR I' B') (hs : I' 329 0 = sd') : CSt n h' B' sd' im I' R S := by
  obtain ⟨c1, c2, c3, c4, c5, c6, c7, c8, c9⟩ := hC
  refine ⟨c1, c2, c3, c4.cg (fun x g1 g2 => hI x (by omega)), hP, hB, hs, fun i g0 g1 => (c8 i g0 g1).cg g0 g1 (fun a p1 p2 => hJ a p1), ?_⟩
  rw [hI 34 (by omega)]
  rcases c9 with c9 | ⟨c9, c10⟩
  · exact Or.inl c9
  · refine Or.inr ⟨c9, c10.cg hN c2 (fun a ha => ?_)⟩
    by_cases q : a < 100
    · exact hI a q
    · exact hJ a (by omega)
/-- write(v, t) -/
theorem ok_cwrite {P : aP} {d : Nat} {K : aK} {I : aI} {R : aR} {S : aS} {v t : Int} (hC0 : CSt n h B sd im I R S) (hW : WF n) (hv : iR v) (h0 : ¬ (0 ≤ v ∧ v < n 0) → K (some (vi (-1000000001))) I R S) (h2 : (0 ≤ v ∧ v < n 0) → B.length = 20 → K (some (vi (-1000000004))) I R S)
    (h1 : (0 ≤ v ∧ v < n 0) → B.length < 20 → ∀ I', XF I R S I' R S → CSt n h (B ++ [(v, t)]) sd im I' R S → K (some (vi ((B.length : Int) + 1))) I' R S) : Ok P 64 (d + 2) [vr 0, vi v, vi t] I R S K := by
  obtain ⟨c1, c2, c3, c4, c5, c6, c7, c8, c9⟩ := id hC0
  obtain ⟨⟨a0, a1, a2, a3, a4, a5, a6, a7, -⟩, ⟨b0, b1, b2, b3, b4, b5, b6⟩, -, -, e3, -, e5, e6⟩ := id c1
  have hN1 := e3 1 (Or.inl rfl)
  have sn := hN1.1
  have s326 := e5.1
  have eb : I 326 ((2 : Nat) : Int) = B.length := c6.1
  have hb := c6.2.1
  refine Ok.of (by decide) rfl (Nat.le_of_ble_eq_true rfl) ?_
  refine Go.walk 400 [] E64 E64_ok (fun G C hG hC => ?_)
  (repeat ((conv => whnf); first | refine ⟨_, by assumption, ?_⟩ | refine ⟨_, _, by assumption, ?_⟩ | refine ⟨(show _ ∧ _ by omega), ?_⟩ | refine ⟨(show _ ∨ _ by omega), ?_⟩ | refine ⟨fun h => absurd h (by decide), fun _ => ?_⟩ | refine ⟨fun _ => ?_, fun h => absurd h (by decide)⟩ | refine ⟨fun _ => ?_, fun h => absurd rfl h⟩ | refine ⟨fun h => absurd rfl h, fun _ => ?_⟩)); try (conv => whnf)
  refine hC _ _ _ _ _ _ ?_
  refine ok_hasNode hN1 c4 hW hv (fun q => ?_) (fun q => ?_)
  · (repeat ((conv => whnf); first | refine ⟨_, by assumption, ?_⟩ | refine ⟨_, _, by assumption, ?_⟩ | refine ⟨(show _ ∧ _ by omega), ?_⟩ | refine ⟨(show _ ∨ _ by omega), ?_⟩ | refine ⟨fun h => absurd h (by decide), fun _ => ?_⟩ | refine ⟨fun _ => ?_, fun h => absurd h (by decide)⟩ | refine ⟨fun _ => ?_, fun h => absurd rfl h⟩ | refine ⟨fun h => absurd rfl h, fun _ => ?_⟩)); try (conv => whnf)
    rw [eb]
    refine ⟨fun q2 => ?_, fun q2 => ?_⟩
    · (repeat ((conv => whnf); first | refine ⟨_, by assumption, ?_⟩ | refine ⟨_, _, by assumption, ?_⟩ | refine ⟨(show _ ∧ _ by omega), ?_⟩ | refine ⟨(show _ ∨ _ by omega), ?_⟩ | refine ⟨fun h => absurd h (by decide), fun _ => ?_⟩ | refine ⟨fun _ => ?_, fun h => absurd h (by decide)⟩ | refine ⟨fun _ => ?_, fun h => absurd rfl h⟩ | refine ⟨fun h => absurd rfl h, fun _ => ?_⟩)); try (conv => whnf)
      refine hC _ _ _ _ _ _ ?_
      refine ok_bookAdd e5 c6 (by omega) (fun I1 hF1 hB1 => ?_)
      have er : I1 326 ((2 : Nat) : Int) = (B.length : Int) + 1 := by
        refine hB1.1.trans ?_
        rw [List.length_append, List.length_singleton]
        omega
      (repeat ((conv => whnf); first | refine ⟨_, by assumption, ?_⟩ | refine ⟨_, _, by assumption, ?_⟩ | refine ⟨(show _ ∧ _ by omega), ?_⟩ | refine ⟨(show _ ∨ _ by omega), ?_⟩ | refine ⟨fun h => absurd h (by decide), fun _ => ?_⟩ | refine ⟨fun _ => ?_, fun h => absurd h (by decide)⟩ | refine ⟨fun _ => ?_, fun h => absurd rfl h⟩ | refine ⟨fun h => absurd rfl h, fun _ => ?_⟩)); try (conv => whnf)
      rw [er]
      refine h1 q (by omega) I1 (XF.of (fun a p r => hF1 a (by simp; omega))) (hC0.misc hW.1.2.1 (fun a ha => hF1 a (by simp; omega)) (fun a ha => hF1 a (by simp; omega)) (c5.cg (fun a g1 g2 => hF1 a (by simp; omega))) hB1 (by rw [hF1 329 (by decide)]; exact c7))
    · (repeat ((conv => whnf); first | refine ⟨_, by assumption, ?_⟩ | refine ⟨_, _, by assumption, ?_⟩ | refine ⟨(show _ ∧ _ by omega), ?_⟩ | refine ⟨(show _ ∨ _ by omega), ?_⟩ | refine ⟨fun h => absurd h (by decide), fun _ => ?_⟩ | refine ⟨fun _ => ?_, fun h => absurd h (by decide)⟩ | refine ⟨fun _ => ?_, fun h => absurd rfl h⟩ | refine ⟨fun h => absurd rfl h, fun _ => ?_⟩)); try (conv => whnf)
      exact h2 q (by omega)
  · (repeat ((conv => whnf); first | refine ⟨_, by assumption, ?_⟩ | refine ⟨_, _, by assumption, ?_⟩ | refine ⟨(show _ ∧ _ by omega), ?_⟩ | refine ⟨(show _ ∨ _ by omega), ?_⟩ | refine ⟨fun h => absurd h (by decide), fun _ => ?_⟩ | refine ⟨fun _ => ?_, fun h => absurd h (by decide)⟩ | refine ⟨fun _ => ?_, fun h => absurd rfl h⟩ | refine ⟨fun h => absurd rfl h, fun _ => ?_⟩)); try (conv => whnf)
    exact h0 q
/-- tear() -/
theorem ok_ctear {P : aP} {d : Nat} {K : aK} {I : aI} {R : aR} {S : aS} (hC0 : CSt n h B sd im I R S) (hN : n 0 ≤ 6) (h1 : ∀ I', XF I R S I' R S → CSt n h [] sd im I' R S → K (some (vi (B.length : Int))) I' R S) : Ok P 65 (d + 1) [vr 0] I R S K := by
  obtain ⟨c1, c2, c3, c4, c5, c6, c7, c8, c9⟩ := id hC0
  obtain ⟨⟨a0, a1, a2, a3, a4, a5, a6, a7, -⟩, -, -, -, e3, -, e5, e6⟩ := id c1
  have s326 := e5.1
  have eb : I 326 ((2 : Nat) : Int) = B.length := c6.1
  have ne : ∀ x, x ≠ 326 → uI I 326 ((2 : Nat) : Int) 0 x = I x := fun x hx => by funext k; exact uI_ne (fun e => hx e.1)
  refine Ok.of (by decide) rfl (Nat.le_of_ble_eq_true rfl) ?_
  refine Go.walk 400 [] E65 E65_ok (fun G C hG hC => ?_)
  (repeat ((conv => whnf); first | refine ⟨_, by assumption, ?_⟩ | refine ⟨_, _, by assumption, ?_⟩ | refine ⟨(show _ ∧ _ by omega), ?_⟩ | refine ⟨(show _ ∨ _ by omega), ?_⟩ | refine ⟨fun h => absurd h (by decide), fun _ => ?_⟩ | refine ⟨fun _ => ?_, fun h => absurd h (by decide)⟩ | refine ⟨fun _ => ?_, fun h => absurd rfl h⟩ | refine ⟨fun h => absurd rfl h, fun _ => ?_⟩)); try (conv => whnf)
  rw [eb]
  exact h1 _ (XF.of (fun a p r => ne a (by omega))) (hC0.misc hN (fun a ha => ne a (by omega)) (fun a ha => ne a (by omega)) (c5.cg (fun a g1 g2 => ne a (by omega))) ⟨uI_at, by simp, fun j p hj => by simp at hj⟩ (by rw [ne 329 (by omega)]; exact c7))
/-- seed(v) -/
theorem ok_cseed {P : aP} {d : Nat} {K : aK} {I : aI} {R : aR} {S : aS} {v : Int} (hC0 : CSt n h B sd im I R S) (hN : n 0 ≤ 6) (hv : iR v) (h0 : v < 0 → K (some (vi (-1000000002))) I R S) (h1 : 0 ≤ v → ∀ I', XF I R S I' R S → CSt n h B v im I' R S → K (some (vi sd)) I' R S) : Ok P 66 (d + 1) [vr 0, vi v] I R S K := by
  obtain ⟨c1, c2, c3, c4, c5, c6, c7, c8, c9⟩ := id hC0
  obtain ⟨⟨a0, a1, a2, a3, a4, a5, a6, a7, -⟩, ⟨b0, b1, b2, b3, b4, b5, b6⟩, -, -, e3, -, e5, e6⟩ := id c1
  have es : I 329 ((0 : Nat) : Int) = sd := c7
  have ne : ∀ x, x ≠ 329 → uI I 329 ((0 : Nat) : Int) v x = I x := fun x hx => by funext k; exact uI_ne (fun e => hx e.1)
  refine Ok.of (by decide) rfl (Nat.le_of_ble_eq_true rfl) ?_
  refine Go.walk 400 [] E66 E66_ok (fun G C hG hC => ?_)
  (repeat ((conv => whnf); first | refine ⟨_, by assumption, ?_⟩ | refine ⟨_, _, by assumption, ?_⟩ | refine ⟨(show _ ∧ _ by omega), ?_⟩ | refine ⟨(show _ ∨ _ by omega), ?_⟩ | refine ⟨fun h => absurd h (by decide), fun _ => ?_⟩ | refine ⟨fun _ => ?_, fun h => absurd h (by decide)⟩ | refine ⟨fun _ => ?_, fun h => absurd rfl h⟩ | refine ⟨fun h => absurd rfl h, fun _ => ?_⟩)); try (conv => whnf)
  refine ⟨fun q => ?_, fun q => ?_⟩
  · (repeat ((conv => whnf); first | refine ⟨_, by assumption, ?_⟩ | refine ⟨_, _, by assumption, ?_⟩ | refine ⟨(show _ ∧ _ by omega), ?_⟩ | refine ⟨(show _ ∨ _ by omega), ?_⟩ | refine ⟨fun h => absurd h (by decide), fun _ => ?_⟩ | refine ⟨fun _ => ?_, fun h => absurd h (by decide)⟩ | refine ⟨fun _ => ?_, fun h => absurd rfl h⟩ | refine ⟨fun h => absurd rfl h, fun _ => ?_⟩)); try (conv => whnf)
    rw [es]
    exact h1 q _ (XF.of (fun a p r => ne a (by omega))) (hC0.misc hN (fun a ha => ne a (by omega)) (fun a ha => ne a (by omega)) (c5.cg (fun a g1 g2 => ne a (by omega))) (c6.cg (fun a g1 g2 => ne a (by omega))) uI_at)
  · (repeat ((conv => whnf); first | refine ⟨_, by assumption, ?_⟩ | refine ⟨_, _, by assumption, ?_⟩ | refine ⟨(show _ ∧ _ by omega), ?_⟩ | refine ⟨(show _ ∨ _ by omega), ?_⟩ | refine ⟨fun h => absurd h (by decide), fun _ => ?_⟩ | refine ⟨fun _ => ?_, fun h => absurd h (by decide)⟩ | refine ⟨fun _ => ?_, fun h => absurd rfl h⟩ | refine ⟨fun h => absurd rfl h, fun _ => ?_⟩)); try (conv => whnf)
    exact h0 (by omega)
def imU (im : Int → Option (aN × Int)) (i : Int) (o : Option (aN × Int)) : Int → Option (aN × Int) := fun j => if j = i then o else im j
/-- keep(i) -/
theorem ok_ckeep {P : aP} {d : Nat} {K : aK} {I : aI} {R : aR} {S : aS} {i : Int} (hC0 : CSt n h B sd im I R S) (hN : n 0 ≤ 6) (hi : iR i) (h0 : ¬ (0 ≤ i ∧ i ≤ 1) → K (some (vi (-1000000001))) I R S)
    (h1 : 0 ≤ i ∧ i ≤ 1 → ∀ I', XF I R S I' R S → CSt n [] B sd (imU im i (some (n, sd))) I' R S → K (some (vi 1)) I' R S) : Ok P 67 (d + 2) [vr 0, vi i] I R S K := by
  obtain ⟨c1, c2, c3, c4, c5, c6, c7, c8, c9⟩ := id hC0
  obtain ⟨⟨a0, a1, a2, a3, a4, a5, a6, a7, a8, a9, a10⟩, ⟨b0, b1, b2, b3, b4, b5, b6⟩, e1, -, e3, -, e5, e6⟩ := id c1
  have hN1 := e3 1 (Or.inl rfl)
  refine Ok.of (by decide) rfl (Nat.le_of_ble_eq_true rfl) ?_
  refine Go.walk 400 [] E67 E67_ok (fun G C hG hC => ?_)
  (repeat ((conv => whnf); first | refine ⟨_, by assumption, ?_⟩ | refine ⟨_, _, by assumption, ?_⟩ | refine ⟨(show _ ∧ _ by omega), ?_⟩ | refine ⟨(show _ ∨ _ by omega), ?_⟩ | refine ⟨fun h => absurd h (by decide), fun _ => ?_⟩ | refine ⟨fun _ => ?_, fun h => absurd h (by decide)⟩ | refine ⟨fun _ => ?_, fun h => absurd rfl h⟩ | refine ⟨fun h => absurd rfl h, fun _ => ?_⟩)); try (conv => whnf)
  refine hC _ _ _ _ _ _ ?_
  refine ok_within hi (by omega) (by omega) (fun q => ?_) (fun q => ?_)
  · have er := e1 i q.1 (by omega)
    have hNi := e3 (imc i) (Or.inr (Or.inr (Or.inr ⟨i, q.1, by omega, rfl⟩)))
    have sni := hNi.1
    have ilo : 333 ≤ imc i ∧ imc i + 13 ≤ 360 := by unfold imc; omega
    (repeat ((conv => whnf); first | refine ⟨_, by assumption, ?_⟩ | refine ⟨_, _, by assumption, ?_⟩ | refine ⟨(show _ ∧ _ by omega), ?_⟩ | refine ⟨(show _ ∨ _ by omega), ?_⟩ | refine ⟨fun h => absurd h (by decide), fun _ => ?_⟩ | refine ⟨fun _ => ?_, fun h => absurd h (by decide)⟩ | refine ⟨fun _ => ?_, fun h => absurd rfl h⟩ | refine ⟨fun h => absurd rfl h, fun _ => ?_⟩)); try (conv => whnf)
    refine hC _ _ _ _ _ _ ?_
    refine ok_copyFrom hNi hN1 c4 (by omega) (fun I1 hF1 hR1 => ?_)
    have es : I1 329 ((0 : Nat) : Int) = sd := by rw [hF1 329 (by omega)]; exact c7
    (repeat ((conv => whnf); first | refine ⟨_, by assumption, ?_⟩ | refine ⟨_, _, by assumption, ?_⟩ | refine ⟨(show _ ∧ _ by omega), ?_⟩ | refine ⟨(show _ ∨ _ by omega), ?_⟩ | refine ⟨fun h => absurd h (by decide), fun _ => ?_⟩ | refine ⟨fun _ => ?_, fun h => absurd h (by decide)⟩ | refine ⟨fun _ => ?_, fun h => absurd rfl h⟩ | refine ⟨fun h => absurd rfl h, fun _ => ?_⟩)); try (conv => whnf)
    rw [es]
    have hI : ∀ x, (x < imc i ∨ imc i + 13 < x) → x ≠ 331 → x ≠ 332 → x ≠ 100 → uI (uI (uI I1 331 i sd) 332 i 1) 100 ((2 : Nat) : Int) 0 x = I x := fun x p r1 r2 r3 => by
      rw [← hF1 x p]
      funext k
      rw [uI_ne (by omega), uI_ne (by omega), uI_ne (by omega)]
    have hni : ∀ x, x ≠ 331 → x ≠ 332 → x ≠ 100 → uI (uI (uI I1 331 i sd) 332 i 1) 100 ((2 : Nat) : Int) 0 x = I1 x := fun x r1 r2 r3 => by
      funext k
      rw [uI_ne (by omega), uI_ne (by omega), uI_ne (by omega)]
    refine h1 q _ (XF.of (fun a p r => hI a (by omega) (by omega) (by omega) (by omega))) ⟨c1, c2, c3, c4.cg (fun x g1 g2 => hI x (by omega) (by omega) (by omega) (by omega)), ⟨uI_at, by simp, ?_, fun j m hj => by simp at hj⟩, c6.cg (fun a g1 g2 => hI a (by omega) (by omega) (by omega) (by omega)), ?_, fun j g0 g1 => ?_, ?_⟩
    · rw [uI_ne (by omega), uI_ne (by omega), uI_ne (by omega), hF1 100 (by omega)]
      exact c5.2.2.1
    · rw [hI 329 (by omega) (by omega) (by omega) (by omega)]; exact c7
    · unfold imU
      by_cases z : j = i
      · subst z
        rw [if_pos rfl]
        refine ⟨?_, hR1.cg (fun x g1 g2 => hni x (by omega) (by omega) (by omega)), ?_⟩
        · rw [uI_ne (by omega)]; exact uI_at
        · rw [uI_ne (by omega), uI_ne (by omega)]; exact uI_at
      · rw [if_neg z]
        have hj := c8 j g0 g1
        have hjl : imc j + 13 < imc i ∨ imc i + 13 < imc j := by unfold imc; omega
        have jlo : 333 ≤ imc j ∧ imc j + 13 ≤ 360 := by unfold imc; omega
        cases hm : im j with
        | none =>
          rw [hm] at hj
          show uI (uI (uI I1 331 i sd) 332 i 1) 100 ((2 : Nat) : Int) 0 332 j = 0
          rw [uI_ne (by omega), uI_ne (by omega), uI_ne (by omega), hF1 332 (by omega)]
          exact hj
        | some qq =>
          rw [hm] at hj
          obtain ⟨w1, w2, w3⟩ := hj
          refine ⟨?_, w2.cg (fun x g1 g2 => hI x (by omega) (by omega) (by omega) (by omega)), ?_⟩
          · rw [uI_ne (by omega), uI_ne (by omega), uI_ne (by omega), hF1 332 (by omega)]; exact w1
          · rw [uI_ne (by omega), uI_ne (by omega), uI_ne (by omega), hF1 331 (by omega)]; exact w3
    · rw [hI 34 (by omega) (by omega) (by omega) (by omega)]
      rcases c9 with c9 | ⟨c9, c10⟩
      · exact Or.inl c9
      · exact Or.inr ⟨c9, c10.cg hN c2 (fun a ha => hI a (by omega) (by omega) (by omega) (by omega))⟩
  · (repeat ((conv => whnf); first | refine ⟨_, by assumption, ?_⟩ | refine ⟨_, _, by assumption, ?_⟩ | refine ⟨(show _ ∧ _ by omega), ?_⟩ | refine ⟨(show _ ∨ _ by omega), ?_⟩ | refine ⟨fun h => absurd h (by decide), fun _ => ?_⟩ | refine ⟨fun _ => ?_, fun h => absurd h (by decide)⟩ | refine ⟨fun _ => ?_, fun h => absurd rfl h⟩ | refine ⟨fun h => absurd rfl h, fun _ => ?_⟩)); try (conv => whnf)
    exact h0 q
/-- goBack(i) -/
theorem ok_cgoBack {P : aP} {d : Nat} {K : aK} {I : aI} {R : aR} {S : aS} {i : Int} (hC0 : CSt n h B sd im I R S) (hi : iR i) (h0 : ¬ (0 ≤ i ∧ i ≤ 1) → K (some (vi (-1000000001))) I R S) (h2 : 0 ≤ i ∧ i ≤ 1 → im i = none → K (some (vi (-1000000003))) I R S)
    (h1 : 0 ≤ i ∧ i ≤ 1 → ∀ q I', im i = some q → XF I R S I' R S → CSt q.1 [] B q.2 im I' R S → I' 34 5 = 0 → K (some (vi 1)) I' R S) : Ok P 68 (d + 2) [vr 0, vi i] I R S K := by
  obtain ⟨c1, c2, c3, c4, c5, c6, c7, c8, c9⟩ := id hC0
  obtain ⟨⟨a0, a1, a2, a3, a4, a5, a6, a7, a8, a9, a10⟩, ⟨b0, b1, b2, b3, b4, b5, b6⟩, e1, -, e3, -, e5, e6⟩ := id c1
  have hN1 := e3 1 (Or.inl rfl)
  have s34 := e6.1
  have sn1 := hN1.1
  refine Ok.of (by decide) rfl (Nat.le_of_ble_eq_true rfl) ?_
  refine Go.walk 400 [] E68 E68_ok (fun G C hG hC => ?_)
  (repeat ((conv => whnf); first | refine ⟨_, by assumption, ?_⟩ | refine ⟨_, _, by assumption, ?_⟩ | refine ⟨(show _ ∧ _ by omega), ?_⟩ | refine ⟨(show _ ∨ _ by omega), ?_⟩ | refine ⟨fun h => absurd h (by decide), fun _ => ?_⟩ | refine ⟨fun _ => ?_, fun h => absurd h (by decide)⟩ | refine ⟨fun _ => ?_, fun h => absurd rfl h⟩ | refine ⟨fun h => absurd rfl h, fun _ => ?_⟩)); try (conv => whnf)
  refine hC _ _ _ _ _ _ ?_
  refine ok_within hi (by omega) (by omega) (fun q => ?_) (fun q => ?_)
  · have er := e1 i q.1 (by omega)
    have hNi := e3 (imc i) (Or.inr (Or.inr (Or.inr ⟨i, q.1, by omega, rfl⟩)))
    have ilo : 333 ≤ imc i ∧ imc i + 13 ≤ 360 := by unfold imc; omega
    have hi8 := c8 i q.1 q.2
    cases hm : im i with
    | none =>
      rw [hm] at hi8
      have hi8 : I 332 i = 0 := hi8
      (repeat ((conv => whnf); first | refine ⟨_, by assumption, ?_⟩ | refine ⟨_, _, by assumption, ?_⟩ | refine ⟨(show _ ∧ _ by omega), ?_⟩ | refine ⟨(show _ ∨ _ by omega), ?_⟩ | refine ⟨fun h => absurd h (by decide), fun _ => ?_⟩ | refine ⟨fun _ => ?_, fun h => absurd h (by decide)⟩ | refine ⟨fun _ => ?_, fun h => absurd rfl h⟩ | refine ⟨fun h => absurd rfl h, fun _ => ?_⟩)); try (conv => whnf)
      rw [hi8]
      (repeat ((conv => whnf); first | refine ⟨_, by assumption, ?_⟩ | refine ⟨_, _, by assumption, ?_⟩ | refine ⟨(show _ ∧ _ by omega), ?_⟩ | refine ⟨(show _ ∨ _ by omega), ?_⟩ | refine ⟨fun h => absurd h (by decide), fun _ => ?_⟩ | refine ⟨fun _ => ?_, fun h => absurd h (by decide)⟩ | refine ⟨fun _ => ?_, fun h => absurd rfl h⟩ | refine ⟨fun h => absurd rfl h, fun _ => ?_⟩)); try (conv => whnf)
      exact h2 q hm
    | some qq =>
      rw [hm] at hi8
      obtain ⟨w1, w2, w3⟩ := hi8
      (repeat ((conv => whnf); first | refine ⟨_, by assumption, ?_⟩ | refine ⟨_, _, by assumption, ?_⟩ | refine ⟨(show _ ∧ _ by omega), ?_⟩ | refine ⟨(show _ ∨ _ by omega), ?_⟩ | refine ⟨fun h => absurd h (by decide), fun _ => ?_⟩ | refine ⟨fun _ => ?_, fun h => absurd h (by decide)⟩ | refine ⟨fun _ => ?_, fun h => absurd rfl h⟩ | refine ⟨fun h => absurd rfl h, fun _ => ?_⟩)); try (conv => whnf)
      rw [w1]
      (repeat ((conv => whnf); first | refine ⟨_, by assumption, ?_⟩ | refine ⟨_, _, by assumption, ?_⟩ | refine ⟨(show _ ∧ _ by omega), ?_⟩ | refine ⟨(show _ ∨ _ by omega), ?_⟩ | refine ⟨fun h => absurd h (by decide), fun _ => ?_⟩ | refine ⟨fun _ => ?_, fun h => absurd h (by decide)⟩ | refine ⟨fun _ => ?_, fun h => absurd rfl h⟩ | refine ⟨fun h => absurd rfl h, fun _ => ?_⟩)); try (conv => whnf)
      refine hC _ _ _ _ _ _ ?_
      refine ok_copyFrom hN1 hNi w2 (by omega) (fun I1 hF1 hR1 => ?_)
      have es : I1 331 i = qq.2 := by rw [hF1 331 (by omega)]; exact w3
      (repeat ((conv => whnf); first | refine ⟨_, by assumption, ?_⟩ | refine ⟨_, _, by assumption, ?_⟩ | refine ⟨(show _ ∧ _ by omega), ?_⟩ | refine ⟨(show _ ∨ _ by omega), ?_⟩ | refine ⟨fun h => absurd h (by decide), fun _ => ?_⟩ | refine ⟨fun _ => ?_, fun h => absurd h (by decide)⟩ | refine ⟨fun _ => ?_, fun h => absurd rfl h⟩ | refine ⟨fun h => absurd rfl h, fun _ => ?_⟩)); try (conv => whnf)
      rw [es]
      refine hC _ _ _ _ _ _ ?_
      refine ok_forget e6 ?_
      (repeat ((conv => whnf); first | refine ⟨_, by assumption, ?_⟩ | refine ⟨_, _, by assumption, ?_⟩ | refine ⟨(show _ ∧ _ by omega), ?_⟩ | refine ⟨(show _ ∨ _ by omega), ?_⟩ | refine ⟨fun h => absurd h (by decide), fun _ => ?_⟩ | refine ⟨fun _ => ?_, fun h => absurd h (by decide)⟩ | refine ⟨fun _ => ?_, fun h => absurd rfl h⟩ | refine ⟨fun h => absurd rfl h, fun _ => ?_⟩)); try (conv => whnf)
      have hI : ∀ x, ¬ (1 ≤ x ∧ x ≤ 14) → x ≠ 34 → x ≠ 329 → x ≠ 100 → uI (uI (uI I1 329 ((0 : Nat) : Int) qq.2) 100 ((2 : Nat) : Int) 0) 34 5 0 x = I x := fun x p r1 r2 r3 => by
        rw [← hF1 x (by omega)]
        funext k
        rw [uI_ne (by omega), uI_ne (by omega), uI_ne (by omega)]
      refine h1 q qq _ hm (XF.of (fun a p r => hI a (by omega) (by omega) (by omega) (by omega))) ⟨c1, c2, c3, hR1.cg (fun x g1 g2 => ?_), ⟨?_, by simp, ?_, fun j m hj => by simp at hj⟩, c6.cg (fun a g1 g2 => hI a (by omega) (by omega) (by omega) (by omega)), ?_, fun j g0 g1 => (c8 j g0 g1).cg g0 g1 (fun a p r => hI a (by omega) (by omega) (by omega) (by omega)), Or.inl uI_at⟩ uI_at
      · funext k
        rw [uI_ne (by omega), uI_ne (by omega), uI_ne (by omega)]
      · rw [uI_ne (by omega)]; exact uI_at
      · rw [uI_ne (by omega), uI_ne (by omega), uI_ne (by omega), hF1 100 (by omega)]
        exact c5.2.2.1
      · rw [uI_ne (by omega), uI_ne (by omega)]; exact uI_at
  · (repeat ((conv => whnf); first | refine ⟨_, by assumption, ?_⟩ | refine ⟨_, _, by assumption, ?_⟩ | refine ⟨(show _ ∧ _ by omega), ?_⟩ | refine ⟨(show _ ∨ _ by omega), ?_⟩ | refine ⟨fun h => absurd h (by decide), fun _ => ?_⟩ | refine ⟨fun _ => ?_, fun h => absurd h (by decide)⟩ | refine ⟨fun _ => ?_, fun h => absurd rfl h⟩ | refine ⟨fun h => absurd rfl h, fun _ => ?_⟩)); try (conv => whnf)
    exact h0 q
end Dd
