/-! the class: kinds -/
theorem NetR.sk1 {I : aI} {a b : Nat} {n : aN} {k w z : Int} (hR : NetR I a n) (hb : (b : Int) = a + 8 + w) (hw : 1 ≤ w ∧ w ≤ 5) (hk : 1 ≤ k ∧ k ≤ 3) : NetR (uI I b k z) a (sk n k w z) := by
  obtain ⟨⟨h0, h1, h2⟩, h3, h4, h5⟩ := hR
  have ek : ∀ (x y : Int), 0 ≤ y → y < 6 → kf (sk n k w z) x y = if x = k ∧ y = w then z else kf n x y := fun x y g0 g1 => kf_sk (by omega) ⟨g0, g1⟩
  have row : ∀ (i : Nat) (x : Int), 1 ≤ i → i ≤ 5 → I (a + (8 + i)) x = kf n x i → uI I b k z (a + (8 + i)) x = kf (sk n k w z) x i := by
    intro i x g0 g1 e
    rw [ek x i (by omega) (by omega)]
    by_cases q : x = k ∧ (i : Int) = w
    · rw [if_pos q]
      obtain ⟨q1, q2⟩ := q
      have e2 : a + (8 + i) = b := by omega
      rw [e2, q1, uI_at]
    · rw [if_neg q, uI_ne (by omega)]
      exact e
  refine ⟨⟨?_, ?_, ?_⟩, fun x g0 g1 => ?_, fun x g0 g1 => ?_, ?_⟩
  · rw [uI_ne (by omega), sk_lo hk.1 (by omega) (by omega)]; exact h0
  · rw [uI_ne (by omega), sk_lo hk.1 (by omega) (by omega)]; exact h1
  · rw [uI_ne (by omega), mKinds_cong (n := n) (n' := sk n k w z) (fun x _ _ => by rw [ek x 0 (by omega) (by omega), if_neg (by omega)])]; exact h2
  · obtain ⟨r0, r1, r2, r3, r4, r5, r6, r7⟩ := h3 x g0 g1
    have en : ∀ y : Int, 0 ≤ y → nf (sk n k w z) x y = nf n x y := fun y gy => nf_sk hk.2 (by omega) g0 gy
    rw [en 0 (by omega), en 1 (by omega), en 2 (by omega), en 3 (by omega), en 4 (by omega), en 5 (by omega), en 6 (by omega), en 7 (by omega), uI_ne (by omega), uI_ne (by omega), uI_ne (by omega), uI_ne (by omega), uI_ne (by omega), uI_ne (by omega), uI_ne (by omega), uI_ne (by omega)]
    exact ⟨r0, r1, r2, r3, r4, r5, r6, r7⟩
  · obtain ⟨r1, r2, r3, r4, r5⟩ := h4 x g0 g1
    exact ⟨row 1 x (by omega) (by omega) r1, row 2 x (by omega) (by omega) r2, row 3 x (by omega) (by omega) r3, row 4 x (by omega) (by omega) r4, row 5 x (by omega) (by omega) r5⟩
  · obtain ⟨r1, r2, r3, r4, r5⟩ := h5
    rw [uI_ne (by omega), uI_ne (by omega), uI_ne (by omega), uI_ne (by omega), uI_ne (by omega)]
    exact ⟨r1, r2, r3, r4, r5⟩
theorem NetR.sk0 {I : aI} {a : Nat} {n : aN} {k z : Int} (hR : NetR I a n) (hk : 1 ≤ k ∧ k ≤ 3) : NetR (uI I a 2 (mKinds (sk n k 0 z))) a (sk n k 0 z) := by
  obtain ⟨⟨h0, h1, h2⟩, h3, h4, h5⟩ := hR
  have er : ∀ (i : Nat) (x : Int), 1 ≤ i → uI I a 2 (mKinds (sk n k 0 z)) (a + i) x = I (a + i) x := fun i x g => uI_ne (by omega)
  refine ⟨⟨?_, ?_, uI_at⟩, fun x g0 g1 => ?_, fun x g0 g1 => ?_, ?_⟩
  · rw [uI_ne (by omega), sk_lo hk.1 (by omega) (by omega)]; exact h0
  · rw [uI_ne (by omega), sk_lo hk.1 (by omega) (by omega)]; exact h1
  · have en : ∀ y : Int, 0 ≤ y → nf (sk n k 0 z) x y = nf n x y := fun y gy => nf_sk hk.2 (by omega) g0 gy
    rw [en 0 (by omega), en 1 (by omega), en 2 (by omega), en 3 (by omega), en 4 (by omega), en 5 (by omega), en 6 (by omega), en 7 (by omega), er 1 x (by omega), er 2 x (by omega), er 3 x (by omega), er 4 x (by omega), er 5 x (by omega), er 6 x (by omega), er 7 x (by omega), er 8 x (by omega)]
    exact h3 x g0 g1
  · have ek : ∀ y : Int, 1 ≤ y → y < 6 → kf (sk n k 0 z) x y = kf n x y := fun y p0 p1 => by rw [kf_sk (by omega) ⟨by omega, p1⟩, if_neg (by omega)]
    rw [ek 1 (by omega) (by omega), ek 2 (by omega) (by omega), ek 3 (by omega) (by omega), ek 4 (by omega) (by omega), ek 5 (by omega) (by omega), er 9 x (by omega), er 10 x (by omega), er 11 x (by omega), er 12 x (by omega), er 13 x (by omega)]
    exact h4 x g0 g1
  · rw [er 9 0 (by omega), er 10 0 (by omega), er 11 0 (by omega), er 12 0 (by omega), er 13 0 (by omega)]
    exact h5
theorem kf3 {n : aN} {k z : Int} (hk : 1 ≤ k ∧ k ≤ 3) : (kf (sk n k 0 z) 1 0 = if k = 1 then z else kf n 1 0) ∧ (kf (sk n k 0 z) 2 0 = if k = 2 then z else kf n 2 0) ∧ (kf (sk n k 0 z) 3 0 = if k = 3 then z else kf n 3 0) := by
  have ek : ∀ x : Int, kf (sk n k 0 z) x 0 = if x = k ∧ (0 : Int) = 0 then z else kf n x 0 := fun x => kf_sk (by omega) (by omega)
  refine ⟨?_, ?_, ?_⟩
  · rw [ek 1]
    by_cases q : k = 1
    · rw [if_pos (by omega), if_pos q]
    · rw [if_neg (by omega), if_neg q]
  · rw [ek 2]
    by_cases q : k = 2
    · rw [if_pos (by omega), if_pos q]
    · rw [if_neg (by omega), if_neg q]
  · rw [ek 3]
    by_cases q : k = 3
    · rw [if_pos (by omega), if_pos q]
    · rw [if_neg (by omega), if_neg q]
theorem mK_or {x y z k : Int} (hx : x = 0 ∨ x = 1) (hy : y = 0 ∨ y = 1) (hz : z = 0 ∨ z = 1) (hk : k = 1 ∨ k = 2 ∨ k = 3) : bOr (mK3 x y z) (bShl 1 k) = mK3 (if k = 1 then 1 else x) (if k = 2 then 1 else y) (if k = 3 then 1 else z) := by
  rcases hx with rfl | rfl <;> rcases hy with rfl | rfl <;> rcases hz with rfl | rfl <;> rcases hk with rfl | rfl | rfl <;> decide
theorem mK_and {x y z k : Int} (hx : x = 0 ∨ x = 1) (hy : y = 0 ∨ y = 1) (hz : z = 0 ∨ z = 1) (hk : k = 1 ∨ k = 2 ∨ k = 3) : bAnd (mK3 x y z) (bXor (bShl 1 k) (-1)) = mK3 (if k = 1 then 0 else x) (if k = 2 then 0 else y) (if k = 3 then 0 else z) := by
  rcases hx with rfl | rfl <;> rcases hy with rfl | rfl <;> rcases hz with rfl | rfl <;> rcases hk with rfl | rfl | rfl <;> decide
def bcF (x : Int) : Int :=
  let x1 := x - bAnd (bUshr x 1) 1431655765
  let x2 := bAnd x1 858993459 + bAnd (bUshr x1 2) 858993459
  let x3 := bAnd (x2 + bUshr x2 4) 252645135
  let x4 := x3 + bUshr x3 8
  let x5 := x4 + bUshr x4 16
  bAnd x5 63
theorem bc_3 {x y z : Int} (hx : x = 0 ∨ x = 1) (hy : y = 0 ∨ y = 1) (hz : z = 0 ∨ z = 1) : bcF (mK3 x y z) = x + y + z := by
  rcases hx with rfl | rfl <;> rcases hy with rfl | rfl <;> rcases hz with rfl | rfl <;> decide
theorem ok_bitCount {P : aP} {d : Nat} {K : aK} {I : aI} {R : aR} {S : aS} {x : Int} (hK : K (some (vi (bcF x))) I R S) : Ok P 136 (d + 1) [vi x] I R S K := by
  refine Ok.of (by decide) rfl (Nat.le_of_ble_eq_true rfl) ?_
  refine Go.walk 400 [] E136 E136_ok (fun G C hG hC => ?_)
  (repeat ((conv => whnf); first | refine ⟨_, by assumption, ?_⟩ | refine ⟨_, _, by assumption, ?_⟩ | refine ⟨(show _ ∧ _ by omega), ?_⟩ | refine ⟨(show _ ∨ _ by omega), ?_⟩ | refine ⟨fun h => absurd h (by decide), fun _ => ?_⟩ | refine ⟨fun _ => ?_, fun h => absurd h (by decide)⟩ | refine ⟨fun _ => ?_, fun h => absurd rfl h⟩ | refine ⟨fun h => absurd rfl h, fun _ => ?_⟩)); try (conv => whnf)
  exact hK
theorem k01 {n : aN} (hW : WF n) {k : Int} (hk : 1 ≤ k ∧ k ≤ 3) : kf n k 0 = 0 ∨ kf n k 0 = 1 := by
  have := (hW.2.2.2.2.2 k hk.1 hk.2).1
  omega
theorem kinds_or {n : aN} (hW : WF n) {k : Int} (hk : 1 ≤ k ∧ k ≤ 3) : bOr (mKinds n) (bShl 1 k) = mKinds (sk n k 0 1) := by
  obtain ⟨e1, e2, e3⟩ := kf3 (n := n) (z := 1) hk
  have l : mKinds (sk n k 0 1) = mK3 (if k = 1 then 1 else kf n 1 0) (if k = 2 then 1 else kf n 2 0) (if k = 3 then 1 else kf n 3 0) := by
    rw [mKinds_3]
    exact congr (congr (congrArg mK3 e1) e2) e3
  rw [l]
  exact mK_or (k01 hW (by omega)) (k01 hW (by omega)) (k01 hW (by omega)) (by omega)
theorem kinds_and {n : aN} (hW : WF n) {k : Int} (hk : 1 ≤ k ∧ k ≤ 3) : bAnd (mKinds n) (bXor (bShl 1 k) (-1)) = mKinds (sk n k 0 0) := by
  obtain ⟨e1, e2, e3⟩ := kf3 (n := n) (z := 0) hk
  have l : mKinds (sk n k 0 0) = mK3 (if k = 1 then 0 else kf n 1 0) (if k = 2 then 0 else kf n 2 0) (if k = 3 then 0 else kf n 3 0) := by
    rw [mKinds_3]
    exact congr (congr (congrArg mK3 e1) e2) e3
  rw [l]
  exact mK_and (k01 hW (by omega)) (k01 hW (by omega)) (k01 hW (by omega)) (by omega)
section Dk
variable {n : aN} {h : List aN} {B : List (Int × Int)} {sd : Int} {im : Int → Option (aN × Int)}
/-- kind(k, in, pull, own, cost, turns) -/
theorem ok_ckind {P : aP} {d : Nat} {K : aK} {I : aI} {R : aR} {S : aS} {k i p o c t : Int} (hC0 : CSt n h B sd im I R S) (hW : WF n) (hk : iR k) (hi : iR i) (hp : iR p) (ho : iR o) (hc : iR c) (ht : iR t) (hK : DeedC (kindF n k i p o c t) n h B sd im I R S K) : Ok P 57 (d + 4) [vr 0, vi k, vi i, vi p, vi o, vi c, vi t] I R S K := by
  have hN := hW.1
  obtain ⟨c1, c2, c3, c4, c5, c6, c7, c8, c9⟩ := id hC0
  obtain ⟨⟨a0, a1, -⟩, -, -, -, e3, -⟩ := id c1
  have hN1 := e3 1 (Or.inl rfl)
  obtain ⟨s0, sr1, sm1, sr2, sm2, sr3, sm3, sr4, sm4, sr5, sm5, sr6, sm6, sr7, sm7, sr8, sm8, sr9, sm9, sr10, sm10, sr11, sm11, sr12, sm12, sr13, sm13⟩ := id hN1
  by_cases q : 1 ≤ k ∧ k ≤ 3
  · by_cases q2 : (1 ≤ i ∧ i ≤ 9) ∧ (0 ≤ p ∧ p ≤ 9) ∧ (0 ≤ o ∧ o ≤ 99) ∧ (0 ≤ c ∧ c ≤ 99) ∧ (0 ≤ t ∧ t ≤ 1)
    · have eF : kindF n k i p o c t = (kf n k 0, some (kindN n k i p o c t)) := by
        unfold kindF
        rw [if_neg (fun z => z q), if_neg (fun z => z q2)]
      refine Ok.of (by decide) rfl (Nat.le_of_ble_eq_true rfl) ?_
      refine Go.walk 400 [] E57 E57_ok (fun G C hG hC => ?_)
      (repeat ((conv => whnf); first | refine ⟨_, by assumption, ?_⟩ | refine ⟨_, _, by assumption, ?_⟩ | refine ⟨(show _ ∧ _ by omega), ?_⟩ | refine ⟨(show _ ∨ _ by omega), ?_⟩ | refine ⟨fun h => absurd h (by decide), fun _ => ?_⟩ | refine ⟨fun _ => ?_, fun h => absurd h (by decide)⟩ | refine ⟨fun _ => ?_, fun h => absurd rfl h⟩ | refine ⟨fun h => absurd rfl h, fun _ => ?_⟩)); try (conv => whnf)
      refine hC _ _ _ _ _ _ ?_
      refine ok_within hk (by omega) (by omega) (fun _ => ?_) (fun z => absurd q z)
      (repeat ((conv => whnf); first | refine ⟨_, by assumption, ?_⟩ | refine ⟨_, _, by assumption, ?_⟩ | refine ⟨(show _ ∧ _ by omega), ?_⟩ | refine ⟨(show _ ∨ _ by omega), ?_⟩ | refine ⟨fun h => absurd h (by decide), fun _ => ?_⟩ | refine ⟨fun _ => ?_, fun h => absurd h (by decide)⟩ | refine ⟨fun _ => ?_, fun h => absurd rfl h⟩ | refine ⟨fun h => absurd rfl h, fun _ => ?_⟩)); try (conv => whnf)
      refine hC _ _ _ _ _ _ ?_
      refine ok_within hi (by omega) (by omega) (fun _ => ?_) (fun z => absurd q2.1 z)
      (repeat ((conv => whnf); first | refine ⟨_, by assumption, ?_⟩ | refine ⟨_, _, by assumption, ?_⟩ | refine ⟨(show _ ∧ _ by omega), ?_⟩ | refine ⟨(show _ ∨ _ by omega), ?_⟩ | refine ⟨fun h => absurd h (by decide), fun _ => ?_⟩ | refine ⟨fun _ => ?_, fun h => absurd h (by decide)⟩ | refine ⟨fun _ => ?_, fun h => absurd rfl h⟩ | refine ⟨fun h => absurd rfl h, fun _ => ?_⟩)); try (conv => whnf)
      refine hC _ _ _ _ _ _ ?_
      refine ok_within hp (by omega) (by omega) (fun _ => ?_) (fun z => absurd q2.2.1 z)
      (repeat ((conv => whnf); first | refine ⟨_, by assumption, ?_⟩ | refine ⟨_, _, by assumption, ?_⟩ | refine ⟨(show _ ∧ _ by omega), ?_⟩ | refine ⟨(show _ ∨ _ by omega), ?_⟩ | refine ⟨fun h => absurd h (by decide), fun _ => ?_⟩ | refine ⟨fun _ => ?_, fun h => absurd h (by decide)⟩ | refine ⟨fun _ => ?_, fun h => absurd rfl h⟩ | refine ⟨fun h => absurd rfl h, fun _ => ?_⟩)); try (conv => whnf)
      refine hC _ _ _ _ _ _ ?_
      refine ok_within ho (by omega) (by omega) (fun _ => ?_) (fun z => absurd q2.2.2.1 z)
      (repeat ((conv => whnf); first | refine ⟨_, by assumption, ?_⟩ | refine ⟨_, _, by assumption, ?_⟩ | refine ⟨(show _ ∧ _ by omega), ?_⟩ | refine ⟨(show _ ∨ _ by omega), ?_⟩ | refine ⟨fun h => absurd h (by decide), fun _ => ?_⟩ | refine ⟨fun _ => ?_, fun h => absurd h (by decide)⟩ | refine ⟨fun _ => ?_, fun h => absurd rfl h⟩ | refine ⟨fun h => absurd rfl h, fun _ => ?_⟩)); try (conv => whnf)
      refine hC _ _ _ _ _ _ ?_
      refine ok_within hc (by omega) (by omega) (fun _ => ?_) (fun z => absurd q2.2.2.2.1 z)
      (repeat ((conv => whnf); first | refine ⟨_, by assumption, ?_⟩ | refine ⟨_, _, by assumption, ?_⟩ | refine ⟨(show _ ∧ _ by omega), ?_⟩ | refine ⟨(show _ ∨ _ by omega), ?_⟩ | refine ⟨fun h => absurd h (by decide), fun _ => ?_⟩ | refine ⟨fun _ => ?_, fun h => absurd h (by decide)⟩ | refine ⟨fun _ => ?_, fun h => absurd rfl h⟩ | refine ⟨fun h => absurd rfl h, fun _ => ?_⟩)); try (conv => whnf)
      refine hC _ _ _ _ _ _ ?_
      refine ok_within ht (by omega) (by omega) (fun _ => ?_) (fun z => absurd q2.2.2.2.2 z)
      (repeat ((conv => whnf); first | refine ⟨_, by assumption, ?_⟩ | refine ⟨_, _, by assumption, ?_⟩ | refine ⟨(show _ ∧ _ by omega), ?_⟩ | refine ⟨(show _ ∨ _ by omega), ?_⟩ | refine ⟨fun h => absurd h (by decide), fun _ => ?_⟩ | refine ⟨fun _ => ?_, fun h => absurd h (by decide)⟩ | refine ⟨fun _ => ?_, fun h => absurd rfl h⟩ | refine ⟨fun h => absurd rfl h, fun _ => ?_⟩)); try (conv => whnf)
      refine hC _ _ _ _ _ _ ?_
      refine ok_deedC hC0 (fun I1 hX1 hC1 h5 => ?_)
      have hR1 := hC1.2.2.2.1
      have e2 : I1 1 ((2 : Nat) : Int) = mKinds n := hR1.1.2.2
      have hko := kinds_or hW q
      have hfin := (((((hR1.sk0 (k := k) (z := 1) q).sk1 (b := 10) (k := k) (w := 1) (z := i) (by omega) (by omega) q).sk1 (b := 11) (k := k) (w := 2) (z := p) (by omega) (by omega) q).sk1 (b := 12) (k := k) (w := 3) (z := o) (by omega) (by omega) q).sk1 (b := 13) (k := k) (w := 4) (z := c) (by omega) (by omega) q).sk1 (b := 14) (k := k) (w := 5) (z := t) (by omega) (by omega) q
      have fin := hK.yes eF hX1 hC1 h5 (fun x hx => by
        funext y
        rw [uI_ne (by omega), uI_ne (by omega), uI_ne (by omega), uI_ne (by omega), uI_ne (by omega), uI_ne (by omega)]) hfin
      (repeat ((conv => whnf); first | refine ⟨_, by assumption, ?_⟩ | refine ⟨_, _, by assumption, ?_⟩ | refine ⟨(show _ ∧ _ by omega), ?_⟩ | refine ⟨(show _ ∨ _ by omega), ?_⟩ | refine ⟨fun h => absurd h (by decide), fun _ => ?_⟩ | refine ⟨fun _ => ?_, fun h => absurd h (by decide)⟩ | refine ⟨fun _ => ?_, fun h => absurd rfl h⟩ | refine ⟨fun h => absurd rfl h, fun _ => ?_⟩)); try (conv => whnf)
      refine hC _ _ _ _ _ _ ?_
      refine ok_hasKind hN1 hR1 hk (fun g => ?_) (fun g => ?_)
      · have e : kf n k 0 = 1 := g.2.2
        rw [e] at fin
        (repeat ((conv => whnf); first | refine ⟨_, by assumption, ?_⟩ | refine ⟨_, _, by assumption, ?_⟩ | refine ⟨(show _ ∧ _ by omega), ?_⟩ | refine ⟨(show _ ∨ _ by omega), ?_⟩ | refine ⟨fun h => absurd h (by decide), fun _ => ?_⟩ | refine ⟨fun _ => ?_, fun h => absurd h (by decide)⟩ | refine ⟨fun _ => ?_, fun h => absurd rfl h⟩ | refine ⟨fun h => absurd rfl h, fun _ => ?_⟩)); try (conv => whnf)
        rw [e2, hko]
        exact fin
      · have e : kf n k 0 = 0 := by
          rcases k01 hW q with z | z
          · exact z
          · exact absurd ⟨q.1, q.2, z⟩ g
        rw [e] at fin
        (repeat ((conv => whnf); first | refine ⟨_, by assumption, ?_⟩ | refine ⟨_, _, by assumption, ?_⟩ | refine ⟨(show _ ∧ _ by omega), ?_⟩ | refine ⟨(show _ ∨ _ by omega), ?_⟩ | refine ⟨fun h => absurd h (by decide), fun _ => ?_⟩ | refine ⟨fun _ => ?_, fun h => absurd h (by decide)⟩ | refine ⟨fun _ => ?_, fun h => absurd rfl h⟩ | refine ⟨fun h => absurd rfl h, fun _ => ?_⟩)); try (conv => whnf)
        rw [e2, hko]
        exact fin
    · have eF : kindF n k i p o c t = (-1000000002, none) := by
        unfold kindF
        rw [if_neg (fun z => z q), if_pos q2]
      have fin := hK.no hC0 eF
      refine Ok.of (by decide) rfl (Nat.le_of_ble_eq_true rfl) ?_
      refine Go.walk 400 [] E57 E57_ok (fun G C hG hC => ?_)
      (repeat ((conv => whnf); first | refine ⟨_, by assumption, ?_⟩ | refine ⟨_, _, by assumption, ?_⟩ | refine ⟨(show _ ∧ _ by omega), ?_⟩ | refine ⟨(show _ ∨ _ by omega), ?_⟩ | refine ⟨fun h => absurd h (by decide), fun _ => ?_⟩ | refine ⟨fun _ => ?_, fun h => absurd h (by decide)⟩ | refine ⟨fun _ => ?_, fun h => absurd rfl h⟩ | refine ⟨fun h => absurd rfl h, fun _ => ?_⟩)); try (conv => whnf)
      refine hC _ _ _ _ _ _ ?_
      refine ok_within hk (by omega) (by omega) (fun _ => ?_) (fun z => absurd q z)
      (repeat ((conv => whnf); first | refine ⟨_, by assumption, ?_⟩ | refine ⟨_, _, by assumption, ?_⟩ | refine ⟨(show _ ∧ _ by omega), ?_⟩ | refine ⟨(show _ ∨ _ by omega), ?_⟩ | refine ⟨fun h => absurd h (by decide), fun _ => ?_⟩ | refine ⟨fun _ => ?_, fun h => absurd h (by decide)⟩ | refine ⟨fun _ => ?_, fun h => absurd rfl h⟩ | refine ⟨fun h => absurd rfl h, fun _ => ?_⟩)); try (conv => whnf)
      refine hC _ _ _ _ _ _ ?_
      refine ok_within hi (by omega) (by omega) (fun r1 => ?_) (fun z => ?_)
      · (repeat ((conv => whnf); first | refine ⟨_, by assumption, ?_⟩ | refine ⟨_, _, by assumption, ?_⟩ | refine ⟨(show _ ∧ _ by omega), ?_⟩ | refine ⟨(show _ ∨ _ by omega), ?_⟩ | refine ⟨fun h => absurd h (by decide), fun _ => ?_⟩ | refine ⟨fun _ => ?_, fun h => absurd h (by decide)⟩ | refine ⟨fun _ => ?_, fun h => absurd rfl h⟩ | refine ⟨fun h => absurd rfl h, fun _ => ?_⟩)); try (conv => whnf)
        refine hC _ _ _ _ _ _ ?_
        refine ok_within hp (by omega) (by omega) (fun r2 => ?_) (fun z => ?_)
        · (repeat ((conv => whnf); first | refine ⟨_, by assumption, ?_⟩ | refine ⟨_, _, by assumption, ?_⟩ | refine ⟨(show _ ∧ _ by omega), ?_⟩ | refine ⟨(show _ ∨ _ by omega), ?_⟩ | refine ⟨fun h => absurd h (by decide), fun _ => ?_⟩ | refine ⟨fun _ => ?_, fun h => absurd h (by decide)⟩ | refine ⟨fun _ => ?_, fun h => absurd rfl h⟩ | refine ⟨fun h => absurd rfl h, fun _ => ?_⟩)); try (conv => whnf)
          refine hC _ _ _ _ _ _ ?_
          refine ok_within ho (by omega) (by omega) (fun r3 => ?_) (fun z => ?_)
          · (repeat ((conv => whnf); first | refine ⟨_, by assumption, ?_⟩ | refine ⟨_, _, by assumption, ?_⟩ | refine ⟨(show _ ∧ _ by omega), ?_⟩ | refine ⟨(show _ ∨ _ by omega), ?_⟩ | refine ⟨fun h => absurd h (by decide), fun _ => ?_⟩ | refine ⟨fun _ => ?_, fun h => absurd h (by decide)⟩ | refine ⟨fun _ => ?_, fun h => absurd rfl h⟩ | refine ⟨fun h => absurd rfl h, fun _ => ?_⟩)); try (conv => whnf)
            refine hC _ _ _ _ _ _ ?_
            refine ok_within hc (by omega) (by omega) (fun r4 => ?_) (fun z => ?_)
            · (repeat ((conv => whnf); first | refine ⟨_, by assumption, ?_⟩ | refine ⟨_, _, by assumption, ?_⟩ | refine ⟨(show _ ∧ _ by omega), ?_⟩ | refine ⟨(show _ ∨ _ by omega), ?_⟩ | refine ⟨fun h => absurd h (by decide), fun _ => ?_⟩ | refine ⟨fun _ => ?_, fun h => absurd h (by decide)⟩ | refine ⟨fun _ => ?_, fun h => absurd rfl h⟩ | refine ⟨fun h => absurd rfl h, fun _ => ?_⟩)); try (conv => whnf)
              refine hC _ _ _ _ _ _ ?_
              refine ok_within ht (by omega) (by omega) (fun r5 => absurd ⟨r1, r2, r3, r4, r5⟩ q2) (fun z => ?_)
              (repeat ((conv => whnf); first | refine ⟨_, by assumption, ?_⟩ | refine ⟨_, _, by assumption, ?_⟩ | refine ⟨(show _ ∧ _ by omega), ?_⟩ | refine ⟨(show _ ∨ _ by omega), ?_⟩ | refine ⟨fun h => absurd h (by decide), fun _ => ?_⟩ | refine ⟨fun _ => ?_, fun h => absurd h (by decide)⟩ | refine ⟨fun _ => ?_, fun h => absurd rfl h⟩ | refine ⟨fun h => absurd rfl h, fun _ => ?_⟩)); try (conv => whnf)
              exact fin
            · (repeat ((conv => whnf); first | refine ⟨_, by assumption, ?_⟩ | refine ⟨_, _, by assumption, ?_⟩ | refine ⟨(show _ ∧ _ by omega), ?_⟩ | refine ⟨(show _ ∨ _ by omega), ?_⟩ | refine ⟨fun h => absurd h (by decide), fun _ => ?_⟩ | refine ⟨fun _ => ?_, fun h => absurd h (by decide)⟩ | refine ⟨fun _ => ?_, fun h => absurd rfl h⟩ | refine ⟨fun h => absurd rfl h, fun _ => ?_⟩)); try (conv => whnf)
              exact fin
          · (repeat ((conv => whnf); first | refine ⟨_, by assumption, ?_⟩ | refine ⟨_, _, by assumption, ?_⟩ | refine ⟨(show _ ∧ _ by omega), ?_⟩ | refine ⟨(show _ ∨ _ by omega), ?_⟩ | refine ⟨fun h => absurd h (by decide), fun _ => ?_⟩ | refine ⟨fun _ => ?_, fun h => absurd h (by decide)⟩ | refine ⟨fun _ => ?_, fun h => absurd rfl h⟩ | refine ⟨fun h => absurd rfl h, fun _ => ?_⟩)); try (conv => whnf)
            exact fin
        · (repeat ((conv => whnf); first | refine ⟨_, by assumption, ?_⟩ | refine ⟨_, _, by assumption, ?_⟩ | refine ⟨(show _ ∧ _ by omega), ?_⟩ | refine ⟨(show _ ∨ _ by omega), ?_⟩ | refine ⟨fun h => absurd h (by decide), fun _ => ?_⟩ | refine ⟨fun _ => ?_, fun h => absurd h (by decide)⟩ | refine ⟨fun _ => ?_, fun h => absurd rfl h⟩ | refine ⟨fun h => absurd rfl h, fun _ => ?_⟩)); try (conv => whnf)
          exact fin
      · (repeat ((conv => whnf); first | refine ⟨_, by assumption, ?_⟩ | refine ⟨_, _, by assumption, ?_⟩ | refine ⟨(show _ ∧ _ by omega), ?_⟩ | refine ⟨(show _ ∨ _ by omega), ?_⟩ | refine ⟨fun h => absurd h (by decide), fun _ => ?_⟩ | refine ⟨fun _ => ?_, fun h => absurd h (by decide)⟩ | refine ⟨fun _ => ?_, fun h => absurd rfl h⟩ | refine ⟨fun h => absurd rfl h, fun _ => ?_⟩)); try (conv => whnf)
        exact fin
  · refine Ok.of (by decide) rfl (Nat.le_of_ble_eq_true rfl) ?_
    refine Go.walk 400 [] E57 E57_ok (fun G C hG hC => ?_)
    (repeat ((conv => whnf); first | refine ⟨_, by assumption, ?_⟩ | refine ⟨_, _, by assumption, ?_⟩ | refine ⟨(show _ ∧ _ by omega), ?_⟩ | refine ⟨(show _ ∨ _ by omega), ?_⟩ | refine ⟨fun h => absurd h (by decide), fun _ => ?_⟩ | refine ⟨fun _ => ?_, fun h => absurd h (by decide)⟩ | refine ⟨fun _ => ?_, fun h => absurd rfl h⟩ | refine ⟨fun h => absurd rfl h, fun _ => ?_⟩)); try (conv => whnf)
    refine hC _ _ _ _ _ _ ?_
    refine ok_within hk (by omega) (by omega) (fun z => absurd z q) (fun _ => ?_)
    (repeat ((conv => whnf); first | refine ⟨_, by assumption, ?_⟩ | refine ⟨_, _, by assumption, ?_⟩ | refine ⟨(show _ ∧ _ by omega), ?_⟩ | refine ⟨(show _ ∨ _ by omega), ?_⟩ | refine ⟨fun h => absurd h (by decide), fun _ => ?_⟩ | refine ⟨fun _ => ?_, fun h => absurd h (by decide)⟩ | refine ⟨fun _ => ?_, fun h => absurd rfl h⟩ | refine ⟨fun h => absurd rfl h, fun _ => ?_⟩)); try (conv => whnf)
    refine hK.no hC0 ?_
    unfold kindF
    rw [if_pos q]
theorem plc_no {n : aN} (hN : 1 ≤ n 0) {k : Int} (h : ∀ v, 1 ≤ v → v < n 0 → nf n v 7 ≠ k) : plc n k = false := by
  unfold plc
  exact rf_inv (fun _ b => b = false) rfl (n 0 - 1).toNat (n 0) (by omega) (fun u b h1 h2 h3 => by rw [h3, Bool.false_or, decide_eq_false (h u h1 h2)])
/-- drop(k) -/
theorem ok_cdrop {P : aP} {d : Nat} {K : aK} {I : aI} {R : aR} {S : aS} {k : Int} (hC0 : CSt n h B sd im I R S) (hW : WF n) (hk : iR k) (hK : DeedC (dropF n k) n h B sd im I R S K) : Ok P 58 (d + 4) [vr 0, vi k] I R S K := by
  have hN := hW.1
  obtain ⟨c1, c2, c3, c4, c5, c6, c7, c8, c9⟩ := id hC0
  obtain ⟨⟨a0, a1, -⟩, -, -, -, e3, -⟩ := id c1
  have hN1 := e3 1 (Or.inl rfl)
  have sn := hN1.1
  refine Ok.of (by decide) rfl (Nat.le_of_ble_eq_true rfl) ?_
  refine Go.walk 400 [] E58 E58_ok (fun G C hG hC => ?_)
  (repeat ((conv => whnf); first | refine ⟨_, by assumption, ?_⟩ | refine ⟨_, _, by assumption, ?_⟩ | refine ⟨(show _ ∧ _ by omega), ?_⟩ | refine ⟨(show _ ∨ _ by omega), ?_⟩ | refine ⟨fun h => absurd h (by decide), fun _ => ?_⟩ | refine ⟨fun _ => ?_, fun h => absurd h (by decide)⟩ | refine ⟨fun _ => ?_, fun h => absurd rfl h⟩ | refine ⟨fun h => absurd rfl h, fun _ => ?_⟩)); try (conv => whnf)
  refine hC _ _ _ _ _ _ ?_
  refine ok_hasKind hN1 c4 hk (fun q => ?_) (fun q => ?_)
  · have q' : isKb n k = true := isKb_iff.mpr q
    (repeat ((conv => whnf); first | refine ⟨_, by assumption, ?_⟩ | refine ⟨_, _, by assumption, ?_⟩ | refine ⟨(show _ ∧ _ by omega), ?_⟩ | refine ⟨(show _ ∨ _ by omega), ?_⟩ | refine ⟨fun h => absurd h (by decide), fun _ => ?_⟩ | refine ⟨fun _ => ?_, fun h => absurd h (by decide)⟩ | refine ⟨fun _ => ?_, fun h => absurd rfl h⟩ | refine ⟨fun h => absurd rfl h, fun _ => ?_⟩)); try (conv => whnf)
    refine hC _ _ _ _ _ _ ?_
    refine ok_isPlaced hN1 c4 hW hk (fun q1 => ?_) (fun q1 => ?_)
    · (repeat ((conv => whnf); first | refine ⟨_, by assumption, ?_⟩ | refine ⟨_, _, by assumption, ?_⟩ | refine ⟨(show _ ∧ _ by omega), ?_⟩ | refine ⟨(show _ ∨ _ by omega), ?_⟩ | refine ⟨fun h => absurd h (by decide), fun _ => ?_⟩ | refine ⟨fun _ => ?_, fun h => absurd h (by decide)⟩ | refine ⟨fun _ => ?_, fun h => absurd rfl h⟩ | refine ⟨fun h => absurd rfl h, fun _ => ?_⟩)); try (conv => whnf)
      refine hK.no hC0 ?_
      unfold dropF
      rw [if_neg (fun z => z q'), if_pos q1]
    · have hqk : 1 ≤ k ∧ k ≤ 3 := ⟨q.1, q.2.1⟩
      (repeat ((conv => whnf); first | refine ⟨_, by assumption, ?_⟩ | refine ⟨_, _, by assumption, ?_⟩ | refine ⟨(show _ ∧ _ by omega), ?_⟩ | refine ⟨(show _ ∨ _ by omega), ?_⟩ | refine ⟨fun h => absurd h (by decide), fun _ => ?_⟩ | refine ⟨fun _ => ?_, fun h => absurd h (by decide)⟩ | refine ⟨fun _ => ?_, fun h => absurd rfl h⟩ | refine ⟨fun h => absurd rfl h, fun _ => ?_⟩)); try (conv => whnf)
      refine hC _ _ _ _ _ _ ?_
      refine ok_deedC hC0 (fun I1 hX1 hC1 h5 => ?_)
      have hR1 := hC1.2.2.2.1
      have e2 : I1 1 ((2 : Nat) : Int) = mKinds n := hR1.1.2.2
      have e4 : uI I1 1 ((2 : Nat) : Int) (mKinds (sk n k 0 0)) 1 ((2 : Nat) : Int) = mKinds (sk n k 0 0) := uI_at
      have hka := kinds_and hW hqk
      (repeat ((conv => whnf); first | refine ⟨_, by assumption, ?_⟩ | refine ⟨_, _, by assumption, ?_⟩ | refine ⟨(show _ ∧ _ by omega), ?_⟩ | refine ⟨(show _ ∨ _ by omega), ?_⟩ | refine ⟨fun h => absurd h (by decide), fun _ => ?_⟩ | refine ⟨fun _ => ?_, fun h => absurd h (by decide)⟩ | refine ⟨fun _ => ?_, fun h => absurd rfl h⟩ | refine ⟨fun h => absurd rfl h, fun _ => ?_⟩)); try (conv => whnf)
      rw [e2, hka, e4]
      refine hC _ _ _ _ _ _ ?_
      refine ok_bitCount ?_
      obtain ⟨f1, f2, f3⟩ := kf3 (n := n) (z := 0) hqk
      have b1 : kf (sk n k 0 0) 1 0 = 0 ∨ kf (sk n k 0 0) 1 0 = 1 := by
        rw [f1]; split
        · exact Or.inl rfl
        · exact k01 hW (by omega)
      have b2 : kf (sk n k 0 0) 2 0 = 0 ∨ kf (sk n k 0 0) 2 0 = 1 := by
        rw [f2]; split
        · exact Or.inl rfl
        · exact k01 hW (by omega)
      have b3 : kf (sk n k 0 0) 3 0 = 0 ∨ kf (sk n k 0 0) 3 0 = 1 := by
        rw [f3]; split
        · exact Or.inl rfl
        · exact k01 hW (by omega)
      have eb : bcF (mKinds (sk n k 0 0)) = kf (sk n k 0 0) 1 0 + kf (sk n k 0 0) 2 0 + kf (sk n k 0 0) 3 0 := bc_3 b1 b2 b3
      rw [eb]
      (repeat ((conv => whnf); first | refine ⟨_, by assumption, ?_⟩ | refine ⟨_, _, by assumption, ?_⟩ | refine ⟨(show _ ∧ _ by omega), ?_⟩ | refine ⟨(show _ ∨ _ by omega), ?_⟩ | refine ⟨fun h => absurd h (by decide), fun _ => ?_⟩ | refine ⟨fun _ => ?_, fun h => absurd h (by decide)⟩ | refine ⟨fun _ => ?_, fun h => absurd rfl h⟩ | refine ⟨fun h => absurd rfl h, fun _ => ?_⟩)); try (conv => whnf)
      refine hK.yes (n' := sk n k 0 0) ?_ hX1 hC1 h5 (fun x hx => ?_) (hR1.sk0 hqk)
      · unfold dropF
        rw [if_neg (fun z => z q'), if_neg (by rw [plc_no hN.1 q1]; exact Bool.false_ne_true)]
      · funext y
        exact uI_ne (by omega)
  · have q' : ¬ isKb n k = true := fun z => q (isKb_iff.mp z)
    (repeat ((conv => whnf); first | refine ⟨_, by assumption, ?_⟩ | refine ⟨_, _, by assumption, ?_⟩ | refine ⟨(show _ ∧ _ by omega), ?_⟩ | refine ⟨(show _ ∨ _ by omega), ?_⟩ | refine ⟨fun h => absurd h (by decide), fun _ => ?_⟩ | refine ⟨fun _ => ?_, fun h => absurd h (by decide)⟩ | refine ⟨fun _ => ?_, fun h => absurd rfl h⟩ | refine ⟨fun h => absurd rfl h, fun _ => ?_⟩)); try (conv => whnf)
    refine hK.no hC0 ?_
    unfold dropF
    rw [if_pos q']
/-- wire(v, r, c, w) -/
theorem ok_cwire {P : aP} {d : Nat} {K : aK} {I : aI} {R : aR} {S : aS} {v r c w : Int} (hC0 : CSt n h B sd im I R S) (hW : WF n) (hv : iR v) (hr : iR r) (hc : iR c) (hw : iR w) (hK : DeedC (wireF n v r c w) n h B sd im I R S K) : Ok P 55 (d + 4) [vr 0, vi v, vi r, vi c, vi w] I R S K := by
  have hN := hW.1
  obtain ⟨c1, c2, c3, c4, c5, c6, c7, c8, c9⟩ := id hC0
  obtain ⟨⟨a0, a1, a2, a3, -⟩, -, -, -, e3, e4, -⟩ := id c1
  have hN1 := e3 1 (Or.inl rfl)
  obtain ⟨s0, sr1, sm1, sr2, sm2, sr3, sm3, sr4, sm4, sr5, sm5, sr6, sm6, sr7, sm7, sr8, sm8, sr9, sm9, sr10, sm10, sr11, sm11, sr12, sm12, sr13, sm13⟩ := id hN1
  obtain ⟨t0, x1, t1, x2, t2, x3, t3, x4, t4⟩ := id e4
  refine Ok.of (by decide) rfl (Nat.le_of_ble_eq_true rfl) ?_
  refine Go.walk 400 [] E55 E55_ok (fun G C hG hC => ?_)
  (repeat ((conv => whnf); first | refine ⟨_, by assumption, ?_⟩ | refine ⟨_, _, by assumption, ?_⟩ | refine ⟨(show _ ∧ _ by omega), ?_⟩ | refine ⟨(show _ ∨ _ by omega), ?_⟩ | refine ⟨fun h => absurd h (by decide), fun _ => ?_⟩ | refine ⟨fun _ => ?_, fun h => absurd h (by decide)⟩ | refine ⟨fun _ => ?_, fun h => absurd rfl h⟩ | refine ⟨fun h => absurd rfl h, fun _ => ?_⟩)); try (conv => whnf)
  refine hC _ _ _ _ _ _ ?_
  refine ok_hasNode hN1 c4 hW hv (fun q => ?_) (fun q => ?_)
  · (repeat ((conv => whnf); first | refine ⟨_, by assumption, ?_⟩ | refine ⟨_, _, by assumption, ?_⟩ | refine ⟨(show _ ∧ _ by omega), ?_⟩ | refine ⟨(show _ ∨ _ by omega), ?_⟩ | refine ⟨fun h => absurd h (by decide), fun _ => ?_⟩ | refine ⟨fun _ => ?_, fun h => absurd h (by decide)⟩ | refine ⟨fun _ => ?_, fun h => absurd rfl h⟩ | refine ⟨fun h => absurd rfl h, fun _ => ?_⟩)); try (conv => whnf)
    refine hC _ _ _ _ _ _ ?_
    refine ok_within hr (by omega) (by omega) (fun q1 => ?_) (fun q1 => ?_)
    · (repeat ((conv => whnf); first | refine ⟨_, by assumption, ?_⟩ | refine ⟨_, _, by assumption, ?_⟩ | refine ⟨(show _ ∧ _ by omega), ?_⟩ | refine ⟨(show _ ∨ _ by omega), ?_⟩ | refine ⟨fun h => absurd h (by decide), fun _ => ?_⟩ | refine ⟨fun _ => ?_, fun h => absurd h (by decide)⟩ | refine ⟨fun _ => ?_, fun h => absurd rfl h⟩ | refine ⟨fun h => absurd rfl h, fun _ => ?_⟩)); try (conv => whnf)
      refine hC _ _ _ _ _ _ ?_
      refine ok_within hc (by omega) (by omega) (fun q2 => ?_) (fun q2 => ?_)
      · (repeat ((conv => whnf); first | refine ⟨_, by assumption, ?_⟩ | refine ⟨_, _, by assumption, ?_⟩ | refine ⟨(show _ ∧ _ by omega), ?_⟩ | refine ⟨(show _ ∨ _ by omega), ?_⟩ | refine ⟨fun h => absurd h (by decide), fun _ => ?_⟩ | refine ⟨fun _ => ?_, fun h => absurd h (by decide)⟩ | refine ⟨fun _ => ?_, fun h => absurd rfl h⟩ | refine ⟨fun h => absurd rfl h, fun _ => ?_⟩)); try (conv => whnf)
        refine hC _ _ _ _ _ _ ?_
        refine ok_within hw (by omega) (by omega) (fun q3 => ?_) (fun q3 => ?_)
        · (repeat ((conv => whnf); first | refine ⟨_, by assumption, ?_⟩ | refine ⟨_, _, by assumption, ?_⟩ | refine ⟨(show _ ∧ _ by omega), ?_⟩ | refine ⟨(show _ ∨ _ by omega), ?_⟩ | refine ⟨fun h => absurd h (by decide), fun _ => ?_⟩ | refine ⟨fun _ => ?_, fun h => absurd h (by decide)⟩ | refine ⟨fun _ => ?_, fun h => absurd rfl h⟩ | refine ⟨fun h => absurd rfl h, fun _ => ?_⟩)); try (conv => whnf)
          refine ⟨fun q4 => ?_, fun q4 => ?_⟩
          · (repeat ((conv => whnf); first | refine ⟨_, by assumption, ?_⟩ | refine ⟨_, _, by assumption, ?_⟩ | refine ⟨(show _ ∧ _ by omega), ?_⟩ | refine ⟨(show _ ∨ _ by omega), ?_⟩ | refine ⟨fun h => absurd h (by decide), fun _ => ?_⟩ | refine ⟨fun _ => ?_, fun h => absurd h (by decide)⟩ | refine ⟨fun _ => ?_, fun h => absurd rfl h⟩ | refine ⟨fun h => absurd rfl h, fun _ => ?_⟩)); try (conv => whnf)
            refine hC _ _ _ _ _ _ ?_
            refine ok_deedC hC0 (fun I1 hX1 hC1 h5 => ?_)
            have hR1 := hC1.2.2.2.1
            have hR2 : NetR _ 1 (wireN n v r c w) := ((hR1.st (b := 3) (v := v) (w := 1) (z := r) (by omega) (by omega) (by omega)).st (b := 4) (v := v) (w := 2) (z := c) (by omega) (by omega) (by omega)).st (b := 5) (v := v) (w := 3) (z := w) (by omega) (by omega) (by omega)
            have hW2 := wf_wire hW (v := v) (by omega) ⟨q1, q2, q3⟩
            have ez : wireN n v r c w 0 = n 0 := by
              unfold wireN
              rw [st_lo (by omega) (by omega) (by omega), st_lo (by omega) (by omega) (by omega), st_lo (by omega) (by omega) (by omega)]
            (repeat ((conv => whnf); first | refine ⟨_, by assumption, ?_⟩ | refine ⟨_, _, by assumption, ?_⟩ | refine ⟨(show _ ∧ _ by omega), ?_⟩ | refine ⟨(show _ ∨ _ by omega), ?_⟩ | refine ⟨fun h => absurd h (by decide), fun _ => ?_⟩ | refine ⟨fun _ => ?_, fun h => absurd h (by decide)⟩ | refine ⟨fun _ => ?_, fun h => absurd rfl h⟩ | refine ⟨fun h => absurd rfl h, fun _ => ?_⟩)); try (conv => whnf)
            refine hC _ _ _ _ _ _ ?_
            refine ok_timing e4 hN1 (hR2.P hW2) hW2 (pl0_ok hW2) (wd0_ok hW2) (by omega) (fun I3 hF3 hT3 => ?_)
            have et := (hT3.1 v (by omega) (by omega)).2.2.1
            (repeat ((conv => whnf); first | refine ⟨_, by assumption, ?_⟩ | refine ⟨_, _, by assumption, ?_⟩ | refine ⟨(show _ ∧ _ by omega), ?_⟩ | refine ⟨(show _ ∨ _ by omega), ?_⟩ | refine ⟨fun h => absurd h (by decide), fun _ => ?_⟩ | refine ⟨fun _ => ?_, fun h => absurd h (by decide)⟩ | refine ⟨fun _ => ?_, fun h => absurd rfl h⟩ | refine ⟨fun h => absurd rfl h, fun _ => ?_⟩)); try (conv => whnf)
            rw [et]
            refine hK.yes (n' := wireN n v r c w) ?_ hX1 hC1 h5 (fun x hx => ?_) (hR2.cg (fun x g1 g2 => hF3 x (by simp; omega)))
            · unfold wireF
              rw [if_neg (fun z => z q), if_neg (fun z => z ⟨q1, q2, q3⟩), if_neg q4]
            · rw [hF3 x (by simp; omega)]
              funext y
              rw [uI_ne (by omega), uI_ne (by omega), uI_ne (by omega)]
          · (repeat ((conv => whnf); first | refine ⟨_, by assumption, ?_⟩ | refine ⟨_, _, by assumption, ?_⟩ | refine ⟨(show _ ∧ _ by omega), ?_⟩ | refine ⟨(show _ ∨ _ by omega), ?_⟩ | refine ⟨fun h => absurd h (by decide), fun _ => ?_⟩ | refine ⟨fun _ => ?_, fun h => absurd h (by decide)⟩ | refine ⟨fun _ => ?_, fun h => absurd rfl h⟩ | refine ⟨fun h => absurd rfl h, fun _ => ?_⟩)); try (conv => whnf)
            refine hK.no hC0 ?_
            unfold wireF
            rw [if_neg (fun z => z q), if_neg (fun z => z ⟨q1, q2, q3⟩), if_pos q4]
        · (repeat ((conv => whnf); first | refine ⟨_, by assumption, ?_⟩ | refine ⟨_, _, by assumption, ?_⟩ | refine ⟨(show _ ∧ _ by omega), ?_⟩ | refine ⟨(show _ ∨ _ by omega), ?_⟩ | refine ⟨fun h => absurd h (by decide), fun _ => ?_⟩ | refine ⟨fun _ => ?_, fun h => absurd h (by decide)⟩ | refine ⟨fun _ => ?_, fun h => absurd rfl h⟩ | refine ⟨fun h => absurd rfl h, fun _ => ?_⟩)); try (conv => whnf)
          refine hK.no hC0 ?_
          unfold wireF
          rw [if_neg (fun z => z q), if_pos (fun z => q3 z.2.2)]
      · (repeat ((conv => whnf); first | refine ⟨_, by assumption, ?_⟩ | refine ⟨_, _, by assumption, ?_⟩ | refine ⟨(show _ ∧ _ by omega), ?_⟩ | refine ⟨(show _ ∨ _ by omega), ?_⟩ | refine ⟨fun h => absurd h (by decide), fun _ => ?_⟩ | refine ⟨fun _ => ?_, fun h => absurd h (by decide)⟩ | refine ⟨fun _ => ?_, fun h => absurd rfl h⟩ | refine ⟨fun h => absurd rfl h, fun _ => ?_⟩)); try (conv => whnf)
        refine hK.no hC0 ?_
        unfold wireF
        rw [if_neg (fun z => z q), if_pos (fun z => q2 z.2.1)]
    · (repeat ((conv => whnf); first | refine ⟨_, by assumption, ?_⟩ | refine ⟨_, _, by assumption, ?_⟩ | refine ⟨(show _ ∧ _ by omega), ?_⟩ | refine ⟨(show _ ∨ _ by omega), ?_⟩ | refine ⟨fun h => absurd h (by decide), fun _ => ?_⟩ | refine ⟨fun _ => ?_, fun h => absurd h (by decide)⟩ | refine ⟨fun _ => ?_, fun h => absurd rfl h⟩ | refine ⟨fun h => absurd rfl h, fun _ => ?_⟩)); try (conv => whnf)
      refine hK.no hC0 ?_
      unfold wireF
      rw [if_neg (fun z => z q), if_pos (fun z => q1 z.1)]
  · (repeat ((conv => whnf); first | refine ⟨_, by assumption, ?_⟩ | refine ⟨_, _, by assumption, ?_⟩ | refine ⟨(show _ ∧ _ by omega), ?_⟩ | refine ⟨(show _ ∨ _ by omega), ?_⟩ | refine ⟨fun h => absurd h (by decide), fun _ => ?_⟩ | refine ⟨fun _ => ?_, fun h => absurd h (by decide)⟩ | refine ⟨fun _ => ?_, fun h => absurd rfl h⟩ | refine ⟨fun h => absurd rfl h, fun _ => ?_⟩)); try (conv => whnf)
    refine hK.no hC0 ?_
    unfold wireF
    rw [if_pos q]
end Dk
