/-! a net of the class: changes -/
def FN (a : Nat) (I I' : aI) : Prop := ∀ x, (x < a ∨ a + 13 < x) → I' x = I x
theorem FN.rf {a : Nat} {I : aI} : FN a I I := fun _ _ => rfl
theorem FN.put {a b : Nat} {I I' : aI} {j z : Int} (h : FN a I I') (hb : a ≤ b ∧ b ≤ a + 13) : FN a I (uI I' b j z) := by
  intro x hx
  funext k
  rw [uI_ne (by omega), h x hx]
theorem FN.trans {a : Nat} {I I1 I2 : aI} (h : FN a I I1) (h2 : FN a I1 I2) : FN a I I2 := fun x hx => (h2 x hx).trans (h x hx)
theorem net_row {I : aI} {a b : Nat} {n : aN} {v w z x : Int} {i j : Nat} (hb : (b : Int) = a + 1 + w) (hw : 0 ≤ w ∧ w < 8) (hi : i < 8) (hj : j = 1 + i) (h : I (a + j) x = nf n x i) : uI I b v z (a + j) x = nf (st n v w z) x i := by
  rw [nf_st hw (by omega)]
  by_cases q : x = v ∧ (i : Int) = w
  · rw [if_pos q]
    obtain ⟨q1, q2⟩ := q
    have e : a + j = b := by omega
    subst e
    subst q1
    exact uI_at
  · rw [if_neg q, uI_ne (by omega)]
    exact h
def mK3 (x y z : Int) : Int := bOr (bOr (bOr 0 (if x = 1 then bShl 1 1 else 0)) (if y = 1 then bShl 1 2 else 0)) (if z = 1 then bShl 1 3 else 0)
theorem mKinds_3 (n : aN) : mKinds n = mK3 (kf n 1 0) (kf n 2 0) (kf n 3 0) := rfl
theorem mKinds_cong {n n' : aN} (h : ∀ k : Int, 1 ≤ k → k ≤ 3 → kf n' k 0 = kf n k 0) : mKinds n' = mKinds n := by
  have e1 := h 1 (by omega) (by omega)
  have e2 := h 2 (by omega) (by omega)
  have e3 := h 3 (by omega) (by omega)
  rw [mKinds_3 n', mKinds_3 n]
  exact congr (congr (congrArg mK3 e1) e2) e3
theorem NetR.st {I : aI} {a b : Nat} {n : aN} {v w z : Int} (hR : NetR I a n) (hb : (b : Int) = a + 1 + w) (hw : 0 ≤ w ∧ w < 8) (hv : 0 ≤ v) : NetR (uI I b v z) a (st n v w z) := by
  obtain ⟨⟨h0, h1, h2⟩, h3, h4, h5⟩ := hR
  refine ⟨⟨?_, ?_, ?_⟩, fun x g0 g1 => ?_, fun k g0 g1 => ?_, ?_⟩
  · rw [uI_ne (by omega), st_lo hv (by omega) (by omega)]; exact h0
  · rw [uI_ne (by omega), st_lo hv (by omega) (by omega)]; exact h1
  · rw [uI_ne (by omega), mKinds_cong (fun k _ q => kf_st hv (by omega) q (by omega))]; exact h2
  · obtain ⟨r0, r1, r2, r3, r4, r5, r6, r7⟩ := h3 x g0 g1
    exact ⟨net_row (i := 0) hb hw (by omega) rfl r0, net_row (i := 1) hb hw (by omega) rfl r1, net_row (i := 2) hb hw (by omega) rfl r2, net_row (i := 3) hb hw (by omega) rfl r3, net_row (i := 4) hb hw (by omega) rfl r4, net_row (i := 5) hb hw (by omega) rfl r5, net_row (i := 6) hb hw (by omega) rfl r6, net_row (i := 7) hb hw (by omega) rfl r7⟩
  · obtain ⟨r1, r2, r3, r4, r5⟩ := h4 k g0 g1
    refine ⟨?_, ?_, ?_, ?_, ?_⟩
    · rw [uI_ne (by omega), kf_st hv (by omega) g1 (by omega)]; exact r1
    · rw [uI_ne (by omega), kf_st hv (by omega) g1 (by omega)]; exact r2
    · rw [uI_ne (by omega), kf_st hv (by omega) g1 (by omega)]; exact r3
    · rw [uI_ne (by omega), kf_st hv (by omega) g1 (by omega)]; exact r4
    · rw [uI_ne (by omega), kf_st hv (by omega) g1 (by omega)]; exact r5
  · obtain ⟨r1, r2, r3, r4, r5⟩ := h5
    refine ⟨?_, ?_, ?_, ?_, ?_⟩
    · rw [uI_ne (by omega)]; exact r1
    · rw [uI_ne (by omega)]; exact r2
    · rw [uI_ne (by omega)]; exact r3
    · rw [uI_ne (by omega)]; exact r4
    · rw [uI_ne (by omega)]; exact r5
/-- the same numbers in other rows of the class, the same cells' numbers -/
theorem NetR.cg {I I' : aI} {a : Nat} {n : aN} (hR : NetR I a n) (h : ∀ x, a ≤ x → x ≤ a + 13 → I' x = I x) : NetR I' a n := by
  unfold NetR at hR ⊢
  rw [h a (by omega) (by omega), h (a + 1) (by omega) (by omega), h (a + 2) (by omega) (by omega), h (a + 3) (by omega) (by omega), h (a + 4) (by omega) (by omega), h (a + 5) (by omega) (by omega), h (a + 6) (by omega) (by omega), h (a + 7) (by omega) (by omega), h (a + 8) (by omega) (by omega), h (a + 9) (by omega) (by omega), h (a + 10) (by omega) (by omega), h (a + 11) (by omega) (by omega), h (a + 12) (by omega) (by omega), h (a + 13) (by omega) (by omega)]
  exact hR
theorem NetR.up1 {I : aI} {a : Nat} {n : aN} {j z : Int} (hR : NetR I a n) (hj : 0 ≤ j ∧ j ≤ 1) : NetR (uI I a j z) a (up n j z) := by
  obtain ⟨⟨h0, h1, h2⟩, h3, h4, h5⟩ := hR
  have en : ∀ x y : Int, 0 ≤ x → 0 ≤ y → nf (up n j z) x y = nf n x y := fun x y g1 g2 => nf_up (by omega)
  have ek : ∀ k y : Int, 1 ≤ k → 0 ≤ y → kf (up n j z) k y = kf n k y := fun k y g1 g2 => kf_up (by omega)
  have er : ∀ (i : Nat) (x : Int), 1 ≤ i → uI I a j z (a + i) x = I (a + i) x := fun i x g => uI_ne (by omega)
  have e01 : ∀ k : Int, 0 ≤ k → k ≤ 1 → I a k = n k → uI I a j z a k = up n j z k := by
    intro k g0 g1 h
    by_cases q : k = j
    · subst q; rw [uI_at, up_at]
    · rw [uI_ne (by omega), up_ne q]; exact h
  refine ⟨⟨e01 0 (by omega) (by omega) h0, e01 1 (by omega) (by omega) h1, ?_⟩, fun x g0 g1 => ?_, fun k g0 g1 => ?_, ?_⟩
  · rw [uI_ne (by omega), mKinds_cong (fun k q _ => ek k 0 q (by omega))]; exact h2
  · rw [er 1 x (by omega), er 2 x (by omega), er 3 x (by omega), er 4 x (by omega), er 5 x (by omega), er 6 x (by omega), er 7 x (by omega), er 8 x (by omega), en x 0 g0 (by omega), en x 1 g0 (by omega), en x 2 g0 (by omega), en x 3 g0 (by omega), en x 4 g0 (by omega), en x 5 g0 (by omega), en x 6 g0 (by omega), en x 7 g0 (by omega)]
    exact h3 x g0 g1
  · rw [er 9 k (by omega), er 10 k (by omega), er 11 k (by omega), er 12 k (by omega), er 13 k (by omega), ek k 1 g0 (by omega), ek k 2 g0 (by omega), ek k 3 g0 (by omega), ek k 4 g0 (by omega), ek k 5 g0 (by omega)]
    exact h4 k g0 g1
  · rw [er 9 0 (by omega), er 10 0 (by omega), er 11 0 (by omega), er 12 0 (by omega), er 13 0 (by omega)]
    exact h5
/-- tellEnd(v, load, need, wants) -/
theorem ok_tellEnd {P : aP} {d : Nat} {K : aK} {I : aI} {R : aR} {S : aS} {a : Nat} {n : aN} {v l e w : Int} (hS : NetS R S a) (hR : NetR I a n) (hv : 0 ≤ v ∧ v < 6) (hK : ∀ I', FN a I I' → NetR I' a (endN n v l e w) → K none I' R S) : Ok P 33 (d + 1) [vr a, vi v, vi l, vi e, vi w] I R S K := by
  obtain ⟨s0, sr1, sm1, sr2, sm2, sr3, sm3, sr4, sm4, sr5, sm5, sr6, sm6, sr7, sm7, sr8, sm8, sr9, sm9, sr10, sm10, sr11, sm11, sr12, sm12, sr13, sm13⟩ := id hS
  refine Ok.of (by decide) rfl (Nat.le_of_ble_eq_true rfl) ?_
  refine Go.walk 400 [] E33 E33_ok (fun G C hG hC => ?_)
  (repeat ((conv => whnf); first | refine ⟨_, by assumption, ?_⟩ | refine ⟨_, _, by assumption, ?_⟩ | refine ⟨(show _ ∧ _ by omega), ?_⟩ | refine ⟨(show _ ∨ _ by omega), ?_⟩ | refine ⟨fun h => absurd h (by decide), fun _ => ?_⟩ | refine ⟨fun _ => ?_, fun h => absurd h (by decide)⟩ | refine ⟨fun _ => ?_, fun h => absurd rfl h⟩ | refine ⟨fun h => absurd rfl h, fun _ => ?_⟩)); try (conv => whnf)
  exact hK _ (((FN.rf.put (by omega)).put (by omega)).put (by omega)) (((hR.st (b := a + 5) (w := 4) (by omega) (by omega) hv.1).st (b := a + 6) (w := 5) (by omega) (by omega) hv.1).st (b := a + 7) (w := 6) (by omega) (by omega) hv.1)
theorem up_comm {n : aN} {i j x y : Int} (h : i ≠ j) : up (up n i x) j y = up (up n j y) i x := by
  funext k
  unfold up
  by_cases h1 : k = j
  · rw [if_pos h1, if_neg (by omega), if_pos h1]
  · rw [if_neg h1]
    by_cases h2 : k = i
    · rw [if_pos h2, if_pos h2]
    · rw [if_neg h2, if_neg h2, if_neg h1]
theorem grow_eq {n : aN} {aa r c : Int} (h0 : 0 ≤ n 0) : endN (st (st (st (st (st (up n 0 (n 0 + 1)) (n 0) 0 aa) (n 0) 1 r) (n 0) 2 c) (n 0) 3 1) (n 0) 7 0) (n 0) 1 100 0 = growF n aa r c := by
  unfold growF endN st
  rw [up_comm (i := 0) (j := 20 + 8 * n 0 + 0) (by omega), up_comm (i := 0) (j := 20 + 8 * n 0 + 1) (by omega), up_comm (i := 0) (j := 20 + 8 * n 0 + 2) (by omega), up_comm (i := 0) (j := 20 + 8 * n 0 + 3) (by omega), up_comm (i := 0) (j := 20 + 8 * n 0 + 7) (by omega), up_comm (i := 0) (j := 20 + 8 * n 0 + 4) (by omega), up_comm (i := 0) (j := 20 + 8 * n 0 + 5) (by omega), up_comm (i := 0) (j := 20 + 8 * n 0 + 6) (by omega)]
  rw [up_comm (i := 20 + 8 * n 0 + 7) (j := 20 + 8 * n 0 + 4) (by omega), up_comm (i := 20 + 8 * n 0 + 7) (j := 20 + 8 * n 0 + 5) (by omega), up_comm (i := 20 + 8 * n 0 + 7) (j := 20 + 8 * n 0 + 6) (by omega)]
/-- grow(above, r, c) -/
theorem ok_grow {P : aP} {d : Nat} {K : aK} {I : aI} {R : aR} {S : aS} {a : Nat} {n : aN} {aa r c : Int} (hS : NetS R S a) (hR : NetR I a n) (hW : WF n) (h6 : n 0 < 6) (hK : ∀ I', FN a I I' → NetR I' a (growF n aa r c) → K (some (vi (n 0))) I' R S) : Ok P 32 (d + 2) [vr a, vi aa, vi r, vi c] I R S K := by
  obtain ⟨s0, sr1, sm1, sr2, sm2, sr3, sm3, sr4, sm4, sr5, sm5, sr6, sm6, sr7, sm7, sr8, sm8, sr9, sm9, sr10, sm10, sr11, sm11, sr12, sm12, sr13, sm13⟩ := id hS
  have hN := hW.1
  have e0 : I a ((0 : Nat) : Int) = n 0 := hR.1.1
  have hg := (((((hR.up1 (j := 0) (z := n 0 + 1) (by omega)).st (b := a + 1) (v := n 0) (w := 0) (z := aa) (by omega) (by omega) (by omega)).st (b := a + 2) (v := n 0) (w := 1) (z := r) (by omega) (by omega) (by omega)).st (b := a + 3) (v := n 0) (w := 2) (z := c) (by omega) (by omega) (by omega)).st (b := a + 4) (v := n 0) (w := 3) (z := 1) (by omega) (by omega) (by omega)).st (b := a + 8) (v := n 0) (w := 7) (z := 0) (by omega) (by omega) (by omega)
  refine Ok.of (by decide) rfl (Nat.le_of_ble_eq_true rfl) ?_
  refine Go.walk 400 [] E32 E32_ok (fun G C hG hC => ?_)
  (repeat ((conv => whnf); first | refine ⟨_, by assumption, ?_⟩ | refine ⟨_, _, by assumption, ?_⟩ | refine ⟨(show _ ∧ _ by omega), ?_⟩ | refine ⟨(show _ ∨ _ by omega), ?_⟩ | refine ⟨fun h => absurd h (by decide), fun _ => ?_⟩ | refine ⟨fun _ => ?_, fun h => absurd h (by decide)⟩ | refine ⟨fun _ => ?_, fun h => absurd rfl h⟩ | refine ⟨fun h => absurd rfl h, fun _ => ?_⟩)); try (conv => whnf)
  rw [e0]
  refine hC _ _ _ _ _ _ ?_
  refine ok_tellEnd hS hg (by omega) (fun I' hF hR' => ?_)
  rw [grow_eq (by omega)] at hR'
  (repeat ((conv => whnf); first | refine ⟨_, by assumption, ?_⟩ | refine ⟨_, _, by assumption, ?_⟩ | refine ⟨(show _ ∧ _ by omega), ?_⟩ | refine ⟨(show _ ∨ _ by omega), ?_⟩ | refine ⟨fun h => absurd h (by decide), fun _ => ?_⟩ | refine ⟨fun _ => ?_, fun h => absurd h (by decide)⟩ | refine ⟨fun _ => ?_, fun h => absurd rfl h⟩ | refine ⟨fun h => absurd rfl h, fun _ => ?_⟩)); try (conv => whnf)
  refine hK I' (FN.trans ?_ hF) hR'
  exact (((((FN.rf.put (by omega)).put (by omega)).put (by omega)).put (by omega)).put (by omega)).put (by omega)
/-- isPlaced(k) -/
theorem ok_isPlaced {P : aP} {d : Nat} {K : aK} {I : aI} {R : aR} {S : aS} {a : Nat} {n : aN} {k : Int} (hS : NetS R S a) (hR : NetR I a n) (hW : WF n) (hk : iR k) (h1 : plc n k = true → K (some (vi 1)) I R S) (h0 : (∀ v, 1 ≤ v → v < n 0 → nf n v 7 ≠ k) → K (some (vi 0)) I R S) : Ok P 30 (d + 1) [vr a, vi k] I R S K := by
  obtain ⟨s0, sr1, sm1, sr2, sm2, sr3, sm3, sr4, sm4, sr5, sm5, sr6, sm6, sr7, sm7, sr8, sm8, sr9, sm9, sr10, sm10, sr11, sm11, sr12, sm12, sr13, sm13⟩ := id hS
  have hN := hW.1
  have e0 : I a ((0 : Nat) : Int) = n 0 := hR.1.1
  have loop : ∀ (m : Nat) (v : Int), 1 ≤ v → n 0 - v = m → (∀ u, 1 ≤ u → u < v → nf n u 7 ≠ k) → Go P 30 (d + 1) K 2 [vr a, vi k, vi v] [] I R S := by
    intro m
    induction m with
    | zero =>
      intro v g1 hm hx
      have hv : v = n 0 := by omega
      refine Go.walk 400 [2] E30 E30_ok (fun G C hG hC => ?_)
      (repeat ((conv => whnf); first | refine ⟨_, by assumption, ?_⟩ | refine ⟨_, _, by assumption, ?_⟩ | refine ⟨(show _ ∧ _ by omega), ?_⟩ | refine ⟨(show _ ∨ _ by omega), ?_⟩ | refine ⟨fun h => absurd h (by decide), fun _ => ?_⟩ | refine ⟨fun _ => ?_, fun h => absurd h (by decide)⟩ | refine ⟨fun _ => ?_, fun h => absurd rfl h⟩ | refine ⟨fun h => absurd rfl h, fun _ => ?_⟩)); try (conv => whnf)
      rw [e0]
      refine ⟨fun _ => ?_, fun q => absurd (show n 0 ≤ v by omega) q⟩
      (repeat ((conv => whnf); first | refine ⟨_, by assumption, ?_⟩ | refine ⟨_, _, by assumption, ?_⟩ | refine ⟨(show _ ∧ _ by omega), ?_⟩ | refine ⟨(show _ ∨ _ by omega), ?_⟩ | refine ⟨fun h => absurd h (by decide), fun _ => ?_⟩ | refine ⟨fun _ => ?_, fun h => absurd h (by decide)⟩ | refine ⟨fun _ => ?_, fun h => absurd rfl h⟩ | refine ⟨fun h => absurd rfl h, fun _ => ?_⟩)); try (conv => whnf)
      exact h0 (by rw [← hv]; exact hx)
    | succ m ih =>
      intro v g1 hm hx
      have e7 := (hR.2.1 v (by omega) (by omega)).2.2.2.2.2.2.2
      have b7 := (hW.2.1 v (by omega) (by omega)).2.2.2.2.2.2.2
      refine Go.walk 400 [2] E30 E30_ok (fun G C hG hC => ?_)
      (repeat ((conv => whnf); first | refine ⟨_, by assumption, ?_⟩ | refine ⟨_, _, by assumption, ?_⟩ | refine ⟨(show _ ∧ _ by omega), ?_⟩ | refine ⟨(show _ ∨ _ by omega), ?_⟩ | refine ⟨fun h => absurd h (by decide), fun _ => ?_⟩ | refine ⟨fun _ => ?_, fun h => absurd h (by decide)⟩ | refine ⟨fun _ => ?_, fun h => absurd rfl h⟩ | refine ⟨fun h => absurd rfl h, fun _ => ?_⟩)); try (conv => whnf)
      rw [e0]
      refine ⟨fun q => absurd q (by omega), fun _ => ?_⟩
      (repeat ((conv => whnf); first | refine ⟨_, by assumption, ?_⟩ | refine ⟨_, _, by assumption, ?_⟩ | refine ⟨(show _ ∧ _ by omega), ?_⟩ | refine ⟨(show _ ∨ _ by omega), ?_⟩ | refine ⟨fun h => absurd h (by decide), fun _ => ?_⟩ | refine ⟨fun _ => ?_, fun h => absurd h (by decide)⟩ | refine ⟨fun _ => ?_, fun h => absurd rfl h⟩ | refine ⟨fun h => absurd rfl h, fun _ => ?_⟩)); try (conv => whnf)
      rw [e7]
      refine ⟨fun q => ?_, fun q => ?_⟩
      · (repeat ((conv => whnf); first | refine ⟨_, by assumption, ?_⟩ | refine ⟨_, _, by assumption, ?_⟩ | refine ⟨(show _ ∧ _ by omega), ?_⟩ | refine ⟨(show _ ∨ _ by omega), ?_⟩ | refine ⟨fun h => absurd h (by decide), fun _ => ?_⟩ | refine ⟨fun _ => ?_, fun h => absurd h (by decide)⟩ | refine ⟨fun _ => ?_, fun h => absurd rfl h⟩ | refine ⟨fun h => absurd rfl h, fun _ => ?_⟩)); try (conv => whnf)
        refine hG _ _ _ _ _ _ ?_
        refine ih (v + 1) (by omega) (by omega) (fun u p1 p2 => ?_)
        by_cases z : u = v
        · subst z; exact q
        · exact hx u p1 (by omega)
      · (repeat ((conv => whnf); first | refine ⟨_, by assumption, ?_⟩ | refine ⟨_, _, by assumption, ?_⟩ | refine ⟨(show _ ∧ _ by omega), ?_⟩ | refine ⟨(show _ ∨ _ by omega), ?_⟩ | refine ⟨fun h => absurd h (by decide), fun _ => ?_⟩ | refine ⟨fun _ => ?_, fun h => absurd h (by decide)⟩ | refine ⟨fun _ => ?_, fun h => absurd rfl h⟩ | refine ⟨fun h => absurd rfl h, fun _ => ?_⟩)); try (conv => whnf)
        exact h1 (plc_mono g1 (by omega) q)
  refine Ok.of (by decide) rfl (Nat.le_of_ble_eq_true rfl) ?_
  refine Go.walk 400 [2] E30 E30_ok (fun G C hG hC => ?_)
  (repeat ((conv => whnf); first | refine ⟨_, by assumption, ?_⟩ | refine ⟨_, _, by assumption, ?_⟩ | refine ⟨(show _ ∧ _ by omega), ?_⟩ | refine ⟨(show _ ∨ _ by omega), ?_⟩ | refine ⟨fun h => absurd h (by decide), fun _ => ?_⟩ | refine ⟨fun _ => ?_, fun h => absurd h (by decide)⟩ | refine ⟨fun _ => ?_, fun h => absurd rfl h⟩ | refine ⟨fun h => absurd rfl h, fun _ => ?_⟩)); try (conv => whnf)
  refine hG _ _ _ _ _ _ ?_
  exact loop (n 0 - 1).toNat 1 (by omega) (by omega) (fun u p1 p2 => by omega)
