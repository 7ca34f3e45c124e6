/-! a net's numbers after a change -/
theorem nf_st {n : aN} {v w z x y : Int} (hw : 0 ≤ w ∧ w < 8) (hy : 0 ≤ y ∧ y < 8) : nf (st n v w z) x y = if x = v ∧ y = w then z else nf n x y := by
  unfold nf st up
  by_cases h : x = v ∧ y = w
  · rw [if_pos h, if_pos (by omega)]
  · rw [if_neg h, if_neg (by omega)]
theorem kf_st {n : aN} {v w z k y : Int} (hv : 0 ≤ v) (hw : 0 ≤ w) (hk : k ≤ 3) (hy : y < 6) : kf (st n v w z) k y = kf n k y := by
  unfold kf st
  exact up_ne (by omega)
theorem st_lo {n : aN} {v w z x : Int} (hv : 0 ≤ v) (hw : 0 ≤ w) (hx : x < 20) : st n v w z x = n x := up_ne (by omega)
theorem kf_sk {n : aN} {k w z x y : Int} (hw : 0 ≤ w ∧ w < 6) (hy : 0 ≤ y ∧ y < 6) : kf (sk n k w z) x y = if x = k ∧ y = w then z else kf n x y := by
  unfold kf sk up
  by_cases h : x = k ∧ y = w
  · rw [if_pos h, if_pos (by omega)]
  · rw [if_neg h, if_neg (by omega)]
theorem nf_sk {n : aN} {k w z v y : Int} (hk : k ≤ 3) (hw : w < 6) (hv : 0 ≤ v) (hy : 0 ≤ y) : nf (sk n k w z) v y = nf n v y := by
  unfold nf sk
  exact up_ne (by omega)
theorem sk_lo {n : aN} {k w z x : Int} (hk : 1 ≤ k) (hw : 0 ≤ w) (hx : x < 2) : sk n k w z x = n x := up_ne (by omega)
/-- the bounds of one number of a node -/
def nB (v w z : Int) : Prop := (w = 0 → 0 ≤ z ∧ (1 ≤ v → z < v)) ∧ (w = 1 → 0 ≤ z ∧ z ≤ 9) ∧ (w = 2 → 0 ≤ z ∧ z ≤ 9) ∧ (w = 3 → 1 ≤ z ∧ z ≤ 2) ∧ (w = 4 → 1 ≤ z ∧ z ≤ 9) ∧ (w = 5 → 0 ≤ z ∧ z ≤ 9999) ∧ (w = 6 → 0 ≤ z ∧ z ≤ 1) ∧ (w = 7 → 0 ≤ z ∧ z ≤ 3)
theorem wf_st {n : aN} (hW : WF n) {v w z : Int} (hv : 1 ≤ v) (hw : 0 ≤ w ∧ w < 8) (hz : nB v w z) (hk : w = 7 → 1 ≤ z → kf n z 0 = 1) : WF (st n v w z) := by
  obtain ⟨h1, h2, h3, h4, h5, h6⟩ := hW
  obtain ⟨z0, z1, z2, z3, z4, z5, z6, z7⟩ := hz
  have e0 : st n v w z 0 = n 0 := st_lo (by omega) (by omega) (by omega)
  have e1 : st n v w z 1 = n 1 := st_lo (by omega) (by omega) (by omega)
  have ek : ∀ k y : Int, k ≤ 3 → y < 6 → kf (st n v w z) k y = kf n k y := fun k y g1 g2 => kf_st (by omega) (by omega) g1 g2
  have en : ∀ x y : Int, 0 ≤ y → y < 8 → nf (st n v w z) x y = if x = v ∧ y = w then z else nf n x y := fun x y g1 g2 => nf_st hw ⟨g1, g2⟩
  refine ⟨by rw [e0, e1]; exact h1, fun x g1 g2 => ?_, fun x g1 g2 => ?_, fun x g1 g2 g3 => ?_, ?_, fun k g1 g2 => ?_⟩
  · have hx := h2 x g1 g2
    rw [en x 0 (by omega) (by omega), en x 1 (by omega) (by omega), en x 2 (by omega) (by omega), en x 3 (by omega) (by omega), en x 4 (by omega) (by omega), en x 5 (by omega) (by omega), en x 6 (by omega) (by omega), en x 7 (by omega) (by omega)]
    refine ⟨?_, ?_, ?_, ?_, ?_, ?_, ?_, ?_⟩ <;> split <;> rename_i hc <;> omega
  · rw [e0] at g2
    have hx := h3 x g1 g2
    rw [en x 3 (by omega) (by omega), en x 4 (by omega) (by omega)]
    refine ⟨?_, ?_⟩ <;> split <;> rename_i hc <;> omega
  · rw [e0] at g2
    rw [en x 7 (by omega) (by omega)] at g3 ⊢
    split at g3
    · rename_i hc
      rw [if_pos hc, ek z 0 (by omega) (by omega)]
      exact hk hc.2.symm g3
    · rename_i hc
      have := (h2 x (by omega) (by omega)).2.2.2.2.2.2.2
      rw [if_neg hc, ek _ 0 (by omega) (by omega)]
      exact h4 x g1 g2 g3
  · rw [en 0 7 (by omega) (by omega), if_neg (by omega)]
    exact h5
  · rw [ek k 0 (by omega) (by omega), ek k 1 (by omega) (by omega), ek k 2 (by omega) (by omega), ek k 3 (by omega) (by omega), ek k 4 (by omega) (by omega), ek k 5 (by omega) (by omega)]
    exact h6 k g1 g2
/-! what the deeds do -/
def nodeF (n : aN) (a r c : Int) : Int × Option aN := if ¬ (0 ≤ a ∧ a < n 0) then (-1000000001, none) else if ¬ ((0 ≤ r ∧ r ≤ 9) ∧ (0 ≤ c ∧ c ≤ 9)) then (-1000000002, none) else if n 0 = 6 then (-1000000004, none) else (n 0, some (growF n a r c))
def endN (n : aN) (v l e w : Int) : aN := st (st (st n v 4 l) v 5 e) v 6 w
def endF (n : aN) (v l e w : Int) : Int × Option aN := if ¬ (0 ≤ v ∧ v < n 0) then (-1000000001, none) else if ¬ ((1 ≤ l ∧ l ≤ 9) ∧ (0 ≤ e ∧ e ≤ 9999) ∧ (0 ≤ w ∧ w ≤ 1)) then (-1000000002, none) else if v = 0 then (-1000000003, none) else (b2i (mEnd (endN n v l e w) v), some (endN n v l e w))
def wireN (n : aN) (v r c w : Int) : aN := st (st (st n v 1 r) v 2 c) v 3 w
def wireF (n : aN) (v r c w : Int) : Int × Option aN := if ¬ (0 ≤ v ∧ v < n 0) then (-1000000001, none) else if ¬ ((0 ≤ r ∧ r ≤ 9) ∧ (0 ≤ c ∧ c ≤ 9) ∧ (1 ≤ w ∧ w ≤ 2)) then (-1000000002, none) else if v = 0 then (-1000000003, none) else (tim (wireN n v r c w) (pl0 (wireN n v r c w)) (wd0 (wireN n v r c w)) 0 (src (wireN n v r c w) (pl0 (wireN n v r c w)) (wd0 (wireN n v r c w))) v, some (wireN n v r c w))
def pullF (n : aN) (p : Int) : Int × Option aN := if ¬ (0 ≤ p ∧ p ≤ 9) then (-1000000002, none) else (n 1, some (up n 1 p))
def kindN (n : aN) (k i p o c t : Int) : aN := sk (sk (sk (sk (sk (sk n k 0 1) k 1 i) k 2 p) k 3 o) k 4 c) k 5 t
def kindF (n : aN) (k i p o c t : Int) : Int × Option aN := if ¬ (1 ≤ k ∧ k ≤ 3) then (-1000000001, none) else if ¬ ((1 ≤ i ∧ i ≤ 9) ∧ (0 ≤ p ∧ p ≤ 9) ∧ (0 ≤ o ∧ o ≤ 99) ∧ (0 ≤ c ∧ c ≤ 99) ∧ (0 ≤ t ∧ t ≤ 1)) then (-1000000002, none) else (kf n k 0, some (kindN n k i p o c t))
def takeF (n : aN) : Int × Option aN := if n 0 = 1 then (-1000000003, none) else (n 0 - 1, some (up n 0 (n 0 - 1)))
/-- the end of a deed, on the reference's side -/
def DeedM (F : Int × Option aN) (h : List aN) (I : aI) (R : aR) (S : aS) (K : aK) : Prop := (F.2 = none → ∀ I', MF [368, 369, 370, 371, 372, 373, 374, 375, 376] [18, 19] I I' → K (some (vi F.1)) I' R S) ∧ ∀ n', F.2 = some n' → ∀ I', MF [362, 363, 368, 369, 370, 371, 372, 373, 374, 375, 376] [3, 18, 19] I I' → I' 362 = n' → HistM I' (pushH h (I 362)) → K (some (vi F.1)) I' R S
theorem DeedM.no {F : Int × Option aN} {h : List aN} {I : aI} {R : aR} {S : aS} {K : aK} {r : Int} (hD : DeedM F h I R S K) (e : F = (r, none)) : K (some (vi r)) I R S := by
  subst e
  exact hD.1 rfl I MF.rf
theorem DeedM.yes {F : Int × Option aN} {h : List aN} {I : aI} {R : aR} {S : aS} {K : aK} {r : Int} {n' : aN} (hD : DeedM F h I R S K) (e : F = (r, some n')) {I1 I2 : aI} (h1 : MF [363] [3] I I1) (hh : HistM I1 (pushH h (I 362))) (h2 : MF [362, 368, 369, 370, 371, 372, 373, 374, 375, 376] [18, 19] I1 I2) (h3 : I2 362 = n') : K (some (vi r)) I2 R S := by
  subst e
  refine hD.2 n' rfl I2 (h1.trans h2 (by simp <;> omega) (by simp <;> omega)) h3 (hh.of (h2.2 3 (by decide)) (h2.1 363 (by decide)))
/-- node(above, r, c) -/
theorem ok_mnode {P : aP} {d : Nat} {K : aK} {I : aI} {R : aR} {S : aS} {a r c : Int} {h : List aN} (hM : MS R S) (hW : WF (I 362)) (hH : HistM I h) (ha : iR a) (hr : iR r) (hc : iR c) (hK : DeedM (nodeF (I 362) a r c) h I R S K) : Ok P 119 (d + 3) [vr 361, vi a, vi r, vi c] I R S K := by
  obtain ⟨m0, r1, m1, r2, m2, r3, m3, r4, m4, r5, m5, r6, m6, r7, m7, r8, m8, r9, m9, r10, m10, r11, m11, r12, m12, r13, m13, r14, m14, r15, m15⟩ := id hM
  have hN := hW.1
  refine Ok.of (by decide) rfl (Nat.le_of_ble_eq_true rfl) ?_
  refine Go.walk 400 [] E119 E119_ok (fun G C hG hC => ?_)
  (repeat ((conv => whnf); first | refine ⟨_, by assumption, ?_⟩ | refine ⟨_, _, by assumption, ?_⟩ | refine ⟨(show _ ∧ _ by omega), ?_⟩ | refine ⟨(show _ ∨ _ by omega), ?_⟩ | refine ⟨fun h => absurd h (by decide), fun _ => ?_⟩ | refine ⟨fun _ => ?_, fun h => absurd h (by decide)⟩ | refine ⟨fun _ => ?_, fun h => absurd rfl h⟩ | refine ⟨fun h => absurd rfl h, fun _ => ?_⟩)); try (conv => whnf)
  refine hC _ _ _ _ _ _ ?_
  refine ok_isNode hM ha hW (fun h1 => ?_) (fun h1 => ?_)
  · (repeat ((conv => whnf); first | refine ⟨_, by assumption, ?_⟩ | refine ⟨_, _, by assumption, ?_⟩ | refine ⟨(show _ ∧ _ by omega), ?_⟩ | refine ⟨(show _ ∨ _ by omega), ?_⟩ | refine ⟨fun h => absurd h (by decide), fun _ => ?_⟩ | refine ⟨fun _ => ?_, fun h => absurd h (by decide)⟩ | refine ⟨fun _ => ?_, fun h => absurd rfl h⟩ | refine ⟨fun h => absurd rfl h, fun _ => ?_⟩)); try (conv => whnf)
    refine hC _ _ _ _ _ _ ?_
    refine ok_in hr (by omega) (by omega) (fun h2 => ?_) (fun h2 => ?_)
    · (repeat ((conv => whnf); first | refine ⟨_, by assumption, ?_⟩ | refine ⟨_, _, by assumption, ?_⟩ | refine ⟨(show _ ∧ _ by omega), ?_⟩ | refine ⟨(show _ ∨ _ by omega), ?_⟩ | refine ⟨fun h => absurd h (by decide), fun _ => ?_⟩ | refine ⟨fun _ => ?_, fun h => absurd h (by decide)⟩ | refine ⟨fun _ => ?_, fun h => absurd rfl h⟩ | refine ⟨fun h => absurd rfl h, fun _ => ?_⟩)); try (conv => whnf)
      refine hC _ _ _ _ _ _ ?_
      refine ok_in hc (by omega) (by omega) (fun h3 => ?_) (fun h3 => ?_)
      · (repeat ((conv => whnf); first | refine ⟨_, by assumption, ?_⟩ | refine ⟨_, _, by assumption, ?_⟩ | refine ⟨(show _ ∧ _ by omega), ?_⟩ | refine ⟨(show _ ∨ _ by omega), ?_⟩ | refine ⟨fun h => absurd h (by decide), fun _ => ?_⟩ | refine ⟨fun _ => ?_, fun h => absurd h (by decide)⟩ | refine ⟨fun _ => ?_, fun h => absurd rfl h⟩ | refine ⟨fun h => absurd rfl h, fun _ => ?_⟩)); try (conv => whnf)
        refine ⟨fun h4 => ?_, fun h4 => ?_⟩
        · (repeat ((conv => whnf); first | refine ⟨_, by assumption, ?_⟩ | refine ⟨_, _, by assumption, ?_⟩ | refine ⟨(show _ ∧ _ by omega), ?_⟩ | refine ⟨(show _ ∨ _ by omega), ?_⟩ | refine ⟨fun h => absurd h (by decide), fun _ => ?_⟩ | refine ⟨fun _ => ?_, fun h => absurd h (by decide)⟩ | refine ⟨fun _ => ?_, fun h => absurd rfl h⟩ | refine ⟨fun h => absurd rfl h, fun _ => ?_⟩)); try (conv => whnf)
          refine hC _ _ _ _ _ _ ?_
          refine ok_deed hM hH (fun I1 hF1 hH1 => ?_)
          have e := hF1.1 362 (by decide)
          (repeat ((conv => whnf); first | refine ⟨_, by assumption, ?_⟩ | refine ⟨_, _, by assumption, ?_⟩ | refine ⟨(show _ ∧ _ by omega), ?_⟩ | refine ⟨(show _ ∨ _ by omega), ?_⟩ | refine ⟨fun h => absurd h (by decide), fun _ => ?_⟩ | refine ⟨fun _ => ?_, fun h => absurd h (by decide)⟩ | refine ⟨fun _ => ?_, fun h => absurd rfl h⟩ | refine ⟨fun h => absurd rfl h, fun _ => ?_⟩)); try (conv => whnf)
          refine hC _ _ _ _ _ _ ?_
          refine ok_comes hM (by rw [e]; omega) (fun I2 hF2 h5 => ?_)
          rw [e] at h5
          rw [e]
          (repeat ((conv => whnf); first | refine ⟨_, by assumption, ?_⟩ | refine ⟨_, _, by assumption, ?_⟩ | refine ⟨(show _ ∧ _ by omega), ?_⟩ | refine ⟨(show _ ∨ _ by omega), ?_⟩ | refine ⟨fun h => absurd h (by decide), fun _ => ?_⟩ | refine ⟨fun _ => ?_, fun h => absurd h (by decide)⟩ | refine ⟨fun _ => ?_, fun h => absurd rfl h⟩ | refine ⟨fun h => absurd rfl h, fun _ => ?_⟩)); try (conv => whnf)
          exact hK.yes (by rw [nodeF, if_neg (by omega), if_neg (by omega), if_neg h4]) hF1 hH1 ((MF.of (J := []) hF2 (by decide)).trans (MF.rf (L := []) (J := [])) (by simp <;> omega) (by simp)) h5
        · (repeat ((conv => whnf); first | refine ⟨_, by assumption, ?_⟩ | refine ⟨_, _, by assumption, ?_⟩ | refine ⟨(show _ ∧ _ by omega), ?_⟩ | refine ⟨(show _ ∨ _ by omega), ?_⟩ | refine ⟨fun h => absurd h (by decide), fun _ => ?_⟩ | refine ⟨fun _ => ?_, fun h => absurd h (by decide)⟩ | refine ⟨fun _ => ?_, fun h => absurd rfl h⟩ | refine ⟨fun h => absurd rfl h, fun _ => ?_⟩)); try (conv => whnf)
          exact hK.no (by rw [nodeF, if_neg (by omega), if_neg (by omega), if_pos h4])
      · (repeat ((conv => whnf); first | refine ⟨_, by assumption, ?_⟩ | refine ⟨_, _, by assumption, ?_⟩ | refine ⟨(show _ ∧ _ by omega), ?_⟩ | refine ⟨(show _ ∨ _ by omega), ?_⟩ | refine ⟨fun h => absurd h (by decide), fun _ => ?_⟩ | refine ⟨fun _ => ?_, fun h => absurd h (by decide)⟩ | refine ⟨fun _ => ?_, fun h => absurd rfl h⟩ | refine ⟨fun h => absurd rfl h, fun _ => ?_⟩)); try (conv => whnf)
        exact hK.no (by rw [nodeF, if_neg (by omega), if_pos (by omega)])
    · (repeat ((conv => whnf); first | refine ⟨_, by assumption, ?_⟩ | refine ⟨_, _, by assumption, ?_⟩ | refine ⟨(show _ ∧ _ by omega), ?_⟩ | refine ⟨(show _ ∨ _ by omega), ?_⟩ | refine ⟨fun h => absurd h (by decide), fun _ => ?_⟩ | refine ⟨fun _ => ?_, fun h => absurd h (by decide)⟩ | refine ⟨fun _ => ?_, fun h => absurd rfl h⟩ | refine ⟨fun h => absurd rfl h, fun _ => ?_⟩)); try (conv => whnf)
      exact hK.no (by rw [nodeF, if_neg (by omega), if_pos (by omega)])
  · (repeat ((conv => whnf); first | refine ⟨_, by assumption, ?_⟩ | refine ⟨_, _, by assumption, ?_⟩ | refine ⟨(show _ ∧ _ by omega), ?_⟩ | refine ⟨(show _ ∨ _ by omega), ?_⟩ | refine ⟨fun h => absurd h (by decide), fun _ => ?_⟩ | refine ⟨fun _ => ?_, fun h => absurd h (by decide)⟩ | refine ⟨fun _ => ?_, fun h => absurd rfl h⟩ | refine ⟨fun h => absurd rfl h, fun _ => ?_⟩)); try (conv => whnf)
    exact hK.no (by rw [nodeF, if_pos (by omega)])
/-- pull(p) -/
theorem ok_mpull {P : aP} {d : Nat} {K : aK} {I : aI} {R : aR} {S : aS} {p : Int} {h : List aN} (hM : MS R S) (hH : HistM I h) (hp : iR p) (hK : DeedM (pullF (I 362) p) h I R S K) : Ok P 122 (d + 2) [vr 361, vi p] I R S K := by
  obtain ⟨m0, r1, m1, r2, m2, r3, m3, r4, m4, r5, m5, r6, m6, r7, m7, r8, m8, r9, m9, r10, m10, r11, m11, r12, m12, r13, m13, r14, m14, r15, m15⟩ := id hM
  refine Ok.of (by decide) rfl (Nat.le_of_ble_eq_true rfl) ?_
  refine Go.walk 400 [] E122 E122_ok (fun G C hG hC => ?_)
  (repeat ((conv => whnf); first | refine ⟨_, by assumption, ?_⟩ | refine ⟨_, _, by assumption, ?_⟩ | refine ⟨(show _ ∧ _ by omega), ?_⟩ | refine ⟨(show _ ∨ _ by omega), ?_⟩ | refine ⟨fun h => absurd h (by decide), fun _ => ?_⟩ | refine ⟨fun _ => ?_, fun h => absurd h (by decide)⟩ | refine ⟨fun _ => ?_, fun h => absurd rfl h⟩ | refine ⟨fun h => absurd rfl h, fun _ => ?_⟩)); try (conv => whnf)
  refine hC _ _ _ _ _ _ ?_
  refine ok_in hp (by omega) (by omega) (fun h1 => ?_) (fun h1 => ?_)
  · (repeat ((conv => whnf); first | refine ⟨_, by assumption, ?_⟩ | refine ⟨_, _, by assumption, ?_⟩ | refine ⟨(show _ ∧ _ by omega), ?_⟩ | refine ⟨(show _ ∨ _ by omega), ?_⟩ | refine ⟨fun h => absurd h (by decide), fun _ => ?_⟩ | refine ⟨fun _ => ?_, fun h => absurd h (by decide)⟩ | refine ⟨fun _ => ?_, fun h => absurd rfl h⟩ | refine ⟨fun h => absurd rfl h, fun _ => ?_⟩)); try (conv => whnf)
    refine hC _ _ _ _ _ _ ?_
    refine ok_deed hM hH (fun I1 hF1 hH1 => ?_)
    have e := hF1.1 362 (by decide)
    (repeat ((conv => whnf); first | refine ⟨_, by assumption, ?_⟩ | refine ⟨_, _, by assumption, ?_⟩ | refine ⟨(show _ ∧ _ by omega), ?_⟩ | refine ⟨(show _ ∨ _ by omega), ?_⟩ | refine ⟨fun h => absurd h (by decide), fun _ => ?_⟩ | refine ⟨fun _ => ?_, fun h => absurd h (by decide)⟩ | refine ⟨fun _ => ?_, fun h => absurd rfl h⟩ | refine ⟨fun h => absurd rfl h, fun _ => ?_⟩)); try (conv => whnf)
    rw [e]
    refine hK.yes (by rw [pullF, if_neg (by omega)]) hF1 hH1 (MF.rf.put (by decide) (by decide)) (by rw [uI_up, e])
  · (repeat ((conv => whnf); first | refine ⟨_, by assumption, ?_⟩ | refine ⟨_, _, by assumption, ?_⟩ | refine ⟨(show _ ∧ _ by omega), ?_⟩ | refine ⟨(show _ ∨ _ by omega), ?_⟩ | refine ⟨fun h => absurd h (by decide), fun _ => ?_⟩ | refine ⟨fun _ => ?_, fun h => absurd h (by decide)⟩ | refine ⟨fun _ => ?_, fun h => absurd rfl h⟩ | refine ⟨fun h => absurd rfl h, fun _ => ?_⟩)); try (conv => whnf)
    exact hK.no (by rw [pullF, if_pos (by omega)])
/-- take() -/
theorem ok_mtake {P : aP} {d : Nat} {K : aK} {I : aI} {R : aR} {S : aS} {h : List aN} (hM : MS R S) (hW : WF (I 362)) (hH : HistM I h) (hK : DeedM (takeF (I 362)) h I R S K) : Ok P 126 (d + 2) [vr 361] I R S K := by
  obtain ⟨m0, r1, m1, r2, m2, r3, m3, r4, m4, r5, m5, r6, m6, r7, m7, r8, m8, r9, m9, r10, m10, r11, m11, r12, m12, r13, m13, r14, m14, r15, m15⟩ := id hM
  have hN := hW.1
  refine Ok.of (by decide) rfl (Nat.le_of_ble_eq_true rfl) ?_
  refine Go.walk 400 [] E126 E126_ok (fun G C hG hC => ?_)
  (repeat ((conv => whnf); first | refine ⟨_, by assumption, ?_⟩ | refine ⟨_, _, by assumption, ?_⟩ | refine ⟨(show _ ∧ _ by omega), ?_⟩ | refine ⟨(show _ ∨ _ by omega), ?_⟩ | refine ⟨fun h => absurd h (by decide), fun _ => ?_⟩ | refine ⟨fun _ => ?_, fun h => absurd h (by decide)⟩ | refine ⟨fun _ => ?_, fun h => absurd rfl h⟩ | refine ⟨fun h => absurd rfl h, fun _ => ?_⟩)); try (conv => whnf)
  refine ⟨fun h4 => ?_, fun h4 => ?_⟩
  · (repeat ((conv => whnf); first | refine ⟨_, by assumption, ?_⟩ | refine ⟨_, _, by assumption, ?_⟩ | refine ⟨(show _ ∧ _ by omega), ?_⟩ | refine ⟨(show _ ∨ _ by omega), ?_⟩ | refine ⟨fun h => absurd h (by decide), fun _ => ?_⟩ | refine ⟨fun _ => ?_, fun h => absurd h (by decide)⟩ | refine ⟨fun _ => ?_, fun h => absurd rfl h⟩ | refine ⟨fun h => absurd rfl h, fun _ => ?_⟩)); try (conv => whnf)
    refine hC _ _ _ _ _ _ ?_
    refine ok_deed hM hH (fun I1 hF1 hH1 => ?_)
    have e := hF1.1 362 (by decide)
    (repeat ((conv => whnf); first | refine ⟨_, by assumption, ?_⟩ | refine ⟨_, _, by assumption, ?_⟩ | refine ⟨(show _ ∧ _ by omega), ?_⟩ | refine ⟨(show _ ∨ _ by omega), ?_⟩ | refine ⟨fun h => absurd h (by decide), fun _ => ?_⟩ | refine ⟨fun _ => ?_, fun h => absurd h (by decide)⟩ | refine ⟨fun _ => ?_, fun h => absurd rfl h⟩ | refine ⟨fun h => absurd rfl h, fun _ => ?_⟩)); try (conv => whnf)
    rw [uI_at, e]
    refine hK.yes (by rw [takeF, if_neg h4]) hF1 hH1 (MF.rf.put (by decide) (by decide)) (by rw [uI_up, e])
  · (repeat ((conv => whnf); first | refine ⟨_, by assumption, ?_⟩ | refine ⟨_, _, by assumption, ?_⟩ | refine ⟨(show _ ∧ _ by omega), ?_⟩ | refine ⟨(show _ ∨ _ by omega), ?_⟩ | refine ⟨fun h => absurd h (by decide), fun _ => ?_⟩ | refine ⟨fun _ => ?_, fun h => absurd h (by decide)⟩ | refine ⟨fun _ => ?_, fun h => absurd rfl h⟩ | refine ⟨fun h => absurd rfl h, fun _ => ?_⟩)); try (conv => whnf)
    exact hK.no (by rw [takeF, if_pos h4])
