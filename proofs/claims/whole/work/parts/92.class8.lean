/-! the class: findChange, change, told -/
theorem ok_costP {P : aP} {d : Nat} {K : aK} {I : aI} {R : aR} {S : aS} {a : Nat} {n : aN} {pl wd : Int → Int} (hS : NetS R S a) (hR : NetP I a n pl wd) (hW : WF n) (hp : PlOk n pl) (hK : K (some (vi (mCost n pl 0))) I R S) : Ok P 31 (d + 1) [vr a] I R S K := by
  obtain ⟨s0, sr1, sm1, sr2, sm2, sr3, sm3, sr4, sm4, sr5, sm5, sr6, sm6, sr7, sm7, sr8, sm8, sr9, sm9, sr10, sm10, sr11, sm11, sr12, sm12, sr13, sm13⟩ := id hS
  have hN := hW.1
  have e0 : I a ((0 : Nat) : Int) = n 0 := hR.1.1
  have loop : ∀ (m : Nat) (v : Int), 1 ≤ v → n 0 - v = m → Go P 31 (d + 1) K 4 [vr a, vi (rf (fun v s => s + (if (bel n v 0 && decide (0 < pl v)) = true then kf n (pl v) 4 else 0)) 0 1 v), vi v] [] I R S := by
    intro m
    induction m with
    | zero =>
      intro v g1 hm
      have hv : v = n 0 := by omega
      refine Go.walk 400 [4] E31 E31_ok (fun G C hG hC => ?_)
      (repeat ((conv => whnf); first | refine ⟨_, by assumption, ?_⟩ | refine ⟨_, _, by assumption, ?_⟩ | refine ⟨(show _ ∧ _ by omega), ?_⟩ | refine ⟨(show _ ∨ _ by omega), ?_⟩ | refine ⟨fun h => absurd h (by decide), fun _ => ?_⟩ | refine ⟨fun _ => ?_, fun h => absurd h (by decide)⟩ | refine ⟨fun _ => ?_, fun h => absurd rfl h⟩ | refine ⟨fun h => absurd rfl h, fun _ => ?_⟩)); try (conv => whnf)
      rw [e0]
      refine ⟨fun _ => ?_, fun q => absurd (show n 0 ≤ v by omega) q⟩
      (repeat ((conv => whnf); first | refine ⟨_, by assumption, ?_⟩ | refine ⟨_, _, by assumption, ?_⟩ | refine ⟨(show _ ∧ _ by omega), ?_⟩ | refine ⟨(show _ ∨ _ by omega), ?_⟩ | refine ⟨fun h => absurd h (by decide), fun _ => ?_⟩ | refine ⟨fun _ => ?_, fun h => absurd h (by decide)⟩ | refine ⟨fun _ => ?_, fun h => absurd rfl h⟩ | refine ⟨fun h => absurd rfl h, fun _ => ?_⟩)); try (conv => whnf)
      rw [hv]
      exact hK
    | succ m ih =>
      intro v g1 hm
      have e7 := hR.2.2.1 v (by omega) (by omega)
      have b7 := hp.1 v (by omega) (by omega)
      have ih2 := ih (v + 1) (by omega) (by omega)
      rw [rf_succ g1] at ih2
      have hc : I (a + 12) (pl v) = (if (bel n v 0 && decide (0 < pl v)) = true then kf n (pl v) 4 else 0) := by
        rw [bel0 hW (by omega) (by omega), Bool.true_and]
        by_cases q : 0 < pl v
        · rw [if_pos (decide_eq_true q), (hR.2.2.2.2.1 (pl v) (by omega) (by omega)).2.2.2.1]
        · rw [if_neg (fun z => q (of_decide_eq_true z))]
          have z : pl v = 0 := by omega
          rw [z]
          exact hR.2.2.2.2.2.2.2.2.1
      rw [← hc] at ih2
      generalize rf (fun v s => s + (if (bel n v 0 && decide (0 < pl v)) = true then kf n (pl v) 4 else 0)) 0 1 v = x at ih2 ⊢
      refine Go.walk 400 [4] E31 E31_ok (fun G C hG hC => ?_)
      (repeat ((conv => whnf); first | refine ⟨_, by assumption, ?_⟩ | refine ⟨_, _, by assumption, ?_⟩ | refine ⟨(show _ ∧ _ by omega), ?_⟩ | refine ⟨(show _ ∨ _ by omega), ?_⟩ | refine ⟨fun h => absurd h (by decide), fun _ => ?_⟩ | refine ⟨fun _ => ?_, fun h => absurd h (by decide)⟩ | refine ⟨fun _ => ?_, fun h => absurd rfl h⟩ | refine ⟨fun h => absurd rfl h, fun _ => ?_⟩)); try (conv => whnf)
      rw [e0]
      refine ⟨fun q => absurd q (by omega), fun _ => ?_⟩
      (repeat ((conv => whnf); first | refine ⟨_, by assumption, ?_⟩ | refine ⟨_, _, by assumption, ?_⟩ | refine ⟨(show _ ∧ _ by omega), ?_⟩ | refine ⟨(show _ ∨ _ by omega), ?_⟩ | refine ⟨fun h => absurd h (by decide), fun _ => ?_⟩ | refine ⟨fun _ => ?_, fun h => absurd h (by decide)⟩ | refine ⟨fun _ => ?_, fun h => absurd rfl h⟩ | refine ⟨fun h => absurd rfl h, fun _ => ?_⟩)); try (conv => whnf)
      rw [e7]
      refine hG _ _ _ _ _ _ ?_
      exact ih2
  refine Ok.of (by decide) rfl (Nat.le_of_ble_eq_true rfl) ?_
  refine Go.walk 400 [4] E31 E31_ok (fun G C hG hC => ?_)
  (repeat ((conv => whnf); first | refine ⟨_, by assumption, ?_⟩ | refine ⟨_, _, by assumption, ?_⟩ | refine ⟨(show _ ∧ _ by omega), ?_⟩ | refine ⟨(show _ ∨ _ by omega), ?_⟩ | refine ⟨fun h => absurd h (by decide), fun _ => ?_⟩ | refine ⟨fun _ => ?_, fun h => absurd h (by decide)⟩ | refine ⟨fun _ => ?_, fun h => absurd rfl h⟩ | refine ⟨fun h => absurd rfl h, fun _ => ?_⟩)); try (conv => whnf)
  refine hG _ _ _ _ _ _ ?_
  have := loop (n 0 - 1).toNat 1 (by omega) (by omega)
  rw [rf_nil (Int.le_refl 1)] at this
  exact this
theorem chOne_B {n : aN} (hW : WF n) {v k : Int} {x : aCh} (h1 : 1 ≤ v) (h2 : v < n 0) (k0 : 0 ≤ k) (k3 : k ≤ 3) (hx : chB x) : chB (chOne n v k x) := by
  have hN := hW.1
  unfold chOne
  split
  · rename_i hc
    have hk := (chOk_iff.mp hc.1).2.1
    have hp := setP_ok hW (v := v) (by omega) hk
    have hs := sla_bd hW hp (wd0_ok hW)
    have hm := mCost_bd hW hp (top := 0)
    exact ⟨by show -1 ≤ 10 * v + k ∧ 10 * v + k ≤ 53; omega, hs, hm⟩
  · exact hx
theorem chRow_B {n : aN} (hW : WF n) {v : Int} {x : aCh} (h1 : 1 ≤ v) (h2 : v < n 0) (hx : chB x) : ∀ hi, 0 ≤ hi → hi ≤ 4 → chB (rf (fun k y => chOne n v k y) x 0 hi) := fun hi h0 h4 => rf_inv (fun _ y => chB y) hx hi.toNat hi (by omega) (fun k y a b hy => chOne_B hW h1 h2 a (by omega) hy)
section Qf
variable {n : aN} {h : List aN} {B : List (Int × Int)} {sd : Int} {im : Int → Option (aN × Int)}
/-- findChange() -/
theorem ok_cfind {P : aP} {d : Nat} {K : aK} {I : aI} {R : aR} {S : aS} (hC0 : CSt n h B sd im I R S) (hW : WF n) (hK : ∀ I', XF I R S I' R S → CSt n h B sd im I' R S → K (some (vi (mChange n))) I' R S) : Ok P 76 (d + 4) [vr 0] I R S K := by
  have hN := hW.1
  obtain ⟨c1, c2, c3, c4, c5, c6, c7, c8, c9⟩ := id hC0
  obtain ⟨⟨a0, a1, a2, a3, -⟩, -, -, -, e3, e4, -⟩ := id c1
  have hN1 := e3 1 (Or.inl rfl)
  have hN2 := e3 15 (Or.inr (Or.inl rfl))
  obtain ⟨s0, sr1, sm1, sr2, sm2, sr3, sm3, sr4, sm4, sr5, sm5, sr6, sm6, sr7, sm7, sr8, sm8, sr9, sm9, sr10, sm10, sr11, sm11, sr12, sm12, sr13, sm13⟩ := id hN2
  obtain ⟨n0, nr1, nm1, nr2, nm2, nr3, nm3, nr4, nm4, nr5, nm5, nr6, nm6, nr7, nm7, nr8, nm8, -⟩ := id hN1
  obtain ⟨t0, x1, t1, x2, t2, x3, t3, x4, t4⟩ := id e4
  have e0 : ∀ I' : aI, (∀ a, ¬ (15 ≤ a ∧ a ≤ 33) → I' a = I a) → NetR I' 1 n := fun I' hI => c4.cg (fun x g1 g2 => hI x (by omega))
  have hwr : iR (wro n (pl0 n)) := iR_mWrong
  have inner : ∀ (v : Int), 1 ≤ v → v < n 0 → ∀ (x : aCh), chB x → (∀ (I' : aI) (z6 z7 z8 : aV), (∀ a, ¬ (15 ≤ a ∧ a ≤ 33) → I' a = I a) → (∃ y, NetP I' 15 n (setP (pl0 n) v y) (wd0 n)) → Go P 76 (d + 4) K 207 [vr 0, vi (wro n (pl0 n)), vi (rf (fun k y => chOne n v k y) x 0 4).1, vi (rf (fun k y => chOne n v k y) x 0 4).2.1, vi (rf (fun k y => chOne n v k y) x 0 4).2.2, vi v, z6, z7, z8] [] I' R S) →
      ∀ (m : Nat) (k : Int) (I' : aI) (z7 z8 : aV), 0 ≤ k → 4 - k = m → (∀ a, ¬ (15 ≤ a ∧ a ≤ 33) → I' a = I a) → (∃ y, NetP I' 15 n (setP (pl0 n) v y) (wd0 n)) → Go P 76 (d + 4) K 51 [vr 0, vi (wro n (pl0 n)), vi (rf (fun k y => chOne n v k y) x 0 k).1, vi (rf (fun k y => chOne n v k y) x 0 k).2.1, vi (rf (fun k y => chOne n v k y) x 0 k).2.2, vi v, vi k, z7, z8] [] I' R S := by
    intro v hv1 hv2 x hx hnext m
    induction m with
    | zero =>
      intro k I' z7 z8 g0 gm hI hP
      have hk : k = 4 := by omega
      subst hk
      refine Go.walk 400 [51, 207] E76 E76_ok (fun G C hG hC => ?_)
      (repeat ((conv => whnf); first | refine ⟨_, by assumption, ?_⟩ | refine ⟨_, _, by assumption, ?_⟩ | refine ⟨(show _ ∧ _ by omega), ?_⟩ | refine ⟨(show _ ∨ _ by omega), ?_⟩ | refine ⟨fun h => absurd h (by decide), fun _ => ?_⟩ | refine ⟨fun _ => ?_, fun h => absurd h (by decide)⟩ | refine ⟨fun _ => ?_, fun h => absurd rfl h⟩ | refine ⟨fun h => absurd rfl h, fun _ => ?_⟩)); try (conv => whnf)
      refine hG _ _ _ _ _ _ ?_
      exact hnext I' _ _ _ hI hP
    | succ m ih =>
      intro k I' z7 z8 g0 gm hI hP
      have ih2 := ih (k + 1)
      rw [rf_succ g0] at ih2
      obtain ⟨bx1, bx2, bx3⟩ := chRow_B hW hv1 hv2 hx k g0 (by omega)
      generalize rf (fun k y => chOne n v k y) x 0 k = X at ih2 bx1 bx2 bx3
      have hR' := e0 I' hI
      have e7 : I' 9 v = nf n v 7 := (hR'.2.1 v (by omega) (by omega)).2.2.2.2.2.2.2
      have b7 := (hW.2.1 v (by omega) (by omega)).2.2.2.2.2.2.2
      have skip : chOne n v k X = X → ∀ (I2 : aI) (z7 z8 : aV), (∀ a, ¬ (15 ≤ a ∧ a ≤ 33) → I2 a = I a) → (∃ y, NetP I2 15 n (setP (pl0 n) v y) (wd0 n)) → Go P 76 (d + 4) K 201 [vr 0, vi (wro n (pl0 n)), vi X.1, vi X.2.1, vi X.2.2, vi v, vi k, z7, z8] [] I2 R S := by
        intro hX I2 z7 z8 hI2 hP2
        rw [hX] at ih2
        refine Go.walk 400 [51] E76 E76_ok (fun G C hG hC => ?_)
        (repeat ((conv => whnf); first | refine ⟨_, by assumption, ?_⟩ | refine ⟨_, _, by assumption, ?_⟩ | refine ⟨(show _ ∧ _ by omega), ?_⟩ | refine ⟨(show _ ∨ _ by omega), ?_⟩ | refine ⟨fun h => absurd h (by decide), fun _ => ?_⟩ | refine ⟨fun _ => ?_, fun h => absurd h (by decide)⟩ | refine ⟨fun _ => ?_, fun h => absurd rfl h⟩ | refine ⟨fun h => absurd rfl h, fun _ => ?_⟩)); try (conv => whnf)
        refine hG _ _ _ _ _ _ ?_
        exact ih2 I2 z7 z8 (by omega) (by omega) hI2 hP2
      refine Go.walk 400 [51, 201, 159] E76 E76_ok (fun G C hG hC => ?_)
      (repeat ((conv => whnf); first | refine ⟨_, by assumption, ?_⟩ | refine ⟨_, _, by assumption, ?_⟩ | refine ⟨(show _ ∧ _ by omega), ?_⟩ | refine ⟨(show _ ∨ _ by omega), ?_⟩ | refine ⟨fun h => absurd h (by decide), fun _ => ?_⟩ | refine ⟨fun _ => ?_, fun h => absurd h (by decide)⟩ | refine ⟨fun _ => ?_, fun h => absurd rfl h⟩ | refine ⟨fun h => absurd rfl h, fun _ => ?_⟩)); try (conv => whnf)
      refine ⟨fun q => absurd q (by omega), fun _ => ?_⟩
      (repeat ((conv => whnf); first | refine ⟨_, by assumption, ?_⟩ | refine ⟨_, _, by assumption, ?_⟩ | refine ⟨(show _ ∧ _ by omega), ?_⟩ | refine ⟨(show _ ∨ _ by omega), ?_⟩ | refine ⟨fun h => absurd h (by decide), fun _ => ?_⟩ | refine ⟨fun _ => ?_, fun h => absurd h (by decide)⟩ | refine ⟨fun _ => ?_, fun h => absurd rfl h⟩ | refine ⟨fun h => absurd rfl h, fun _ => ?_⟩)); try (conv => whnf)
      rw [e7]
      refine ⟨by omega, fun q => ?_, fun q => ?_⟩
      · refine hG _ _ _ _ _ _ ?_
        refine skip ?_ I' z7 z8 hI hP
        unfold chOne
        rw [if_neg (fun z => (chOk_iff.mp z.1).1 q)]
      · (repeat ((conv => whnf); first | refine ⟨_, by assumption, ?_⟩ | refine ⟨_, _, by assumption, ?_⟩ | refine ⟨(show _ ∧ _ by omega), ?_⟩ | refine ⟨(show _ ∨ _ by omega), ?_⟩ | refine ⟨fun h => absurd h (by decide), fun _ => ?_⟩ | refine ⟨fun _ => ?_, fun h => absurd h (by decide)⟩ | refine ⟨fun _ => ?_, fun h => absurd rfl h⟩ | refine ⟨fun h => absurd rfl h, fun _ => ?_⟩)); try (conv => whnf)
        refine hC _ _ _ _ _ _ ?_
        refine ok_canBePlaced hN1 hR' (by omega) (fun q1 => ?_) (fun q1 => ?_)
        · have q1' : k = 0 ∨ isKb n k = true := by rw [isKb_iff]; exact q1
          have hp := setP_ok hW (v := v) (by omega) q1'
          obtain ⟨y, hP1⟩ := hP
          have hP2 : NetP (uI I' 23 v k) 15 n (setP (pl0 n) v k) (wd0 n) := (hP1.pl (v := v) (k := k)).plc (fun u _ _ => by
            unfold setP
            by_cases z : u = v
            · rw [if_pos z, if_pos z]
            · rw [if_neg z, if_neg z, if_neg z])
          have hsb := sla_bd hW hp (wd0_ok hW)
          have hmb := mCost_bd hW hp (top := 0)
          (repeat ((conv => whnf); first | refine ⟨_, by assumption, ?_⟩ | refine ⟨_, _, by assumption, ?_⟩ | refine ⟨(show _ ∧ _ by omega), ?_⟩ | refine ⟨(show _ ∨ _ by omega), ?_⟩ | refine ⟨fun h => absurd h (by decide), fun _ => ?_⟩ | refine ⟨fun _ => ?_, fun h => absurd h (by decide)⟩ | refine ⟨fun _ => ?_, fun h => absurd rfl h⟩ | refine ⟨fun h => absurd rfl h, fun _ => ?_⟩)); try (conv => whnf)
          refine hC _ _ _ _ _ _ ?_
          refine ok_timing e4 hN2 hP2 hW hp (wd0_ok hW) (by omega) (fun I3 hF3 hT3 => ?_)
          have hP3 := hP2.cg (fun x g1 g2 => hF3 x (by simp; omega))
          have hI3 : ∀ a, ¬ (15 ≤ a ∧ a ≤ 33) → I3 a = I a := fun a ha => by
            rw [hF3 a (by simp; omega), ← hI a ha]
            funext y
            exact uI_ne (by omega)
          have es : I3 29 ((4 : Nat) : Int) = sla n (setP (pl0 n) v k) (wd0 n) := hT3.2.1
          have ew : I3 29 ((6 : Nat) : Int) = wro n (setP (pl0 n) v k) := hT3.2.2.2
          (repeat ((conv => whnf); first | refine ⟨_, by assumption, ?_⟩ | refine ⟨_, _, by assumption, ?_⟩ | refine ⟨(show _ ∧ _ by omega), ?_⟩ | refine ⟨(show _ ∨ _ by omega), ?_⟩ | refine ⟨fun h => absurd h (by decide), fun _ => ?_⟩ | refine ⟨fun _ => ?_, fun h => absurd h (by decide)⟩ | refine ⟨fun _ => ?_, fun h => absurd rfl h⟩ | refine ⟨fun h => absurd rfl h, fun _ => ?_⟩)); try (conv => whnf)
          refine hC _ _ _ _ _ _ ?_
          refine ok_costP hN2 hP3 hW hp ?_
          have after : ∀ (b : Int) (z8 : aV), ((X.1 = -1 ∨ X.2.1 < sla n (setP (pl0 n) v k) (wd0 n) ∨ (sla n (setP (pl0 n) v k) (wd0 n) = X.2.1 ∧ mCost n (setP (pl0 n) v k) 0 < X.2.2)) ∧ b = 1) ∨ (¬ (X.1 = -1 ∨ X.2.1 < sla n (setP (pl0 n) v k) (wd0 n) ∨ (sla n (setP (pl0 n) v k) (wd0 n) = X.2.1 ∧ mCost n (setP (pl0 n) v k) 0 < X.2.2)) ∧ b = 0) → Go P 76 (d + 4) K 159 [vr 0, vi (wro n (pl0 n)), vi X.1, vi X.2.1, vi X.2.2, vi v, vi k, vi (mCost n (setP (pl0 n) v k) 0), z8] [vi b] I3 R S := by
            intro b z8 hb
            have hxb := iR_and (x := wro n (setP (pl0 n) v k)) (y := bXor (wro n (pl0 n)) (-1))
            refine Go.walk 400 [51, 201] E76 E76_ok (fun G C hG hC => ?_)
            (repeat ((conv => whnf); first | refine ⟨_, by assumption, ?_⟩ | refine ⟨_, _, by assumption, ?_⟩ | refine ⟨(show _ ∧ _ by omega), ?_⟩ | refine ⟨(show _ ∨ _ by omega), ?_⟩ | refine ⟨fun h => absurd h (by decide), fun _ => ?_⟩ | refine ⟨fun _ => ?_, fun h => absurd h (by decide)⟩ | refine ⟨fun _ => ?_, fun h => absurd rfl h⟩ | refine ⟨fun h => absurd rfl h, fun _ => ?_⟩)); try (conv => whnf)
            rw [ew]
            refine ⟨by omega, fun q2 => ?_, fun q2 => ?_⟩
            · refine hG _ _ _ _ _ _ ?_
              refine skip ?_ I3 _ _ hI3 ⟨k, hP3⟩
              unfold chOne
              rw [if_neg (fun z => q2 (chOk_iff.mp z.1).2.2)]
            · rcases hb with ⟨hb1, rfl⟩ | ⟨hb1, rfl⟩
              · have eX : chOne n v k X = (10 * v + k, sla n (setP (pl0 n) v k) (wd0 n), mCost n (setP (pl0 n) v k) 0) := by
                  unfold chOne
                  rw [if_pos ⟨chOk_iff.mpr ⟨q, q1', q2⟩, hb1⟩]
                rw [eX] at ih2
                (repeat ((conv => whnf); first | refine ⟨_, by assumption, ?_⟩ | refine ⟨_, _, by assumption, ?_⟩ | refine ⟨(show _ ∧ _ by omega), ?_⟩ | refine ⟨(show _ ∨ _ by omega), ?_⟩ | refine ⟨fun h => absurd h (by decide), fun _ => ?_⟩ | refine ⟨fun _ => ?_, fun h => absurd h (by decide)⟩ | refine ⟨fun _ => ?_, fun h => absurd rfl h⟩ | refine ⟨fun h => absurd rfl h, fun _ => ?_⟩)); try (conv => whnf)
                rw [es]
                refine hG _ _ _ _ _ _ ?_
                refine Go.walk 400 [51] E76 E76_ok (fun G C hG hC => ?_)
                (repeat ((conv => whnf); first | refine ⟨_, by assumption, ?_⟩ | refine ⟨_, _, by assumption, ?_⟩ | refine ⟨(show _ ∧ _ by omega), ?_⟩ | refine ⟨(show _ ∨ _ by omega), ?_⟩ | refine ⟨fun h => absurd h (by decide), fun _ => ?_⟩ | refine ⟨fun _ => ?_, fun h => absurd h (by decide)⟩ | refine ⟨fun _ => ?_, fun h => absurd rfl h⟩ | refine ⟨fun h => absurd rfl h, fun _ => ?_⟩)); try (conv => whnf)
                refine hG _ _ _ _ _ _ ?_
                exact ih2 I3 _ _ (by omega) (by omega) hI3 ⟨k, hP3⟩
              · (repeat ((conv => whnf); first | refine ⟨_, by assumption, ?_⟩ | refine ⟨_, _, by assumption, ?_⟩ | refine ⟨(show _ ∧ _ by omega), ?_⟩ | refine ⟨(show _ ∨ _ by omega), ?_⟩ | refine ⟨fun h => absurd h (by decide), fun _ => ?_⟩ | refine ⟨fun _ => ?_, fun h => absurd h (by decide)⟩ | refine ⟨fun _ => ?_, fun h => absurd rfl h⟩ | refine ⟨fun h => absurd rfl h, fun _ => ?_⟩)); try (conv => whnf)
                refine hG _ _ _ _ _ _ ?_
                refine skip ?_ I3 _ _ hI3 ⟨k, hP3⟩
                unfold chOne
                rw [if_neg (fun z => hb1 z.2)]
          (repeat ((conv => whnf); first | refine ⟨_, by assumption, ?_⟩ | refine ⟨_, _, by assumption, ?_⟩ | refine ⟨(show _ ∧ _ by omega), ?_⟩ | refine ⟨(show _ ∨ _ by omega), ?_⟩ | refine ⟨fun h => absurd h (by decide), fun _ => ?_⟩ | refine ⟨fun _ => ?_, fun h => absurd h (by decide)⟩ | refine ⟨fun _ => ?_, fun h => absurd rfl h⟩ | refine ⟨fun h => absurd rfl h, fun _ => ?_⟩)); try (conv => whnf)
          refine ⟨fun r1 => ?_, fun r1 => ?_⟩
          · (repeat ((conv => whnf); first | refine ⟨_, by assumption, ?_⟩ | refine ⟨_, _, by assumption, ?_⟩ | refine ⟨(show _ ∧ _ by omega), ?_⟩ | refine ⟨(show _ ∨ _ by omega), ?_⟩ | refine ⟨fun h => absurd h (by decide), fun _ => ?_⟩ | refine ⟨fun _ => ?_, fun h => absurd h (by decide)⟩ | refine ⟨fun _ => ?_, fun h => absurd rfl h⟩ | refine ⟨fun h => absurd rfl h, fun _ => ?_⟩)); try (conv => whnf)
            refine hG _ _ _ _ _ _ ?_
            exact after 1 _ (Or.inl ⟨Or.inl r1, rfl⟩)
          · (repeat ((conv => whnf); first | refine ⟨_, by assumption, ?_⟩ | refine ⟨_, _, by assumption, ?_⟩ | refine ⟨(show _ ∧ _ by omega), ?_⟩ | refine ⟨(show _ ∨ _ by omega), ?_⟩ | refine ⟨fun h => absurd h (by decide), fun _ => ?_⟩ | refine ⟨fun _ => ?_, fun h => absurd h (by decide)⟩ | refine ⟨fun _ => ?_, fun h => absurd rfl h⟩ | refine ⟨fun h => absurd rfl h, fun _ => ?_⟩)); try (conv => whnf)
            rw [es]
            refine ⟨fun r2 => ?_, fun r2 => ?_⟩
            · (repeat ((conv => whnf); first | refine ⟨_, by assumption, ?_⟩ | refine ⟨_, _, by assumption, ?_⟩ | refine ⟨(show _ ∧ _ by omega), ?_⟩ | refine ⟨(show _ ∨ _ by omega), ?_⟩ | refine ⟨fun h => absurd h (by decide), fun _ => ?_⟩ | refine ⟨fun _ => ?_, fun h => absurd h (by decide)⟩ | refine ⟨fun _ => ?_, fun h => absurd rfl h⟩ | refine ⟨fun h => absurd rfl h, fun _ => ?_⟩)); try (conv => whnf)
              refine hG _ _ _ _ _ _ ?_
              exact after 1 _ (Or.inl ⟨Or.inr (Or.inl r2), rfl⟩)
            · (repeat ((conv => whnf); first | refine ⟨_, by assumption, ?_⟩ | refine ⟨_, _, by assumption, ?_⟩ | refine ⟨(show _ ∧ _ by omega), ?_⟩ | refine ⟨(show _ ∨ _ by omega), ?_⟩ | refine ⟨fun h => absurd h (by decide), fun _ => ?_⟩ | refine ⟨fun _ => ?_, fun h => absurd h (by decide)⟩ | refine ⟨fun _ => ?_, fun h => absurd rfl h⟩ | refine ⟨fun h => absurd rfl h, fun _ => ?_⟩)); try (conv => whnf)
              rw [es]
              refine ⟨fun r3 => ?_, fun r3 => ?_⟩
              · (repeat ((conv => whnf); first | refine ⟨_, by assumption, ?_⟩ | refine ⟨_, _, by assumption, ?_⟩ | refine ⟨(show _ ∧ _ by omega), ?_⟩ | refine ⟨(show _ ∨ _ by omega), ?_⟩ | refine ⟨fun h => absurd h (by decide), fun _ => ?_⟩ | refine ⟨fun _ => ?_, fun h => absurd h (by decide)⟩ | refine ⟨fun _ => ?_, fun h => absurd rfl h⟩ | refine ⟨fun h => absurd rfl h, fun _ => ?_⟩)); try (conv => whnf)
                refine hG _ _ _ _ _ _ ?_
                exact after 0 _ (Or.inr ⟨by omega, rfl⟩)
              · (repeat ((conv => whnf); first | refine ⟨_, by assumption, ?_⟩ | refine ⟨_, _, by assumption, ?_⟩ | refine ⟨(show _ ∧ _ by omega), ?_⟩ | refine ⟨(show _ ∨ _ by omega), ?_⟩ | refine ⟨fun h => absurd h (by decide), fun _ => ?_⟩ | refine ⟨fun _ => ?_, fun h => absurd h (by decide)⟩ | refine ⟨fun _ => ?_, fun h => absurd rfl h⟩ | refine ⟨fun h => absurd rfl h, fun _ => ?_⟩)); try (conv => whnf)
                refine ⟨fun r4 => ?_, fun r4 => ?_⟩
                · (repeat ((conv => whnf); first | refine ⟨_, by assumption, ?_⟩ | refine ⟨_, _, by assumption, ?_⟩ | refine ⟨(show _ ∧ _ by omega), ?_⟩ | refine ⟨(show _ ∨ _ by omega), ?_⟩ | refine ⟨fun h => absurd h (by decide), fun _ => ?_⟩ | refine ⟨fun _ => ?_, fun h => absurd h (by decide)⟩ | refine ⟨fun _ => ?_, fun h => absurd rfl h⟩ | refine ⟨fun h => absurd rfl h, fun _ => ?_⟩)); try (conv => whnf)
                  refine hG _ _ _ _ _ _ ?_
                  exact after 0 _ (Or.inr ⟨by omega, rfl⟩)
                · (repeat ((conv => whnf); first | refine ⟨_, by assumption, ?_⟩ | refine ⟨_, _, by assumption, ?_⟩ | refine ⟨(show _ ∧ _ by omega), ?_⟩ | refine ⟨(show _ ∨ _ by omega), ?_⟩ | refine ⟨fun h => absurd h (by decide), fun _ => ?_⟩ | refine ⟨fun _ => ?_, fun h => absurd h (by decide)⟩ | refine ⟨fun _ => ?_, fun h => absurd rfl h⟩ | refine ⟨fun h => absurd rfl h, fun _ => ?_⟩)); try (conv => whnf)
                  refine hG _ _ _ _ _ _ ?_
                  exact after 1 _ (Or.inl ⟨Or.inr (Or.inr ⟨r3, by omega⟩), rfl⟩)
        · have q1' : ¬ (k = 0 ∨ isKb n k = true) := by rw [isKb_iff]; exact q1
          (repeat ((conv => whnf); first | refine ⟨_, by assumption, ?_⟩ | refine ⟨_, _, by assumption, ?_⟩ | refine ⟨(show _ ∧ _ by omega), ?_⟩ | refine ⟨(show _ ∨ _ by omega), ?_⟩ | refine ⟨fun h => absurd h (by decide), fun _ => ?_⟩ | refine ⟨fun _ => ?_, fun h => absurd h (by decide)⟩ | refine ⟨fun _ => ?_, fun h => absurd rfl h⟩ | refine ⟨fun h => absurd rfl h, fun _ => ?_⟩)); try (conv => whnf)
          refine hG _ _ _ _ _ _ ?_
          refine skip ?_ I' z7 z8 hI hP
          unfold chOne
          rw [if_neg (fun z => q1' (chOk_iff.mp z.1).2.1)]
  have outer : ∀ (m : Nat) (v : Int) (I' : aI) (z6 z7 z8 : aV), 1 ≤ v → n 0 - v = m → (∀ a, ¬ (15 ≤ a ∧ a ≤ 33) → I' a = I a) → NetP I' 15 n (pl0 n) (wd0 n) → chB (rf (fun v x => rf (fun k y => chOne n v k y) x 0 4) (-1, 0, 0) 1 v) → Go P 76 (d + 4) K 36 [vr 0, vi (wro n (pl0 n)), vi (rf (fun v x => rf (fun k y => chOne n v k y) x 0 4) (-1, 0, 0) 1 v).1, vi (rf (fun v x => rf (fun k y => chOne n v k y) x 0 4) (-1, 0, 0) 1 v).2.1, vi (rf (fun v x => rf (fun k y => chOne n v k y) x 0 4) (-1, 0, 0) 1 v).2.2, vi v, z6, z7, z8] [] I' R S := by
    intro m
    induction m with
    | zero =>
      intro v I' z6 z7 z8 g0 gm hI hP hB
      have hv : v = n 0 := by omega
      subst hv
      have e0' : I' 1 ((0 : Nat) : Int) = n 0 := (e0 I' hI).1.1
      refine Go.walk 400 [36] E76 E76_ok (fun G C hG hC => ?_)
      (repeat ((conv => whnf); first | refine ⟨_, by assumption, ?_⟩ | refine ⟨_, _, by assumption, ?_⟩ | refine ⟨(show _ ∧ _ by omega), ?_⟩ | refine ⟨(show _ ∨ _ by omega), ?_⟩ | refine ⟨fun h => absurd h (by decide), fun _ => ?_⟩ | refine ⟨fun _ => ?_, fun h => absurd h (by decide)⟩ | refine ⟨fun _ => ?_, fun h => absurd rfl h⟩ | refine ⟨fun h => absurd rfl h, fun _ => ?_⟩)); try (conv => whnf)
      rw [e0']
      refine ⟨fun _ => ?_, fun q => absurd (Int.le_refl _) q⟩
      (repeat ((conv => whnf); first | refine ⟨_, by assumption, ?_⟩ | refine ⟨_, _, by assumption, ?_⟩ | refine ⟨(show _ ∧ _ by omega), ?_⟩ | refine ⟨(show _ ∨ _ by omega), ?_⟩ | refine ⟨fun h => absurd h (by decide), fun _ => ?_⟩ | refine ⟨fun _ => ?_, fun h => absurd h (by decide)⟩ | refine ⟨fun _ => ?_, fun h => absurd rfl h⟩ | refine ⟨fun h => absurd rfl h, fun _ => ?_⟩)); try (conv => whnf)
      exact hK I' (XF.of (fun a p q => hI a (by omega))) (hC0.q hN.2.1 hI)
    | succ m ih =>
      intro v I' z6 z7 z8 g0 gm hI hP hB
      have e0' : I' 1 ((0 : Nat) : Int) = n 0 := (e0 I' hI).1.1
      have ih2 := ih (v + 1)
      rw [rf_succ g0] at ih2
      generalize rf (fun v x => rf (fun k y => chOne n v k y) x 0 4) (-1, 0, 0) 1 v = X at ih2 hB
      have nx : ∀ (I2 : aI) (z6 z7 z8 : aV), (∀ a, ¬ (15 ≤ a ∧ a ≤ 33) → I2 a = I a) → (∃ y, NetP I2 15 n (setP (pl0 n) v y) (wd0 n)) → Go P 76 (d + 4) K 207 [vr 0, vi (wro n (pl0 n)), vi (rf (fun k y => chOne n v k y) X 0 4).1, vi (rf (fun k y => chOne n v k y) X 0 4).2.1, vi (rf (fun k y => chOne n v k y) X 0 4).2.2, vi v, z6, z7, z8] [] I2 R S := by
        intro I2 z6 z7 z8 hI2 hP2
        obtain ⟨y, hP2⟩ := hP2
        have e7 : I2 9 v = nf n v 7 := ((e0 I2 hI2).2.1 v (by omega) (by omega)).2.2.2.2.2.2.2
        have hP3 : NetP (uI I2 23 v (nf n v 7)) 15 n (pl0 n) (wd0 n) := (hP2.pl (v := v) (k := nf n v 7)).plc (fun u _ _ => by
          unfold setP
          by_cases z : u = v
          · rw [if_pos z, z]; rfl
          · rw [if_neg z, if_neg z])
        refine Go.walk 400 [36] E76 E76_ok (fun G C hG hC => ?_)
        (repeat ((conv => whnf); first | refine ⟨_, by assumption, ?_⟩ | refine ⟨_, _, by assumption, ?_⟩ | refine ⟨(show _ ∧ _ by omega), ?_⟩ | refine ⟨(show _ ∨ _ by omega), ?_⟩ | refine ⟨fun h => absurd h (by decide), fun _ => ?_⟩ | refine ⟨fun _ => ?_, fun h => absurd h (by decide)⟩ | refine ⟨fun _ => ?_, fun h => absurd rfl h⟩ | refine ⟨fun h => absurd rfl h, fun _ => ?_⟩)); try (conv => whnf)
        rw [e7]
        refine hG _ _ _ _ _ _ ?_
        refine ih2 _ _ _ _ (by omega) (by omega) (fun a ha => ?_) hP3 (chRow_B hW (by omega) (by omega) hB 4 (by omega) (by omega))
        rw [← hI2 a ha]
        funext y
        exact uI_ne (by omega)
      refine Go.walk 400 [36, 51] E76 E76_ok (fun G C hG hC => ?_)
      (repeat ((conv => whnf); first | refine ⟨_, by assumption, ?_⟩ | refine ⟨_, _, by assumption, ?_⟩ | refine ⟨(show _ ∧ _ by omega), ?_⟩ | refine ⟨(show _ ∨ _ by omega), ?_⟩ | refine ⟨fun h => absurd h (by decide), fun _ => ?_⟩ | refine ⟨fun _ => ?_, fun h => absurd h (by decide)⟩ | refine ⟨fun _ => ?_, fun h => absurd rfl h⟩ | refine ⟨fun h => absurd rfl h, fun _ => ?_⟩)); try (conv => whnf)
      rw [e0']
      refine ⟨fun q => absurd q (by omega), fun _ => ?_⟩
      (repeat ((conv => whnf); first | refine ⟨_, by assumption, ?_⟩ | refine ⟨_, _, by assumption, ?_⟩ | refine ⟨(show _ ∧ _ by omega), ?_⟩ | refine ⟨(show _ ∨ _ by omega), ?_⟩ | refine ⟨fun h => absurd h (by decide), fun _ => ?_⟩ | refine ⟨fun _ => ?_, fun h => absurd h (by decide)⟩ | refine ⟨fun _ => ?_, fun h => absurd rfl h⟩ | refine ⟨fun h => absurd rfl h, fun _ => ?_⟩)); try (conv => whnf)
      refine hG _ _ _ _ _ _ ?_
      have := inner v g0 (by omega) X hB nx 4 0 I' z7 z8 (by omega) (by omega) hI ⟨pl0 n v, hP.plc (fun u _ _ => by
        unfold setP
        by_cases z : u = v
        · rw [if_pos z, z]
        · rw [if_neg z])⟩
      rw [rf_nil (Int.le_refl 0)] at this
      exact this
  refine Ok.of (by decide) rfl (Nat.le_of_ble_eq_true rfl) ?_
  refine Go.walk 400 [36] E76 E76_ok (fun G C hG hC => ?_)
  (repeat ((conv => whnf); first | refine ⟨_, by assumption, ?_⟩ | refine ⟨_, _, by assumption, ?_⟩ | refine ⟨(show _ ∧ _ by omega), ?_⟩ | refine ⟨(show _ ∨ _ by omega), ?_⟩ | refine ⟨fun h => absurd h (by decide), fun _ => ?_⟩ | refine ⟨fun _ => ?_, fun h => absurd h (by decide)⟩ | refine ⟨fun _ => ?_, fun h => absurd rfl h⟩ | refine ⟨fun h => absurd rfl h, fun _ => ?_⟩)); try (conv => whnf)
  refine hC _ _ _ _ _ _ ?_
  refine ok_ctim hC0 hW (fun I1 hF1 hX1 hC1 hT1 => ?_)
  have ew : I1 29 ((6 : Nat) : Int) = wro n (pl0 n) := hT1.2.2.2
  (repeat ((conv => whnf); first | refine ⟨_, by assumption, ?_⟩ | refine ⟨_, _, by assumption, ?_⟩ | refine ⟨(show _ ∧ _ by omega), ?_⟩ | refine ⟨(show _ ∨ _ by omega), ?_⟩ | refine ⟨fun h => absurd h (by decide), fun _ => ?_⟩ | refine ⟨fun _ => ?_, fun h => absurd h (by decide)⟩ | refine ⟨fun _ => ?_, fun h => absurd rfl h⟩ | refine ⟨fun h => absurd rfl h, fun _ => ?_⟩)); try (conv => whnf)
  rw [ew]
  refine hC _ _ _ _ _ _ ?_
  refine ok_copyFrom hN2 hN1 hC1.2.2.2.1 (by omega) (fun I2 hF2 hR2 => ?_)
  (repeat ((conv => whnf); first | refine ⟨_, by assumption, ?_⟩ | refine ⟨_, _, by assumption, ?_⟩ | refine ⟨(show _ ∧ _ by omega), ?_⟩ | refine ⟨(show _ ∨ _ by omega), ?_⟩ | refine ⟨fun h => absurd h (by decide), fun _ => ?_⟩ | refine ⟨fun _ => ?_, fun h => absurd h (by decide)⟩ | refine ⟨fun _ => ?_, fun h => absurd rfl h⟩ | refine ⟨fun h => absurd rfl h, fun _ => ?_⟩)); try (conv => whnf)
  refine hG _ _ _ _ _ _ ?_
  have := outer (n 0 - 1).toNat 1 I2 vu vu vu (by omega) (by omega) (fun a ha => by rw [hF2 a (by omega), hF1 a (by simp; omega)]) (hR2.P hW) (by rw [rf_nil (Int.le_refl 1)]; exact ⟨by show (-1 : Int) ≤ -1 ∧ (-1 : Int) ≤ 53; omega, by show (-920000 : Int) ≤ 0 ∧ (0 : Int) ≤ 900000; omega, by show (0 : Int) ≤ 0 ∧ (0 : Int) ≤ 495; omega⟩)
  rw [rf_nil (Int.le_refl 1)] at this
  exact this
end Qf
