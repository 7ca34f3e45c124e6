/-! the timing of the class: wireTime for what is placed otherwise; run -/
theorem ok_wireTimeP {P : aP} {d : Nat} {K : aK} {I : aI} {R : aR} {S : aS} {a : Nat} {n : aN} {pl wd : Int → Int} {v sh : Int} (hS : NetS R S a) (hR : NetP I a n pl wd) (hW : WF n) (hw : WdOk n wd) (hv : 1 ≤ v ∧ v < n 0) (hK : K (some (vi (nf n v 1 * nf n v 2 + 2 / wd v * nf n v 1 * sh))) I R S) : Ok P 34 (d + 1) [vr a, vi v, vi sh] I R S K := by
  obtain ⟨s0, sr1, sm1, sr2, sm2, sr3, sm3, sr4, sm4, sr5, sm5, sr6, sm6, sr7, sm7, sr8, sm8, sr9, sm9, sr10, sm10, sr11, sm11, sr12, sm12, sr13, sm13⟩ := id hS
  have hN := hW.1
  obtain ⟨-, e1, e2, -⟩ := hR.2.1 v (by omega) (by omega)
  have e3 := hR.2.2.2.1 v hv.1 hv.2
  obtain ⟨-, b1, b2, -⟩ := hW.2.1 v (by omega) (by omega)
  have b4 := hw v hv.1 hv.2
  refine Ok.of (by decide) rfl (Nat.le_of_ble_eq_true rfl) ?_
  refine Go.walk 400 [] E34 E34_ok (fun G C hG hC => ?_)
  (repeat ((conv => whnf); first | refine ⟨_, by assumption, ?_⟩ | refine ⟨_, _, by assumption, ?_⟩ | refine ⟨(show _ ∧ _ by omega), ?_⟩ | refine ⟨(show _ ∨ _ by omega), ?_⟩ | refine ⟨fun h => absurd h (by decide), fun _ => ?_⟩ | refine ⟨fun _ => ?_, fun h => absurd h (by decide)⟩ | refine ⟨fun _ => ?_, fun h => absurd rfl h⟩ | refine ⟨fun h => absurd rfl h, fun _ => ?_⟩)); try (conv => whnf)
  refine ⟨fun q => ?_, fun q => ?_⟩
  · have e : wd v = 2 := by omega
    rw [e] at hK
    (repeat ((conv => whnf); first | refine ⟨_, by assumption, ?_⟩ | refine ⟨_, _, by assumption, ?_⟩ | refine ⟨(show _ ∧ _ by omega), ?_⟩ | refine ⟨(show _ ∨ _ by omega), ?_⟩ | refine ⟨fun h => absurd h (by decide), fun _ => ?_⟩ | refine ⟨fun _ => ?_, fun h => absurd h (by decide)⟩ | refine ⟨fun _ => ?_, fun h => absurd rfl h⟩ | refine ⟨fun h => absurd rfl h, fun _ => ?_⟩)); try (conv => whnf)
    rw [e1, e2]
    exact hK
  · have e : wd v = 1 := by omega
    rw [e] at hK
    (repeat ((conv => whnf); first | refine ⟨_, by assumption, ?_⟩ | refine ⟨_, _, by assumption, ?_⟩ | refine ⟨(show _ ∧ _ by omega), ?_⟩ | refine ⟨(show _ ∨ _ by omega), ?_⟩ | refine ⟨fun h => absurd h (by decide), fun _ => ?_⟩ | refine ⟨fun _ => ?_, fun h => absurd h (by decide)⟩ | refine ⟨fun _ => ?_, fun h => absurd rfl h⟩ | refine ⟨fun h => absurd rfl h, fun _ => ?_⟩)); try (conv => whnf)
    rw [e1, e2]
    exact hK
theorem xor01 {x y : Int} (hx : 0 ≤ x ∧ x ≤ 1) (hy : 0 ≤ y ∧ y ≤ 1) : bXor x y = (x + y) % 2 := by
  rcases (show x = 0 ∨ x = 1 by omega) with rfl | rfl <;> rcases (show y = 0 ∨ y = 1 by omega) with rfl | rfl <;> decide
/-- what the kind that is placed adds; none adds nothing -/
theorem adds_at {I : aI} {a : Nat} {n : aN} {pl wd : Int → Int} (hR : NetP I a n pl wd) (hW : WF n) (hp : PlOk n pl) {v : Int} (h0 : 0 ≤ v) (h1 : v < n 0) : I (a + 11) (pl v) + 2 * I (a + 10) (pl v) * bea n pl wd v = mAdd n pl (bea n pl wd) v ∧ I (a + 13) (pl v) = (if 0 < pl v then kf n (pl v) 5 else 0) ∧ 0 ≤ I (a + 13) (pl v) ∧ I (a + 13) (pl v) ≤ 1 := by
  have hb := hp.1 v h0 h1
  by_cases q : 0 < pl v
  · obtain ⟨r1, r2, r3, r4, r5⟩ := hR.2.2.2.2.1 (pl v) (by omega) (by omega)
    have hk := hW.2.2.2.2.2 (pl v) (by omega) (by omega)
    rw [r2, r3, r5, if_pos q]
    unfold mAdd
    rw [if_pos q]
    exact ⟨rfl, rfl, hk.2.2.2.2.2⟩
  · have z : pl v = 0 := by omega
    obtain ⟨r1, r2, r3, r4, r5⟩ := hR.2.2.2.2.2
    unfold mAdd
    rw [if_neg q, if_neg q, z, r2, r3, r5]
    exact ⟨by omega, rfl, by omega, by omega⟩
theorem ok_run {P : aP} {d : Nat} {K : aK} {I : aI} {R : aR} {S : aS} {a : Nat} {n : aN} {pl wd : Int → Int} (hT : TiS R S) (hS : NetS R S a) (hR : NetP I a n pl wd) (hW : WF n) (hp : PlOk n pl) (hw : WdOk n wd) (ha : a + 13 < 29 ∨ 33 < a) (hB : ∀ v, 0 ≤ v → v < n 0 → I 30 v = bea n pl wd v ∧ I 31 v = sho n pl wd v)
    (hK : ∀ I', Fr [32, 33] I I' → (∀ v, 0 ≤ v → v < n 0 → I' 32 v = tim n pl wd 0 (src n pl wd) v ∧ I' 33 v = tur n pl 0 0 v) → K none I' R S) : Ok P 41 (d + 2) [vr 29, vr a] I R S K := by
  obtain ⟨t0, q1, t1, q2, t2, q3, t3, q4, t4⟩ := id hT
  obtain ⟨s0, sr1, sm1, sr2, sm2, sr3, sm3, sr4, sm4, sr5, sm5, sr6, sm6, sr7, sm7, sr8, sm8, sr9, sm9, sr10, sm10, sr11, sm11, sr12, sm12, sr13, sm13⟩ := id hS
  have hN := hW.1
  have hwt : WtOk n pl wd (bea n pl wd) (sho n pl wd) := fun v g0 g1 => ⟨bea_eq hN.2.1 g0 g1, rfl⟩
  have fin : ∀ I', Fr [32, 33] I I' → (∀ u, 0 ≤ u → u < n 0 → I' 32 u = mTm n pl wd (bea n pl wd) (sho n pl wd) (I' 32) 0 (src n pl wd) u ∧ I' 33 u = mTu n pl (I' 33) 0 0 u) → K none I' R S := by
    intro I' hF hx
    refine hK I' hF (fun v g0 g1 => ?_)
    exact tm_tim hW (Int.le_refl 0) hwt (fun u p0 p1 _ => hx u p0 p1) g0 g1 (bel0 hW g0 (by omega))
  have loop : ∀ (m : Nat) (v : Int) (I' : aI) (z1 z2 : aV), 1 ≤ v → n 0 - v = m → Fr [32, 33] I I' → (∀ u, 0 ≤ u → u < v → I' 32 u = mTm n pl wd (bea n pl wd) (sho n pl wd) (I' 32) 0 (src n pl wd) u ∧ I' 33 u = mTu n pl (I' 33) 0 0 u) → Go P 41 (d + 2) K 28 [vr 29, vr a, vi v, z1, z2] [] I' R S := by
    intro m
    induction m with
    | zero =>
      intro v I' z1 z2 g0 gm hF hx
      have hv : v = n 0 := by omega
      have e0 : I' a ((0 : Nat) : Int) = n 0 := by rw [hF a (by simp; omega)]; exact hR.1.1
      refine Go.walk 400 [28] E41 E41_ok (fun G C hG hC => ?_)
      (repeat ((conv => whnf); first | refine ⟨_, by assumption, ?_⟩ | refine ⟨_, _, by assumption, ?_⟩ | refine ⟨(show _ ∧ _ by omega), ?_⟩ | refine ⟨(show _ ∨ _ by omega), ?_⟩ | refine ⟨fun h => absurd h (by decide), fun _ => ?_⟩ | refine ⟨fun _ => ?_, fun h => absurd h (by decide)⟩ | refine ⟨fun _ => ?_, fun h => absurd rfl h⟩ | refine ⟨fun h => absurd rfl h, fun _ => ?_⟩)); try (conv => whnf)
      rw [e0]
      refine ⟨fun _ => ?_, fun q => absurd (show n 0 ≤ v by omega) q⟩
      (repeat ((conv => whnf); first | refine ⟨_, by assumption, ?_⟩ | refine ⟨_, _, by assumption, ?_⟩ | refine ⟨(show _ ∧ _ by omega), ?_⟩ | refine ⟨(show _ ∨ _ by omega), ?_⟩ | refine ⟨fun h => absurd h (by decide), fun _ => ?_⟩ | refine ⟨fun _ => ?_, fun h => absurd h (by decide)⟩ | refine ⟨fun _ => ?_, fun h => absurd rfl h⟩ | refine ⟨fun h => absurd rfl h, fun _ => ?_⟩)); try (conv => whnf)
      rw [hv] at hx
      exact fin I' hF hx
    | succ m ih =>
      intro v I' z1 z2 g0 gm hF hx
      have e0 : I' a ((0 : Nat) : Int) = n 0 := by rw [hF a (by simp; omega)]; exact hR.1.1
      have hR' : NetP I' a n pl wd := hR.cg (fun x p1 p2 => hF x (by simp; omega))
      have e7 : I' (a + 8) v = pl v := hR'.2.2.1 v (by omega) (by omega)
      have ea : I' (a + 1) v = nf n v 0 := (hR'.2.1 v (by omega) (by omega)).1
      have hpv := hp.1 v (by omega) (by omega)
      have hab := (hW.2.1 v (by omega) (by omega)).1
      have hs := sho_bd hW hp hw (v := v) (by omega) (by omega)
      have es : I' 31 v = sho n pl wd v := by rw [hF 31 (by decide)]; exact (hB v (by omega) (by omega)).2
      have eb : I' 30 v = bea n pl wd v := by rw [hF 30 (by decide)]; exact (hB v (by omega) (by omega)).1
      obtain ⟨a1, a2, a3⟩ := adds_at hR' hW hp (v := v) (by omega) (by omega)
      have htu : 0 ≤ I' 33 (nf n v 0) ∧ I' 33 (nf n v 0) ≤ 1 := by
        rw [(hx (nf n v 0) hab.1 (by omega)).2]
        unfold mTu
        omega
      have hxo := xor01 htu a3
      refine Go.walk 400 [28] E41 E41_ok (fun G C hG hC => ?_)
      (repeat ((conv => whnf); first | refine ⟨_, by assumption, ?_⟩ | refine ⟨_, _, by assumption, ?_⟩ | refine ⟨(show _ ∧ _ by omega), ?_⟩ | refine ⟨(show _ ∨ _ by omega), ?_⟩ | refine ⟨fun h => absurd h (by decide), fun _ => ?_⟩ | refine ⟨fun _ => ?_, fun h => absurd h (by decide)⟩ | refine ⟨fun _ => ?_, fun h => absurd rfl h⟩ | refine ⟨fun h => absurd rfl h, fun _ => ?_⟩)); try (conv => whnf)
      rw [e0]
      refine ⟨fun q => absurd q (by omega), fun _ => ?_⟩
      (repeat ((conv => whnf); first | refine ⟨_, by assumption, ?_⟩ | refine ⟨_, _, by assumption, ?_⟩ | refine ⟨(show _ ∧ _ by omega), ?_⟩ | refine ⟨(show _ ∨ _ by omega), ?_⟩ | refine ⟨fun h => absurd h (by decide), fun _ => ?_⟩ | refine ⟨fun _ => ?_, fun h => absurd h (by decide)⟩ | refine ⟨fun _ => ?_, fun h => absurd rfl h⟩ | refine ⟨fun h => absurd rfl h, fun _ => ?_⟩)); try (conv => whnf)
      rw [es]
      refine hC _ _ _ _ _ _ ?_
      refine ok_wireTimeP hS hR' hW hw (by omega) ?_
      rw [e7, ea]
      (repeat ((conv => whnf); first | refine ⟨_, by assumption, ?_⟩ | refine ⟨_, _, by assumption, ?_⟩ | refine ⟨(show _ ∧ _ by omega), ?_⟩ | refine ⟨(show _ ∨ _ by omega), ?_⟩ | refine ⟨fun h => absurd h (by decide), fun _ => ?_⟩ | refine ⟨fun _ => ?_, fun h => absurd h (by decide)⟩ | refine ⟨fun _ => ?_, fun h => absurd rfl h⟩ | refine ⟨fun h => absurd rfl h, fun _ => ?_⟩)); try (conv => whnf)
      rw [eb]
      have ex : uI I' 32 v (I' 32 (nf n v 0) + (nf n v 1 * nf n v 2 + 2 / wd v * nf n v 1 * sho n pl wd v) + I' (a + 11) (pl v) + 2 * I' (a + 10) (pl v) * bea n pl wd v) 33 (nf n v 0) = I' 33 (nf n v 0) := uI_ne (by omega)
      have ey : uI I' 32 v (I' 32 (nf n v 0) + (nf n v 1 * nf n v 2 + 2 / wd v * nf n v 1 * sho n pl wd v) + I' (a + 11) (pl v) + 2 * I' (a + 10) (pl v) * bea n pl wd v) (a + 13) (pl v) = I' (a + 13) (pl v) := uI_ne (by omega)
      rw [ex, ey, hxo]
      refine hG _ _ _ _ _ _ ?_
      refine ih (v + 1) _ _ _ (by omega) (by omega) ((hF.put (by decide)).put (by decide)) (fun u p0 p1 => ?_)
      have hau := (hW.2.1 u p0 (by omega)).1
      by_cases q : u = v
      · subst q
        refine ⟨?_, ?_⟩
        · rw [uI_ne (by omega), uI_at]
          unfold mTm
          rw [if_neg (by omega), uI_ne (by omega), uI_ne (by omega)]
          omega
        · rw [uI_at]
          unfold mTu
          rw [if_neg (by omega), uI_ne (by omega), uI_ne (by omega), a2]
      · refine ⟨?_, ?_⟩
        · rw [uI_ne (by omega), uI_ne (by omega), (hx u p0 (by omega)).1]
          refine (mTm_cong (fun g => ?_)).symm
          rw [uI_ne (by omega), uI_ne (by omega)]
        · rw [uI_ne (by omega), uI_ne (by omega), (hx u p0 (by omega)).2]
          refine (mTu_cong (fun g => ?_)).symm
          rw [uI_ne (by omega), uI_ne (by omega)]
  have e1 : I a ((1 : Nat) : Int) = n 1 := hR.1.2
  have e30 := (hB 0 (by omega) (by omega)).1
  refine Ok.of (by decide) rfl (Nat.le_of_ble_eq_true rfl) ?_
  refine Go.walk 400 [28] E41 E41_ok (fun G C hG hC => ?_)
  (repeat ((conv => whnf); first | refine ⟨_, by assumption, ?_⟩ | refine ⟨_, _, by assumption, ?_⟩ | refine ⟨(show _ ∧ _ by omega), ?_⟩ | refine ⟨(show _ ∨ _ by omega), ?_⟩ | refine ⟨fun h => absurd h (by decide), fun _ => ?_⟩ | refine ⟨fun _ => ?_, fun h => absurd h (by decide)⟩ | refine ⟨fun _ => ?_, fun h => absurd rfl h⟩ | refine ⟨fun h => absurd rfl h, fun _ => ?_⟩)); try (conv => whnf)
  rw [e1, e30]
  refine hG _ _ _ _ _ _ ?_
  refine loop (n 0 - 1).toNat 1 _ _ _ (by omega) (by omega) ((Fr.rf.put (by decide)).put (by decide)) (fun u p0 p1 => ?_)
  have hu : u = 0 := by omega
  subst hu
  refine ⟨?_, ?_⟩
  · rw [uI_ne (by omega), uI_at]
    unfold mTm mAdd
    rw [if_pos rfl, if_neg (by rw [hp.2]; omega)]
    unfold src
    omega
  · rw [uI_at]
    unfold mTu
    rw [if_pos rfl, if_neg (by rw [hp.2]; omega)]
    decide
