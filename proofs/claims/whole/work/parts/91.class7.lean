/-! the class: widest -/
theorem NetP.wd {I : aI} {a : Nat} {n : aN} {pl wd : Int → Int} (hR : NetP I a n pl wd) {v z : Int} : NetP (uI I (a + 4) v z) a n pl (uI I (a + 4) v z (a + 4)) := by
  obtain ⟨⟨p0, p1⟩, p2, p3, p4, p5, p6⟩ := hR
  have ne : ∀ (i : Nat) (x : Int), i ≠ 4 → uI I (a + 4) v z (a + i) x = I (a + i) x := fun i x hi => uI_ne (by omega)
  have ne0 : ∀ x : Int, uI I (a + 4) v z a x = I a x := fun x => uI_ne (by omega)
  unfold NetP
  simp only [ne0, ne 1 _ (by omega), ne 2 _ (by omega), ne 3 _ (by omega), ne 5 _ (by omega), ne 6 _ (by omega), ne 7 _ (by omega), ne 8 _ (by omega), ne 9 _ (by omega), ne 10 _ (by omega), ne 11 _ (by omega), ne 12 _ (by omega), ne 13 _ (by omega)]
  exact ⟨⟨p0, p1⟩, p2, p3, fun _ _ _ => trivial, p5, p6⟩
theorem NetP.wdc {I : aI} {a : Nat} {n : aN} {pl wd wd' : Int → Int} (hR : NetP I a n pl wd) (h : ∀ v, 1 ≤ v → v < n 0 → wd' v = wd v) : NetP I a n pl wd' := by
  obtain ⟨p0, p2, p3, p4, p5, p6⟩ := hR
  exact ⟨p0, p2, p3, fun v g0 g1 => by rw [h v g0 g1]; exact p4 v g0 g1, p5, p6⟩
theorem NetP.plc {I : aI} {a : Nat} {n : aN} {pl pl' wd : Int → Int} (hR : NetP I a n pl wd) (h : ∀ v, 0 ≤ v → v < n 0 → pl' v = pl v) : NetP I a n pl' wd := by
  obtain ⟨p0, p2, p3, p4, p5, p6⟩ := hR
  exact ⟨p0, p2, fun v g0 g1 => by rw [h v g0 g1]; exact p3 v g0 g1, p4, p5, p6⟩
theorem NetP.pl {I : aI} {a : Nat} {n : aN} {pl wd : Int → Int} (hR : NetP I a n pl wd) {v k : Int} : NetP (uI I (a + 8) v k) a n (setP pl v k) wd := by
  obtain ⟨⟨p0, p1⟩, p2, p3, p4, p5, p6⟩ := hR
  have ne : ∀ (i : Nat) (x : Int), i ≠ 8 → uI I (a + 8) v k (a + i) x = I (a + i) x := fun i x hi => uI_ne (by omega)
  have ne0 : ∀ x : Int, uI I (a + 8) v k a x = I a x := fun x => uI_ne (by omega)
  unfold NetP
  simp only [ne0, ne 1 _ (by omega), ne 2 _ (by omega), ne 3 _ (by omega), ne 4 _ (by omega), ne 5 _ (by omega), ne 6 _ (by omega), ne 7 _ (by omega), ne 9 _ (by omega), ne 10 _ (by omega), ne 11 _ (by omega), ne 12 _ (by omega), ne 13 _ (by omega)]
  refine ⟨⟨p0, p1⟩, p2, fun x g0 g1 => ?_, p4, p5, p6⟩
  unfold setP
  by_cases q : x = v
  · rw [if_pos q, q, uI_at]
  · rw [if_neg q, uI_ne (fun e => q e.2)]
    exact p3 x g0 g1
theorem sla_congW {n : aN} (hW : WF n) {pl wd wd' : Int → Int} (h : ∀ v, 1 ≤ v → v < n 0 → wd' v = wd v) : sla n pl wd' = sla n pl wd := by
  have hN := hW.1
  have e1 : src n pl wd' = src n pl wd := by
    unfold src
    rw [bea_cong (Int.le_refl 0) (fun u a b => ⟨rfl, h u (by omega) b⟩)]
  unfold sla
  rw [e1]
  exact mSlack_cong (fun v a b c => cT_cong hW (Int.le_refl 0) (fun _ _ _ => rfl) (fun u p q => h u (by omega) q) 6 v (by omega) b c)
theorem bit5 {a b c d e : Int} (ha : a = 0 ∨ a = 1) (hb : b = 0 ∨ b = 1) (hc : c = 0 ∨ c = 1) (hd : d = 0 ∨ d = 1) (he : e = 0 ∨ e = 1) : bAnd (bShr (a + 2 * b + 4 * c + 8 * d + 16 * e) 0) 1 = a ∧ bAnd (bShr (a + 2 * b + 4 * c + 8 * d + 16 * e) 1) 1 = b ∧ bAnd (bShr (a + 2 * b + 4 * c + 8 * d + 16 * e) 2) 1 = c ∧ bAnd (bShr (a + 2 * b + 4 * c + 8 * d + 16 * e) 3) 1 = d ∧ bAnd (bShr (a + 2 * b + 4 * c + 8 * d + 16 * e) 4) 1 = e := by
  rcases ha with rfl | rfl <;> rcases hb with rfl | rfl <;> rcases hc with rfl | rfl <;> rcases hd with rfl | rfl <;> rcases he with rfl | rfl <;> decide
/-- the widths as they are, are among those that are tried -/
theorem wd_set {n : aN} (hW : WF n) : ∃ s, 0 ≤ s ∧ s < bShl 1 (n 0 - 1) ∧ ∀ v, 1 ≤ v → v < n 0 → wdS s v = wd0 n v := by
  have hN := hW.1
  have hd : ∀ i : Int, 1 ≤ i → ((if i < n 0 then nf n i 3 - 1 else 0) = 0 ∨ (if i < n 0 then nf n i 3 - 1 else 0) = 1) := by
    intro i hi
    by_cases q : i < n 0
    · rw [if_pos q]
      have a := (hW.2.2.1 i hi q).1
      have b := (hW.2.1 i (by omega) (by omega)).2.2.2.1
      omega
    · rw [if_neg q]; exact Or.inl rfl
  have h1 := hd 1 (by omega)
  have h2 := hd 2 (by omega)
  have h3 := hd 3 (by omega)
  have h4 := hd 4 (by omega)
  have h5 := hd 5 (by omega)
  obtain ⟨b1, b2, b3, b4, b5⟩ := bit5 h1 h2 h3 h4 h5
  refine ⟨(if (1 : Int) < n 0 then nf n 1 3 - 1 else 0) + 2 * (if (2 : Int) < n 0 then nf n 2 3 - 1 else 0) + 4 * (if (3 : Int) < n 0 then nf n 3 3 - 1 else 0) + 8 * (if (4 : Int) < n 0 then nf n 4 3 - 1 else 0) + 16 * (if (5 : Int) < n 0 then nf n 5 3 - 1 else 0), by omega, ?_, fun v g0 g1 => ?_⟩
  · have z : ∀ i : Int, n 0 ≤ i → (if i < n 0 then nf n i 3 - 1 else 0) = 0 := fun i hi => if_neg (by omega)
    rcases (show n 0 = 1 ∨ n 0 = 2 ∨ n 0 = 3 ∨ n 0 = 4 ∨ n 0 = 5 ∨ n 0 = 6 by omega) with e | e | e | e | e | e
    · have e2 : bShl 1 (n 0 - 1) = 1 := by rw [e]; decide
      rw [e2, z 1 (by omega), z 2 (by omega), z 3 (by omega), z 4 (by omega), z 5 (by omega)]; omega
    · have e2 : bShl 1 (n 0 - 1) = 2 := by rw [e]; decide
      rw [e2, z 2 (by omega), z 3 (by omega), z 4 (by omega), z 5 (by omega)]; omega
    · have e2 : bShl 1 (n 0 - 1) = 4 := by rw [e]; decide
      rw [e2, z 3 (by omega), z 4 (by omega), z 5 (by omega)]; omega
    · have e2 : bShl 1 (n 0 - 1) = 8 := by rw [e]; decide
      rw [e2, z 4 (by omega), z 5 (by omega)]; omega
    · have e2 : bShl 1 (n 0 - 1) = 16 := by rw [e]; decide
      rw [e2, z 5 (by omega)]; omega
    · have e2 : bShl 1 (n 0 - 1) = 32 := by rw [e]; decide
      rw [e2]; omega
  · unfold wdS wd0
    rcases (show v = 1 ∨ v = 2 ∨ v = 3 ∨ v = 4 ∨ v = 5 by omega) with e | e | e | e | e <;> subst e
    · rw [show (1 : Int) - 1 = 0 by omega, b1, if_pos g1]; omega
    · rw [show (2 : Int) - 1 = 1 by omega, b2, if_pos g1]; omega
    · rw [show (3 : Int) - 1 = 2 by omega, b3, if_pos g1]; omega
    · rw [show (4 : Int) - 1 = 3 by omega, b4, if_pos g1]; omega
    · rw [show (5 : Int) - 1 = 4 by omega, b5, if_pos g1]; omega
def wS (n : aN) (set r : Int) : Int := if sla n (pl0 n) (wdS set) ≤ r then r else sla n (pl0 n) (wdS set)
theorem mW_max {n : aN} : ∀ hi, 1 ≤ hi → (∀ s, 0 ≤ s → s < hi → sla n (pl0 n) (wdS s) ≤ rf (widS n) 0 0 hi) ∧ ∃ s, 0 ≤ s ∧ s < hi ∧ rf (widS n) 0 0 hi = sla n (pl0 n) (wdS s) := by
  refine hi_ind _ (lo := 0) (fun hi h a => by omega) (fun hi h ih _ => ?_)
  rw [rf_succ h]
  unfold widS
  by_cases q : hi = 0
  · rw [if_pos (Or.inl q)]
    refine ⟨fun s a b => ?_, hi, by omega, by omega, rfl⟩
    rw [show s = hi by omega]
    exact Int.le_refl _
  · obtain ⟨i1, s, i2, i3, i4⟩ := ih (by omega)
    unfold widS at i1 i4
    by_cases z : rf (fun set r => if set = 0 ∨ r < sla n (pl0 n) (wdS set) then sla n (pl0 n) (wdS set) else r) 0 0 hi < sla n (pl0 n) (wdS hi)
    · rw [if_pos (Or.inr z)]
      refine ⟨fun s a b => ?_, hi, h, by omega, rfl⟩
      by_cases y : s = hi
      · rw [y]; exact Int.le_refl _
      · have := i1 s a (by omega)
        omega
    · rw [if_neg (fun y => y.elim q z)]
      refine ⟨fun s a b => ?_, s, i2, by omega, i4⟩
      by_cases y : s = hi
      · rw [y]; omega
      · exact i1 s a (by omega)
theorem cW_max {n : aN} : ∀ hi, 0 ≤ hi → (∀ s, 0 ≤ s → s < hi → sla n (pl0 n) (wdS s) ≤ rf (wS n) (sla0 n) 0 hi) ∧ sla0 n ≤ rf (wS n) (sla0 n) 0 hi ∧ (rf (wS n) (sla0 n) 0 hi = sla0 n ∨ ∃ s, 0 ≤ s ∧ s < hi ∧ rf (wS n) (sla0 n) 0 hi = sla n (pl0 n) (wdS s)) := by
  refine hi_ind _ (lo := 0) (fun hi h a => ?_) (fun hi h ih _ => ?_)
  · rw [rf_nil h]
    exact ⟨fun s a b => by omega, Int.le_refl _, Or.inl rfl⟩
  · obtain ⟨i1, i2, i3⟩ := ih h
    rw [rf_succ h]
    generalize rf (wS n) (sla0 n) 0 hi = r at i1 i2 i3
    unfold wS
    by_cases z : sla n (pl0 n) (wdS hi) ≤ r
    · rw [if_pos z]
      refine ⟨fun s a b => ?_, i2, ?_⟩
      · by_cases y : s = hi
        · rw [y]; exact z
        · exact i1 s a (by omega)
      · rcases i3 with i3 | ⟨s, a, b, c⟩
        · exact Or.inl i3
        · exact Or.inr ⟨s, a, by omega, c⟩
    · rw [if_neg z]
      refine ⟨fun s a b => ?_, by omega, Or.inr ⟨hi, h, by omega, rfl⟩⟩
      by_cases y : s = hi
      · rw [y]; exact Int.le_refl _
      · have := i1 s a (by omega)
        omega
theorem wid_eq {n : aN} (hW : WF n) : rf (wS n) (sla0 n) 0 (bShl 1 (n 0 - 1)) = mWid n := by
  have hN := hW.1
  have hb := bShl1_bd (m := n 0) ⟨hN.1, hN.2.1⟩
  obtain ⟨s0, a1, a2, a3⟩ := wd_set hW
  have e0 : sla n (pl0 n) (wdS s0) = sla0 n := sla_congW hW a3
  obtain ⟨m1, sm, m2, m3, m4⟩ := mW_max (n := n) (bShl 1 (n 0 - 1)) hb.1
  obtain ⟨k1, k2, k3⟩ := cW_max (n := n) (bShl 1 (n 0 - 1)) (by omega)
  have g0 := m1 s0 a1 a2
  have gm := k1 sm m2 m3
  unfold mWid
  rcases k3 with k3 | ⟨s, b1, b2, b3⟩
  · omega
  · have := m1 s b1 b2
    omega
section Qw
variable {n : aN} {h : List aN} {B : List (Int × Int)} {sd : Int} {im : Int → Option (aN × Int)}
/-- widest() -/
theorem ok_cwidest {P : aP} {d : Nat} {K : aK} {I : aI} {R : aR} {S : aS} (hC0 : CSt n h B sd im I R S) (hW : WF n) (hK : ∀ I', XF I R S I' R S → CSt n h B sd im I' R S → K (some (vi (mWid n))) I' R S) : Ok P 75 (d + 4) [vr 0] I R S K := by
  have hN := hW.1
  obtain ⟨c1, c2, c3, c4, c5, c6, c7, c8, c9⟩ := id hC0
  obtain ⟨⟨a0, a1, a2, a3, -⟩, -, -, -, e3, e4, -⟩ := id c1
  have hN1 := e3 1 (Or.inl rfl)
  have hN2 := e3 15 (Or.inr (Or.inl rfl))
  have sn := hN1.1
  obtain ⟨s0, sr1, sm1, sr2, sm2, sr3, sm3, sr4, sm4, sr5, sm5, sr6, sm6, sr7, sm7, sr8, sm8, sr9, sm9, sr10, sm10, sr11, sm11, sr12, sm12, sr13, sm13⟩ := id hN2
  obtain ⟨t0, x1, t1, x2, t2, x3, t3, x4, t4⟩ := id e4
  have hb := bShl1_bd (m := n 0) ⟨hN.1, hN.2.1⟩
  have e0 : ∀ I' : aI, (∀ a, ¬ (15 ≤ a ∧ a ≤ 33) → I' a = I a) → I' 1 ((0 : Nat) : Int) = n 0 := fun I' hI => by rw [hI 1 (by omega)]; exact c4.1.1
  have inner : ∀ (set r : Int), (∀ (I' : aI) (z : aV), (∀ a, ¬ (15 ≤ a ∧ a ≤ 33) → I' a = I a) → NetP I' 15 n (pl0 n) (wdS set) → Go P 75 (d + 4) K 80 [vr 0, vi r, vi set, z] [] I' R S) → ∀ (m : Nat) (v : Int) (I' : aI), 1 ≤ v → n 0 - v = m → (∀ a, ¬ (15 ≤ a ∧ a ≤ 33) → I' a = I a) → NetP I' 15 n (pl0 n) (I' 19) → (∀ u, 1 ≤ u → u < v → I' 19 u = wdS set u) → Go P 75 (d + 4) K 45 [vr 0, vi r, vi set, vi v] [] I' R S := by
    intro set r hnext m
    induction m with
    | zero =>
      intro v I' g0 gm hI hP hx
      have hv : v = n 0 := by omega
      have e0' := e0 I' hI
      refine Go.walk 400 [45, 80] E75 E75_ok (fun G C hG hC => ?_)
      (repeat ((conv => whnf); first | refine ⟨_, by assumption, ?_⟩ | refine ⟨_, _, by assumption, ?_⟩ | refine ⟨(show _ ∧ _ by omega), ?_⟩ | refine ⟨(show _ ∨ _ by omega), ?_⟩ | refine ⟨fun h => absurd h (by decide), fun _ => ?_⟩ | refine ⟨fun _ => ?_, fun h => absurd h (by decide)⟩ | refine ⟨fun _ => ?_, fun h => absurd rfl h⟩ | refine ⟨fun h => absurd rfl h, fun _ => ?_⟩)); try (conv => whnf)
      rw [e0']
      refine ⟨fun _ => ?_, fun q => absurd (show n 0 ≤ v by omega) q⟩
      refine hG _ _ _ _ _ _ ?_
      exact hnext I' _ hI (hP.wdc (fun u a b => (hx u a (by omega)).symm))
    | succ m ih =>
      intro v I' g0 gm hI hP hx
      have e0' := e0 I' hI
      refine Go.walk 400 [45, 80] E75 E75_ok (fun G C hG hC => ?_)
      (repeat ((conv => whnf); first | refine ⟨_, by assumption, ?_⟩ | refine ⟨_, _, by assumption, ?_⟩ | refine ⟨(show _ ∧ _ by omega), ?_⟩ | refine ⟨(show _ ∨ _ by omega), ?_⟩ | refine ⟨fun h => absurd h (by decide), fun _ => ?_⟩ | refine ⟨fun _ => ?_, fun h => absurd h (by decide)⟩ | refine ⟨fun _ => ?_, fun h => absurd rfl h⟩ | refine ⟨fun h => absurd rfl h, fun _ => ?_⟩)); try (conv => whnf)
      rw [e0']
      refine ⟨fun q => absurd q (by omega), fun _ => ?_⟩
      (repeat ((conv => whnf); first | refine ⟨_, by assumption, ?_⟩ | refine ⟨_, _, by assumption, ?_⟩ | refine ⟨(show _ ∧ _ by omega), ?_⟩ | refine ⟨(show _ ∨ _ by omega), ?_⟩ | refine ⟨fun h => absurd h (by decide), fun _ => ?_⟩ | refine ⟨fun _ => ?_, fun h => absurd h (by decide)⟩ | refine ⟨fun _ => ?_, fun h => absurd rfl h⟩ | refine ⟨fun h => absurd rfl h, fun _ => ?_⟩)); try (conv => whnf)
      refine hG _ _ _ _ _ _ ?_
      refine ih (v + 1) _ (by omega) (by omega) (fun a ha => ?_) hP.wd (fun u a b => ?_)
      · rw [← hI a ha]
        funext k
        exact uI_ne (by omega)
      · by_cases q : u = v
        · subst q
          exact uI_at
        · rw [uI_ne (fun e => q e.2)]
          exact hx u a (by omega)
  have outer : ∀ (m : Nat) (set : Int) (I' : aI) (wd : Int → Int) (z : aV), 0 ≤ set → bShl 1 (n 0 - 1) - set = m → (∀ a, ¬ (15 ≤ a ∧ a ≤ 33) → I' a = I a) → NetP I' 15 n (pl0 n) wd → iR (rf (wS n) (sla0 n) 0 set) → Go P 75 (d + 4) K 28 [vr 0, vi (rf (wS n) (sla0 n) 0 set), vi set, z] [] I' R S := by
    intro m
    induction m with
    | zero =>
      intro set I' wd z g0 gm hI hP hr
      have e0' := e0 I' hI
      have hs : set = bShl 1 (n 0 - 1) := by omega
      have hK := hK I' (XF.of (fun a p q => hI a (by omega))) (hC0.q hN.2.1 hI)
      rw [← wid_eq hW] at hK
      refine Go.walk 400 [28] E75 E75_ok (fun G C hG hC => ?_)
      (repeat ((conv => whnf); first | refine ⟨_, by assumption, ?_⟩ | refine ⟨_, _, by assumption, ?_⟩ | refine ⟨(show _ ∧ _ by omega), ?_⟩ | refine ⟨(show _ ∨ _ by omega), ?_⟩ | refine ⟨fun h => absurd h (by decide), fun _ => ?_⟩ | refine ⟨fun _ => ?_, fun h => absurd h (by decide)⟩ | refine ⟨fun _ => ?_, fun h => absurd rfl h⟩ | refine ⟨fun h => absurd rfl h, fun _ => ?_⟩)); try (conv => whnf)
      rw [e0']
      refine ⟨by omega, fun _ => ?_, fun q => absurd (show bShl 1 (n 0 - 1) ≤ set by omega) q⟩
      (repeat ((conv => whnf); first | refine ⟨_, by assumption, ?_⟩ | refine ⟨_, _, by assumption, ?_⟩ | refine ⟨(show _ ∧ _ by omega), ?_⟩ | refine ⟨(show _ ∨ _ by omega), ?_⟩ | refine ⟨fun h => absurd h (by decide), fun _ => ?_⟩ | refine ⟨fun _ => ?_, fun h => absurd h (by decide)⟩ | refine ⟨fun _ => ?_, fun h => absurd rfl h⟩ | refine ⟨fun h => absurd rfl h, fun _ => ?_⟩)); try (conv => whnf)
      rw [hs]
      exact hK
    | succ m ih =>
      intro set I' wd z g0 gm hI hP hr
      have e0' := e0 I' hI
      have ih2 := ih (set + 1)
      rw [rf_succ g0] at ih2
      have hsb := sla_bd hW (pl0_ok hW) (wdS_ok (set := set))
      generalize rf (wS n) (sla0 n) 0 set = r at hr ih2
      refine Go.walk 400 [28, 45] E75 E75_ok (fun G C hG hC => ?_)
      (repeat ((conv => whnf); first | refine ⟨_, by assumption, ?_⟩ | refine ⟨_, _, by assumption, ?_⟩ | refine ⟨(show _ ∧ _ by omega), ?_⟩ | refine ⟨(show _ ∨ _ by omega), ?_⟩ | refine ⟨fun h => absurd h (by decide), fun _ => ?_⟩ | refine ⟨fun _ => ?_, fun h => absurd h (by decide)⟩ | refine ⟨fun _ => ?_, fun h => absurd rfl h⟩ | refine ⟨fun h => absurd rfl h, fun _ => ?_⟩)); try (conv => whnf)
      rw [e0']
      refine ⟨by omega, fun q => absurd q (by omega), fun _ => ?_⟩
      (repeat ((conv => whnf); first | refine ⟨_, by assumption, ?_⟩ | refine ⟨_, _, by assumption, ?_⟩ | refine ⟨(show _ ∧ _ by omega), ?_⟩ | refine ⟨(show _ ∨ _ by omega), ?_⟩ | refine ⟨fun h => absurd h (by decide), fun _ => ?_⟩ | refine ⟨fun _ => ?_, fun h => absurd h (by decide)⟩ | refine ⟨fun _ => ?_, fun h => absurd rfl h⟩ | refine ⟨fun h => absurd rfl h, fun _ => ?_⟩)); try (conv => whnf)
      refine hG _ _ _ _ _ _ ?_
      refine inner set r (fun I2 z2 hI2 hP2 => ?_) (n 0 - 1).toNat 1 I' (by omega) (by omega) hI (hP.wdc (fun u a b => hP.2.2.2.1 u a b)) (fun u a b => by omega)
      refine Go.walk 400 [28] E75 E75_ok (fun G C hG hC => ?_)
      (repeat ((conv => whnf); first | refine ⟨_, by assumption, ?_⟩ | refine ⟨_, _, by assumption, ?_⟩ | refine ⟨(show _ ∧ _ by omega), ?_⟩ | refine ⟨(show _ ∨ _ by omega), ?_⟩ | refine ⟨fun h => absurd h (by decide), fun _ => ?_⟩ | refine ⟨fun _ => ?_, fun h => absurd h (by decide)⟩ | refine ⟨fun _ => ?_, fun h => absurd rfl h⟩ | refine ⟨fun h => absurd rfl h, fun _ => ?_⟩)); try (conv => whnf)
      refine hC _ _ _ _ _ _ ?_
      refine ok_timing e4 hN2 hP2 hW (pl0_ok hW) wdS_ok (by omega) (fun I3 hF3 hT3 => ?_)
      have es : I3 29 ((4 : Nat) : Int) = sla n (pl0 n) (wdS set) := hT3.2.1
      have hI3 : ∀ a, ¬ (15 ≤ a ∧ a ≤ 33) → I3 a = I a := fun a ha => by rw [hF3 a (by simp; omega)]; exact hI2 a ha
      (repeat ((conv => whnf); first | refine ⟨_, by assumption, ?_⟩ | refine ⟨_, _, by assumption, ?_⟩ | refine ⟨(show _ ∧ _ by omega), ?_⟩ | refine ⟨(show _ ∨ _ by omega), ?_⟩ | refine ⟨fun h => absurd h (by decide), fun _ => ?_⟩ | refine ⟨fun _ => ?_, fun h => absurd h (by decide)⟩ | refine ⟨fun _ => ?_, fun h => absurd rfl h⟩ | refine ⟨fun h => absurd rfl h, fun _ => ?_⟩)); try (conv => whnf)
      rw [es]
      refine hC _ _ _ _ _ _ ?_
      refine ok_max hr (by omega) ?_
      (repeat ((conv => whnf); first | refine ⟨_, by assumption, ?_⟩ | refine ⟨_, _, by assumption, ?_⟩ | refine ⟨(show _ ∧ _ by omega), ?_⟩ | refine ⟨(show _ ∨ _ by omega), ?_⟩ | refine ⟨fun h => absurd h (by decide), fun _ => ?_⟩ | refine ⟨fun _ => ?_, fun h => absurd h (by decide)⟩ | refine ⟨fun _ => ?_, fun h => absurd rfl h⟩ | refine ⟨fun h => absurd rfl h, fun _ => ?_⟩)); try (conv => whnf)
      refine hG _ _ _ _ _ _ ?_
      refine ih2 I3 (wdS set) _ (by omega) (by omega) hI3 (hP2.cg (fun x g1 g2 => hF3 x (by simp; omega))) ?_
      unfold wS
      split <;> omega
  refine Ok.of (by decide) rfl (Nat.le_of_ble_eq_true rfl) ?_
  refine Go.walk 400 [28] E75 E75_ok (fun G C hG hC => ?_)
  (repeat ((conv => whnf); first | refine ⟨_, by assumption, ?_⟩ | refine ⟨_, _, by assumption, ?_⟩ | refine ⟨(show _ ∧ _ by omega), ?_⟩ | refine ⟨(show _ ∨ _ by omega), ?_⟩ | refine ⟨fun h => absurd h (by decide), fun _ => ?_⟩ | refine ⟨fun _ => ?_, fun h => absurd h (by decide)⟩ | refine ⟨fun _ => ?_, fun h => absurd rfl h⟩ | refine ⟨fun h => absurd rfl h, fun _ => ?_⟩)); try (conv => whnf)
  refine hC _ _ _ _ _ _ ?_
  refine ok_copyFrom hN2 hN1 c4 (by omega) (fun I1 hF1 hR1 => ?_)
  have hI1 : ∀ a, ¬ (15 ≤ a ∧ a ≤ 33) → I1 a = I a := fun a ha => hF1 a (by omega)
  (repeat ((conv => whnf); first | refine ⟨_, by assumption, ?_⟩ | refine ⟨_, _, by assumption, ?_⟩ | refine ⟨(show _ ∧ _ by omega), ?_⟩ | refine ⟨(show _ ∨ _ by omega), ?_⟩ | refine ⟨fun h => absurd h (by decide), fun _ => ?_⟩ | refine ⟨fun _ => ?_, fun h => absurd h (by decide)⟩ | refine ⟨fun _ => ?_, fun h => absurd rfl h⟩ | refine ⟨fun h => absurd rfl h, fun _ => ?_⟩)); try (conv => whnf)
  refine hC _ _ _ _ _ _ ?_
  refine ok_timing e4 hN2 (hR1.P hW) hW (pl0_ok hW) (wd0_ok hW) (by omega) (fun I2 hF2 hT2 => ?_)
  have es : I2 29 ((4 : Nat) : Int) = sla0 n := hT2.2.1
  have hsb := sla_bd hW (pl0_ok hW) (wd0_ok hW)
  (repeat ((conv => whnf); first | refine ⟨_, by assumption, ?_⟩ | refine ⟨_, _, by assumption, ?_⟩ | refine ⟨(show _ ∧ _ by omega), ?_⟩ | refine ⟨(show _ ∨ _ by omega), ?_⟩ | refine ⟨fun h => absurd h (by decide), fun _ => ?_⟩ | refine ⟨fun _ => ?_, fun h => absurd h (by decide)⟩ | refine ⟨fun _ => ?_, fun h => absurd rfl h⟩ | refine ⟨fun h => absurd rfl h, fun _ => ?_⟩)); try (conv => whnf)
  rw [es]
  refine hG _ _ _ _ _ _ ?_
  have := outer (bShl 1 (n 0 - 1)).toNat 0 I2 (wd0 n) vu (by omega) (by omega) (fun a ha => by rw [hF2 a (by simp; omega)]; exact hI1 a ha) ((hR1.P hW).cg (fun x g1 g2 => hF2 x (by simp; omega))) (by rw [rf_nil (Int.le_refl 0)]; show iR (sla n (pl0 n) (wd0 n)); omega)
  rw [rf_nil (Int.le_refl 0)] at this
  exact this
end Qw
