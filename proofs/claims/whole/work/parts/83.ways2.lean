/-! all ways at a node out of those below it -/
theorem trp_congS {n : aN} (hW : WF n) {pl pl' : Int → Int} {c : Int} (h0 : 0 ≤ c) (h1 : c < n 0) (h : ∀ u, c ≤ u → u < n 0 → bel n u c = true → pl' u = pl u) : trp n pl' c = trp n pl c := by
  have hN := hW.1
  have e1 : sho n pl' (wd0 n) c = sho n pl (wd0 n) c := sho_congS hW h0 h1 h
  have e2 : mSlack n (tim n pl' (wd0 n) c 0) c = mSlack n (tim n pl (wd0 n) c 0) c := mSlack_cong (fun v a b q => by
    have e := tim_shift (dl := 0) hW (pl := pl') (pl' := pl) (wd := wd0 n) (comes := 0) (comes' := 0) h0 h0 h0 bel_self bel_self (fun u g1 g2 g3 => (h u (by omega) g2 g3).symm) (by
      rw [tim_top, tim_top, mAdd_cong (h c (Int.le_refl _) h1 bel_self) (bea_congS hW h0 h1 (fun u g1 g2 g3 => h u (by omega) g2 g3))]
      omega) b q
    rw [e]
    omega)
  have e3 : mCost n pl' c = mCost n pl c := mCost_cong (fun v a b q => h v (bel_le q) b q)
  unfold trp
  rw [e1, e2, e3]
theorem wrong_congS {n : aN} (hW : WF n) {pl pl' : Int → Int} {c t : Int} (h0 : 0 ≤ c) (h1 : c < n 0) (h : ∀ u, c ≤ u → u < n 0 → bel n u c = true → pl' u = pl u) : mWrong n (tur n pl' c t) c = mWrong n (tur n pl c t) c :=
  mWrong_cong (fun v a b q => tur_same hW h0 h0 h0 bel_self bel_self (fun u g1 g2 g3 => (h u (by omega) g2 g3).symm) (by rw [tur_top, tur_top, h c (Int.le_refl _) h1 bel_self]) b q)
def AsgS (n : aN) (c : Int) (pl : Int → Int) : Prop := ∀ u, 1 ≤ u → u < n 0 → bel n u c = true → pl u = 0 ∨ isK n (pl u)
theorem ways_S {n : aN} (hW : WF n) {c t : Int} {y : aT} (h0 : 0 ≤ c) (h1 : c < n 0) : WaysX n c t y ↔ ∃ pl : Int → Int, pl 0 = 0 ∧ AsgS n c pl ∧ mWrong n (tur n pl c t) c = 0 ∧ y = trp n pl c := by
  have hN := hW.1
  constructor
  · rintro ⟨pl, a1, a2, a3⟩
    exact ⟨pl, (a1 0 (by omega) (by omega)).2 (by omega), fun u b1 b2 b3 => (a1 u (by omega) b2).1 ⟨b1, b3⟩, a2, a3⟩
  · rintro ⟨pl, p0, a1, a2, a3⟩
    have hs : ∀ u, c ≤ u → u < n 0 → bel n u c = true → (fun u => if 1 ≤ u ∧ bel n u c = true then pl u else 0) u = pl u := by
      intro u b1 b2 b3
      show (if 1 ≤ u ∧ bel n u c = true then pl u else 0) = pl u
      by_cases q : 1 ≤ u
      · rw [if_pos ⟨q, b3⟩]
      · rw [if_neg (fun z => q z.1), show u = 0 by omega, p0]
    refine ⟨fun u => if 1 ≤ u ∧ bel n u c = true then pl u else 0, fun u b1 b2 => ⟨fun q => ?_, fun q => if_neg q⟩, ?_, ?_⟩
    · show (if 1 ≤ u ∧ bel n u c = true then pl u else 0) = 0 ∨ isK n (if 1 ≤ u ∧ bel n u c = true then pl u else 0)
      rw [if_pos q]
      exact a1 u q.1 b2 q.2
    · rw [wrong_congS hW h0 h1 hs]; exact a2
    · rw [trp_congS hW h0 h1 hs]; exact a3
theorem tim_nn {n : aN} (hW : WF n) {pl : Int → Int} {top u : Int} (hp : PlOk n pl) (ht : 0 ≤ top) (hu : u < n 0) (hb : bel n u top = true) : 0 ≤ tim n pl (wd0 n) top 0 u := (tim_bd hW ht (by omega) hp.1 hp.2 (wd0_ok hW) (bel_le hb) hu hb).1
/-- a repeater in front -/
theorem trp_dr {n : aN} (hW : WF n) {pl pl' : Int → Int} {v k t : Int} (h1 : 1 ≤ v) (h2 : v < n 0) (hk : isK n k) (hp : PlOk n pl) (hp' : PlOk n pl') (hv : pl v = k) (hv' : pl' v = 0) (hs : ∀ u, u ≠ v → pl' u = pl u) : trp n pl v = dr n k (trp n pl' v) ∧ (mWrong n (tur n pl v t) v = 0 ↔ mWrong n (tur n pl' v ((t + kf n k 5) % 2)) v = 0) := by
  have hN := hW.1
  have hk1 := hk.1
  have hkb := hW.2.2.2.2.2 k hk.1 hk.2.1
  have eb : bea n pl' (wd0 n) v = bea n pl (wd0 n) v := bea_congS hW (by omega) h2 (fun u a b c => hs u (by omega))
  have hbb := bea_bd hW hp'.1 (wd0_ok hW) (v := v) (by omega) h2
  have es : sho n pl (wd0 n) v = kf n k 1 := by
    simp only [sho, mShow]
    rw [hv, if_pos (by omega)]
  have es' : sho n pl' (wd0 n) v = bea n pl' (wd0 n) v := by
    simp only [sho, mShow]
    rw [if_neg (by omega)]
  have et : ∀ u, u < n 0 → bel n u v = true → tim n pl (wd0 n) v 0 u = tim n pl' (wd0 n) v 0 u + (kf n k 3 + 2 * kf n k 2 * bea n pl' (wd0 n) v) := by
    intro u a b
    refine tim_shift hW (by omega) (by omega) (by omega) bel_self bel_self (fun w c1 c2 c3 => hs w (by omega)) ?_ a b
    rw [tim_top, tim_top]
    unfold mAdd
    rw [hv, if_pos (by omega), if_neg (by omega), eb]
    omega
  have hd0 : 0 ≤ kf n k 3 + 2 * kf n k 2 * bea n pl' (wd0 n) v := by
    have := Int.mul_nonneg (show 0 ≤ 2 * kf n k 2 by omega) hbb.1
    omega
  have hsl := mSlack_SL (n := n) hN.1 (tm := tim n pl' (wd0 n) v 0) (top := v)
  have esl : mSlack n (tim n pl (wd0 n) v 0) v = mSlack n (tim n pl' (wd0 n) v 0) v - (kf n k 3 + 2 * kf n k 2 * bea n pl' (wd0 n) v) := by
    refine sl_un (mSlack_SL hN.1) ⟨by have := hsl.1; omega, fun u a b c e => ?_, Or.inr ?_⟩
    · have := hsl.2.1 u a b c e
      rw [et u b c]
      omega
    · obtain ⟨u, a, b, c, e, g⟩ := sl_at hW h1 h2 (fun u a b c => tim_nn hW hp' (by omega) b c) hsl
      refine ⟨u, a, b, c, e, ?_⟩
      rw [et u b c]
      omega
  have ec : mCost n pl v = mCost n pl' v + kf n k 4 := by
    rw [mCost_sm hN.1 hp.2, mCost_sm hN.1 hp'.2, sm_cong (g := fun u => b2i (bel n u v) * gc n pl' u + (if u = v then kf n k 4 else 0)) (fun u a b => ?_), sm_add, sm_one (f := fun u => if u = v then kf n k 4 else 0) (c := v) (by omega) h2 (fun u _ _ q => if_neg q), if_pos rfl]
    by_cases q : u = v
    · subst q
      rw [bel_self, if_pos rfl]
      unfold gc
      rw [hv, hv', if_pos (by omega), if_neg (by omega)]
      show 1 * kf n k 4 = 1 * 0 + kf n k 4
      omega
    · rw [if_neg q]
      unfold gc
      rw [hs u q]
      omega
  refine ⟨?_, ?_⟩
  · unfold trp dr
    rw [es, es', esl, ec]
    simp only [Prod.mk.injEq, true_and, and_true]
    omega
  · have eu : ∀ u, u < n 0 → bel n u v = true → tur n pl v t u = tur n pl' v ((t + kf n k 5) % 2) u := by
      intro u a b
      refine tur_same hW (by omega) (by omega) (by omega) bel_self bel_self (fun w c1 c2 c3 => hs w (by omega)) ?_ a b
      rw [tur_top, tur_top, hv, hv', if_pos (by omega), if_neg (by omega)]
      omega
    rw [mWrong_cong (fun u a b c => eu u b c)]
def BX (n : aN) (v t : Int) : aT → Prop := fun x => ∃ pl, Asg n v pl ∧ pl v = 0 ∧ mWrong n (tur n pl v t) v = 0 ∧ x = trp n pl v
theorem se_1 {n : aN} (hW : WF n) {v t : Int} {x : aT} (h1 : 1 ≤ v) (h2 : v < n 0) : WaysX n v t x ↔ BX n v t x ∨ ∃ k y, isK n k ∧ BX n v ((t + kf n k 5) % 2) y ∧ x = dr n k y := by
  have hN := hW.1
  constructor
  · rintro ⟨pl, a1, a2, a3⟩
    rcases (a1 v (by omega) h2).1 ⟨h1, bel_self⟩ with e | e
    · exact Or.inl ⟨pl, a1, e, a2, a3⟩
    · have ha : Asg n v (setP pl v 0) := by
        intro u b1 b2
        unfold setP
        by_cases q : u = v
        · rw [if_pos q]
          exact ⟨fun _ => Or.inl rfl, fun _ => rfl⟩
        · rw [if_neg q]
          exact a1 u b1 b2
      have hd := trp_dr (t := t) hW h1 h2 e (a1.pl hW) (ha.pl hW) rfl (show setP pl v 0 v = 0 by unfold setP; rw [if_pos rfl]) (fun u q => by unfold setP; rw [if_neg q])
      exact Or.inr ⟨pl v, trp n (setP pl v 0) v, e, ⟨setP pl v 0, ha, by unfold setP; rw [if_pos rfl], hd.2.mp a2, rfl⟩, a3.trans hd.1⟩
  · rintro (⟨pl, a1, -, a2, a3⟩ | ⟨k, y, hk, ⟨pl, a1, a0, a2, rfl⟩, rfl⟩)
    · exact ⟨pl, a1, a2, a3⟩
    · have ha : Asg n v (setP pl v k) := by
        intro u b1 b2
        unfold setP
        by_cases q : u = v
        · rw [if_pos q]
          subst q
          exact ⟨fun _ => Or.inr hk, fun z => absurd ⟨h1, bel_self⟩ z⟩
        · rw [if_neg q]
          exact a1 u b1 b2
      have hd := trp_dr (t := t) hW h1 h2 hk (ha.pl hW) (a1.pl hW) (show setP pl v k v = k by unfold setP; rw [if_pos rfl]) a0 (fun u q => by unfold setP; rw [if_neg q])
      exact ⟨setP pl v k, ha, hd.2.mpr a2, hd.1.symm⟩
theorem se_2 {n : aN} (hW : WF n) {t : Int} {x : aT} : WaysX n 0 t x ↔ BX n 0 t x := by
  have hN := hW.1
  constructor
  · rintro ⟨pl, a1, a2, a3⟩
    exact ⟨pl, a1, (a1 0 (by omega) (by omega)).2 (by omega), a2, a3⟩
  · rintro ⟨pl, a1, -, a2, a3⟩
    exact ⟨pl, a1, a2, a3⟩
/-- an end -/
theorem se_3 {n : aN} (hW : WF n) {v t : Int} {x : aT} (h0 : 0 ≤ v) (h1 : v < n 0) (t0 : 0 ≤ t) (t1 : t ≤ 1) (he : mEnd n v = true) : BX n v t x ↔ nf n v 6 = t ∧ x = (nf n v 4, nf n v 5, 0) := by
  have hN := hW.1
  have hv1 := ((mEnd_iff hN.1).mp he).1
  have hb := hW.2.1 v h0 (by omega)
  have one : ∀ pl, Asg n v pl → pl v = 0 → trp n pl v = (nf n v 4, nf n v 5, 0) ∧ (mWrong n (tur n pl v t) v = 0 ↔ nf n v 6 = t) := by
    intro pl a1 a0
    have e1 : sho n pl (wd0 n) v = nf n v 4 := by
      simp only [sho, mShow]
      rw [if_neg (by omega), bea_eq hN.2.1 h0 h1]
      unfold mBear
      rw [if_pos he]
      refine rf_inv (fun _ s => s = nf n v 4) rfl (n 0 - (v + 1)).toNat (n 0) (by omega) (fun u s b1 b2 b3 => ?_)
      unfold wt1
      rw [if_neg (((mEnd_iff hN.1).mp he).2 u (by omega) b2), b3]
      omega
    have e2 : tim n pl (wd0 n) v 0 v = 0 := by
      rw [tim_top]
      unfold mAdd
      rw [if_neg (by omega)]
      rfl
    have e3 : mSlack n (tim n pl (wd0 n) v 0) v = nf n v 5 := by
      refine sl_un (mSlack_SL hN.1) ⟨by omega, fun u b1 b2 b3 b4 => ?_, Or.inr ⟨v, by omega, h1, bel_self, he, by rw [e2]; omega⟩⟩
      have e := end_sub hW h0 b2 he b3
      rw [e, e2]
      omega
    have e4 : mCost n pl v = 0 := by
      rw [mCost_sm hN.1 (a1.pl hW).2]
      refine sm_zero (fun u b1 b2 => ?_)
      cases hb2 : bel n u v with
      | false => show 0 * _ = 0; omega
      | true =>
        have e := end_sub hW h0 b2 he hb2
        rw [e]
        unfold gc
        rw [if_neg (by omega)]
        rfl
    have e5 : tur n pl v t v = t := by
      rw [tur_top, if_neg (by omega)]
      omega
    refine ⟨by unfold trp; rw [e1, e3, e4], ?_⟩
    rw [mWrong_0 hW]
    constructor
    · intro h
      have := h v (by omega) h1 bel_self he
      rw [e5] at this
      exact this
    · intro h u b1 b2 b3 b4
      have e := end_sub hW h0 b2 he b3
      rw [e, e5]
      exact h
  constructor
  · rintro ⟨pl, a1, a0, a2, a3⟩
    have h := one pl a1 a0
    exact ⟨h.2.mp a2, a3.trans h.1⟩
  · rintro ⟨a1, a2⟩
    have ha : Asg n v (fun _ => 0) := fun u _ _ => ⟨fun _ => Or.inl rfl, fun _ => rfl⟩
    have h := one _ ha rfl
    exact ⟨fun _ => 0, ha, rfl, h.2.mpr a1, a2.trans h.1.symm⟩
