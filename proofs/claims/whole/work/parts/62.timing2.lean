/-! the timing of the class: the second loop of weigh -/
theorem wt1_off {n : aN} (hW : WF n) {wd sh : Int → Int} {w u : Int} (h : nf n u 0 ≠ w) : wt1 n wd sh w u = 0 := by
  unfold wt1
  rw [if_neg h]
theorem wt_bd {n : aN} (hW : WF n) {pl wd : Int → Int} (hp : PlOk n pl) (hw : WdOk n wd) {u : Int} (h1 : 1 ≤ u) (h2 : u < n 0) : 0 ≤ nf n u 2 * wd u + sho n pl wd u ∧ nf n u 2 * wd u + sho n pl wd u ≤ 15018 ∧ 0 ≤ nf n u 2 * wd u ∧ nf n u 2 * wd u ≤ 18 := by
  have hN := hW.1
  have hb := (hW.2.1 u (by omega) (by omega)).2.2.1
  have hwu := hw u h1 h2
  have hs := sho_bd hW hp hw (show 0 ≤ u by omega) h2
  have : 0 ≤ nf n u 2 * wd u ∧ nf n u 2 * wd u ≤ 18 := by
    rcases (show wd u = 1 ∨ wd u = 2 by omega) with e | e <;> rw [e] <;> omega
  omega
/-- what a row of sums holds stays small -/
theorem sum_bd {n : aN} (hW : WF n) {pl wd : Int → Int} (hp : PlOk n pl) (hw : WdOk n wd) {w v : Int} (hv : 0 ≤ v ∧ v < n 0) (hwv : 0 ≤ w ∧ w < n 0) : 0 ≤ rf (fun u s => s + wt1 n wd (sho n pl wd) w u) (if mEnd n w = true then nf n w 4 else 0) (v + 1) (n 0) ∧ rf (fun u s => s + wt1 n wd (sho n pl wd) w u) (if mEnd n w = true then nf n w 4 else 0) (v + 1) (n 0) ≤ 9 + 15018 * (n 0 - (v + 1)) := by
  have hN := hW.1
  have hb := (hW.2.1 w hwv.1 (by omega)).2.2.2.2.1
  exact rf_inv (f := fun u s => s + wt1 n wd (sho n pl wd) w u) (lo := v + 1) (fun u s => 0 ≤ s ∧ s ≤ 9 + 15018 * (u - (v + 1))) (by split <;> constructor <;> omega) (n 0 - (v + 1)).toNat (n 0) (by omega) (by
    intro u s g1 g2 g3
    have := wt_bd hW hp hw (show 1 ≤ u by omega) g2
    simp only [wt1]
    split <;> constructor <;> omega)
theorem go_weigh2 {P : aP} {d : Nat} {K : aK} {I : aI} {R : aR} {S : aS} {a : Nat} {n : aN} {pl wd : Int → Int} {E : Int} (hT : TiS R S) (hS : NetS R S a) (hR : NetP I a n pl wd) (hW : WF n) (hp : PlOk n pl) (hw : WdOk n wd) (ha : a + 13 < 29 ∨ 33 < a) (z : aV)
    (h30 : ∀ v, 0 ≤ v → v < n 0 → I 30 v = if mEnd n v = true then nf n v 4 else 0)
    (hK : ∀ I', Fr [30, 31] I I' → (∀ v, 0 ≤ v → v < n 0 → I' 30 v = bea n pl wd v ∧ I' 31 v = sho n pl wd v) → K none I' R S) : Go P 40 (d + 1) K 41 [vr 29, vr a, vi E, vi (n 0), z] [] I R S := by
  obtain ⟨t0, q1, t1, q2, t2, q3, t3, q4, t4⟩ := id hT
  obtain ⟨s0, sr1, sm1, sr2, sm2, sr3, sm3, sr4, sm4, sr5, sm5, sr6, sm6, sr7, sm7, sr8, sm8, sr9, sm9, sr10, sm10, sr11, sm11, sr12, sm12, sr13, sm13⟩ := id hS
  have hN := hW.1
  have loop : ∀ (m : Nat) (v : Int) (I' : aI) (z : aV), v = m → v < n 0 → Fr [30, 31] I I' → (∀ w, 0 ≤ w → w ≤ v → I' 30 w = rf (fun u s => s + wt1 n wd (sho n pl wd) w u) (if mEnd n w = true then nf n w 4 else 0) (v + 1) (n 0)) → (∀ u, v < u → u < n 0 → I' 30 u = bea n pl wd u ∧ I' 31 u = sho n pl wd u) → Go P 40 (d + 1) K 48 [vr 29, vr a, vi E, vi v, z] [] I' R S := by
    intro m
    induction m with
    | zero =>
      intro v I' z g0 g1 hF hx hy
      have hv : v = 0 := by omega
      subst hv
      have e30 : I' 30 0 = bea n pl wd 0 := by
        rw [hx 0 (by omega) (by omega), bea_eq hN.2.1 (by omega) (by omega)]
        rfl
      refine Go.walk 400 [48] E40 E40_ok (fun G C hG hC => ?_)
      (repeat ((conv => whnf); first | refine ⟨_, by assumption, ?_⟩ | refine ⟨_, _, by assumption, ?_⟩ | refine ⟨(show _ ∧ _ by omega), ?_⟩ | refine ⟨(show _ ∨ _ by omega), ?_⟩ | refine ⟨fun h => absurd h (by decide), fun _ => ?_⟩ | refine ⟨fun _ => ?_, fun h => absurd h (by decide)⟩ | refine ⟨fun _ => ?_, fun h => absurd rfl h⟩ | refine ⟨fun h => absurd rfl h, fun _ => ?_⟩)); try (conv => whnf)
      refine hK _ (hF.put (by decide)) (fun u p0 p1 => ?_)
      by_cases w : u = 0
      · subst w
        rw [uI_ne (by omega), uI_at, e30]
        refine ⟨rfl, ?_⟩
        simp only [sho, mShow]
        rw [if_neg (by rw [hp.2]; omega)]
      · rw [uI_ne (by omega), uI_ne (by omega)]
        exact hy u (by omega) p1
    | succ m ih =>
      intro v I' z g0 g1 hF hx hy
      have e30 : I' 30 v = bea n pl wd v := by
        rw [hx v (by omega) (by omega), bea_eq hN.2.1 (by omega) (by omega)]
        rfl
      have hbe := bea_bd hW hp.1 hw (v := v) (by omega) g1
      have e7 : I' (a + 8) v = pl v := by rw [hF (a + 8) (by simp; omega)]; exact hR.2.2.1 v (by omega) g1
      have hpv := hp.1 v (by omega) g1
      obtain ⟨r0, r1, r2, r4, r5, r6⟩ := hR.2.1 v (by omega) (by omega)
      have hab := (hW.2.1 v (by omega) (by omega)).1
      have ea : ∀ x : Int, uI I' 31 v x (a + 1) v = nf n v 0 := fun x => by rw [uI_ne (by omega), hF (a + 1) (by simp; omega)]; exact r0
      have ec : ∀ x : Int, uI I' 31 v x (a + 3) v = nf n v 2 := fun x => by rw [uI_ne (by omega), hF (a + 3) (by simp; omega)]; exact r2
      have ew : ∀ x : Int, uI I' 31 v x (a + 4) v = wd v := fun x => by rw [uI_ne (by omega), hF (a + 4) (by simp; omega)]; exact hR.2.2.2.1 v (by omega) g1
      have es : ∀ x : Int, uI I' 31 v x 31 v = x := fun x => uI_at
      have eb : ∀ x : Int, uI I' 31 v x 30 (nf n v 0) = rf (fun u s => s + wt1 n wd (sho n pl wd) (nf n v 0) u) (if mEnd n (nf n v 0) = true then nf n (nf n v 0) 4 else 0) (v + 1) (n 0) := fun x => by rw [uI_ne (by omega)]; exact hx (nf n v 0) hab.1 (by omega)
      have hsb := sum_bd hW hp hw (w := nf n v 0) (v := v) (by omega) (by omega)
      have hwb := wt_bd hW hp hw (u := v) (by omega) g1
      have key : ∀ x : Int, x = sho n pl wd v → ∀ z : aV, Go P 40 (d + 1) K 48 [vr 29, vr a, vi E, vi (v + -1), z] [] (uI (uI I' 31 v x) 30 (nf n v 0) (rf (fun u s => s + wt1 n wd (sho n pl wd) (nf n v 0) u) (if mEnd n (nf n v 0) = true then nf n (nf n v 0) 4 else 0) (v + 1) (n 0) + (nf n v 2 * wd v + x))) R S := by
        intro x hxx z
        subst hxx
        refine ih (v + -1) _ z (by omega) (by omega) ((hF.put (by decide)).put (by decide)) (fun w p0 p1 => ?_) (fun u p0 p1 => ?_)
        · have e1 : v + -1 + 1 = v := by omega
          rw [e1, rf_low (lo := v) (n 0 - v - 1).toNat (n 0) (by omega)]
          by_cases q : w = nf n v 0
          · subst q
            rw [uI_at]
            have : wt1 n wd (sho n pl wd) (nf n v 0) v = nf n v 2 * wd v + sho n pl wd v := by unfold wt1; rw [if_pos rfl]
            rw [this]
            omega
          · rw [uI_ne (by omega), uI_ne (by omega), wt1_off hW (fun z => q z.symm), hx w p0 (by omega)]
            omega
        · by_cases q : u = v
          · subst q
            rw [uI_ne (by omega), uI_ne (by omega), uI_ne (by omega), uI_at]
            exact ⟨e30, rfl⟩
          · rw [uI_ne (by omega), uI_ne (by omega), uI_ne (by omega), uI_ne (by omega)]
            exact hy u (by omega) p1
      by_cases hk : pl v = 0
      · have esh : I' 30 v = sho n pl wd v := by
          rw [e30]
          simp only [sho, mShow]
          rw [if_neg (by omega)]
        refine Go.walk 400 [48] E40 E40_ok (fun G C hG hC => ?_)
        (repeat ((conv => whnf); first | refine ⟨_, by assumption, ?_⟩ | refine ⟨_, _, by assumption, ?_⟩ | refine ⟨(show _ ∧ _ by omega), ?_⟩ | refine ⟨(show _ ∨ _ by omega), ?_⟩ | refine ⟨fun h => absurd h (by decide), fun _ => ?_⟩ | refine ⟨fun _ => ?_, fun h => absurd h (by decide)⟩ | refine ⟨fun _ => ?_, fun h => absurd rfl h⟩ | refine ⟨fun h => absurd rfl h, fun _ => ?_⟩)); try (conv => whnf)
        refine ⟨fun q => absurd q (by omega), fun _ => ?_⟩
        (repeat ((conv => whnf); first | refine ⟨_, by assumption, ?_⟩ | refine ⟨_, _, by assumption, ?_⟩ | refine ⟨(show _ ∧ _ by omega), ?_⟩ | refine ⟨(show _ ∨ _ by omega), ?_⟩ | refine ⟨fun h => absurd h (by decide), fun _ => ?_⟩ | refine ⟨fun _ => ?_, fun h => absurd h (by decide)⟩ | refine ⟨fun _ => ?_, fun h => absurd rfl h⟩ | refine ⟨fun h => absurd rfl h, fun _ => ?_⟩)); try (conv => whnf)
        rw [e7]
        refine ⟨fun q => absurd hk q, fun _ => ?_⟩
        have ea := ea (I' 30 v)
        have ec := ec (I' 30 v)
        have ew := ew (I' 30 v)
        have es := es (I' 30 v)
        have eb := eb (I' 30 v)
        (repeat ((conv => whnf); first | refine ⟨_, by assumption, ?_⟩ | refine ⟨_, _, by assumption, ?_⟩ | refine ⟨(show _ ∧ _ by omega), ?_⟩ | refine ⟨(show _ ∨ _ by omega), ?_⟩ | refine ⟨fun h => absurd h (by decide), fun _ => ?_⟩ | refine ⟨fun _ => ?_, fun h => absurd h (by decide)⟩ | refine ⟨fun _ => ?_, fun h => absurd rfl h⟩ | refine ⟨fun h => absurd rfl h, fun _ => ?_⟩)); try (conv => whnf)
        rw [ea]
        (repeat ((conv => whnf); first | refine ⟨_, by assumption, ?_⟩ | refine ⟨_, _, by assumption, ?_⟩ | refine ⟨(show _ ∧ _ by omega), ?_⟩ | refine ⟨(show _ ∨ _ by omega), ?_⟩ | refine ⟨fun h => absurd h (by decide), fun _ => ?_⟩ | refine ⟨fun _ => ?_, fun h => absurd h (by decide)⟩ | refine ⟨fun _ => ?_, fun h => absurd rfl h⟩ | refine ⟨fun h => absurd rfl h, fun _ => ?_⟩)); try (conv => whnf)
        rw [eb, ec, ew, es]
        refine hG _ _ _ _ _ _ ?_
        exact key _ esh _
      · have e9 : I' (a + 9) (pl v) = sho n pl wd v := by
          rw [hF (a + 9) (by simp; omega), (hR.2.2.2.2.1 (pl v) (by omega) (by omega)).1]
          simp only [sho, mShow]
          rw [if_pos (by omega)]
        refine Go.walk 400 [48] E40 E40_ok (fun G C hG hC => ?_)
        (repeat ((conv => whnf); first | refine ⟨_, by assumption, ?_⟩ | refine ⟨_, _, by assumption, ?_⟩ | refine ⟨(show _ ∧ _ by omega), ?_⟩ | refine ⟨(show _ ∨ _ by omega), ?_⟩ | refine ⟨fun h => absurd h (by decide), fun _ => ?_⟩ | refine ⟨fun _ => ?_, fun h => absurd h (by decide)⟩ | refine ⟨fun _ => ?_, fun h => absurd rfl h⟩ | refine ⟨fun h => absurd rfl h, fun _ => ?_⟩)); try (conv => whnf)
        refine ⟨fun q => absurd q (by omega), fun _ => ?_⟩
        (repeat ((conv => whnf); first | refine ⟨_, by assumption, ?_⟩ | refine ⟨_, _, by assumption, ?_⟩ | refine ⟨(show _ ∧ _ by omega), ?_⟩ | refine ⟨(show _ ∨ _ by omega), ?_⟩ | refine ⟨fun h => absurd h (by decide), fun _ => ?_⟩ | refine ⟨fun _ => ?_, fun h => absurd h (by decide)⟩ | refine ⟨fun _ => ?_, fun h => absurd rfl h⟩ | refine ⟨fun h => absurd rfl h, fun _ => ?_⟩)); try (conv => whnf)
        rw [e7]
        refine ⟨fun _ => ?_, fun q => absurd q hk⟩
        have ea := ea (I' (a + 9) (pl v))
        have ec := ec (I' (a + 9) (pl v))
        have ew := ew (I' (a + 9) (pl v))
        have es := es (I' (a + 9) (pl v))
        have eb := eb (I' (a + 9) (pl v))
        (repeat ((conv => whnf); first | refine ⟨_, by assumption, ?_⟩ | refine ⟨_, _, by assumption, ?_⟩ | refine ⟨(show _ ∧ _ by omega), ?_⟩ | refine ⟨(show _ ∨ _ by omega), ?_⟩ | refine ⟨fun h => absurd h (by decide), fun _ => ?_⟩ | refine ⟨fun _ => ?_, fun h => absurd h (by decide)⟩ | refine ⟨fun _ => ?_, fun h => absurd rfl h⟩ | refine ⟨fun h => absurd rfl h, fun _ => ?_⟩)); try (conv => whnf)
        rw [ea]
        (repeat ((conv => whnf); first | refine ⟨_, by assumption, ?_⟩ | refine ⟨_, _, by assumption, ?_⟩ | refine ⟨(show _ ∧ _ by omega), ?_⟩ | refine ⟨(show _ ∨ _ by omega), ?_⟩ | refine ⟨fun h => absurd h (by decide), fun _ => ?_⟩ | refine ⟨fun _ => ?_, fun h => absurd h (by decide)⟩ | refine ⟨fun _ => ?_, fun h => absurd rfl h⟩ | refine ⟨fun h => absurd rfl h, fun _ => ?_⟩)); try (conv => whnf)
        rw [eb, ec, ew, es]
        refine hG _ _ _ _ _ _ ?_
        exact key _ e9 _
  have e0 : I a ((0 : Nat) : Int) = n 0 := hR.1.1
  refine Go.walk 400 [48] E40 E40_ok (fun G C hG hC => ?_)
  (repeat ((conv => whnf); first | refine ⟨_, by assumption, ?_⟩ | refine ⟨_, _, by assumption, ?_⟩ | refine ⟨(show _ ∧ _ by omega), ?_⟩ | refine ⟨(show _ ∨ _ by omega), ?_⟩ | refine ⟨fun h => absurd h (by decide), fun _ => ?_⟩ | refine ⟨fun _ => ?_, fun h => absurd h (by decide)⟩ | refine ⟨fun _ => ?_, fun h => absurd rfl h⟩ | refine ⟨fun h => absurd rfl h, fun _ => ?_⟩)); try (conv => whnf)
  rw [e0]
  refine hG _ _ _ _ _ _ ?_
  exact loop (n 0 - 1).toNat (n 0 - 1) I z (by omega) (by omega) Fr.rf (fun w p0 p1 => by
    rw [h30 w p0 (by omega), rf_nil (by omega)]) (fun u p0 p1 => by omega)
/-- weigh(net, ends) -/
theorem ok_weigh {P : aP} {d : Nat} {K : aK} {I : aI} {R : aR} {S : aS} {a : Nat} {n : aN} {pl wd : Int → Int} (hT : TiS R S) (hS : NetS R S a) (hR : NetP I a n pl wd) (hW : WF n) (hp : PlOk n pl) (hw : WdOk n wd) (ha : a + 13 < 29 ∨ 33 < a)
    (hK : ∀ I', Fr [30, 31] I I' → (∀ v, 0 ≤ v → v < n 0 → I' 30 v = bea n pl wd v ∧ I' 31 v = sho n pl wd v) → K none I' R S) : Ok P 40 (d + 1) [vr 29, vr a, vi (mEnds n)] I R S K := by
  refine Ok.of (by decide) rfl (Nat.le_of_ble_eq_true rfl) ?_
  refine Go.walk 400 [2] E40 E40_ok (fun G C hG hC => ?_)
  (repeat ((conv => whnf); first | refine ⟨_, by assumption, ?_⟩ | refine ⟨_, _, by assumption, ?_⟩ | refine ⟨(show _ ∧ _ by omega), ?_⟩ | refine ⟨(show _ ∨ _ by omega), ?_⟩ | refine ⟨fun h => absurd h (by decide), fun _ => ?_⟩ | refine ⟨fun _ => ?_, fun h => absurd h (by decide)⟩ | refine ⟨fun _ => ?_, fun h => absurd rfl h⟩ | refine ⟨fun h => absurd rfl h, fun _ => ?_⟩)); try (conv => whnf)
  refine hG _ _ _ _ _ _ ?_
  refine go_weigh1 hT hS hR hW ha _ (fun I' hF hx => ?_)
  refine go_weigh2 hT hS (hR.cg (fun x g1 g2 => hF x (by simp; omega))) hW hp hw ha _ hx (fun I2 hF2 hy => ?_)
  exact hK I2 (hF.trans hF2 (by simp <;> omega)) hy
