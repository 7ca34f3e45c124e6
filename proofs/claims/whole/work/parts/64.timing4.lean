/-! the timing of the class: judge, of -/
theorem bOr0 {x : Int} (h : iR x) : bOr x 0 = x := by
  refine tb_ext iR_or h (fun i _ => ?_)
  rw [tb_or, tb_zero, Bool.or_false]
def slS (n : aN) (tm : Int → Int) (v least : Int) : Int := if (bel n v 0 && mEnd n v && decide (nf n v 5 - tm v < least)) = true then nf n v 5 - tm v else least
def slP (n : aN) (tm : Int → Int) (hi : Int) : Int := rf (slS n tm) 900000 1 hi
def wrP (n : aN) (tu : Int → Int) (hi : Int) : Int := rf (fun v set => bOr set (if (bel n v 0 && mEnd n v && decide (nf n v 6 ≠ tu v)) = true then bShl 1 v else 0)) 0 1 hi
def woP (n : aN) (tm : Int → Int) (hi : Int) : Int := rf (fun v w => if (mEnd n v && decide (nf n v 5 - tm v < slP n tm v)) = true then v else w) (-1) 1 hi
theorem slP_all {n : aN} {tm : Int → Int} : slP n tm (n 0) = mSlack n tm 0 := rfl
theorem wrP_all {n : aN} {tu : Int → Int} : wrP n tu (n 0) = mWrong n tu 0 := rfl
theorem slP_bd {n : aN} (hW : WF n) {tm : Int → Int} (h : ∀ v, 1 ≤ v → v < n 0 → 0 ≤ tm v ∧ tm v ≤ 920000) {hi : Int} (h1 : 1 ≤ hi) (h2 : hi ≤ n 0) : -920000 ≤ slP n tm hi ∧ slP n tm hi ≤ 900000 := by
  have hN := hW.1
  unfold slP
  refine rf_inv (fun _ x => -920000 ≤ x ∧ x ≤ 900000) (by omega) (hi - 1).toNat hi (by omega) (fun u x g1 g2 g3 => ?_)
  unfold slS
  split
  · have := h u g1 (by omega)
    have := hW.2.1 u (by omega) (by omega)
    omega
  · exact g3
theorem wrP_iR {n : aN} {tu : Int → Int} {hi : Int} (h1 : 1 ≤ hi) : iR (wrP n tu hi) := by
  unfold wrP
  exact rf_inv (fun _ x => iR x) iR0 (hi - 1).toNat hi (by omega) (fun u x _ _ _ => iR_or)
/-- what a timing holds -/
def TimR (I : aI) (n : aN) (pl wd : Int → Int) : Prop := (∀ v, 0 ≤ v → v < n 0 → I 30 v = bea n pl wd v ∧ I 31 v = sho n pl wd v ∧ I 32 v = tim n pl wd 0 (src n pl wd) v ∧ I 33 v = tur n pl 0 0 v) ∧ I 29 4 = sla n pl wd ∧ I 29 5 = woP n (tim n pl wd 0 (src n pl wd)) (n 0) ∧ I 29 6 = wro n pl
theorem tur01 {n : aN} {pl : Int → Int} {top turn v : Int} : 0 ≤ tur n pl top turn v ∧ tur n pl top turn v ≤ 1 := cU_01 6 v
theorem ok_judge {P : aP} {d : Nat} {K : aK} {I : aI} {R : aR} {S : aS} {a : Nat} {n : aN} {pl wd : Int → Int} (hT : TiS R S) (hS : NetS R S a) (hR : NetP I a n pl wd) (hW : WF n) (hp : PlOk n pl) (hw : WdOk n wd) (ha : a + 13 < 29 ∨ 33 < a) (hB : ∀ v, 0 ≤ v → v < n 0 → I 32 v = tim n pl wd 0 (src n pl wd) v ∧ I 33 v = tur n pl 0 0 v)
    (hK : ∀ I', Fr [29] I I' → I' 29 4 = sla n pl wd ∧ I' 29 5 = woP n (tim n pl wd 0 (src n pl wd)) (n 0) ∧ I' 29 6 = wro n pl → K none I' R S) : Ok P 42 (d + 1) [vr 29, vr a, vi (mEnds n)] I R S K := by
  obtain ⟨t0, q1, t1, q2, t2, q3, t3, q4, t4⟩ := id hT
  obtain ⟨s0, sr1, sm1, sr2, sm2, sr3, sm3, sr4, sm4, sr5, sm5, sr6, sm6, sr7, sm7, sr8, sm8, sr9, sm9, sr10, sm10, sr11, sm11, sr12, sm12, sr13, sm13⟩ := id hS
  have hN := hW.1
  have hz := iR_mEnds (n := n) hN.1
  have htb : ∀ v, 1 ≤ v → v < n 0 → 0 ≤ tim n pl wd 0 (src n pl wd) v ∧ tim n pl wd 0 (src n pl wd) v ≤ 920000 := fun v g0 g1 => tim_bd hW (Int.le_refl 0) (src_bd hW hp hw) hp.1 hp.2 hw (by omega) g1 (bel0 hW (by omega) (by omega))
  have loop : ∀ (m : Nat) (v : Int) (I' : aI), 1 ≤ v → n 0 - v = m → Fr [29] I I' → I' 29 4 = slP n (tim n pl wd 0 (src n pl wd)) v ∧ I' 29 5 = woP n (tim n pl wd 0 (src n pl wd)) v ∧ I' 29 6 = wrP n (tur n pl 0 0) v → Go P 42 (d + 1) K 18 [vr 29, vr a, vi (mEnds n), vi v] [] I' R S := by
    intro m
    induction m with
    | zero =>
      intro v I' g0 gm hF hx
      have hv : v = n 0 := by omega
      have e0 : I' a ((0 : Nat) : Int) = n 0 := by rw [hF a (by simp; omega)]; exact hR.1.1
      refine Go.walk 400 [18] E42 E42_ok (fun G C hG hC => ?_)
      (repeat ((conv => whnf); first | refine ⟨_, by assumption, ?_⟩ | refine ⟨_, _, by assumption, ?_⟩ | refine ⟨(show _ ∧ _ by omega), ?_⟩ | refine ⟨(show _ ∨ _ by omega), ?_⟩ | refine ⟨fun h => absurd h (by decide), fun _ => ?_⟩ | refine ⟨fun _ => ?_, fun h => absurd h (by decide)⟩ | refine ⟨fun _ => ?_, fun h => absurd rfl h⟩ | refine ⟨fun h => absurd rfl h, fun _ => ?_⟩)); try (conv => whnf)
      rw [e0]
      refine ⟨fun _ => ?_, fun q => absurd (show n 0 ≤ v by omega) q⟩
      (repeat ((conv => whnf); first | refine ⟨_, by assumption, ?_⟩ | refine ⟨_, _, by assumption, ?_⟩ | refine ⟨(show _ ∧ _ by omega), ?_⟩ | refine ⟨(show _ ∨ _ by omega), ?_⟩ | refine ⟨fun h => absurd h (by decide), fun _ => ?_⟩ | refine ⟨fun _ => ?_, fun h => absurd h (by decide)⟩ | refine ⟨fun _ => ?_, fun h => absurd rfl h⟩ | refine ⟨fun h => absurd rfl h, fun _ => ?_⟩)); try (conv => whnf)
      rw [hv] at hx
      exact hK I' hF hx
    | succ m ih =>
      intro v I' g0 gm hF hx
      obtain ⟨x4, x5, x6⟩ := hx
      have hR' : NetP I' a n pl wd := hR.cg (fun x p1 p2 => hF x (by simp; omega))
      have e0 : I' a ((0 : Nat) : Int) = n 0 := hR'.1.1
      have hsb := slP_bd hW htb g0 (show v ≤ n 0 by omega)
      have hwr := wrP_iR (n := n) (tu := tur n pl 0 0) g0
      have htv := htb v g0 (by omega)
      have htu := tur01 (n := n) (pl := pl) (top := 0) (turn := 0) (v := v)
      obtain ⟨-, -, -, -, r5, r6⟩ := hR'.2.1 v (by omega) (by omega)
      obtain ⟨-, -, -, -, -, b5, b6, -⟩ := hW.2.1 v (by omega) (by omega)
      have e32 : I' 32 v = tim n pl wd 0 (src n pl wd) v := by rw [hF 32 (by decide)]; exact (hB v (by omega) (by omega)).1
      have e33 : I' 33 v = tur n pl 0 0 v := by rw [hF 33 (by decide)]; exact (hB v (by omega) (by omega)).2
      have hb := ends_bit hW (v := v) (by omega)
      have hb1 := bAnd1 (bShr (mEnds n) v)
      have hy := iR_sh (mEnds n) v
      have hbe := bel0 hW (v := v) (by omega) (by omega)
      have s1 : slP n (tim n pl wd 0 (src n pl wd)) (v + 1) = slS n (tim n pl wd 0 (src n pl wd)) v (slP n (tim n pl wd 0 (src n pl wd)) v) := rf_succ g0
      have s2 : wrP n (tur n pl 0 0) (v + 1) = bOr (wrP n (tur n pl 0 0) v) (if (bel n v 0 && mEnd n v && decide (nf n v 6 ≠ tur n pl 0 0 v)) = true then bShl 1 v else 0) := rf_succ g0
      have s3 : woP n (tim n pl wd 0 (src n pl wd)) (v + 1) = if (mEnd n v && decide (nf n v 5 - tim n pl wd 0 (src n pl wd) v < slP n (tim n pl wd 0 (src n pl wd)) v)) = true then v else woP n (tim n pl wd 0 (src n pl wd)) v := rf_succ g0
      have x4' : I' 29 ((4 : Nat) : Int) = slP n (tim n pl wd 0 (src n pl wd)) v := x4
      have x6' : I' 29 ((6 : Nat) : Int) = wrP n (tur n pl 0 0) v := x6
      generalize tim n pl wd 0 (src n pl wd) = T at *
      generalize tur n pl 0 0 = U at *
      have ih2 := ih (v + 1)
      rw [s1, s2, s3] at ih2
      unfold slS at ih2
      simp only [hbe, Bool.true_and] at ih2
      refine Go.walk 400 [18] E42 E42_ok (fun G C hG hC => ?_)
      (repeat ((conv => whnf); first | refine ⟨_, by assumption, ?_⟩ | refine ⟨_, _, by assumption, ?_⟩ | refine ⟨(show _ ∧ _ by omega), ?_⟩ | refine ⟨(show _ ∨ _ by omega), ?_⟩ | refine ⟨fun h => absurd h (by decide), fun _ => ?_⟩ | refine ⟨fun _ => ?_, fun h => absurd h (by decide)⟩ | refine ⟨fun _ => ?_, fun h => absurd rfl h⟩ | refine ⟨fun h => absurd rfl h, fun _ => ?_⟩)); try (conv => whnf)
      rw [e0]
      refine ⟨fun q => absurd q (by omega), fun _ => ?_⟩
      (repeat ((conv => whnf); first | refine ⟨_, by assumption, ?_⟩ | refine ⟨_, _, by assumption, ?_⟩ | refine ⟨(show _ ∧ _ by omega), ?_⟩ | refine ⟨(show _ ∨ _ by omega), ?_⟩ | refine ⟨fun h => absurd h (by decide), fun _ => ?_⟩ | refine ⟨fun _ => ?_, fun h => absurd h (by decide)⟩ | refine ⟨fun _ => ?_, fun h => absurd rfl h⟩ | refine ⟨fun h => absurd rfl h, fun _ => ?_⟩)); try (conv => whnf)
      cases hq : mEnd n v with
      | false =>
        rw [hq] at hb ih2
        rw [hb]
        refine ⟨fun q => absurd rfl q, fun _ => ?_⟩
        (repeat ((conv => whnf); first | refine ⟨_, by assumption, ?_⟩ | refine ⟨_, _, by assumption, ?_⟩ | refine ⟨(show _ ∧ _ by omega), ?_⟩ | refine ⟨(show _ ∨ _ by omega), ?_⟩ | refine ⟨fun h => absurd h (by decide), fun _ => ?_⟩ | refine ⟨fun _ => ?_, fun h => absurd h (by decide)⟩ | refine ⟨fun _ => ?_, fun h => absurd rfl h⟩ | refine ⟨fun h => absurd rfl h, fun _ => ?_⟩)); try (conv => whnf)
        refine hG _ _ _ _ _ _ ?_
        refine ih2 _ (by omega) (by omega) hF ⟨x4, x5, ?_⟩
        rw [Bool.false_and, if_neg Bool.false_ne_true, bOr0 hwr]
        exact x6
      | true =>
        rw [hq] at hb ih2
        rw [hb]
        simp only [Bool.true_and, decide_eq_true_eq] at ih2
        refine ⟨fun _ => ?_, fun q => absurd q (by decide)⟩
        (repeat ((conv => whnf); first | refine ⟨_, by assumption, ?_⟩ | refine ⟨_, _, by assumption, ?_⟩ | refine ⟨(show _ ∧ _ by omega), ?_⟩ | refine ⟨(show _ ∨ _ by omega), ?_⟩ | refine ⟨fun h => absurd h (by decide), fun _ => ?_⟩ | refine ⟨fun _ => ?_, fun h => absurd h (by decide)⟩ | refine ⟨fun _ => ?_, fun h => absurd rfl h⟩ | refine ⟨fun h => absurd rfl h, fun _ => ?_⟩)); try (conv => whnf)
        rw [r5, e32, x4']
        refine ⟨fun q => ?_, fun q => ?_⟩
        · rw [if_neg (by omega), if_neg (by omega)] at ih2
          (repeat ((conv => whnf); first | refine ⟨_, by assumption, ?_⟩ | refine ⟨_, _, by assumption, ?_⟩ | refine ⟨(show _ ∧ _ by omega), ?_⟩ | refine ⟨(show _ ∨ _ by omega), ?_⟩ | refine ⟨fun h => absurd h (by decide), fun _ => ?_⟩ | refine ⟨fun _ => ?_, fun h => absurd h (by decide)⟩ | refine ⟨fun _ => ?_, fun h => absurd rfl h⟩ | refine ⟨fun h => absurd rfl h, fun _ => ?_⟩)); try (conv => whnf)
          rw [r6, e33]
          refine ⟨fun q2 => ?_, fun q2 => ?_⟩
          · rw [if_neg (fun h => h q2), bOr0 hwr] at ih2
            (repeat ((conv => whnf); first | refine ⟨_, by assumption, ?_⟩ | refine ⟨_, _, by assumption, ?_⟩ | refine ⟨(show _ ∧ _ by omega), ?_⟩ | refine ⟨(show _ ∨ _ by omega), ?_⟩ | refine ⟨fun h => absurd h (by decide), fun _ => ?_⟩ | refine ⟨fun _ => ?_, fun h => absurd h (by decide)⟩ | refine ⟨fun _ => ?_, fun h => absurd rfl h⟩ | refine ⟨fun h => absurd rfl h, fun _ => ?_⟩)); try (conv => whnf)
            refine hG _ _ _ _ _ _ ?_
            exact ih2 _ (by omega) (by omega) hF ⟨x4, x5, x6⟩
          · rw [if_pos q2] at ih2
            (repeat ((conv => whnf); first | refine ⟨_, by assumption, ?_⟩ | refine ⟨_, _, by assumption, ?_⟩ | refine ⟨(show _ ∧ _ by omega), ?_⟩ | refine ⟨(show _ ∨ _ by omega), ?_⟩ | refine ⟨fun h => absurd h (by decide), fun _ => ?_⟩ | refine ⟨fun _ => ?_, fun h => absurd h (by decide)⟩ | refine ⟨fun _ => ?_, fun h => absurd rfl h⟩ | refine ⟨fun h => absurd rfl h, fun _ => ?_⟩)); try (conv => whnf)
            rw [x6']
            refine hG _ _ _ _ _ _ ?_
            refine ih2 _ (by omega) (by omega) (hF.put (by decide)) ⟨?_, ?_, ?_⟩
            · rw [uI_ne (by omega)]; exact x4
            · rw [uI_ne (by omega)]; exact x5
            · exact uI_at
        · rw [if_pos (by omega), if_pos (by omega)] at ih2
          have y6 : uI (uI I' 29 ((4 : Nat) : Int) (nf n v 5 - T v)) 29 ((5 : Nat) : Int) v (a + 7) v = nf n v 6 := by rw [uI_ne (by omega), uI_ne (by omega)]; exact r6
          have y33 : uI (uI I' 29 ((4 : Nat) : Int) (nf n v 5 - T v)) 29 ((5 : Nat) : Int) v 33 v = U v := by rw [uI_ne (by omega), uI_ne (by omega)]; exact e33
          have y9 : uI (uI I' 29 ((4 : Nat) : Int) (nf n v 5 - T v)) 29 ((5 : Nat) : Int) v 29 ((6 : Nat) : Int) = wrP n U v := by rw [uI_ne (by omega), uI_ne (by omega)]; exact x6
          (repeat ((conv => whnf); first | refine ⟨_, by assumption, ?_⟩ | refine ⟨_, _, by assumption, ?_⟩ | refine ⟨(show _ ∧ _ by omega), ?_⟩ | refine ⟨(show _ ∨ _ by omega), ?_⟩ | refine ⟨fun h => absurd h (by decide), fun _ => ?_⟩ | refine ⟨fun _ => ?_, fun h => absurd h (by decide)⟩ | refine ⟨fun _ => ?_, fun h => absurd rfl h⟩ | refine ⟨fun h => absurd rfl h, fun _ => ?_⟩)); try (conv => whnf)
          rw [r5, e32, y6, y33]
          refine ⟨by omega, fun q2 => ?_, fun q2 => ?_⟩
          · rw [if_neg (fun h => h q2), bOr0 hwr] at ih2
            (repeat ((conv => whnf); first | refine ⟨_, by assumption, ?_⟩ | refine ⟨_, _, by assumption, ?_⟩ | refine ⟨(show _ ∧ _ by omega), ?_⟩ | refine ⟨(show _ ∨ _ by omega), ?_⟩ | refine ⟨fun h => absurd h (by decide), fun _ => ?_⟩ | refine ⟨fun _ => ?_, fun h => absurd h (by decide)⟩ | refine ⟨fun _ => ?_, fun h => absurd rfl h⟩ | refine ⟨fun h => absurd rfl h, fun _ => ?_⟩)); try (conv => whnf)
            refine hG _ _ _ _ _ _ ?_
            refine ih2 _ (by omega) (by omega) ((hF.put (by decide)).put (by decide)) ⟨?_, ?_, ?_⟩
            · rw [uI_ne (by omega)]; exact uI_at
            · exact uI_at
            · exact y9
          · rw [if_pos q2] at ih2
            (repeat ((conv => whnf); first | refine ⟨_, by assumption, ?_⟩ | refine ⟨_, _, by assumption, ?_⟩ | refine ⟨(show _ ∧ _ by omega), ?_⟩ | refine ⟨(show _ ∨ _ by omega), ?_⟩ | refine ⟨fun h => absurd h (by decide), fun _ => ?_⟩ | refine ⟨fun _ => ?_, fun h => absurd h (by decide)⟩ | refine ⟨fun _ => ?_, fun h => absurd rfl h⟩ | refine ⟨fun h => absurd rfl h, fun _ => ?_⟩)); try (conv => whnf)
            rw [y9]
            refine hG _ _ _ _ _ _ ?_
            refine ih2 _ (by omega) (by omega) (((hF.put (by decide)).put (by decide)).put (by decide)) ⟨?_, ?_, ?_⟩
            · rw [uI_ne (by omega), uI_ne (by omega)]; exact uI_at
            · rw [uI_ne (by omega)]; exact uI_at
            · exact uI_at
  refine Ok.of (by decide) rfl (Nat.le_of_ble_eq_true rfl) ?_
  refine Go.walk 400 [18] E42 E42_ok (fun G C hG hC => ?_)
  (repeat ((conv => whnf); first | refine ⟨_, by assumption, ?_⟩ | refine ⟨_, _, by assumption, ?_⟩ | refine ⟨(show _ ∧ _ by omega), ?_⟩ | refine ⟨(show _ ∨ _ by omega), ?_⟩ | refine ⟨fun h => absurd h (by decide), fun _ => ?_⟩ | refine ⟨fun _ => ?_, fun h => absurd h (by decide)⟩ | refine ⟨fun _ => ?_, fun h => absurd rfl h⟩ | refine ⟨fun h => absurd rfl h, fun _ => ?_⟩)); try (conv => whnf)
  refine hG _ _ _ _ _ _ ?_
  refine loop (n 0 - 1).toNat 1 _ (by omega) (by omega) (((Fr.rf.put (by decide)).put (by decide)).put (by decide)) ⟨?_, ?_, ?_⟩
  · rw [uI_ne (by omega), uI_ne (by omega)]; exact uI_at.trans (rf_nil (by omega)).symm
  · rw [uI_ne (by omega)]; exact uI_at.trans (rf_nil (by omega)).symm
  · exact uI_at.trans (rf_nil (by omega)).symm
/-- ends() of a net with other widths and repeaters -/
theorem ok_endsP {P : aP} {d : Nat} {K : aK} {I : aI} {R : aR} {S : aS} {a : Nat} {n : aN} {pl wd : Int → Int} (hS : NetS R S a) (hR : NetP I a n pl wd) (hW : WF n) (hK : K (some (vi (mEnds n))) I R S) : Ok P 28 (d + 1) [vr a] I R S K := by
  obtain ⟨s0, sr1, sm1, sr2, sm2, sr3, sm3, sr4, sm4, sr5, sm5, sr6, sm6, sr7, sm7, sr8, sm8, sr9, sm9, sr10, sm10, sr11, sm11, sr12, sm12, sr13, sm13⟩ := id hS
  have hN := hW.1
  have e0 : I a ((0 : Nat) : Int) = n 0 := hR.1.1
  rw [← cEnds_eq hW] at hK
  have loop : ∀ (m : Nat) (v : Int), 1 ≤ v → n 0 - v = m → Go P 28 (d + 1) K 6 [vr a, vi (rf (fun v s => bOr s (bShl 1 v)) 0 1 v), vi (rf (fun v s => bOr s (bShl 1 (nf n v 0))) 0 1 v), vi v] [] I R S := by
    intro m
    induction m with
    | zero =>
      intro v h1 hm
      have hv : v = n 0 := by omega
      refine Go.walk 400 [6] E28 E28_ok (fun G C hG hC => ?_)
      (repeat ((conv => whnf); first | refine ⟨_, by assumption, ?_⟩ | refine ⟨_, _, by assumption, ?_⟩ | refine ⟨(show _ ∧ _ by omega), ?_⟩ | refine ⟨(show _ ∨ _ by omega), ?_⟩ | refine ⟨fun h => absurd h (by decide), fun _ => ?_⟩ | refine ⟨fun _ => ?_, fun h => absurd h (by decide)⟩ | refine ⟨fun _ => ?_, fun h => absurd rfl h⟩ | refine ⟨fun h => absurd rfl h, fun _ => ?_⟩)); try (conv => whnf)
      rw [e0]
      refine ⟨fun _ => ?_, fun q => absurd (show n 0 ≤ v by omega) q⟩
      (repeat ((conv => whnf); first | refine ⟨_, by assumption, ?_⟩ | refine ⟨_, _, by assumption, ?_⟩ | refine ⟨(show _ ∧ _ by omega), ?_⟩ | refine ⟨(show _ ∨ _ by omega), ?_⟩ | refine ⟨fun h => absurd h (by decide), fun _ => ?_⟩ | refine ⟨fun _ => ?_, fun h => absurd h (by decide)⟩ | refine ⟨fun _ => ?_, fun h => absurd rfl h⟩ | refine ⟨fun h => absurd rfl h, fun _ => ?_⟩)); try (conv => whnf)
      rw [hv]
      exact hK
    | succ m ih =>
      intro v h1 hm
      have ea := (hR.2.1 v (by omega) (by omega)).1
      have ih2 := ih (v + 1) (by omega) (by omega)
      rw [rf_succ h1, rf_succ h1] at ih2
      refine Go.walk 400 [6] E28 E28_ok (fun G C hG hC => ?_)
      (repeat ((conv => whnf); first | refine ⟨_, by assumption, ?_⟩ | refine ⟨_, _, by assumption, ?_⟩ | refine ⟨(show _ ∧ _ by omega), ?_⟩ | refine ⟨(show _ ∨ _ by omega), ?_⟩ | refine ⟨fun h => absurd h (by decide), fun _ => ?_⟩ | refine ⟨fun _ => ?_, fun h => absurd h (by decide)⟩ | refine ⟨fun _ => ?_, fun h => absurd rfl h⟩ | refine ⟨fun h => absurd rfl h, fun _ => ?_⟩)); try (conv => whnf)
      rw [e0]
      refine ⟨fun q => absurd q (by omega), fun _ => ?_⟩
      (repeat ((conv => whnf); first | refine ⟨_, by assumption, ?_⟩ | refine ⟨_, _, by assumption, ?_⟩ | refine ⟨(show _ ∧ _ by omega), ?_⟩ | refine ⟨(show _ ∨ _ by omega), ?_⟩ | refine ⟨fun h => absurd h (by decide), fun _ => ?_⟩ | refine ⟨fun _ => ?_, fun h => absurd h (by decide)⟩ | refine ⟨fun _ => ?_, fun h => absurd rfl h⟩ | refine ⟨fun h => absurd rfl h, fun _ => ?_⟩)); try (conv => whnf)
      rw [ea]
      refine hG _ _ _ _ _ _ ?_
      exact ih2
  refine Ok.of (by decide) rfl (Nat.le_of_ble_eq_true rfl) ?_
  refine Go.walk 400 [6] E28 E28_ok (fun G C hG hC => ?_)
  (repeat ((conv => whnf); first | refine ⟨_, by assumption, ?_⟩ | refine ⟨_, _, by assumption, ?_⟩ | refine ⟨(show _ ∧ _ by omega), ?_⟩ | refine ⟨(show _ ∨ _ by omega), ?_⟩ | refine ⟨fun h => absurd h (by decide), fun _ => ?_⟩ | refine ⟨fun _ => ?_, fun h => absurd h (by decide)⟩ | refine ⟨fun _ => ?_, fun h => absurd rfl h⟩ | refine ⟨fun h => absurd rfl h, fun _ => ?_⟩)); try (conv => whnf)
  refine hG _ _ _ _ _ _ ?_
  exact loop (n 0 - 1).toNat 1 (by omega) (by omega)
/-- Timing.of(net) -/
theorem ok_timing {P : aP} {d : Nat} {K : aK} {I : aI} {R : aR} {S : aS} {a : Nat} {n : aN} {pl wd : Int → Int} (hT : TiS R S) (hS : NetS R S a) (hR : NetP I a n pl wd) (hW : WF n) (hp : PlOk n pl) (hw : WdOk n wd) (ha : a + 13 < 29 ∨ 33 < a)
    (hK : ∀ I', Fr [29, 30, 31, 32, 33] I I' → TimR I' n pl wd → K (some (vr 29)) I' R S) : Ok P 39 (d + 3) [vr 29, vr a] I R S K := by
  obtain ⟨t0, q1, t1, q2, t2, q3, t3, q4, t4⟩ := id hT
  obtain ⟨s0, sr1, sm1, sr2, sm2, sr3, sm3, sr4, sm4, sr5, sm5, sr6, sm6, sr7, sm7, sr8, sm8, sr9, sm9, sr10, sm10, sr11, sm11, sr12, sm12, sr13, sm13⟩ := id hS
  refine Ok.of (by decide) rfl (Nat.le_of_ble_eq_true rfl) ?_
  refine Go.walk 400 [] E39 E39_ok (fun G C hG hC => ?_)
  (repeat ((conv => whnf); first | refine ⟨_, by assumption, ?_⟩ | refine ⟨_, _, by assumption, ?_⟩ | refine ⟨(show _ ∧ _ by omega), ?_⟩ | refine ⟨(show _ ∨ _ by omega), ?_⟩ | refine ⟨fun h => absurd h (by decide), fun _ => ?_⟩ | refine ⟨fun _ => ?_, fun h => absurd h (by decide)⟩ | refine ⟨fun _ => ?_, fun h => absurd rfl h⟩ | refine ⟨fun h => absurd rfl h, fun _ => ?_⟩)); try (conv => whnf)
  refine hC _ _ _ _ _ _ ?_
  refine ok_endsP hS hR hW ?_
  (repeat ((conv => whnf); first | refine ⟨_, by assumption, ?_⟩ | refine ⟨_, _, by assumption, ?_⟩ | refine ⟨(show _ ∧ _ by omega), ?_⟩ | refine ⟨(show _ ∨ _ by omega), ?_⟩ | refine ⟨fun h => absurd h (by decide), fun _ => ?_⟩ | refine ⟨fun _ => ?_, fun h => absurd h (by decide)⟩ | refine ⟨fun _ => ?_, fun h => absurd rfl h⟩ | refine ⟨fun h => absurd rfl h, fun _ => ?_⟩)); try (conv => whnf)
  refine hC _ _ _ _ _ _ ?_
  refine ok_weigh hT hS hR hW hp hw ha (fun I1 hF1 h1 => ?_)
  (repeat ((conv => whnf); first | refine ⟨_, by assumption, ?_⟩ | refine ⟨_, _, by assumption, ?_⟩ | refine ⟨(show _ ∧ _ by omega), ?_⟩ | refine ⟨(show _ ∨ _ by omega), ?_⟩ | refine ⟨fun h => absurd h (by decide), fun _ => ?_⟩ | refine ⟨fun _ => ?_, fun h => absurd h (by decide)⟩ | refine ⟨fun _ => ?_, fun h => absurd rfl h⟩ | refine ⟨fun h => absurd rfl h, fun _ => ?_⟩)); try (conv => whnf)
  refine hC _ _ _ _ _ _ ?_
  have hR1 : NetP I1 a n pl wd := hR.cg (fun x p1 p2 => hF1 x (by simp; omega))
  refine ok_run hT hS hR1 hW hp hw ha h1 (fun I2 hF2 h2 => ?_)
  (repeat ((conv => whnf); first | refine ⟨_, by assumption, ?_⟩ | refine ⟨_, _, by assumption, ?_⟩ | refine ⟨(show _ ∧ _ by omega), ?_⟩ | refine ⟨(show _ ∨ _ by omega), ?_⟩ | refine ⟨fun h => absurd h (by decide), fun _ => ?_⟩ | refine ⟨fun _ => ?_, fun h => absurd h (by decide)⟩ | refine ⟨fun _ => ?_, fun h => absurd rfl h⟩ | refine ⟨fun h => absurd rfl h, fun _ => ?_⟩)); try (conv => whnf)
  refine hC _ _ _ _ _ _ ?_
  have hR2 : NetP I2 a n pl wd := hR1.cg (fun x p1 p2 => hF2 x (by simp; omega))
  refine ok_judge hT hS hR2 hW hp hw ha h2 (fun I3 hF3 h3 => ?_)
  (repeat ((conv => whnf); first | refine ⟨_, by assumption, ?_⟩ | refine ⟨_, _, by assumption, ?_⟩ | refine ⟨(show _ ∧ _ by omega), ?_⟩ | refine ⟨(show _ ∨ _ by omega), ?_⟩ | refine ⟨fun h => absurd h (by decide), fun _ => ?_⟩ | refine ⟨fun _ => ?_, fun h => absurd h (by decide)⟩ | refine ⟨fun _ => ?_, fun h => absurd rfl h⟩ | refine ⟨fun h => absurd rfl h, fun _ => ?_⟩)); try (conv => whnf)
  refine hK I3 ((hF1.trans hF2 (L := [29, 30, 31, 32, 33]) (by simp <;> omega)).trans hF3 (by simp <;> omega)) ⟨fun v g0 g1 => ?_, h3⟩
  rw [hF3 30 (by decide), hF3 31 (by decide), hF3 32 (by decide), hF3 33 (by decide), hF2 30 (by decide), hF2 31 (by decide)]
  exact ⟨(h1 v g0 g1).1, (h1 v g0 g1).2, h2 v g0 g1⟩
