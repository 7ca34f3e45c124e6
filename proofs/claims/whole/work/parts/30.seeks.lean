/-! the reference: seeks, seeksPoints -/
theorem iR_t32 (x : Int32) : iR x.toInt := ⟨by have := Int32.le_toInt x; omega, by have := Int32.toInt_lt x; omega⟩
theorem iR_mWrong {n : aN} {tu : Int → Int} {top : Int} : iR (mWrong n tu top) := by
  unfold mWrong
  by_cases h : (1 : Int) ≤ n 0
  · exact rf_inv (fun _ x => iR x) iR0 (n 0 - 1).toNat (n 0) (by omega) (fun u x _ _ _ => iR_t32 _)
  · rw [rf_nil (by omega)]; exact iR0
theorem mSlack_bd {n : aN} (hW : WF n) {tm : Int → Int} {top : Int} (h : ∀ v, 1 ≤ v → v < n 0 → bel n v top = true → 0 ≤ tm v ∧ tm v ≤ 920000) : -920000 ≤ mSlack n tm top ∧ mSlack n tm top ≤ 900000 := by
  have hN := hW.1
  unfold mSlack
  refine rf_inv (fun _ x => -920000 ≤ x ∧ x ≤ 900000) (by omega) (n 0 - 1).toNat (n 0) (by omega) (fun u x h1 h2 h3 => ?_)
  split
  · rename_i hc
    simp only [Bool.and_eq_true, decide_eq_true_eq] at hc
    have := h u h1 h2 hc.1.1
    have := hW.2.1 u (by omega) (by omega)
    omega
  · exact h3
theorem mCost_bd {n : aN} (hW : WF n) {pl : Int → Int} {top : Int} (hp : PlOk n pl) : 0 ≤ mCost n pl top ∧ mCost n pl top ≤ 495 := by
  have hN := hW.1
  unfold mCost
  have key := rf_inv (f := fun v s => s + (if (bel n v top && decide (0 < pl v)) = true then kf n (pl v) 4 else 0)) (a := (0 : Int)) (lo := 1) (fun u x => 0 ≤ x ∧ x ≤ 99 * (u - 1)) (by omega) (n 0 - 1).toNat (n 0) (by omega) (fun u x h1 h2 h3 => by
    split
    · rename_i hc
      simp only [Bool.and_eq_true, decide_eq_true_eq] at hc
      have := hp.1 u (by omega) h2
      have := hW.2.2.2.2.2 (pl u) (by omega) (by omega)
      omega
    · omega)
  omega
def trp (n : aN) (pl : Int → Int) (top : Int) : aT := (sho n pl (wd0 n) top, mSlack n (tim n pl (wd0 n) top 0) top, mCost n pl top)
def tB (x : aT) : Prop := (0 ≤ x.1 ∧ x.1 ≤ 15000) ∧ (-920000 ≤ x.2.1 ∧ x.2.1 ≤ 900000) ∧ (0 ≤ x.2.2 ∧ x.2.2 ≤ 495)
theorem tB.tR {x : aT} (h : tB x) : tR x := by
  obtain ⟨h1, h2, h3⟩ := h
  exact ⟨by omega, by omega, by omega⟩
theorem sho_bd {n : aN} (hW : WF n) {pl wd : Int → Int} (hp : PlOk n pl) (hw : WdOk n wd) {v : Int} (h0 : 0 ≤ v) (h1 : v < n 0) : 0 ≤ sho n pl wd v ∧ sho n pl wd v ≤ 15000 := by
  have hb := bea_bd hW hp.1 hw h0 h1
  have := hp.1 v h0 h1
  simp only [sho, mShow]
  split
  · have := hW.2.2.2.2.2 (pl v) (by omega) (by omega)
    omega
  · omega
theorem trp_bd {n : aN} (hW : WF n) {pl : Int → Int} {top : Int} (hp : PlOk n pl) (ht : 0 ≤ top ∧ top < n 0) : tB (trp n pl top) := by
  refine ⟨sho_bd hW hp (wd0_ok hW) ht.1 ht.2, mSlack_bd hW (fun v h1 h2 h3 => ?_), mCost_bd hW hp⟩
  by_cases hv : top ≤ v
  · exact tim_bd hW ht.1 (by omega) hp.1 hp.2 (wd0_ok hW) hv h2 h3
  · simp only [bel, decide_eq_true_eq] at h3
    rw [climb_id (by omega)] at h3
    omega
def WaysX (n : aN) (top turn : Int) : aT → Prop := fun x => ∃ pl, Asg n top pl ∧ mWrong n (tur n pl top turn) top = 0 ∧ x = trp n pl top
theorem bel_le {n : aN} {v top : Int} (h : bel n v top = true) : top ≤ v := by
  by_cases hv : top ≤ v
  · exact hv
  · simp only [bel, decide_eq_true_eq] at h
    rw [climb_id (by omega)] at h
    omega
theorem trp_cong {n : aN} (hW : WF n) {pl pl' : Int → Int} {top : Int} (ht : 0 ≤ top ∧ top < n 0) (h : ∀ v, 0 ≤ v → v < n 0 → pl' v = pl v) : trp n pl' top = trp n pl top := by
  have e1 : sho n pl' (wd0 n) top = sho n pl (wd0 n) top := sho_cong ht.1 (h top ht.1 ht.2) (fun u h3 h4 => ⟨h u (by omega) h4, rfl⟩)
  have e2 : mSlack n (tim n pl' (wd0 n) top 0) top = mSlack n (tim n pl (wd0 n) top 0) top := mSlack_cong (fun v h1 h2 h3 => cT_cong hW ht.1 (fun u h4 h5 => h u (by omega) h5) (fun _ _ _ => rfl) 6 v (bel_le h3) h2 h3)
  have e3 : mCost n pl' top = mCost n pl top := mCost_cong (fun v h1 h2 _ => h v (by omega) h2)
  unfold trp
  rw [e1, e2, e3]
theorem wrong_cong {n : aN} (hW : WF n) {pl pl' : Int → Int} {top turn : Int} (ht : 0 ≤ top ∧ top < n 0) (h : ∀ v, 0 ≤ v → v < n 0 → pl' v = pl v) : mWrong n (tur n pl' top turn) top = mWrong n (tur n pl top turn) top :=
  mWrong_cong (fun v h1 h2 h3 => cU_cong hW ht.1 (fun u h4 h5 => h u (by omega) h5) 6 v (bel_le h3) h2 h3)
/-- seeks(top, turn) -/
theorem ok_seeks {P : aP} {d : Nat} {K : aK} {I : aI} {R : aR} {S : aS} {top turn : Int} (hM : MS R S) (hW : WF (I 362)) (ht : 0 ≤ top ∧ top < I 362 0) (hturn : 0 ≤ turn ∧ turn ≤ 1)
    (hK : ∀ I' L, MF [368, 369, 370, 371, 372, 373, 374, 375, 376] [18] I I' → Fro L (WaysX (I 362) top turn) → I' 361 18 = L.length → Hd I' 374 375 376 L → L.length ≤ 1024 → (∀ x ∈ L, tB x) → K none I' R S) : Ok P 97 (d + 5) [vr 361, vi top, vi turn] I R S K := by
  obtain ⟨m0, r1, m1, r2, m2, r3, m3, r4, m4, r5, m5, r6, m6, r7, m7, r8, m8, r9, m9, r10, m10, r11, m11, r12, m12, r13, m13, r14, m14, r15, m15⟩ := id hM
  have hN := hW.1
  have hwd := wd0_ok hW
  have hbX : ∀ (L : List aT) (Z : (Int → Int) → Prop), Fro L (fun x => ∃ pl, Asg (I 362) top pl ∧ mWrong (I 362) (tur (I 362) pl top turn) top = 0 ∧ x = trp (I 362) pl top ∧ Z pl) → ∀ x ∈ L, tB x := by
    intro L Z h x hx
    obtain ⟨pl, h1, -, h3, -⟩ := h.2.1 x hx
    rw [h3]
    exact trp_bd hW (h1.pl hW) ht
  have main : ∀ (k : Nat) (I' : aI) (L : List aT), 1024 - val (I 362) (I' 368) = k → MF [368, 369, 370, 371, 372, 373, 374, 375, 376] [18] I I' → Asg (I 362) top (I' 368) → (∀ v, 1 ≤ v → v < I 362 0 → I' 369 v = wd0 (I 362) v) →
      Fro L (fun x => ∃ pl, Asg (I 362) top pl ∧ mWrong (I 362) (tur (I 362) pl top turn) top = 0 ∧ x = trp (I 362) pl top ∧ val (I 362) pl < val (I 362) (I' 368)) → I' 361 18 = L.length → Hd I' 374 375 376 L → L.length ≤ val (I 362) (I' 368) →
      Go P 97 (d + 5) K 36 [vr 361, vi top, vi turn, vi 1] [] I' R S := by
    intro k
    induction k using Nat.strongRecOn with
    | _ k ih =>
    intro I' L hk hF hA h9 hL hsz hHd hlen
    have e : I' 362 = I 362 := hF.1 362 (by decide)
    have hp := hA.pl hW
    have hvb := val_bd hW hA
    -- behind the meeting
    have tail : ∀ (I3 : aI) (L3 : List aT), MF [368, 369, 370, 371, 372, 373, 374, 375, 376] [18] I I3 → I3 368 = I' 368 → I3 369 = I' 369 → Fro L3 (fun x => ∃ pl, Asg (I 362) top pl ∧ mWrong (I 362) (tur (I 362) pl top turn) top = 0 ∧ x = trp (I 362) pl top ∧ val (I 362) pl ≤ val (I 362) (I' 368)) → I3 361 18 = L3.length → Hd I3 374 375 376 L3 → L3.length ≤ val (I 362) (I' 368) + 1 →
        Go P 97 (d + 5) K 75 [vr 361, vi top, vi turn, vi 1] [] I3 R S := by
      intro I3 L3 hF3 e8 e9 hL3 hsz3 hHd3 hlen3
      have e3 : I3 362 = I 362 := hF3.1 362 (by decide)
      refine Go.walk 400 [36, 75] E97 E97_ok (fun G C hG hC => ?_)
      (repeat ((conv => whnf); first | refine ⟨_, by assumption, ?_⟩ | refine ⟨_, _, by assumption, ?_⟩ | refine ⟨(show _ ∧ _ by omega), ?_⟩ | refine ⟨(show _ ∨ _ by omega), ?_⟩ | refine ⟨fun h => absurd h (by decide), fun _ => ?_⟩ | refine ⟨fun _ => ?_, fun h => absurd h (by decide)⟩ | refine ⟨fun _ => ?_, fun h => absurd rfl h⟩ | refine ⟨fun h => absurd rfl h, fun _ => ?_⟩)); try (conv => whnf)
      refine hC _ _ _ _ _ _ ?_
      refine ok_isNext hM (by rw [e3]; exact hW) (by omega) (by rw [e3, e8]; exact fun v g1 g2 _ => hp.1 v (by omega) g2) (fun I4 v0 hF4 g1 g2 g3 g4 g5 g6 g7 => ?_) (fun I4 hF4 g1 => ?_)
      · rw [e3, e8] at g4
        rw [e3] at g2 g3
        rw [e3, e8] at g6
        rw [e3, e8] at g7
        obtain ⟨n1, n2, -⟩ := val_next hW hA hA g1 g2 g3 g4 g5 g6 g7
        have n3 : ∀ px, Asg (I 362) top px → val (I 362) px < val (I 362) (I4 368) → val (I 362) px ≤ val (I 362) (I' 368) := fun px hx => (val_next hW hA hx g1 g2 g3 g4 g5 g6 g7).2.2
        have hvb4 := val_bd hW n1
        (repeat ((conv => whnf); first | refine ⟨_, by assumption, ?_⟩ | refine ⟨_, _, by assumption, ?_⟩ | refine ⟨(show _ ∧ _ by omega), ?_⟩ | refine ⟨(show _ ∨ _ by omega), ?_⟩ | refine ⟨fun h => absurd h (by decide), fun _ => ?_⟩ | refine ⟨fun _ => ?_, fun h => absurd h (by decide)⟩ | refine ⟨fun _ => ?_, fun h => absurd rfl h⟩ | refine ⟨fun h => absurd rfl h, fun _ => ?_⟩)); try (conv => whnf)
        refine hG _ _ _ _ _ _ ?_
        refine ih (1024 - val (I 362) (I4 368)).toNat (by omega) I4 L3 (by omega) (hF3.trans (MF.of (J := []) hF4 (by decide)) (by simp; omega) (by simp)) n1 (fun v q1 q2 => by rw [hF4 369 (by decide), e9]; exact h9 v q1 q2) ?_ ?_ ?_ (by omega)
        · refine fro_of hL3 (fun x hx => ?_) (fun y hy => ?_)
          · obtain ⟨pl, a1, a2, a3, a4⟩ := hx
            exact ⟨pl, a1, a2, a3, by omega⟩
          · obtain ⟨pl, a1, a2, a3, a4⟩ := hy
            exact ⟨y, ⟨pl, a1, a2, a3, n3 pl a1 a4⟩, wb_rfl y⟩
        · rw [hF4 361 (by decide)]; exact hsz3
        · intro i t h
          rw [hF4 374 (by decide), hF4 375 (by decide), hF4 376 (by decide)]
          exact hHd3 i t h
      · rw [e3, e8] at g1
        have hall : ∀ px, Asg (I 362) top px → val (I 362) px ≤ val (I 362) (I' 368) := fun px hx => val_last hW hA hx g1
        (repeat ((conv => whnf); first | refine ⟨_, by assumption, ?_⟩ | refine ⟨_, _, by assumption, ?_⟩ | refine ⟨(show _ ∧ _ by omega), ?_⟩ | refine ⟨(show _ ∨ _ by omega), ?_⟩ | refine ⟨fun h => absurd h (by decide), fun _ => ?_⟩ | refine ⟨fun _ => ?_, fun h => absurd h (by decide)⟩ | refine ⟨fun _ => ?_, fun h => absurd rfl h⟩ | refine ⟨fun h => absurd rfl h, fun _ => ?_⟩)); try (conv => whnf)
        refine hG _ _ _ _ _ _ ?_
        refine Go.walk 400 [] E97 E97_ok (fun G C hG hC => ?_)
        (repeat ((conv => whnf); first | refine ⟨_, by assumption, ?_⟩ | refine ⟨_, _, by assumption, ?_⟩ | refine ⟨(show _ ∧ _ by omega), ?_⟩ | refine ⟨(show _ ∨ _ by omega), ?_⟩ | refine ⟨fun h => absurd h (by decide), fun _ => ?_⟩ | refine ⟨fun _ => ?_, fun h => absurd h (by decide)⟩ | refine ⟨fun _ => ?_, fun h => absurd rfl h⟩ | refine ⟨fun h => absurd rfl h, fun _ => ?_⟩)); try (conv => whnf)
        refine hK I4 L3 (hF3.trans (MF.of (J := []) hF4 (by decide)) (by simp; omega) (by simp)) ?_ ?_ ?_ (by omega) (hbX L3 _ hL3)
        · refine fro_of hL3 (fun x hx => ?_) (fun y hy => ?_)
          · obtain ⟨pl, a1, a2, a3, a4⟩ := hx
            exact ⟨pl, a1, a2, a3⟩
          · obtain ⟨pl, a1, a2, a3⟩ := hy
            exact ⟨y, ⟨pl, a1, a2, a3, hall pl a1⟩, wb_rfl y⟩
        · rw [hF4 361 (by decide)]; exact hsz3
        · intro i t h
          rw [hF4 374 (by decide), hF4 375 (by decide), hF4 376 (by decide)]
          exact hHd3 i t h
    refine Go.walk 400 [36, 75] E97 E97_ok (fun G C hG hC => ?_)
    (repeat ((conv => whnf); first | refine ⟨_, by assumption, ?_⟩ | refine ⟨_, _, by assumption, ?_⟩ | refine ⟨(show _ ∧ _ by omega), ?_⟩ | refine ⟨(show _ ∨ _ by omega), ?_⟩ | refine ⟨fun h => absurd h (by decide), fun _ => ?_⟩ | refine ⟨fun _ => ?_, fun h => absurd h (by decide)⟩ | refine ⟨fun _ => ?_, fun h => absurd rfl h⟩ | refine ⟨fun h => absurd rfl h, fun _ => ?_⟩)); try (conv => whnf)
    refine hC _ _ _ _ _ _ ?_
    refine ok_runs2 hM (by rw [e]; exact hW) (by rw [e]; exact ht) hturn (by rw [e]; exact hp.1) (by rw [e]; exact fun v g1 g2 => by rw [h9 v g1 g2]; exact hwd v g1 g2) (fun I2 hF2 hran => ?_)
    rw [e] at hran
    have e2 : I2 362 = I 362 := by rw [hF2 362 (by decide), e]
    have hF2' : MF [368, 369, 370, 371, 372, 373, 374, 375, 376] [18] I I2 := hF.trans (MF.of (J := []) hF2 (by decide)) (by simp; omega) (by simp)
    have htm : ∀ v, 1 ≤ v → v < I 362 0 → bel (I 362) v top = true → I2 372 v = tim (I 362) (I' 368) (wd0 (I 362)) top 0 v := fun v g1 g2 g3 => by
      rw [(hran.2 v (bel_le g3) g2 g3).1]
      exact cT_cong hW ht.1 (fun _ _ _ => rfl) (fun u g4 g5 => h9 u (by omega) g5) 6 v (bel_le g3) g2 g3
    have htu : ∀ v, 1 ≤ v → v < I 362 0 → bel (I 362) v top = true → I2 373 v = tur (I 362) (I' 368) top turn v := fun v g1 g2 g3 => (hran.2 v (bel_le g3) g2 g3).2
    have hsh : I2 371 top = sho (I 362) (I' 368) (wd0 (I 362)) top := by
      rw [(hran.1 top ht.1 ht.2).2]
      exact sho_cong ht.1 rfl (fun u g4 g5 => ⟨rfl, h9 u (by omega) g5⟩)
    have hwr : mWrong (I 362) (I2 373) top = mWrong (I 362) (tur (I 362) (I' 368) top turn) top := mWrong_cong htu
    have hiw := iR_mWrong (n := I 362) (tu := tur (I 362) (I' 368) top turn) (top := top)
    (repeat ((conv => whnf); first | refine ⟨_, by assumption, ?_⟩ | refine ⟨_, _, by assumption, ?_⟩ | refine ⟨(show _ ∧ _ by omega), ?_⟩ | refine ⟨(show _ ∨ _ by omega), ?_⟩ | refine ⟨fun h => absurd h (by decide), fun _ => ?_⟩ | refine ⟨fun _ => ?_, fun h => absurd h (by decide)⟩ | refine ⟨fun _ => ?_, fun h => absurd rfl h⟩ | refine ⟨fun h => absurd rfl h, fun _ => ?_⟩)); try (conv => whnf)
    refine hC _ _ _ _ _ _ ?_
    refine ok_wrong hM (by rw [e2]; exact hW) (by omega) (by rw [e2]; exact fun v g1 g2 g3 => by rw [htu v g1 g2 g3]; exact cU_01 6 v) ?_
    rw [e2, hwr]
    (repeat ((conv => whnf); first | refine ⟨_, by assumption, ?_⟩ | refine ⟨_, _, by assumption, ?_⟩ | refine ⟨(show _ ∧ _ by omega), ?_⟩ | refine ⟨(show _ ∨ _ by omega), ?_⟩ | refine ⟨fun h => absurd h (by decide), fun _ => ?_⟩ | refine ⟨fun _ => ?_, fun h => absurd h (by decide)⟩ | refine ⟨fun _ => ?_, fun h => absurd rfl h⟩ | refine ⟨fun h => absurd rfl h, fun _ => ?_⟩)); try (conv => whnf)
    refine ⟨fun hne => ?_, fun heq => ?_⟩
    · (repeat ((conv => whnf); first | refine ⟨_, by assumption, ?_⟩ | refine ⟨_, _, by assumption, ?_⟩ | refine ⟨(show _ ∧ _ by omega), ?_⟩ | refine ⟨(show _ ∨ _ by omega), ?_⟩ | refine ⟨fun h => absurd h (by decide), fun _ => ?_⟩ | refine ⟨fun _ => ?_, fun h => absurd h (by decide)⟩ | refine ⟨fun _ => ?_, fun h => absurd rfl h⟩ | refine ⟨fun h => absurd rfl h, fun _ => ?_⟩)); try (conv => whnf)
      refine hG _ _ _ _ _ _ ?_
      refine tail I2 L hF2' (hF2 368 (by decide)) (hF2 369 (by decide)) ?_ ?_ ?_ (by omega)
      · refine fro_of hL (fun x hx => ?_) (fun y hy => ?_)
        · obtain ⟨pl, a1, a2, a3, a4⟩ := hx
          exact ⟨pl, a1, a2, a3, by omega⟩
        · obtain ⟨pl, a1, a2, a3, a4⟩ := hy
          refine ⟨y, ⟨pl, a1, a2, a3, ?_⟩, wb_rfl y⟩
          by_cases hv : val (I 362) pl = val (I 362) (I' 368)
          · have := val_inj hW a1 hA hv
            rw [wrong_cong hW ht this] at a2
            exact absurd a2 hne
          · omega
      · rw [hF2 361 (by decide)]; exact hsz
      · intro i t h
        rw [hF2 374 (by decide), hF2 375 (by decide), hF2 376 (by decide)]
        exact hHd i t h
    · (repeat ((conv => whnf); first | refine ⟨_, by assumption, ?_⟩ | refine ⟨_, _, by assumption, ?_⟩ | refine ⟨(show _ ∧ _ by omega), ?_⟩ | refine ⟨(show _ ∨ _ by omega), ?_⟩ | refine ⟨fun h => absurd h (by decide), fun _ => ?_⟩ | refine ⟨fun _ => ?_, fun h => absurd h (by decide)⟩ | refine ⟨fun _ => ?_, fun h => absurd rfl h⟩ | refine ⟨fun h => absurd rfl h, fun _ => ?_⟩)); try (conv => whnf)
      refine hC _ _ _ _ _ _ ?_
      refine ok_slack hM (by rw [e2]; exact hW) (by omega) (by rw [e2]; exact fun v g1 g2 g3 => by rw [htm v g1 g2 g3]; exact tim_bd hW ht.1 (by omega) hp.1 hp.2 hwd (bel_le g3) g2 g3) ?_
      rw [e2, mSlack_cong htm]
      (repeat ((conv => whnf); first | refine ⟨_, by assumption, ?_⟩ | refine ⟨_, _, by assumption, ?_⟩ | refine ⟨(show _ ∧ _ by omega), ?_⟩ | refine ⟨(show _ ∨ _ by omega), ?_⟩ | refine ⟨fun h => absurd h (by decide), fun _ => ?_⟩ | refine ⟨fun _ => ?_, fun h => absurd h (by decide)⟩ | refine ⟨fun _ => ?_, fun h => absurd rfl h⟩ | refine ⟨fun h => absurd rfl h, fun _ => ?_⟩)); try (conv => whnf)
      refine hC _ _ _ _ _ _ ?_
      refine ok_cost hM (by rw [e2]; exact hW) (by omega) (by rw [e2, hF2 368 (by decide)]; exact fun v g1 g2 => hp.1 v (by omega) g2) ?_
      rw [e2, hF2 368 (by decide)]
      (repeat ((conv => whnf); first | refine ⟨_, by assumption, ?_⟩ | refine ⟨_, _, by assumption, ?_⟩ | refine ⟨(show _ ∧ _ by omega), ?_⟩ | refine ⟨(show _ ∨ _ by omega), ?_⟩ | refine ⟨fun h => absurd h (by decide), fun _ => ?_⟩ | refine ⟨fun _ => ?_, fun h => absurd h (by decide)⟩ | refine ⟨fun _ => ?_, fun h => absurd rfl h⟩ | refine ⟨fun h => absurd rfl h, fun _ => ?_⟩)); try (conv => whnf)
      rw [hsh]
      refine hC _ _ _ _ _ _ ?_
      refine ok_meets (t := trp (I 362) (I' 368) top) (L := L) hM (by rw [hF2 361 (by decide)]; exact hsz) (fun i t h => by rw [hF2 374 (by decide), hF2 375 (by decide), hF2 376 (by decide)]; exact hHd i t h) (by omega) (trp_bd hW hp ht).tR (fun x hx => (hbX L _ hL x hx).tR) (fun I3 L3 hF3 hmt hsz3 hHd3 => ?_)
      (repeat ((conv => whnf); first | refine ⟨_, by assumption, ?_⟩ | refine ⟨_, _, by assumption, ?_⟩ | refine ⟨(show _ ∧ _ by omega), ?_⟩ | refine ⟨(show _ ∨ _ by omega), ?_⟩ | refine ⟨fun h => absurd h (by decide), fun _ => ?_⟩ | refine ⟨fun _ => ?_, fun h => absurd h (by decide)⟩ | refine ⟨fun _ => ?_, fun h => absurd rfl h⟩ | refine ⟨fun h => absurd rfl h, fun _ => ?_⟩)); try (conv => whnf)
      refine hG _ _ _ _ _ _ ?_
      have hl3 := mts_len hmt
      refine tail I3 L3 (hF2'.trans hF3 (by simp; omega) (by simp)) (by rw [hF3.1 368 (by decide), hF2 368 (by decide)]) (by rw [hF3.1 369 (by decide), hF2 369 (by decide)]) ?_ hsz3 hHd3 (by omega)
      refine fro_of (mts_fro hL hmt) (fun x hx => ?_) (fun y hy => ?_)
      · rcases hx with hx | rfl
        · obtain ⟨pl, a1, a2, a3, a4⟩ := hx
          exact ⟨pl, a1, a2, a3, by omega⟩
        · exact ⟨I' 368, hA, heq, rfl, by omega⟩
      · obtain ⟨pl, a1, a2, a3, a4⟩ := hy
        refine ⟨y, ?_, wb_rfl y⟩
        by_cases hv : val (I 362) pl = val (I 362) (I' 368)
        · have := val_inj hW a1 hA hv
          exact Or.inr (by rw [a3]; exact trp_cong hW ht this)
        · exact Or.inl ⟨pl, a1, a2, a3, by omega⟩
  have zero : ∀ (k : Nat) (v : Int) (I' : aI), 0 ≤ v → I 362 0 - v = k → MF [368, 369, 370, 371, 372, 373, 374, 375, 376] [18] I I' → I' 361 18 = 0 → (∀ u, 1 ≤ u → u < I 362 0 → I' 369 u = wd0 (I 362) u) → (∀ u, 0 ≤ u → u < v → I' 368 u = 0) → Go P 97 (d + 5) K 11 [vr 361, vi top, vi turn, vi v] [] I' R S := by
    intro k
    induction k with
    | zero =>
      intro v I' hv hk hF h18 h9 h8
      have e : I' 362 = I 362 := hF.1 362 (by decide)
      have hA : Asg (I 362) top (I' 368) := fun u g1 g2 => ⟨fun _ => Or.inl (h8 u g1 (by omega)), fun _ => h8 u g1 (by omega)⟩
      have hv0 : val (I 362) (I' 368) = 0 := by
        have z : ∀ u : Int, 0 ≤ u → dg (I 362) (I' 368) u = 0 := fun u hu => by
          unfold dg
          split
          · exact h8 u hu (by omega)
          · rfl
        unfold val
        rw [z 1 (by omega), z 2 (by omega), z 3 (by omega), z 4 (by omega), z 5 (by omega)]
        rfl
      refine Go.walk 400 [11, 36] E97 E97_ok (fun G C hG hC => ?_)
      (repeat ((conv => whnf); first | refine ⟨_, by assumption, ?_⟩ | refine ⟨_, _, by assumption, ?_⟩ | refine ⟨(show _ ∧ _ by omega), ?_⟩ | refine ⟨(show _ ∨ _ by omega), ?_⟩ | refine ⟨fun h => absurd h (by decide), fun _ => ?_⟩ | refine ⟨fun _ => ?_, fun h => absurd h (by decide)⟩ | refine ⟨fun _ => ?_, fun h => absurd rfl h⟩ | refine ⟨fun h => absurd rfl h, fun _ => ?_⟩)); try (conv => whnf)
      rw [e]
      refine ⟨by omega, ?_⟩
      refine ⟨fun _ => ?_, fun h => absurd (show I 362 0 ≤ v by omega) h⟩
      (repeat ((conv => whnf); first | refine ⟨_, by assumption, ?_⟩ | refine ⟨_, _, by assumption, ?_⟩ | refine ⟨(show _ ∧ _ by omega), ?_⟩ | refine ⟨(show _ ∨ _ by omega), ?_⟩ | refine ⟨fun h => absurd h (by decide), fun _ => ?_⟩ | refine ⟨fun _ => ?_, fun h => absurd h (by decide)⟩ | refine ⟨fun _ => ?_, fun h => absurd rfl h⟩ | refine ⟨fun h => absurd rfl h, fun _ => ?_⟩)); try (conv => whnf)
      refine hG _ _ _ _ _ _ ?_
      refine main 1024 I' [] (by omega) hF hA h9 ?_ h18 (fun i t h => by cases h) (by rw [hv0]; decide)
      refine fro_of fro_nil (fun _ h => h.elim) (fun y hy => ?_)
      obtain ⟨pl, a1, a2, a3, a4⟩ := hy
      have := val_bd hW a1
      omega
    | succ k ih =>
      intro v I' hv hk hF h18 h9 h8
      have e : I' 362 = I 362 := hF.1 362 (by decide)
      refine Go.walk 400 [11, 36] E97 E97_ok (fun G C hG hC => ?_)
      (repeat ((conv => whnf); first | refine ⟨_, by assumption, ?_⟩ | refine ⟨_, _, by assumption, ?_⟩ | refine ⟨(show _ ∧ _ by omega), ?_⟩ | refine ⟨(show _ ∨ _ by omega), ?_⟩ | refine ⟨fun h => absurd h (by decide), fun _ => ?_⟩ | refine ⟨fun _ => ?_, fun h => absurd h (by decide)⟩ | refine ⟨fun _ => ?_, fun h => absurd rfl h⟩ | refine ⟨fun h => absurd rfl h, fun _ => ?_⟩)); try (conv => whnf)
      rw [e]
      refine ⟨by omega, ?_⟩
      refine ⟨fun h => absurd h (by omega), fun _ => ?_⟩
      (repeat ((conv => whnf); first | refine ⟨_, by assumption, ?_⟩ | refine ⟨_, _, by assumption, ?_⟩ | refine ⟨(show _ ∧ _ by omega), ?_⟩ | refine ⟨(show _ ∨ _ by omega), ?_⟩ | refine ⟨fun h => absurd h (by decide), fun _ => ?_⟩ | refine ⟨fun _ => ?_, fun h => absurd h (by decide)⟩ | refine ⟨fun _ => ?_, fun h => absurd rfl h⟩ | refine ⟨fun h => absurd rfl h, fun _ => ?_⟩)); try (conv => whnf)
      refine hG _ _ _ _ _ _ ?_
      refine ih (v + 1) _ (by omega) (by omega) (hF.put (by decide) (by decide)) (by rw [uI_ne (by omega)]; exact h18) (fun u g1 g2 => by rw [uI_ne (by omega)]; exact h9 u g1 g2) (fun u g1 g2 => ?_)
      by_cases hu : u = v
      · subst hu; exact uI_at
      · rw [uI_ne (by omega)]; exact h8 u g1 (by omega)
  refine Ok.of (by decide) rfl (Nat.le_of_ble_eq_true rfl) ?_
  refine Go.walk 400 [11] E97 E97_ok (fun G C hG hC => ?_)
  (repeat ((conv => whnf); first | refine ⟨_, by assumption, ?_⟩ | refine ⟨_, _, by assumption, ?_⟩ | refine ⟨(show _ ∧ _ by omega), ?_⟩ | refine ⟨(show _ ∨ _ by omega), ?_⟩ | refine ⟨fun h => absurd h (by decide), fun _ => ?_⟩ | refine ⟨fun _ => ?_, fun h => absurd h (by decide)⟩ | refine ⟨fun _ => ?_, fun h => absurd rfl h⟩ | refine ⟨fun h => absurd rfl h, fun _ => ?_⟩)); try (conv => whnf)
  refine hC _ _ _ _ _ _ ?_
  refine ok_asPlaced hM hW (fun I1 hF1 h1 => ?_)
  (repeat ((conv => whnf); first | refine ⟨_, by assumption, ?_⟩ | refine ⟨_, _, by assumption, ?_⟩ | refine ⟨(show _ ∧ _ by omega), ?_⟩ | refine ⟨(show _ ∨ _ by omega), ?_⟩ | refine ⟨fun h => absurd h (by decide), fun _ => ?_⟩ | refine ⟨fun _ => ?_, fun h => absurd h (by decide)⟩ | refine ⟨fun _ => ?_, fun h => absurd rfl h⟩ | refine ⟨fun h => absurd rfl h, fun _ => ?_⟩)); try (conv => whnf)
  refine hG _ _ _ _ _ _ ?_
  refine zero (I 362 0).toNat 0 (uI I1 361 18 0) (by omega) (by omega) (((MF.of (J := [18]) hF1 (by decide)).trans (MF.rf (L := []) (J := [])) (by simp <;> omega) (by simp)).putF (by decide)) uI_at (fun u g1 g2 => ?_) (fun u g1 g2 => absurd g2 (by omega))
  rw [uI_ne (by omega)]
  exact (h1 u (by omega) g2).2
