/-! the reference: seeksPoints -/
def ptr (n : aN) (pl : Int → Int) : aT := (0, sla n pl (wd0 n), mCost n pl 0)
theorem sla_bd {n : aN} (hW : WF n) {pl wd : Int → Int} (hp : PlOk n pl) (hw : WdOk n wd) : -920000 ≤ sla n pl wd ∧ sla n pl wd ≤ 900000 :=
  mSlack_bd hW (fun v h1 h2 h3 => tim_bd hW (by omega) (src_bd hW hp hw) hp.1 hp.2 hw (by omega) h2 h3)
theorem ptr_bd {n : aN} (hW : WF n) {pl : Int → Int} (hp : PlOk n pl) : tB (ptr n pl) := ⟨by show (0 : Int) ≤ 0 ∧ (0 : Int) ≤ 15000; omega, sla_bd hW hp (wd0_ok hW), mCost_bd hW hp⟩
def PtsX (n : aN) : aT → Prop := fun x => ∃ pl, Asg n 0 pl ∧ wro n pl = 0 ∧ x = ptr n pl
theorem src_cong {n : aN} {pl pl' wd : Int → Int} (h : ∀ v, 0 ≤ v → v < n 0 → pl' v = pl v) : src n pl' wd = src n pl wd := by
  unfold src
  rw [bea_cong (pl := pl) (pl' := pl') (wd := wd) (wd' := wd) (by omega) (fun u h3 h4 => ⟨h u (by omega) h4, rfl⟩)]
theorem sla_cong {n : aN} (hW : WF n) {pl pl' wd : Int → Int} (h : ∀ v, 0 ≤ v → v < n 0 → pl' v = pl v) : sla n pl' wd = sla n pl wd := by
  have hN := hW.1
  unfold sla
  rw [src_cong h]
  exact mSlack_cong (fun v h1 h2 h3 => cT_cong hW (by omega) (fun u h4 h5 => h u (by omega) h5) (fun _ _ _ => rfl) 6 v (by omega) h2 h3)
theorem wro_cong {n : aN} (hW : WF n) {pl pl' : Int → Int} (h : ∀ v, 0 ≤ v → v < n 0 → pl' v = pl v) : wro n pl' = wro n pl := by
  have hN := hW.1
  exact wrong_cong hW (by omega) h
theorem ptr_cong {n : aN} (hW : WF n) {pl pl' : Int → Int} (h : ∀ v, 0 ≤ v → v < n 0 → pl' v = pl v) : ptr n pl' = ptr n pl := by
  unfold ptr
  rw [sla_cong hW h, mCost_cong (fun v h1 h2 _ => h v (by omega) h2)]
/-- seeksPoints() -/
theorem ok_seeksPoints {P : aP} {d : Nat} {K : aK} {I : aI} {R : aR} {S : aS} (hM : MS R S) (hW : WF (I 362))
    (hK : ∀ I' L, MF [368, 369, 370, 371, 372, 373, 374, 375, 376] [18] I I' → Fro L (PtsX (I 362)) → I' 361 18 = L.length → Hd I' 374 375 376 L → L.length ≤ 1024 → (∀ x ∈ L, tB x) → K none I' R S) : Ok P 98 (d + 6) [vr 361] I R S K := by
  obtain ⟨m0, r1, m1, r2, m2, r3, m3, r4, m4, r5, m5, r6, m6, r7, m7, r8, m8, r9, m9, r10, m10, r11, m11, r12, m12, r13, m13, r14, m14, r15, m15⟩ := id hM
  have hN := hW.1
  have hwd := wd0_ok hW
  have hbX : ∀ (L : List aT) (Z : (Int → Int) → Prop), Fro L (fun x => ∃ pl, Asg (I 362) 0 pl ∧ wro (I 362) pl = 0 ∧ x = ptr (I 362) pl ∧ Z pl) → ∀ x ∈ L, tB x := by
    intro L Z h x hx
    obtain ⟨pl, h1, -, h3, -⟩ := h.2.1 x hx
    rw [h3]
    exact ptr_bd hW (h1.pl hW)
  have main : ∀ (k : Nat) (I' : aI) (L : List aT), 1024 - val (I 362) (I' 368) = k → MF [368, 369, 370, 371, 372, 373, 374, 375, 376] [18] I I' → Asg (I 362) 0 (I' 368) → (∀ v, 1 ≤ v → v < I 362 0 → I' 369 v = wd0 (I 362) v) →
      Fro L (fun x => ∃ pl, Asg (I 362) 0 pl ∧ wro (I 362) pl = 0 ∧ x = ptr (I 362) pl ∧ val (I 362) pl < val (I 362) (I' 368)) → I' 361 18 = L.length → Hd I' 374 375 376 L → L.length ≤ val (I 362) (I' 368) →
      Go P 98 (d + 6) K 36 [vr 361, vi 1] [] I' R S := by
    intro k
    induction k using Nat.strongRecOn with
    | _ k ih =>
    intro I' L hk hF hA h9 hL hsz hHd hlen
    have e : I' 362 = I 362 := hF.1 362 (by decide)
    have hp := hA.pl hW
    have hvb := val_bd hW hA
    -- behind the meeting
    have tail : ∀ (I3 : aI) (L3 : List aT), MF [368, 369, 370, 371, 372, 373, 374, 375, 376] [18] I I3 → I3 368 = I' 368 → I3 369 = I' 369 → Fro L3 (fun x => ∃ pl, Asg (I 362) 0 pl ∧ wro (I 362) pl = 0 ∧ x = ptr (I 362) pl ∧ val (I 362) pl ≤ val (I 362) (I' 368)) → I3 361 18 = L3.length → Hd I3 374 375 376 L3 → L3.length ≤ val (I 362) (I' 368) + 1 →
        Go P 98 (d + 6) K 67 [vr 361, vi 1] [] I3 R S := by
      intro I3 L3 hF3 e8 e9 hL3 hsz3 hHd3 hlen3
      have e3 : I3 362 = I 362 := hF3.1 362 (by decide)
      refine Go.walk 400 [36, 67] E98 E98_ok (fun G C hG hC => ?_)
      (repeat ((conv => whnf); first | refine ⟨_, by assumption, ?_⟩ | refine ⟨_, _, by assumption, ?_⟩ | refine ⟨(show _ ∧ _ by omega), ?_⟩ | refine ⟨(show _ ∨ _ by omega), ?_⟩ | refine ⟨fun h => absurd h (by decide), fun _ => ?_⟩ | refine ⟨fun _ => ?_, fun h => absurd h (by decide)⟩ | refine ⟨fun _ => ?_, fun h => absurd rfl h⟩ | refine ⟨fun h => absurd rfl h, fun _ => ?_⟩)); try (conv => whnf)
      refine hC _ _ _ _ _ _ ?_
      refine ok_isNext (top := 0) hM (by rw [e3]; exact hW) (by omega) (by rw [e3, e8]; exact fun v g1 g2 _ => hp.1 v (by omega) g2) (fun I4 v0 hF4 g1 g2 g3 g4 g5 g6 g7 => ?_) (fun I4 hF4 g1 => ?_)
      · rw [e3, e8] at g4
        rw [e3] at g2 g3
        rw [e3, e8] at g6
        rw [e3, e8] at g7
        obtain ⟨n1, n2, -⟩ := val_next hW hA hA g1 g2 g3 g4 g5 g6 g7
        have n3 : ∀ px, Asg (I 362) 0 px → val (I 362) px < val (I 362) (I4 368) → val (I 362) px ≤ val (I 362) (I' 368) := fun px hx => (val_next hW hA hx g1 g2 g3 g4 g5 g6 g7).2.2
        have hvb4 := val_bd hW n1
        (repeat ((conv => whnf); first | refine ⟨_, by assumption, ?_⟩ | refine ⟨_, _, by assumption, ?_⟩ | refine ⟨(show _ ∧ _ by omega), ?_⟩ | refine ⟨(show _ ∨ _ by omega), ?_⟩ | refine ⟨fun h => absurd h (by decide), fun _ => ?_⟩ | refine ⟨fun _ => ?_, fun h => absurd h (by decide)⟩ | refine ⟨fun _ => ?_, fun h => absurd rfl h⟩ | refine ⟨fun h => absurd rfl h, fun _ => ?_⟩)); try (conv => whnf)
        refine hG _ _ _ _ _ _ ?_
        refine ih (1024 - val (I 362) (I4 368)).toNat (by omega) I4 L3 (by omega) (hF3.trans (MF.of (J := []) hF4 (by decide)) (by simp; omega) (by simp)) n1 (fun v q1 q2 => by rw [hF4 369 (by decide), e9]; exact h9 v q1 q2) ?_ ?_ ?_ (by omega)
        · refine fro_of hL3 (fun x hx => ?_) (fun y hy => ?_)
          · obtain ⟨pl, a1, a2, a3, a4⟩ := hx
            exact ⟨pl, a1, a2, a3, by omega⟩
          · obtain ⟨pl, a1, a2, a3, a4⟩ := hy
            exact ⟨y, ⟨pl, a1, a2, a3, n3 pl a1 a4⟩, wb_rfl y⟩
        · rw [hF4 361 (by decide)]; exact hsz3
        · intro i t h
          rw [hF4 374 (by decide), hF4 375 (by decide), hF4 376 (by decide)]
          exact hHd3 i t h
      · rw [e3, e8] at g1
        have hall : ∀ px, Asg (I 362) 0 px → val (I 362) px ≤ val (I 362) (I' 368) := fun px hx => val_last hW hA hx g1
        (repeat ((conv => whnf); first | refine ⟨_, by assumption, ?_⟩ | refine ⟨_, _, by assumption, ?_⟩ | refine ⟨(show _ ∧ _ by omega), ?_⟩ | refine ⟨(show _ ∨ _ by omega), ?_⟩ | refine ⟨fun h => absurd h (by decide), fun _ => ?_⟩ | refine ⟨fun _ => ?_, fun h => absurd h (by decide)⟩ | refine ⟨fun _ => ?_, fun h => absurd rfl h⟩ | refine ⟨fun h => absurd rfl h, fun _ => ?_⟩)); try (conv => whnf)
        refine hG _ _ _ _ _ _ ?_
        refine Go.walk 400 [] E98 E98_ok (fun G C hG hC => ?_)
        (repeat ((conv => whnf); first | refine ⟨_, by assumption, ?_⟩ | refine ⟨_, _, by assumption, ?_⟩ | refine ⟨(show _ ∧ _ by omega), ?_⟩ | refine ⟨(show _ ∨ _ by omega), ?_⟩ | refine ⟨fun h => absurd h (by decide), fun _ => ?_⟩ | refine ⟨fun _ => ?_, fun h => absurd h (by decide)⟩ | refine ⟨fun _ => ?_, fun h => absurd rfl h⟩ | refine ⟨fun h => absurd rfl h, fun _ => ?_⟩)); try (conv => whnf)
        refine hK I4 L3 (hF3.trans (MF.of (J := []) hF4 (by decide)) (by simp; omega) (by simp)) ?_ ?_ ?_ (by omega) (hbX L3 _ hL3)
        · refine fro_of hL3 (fun x hx => ?_) (fun y hy => ?_)
          · obtain ⟨pl, a1, a2, a3, a4⟩ := hx
            exact ⟨pl, a1, a2, a3⟩
          · obtain ⟨pl, a1, a2, a3⟩ := hy
            exact ⟨y, ⟨pl, a1, a2, a3, hall pl a1⟩, wb_rfl y⟩
        · rw [hF4 361 (by decide)]; exact hsz3
        · intro i t h
          rw [hF4 374 (by decide), hF4 375 (by decide), hF4 376 (by decide)]
          exact hHd3 i t h
    refine Go.walk 400 [36, 67] E98 E98_ok (fun G C hG hC => ?_)
    (repeat ((conv => whnf); first | refine ⟨_, by assumption, ?_⟩ | refine ⟨_, _, by assumption, ?_⟩ | refine ⟨(show _ ∧ _ by omega), ?_⟩ | refine ⟨(show _ ∨ _ by omega), ?_⟩ | refine ⟨fun h => absurd h (by decide), fun _ => ?_⟩ | refine ⟨fun _ => ?_, fun h => absurd h (by decide)⟩ | refine ⟨fun _ => ?_, fun h => absurd rfl h⟩ | refine ⟨fun h => absurd rfl h, fun _ => ?_⟩)); try (conv => whnf)
    refine hC _ _ _ _ _ _ ?_
    refine ok_runsAll2 (pl := I' 368) (wd := wd0 (I 362)) hM (by rw [e]; exact hW) (by rw [e]; exact hp) (by rw [e]; exact hwd) (fun _ _ _ => rfl) (by rw [e]; exact h9) (fun I2 hF2 hran => ?_)
    rw [e] at hran
    have e2 : I2 362 = I 362 := by rw [hF2 362 (by decide), e]
    have hF2' : MF [368, 369, 370, 371, 372, 373, 374, 375, 376] [18] I I2 := hF.trans (MF.of (J := []) hF2 (by decide)) (by simp; omega) (by simp)
    have hiw := iR_mWrong (n := I 362) (tu := tur (I 362) (I' 368) 0 0) (top := 0)
    (repeat ((conv => whnf); first | refine ⟨_, by assumption, ?_⟩ | refine ⟨_, _, by assumption, ?_⟩ | refine ⟨(show _ ∧ _ by omega), ?_⟩ | refine ⟨(show _ ∨ _ by omega), ?_⟩ | refine ⟨fun h => absurd h (by decide), fun _ => ?_⟩ | refine ⟨fun _ => ?_, fun h => absurd h (by decide)⟩ | refine ⟨fun _ => ?_, fun h => absurd rfl h⟩ | refine ⟨fun h => absurd rfl h, fun _ => ?_⟩)); try (conv => whnf)
    refine hC _ _ _ _ _ _ ?_
    refine ok_wrong0 hM e2 hW hran ?_
    have hiw : iR (wro (I 362) (I' 368)) := hiw
    (repeat ((conv => whnf); first | refine ⟨_, by assumption, ?_⟩ | refine ⟨_, _, by assumption, ?_⟩ | refine ⟨(show _ ∧ _ by omega), ?_⟩ | refine ⟨(show _ ∨ _ by omega), ?_⟩ | refine ⟨fun h => absurd h (by decide), fun _ => ?_⟩ | refine ⟨fun _ => ?_, fun h => absurd h (by decide)⟩ | refine ⟨fun _ => ?_, fun h => absurd rfl h⟩ | refine ⟨fun h => absurd rfl h, fun _ => ?_⟩)); try (conv => whnf)
    refine ⟨fun hne => ?_, fun heq => ?_⟩
    · (repeat ((conv => whnf); first | refine ⟨_, by assumption, ?_⟩ | refine ⟨_, _, by assumption, ?_⟩ | refine ⟨(show _ ∧ _ by omega), ?_⟩ | refine ⟨(show _ ∨ _ by omega), ?_⟩ | refine ⟨fun h => absurd h (by decide), fun _ => ?_⟩ | refine ⟨fun _ => ?_, fun h => absurd h (by decide)⟩ | refine ⟨fun _ => ?_, fun h => absurd rfl h⟩ | refine ⟨fun h => absurd rfl h, fun _ => ?_⟩)); try (conv => whnf)
      refine hG _ _ _ _ _ _ ?_
      refine tail I2 L hF2' (hF2 368 (by decide)) (hF2 369 (by decide)) ?_ ?_ ?_ (by omega)
      · refine fro_of hL (fun x hx => ?_) (fun y hy => ?_)
        · obtain ⟨pl, a1, a2, a3, a4⟩ := hx
          exact ⟨pl, a1, a2, a3, by omega⟩
        · obtain ⟨pl, a1, a2, a3, a4⟩ := hy
          refine ⟨y, ⟨pl, a1, a2, a3, ?_⟩, wb_rfl y⟩
          by_cases hv : val (I 362) pl = val (I 362) (I' 368)
          · have := val_inj hW a1 hA hv
            rw [wro_cong hW this] at a2
            exact absurd a2 hne
          · omega
      · rw [hF2 361 (by decide)]; exact hsz
      · intro i t h
        rw [hF2 374 (by decide), hF2 375 (by decide), hF2 376 (by decide)]
        exact hHd i t h
    · (repeat ((conv => whnf); first | refine ⟨_, by assumption, ?_⟩ | refine ⟨_, _, by assumption, ?_⟩ | refine ⟨(show _ ∧ _ by omega), ?_⟩ | refine ⟨(show _ ∨ _ by omega), ?_⟩ | refine ⟨fun h => absurd h (by decide), fun _ => ?_⟩ | refine ⟨fun _ => ?_, fun h => absurd h (by decide)⟩ | refine ⟨fun _ => ?_, fun h => absurd rfl h⟩ | refine ⟨fun h => absurd rfl h, fun _ => ?_⟩)); try (conv => whnf)
      refine hC _ _ _ _ _ _ ?_
      refine ok_slack0 hM e2 hW hp hwd hran ?_
      (repeat ((conv => whnf); first | refine ⟨_, by assumption, ?_⟩ | refine ⟨_, _, by assumption, ?_⟩ | refine ⟨(show _ ∧ _ by omega), ?_⟩ | refine ⟨(show _ ∨ _ by omega), ?_⟩ | refine ⟨fun h => absurd h (by decide), fun _ => ?_⟩ | refine ⟨fun _ => ?_, fun h => absurd h (by decide)⟩ | refine ⟨fun _ => ?_, fun h => absurd rfl h⟩ | refine ⟨fun h => absurd rfl h, fun _ => ?_⟩)); try (conv => whnf)
      refine hC _ _ _ _ _ _ ?_
      refine ok_cost0 (pl := I' 368) hM e2 hW hp (fun v g1 g2 => by rw [hF2 368 (by decide)]) ?_
      (repeat ((conv => whnf); first | refine ⟨_, by assumption, ?_⟩ | refine ⟨_, _, by assumption, ?_⟩ | refine ⟨(show _ ∧ _ by omega), ?_⟩ | refine ⟨(show _ ∨ _ by omega), ?_⟩ | refine ⟨fun h => absurd h (by decide), fun _ => ?_⟩ | refine ⟨fun _ => ?_, fun h => absurd h (by decide)⟩ | refine ⟨fun _ => ?_, fun h => absurd rfl h⟩ | refine ⟨fun h => absurd rfl h, fun _ => ?_⟩)); try (conv => whnf)
      refine hC _ _ _ _ _ _ ?_
      refine ok_meets (t := ptr (I 362) (I' 368)) (L := L) hM (by rw [hF2 361 (by decide)]; exact hsz) (fun i t h => by rw [hF2 374 (by decide), hF2 375 (by decide), hF2 376 (by decide)]; exact hHd i t h) (by omega) (ptr_bd hW hp).tR (fun x hx => (hbX L _ hL x hx).tR) (fun I3 L3 hF3 hmt hsz3 hHd3 => ?_)
      (repeat ((conv => whnf); first | refine ⟨_, by assumption, ?_⟩ | refine ⟨_, _, by assumption, ?_⟩ | refine ⟨(show _ ∧ _ by omega), ?_⟩ | refine ⟨(show _ ∨ _ by omega), ?_⟩ | refine ⟨fun h => absurd h (by decide), fun _ => ?_⟩ | refine ⟨fun _ => ?_, fun h => absurd h (by decide)⟩ | refine ⟨fun _ => ?_, fun h => absurd rfl h⟩ | refine ⟨fun h => absurd rfl h, fun _ => ?_⟩)); try (conv => whnf)
      refine hG _ _ _ _ _ _ ?_
      have hl3 := mts_len hmt
      refine tail I3 L3 (hF2'.trans hF3 (by simp; omega) (by simp)) (by rw [hF3.1 368 (by decide), hF2 368 (by decide)]) (by rw [hF3.1 369 (by decide), hF2 369 (by decide)]) ?_ hsz3 hHd3 (by omega)
      refine fro_of (mts_fro hL hmt) (fun x hx => ?_) (fun y hy => ?_)
      · rcases hx with hx | rfl
        · obtain ⟨pl, a1, a2, a3, a4⟩ := hx
          exact ⟨pl, a1, a2, a3, by omega⟩
        · exact ⟨I' 368, hA, heq, rfl, by omega⟩
      · obtain ⟨pl, a1, a2, a3, a4⟩ := hy
        refine ⟨y, ?_, wb_rfl y⟩
        by_cases hv : val (I 362) pl = val (I 362) (I' 368)
        · have := val_inj hW a1 hA hv
          exact Or.inr (by rw [a3]; exact ptr_cong hW this)
        · exact Or.inl ⟨pl, a1, a2, a3, by omega⟩
  have zero : ∀ (k : Nat) (v : Int) (I' : aI), 0 ≤ v → I 362 0 - v = k → MF [368, 369, 370, 371, 372, 373, 374, 375, 376] [18] I I' → I' 361 18 = 0 → (∀ u, 1 ≤ u → u < I 362 0 → I' 369 u = wd0 (I 362) u) → (∀ u, 0 ≤ u → u < v → I' 368 u = 0) → Go P 98 (d + 6) K 11 [vr 361, vi v] [] I' R S := by
    intro k
    induction k with
    | zero =>
      intro v I' hv hk hF h18 h9 h8
      have e : I' 362 = I 362 := hF.1 362 (by decide)
      have hA : Asg (I 362) 0 (I' 368) := fun u g1 g2 => ⟨fun _ => Or.inl (h8 u g1 (by omega)), fun _ => h8 u g1 (by omega)⟩
      have hv0 : val (I 362) (I' 368) = 0 := by
        have z : ∀ u : Int, 0 ≤ u → dg (I 362) (I' 368) u = 0 := fun u hu => by
          unfold dg
          split
          · exact h8 u hu (by omega)
          · rfl
        unfold val
        rw [z 1 (by omega), z 2 (by omega), z 3 (by omega), z 4 (by omega), z 5 (by omega)]
        rfl
      refine Go.walk 400 [11, 36] E98 E98_ok (fun G C hG hC => ?_)
      (repeat ((conv => whnf); first | refine ⟨_, by assumption, ?_⟩ | refine ⟨_, _, by assumption, ?_⟩ | refine ⟨(show _ ∧ _ by omega), ?_⟩ | refine ⟨(show _ ∨ _ by omega), ?_⟩ | refine ⟨fun h => absurd h (by decide), fun _ => ?_⟩ | refine ⟨fun _ => ?_, fun h => absurd h (by decide)⟩ | refine ⟨fun _ => ?_, fun h => absurd rfl h⟩ | refine ⟨fun h => absurd rfl h, fun _ => ?_⟩)); try (conv => whnf)
      rw [e]
      refine ⟨by omega, ?_⟩
      refine ⟨fun _ => ?_, fun h => absurd (show I 362 0 ≤ v by omega) h⟩
      (repeat ((conv => whnf); first | refine ⟨_, by assumption, ?_⟩ | refine ⟨_, _, by assumption, ?_⟩ | refine ⟨(show _ ∧ _ by omega), ?_⟩ | refine ⟨(show _ ∨ _ by omega), ?_⟩ | refine ⟨fun h => absurd h (by decide), fun _ => ?_⟩ | refine ⟨fun _ => ?_, fun h => absurd h (by decide)⟩ | refine ⟨fun _ => ?_, fun h => absurd rfl h⟩ | refine ⟨fun h => absurd rfl h, fun _ => ?_⟩)); try (conv => whnf)
      refine hG _ _ _ _ _ _ ?_
      refine main 1024 I' [] (by omega) hF hA h9 ?_ h18 (fun i t h => by cases h) (by rw [hv0]; decide)
      refine fro_of fro_nil (fun _ h => h.elim) (fun y hy => ?_)
      obtain ⟨pl, a1, a2, a3, a4⟩ := hy
      have := val_bd hW a1
      omega
    | succ k ih =>
      intro v I' hv hk hF h18 h9 h8
      have e : I' 362 = I 362 := hF.1 362 (by decide)
      refine Go.walk 400 [11, 36] E98 E98_ok (fun G C hG hC => ?_)
      (repeat ((conv => whnf); first | refine ⟨_, by assumption, ?_⟩ | refine ⟨_, _, by assumption, ?_⟩ | refine ⟨(show _ ∧ _ by omega), ?_⟩ | refine ⟨(show _ ∨ _ by omega), ?_⟩ | refine ⟨fun h => absurd h (by decide), fun _ => ?_⟩ | refine ⟨fun _ => ?_, fun h => absurd h (by decide)⟩ | refine ⟨fun _ => ?_, fun h => absurd rfl h⟩ | refine ⟨fun h => absurd rfl h, fun _ => ?_⟩)); try (conv => whnf)
      rw [e]
      refine ⟨by omega, ?_⟩
      refine ⟨fun h => absurd h (by omega), fun _ => ?_⟩
      (repeat ((conv => whnf); first | refine ⟨_, by assumption, ?_⟩ | refine ⟨_, _, by assumption, ?_⟩ | refine ⟨(show _ ∧ _ by omega), ?_⟩ | refine ⟨(show _ ∨ _ by omega), ?_⟩ | refine ⟨fun h => absurd h (by decide), fun _ => ?_⟩ | refine ⟨fun _ => ?_, fun h => absurd h (by decide)⟩ | refine ⟨fun _ => ?_, fun h => absurd rfl h⟩ | refine ⟨fun h => absurd rfl h, fun _ => ?_⟩)); try (conv => whnf)
      refine hG _ _ _ _ _ _ ?_
      refine ih (v + 1) _ (by omega) (by omega) (hF.put (by decide) (by decide)) (by rw [uI_ne (by omega)]; exact h18) (fun u g1 g2 => by rw [uI_ne (by omega)]; exact h9 u g1 g2) (fun u g1 g2 => ?_)
      by_cases hu : u = v
      · subst hu; exact uI_at
      · rw [uI_ne (by omega)]; exact h8 u g1 (by omega)
  refine Ok.of (by decide) rfl (Nat.le_of_ble_eq_true rfl) ?_
  refine Go.walk 400 [11] E98 E98_ok (fun G C hG hC => ?_)
  (repeat ((conv => whnf); first | refine ⟨_, by assumption, ?_⟩ | refine ⟨_, _, by assumption, ?_⟩ | refine ⟨(show _ ∧ _ by omega), ?_⟩ | refine ⟨(show _ ∨ _ by omega), ?_⟩ | refine ⟨fun h => absurd h (by decide), fun _ => ?_⟩ | refine ⟨fun _ => ?_, fun h => absurd h (by decide)⟩ | refine ⟨fun _ => ?_, fun h => absurd rfl h⟩ | refine ⟨fun h => absurd rfl h, fun _ => ?_⟩)); try (conv => whnf)
  refine hC _ _ _ _ _ _ ?_
  refine ok_asPlaced hM hW (fun I1 hF1 h1 => ?_)
  (repeat ((conv => whnf); first | refine ⟨_, by assumption, ?_⟩ | refine ⟨_, _, by assumption, ?_⟩ | refine ⟨(show _ ∧ _ by omega), ?_⟩ | refine ⟨(show _ ∨ _ by omega), ?_⟩ | refine ⟨fun h => absurd h (by decide), fun _ => ?_⟩ | refine ⟨fun _ => ?_, fun h => absurd h (by decide)⟩ | refine ⟨fun _ => ?_, fun h => absurd rfl h⟩ | refine ⟨fun h => absurd rfl h, fun _ => ?_⟩)); try (conv => whnf)
  refine hG _ _ _ _ _ _ ?_
  refine zero (I 362 0).toNat 0 (uI I1 361 18 0) (by omega) (by omega) (((MF.of (J := [18]) hF1 (by decide)).trans (MF.rf (L := []) (J := [])) (by simp <;> omega) (by simp)).putF (by decide)) uI_at (fun u g1 g2 => ?_) (fun u g1 g2 => absurd g2 (by omega))
  rw [uI_ne (by omega)]
  exact (h1 u (by omega) g2).2
