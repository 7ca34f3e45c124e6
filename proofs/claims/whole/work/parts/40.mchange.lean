/-! the reference: changeNow -/
theorem QF.tr {I I1 I2 : aI} (h : QF I I1) (h2 : QF I1 I2) : QF I I2 := h.trans h2 (fun _ h => h.elim id id) (fun _ h => h.elim id id)
abbrev aCh : Type := Int × Int × Int
def chOk (n : aN) (v k : Int) : Bool := decide (k ≠ nf n v 7) && ((decide (k = 0) || isKb n k) && decide (bAnd (wro n (setP (pl0 n) v k)) (bXor (wro n (pl0 n)) (-1)) = 0))
def chOne (n : aN) (v k : Int) (x : aCh) : aCh := if chOk n v k = true ∧ (x.1 = -1 ∨ x.2.1 < sla n (setP (pl0 n) v k) (wd0 n) ∨ (sla n (setP (pl0 n) v k) (wd0 n) = x.2.1 ∧ mCost n (setP (pl0 n) v k) 0 < x.2.2)) then (10 * v + k, sla n (setP (pl0 n) v k) (wd0 n), mCost n (setP (pl0 n) v k) 0) else x
def chAll (n : aN) : aCh := rf (fun v x => rf (fun k y => chOne n v k y) x 0 4) (-1, 0, 0) 1 (n 0)
def mChange (n : aN) : Int := (chAll n).1
def chB (x : aCh) : Prop := (-1 ≤ x.1 ∧ x.1 ≤ 53) ∧ (-920000 ≤ x.2.1 ∧ x.2.1 ≤ 900000) ∧ (0 ≤ x.2.2 ∧ x.2.2 ≤ 495)
theorem chOk_iff {n : aN} {v k : Int} : chOk n v k = true ↔ k ≠ nf n v 7 ∧ (k = 0 ∨ isKb n k = true) ∧ bAnd (wro n (setP (pl0 n) v k)) (bXor (wro n (pl0 n)) (-1)) = 0 := by simp [chOk]
/-- changeNow() -/
theorem ok_mchangeNow {P : aP} {d : Nat} {K : aK} {I : aI} {R : aR} {S : aS} (hM : MS R S) (hW : WF (I 362)) (hK : ∀ I', QF I I' → -1 ≤ mChange (I 362) ∧ mChange (I 362) ≤ 53 → K (some (vi (mChange (I 362)))) I' R S) : Ok P 100 (d + 6) [vr 361] I R S K := by
  obtain ⟨m0, r1, m1, r2, m2, r3, m3, r4, m4, r5, m5, r6, m6, r7, m7, r8, m8, r9, m9, r10, m10, r11, m11, r12, m12, r13, m13, r14, m14, r15, m15⟩ := id hM
  have hN := hW.1
  have hwr : iR (wro (I 362) (pl0 (I 362))) := iR_mWrong
  have inner : ∀ (v : Int) (x0 : aCh), 1 ≤ v → v < I 362 0 → ∀ (m : Nat) (k : Int) (I' : aI) (z6 z7 : aV), 0 ≤ k → 4 - k = m → QF I I' → chB (rf (fun k y => chOne (I 362) v k y) x0 0 k) → ((rf (fun k y => chOne (I 362) v k y) x0 0 k).1 ≠ -1 → I' 361 19 = (rf (fun k y => chOne (I 362) v k y) x0 0 k).2.1) →
      (∀ (I2 : aI) (z5 z6 z7 : aV), QF I I2 → chB (rf (fun k y => chOne (I 362) v k y) x0 0 4) → ((rf (fun k y => chOne (I 362) v k y) x0 0 4).1 ≠ -1 → I2 361 19 = (rf (fun k y => chOne (I 362) v k y) x0 0 4).2.1) → Go P 100 (d + 6) K 175 [vr 361, vi (wro (I 362) (pl0 (I 362))), vi (rf (fun k y => chOne (I 362) v k y) x0 0 4).1, vi (rf (fun k y => chOne (I 362) v k y) x0 0 4).2.2, vi v, z5, z6, z7] [] I2 R S) →
      Go P 100 (d + 6) K 35 [vr 361, vi (wro (I 362) (pl0 (I 362))), vi (rf (fun k y => chOne (I 362) v k y) x0 0 k).1, vi (rf (fun k y => chOne (I 362) v k y) x0 0 k).2.2, vi v, vi k, z6, z7] [] I' R S := by
    intro v x0 hv1 hv2 m
    have hn7 := hW.2.1 v (by omega) (by omega)
    induction m with
    | zero =>
      intro k I' z6 z7 h0 hm hF hcb h19 hk
      have hk4 : k = 4 := by omega
      subst hk4
      refine Go.walk 400 [35, 175] E100 E100_ok (fun G C hG hC => ?_)
      (repeat ((conv => whnf); first | refine ⟨_, by assumption, ?_⟩ | refine ⟨_, _, by assumption, ?_⟩ | refine ⟨(show _ ∧ _ by omega), ?_⟩ | refine ⟨(show _ ∨ _ by omega), ?_⟩ | refine ⟨fun h => absurd h (by decide), fun _ => ?_⟩ | refine ⟨fun _ => ?_, fun h => absurd h (by decide)⟩ | refine ⟨fun _ => ?_, fun h => absurd rfl h⟩ | refine ⟨fun h => absurd rfl h, fun _ => ?_⟩)); try (conv => whnf)
      refine hG _ _ _ _ _ _ ?_
      exact hk I' _ _ _ hF hcb h19
    | succ m ih =>
      intro k I' z6 z7 h0 hm hF hcb h19 hk
      have e := hF.1 362 (by decide)
      have ih2 := ih (k + 1)
      rw [rf_succ h0] at ih2
      generalize hx : rf (fun k y => chOne (I 362) v k y) x0 0 k = x at ih2 hcb h19 ⊢
      -- passed over
      have skip : chOne (I 362) v k x = x → ∀ (I3 : aI) (z6 z7 : aV), QF I I3 → (x.1 ≠ -1 → I3 361 19 = x.2.1) → Go P 100 (d + 6) K 169 [vr 361, vi (wro (I 362) (pl0 (I 362))), vi x.1, vi x.2.2, vi v, vi k, z6, z7] [] I3 R S := by
        intro hc I3 z6 z7 hF3 g19
        rw [hc] at ih2
        refine Go.walk 400 [35] E100 E100_ok (fun G C hG hC => ?_)
        (repeat ((conv => whnf); first | refine ⟨_, by assumption, ?_⟩ | refine ⟨_, _, by assumption, ?_⟩ | refine ⟨(show _ ∧ _ by omega), ?_⟩ | refine ⟨(show _ ∨ _ by omega), ?_⟩ | refine ⟨fun h => absurd h (by decide), fun _ => ?_⟩ | refine ⟨fun _ => ?_, fun h => absurd h (by decide)⟩ | refine ⟨fun _ => ?_, fun h => absurd rfl h⟩ | refine ⟨fun h => absurd rfl h, fun _ => ?_⟩)); try (conv => whnf)
        refine hG _ _ _ _ _ _ ?_
        exact ih2 I3 z6 z7 (by omega) (by omega) hF3 hcb g19 hk
      have hno : chOk (I 362) v k = false → chOne (I 362) v k x = x := fun h => by unfold chOne; rw [if_neg (fun z => by rw [h] at z; exact absurd z.1 Bool.false_ne_true)]
      -- the run
      have run : k ≠ nf (I 362) v 7 → (k = 0 ∨ isKb (I 362) k = true) → Go P 100 (d + 6) K 68 [vr 361, vi (wro (I 362) (pl0 (I 362))), vi x.1, vi x.2.2, vi v, vi k, z6, z7] [] I' R S := by
        intro hk7 hkk
        have hsp := setP_ok hW (v := v) (k := k) (by omega) hkk
        have hsb := sla_bd hW hsp (wd0_ok hW)
        have hcbd := mCost_bd hW (top := 0) hsp
        have hwk : iR (wro (I 362) (setP (pl0 (I 362)) v k)) := iR_mWrong
        have hax : iR (bAnd (wro (I 362) (setP (pl0 (I 362)) v k)) (bXor (wro (I 362) (pl0 (I 362))) (-1))) := iR_t32 _
        have hbx : iR (bXor (wro (I 362) (pl0 (I 362))) (-1)) := iR_t32 _
        refine Go.walk 400 [148, 169] E100 E100_ok (fun G C hG hC => ?_)
        (repeat ((conv => whnf); first | refine ⟨_, by assumption, ?_⟩ | refine ⟨_, _, by assumption, ?_⟩ | refine ⟨(show _ ∧ _ by omega), ?_⟩ | refine ⟨(show _ ∨ _ by omega), ?_⟩ | refine ⟨fun h => absurd h (by decide), fun _ => ?_⟩ | refine ⟨fun _ => ?_, fun h => absurd h (by decide)⟩ | refine ⟨fun _ => ?_, fun h => absurd rfl h⟩ | refine ⟨fun h => absurd rfl h, fun _ => ?_⟩)); try (conv => whnf)
        refine hC _ _ _ _ _ _ ?_
        refine ok_asPlaced hM (by rw [e]; exact hW) (fun I1 hF1 g1 => ?_)
        rw [e] at g1
        have e1 : I1 362 = I 362 := by rw [hF1 362 (by decide), e]
        have e2 : uI I1 368 v k 362 = I 362 := by funext x; rw [uI_ne (by omega), e1]
        (repeat ((conv => whnf); first | refine ⟨_, by assumption, ?_⟩ | refine ⟨_, _, by assumption, ?_⟩ | refine ⟨(show _ ∧ _ by omega), ?_⟩ | refine ⟨(show _ ∨ _ by omega), ?_⟩ | refine ⟨fun h => absurd h (by decide), fun _ => ?_⟩ | refine ⟨fun _ => ?_, fun h => absurd h (by decide)⟩ | refine ⟨fun _ => ?_, fun h => absurd rfl h⟩ | refine ⟨fun h => absurd rfl h, fun _ => ?_⟩)); try (conv => whnf)
        refine hC _ _ _ _ _ _ ?_
        refine ok_runsAll2 (pl := setP (pl0 (I 362)) v k) (wd := wd0 (I 362)) hM (by rw [e2]; exact hW) (by rw [e2]; exact hsp) (by rw [e2]; exact wd0_ok hW) (fun x a b => ?_) (fun x a b => ?_) (fun I3 hF3 g3 => ?_)
        · rw [e2] at b
          unfold setP
          by_cases q : x = v
          · subst q; rw [uI_at, if_pos rfl]
          · rw [uI_ne (by omega), if_neg q]; exact (g1 x a b).1
        · rw [e2] at b
          rw [uI_ne (by omega)]; exact (g1 x (by omega) b).2
        rw [e2] at g3
        have e3 : I3 362 = I 362 := by rw [hF3 362 (by decide), e2]
        have hF02 : QF I (uI I1 368 v k) := MF.put (hF.tr (QF.fr hF1 (by decide) (by simp <;> omega))) (by decide) (by decide)
        have hF03 : QF I I3 := hF02.tr (QF.fr hF3 (by decide) (by simp <;> omega))
        have f19 : I3 361 19 = I' 361 19 := by rw [hF3 361 (by decide), uI_ne (by omega), hF1 361 (by decide)]
        have f8 : ∀ y, 0 ≤ y → y < I 362 0 → I3 368 y = setP (pl0 (I 362)) v k y := by
          intro y a b
          rw [hF3 368 (by decide)]
          unfold setP
          by_cases q : y = v
          · subst q; rw [uI_at, if_pos rfl]
          · rw [uI_ne (by omega), if_neg q]; exact (g1 y a b).1
        (repeat ((conv => whnf); first | refine ⟨_, by assumption, ?_⟩ | refine ⟨_, _, by assumption, ?_⟩ | refine ⟨(show _ ∧ _ by omega), ?_⟩ | refine ⟨(show _ ∨ _ by omega), ?_⟩ | refine ⟨fun h => absurd h (by decide), fun _ => ?_⟩ | refine ⟨fun _ => ?_, fun h => absurd h (by decide)⟩ | refine ⟨fun _ => ?_, fun h => absurd rfl h⟩ | refine ⟨fun h => absurd rfl h, fun _ => ?_⟩)); try (conv => whnf)
        refine hC _ _ _ _ _ _ ?_
        refine ok_slack0 hM e3 hW hsp (wd0_ok hW) g3 ?_
        (repeat ((conv => whnf); first | refine ⟨_, by assumption, ?_⟩ | refine ⟨_, _, by assumption, ?_⟩ | refine ⟨(show _ ∧ _ by omega), ?_⟩ | refine ⟨(show _ ∨ _ by omega), ?_⟩ | refine ⟨fun h => absurd h (by decide), fun _ => ?_⟩ | refine ⟨fun _ => ?_, fun h => absurd h (by decide)⟩ | refine ⟨fun _ => ?_, fun h => absurd rfl h⟩ | refine ⟨fun h => absurd rfl h, fun _ => ?_⟩)); try (conv => whnf)
        refine hC _ _ _ _ _ _ ?_
        refine ok_wrong0 hM e3 hW g3 ?_
        have take : chOk (I 362) v k = true → (x.1 = -1 ∨ x.2.1 < sla (I 362) (setP (pl0 (I 362)) v k) (wd0 (I 362)) ∨ (sla (I 362) (setP (pl0 (I 362)) v k) (wd0 (I 362)) = x.2.1 ∧ mCost (I 362) (setP (pl0 (I 362)) v k) 0 < x.2.2)) → Go P 100 (d + 6) K 148 [vr 361, vi (wro (I 362) (pl0 (I 362))), vi x.1, vi x.2.2, vi v, vi k, vi (sla (I 362) (setP (pl0 (I 362)) v k) (wd0 (I 362))), vi 1] [] I3 R S := by
          intro c1 c2
          have hc : chOne (I 362) v k x = (10 * v + k, sla (I 362) (setP (pl0 (I 362)) v k) (wd0 (I 362)), mCost (I 362) (setP (pl0 (I 362)) v k) 0) := by unfold chOne; rw [if_pos ⟨c1, c2⟩]
          rw [hc] at ih2
          refine Go.walk 400 [35] E100 E100_ok (fun G C hG hC => ?_)
          (repeat ((conv => whnf); first | refine ⟨_, by assumption, ?_⟩ | refine ⟨_, _, by assumption, ?_⟩ | refine ⟨(show _ ∧ _ by omega), ?_⟩ | refine ⟨(show _ ∨ _ by omega), ?_⟩ | refine ⟨fun h => absurd h (by decide), fun _ => ?_⟩ | refine ⟨fun _ => ?_, fun h => absurd h (by decide)⟩ | refine ⟨fun _ => ?_, fun h => absurd rfl h⟩ | refine ⟨fun h => absurd rfl h, fun _ => ?_⟩)); try (conv => whnf)
          refine hC _ _ _ _ _ _ ?_
          refine ok_cost0 hM e3 hW hsp f8 ?_
          (repeat ((conv => whnf); first | refine ⟨_, by assumption, ?_⟩ | refine ⟨_, _, by assumption, ?_⟩ | refine ⟨(show _ ∧ _ by omega), ?_⟩ | refine ⟨(show _ ∨ _ by omega), ?_⟩ | refine ⟨fun h => absurd h (by decide), fun _ => ?_⟩ | refine ⟨fun _ => ?_, fun h => absurd h (by decide)⟩ | refine ⟨fun _ => ?_, fun h => absurd rfl h⟩ | refine ⟨fun h => absurd rfl h, fun _ => ?_⟩)); try (conv => whnf)
          refine hG _ _ _ _ _ _ ?_
          refine ih2 _ _ _ (by omega) (by omega) (hF03.putF (j := 19) (by decide)) ⟨⟨by show -1 ≤ 10 * v + k; omega, by show 10 * v + k ≤ 53; omega⟩, hsb, hcbd⟩ (fun _ => uI_at) hk
        obtain ⟨hcb1, hcb2, hcb3⟩ := id hcb
        (repeat ((conv => whnf); first | refine ⟨_, by assumption, ?_⟩ | refine ⟨_, _, by assumption, ?_⟩ | refine ⟨(show _ ∧ _ by omega), ?_⟩ | refine ⟨(show _ ∨ _ by omega), ?_⟩ | refine ⟨fun h => absurd h (by decide), fun _ => ?_⟩ | refine ⟨fun _ => ?_, fun h => absurd h (by decide)⟩ | refine ⟨fun _ => ?_, fun h => absurd rfl h⟩ | refine ⟨fun h => absurd rfl h, fun _ => ?_⟩)); try (conv => whnf)
        refine ⟨fun q => ?_, fun q => ?_⟩
        · have hf : chOk (I 362) v k = false := by
            cases hq : chOk (I 362) v k with
            | false => rfl
            | true => exact absurd (chOk_iff.mp hq).2.2 q
          (repeat ((conv => whnf); first | refine ⟨_, by assumption, ?_⟩ | refine ⟨_, _, by assumption, ?_⟩ | refine ⟨(show _ ∧ _ by omega), ?_⟩ | refine ⟨(show _ ∨ _ by omega), ?_⟩ | refine ⟨fun h => absurd h (by decide), fun _ => ?_⟩ | refine ⟨fun _ => ?_, fun h => absurd h (by decide)⟩ | refine ⟨fun _ => ?_, fun h => absurd rfl h⟩ | refine ⟨fun h => absurd rfl h, fun _ => ?_⟩)); try (conv => whnf)
          refine hG _ _ _ _ _ _ ?_
          exact skip (hno hf) I3 _ _ hF03 (fun z => by rw [f19]; exact h19 z)
        · have ht : chOk (I 362) v k = true := chOk_iff.mpr ⟨hk7, hkk, q⟩
          (repeat ((conv => whnf); first | refine ⟨_, by assumption, ?_⟩ | refine ⟨_, _, by assumption, ?_⟩ | refine ⟨(show _ ∧ _ by omega), ?_⟩ | refine ⟨(show _ ∨ _ by omega), ?_⟩ | refine ⟨fun h => absurd h (by decide), fun _ => ?_⟩ | refine ⟨fun _ => ?_, fun h => absurd h (by decide)⟩ | refine ⟨fun _ => ?_, fun h => absurd rfl h⟩ | refine ⟨fun h => absurd rfl h, fun _ => ?_⟩)); try (conv => whnf)
          refine ⟨fun q1 => ?_, fun q1 => ?_⟩
          · (repeat ((conv => whnf); first | refine ⟨_, by assumption, ?_⟩ | refine ⟨_, _, by assumption, ?_⟩ | refine ⟨(show _ ∧ _ by omega), ?_⟩ | refine ⟨(show _ ∨ _ by omega), ?_⟩ | refine ⟨fun h => absurd h (by decide), fun _ => ?_⟩ | refine ⟨fun _ => ?_, fun h => absurd h (by decide)⟩ | refine ⟨fun _ => ?_, fun h => absurd rfl h⟩ | refine ⟨fun h => absurd rfl h, fun _ => ?_⟩)); try (conv => whnf)
            refine hG _ _ _ _ _ _ ?_
            exact take ht (Or.inl q1)
          · have e19 : I3 361 ((19 : Nat) : Int) = x.2.1 := by rw [show I3 361 ((19 : Nat) : Int) = I' 361 19 from f19]; exact h19 q1
            (repeat ((conv => whnf); first | refine ⟨_, by assumption, ?_⟩ | refine ⟨_, _, by assumption, ?_⟩ | refine ⟨(show _ ∧ _ by omega), ?_⟩ | refine ⟨(show _ ∨ _ by omega), ?_⟩ | refine ⟨fun h => absurd h (by decide), fun _ => ?_⟩ | refine ⟨fun _ => ?_, fun h => absurd h (by decide)⟩ | refine ⟨fun _ => ?_, fun h => absurd rfl h⟩ | refine ⟨fun h => absurd rfl h, fun _ => ?_⟩)); try (conv => whnf)
            rw [e19]
            refine ⟨fun q2 => ?_, fun q2 => ?_⟩
            · (repeat ((conv => whnf); first | refine ⟨_, by assumption, ?_⟩ | refine ⟨_, _, by assumption, ?_⟩ | refine ⟨(show _ ∧ _ by omega), ?_⟩ | refine ⟨(show _ ∨ _ by omega), ?_⟩ | refine ⟨fun h => absurd h (by decide), fun _ => ?_⟩ | refine ⟨fun _ => ?_, fun h => absurd h (by decide)⟩ | refine ⟨fun _ => ?_, fun h => absurd rfl h⟩ | refine ⟨fun h => absurd rfl h, fun _ => ?_⟩)); try (conv => whnf)
              refine hG _ _ _ _ _ _ ?_
              exact take ht (Or.inr (Or.inl (by omega)))
            · (repeat ((conv => whnf); first | refine ⟨_, by assumption, ?_⟩ | refine ⟨_, _, by assumption, ?_⟩ | refine ⟨(show _ ∧ _ by omega), ?_⟩ | refine ⟨(show _ ∨ _ by omega), ?_⟩ | refine ⟨fun h => absurd h (by decide), fun _ => ?_⟩ | refine ⟨fun _ => ?_, fun h => absurd h (by decide)⟩ | refine ⟨fun _ => ?_, fun h => absurd rfl h⟩ | refine ⟨fun h => absurd rfl h, fun _ => ?_⟩)); try (conv => whnf)
              rw [e19]
              refine ⟨fun q3 => ?_, fun q3 => ?_⟩
              · (repeat ((conv => whnf); first | refine ⟨_, by assumption, ?_⟩ | refine ⟨_, _, by assumption, ?_⟩ | refine ⟨(show _ ∧ _ by omega), ?_⟩ | refine ⟨(show _ ∨ _ by omega), ?_⟩ | refine ⟨fun h => absurd h (by decide), fun _ => ?_⟩ | refine ⟨fun _ => ?_, fun h => absurd h (by decide)⟩ | refine ⟨fun _ => ?_, fun h => absurd rfl h⟩ | refine ⟨fun h => absurd rfl h, fun _ => ?_⟩)); try (conv => whnf)
                refine hG _ _ _ _ _ _ ?_
                exact skip (by unfold chOne; rw [if_neg (by omega)]) I3 _ _ hF03 (fun z => by rw [f19]; exact h19 z)
              · (repeat ((conv => whnf); first | refine ⟨_, by assumption, ?_⟩ | refine ⟨_, _, by assumption, ?_⟩ | refine ⟨(show _ ∧ _ by omega), ?_⟩ | refine ⟨(show _ ∨ _ by omega), ?_⟩ | refine ⟨fun h => absurd h (by decide), fun _ => ?_⟩ | refine ⟨fun _ => ?_, fun h => absurd h (by decide)⟩ | refine ⟨fun _ => ?_, fun h => absurd rfl h⟩ | refine ⟨fun h => absurd rfl h, fun _ => ?_⟩)); try (conv => whnf)
                refine hC _ _ _ _ _ _ ?_
                refine ok_cost0 hM e3 hW hsp f8 ?_
                (repeat ((conv => whnf); first | refine ⟨_, by assumption, ?_⟩ | refine ⟨_, _, by assumption, ?_⟩ | refine ⟨(show _ ∧ _ by omega), ?_⟩ | refine ⟨(show _ ∨ _ by omega), ?_⟩ | refine ⟨fun h => absurd h (by decide), fun _ => ?_⟩ | refine ⟨fun _ => ?_, fun h => absurd h (by decide)⟩ | refine ⟨fun _ => ?_, fun h => absurd rfl h⟩ | refine ⟨fun h => absurd rfl h, fun _ => ?_⟩)); try (conv => whnf)
                refine ⟨fun q4 => ?_, fun q4 => ?_⟩
                · (repeat ((conv => whnf); first | refine ⟨_, by assumption, ?_⟩ | refine ⟨_, _, by assumption, ?_⟩ | refine ⟨(show _ ∧ _ by omega), ?_⟩ | refine ⟨(show _ ∨ _ by omega), ?_⟩ | refine ⟨fun h => absurd h (by decide), fun _ => ?_⟩ | refine ⟨fun _ => ?_, fun h => absurd h (by decide)⟩ | refine ⟨fun _ => ?_, fun h => absurd rfl h⟩ | refine ⟨fun h => absurd rfl h, fun _ => ?_⟩)); try (conv => whnf)
                  refine hG _ _ _ _ _ _ ?_
                  exact skip (by unfold chOne; rw [if_neg (by omega)]) I3 _ _ hF03 (fun z => by rw [f19]; exact h19 z)
                · (repeat ((conv => whnf); first | refine ⟨_, by assumption, ?_⟩ | refine ⟨_, _, by assumption, ?_⟩ | refine ⟨(show _ ∧ _ by omega), ?_⟩ | refine ⟨(show _ ∨ _ by omega), ?_⟩ | refine ⟨fun h => absurd h (by decide), fun _ => ?_⟩ | refine ⟨fun _ => ?_, fun h => absurd h (by decide)⟩ | refine ⟨fun _ => ?_, fun h => absurd rfl h⟩ | refine ⟨fun h => absurd rfl h, fun _ => ?_⟩)); try (conv => whnf)
                  refine hG _ _ _ _ _ _ ?_
                  exact take ht (Or.inr (Or.inr ⟨by omega, by omega⟩))
      refine Go.walk 400 [68, 169] E100 E100_ok (fun G C hG hC => ?_)
      (repeat ((conv => whnf); first | refine ⟨_, by assumption, ?_⟩ | refine ⟨_, _, by assumption, ?_⟩ | refine ⟨(show _ ∧ _ by omega), ?_⟩ | refine ⟨(show _ ∨ _ by omega), ?_⟩ | refine ⟨fun h => absurd h (by decide), fun _ => ?_⟩ | refine ⟨fun _ => ?_, fun h => absurd h (by decide)⟩ | refine ⟨fun _ => ?_, fun h => absurd rfl h⟩ | refine ⟨fun h => absurd rfl h, fun _ => ?_⟩)); try (conv => whnf)
      refine ⟨fun q => absurd q (by omega), fun _ => ?_⟩
      (repeat ((conv => whnf); first | refine ⟨_, by assumption, ?_⟩ | refine ⟨_, _, by assumption, ?_⟩ | refine ⟨(show _ ∧ _ by omega), ?_⟩ | refine ⟨(show _ ∨ _ by omega), ?_⟩ | refine ⟨fun h => absurd h (by decide), fun _ => ?_⟩ | refine ⟨fun _ => ?_, fun h => absurd h (by decide)⟩ | refine ⟨fun _ => ?_, fun h => absurd rfl h⟩ | refine ⟨fun h => absurd rfl h, fun _ => ?_⟩)); try (conv => whnf)
      refine hC _ _ _ _ _ _ ?_
      refine ok_of hM (by omega) ?_
      rw [e]
      (repeat ((conv => whnf); first | refine ⟨_, by assumption, ?_⟩ | refine ⟨_, _, by assumption, ?_⟩ | refine ⟨(show _ ∧ _ by omega), ?_⟩ | refine ⟨(show _ ∨ _ by omega), ?_⟩ | refine ⟨fun h => absurd h (by decide), fun _ => ?_⟩ | refine ⟨fun _ => ?_, fun h => absurd h (by decide)⟩ | refine ⟨fun _ => ?_, fun h => absurd rfl h⟩ | refine ⟨fun h => absurd rfl h, fun _ => ?_⟩)); try (conv => whnf)
      refine ⟨fun q => ?_, fun q => ?_⟩
      · have hf : chOk (I 362) v k = false := by
          cases hq : chOk (I 362) v k with
          | false => rfl
          | true => exact absurd q (chOk_iff.mp hq).1
        (repeat ((conv => whnf); first | refine ⟨_, by assumption, ?_⟩ | refine ⟨_, _, by assumption, ?_⟩ | refine ⟨(show _ ∧ _ by omega), ?_⟩ | refine ⟨(show _ ∨ _ by omega), ?_⟩ | refine ⟨fun h => absurd h (by decide), fun _ => ?_⟩ | refine ⟨fun _ => ?_, fun h => absurd h (by decide)⟩ | refine ⟨fun _ => ?_, fun h => absurd rfl h⟩ | refine ⟨fun h => absurd rfl h, fun _ => ?_⟩)); try (conv => whnf)
        refine hG _ _ _ _ _ _ ?_
        exact skip (hno hf) I' _ _ hF h19
      · (repeat ((conv => whnf); first | refine ⟨_, by assumption, ?_⟩ | refine ⟨_, _, by assumption, ?_⟩ | refine ⟨(show _ ∧ _ by omega), ?_⟩ | refine ⟨(show _ ∨ _ by omega), ?_⟩ | refine ⟨fun h => absurd h (by decide), fun _ => ?_⟩ | refine ⟨fun _ => ?_, fun h => absurd h (by decide)⟩ | refine ⟨fun _ => ?_, fun h => absurd rfl h⟩ | refine ⟨fun h => absurd rfl h, fun _ => ?_⟩)); try (conv => whnf)
        refine ⟨fun q2 => ?_, fun q2 => ?_⟩
        · (repeat ((conv => whnf); first | refine ⟨_, by assumption, ?_⟩ | refine ⟨_, _, by assumption, ?_⟩ | refine ⟨(show _ ∧ _ by omega), ?_⟩ | refine ⟨(show _ ∨ _ by omega), ?_⟩ | refine ⟨fun h => absurd h (by decide), fun _ => ?_⟩ | refine ⟨fun _ => ?_, fun h => absurd h (by decide)⟩ | refine ⟨fun _ => ?_, fun h => absurd rfl h⟩ | refine ⟨fun h => absurd rfl h, fun _ => ?_⟩)); try (conv => whnf)
          refine hG _ _ _ _ _ _ ?_
          exact run q (Or.inl q2)
        · (repeat ((conv => whnf); first | refine ⟨_, by assumption, ?_⟩ | refine ⟨_, _, by assumption, ?_⟩ | refine ⟨(show _ ∧ _ by omega), ?_⟩ | refine ⟨(show _ ∨ _ by omega), ?_⟩ | refine ⟨fun h => absurd h (by decide), fun _ => ?_⟩ | refine ⟨fun _ => ?_, fun h => absurd h (by decide)⟩ | refine ⟨fun _ => ?_, fun h => absurd rfl h⟩ | refine ⟨fun h => absurd rfl h, fun _ => ?_⟩)); try (conv => whnf)
          refine hC _ _ _ _ _ _ ?_
          refine ok_isKind hM (by omega) (by rw [e]; exact hW) (fun h5 => ?_) (fun h5 => ?_)
          · rw [e] at h5
            (repeat ((conv => whnf); first | refine ⟨_, by assumption, ?_⟩ | refine ⟨_, _, by assumption, ?_⟩ | refine ⟨(show _ ∧ _ by omega), ?_⟩ | refine ⟨(show _ ∨ _ by omega), ?_⟩ | refine ⟨fun h => absurd h (by decide), fun _ => ?_⟩ | refine ⟨fun _ => ?_, fun h => absurd h (by decide)⟩ | refine ⟨fun _ => ?_, fun h => absurd rfl h⟩ | refine ⟨fun h => absurd rfl h, fun _ => ?_⟩)); try (conv => whnf)
            refine hG _ _ _ _ _ _ ?_
            exact run q (Or.inr (isKb_iff.mpr h5))
          · rw [e] at h5
            have hf : chOk (I 362) v k = false := by
              cases hq : chOk (I 362) v k with
              | false => rfl
              | true =>
                rcases (chOk_iff.mp hq).2.1 with z | z
                · exact absurd z q2
                · exact absurd (isKb_iff.mp z) h5
            (repeat ((conv => whnf); first | refine ⟨_, by assumption, ?_⟩ | refine ⟨_, _, by assumption, ?_⟩ | refine ⟨(show _ ∧ _ by omega), ?_⟩ | refine ⟨(show _ ∨ _ by omega), ?_⟩ | refine ⟨fun h => absurd h (by decide), fun _ => ?_⟩ | refine ⟨fun _ => ?_, fun h => absurd h (by decide)⟩ | refine ⟨fun _ => ?_, fun h => absurd rfl h⟩ | refine ⟨fun h => absurd rfl h, fun _ => ?_⟩)); try (conv => whnf)
            refine hG _ _ _ _ _ _ ?_
            exact skip (hno hf) I' _ _ hF h19
  have outer : ∀ (m : Nat) (v : Int) (I' : aI) (z5 z6 z7 : aV), 1 ≤ v → I 362 0 - v = m → QF I I' → chB (rf (fun v x => rf (fun k y => chOne (I 362) v k y) x 0 4) (-1, 0, 0) 1 v) → ((rf (fun v x => rf (fun k y => chOne (I 362) v k y) x 0 4) (-1, 0, 0) 1 v).1 ≠ -1 → I' 361 19 = (rf (fun v x => rf (fun k y => chOne (I 362) v k y) x 0 4) (-1, 0, 0) 1 v).2.1) →
      Go P 100 (d + 6) K 21 [vr 361, vi (wro (I 362) (pl0 (I 362))), vi (rf (fun v x => rf (fun k y => chOne (I 362) v k y) x 0 4) (-1, 0, 0) 1 v).1, vi (rf (fun v x => rf (fun k y => chOne (I 362) v k y) x 0 4) (-1, 0, 0) 1 v).2.2, vi v, z5, z6, z7] [] I' R S := by
    intro m
    induction m with
    | zero =>
      intro v I' z5 z6 z7 h1 hm hF hcb h19
      have e := hF.1 362 (by decide)
      have hN' := hN
      rw [← e] at hN'
      have hv : v = I 362 0 := by omega
      refine Go.walk 400 [21] E100 E100_ok (fun G C hG hC => ?_)
      (repeat ((conv => whnf); first | refine ⟨_, by assumption, ?_⟩ | refine ⟨_, _, by assumption, ?_⟩ | refine ⟨(show _ ∧ _ by omega), ?_⟩ | refine ⟨(show _ ∨ _ by omega), ?_⟩ | refine ⟨fun h => absurd h (by decide), fun _ => ?_⟩ | refine ⟨fun _ => ?_, fun h => absurd h (by decide)⟩ | refine ⟨fun _ => ?_, fun h => absurd rfl h⟩ | refine ⟨fun h => absurd rfl h, fun _ => ?_⟩)); try (conv => whnf)
      rw [e]
      refine ⟨fun _ => ?_, fun q => absurd (show I 362 0 ≤ v by omega) q⟩
      (repeat ((conv => whnf); first | refine ⟨_, by assumption, ?_⟩ | refine ⟨_, _, by assumption, ?_⟩ | refine ⟨(show _ ∧ _ by omega), ?_⟩ | refine ⟨(show _ ∨ _ by omega), ?_⟩ | refine ⟨fun h => absurd h (by decide), fun _ => ?_⟩ | refine ⟨fun _ => ?_, fun h => absurd h (by decide)⟩ | refine ⟨fun _ => ?_, fun h => absurd rfl h⟩ | refine ⟨fun h => absurd rfl h, fun _ => ?_⟩)); try (conv => whnf)
      rw [hv] at hcb
      have := hK I' hF hcb.1
      rw [mChange, chAll, ← hv] at this
      exact this
    | succ m ih =>
      intro v I' z5 z6 z7 h1 hm hF hcb h19
      have e := hF.1 362 (by decide)
      have hN' := hN
      rw [← e] at hN'
      have ih2 := ih (v + 1)
      rw [rf_succ h1] at ih2
      generalize hx : rf (fun v x => rf (fun k y => chOne (I 362) v k y) x 0 4) (-1, 0, 0) 1 v = x at ih2 hcb h19 ⊢
      refine Go.walk 400 [21, 35] E100 E100_ok (fun G C hG hC => ?_)
      (repeat ((conv => whnf); first | refine ⟨_, by assumption, ?_⟩ | refine ⟨_, _, by assumption, ?_⟩ | refine ⟨(show _ ∧ _ by omega), ?_⟩ | refine ⟨(show _ ∨ _ by omega), ?_⟩ | refine ⟨fun h => absurd h (by decide), fun _ => ?_⟩ | refine ⟨fun _ => ?_, fun h => absurd h (by decide)⟩ | refine ⟨fun _ => ?_, fun h => absurd rfl h⟩ | refine ⟨fun h => absurd rfl h, fun _ => ?_⟩)); try (conv => whnf)
      rw [e]
      refine ⟨fun q => absurd q (by omega), fun _ => ?_⟩
      (repeat ((conv => whnf); first | refine ⟨_, by assumption, ?_⟩ | refine ⟨_, _, by assumption, ?_⟩ | refine ⟨(show _ ∧ _ by omega), ?_⟩ | refine ⟨(show _ ∨ _ by omega), ?_⟩ | refine ⟨fun h => absurd h (by decide), fun _ => ?_⟩ | refine ⟨fun _ => ?_, fun h => absurd h (by decide)⟩ | refine ⟨fun _ => ?_, fun h => absurd rfl h⟩ | refine ⟨fun h => absurd rfl h, fun _ => ?_⟩)); try (conv => whnf)
      refine hG _ _ _ _ _ _ ?_
      have hin := inner v x h1 (by omega) 4 0 I' z6 z7 (by omega) (by omega) hF
      rw [rf_nil (Int.le_refl 0)] at hin
      refine hin hcb h19 (fun I2 y5 y6 y7 hF2 hcb2 h192 => ?_)
      refine Go.walk 400 [21] E100 E100_ok (fun G C hG hC => ?_)
      (repeat ((conv => whnf); first | refine ⟨_, by assumption, ?_⟩ | refine ⟨_, _, by assumption, ?_⟩ | refine ⟨(show _ ∧ _ by omega), ?_⟩ | refine ⟨(show _ ∨ _ by omega), ?_⟩ | refine ⟨fun h => absurd h (by decide), fun _ => ?_⟩ | refine ⟨fun _ => ?_, fun h => absurd h (by decide)⟩ | refine ⟨fun _ => ?_, fun h => absurd rfl h⟩ | refine ⟨fun h => absurd rfl h, fun _ => ?_⟩)); try (conv => whnf)
      refine hG _ _ _ _ _ _ ?_
      exact ih2 I2 y5 y6 y7 (by omega) (by omega) hF2 hcb2 h192
  refine Ok.of (by decide) rfl (Nat.le_of_ble_eq_true rfl) ?_
  refine Go.walk 400 [21] E100 E100_ok (fun G C hG hC => ?_)
  (repeat ((conv => whnf); first | refine ⟨_, by assumption, ?_⟩ | refine ⟨_, _, by assumption, ?_⟩ | refine ⟨(show _ ∧ _ by omega), ?_⟩ | refine ⟨(show _ ∨ _ by omega), ?_⟩ | refine ⟨fun h => absurd h (by decide), fun _ => ?_⟩ | refine ⟨fun _ => ?_, fun h => absurd h (by decide)⟩ | refine ⟨fun _ => ?_, fun h => absurd rfl h⟩ | refine ⟨fun h => absurd rfl h, fun _ => ?_⟩)); try (conv => whnf)
  refine hC _ _ _ _ _ _ ?_
  refine ok_asPlaced hM hW (fun I1 hF1 g1 => ?_)
  have e1 := hF1 362 (by decide)
  (repeat ((conv => whnf); first | refine ⟨_, by assumption, ?_⟩ | refine ⟨_, _, by assumption, ?_⟩ | refine ⟨(show _ ∧ _ by omega), ?_⟩ | refine ⟨(show _ ∨ _ by omega), ?_⟩ | refine ⟨fun h => absurd h (by decide), fun _ => ?_⟩ | refine ⟨fun _ => ?_, fun h => absurd h (by decide)⟩ | refine ⟨fun _ => ?_, fun h => absurd rfl h⟩ | refine ⟨fun h => absurd rfl h, fun _ => ?_⟩)); try (conv => whnf)
  refine hC _ _ _ _ _ _ ?_
  refine ok_runsAll2 (pl := pl0 (I 362)) (wd := wd0 (I 362)) hM (by rw [e1]; exact hW) (by rw [e1]; exact pl0_ok hW) (by rw [e1]; exact wd0_ok hW) (by rw [e1]; exact fun v h0 h2 => (g1 v h0 h2).1) (by rw [e1]; exact fun v h0 h2 => (g1 v (by omega) h2).2) (fun I2 hF2 g2 => ?_)
  rw [e1] at g2
  have e2 : I2 362 = I 362 := by rw [hF2 362 (by decide), e1]
  (repeat ((conv => whnf); first | refine ⟨_, by assumption, ?_⟩ | refine ⟨_, _, by assumption, ?_⟩ | refine ⟨(show _ ∧ _ by omega), ?_⟩ | refine ⟨(show _ ∨ _ by omega), ?_⟩ | refine ⟨fun h => absurd h (by decide), fun _ => ?_⟩ | refine ⟨fun _ => ?_, fun h => absurd h (by decide)⟩ | refine ⟨fun _ => ?_, fun h => absurd rfl h⟩ | refine ⟨fun h => absurd rfl h, fun _ => ?_⟩)); try (conv => whnf)
  refine hC _ _ _ _ _ _ ?_
  refine ok_wrong0 hM e2 hW g2 ?_
  (repeat ((conv => whnf); first | refine ⟨_, by assumption, ?_⟩ | refine ⟨_, _, by assumption, ?_⟩ | refine ⟨(show _ ∧ _ by omega), ?_⟩ | refine ⟨(show _ ∨ _ by omega), ?_⟩ | refine ⟨fun h => absurd h (by decide), fun _ => ?_⟩ | refine ⟨fun _ => ?_, fun h => absurd h (by decide)⟩ | refine ⟨fun _ => ?_, fun h => absurd rfl h⟩ | refine ⟨fun h => absurd rfl h, fun _ => ?_⟩)); try (conv => whnf)
  refine hG _ _ _ _ _ _ ?_
  have := outer (I 362 0 - 1).toNat 1 I2 vu vu vu (by omega) (by omega) ((QF.fr hF1 (by decide) (by simp <;> omega)).tr (QF.fr hF2 (by decide) (by simp <;> omega)))
  rw [rf_nil (Int.le_refl 1)] at this
  exact this ⟨⟨by show (-1 : Int) ≤ -1; omega, by show (-1 : Int) ≤ 53; omega⟩, ⟨by show (-920000 : Int) ≤ 0; omega, by show (0 : Int) ≤ 900000; omega⟩, ⟨Int.le_refl 0, by show (0 : Int) ≤ 495; omega⟩⟩ (fun q => absurd rfl q)
