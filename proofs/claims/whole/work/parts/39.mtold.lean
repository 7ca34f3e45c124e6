/-! the reference: widest, worst, wrongEntry -/
theorem bAnd1 (x : Int) : 0 ≤ bAnd x 1 ∧ bAnd x 1 ≤ 1 := by
  have h : bAnd x 1 = ((Int32.ofInt x).toBitVec &&& 1#32).toInt := rfl
  rw [h, BitVec.and_one_eq_setWidth_ofBool_getLsbD]
  cases ((Int32.ofInt x).toBitVec.getLsbD 0) <;> decide
theorem bShl1_bd {m : Int} (h : 1 ≤ m ∧ m ≤ 6) : 1 ≤ bShl 1 (m - 1) ∧ bShl 1 (m - 1) ≤ 32 := by
  have : m = 1 ∨ m = 2 ∨ m = 3 ∨ m = 4 ∨ m = 5 ∨ m = 6 := by omega
  rcases this with rfl | rfl | rfl | rfl | rfl | rfl <;> decide
def wdS (set : Int) : Int → Int := fun v => 1 + bAnd (bShr set (v - 1)) 1
theorem wdS_ok {n : aN} {set : Int} : WdOk n (wdS set) := fun v _ _ => by
  have := bAnd1 (bShr set (v - 1))
  unfold wdS
  omega
def widS (n : aN) (set r : Int) : Int := if set = 0 ∨ r < sla n (pl0 n) (wdS set) then sla n (pl0 n) (wdS set) else r
def mWid (n : aN) : Int := rf (widS n) 0 0 (bShl 1 (n 0 - 1))
theorem iR_sh (x y : Int) : iR (bShr x y) := iR_t32 _
/-- widest() -/
theorem ok_mwidest {P : aP} {d : Nat} {K : aK} {I : aI} {R : aR} {S : aS} (hM : MS R S) (hW : WF (I 362)) (hK : ∀ I', Fr [368, 369, 370, 371, 372, 373] I I' → K (some (vi (mWid (I 362)))) I' R S) : Ok P 99 (d + 6) [vr 361] I R S K := by
  obtain ⟨m0, r1, m1, r2, m2, r3, m3, r4, m4, r5, m5, r6, m6, r7, m7, r8, m8, r9, m9, r10, m10, r11, m11, r12, m12, r13, m13, r14, m14, r15, m15⟩ := id hM
  have hN := hW.1
  have hb := bShl1_bd (m := I 362 0) (by omega)
  have inner : ∀ (set r : Int), iR set → ∀ (m : Nat) (k : Int) (I' : aI), 1 ≤ k → I 362 0 - k = m → Fr [368, 369, 370, 371, 372, 373] I I' → (∀ v, 0 ≤ v → v < I 362 0 → I' 368 v = pl0 (I 362) v) → (∀ v, 1 ≤ v → v < k → I' 369 v = wdS set v) →
      (∀ I2, Fr [368, 369, 370, 371, 372, 373] I I2 → (∀ v, 0 ≤ v → v < I 362 0 → I2 368 v = pl0 (I 362) v) → (∀ v, 1 ≤ v → v < I 362 0 → I2 369 v = wdS set v) → Go P 99 (d + 6) K 55 [vr 361, vi r, vi set, vi (I 362 0)] [] I2 R S) →
      Go P 99 (d + 6) K 24 [vr 361, vi r, vi set, vi k] [] I' R S := by
    intro set r hset m
    induction m with
    | zero =>
      intro k I' h1 hm hF h8 h9 hk
      have e := hF 362 (by decide)
      have hN' := hN
      rw [← e] at hN'
      have hkN : k = I 362 0 := by omega
      subst hkN
      refine Go.walk 400 [24, 55] E99 E99_ok (fun G C hG hC => ?_)
      (repeat ((conv => whnf); first | refine ⟨_, by assumption, ?_⟩ | refine ⟨_, _, by assumption, ?_⟩ | refine ⟨(show _ ∧ _ by omega), ?_⟩ | refine ⟨(show _ ∨ _ by omega), ?_⟩ | refine ⟨fun h => absurd h (by decide), fun _ => ?_⟩ | refine ⟨fun _ => ?_, fun h => absurd h (by decide)⟩ | refine ⟨fun _ => ?_, fun h => absurd rfl h⟩ | refine ⟨fun h => absurd rfl h, fun _ => ?_⟩)); try (conv => whnf)
      rw [e]
      refine ⟨fun _ => ?_, fun q => absurd (Int.le_refl _) q⟩
      (repeat ((conv => whnf); first | refine ⟨_, by assumption, ?_⟩ | refine ⟨_, _, by assumption, ?_⟩ | refine ⟨(show _ ∧ _ by omega), ?_⟩ | refine ⟨(show _ ∨ _ by omega), ?_⟩ | refine ⟨fun h => absurd h (by decide), fun _ => ?_⟩ | refine ⟨fun _ => ?_, fun h => absurd h (by decide)⟩ | refine ⟨fun _ => ?_, fun h => absurd rfl h⟩ | refine ⟨fun h => absurd rfl h, fun _ => ?_⟩)); try (conv => whnf)
      refine hG _ _ _ _ _ _ ?_
      exact hk I' hF h8 h9
    | succ m ih =>
      intro k I' h1 hm hF h8 h9 hk
      have e := hF 362 (by decide)
      have hN' := hN
      rw [← e] at hN'
      have hsh := iR_sh set (k - 1)
      have h1b := bAnd1 (bShr set (k - 1))
      refine Go.walk 400 [24, 55] E99 E99_ok (fun G C hG hC => ?_)
      (repeat ((conv => whnf); first | refine ⟨_, by assumption, ?_⟩ | refine ⟨_, _, by assumption, ?_⟩ | refine ⟨(show _ ∧ _ by omega), ?_⟩ | refine ⟨(show _ ∨ _ by omega), ?_⟩ | refine ⟨fun h => absurd h (by decide), fun _ => ?_⟩ | refine ⟨fun _ => ?_, fun h => absurd h (by decide)⟩ | refine ⟨fun _ => ?_, fun h => absurd rfl h⟩ | refine ⟨fun h => absurd rfl h, fun _ => ?_⟩)); try (conv => whnf)
      rw [e]
      refine ⟨fun q => absurd q (by omega), fun _ => ?_⟩
      (repeat ((conv => whnf); first | refine ⟨_, by assumption, ?_⟩ | refine ⟨_, _, by assumption, ?_⟩ | refine ⟨(show _ ∧ _ by omega), ?_⟩ | refine ⟨(show _ ∨ _ by omega), ?_⟩ | refine ⟨fun h => absurd h (by decide), fun _ => ?_⟩ | refine ⟨fun _ => ?_, fun h => absurd h (by decide)⟩ | refine ⟨fun _ => ?_, fun h => absurd rfl h⟩ | refine ⟨fun h => absurd rfl h, fun _ => ?_⟩)); try (conv => whnf)
      refine hG _ _ _ _ _ _ ?_
      refine ih (k + 1) _ (by omega) (by omega) (hF.put (by decide)) (fun v a b => ?_) (fun v a b => ?_) hk
      · rw [uI_ne (by omega)]; exact h8 v a b
      · by_cases q : v = k
        · subst q; exact uI_at
        · rw [uI_ne (by omega)]; exact h9 v a (by omega)
  have outer : ∀ (m : Nat) (set : Int) (I' : aI) (z : aV), 0 ≤ set → bShl 1 (I 362 0 - 1) - set = m → Fr [368, 369, 370, 371, 372, 373] I I' → (∀ v, 0 ≤ v → v < I 362 0 → I' 368 v = pl0 (I 362) v) → iR (rf (widS (I 362)) 0 0 set) →
      Go P 99 (d + 6) K 8 [vr 361, vi (rf (widS (I 362)) 0 0 set), vi set, z] [] I' R S := by
    intro m
    induction m with
    | zero =>
      intro set I' z h0 hm hF h8 hr
      have e := hF 362 (by decide)
      have hN' := hN
      have hb' := hb
      rw [← e] at hN' hb'
      have hs : set = bShl 1 (I 362 0 - 1) := by omega
      refine Go.walk 400 [8] E99 E99_ok (fun G C hG hC => ?_)
      (repeat ((conv => whnf); first | refine ⟨_, by assumption, ?_⟩ | refine ⟨_, _, by assumption, ?_⟩ | refine ⟨(show _ ∧ _ by omega), ?_⟩ | refine ⟨(show _ ∨ _ by omega), ?_⟩ | refine ⟨fun h => absurd h (by decide), fun _ => ?_⟩ | refine ⟨fun _ => ?_, fun h => absurd h (by decide)⟩ | refine ⟨fun _ => ?_, fun h => absurd rfl h⟩ | refine ⟨fun h => absurd rfl h, fun _ => ?_⟩)); try (conv => whnf)
      rw [e]
      refine ⟨fun _ => ?_, fun q => absurd (show bShl 1 (I 362 0 - 1) ≤ set by omega) q⟩
      (repeat ((conv => whnf); first | refine ⟨_, by assumption, ?_⟩ | refine ⟨_, _, by assumption, ?_⟩ | refine ⟨(show _ ∧ _ by omega), ?_⟩ | refine ⟨(show _ ∨ _ by omega), ?_⟩ | refine ⟨fun h => absurd h (by decide), fun _ => ?_⟩ | refine ⟨fun _ => ?_, fun h => absurd h (by decide)⟩ | refine ⟨fun _ => ?_, fun h => absurd rfl h⟩ | refine ⟨fun h => absurd rfl h, fun _ => ?_⟩)); try (conv => whnf)
      have := hK I' hF
      rw [mWid, ← hs] at this
      exact this
    | succ m ih =>
      intro set I' z h0 hm hF h8 hr
      have e := hF 362 (by decide)
      have hN' := hN
      have hb' := hb
      rw [← e] at hN' hb'
      refine Go.walk 400 [8, 24] E99 E99_ok (fun G C hG hC => ?_)
      (repeat ((conv => whnf); first | refine ⟨_, by assumption, ?_⟩ | refine ⟨_, _, by assumption, ?_⟩ | refine ⟨(show _ ∧ _ by omega), ?_⟩ | refine ⟨(show _ ∨ _ by omega), ?_⟩ | refine ⟨fun h => absurd h (by decide), fun _ => ?_⟩ | refine ⟨fun _ => ?_, fun h => absurd h (by decide)⟩ | refine ⟨fun _ => ?_, fun h => absurd rfl h⟩ | refine ⟨fun h => absurd rfl h, fun _ => ?_⟩)); try (conv => whnf)
      rw [e]
      refine ⟨fun q => absurd (show bShl 1 (I 362 0 - 1) ≤ set from q) (by omega), fun _ => ?_⟩
      (repeat ((conv => whnf); first | refine ⟨_, by assumption, ?_⟩ | refine ⟨_, _, by assumption, ?_⟩ | refine ⟨(show _ ∧ _ by omega), ?_⟩ | refine ⟨(show _ ∨ _ by omega), ?_⟩ | refine ⟨fun h => absurd h (by decide), fun _ => ?_⟩ | refine ⟨fun _ => ?_, fun h => absurd h (by decide)⟩ | refine ⟨fun _ => ?_, fun h => absurd rfl h⟩ | refine ⟨fun h => absurd rfl h, fun _ => ?_⟩)); try (conv => whnf)
      refine hG _ _ _ _ _ _ ?_
      refine inner set _ (by omega) (I 362 0 - 1).toNat 1 I' (by omega) (by omega) hF h8 (fun v a b => absurd b (by omega)) (fun I2 hF2 g8 g9 => ?_)
      have e2 := hF2 362 (by decide)
      refine Go.walk 400 [8] E99 E99_ok (fun G C hG hC => ?_)
      (repeat ((conv => whnf); first | refine ⟨_, by assumption, ?_⟩ | refine ⟨_, _, by assumption, ?_⟩ | refine ⟨(show _ ∧ _ by omega), ?_⟩ | refine ⟨(show _ ∨ _ by omega), ?_⟩ | refine ⟨fun h => absurd h (by decide), fun _ => ?_⟩ | refine ⟨fun _ => ?_, fun h => absurd h (by decide)⟩ | refine ⟨fun _ => ?_, fun h => absurd rfl h⟩ | refine ⟨fun h => absurd rfl h, fun _ => ?_⟩)); try (conv => whnf)
      refine hC _ _ _ _ _ _ ?_
      refine ok_runsAll2 (pl := pl0 (I 362)) (wd := wdS set) hM (by rw [e2]; exact hW) (by rw [e2]; exact pl0_ok hW) wdS_ok (by rw [e2]; exact g8) (by rw [e2]; exact g9) (fun I3 hF3 g3 => ?_)
      rw [e2] at g3
      have e3 : I3 362 = I 362 := by rw [hF3 362 (by decide), e2]
      (repeat ((conv => whnf); first | refine ⟨_, by assumption, ?_⟩ | refine ⟨_, _, by assumption, ?_⟩ | refine ⟨(show _ ∧ _ by omega), ?_⟩ | refine ⟨(show _ ∨ _ by omega), ?_⟩ | refine ⟨fun h => absurd h (by decide), fun _ => ?_⟩ | refine ⟨fun _ => ?_, fun h => absurd h (by decide)⟩ | refine ⟨fun _ => ?_, fun h => absurd rfl h⟩ | refine ⟨fun h => absurd rfl h, fun _ => ?_⟩)); try (conv => whnf)
      refine hC _ _ _ _ _ _ ?_
      refine ok_slack0 hM e3 hW (pl0_ok hW) wdS_ok g3 ?_
      have hsb := sla_bd hW (pl0_ok hW) (wdS_ok (n := I 362) (set := set))
      have ih2 := ih (set + 1)
      rw [rf_succ h0] at ih2
      have h38 : ∀ v, 0 ≤ v → v < I 362 0 → I3 368 v = pl0 (I 362) v := fun v a b => by rw [hF3 368 (by decide)]; exact g8 v a b
      have hF03 : Fr [368, 369, 370, 371, 372, 373] I I3 := hF2.trans hF3 (by simp <;> omega)
      (repeat ((conv => whnf); first | refine ⟨_, by assumption, ?_⟩ | refine ⟨_, _, by assumption, ?_⟩ | refine ⟨(show _ ∧ _ by omega), ?_⟩ | refine ⟨(show _ ∨ _ by omega), ?_⟩ | refine ⟨fun h => absurd h (by decide), fun _ => ?_⟩ | refine ⟨fun _ => ?_, fun h => absurd h (by decide)⟩ | refine ⟨fun _ => ?_, fun h => absurd rfl h⟩ | refine ⟨fun h => absurd rfl h, fun _ => ?_⟩)); try (conv => whnf)
      refine ⟨fun q => ?_, fun q => ?_⟩
      · rw [widS, if_pos (by omega)] at ih2
        (repeat ((conv => whnf); first | refine ⟨_, by assumption, ?_⟩ | refine ⟨_, _, by assumption, ?_⟩ | refine ⟨(show _ ∧ _ by omega), ?_⟩ | refine ⟨(show _ ∨ _ by omega), ?_⟩ | refine ⟨fun h => absurd h (by decide), fun _ => ?_⟩ | refine ⟨fun _ => ?_, fun h => absurd h (by decide)⟩ | refine ⟨fun _ => ?_, fun h => absurd rfl h⟩ | refine ⟨fun h => absurd rfl h, fun _ => ?_⟩)); try (conv => whnf)
        refine hG _ _ _ _ _ _ ?_
        exact ih2 I3 _ (by omega) (by omega) hF03 h38 (by omega)
      · (repeat ((conv => whnf); first | refine ⟨_, by assumption, ?_⟩ | refine ⟨_, _, by assumption, ?_⟩ | refine ⟨(show _ ∧ _ by omega), ?_⟩ | refine ⟨(show _ ∨ _ by omega), ?_⟩ | refine ⟨fun h => absurd h (by decide), fun _ => ?_⟩ | refine ⟨fun _ => ?_, fun h => absurd h (by decide)⟩ | refine ⟨fun _ => ?_, fun h => absurd rfl h⟩ | refine ⟨fun h => absurd rfl h, fun _ => ?_⟩)); try (conv => whnf)
        refine ⟨fun q2 => ?_, fun q2 => ?_⟩
        · rw [widS, if_neg (by omega)] at ih2
          (repeat ((conv => whnf); first | refine ⟨_, by assumption, ?_⟩ | refine ⟨_, _, by assumption, ?_⟩ | refine ⟨(show _ ∧ _ by omega), ?_⟩ | refine ⟨(show _ ∨ _ by omega), ?_⟩ | refine ⟨fun h => absurd h (by decide), fun _ => ?_⟩ | refine ⟨fun _ => ?_, fun h => absurd h (by decide)⟩ | refine ⟨fun _ => ?_, fun h => absurd rfl h⟩ | refine ⟨fun h => absurd rfl h, fun _ => ?_⟩)); try (conv => whnf)
          refine hG _ _ _ _ _ _ ?_
          exact ih2 I3 _ (by omega) (by omega) hF03 h38 hr
        · rw [widS, if_pos (by omega)] at ih2
          (repeat ((conv => whnf); first | refine ⟨_, by assumption, ?_⟩ | refine ⟨_, _, by assumption, ?_⟩ | refine ⟨(show _ ∧ _ by omega), ?_⟩ | refine ⟨(show _ ∨ _ by omega), ?_⟩ | refine ⟨fun h => absurd h (by decide), fun _ => ?_⟩ | refine ⟨fun _ => ?_, fun h => absurd h (by decide)⟩ | refine ⟨fun _ => ?_, fun h => absurd rfl h⟩ | refine ⟨fun h => absurd rfl h, fun _ => ?_⟩)); try (conv => whnf)
          refine hG _ _ _ _ _ _ ?_
          exact ih2 I3 _ (by omega) (by omega) hF03 h38 (by omega)
  refine Ok.of (by decide) rfl (Nat.le_of_ble_eq_true rfl) ?_
  refine Go.walk 400 [8] E99 E99_ok (fun G C hG hC => ?_)
  (repeat ((conv => whnf); first | refine ⟨_, by assumption, ?_⟩ | refine ⟨_, _, by assumption, ?_⟩ | refine ⟨(show _ ∧ _ by omega), ?_⟩ | refine ⟨(show _ ∨ _ by omega), ?_⟩ | refine ⟨fun h => absurd h (by decide), fun _ => ?_⟩ | refine ⟨fun _ => ?_, fun h => absurd h (by decide)⟩ | refine ⟨fun _ => ?_, fun h => absurd rfl h⟩ | refine ⟨fun h => absurd rfl h, fun _ => ?_⟩)); try (conv => whnf)
  refine hC _ _ _ _ _ _ ?_
  refine ok_asPlaced hM hW (fun I1 hF1 g1 => ?_)
  (repeat ((conv => whnf); first | refine ⟨_, by assumption, ?_⟩ | refine ⟨_, _, by assumption, ?_⟩ | refine ⟨(show _ ∧ _ by omega), ?_⟩ | refine ⟨(show _ ∨ _ by omega), ?_⟩ | refine ⟨fun h => absurd h (by decide), fun _ => ?_⟩ | refine ⟨fun _ => ?_, fun h => absurd h (by decide)⟩ | refine ⟨fun _ => ?_, fun h => absurd rfl h⟩ | refine ⟨fun h => absurd rfl h, fun _ => ?_⟩)); try (conv => whnf)
  refine hG _ _ _ _ _ _ ?_
  exact outer (bShl 1 (I 362 0 - 1)).toNat 0 I1 vu (by omega) (by omega) (hF1.trans (Fr.rf (L := [])) (by simp <;> omega)) (fun v a b => (g1 v a b).1) iR0
def sla0 (n : aN) : Int := sla n (pl0 n) (wd0 n)
def tim0 (n : aN) (v : Int) : Int := tim n (pl0 n) (wd0 n) 0 (src n (pl0 n) (wd0 n)) v
def worF (n : aN) : Nat → Int → Int
  | 0, _ => -1
  | k + 1, v => if mEnd n v = true ∧ nf n v 5 - tim0 n v = sla0 n then v else worF n k (v + 1)
def mWorst (n : aN) : Int := worF n (n 0 - 1).toNat 1
theorem tim0_bd {n : aN} (hW : WF n) {v : Int} (h0 : 0 ≤ v) (h1 : v < n 0) : 0 ≤ tim0 n v ∧ tim0 n v ≤ 920000 := tim_bd hW (Int.le_refl 0) (src_bd hW (pl0_ok hW) (wd0_ok hW)) (pl0_ok hW).1 (pl0_ok hW).2 (wd0_ok hW) h0 h1 (bel0 hW h0 (by have := hW.1; omega))
/-- worst() -/
theorem ok_mworst {P : aP} {d : Nat} {K : aK} {I : aI} {R : aR} {S : aS} (hM : MS R S) (hW : WF (I 362)) (hK : ∀ I', Fr [368, 369, 370, 371, 372, 373] I I' → K (some (vi (mWorst (I 362)))) I' R S) : Ok P 103 (d + 7) [vr 361] I R S K := by
  obtain ⟨m0, r1, m1, r2, m2, r3, m3, r4, m4, r5, m5, r6, m6, r7, m7, r8, m8, r9, m9, r10, m10, r11, m11, r12, m12, r13, m13, r14, m14, r15, m15⟩ := id hM
  have hN := hW.1
  refine Ok.of (by decide) rfl (Nat.le_of_ble_eq_true rfl) ?_
  refine Go.walk 400 [7] E103 E103_ok (fun G C hG hC => ?_)
  (repeat ((conv => whnf); first | refine ⟨_, by assumption, ?_⟩ | refine ⟨_, _, by assumption, ?_⟩ | refine ⟨(show _ ∧ _ by omega), ?_⟩ | refine ⟨(show _ ∨ _ by omega), ?_⟩ | refine ⟨fun h => absurd h (by decide), fun _ => ?_⟩ | refine ⟨fun _ => ?_, fun h => absurd h (by decide)⟩ | refine ⟨fun _ => ?_, fun h => absurd rfl h⟩ | refine ⟨fun h => absurd rfl h, fun _ => ?_⟩)); try (conv => whnf)
  refine hC _ _ _ _ _ _ ?_
  refine ok_slackNow hM hW (fun I1 hF1 ha => ?_)
  have e := hF1 362 (by decide)
  have hs := sla_bd hW (pl0_ok hW) (wd0_ok hW)
  have hN' := hN
  rw [← e] at hN'
  (repeat ((conv => whnf); first | refine ⟨_, by assumption, ?_⟩ | refine ⟨_, _, by assumption, ?_⟩ | refine ⟨(show _ ∧ _ by omega), ?_⟩ | refine ⟨(show _ ∨ _ by omega), ?_⟩ | refine ⟨fun h => absurd h (by decide), fun _ => ?_⟩ | refine ⟨fun _ => ?_, fun h => absurd h (by decide)⟩ | refine ⟨fun _ => ?_, fun h => absurd rfl h⟩ | refine ⟨fun h => absurd rfl h, fun _ => ?_⟩)); try (conv => whnf)
  refine hG _ _ _ _ _ _ ?_
  have loop : ∀ (m : Nat) (v : Int), 1 ≤ v → I 362 0 - v = m → mWorst (I 362) = worF (I 362) m v → Go P 103 (d + 7) K 7 [vr 361, vi (sla0 (I 362)), vi v] [] I1 R S := by
    intro m
    induction m with
    | zero =>
      intro v h1 hm hw
      refine Go.walk 400 [7] E103 E103_ok (fun G C hG hC => ?_)
      (repeat ((conv => whnf); first | refine ⟨_, by assumption, ?_⟩ | refine ⟨_, _, by assumption, ?_⟩ | refine ⟨(show _ ∧ _ by omega), ?_⟩ | refine ⟨(show _ ∨ _ by omega), ?_⟩ | refine ⟨fun h => absurd h (by decide), fun _ => ?_⟩ | refine ⟨fun _ => ?_, fun h => absurd h (by decide)⟩ | refine ⟨fun _ => ?_, fun h => absurd rfl h⟩ | refine ⟨fun h => absurd rfl h, fun _ => ?_⟩)); try (conv => whnf)
      rw [e]
      refine ⟨fun _ => ?_, fun q => absurd (show I 362 0 ≤ v by omega) q⟩
      (repeat ((conv => whnf); first | refine ⟨_, by assumption, ?_⟩ | refine ⟨_, _, by assumption, ?_⟩ | refine ⟨(show _ ∧ _ by omega), ?_⟩ | refine ⟨(show _ ∨ _ by omega), ?_⟩ | refine ⟨fun h => absurd h (by decide), fun _ => ?_⟩ | refine ⟨fun _ => ?_, fun h => absurd h (by decide)⟩ | refine ⟨fun _ => ?_, fun h => absurd rfl h⟩ | refine ⟨fun h => absurd rfl h, fun _ => ?_⟩)); try (conv => whnf)
      have := hK I1 hF1
      rw [hw] at this
      exact this
    | succ m ih =>
      intro v h1 hm hw
      have ht := tim0_bd hW (v := v) (by omega) (by omega)
      have e3 : I1 372 v = tim0 (I 362) v := (ha v (by omega) (by omega)).2.2.1
      have hn5 := hW.2.1 v (by omega) (by omega)
      have hs : -920000 ≤ sla0 (I 362) ∧ sla0 (I 362) ≤ 900000 := hs
      unfold worF at hw
      refine Go.walk 400 [7] E103 E103_ok (fun G C hG hC => ?_)
      (repeat ((conv => whnf); first | refine ⟨_, by assumption, ?_⟩ | refine ⟨_, _, by assumption, ?_⟩ | refine ⟨(show _ ∧ _ by omega), ?_⟩ | refine ⟨(show _ ∨ _ by omega), ?_⟩ | refine ⟨fun h => absurd h (by decide), fun _ => ?_⟩ | refine ⟨fun _ => ?_, fun h => absurd h (by decide)⟩ | refine ⟨fun _ => ?_, fun h => absurd rfl h⟩ | refine ⟨fun h => absurd rfl h, fun _ => ?_⟩)); try (conv => whnf)
      rw [e]
      refine ⟨fun q => absurd q (by omega), fun _ => ?_⟩
      (repeat ((conv => whnf); first | refine ⟨_, by assumption, ?_⟩ | refine ⟨_, _, by assumption, ?_⟩ | refine ⟨(show _ ∧ _ by omega), ?_⟩ | refine ⟨(show _ ∨ _ by omega), ?_⟩ | refine ⟨fun h => absurd h (by decide), fun _ => ?_⟩ | refine ⟨fun _ => ?_, fun h => absurd h (by decide)⟩ | refine ⟨fun _ => ?_, fun h => absurd rfl h⟩ | refine ⟨fun h => absurd rfl h, fun _ => ?_⟩)); try (conv => whnf)
      refine hC _ _ _ _ _ _ ?_
      refine ok_isEnd hM (by rw [e]; exact hW) (by omega) (fun h5 => ?_) (fun h5 => ?_)
      · rw [e] at h5
        (repeat ((conv => whnf); first | refine ⟨_, by assumption, ?_⟩ | refine ⟨_, _, by assumption, ?_⟩ | refine ⟨(show _ ∧ _ by omega), ?_⟩ | refine ⟨(show _ ∨ _ by omega), ?_⟩ | refine ⟨fun h => absurd h (by decide), fun _ => ?_⟩ | refine ⟨fun _ => ?_, fun h => absurd h (by decide)⟩ | refine ⟨fun _ => ?_, fun h => absurd rfl h⟩ | refine ⟨fun h => absurd rfl h, fun _ => ?_⟩)); try (conv => whnf)
        refine hC _ _ _ _ _ _ ?_
        refine ok_of hM (by omega) ?_
        rw [e]
        (repeat ((conv => whnf); first | refine ⟨_, by assumption, ?_⟩ | refine ⟨_, _, by assumption, ?_⟩ | refine ⟨(show _ ∧ _ by omega), ?_⟩ | refine ⟨(show _ ∨ _ by omega), ?_⟩ | refine ⟨fun h => absurd h (by decide), fun _ => ?_⟩ | refine ⟨fun _ => ?_, fun h => absurd h (by decide)⟩ | refine ⟨fun _ => ?_, fun h => absurd rfl h⟩ | refine ⟨fun h => absurd rfl h, fun _ => ?_⟩)); try (conv => whnf)
        rw [e3]
        refine ⟨fun q => ?_, fun q => ?_⟩
        · rw [if_neg (fun z => q z.2)] at hw
          (repeat ((conv => whnf); first | refine ⟨_, by assumption, ?_⟩ | refine ⟨_, _, by assumption, ?_⟩ | refine ⟨(show _ ∧ _ by omega), ?_⟩ | refine ⟨(show _ ∨ _ by omega), ?_⟩ | refine ⟨fun h => absurd h (by decide), fun _ => ?_⟩ | refine ⟨fun _ => ?_, fun h => absurd h (by decide)⟩ | refine ⟨fun _ => ?_, fun h => absurd rfl h⟩ | refine ⟨fun h => absurd rfl h, fun _ => ?_⟩)); try (conv => whnf)
          refine hG _ _ _ _ _ _ ?_
          exact ih (v + 1) (by omega) (by omega) hw
        · rw [if_pos ⟨h5, by omega⟩] at hw
          (repeat ((conv => whnf); first | refine ⟨_, by assumption, ?_⟩ | refine ⟨_, _, by assumption, ?_⟩ | refine ⟨(show _ ∧ _ by omega), ?_⟩ | refine ⟨(show _ ∨ _ by omega), ?_⟩ | refine ⟨fun h => absurd h (by decide), fun _ => ?_⟩ | refine ⟨fun _ => ?_, fun h => absurd h (by decide)⟩ | refine ⟨fun _ => ?_, fun h => absurd rfl h⟩ | refine ⟨fun h => absurd rfl h, fun _ => ?_⟩)); try (conv => whnf)
          have := hK I1 hF1
          rw [hw] at this
          exact this
      · rw [e] at h5
        rw [if_neg (fun z => by rw [h5] at z; exact absurd z.1 Bool.false_ne_true)] at hw
        (repeat ((conv => whnf); first | refine ⟨_, by assumption, ?_⟩ | refine ⟨_, _, by assumption, ?_⟩ | refine ⟨(show _ ∧ _ by omega), ?_⟩ | refine ⟨(show _ ∨ _ by omega), ?_⟩ | refine ⟨fun h => absurd h (by decide), fun _ => ?_⟩ | refine ⟨fun _ => ?_, fun h => absurd h (by decide)⟩ | refine ⟨fun _ => ?_, fun h => absurd rfl h⟩ | refine ⟨fun h => absurd rfl h, fun _ => ?_⟩)); try (conv => whnf)
        refine hG _ _ _ _ _ _ ?_
        exact ih (v + 1) (by omega) (by omega) hw
  exact loop (I 362 0 - 1).toNat 1 (by omega) (by omega) rfl
def badE (n : aN) (x : Int × Int) : Bool := !(decide (0 ≤ x.1 ∧ x.1 < n 0) && decide (tim0 n x.1 = x.2))
theorem badE_no {n : aN} {x : Int × Int} (h : 0 ≤ x.1 ∧ x.1 < n 0) (h2 : tim0 n x.1 = x.2) : badE n x = false := by simp [badE, h, h2]
theorem badE_out {n : aN} {x : Int × Int} (h : ¬ (0 ≤ x.1 ∧ x.1 < n 0)) : badE n x = true := by
  unfold badE
  rw [decide_eq_false h]
  rfl
theorem badE_time {n : aN} {x : Int × Int} (h : ¬ (tim0 n x.1 = x.2)) : badE n x = true := by
  unfold badE
  rw [decide_eq_false h, Bool.and_false]
  rfl
def weL (n : aN) : List (Int × Int) → Int → Int
  | [], _ => -1
  | x :: B, i => if badE n x = true then i else weL n B (i + 1)
theorem weL_drop {n : aN} {B : List (Int × Int)} {k : Nat} {x : Int × Int} (h : B[k]? = some x) {i : Int} : weL n (B.drop k) i = if badE n x = true then i else weL n (B.drop (k + 1)) (i + 1) := by
  have hlt : k < B.length := by
    by_cases q : k < B.length
    · exact q
    · rw [List.getElem?_eq_none (by omega)] at h; cases h
  rw [List.drop_eq_getElem_cons hlt]
  rw [List.getElem?_eq_getElem hlt] at h
  injection h with h
  rw [h]
  rfl
theorem weL_bd {n : aN} : ∀ (B : List (Int × Int)) (i : Int), 0 ≤ i → -1 ≤ weL n B i ∧ weL n B i ≤ i + B.length
  | [], i, h => by simp only [weL, List.length_nil]; omega
  | x :: B, i, h => by
    have := weL_bd (n := n) B (i + 1) (by omega)
    simp only [weL, List.length_cons]
    split <;> omega
/-- wrongEntry() -/
theorem ok_mwrongEntry {P : aP} {d : Nat} {K : aK} {I : aI} {R : aR} {S : aS} {B : List (Int × Int)} (hM : MS R S) (hW : WF (I 362)) (hB : BookM I B) (hBr : ∀ p ∈ B, iR p.1 ∧ iR p.2) (hK : ∀ I', Fr [368, 369, 370, 371, 372, 373] I I' → K (some (vi (weL (I 362) B 0))) I' R S) : Ok P 101 (d + 7) [vr 361] I R S K := by
  obtain ⟨m0, r1, m1, r2, m2, r3, m3, r4, m4, r5, m5, r6, m6, r7, m7, r8, m8, r9, m9, r10, m10, r11, m11, r12, m12, r13, m13, r14, m14, r15, m15⟩ := id hM
  have hN := hW.1
  refine Ok.of (by decide) rfl (Nat.le_of_ble_eq_true rfl) ?_
  refine Go.walk 400 [14] E101 E101_ok (fun G C hG hC => ?_)
  (repeat ((conv => whnf); first | refine ⟨_, by assumption, ?_⟩ | refine ⟨_, _, by assumption, ?_⟩ | refine ⟨(show _ ∧ _ by omega), ?_⟩ | refine ⟨(show _ ∨ _ by omega), ?_⟩ | refine ⟨fun h => absurd h (by decide), fun _ => ?_⟩ | refine ⟨fun _ => ?_, fun h => absurd h (by decide)⟩ | refine ⟨fun _ => ?_, fun h => absurd rfl h⟩ | refine ⟨fun h => absurd rfl h, fun _ => ?_⟩)); try (conv => whnf)
  refine hC _ _ _ _ _ _ ?_
  refine ok_slackNow hM hW (fun I1 hF1 ha => ?_)
  have e := hF1 362 (by decide)
  have e8 : I1 361 ((8 : Nat) : Int) = B.length := by rw [hF1 361 (by decide)]; exact hB.1
  have hl := hB.2.1
  (repeat ((conv => whnf); first | refine ⟨_, by assumption, ?_⟩ | refine ⟨_, _, by assumption, ?_⟩ | refine ⟨(show _ ∧ _ by omega), ?_⟩ | refine ⟨(show _ ∨ _ by omega), ?_⟩ | refine ⟨fun h => absurd h (by decide), fun _ => ?_⟩ | refine ⟨fun _ => ?_, fun h => absurd h (by decide)⟩ | refine ⟨fun _ => ?_, fun h => absurd rfl h⟩ | refine ⟨fun h => absurd rfl h, fun _ => ?_⟩)); try (conv => whnf)
  rw [e8]
  refine hG _ _ _ _ _ _ ?_
  have loop : ∀ (k : Nat), k ≤ B.length → Go P 101 (d + 7) K 14 [vr 361, vi (weL (I 362) (B.drop k) k), vi ((k : Int) - 1)] [] I1 R S := by
    intro k
    induction k with
    | zero =>
      intro gm
      refine Go.walk 400 [14] E101 E101_ok (fun G C hG hC => ?_)
      (repeat ((conv => whnf); first | refine ⟨_, by assumption, ?_⟩ | refine ⟨_, _, by assumption, ?_⟩ | refine ⟨(show _ ∧ _ by omega), ?_⟩ | refine ⟨(show _ ∨ _ by omega), ?_⟩ | refine ⟨fun h => absurd h (by decide), fun _ => ?_⟩ | refine ⟨fun _ => ?_, fun h => absurd h (by decide)⟩ | refine ⟨fun _ => ?_, fun h => absurd rfl h⟩ | refine ⟨fun h => absurd rfl h, fun _ => ?_⟩)); try (conv => whnf)
      exact hK I1 hF1
    | succ k ih =>
      intro gm
      have hlt : k < B.length := by omega
      have hx := List.getElem?_eq_getElem hlt
      have hr := hBr _ (List.getElem_mem hlt)
      generalize B[k] = x at hx hr
      obtain ⟨q1, q2⟩ := hB.2.2 k x hx
      obtain ⟨hr1, hr2⟩ := hr
      have f1 : I1 366 (k : Int) = x.1 := by rw [hF1 366 (by decide)]; exact q1
      have f2 : I1 367 (k : Int) = x.2 := by rw [hF1 367 (by decide)]; exact q2
      have ih2 := ih (by omega)
      rw [weL_drop hx] at ih2
      have wb2 := weL_bd (n := I 362) (B.drop (k + 1)) ((k : Int) + 1) (by omega)
      rw [List.length_drop] at wb2
      have e5 : ((k + 1 : Nat) : Int) - 1 = (k : Int) := by omega
      have e6 : ((k + 1 : Nat) : Int) = (k : Int) + 1 := by omega
      rw [e5, e6]
      refine Go.walk 400 [14] E101 E101_ok (fun G C hG hC => ?_)
      (repeat ((conv => whnf); first | refine ⟨_, by assumption, ?_⟩ | refine ⟨_, _, by assumption, ?_⟩ | refine ⟨(show _ ∧ _ by omega), ?_⟩ | refine ⟨(show _ ∨ _ by omega), ?_⟩ | refine ⟨fun h => absurd h (by decide), fun _ => ?_⟩ | refine ⟨fun _ => ?_, fun h => absurd h (by decide)⟩ | refine ⟨fun _ => ?_, fun h => absurd rfl h⟩ | refine ⟨fun h => absurd rfl h, fun _ => ?_⟩)); try (conv => whnf)
      refine ⟨fun q => absurd q (by omega), fun _ => ?_⟩
      (repeat ((conv => whnf); first | refine ⟨_, by assumption, ?_⟩ | refine ⟨_, _, by assumption, ?_⟩ | refine ⟨(show _ ∧ _ by omega), ?_⟩ | refine ⟨(show _ ∨ _ by omega), ?_⟩ | refine ⟨fun h => absurd h (by decide), fun _ => ?_⟩ | refine ⟨fun _ => ?_, fun h => absurd h (by decide)⟩ | refine ⟨fun _ => ?_, fun h => absurd rfl h⟩ | refine ⟨fun h => absurd rfl h, fun _ => ?_⟩)); try (conv => whnf)
      rw [f1]
      refine hC _ _ _ _ _ _ ?_
      refine ok_isNode hM hr1 (by rw [e]; exact hW) (fun h5 => ?_) (fun h5 => ?_)
      · rw [e] at h5
        have ht := tim0_bd hW (v := x.1) h5.1 h5.2
        have e3 : I1 372 x.1 = tim0 (I 362) x.1 := (ha x.1 h5.1 h5.2).2.2.1
        (repeat ((conv => whnf); first | refine ⟨_, by assumption, ?_⟩ | refine ⟨_, _, by assumption, ?_⟩ | refine ⟨(show _ ∧ _ by omega), ?_⟩ | refine ⟨(show _ ∨ _ by omega), ?_⟩ | refine ⟨fun h => absurd h (by decide), fun _ => ?_⟩ | refine ⟨fun _ => ?_, fun h => absurd h (by decide)⟩ | refine ⟨fun _ => ?_, fun h => absurd rfl h⟩ | refine ⟨fun h => absurd rfl h, fun _ => ?_⟩)); try (conv => whnf)
        rw [f1, f2, e3]
        refine ⟨by omega, fun q => ?_, fun q => ?_⟩
        · rw [badE_no h5 q, if_neg Bool.false_ne_true] at ih2
          (repeat ((conv => whnf); first | refine ⟨_, by assumption, ?_⟩ | refine ⟨_, _, by assumption, ?_⟩ | refine ⟨(show _ ∧ _ by omega), ?_⟩ | refine ⟨(show _ ∨ _ by omega), ?_⟩ | refine ⟨fun h => absurd h (by decide), fun _ => ?_⟩ | refine ⟨fun _ => ?_, fun h => absurd h (by decide)⟩ | refine ⟨fun _ => ?_, fun h => absurd rfl h⟩ | refine ⟨fun h => absurd rfl h, fun _ => ?_⟩)); try (conv => whnf)
          refine hG _ _ _ _ _ _ ?_
          exact ih2
        · rw [badE_time q, if_pos rfl] at ih2
          (repeat ((conv => whnf); first | refine ⟨_, by assumption, ?_⟩ | refine ⟨_, _, by assumption, ?_⟩ | refine ⟨(show _ ∧ _ by omega), ?_⟩ | refine ⟨(show _ ∨ _ by omega), ?_⟩ | refine ⟨fun h => absurd h (by decide), fun _ => ?_⟩ | refine ⟨fun _ => ?_, fun h => absurd h (by decide)⟩ | refine ⟨fun _ => ?_, fun h => absurd rfl h⟩ | refine ⟨fun h => absurd rfl h, fun _ => ?_⟩)); try (conv => whnf)
          refine hG _ _ _ _ _ _ ?_
          exact ih2
      · rw [e] at h5
        rw [badE_out h5, if_pos rfl] at ih2
        (repeat ((conv => whnf); first | refine ⟨_, by assumption, ?_⟩ | refine ⟨_, _, by assumption, ?_⟩ | refine ⟨(show _ ∧ _ by omega), ?_⟩ | refine ⟨(show _ ∨ _ by omega), ?_⟩ | refine ⟨fun h => absurd h (by decide), fun _ => ?_⟩ | refine ⟨fun _ => ?_, fun h => absurd h (by decide)⟩ | refine ⟨fun _ => ?_, fun h => absurd rfl h⟩ | refine ⟨fun h => absurd rfl h, fun _ => ?_⟩)); try (conv => whnf)
        refine hG _ _ _ _ _ _ ?_
        exact ih2
  have := loop B.length (Nat.le_refl _)
  rw [List.drop_of_length_le (Nat.le_refl _)] at this
  exact this
