/-! the timing of the class -/
def TiS (R : aR) (S : aS) : Prop := S[29]? = some (6, 7) ∧ R 29 0 = some 30 ∧ S[30]? = some (9, 6) ∧ R 29 1 = some 31 ∧ S[31]? = some (9, 6) ∧ R 29 2 = some 32 ∧ S[32]? = some (9, 6) ∧ R 29 3 = some 33 ∧ S[33]? = some (9, 6)
theorem ends_bit {n : aN} (hW : WF n) {v : Int} (hv : 0 ≤ v ∧ v < n 0) : bAnd (bShr (mEnds n) v) 1 = b2i (mEnd n v) := by
  have hN := hW.1
  rw [bit_at (by omega)]
  have ht := tb_mEnds hW (i := v.toNat)
  rw [Int.toNat_of_nonneg hv.1] at ht
  congr 1
  apply Bool.eq_iff_iff.mpr
  rw [ht]
  constructor
  · exact fun h => h.2.2
  · intro h
    have := (mEnd_iff hN.1).mp h
    exact ⟨by omega, hv.2, h⟩
/-- a net of the class whose numbers are n's, but for what is placed (pl) and how wide the wires are (wd) -/
def NetP (I : aI) (a : Nat) (n : aN) (pl wd : Int → Int) : Prop := (I a 0 = n 0 ∧ I a 1 = n 1) ∧ (∀ v : Int, 0 ≤ v → v < 6 → I (a + 1) v = nf n v 0 ∧ I (a + 2) v = nf n v 1 ∧ I (a + 3) v = nf n v 2 ∧ I (a + 5) v = nf n v 4 ∧ I (a + 6) v = nf n v 5 ∧ I (a + 7) v = nf n v 6) ∧ (∀ v : Int, 0 ≤ v → v < n 0 → I (a + 8) v = pl v) ∧ (∀ v : Int, 1 ≤ v → v < n 0 → I (a + 4) v = wd v) ∧ (∀ k : Int, 1 ≤ k → k ≤ 3 → I (a + 9) k = kf n k 1 ∧ I (a + 10) k = kf n k 2 ∧ I (a + 11) k = kf n k 3 ∧ I (a + 12) k = kf n k 4 ∧ I (a + 13) k = kf n k 5) ∧ (I (a + 9) 0 = 0 ∧ I (a + 10) 0 = 0 ∧ I (a + 11) 0 = 0 ∧ I (a + 12) 0 = 0 ∧ I (a + 13) 0 = 0)
theorem NetR.P {I : aI} {a : Nat} {n : aN} (hW : WF n) (h : NetR I a n) : NetP I a n (pl0 n) (wd0 n) := by
  obtain ⟨h1, h2, h3, h4⟩ := h
  have hN := hW.1
  refine ⟨⟨h1.1, h1.2.1⟩, fun v g0 g1 => ?_, fun v g0 g1 => ?_, fun v g0 g1 => ?_, h3, h4⟩
  · obtain ⟨r0, r1, r2, r3, r4, r5, r6, r7⟩ := h2 v g0 g1
    exact ⟨r0, r1, r2, r4, r5, r6⟩
  · exact (h2 v g0 (by omega)).2.2.2.2.2.2.2
  · exact (h2 v (by omega) (by omega)).2.2.2.1
theorem NetP.cg {I I' : aI} {a : Nat} {n : aN} {pl wd : Int → Int} (hR : NetP I a n pl wd) (h : ∀ x, a ≤ x → x ≤ a + 13 → I' x = I x) : NetP I' a n pl wd := by
  unfold NetP at hR ⊢
  rw [h a (by omega) (by omega), h (a + 1) (by omega) (by omega), h (a + 2) (by omega) (by omega), h (a + 3) (by omega) (by omega), h (a + 4) (by omega) (by omega), h (a + 5) (by omega) (by omega), h (a + 6) (by omega) (by omega), h (a + 7) (by omega) (by omega), h (a + 8) (by omega) (by omega), h (a + 9) (by omega) (by omega), h (a + 10) (by omega) (by omega), h (a + 11) (by omega) (by omega), h (a + 12) (by omega) (by omega), h (a + 13) (by omega) (by omega)]
  exact hR
/-- the first loop of weigh: what each bears by itself -/
theorem go_weigh1 {P : aP} {d : Nat} {K : aK} {I : aI} {R : aR} {S : aS} {a : Nat} {n : aN} {pl wd : Int → Int} (hT : TiS R S) (hS : NetS R S a) (hR : NetP I a n pl wd) (hW : WF n) (ha : a + 13 < 29 ∨ 33 < a) (z : aV)
    (hK : ∀ I', Fr [30] I I' → (∀ v, 0 ≤ v → v < n 0 → I' 30 v = if mEnd n v = true then nf n v 4 else 0) → Go P 40 (d + 1) K 41 [vr 29, vr a, vi (mEnds n), vi (n 0), z] [] I' R S) : Go P 40 (d + 1) K 2 [vr 29, vr a, vi (mEnds n), vi 0, z] [] I R S := by
  obtain ⟨t0, q1, t1, q2, t2, q3, t3, q4, t4⟩ := id hT
  obtain ⟨s0, sr1, sm1, sr2, sm2, sr3, sm3, sr4, sm4, sr5, sm5, sr6, sm6, sr7, sm7, sr8, sm8, sr9, sm9, sr10, sm10, sr11, sm11, sr12, sm12, sr13, sm13⟩ := id hS
  have hN := hW.1
  have hz := iR_mEnds (n := n) hN.1
  have loop : ∀ (m : Nat) (v : Int) (I' : aI), 0 ≤ v → n 0 - v = m → Fr [30] I I' → (∀ u, 0 ≤ u → u < v → I' 30 u = if mEnd n u = true then nf n u 4 else 0) → Go P 40 (d + 1) K 2 [vr 29, vr a, vi (mEnds n), vi v, z] [] I' R S := by
    intro m
    induction m with
    | zero =>
      intro v I' g0 gm hF hx
      have hv : v = n 0 := by omega
      have e0 : I' a ((0 : Nat) : Int) = n 0 := by rw [hF a (by simp; omega)]; exact hR.1.1
      refine Go.walk 400 [2, 41] E40 E40_ok (fun G C hG hC => ?_)
      (repeat ((conv => whnf); first | refine ⟨_, by assumption, ?_⟩ | refine ⟨_, _, by assumption, ?_⟩ | refine ⟨(show _ ∧ _ by omega), ?_⟩ | refine ⟨(show _ ∨ _ by omega), ?_⟩ | refine ⟨fun h => absurd h (by decide), fun _ => ?_⟩ | refine ⟨fun _ => ?_, fun h => absurd h (by decide)⟩ | refine ⟨fun _ => ?_, fun h => absurd rfl h⟩ | refine ⟨fun h => absurd rfl h, fun _ => ?_⟩)); try (conv => whnf)
      rw [e0]
      refine ⟨fun _ => ?_, fun q => absurd (show n 0 ≤ v by omega) q⟩
      (repeat ((conv => whnf); first | refine ⟨_, by assumption, ?_⟩ | refine ⟨_, _, by assumption, ?_⟩ | refine ⟨(show _ ∧ _ by omega), ?_⟩ | refine ⟨(show _ ∨ _ by omega), ?_⟩ | refine ⟨fun h => absurd h (by decide), fun _ => ?_⟩ | refine ⟨fun _ => ?_, fun h => absurd h (by decide)⟩ | refine ⟨fun _ => ?_, fun h => absurd rfl h⟩ | refine ⟨fun h => absurd rfl h, fun _ => ?_⟩)); try (conv => whnf)
      refine hG _ _ _ _ _ _ ?_
      rw [hv] at hx ⊢
      exact hK I' hF hx
    | succ m ih =>
      intro v I' g0 gm hF hx
      have e0 : I' a ((0 : Nat) : Int) = n 0 := by rw [hF a (by simp; omega)]; exact hR.1.1
      have e4 : I' (a + 5) v = nf n v 4 := by rw [hF (a + 5) (by simp; omega)]; exact (hR.2.1 v g0 (by omega)).2.2.2.1
      have hb := ends_bit hW (v := v) (by omega)
      have hb1 := bAnd1 (bShr (mEnds n) v)
      have hy := iR_sh (mEnds n) v
      refine Go.walk 400 [2, 41] E40 E40_ok (fun G C hG hC => ?_)
      (repeat ((conv => whnf); first | refine ⟨_, by assumption, ?_⟩ | refine ⟨_, _, by assumption, ?_⟩ | refine ⟨(show _ ∧ _ by omega), ?_⟩ | refine ⟨(show _ ∨ _ by omega), ?_⟩ | refine ⟨fun h => absurd h (by decide), fun _ => ?_⟩ | refine ⟨fun _ => ?_, fun h => absurd h (by decide)⟩ | refine ⟨fun _ => ?_, fun h => absurd rfl h⟩ | refine ⟨fun h => absurd rfl h, fun _ => ?_⟩)); try (conv => whnf)
      rw [e0]
      refine ⟨fun q => absurd q (by omega), fun _ => ?_⟩
      (repeat ((conv => whnf); first | refine ⟨_, by assumption, ?_⟩ | refine ⟨_, _, by assumption, ?_⟩ | refine ⟨(show _ ∧ _ by omega), ?_⟩ | refine ⟨(show _ ∨ _ by omega), ?_⟩ | refine ⟨fun h => absurd h (by decide), fun _ => ?_⟩ | refine ⟨fun _ => ?_, fun h => absurd h (by decide)⟩ | refine ⟨fun _ => ?_, fun h => absurd rfl h⟩ | refine ⟨fun h => absurd rfl h, fun _ => ?_⟩)); try (conv => whnf)
      refine ⟨fun q => ?_, fun q => ?_⟩
      · have hf : mEnd n v = false := by
          cases hq : mEnd n v with
          | false => rfl
          | true => rw [hq] at hb; exact absurd hb q
        (repeat ((conv => whnf); first | refine ⟨_, by assumption, ?_⟩ | refine ⟨_, _, by assumption, ?_⟩ | refine ⟨(show _ ∧ _ by omega), ?_⟩ | refine ⟨(show _ ∨ _ by omega), ?_⟩ | refine ⟨fun h => absurd h (by decide), fun _ => ?_⟩ | refine ⟨fun _ => ?_, fun h => absurd h (by decide)⟩ | refine ⟨fun _ => ?_, fun h => absurd rfl h⟩ | refine ⟨fun h => absurd rfl h, fun _ => ?_⟩)); try (conv => whnf)
        refine hG _ _ _ _ _ _ ?_
        refine ih (v + 1) _ (by omega) (by omega) (hF.put (by decide)) (fun u p0 p1 => ?_)
        by_cases w : u = v
        · subst w; rw [uI_at, if_neg (by rw [hf]; exact Bool.false_ne_true)]
        · rw [uI_ne (by omega)]; exact hx u p0 (by omega)
      · have ht : mEnd n v = true := by
          cases hq : mEnd n v with
          | true => rfl
          | false => rw [hq] at hb; rw [hb] at q; exact absurd q (by decide)
        (repeat ((conv => whnf); first | refine ⟨_, by assumption, ?_⟩ | refine ⟨_, _, by assumption, ?_⟩ | refine ⟨(show _ ∧ _ by omega), ?_⟩ | refine ⟨(show _ ∨ _ by omega), ?_⟩ | refine ⟨fun h => absurd h (by decide), fun _ => ?_⟩ | refine ⟨fun _ => ?_, fun h => absurd h (by decide)⟩ | refine ⟨fun _ => ?_, fun h => absurd rfl h⟩ | refine ⟨fun h => absurd rfl h, fun _ => ?_⟩)); try (conv => whnf)
        rw [e4]
        refine hG _ _ _ _ _ _ ?_
        refine ih (v + 1) _ (by omega) (by omega) (hF.put (by decide)) (fun u p0 p1 => ?_)
        by_cases w : u = v
        · subst w; rw [uI_at, if_pos ht]
        · rw [uI_ne (by omega)]; exact hx u p0 (by omega)
  exact loop (n 0).toNat 0 I (by omega) (by omega) Fr.rf (fun u p0 p1 => by omega)
