/-! the Choices of the class: pickPoints, of -/
theorem ptt_tR {n : aN} (hW : WF n) {y : aT} (h : tB y) : tR (ptt n y) := by
  obtain ⟨h1, h2, h3⟩ := h
  have hN := hW.1
  have q1 : 0 ≤ 2 * n 1 * y.1 := Int.mul_nonneg (by omega) h1.1
  have q2 : 2 * n 1 * y.1 ≤ 18 * 15000 := Int.mul_le_mul (by omega) h1.2 h1.1 (by omega)
  refine ⟨?_, ?_, ?_⟩
  · show iR 0
    omega
  · show iR (y.2.1 - 2 * n 1 * y.1)
    omega
  · show iR y.2.2
    omega
def PoX (n : aN) (W : Int → Int → aT → Prop) : aT → Prop := fun x => ∃ y, W 0 0 y ∧ x = ptt n y
/-- pickPoints(net) -/
theorem ok_pick {P : aP} {d : Nat} {K : aK} {I : aI} {R : aR} {S : aS} {n : aN} {W : Int → Int → aT → Prop} {LW : List aT} (hW : WF n) (hB0 : CB n I R S) (hb : ∀ x, W 0 0 x → tB x) (hL : FL I R S (rowc 0 0) LW) (hF : Fro LW (W 0 0)) (hlen : LW.length ≤ 1024)
    (hK : ∀ I' R' S' L, ChT (fun x => x = 36) I R S I' R' S' → FL I' R' S' 36 L → Fro L (PoX n W) → K none I' R' S') : Ok P 11 (d + 5) [vr 34, vr 1] I R S K := by
  have h36 : fr 36 := by omega
  obtain ⟨hrf, hr52⟩ := rowc_fr (v := 0) (t := 0) (by omega) (by omega) (by omega) (by omega)
  have hB : ∀ y ∈ LW, tB y := fun y hy => hb y (hF.2.1 y hy)
  have loop : ∀ (T D : List aT) (I' : aI) (R' : aR) (S' : aS), LW = D ++ T → ChT (fun x => x = 36) I R S I' R' S' → Acc I' R' S' 36 (fun _ => False) (ptt n) D 0 → Go P 11 (d + 5) K 16 [vr 34, vr 1, vr (rowc 0 0), vi D.length] [] I' R' S' := by
    intro T
    induction T with
    | nil =>
      intro D I' R' S' hD hT hA'
      rw [List.append_nil] at hD
      have hl : LW.length = D.length := by rw [hD]
      have hL' := hT.2.2.2.2.1 (rowc 0 0) hrf (by omega) LW hL
      obtain ⟨⟨s0, r1, s1, r2, s2, r3, s3⟩, hln⟩ := hT.2.2.2.1.2.1 (rowc 0 0) hrf
      have e0 : I' (rowc 0 0) ((0 : Nat) : Int) = LW.length := hL'.1
      obtain ⟨L, l1, l2, l3⟩ := hA'
      refine Go.walk 400 [16] E11 E11_ok (fun G C hG hC => ?_)
      (repeat ((conv => whnf); first | refine ⟨_, by assumption, ?_⟩ | refine ⟨_, _, by assumption, ?_⟩ | refine ⟨(show _ ∧ _ by omega), ?_⟩ | refine ⟨(show _ ∨ _ by omega), ?_⟩ | refine ⟨fun h => absurd h (by decide), fun _ => ?_⟩ | refine ⟨fun _ => ?_, fun h => absurd h (by decide)⟩ | refine ⟨fun _ => ?_, fun h => absurd rfl h⟩ | refine ⟨fun h => absurd rfl h, fun _ => ?_⟩)); try (conv => whnf)
      rw [e0]
      refine ⟨fun _ => ?_, fun q => absurd (show (LW.length : Int) ≤ D.length by omega) q⟩
      (repeat ((conv => whnf); first | refine ⟨_, by assumption, ?_⟩ | refine ⟨_, _, by assumption, ?_⟩ | refine ⟨(show _ ∧ _ by omega), ?_⟩ | refine ⟨(show _ ∨ _ by omega), ?_⟩ | refine ⟨fun h => absurd h (by decide), fun _ => ?_⟩ | refine ⟨fun _ => ?_, fun h => absurd h (by decide)⟩ | refine ⟨fun _ => ?_, fun h => absurd rfl h⟩ | refine ⟨fun h => absurd rfl h, fun _ => ?_⟩)); try (conv => whnf)
      refine hK I' R' S' L hT l1 ?_
      rw [← hD] at l2
      refine fro_of l2 (fun x hx => ?_) (fun x hx => ?_)
      · rcases hx with hx | ⟨y, hy, e⟩
        · exact hx.elim
        · exact ⟨y, hF.2.1 y hy, e⟩
      · obtain ⟨y, hy, rfl⟩ := hx
        obtain ⟨o, ho, hw⟩ := hF.2.2.1 y hy
        exact ⟨ptt n o, Or.inr ⟨o, ho, rfl⟩, ptt_mono hW hw⟩
    | cons y T ih =>
      intro D I' R' S' hD hT hA'
      have hl : LW.length = D.length + (T.length + 1) := by rw [hD, List.length_append, List.length_cons]
      have hL' := hT.2.2.2.2.1 (rowc 0 0) hrf (by omega) LW hL
      obtain ⟨c1, c2, c3, c4⟩ := hB0.go hT
      obtain ⟨x0, x1, x2, x3, x4, x5, x6, x7⟩ := id c1
      obtain ⟨⟨s0, r1, s1, r2, s2, r3, s3⟩, hln⟩ := c4.2.1 (rowc 0 0) hrf
      have sf := (c4.2.1 36 h36).1.1
      have e0 : I' (rowc 0 0) ((0 : Nat) : Int) = LW.length := hL'.1
      have e1 : I' 1 ((1 : Nat) : Int) = n 1 := c3.1.2.1
      have hll := hL'.2.1
      have hlb := hln.b
      have hL2 := hL'
      rw [hD] at hL2
      obtain ⟨y1, y2, y3⟩ := hL2.at
      have hyB := hB y (by rw [hD]; simp)
      obtain ⟨s0, sr1, sm1, sr2, sm2, sr3, sm3, sr4, sm4, sr5, sm5, sr6, sm6, sr7, sm7, sr8, sm8, sr9, sm9, sr10, sm10, sr11, sm11, sr12, sm12, sr13, sm13⟩ := id c2
      refine Go.walk 400 [16] E11 E11_ok (fun G C hG hC => ?_)
      (repeat ((conv => whnf); first | refine ⟨_, by assumption, ?_⟩ | refine ⟨_, _, by assumption, ?_⟩ | refine ⟨(show _ ∧ _ by omega), ?_⟩ | refine ⟨(show _ ∨ _ by omega), ?_⟩ | refine ⟨fun h => absurd h (by decide), fun _ => ?_⟩ | refine ⟨fun _ => ?_, fun h => absurd h (by decide)⟩ | refine ⟨fun _ => ?_, fun h => absurd rfl h⟩ | refine ⟨fun h => absurd rfl h, fun _ => ?_⟩)); try (conv => whnf)
      rw [e0]
      refine ⟨fun q => absurd q (by omega), fun _ => ?_⟩
      (repeat ((conv => whnf); first | refine ⟨_, by assumption, ?_⟩ | refine ⟨_, _, by assumption, ?_⟩ | refine ⟨(show _ ∧ _ by omega), ?_⟩ | refine ⟨(show _ ∨ _ by omega), ?_⟩ | refine ⟨fun h => absurd h (by decide), fun _ => ?_⟩ | refine ⟨fun _ => ?_, fun h => absurd h (by decide)⟩ | refine ⟨fun _ => ?_, fun h => absurd rfl h⟩ | refine ⟨fun h => absurd rfl h, fun _ => ?_⟩)); try (conv => whnf)
      rw [y1, y2, y3, e1]
      refine hC _ _ _ _ _ _ ?_
      refine ok_offerA (g := ptt n) (y := y) c4 h36 hA' (fun x hx => ?_) (ptt_tR hW hyB) (by omega) (fun I2 R2 S2 hT2 hA2 => ?_)
      · rcases hx with hx | ⟨w, hw, rfl⟩
        · exact hx.elim
        · exact ptt_tR hW (hB w (by rw [hD]; simp [hw]))
      · (repeat ((conv => whnf); first | refine ⟨_, by assumption, ?_⟩ | refine ⟨_, _, by assumption, ?_⟩ | refine ⟨(show _ ∧ _ by omega), ?_⟩ | refine ⟨(show _ ∨ _ by omega), ?_⟩ | refine ⟨fun h => absurd h (by decide), fun _ => ?_⟩ | refine ⟨fun _ => ?_, fun h => absurd h (by decide)⟩ | refine ⟨fun _ => ?_, fun h => absurd rfl h⟩ | refine ⟨fun h => absurd rfl h, fun _ => ?_⟩)); try (conv => whnf)
        refine hG _ _ _ _ _ _ ?_
        have h := ih (D ++ [y]) I2 R2 S2 (by rw [hD, List.append_assoc]; rfl) (hT.tr hT2 (fun x hx => hx.elim id id)) hA2
        rw [List.length_append, List.length_singleton] at h
        exact h
  obtain ⟨c1, c2, c3, c4⟩ := id hB0
  obtain ⟨x0, x1, x2, x3, x4, x5, x6, x7⟩ := id c1
  have sf := (c4.2.1 36 h36).1.1
  refine Ok.of (by decide) rfl (Nat.le_of_ble_eq_true rfl) ?_
  refine Go.walk 400 [16] E11 E11_ok (fun G C hG hC => ?_)
  (repeat ((conv => whnf); first | refine ⟨_, by assumption, ?_⟩ | refine ⟨_, _, by assumption, ?_⟩ | refine ⟨(show _ ∧ _ by omega), ?_⟩ | refine ⟨(show _ ∨ _ by omega), ?_⟩ | refine ⟨fun h => absurd h (by decide), fun _ => ?_⟩ | refine ⟨fun _ => ?_, fun h => absurd h (by decide)⟩ | refine ⟨fun _ => ?_, fun h => absurd rfl h⟩ | refine ⟨fun h => absurd rfl h, fun _ => ?_⟩)); try (conv => whnf)
  refine hC _ _ _ _ _ _ ?_
  refine ok_row c1 (by omega) (by omega) (by omega) (by omega) ?_
  (repeat ((conv => whnf); first | refine ⟨_, by assumption, ?_⟩ | refine ⟨_, _, by assumption, ?_⟩ | refine ⟨(show _ ∧ _ by omega), ?_⟩ | refine ⟨(show _ ∨ _ by omega), ?_⟩ | refine ⟨fun h => absurd h (by decide), fun _ => ?_⟩ | refine ⟨fun _ => ?_, fun h => absurd h (by decide)⟩ | refine ⟨fun _ => ?_, fun h => absurd rfl h⟩ | refine ⟨fun h => absurd rfl h, fun _ => ?_⟩)); try (conv => whnf)
  refine hC _ _ _ _ _ _ ?_
  refine ok_clear c4 h36 (fun I1 hT1 hL1 => ?_)
  (repeat ((conv => whnf); first | refine ⟨_, by assumption, ?_⟩ | refine ⟨_, _, by assumption, ?_⟩ | refine ⟨(show _ ∧ _ by omega), ?_⟩ | refine ⟨(show _ ∨ _ by omega), ?_⟩ | refine ⟨fun h => absurd h (by decide), fun _ => ?_⟩ | refine ⟨fun _ => ?_, fun h => absurd h (by decide)⟩ | refine ⟨fun _ => ?_, fun h => absurd rfl h⟩ | refine ⟨fun h => absurd rfl h, fun _ => ?_⟩)); try (conv => whnf)
  refine hG _ _ _ _ _ _ ?_
  exact loop LW [] I1 R S rfl hT1 ⟨[], hL1, fro_iff fro_nil (fun x => (oa_nil (Z := fun _ => False) (g := ptt n) (x := x)).symm), Nat.zero_le _⟩
/-- what Choices.of leaves as it was -/
def CF (I : aI) (R : aR) (S : aS) (I' : aI) (R' : aR) (S' : aS) : Prop := (∃ T, S' = S ++ T) ∧ (∀ a, a ≠ 34 → ¬ fr a → ¬ ar a → I' a = I a) ∧ (∀ a, ¬ fr a → ¬ ar a → R' a = R a) ∧ FS R' S' ∧ szs S' + 6 * pot (lnF R S) = szs S + 6 * pot (lnF R' S') ∧ 32 * S'.length + szs S ≤ 32 * S.length + szs S'
def ChoOk (n : aN) (W : Int → Int → aT → Prop) (I : aI) (R : aR) (S : aS) : Prop := (∀ v t, 0 ≤ v → v < n 0 → 0 ≤ t → t ≤ 1 → ∃ L, FL I R S (rowc v t) L ∧ Fro L (W v t)) ∧ ∃ L, FL I R S 36 L ∧ Fro L (PoX n W)
theorem FL.cg {I I' : aI} {R : aR} {S : aS} {f : Nat} {L : List aT} (h : FL I R S f L) (hS : FS R S) (hf : fr f) (hI : ∀ a, fr a ∨ ar a → I' a = I a) : FL I' R S f L := by
  obtain ⟨-, -, ha, -⟩ := hS
  unfold FL
  rw [hI f (Or.inl hf)]
  exact ⟨h.1, h.2.1, h.2.2.cg (hI _ (Or.inr (ha f 1 hf (by omega) (by omega)))) (hI _ (Or.inr (ha f 2 hf (by omega) (by omega)))) (hI _ (Or.inr (ha f 3 hf (by omega) (by omega))))⟩
theorem ChoOk.cg {n : aN} {W : Int → Int → aT → Prop} {I I' : aI} {R : aR} {S : aS} (h : ChoOk n W I R S) (hN : n 0 ≤ 6) (hS : FS R S) (hI : ∀ a, fr a ∨ ar a → I' a = I a) : ChoOk n W I' R S := by
  obtain ⟨h1, L, l1, l2⟩ := h
  refine ⟨fun v t g0 g1 t0 t1 => ?_, L, l1.cg hS (by omega) hI, l2⟩
  obtain ⟨L, l1, l2⟩ := h1 v t g0 g1 t0 t1
  exact ⟨L, l1.cg hS (rowc_fr g0 (by omega) t0 t1).1 hI, l2⟩
/-- Choices.of(net) -/
theorem ok_choices {P : aP} {d : Nat} {K : aK} {I : aI} {R : aR} {S : aS} {n : aN} {W B : Int → Int → aT → Prop} {sz : Int → Nat} (hW : WF n) (hB0 : CB n I R S) (hE : SE n W B sz) (hf : I 34 5 = 0 ∨ (I 34 5 = 1 ∧ ChoOk n W I R S))
    (hK : ∀ I' R' S', CF I R S I' R' S' → I' 34 5 = 1 → ChoOk n W I' R' S' → K (some (vr 34)) I' R' S') : Ok P 6 (d + 7) [vr 34, vr 1] I R S K := by
  have hN := hW.1
  have hz := iR_mEnds (n := n) hN.1
  obtain ⟨c1, c2, c3, c4⟩ := id hB0
  obtain ⟨x0, x1, x2, x3, x4, x5, x6, x7⟩ := id c1
  have f40 : fr 40 := by omega
  have f44 : fr 44 := by omega
  have loop : ∀ (m : Nat) (v : Int) (I' : aI) (R' : aR) (S' : aS) (z : aV), v + 1 = m → v < n 0 → ChT (fun _ => True) I R S I' R' S' → (∀ u t, v < u → u < n 0 → 0 ≤ t → t ≤ 1 → ∃ L, FL I' R' S' (rowc u t) L ∧ Fro L (W u t) ∧ L.length ≤ 4 ^ sz u) → Go P 6 (d + 7) K 21 [vr 34, vr 1, vi (mEnds n), vi v, z] [] I' R' S' := by
    intro m
    induction m with
    | zero =>
      intro v I' R' S' z g0 g1 hT hrows
      have hv : v = -1 := by omega
      subst hv
      have hB1 := hB0.go hT
      obtain ⟨c1, c2, c3, c4⟩ := id hB1
      obtain ⟨x0, x1, x2, x3, x4, x5, x6, x7⟩ := id c1
      obtain ⟨LW, w1, w2, w3⟩ := hrows 0 0 (by omega) (by omega) (by omega) (by omega)
      have hs6 := (hE.2.2.2.2.2 0 (by omega) (by omega))
      have hlw : LW.length ≤ 1024 := by
        have := w1.2.1
        have := (c4.2.1 (rowc 0 0) (rowc_fr (by omega) (by omega) (by omega) (by omega)).1).2.b
        omega
      refine Go.walk 400 [21] E6 E6_ok (fun G C hG hC => ?_)
      (repeat ((conv => whnf); first | refine ⟨_, by assumption, ?_⟩ | refine ⟨_, _, by assumption, ?_⟩ | refine ⟨(show _ ∧ _ by omega), ?_⟩ | refine ⟨(show _ ∨ _ by omega), ?_⟩ | refine ⟨fun h => absurd h (by decide), fun _ => ?_⟩ | refine ⟨fun _ => ?_, fun h => absurd h (by decide)⟩ | refine ⟨fun _ => ?_, fun h => absurd rfl h⟩ | refine ⟨fun h => absurd rfl h, fun _ => ?_⟩)); try (conv => whnf)
      refine hC _ _ _ _ _ _ ?_
      refine ok_pick (W := W) hW hB1 (fun x hx => hE.2.2.2.2.1 0 0 x (by omega) (by omega) (by omega) (by omega) hx) w1 w2 hlw (fun I2 R2 S2 L hT2 l1 l2 => ?_)
      have hB2 := hB1.go hT2
      obtain ⟨y0, -⟩ := id hB2.1
      have hT3 := hT.tr hT2 (F := fun _ => True) (fun _ _ => trivial)
      obtain ⟨a1, a2, a3, a4, a5, a6, a7⟩ := id hT3
      have hI3 : ∀ a, fr a ∨ ar a → uI I2 34 ((5 : Nat) : Int) 1 a = I2 a := fun a ha => by
        funext k
        exact uI_ne (by omega)
      (repeat ((conv => whnf); first | refine ⟨_, by assumption, ?_⟩ | refine ⟨_, _, by assumption, ?_⟩ | refine ⟨(show _ ∧ _ by omega), ?_⟩ | refine ⟨(show _ ∨ _ by omega), ?_⟩ | refine ⟨fun h => absurd h (by decide), fun _ => ?_⟩ | refine ⟨fun _ => ?_, fun h => absurd h (by decide)⟩ | refine ⟨fun _ => ?_, fun h => absurd rfl h⟩ | refine ⟨fun h => absurd rfl h, fun _ => ?_⟩)); try (conv => whnf)
      refine hK _ R2 S2 ⟨a1, fun a e1 e2 e3 => ?_, a3, a4, a6, a7⟩ uI_at ?_
      · rw [← a2 a e2 e3]
        funext k
        exact uI_ne (fun e => e1 e.1)
      · refine ChoOk.cg ⟨fun v t p0 p1 t0 t1 => ?_, L, l1, l2⟩ hN.2.1 a4 hI3
        obtain ⟨Lv, v1, v2, v3⟩ := hrows v t (by omega) p1 t0 t1
        obtain ⟨hrf, h52⟩ := rowc_fr (v := v) (t := t) p0 (by omega) t0 t1
        exact ⟨Lv, hT2.2.2.2.2.1 _ hrf (by omega) Lv v1, v2⟩
    | succ m ih =>
      intro v I' R' S' z g0 g1 hT hrows
      have hB1 := hB0.go hT
      obtain ⟨c1, c2, c3, c4⟩ := id hB1
      obtain ⟨x0, x1, x2, x3, x4, x5, x6, x7⟩ := id c1
      have hszv := hE.2.2.2.2.2 v (by omega) g1
      have body : Go P 6 (d + 7) K 41 [vr 34, vr 1, vi (mEnds n), vi v, vi (b2i (mEnd n v))] [] I' R' S' := by
        refine Go.walk 400 [21] E6 E6_ok (fun G C hG hC => ?_)
        (repeat ((conv => whnf); first | refine ⟨_, by assumption, ?_⟩ | refine ⟨_, _, by assumption, ?_⟩ | refine ⟨(show _ ∧ _ by omega), ?_⟩ | refine ⟨(show _ ∨ _ by omega), ?_⟩ | refine ⟨fun h => absurd h (by decide), fun _ => ?_⟩ | refine ⟨fun _ => ?_, fun h => absurd h (by decide)⟩ | refine ⟨fun _ => ?_, fun h => absurd rfl h⟩ | refine ⟨fun h => absurd rfl h, fun _ => ?_⟩)); try (conv => whnf)
        refine hC _ _ _ _ _ _ ?_
        refine ok_gather (t := 0) hW hB1 hE ⟨by omega, g1⟩ (by omega) (Or.inl rfl) (fun u p0 p1 => hrows u 0 p0 p1 (by omega) (by omega)) (fun I2 R2 S2 L0 hT2 l1 l2 l3 => ?_)
        have hB2 := hB1.go hT2
        obtain ⟨e1, e2, e3, e4⟩ := id hB2
        obtain ⟨y0, y1, y2, y3, y4, y5, y6, y7⟩ := id e1
        have hrows2 : ∀ u t, v < u → u < n 0 → 0 ≤ t → t ≤ 1 → ∃ L, FL I2 R2 S2 (rowc u t) L ∧ Fro L (W u t) ∧ L.length ≤ 4 ^ sz u := by
          intro u t p0 p1 t0 t1
          obtain ⟨L, q1, q2⟩ := hrows u t p0 p1 t0 t1
          obtain ⟨hrf, h52⟩ := rowc_fr (v := u) (t := t) (by omega) (by omega) t0 t1
          exact ⟨L, hT2.2.2.2.2.1 _ hrf (by omega) L q1, q2⟩
        (repeat ((conv => whnf); first | refine ⟨_, by assumption, ?_⟩ | refine ⟨_, _, by assumption, ?_⟩ | refine ⟨(show _ ∧ _ by omega), ?_⟩ | refine ⟨(show _ ∨ _ by omega), ?_⟩ | refine ⟨fun h => absurd h (by decide), fun _ => ?_⟩ | refine ⟨fun _ => ?_, fun h => absurd h (by decide)⟩ | refine ⟨fun _ => ?_, fun h => absurd rfl h⟩ | refine ⟨fun h => absurd rfl h, fun _ => ?_⟩)); try (conv => whnf)
        refine hC _ _ _ _ _ _ ?_
        refine ok_gather (t := 1) hW hB2 hE ⟨by omega, g1⟩ (by omega) (Or.inr rfl) (fun u p0 p1 => hrows2 u 1 p0 p1 (by omega) (by omega)) (fun I3 R3 S3 L1 hT3 k1 k2 k3 => ?_)
        have hB3 := hB2.go hT3
        obtain ⟨h1, h2, h3, h4⟩ := id hB3
        obtain ⟨w0, w1, w2, w3, w4, w5, w6, w7⟩ := id h1
        have l1' := hT3.2.2.2.2.1 40 f40 (by omega) L0 l1
        have hrows3 : ∀ u t, v < u → u < n 0 → 0 ≤ t → t ≤ 1 → ∃ L, FL I3 R3 S3 (rowc u t) L ∧ Fro L (W u t) ∧ L.length ≤ 4 ^ sz u := by
          intro u t p0 p1 t0 t1
          obtain ⟨L, q1, q2⟩ := hrows2 u t p0 p1 t0 t1
          obtain ⟨hrf, h52⟩ := rowc_fr (v := u) (t := t) (by omega) (by omega) t0 t1
          exact ⟨L, hT3.2.2.2.2.1 _ hrf (by omega) L q1, q2⟩
        have hT03 := (hT.tr hT2 (F := fun _ => True) (fun _ _ => trivial)).tr hT3 (F := fun _ => True) (fun _ _ => trivial)
        by_cases hv0 : v = 0
        · subst hv0
          have r00 := rowc_fr (v := 0) (t := 0) (by omega) (by omega) (by omega) (by omega)
          have r01 := rowc_fr (v := 0) (t := 1) (by omega) (by omega) (by omega) (by omega)
          have sr0 := (h4.2.1 (rowc 0 0) r00.1).1.1
          (repeat ((conv => whnf); first | refine ⟨_, by assumption, ?_⟩ | refine ⟨_, _, by assumption, ?_⟩ | refine ⟨(show _ ∧ _ by omega), ?_⟩ | refine ⟨(show _ ∨ _ by omega), ?_⟩ | refine ⟨fun h => absurd h (by decide), fun _ => ?_⟩ | refine ⟨fun _ => ?_, fun h => absurd h (by decide)⟩ | refine ⟨fun _ => ?_, fun h => absurd rfl h⟩ | refine ⟨fun h => absurd rfl h, fun _ => ?_⟩)); try (conv => whnf)
          refine hC _ _ _ _ _ _ ?_
          refine ok_row h1 (by omega) (by omega) (by omega) (by omega) ?_
          (repeat ((conv => whnf); first | refine ⟨_, by assumption, ?_⟩ | refine ⟨_, _, by assumption, ?_⟩ | refine ⟨(show _ ∧ _ by omega), ?_⟩ | refine ⟨(show _ ∨ _ by omega), ?_⟩ | refine ⟨fun h => absurd h (by decide), fun _ => ?_⟩ | refine ⟨fun _ => ?_, fun h => absurd h (by decide)⟩ | refine ⟨fun _ => ?_, fun h => absurd rfl h⟩ | refine ⟨fun h => absurd rfl h, fun _ => ?_⟩)); try (conv => whnf)
          refine hC _ _ _ _ _ _ ?_
          refine ok_swap h4 r00.1 f40 (by omega) (fun I4 R4 hT4 p1 p2 => ?_)
          have hB4 := hB3.go hT4
          obtain ⟨j1, j2, j3, j4⟩ := id hB4
          obtain ⟨v0, v1, v2, v3, v4, v5, v6, v7⟩ := id j1
          have sr1 := (j4.2.1 (rowc 0 1) r01.1).1.1
          (repeat ((conv => whnf); first | refine ⟨_, by assumption, ?_⟩ | refine ⟨_, _, by assumption, ?_⟩ | refine ⟨(show _ ∧ _ by omega), ?_⟩ | refine ⟨(show _ ∨ _ by omega), ?_⟩ | refine ⟨fun h => absurd h (by decide), fun _ => ?_⟩ | refine ⟨fun _ => ?_, fun h => absurd h (by decide)⟩ | refine ⟨fun _ => ?_, fun h => absurd rfl h⟩ | refine ⟨fun h => absurd rfl h, fun _ => ?_⟩)); try (conv => whnf)
          refine hC _ _ _ _ _ _ ?_
          refine ok_row j1 (by omega) (by omega) (by omega) (by omega) ?_
          (repeat ((conv => whnf); first | refine ⟨_, by assumption, ?_⟩ | refine ⟨_, _, by assumption, ?_⟩ | refine ⟨(show _ ∧ _ by omega), ?_⟩ | refine ⟨(show _ ∨ _ by omega), ?_⟩ | refine ⟨fun h => absurd h (by decide), fun _ => ?_⟩ | refine ⟨fun _ => ?_, fun h => absurd h (by decide)⟩ | refine ⟨fun _ => ?_, fun h => absurd rfl h⟩ | refine ⟨fun h => absurd rfl h, fun _ => ?_⟩)); try (conv => whnf)
          refine hC _ _ _ _ _ _ ?_
          refine ok_swap j4 r01.1 f44 (by omega) (fun I5 R5 hT5 p3 p4 => ?_)
          (repeat ((conv => whnf); first | refine ⟨_, by assumption, ?_⟩ | refine ⟨_, _, by assumption, ?_⟩ | refine ⟨(show _ ∧ _ by omega), ?_⟩ | refine ⟨(show _ ∨ _ by omega), ?_⟩ | refine ⟨fun h => absurd h (by decide), fun _ => ?_⟩ | refine ⟨fun _ => ?_, fun h => absurd h (by decide)⟩ | refine ⟨fun _ => ?_, fun h => absurd rfl h⟩ | refine ⟨fun h => absurd rfl h, fun _ => ?_⟩)); try (conv => whnf)
          refine hG _ _ _ _ _ _ ?_
          have hne01 : rowc 0 0 ≠ rowc 0 1 := by decide
          have a0 := hT5.2.2.2.2.1 (rowc 0 0) r00.1 (by omega) L0 (p1 L0 l1')
          have k1' := hT4.2.2.2.2.1 44 f44 (by omega) L1 k1
          have a1 := p3 L1 k1'
          refine ih (0 + -1) I5 R5 S3 _ (by omega) (by omega) ((hT03.tr hT4 (F := fun _ => True) (fun _ _ => trivial)).tr hT5 (fun _ _ => trivial)) (fun u t p0 p5 t0 t1 => ?_)
          by_cases hu : u = 0
          · subst hu
            rcases (show t = 0 ∨ t = 1 by omega) with rfl | rfl
            · exact ⟨L0, a0, fro_iff l2 (fun x => (hE.2.1 0 x (by omega) (by omega)).symm), Nat.le_trans l3 (Nat.pow_le_pow_right (by omega) (by omega))⟩
            · exact ⟨L1, a1, fro_iff k2 (fun x => (hE.2.1 1 x (by omega) (by omega)).symm), Nat.le_trans k3 (Nat.pow_le_pow_right (by omega) (by omega))⟩
          · obtain ⟨L, q1, q2⟩ := hrows3 u t (by omega) p5 t0 t1
            obtain ⟨hrf, h52⟩ := rowc_fr (v := u) (t := t) (by omega) (by omega) t0 t1
            have n1 : rowc u t ≠ rowc 0 0 := fun e => hu (rowc_inj (by omega) t0 t1 (by omega) (by omega) (by omega) e).1
            have n2 : rowc u t ≠ rowc 0 1 := fun e => hu (rowc_inj (by omega) t0 t1 (by omega) (by omega) (by omega) e).1
            exact ⟨L, hT5.2.2.2.2.1 _ hrf (by omega) L (hT4.2.2.2.2.1 _ hrf (by omega) L q1), q2⟩
        · have hpw : 4 * 4 ^ (sz v - 1) = 4 ^ sz v := by
            rw [← Nat.pow_succ']
            congr 1
            omega
          have hp5 := pow_le5 (k := sz v) (by omega)
          have r0 := rowc_fr (v := v) (t := 0) (by omega) (by omega) (by omega) (by omega)
          have r1 := rowc_fr (v := v) (t := 1) (by omega) (by omega) (by omega) (by omega)
          have hLL : ∀ t : Int, 0 ≤ t → t ≤ 1 → FL I3 R3 S3 (bc t) (if t = 0 then L0 else L1) ∧ Fro (if t = 0 then L0 else L1) (B v t) ∧ (if t = 0 then L0 else L1).length ≤ 4 ^ (sz v - 1) := by
            intro t t0 t1
            rcases (show t = 0 ∨ t = 1 by omega) with rfl | rfl
            · exact ⟨l1', l2, l3⟩
            · exact ⟨k1, k2, k3⟩
          (repeat ((conv => whnf); first | refine ⟨_, by assumption, ?_⟩ | refine ⟨_, _, by assumption, ?_⟩ | refine ⟨(show _ ∧ _ by omega), ?_⟩ | refine ⟨(show _ ∨ _ by omega), ?_⟩ | refine ⟨fun h => absurd h (by decide), fun _ => ?_⟩ | refine ⟨fun _ => ?_, fun h => absurd h (by decide)⟩ | refine ⟨fun _ => ?_, fun h => absurd rfl h⟩ | refine ⟨fun h => absurd rfl h, fun _ => ?_⟩)); try (conv => whnf)
          refine ⟨fun _ => ?_, fun q => absurd q hv0⟩
          (repeat ((conv => whnf); first | refine ⟨_, by assumption, ?_⟩ | refine ⟨_, _, by assumption, ?_⟩ | refine ⟨(show _ ∧ _ by omega), ?_⟩ | refine ⟨(show _ ∨ _ by omega), ?_⟩ | refine ⟨fun h => absurd h (by decide), fun _ => ?_⟩ | refine ⟨fun _ => ?_, fun h => absurd h (by decide)⟩ | refine ⟨fun _ => ?_, fun h => absurd rfl h⟩ | refine ⟨fun h => absurd rfl h, fun _ => ?_⟩)); try (conv => whnf)
          refine hC _ _ _ _ _ _ ?_
          refine ok_equip (LL := fun t => if t = 0 then L0 else L1) (c := 4 ^ (sz v - 1)) (t := 0) hW hB3 hE ⟨by omega, g1⟩ (by omega) (by omega) hLL (fun I4 R4 S4 LE0 hT4 p1 p2 p3 => ?_)
          have hB4 := hB3.go hT4
          obtain ⟨j1, -⟩ := id hB4
          obtain ⟨v0, -⟩ := id j1
          have hLL4 : ∀ t : Int, 0 ≤ t → t ≤ 1 → FL I4 R4 S4 (bc t) (if t = 0 then L0 else L1) ∧ Fro (if t = 0 then L0 else L1) (B v t) ∧ (if t = 0 then L0 else L1).length ≤ 4 ^ (sz v - 1) := by
            intro t t0 t1
            obtain ⟨b1, b2⟩ := hLL t t0 t1
            have := bc_fr t
            exact ⟨hT4.2.2.2.2.1 _ this.1 (by omega) _ b1, b2⟩
          (repeat ((conv => whnf); first | refine ⟨_, by assumption, ?_⟩ | refine ⟨_, _, by assumption, ?_⟩ | refine ⟨(show _ ∧ _ by omega), ?_⟩ | refine ⟨(show _ ∨ _ by omega), ?_⟩ | refine ⟨fun h => absurd h (by decide), fun _ => ?_⟩ | refine ⟨fun _ => ?_, fun h => absurd h (by decide)⟩ | refine ⟨fun _ => ?_, fun h => absurd rfl h⟩ | refine ⟨fun h => absurd rfl h, fun _ => ?_⟩)); try (conv => whnf)
          refine hC _ _ _ _ _ _ ?_
          refine ok_equip (LL := fun t => if t = 0 then L0 else L1) (c := 4 ^ (sz v - 1)) (t := 1) hW hB4 hE ⟨by omega, g1⟩ (by omega) (by omega) hLL4 (fun I5 R5 S5 LE1 hT5 p4 p5 p6 => ?_)
          have hne01 : rowc v 0 ≠ rowc v 1 := fun e => absurd (rowc_inj (by omega) (by omega) (by omega) (by omega) (by omega) (by omega) e).2 (by omega)
          (repeat ((conv => whnf); first | refine ⟨_, by assumption, ?_⟩ | refine ⟨_, _, by assumption, ?_⟩ | refine ⟨(show _ ∧ _ by omega), ?_⟩ | refine ⟨(show _ ∨ _ by omega), ?_⟩ | refine ⟨fun h => absurd h (by decide), fun _ => ?_⟩ | refine ⟨fun _ => ?_, fun h => absurd h (by decide)⟩ | refine ⟨fun _ => ?_, fun h => absurd rfl h⟩ | refine ⟨fun h => absurd rfl h, fun _ => ?_⟩)); try (conv => whnf)
          refine hG _ _ _ _ _ _ ?_
          refine ih (v + -1) I5 R5 S5 _ (by omega) (by omega) ((hT03.tr hT4 (F := fun _ => True) (fun _ _ => trivial)).tr hT5 (fun _ _ => trivial)) (fun u t q0 q5 t0 t1 => ?_)
          by_cases hu : u = v
          · subst hu
            rcases (show t = 0 ∨ t = 1 by omega) with rfl | rfl
            · exact ⟨LE0, hT5.2.2.2.2.1 _ r0.1 (by omega) LE0 p1, p2, by omega⟩
            · exact ⟨LE1, p4, p5, by omega⟩
          · obtain ⟨L, q1, q2⟩ := hrows3 u t (by omega) q5 t0 t1
            obtain ⟨hrf, h52⟩ := rowc_fr (v := u) (t := t) (by omega) (by omega) t0 t1
            have n1 : rowc u t ≠ rowc v 0 := fun e => hu (rowc_inj (by omega) t0 t1 (by omega) (by omega) (by omega) e).1
            have n2 : rowc u t ≠ rowc v 1 := fun e => hu (rowc_inj (by omega) t0 t1 (by omega) (by omega) (by omega) e).1
            exact ⟨L, hT5.2.2.2.2.1 _ hrf (by omega) L (hT4.2.2.2.2.1 _ hrf (by omega) L q1), q2⟩
      have hb := ends_bit hW (v := v) (by omega)
      have hb1 := bAnd1 (bShr (mEnds n) v)
      have hy := iR_sh (mEnds n) v
      cases hm : mEnd n v with
      | true =>
        rw [hm] at body hb
        have hb : bAnd (bShr (mEnds n) v) 1 = 1 := hb
        have body : Go P 6 (d + 7) K 41 [vr 34, vr 1, vi (mEnds n), vi v, vi 1] [] I' R' S' := body
        refine Go.walk 400 [21, 41] E6 E6_ok (fun G C hG hC => ?_)
        (repeat ((conv => whnf); first | refine ⟨_, by assumption, ?_⟩ | refine ⟨_, _, by assumption, ?_⟩ | refine ⟨(show _ ∧ _ by omega), ?_⟩ | refine ⟨(show _ ∨ _ by omega), ?_⟩ | refine ⟨fun h => absurd h (by decide), fun _ => ?_⟩ | refine ⟨fun _ => ?_, fun h => absurd h (by decide)⟩ | refine ⟨fun _ => ?_, fun h => absurd rfl h⟩ | refine ⟨fun h => absurd rfl h, fun _ => ?_⟩)); try (conv => whnf)
        refine ⟨fun q => absurd q (by omega), fun _ => ?_⟩
        (repeat ((conv => whnf); first | refine ⟨_, by assumption, ?_⟩ | refine ⟨_, _, by assumption, ?_⟩ | refine ⟨(show _ ∧ _ by omega), ?_⟩ | refine ⟨(show _ ∨ _ by omega), ?_⟩ | refine ⟨fun h => absurd h (by decide), fun _ => ?_⟩ | refine ⟨fun _ => ?_, fun h => absurd h (by decide)⟩ | refine ⟨fun _ => ?_, fun h => absurd rfl h⟩ | refine ⟨fun h => absurd rfl h, fun _ => ?_⟩)); try (conv => whnf)
        refine ⟨fun q => absurd hb q, fun _ => ?_⟩
        (repeat ((conv => whnf); first | refine ⟨_, by assumption, ?_⟩ | refine ⟨_, _, by assumption, ?_⟩ | refine ⟨(show _ ∧ _ by omega), ?_⟩ | refine ⟨(show _ ∨ _ by omega), ?_⟩ | refine ⟨fun h => absurd h (by decide), fun _ => ?_⟩ | refine ⟨fun _ => ?_, fun h => absurd h (by decide)⟩ | refine ⟨fun _ => ?_, fun h => absurd rfl h⟩ | refine ⟨fun h => absurd rfl h, fun _ => ?_⟩)); try (conv => whnf)
        refine hG _ _ _ _ _ _ ?_
        exact body
      | false =>
        rw [hm] at body hb
        have hb : bAnd (bShr (mEnds n) v) 1 = 0 := hb
        have body : Go P 6 (d + 7) K 41 [vr 34, vr 1, vi (mEnds n), vi v, vi 0] [] I' R' S' := body
        refine Go.walk 400 [21, 41] E6 E6_ok (fun G C hG hC => ?_)
        (repeat ((conv => whnf); first | refine ⟨_, by assumption, ?_⟩ | refine ⟨_, _, by assumption, ?_⟩ | refine ⟨(show _ ∧ _ by omega), ?_⟩ | refine ⟨(show _ ∨ _ by omega), ?_⟩ | refine ⟨fun h => absurd h (by decide), fun _ => ?_⟩ | refine ⟨fun _ => ?_, fun h => absurd h (by decide)⟩ | refine ⟨fun _ => ?_, fun h => absurd rfl h⟩ | refine ⟨fun h => absurd rfl h, fun _ => ?_⟩)); try (conv => whnf)
        refine ⟨fun q => absurd q (by omega), fun _ => ?_⟩
        (repeat ((conv => whnf); first | refine ⟨_, by assumption, ?_⟩ | refine ⟨_, _, by assumption, ?_⟩ | refine ⟨(show _ ∧ _ by omega), ?_⟩ | refine ⟨(show _ ∨ _ by omega), ?_⟩ | refine ⟨fun h => absurd h (by decide), fun _ => ?_⟩ | refine ⟨fun _ => ?_, fun h => absurd h (by decide)⟩ | refine ⟨fun _ => ?_, fun h => absurd rfl h⟩ | refine ⟨fun h => absurd rfl h, fun _ => ?_⟩)); try (conv => whnf)
        refine ⟨fun _ => ?_, fun q => absurd q (by omega)⟩
        (repeat ((conv => whnf); first | refine ⟨_, by assumption, ?_⟩ | refine ⟨_, _, by assumption, ?_⟩ | refine ⟨(show _ ∧ _ by omega), ?_⟩ | refine ⟨(show _ ∨ _ by omega), ?_⟩ | refine ⟨fun h => absurd h (by decide), fun _ => ?_⟩ | refine ⟨fun _ => ?_, fun h => absurd h (by decide)⟩ | refine ⟨fun _ => ?_, fun h => absurd rfl h⟩ | refine ⟨fun h => absurd rfl h, fun _ => ?_⟩)); try (conv => whnf)
        refine hG _ _ _ _ _ _ ?_
        exact body
  have e0 : I 1 ((0 : Nat) : Int) = n 0 := c3.1.1
  have f5 : I 34 ((5 : Nat) : Int) = 0 ∨ I 34 ((5 : Nat) : Int) = 1 ∧ ChoOk n W I R S := hf
  obtain ⟨s0, sr1, sm1, sr2, sm2, sr3, sm3, sr4, sm4, sr5, sm5, sr6, sm6, sr7, sm7, sr8, sm8, sr9, sm9, sr10, sm10, sr11, sm11, sr12, sm12, sr13, sm13⟩ := id c2
  rcases f5 with h5 | ⟨h5, hOk⟩
  · refine Ok.of (by decide) rfl (Nat.le_of_ble_eq_true rfl) ?_
    refine Go.walk 400 [21] E6 E6_ok (fun G C hG hC => ?_)
    (repeat ((conv => whnf); first | refine ⟨_, by assumption, ?_⟩ | refine ⟨_, _, by assumption, ?_⟩ | refine ⟨(show _ ∧ _ by omega), ?_⟩ | refine ⟨(show _ ∨ _ by omega), ?_⟩ | refine ⟨fun h => absurd h (by decide), fun _ => ?_⟩ | refine ⟨fun _ => ?_, fun h => absurd h (by decide)⟩ | refine ⟨fun _ => ?_, fun h => absurd rfl h⟩ | refine ⟨fun h => absurd rfl h, fun _ => ?_⟩)); try (conv => whnf)
    refine ⟨fun _ => ?_, fun q => absurd h5 q⟩
    (repeat ((conv => whnf); first | refine ⟨_, by assumption, ?_⟩ | refine ⟨_, _, by assumption, ?_⟩ | refine ⟨(show _ ∧ _ by omega), ?_⟩ | refine ⟨(show _ ∨ _ by omega), ?_⟩ | refine ⟨fun h => absurd h (by decide), fun _ => ?_⟩ | refine ⟨fun _ => ?_, fun h => absurd h (by decide)⟩ | refine ⟨fun _ => ?_, fun h => absurd rfl h⟩ | refine ⟨fun h => absurd rfl h, fun _ => ?_⟩)); try (conv => whnf)
    refine hC _ _ _ _ _ _ ?_
    refine ok_ends c2 c3 hW ?_
    (repeat ((conv => whnf); first | refine ⟨_, by assumption, ?_⟩ | refine ⟨_, _, by assumption, ?_⟩ | refine ⟨(show _ ∧ _ by omega), ?_⟩ | refine ⟨(show _ ∨ _ by omega), ?_⟩ | refine ⟨fun h => absurd h (by decide), fun _ => ?_⟩ | refine ⟨fun _ => ?_, fun h => absurd h (by decide)⟩ | refine ⟨fun _ => ?_, fun h => absurd rfl h⟩ | refine ⟨fun h => absurd rfl h, fun _ => ?_⟩)); try (conv => whnf)
    rw [e0]
    refine hG _ _ _ _ _ _ ?_
    exact loop (n 0).toNat (n 0 - 1) I R S _ (by omega) (by omega) (ChT.rf c4) (fun u t p0 p1 => by omega)
  · refine Ok.of (by decide) rfl (Nat.le_of_ble_eq_true rfl) ?_
    refine Go.walk 400 [21] E6 E6_ok (fun G C hG hC => ?_)
    (repeat ((conv => whnf); first | refine ⟨_, by assumption, ?_⟩ | refine ⟨_, _, by assumption, ?_⟩ | refine ⟨(show _ ∧ _ by omega), ?_⟩ | refine ⟨(show _ ∨ _ by omega), ?_⟩ | refine ⟨fun h => absurd h (by decide), fun _ => ?_⟩ | refine ⟨fun _ => ?_, fun h => absurd h (by decide)⟩ | refine ⟨fun _ => ?_, fun h => absurd rfl h⟩ | refine ⟨fun h => absurd rfl h, fun _ => ?_⟩)); try (conv => whnf)
    refine ⟨fun q => absurd q (by omega), fun _ => ?_⟩
    (repeat ((conv => whnf); first | refine ⟨_, by assumption, ?_⟩ | refine ⟨_, _, by assumption, ?_⟩ | refine ⟨(show _ ∧ _ by omega), ?_⟩ | refine ⟨(show _ ∨ _ by omega), ?_⟩ | refine ⟨fun h => absurd h (by decide), fun _ => ?_⟩ | refine ⟨fun _ => ?_, fun h => absurd h (by decide)⟩ | refine ⟨fun _ => ?_, fun h => absurd rfl h⟩ | refine ⟨fun h => absurd rfl h, fun _ => ?_⟩)); try (conv => whnf)
    exact hK I R S ⟨⟨[], by rw [List.append_nil]⟩, fun _ _ _ _ => rfl, fun _ _ _ => rfl, c4, rfl, Nat.le_refl _⟩ h5 hOk
