/-! the Choices of the class: shape, row, driveAll -/
def ChS (R : aR) (S : aS) : Prop := S[34]? = some (1, 6) ∧ R 34 0 = some 35 ∧ S[35]? = some (11, 12) ∧ R 34 1 = some 36 ∧ R 34 2 = some 40 ∧ R 34 3 = some 44 ∧ R 34 4 = some 48 ∧ ∀ j : Int, 0 ≤ j → j < 12 → R 35 j = some (52 + 4 * j).toNat
def rowc (v t : Int) : Nat := (52 + 4 * (2 * v + t)).toNat
theorem rowc_fr {v t : Int} (h0 : 0 ≤ v) (h1 : v < 6) (t0 : 0 ≤ t) (t1 : t ≤ 1) : fr (rowc v t) ∧ 52 ≤ rowc v t := by
  unfold rowc
  omega
theorem rowc_inj {v t v' t' : Int} (h0 : 0 ≤ v) (t0 : 0 ≤ t) (t1 : t ≤ 1) (h0' : 0 ≤ v') (t0' : 0 ≤ t') (t1' : t' ≤ 1) (h : rowc v t = rowc v' t') : v = v' ∧ t = t' := by
  unfold rowc at h
  omega
theorem ChS.cg {R R' : aR} {S T : aS} (h : ChS R S) (h1 : R' 34 = R 34) (h2 : R' 35 = R 35) : ChS R' (S ++ T) := by
  obtain ⟨s0, r0, s1, r1, r2, r3, r4, r5⟩ := h
  rw [← h1] at r0 r1 r2 r3 r4
  exact ⟨at_app s0, r0, at_app s1, r1, r2, r3, r4, fun j g0 g1 => by rw [h2]; exact r5 j g0 g1⟩
theorem NetS.cg {R R' : aR} {S T : aS} {a : Nat} (h : NetS R S a) (h1 : R' a = R a) : NetS R' (S ++ T) a := by
  obtain ⟨s0, sr1, sm1, sr2, sm2, sr3, sm3, sr4, sm4, sr5, sm5, sr6, sm6, sr7, sm7, sr8, sm8, sr9, sm9, sr10, sm10, sr11, sm11, sr12, sm12, sr13, sm13⟩ := id h
  unfold NetS
  rw [h1]
  exact ⟨at_app s0, sr1, at_app sm1, sr2, at_app sm2, sr3, at_app sm3, sr4, at_app sm4, sr5, at_app sm5, sr6, at_app sm6, sr7, at_app sm7, sr8, at_app sm8, sr9, at_app sm9, sr10, at_app sm10, sr11, at_app sm11, sr12, at_app sm12, sr13, at_app sm13⟩
/-- what all work on the Fronts rests on -/
def CB (n : aN) (I : aI) (R : aR) (S : aS) : Prop := ChS R S ∧ NetS R S 1 ∧ NetR I 1 n ∧ FS R S
theorem CB.go {n : aN} {F : Nat → Prop} {I I' : aI} {R R' : aR} {S S' : aS} (h : CB n I R S) (hT : ChT F I R S I' R' S') : CB n I' R' S' := by
  obtain ⟨h1, h2, h3, h4⟩ := h
  obtain ⟨⟨T, rfl⟩, hI, hR, hF, -, -⟩ := hT
  exact ⟨h1.cg (hR 34 (by omega) (by omega)) (hR 35 (by omega) (by omega)), h2.cg (hR 1 (by omega) (by omega)), h3.cg (fun x g1 g2 => hI x (by omega) (by omega)), hF⟩
/-- row(v, t) -/
theorem ok_row {P : aP} {d : Nat} {K : aK} {I : aI} {R : aR} {S : aS} {v t : Int} (hS : ChS R S) (h0 : 0 ≤ v) (h1 : v < 6) (t0 : 0 ≤ t) (t1 : t ≤ 1) (hK : K (some (vr (rowc v t))) I R S) : Ok P 5 (d + 1) [vr 34, vi v, vi t] I R S K := by
  obtain ⟨s0, r0, s1, r1, r2, r3, r4, r5⟩ := hS
  have hr : R 35 (2 * v + t) = some (rowc v t) := r5 (2 * v + t) (by omega) (by omega)
  refine Ok.of (by decide) rfl (Nat.le_of_ble_eq_true rfl) ?_
  refine Go.walk 400 [] E5 E5_ok (fun G C hG hC => ?_)
  (repeat ((conv => whnf); first | refine ⟨_, by assumption, ?_⟩ | refine ⟨_, _, by assumption, ?_⟩ | refine ⟨(show _ ∧ _ by omega), ?_⟩ | refine ⟨(show _ ∨ _ by omega), ?_⟩ | refine ⟨fun h => absurd h (by decide), fun _ => ?_⟩ | refine ⟨fun _ => ?_, fun h => absurd h (by decide)⟩ | refine ⟨fun _ => ?_, fun h => absurd rfl h⟩ | refine ⟨fun h => absurd rfl h, fun _ => ?_⟩)); try (conv => whnf)
  exact hK
/-- a Front under way: the front of Z and of what g makes of the members of D -/
def Acc (I : aI) (R : aR) (S : aS) (f : Nat) (Z : aT → Prop) (g : aT → aT) (D : List aT) (l0 : Nat) : Prop := ∃ L, FL I R S f L ∧ Fro L (OA Z g D) ∧ L.length ≤ l0 + D.length
theorem ok_offerA {P : aP} {d : Nat} {K : aK} {I : aI} {R : aR} {S : aS} {f : Nat} {Z : aT → Prop} {g : aT → aT} {D : List aT} {l0 : Nat} {y : aT} (hS : FS R S) (hf : fr f) (hA : Acc I R S f Z g D l0) (hz : ∀ x, OA Z g D x → tR x) (hy : tR (g y)) (hl : l0 + D.length < 1024)
    (hK : ∀ I' R' S', ChT (fun x => x = f) I R S I' R' S' → Acc I' R' S' f Z g (D ++ [y]) l0 → K none I' R' S') : Ok P 16 (d + 4) [vr f, vi (g y).1, vi (g y).2.1, vi (g y).2.2] I R S K := by
  obtain ⟨L, h1, h2, h3⟩ := hA
  refine ok_offer hS hf h1 h2.1 (fun u hu => hz u (h2.2.1 u hu)) hy (by omega) (fun I' R' S' L' hT hM hL => ?_)
  refine hK I' R' S' hT ⟨L', hL, oa_step h2 hM, ?_⟩
  have := mts_len hM
  rw [List.length_append, List.length_singleton]
  omega
theorem FL.at {I : aI} {R : aR} {S : aS} {f : Nat} {D T : List aT} {y : aT} (h : FL I R S f (D ++ y :: T)) : I (rg R f 1) D.length = y.1 ∧ I (rg R f 2) D.length = y.2.1 ∧ I (rg R f 3) D.length = y.2.2 := by
  have := h.2.2 D.length y (by rw [List.getElem?_append_right (Nat.le_refl _), Nat.sub_self]; rfl)
  rw [show (0 : Int) + ((D.length : Nat) : Int) = (D.length : Nat) by omega] at this
  exact this
theorem dr_bB {n : aN} (hW : WF n) {k : Int} (hk : 1 ≤ k ∧ k ≤ 3) {y : aT} (h : bB y) : tR (dr n k y) := by
  obtain ⟨h1, h2, h3⟩ := h
  obtain ⟨k0, k1, k2, k3, k4, k5⟩ := hW.2.2.2.2.2 k hk.1 hk.2
  have q1 : 0 ≤ 2 * kf n k 2 * y.1 := Int.mul_nonneg (by omega) h1.1
  have q2 : 2 * kf n k 2 * y.1 ≤ 18 * 100000 := Int.mul_le_mul (by omega) h1.2 h1.1 (by omega)
  refine ⟨?_, ?_, ?_⟩
  · show iR (kf n k 1)
    omega
  · show iR (y.2.1 - kf n k 3 - 2 * kf n k 2 * y.1)
    omega
  · show iR (y.2.2 + kf n k 4)
    omega
/-- driveAll(net, k, behind, front) -/
theorem ok_driveAll {P : aP} {d : Nat} {K : aK} {I : aI} {R : aR} {S : aS} {n : aN} {k : Int} {b f : Nat} {LB : List aT} {Z : aT → Prop} {l0 : Nat} (hW : WF n) (hB0 : CB n I R S) (hk : 1 ≤ k ∧ k ≤ 3) (hb : fr b) (hf : fr f) (hne : b ≠ f) (hLB : FL I R S b LB) (hB : ∀ y ∈ LB, bB y) (hz : ∀ x, Z x → tR x) (hA : Acc I R S f Z (dr n k) [] l0) (hl : l0 + LB.length ≤ 1024)
    (hK : ∀ I' R' S', ChT (fun x => x = f) I R S I' R' S' → Acc I' R' S' f Z (dr n k) LB l0 → K none I' R' S') : Ok P 10 (d + 5) [vr 34, vr 1, vi k, vr b, vr f] I R S K := by
  have hoa : ∀ D, (∀ y ∈ D, y ∈ LB) → ∀ x, OA Z (dr n k) D x → tR x := by
    intro D hD x hx
    rcases hx with hx | ⟨y, hy, rfl⟩
    · exact hz x hx
    · exact dr_bB hW hk (hB y (hD y hy))
  have loop : ∀ (T D : List aT) (I' : aI) (R' : aR) (S' : aS) (z : aV), LB = D ++ T → ChT (fun x => x = f) I R S I' R' S' → Acc I' R' S' f Z (dr n k) D l0 → Go P 10 (d + 5) K 3 [vr 34, vr 1, vi k, vr b, vr f, vi D.length, z] [] I' R' S' := by
    intro T
    induction T with
    | nil =>
      intro D I' R' S' z hD hT hA'
      rw [List.append_nil] at hD
      have hlen : LB.length = D.length := by rw [hD]
      have hL' := hT.2.2.2.2.1 b hb hne LB hLB
      obtain ⟨⟨s0, r1, s1, r2, s2, r3, s3⟩, hln⟩ := hT.2.2.2.1.2.1 b hb
      have e0 : I' b ((0 : Nat) : Int) = LB.length := hL'.1
      have hll := hL'.2.1
      have hlb := hln.b
      refine Go.walk 400 [3] E10 E10_ok (fun G C hG hC => ?_)
      (repeat ((conv => whnf); first | refine ⟨_, by assumption, ?_⟩ | refine ⟨_, _, by assumption, ?_⟩ | refine ⟨(show _ ∧ _ by omega), ?_⟩ | refine ⟨(show _ ∨ _ by omega), ?_⟩ | refine ⟨fun h => absurd h (by decide), fun _ => ?_⟩ | refine ⟨fun _ => ?_, fun h => absurd h (by decide)⟩ | refine ⟨fun _ => ?_, fun h => absurd rfl h⟩ | refine ⟨fun h => absurd rfl h, fun _ => ?_⟩)); try (conv => whnf)
      rw [e0]
      refine ⟨fun _ => ?_, fun q => absurd (show (LB.length : Int) ≤ D.length by omega) q⟩
      (repeat ((conv => whnf); first | refine ⟨_, by assumption, ?_⟩ | refine ⟨_, _, by assumption, ?_⟩ | refine ⟨(show _ ∧ _ by omega), ?_⟩ | refine ⟨(show _ ∨ _ by omega), ?_⟩ | refine ⟨fun h => absurd h (by decide), fun _ => ?_⟩ | refine ⟨fun _ => ?_, fun h => absurd h (by decide)⟩ | refine ⟨fun _ => ?_, fun h => absurd rfl h⟩ | refine ⟨fun h => absurd rfl h, fun _ => ?_⟩)); try (conv => whnf)
      refine hK I' R' S' hT ?_
      rw [hD]
      exact hA'
    | cons y T ih =>
      intro D I' R' S' z hD hT hA'
      have hL' := hT.2.2.2.2.1 b hb hne LB hLB
      obtain ⟨c1, c2, c3, c4⟩ := hB0.go hT
      obtain ⟨⟨s0, r1, s1, r2, s2, r3, s3⟩, hln⟩ := c4.2.1 b hb
      have e0 : I' b ((0 : Nat) : Int) = LB.length := hL'.1
      have hll := hL'.2.1
      have hlb := hln.b
      have hlen : LB.length = D.length + (T.length + 1) := by rw [hD, List.length_append, List.length_cons]
      have hL2 := hL'
      rw [hD] at hL2
      obtain ⟨y1, y2, y3⟩ := hL2.at
      have sf := (c4.2.1 f hf).1.1
      have hyB := hB y (by rw [hD]; simp)
      obtain ⟨s0, sr1, sm1, sr2, sm2, sr3, sm3, sr4, sm4, sr5, sm5, sr6, sm6, sr7, sm7, sr8, sm8, sr9, sm9, sr10, sm10, sr11, sm11, sr12, sm12, sr13, sm13⟩ := id c2
      obtain ⟨k1, k2, k3, k4, k5⟩ := c3.2.2.1 k hk.1 hk.2
      have k1' : I' 10 k = kf n k 1 := k1
      have k2' : I' 11 k = kf n k 2 := k2
      have k3' : I' 12 k = kf n k 3 := k3
      have k4' : I' 13 k = kf n k 4 := k4
      refine Go.walk 400 [3] E10 E10_ok (fun G C hG hC => ?_)
      (repeat ((conv => whnf); first | refine ⟨_, by assumption, ?_⟩ | refine ⟨_, _, by assumption, ?_⟩ | refine ⟨(show _ ∧ _ by omega), ?_⟩ | refine ⟨(show _ ∨ _ by omega), ?_⟩ | refine ⟨fun h => absurd h (by decide), fun _ => ?_⟩ | refine ⟨fun _ => ?_, fun h => absurd h (by decide)⟩ | refine ⟨fun _ => ?_, fun h => absurd rfl h⟩ | refine ⟨fun h => absurd rfl h, fun _ => ?_⟩)); try (conv => whnf)
      rw [e0]
      refine ⟨fun q => absurd q (by omega), fun _ => ?_⟩
      (repeat ((conv => whnf); first | refine ⟨_, by assumption, ?_⟩ | refine ⟨_, _, by assumption, ?_⟩ | refine ⟨(show _ ∧ _ by omega), ?_⟩ | refine ⟨(show _ ∨ _ by omega), ?_⟩ | refine ⟨fun h => absurd h (by decide), fun _ => ?_⟩ | refine ⟨fun _ => ?_, fun h => absurd h (by decide)⟩ | refine ⟨fun _ => ?_, fun h => absurd rfl h⟩ | refine ⟨fun h => absurd rfl h, fun _ => ?_⟩)); try (conv => whnf)
      rw [y1, y2, y3, k1', k2', k3', k4']
      refine hC _ _ _ _ _ _ ?_
      refine ok_offerA (g := dr n k) (y := y) c4 hf hA' (hoa D (fun w hw => by rw [hD]; simp [hw])) (dr_bB hW hk hyB) (by omega) (fun I2 R2 S2 hT2 hA2 => ?_)
      (repeat ((conv => whnf); first | refine ⟨_, by assumption, ?_⟩ | refine ⟨_, _, by assumption, ?_⟩ | refine ⟨(show _ ∧ _ by omega), ?_⟩ | refine ⟨(show _ ∨ _ by omega), ?_⟩ | refine ⟨fun h => absurd h (by decide), fun _ => ?_⟩ | refine ⟨fun _ => ?_, fun h => absurd h (by decide)⟩ | refine ⟨fun _ => ?_, fun h => absurd rfl h⟩ | refine ⟨fun h => absurd rfl h, fun _ => ?_⟩)); try (conv => whnf)
      refine hG _ _ _ _ _ _ ?_
      have h := ih (D ++ [y]) I2 R2 S2 (vi (y.2.1 - kf n k 3 - 2 * kf n k 2 * y.1)) (by rw [hD, List.append_assoc]; rfl) (hT.tr hT2 (fun x hx => hx.elim id id)) hA2
      rw [List.length_append, List.length_singleton] at h
      exact h
  refine Ok.of (by decide) rfl (Nat.le_of_ble_eq_true rfl) ?_
  refine Go.walk 400 [3] E10 E10_ok (fun G C hG hC => ?_)
  (repeat ((conv => whnf); first | refine ⟨_, by assumption, ?_⟩ | refine ⟨_, _, by assumption, ?_⟩ | refine ⟨(show _ ∧ _ by omega), ?_⟩ | refine ⟨(show _ ∨ _ by omega), ?_⟩ | refine ⟨fun h => absurd h (by decide), fun _ => ?_⟩ | refine ⟨fun _ => ?_, fun h => absurd h (by decide)⟩ | refine ⟨fun _ => ?_, fun h => absurd rfl h⟩ | refine ⟨fun h => absurd rfl h, fun _ => ?_⟩)); try (conv => whnf)
  refine hG _ _ _ _ _ _ ?_
  exact loop LB [] I R S _ rfl (ChT.rf hB0.2.2.2) hA
