/-! the Choices of the class: join -/
theorem jn_tR {n : aN} (hW : WF n) {u : Int} (h1 : 1 ≤ u) (h2 : u < n 0) {a y : aT} (ha : bB a) (hy : tB y) : tR (jn n u a y) ∧ iR (y.2.1 - wT n u y.1) ∧ iR a.2.1 := by
  obtain ⟨a1, a2, a3⟩ := ha
  obtain ⟨y1, y2, y3⟩ := hy
  have hc := wT_co hW h1 h2
  have hw := wT_bd hW h1 h2 (s := y.1) (by omega)
  refine ⟨⟨?_, ?_, ?_⟩, by omega, by omega⟩
  · show iR (a.1 + (nf n u 2 * nf n u 3 + y.1))
    omega
  · show iR (mn a.2.1 (y.2.1 - wT n u y.1))
    unfold mn
    split <;> omega
  · show iR (a.2.2 + y.2.2)
    omega
def ZO (n : aN) (u : Int) (LA D : List aT) : aT → Prop := fun x => ∃ y ∈ D, ∃ a ∈ LA, x = jn n u a y
theorem zo_step {n : aN} {u : Int} {LA D : List aT} {y x : aT} : OA (ZO n u LA D) (fun a => jn n u a y) LA x ↔ ZO n u LA (D ++ [y]) x := by
  unfold OA ZO
  constructor
  · rintro (⟨z, hz, a, ha, e⟩ | ⟨a, ha, e⟩)
    · exact ⟨z, List.mem_append_left _ hz, a, ha, e⟩
    · exact ⟨y, by simp, a, ha, e⟩
  · rintro ⟨z, hz, a, ha, e⟩
    rw [List.mem_append, List.mem_singleton] at hz
    rcases hz with hz | rfl
    · exact Or.inl ⟨z, hz, a, ha, e⟩
    · exact Or.inr ⟨a, ha, e⟩
theorem ok_join {P : aP} {d : Nat} {K : aK} {I : aI} {R : aR} {S : aS} {n : aN} {u : Int} {s b : Nat} {LA LB : List aT} (hW : WF n) (hB0 : CB n I R S) (hu : 1 ≤ u ∧ u < n 0) (hs : fr s) (hb : fr b) (h1 : s ≠ 48) (h2 : b ≠ 48) (h3 : s ≠ b) (hLA : FL I R S s LA) (hLB : FL I R S b LB) (hA : ∀ a ∈ LA, bB a) (hB : ∀ y ∈ LB, tB y) (hl : LA.length * LB.length ≤ 1024)
    (hK : ∀ I' R' S' L, ChT (fun x => x = s ∨ x = 48) I R S I' R' S' → FL I' R' S' s L → Fro L (ZO n u LA LB) → L.length ≤ LA.length * LB.length → K none I' R' S') : Ok P 8 (d + 5) [vr 34, vr 1, vi u, vr s, vr b] I R S K := by
  have h48 : fr 48 := by omega
  have hN := hW.1
  have hzt : ∀ D, (∀ y ∈ D, y ∈ LB) → ∀ x, ZO n u LA D x → tR x := by
    rintro D hD x ⟨y, hy, a, ha, rfl⟩
    exact (jn_tR hW hu.1 hu.2 (hA a ha) (hB y (hD y hy))).1
  have inner : ∀ (D : List aT) (y : aT) (T0 : List aT), LB = D ++ y :: T0 → (∀ (I' : aI) (R' : aR) (S' : aS) (z7 z8 z9 : aV), ChT (fun x => x = 48) I R S I' R' S' → (∃ L, FL I' R' S' 48 L ∧ Fro L (ZO n u LA (D ++ [y])) ∧ L.length ≤ LA.length * (D.length + 1)) → Go P 8 (d + 5) K 25 [vr 34, vr 1, vi u, vr s, vr b, vi (nf n u 2 * nf n u 3), vi ((D.length : Int) + 1), z7, z8, z9] [] I' R' S') →
      ∀ (T E : List aT) (I' : aI) (R' : aR) (S' : aS), LA = E ++ T → ChT (fun x => x = 48) I R S I' R' S' → Acc I' R' S' 48 (ZO n u LA D) (fun a => jn n u a y) E (LA.length * D.length) → Go P 8 (d + 5) K 75 [vr 34, vr 1, vi u, vr s, vr b, vi (nf n u 2 * nf n u 3), vi D.length, vi (nf n u 2 * nf n u 3 + y.1), vi (y.2.1 - wT n u y.1), vi E.length] [] I' R' S' := by
    intro D y T0 hD hnext T
    have hyL : y ∈ LB := by rw [hD]; simp
    have hDl : ∀ w ∈ D, w ∈ LB := fun w hw => by rw [hD]; simp [hw]
    have hDn : LB.length = D.length + (T0.length + 1) := by rw [hD, List.length_append, List.length_cons]
    have hmul : LA.length * D.length + LA.length ≤ LA.length * LB.length := by
      rw [← Nat.mul_succ]
      exact Nat.mul_le_mul_left _ (by omega)
    induction T with
    | nil =>
      intro E I' R' S' hE hT hAc
      rw [List.append_nil] at hE
      have hlen : LA.length = E.length := by rw [hE]
      have hL' := hT.2.2.2.2.1 s hs h1 LA hLA
      obtain ⟨⟨s0, r1, s1, r2, s2, r3, s3⟩, hln⟩ := hT.2.2.2.1.2.1 s hs
      have e0 : I' s ((0 : Nat) : Int) = LA.length := hL'.1
      have hll := hL'.2.1
      have hlb := hln.b
      refine Go.walk 400 [25, 75] E8 E8_ok (fun G C hG hC => ?_)
      (repeat ((conv => whnf); first | refine ⟨_, by assumption, ?_⟩ | refine ⟨_, _, by assumption, ?_⟩ | refine ⟨(show _ ∧ _ by omega), ?_⟩ | refine ⟨(show _ ∨ _ by omega), ?_⟩ | refine ⟨fun h => absurd h (by decide), fun _ => ?_⟩ | refine ⟨fun _ => ?_, fun h => absurd h (by decide)⟩ | refine ⟨fun _ => ?_, fun h => absurd rfl h⟩ | refine ⟨fun h => absurd rfl h, fun _ => ?_⟩)); try (conv => whnf)
      rw [e0]
      refine ⟨fun _ => ?_, fun q => absurd (show (LA.length : Int) ≤ E.length by omega) q⟩
      (repeat ((conv => whnf); first | refine ⟨_, by assumption, ?_⟩ | refine ⟨_, _, by assumption, ?_⟩ | refine ⟨(show _ ∧ _ by omega), ?_⟩ | refine ⟨(show _ ∨ _ by omega), ?_⟩ | refine ⟨fun h => absurd h (by decide), fun _ => ?_⟩ | refine ⟨fun _ => ?_, fun h => absurd h (by decide)⟩ | refine ⟨fun _ => ?_, fun h => absurd rfl h⟩ | refine ⟨fun h => absurd rfl h, fun _ => ?_⟩)); try (conv => whnf)
      refine hG _ _ _ _ _ _ ?_
      refine hnext I' R' S' _ _ _ hT ?_
      rw [← hE] at hAc
      obtain ⟨L, l1, l2, l3⟩ := hAc
      exact ⟨L, l1, fro_iff l2 (fun x => zo_step), by rw [Nat.mul_succ]; exact l3⟩
    | cons a T ih =>
      intro E I' R' S' hE hT hAc
      have hlen : LA.length = E.length + (T.length + 1) := by rw [hE, List.length_append, List.length_cons]
      have hL' := hT.2.2.2.2.1 s hs h1 LA hLA
      have hM' := hT.2.2.2.2.1 b hb h2 LB hLB
      obtain ⟨c1, c2, c3, c4⟩ := hB0.go hT
      obtain ⟨x0, x1, x2, x3, x4, x5, x6, x7⟩ := c1
      obtain ⟨⟨s0, r1, s1, r2, s2, r3, s3⟩, hln⟩ := c4.2.1 s hs
      obtain ⟨⟨t0, q1, t1, q2, t2, q3, t3⟩, hlm⟩ := c4.2.1 b hb
      have sf := (c4.2.1 48 h48).1.1
      have e0 : I' s ((0 : Nat) : Int) = LA.length := hL'.1
      have hll := hL'.2.1
      have hlb := hln.b
      have hml := hM'.2.1
      have hmb := hlm.b
      have hL2 := hL'
      rw [hE] at hL2
      obtain ⟨a1, a2, a3⟩ := hL2.at
      have hM2 := hM'
      rw [hD] at hM2
      obtain ⟨y1, y2, y3⟩ := hM2.at
      have haL : a ∈ LA := by rw [hE]; simp
      obtain ⟨b1, b2, b3⟩ := jn_tR hW hu.1 hu.2 (hA a haL) (hB y hyL)
      refine Go.walk 400 [25, 75] E8 E8_ok (fun G C hG hC => ?_)
      (repeat ((conv => whnf); first | refine ⟨_, by assumption, ?_⟩ | refine ⟨_, _, by assumption, ?_⟩ | refine ⟨(show _ ∧ _ by omega), ?_⟩ | refine ⟨(show _ ∨ _ by omega), ?_⟩ | refine ⟨fun h => absurd h (by decide), fun _ => ?_⟩ | refine ⟨fun _ => ?_, fun h => absurd h (by decide)⟩ | refine ⟨fun _ => ?_, fun h => absurd rfl h⟩ | refine ⟨fun h => absurd rfl h, fun _ => ?_⟩)); try (conv => whnf)
      rw [e0]
      refine ⟨fun q => absurd q (by omega), fun _ => ?_⟩
      (repeat ((conv => whnf); first | refine ⟨_, by assumption, ?_⟩ | refine ⟨_, _, by assumption, ?_⟩ | refine ⟨(show _ ∧ _ by omega), ?_⟩ | refine ⟨(show _ ∨ _ by omega), ?_⟩ | refine ⟨fun h => absurd h (by decide), fun _ => ?_⟩ | refine ⟨fun _ => ?_, fun h => absurd h (by decide)⟩ | refine ⟨fun _ => ?_, fun h => absurd rfl h⟩ | refine ⟨fun h => absurd rfl h, fun _ => ?_⟩)); try (conv => whnf)
      rw [a1, a2]
      refine hC _ _ _ _ _ _ ?_
      refine ok_min b3 b2 ?_
      (repeat ((conv => whnf); first | refine ⟨_, by assumption, ?_⟩ | refine ⟨_, _, by assumption, ?_⟩ | refine ⟨(show _ ∧ _ by omega), ?_⟩ | refine ⟨(show _ ∨ _ by omega), ?_⟩ | refine ⟨fun h => absurd h (by decide), fun _ => ?_⟩ | refine ⟨fun _ => ?_, fun h => absurd h (by decide)⟩ | refine ⟨fun _ => ?_, fun h => absurd rfl h⟩ | refine ⟨fun h => absurd rfl h, fun _ => ?_⟩)); try (conv => whnf)
      rw [a3, y3]
      refine hC _ _ _ _ _ _ ?_
      refine ok_offerA (g := fun a => jn n u a y) (y := a) c4 h48 hAc (fun x hx => ?_) b1 (by omega) (fun I2 R2 S2 hT2 hA2 => ?_)
      · rcases hx with hx | ⟨w, hw, rfl⟩
        · exact hzt D hDl x hx
        · exact (jn_tR hW hu.1 hu.2 (hA w (by rw [hE]; simp [hw])) (hB y hyL)).1
      · (repeat ((conv => whnf); first | refine ⟨_, by assumption, ?_⟩ | refine ⟨_, _, by assumption, ?_⟩ | refine ⟨(show _ ∧ _ by omega), ?_⟩ | refine ⟨(show _ ∨ _ by omega), ?_⟩ | refine ⟨fun h => absurd h (by decide), fun _ => ?_⟩ | refine ⟨fun _ => ?_, fun h => absurd h (by decide)⟩ | refine ⟨fun _ => ?_, fun h => absurd rfl h⟩ | refine ⟨fun h => absurd rfl h, fun _ => ?_⟩)); try (conv => whnf)
        refine hG _ _ _ _ _ _ ?_
        have h := ih (E ++ [a]) I2 R2 S2 (by rw [hE, List.append_assoc]; rfl) (hT.tr hT2 (fun x hx => hx.elim id id)) hA2
        rw [List.length_append, List.length_singleton] at h
        exact h
  have outer : ∀ (T D : List aT) (I' : aI) (R' : aR) (S' : aS) (z7 z8 z9 : aV), LB = D ++ T → ChT (fun x => x = 48) I R S I' R' S' → (∃ L, FL I' R' S' 48 L ∧ Fro L (ZO n u LA D) ∧ L.length ≤ LA.length * D.length) → Go P 8 (d + 5) K 25 [vr 34, vr 1, vi u, vr s, vr b, vi (nf n u 2 * nf n u 3), vi D.length, z7, z8, z9] [] I' R' S' := by
    intro T
    induction T with
    | nil =>
      intro D I' R' S' z7 z8 z9 hD hT hAc
      rw [List.append_nil] at hD
      have hlen : LB.length = D.length := by rw [hD]
      have hM' := hT.2.2.2.2.1 b hb h2 LB hLB
      obtain ⟨c1, c2, c3, c4⟩ := hB0.go hT
      obtain ⟨x0, x1, x2, x3, x4, x5, x6, x7⟩ := c1
      obtain ⟨⟨t0, q1, t1, q2, t2, q3, t3⟩, hlm⟩ := c4.2.1 b hb
      have ss := (c4.2.1 s hs).1.1
      have e0 : I' b ((0 : Nat) : Int) = LB.length := hM'.1
      have hml := hM'.2.1
      have hmb := hlm.b
      obtain ⟨L, l1, l2, l3⟩ := hAc
      rw [← hD] at l2 l3
      refine Go.walk 400 [25] E8 E8_ok (fun G C hG hC => ?_)
      (repeat ((conv => whnf); first | refine ⟨_, by assumption, ?_⟩ | refine ⟨_, _, by assumption, ?_⟩ | refine ⟨(show _ ∧ _ by omega), ?_⟩ | refine ⟨(show _ ∨ _ by omega), ?_⟩ | refine ⟨fun h => absurd h (by decide), fun _ => ?_⟩ | refine ⟨fun _ => ?_, fun h => absurd h (by decide)⟩ | refine ⟨fun _ => ?_, fun h => absurd rfl h⟩ | refine ⟨fun h => absurd rfl h, fun _ => ?_⟩)); try (conv => whnf)
      rw [e0]
      refine ⟨fun _ => ?_, fun q => absurd (show (LB.length : Int) ≤ D.length by omega) q⟩
      (repeat ((conv => whnf); first | refine ⟨_, by assumption, ?_⟩ | refine ⟨_, _, by assumption, ?_⟩ | refine ⟨(show _ ∧ _ by omega), ?_⟩ | refine ⟨(show _ ∨ _ by omega), ?_⟩ | refine ⟨fun h => absurd h (by decide), fun _ => ?_⟩ | refine ⟨fun _ => ?_, fun h => absurd h (by decide)⟩ | refine ⟨fun _ => ?_, fun h => absurd rfl h⟩ | refine ⟨fun h => absurd rfl h, fun _ => ?_⟩)); try (conv => whnf)
      refine hC _ _ _ _ _ _ ?_
      refine ok_swap c4 hs h48 h1 (fun I2 R2 hT2 w1 w2 => ?_)
      (repeat ((conv => whnf); first | refine ⟨_, by assumption, ?_⟩ | refine ⟨_, _, by assumption, ?_⟩ | refine ⟨(show _ ∧ _ by omega), ?_⟩ | refine ⟨(show _ ∨ _ by omega), ?_⟩ | refine ⟨fun h => absurd h (by decide), fun _ => ?_⟩ | refine ⟨fun _ => ?_, fun h => absurd h (by decide)⟩ | refine ⟨fun _ => ?_, fun h => absurd rfl h⟩ | refine ⟨fun h => absurd rfl h, fun _ => ?_⟩)); try (conv => whnf)
      exact hK I2 R2 S' L (hT.tr hT2 (fun x hx => hx.elim Or.inr id)) (w1 L l1) l2 l3
    | cons y T ih =>
      intro D I' R' S' z7 z8 z9 hD hT hAc
      have hlen : LB.length = D.length + (T.length + 1) := by rw [hD, List.length_append, List.length_cons]
      have hM' := hT.2.2.2.2.1 b hb h2 LB hLB
      obtain ⟨c1, c2, c3, c4⟩ := hB0.go hT
      obtain ⟨x0, x1, x2, x3, x4, x5, x6, x7⟩ := c1
      obtain ⟨⟨t0, q1, t1, q2, t2, q3, t3⟩, hlm⟩ := c4.2.1 b hb
      have e0 : I' b ((0 : Nat) : Int) = LB.length := hM'.1
      have hml := hM'.2.1
      have hmb := hlm.b
      have hM2 := hM'
      rw [hD] at hM2
      obtain ⟨y1, y2, y3⟩ := hM2.at
      obtain ⟨L, l1, l2, l3⟩ := hAc
      obtain ⟨s0, sr1, sm1, sr2, sm2, sr3, sm3, sr4, sm4, sr5, sm5, sr6, sm6, sr7, sm7, sr8, sm8, sr9, sm9, sr10, sm10, sr11, sm11, sr12, sm12, sr13, sm13⟩ := id c2
      refine Go.walk 400 [25, 75] E8 E8_ok (fun G C hG hC => ?_)
      (repeat ((conv => whnf); first | refine ⟨_, by assumption, ?_⟩ | refine ⟨_, _, by assumption, ?_⟩ | refine ⟨(show _ ∧ _ by omega), ?_⟩ | refine ⟨(show _ ∨ _ by omega), ?_⟩ | refine ⟨fun h => absurd h (by decide), fun _ => ?_⟩ | refine ⟨fun _ => ?_, fun h => absurd h (by decide)⟩ | refine ⟨fun _ => ?_, fun h => absurd rfl h⟩ | refine ⟨fun h => absurd rfl h, fun _ => ?_⟩)); try (conv => whnf)
      rw [e0]
      refine ⟨fun q => absurd q (by omega), fun _ => ?_⟩
      (repeat ((conv => whnf); first | refine ⟨_, by assumption, ?_⟩ | refine ⟨_, _, by assumption, ?_⟩ | refine ⟨(show _ ∧ _ by omega), ?_⟩ | refine ⟨(show _ ∨ _ by omega), ?_⟩ | refine ⟨fun h => absurd h (by decide), fun _ => ?_⟩ | refine ⟨fun _ => ?_, fun h => absurd h (by decide)⟩ | refine ⟨fun _ => ?_, fun h => absurd rfl h⟩ | refine ⟨fun h => absurd rfl h, fun _ => ?_⟩)); try (conv => whnf)
      rw [y1, y2]
      refine hC _ _ _ _ _ _ ?_
      refine ok_wireTimeP c2 (c3.P hW) hW (wd0_ok hW) hu ?_
      (repeat ((conv => whnf); first | refine ⟨_, by assumption, ?_⟩ | refine ⟨_, _, by assumption, ?_⟩ | refine ⟨(show _ ∧ _ by omega), ?_⟩ | refine ⟨(show _ ∨ _ by omega), ?_⟩ | refine ⟨fun h => absurd h (by decide), fun _ => ?_⟩ | refine ⟨fun _ => ?_, fun h => absurd h (by decide)⟩ | refine ⟨fun _ => ?_, fun h => absurd rfl h⟩ | refine ⟨fun h => absurd rfl h, fun _ => ?_⟩)); try (conv => whnf)
      refine hG _ _ _ _ _ _ ?_
      refine inner D y T hD (fun I2 R2 S2 z7 z8 z9 hT2 h => ?_) LA [] I' R' S' rfl hT ⟨L, l1, fro_iff l2 (fun x => oa_nil.symm), by simpa using l3⟩
      have := ih (D ++ [y]) I2 R2 S2 z7 z8 z9 (by rw [hD, List.append_assoc]; rfl) hT2 (by rw [List.length_append, List.length_singleton]; exact h)
      rw [List.length_append, List.length_singleton] at this
      exact this
  obtain ⟨c1, c2, c3, c4⟩ := id hB0
  obtain ⟨x0, x1, x2, x3, x4, x5, x6, x7⟩ := id c1
  have sf := (c4.2.1 48 h48).1.1
  obtain ⟨s0, sr1, sm1, sr2, sm2, sr3, sm3, sr4, sm4, sr5, sm5, sr6, sm6, sr7, sm7, sr8, sm8, sr9, sm9, sr10, sm10, sr11, sm11, sr12, sm12, sr13, sm13⟩ := id c2
  refine Ok.of (by decide) rfl (Nat.le_of_ble_eq_true rfl) ?_
  refine Go.walk 400 [25] E8 E8_ok (fun G C hG hC => ?_)
  (repeat ((conv => whnf); first | refine ⟨_, by assumption, ?_⟩ | refine ⟨_, _, by assumption, ?_⟩ | refine ⟨(show _ ∧ _ by omega), ?_⟩ | refine ⟨(show _ ∨ _ by omega), ?_⟩ | refine ⟨fun h => absurd h (by decide), fun _ => ?_⟩ | refine ⟨fun _ => ?_, fun h => absurd h (by decide)⟩ | refine ⟨fun _ => ?_, fun h => absurd rfl h⟩ | refine ⟨fun h => absurd rfl h, fun _ => ?_⟩)); try (conv => whnf)
  refine hC _ _ _ _ _ _ ?_
  refine ok_clear c4 h48 (fun I1 hT1 hL1 => ?_)
  obtain ⟨-, -, d3, -⟩ := hB0.go hT1
  have w1 : I1 4 u = nf n u 2 := (d3.2.1 u (by omega) (by omega)).2.2.1
  have w2 : I1 5 u = nf n u 3 := (d3.2.1 u (by omega) (by omega)).2.2.2.1
  (repeat ((conv => whnf); first | refine ⟨_, by assumption, ?_⟩ | refine ⟨_, _, by assumption, ?_⟩ | refine ⟨(show _ ∧ _ by omega), ?_⟩ | refine ⟨(show _ ∨ _ by omega), ?_⟩ | refine ⟨fun h => absurd h (by decide), fun _ => ?_⟩ | refine ⟨fun _ => ?_, fun h => absurd h (by decide)⟩ | refine ⟨fun _ => ?_, fun h => absurd rfl h⟩ | refine ⟨fun h => absurd rfl h, fun _ => ?_⟩)); try (conv => whnf)
  rw [w1, w2]
  refine hG _ _ _ _ _ _ ?_
  exact outer LB [] I1 R S _ _ _ rfl hT1 ⟨[], hL1, fro_iff fro_nil (fun x => ⟨fun h => h.elim, fun ⟨y, hy, _⟩ => by cases hy⟩), Nat.zero_le _⟩
