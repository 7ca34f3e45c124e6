/-! wireTime -/
/-- wireTime(v, shown) -/
theorem ok_wireTime {P : aP} {d : Nat} {K : aK} {I : aI} {R : aR} {S : aS} {a : Nat} {n : aN} {v sh : Int} (hS : NetS R S a) (hR : NetR I a n) (hW : WF n) (hv : 1 ≤ v ∧ v < n 0) (hs : 0 ≤ sh ∧ sh ≤ 15000) (hK : K (some (vi (nf n v 1 * nf n v 2 + 2 / nf n v 3 * nf n v 1 * sh))) I R S) : Ok P 34 (d + 1) [vr a, vi v, vi sh] I R S K := by
  obtain ⟨s0, sr1, sm1, sr2, sm2, sr3, sm3, sr4, sm4, sr5, sm5, sr6, sm6, sr7, sm7, sr8, sm8, sr9, sm9, sr10, sm10, sr11, sm11, sr12, sm12, sr13, sm13⟩ := id hS
  have hN := hW.1
  obtain ⟨-, e1, e2, e3, -⟩ := hR.2.1 v (by omega) (by omega)
  obtain ⟨-, b1, b2, b3, -⟩ := hW.2.1 v (by omega) (by omega)
  have b4 := (hW.2.2.1 v hv.1 hv.2).1
  have p1 : 0 ≤ nf n v 1 * nf n v 2 := Int.mul_nonneg b1.1 b2.1
  have p2 : nf n v 1 * nf n v 2 ≤ 9 * 9 := Int.mul_le_mul b1.2 b2.2 b2.1 (by omega)
  have p3 : 0 ≤ nf n v 1 * sh := Int.mul_nonneg b1.1 hs.1
  have p4 : nf n v 1 * sh ≤ 9 * 15000 := Int.mul_le_mul b1.2 hs.2 hs.1 (by omega)
  have p5 : 2 * nf n v 1 * sh = 2 * (nf n v 1 * sh) := Int.mul_assoc _ _ _
  have p6 : 1 * nf n v 1 * sh = 1 * (nf n v 1 * sh) := Int.mul_assoc _ _ _
  have q1 : I (a + 2) v * I (a + 3) v = nf n v 1 * nf n v 2 := by rw [e1, e2]
  have q2 : ∀ x : Int, x * I (a + 2) v * sh = x * (nf n v 1 * sh) := fun x => by rw [e1, Int.mul_assoc]
  have q3 := q2 2
  have q4 := q2 1
  refine Ok.of (by decide) rfl (Nat.le_of_ble_eq_true rfl) ?_
  refine Go.walk 400 [] E34 E34_ok (fun G C hG hC => ?_)
  (repeat ((conv => whnf); first | refine ⟨_, by assumption, ?_⟩ | refine ⟨_, _, by assumption, ?_⟩ | refine ⟨(show _ ∧ _ by omega), ?_⟩ | refine ⟨(show _ ∨ _ by omega), ?_⟩ | refine ⟨fun h => absurd h (by decide), fun _ => ?_⟩ | refine ⟨fun _ => ?_, fun h => absurd h (by decide)⟩ | refine ⟨fun _ => ?_, fun h => absurd rfl h⟩ | refine ⟨fun h => absurd rfl h, fun _ => ?_⟩)); try (conv => whnf)
  refine ⟨fun q => ?_, fun q => ?_⟩
  · have e : nf n v 3 = 2 := by omega
    rw [e] at hK
    (repeat ((conv => whnf); first | refine ⟨_, by assumption, ?_⟩ | refine ⟨_, _, by assumption, ?_⟩ | refine ⟨(show _ ∧ _ by omega), ?_⟩ | refine ⟨(show _ ∨ _ by omega), ?_⟩ | refine ⟨fun h => absurd h (by decide), fun _ => ?_⟩ | refine ⟨fun _ => ?_, fun h => absurd h (by decide)⟩ | refine ⟨fun _ => ?_, fun h => absurd rfl h⟩ | refine ⟨fun h => absurd rfl h, fun _ => ?_⟩)); try (conv => whnf)
    (try refine ⟨by omega, ?_⟩)
    (try (repeat ((conv => whnf); first | refine ⟨_, by assumption, ?_⟩ | refine ⟨_, _, by assumption, ?_⟩ | refine ⟨(show _ ∧ _ by omega), ?_⟩ | refine ⟨(show _ ∨ _ by omega), ?_⟩ | refine ⟨fun h => absurd h (by decide), fun _ => ?_⟩ | refine ⟨fun _ => ?_, fun h => absurd h (by decide)⟩ | refine ⟨fun _ => ?_, fun h => absurd rfl h⟩ | refine ⟨fun h => absurd rfl h, fun _ => ?_⟩)); try (conv => whnf))
    rw [e1, e2]
    exact hK
  · have e : nf n v 3 = 1 := by omega
    rw [e] at hK
    (repeat ((conv => whnf); first | refine ⟨_, by assumption, ?_⟩ | refine ⟨_, _, by assumption, ?_⟩ | refine ⟨(show _ ∧ _ by omega), ?_⟩ | refine ⟨(show _ ∨ _ by omega), ?_⟩ | refine ⟨fun h => absurd h (by decide), fun _ => ?_⟩ | refine ⟨fun _ => ?_, fun h => absurd h (by decide)⟩ | refine ⟨fun _ => ?_, fun h => absurd rfl h⟩ | refine ⟨fun h => absurd rfl h, fun _ => ?_⟩)); try (conv => whnf)
    (try refine ⟨by omega, ?_⟩)
    (try (repeat ((conv => whnf); first | refine ⟨_, by assumption, ?_⟩ | refine ⟨_, _, by assumption, ?_⟩ | refine ⟨(show _ ∧ _ by omega), ?_⟩ | refine ⟨(show _ ∨ _ by omega), ?_⟩ | refine ⟨fun h => absurd h (by decide), fun _ => ?_⟩ | refine ⟨fun _ => ?_, fun h => absurd h (by decide)⟩ | refine ⟨fun _ => ?_, fun h => absurd rfl h⟩ | refine ⟨fun h => absurd rfl h, fun _ => ?_⟩)); try (conv => whnf))
    rw [e1, e2]
    exact hK
