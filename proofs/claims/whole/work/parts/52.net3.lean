/-! a net of the class: costOfAll, wireTime -/
/-- costOfAll() -/
theorem ok_costOfAll {P : aP} {d : Nat} {K : aK} {I : aI} {R : aR} {S : aS} {a : Nat} {n : aN} (hS : NetS R S a) (hR : NetR I a n) (hW : WF n) (hK : K (some (vi (mCost n (pl0 n) 0))) I R S) : Ok P 31 (d + 1) [vr a] I R S K := by
  obtain ⟨s0, sr1, sm1, sr2, sm2, sr3, sm3, sr4, sm4, sr5, sm5, sr6, sm6, sr7, sm7, sr8, sm8, sr9, sm9, sr10, sm10, sr11, sm11, sr12, sm12, sr13, sm13⟩ := id hS
  have hN := hW.1
  have e0 : I a ((0 : Nat) : Int) = n 0 := hR.1.1
  have loop : ∀ (m : Nat) (v : Int), 1 ≤ v → n 0 - v = m → 0 ≤ rf (fun v s => s + (if (bel n v 0 && decide (0 < pl0 n v)) = true then kf n (pl0 n v) 4 else 0)) 0 1 v ∧ rf (fun v s => s + (if (bel n v 0 && decide (0 < pl0 n v)) = true then kf n (pl0 n v) 4 else 0)) 0 1 v ≤ 99 * (v - 1) → Go P 31 (d + 1) K 4 [vr a, vi (rf (fun v s => s + (if (bel n v 0 && decide (0 < pl0 n v)) = true then kf n (pl0 n v) 4 else 0)) 0 1 v), vi v] [] I R S := by
    intro m
    induction m with
    | zero =>
      intro v g1 hm hx
      have hv : v = n 0 := by omega
      refine Go.walk 400 [4] E31 E31_ok (fun G C hG hC => ?_)
      (repeat ((conv => whnf); first | refine ⟨_, by assumption, ?_⟩ | refine ⟨_, _, by assumption, ?_⟩ | refine ⟨(show _ ∧ _ by omega), ?_⟩ | refine ⟨(show _ ∨ _ by omega), ?_⟩ | refine ⟨fun h => absurd h (by decide), fun _ => ?_⟩ | refine ⟨fun _ => ?_, fun h => absurd h (by decide)⟩ | refine ⟨fun _ => ?_, fun h => absurd rfl h⟩ | refine ⟨fun h => absurd rfl h, fun _ => ?_⟩)); try (conv => whnf)
      rw [e0]
      refine ⟨fun _ => ?_, fun q => absurd (show n 0 ≤ v by omega) q⟩
      (repeat ((conv => whnf); first | refine ⟨_, by assumption, ?_⟩ | refine ⟨_, _, by assumption, ?_⟩ | refine ⟨(show _ ∧ _ by omega), ?_⟩ | refine ⟨(show _ ∨ _ by omega), ?_⟩ | refine ⟨fun h => absurd h (by decide), fun _ => ?_⟩ | refine ⟨fun _ => ?_, fun h => absurd h (by decide)⟩ | refine ⟨fun _ => ?_, fun h => absurd rfl h⟩ | refine ⟨fun h => absurd rfl h, fun _ => ?_⟩)); try (conv => whnf)
      rw [hv]
      exact hK
    | succ m ih =>
      intro v g1 hm hx
      have e7 := (hR.2.1 v (by omega) (by omega)).2.2.2.2.2.2.2
      have b7 := (hW.2.1 v (by omega) (by omega)).2.2.2.2.2.2.2
      have ih2 := ih (v + 1) (by omega) (by omega)
      rw [rf_succ g1] at ih2
      have hc : I (a + 12) (nf n v 7) = (if (bel n v 0 && decide (0 < pl0 n v)) = true then kf n (pl0 n v) 4 else 0) ∧ 0 ≤ I (a + 12) (nf n v 7) ∧ I (a + 12) (nf n v 7) ≤ 99 := by
        rw [bel0 hW (by omega) (by omega), Bool.true_and]
        have ep : pl0 n v = nf n v 7 := rfl
        rw [ep]
        by_cases q : 0 < nf n v 7
        · rw [if_pos (decide_eq_true q), (hR.2.2.1 (nf n v 7) (by omega) (by omega)).2.2.2.1]
          have := (hW.2.2.2.2.2 (nf n v 7) (by omega) (by omega)).2.2.2.2.1
          exact ⟨rfl, this.1, this.2⟩
        · rw [if_neg (fun z => q (of_decide_eq_true z))]
          have z : nf n v 7 = 0 := by omega
          rw [z, hR.2.2.2.2.2.2.1]
          exact ⟨rfl, by omega, by omega⟩
      obtain ⟨hc1, hc2, hc3⟩ := hc
      rw [← hc1] at ih2
      generalize rf (fun v s => s + (if (bel n v 0 && decide (0 < pl0 n v)) = true then kf n (pl0 n v) 4 else 0)) 0 1 v = x at hx ih2 ⊢
      refine Go.walk 400 [4] E31 E31_ok (fun G C hG hC => ?_)
      (repeat ((conv => whnf); first | refine ⟨_, by assumption, ?_⟩ | refine ⟨_, _, by assumption, ?_⟩ | refine ⟨(show _ ∧ _ by omega), ?_⟩ | refine ⟨(show _ ∨ _ by omega), ?_⟩ | refine ⟨fun h => absurd h (by decide), fun _ => ?_⟩ | refine ⟨fun _ => ?_, fun h => absurd h (by decide)⟩ | refine ⟨fun _ => ?_, fun h => absurd rfl h⟩ | refine ⟨fun h => absurd rfl h, fun _ => ?_⟩)); try (conv => whnf)
      rw [e0]
      refine ⟨fun q => absurd q (by omega), fun _ => ?_⟩
      (repeat ((conv => whnf); first | refine ⟨_, by assumption, ?_⟩ | refine ⟨_, _, by assumption, ?_⟩ | refine ⟨(show _ ∧ _ by omega), ?_⟩ | refine ⟨(show _ ∨ _ by omega), ?_⟩ | refine ⟨fun h => absurd h (by decide), fun _ => ?_⟩ | refine ⟨fun _ => ?_, fun h => absurd h (by decide)⟩ | refine ⟨fun _ => ?_, fun h => absurd rfl h⟩ | refine ⟨fun h => absurd rfl h, fun _ => ?_⟩)); try (conv => whnf)
      (try refine ⟨by omega, ?_⟩)
      (try rw [e7])
      (try refine ⟨by omega, ?_⟩)
      (try (repeat ((conv => whnf); first | refine ⟨_, by assumption, ?_⟩ | refine ⟨_, _, by assumption, ?_⟩ | refine ⟨(show _ ∧ _ by omega), ?_⟩ | refine ⟨(show _ ∨ _ by omega), ?_⟩ | refine ⟨fun h => absurd h (by decide), fun _ => ?_⟩ | refine ⟨fun _ => ?_, fun h => absurd h (by decide)⟩ | refine ⟨fun _ => ?_, fun h => absurd rfl h⟩ | refine ⟨fun h => absurd rfl h, fun _ => ?_⟩)); try (conv => whnf))
      (try refine ⟨by omega, ?_⟩)
      (try (repeat ((conv => whnf); first | refine ⟨_, by assumption, ?_⟩ | refine ⟨_, _, by assumption, ?_⟩ | refine ⟨(show _ ∧ _ by omega), ?_⟩ | refine ⟨(show _ ∨ _ by omega), ?_⟩ | refine ⟨fun h => absurd h (by decide), fun _ => ?_⟩ | refine ⟨fun _ => ?_, fun h => absurd h (by decide)⟩ | refine ⟨fun _ => ?_, fun h => absurd rfl h⟩ | refine ⟨fun h => absurd rfl h, fun _ => ?_⟩)); try (conv => whnf))
      refine hG _ _ _ _ _ _ ?_
      exact ih2 (by omega)
  refine Ok.of (by decide) rfl (Nat.le_of_ble_eq_true rfl) ?_
  refine Go.walk 400 [4] E31 E31_ok (fun G C hG hC => ?_)
  (repeat ((conv => whnf); first | refine ⟨_, by assumption, ?_⟩ | refine ⟨_, _, by assumption, ?_⟩ | refine ⟨(show _ ∧ _ by omega), ?_⟩ | refine ⟨(show _ ∨ _ by omega), ?_⟩ | refine ⟨fun h => absurd h (by decide), fun _ => ?_⟩ | refine ⟨fun _ => ?_, fun h => absurd h (by decide)⟩ | refine ⟨fun _ => ?_, fun h => absurd rfl h⟩ | refine ⟨fun h => absurd rfl h, fun _ => ?_⟩)); try (conv => whnf)
  refine hG _ _ _ _ _ _ ?_
  exact loop (n 0 - 1).toNat 1 (by omega) (by omega) (by rw [rf_nil (by omega)]; omega)
