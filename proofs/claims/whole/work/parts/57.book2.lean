/-! the book of the class: wrongEntry -/
theorem ok_bookWrong {P : aP} {d : Nat} {K : aK} {I : aI} {R : aR} {S : aS} {t : Nat} {n : aN} {B : List (Int × Int)} (hS : BkS R S) (hB : BkR I B) (hBr : ∀ p ∈ B, (0 ≤ p.1 ∧ p.1 < 6) ∧ iR p.2) (hW : WF n) (hT : S[t]? = some (9, 6)) (ht : ∀ v, 0 ≤ v → v < n 0 → I t v = tim0 n v) (hK : K (some (vi (weL n B 0))) I R S) : Ok P 2 (d + 1) [vr 326, vi (n 0), vr t] I R S K := by
  obtain ⟨s0, r1, s1, r2, s2⟩ := id hS
  obtain ⟨b0, b1, b2⟩ := hB
  have hN := hW.1
  have e : I 326 ((2 : Nat) : Int) = B.length := b0
  have loop : ∀ (m k : Nat) (z : aV), k + m = B.length → weL n B 0 = weL n (B.drop k) k → Go P 2 (d + 1) K 2 [vr 326, vi (n 0), vr t, vi k, z] [] I R S := by
    intro m
    induction m with
    | zero =>
      intro k z gm hx
      rw [List.drop_of_length_le (by omega)] at hx
      refine Go.walk 400 [2] E2 E2_ok (fun G C hG hC => ?_)
      (repeat ((conv => whnf); first | refine ⟨_, by assumption, ?_⟩ | refine ⟨_, _, by assumption, ?_⟩ | refine ⟨(show _ ∧ _ by omega), ?_⟩ | refine ⟨(show _ ∨ _ by omega), ?_⟩ | refine ⟨fun h => absurd h (by decide), fun _ => ?_⟩ | refine ⟨fun _ => ?_, fun h => absurd h (by decide)⟩ | refine ⟨fun _ => ?_, fun h => absurd rfl h⟩ | refine ⟨fun h => absurd rfl h, fun _ => ?_⟩)); try (conv => whnf)
      rw [e]
      refine ⟨fun _ => ?_, fun q => absurd (show (B.length : Int) ≤ k by omega) q⟩
      (repeat ((conv => whnf); first | refine ⟨_, by assumption, ?_⟩ | refine ⟨_, _, by assumption, ?_⟩ | refine ⟨(show _ ∧ _ by omega), ?_⟩ | refine ⟨(show _ ∨ _ by omega), ?_⟩ | refine ⟨fun h => absurd h (by decide), fun _ => ?_⟩ | refine ⟨fun _ => ?_, fun h => absurd h (by decide)⟩ | refine ⟨fun _ => ?_, fun h => absurd rfl h⟩ | refine ⟨fun h => absurd rfl h, fun _ => ?_⟩)); try (conv => whnf)
      rw [hx] at hK
      exact hK
    | succ m ih =>
      intro k z gm hx
      have hlt : k < B.length := by omega
      have hp := List.getElem?_eq_getElem hlt
      have hr := hBr _ (List.getElem_mem hlt)
      generalize B[k] = p at hp hr
      obtain ⟨q1, q2⟩ := b2 k p hp
      obtain ⟨hr1, hr2⟩ := hr
      rw [weL_drop hp] at hx
      have ih2 := ih (k + 1)
      have e6 : ((k + 1 : Nat) : Int) = (k : Int) + 1 := by omega
      rw [e6] at ih2
      refine Go.walk 400 [2] E2 E2_ok (fun G C hG hC => ?_)
      (repeat ((conv => whnf); first | refine ⟨_, by assumption, ?_⟩ | refine ⟨_, _, by assumption, ?_⟩ | refine ⟨(show _ ∧ _ by omega), ?_⟩ | refine ⟨(show _ ∨ _ by omega), ?_⟩ | refine ⟨fun h => absurd h (by decide), fun _ => ?_⟩ | refine ⟨fun _ => ?_, fun h => absurd h (by decide)⟩ | refine ⟨fun _ => ?_, fun h => absurd rfl h⟩ | refine ⟨fun h => absurd rfl h, fun _ => ?_⟩)); try (conv => whnf)
      rw [e]
      refine ⟨fun q => absurd q (by omega), fun _ => ?_⟩
      (repeat ((conv => whnf); first | refine ⟨_, by assumption, ?_⟩ | refine ⟨_, _, by assumption, ?_⟩ | refine ⟨(show _ ∧ _ by omega), ?_⟩ | refine ⟨(show _ ∨ _ by omega), ?_⟩ | refine ⟨fun h => absurd h (by decide), fun _ => ?_⟩ | refine ⟨fun _ => ?_, fun h => absurd h (by decide)⟩ | refine ⟨fun _ => ?_, fun h => absurd rfl h⟩ | refine ⟨fun h => absurd rfl h, fun _ => ?_⟩)); try (conv => whnf)
      rw [q1]
      refine ⟨fun q => ?_, fun q => ?_⟩
      · rw [badE_out (by omega), if_pos rfl] at hx
        (repeat ((conv => whnf); first | refine ⟨_, by assumption, ?_⟩ | refine ⟨_, _, by assumption, ?_⟩ | refine ⟨(show _ ∧ _ by omega), ?_⟩ | refine ⟨(show _ ∨ _ by omega), ?_⟩ | refine ⟨fun h => absurd h (by decide), fun _ => ?_⟩ | refine ⟨fun _ => ?_, fun h => absurd h (by decide)⟩ | refine ⟨fun _ => ?_, fun h => absurd rfl h⟩ | refine ⟨fun h => absurd rfl h, fun _ => ?_⟩)); try (conv => whnf)
        rw [hx] at hK
        exact hK
      · have e3 := ht p.1 hr1.1 (by omega)
        have htb := tim0_bd hW (v := p.1) hr1.1 (by omega)
        (repeat ((conv => whnf); first | refine ⟨_, by assumption, ?_⟩ | refine ⟨_, _, by assumption, ?_⟩ | refine ⟨(show _ ∧ _ by omega), ?_⟩ | refine ⟨(show _ ∨ _ by omega), ?_⟩ | refine ⟨fun h => absurd h (by decide), fun _ => ?_⟩ | refine ⟨fun _ => ?_, fun h => absurd h (by decide)⟩ | refine ⟨fun _ => ?_, fun h => absurd rfl h⟩ | refine ⟨fun h => absurd rfl h, fun _ => ?_⟩)); try (conv => whnf)
        rw [e3, q2]
        refine ⟨fun q3 => ?_, fun q3 => ?_⟩
        · rw [badE_no (by omega) q3, if_neg Bool.false_ne_true] at hx
          (repeat ((conv => whnf); first | refine ⟨_, by assumption, ?_⟩ | refine ⟨_, _, by assumption, ?_⟩ | refine ⟨(show _ ∧ _ by omega), ?_⟩ | refine ⟨(show _ ∨ _ by omega), ?_⟩ | refine ⟨fun h => absurd h (by decide), fun _ => ?_⟩ | refine ⟨fun _ => ?_, fun h => absurd h (by decide)⟩ | refine ⟨fun _ => ?_, fun h => absurd rfl h⟩ | refine ⟨fun h => absurd rfl h, fun _ => ?_⟩)); try (conv => whnf)
          refine hG _ _ _ _ _ _ ?_
          exact ih2 _ (by omega) hx
        · rw [badE_time q3, if_pos rfl] at hx
          (repeat ((conv => whnf); first | refine ⟨_, by assumption, ?_⟩ | refine ⟨_, _, by assumption, ?_⟩ | refine ⟨(show _ ∧ _ by omega), ?_⟩ | refine ⟨(show _ ∨ _ by omega), ?_⟩ | refine ⟨fun h => absurd h (by decide), fun _ => ?_⟩ | refine ⟨fun _ => ?_, fun h => absurd h (by decide)⟩ | refine ⟨fun _ => ?_, fun h => absurd rfl h⟩ | refine ⟨fun h => absurd rfl h, fun _ => ?_⟩)); try (conv => whnf)
          rw [hx] at hK
          exact hK
  refine Ok.of (by decide) rfl (Nat.le_of_ble_eq_true rfl) ?_
  refine Go.walk 400 [2] E2 E2_ok (fun G C hG hC => ?_)
  (repeat ((conv => whnf); first | refine ⟨_, by assumption, ?_⟩ | refine ⟨_, _, by assumption, ?_⟩ | refine ⟨(show _ ∧ _ by omega), ?_⟩ | refine ⟨(show _ ∨ _ by omega), ?_⟩ | refine ⟨fun h => absurd h (by decide), fun _ => ?_⟩ | refine ⟨fun _ => ?_, fun h => absurd h (by decide)⟩ | refine ⟨fun _ => ?_, fun h => absurd rfl h⟩ | refine ⟨fun h => absurd rfl h, fun _ => ?_⟩)); try (conv => whnf)
  refine hG _ _ _ _ _ _ ?_
  exact loop B.length 0 vu (by omega) rfl
