/-! the book of the class -/
def BkS (R : aR) (S : aS) : Prop := S[326]? = some (0, 3) ∧ R 326 0 = some 327 ∧ S[327]? = some (9, 20) ∧ R 326 1 = some 328 ∧ S[328]? = some (9, 20)
def BkR (I : aI) (b : List (Int × Int)) : Prop := I 326 2 = b.length ∧ b.length ≤ 20 ∧ ∀ (j : Nat) (p : Int × Int), b[j]? = some p → I 327 j = p.1 ∧ I 328 j = p.2
/-- add(node, time) -/
theorem ok_bookAdd {P : aP} {d : Nat} {K : aK} {I : aI} {R : aR} {S : aS} {v t : Int} {b : List (Int × Int)} (hS : BkS R S) (hB : BkR I b) (h20 : b.length < 20) (hK : ∀ I', Fr [326, 327, 328] I I' → BkR I' (b ++ [(v, t)]) → K none I' R S) : Ok P 1 (d + 1) [vr 326, vi v, vi t] I R S K := by
  obtain ⟨s0, r1, s1, r2, s2⟩ := id hS
  obtain ⟨b0, b1, b2⟩ := hB
  have e : I 326 ((2 : Nat) : Int) = b.length := b0
  have e1 : uI I 327 (I 326 ((2 : Nat) : Int)) v 326 ((2 : Nat) : Int) = b.length := by rw [uI_ne (by omega)]; exact b0
  refine Ok.of (by decide) rfl (Nat.le_of_ble_eq_true rfl) ?_
  refine Go.walk 400 [] E1 E1_ok (fun G C hG hC => ?_)
  (repeat ((conv => whnf); first | refine ⟨_, by assumption, ?_⟩ | refine ⟨_, _, by assumption, ?_⟩ | refine ⟨(show _ ∧ _ by omega), ?_⟩ | refine ⟨(show _ ∨ _ by omega), ?_⟩ | refine ⟨fun h => absurd h (by decide), fun _ => ?_⟩ | refine ⟨fun _ => ?_, fun h => absurd h (by decide)⟩ | refine ⟨fun _ => ?_, fun h => absurd rfl h⟩ | refine ⟨fun h => absurd rfl h, fun _ => ?_⟩)); try (conv => whnf)
  have e2 : uI (uI I 327 (I 326 ((2 : Nat) : Int)) v) 328 (uI I 327 (I 326 ((2 : Nat) : Int)) v 326 ((2 : Nat) : Int)) t 326 ((2 : Nat) : Int) = b.length := by rw [uI_ne (by omega), e1]
  rw [e2, e1, e]
  refine hK _ (((Fr.rf.put (by decide)).put (by decide)).put (by decide)) ⟨?_, by rw [List.length_append, List.length_singleton]; omega, fun j p hj => ?_⟩
  · rw [List.length_append, List.length_singleton]
    exact uI_at
  · by_cases q : j < b.length
    · rw [List.getElem?_append_left q] at hj
      obtain ⟨c1, c2⟩ := b2 j p hj
      refine ⟨?_, ?_⟩
      · rw [uI_ne (by omega), uI_ne (by omega), uI_ne (by omega)]; exact c1
      · rw [uI_ne (by omega), uI_ne (by omega), uI_ne (by omega)]; exact c2
    · have hj2 : j = b.length := by
        by_cases z : j < b.length + 1
        · omega
        · rw [List.getElem?_eq_none (by rw [List.length_append, List.length_singleton]; omega)] at hj
          cases hj
      subst hj2
      rw [List.getElem?_concat_length] at hj
      injection hj with hj
      subst hj
      refine ⟨?_, ?_⟩
      · rw [uI_ne (by omega), uI_ne (by omega)]; exact uI_at
      · rw [uI_ne (by omega)]; exact uI_at
