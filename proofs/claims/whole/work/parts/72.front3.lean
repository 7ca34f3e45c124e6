/-! a Front of the class: offer -/
def Off (f x y z len : Nat) (I : aI) (R : aR) (S : aS) (x' y' z' len' : Nat) (I' : aI) (R' : aR) (S' : aS) : Prop := (x' = x ∧ y' = y ∧ z' = z ∧ len' = len ∧ R' = R ∧ S' = S ∧ Fr [f, x, y, z] I I') ∨ (x' = S.length ∧ y' = S.length + 1 ∧ z' = S.length + 2 ∧ len' = 2 * len ∧ 2 * len ≤ 1024 ∧ S' = S ++ [(9, 2 * len), (9, 2 * len), (9, 2 * len)] ∧ (∀ a, a < S.length → a ∉ [f, x, y, z] → I' a = I a) ∧ ∀ a, a < S.length → a ≠ f → R' a = R a)
theorem lt2_sep {u t : aT} : lt2 u t ↔ (u.1 < t.1 ∨ (u.1 = t.1 ∧ u.2.2 < t.2.2)) := Iff.rfl
theorem nlt2_head {u t : aT} {B : List aT} (hP : (u :: B).Pairwise lt2) (h : ¬ lt2 u t) : ∀ v ∈ B, ¬ lt2 v t ∧ ¬ (v.1 = t.1 ∧ v.2.2 = t.2.2) := by
  intro v hv
  have h1 := List.rel_of_pairwise_cons hP hv
  unfold lt2 at h h1 ⊢
  omega
theorem ok_offer1 {P : aP} {d : Nat} {K : aK} {I : aI} {R : aR} {S : aS} {f x y z len : Nat} {t : aT} {L : List aT} (hS : F1 R S f x y z len) (hD : D4 f x y z) (hl : 1 ≤ len ∧ len ≤ 1024) (hsz : I f 0 = L.length) (hlen : L.length ≤ len) (hroom : len ≤ L.length → 2 * len ≤ 1024) (hL : Hk I x y z 0 L) (hP : L.Pairwise lt2) (hr : ∀ u ∈ L, tR u) (ht : tR t)
    (hK : ∀ I' R' S' x' y' z' len' L', Off f x y z len I R S x' y' z' len' I' R' S' → Mts L t L' → I' f 0 = L'.length → L'.length ≤ len' → Hk I' x' y' z' 0 L' → F1 R' S' f x' y' z' len' → K none I' R' S') : Ok P 16 (d + 4) [vr f, vi t.1, vi t.2.1, vi t.2.2] I R S K := by
  obtain ⟨s0, r1, s1, r2, s2, r3, s3⟩ := id hS
  obtain ⟨d1, d2, d3, d4, d5, d6⟩ := id hD
  obtain ⟨t1, t2, t3⟩ := id ht
  have e0 : I f ((0 : Nat) : Int) = L.length := hsz
  have same : L.any (fun o => wb o t) = true → K none I R S := fun h => hK I R S x y z len L (Or.inl ⟨rfl, rfl, rfl, rfl, rfl, rfl, Fr.rf⟩) (Or.inl ⟨h, rfl⟩) hsz hlen hL hS
  -- nobody beats the new one
  have fin : ∀ A B, L = A ++ B → (∀ u ∈ A, lt2 u t ∧ wb u t = false) → (∀ u ∈ B, ¬ lt2 u t ∧ wb u t = false) → Go P 16 (d + 4) K 95 [vr f, vi t.1, vi t.2.1, vi t.2.2, vi A.length] [] I R S := by
    intro A B hAB hA hB
    have hLl : L.length = A.length + B.length := by rw [hAB, List.length_append]
    have hLi : (L.length : Int) = A.length + B.length := by omega
    have hL1 := hL
    rw [hAB] at hL1
    have hany : L.any (fun o => wb o t) = false := by
      rw [hAB, List.any_append, Bool.or_eq_false_iff]
      refine ⟨?_, ?_⟩
      · rw [List.any_eq_false]; intro u hu; rw [(hA u hu).2]; exact Bool.false_ne_true
      · rw [List.any_eq_false]; intro u hu; rw [(hB u hu).2]; exact Bool.false_ne_true
    have hfl : L.filter (fun u => !wb t u) = A ++ B.filter (fun u => decide (u.2.2 < t.2.2 ∨ t.2.1 < u.2.1)) := by
      rw [hAB, List.filter_append]
      congr 1
      · rw [List.filter_eq_self]
        intro u hu
        have := (hA u hu).1
        unfold lt2 at this
        rw [Bool.not_eq_true']
        cases q : wb t u with
        | false => rfl
        | true => rw [wb_iff] at q; omega
      · apply List.filter_congr
        intro u hu
        have := (hB u hu).1
        unfold lt2 at this
        cases q : wb t u with
        | false =>
          rw [Bool.not_false]
          refine (decide_eq_true ?_).symm
          have q2 : ¬ (t.1 ≤ u.1 ∧ u.2.1 ≤ t.2.1 ∧ t.2.2 ≤ u.2.2) := fun h => by rw [wb_iff.mpr h] at q; cases q
          omega
        | true =>
          rw [Bool.not_true]
          rw [wb_iff] at q
          exact (decide_eq_false (by omega)).symm
    have hmt : Mts L t (A ++ t :: B.filter (fun u => decide (u.2.2 < t.2.2 ∨ t.2.1 < u.2.1))) := by
      refine Or.inr ⟨hany, A, _, hfl, fun u hu => ?_, fun A' u he => ?_, rfl⟩
      · rw [List.mem_filter] at hu
        obtain ⟨h1, h2⟩ := hu
        have h2 := of_decide_eq_true h2
        obtain ⟨h3, h4⟩ := hB u h1
        unfold lt2 at h3
        unfold gtl
        have q2 : ¬ (u.1 ≤ t.1 ∧ t.2.1 ≤ u.2.1 ∧ u.2.2 ≤ t.2.2) := fun h => by rw [wb_iff.mpr h] at h4; cases h4
        omega
      · have := (hA u (by rw [he]; simp)).1
        unfold lt2 at this
        unfold gtl
        omega
    have hBr : ∀ u ∈ B, tR u := fun u hu => hr u (by rw [hAB]; exact List.mem_append_right _ hu)
    have hfle := List.length_filter_le (fun u : aT => decide (u.2.2 < t.2.2 ∨ t.2.1 < u.2.1)) B
    have hB2 : Hk I x y z A.length B := by
      have := hL1.right
      rw [show (0 : Int) + (A.length : Int) = A.length by omega] at this
      exact this
    refine Go.walk 400 [] E16 E16_ok (fun G C hG hC => ?_)
    (repeat ((conv => whnf); first | refine ⟨_, by assumption, ?_⟩ | refine ⟨_, _, by assumption, ?_⟩ | refine ⟨(show _ ∧ _ by omega), ?_⟩ | refine ⟨(show _ ∨ _ by omega), ?_⟩ | refine ⟨fun h => absurd h (by decide), fun _ => ?_⟩ | refine ⟨fun _ => ?_, fun h => absurd h (by decide)⟩ | refine ⟨fun _ => ?_, fun h => absurd rfl h⟩ | refine ⟨fun h => absurd rfl h, fun _ => ?_⟩)); try (conv => whnf)
    refine hC _ _ _ _ _ _ ?_
    refine ok_dropBeaten hS hD hl.2 (by omega) (by omega) hL1.left hB2 hBr t2 t3 (fun I1 hF1 h1 h2 => ?_)
    have h1' : I1 f ((0 : Nat) : Int) = A.length + (B.filter (fun u => decide (u.2.2 < t.2.2 ∨ t.2.1 < u.2.1))).length := h1
    generalize hQ : B.filter (fun u => decide (u.2.2 < t.2.2 ∨ t.2.1 < u.2.1)) = Q at *
    (repeat ((conv => whnf); first | refine ⟨_, by assumption, ?_⟩ | refine ⟨_, _, by assumption, ?_⟩ | refine ⟨(show _ ∧ _ by omega), ?_⟩ | refine ⟨(show _ ∨ _ by omega), ?_⟩ | refine ⟨fun h => absurd h (by decide), fun _ => ?_⟩ | refine ⟨fun _ => ?_, fun h => absurd h (by decide)⟩ | refine ⟨fun _ => ?_, fun h => absurd rfl h⟩ | refine ⟨fun h => absurd rfl h, fun _ => ?_⟩)); try (conv => whnf)
    rw [h1']
    refine ⟨fun q => ?_, fun q => ?_⟩
    · (repeat ((conv => whnf); first | refine ⟨_, by assumption, ?_⟩ | refine ⟨_, _, by assumption, ?_⟩ | refine ⟨(show _ ∧ _ by omega), ?_⟩ | refine ⟨(show _ ∨ _ by omega), ?_⟩ | refine ⟨fun h => absurd h (by decide), fun _ => ?_⟩ | refine ⟨fun _ => ?_, fun h => absurd h (by decide)⟩ | refine ⟨fun _ => ?_, fun h => absurd rfl h⟩ | refine ⟨fun h => absurd rfl h, fun _ => ?_⟩)); try (conv => whnf)
      refine hC _ _ _ _ _ _ ?_
      refine ok_insert hS hD hl.2 h1 (by omega) h2 (fun I2 hF2 g1 g2 => ?_)
      (repeat ((conv => whnf); first | refine ⟨_, by assumption, ?_⟩ | refine ⟨_, _, by assumption, ?_⟩ | refine ⟨(show _ ∧ _ by omega), ?_⟩ | refine ⟨(show _ ∨ _ by omega), ?_⟩ | refine ⟨fun h => absurd h (by decide), fun _ => ?_⟩ | refine ⟨fun _ => ?_, fun h => absurd h (by decide)⟩ | refine ⟨fun _ => ?_, fun h => absurd rfl h⟩ | refine ⟨fun h => absurd rfl h, fun _ => ?_⟩)); try (conv => whnf)
      refine hK I2 R S x y z len (A ++ t :: Q) (Or.inl ⟨rfl, rfl, rfl, rfl, rfl, rfl, hF1.trans hF2 (by simp)⟩) hmt ?_ ?_ g2 hS
      · rw [g1, List.length_append, List.length_cons]
        omega
      · rw [List.length_append, List.length_cons]
        omega
    · have hw := hroom (by omega)
      (repeat ((conv => whnf); first | refine ⟨_, by assumption, ?_⟩ | refine ⟨_, _, by assumption, ?_⟩ | refine ⟨(show _ ∧ _ by omega), ?_⟩ | refine ⟨(show _ ∨ _ by omega), ?_⟩ | refine ⟨fun h => absurd h (by decide), fun _ => ?_⟩ | refine ⟨fun _ => ?_, fun h => absurd h (by decide)⟩ | refine ⟨fun _ => ?_, fun h => absurd rfl h⟩ | refine ⟨fun h => absurd rfl h, fun _ => ?_⟩)); try (conv => whnf)
      refine hC _ _ _ _ _ _ ?_
      refine ok_widen hS hD (by omega) (fun I2 R2 j1 j2 j3 hS2 => ?_)
      have l0 := at_lt s0
      have l1 := at_lt s1
      have l2 := at_lt s2
      have l3 := at_lt s3
      have k0 : I2 f 0 = A.length + Q.length := by rw [j1 f l0]; exact h1
      have k1 : Hk I2 S.length (S.length + 1) (S.length + 2) 0 (A ++ Q) := by
        intro i u hu
        have hi := (List.getElem?_eq_some_iff.mp hu).1
        rw [List.length_append] at hi
        obtain ⟨c1, c2, c3⟩ := j2 (0 + (i : Nat)) (by omega) (by omega)
        rw [c1, c2, c3]
        exact h2 i u hu
      have s00 := hS2.1
      have D2 : D4 f S.length (S.length + 1) (S.length + 2) := ⟨by omega, by omega, by omega, by omega, by omega, by omega⟩
      (repeat ((conv => whnf); first | refine ⟨_, by assumption, ?_⟩ | refine ⟨_, _, by assumption, ?_⟩ | refine ⟨(show _ ∧ _ by omega), ?_⟩ | refine ⟨(show _ ∨ _ by omega), ?_⟩ | refine ⟨fun h => absurd h (by decide), fun _ => ?_⟩ | refine ⟨fun _ => ?_, fun h => absurd h (by decide)⟩ | refine ⟨fun _ => ?_, fun h => absurd rfl h⟩ | refine ⟨fun h => absurd rfl h, fun _ => ?_⟩)); try (conv => whnf)
      refine hC _ _ _ _ _ _ ?_
      refine ok_insert hS2 D2 hw k0 (by omega) k1 (fun I3 hF3 g1 g2 => ?_)
      (repeat ((conv => whnf); first | refine ⟨_, by assumption, ?_⟩ | refine ⟨_, _, by assumption, ?_⟩ | refine ⟨(show _ ∧ _ by omega), ?_⟩ | refine ⟨(show _ ∨ _ by omega), ?_⟩ | refine ⟨fun h => absurd h (by decide), fun _ => ?_⟩ | refine ⟨fun _ => ?_, fun h => absurd h (by decide)⟩ | refine ⟨fun _ => ?_, fun h => absurd rfl h⟩ | refine ⟨fun h => absurd rfl h, fun _ => ?_⟩)); try (conv => whnf)
      refine hK I3 R2 _ _ _ _ _ (A ++ t :: Q) (Or.inr ⟨rfl, rfl, rfl, rfl, hw, rfl, fun a ha hm => ?_, j3⟩) hmt ?_ ?_ g2 hS2
      · simp only [List.mem_cons, List.not_mem_nil, or_false, not_or] at hm
        rw [hF3 a (by simp; omega), j1 a ha]
        exact hF1 a (by simp only [List.mem_cons, List.not_mem_nil, or_false, not_or]; exact hm)
      · rw [g1, List.length_append, List.length_cons]
        omega
      · rw [List.length_append, List.length_cons]
        omega
  have loop : ∀ B A, L = A ++ B → (∀ u ∈ A, lt2 u t ∧ wb u t = false) → Go P 16 (d + 4) K 3 [vr f, vi t.1, vi t.2.1, vi t.2.2, vi A.length] [] I R S := by
    intro B
    induction B with
    | nil =>
      intro A hAB hA
      have hLl : L.length = A.length := by rw [hAB, List.length_append, List.length_nil]; omega
      refine Go.walk 400 [3, 95] E16 E16_ok (fun G C hG hC => ?_)
      (repeat ((conv => whnf); first | refine ⟨_, by assumption, ?_⟩ | refine ⟨_, _, by assumption, ?_⟩ | refine ⟨(show _ ∧ _ by omega), ?_⟩ | refine ⟨(show _ ∨ _ by omega), ?_⟩ | refine ⟨fun h => absurd h (by decide), fun _ => ?_⟩ | refine ⟨fun _ => ?_, fun h => absurd h (by decide)⟩ | refine ⟨fun _ => ?_, fun h => absurd rfl h⟩ | refine ⟨fun h => absurd rfl h, fun _ => ?_⟩)); try (conv => whnf)
      rw [e0]
      refine ⟨fun _ => ?_, fun q => absurd (show (L.length : Int) ≤ A.length by omega) q⟩
      (repeat ((conv => whnf); first | refine ⟨_, by assumption, ?_⟩ | refine ⟨_, _, by assumption, ?_⟩ | refine ⟨(show _ ∧ _ by omega), ?_⟩ | refine ⟨(show _ ∨ _ by omega), ?_⟩ | refine ⟨fun h => absurd h (by decide), fun _ => ?_⟩ | refine ⟨fun _ => ?_, fun h => absurd h (by decide)⟩ | refine ⟨fun _ => ?_, fun h => absurd rfl h⟩ | refine ⟨fun h => absurd rfl h, fun _ => ?_⟩)); try (conv => whnf)
      rw [e0]
      refine ⟨fun _ => ?_, fun q => absurd (show (L.length : Int) ≤ A.length by omega) q⟩
      refine hG _ _ _ _ _ _ ?_
      exact fin A [] hAB hA (fun u h => absurd h List.not_mem_nil)
    | cons u B ih =>
      intro A hAB hA
      have hLl : L.length = A.length + (B.length + 1) := by rw [hAB, List.length_append, List.length_cons]
      have hu : tR u := hr u (by rw [hAB]; simp)
      obtain ⟨v1, v2, v3⟩ := id hu
      have hiu : I x A.length = u.1 ∧ I y A.length = u.2.1 ∧ I z A.length = u.2.2 := by
        have := hL A.length u (by rw [hAB, List.getElem?_append_right (Nat.le_refl _), Nat.sub_self]; rfl)
        rw [show (0 : Int) + ((A.length : Nat) : Int) = (A.length : Nat) by omega] at this
        exact this
      obtain ⟨u1, u2, u3⟩ := id hiu
      have hPB : (u :: B).Pairwise lt2 := by
        rw [hAB] at hP
        exact (List.pairwise_append.mp hP).2.1
      have hwin : wb u t = true → L.any (fun o => wb o t) = true := fun h => List.any_eq_true.mpr ⟨u, by rw [hAB]; simp, h⟩
      have hmem : ∀ w ∈ B, w ∈ L := fun w hw => by rw [hAB]; simp [hw]
      refine Go.walk 400 [3, 95] E16 E16_ok (fun G C hG hC => ?_)
      (repeat ((conv => whnf); first | refine ⟨_, by assumption, ?_⟩ | refine ⟨_, _, by assumption, ?_⟩ | refine ⟨(show _ ∧ _ by omega), ?_⟩ | refine ⟨(show _ ∨ _ by omega), ?_⟩ | refine ⟨fun h => absurd h (by decide), fun _ => ?_⟩ | refine ⟨fun _ => ?_, fun h => absurd h (by decide)⟩ | refine ⟨fun _ => ?_, fun h => absurd rfl h⟩ | refine ⟨fun h => absurd rfl h, fun _ => ?_⟩)); try (conv => whnf)
      rw [e0]
      refine ⟨fun q => absurd q (by omega), fun _ => ?_⟩
      (repeat ((conv => whnf); first | refine ⟨_, by assumption, ?_⟩ | refine ⟨_, _, by assumption, ?_⟩ | refine ⟨(show _ ∧ _ by omega), ?_⟩ | refine ⟨(show _ ∨ _ by omega), ?_⟩ | refine ⟨fun h => absurd h (by decide), fun _ => ?_⟩ | refine ⟨fun _ => ?_, fun h => absurd h (by decide)⟩ | refine ⟨fun _ => ?_, fun h => absurd rfl h⟩ | refine ⟨fun h => absurd rfl h, fun _ => ?_⟩)); try (conv => whnf)
      refine hC _ _ _ _ _ _ ?_
      refine ok_ahead hS hl.2 (by omega) hiu hu t1 t3 (fun hb => ?_) (fun hb => ?_)
      · (repeat ((conv => whnf); first | refine ⟨_, by assumption, ?_⟩ | refine ⟨_, _, by assumption, ?_⟩ | refine ⟨(show _ ∧ _ by omega), ?_⟩ | refine ⟨(show _ ∨ _ by omega), ?_⟩ | refine ⟨fun h => absurd h (by decide), fun _ => ?_⟩ | refine ⟨fun _ => ?_, fun h => absurd h (by decide)⟩ | refine ⟨fun _ => ?_, fun h => absurd rfl h⟩ | refine ⟨fun h => absurd rfl h, fun _ => ?_⟩)); try (conv => whnf)
        rw [u3]
        have ih2 := fun h => ih (A ++ [u]) (by rw [hAB, List.append_assoc]; rfl) (fun w hw => by
          rw [List.mem_append, List.mem_singleton] at hw
          rcases hw with hw | hw
          · exact hA w hw
          · subst hw; exact ⟨hb, h⟩)
        rw [List.length_append, List.length_singleton] at ih2
        have e6 : ((A.length + 1 : Nat) : Int) = (A.length : Int) + 1 := by omega
        rw [e6] at ih2
        refine ⟨fun q => ?_, fun q => ?_⟩
        · (repeat ((conv => whnf); first | refine ⟨_, by assumption, ?_⟩ | refine ⟨_, _, by assumption, ?_⟩ | refine ⟨(show _ ∧ _ by omega), ?_⟩ | refine ⟨(show _ ∨ _ by omega), ?_⟩ | refine ⟨fun h => absurd h (by decide), fun _ => ?_⟩ | refine ⟨fun _ => ?_, fun h => absurd h (by decide)⟩ | refine ⟨fun _ => ?_, fun h => absurd rfl h⟩ | refine ⟨fun h => absurd rfl h, fun _ => ?_⟩)); try (conv => whnf)
          refine hG _ _ _ _ _ _ ?_
          refine ih2 ?_
          cases hq : wb u t with
          | false => rfl
          | true => rw [wb_iff] at hq; omega
        · (repeat ((conv => whnf); first | refine ⟨_, by assumption, ?_⟩ | refine ⟨_, _, by assumption, ?_⟩ | refine ⟨(show _ ∧ _ by omega), ?_⟩ | refine ⟨(show _ ∨ _ by omega), ?_⟩ | refine ⟨fun h => absurd h (by decide), fun _ => ?_⟩ | refine ⟨fun _ => ?_, fun h => absurd h (by decide)⟩ | refine ⟨fun _ => ?_, fun h => absurd rfl h⟩ | refine ⟨fun h => absurd rfl h, fun _ => ?_⟩)); try (conv => whnf)
          rw [u2]
          refine ⟨fun q2 => ?_, fun q2 => ?_⟩
          · (repeat ((conv => whnf); first | refine ⟨_, by assumption, ?_⟩ | refine ⟨_, _, by assumption, ?_⟩ | refine ⟨(show _ ∧ _ by omega), ?_⟩ | refine ⟨(show _ ∨ _ by omega), ?_⟩ | refine ⟨fun h => absurd h (by decide), fun _ => ?_⟩ | refine ⟨fun _ => ?_, fun h => absurd h (by decide)⟩ | refine ⟨fun _ => ?_, fun h => absurd rfl h⟩ | refine ⟨fun h => absurd rfl h, fun _ => ?_⟩)); try (conv => whnf)
            refine hG _ _ _ _ _ _ ?_
            refine ih2 ?_
            cases hq : wb u t with
            | false => rfl
            | true => rw [wb_iff] at hq; omega
          · (repeat ((conv => whnf); first | refine ⟨_, by assumption, ?_⟩ | refine ⟨_, _, by assumption, ?_⟩ | refine ⟨(show _ ∧ _ by omega), ?_⟩ | refine ⟨(show _ ∨ _ by omega), ?_⟩ | refine ⟨fun h => absurd h (by decide), fun _ => ?_⟩ | refine ⟨fun _ => ?_, fun h => absurd h (by decide)⟩ | refine ⟨fun _ => ?_, fun h => absurd rfl h⟩ | refine ⟨fun h => absurd rfl h, fun _ => ?_⟩)); try (conv => whnf)
            exact same (hwin (wb_iff.mpr (by omega)))
      · have hhead := nlt2_head hPB hb
        have fin2 : wb u t = false → Go P 16 (d + 4) K 95 [vr f, vi t.1, vi t.2.1, vi t.2.2, vi A.length] [] I R S := by
          intro hq
          refine fin A (u :: B) hAB hA (fun w hw => ?_)
          rcases List.mem_cons.mp hw with e | hw
          · rw [e]; exact ⟨hb, hq⟩
          · obtain ⟨g1, g2⟩ := hhead w hw
            refine ⟨g1, ?_⟩
            cases hq2 : wb w t with
            | false => rfl
            | true =>
              rw [wb_iff] at hq2
              unfold lt2 at g1
              omega
        have nb : ¬ (u.1 = t.1 ∧ u.2.2 = t.2.2 ∧ t.2.1 ≤ u.2.1) → wb u t = false := by
          intro h
          cases hq : wb u t with
          | false => rfl
          | true =>
            rw [wb_iff] at hq
            omega
        (repeat ((conv => whnf); first | refine ⟨_, by assumption, ?_⟩ | refine ⟨_, _, by assumption, ?_⟩ | refine ⟨(show _ ∧ _ by omega), ?_⟩ | refine ⟨(show _ ∨ _ by omega), ?_⟩ | refine ⟨fun h => absurd h (by decide), fun _ => ?_⟩ | refine ⟨fun _ => ?_, fun h => absurd h (by decide)⟩ | refine ⟨fun _ => ?_, fun h => absurd rfl h⟩ | refine ⟨fun h => absurd rfl h, fun _ => ?_⟩)); try (conv => whnf)
        rw [e0]
        refine ⟨fun q => absurd q (by omega), fun _ => ?_⟩
        (repeat ((conv => whnf); first | refine ⟨_, by assumption, ?_⟩ | refine ⟨_, _, by assumption, ?_⟩ | refine ⟨(show _ ∧ _ by omega), ?_⟩ | refine ⟨(show _ ∨ _ by omega), ?_⟩ | refine ⟨fun h => absurd h (by decide), fun _ => ?_⟩ | refine ⟨fun _ => ?_, fun h => absurd h (by decide)⟩ | refine ⟨fun _ => ?_, fun h => absurd rfl h⟩ | refine ⟨fun h => absurd rfl h, fun _ => ?_⟩)); try (conv => whnf)
        rw [u1]
        refine ⟨fun q => ?_, fun q => ?_⟩
        · refine hG _ _ _ _ _ _ ?_
          exact fin2 (nb (fun h => q h.1))
        · (repeat ((conv => whnf); first | refine ⟨_, by assumption, ?_⟩ | refine ⟨_, _, by assumption, ?_⟩ | refine ⟨(show _ ∧ _ by omega), ?_⟩ | refine ⟨(show _ ∨ _ by omega), ?_⟩ | refine ⟨fun h => absurd h (by decide), fun _ => ?_⟩ | refine ⟨fun _ => ?_, fun h => absurd h (by decide)⟩ | refine ⟨fun _ => ?_, fun h => absurd rfl h⟩ | refine ⟨fun h => absurd rfl h, fun _ => ?_⟩)); try (conv => whnf)
          rw [u3]
          refine ⟨fun q2 => ?_, fun q2 => ?_⟩
          · refine hG _ _ _ _ _ _ ?_
            exact fin2 (nb (fun h => q2 h.2.1))
          · (repeat ((conv => whnf); first | refine ⟨_, by assumption, ?_⟩ | refine ⟨_, _, by assumption, ?_⟩ | refine ⟨(show _ ∧ _ by omega), ?_⟩ | refine ⟨(show _ ∨ _ by omega), ?_⟩ | refine ⟨fun h => absurd h (by decide), fun _ => ?_⟩ | refine ⟨fun _ => ?_, fun h => absurd h (by decide)⟩ | refine ⟨fun _ => ?_, fun h => absurd rfl h⟩ | refine ⟨fun h => absurd rfl h, fun _ => ?_⟩)); try (conv => whnf)
            rw [u2]
            refine ⟨fun q3 => ?_, fun q3 => ?_⟩
            · refine hG _ _ _ _ _ _ ?_
              exact fin2 (nb (fun h => absurd h.2.2 (by omega)))
            · (repeat ((conv => whnf); first | refine ⟨_, by assumption, ?_⟩ | refine ⟨_, _, by assumption, ?_⟩ | refine ⟨(show _ ∧ _ by omega), ?_⟩ | refine ⟨(show _ ∨ _ by omega), ?_⟩ | refine ⟨fun h => absurd h (by decide), fun _ => ?_⟩ | refine ⟨fun _ => ?_, fun h => absurd h (by decide)⟩ | refine ⟨fun _ => ?_, fun h => absurd rfl h⟩ | refine ⟨fun h => absurd rfl h, fun _ => ?_⟩)); try (conv => whnf)
              exact same (hwin (wb_iff.mpr (by omega)))
  refine Ok.of (by decide) rfl (Nat.le_of_ble_eq_true rfl) ?_
  refine Go.walk 400 [3] E16 E16_ok (fun G C hG hC => ?_)
  (repeat ((conv => whnf); first | refine ⟨_, by assumption, ?_⟩ | refine ⟨_, _, by assumption, ?_⟩ | refine ⟨(show _ ∧ _ by omega), ?_⟩ | refine ⟨(show _ ∨ _ by omega), ?_⟩ | refine ⟨fun h => absurd h (by decide), fun _ => ?_⟩ | refine ⟨fun _ => ?_, fun h => absurd h (by decide)⟩ | refine ⟨fun _ => ?_, fun h => absurd rfl h⟩ | refine ⟨fun h => absurd rfl h, fun _ => ?_⟩)); try (conv => whnf)
  refine hG _ _ _ _ _ _ ?_
  exact loop L [] rfl (fun u h => absurd h List.not_mem_nil)
