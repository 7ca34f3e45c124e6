/-! constructors: Choices, Past -/
def CQ (I0 : aI) (R0 : aR) (S0 : aS) (i : Nat) (I : aI) (R : aR) (S : aS) : Prop := S.length = 36 + 4 * i ∧ S[34]? = some (1, 6) ∧ S[35]? = some (11, 12) ∧ R 34 0 = some 35 ∧ (∀ j : Nat, j < i → j < 4 → R 34 (1 + j : Int) = some (36 + 4 * j)) ∧ (∀ j : Nat, j < i → 4 ≤ j → R 35 ((j : Int) - 4) = some (36 + 4 * j)) ∧ (∀ j : Nat, j < i → F1 R S (36 + 4 * j) (36 + 4 * j + 1) (36 + 4 * j + 2) (36 + 4 * j + 3) 16) ∧ (∀ x, x < 34 → I x = I0 x ∧ R x = R0 x) ∧ (∃ T, S = S0 ++ T) ∧ szs S = szs S0 + 12 + 52 * i
theorem cq_step {I0 : aI} {R0 : aR} {S0 : aS} {i o : Nat} {f : Int} {I I' : aI} {R R' : aR} {S S' : aS} (h : CQ I0 R0 S0 i I R S) (hN : NF0 (36 + 4 * i) (zI I S.length) (zR R S.length) (S ++ [(3, 4)]) I' R' S') (hl : S'.length = 36 + 4 * i + 4) (hs : szs S' = szs (S ++ [(3, 4)]) + 48) (hF : F1 R' S' (36 + 4 * i) (36 + 4 * i + 1) (36 + 4 * i + 2) (36 + 4 * i + 3) 16) (ho : (i < 4 ∧ o = 34 ∧ f = 1 + (i : Int)) ∨ (4 ≤ i ∧ o = 35 ∧ f = (i : Int) - 4)) : CQ I0 R0 S0 (i + 1) I' (uR R' o f (some (36 + 4 * i))) S' := by
  obtain ⟨h1, h2, h3, h4, h5, h6, h7, h8, ⟨T, h9⟩, h10⟩ := h
  obtain ⟨⟨T', e'⟩, hx⟩ := hN
  have hR : ∀ x, x < 36 + 4 * i → R' x = R x := fun x q => by rw [(hx x q).2, zR_ne (by omega)]
  have hI : ∀ x, x < 36 + 4 * i → I' x = I x := fun x q => by rw [(hx x q).1, zI_ne (by omega)]
  have eS : S' = S ++ ([(3, 4)] ++ T') := by rw [e', List.append_assoc]
  have up : ∀ {x : Nat} {p : Nat × Nat}, S[x]? = some p → S'[x]? = some p := fun q => by rw [eS]; exact at_app q
  refine ⟨by omega, up h2, up h3, ?_, fun j g0 g1 => ?_, fun j g0 g1 => ?_, fun j g0 => ?_, fun x q => ⟨?_, ?_⟩, ⟨T ++ ([(3, 4)] ++ T'), by rw [eS, h9, List.append_assoc]⟩, ?_⟩
  · rw [uR_ne (by omega), hR 34 (by omega)]; exact h4
  · by_cases q : j = i
    · subst q
      rcases ho with ⟨o1, o2, o3⟩ | ⟨o1, -⟩
      · rw [o2, o3]; exact uR_at
      · omega
    · rw [uR_ne (by omega), hR 34 (by omega)]; exact h5 j (by omega) g1
  · by_cases q : j = i
    · subst q
      rcases ho with ⟨o1, -⟩ | ⟨o1, o2, o3⟩
      · omega
      · rw [o2, o3]; exact uR_at
    · rw [uR_ne (by omega), hR 35 (by omega)]; exact h6 j (by omega) g1
  · by_cases q : j = i
    · subst q
      obtain ⟨s0, r1, s1, r2, s2, r3, s3⟩ := hF
      exact ⟨s0, by rw [uR_ne (by omega)]; exact r1, s1, by rw [uR_ne (by omega)]; exact r2, s2, by rw [uR_ne (by omega)]; exact r3, s3⟩
    · obtain ⟨s0, r1, s1, r2, s2, r3, s3⟩ := h7 j (by omega)
      have e := hR (36 + 4 * j) (by omega)
      exact ⟨up s0, by rw [uR_ne (by omega), e]; exact r1, up s1, by rw [uR_ne (by omega), e]; exact r2, up s2, by rw [uR_ne (by omega), e]; exact r3, up s3⟩
  · rw [hI x (by omega)]; exact (h8 x q).1
  · rw [uR_o (by omega), hR x (by omega)]; exact (h8 x q).2
  · rw [hs, szs_1]
    show szs S + 4 + 48 = _
    omega
/-- new Choices() -/
theorem ok_newChoices {P : aP} {d : Nat} {K : aK} {I : aI} {R : aR} {S : aS} (hl : S.length = 35) (ha : S[34]? = some (1, 6)) (hK : ∀ I' R' S', NF0 34 I R S I' R' S' → S'.length = 100 → szs S' = szs S + 844 → ChS R' S' → (∀ f, fr f → F1 R' S' f (f + 1) (f + 2) (f + 3) 16) → I' 34 5 = 0 → K none I' R' S') : Ok P 3 (d + 2) [vr 34] I R S K := by
  have loop : ∀ (m i : Nat) (I1 : aI) (R1 : aR) (S1 : aS), 4 ≤ i → i + m = 16 → CQ I R S i I1 R1 S1 → I1 34 5 = 0 → Go P 3 (d + 2) K 64 [vr 34, vi ((i : Int) - 4)] [] I1 R1 S1 := by
    intro m
    induction m with
    | zero =>
      intro i I1 R1 S1 g0 gm hQ h5
      have hi : i = 16 := by omega
      subst hi
      obtain ⟨h1, h2, h3, h4, h5', h6, h7, h8, h9, h10⟩ := hQ
      refine Go.walk 400 [64] E3 E3_ok (fun G C hG hC => ?_)
      (repeat ((conv => whnf); first | refine ⟨_, by assumption, ?_⟩ | refine ⟨_, _, by assumption, ?_⟩ | refine ⟨(show _ ∧ _ by omega), ?_⟩ | refine ⟨(show _ ∨ _ by omega), ?_⟩ | refine ⟨fun h => absurd h (by decide), fun _ => ?_⟩ | refine ⟨fun _ => ?_, fun h => absurd h (by decide)⟩ | refine ⟨fun _ => ?_, fun h => absurd rfl h⟩ | refine ⟨fun h => absurd rfl h, fun _ => ?_⟩)); try (conv => whnf)
      refine hK _ _ _ ⟨h9, h8⟩ h1 (by omega) ⟨h2, h4, h3, h5' 0 (by omega) (by omega), h5' 1 (by omega) (by omega), h5' 2 (by omega) (by omega), h5' 3 (by omega) (by omega), fun j p0 p1 => ?_⟩ (fun f hf => ?_) h5
      · have := h6 (j.toNat + 4) (by omega) (by omega)
        rw [show ((j.toNat + 4 : Nat) : Int) - 4 = j by omega] at this
        rw [this]
        congr 1
        omega
      · have := h7 ((f - 36) / 4) (by omega)
        rw [show 36 + 4 * ((f - 36) / 4) = f by omega] at this
        exact this
    | succ m ih =>
      intro i I1 R1 S1 g0 gm hQ h5
      obtain ⟨h1, h2, h3, h4, -⟩ := id hQ
      have z1 : (S1 ++ [(3, 4)])[S1.length]? = some (3, 4) := at_new
      have z2 : (S1 ++ [(3, 4)])[35]? = some (11, 12) := at_app h3
      have r0 : zR R1 S1.length 34 ((0 : Nat) : Int) = some 35 := by rw [zR_ne (by omega)]; exact h4
      refine Go.walk 400 [64] E3 E3_ok (fun G C hG hC => ?_)
      (repeat ((conv => whnf); first | refine ⟨_, by assumption, ?_⟩ | refine ⟨_, _, by assumption, ?_⟩ | refine ⟨(show _ ∧ _ by omega), ?_⟩ | refine ⟨(show _ ∨ _ by omega), ?_⟩ | refine ⟨fun h => absurd h (by decide), fun _ => ?_⟩ | refine ⟨fun _ => ?_, fun h => absurd h (by decide)⟩ | refine ⟨fun _ => ?_, fun h => absurd rfl h⟩ | refine ⟨fun h => absurd rfl h, fun _ => ?_⟩)); try (conv => whnf)
      refine ⟨fun q => absurd q (by omega), fun _ => ?_⟩
      (repeat ((conv => whnf); first | refine ⟨_, by assumption, ?_⟩ | refine ⟨_, _, by assumption, ?_⟩ | refine ⟨(show _ ∧ _ by omega), ?_⟩ | refine ⟨(show _ ∨ _ by omega), ?_⟩ | refine ⟨fun h => absurd h (by decide), fun _ => ?_⟩ | refine ⟨fun _ => ?_, fun h => absurd h (by decide)⟩ | refine ⟨fun _ => ?_, fun h => absurd rfl h⟩ | refine ⟨fun h => absurd rfl h, fun _ => ?_⟩)); try (conv => whnf)
      rw [h1]
      refine hC _ _ _ _ _ _ ?_
      refine ok_newFront (by rw [List.length_append, List.length_singleton, h1]) (by rw [← h1]; exact at_new) (fun I2 R2 S2 hN hl2 hs2 hF2 => ?_)
      rw [← h1] at hN
      have st := cq_step (o := 35) (f := (i : Int) - 4) hQ (by rw [h1] at hN ⊢; exact hN) hl2 hs2 hF2 (Or.inr ⟨g0, rfl, rfl⟩)
      have st3 : S2[35]? = some (11, 12) := st.2.2.1
      have st7 := (st.2.2.2.2.2.2.1 i (by omega)).1
      (repeat ((conv => whnf); first | refine ⟨_, by assumption, ?_⟩ | refine ⟨_, _, by assumption, ?_⟩ | refine ⟨(show _ ∧ _ by omega), ?_⟩ | refine ⟨(show _ ∨ _ by omega), ?_⟩ | refine ⟨fun h => absurd h (by decide), fun _ => ?_⟩ | refine ⟨fun _ => ?_, fun h => absurd h (by decide)⟩ | refine ⟨fun _ => ?_, fun h => absurd rfl h⟩ | refine ⟨fun h => absurd rfl h, fun _ => ?_⟩)); try (conv => whnf)
      refine hG _ _ _ _ _ _ ?_
      have e : ((i : Int) - 4 + 1) = ((i + 1 : Nat) : Int) - 4 := by omega
      rw [e]
      refine ih (i + 1) I2 _ S2 (by omega) (by omega) st ?_
      rw [(hN.2 34 (by omega)).1, zI_ne (by omega)]
      exact h5
  have g4 : ∀ I1 R1 S1, CQ I R S 4 I1 R1 S1 → Go P 3 (d + 2) K 57 [vr 34, vu] [] I1 R1 S1 := by
    intro I1 R1 S1 hQ
    obtain ⟨h1, h2, h3, h4, h5, h6, h7, h8, h9, h10⟩ := id hQ
    refine Go.walk 400 [64] E3 E3_ok (fun G C hG hC => ?_)
    (repeat ((conv => whnf); first | refine ⟨_, by assumption, ?_⟩ | refine ⟨_, _, by assumption, ?_⟩ | refine ⟨(show _ ∧ _ by omega), ?_⟩ | refine ⟨(show _ ∨ _ by omega), ?_⟩ | refine ⟨fun h => absurd h (by decide), fun _ => ?_⟩ | refine ⟨fun _ => ?_, fun h => absurd h (by decide)⟩ | refine ⟨fun _ => ?_, fun h => absurd rfl h⟩ | refine ⟨fun h => absurd rfl h, fun _ => ?_⟩)); try (conv => whnf)
    refine hG _ _ _ _ _ _ ?_
    exact loop 12 4 _ R1 S1 (by omega) (by omega) ⟨h1, h2, h3, h4, h5, h6, h7, fun x hx => ⟨by rw [uI_o (by omega)]; exact (h8 x hx).1, (h8 x hx).2⟩, h9, h10⟩ uI_at
  have g3 : ∀ I1 R1 S1, CQ I R S 3 I1 R1 S1 → Go P 3 (d + 2) K 46 [vr 34, vu] [] I1 R1 S1 := by
    intro I1 R1 S1 hQ
    obtain ⟨h1, h2, h3, h4, -⟩ := id hQ
    have h1 : S1.length = 48 := h1
    have z1 : (S1 ++ [(3, 4)])[S1.length]? = some (3, 4) := at_new
    have z2 : (S1 ++ [(3, 4)])[34]? = some (1, 6) := at_app h2
    refine Go.walk 400 [57] E3 E3_ok (fun G C hG hC => ?_)
    (repeat ((conv => whnf); first | refine ⟨_, by assumption, ?_⟩ | refine ⟨_, _, by assumption, ?_⟩ | refine ⟨(show _ ∧ _ by omega), ?_⟩ | refine ⟨(show _ ∨ _ by omega), ?_⟩ | refine ⟨fun h => absurd h (by decide), fun _ => ?_⟩ | refine ⟨fun _ => ?_, fun h => absurd h (by decide)⟩ | refine ⟨fun _ => ?_, fun h => absurd rfl h⟩ | refine ⟨fun h => absurd rfl h, fun _ => ?_⟩)); try (conv => whnf)
    rw [h1]
    refine hC _ _ _ _ _ _ ?_
    refine ok_newFront (by rw [List.length_append, List.length_singleton, h1]) (by rw [← h1]; exact at_new) (fun I2 R2 S2 hN hl2 hs2 hF2 => ?_)
    have st := cq_step (o := 34) (f := 1 + ((3 : Nat) : Int)) hQ (by rw [h1]; exact hN) hl2 hs2 hF2 (Or.inl ⟨by omega, rfl, rfl⟩)
    have st2 : S2[34]? = some (1, 6) := st.2.1
    (repeat ((conv => whnf); first | refine ⟨_, by assumption, ?_⟩ | refine ⟨_, _, by assumption, ?_⟩ | refine ⟨(show _ ∧ _ by omega), ?_⟩ | refine ⟨(show _ ∨ _ by omega), ?_⟩ | refine ⟨fun h => absurd h (by decide), fun _ => ?_⟩ | refine ⟨fun _ => ?_, fun h => absurd h (by decide)⟩ | refine ⟨fun _ => ?_, fun h => absurd rfl h⟩ | refine ⟨fun h => absurd rfl h, fun _ => ?_⟩)); try (conv => whnf)
    refine hG _ _ _ _ _ _ ?_
    exact g4 _ _ _ st
  have g2 : ∀ I1 R1 S1, CQ I R S 2 I1 R1 S1 → Go P 3 (d + 2) K 35 [vr 34, vu] [] I1 R1 S1 := by
    intro I1 R1 S1 hQ
    obtain ⟨h1, h2, h3, h4, -⟩ := id hQ
    have h1 : S1.length = 44 := h1
    have z1 : (S1 ++ [(3, 4)])[S1.length]? = some (3, 4) := at_new
    have z2 : (S1 ++ [(3, 4)])[34]? = some (1, 6) := at_app h2
    refine Go.walk 400 [46] E3 E3_ok (fun G C hG hC => ?_)
    (repeat ((conv => whnf); first | refine ⟨_, by assumption, ?_⟩ | refine ⟨_, _, by assumption, ?_⟩ | refine ⟨(show _ ∧ _ by omega), ?_⟩ | refine ⟨(show _ ∨ _ by omega), ?_⟩ | refine ⟨fun h => absurd h (by decide), fun _ => ?_⟩ | refine ⟨fun _ => ?_, fun h => absurd h (by decide)⟩ | refine ⟨fun _ => ?_, fun h => absurd rfl h⟩ | refine ⟨fun h => absurd rfl h, fun _ => ?_⟩)); try (conv => whnf)
    rw [h1]
    refine hC _ _ _ _ _ _ ?_
    refine ok_newFront (by rw [List.length_append, List.length_singleton, h1]) (by rw [← h1]; exact at_new) (fun I2 R2 S2 hN hl2 hs2 hF2 => ?_)
    have st := cq_step (o := 34) (f := 1 + ((2 : Nat) : Int)) hQ (by rw [h1]; exact hN) hl2 hs2 hF2 (Or.inl ⟨by omega, rfl, rfl⟩)
    have st2 : S2[34]? = some (1, 6) := st.2.1
    (repeat ((conv => whnf); first | refine ⟨_, by assumption, ?_⟩ | refine ⟨_, _, by assumption, ?_⟩ | refine ⟨(show _ ∧ _ by omega), ?_⟩ | refine ⟨(show _ ∨ _ by omega), ?_⟩ | refine ⟨fun h => absurd h (by decide), fun _ => ?_⟩ | refine ⟨fun _ => ?_, fun h => absurd h (by decide)⟩ | refine ⟨fun _ => ?_, fun h => absurd rfl h⟩ | refine ⟨fun h => absurd rfl h, fun _ => ?_⟩)); try (conv => whnf)
    refine hG _ _ _ _ _ _ ?_
    exact g3 _ _ _ st
  have g1 : ∀ I1 R1 S1, CQ I R S 1 I1 R1 S1 → Go P 3 (d + 2) K 24 [vr 34, vu] [] I1 R1 S1 := by
    intro I1 R1 S1 hQ
    obtain ⟨h1, h2, h3, h4, -⟩ := id hQ
    have h1 : S1.length = 40 := h1
    have z1 : (S1 ++ [(3, 4)])[S1.length]? = some (3, 4) := at_new
    have z2 : (S1 ++ [(3, 4)])[34]? = some (1, 6) := at_app h2
    refine Go.walk 400 [35] E3 E3_ok (fun G C hG hC => ?_)
    (repeat ((conv => whnf); first | refine ⟨_, by assumption, ?_⟩ | refine ⟨_, _, by assumption, ?_⟩ | refine ⟨(show _ ∧ _ by omega), ?_⟩ | refine ⟨(show _ ∨ _ by omega), ?_⟩ | refine ⟨fun h => absurd h (by decide), fun _ => ?_⟩ | refine ⟨fun _ => ?_, fun h => absurd h (by decide)⟩ | refine ⟨fun _ => ?_, fun h => absurd rfl h⟩ | refine ⟨fun h => absurd rfl h, fun _ => ?_⟩)); try (conv => whnf)
    rw [h1]
    refine hC _ _ _ _ _ _ ?_
    refine ok_newFront (by rw [List.length_append, List.length_singleton, h1]) (by rw [← h1]; exact at_new) (fun I2 R2 S2 hN hl2 hs2 hF2 => ?_)
    have st := cq_step (o := 34) (f := 1 + ((1 : Nat) : Int)) hQ (by rw [h1]; exact hN) hl2 hs2 hF2 (Or.inl ⟨by omega, rfl, rfl⟩)
    have st2 : S2[34]? = some (1, 6) := st.2.1
    (repeat ((conv => whnf); first | refine ⟨_, by assumption, ?_⟩ | refine ⟨_, _, by assumption, ?_⟩ | refine ⟨(show _ ∧ _ by omega), ?_⟩ | refine ⟨(show _ ∨ _ by omega), ?_⟩ | refine ⟨fun h => absurd h (by decide), fun _ => ?_⟩ | refine ⟨fun _ => ?_, fun h => absurd h (by decide)⟩ | refine ⟨fun _ => ?_, fun h => absurd rfl h⟩ | refine ⟨fun h => absurd rfl h, fun _ => ?_⟩)); try (conv => whnf)
    refine hG _ _ _ _ _ _ ?_
    exact g2 _ _ _ st
  have g0 : ∀ I1 R1 S1, CQ I R S 0 I1 R1 S1 → Go P 3 (d + 2) K 13 [vr 34, vu] [] I1 R1 S1 := by
    intro I1 R1 S1 hQ
    obtain ⟨h1, h2, h3, h4, -⟩ := id hQ
    have h1 : S1.length = 36 := h1
    have z1 : (S1 ++ [(3, 4)])[S1.length]? = some (3, 4) := at_new
    have z2 : (S1 ++ [(3, 4)])[34]? = some (1, 6) := at_app h2
    refine Go.walk 400 [24] E3 E3_ok (fun G C hG hC => ?_)
    (repeat ((conv => whnf); first | refine ⟨_, by assumption, ?_⟩ | refine ⟨_, _, by assumption, ?_⟩ | refine ⟨(show _ ∧ _ by omega), ?_⟩ | refine ⟨(show _ ∨ _ by omega), ?_⟩ | refine ⟨fun h => absurd h (by decide), fun _ => ?_⟩ | refine ⟨fun _ => ?_, fun h => absurd h (by decide)⟩ | refine ⟨fun _ => ?_, fun h => absurd rfl h⟩ | refine ⟨fun h => absurd rfl h, fun _ => ?_⟩)); try (conv => whnf)
    rw [h1]
    refine hC _ _ _ _ _ _ ?_
    refine ok_newFront (by rw [List.length_append, List.length_singleton, h1]) (by rw [← h1]; exact at_new) (fun I2 R2 S2 hN hl2 hs2 hF2 => ?_)
    have st := cq_step (o := 34) (f := 1 + ((0 : Nat) : Int)) hQ (by rw [h1]; exact hN) hl2 hs2 hF2 (Or.inl ⟨by omega, rfl, rfl⟩)
    have st2 : S2[34]? = some (1, 6) := st.2.1
    (repeat ((conv => whnf); first | refine ⟨_, by assumption, ?_⟩ | refine ⟨_, _, by assumption, ?_⟩ | refine ⟨(show _ ∧ _ by omega), ?_⟩ | refine ⟨(show _ ∨ _ by omega), ?_⟩ | refine ⟨fun h => absurd h (by decide), fun _ => ?_⟩ | refine ⟨fun _ => ?_, fun h => absurd h (by decide)⟩ | refine ⟨fun _ => ?_, fun h => absurd rfl h⟩ | refine ⟨fun h => absurd rfl h, fun _ => ?_⟩)); try (conv => whnf)
    refine hG _ _ _ _ _ _ ?_
    exact g1 _ _ _ st
  have z1 : (S ++ [(11, 12)])[34]? = some (1, 6) := at_app ha
  have z2 : (S ++ [(11, 12)])[35]? = some (11, 12) := by rw [← hl]; exact at_new
  refine Ok.of (by decide) rfl (Nat.le_of_ble_eq_true rfl) ?_
  refine Go.walk 400 [13] E3 E3_ok (fun G C hG hC => ?_)
  (repeat ((conv => whnf); first | refine ⟨_, by assumption, ?_⟩ | refine ⟨_, _, by assumption, ?_⟩ | refine ⟨(show _ ∧ _ by omega), ?_⟩ | refine ⟨(show _ ∨ _ by omega), ?_⟩ | refine ⟨fun h => absurd h (by decide), fun _ => ?_⟩ | refine ⟨fun _ => ?_, fun h => absurd h (by decide)⟩ | refine ⟨fun _ => ?_, fun h => absurd rfl h⟩ | refine ⟨fun h => absurd rfl h, fun _ => ?_⟩)); try (conv => whnf)
  rw [hl]
  refine hG _ _ _ _ _ _ ?_
  refine g0 _ _ _ ⟨?_, z1, z2, uR_at, fun j h => by omega, fun j h => by omega, fun j h => by omega, fun x hx => ⟨zI_ne (by omega), by rw [uR_o (by omega), zR_ne (by omega)]⟩, ⟨_, rfl⟩, ?_⟩
  · rw [List.length_append, List.length_singleton, hl]
  · rw [szs_1]
    rfl
/-! the past -/
def PQ (I0 : aI) (R0 : aR) (S0 : aS) (i : Nat) (I : aI) (R : aR) (S : aS) : Prop := S.length = 102 + 14 * i ∧ S[100]? = some (5, 3) ∧ S[101]? = some (12, 16) ∧ R 100 0 = some 101 ∧ (I 100 1 = 0 ∧ I 100 2 = 0) ∧ (∀ j : Nat, j < i → NetS R S (102 + 14 * j) ∧ R 101 (j : Int) = some (102 + 14 * j)) ∧ (∀ x, x < 100 → I x = I0 x ∧ R x = R0 x) ∧ (∃ T, S = S0 ++ T) ∧ szs S = szs S0 + 16 + 84 * i
theorem pq_step {I0 : aI} {R0 : aR} {S0 : aS} {i : Nat} {I I' : aI} {R R' : aR} {S S' : aS} (h : PQ I0 R0 S0 i I R S) (hN : NF0 (102 + 14 * i) (zI I S.length) (zR R S.length) (S ++ [(4, 16)]) I' R' S') (hl : S'.length = 102 + 14 * i + 14) (hs : szs S' = szs (S ++ [(4, 16)]) + 68) (hF : NetS R' S' (102 + 14 * i)) : PQ I0 R0 S0 (i + 1) I' (uR R' 101 (i : Int) (some (102 + 14 * i))) S' := by
  obtain ⟨h1, h2, h3, h4, h5, h6, h7, ⟨T, h8⟩, h9⟩ := h
  obtain ⟨⟨T', e'⟩, hx⟩ := hN
  have hR : ∀ x, x < 102 + 14 * i → R' x = R x := fun x q => by rw [(hx x q).2, zR_ne (by omega)]
  have hI : ∀ x, x < 102 + 14 * i → I' x = I x := fun x q => by rw [(hx x q).1, zI_ne (by omega)]
  have eS : S' = S ++ ([(4, 16)] ++ T') := by rw [e', List.append_assoc]
  have up : ∀ {x : Nat} {p : Nat × Nat}, S[x]? = some p → S'[x]? = some p := fun q => by rw [eS]; exact at_app q
  refine ⟨by omega, up h2, up h3, by rw [uR_o (by omega), hR 100 (by omega)]; exact h4, by rw [hI 100 (by omega)]; exact h5, fun j g0 => ?_, fun x q => ⟨by rw [hI x (by omega)]; exact (h7 x q).1, by rw [uR_o (by omega), hR x (by omega)]; exact (h7 x q).2⟩, ⟨T ++ ([(4, 16)] ++ T'), by rw [eS, h8, List.append_assoc]⟩, ?_⟩
  · by_cases q : j = i
    · subst q
      refine ⟨?_, uR_at⟩
      have := hF.cg (T := []) (R' := uR R' 101 (j : Int) (some (102 + 14 * j))) (uR_o (by omega))
      rw [List.append_nil] at this
      exact this
    · obtain ⟨k1, k2⟩ := h6 j (by omega)
      refine ⟨?_, by rw [uR_ne (by omega), hR 101 (by omega)]; exact k2⟩
      rw [eS]
      exact k1.cg (by rw [uR_o (by omega), hR _ (by omega)])
  · rw [hs, szs_1]
    show szs S + 16 + 68 = _
    omega
/-- new Past() -/
theorem ok_newPast {P : aP} {d : Nat} {K : aK} {I : aI} {R : aR} {S : aS} (hl : S.length = 101) (ha : S[100]? = some (5, 3)) (hK : ∀ I' R' S', NF0 100 I R S I' R' S' → S'.length = 326 → szs S' = szs S + 1360 → (S'[100]? = some (5, 3) ∧ R' 100 0 = some 101 ∧ S'[101]? = some (12, 16)) → (∀ j : Int, 0 ≤ j → j < 16 → NetS R' S' (rgc j) ∧ R' 101 j = some (rgc j)) → I' 100 1 = 0 ∧ I' 100 2 = 0 → K none I' R' S') : Ok P 35 (d + 2) [vr 100] I R S K := by
  have loop : ∀ (m i : Nat) (I1 : aI) (R1 : aR) (S1 : aS), i + m = 16 → PQ I R S i I1 R1 S1 → Go P 35 (d + 2) K 25 [vr 100, vi (i : Int)] [] I1 R1 S1 := by
    intro m
    induction m with
    | zero =>
      intro i I1 R1 S1 gm hQ
      have hi : i = 16 := by omega
      subst hi
      obtain ⟨h1, h2, h3, h4, h5, h6, h7, h8, h9⟩ := hQ
      refine Go.walk 400 [25] E35 E35_ok (fun G C hG hC => ?_)
      (repeat ((conv => whnf); first | refine ⟨_, by assumption, ?_⟩ | refine ⟨_, _, by assumption, ?_⟩ | refine ⟨(show _ ∧ _ by omega), ?_⟩ | refine ⟨(show _ ∨ _ by omega), ?_⟩ | refine ⟨fun h => absurd h (by decide), fun _ => ?_⟩ | refine ⟨fun _ => ?_, fun h => absurd h (by decide)⟩ | refine ⟨fun _ => ?_, fun h => absurd rfl h⟩ | refine ⟨fun h => absurd rfl h, fun _ => ?_⟩)); try (conv => whnf)
      refine hK _ _ _ ⟨h8, h7⟩ h1 (by omega) ⟨h2, h4, h3⟩ (fun j p0 p1 => ?_) h5
      have := h6 j.toNat (by omega)
      rw [show ((j.toNat : Nat) : Int) = j by omega] at this
      exact this
    | succ m ih =>
      intro i I1 R1 S1 gm hQ
      obtain ⟨h1, h2, h3, h4, -⟩ := id hQ
      have z1 : (S1 ++ [(4, 16)])[S1.length]? = some (4, 16) := at_new
      have z2 : (S1 ++ [(4, 16)])[101]? = some (12, 16) := at_app h3
      have r0 : zR R1 S1.length 100 ((0 : Nat) : Int) = some 101 := by rw [zR_ne (by omega)]; exact h4
      refine Go.walk 400 [25] E35 E35_ok (fun G C hG hC => ?_)
      (repeat ((conv => whnf); first | refine ⟨_, by assumption, ?_⟩ | refine ⟨_, _, by assumption, ?_⟩ | refine ⟨(show _ ∧ _ by omega), ?_⟩ | refine ⟨(show _ ∨ _ by omega), ?_⟩ | refine ⟨fun h => absurd h (by decide), fun _ => ?_⟩ | refine ⟨fun _ => ?_, fun h => absurd h (by decide)⟩ | refine ⟨fun _ => ?_, fun h => absurd rfl h⟩ | refine ⟨fun h => absurd rfl h, fun _ => ?_⟩)); try (conv => whnf)
      refine ⟨fun q => absurd q (by omega), fun _ => ?_⟩
      (repeat ((conv => whnf); first | refine ⟨_, by assumption, ?_⟩ | refine ⟨_, _, by assumption, ?_⟩ | refine ⟨(show _ ∧ _ by omega), ?_⟩ | refine ⟨(show _ ∨ _ by omega), ?_⟩ | refine ⟨fun h => absurd h (by decide), fun _ => ?_⟩ | refine ⟨fun _ => ?_, fun h => absurd h (by decide)⟩ | refine ⟨fun _ => ?_, fun h => absurd rfl h⟩ | refine ⟨fun h => absurd rfl h, fun _ => ?_⟩)); try (conv => whnf)
      rw [h1]
      refine hC _ _ _ _ _ _ ?_
      refine ok_newNet (by rw [List.length_append, List.length_singleton, h1]) (by rw [← h1]; exact at_new) (fun I2 R2 S2 hN hl2 hs2 hF2 _ => ?_)
      have st := pq_step hQ (by rw [h1]; exact hN) hl2 hs2 hF2
      have st3 : S2[101]? = some (12, 16) := st.2.2.1
      have st7 := (st.2.2.2.2.2.1 i (by omega)).1.1
      (repeat ((conv => whnf); first | refine ⟨_, by assumption, ?_⟩ | refine ⟨_, _, by assumption, ?_⟩ | refine ⟨(show _ ∧ _ by omega), ?_⟩ | refine ⟨(show _ ∨ _ by omega), ?_⟩ | refine ⟨fun h => absurd h (by decide), fun _ => ?_⟩ | refine ⟨fun _ => ?_, fun h => absurd h (by decide)⟩ | refine ⟨fun _ => ?_, fun h => absurd rfl h⟩ | refine ⟨fun h => absurd rfl h, fun _ => ?_⟩)); try (conv => whnf)
      refine hG _ _ _ _ _ _ ?_
      have e : ((i : Int) + 1) = ((i + 1 : Nat) : Int) := by omega
      rw [e]
      exact ih (i + 1) I2 _ S2 (by omega) st
  have z1 : (S ++ [(12, 16)])[100]? = some (5, 3) := at_app ha
  have z2 : (S ++ [(12, 16)])[101]? = some (12, 16) := by rw [← hl]; exact at_new
  refine Ok.of (by decide) rfl (Nat.le_of_ble_eq_true rfl) ?_
  refine Go.walk 400 [25] E35 E35_ok (fun G C hG hC => ?_)
  (repeat ((conv => whnf); first | refine ⟨_, by assumption, ?_⟩ | refine ⟨_, _, by assumption, ?_⟩ | refine ⟨(show _ ∧ _ by omega), ?_⟩ | refine ⟨(show _ ∨ _ by omega), ?_⟩ | refine ⟨fun h => absurd h (by decide), fun _ => ?_⟩ | refine ⟨fun _ => ?_, fun h => absurd h (by decide)⟩ | refine ⟨fun _ => ?_, fun h => absurd rfl h⟩ | refine ⟨fun h => absurd rfl h, fun _ => ?_⟩)); try (conv => whnf)
  rw [hl]
  refine hG _ _ _ _ _ _ ?_
  refine loop 16 0 _ _ _ (by omega) ⟨?_, z1, z2, uR_at, ⟨by rw [uI_ne (by omega)]; exact uI_at, uI_at⟩, fun j h => by omega, fun x hx => ⟨by rw [uI_o (by omega), uI_o (by omega), zI_ne (by omega)], by rw [uR_o (by omega), zR_ne (by omega)]⟩, ⟨_, rfl⟩, ?_⟩
  · rw [List.length_append, List.length_singleton, hl]
  · rw [szs_1]
    rfl
