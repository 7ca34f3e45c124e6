/-! the law, case by case; printed by wip/whole/genlaw.py -/
/-- what the law must come to -/
def kLaw : aK := fun r _ _ S => r = some (vi 1) ∧ S.length ≤ 600000 ∧ szs S ≤ 7302250
def lawOk : Prop := ∀ P : aP, pL P ≤ 3584 → (∀ j, iR (pX P j)) → Go P qLaw 11 kLaw 0 [vx, vu, vu, vu] [] (fun _ _ => 0) (fun _ _ => none) []
def NxT (P : aP) (i : Int) : Prop := ∀ (I : aI) (R : aR) (S : aS) (n : aN) (h : List aN) (B : List (Int × Int)) (sd : Int) (im : Int → Option (aN × Int)), JS n h B sd im I R S → Go P qLaw 11 kLaw 925 [vx, vr 0, vr 361, vi i] [] I R S
section Lw
variable {P : aP} {I : aI} {R : aR} {S : aS} {n : aN} {h : List aN} {B : List (Int × Int)} {sd : Int} {im : Int → Option (aN × Int)} {i : Int}
theorem pc_drift : ∀ (k : Nat) (x : aN × Int × List aN), PC x.1 x.2.2 B x.2.1 im → PC (driftI k x).1 (driftI k x).2.2 B (driftI k x).2.1 im
  | 0, x, hP => hP
  | k + 1, x, hP => by
    by_cases q : x.1 0 < 6
    · have e : driftI (k + 1) x = driftI k (driftN x.1 x.2.1, driftS x.2.1, pushH x.2.2 x.1) := by
        show (if x.1 0 < 6 then _ else _) = _
        rw [if_pos q]
      rw [e]
      obtain ⟨p1, p2, p3, p4, p5⟩ := hP
      refine pc_drift k _ ⟨wf_drift p1 q, fun m hm => ?_, p3, sdN_bd, p5⟩
      rcases push_mem hm with z | z
      · rw [z]; exact p1
      · exact p2 m z
    · have e : driftI (k + 1) x = x := by
        show (if x.1 0 < 6 then _ else _) = _
        rw [if_neg q]
      rw [e]
      exact hP
theorem law_0 (hL : pL P ≤ 3584) (hX : ∀ j, iR (pX P j)) (hi : 0 ≤ i ∧ i + 7 ≤ pL P) (hJ : JS n h B sd im I R S) (next : NxT P i) : Go P qLaw 11 kLaw 148 [vx, vr 0, vr 361, vi i] [] I R S := by
  obtain ⟨hC0, hM0, hPC⟩ := hJ
  have hW := hPC.1
  have hN := hW.1
  have s0 := hC0.1.1.1
  have s361 := hM0.1.1
  have e362 := hM0.2.1
  refine Go.walk 400 [925] (E140_0) (E140_0_ok) (fun G C hG hC => ?_)
  (repeat ((conv => whnf); first | refine ⟨_, by assumption, ?_⟩ | refine ⟨_, _, by assumption, ?_⟩ | refine ⟨(show _ ∧ _ by omega), ?_⟩ | refine ⟨(show _ ∨ _ by omega), ?_⟩ | refine ⟨fun h => absurd h (by decide), fun _ => ?_⟩ | refine ⟨fun _ => ?_, fun h => absurd h (by decide)⟩ | refine ⟨fun _ => ?_, fun h => absurd rfl h⟩ | refine ⟨fun h => absurd rfl h, fun _ => ?_⟩)); try (conv => whnf)
  refine hC _ _ _ _ _ _ ?_
  refine ok_ctold hC0 hW hPC.2.2.1 (hX (i + 1).toNat) (fun e8 I1 R1 S1 L hX1 hC1 hL1 hlen => ?_) (fun n8 I1 hX1 hC1 => ?_)
  · have hM1 := hM0.x hX1
    have s361' := hM1.1.1
    have e1 := hM1.2.1
    (repeat ((conv => whnf); first | refine ⟨_, by assumption, ?_⟩ | refine ⟨_, _, by assumption, ?_⟩ | refine ⟨(show _ ∧ _ by omega), ?_⟩ | refine ⟨(show _ ∨ _ by omega), ?_⟩ | refine ⟨fun h => absurd h (by decide), fun _ => ?_⟩ | refine ⟨fun _ => ?_, fun h => absurd h (by decide)⟩ | refine ⟨fun _ => ?_, fun h => absurd rfl h⟩ | refine ⟨fun h => absurd rfl h, fun _ => ?_⟩)); try (conv => whnf)
    refine hC _ _ _ _ _ _ ?_
    refine ok_mtold hM1.1 (by rw [e1]; exact hW) hM1.2.2.2.1 (fun p hp => by have := hPC.2.2.1 p hp; exact ⟨by omega, this.2⟩) (hX (i + 1).toNat) (fun _ I2 L2 hF2 hL2 => ?_) (fun z => absurd e8 z)
    rw [e1] at hL2
    have eL := fro_one hL2 hL1
    rw [eL]
    (repeat ((conv => whnf); first | refine ⟨_, by assumption, ?_⟩ | refine ⟨_, _, by assumption, ?_⟩ | refine ⟨(show _ ∧ _ by omega), ?_⟩ | refine ⟨(show _ ∨ _ by omega), ?_⟩ | refine ⟨fun h => absurd h (by decide), fun _ => ?_⟩ | refine ⟨fun _ => ?_, fun h => absurd h (by decide)⟩ | refine ⟨fun _ => ?_, fun h => absurd rfl h⟩ | refine ⟨fun h => absurd rfl h, fun _ => ?_⟩)); try (conv => whnf)
    refine hG _ _ _ _ _ _ ?_
    exact next I2 R1 S1 n h B sd im ⟨hC1.m hN.2.1 (QF.out hF2), hM1.q hF2, hPC⟩
  · have hM1 := hM0.x hX1
    have s361' := hM1.1.1
    have e1 := hM1.2.1
    have e3 : I1 361 3 = h.length := hM1.2.2.1.1
    have e5 : I1 361 1 = sd := hM1.2.2.2.2.1
    have hl16 := hM1.2.2.1.2.1
    have hsd := hPC.2.2.2.1
    have hr := iR_told hW (B := B) (kn := h.length) (sd := sd) (w := (pX P (i + 1).toNat)) hM1.2.2.2.1.2.1 (by omega) (by omega)
    (repeat ((conv => whnf); first | refine ⟨_, by assumption, ?_⟩ | refine ⟨_, _, by assumption, ?_⟩ | refine ⟨(show _ ∧ _ by omega), ?_⟩ | refine ⟨(show _ ∨ _ by omega), ?_⟩ | refine ⟨fun h => absurd h (by decide), fun _ => ?_⟩ | refine ⟨fun _ => ?_, fun h => absurd h (by decide)⟩ | refine ⟨fun _ => ?_, fun h => absurd rfl h⟩ | refine ⟨fun h => absurd rfl h, fun _ => ?_⟩)); try (conv => whnf)
    refine hC _ _ _ _ _ _ ?_
    refine ok_mtold hM1.1 (by rw [e1]; exact hW) hM1.2.2.2.1 (fun p hp => by have := hPC.2.2.1 p hp; exact ⟨by omega, this.2⟩) (hX (i + 1).toNat) (fun z => absurd z n8) (fun _ I2 hF2 => ?_)
    rw [e1, e3, e5]
    (repeat ((conv => whnf); first | refine ⟨_, by assumption, ?_⟩ | refine ⟨_, _, by assumption, ?_⟩ | refine ⟨(show _ ∧ _ by omega), ?_⟩ | refine ⟨(show _ ∨ _ by omega), ?_⟩ | refine ⟨fun h => absurd h (by decide), fun _ => ?_⟩ | refine ⟨fun _ => ?_, fun h => absurd h (by decide)⟩ | refine ⟨fun _ => ?_, fun h => absurd rfl h⟩ | refine ⟨fun h => absurd rfl h, fun _ => ?_⟩)); try (conv => whnf)
    refine hG _ _ _ _ _ _ ?_
    exact next I2 R S n h B sd im ⟨hC1.m hN.2.1 (QF.out hF2), hM1.q hF2, hPC⟩
theorem law_1 (hL : pL P ≤ 3584) (hX : ∀ j, iR (pX P j)) (hi : 0 ≤ i ∧ i + 7 ≤ pL P) (hJ : JS n h B sd im I R S) (next : NxT P i) : Go P qLaw 11 kLaw 171 [vx, vr 0, vr 361, vi i] [] I R S := by
  obtain ⟨hC0, hM0, hPC⟩ := hJ
  have hW := hPC.1
  have hN := hW.1
  have s0 := hC0.1.1.1
  have s361 := hM0.1.1
  have e362 := hM0.2.1
  refine Go.walk 400 [925] (E140_0 ++ (E140_1)) (List.forall_mem_append.mpr ⟨E140_0_ok, E140_1_ok⟩) (fun G C hG hC => ?_)
  (repeat ((conv => whnf); first | refine ⟨_, by assumption, ?_⟩ | refine ⟨_, _, by assumption, ?_⟩ | refine ⟨(show _ ∧ _ by omega), ?_⟩ | refine ⟨(show _ ∨ _ by omega), ?_⟩ | refine ⟨fun h => absurd h (by decide), fun _ => ?_⟩ | refine ⟨fun _ => ?_, fun h => absurd h (by decide)⟩ | refine ⟨fun _ => ?_, fun h => absurd rfl h⟩ | refine ⟨fun h => absurd rfl h, fun _ => ?_⟩)); try (conv => whnf)
  refine hC _ _ _ _ _ _ ?_
  refine ok_cat hC0 hW (hX (i + 1).toNat) (hX (i + 2).toNat) (fun I1 hX1 hC1 => ?_)
  have hM1 := hM0.x hX1
  have s361' := hM1.1.1
  have e1 := hM1.2.1
  have hr := iR_at hW (v := (pX P (i + 1).toNat)) (w := (pX P (i + 2).toNat))
  (repeat ((conv => whnf); first | refine ⟨_, by assumption, ?_⟩ | refine ⟨_, _, by assumption, ?_⟩ | refine ⟨(show _ ∧ _ by omega), ?_⟩ | refine ⟨(show _ ∨ _ by omega), ?_⟩ | refine ⟨fun h => absurd h (by decide), fun _ => ?_⟩ | refine ⟨fun _ => ?_, fun h => absurd h (by decide)⟩ | refine ⟨fun _ => ?_, fun h => absurd rfl h⟩ | refine ⟨fun h => absurd rfl h, fun _ => ?_⟩)); try (conv => whnf)
  refine hC _ _ _ _ _ _ ?_
  refine ok_mat hM1.1 (by rw [e1]; exact hW) (hX (i + 1).toNat) (hX (i + 2).toNat) (fun I2 hF2 => ?_)
  rw [e1]
  (repeat ((conv => whnf); first | refine ⟨_, by assumption, ?_⟩ | refine ⟨_, _, by assumption, ?_⟩ | refine ⟨(show _ ∧ _ by omega), ?_⟩ | refine ⟨(show _ ∨ _ by omega), ?_⟩ | refine ⟨fun h => absurd h (by decide), fun _ => ?_⟩ | refine ⟨fun _ => ?_, fun h => absurd h (by decide)⟩ | refine ⟨fun _ => ?_, fun h => absurd rfl h⟩ | refine ⟨fun h => absurd rfl h, fun _ => ?_⟩)); try (conv => whnf)
  refine hG _ _ _ _ _ _ ?_
  exact next I2 R S n h B sd im ⟨hC1.m hN.2.1 (QF.out hF2), hM1.q hF2, hPC⟩
theorem law_2 (hL : pL P ≤ 3584) (hX : ∀ j, iR (pX P j)) (hi : 0 ≤ i ∧ i + 7 ≤ pL P) (hJ : JS n h B sd im I R S) (next : NxT P i) : Go P qLaw 11 kLaw 204 [vx, vr 0, vr 361, vi i] [] I R S := by
  obtain ⟨hC0, hM0, hPC⟩ := hJ
  have hW := hPC.1
  have hN := hW.1
  have s0 := hC0.1.1.1
  have s361 := hM0.1.1
  have e362 := hM0.2.1
  refine Go.walk 400 [925] (E140_1 ++ (E140_2)) (List.forall_mem_append.mpr ⟨E140_1_ok, E140_2_ok⟩) (fun G C hG hC => ?_)
  (repeat ((conv => whnf); first | refine ⟨_, by assumption, ?_⟩ | refine ⟨_, _, by assumption, ?_⟩ | refine ⟨(show _ ∧ _ by omega), ?_⟩ | refine ⟨(show _ ∨ _ by omega), ?_⟩ | refine ⟨fun h => absurd h (by decide), fun _ => ?_⟩ | refine ⟨fun _ => ?_, fun h => absurd h (by decide)⟩ | refine ⟨fun _ => ?_, fun h => absurd rfl h⟩ | refine ⟨fun h => absurd rfl h, fun _ => ?_⟩)); try (conv => whnf)
  refine hC _ _ _ _ _ _ ?_
  refine ok_ckindAt hC0 (hX (i + 1).toNat) (hX (i + 2).toNat) ?_
  have hr := iR_kindAt hW (k := (pX P (i + 1).toNat)) (w := (pX P (i + 2).toNat))
  (repeat ((conv => whnf); first | refine ⟨_, by assumption, ?_⟩ | refine ⟨_, _, by assumption, ?_⟩ | refine ⟨(show _ ∧ _ by omega), ?_⟩ | refine ⟨(show _ ∨ _ by omega), ?_⟩ | refine ⟨fun h => absurd h (by decide), fun _ => ?_⟩ | refine ⟨fun _ => ?_, fun h => absurd h (by decide)⟩ | refine ⟨fun _ => ?_, fun h => absurd rfl h⟩ | refine ⟨fun h => absurd rfl h, fun _ => ?_⟩)); try (conv => whnf)
  refine hC _ _ _ _ _ _ ?_
  refine ok_mkindAt hM0.1 (by rw [e362]; exact hW) (hX (i + 1).toNat) (hX (i + 2).toNat) ?_
  rw [e362]
  (repeat ((conv => whnf); first | refine ⟨_, by assumption, ?_⟩ | refine ⟨_, _, by assumption, ?_⟩ | refine ⟨(show _ ∧ _ by omega), ?_⟩ | refine ⟨(show _ ∨ _ by omega), ?_⟩ | refine ⟨fun h => absurd h (by decide), fun _ => ?_⟩ | refine ⟨fun _ => ?_, fun h => absurd h (by decide)⟩ | refine ⟨fun _ => ?_, fun h => absurd rfl h⟩ | refine ⟨fun h => absurd rfl h, fun _ => ?_⟩)); try (conv => whnf)
  refine hG _ _ _ _ _ _ ?_
  exact next I R S n h B sd im ⟨hC0, hM0, hPC⟩
theorem law_3 (hL : pL P ≤ 3584) (hX : ∀ j, iR (pX P j)) (hi : 0 ≤ i ∧ i + 7 ≤ pL P) (hJ : JS n h B sd im I R S) (next : NxT P i) : Go P qLaw 11 kLaw 237 [vx, vr 0, vr 361, vi i] [] I R S := by
  obtain ⟨hC0, hM0, hPC⟩ := hJ
  have hW := hPC.1
  have hN := hW.1
  have s0 := hC0.1.1.1
  have s361 := hM0.1.1
  have e362 := hM0.2.1
  refine Go.walk 400 [925] (E140_2) (E140_2_ok) (fun G C hG hC => ?_)
  (repeat ((conv => whnf); first | refine ⟨_, by assumption, ?_⟩ | refine ⟨_, _, by assumption, ?_⟩ | refine ⟨(show _ ∧ _ by omega), ?_⟩ | refine ⟨(show _ ∨ _ by omega), ?_⟩ | refine ⟨fun h => absurd h (by decide), fun _ => ?_⟩ | refine ⟨fun _ => ?_, fun h => absurd h (by decide)⟩ | refine ⟨fun _ => ?_, fun h => absurd rfl h⟩ | refine ⟨fun h => absurd rfl h, fun _ => ?_⟩)); try (conv => whnf)
  refine hC _ _ _ _ _ _ ?_
  refine ok_ccandidates hC0 hW (hX (i + 1).toNat) (hX (i + 2).toNat) (fun q => ?_) (fun q q1 => ?_) (fun q q1 I1 R1 S1 L hX1 hC1 hL1 hlen => ?_)
  · (repeat ((conv => whnf); first | refine ⟨_, by assumption, ?_⟩ | refine ⟨_, _, by assumption, ?_⟩ | refine ⟨(show _ ∧ _ by omega), ?_⟩ | refine ⟨(show _ ∨ _ by omega), ?_⟩ | refine ⟨fun h => absurd h (by decide), fun _ => ?_⟩ | refine ⟨fun _ => ?_, fun h => absurd h (by decide)⟩ | refine ⟨fun _ => ?_, fun h => absurd rfl h⟩ | refine ⟨fun h => absurd rfl h, fun _ => ?_⟩)); try (conv => whnf)
    refine hC _ _ _ _ _ _ ?_
    refine ok_mcandidates hM0.1 (by rw [e362]; exact hW) (hX (i + 1).toNat) (hX (i + 2).toNat) (fun r => ?_) (fun r r1 => absurd (by rw [e362] at r; exact r) q) (fun r r1 => absurd (by rw [e362] at r; exact r) q)
    (repeat ((conv => whnf); first | refine ⟨_, by assumption, ?_⟩ | refine ⟨_, _, by assumption, ?_⟩ | refine ⟨(show _ ∧ _ by omega), ?_⟩ | refine ⟨(show _ ∨ _ by omega), ?_⟩ | refine ⟨fun h => absurd h (by decide), fun _ => ?_⟩ | refine ⟨fun _ => ?_, fun h => absurd h (by decide)⟩ | refine ⟨fun _ => ?_, fun h => absurd rfl h⟩ | refine ⟨fun h => absurd rfl h, fun _ => ?_⟩)); try (conv => whnf)
    refine hG _ _ _ _ _ _ ?_
    exact next I R S n h B sd im ⟨hC0, hM0, hPC⟩
  · (repeat ((conv => whnf); first | refine ⟨_, by assumption, ?_⟩ | refine ⟨_, _, by assumption, ?_⟩ | refine ⟨(show _ ∧ _ by omega), ?_⟩ | refine ⟨(show _ ∨ _ by omega), ?_⟩ | refine ⟨fun h => absurd h (by decide), fun _ => ?_⟩ | refine ⟨fun _ => ?_, fun h => absurd h (by decide)⟩ | refine ⟨fun _ => ?_, fun h => absurd rfl h⟩ | refine ⟨fun h => absurd rfl h, fun _ => ?_⟩)); try (conv => whnf)
    refine hC _ _ _ _ _ _ ?_
    refine ok_mcandidates hM0.1 (by rw [e362]; exact hW) (hX (i + 1).toNat) (hX (i + 2).toNat) (fun r => absurd (by rw [e362]; exact q) r) (fun r r1 => ?_) (fun r r1 => absurd r1 q1)
    (repeat ((conv => whnf); first | refine ⟨_, by assumption, ?_⟩ | refine ⟨_, _, by assumption, ?_⟩ | refine ⟨(show _ ∧ _ by omega), ?_⟩ | refine ⟨(show _ ∨ _ by omega), ?_⟩ | refine ⟨fun h => absurd h (by decide), fun _ => ?_⟩ | refine ⟨fun _ => ?_, fun h => absurd h (by decide)⟩ | refine ⟨fun _ => ?_, fun h => absurd rfl h⟩ | refine ⟨fun h => absurd rfl h, fun _ => ?_⟩)); try (conv => whnf)
    refine hG _ _ _ _ _ _ ?_
    exact next I R S n h B sd im ⟨hC0, hM0, hPC⟩
  · have hM1 := hM0.x hX1
    have s361' := hM1.1.1
    have e1 := hM1.2.1
    skip
    (repeat ((conv => whnf); first | refine ⟨_, by assumption, ?_⟩ | refine ⟨_, _, by assumption, ?_⟩ | refine ⟨(show _ ∧ _ by omega), ?_⟩ | refine ⟨(show _ ∨ _ by omega), ?_⟩ | refine ⟨fun h => absurd h (by decide), fun _ => ?_⟩ | refine ⟨fun _ => ?_, fun h => absurd h (by decide)⟩ | refine ⟨fun _ => ?_, fun h => absurd rfl h⟩ | refine ⟨fun h => absurd rfl h, fun _ => ?_⟩)); try (conv => whnf)
    refine hC _ _ _ _ _ _ ?_
    refine ok_mcandidates hM1.1 (by rw [e1]; exact hW) (hX (i + 1).toNat) (hX (i + 2).toNat) (fun r => absurd (by rw [e1]; exact q) r) (fun r r1 => absurd q1 r1) (fun r r1 I2 L2 hF2 hL2 => ?_)
    rw [e1] at hL2
    have eL := fro_one hL2 hL1
    rw [eL]
    (repeat ((conv => whnf); first | refine ⟨_, by assumption, ?_⟩ | refine ⟨_, _, by assumption, ?_⟩ | refine ⟨(show _ ∧ _ by omega), ?_⟩ | refine ⟨(show _ ∨ _ by omega), ?_⟩ | refine ⟨fun h => absurd h (by decide), fun _ => ?_⟩ | refine ⟨fun _ => ?_, fun h => absurd h (by decide)⟩ | refine ⟨fun _ => ?_, fun h => absurd rfl h⟩ | refine ⟨fun h => absurd rfl h, fun _ => ?_⟩)); try (conv => whnf)
    refine hG _ _ _ _ _ _ ?_
    exact next I2 R1 S1 n h B sd im ⟨hC1.m hN.2.1 (QF.out hF2), hM1.q hF2, hPC⟩
theorem law_4 (hL : pL P ≤ 3584) (hX : ∀ j, iR (pX P j)) (hi : 0 ≤ i ∧ i + 7 ≤ pL P) (hJ : JS n h B sd im I R S) (next : NxT P i) : Go P qLaw 11 kLaw 270 [vx, vr 0, vr 361, vi i] [] I R S := by
  obtain ⟨hC0, hM0, hPC⟩ := hJ
  have hW := hPC.1
  have hN := hW.1
  have s0 := hC0.1.1.1
  have s361 := hM0.1.1
  have e362 := hM0.2.1
  refine Go.walk 400 [925] (E140_3 ++ (E140_4)) (List.forall_mem_append.mpr ⟨E140_3_ok, E140_4_ok⟩) (fun G C hG hC => ?_)
  (repeat ((conv => whnf); first | refine ⟨_, by assumption, ?_⟩ | refine ⟨_, _, by assumption, ?_⟩ | refine ⟨(show _ ∧ _ by omega), ?_⟩ | refine ⟨(show _ ∨ _ by omega), ?_⟩ | refine ⟨fun h => absurd h (by decide), fun _ => ?_⟩ | refine ⟨fun _ => ?_, fun h => absurd h (by decide)⟩ | refine ⟨fun _ => ?_, fun h => absurd rfl h⟩ | refine ⟨fun h => absurd rfl h, fun _ => ?_⟩)); try (conv => whnf)
  refine hC _ _ _ _ _ _ ?_
  refine ok_ccandidate hC0 hW (hX (i + 1).toNat) (hX (i + 2).toNat) (hX (i + 3).toNat) (hX (i + 4).toNat) (fun q => ?_) (fun q q1 => ?_) (fun q q1 I1 R1 S1 L hX1 hC1 hL1 => ?_)
  · (repeat ((conv => whnf); first | refine ⟨_, by assumption, ?_⟩ | refine ⟨_, _, by assumption, ?_⟩ | refine ⟨(show _ ∧ _ by omega), ?_⟩ | refine ⟨(show _ ∨ _ by omega), ?_⟩ | refine ⟨fun h => absurd h (by decide), fun _ => ?_⟩ | refine ⟨fun _ => ?_, fun h => absurd h (by decide)⟩ | refine ⟨fun _ => ?_, fun h => absurd rfl h⟩ | refine ⟨fun h => absurd rfl h, fun _ => ?_⟩)); try (conv => whnf)
    refine hC _ _ _ _ _ _ ?_
    refine ok_mcandidate hM0.1 (by rw [e362]; exact hW) (hX (i + 1).toNat) (hX (i + 2).toNat) (hX (i + 3).toNat) (hX (i + 4).toNat) (fun r => ?_) (fun r r1 => absurd (by rw [e362] at r; exact r) q) (fun r r1 => absurd (by rw [e362] at r; exact r) q)
    (repeat ((conv => whnf); first | refine ⟨_, by assumption, ?_⟩ | refine ⟨_, _, by assumption, ?_⟩ | refine ⟨(show _ ∧ _ by omega), ?_⟩ | refine ⟨(show _ ∨ _ by omega), ?_⟩ | refine ⟨fun h => absurd h (by decide), fun _ => ?_⟩ | refine ⟨fun _ => ?_, fun h => absurd h (by decide)⟩ | refine ⟨fun _ => ?_, fun h => absurd rfl h⟩ | refine ⟨fun h => absurd rfl h, fun _ => ?_⟩)); try (conv => whnf)
    refine hG _ _ _ _ _ _ ?_
    exact next I R S n h B sd im ⟨hC0, hM0, hPC⟩
  · (repeat ((conv => whnf); first | refine ⟨_, by assumption, ?_⟩ | refine ⟨_, _, by assumption, ?_⟩ | refine ⟨(show _ ∧ _ by omega), ?_⟩ | refine ⟨(show _ ∨ _ by omega), ?_⟩ | refine ⟨fun h => absurd h (by decide), fun _ => ?_⟩ | refine ⟨fun _ => ?_, fun h => absurd h (by decide)⟩ | refine ⟨fun _ => ?_, fun h => absurd rfl h⟩ | refine ⟨fun h => absurd rfl h, fun _ => ?_⟩)); try (conv => whnf)
    refine hC _ _ _ _ _ _ ?_
    refine ok_mcandidate hM0.1 (by rw [e362]; exact hW) (hX (i + 1).toNat) (hX (i + 2).toNat) (hX (i + 3).toNat) (hX (i + 4).toNat) (fun r => absurd (by rw [e362]; exact q) r) (fun r r1 => ?_) (fun r r1 => absurd r1 q1)
    (repeat ((conv => whnf); first | refine ⟨_, by assumption, ?_⟩ | refine ⟨_, _, by assumption, ?_⟩ | refine ⟨(show _ ∧ _ by omega), ?_⟩ | refine ⟨(show _ ∨ _ by omega), ?_⟩ | refine ⟨fun h => absurd h (by decide), fun _ => ?_⟩ | refine ⟨fun _ => ?_, fun h => absurd h (by decide)⟩ | refine ⟨fun _ => ?_, fun h => absurd rfl h⟩ | refine ⟨fun h => absurd rfl h, fun _ => ?_⟩)); try (conv => whnf)
    refine hG _ _ _ _ _ _ ?_
    exact next I R S n h B sd im ⟨hC0, hM0, hPC⟩
  · have hM1 := hM0.x hX1
    have s361' := hM1.1.1
    have e1 := hM1.2.1
    have hr := iR_cand (ways_tB hW q hL1) (i := (pX P (i + 3).toNat)) (w := (pX P (i + 4).toNat))
    (repeat ((conv => whnf); first | refine ⟨_, by assumption, ?_⟩ | refine ⟨_, _, by assumption, ?_⟩ | refine ⟨(show _ ∧ _ by omega), ?_⟩ | refine ⟨(show _ ∨ _ by omega), ?_⟩ | refine ⟨fun h => absurd h (by decide), fun _ => ?_⟩ | refine ⟨fun _ => ?_, fun h => absurd h (by decide)⟩ | refine ⟨fun _ => ?_, fun h => absurd rfl h⟩ | refine ⟨fun h => absurd rfl h, fun _ => ?_⟩)); try (conv => whnf)
    refine hC _ _ _ _ _ _ ?_
    refine ok_mcandidate hM1.1 (by rw [e1]; exact hW) (hX (i + 1).toNat) (hX (i + 2).toNat) (hX (i + 3).toNat) (hX (i + 4).toNat) (fun r => absurd (by rw [e1]; exact q) r) (fun r r1 => absurd q1 r1) (fun r r1 I2 L2 hF2 hL2 => ?_)
    rw [e1] at hL2
    have eL := fro_one hL2 hL1
    rw [eL]
    (repeat ((conv => whnf); first | refine ⟨_, by assumption, ?_⟩ | refine ⟨_, _, by assumption, ?_⟩ | refine ⟨(show _ ∧ _ by omega), ?_⟩ | refine ⟨(show _ ∨ _ by omega), ?_⟩ | refine ⟨fun h => absurd h (by decide), fun _ => ?_⟩ | refine ⟨fun _ => ?_, fun h => absurd h (by decide)⟩ | refine ⟨fun _ => ?_, fun h => absurd rfl h⟩ | refine ⟨fun h => absurd rfl h, fun _ => ?_⟩)); try (conv => whnf)
    refine hG _ _ _ _ _ _ ?_
    exact next I2 R1 S1 n h B sd im ⟨hC1.m hN.2.1 (QF.out hF2), hM1.q hF2, hPC⟩
theorem law_5 (hL : pL P ≤ 3584) (hX : ∀ j, iR (pX P j)) (hi : 0 ≤ i ∧ i + 7 ≤ pL P) (hJ : JS n h B sd im I R S) (next : NxT P i) : Go P qLaw 11 kLaw 323 [vx, vr 0, vr 361, vi i] [] I R S := by
  obtain ⟨hC0, hM0, hPC⟩ := hJ
  have hW := hPC.1
  have hN := hW.1
  have s0 := hC0.1.1.1
  have s361 := hM0.1.1
  have e362 := hM0.2.1
  refine Go.walk 400 [925] (E140_4) (E140_4_ok) (fun G C hG hC => ?_)
  (repeat ((conv => whnf); first | refine ⟨_, by assumption, ?_⟩ | refine ⟨_, _, by assumption, ?_⟩ | refine ⟨(show _ ∧ _ by omega), ?_⟩ | refine ⟨(show _ ∨ _ by omega), ?_⟩ | refine ⟨fun h => absurd h (by decide), fun _ => ?_⟩ | refine ⟨fun _ => ?_, fun h => absurd h (by decide)⟩ | refine ⟨fun _ => ?_, fun h => absurd rfl h⟩ | refine ⟨fun h => absurd rfl h, fun _ => ?_⟩)); try (conv => whnf)
  refine hC _ _ _ _ _ _ ?_
  refine ok_cpoint hC0 hW (hX (i + 1).toNat) (hX (i + 2).toNat) (fun I1 R1 S1 L hX1 hC1 hL1 => ?_)
  have hM1 := hM0.x hX1
  have s361' := hM1.1.1
  have e1 := hM1.2.1
  have hr := iR_pt (pts_tB hW hL1) (i := (pX P (i + 1).toNat)) (w := (pX P (i + 2).toNat))
  (repeat ((conv => whnf); first | refine ⟨_, by assumption, ?_⟩ | refine ⟨_, _, by assumption, ?_⟩ | refine ⟨(show _ ∧ _ by omega), ?_⟩ | refine ⟨(show _ ∨ _ by omega), ?_⟩ | refine ⟨fun h => absurd h (by decide), fun _ => ?_⟩ | refine ⟨fun _ => ?_, fun h => absurd h (by decide)⟩ | refine ⟨fun _ => ?_, fun h => absurd rfl h⟩ | refine ⟨fun h => absurd rfl h, fun _ => ?_⟩)); try (conv => whnf)
  refine hC _ _ _ _ _ _ ?_
  refine ok_mpoint hM1.1 (by rw [e1]; exact hW) (hX (i + 1).toNat) (hX (i + 2).toNat) (fun I2 L2 hF2 hL2 => ?_)
  rw [e1] at hL2
  have eL := fro_one hL2 hL1
  rw [eL]
  (repeat ((conv => whnf); first | refine ⟨_, by assumption, ?_⟩ | refine ⟨_, _, by assumption, ?_⟩ | refine ⟨(show _ ∧ _ by omega), ?_⟩ | refine ⟨(show _ ∨ _ by omega), ?_⟩ | refine ⟨fun h => absurd h (by decide), fun _ => ?_⟩ | refine ⟨fun _ => ?_, fun h => absurd h (by decide)⟩ | refine ⟨fun _ => ?_, fun h => absurd rfl h⟩ | refine ⟨fun h => absurd rfl h, fun _ => ?_⟩)); try (conv => whnf)
  refine hG _ _ _ _ _ _ ?_
  exact next I2 R1 S1 n h B sd im ⟨hC1.m hN.2.1 (QF.out hF2), hM1.q hF2, hPC⟩
theorem law_6 (hL : pL P ≤ 3584) (hX : ∀ j, iR (pX P j)) (hi : 0 ≤ i ∧ i + 7 ≤ pL P) (hJ : JS n h B sd im I R S) (next : NxT P i) : Go P qLaw 11 kLaw 356 [vx, vr 0, vr 361, vi i] [] I R S := by
  obtain ⟨hC0, hM0, hPC⟩ := hJ
  have hW := hPC.1
  have hN := hW.1
  have s0 := hC0.1.1.1
  have s361 := hM0.1.1
  have e362 := hM0.2.1
  refine Go.walk 400 [925] (E140_4 ++ (E140_5)) (List.forall_mem_append.mpr ⟨E140_4_ok, E140_5_ok⟩) (fun G C hG hC => ?_)
  (repeat ((conv => whnf); first | refine ⟨_, by assumption, ?_⟩ | refine ⟨_, _, by assumption, ?_⟩ | refine ⟨(show _ ∧ _ by omega), ?_⟩ | refine ⟨(show _ ∨ _ by omega), ?_⟩ | refine ⟨fun h => absurd h (by decide), fun _ => ?_⟩ | refine ⟨fun _ => ?_, fun h => absurd h (by decide)⟩ | refine ⟨fun _ => ?_, fun h => absurd rfl h⟩ | refine ⟨fun h => absurd rfl h, fun _ => ?_⟩)); try (conv => whnf)
  refine hC _ _ _ _ _ _ ?_
  refine ok_cbest hC0 hW (hX (i + 1).toNat) (fun q => ?_) (fun q I1 R1 S1 L hX1 hC1 hL1 => ?_)
  · (repeat ((conv => whnf); first | refine ⟨_, by assumption, ?_⟩ | refine ⟨_, _, by assumption, ?_⟩ | refine ⟨(show _ ∧ _ by omega), ?_⟩ | refine ⟨(show _ ∨ _ by omega), ?_⟩ | refine ⟨fun h => absurd h (by decide), fun _ => ?_⟩ | refine ⟨fun _ => ?_, fun h => absurd h (by decide)⟩ | refine ⟨fun _ => ?_, fun h => absurd rfl h⟩ | refine ⟨fun h => absurd rfl h, fun _ => ?_⟩)); try (conv => whnf)
    refine hC _ _ _ _ _ _ ?_
    refine ok_mbest hM0.1 (by rw [e362]; exact hW) (hX (i + 1).toNat) (fun r => ?_) (fun r => absurd r (by omega))
    (repeat ((conv => whnf); first | refine ⟨_, by assumption, ?_⟩ | refine ⟨_, _, by assumption, ?_⟩ | refine ⟨(show _ ∧ _ by omega), ?_⟩ | refine ⟨(show _ ∨ _ by omega), ?_⟩ | refine ⟨fun h => absurd h (by decide), fun _ => ?_⟩ | refine ⟨fun _ => ?_, fun h => absurd h (by decide)⟩ | refine ⟨fun _ => ?_, fun h => absurd rfl h⟩ | refine ⟨fun h => absurd rfl h, fun _ => ?_⟩)); try (conv => whnf)
    refine hG _ _ _ _ _ _ ?_
    exact next I R S n h B sd im ⟨hC0, hM0, hPC⟩
  · have hM1 := hM0.x hX1
    have s361' := hM1.1.1
    have e1 := hM1.2.1
    have hr := iR_best (pts_tB hW hL1) (c := (pX P (i + 1).toNat))
    (repeat ((conv => whnf); first | refine ⟨_, by assumption, ?_⟩ | refine ⟨_, _, by assumption, ?_⟩ | refine ⟨(show _ ∧ _ by omega), ?_⟩ | refine ⟨(show _ ∨ _ by omega), ?_⟩ | refine ⟨fun h => absurd h (by decide), fun _ => ?_⟩ | refine ⟨fun _ => ?_, fun h => absurd h (by decide)⟩ | refine ⟨fun _ => ?_, fun h => absurd rfl h⟩ | refine ⟨fun h => absurd rfl h, fun _ => ?_⟩)); try (conv => whnf)
    refine hC _ _ _ _ _ _ ?_
    refine ok_mbest hM1.1 (by rw [e1]; exact hW) (hX (i + 1).toNat) (fun r => absurd r (by omega)) (fun r I2 L2 hF2 hL2 => ?_)
    rw [e1] at hL2
    have eL := fro_one hL2 hL1
    rw [eL]
    (repeat ((conv => whnf); first | refine ⟨_, by assumption, ?_⟩ | refine ⟨_, _, by assumption, ?_⟩ | refine ⟨(show _ ∧ _ by omega), ?_⟩ | refine ⟨(show _ ∨ _ by omega), ?_⟩ | refine ⟨fun h => absurd h (by decide), fun _ => ?_⟩ | refine ⟨fun _ => ?_, fun h => absurd h (by decide)⟩ | refine ⟨fun _ => ?_, fun h => absurd rfl h⟩ | refine ⟨fun h => absurd rfl h, fun _ => ?_⟩)); try (conv => whnf)
    refine hG _ _ _ _ _ _ ?_
    exact next I2 R1 S1 n h B sd im ⟨hC1.m hN.2.1 (QF.out hF2), hM1.q hF2, hPC⟩
theorem law_7 (hL : pL P ≤ 3584) (hX : ∀ j, iR (pX P j)) (hi : 0 ≤ i ∧ i + 7 ≤ pL P) (hJ : JS n h B sd im I R S) (next : NxT P i) : Go P qLaw 11 kLaw 379 [vx, vr 0, vr 361, vi i] [] I R S := by
  obtain ⟨hC0, hM0, hPC⟩ := hJ
  have hW := hPC.1
  have hN := hW.1
  have s0 := hC0.1.1.1
  have s361 := hM0.1.1
  have e362 := hM0.2.1
  refine Go.walk 400 [925] (E140_5) (E140_5_ok) (fun G C hG hC => ?_)
  (repeat ((conv => whnf); first | refine ⟨_, by assumption, ?_⟩ | refine ⟨_, _, by assumption, ?_⟩ | refine ⟨(show _ ∧ _ by omega), ?_⟩ | refine ⟨(show _ ∨ _ by omega), ?_⟩ | refine ⟨fun h => absurd h (by decide), fun _ => ?_⟩ | refine ⟨fun _ => ?_, fun h => absurd h (by decide)⟩ | refine ⟨fun _ => ?_, fun h => absurd rfl h⟩ | refine ⟨fun h => absurd rfl h, fun _ => ?_⟩)); try (conv => whnf)
  refine hC _ _ _ _ _ _ ?_
  refine ok_cleast hC0 hW (hX (i + 1).toNat) (fun I1 R1 S1 L hX1 hC1 hL1 => ?_)
  have hM1 := hM0.x hX1
  have s361' := hM1.1.1
  have e1 := hM1.2.1
  have hr := iR_least (pts_tB hW hL1) (s := (pX P (i + 1).toNat))
  (repeat ((conv => whnf); first | refine ⟨_, by assumption, ?_⟩ | refine ⟨_, _, by assumption, ?_⟩ | refine ⟨(show _ ∧ _ by omega), ?_⟩ | refine ⟨(show _ ∨ _ by omega), ?_⟩ | refine ⟨fun h => absurd h (by decide), fun _ => ?_⟩ | refine ⟨fun _ => ?_, fun h => absurd h (by decide)⟩ | refine ⟨fun _ => ?_, fun h => absurd rfl h⟩ | refine ⟨fun h => absurd rfl h, fun _ => ?_⟩)); try (conv => whnf)
  refine hC _ _ _ _ _ _ ?_
  refine ok_mleast hM1.1 (by rw [e1]; exact hW) (hX (i + 1).toNat) (fun I2 L2 hF2 hL2 => ?_)
  rw [e1] at hL2
  have eL := fro_one hL2 hL1
  rw [eL]
  (repeat ((conv => whnf); first | refine ⟨_, by assumption, ?_⟩ | refine ⟨_, _, by assumption, ?_⟩ | refine ⟨(show _ ∧ _ by omega), ?_⟩ | refine ⟨(show _ ∨ _ by omega), ?_⟩ | refine ⟨fun h => absurd h (by decide), fun _ => ?_⟩ | refine ⟨fun _ => ?_, fun h => absurd h (by decide)⟩ | refine ⟨fun _ => ?_, fun h => absurd rfl h⟩ | refine ⟨fun h => absurd rfl h, fun _ => ?_⟩)); try (conv => whnf)
  refine hG _ _ _ _ _ _ ?_
  exact next I2 R1 S1 n h B sd im ⟨hC1.m hN.2.1 (QF.out hF2), hM1.q hF2, hPC⟩
theorem law_8 (hL : pL P ≤ 3584) (hX : ∀ j, iR (pX P j)) (hi : 0 ≤ i ∧ i + 7 ≤ pL P) (hJ : JS n h B sd im I R S) (next : NxT P i) : Go P qLaw 11 kLaw 402 [vx, vr 0, vr 361, vi i] [] I R S := by
  obtain ⟨hC0, hM0, hPC⟩ := hJ
  have hW := hPC.1
  have hN := hW.1
  have s0 := hC0.1.1.1
  have s361 := hM0.1.1
  have e362 := hM0.2.1
  refine Go.walk 400 [925] (E140_5 ++ (E140_6)) (List.forall_mem_append.mpr ⟨E140_5_ok, E140_6_ok⟩) (fun G C hG hC => ?_)
  (repeat ((conv => whnf); first | refine ⟨_, by assumption, ?_⟩ | refine ⟨_, _, by assumption, ?_⟩ | refine ⟨(show _ ∧ _ by omega), ?_⟩ | refine ⟨(show _ ∨ _ by omega), ?_⟩ | refine ⟨fun h => absurd h (by decide), fun _ => ?_⟩ | refine ⟨fun _ => ?_, fun h => absurd h (by decide)⟩ | refine ⟨fun _ => ?_, fun h => absurd rfl h⟩ | refine ⟨fun h => absurd rfl h, fun _ => ?_⟩)); try (conv => whnf)
  refine hC _ _ _ _ _ _ ?_
  refine ok_cwould hC0 hW (hX (i + 1).toNat) (hX (i + 2).toNat) (fun I1 hX1 hC1 => ?_)
  have hM1 := hM0.x hX1
  have s361' := hM1.1.1
  have e1 := hM1.2.1
  have hr := iR_would hW (v := (pX P (i + 1).toNat)) (k := (pX P (i + 2).toNat))
  (repeat ((conv => whnf); first | refine ⟨_, by assumption, ?_⟩ | refine ⟨_, _, by assumption, ?_⟩ | refine ⟨(show _ ∧ _ by omega), ?_⟩ | refine ⟨(show _ ∨ _ by omega), ?_⟩ | refine ⟨fun h => absurd h (by decide), fun _ => ?_⟩ | refine ⟨fun _ => ?_, fun h => absurd h (by decide)⟩ | refine ⟨fun _ => ?_, fun h => absurd rfl h⟩ | refine ⟨fun h => absurd rfl h, fun _ => ?_⟩)); try (conv => whnf)
  refine hC _ _ _ _ _ _ ?_
  refine ok_mwould hM1.1 (by rw [e1]; exact hW) (hX (i + 1).toNat) (hX (i + 2).toNat) (fun I2 hF2 => ?_)
  rw [e1]
  (repeat ((conv => whnf); first | refine ⟨_, by assumption, ?_⟩ | refine ⟨_, _, by assumption, ?_⟩ | refine ⟨(show _ ∧ _ by omega), ?_⟩ | refine ⟨(show _ ∨ _ by omega), ?_⟩ | refine ⟨fun h => absurd h (by decide), fun _ => ?_⟩ | refine ⟨fun _ => ?_, fun h => absurd h (by decide)⟩ | refine ⟨fun _ => ?_, fun h => absurd rfl h⟩ | refine ⟨fun h => absurd rfl h, fun _ => ?_⟩)); try (conv => whnf)
  refine hG _ _ _ _ _ _ ?_
  exact next I2 R S n h B sd im ⟨hC1.m hN.2.1 (QF.out hF2), hM1.q hF2, hPC⟩
theorem law_9 (hL : pL P ≤ 3584) (hX : ∀ j, iR (pX P j)) (hi : 0 ≤ i ∧ i + 7 ≤ pL P) (hJ : JS n h B sd im I R S) (next : NxT P i) : Go P qLaw 11 kLaw 435 [vx, vr 0, vr 361, vi i] [] I R S := by
  obtain ⟨hC0, hM0, hPC⟩ := hJ
  have hW := hPC.1
  have hN := hW.1
  have s0 := hC0.1.1.1
  have s361 := hM0.1.1
  have e362 := hM0.2.1
  refine Go.walk 400 [925] (E140_6 ++ (E140_7)) (List.forall_mem_append.mpr ⟨E140_6_ok, E140_7_ok⟩) (fun G C hG hC => ?_)
  (repeat ((conv => whnf); first | refine ⟨_, by assumption, ?_⟩ | refine ⟨_, _, by assumption, ?_⟩ | refine ⟨(show _ ∧ _ by omega), ?_⟩ | refine ⟨(show _ ∨ _ by omega), ?_⟩ | refine ⟨fun h => absurd h (by decide), fun _ => ?_⟩ | refine ⟨fun _ => ?_, fun h => absurd h (by decide)⟩ | refine ⟨fun _ => ?_, fun h => absurd rfl h⟩ | refine ⟨fun h => absurd rfl h, fun _ => ?_⟩)); try (conv => whnf)
  refine hC _ _ _ _ _ _ ?_
  refine ok_cnode hC0 hW (hX (i + 1).toNat) (hX (i + 2).toNat) (hX (i + 3).toNat) (DeedC.of (fun I1 hX1 hC1 => ?_))
  have hM1 := hM0.x hX1
  have s361' := hM1.1.1
  have e1 := hM1.2.1
  have hr : iR (nodeF n (pX P (i + 1).toNat) (pX P (i + 2).toNat) (pX P (i + 3).toNat)).1 := iR_node hW
  (repeat ((conv => whnf); first | refine ⟨_, by assumption, ?_⟩ | refine ⟨_, _, by assumption, ?_⟩ | refine ⟨(show _ ∧ _ by omega), ?_⟩ | refine ⟨(show _ ∨ _ by omega), ?_⟩ | refine ⟨fun h => absurd h (by decide), fun _ => ?_⟩ | refine ⟨fun _ => ?_, fun h => absurd h (by decide)⟩ | refine ⟨fun _ => ?_, fun h => absurd rfl h⟩ | refine ⟨fun h => absurd rfl h, fun _ => ?_⟩)); try (conv => whnf)
  refine hC _ _ _ _ _ _ ?_
  refine ok_mnode hM1.1 (by rw [e1]; exact hW) hM1.2.2.1 (hX (i + 1).toNat) (hX (i + 2).toNat) (hX (i + 3).toNat) ?_
  rw [e1]
  refine DeedM.of hM1 (fun I2 hI2 hM2 => ?_)
  have hP2 := hPC.deed (F := nodeF n (pX P (i + 1).toNat) (pX P (i + 2).toNat) (pX P (i + 3).toNat)) (fun r n' e => wf_node hW e)
  (repeat ((conv => whnf); first | refine ⟨_, by assumption, ?_⟩ | refine ⟨_, _, by assumption, ?_⟩ | refine ⟨(show _ ∧ _ by omega), ?_⟩ | refine ⟨(show _ ∨ _ by omega), ?_⟩ | refine ⟨fun h => absurd h (by decide), fun _ => ?_⟩ | refine ⟨fun _ => ?_, fun h => absurd h (by decide)⟩ | refine ⟨fun _ => ?_, fun h => absurd rfl h⟩ | refine ⟨fun h => absurd rfl h, fun _ => ?_⟩)); try (conv => whnf)
  refine hG _ _ _ _ _ _ ?_
  exact next I2 R S _ _ _ _ _ ⟨hC1.m hP2.1.1.2.1 hI2, hM2, hP2⟩
theorem law_10 (hL : pL P ≤ 3584) (hX : ∀ j, iR (pX P j)) (hi : 0 ≤ i ∧ i + 7 ≤ pL P) (hJ : JS n h B sd im I R S) (next : NxT P i) : Go P qLaw 11 kLaw 478 [vx, vr 0, vr 361, vi i] [] I R S := by
  obtain ⟨hC0, hM0, hPC⟩ := hJ
  have hW := hPC.1
  have hN := hW.1
  have s0 := hC0.1.1.1
  have s361 := hM0.1.1
  have e362 := hM0.2.1
  refine Go.walk 400 [925] (E140_7 ++ (E140_8)) (List.forall_mem_append.mpr ⟨E140_7_ok, E140_8_ok⟩) (fun G C hG hC => ?_)
  (repeat ((conv => whnf); first | refine ⟨_, by assumption, ?_⟩ | refine ⟨_, _, by assumption, ?_⟩ | refine ⟨(show _ ∧ _ by omega), ?_⟩ | refine ⟨(show _ ∨ _ by omega), ?_⟩ | refine ⟨fun h => absurd h (by decide), fun _ => ?_⟩ | refine ⟨fun _ => ?_, fun h => absurd h (by decide)⟩ | refine ⟨fun _ => ?_, fun h => absurd rfl h⟩ | refine ⟨fun h => absurd rfl h, fun _ => ?_⟩)); try (conv => whnf)
  refine hC _ _ _ _ _ _ ?_
  refine ok_cend hC0 hW (hX (i + 1).toNat) (hX (i + 2).toNat) (hX (i + 3).toNat) (hX (i + 4).toNat) (DeedC.of (fun I1 hX1 hC1 => ?_))
  have hM1 := hM0.x hX1
  have s361' := hM1.1.1
  have e1 := hM1.2.1
  have hr : iR (endF n (pX P (i + 1).toNat) (pX P (i + 2).toNat) (pX P (i + 3).toNat) (pX P (i + 4).toNat)).1 := iR_end
  (repeat ((conv => whnf); first | refine ⟨_, by assumption, ?_⟩ | refine ⟨_, _, by assumption, ?_⟩ | refine ⟨(show _ ∧ _ by omega), ?_⟩ | refine ⟨(show _ ∨ _ by omega), ?_⟩ | refine ⟨fun h => absurd h (by decide), fun _ => ?_⟩ | refine ⟨fun _ => ?_, fun h => absurd h (by decide)⟩ | refine ⟨fun _ => ?_, fun h => absurd rfl h⟩ | refine ⟨fun h => absurd rfl h, fun _ => ?_⟩)); try (conv => whnf)
  refine hC _ _ _ _ _ _ ?_
  refine ok_mend hM1.1 (by rw [e1]; exact hW) hM1.2.2.1 (hX (i + 1).toNat) (hX (i + 2).toNat) (hX (i + 3).toNat) (hX (i + 4).toNat) ?_
  rw [e1]
  refine DeedM.of hM1 (fun I2 hI2 hM2 => ?_)
  have hP2 := hPC.deed (F := endF n (pX P (i + 1).toNat) (pX P (i + 2).toNat) (pX P (i + 3).toNat) (pX P (i + 4).toNat)) (fun r n' e => wf_endF hW e)
  (repeat ((conv => whnf); first | refine ⟨_, by assumption, ?_⟩ | refine ⟨_, _, by assumption, ?_⟩ | refine ⟨(show _ ∧ _ by omega), ?_⟩ | refine ⟨(show _ ∨ _ by omega), ?_⟩ | refine ⟨fun h => absurd h (by decide), fun _ => ?_⟩ | refine ⟨fun _ => ?_, fun h => absurd h (by decide)⟩ | refine ⟨fun _ => ?_, fun h => absurd rfl h⟩ | refine ⟨fun h => absurd rfl h, fun _ => ?_⟩)); try (conv => whnf)
  refine hG _ _ _ _ _ _ ?_
  exact next I2 R S _ _ _ _ _ ⟨hC1.m hP2.1.1.2.1 hI2, hM2, hP2⟩
theorem law_11 (hL : pL P ≤ 3584) (hX : ∀ j, iR (pX P j)) (hi : 0 ≤ i ∧ i + 7 ≤ pL P) (hJ : JS n h B sd im I R S) (next : NxT P i) : Go P qLaw 11 kLaw 531 [vx, vr 0, vr 361, vi i] [] I R S := by
  obtain ⟨hC0, hM0, hPC⟩ := hJ
  have hW := hPC.1
  have hN := hW.1
  have s0 := hC0.1.1.1
  have s361 := hM0.1.1
  have e362 := hM0.2.1
  refine Go.walk 400 [925] (E140_8 ++ (E140_9)) (List.forall_mem_append.mpr ⟨E140_8_ok, E140_9_ok⟩) (fun G C hG hC => ?_)
  (repeat ((conv => whnf); first | refine ⟨_, by assumption, ?_⟩ | refine ⟨_, _, by assumption, ?_⟩ | refine ⟨(show _ ∧ _ by omega), ?_⟩ | refine ⟨(show _ ∨ _ by omega), ?_⟩ | refine ⟨fun h => absurd h (by decide), fun _ => ?_⟩ | refine ⟨fun _ => ?_, fun h => absurd h (by decide)⟩ | refine ⟨fun _ => ?_, fun h => absurd rfl h⟩ | refine ⟨fun h => absurd rfl h, fun _ => ?_⟩)); try (conv => whnf)
  refine hC _ _ _ _ _ _ ?_
  refine ok_cwire hC0 hW (hX (i + 1).toNat) (hX (i + 2).toNat) (hX (i + 3).toNat) (hX (i + 4).toNat) (DeedC.of (fun I1 hX1 hC1 => ?_))
  have hM1 := hM0.x hX1
  have s361' := hM1.1.1
  have e1 := hM1.2.1
  have hr : iR (wireF n (pX P (i + 1).toNat) (pX P (i + 2).toNat) (pX P (i + 3).toNat) (pX P (i + 4).toNat)).1 := iR_wire hW
  (repeat ((conv => whnf); first | refine ⟨_, by assumption, ?_⟩ | refine ⟨_, _, by assumption, ?_⟩ | refine ⟨(show _ ∧ _ by omega), ?_⟩ | refine ⟨(show _ ∨ _ by omega), ?_⟩ | refine ⟨fun h => absurd h (by decide), fun _ => ?_⟩ | refine ⟨fun _ => ?_, fun h => absurd h (by decide)⟩ | refine ⟨fun _ => ?_, fun h => absurd rfl h⟩ | refine ⟨fun h => absurd rfl h, fun _ => ?_⟩)); try (conv => whnf)
  refine hC _ _ _ _ _ _ ?_
  refine ok_mwire hM1.1 (by rw [e1]; exact hW) hM1.2.2.1 (hX (i + 1).toNat) (hX (i + 2).toNat) (hX (i + 3).toNat) (hX (i + 4).toNat) ?_
  rw [e1]
  refine DeedM.of hM1 (fun I2 hI2 hM2 => ?_)
  have hP2 := hPC.deed (F := wireF n (pX P (i + 1).toNat) (pX P (i + 2).toNat) (pX P (i + 3).toNat) (pX P (i + 4).toNat)) (fun r n' e => wf_wireF hW e)
  (repeat ((conv => whnf); first | refine ⟨_, by assumption, ?_⟩ | refine ⟨_, _, by assumption, ?_⟩ | refine ⟨(show _ ∧ _ by omega), ?_⟩ | refine ⟨(show _ ∨ _ by omega), ?_⟩ | refine ⟨fun h => absurd h (by decide), fun _ => ?_⟩ | refine ⟨fun _ => ?_, fun h => absurd h (by decide)⟩ | refine ⟨fun _ => ?_, fun h => absurd rfl h⟩ | refine ⟨fun h => absurd rfl h, fun _ => ?_⟩)); try (conv => whnf)
  refine hG _ _ _ _ _ _ ?_
  exact next I2 R S _ _ _ _ _ ⟨hC1.m hP2.1.1.2.1 hI2, hM2, hP2⟩
theorem law_12 (hL : pL P ≤ 3584) (hX : ∀ j, iR (pX P j)) (hi : 0 ≤ i ∧ i + 7 ≤ pL P) (hJ : JS n h B sd im I R S) (next : NxT P i) : Go P qLaw 11 kLaw 584 [vx, vr 0, vr 361, vi i] [] I R S := by
  obtain ⟨hC0, hM0, hPC⟩ := hJ
  have hW := hPC.1
  have hN := hW.1
  have s0 := hC0.1.1.1
  have s361 := hM0.1.1
  have e362 := hM0.2.1
  refine Go.walk 400 [925] (E140_9 ++ (E140_10)) (List.forall_mem_append.mpr ⟨E140_9_ok, E140_10_ok⟩) (fun G C hG hC => ?_)
  (repeat ((conv => whnf); first | refine ⟨_, by assumption, ?_⟩ | refine ⟨_, _, by assumption, ?_⟩ | refine ⟨(show _ ∧ _ by omega), ?_⟩ | refine ⟨(show _ ∨ _ by omega), ?_⟩ | refine ⟨fun h => absurd h (by decide), fun _ => ?_⟩ | refine ⟨fun _ => ?_, fun h => absurd h (by decide)⟩ | refine ⟨fun _ => ?_, fun h => absurd rfl h⟩ | refine ⟨fun h => absurd rfl h, fun _ => ?_⟩)); try (conv => whnf)
  refine hC _ _ _ _ _ _ ?_
  refine ok_cpull hC0 (hX (i + 1).toNat) (DeedC.of (fun I1 hX1 hC1 => ?_))
  have hM1 := hM0.x hX1
  have s361' := hM1.1.1
  have e1 := hM1.2.1
  have hr : iR (pullF n (pX P (i + 1).toNat)).1 := iR_pull hW
  (repeat ((conv => whnf); first | refine ⟨_, by assumption, ?_⟩ | refine ⟨_, _, by assumption, ?_⟩ | refine ⟨(show _ ∧ _ by omega), ?_⟩ | refine ⟨(show _ ∨ _ by omega), ?_⟩ | refine ⟨fun h => absurd h (by decide), fun _ => ?_⟩ | refine ⟨fun _ => ?_, fun h => absurd h (by decide)⟩ | refine ⟨fun _ => ?_, fun h => absurd rfl h⟩ | refine ⟨fun h => absurd rfl h, fun _ => ?_⟩)); try (conv => whnf)
  refine hC _ _ _ _ _ _ ?_
  refine ok_mpull hM1.1 hM1.2.2.1 (hX (i + 1).toNat) ?_
  rw [e1]
  refine DeedM.of hM1 (fun I2 hI2 hM2 => ?_)
  have hP2 := hPC.deed (F := pullF n (pX P (i + 1).toNat)) (fun r n' e => wf_pull hW e)
  (repeat ((conv => whnf); first | refine ⟨_, by assumption, ?_⟩ | refine ⟨_, _, by assumption, ?_⟩ | refine ⟨(show _ ∧ _ by omega), ?_⟩ | refine ⟨(show _ ∨ _ by omega), ?_⟩ | refine ⟨fun h => absurd h (by decide), fun _ => ?_⟩ | refine ⟨fun _ => ?_, fun h => absurd h (by decide)⟩ | refine ⟨fun _ => ?_, fun h => absurd rfl h⟩ | refine ⟨fun h => absurd rfl h, fun _ => ?_⟩)); try (conv => whnf)
  refine hG _ _ _ _ _ _ ?_
  exact next I2 R S _ _ _ _ _ ⟨hC1.m hP2.1.1.2.1 hI2, hM2, hP2⟩
theorem law_13 (hL : pL P ≤ 3584) (hX : ∀ j, iR (pX P j)) (hi : 0 ≤ i ∧ i + 7 ≤ pL P) (hJ : JS n h B sd im I R S) (next : NxT P i) : Go P qLaw 11 kLaw 607 [vx, vr 0, vr 361, vi i] [] I R S := by
  obtain ⟨hC0, hM0, hPC⟩ := hJ
  have hW := hPC.1
  have hN := hW.1
  have s0 := hC0.1.1.1
  have s361 := hM0.1.1
  have e362 := hM0.2.1
  refine Go.walk 400 [925] (E140_10 ++ (E140_11)) (List.forall_mem_append.mpr ⟨E140_10_ok, E140_11_ok⟩) (fun G C hG hC => ?_)
  (repeat ((conv => whnf); first | refine ⟨_, by assumption, ?_⟩ | refine ⟨_, _, by assumption, ?_⟩ | refine ⟨(show _ ∧ _ by omega), ?_⟩ | refine ⟨(show _ ∨ _ by omega), ?_⟩ | refine ⟨fun h => absurd h (by decide), fun _ => ?_⟩ | refine ⟨fun _ => ?_, fun h => absurd h (by decide)⟩ | refine ⟨fun _ => ?_, fun h => absurd rfl h⟩ | refine ⟨fun h => absurd rfl h, fun _ => ?_⟩)); try (conv => whnf)
  refine hC _ _ _ _ _ _ ?_
  refine ok_ckind hC0 hW (hX (i + 1).toNat) (hX (i + 2).toNat) (hX (i + 3).toNat) (hX (i + 4).toNat) (hX (i + 5).toNat) (hX (i + 6).toNat) (DeedC.of (fun I1 hX1 hC1 => ?_))
  have hM1 := hM0.x hX1
  have s361' := hM1.1.1
  have e1 := hM1.2.1
  have hr : iR (kindF n (pX P (i + 1).toNat) (pX P (i + 2).toNat) (pX P (i + 3).toNat) (pX P (i + 4).toNat) (pX P (i + 5).toNat) (pX P (i + 6).toNat)).1 := iR_kind hW
  (repeat ((conv => whnf); first | refine ⟨_, by assumption, ?_⟩ | refine ⟨_, _, by assumption, ?_⟩ | refine ⟨(show _ ∧ _ by omega), ?_⟩ | refine ⟨(show _ ∨ _ by omega), ?_⟩ | refine ⟨fun h => absurd h (by decide), fun _ => ?_⟩ | refine ⟨fun _ => ?_, fun h => absurd h (by decide)⟩ | refine ⟨fun _ => ?_, fun h => absurd rfl h⟩ | refine ⟨fun h => absurd rfl h, fun _ => ?_⟩)); try (conv => whnf)
  refine hC _ _ _ _ _ _ ?_
  refine ok_mkind hM1.1 hM1.2.2.1 (hX (i + 1).toNat) (hX (i + 2).toNat) (hX (i + 3).toNat) (hX (i + 4).toNat) (hX (i + 5).toNat) (hX (i + 6).toNat) ?_
  rw [e1]
  refine DeedM.of hM1 (fun I2 hI2 hM2 => ?_)
  have hP2 := hPC.deed (F := kindF n (pX P (i + 1).toNat) (pX P (i + 2).toNat) (pX P (i + 3).toNat) (pX P (i + 4).toNat) (pX P (i + 5).toNat) (pX P (i + 6).toNat)) (fun r n' e => wf_kind hW e)
  (repeat ((conv => whnf); first | refine ⟨_, by assumption, ?_⟩ | refine ⟨_, _, by assumption, ?_⟩ | refine ⟨(show _ ∧ _ by omega), ?_⟩ | refine ⟨(show _ ∨ _ by omega), ?_⟩ | refine ⟨fun h => absurd h (by decide), fun _ => ?_⟩ | refine ⟨fun _ => ?_, fun h => absurd h (by decide)⟩ | refine ⟨fun _ => ?_, fun h => absurd rfl h⟩ | refine ⟨fun h => absurd rfl h, fun _ => ?_⟩)); try (conv => whnf)
  refine hG _ _ _ _ _ _ ?_
  exact next I2 R S _ _ _ _ _ ⟨hC1.m hP2.1.1.2.1 hI2, hM2, hP2⟩
theorem law_14 (hL : pL P ≤ 3584) (hX : ∀ j, iR (pX P j)) (hi : 0 ≤ i ∧ i + 7 ≤ pL P) (hJ : JS n h B sd im I R S) (next : NxT P i) : Go P qLaw 11 kLaw 682 [vx, vr 0, vr 361, vi i] [] I R S := by
  obtain ⟨hC0, hM0, hPC⟩ := hJ
  have hW := hPC.1
  have hN := hW.1
  have s0 := hC0.1.1.1
  have s361 := hM0.1.1
  have e362 := hM0.2.1
  refine Go.walk 400 [925] (E140_11 ++ (E140_12)) (List.forall_mem_append.mpr ⟨E140_11_ok, E140_12_ok⟩) (fun G C hG hC => ?_)
  (repeat ((conv => whnf); first | refine ⟨_, by assumption, ?_⟩ | refine ⟨_, _, by assumption, ?_⟩ | refine ⟨(show _ ∧ _ by omega), ?_⟩ | refine ⟨(show _ ∨ _ by omega), ?_⟩ | refine ⟨fun h => absurd h (by decide), fun _ => ?_⟩ | refine ⟨fun _ => ?_, fun h => absurd h (by decide)⟩ | refine ⟨fun _ => ?_, fun h => absurd rfl h⟩ | refine ⟨fun h => absurd rfl h, fun _ => ?_⟩)); try (conv => whnf)
  refine hC _ _ _ _ _ _ ?_
  refine ok_cdrop hC0 hW (hX (i + 1).toNat) (DeedC.of (fun I1 hX1 hC1 => ?_))
  have hM1 := hM0.x hX1
  have s361' := hM1.1.1
  have e1 := hM1.2.1
  have hr : iR (dropF n (pX P (i + 1).toNat)).1 := iR_drop hW
  (repeat ((conv => whnf); first | refine ⟨_, by assumption, ?_⟩ | refine ⟨_, _, by assumption, ?_⟩ | refine ⟨(show _ ∧ _ by omega), ?_⟩ | refine ⟨(show _ ∨ _ by omega), ?_⟩ | refine ⟨fun h => absurd h (by decide), fun _ => ?_⟩ | refine ⟨fun _ => ?_, fun h => absurd h (by decide)⟩ | refine ⟨fun _ => ?_, fun h => absurd rfl h⟩ | refine ⟨fun h => absurd rfl h, fun _ => ?_⟩)); try (conv => whnf)
  refine hC _ _ _ _ _ _ ?_
  refine ok_mdrop hM1.1 (by rw [e1]; exact hW) hM1.2.2.1 (hX (i + 1).toNat) ?_
  rw [e1]
  refine DeedM.of hM1 (fun I2 hI2 hM2 => ?_)
  have hP2 := hPC.deed (F := dropF n (pX P (i + 1).toNat)) (fun r n' e => wf_drop hW e)
  (repeat ((conv => whnf); first | refine ⟨_, by assumption, ?_⟩ | refine ⟨_, _, by assumption, ?_⟩ | refine ⟨(show _ ∧ _ by omega), ?_⟩ | refine ⟨(show _ ∨ _ by omega), ?_⟩ | refine ⟨fun h => absurd h (by decide), fun _ => ?_⟩ | refine ⟨fun _ => ?_, fun h => absurd h (by decide)⟩ | refine ⟨fun _ => ?_, fun h => absurd rfl h⟩ | refine ⟨fun h => absurd rfl h, fun _ => ?_⟩)); try (conv => whnf)
  refine hG _ _ _ _ _ _ ?_
  exact next I2 R S _ _ _ _ _ ⟨hC1.m hP2.1.1.2.1 hI2, hM2, hP2⟩
theorem law_15 (hL : pL P ≤ 3584) (hX : ∀ j, iR (pX P j)) (hi : 0 ≤ i ∧ i + 7 ≤ pL P) (hJ : JS n h B sd im I R S) (next : NxT P i) : Go P qLaw 11 kLaw 705 [vx, vr 0, vr 361, vi i] [] I R S := by
  obtain ⟨hC0, hM0, hPC⟩ := hJ
  have hW := hPC.1
  have hN := hW.1
  have s0 := hC0.1.1.1
  have s361 := hM0.1.1
  have e362 := hM0.2.1
  refine Go.walk 400 [925] (E140_12) (E140_12_ok) (fun G C hG hC => ?_)
  (repeat ((conv => whnf); first | refine ⟨_, by assumption, ?_⟩ | refine ⟨_, _, by assumption, ?_⟩ | refine ⟨(show _ ∧ _ by omega), ?_⟩ | refine ⟨(show _ ∨ _ by omega), ?_⟩ | refine ⟨fun h => absurd h (by decide), fun _ => ?_⟩ | refine ⟨fun _ => ?_, fun h => absurd h (by decide)⟩ | refine ⟨fun _ => ?_, fun h => absurd rfl h⟩ | refine ⟨fun h => absurd rfl h, fun _ => ?_⟩)); try (conv => whnf)
  refine hC _ _ _ _ _ _ ?_
  refine ok_cplace hC0 hW (hX (i + 1).toNat) (hX (i + 2).toNat) (DeedC.of (fun I1 hX1 hC1 => ?_))
  have hM1 := hM0.x hX1
  have s361' := hM1.1.1
  have e1 := hM1.2.1
  have hr : iR (placeF n (pX P (i + 1).toNat) (pX P (i + 2).toNat)).1 := iR_place hW
  (repeat ((conv => whnf); first | refine ⟨_, by assumption, ?_⟩ | refine ⟨_, _, by assumption, ?_⟩ | refine ⟨(show _ ∧ _ by omega), ?_⟩ | refine ⟨(show _ ∨ _ by omega), ?_⟩ | refine ⟨fun h => absurd h (by decide), fun _ => ?_⟩ | refine ⟨fun _ => ?_, fun h => absurd h (by decide)⟩ | refine ⟨fun _ => ?_, fun h => absurd rfl h⟩ | refine ⟨fun h => absurd rfl h, fun _ => ?_⟩)); try (conv => whnf)
  refine hC _ _ _ _ _ _ ?_
  refine ok_mplace hM1.1 (by rw [e1]; exact hW) hM1.2.2.1 (hX (i + 1).toNat) (hX (i + 2).toNat) ?_
  rw [e1]
  refine DeedM.of hM1 (fun I2 hI2 hM2 => ?_)
  have hP2 := hPC.deed (F := placeF n (pX P (i + 1).toNat) (pX P (i + 2).toNat)) (fun r n' e => wf_place hW e)
  (repeat ((conv => whnf); first | refine ⟨_, by assumption, ?_⟩ | refine ⟨_, _, by assumption, ?_⟩ | refine ⟨(show _ ∧ _ by omega), ?_⟩ | refine ⟨(show _ ∨ _ by omega), ?_⟩ | refine ⟨fun h => absurd h (by decide), fun _ => ?_⟩ | refine ⟨fun _ => ?_, fun h => absurd h (by decide)⟩ | refine ⟨fun _ => ?_, fun h => absurd rfl h⟩ | refine ⟨fun h => absurd rfl h, fun _ => ?_⟩)); try (conv => whnf)
  refine hG _ _ _ _ _ _ ?_
  exact next I2 R S _ _ _ _ _ ⟨hC1.m hP2.1.1.2.1 hI2, hM2, hP2⟩
theorem law_16 (hL : pL P ≤ 3584) (hX : ∀ j, iR (pX P j)) (hi : 0 ≤ i ∧ i + 7 ≤ pL P) (hJ : JS n h B sd im I R S) (next : NxT P i) : Go P qLaw 11 kLaw 738 [vx, vr 0, vr 361, vi i] [] I R S := by
  obtain ⟨hC0, hM0, hPC⟩ := hJ
  have hW := hPC.1
  have hN := hW.1
  have s0 := hC0.1.1.1
  have s361 := hM0.1.1
  have e362 := hM0.2.1
  refine Go.walk 400 [925] (E140_12 ++ (E140_13)) (List.forall_mem_append.mpr ⟨E140_12_ok, E140_13_ok⟩) (fun G C hG hC => ?_)
  (repeat ((conv => whnf); first | refine ⟨_, by assumption, ?_⟩ | refine ⟨_, _, by assumption, ?_⟩ | refine ⟨(show _ ∧ _ by omega), ?_⟩ | refine ⟨(show _ ∨ _ by omega), ?_⟩ | refine ⟨fun h => absurd h (by decide), fun _ => ?_⟩ | refine ⟨fun _ => ?_, fun h => absurd h (by decide)⟩ | refine ⟨fun _ => ?_, fun h => absurd rfl h⟩ | refine ⟨fun h => absurd rfl h, fun _ => ?_⟩)); try (conv => whnf)
  refine hC _ _ _ _ _ _ ?_
  refine ok_ctake hC0 hW  (DeedC.of (fun I1 hX1 hC1 => ?_))
  have hM1 := hM0.x hX1
  have s361' := hM1.1.1
  have e1 := hM1.2.1
  have hr : iR (takeF n ).1 := iR_take hW
  (repeat ((conv => whnf); first | refine ⟨_, by assumption, ?_⟩ | refine ⟨_, _, by assumption, ?_⟩ | refine ⟨(show _ ∧ _ by omega), ?_⟩ | refine ⟨(show _ ∨ _ by omega), ?_⟩ | refine ⟨fun h => absurd h (by decide), fun _ => ?_⟩ | refine ⟨fun _ => ?_, fun h => absurd h (by decide)⟩ | refine ⟨fun _ => ?_, fun h => absurd rfl h⟩ | refine ⟨fun h => absurd rfl h, fun _ => ?_⟩)); try (conv => whnf)
  refine hC _ _ _ _ _ _ ?_
  refine ok_mtake hM1.1 (by rw [e1]; exact hW) hM1.2.2.1  ?_
  rw [e1]
  refine DeedM.of hM1 (fun I2 hI2 hM2 => ?_)
  have hP2 := hPC.deed (F := takeF n ) (fun r n' e => wf_take hW e)
  (repeat ((conv => whnf); first | refine ⟨_, by assumption, ?_⟩ | refine ⟨_, _, by assumption, ?_⟩ | refine ⟨(show _ ∧ _ by omega), ?_⟩ | refine ⟨(show _ ∨ _ by omega), ?_⟩ | refine ⟨fun h => absurd h (by decide), fun _ => ?_⟩ | refine ⟨fun _ => ?_, fun h => absurd h (by decide)⟩ | refine ⟨fun _ => ?_, fun h => absurd rfl h⟩ | refine ⟨fun h => absurd rfl h, fun _ => ?_⟩)); try (conv => whnf)
  refine hG _ _ _ _ _ _ ?_
  exact next I2 R S _ _ _ _ _ ⟨hC1.m hP2.1.1.2.1 hI2, hM2, hP2⟩
theorem law_17 (hL : pL P ≤ 3584) (hX : ∀ j, iR (pX P j)) (hi : 0 ≤ i ∧ i + 7 ≤ pL P) (hJ : JS n h B sd im I R S) (next : NxT P i) : Go P qLaw 11 kLaw 751 [vx, vr 0, vr 361, vi i] [] I R S := by
  obtain ⟨hC0, hM0, hPC⟩ := hJ
  have hW := hPC.1
  have hN := hW.1
  have s0 := hC0.1.1.1
  have s361 := hM0.1.1
  have e362 := hM0.2.1
  refine Go.walk 400 [925] (E140_13) (E140_13_ok) (fun G C hG hC => ?_)
  (repeat ((conv => whnf); first | refine ⟨_, by assumption, ?_⟩ | refine ⟨_, _, by assumption, ?_⟩ | refine ⟨(show _ ∧ _ by omega), ?_⟩ | refine ⟨(show _ ∨ _ by omega), ?_⟩ | refine ⟨fun h => absurd h (by decide), fun _ => ?_⟩ | refine ⟨fun _ => ?_, fun h => absurd h (by decide)⟩ | refine ⟨fun _ => ?_, fun h => absurd rfl h⟩ | refine ⟨fun h => absurd rfl h, fun _ => ?_⟩)); try (conv => whnf)
  refine hC _ _ _ _ _ _ ?_
  refine ok_cchange hC0 hW  (DeedC.of (fun I1 hX1 hC1 => ?_))
  have hM1 := hM0.x hX1
  have s361' := hM1.1.1
  have e1 := hM1.2.1
  have hr : iR (changeF n ).1 := iR_change hW
  (repeat ((conv => whnf); first | refine ⟨_, by assumption, ?_⟩ | refine ⟨_, _, by assumption, ?_⟩ | refine ⟨(show _ ∧ _ by omega), ?_⟩ | refine ⟨(show _ ∨ _ by omega), ?_⟩ | refine ⟨fun h => absurd h (by decide), fun _ => ?_⟩ | refine ⟨fun _ => ?_, fun h => absurd h (by decide)⟩ | refine ⟨fun _ => ?_, fun h => absurd rfl h⟩ | refine ⟨fun h => absurd rfl h, fun _ => ?_⟩)); try (conv => whnf)
  refine hC _ _ _ _ _ _ ?_
  refine ok_mchange hM1.1 (by rw [e1]; exact hW) hM1.2.2.1  ?_
  rw [e1]
  refine DeedM.of hM1 (fun I2 hI2 hM2 => ?_)
  have hP2 := hPC.deed (F := changeF n ) (fun r n' e => wf_changeF hW e)
  (repeat ((conv => whnf); first | refine ⟨_, by assumption, ?_⟩ | refine ⟨_, _, by assumption, ?_⟩ | refine ⟨(show _ ∧ _ by omega), ?_⟩ | refine ⟨(show _ ∨ _ by omega), ?_⟩ | refine ⟨fun h => absurd h (by decide), fun _ => ?_⟩ | refine ⟨fun _ => ?_, fun h => absurd h (by decide)⟩ | refine ⟨fun _ => ?_, fun h => absurd rfl h⟩ | refine ⟨fun h => absurd rfl h, fun _ => ?_⟩)); try (conv => whnf)
  refine hG _ _ _ _ _ _ ?_
  exact next I2 R S _ _ _ _ _ ⟨hC1.m hP2.1.1.2.1 hI2, hM2, hP2⟩
theorem law_18 (hL : pL P ≤ 3584) (hX : ∀ j, iR (pX P j)) (hi : 0 ≤ i ∧ i + 7 ≤ pL P) (hJ : JS n h B sd im I R S) (next : NxT P i) : Go P qLaw 11 kLaw 764 [vx, vr 0, vr 361, vi i] [] I R S := by
  obtain ⟨hC0, hM0, hPC⟩ := hJ
  have hW := hPC.1
  have hN := hW.1
  have s0 := hC0.1.1.1
  have s361 := hM0.1.1
  have e362 := hM0.2.1
  refine Go.walk 400 [925] (E140_13) (E140_13_ok) (fun G C hG hC => ?_)
  (repeat ((conv => whnf); first | refine ⟨_, by assumption, ?_⟩ | refine ⟨_, _, by assumption, ?_⟩ | refine ⟨(show _ ∧ _ by omega), ?_⟩ | refine ⟨(show _ ∨ _ by omega), ?_⟩ | refine ⟨fun h => absurd h (by decide), fun _ => ?_⟩ | refine ⟨fun _ => ?_, fun h => absurd h (by decide)⟩ | refine ⟨fun _ => ?_, fun h => absurd rfl h⟩ | refine ⟨fun h => absurd rfl h, fun _ => ?_⟩)); try (conv => whnf)
  refine hC _ _ _ _ _ _ ?_
  refine ok_cdrift hC0 hW hPC.2.2.2.1 (hX (i + 1).toNat) (fun q => ?_) (fun q I1 n' s' h' he hX1 hC1 => ?_)
  · (repeat ((conv => whnf); first | refine ⟨_, by assumption, ?_⟩ | refine ⟨_, _, by assumption, ?_⟩ | refine ⟨(show _ ∧ _ by omega), ?_⟩ | refine ⟨(show _ ∨ _ by omega), ?_⟩ | refine ⟨fun h => absurd h (by decide), fun _ => ?_⟩ | refine ⟨fun _ => ?_, fun h => absurd h (by decide)⟩ | refine ⟨fun _ => ?_, fun h => absurd rfl h⟩ | refine ⟨fun h => absurd rfl h, fun _ => ?_⟩)); try (conv => whnf)
    refine hC _ _ _ _ _ _ ?_
    refine ok_mdrift hM0.1 (by rw [e362]; omega) hM0.2.2.1 (by rw [hM0.2.2.2.2.1]; exact hPC.2.2.2.1) (hX (i + 1).toNat) (fun r => ?_) (fun r => absurd r q)
    (repeat ((conv => whnf); first | refine ⟨_, by assumption, ?_⟩ | refine ⟨_, _, by assumption, ?_⟩ | refine ⟨(show _ ∧ _ by omega), ?_⟩ | refine ⟨(show _ ∨ _ by omega), ?_⟩ | refine ⟨fun h => absurd h (by decide), fun _ => ?_⟩ | refine ⟨fun _ => ?_, fun h => absurd h (by decide)⟩ | refine ⟨fun _ => ?_, fun h => absurd rfl h⟩ | refine ⟨fun h => absurd rfl h, fun _ => ?_⟩)); try (conv => whnf)
    refine hG _ _ _ _ _ _ ?_
    exact next I R S n h B sd im ⟨hC0, hM0, hPC⟩
  · have hM1 := hM0.x hX1
    have s361' := hM1.1.1
    have e1 := hM1.2.1
    have e5 : I1 361 1 = sd := hM1.2.2.2.2.1
    have hP2 : PC n' h' B s' im := by
      have := pc_drift (B := B) (im := im) (pX P (i + 1).toNat).toNat (n, sd, h) hPC
      rw [← he] at this
      exact this
    have hr := hP2.1.1
    (repeat ((conv => whnf); first | refine ⟨_, by assumption, ?_⟩ | refine ⟨_, _, by assumption, ?_⟩ | refine ⟨(show _ ∧ _ by omega), ?_⟩ | refine ⟨(show _ ∨ _ by omega), ?_⟩ | refine ⟨fun h => absurd h (by decide), fun _ => ?_⟩ | refine ⟨fun _ => ?_, fun h => absurd h (by decide)⟩ | refine ⟨fun _ => ?_, fun h => absurd rfl h⟩ | refine ⟨fun h => absurd rfl h, fun _ => ?_⟩)); try (conv => whnf)
    refine hC _ _ _ _ _ _ ?_
    refine ok_mdrift hM1.1 (by rw [e1]; omega) hM1.2.2.1 (by rw [e5]; exact hPC.2.2.2.1) (hX (i + 1).toNat) (fun r => absurd q r) (fun r I2 n2 s2 h2 he2 hF2 g1 g2 g3 => ?_)
    rw [e1, e5, ← he] at he2
    cases he2
    obtain ⟨m1, m2, m3, m4, m5, m6⟩ := hM1
    have hI2 := hF2.out (by simp <;> omega)
    (repeat ((conv => whnf); first | refine ⟨_, by assumption, ?_⟩ | refine ⟨_, _, by assumption, ?_⟩ | refine ⟨(show _ ∧ _ by omega), ?_⟩ | refine ⟨(show _ ∨ _ by omega), ?_⟩ | refine ⟨fun h => absurd h (by decide), fun _ => ?_⟩ | refine ⟨fun _ => ?_, fun h => absurd h (by decide)⟩ | refine ⟨fun _ => ?_, fun h => absurd rfl h⟩ | refine ⟨fun h => absurd rfl h, fun _ => ?_⟩)); try (conv => whnf)
    refine hG _ _ _ _ _ _ ?_
    exact next I2 R S n' h' B s' im ⟨hC1.m hP2.1.1.2.1 hI2, ⟨m1, g1, g3, m4.cg (hF2.2 8 (by decide)) (hF2.1 366 (by decide)) (hF2.1 367 (by decide)), g2, fun j p0 p1 => (m6 j p0 p1).cg (hF2.1 364 (by decide)) (hF2.1 365 (by decide))⟩, hP2⟩
theorem law_19 (hL : pL P ≤ 3584) (hX : ∀ j, iR (pX P j)) (hi : 0 ≤ i ∧ i + 7 ≤ pL P) (hJ : JS n h B sd im I R S) (next : NxT P i) : Go P qLaw 11 kLaw 787 [vx, vr 0, vr 361, vi i] [] I R S := by
  obtain ⟨hC0, hM0, hPC⟩ := hJ
  have hW := hPC.1
  have hN := hW.1
  have s0 := hC0.1.1.1
  have s361 := hM0.1.1
  have e362 := hM0.2.1
  refine Go.walk 400 [925] (E140_13 ++ (E140_14)) (List.forall_mem_append.mpr ⟨E140_13_ok, E140_14_ok⟩) (fun G C hG hC => ?_)
  (repeat ((conv => whnf); first | refine ⟨_, by assumption, ?_⟩ | refine ⟨_, _, by assumption, ?_⟩ | refine ⟨(show _ ∧ _ by omega), ?_⟩ | refine ⟨(show _ ∨ _ by omega), ?_⟩ | refine ⟨fun h => absurd h (by decide), fun _ => ?_⟩ | refine ⟨fun _ => ?_, fun h => absurd h (by decide)⟩ | refine ⟨fun _ => ?_, fun h => absurd rfl h⟩ | refine ⟨fun h => absurd rfl h, fun _ => ?_⟩)); try (conv => whnf)
  refine hC _ _ _ _ _ _ ?_
  refine ok_cundo hC0 (hX (i + 1).toNat) (fun q => ?_) (fun q q2 => ?_) (fun q q2 I1 qn hq hX1 hC1 h5 => ?_)
  · (repeat ((conv => whnf); first | refine ⟨_, by assumption, ?_⟩ | refine ⟨_, _, by assumption, ?_⟩ | refine ⟨(show _ ∧ _ by omega), ?_⟩ | refine ⟨(show _ ∨ _ by omega), ?_⟩ | refine ⟨fun h => absurd h (by decide), fun _ => ?_⟩ | refine ⟨fun _ => ?_, fun h => absurd h (by decide)⟩ | refine ⟨fun _ => ?_, fun h => absurd rfl h⟩ | refine ⟨fun h => absurd rfl h, fun _ => ?_⟩)); try (conv => whnf)
    refine hC _ _ _ _ _ _ ?_
    refine ok_mundo hM0.1 hM0.2.2.1 (hX (i + 1).toNat) (fun r => ?_) (fun r r2 => absurd r q) (fun r r2 => absurd ⟨r, by have := hM0.2.2.1.2.1; omega⟩ q)
    (repeat ((conv => whnf); first | refine ⟨_, by assumption, ?_⟩ | refine ⟨_, _, by assumption, ?_⟩ | refine ⟨(show _ ∧ _ by omega), ?_⟩ | refine ⟨(show _ ∨ _ by omega), ?_⟩ | refine ⟨fun h => absurd h (by decide), fun _ => ?_⟩ | refine ⟨fun _ => ?_, fun h => absurd h (by decide)⟩ | refine ⟨fun _ => ?_, fun h => absurd rfl h⟩ | refine ⟨fun h => absurd rfl h, fun _ => ?_⟩)); try (conv => whnf)
    refine hG _ _ _ _ _ _ ?_
    exact next I R S n h B sd im ⟨hC0, hM0, hPC⟩
  · (repeat ((conv => whnf); first | refine ⟨_, by assumption, ?_⟩ | refine ⟨_, _, by assumption, ?_⟩ | refine ⟨(show _ ∧ _ by omega), ?_⟩ | refine ⟨(show _ ∨ _ by omega), ?_⟩ | refine ⟨fun h => absurd h (by decide), fun _ => ?_⟩ | refine ⟨fun _ => ?_, fun h => absurd h (by decide)⟩ | refine ⟨fun _ => ?_, fun h => absurd rfl h⟩ | refine ⟨fun h => absurd rfl h, fun _ => ?_⟩)); try (conv => whnf)
    refine hC _ _ _ _ _ _ ?_
    refine ok_mundo hM0.1 hM0.2.2.1 (hX (i + 1).toNat) (fun r => absurd q r) (fun r r2 => ?_) (fun r r2 => absurd q2 (by omega))
    (repeat ((conv => whnf); first | refine ⟨_, by assumption, ?_⟩ | refine ⟨_, _, by assumption, ?_⟩ | refine ⟨(show _ ∧ _ by omega), ?_⟩ | refine ⟨(show _ ∨ _ by omega), ?_⟩ | refine ⟨fun h => absurd h (by decide), fun _ => ?_⟩ | refine ⟨fun _ => ?_, fun h => absurd h (by decide)⟩ | refine ⟨fun _ => ?_, fun h => absurd rfl h⟩ | refine ⟨fun h => absurd rfl h, fun _ => ?_⟩)); try (conv => whnf)
    refine hG _ _ _ _ _ _ ?_
    exact next I R S n h B sd im ⟨hC0, hM0, hPC⟩
  · have hM1 := hM0.x hX1
    have s361' := hM1.1.1
    have hl16 := hM1.2.2.1.2.1
    (repeat ((conv => whnf); first | refine ⟨_, by assumption, ?_⟩ | refine ⟨_, _, by assumption, ?_⟩ | refine ⟨(show _ ∧ _ by omega), ?_⟩ | refine ⟨(show _ ∨ _ by omega), ?_⟩ | refine ⟨fun h => absurd h (by decide), fun _ => ?_⟩ | refine ⟨fun _ => ?_, fun h => absurd h (by decide)⟩ | refine ⟨fun _ => ?_, fun h => absurd rfl h⟩ | refine ⟨fun h => absurd rfl h, fun _ => ?_⟩)); try (conv => whnf)
    refine hC _ _ _ _ _ _ ?_
    refine ok_mundo hM1.1 hM1.2.2.1 (hX (i + 1).toNat) (fun r => absurd ⟨q, by omega⟩ r) (fun r r2 => absurd r2 (by omega)) (fun r r2 I2 qm hqm hF2 g1 g2 => ?_)
    rw [hq] at hqm
    cases hqm
    obtain ⟨m1, m2, m3, m4, m5, m6⟩ := hM1
    have hI2 := hF2.out (by simp <;> omega)
    have hWq := hPC.2.1 qn (List.mem_of_getElem? hq)
    have hW2 := hWq.cgn g1
    (repeat ((conv => whnf); first | refine ⟨_, by assumption, ?_⟩ | refine ⟨_, _, by assumption, ?_⟩ | refine ⟨(show _ ∧ _ by omega), ?_⟩ | refine ⟨(show _ ∨ _ by omega), ?_⟩ | refine ⟨fun h => absurd h (by decide), fun _ => ?_⟩ | refine ⟨fun _ => ?_, fun h => absurd h (by decide)⟩ | refine ⟨fun _ => ?_, fun h => absurd rfl h⟩ | refine ⟨fun h => absurd rfl h, fun _ => ?_⟩)); try (conv => whnf)
    refine hG _ _ _ _ _ _ ?_
    exact next I2 R S (I2 362) (h.take (h.length - (pX P (i + 1).toNat).toNat)) B sd im ⟨((hC1.m hWq.1.2.1 hI2).cgn (by rw [hI2 34 (by omega)]; exact h5) g1), ⟨m1, rfl, g2, m4.cg (hF2.2 8 (by decide)) (hF2.1 366 (by decide)) (hF2.1 367 (by decide)), by rw [hF2.2 1 (by decide)]; exact m5, fun j p0 p1 => (m6 j p0 p1).cg (hF2.1 364 (by decide)) (hF2.1 365 (by decide))⟩, hW2, fun m hm => hPC.2.1 m (List.mem_of_mem_take hm), hPC.2.2⟩
theorem law_20 (hL : pL P ≤ 3584) (hX : ∀ j, iR (pX P j)) (hi : 0 ≤ i ∧ i + 7 ≤ pL P) (hJ : JS n h B sd im I R S) (next : NxT P i) : Go P qLaw 11 kLaw 810 [vx, vr 0, vr 361, vi i] [] I R S := by
  obtain ⟨hC0, hM0, hPC⟩ := hJ
  have hW := hPC.1
  have hN := hW.1
  have s0 := hC0.1.1.1
  have s361 := hM0.1.1
  have e362 := hM0.2.1
  refine Go.walk 400 [925] (E140_14) (E140_14_ok) (fun G C hG hC => ?_)
  (repeat ((conv => whnf); first | refine ⟨_, by assumption, ?_⟩ | refine ⟨_, _, by assumption, ?_⟩ | refine ⟨(show _ ∧ _ by omega), ?_⟩ | refine ⟨(show _ ∨ _ by omega), ?_⟩ | refine ⟨fun h => absurd h (by decide), fun _ => ?_⟩ | refine ⟨fun _ => ?_, fun h => absurd h (by decide)⟩ | refine ⟨fun _ => ?_, fun h => absurd rfl h⟩ | refine ⟨fun h => absurd rfl h, fun _ => ?_⟩)); try (conv => whnf)
  refine hC _ _ _ _ _ _ ?_
  refine ok_cwrite hC0 hW (hX (i + 1).toNat) (fun q => ?_) (fun q q2 => ?_) (fun q q2 I1 hX1 hC1 => ?_)
  · (repeat ((conv => whnf); first | refine ⟨_, by assumption, ?_⟩ | refine ⟨_, _, by assumption, ?_⟩ | refine ⟨(show _ ∧ _ by omega), ?_⟩ | refine ⟨(show _ ∨ _ by omega), ?_⟩ | refine ⟨fun h => absurd h (by decide), fun _ => ?_⟩ | refine ⟨fun _ => ?_, fun h => absurd h (by decide)⟩ | refine ⟨fun _ => ?_, fun h => absurd rfl h⟩ | refine ⟨fun h => absurd rfl h, fun _ => ?_⟩)); try (conv => whnf)
    refine hC _ _ _ _ _ _ ?_
    refine ok_mwrite hM0.1 (by rw [e362]; exact hW) hM0.2.2.2.1 (hX (i + 1).toNat) (fun r => ?_) (fun r r2 => absurd (by rw [e362] at r; exact r) q) (fun r r2 => absurd (by rw [e362] at r; exact r) q)
    (repeat ((conv => whnf); first | refine ⟨_, by assumption, ?_⟩ | refine ⟨_, _, by assumption, ?_⟩ | refine ⟨(show _ ∧ _ by omega), ?_⟩ | refine ⟨(show _ ∨ _ by omega), ?_⟩ | refine ⟨fun h => absurd h (by decide), fun _ => ?_⟩ | refine ⟨fun _ => ?_, fun h => absurd h (by decide)⟩ | refine ⟨fun _ => ?_, fun h => absurd rfl h⟩ | refine ⟨fun h => absurd rfl h, fun _ => ?_⟩)); try (conv => whnf)
    refine hG _ _ _ _ _ _ ?_
    exact next I R S n h B sd im ⟨hC0, hM0, hPC⟩
  · (repeat ((conv => whnf); first | refine ⟨_, by assumption, ?_⟩ | refine ⟨_, _, by assumption, ?_⟩ | refine ⟨(show _ ∧ _ by omega), ?_⟩ | refine ⟨(show _ ∨ _ by omega), ?_⟩ | refine ⟨fun h => absurd h (by decide), fun _ => ?_⟩ | refine ⟨fun _ => ?_, fun h => absurd h (by decide)⟩ | refine ⟨fun _ => ?_, fun h => absurd rfl h⟩ | refine ⟨fun h => absurd rfl h, fun _ => ?_⟩)); try (conv => whnf)
    refine hC _ _ _ _ _ _ ?_
    refine ok_mwrite hM0.1 (by rw [e362]; exact hW) hM0.2.2.2.1 (hX (i + 1).toNat) (fun r => absurd (by rw [e362]; exact q) r) (fun r r2 => ?_) (fun r r2 => absurd q2 (by omega))
    (repeat ((conv => whnf); first | refine ⟨_, by assumption, ?_⟩ | refine ⟨_, _, by assumption, ?_⟩ | refine ⟨(show _ ∧ _ by omega), ?_⟩ | refine ⟨(show _ ∨ _ by omega), ?_⟩ | refine ⟨fun h => absurd h (by decide), fun _ => ?_⟩ | refine ⟨fun _ => ?_, fun h => absurd h (by decide)⟩ | refine ⟨fun _ => ?_, fun h => absurd rfl h⟩ | refine ⟨fun h => absurd rfl h, fun _ => ?_⟩)); try (conv => whnf)
    refine hG _ _ _ _ _ _ ?_
    exact next I R S n h B sd im ⟨hC0, hM0, hPC⟩
  · have hM1 := hM0.x hX1
    have s361' := hM1.1.1
    have e1 := hM1.2.1
    (repeat ((conv => whnf); first | refine ⟨_, by assumption, ?_⟩ | refine ⟨_, _, by assumption, ?_⟩ | refine ⟨(show _ ∧ _ by omega), ?_⟩ | refine ⟨(show _ ∨ _ by omega), ?_⟩ | refine ⟨fun h => absurd h (by decide), fun _ => ?_⟩ | refine ⟨fun _ => ?_, fun h => absurd h (by decide)⟩ | refine ⟨fun _ => ?_, fun h => absurd rfl h⟩ | refine ⟨fun h => absurd rfl h, fun _ => ?_⟩)); try (conv => whnf)
    refine hC _ _ _ _ _ _ ?_
    refine ok_mwrite hM1.1 (by rw [e1]; exact hW) hM1.2.2.2.1 (hX (i + 1).toNat) (fun r => absurd (by rw [e1]; exact q) r) (fun r r2 => absurd r2 (by omega)) (fun r r2 I2 hF2 hB2 => ?_)
    obtain ⟨m1, m2, m3, m4, m5, m6⟩ := hM1
    have hI2 := hF2.out (by simp <;> omega)
    (repeat ((conv => whnf); first | refine ⟨_, by assumption, ?_⟩ | refine ⟨_, _, by assumption, ?_⟩ | refine ⟨(show _ ∧ _ by omega), ?_⟩ | refine ⟨(show _ ∨ _ by omega), ?_⟩ | refine ⟨fun h => absurd h (by decide), fun _ => ?_⟩ | refine ⟨fun _ => ?_, fun h => absurd h (by decide)⟩ | refine ⟨fun _ => ?_, fun h => absurd rfl h⟩ | refine ⟨fun h => absurd rfl h, fun _ => ?_⟩)); try (conv => whnf)
    refine hG _ _ _ _ _ _ ?_
    refine next I2 R S n h (B ++ [((pX P (i + 1).toNat), (pX P (i + 2).toNat))]) sd im ⟨hC1.m hN.2.1 hI2, ⟨m1, by rw [hF2.1 362 (by decide)]; exact m2, m3.cg (hF2.2 3 (by decide)) (hF2.1 363 (by decide)), hB2, by rw [hF2.2 1 (by decide)]; exact m5, fun j p0 p1 => (m6 j p0 p1).cg (hF2.1 364 (by decide)) (hF2.1 365 (by decide))⟩, hPC.1, hPC.2.1, fun p hp => ?_, hPC.2.2.2⟩
    rw [List.mem_append, List.mem_singleton] at hp
    rcases hp with hp | hp
    · exact hPC.2.2.1 p hp
    · rw [hp]
      exact ⟨by show 0 ≤ (pX P (i + 1).toNat) ∧ (pX P (i + 1).toNat) < 6; omega, hX _⟩
theorem law_21 (hL : pL P ≤ 3584) (hX : ∀ j, iR (pX P j)) (hi : 0 ≤ i ∧ i + 7 ≤ pL P) (hJ : JS n h B sd im I R S) (next : NxT P i) : Go P qLaw 11 kLaw 843 [vx, vr 0, vr 361, vi i] [] I R S := by
  obtain ⟨hC0, hM0, hPC⟩ := hJ
  have hW := hPC.1
  have hN := hW.1
  have s0 := hC0.1.1.1
  have s361 := hM0.1.1
  have e362 := hM0.2.1
  refine Go.walk 400 [925] (E140_14) (E140_14_ok) (fun G C hG hC => ?_)
  (repeat ((conv => whnf); first | refine ⟨_, by assumption, ?_⟩ | refine ⟨_, _, by assumption, ?_⟩ | refine ⟨(show _ ∧ _ by omega), ?_⟩ | refine ⟨(show _ ∨ _ by omega), ?_⟩ | refine ⟨fun h => absurd h (by decide), fun _ => ?_⟩ | refine ⟨fun _ => ?_, fun h => absurd h (by decide)⟩ | refine ⟨fun _ => ?_, fun h => absurd rfl h⟩ | refine ⟨fun h => absurd rfl h, fun _ => ?_⟩)); try (conv => whnf)
  refine hC _ _ _ _ _ _ ?_
  refine ok_ctear hC0 hN.2.1 (fun I1 hX1 hC1 => ?_)
  have hM1 := hM0.x hX1
  have s361' := hM1.1.1
  have hl := hM1.2.2.2.1.2.1
  (repeat ((conv => whnf); first | refine ⟨_, by assumption, ?_⟩ | refine ⟨_, _, by assumption, ?_⟩ | refine ⟨(show _ ∧ _ by omega), ?_⟩ | refine ⟨(show _ ∨ _ by omega), ?_⟩ | refine ⟨fun h => absurd h (by decide), fun _ => ?_⟩ | refine ⟨fun _ => ?_, fun h => absurd h (by decide)⟩ | refine ⟨fun _ => ?_, fun h => absurd rfl h⟩ | refine ⟨fun h => absurd rfl h, fun _ => ?_⟩)); try (conv => whnf)
  refine hC _ _ _ _ _ _ ?_
  refine ok_mtear hM1.1 hM1.2.2.2.1 (fun I2 hF2 hB2 => ?_)
  obtain ⟨m1, m2, m3, m4, m5, m6⟩ := hM1
  have hI2 := hF2.out (by simp)
  (repeat ((conv => whnf); first | refine ⟨_, by assumption, ?_⟩ | refine ⟨_, _, by assumption, ?_⟩ | refine ⟨(show _ ∧ _ by omega), ?_⟩ | refine ⟨(show _ ∨ _ by omega), ?_⟩ | refine ⟨fun h => absurd h (by decide), fun _ => ?_⟩ | refine ⟨fun _ => ?_, fun h => absurd h (by decide)⟩ | refine ⟨fun _ => ?_, fun h => absurd rfl h⟩ | refine ⟨fun h => absurd rfl h, fun _ => ?_⟩)); try (conv => whnf)
  refine hG _ _ _ _ _ _ ?_
  exact next I2 R S n h [] sd im ⟨hC1.m hN.2.1 hI2, ⟨m1, by rw [hF2.1 362 (by decide)]; exact m2, m3.cg (hF2.2 3 (by decide)) (hF2.1 363 (by decide)), hB2, by rw [hF2.2 1 (by decide)]; exact m5, fun j p0 p1 => (m6 j p0 p1).cg (hF2.1 364 (by decide)) (hF2.1 365 (by decide))⟩, hPC.1, hPC.2.1, fun p hp => absurd hp List.not_mem_nil, hPC.2.2.2⟩
theorem law_22 (hL : pL P ≤ 3584) (hX : ∀ j, iR (pX P j)) (hi : 0 ≤ i ∧ i + 7 ≤ pL P) (hJ : JS n h B sd im I R S) (next : NxT P i) : Go P qLaw 11 kLaw 856 [vx, vr 0, vr 361, vi i] [] I R S := by
  obtain ⟨hC0, hM0, hPC⟩ := hJ
  have hW := hPC.1
  have hN := hW.1
  have s0 := hC0.1.1.1
  have s361 := hM0.1.1
  have e362 := hM0.2.1
  refine Go.walk 400 [925] (E140_14 ++ (E140_15)) (List.forall_mem_append.mpr ⟨E140_14_ok, E140_15_ok⟩) (fun G C hG hC => ?_)
  (repeat ((conv => whnf); first | refine ⟨_, by assumption, ?_⟩ | refine ⟨_, _, by assumption, ?_⟩ | refine ⟨(show _ ∧ _ by omega), ?_⟩ | refine ⟨(show _ ∨ _ by omega), ?_⟩ | refine ⟨fun h => absurd h (by decide), fun _ => ?_⟩ | refine ⟨fun _ => ?_, fun h => absurd h (by decide)⟩ | refine ⟨fun _ => ?_, fun h => absurd rfl h⟩ | refine ⟨fun h => absurd rfl h, fun _ => ?_⟩)); try (conv => whnf)
  refine hC _ _ _ _ _ _ ?_
  refine ok_cseed hC0 hN.2.1 (hX (i + 1).toNat) (fun q => ?_) (fun q I1 hX1 hC1 => ?_)
  · (repeat ((conv => whnf); first | refine ⟨_, by assumption, ?_⟩ | refine ⟨_, _, by assumption, ?_⟩ | refine ⟨(show _ ∧ _ by omega), ?_⟩ | refine ⟨(show _ ∨ _ by omega), ?_⟩ | refine ⟨fun h => absurd h (by decide), fun _ => ?_⟩ | refine ⟨fun _ => ?_, fun h => absurd h (by decide)⟩ | refine ⟨fun _ => ?_, fun h => absurd rfl h⟩ | refine ⟨fun h => absurd rfl h, fun _ => ?_⟩)); try (conv => whnf)
    refine hC _ _ _ _ _ _ ?_
    refine ok_mseed hM0.1 (hX (i + 1).toNat) (fun r => ?_) (fun r => absurd r (by omega))
    (repeat ((conv => whnf); first | refine ⟨_, by assumption, ?_⟩ | refine ⟨_, _, by assumption, ?_⟩ | refine ⟨(show _ ∧ _ by omega), ?_⟩ | refine ⟨(show _ ∨ _ by omega), ?_⟩ | refine ⟨fun h => absurd h (by decide), fun _ => ?_⟩ | refine ⟨fun _ => ?_, fun h => absurd h (by decide)⟩ | refine ⟨fun _ => ?_, fun h => absurd rfl h⟩ | refine ⟨fun h => absurd rfl h, fun _ => ?_⟩)); try (conv => whnf)
    refine hG _ _ _ _ _ _ ?_
    exact next I R S n h B sd im ⟨hC0, hM0, hPC⟩
  · have hM1 := hM0.x hX1
    have s361' := hM1.1.1
    have e5 : I1 361 1 = sd := hM1.2.2.2.2.1
    have hsd := hPC.2.2.2.1
    (repeat ((conv => whnf); first | refine ⟨_, by assumption, ?_⟩ | refine ⟨_, _, by assumption, ?_⟩ | refine ⟨(show _ ∧ _ by omega), ?_⟩ | refine ⟨(show _ ∨ _ by omega), ?_⟩ | refine ⟨fun h => absurd h (by decide), fun _ => ?_⟩ | refine ⟨fun _ => ?_, fun h => absurd h (by decide)⟩ | refine ⟨fun _ => ?_, fun h => absurd rfl h⟩ | refine ⟨fun h => absurd rfl h, fun _ => ?_⟩)); try (conv => whnf)
    refine hC _ _ _ _ _ _ ?_
    refine ok_mseed hM1.1 (hX (i + 1).toNat) (fun r => absurd r (by omega)) (fun r => ?_)
    rw [e5]
    obtain ⟨m1, m2, m3, m4, m5, m6⟩ := hM1
    have ne : ∀ a, a ≠ 361 → uI I1 361 1 (pX P (i + 1).toNat) a = I1 a := fun a ha => uI_o ha
    (repeat ((conv => whnf); first | refine ⟨_, by assumption, ?_⟩ | refine ⟨_, _, by assumption, ?_⟩ | refine ⟨(show _ ∧ _ by omega), ?_⟩ | refine ⟨(show _ ∨ _ by omega), ?_⟩ | refine ⟨fun h => absurd h (by decide), fun _ => ?_⟩ | refine ⟨fun _ => ?_, fun h => absurd h (by decide)⟩ | refine ⟨fun _ => ?_, fun h => absurd rfl h⟩ | refine ⟨fun h => absurd rfl h, fun _ => ?_⟩)); try (conv => whnf)
    refine hG _ _ _ _ _ _ ?_
    have hv := hX (i + 1).toNat
    exact next _ R S n h B (pX P (i + 1).toNat) im ⟨hC1.m hN.2.1 (fun a ha => ne a (by omega)), ⟨m1, by rw [ne 362 (by omega)]; exact m2, m3.cg (uI_ne (by omega)) (ne 363 (by omega)), m4.cg (uI_ne (by omega)) (ne 366 (by omega)) (ne 367 (by omega)), uI_at, fun j p0 p1 => (m6 j p0 p1).cg (ne 364 (by omega)) (ne 365 (by omega))⟩, hPC.1, hPC.2.1, hPC.2.2.1, ⟨q, hv.2⟩, hPC.2.2.2.2⟩
theorem law_23 (hL : pL P ≤ 3584) (hX : ∀ j, iR (pX P j)) (hi : 0 ≤ i ∧ i + 7 ≤ pL P) (hJ : JS n h B sd im I R S) (next : NxT P i) : Go P qLaw 11 kLaw 879 [vx, vr 0, vr 361, vi i] [] I R S := by
  obtain ⟨hC0, hM0, hPC⟩ := hJ
  have hW := hPC.1
  have hN := hW.1
  have s0 := hC0.1.1.1
  have s361 := hM0.1.1
  have e362 := hM0.2.1
  refine Go.walk 400 [925] (E140_15) (E140_15_ok) (fun G C hG hC => ?_)
  (repeat ((conv => whnf); first | refine ⟨_, by assumption, ?_⟩ | refine ⟨_, _, by assumption, ?_⟩ | refine ⟨(show _ ∧ _ by omega), ?_⟩ | refine ⟨(show _ ∨ _ by omega), ?_⟩ | refine ⟨fun h => absurd h (by decide), fun _ => ?_⟩ | refine ⟨fun _ => ?_, fun h => absurd h (by decide)⟩ | refine ⟨fun _ => ?_, fun h => absurd rfl h⟩ | refine ⟨fun h => absurd rfl h, fun _ => ?_⟩)); try (conv => whnf)
  refine hC _ _ _ _ _ _ ?_
  refine ok_ckeep hC0 hN.2.1 (hX (i + 1).toNat) (fun q => ?_) (fun q I1 hX1 hC1 => ?_)
  · (repeat ((conv => whnf); first | refine ⟨_, by assumption, ?_⟩ | refine ⟨_, _, by assumption, ?_⟩ | refine ⟨(show _ ∧ _ by omega), ?_⟩ | refine ⟨(show _ ∨ _ by omega), ?_⟩ | refine ⟨fun h => absurd h (by decide), fun _ => ?_⟩ | refine ⟨fun _ => ?_, fun h => absurd h (by decide)⟩ | refine ⟨fun _ => ?_, fun h => absurd rfl h⟩ | refine ⟨fun h => absurd rfl h, fun _ => ?_⟩)); try (conv => whnf)
    refine hC _ _ _ _ _ _ ?_
    refine ok_mkeep hM0.1 (hX (i + 1).toNat) (fun r => ?_) (fun r => absurd r q)
    (repeat ((conv => whnf); first | refine ⟨_, by assumption, ?_⟩ | refine ⟨_, _, by assumption, ?_⟩ | refine ⟨(show _ ∧ _ by omega), ?_⟩ | refine ⟨(show _ ∨ _ by omega), ?_⟩ | refine ⟨fun h => absurd h (by decide), fun _ => ?_⟩ | refine ⟨fun _ => ?_, fun h => absurd h (by decide)⟩ | refine ⟨fun _ => ?_, fun h => absurd rfl h⟩ | refine ⟨fun h => absurd rfl h, fun _ => ?_⟩)); try (conv => whnf)
    refine hG _ _ _ _ _ _ ?_
    exact next I R S n h B sd im ⟨hC0, hM0, hPC⟩
  · have hM1 := hM0.x hX1
    have s361' := hM1.1.1
    have e1 := hM1.2.1
    have e5 : I1 361 1 = sd := hM1.2.2.2.2.1
    (repeat ((conv => whnf); first | refine ⟨_, by assumption, ?_⟩ | refine ⟨_, _, by assumption, ?_⟩ | refine ⟨(show _ ∧ _ by omega), ?_⟩ | refine ⟨(show _ ∨ _ by omega), ?_⟩ | refine ⟨fun h => absurd h (by decide), fun _ => ?_⟩ | refine ⟨fun _ => ?_, fun h => absurd h (by decide)⟩ | refine ⟨fun _ => ?_, fun h => absurd rfl h⟩ | refine ⟨fun h => absurd rfl h, fun _ => ?_⟩)); try (conv => whnf)
    refine hC _ _ _ _ _ _ ?_
    refine ok_mkeep hM1.1 (hX (i + 1).toNat) (fun r => absurd q r) (fun r I2 hF2 g3 g4 g5 => ?_)
    rw [e1, e5] at g4
    obtain ⟨m1, m2, m3, m4, m5, m6⟩ := hM1
    have hI2 := hF2.out (by simp <;> omega)
    (repeat ((conv => whnf); first | refine ⟨_, by assumption, ?_⟩ | refine ⟨_, _, by assumption, ?_⟩ | refine ⟨(show _ ∧ _ by omega), ?_⟩ | refine ⟨(show _ ∨ _ by omega), ?_⟩ | refine ⟨fun h => absurd h (by decide), fun _ => ?_⟩ | refine ⟨fun _ => ?_, fun h => absurd h (by decide)⟩ | refine ⟨fun _ => ?_, fun h => absurd rfl h⟩ | refine ⟨fun h => absurd rfl h, fun _ => ?_⟩)); try (conv => whnf)
    refine hG _ _ _ _ _ _ ?_
    refine next I2 R S n [] B sd (imU im (pX P (i + 1).toNat) (some (n, sd))) ⟨hC1.m hN.2.1 hI2, ⟨m1, by rw [hF2.1 362 (by decide)]; exact m2, ⟨g3, by simp, fun j m hj => by simp at hj⟩, m4.cg (hF2.2 8 (by decide)) (hF2.1 366 (by decide)) (hF2.1 367 (by decide)), by rw [hF2.2 1 (by decide)]; exact m5, fun j p0 p1 => ?_⟩, hPC.1, fun m hm => absurd hm List.not_mem_nil, hPC.2.2.1, hPC.2.2.2.1, fun j o ho => ?_⟩
    · unfold imU
      by_cases z : j = (pX P (i + 1).toNat)
      · rw [if_pos z, z]; exact g4
      · rw [if_neg z]; exact g5 j (im j) p0 p1 z (m6 j p0 p1)
    · unfold imU at ho
      by_cases z : j = (pX P (i + 1).toNat)
      · rw [if_pos z] at ho
        cases ho
        exact ⟨hPC.1, hPC.2.2.2.1⟩
      · rw [if_neg z] at ho
        exact hPC.2.2.2.2 j o ho
theorem law_24 (hL : pL P ≤ 3584) (hX : ∀ j, iR (pX P j)) (hi : 0 ≤ i ∧ i + 7 ≤ pL P) (hJ : JS n h B sd im I R S) (next : NxT P i) : Go P qLaw 11 kLaw 902 [vx, vr 0, vr 361, vi i] [] I R S := by
  obtain ⟨hC0, hM0, hPC⟩ := hJ
  have hW := hPC.1
  have hN := hW.1
  have s0 := hC0.1.1.1
  have s361 := hM0.1.1
  have e362 := hM0.2.1
  refine Go.walk 400 [925] (E140_15 ++ (E140_16)) (List.forall_mem_append.mpr ⟨E140_15_ok, E140_16_ok⟩) (fun G C hG hC => ?_)
  (repeat ((conv => whnf); first | refine ⟨_, by assumption, ?_⟩ | refine ⟨_, _, by assumption, ?_⟩ | refine ⟨(show _ ∧ _ by omega), ?_⟩ | refine ⟨(show _ ∨ _ by omega), ?_⟩ | refine ⟨fun h => absurd h (by decide), fun _ => ?_⟩ | refine ⟨fun _ => ?_, fun h => absurd h (by decide)⟩ | refine ⟨fun _ => ?_, fun h => absurd rfl h⟩ | refine ⟨fun h => absurd rfl h, fun _ => ?_⟩)); try (conv => whnf)
  refine hC _ _ _ _ _ _ ?_
  refine ok_cgoBack hC0 (hX (i + 1).toNat) (fun q => ?_) (fun q q2 => ?_) (fun q qq I1 hq hX1 hC1 h5 => ?_)
  · (repeat ((conv => whnf); first | refine ⟨_, by assumption, ?_⟩ | refine ⟨_, _, by assumption, ?_⟩ | refine ⟨(show _ ∧ _ by omega), ?_⟩ | refine ⟨(show _ ∨ _ by omega), ?_⟩ | refine ⟨fun h => absurd h (by decide), fun _ => ?_⟩ | refine ⟨fun _ => ?_, fun h => absurd h (by decide)⟩ | refine ⟨fun _ => ?_, fun h => absurd rfl h⟩ | refine ⟨fun h => absurd rfl h, fun _ => ?_⟩)); try (conv => whnf)
    refine hC _ _ _ _ _ _ ?_
    refine ok_mgoBack (o := im (pX P (i + 1).toNat)) hM0.1 (hX (i + 1).toNat) (fun r => absurd r q) (fun r => ?_) (fun r r2 => absurd r q) (fun r => absurd r q)
    (repeat ((conv => whnf); first | refine ⟨_, by assumption, ?_⟩ | refine ⟨_, _, by assumption, ?_⟩ | refine ⟨(show _ ∧ _ by omega), ?_⟩ | refine ⟨(show _ ∨ _ by omega), ?_⟩ | refine ⟨fun h => absurd h (by decide), fun _ => ?_⟩ | refine ⟨fun _ => ?_, fun h => absurd h (by decide)⟩ | refine ⟨fun _ => ?_, fun h => absurd rfl h⟩ | refine ⟨fun h => absurd rfl h, fun _ => ?_⟩)); try (conv => whnf)
    refine hG _ _ _ _ _ _ ?_
    exact next I R S n h B sd im ⟨hC0, hM0, hPC⟩
  · (repeat ((conv => whnf); first | refine ⟨_, by assumption, ?_⟩ | refine ⟨_, _, by assumption, ?_⟩ | refine ⟨(show _ ∧ _ by omega), ?_⟩ | refine ⟨(show _ ∨ _ by omega), ?_⟩ | refine ⟨fun h => absurd h (by decide), fun _ => ?_⟩ | refine ⟨fun _ => ?_, fun h => absurd h (by decide)⟩ | refine ⟨fun _ => ?_, fun h => absurd rfl h⟩ | refine ⟨fun h => absurd rfl h, fun _ => ?_⟩)); try (conv => whnf)
    refine hC _ _ _ _ _ _ ?_
    refine ok_mgoBack (o := im (pX P (i + 1).toNat)) hM0.1 (hX (i + 1).toNat) (fun r => hM0.2.2.2.2.2 _ r.1 r.2) (fun r => absurd q r) (fun r r2 => ?_) (fun r qm I2 hqm => by rw [q2] at hqm; cases hqm)
    (repeat ((conv => whnf); first | refine ⟨_, by assumption, ?_⟩ | refine ⟨_, _, by assumption, ?_⟩ | refine ⟨(show _ ∧ _ by omega), ?_⟩ | refine ⟨(show _ ∨ _ by omega), ?_⟩ | refine ⟨fun h => absurd h (by decide), fun _ => ?_⟩ | refine ⟨fun _ => ?_, fun h => absurd h (by decide)⟩ | refine ⟨fun _ => ?_, fun h => absurd rfl h⟩ | refine ⟨fun h => absurd rfl h, fun _ => ?_⟩)); try (conv => whnf)
    refine hG _ _ _ _ _ _ ?_
    exact next I R S n h B sd im ⟨hC0, hM0, hPC⟩
  · have hM1 := hM0.x hX1
    have s361' := hM1.1.1
    (repeat ((conv => whnf); first | refine ⟨_, by assumption, ?_⟩ | refine ⟨_, _, by assumption, ?_⟩ | refine ⟨(show _ ∧ _ by omega), ?_⟩ | refine ⟨(show _ ∨ _ by omega), ?_⟩ | refine ⟨fun h => absurd h (by decide), fun _ => ?_⟩ | refine ⟨fun _ => ?_, fun h => absurd h (by decide)⟩ | refine ⟨fun _ => ?_, fun h => absurd rfl h⟩ | refine ⟨fun h => absurd rfl h, fun _ => ?_⟩)); try (conv => whnf)
    refine hC _ _ _ _ _ _ ?_
    refine ok_mgoBack (o := im (pX P (i + 1).toNat)) hM1.1 (hX (i + 1).toNat) (fun r => hM1.2.2.2.2.2 _ r.1 r.2) (fun r => absurd q r) (fun r r2 => by rw [hq] at r2; cases r2) (fun r qm I2 hqm hF2 g1 g2 g3 => ?_)
    rw [hq] at hqm
    cases hqm
    obtain ⟨m1, m2, m3, m4, m5, m6⟩ := hM1
    have hI2 := hF2.out (by simp <;> omega)
    have hWq := hPC.2.2.2.2 _ _ hq
    have hW2 := hWq.1.cgn g3
    (repeat ((conv => whnf); first | refine ⟨_, by assumption, ?_⟩ | refine ⟨_, _, by assumption, ?_⟩ | refine ⟨(show _ ∧ _ by omega), ?_⟩ | refine ⟨(show _ ∨ _ by omega), ?_⟩ | refine ⟨fun h => absurd h (by decide), fun _ => ?_⟩ | refine ⟨fun _ => ?_, fun h => absurd h (by decide)⟩ | refine ⟨fun _ => ?_, fun h => absurd rfl h⟩ | refine ⟨fun h => absurd rfl h, fun _ => ?_⟩)); try (conv => whnf)
    refine hG _ _ _ _ _ _ ?_
    exact next I2 R S (I2 362) [] B qq.2 im ⟨((hC1.m hWq.1.1.2.1 hI2).cgn (by rw [hI2 34 (by omega)]; exact h5) g3), ⟨m1, rfl, ⟨g1, by simp, fun j m hj => by simp at hj⟩, m4.cg (hF2.2 8 (by decide)) (hF2.1 366 (by decide)) (hF2.1 367 (by decide)), g2, fun j p0 p1 => (m6 j p0 p1).cg (hF2.1 364 (by decide)) (hF2.1 365 (by decide))⟩, hW2, fun m hm => absurd hm List.not_mem_nil, hPC.2.2.1, hWq.2, hPC.2.2.2.2⟩
end Lw
