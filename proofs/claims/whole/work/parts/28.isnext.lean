/-! the reference: isNext -/
/-- j is the next digit behind k: a KIND that there is, or 4 -/
def Nk (n : aN) (k j : Int) : Prop := k < j ∧ j ≤ 4 ∧ (j < 4 → isK n j) ∧ ∀ i, k < i → i < j → ¬ isK n i
theorem ok_isNext {P : aP} {d : Nat} {K : aK} {I : aI} {R : aR} {S : aS} {top : Int} (hM : MS R S) (hW : WF (I 362)) (ht : 0 ≤ top ∧ top < 6) (hpl : ∀ v, 1 ≤ v → v < I 362 0 → bel (I 362) v top = true → 0 ≤ I 368 v ∧ I 368 v ≤ 3)
    (h1 : ∀ I' v0, Fr [368] I I' → 1 ≤ v0 → v0 < I 362 0 → bel (I 362) v0 top = true → Nk (I 362) (I 368 v0) (I' 368 v0) → I' 368 v0 < 4 → (∀ u, 1 ≤ u → u < v0 → bel (I 362) u top = true → Nk (I 362) (I 368 u) 4 ∧ I' 368 u = 0) → (∀ u, ¬ (1 ≤ u ∧ u ≤ v0 ∧ bel (I 362) u top = true) → I' 368 u = I 368 u) → K (some (vi 1)) I' R S)
    (h0 : ∀ I', Fr [368] I I' → (∀ u, 1 ≤ u → u < I 362 0 → bel (I 362) u top = true → Nk (I 362) (I 368 u) 4) → K (some (vi 0)) I' R S) : Ok P 94 (d + 3) [vr 361, vi top] I R S K := by
  obtain ⟨m0, r1, m1, r2, m2, r3, m3, r4, m4, r5, m5, r6, m6, r7, m7, r8, m8, r9, m9, r10, m10, r11, m11, r12, m12, r13, m13, r14, m14, r15, m15⟩ := id hM
  have hN := hW.1
  have outer : ∀ (k : Nat) (v : Int) (I' : aI), 1 ≤ v → I 362 0 - v = k → Fr [368] I I' → (∀ u, 1 ≤ u → u < v → bel (I 362) u top = true → Nk (I 362) (I 368 u) 4 ∧ I' 368 u = 0) → (∀ u, ¬ (1 ≤ u ∧ u < v ∧ bel (I 362) u top = true) → I' 368 u = I 368 u) → Go P 94 (d + 3) K 2 [vr 361, vi top, vi v] [] I' R S := by
    intro k
    induction k with
    | zero =>
      intro v I' hv hk hF hA hB
      have e := hF 362 (by decide)
      refine Go.walk 400 [2, 31] E94 E94_ok (fun G C hG hC => ?_)
      (repeat ((conv => whnf); first | refine ⟨_, by assumption, ?_⟩ | refine ⟨_, _, by assumption, ?_⟩ | refine ⟨(show _ ∧ _ by omega), ?_⟩ | refine ⟨(show _ ∨ _ by omega), ?_⟩ | refine ⟨fun h => absurd h (by decide), fun _ => ?_⟩ | refine ⟨fun _ => ?_, fun h => absurd h (by decide)⟩ | refine ⟨fun _ => ?_, fun h => absurd rfl h⟩ | refine ⟨fun h => absurd rfl h, fun _ => ?_⟩)); try (conv => whnf)
      rw [e]
      refine ⟨by omega, ?_⟩
      refine ⟨fun _ => ?_, fun h => absurd (show I 362 0 ≤ v by omega) h⟩
      (repeat ((conv => whnf); first | refine ⟨_, by assumption, ?_⟩ | refine ⟨_, _, by assumption, ?_⟩ | refine ⟨(show _ ∧ _ by omega), ?_⟩ | refine ⟨(show _ ∨ _ by omega), ?_⟩ | refine ⟨fun h => absurd h (by decide), fun _ => ?_⟩ | refine ⟨fun _ => ?_, fun h => absurd h (by decide)⟩ | refine ⟨fun _ => ?_, fun h => absurd rfl h⟩ | refine ⟨fun h => absurd rfl h, fun _ => ?_⟩)); try (conv => whnf)
      exact h0 I' hF (fun u g1 g2 g3 => (hA u g1 (by omega) g3).1)
    | succ k ih =>
      intro v I' hv hk hF hA hB
      have e := hF 362 (by decide)
      refine Go.walk 400 [2, 31] E94 E94_ok (fun G C hG hC => ?_)
      (repeat ((conv => whnf); first | refine ⟨_, by assumption, ?_⟩ | refine ⟨_, _, by assumption, ?_⟩ | refine ⟨(show _ ∧ _ by omega), ?_⟩ | refine ⟨(show _ ∨ _ by omega), ?_⟩ | refine ⟨fun h => absurd h (by decide), fun _ => ?_⟩ | refine ⟨fun _ => ?_, fun h => absurd h (by decide)⟩ | refine ⟨fun _ => ?_, fun h => absurd rfl h⟩ | refine ⟨fun h => absurd rfl h, fun _ => ?_⟩)); try (conv => whnf)
      rw [e]
      refine ⟨by omega, ?_⟩
      refine ⟨fun h => absurd h (by omega), fun _ => ?_⟩
      (repeat ((conv => whnf); first | refine ⟨_, by assumption, ?_⟩ | refine ⟨_, _, by assumption, ?_⟩ | refine ⟨(show _ ∧ _ by omega), ?_⟩ | refine ⟨(show _ ∨ _ by omega), ?_⟩ | refine ⟨fun h => absurd h (by decide), fun _ => ?_⟩ | refine ⟨fun _ => ?_, fun h => absurd h (by decide)⟩ | refine ⟨fun _ => ?_, fun h => absurd rfl h⟩ | refine ⟨fun h => absurd rfl h, fun _ => ?_⟩)); try (conv => whnf)
      refine hC _ _ _ _ _ _ ?_
      refine ok_isBelow hM (by rw [e]; exact hW) (by omega) (by omega) (fun hbel => ?_) (fun hbel => ?_)
      · rw [e] at hbel
        have hp := hpl v hv (by omega) hbel
        have hbv : I' 368 v = I 368 v := hB v (by omega)
        have inner : ∀ (m : Nat) (I2 : aI), 4 - I2 368 v = m → I 368 v < I2 368 v → (∀ i, I 368 v < i → i < I2 368 v → ¬ isK (I 362) i) → Fr [368] I I2 → (∀ u, u ≠ v → I2 368 u = I' 368 u) → Go P 94 (d + 3) K 31 [vr 361, vi top, vi v] [] I2 R S := by
          intro m
          have hdone : ∀ I2 : aI, I2 368 v < 4 → Nk (I 362) (I 368 v) (I2 368 v) → Fr [368] I I2 → (∀ u, u ≠ v → I2 368 u = I' 368 u) → K (some (vi 1)) I2 R S := by
            intro I2 h4 hnk hF2 ho
            refine h1 I2 v hF2 hv (by omega) hbel hnk h4 (fun u g1 g2 g3 => ?_) (fun u g => ?_)
            · rw [ho u (by omega)]
              exact hA u g1 g2 g3
            · by_cases hu : u = v
              · subst hu; exact absurd ⟨hv, by omega, hbel⟩ g
              · rw [ho u hu]
                exact hB u (fun q => g ⟨q.1, by omega, q.2.2⟩)
          induction m with
          | zero =>
            intro I2 hm hlt hno hF2 ho
            have e2 := hF2 362 (by decide)
            have e62 : ∀ z, uI I2 368 v z 362 = I 362 := fun z => by funext x; rw [uI_ne (by omega), e2]
            refine Go.walk 400 [2, 31] E94 E94_ok (fun G C hG hC => ?_)
            (repeat ((conv => whnf); first | refine ⟨_, by assumption, ?_⟩ | refine ⟨_, _, by assumption, ?_⟩ | refine ⟨(show _ ∧ _ by omega), ?_⟩ | refine ⟨(show _ ∨ _ by omega), ?_⟩ | refine ⟨fun h => absurd h (by decide), fun _ => ?_⟩ | refine ⟨fun _ => ?_, fun h => absurd h (by decide)⟩ | refine ⟨fun _ => ?_, fun h => absurd rfl h⟩ | refine ⟨fun h => absurd rfl h, fun _ => ?_⟩)); try (conv => whnf)
            refine ⟨fun _ => ?_, fun h => absurd (show (4 : Int) ≤ I2 368 v by omega) h⟩
            (repeat ((conv => whnf); first | refine ⟨_, by assumption, ?_⟩ | refine ⟨_, _, by assumption, ?_⟩ | refine ⟨(show _ ∧ _ by omega), ?_⟩ | refine ⟨(show _ ∨ _ by omega), ?_⟩ | refine ⟨fun h => absurd h (by decide), fun _ => ?_⟩ | refine ⟨fun _ => ?_, fun h => absurd h (by decide)⟩ | refine ⟨fun _ => ?_, fun h => absurd rfl h⟩ | refine ⟨fun h => absurd rfl h, fun _ => ?_⟩)); try (conv => whnf)
            refine ⟨fun _ => ?_, fun h => absurd (show (4 : Int) ≤ I2 368 v by omega) h⟩
            (repeat ((conv => whnf); first | refine ⟨_, by assumption, ?_⟩ | refine ⟨_, _, by assumption, ?_⟩ | refine ⟨(show _ ∧ _ by omega), ?_⟩ | refine ⟨(show _ ∨ _ by omega), ?_⟩ | refine ⟨fun h => absurd h (by decide), fun _ => ?_⟩ | refine ⟨fun _ => ?_, fun h => absurd h (by decide)⟩ | refine ⟨fun _ => ?_, fun h => absurd rfl h⟩ | refine ⟨fun h => absurd rfl h, fun _ => ?_⟩)); try (conv => whnf)
            refine hG _ _ _ _ _ _ ?_
            refine ih (v + 1) _ (by omega) (by omega) (hF2.put (by decide)) (fun u g1 g2 g3 => ?_) (fun u g => ?_)
            · by_cases hu : u = v
              · subst hu
                refine ⟨⟨by omega, by omega, fun q => absurd q (by omega), fun i g4 g5 => hno i g4 (by omega)⟩, uI_at⟩
              · rw [uI_ne (by omega), ho u hu]
                exact hA u g1 (by omega) g3
            · have hu : u ≠ v := fun q => g ⟨by omega, by omega, by rw [q]; exact hbel⟩
              rw [uI_ne (by omega), ho u hu]
              exact hB u (fun q => g ⟨q.1, by omega, q.2.2⟩)
          | succ m ihm =>
            intro I2 hm hlt hno hF2 ho
            have e2 := hF2 362 (by decide)
            refine Go.walk 400 [2, 31] E94 E94_ok (fun G C hG hC => ?_)
            (repeat ((conv => whnf); first | refine ⟨_, by assumption, ?_⟩ | refine ⟨_, _, by assumption, ?_⟩ | refine ⟨(show _ ∧ _ by omega), ?_⟩ | refine ⟨(show _ ∨ _ by omega), ?_⟩ | refine ⟨fun h => absurd h (by decide), fun _ => ?_⟩ | refine ⟨fun _ => ?_, fun h => absurd h (by decide)⟩ | refine ⟨fun _ => ?_, fun h => absurd rfl h⟩ | refine ⟨fun h => absurd rfl h, fun _ => ?_⟩)); try (conv => whnf)
            refine ⟨fun h => absurd h (by omega), fun _ => ?_⟩
            (repeat ((conv => whnf); first | refine ⟨_, by assumption, ?_⟩ | refine ⟨_, _, by assumption, ?_⟩ | refine ⟨(show _ ∧ _ by omega), ?_⟩ | refine ⟨(show _ ∨ _ by omega), ?_⟩ | refine ⟨fun h => absurd h (by decide), fun _ => ?_⟩ | refine ⟨fun _ => ?_, fun h => absurd h (by decide)⟩ | refine ⟨fun _ => ?_, fun h => absurd rfl h⟩ | refine ⟨fun h => absurd rfl h, fun _ => ?_⟩)); try (conv => whnf)
            refine hC _ _ _ _ _ _ ?_
            refine ok_isKind hM (by omega) (by rw [e2]; exact hW) (fun hk1 => ?_) (fun hk0 => ?_)
            · rw [e2] at hk1
              (repeat ((conv => whnf); first | refine ⟨_, by assumption, ?_⟩ | refine ⟨_, _, by assumption, ?_⟩ | refine ⟨(show _ ∧ _ by omega), ?_⟩ | refine ⟨(show _ ∨ _ by omega), ?_⟩ | refine ⟨fun h => absurd h (by decide), fun _ => ?_⟩ | refine ⟨fun _ => ?_, fun h => absurd h (by decide)⟩ | refine ⟨fun _ => ?_, fun h => absurd rfl h⟩ | refine ⟨fun h => absurd rfl h, fun _ => ?_⟩)); try (conv => whnf)
              refine ⟨fun h => absurd h (by omega), fun _ => ?_⟩
              (repeat ((conv => whnf); first | refine ⟨_, by assumption, ?_⟩ | refine ⟨_, _, by assumption, ?_⟩ | refine ⟨(show _ ∧ _ by omega), ?_⟩ | refine ⟨(show _ ∨ _ by omega), ?_⟩ | refine ⟨fun h => absurd h (by decide), fun _ => ?_⟩ | refine ⟨fun _ => ?_, fun h => absurd h (by decide)⟩ | refine ⟨fun _ => ?_, fun h => absurd rfl h⟩ | refine ⟨fun h => absurd rfl h, fun _ => ?_⟩)); try (conv => whnf)
              exact hdone I2 (by omega) ⟨hlt, by omega, fun _ => hk1, hno⟩ hF2 ho
            · rw [e2] at hk0
              (repeat ((conv => whnf); first | refine ⟨_, by assumption, ?_⟩ | refine ⟨_, _, by assumption, ?_⟩ | refine ⟨(show _ ∧ _ by omega), ?_⟩ | refine ⟨(show _ ∨ _ by omega), ?_⟩ | refine ⟨fun h => absurd h (by decide), fun _ => ?_⟩ | refine ⟨fun _ => ?_, fun h => absurd h (by decide)⟩ | refine ⟨fun _ => ?_, fun h => absurd rfl h⟩ | refine ⟨fun h => absurd rfl h, fun _ => ?_⟩)); try (conv => whnf)
              refine hG _ _ _ _ _ _ ?_
              refine ihm (uI I2 368 v (I2 368 v + 1)) (by rw [uI_at]; omega) (by rw [uI_at]; omega) (fun i g1 g2 => ?_) (hF2.put (by decide)) (fun u hu => by rw [uI_ne (by omega)]; exact ho u hu)
              rw [uI_at] at g2
              by_cases hi : i = I2 368 v
              · rw [hi]; exact hk0
              · exact hno i g1 (by omega)
        (repeat ((conv => whnf); first | refine ⟨_, by assumption, ?_⟩ | refine ⟨_, _, by assumption, ?_⟩ | refine ⟨(show _ ∧ _ by omega), ?_⟩ | refine ⟨(show _ ∨ _ by omega), ?_⟩ | refine ⟨fun h => absurd h (by decide), fun _ => ?_⟩ | refine ⟨fun _ => ?_, fun h => absurd h (by decide)⟩ | refine ⟨fun _ => ?_, fun h => absurd rfl h⟩ | refine ⟨fun h => absurd rfl h, fun _ => ?_⟩)); try (conv => whnf)
        refine hG _ _ _ _ _ _ ?_
        refine inner (4 - (I' 368 v + 1)).toNat (uI I' 368 v (I' 368 v + 1)) (by rw [uI_at]; omega) (by rw [uI_at]; omega) (fun i g1 g2 => ?_) (hF.put (by decide)) (fun u hu => by rw [uI_ne (by omega)])
        rw [uI_at] at g2
        omega
      · rw [e] at hbel
        (repeat ((conv => whnf); first | refine ⟨_, by assumption, ?_⟩ | refine ⟨_, _, by assumption, ?_⟩ | refine ⟨(show _ ∧ _ by omega), ?_⟩ | refine ⟨(show _ ∨ _ by omega), ?_⟩ | refine ⟨fun h => absurd h (by decide), fun _ => ?_⟩ | refine ⟨fun _ => ?_, fun h => absurd h (by decide)⟩ | refine ⟨fun _ => ?_, fun h => absurd rfl h⟩ | refine ⟨fun h => absurd rfl h, fun _ => ?_⟩)); try (conv => whnf)
        refine hG _ _ _ _ _ _ ?_
        refine ih (v + 1) I' (by omega) (by omega) hF (fun u g1 g2 g3 => ?_) (fun u g => ?_)
        · by_cases hu : u = v
          · subst hu; rw [hbel] at g3; cases g3
          · exact hA u g1 (by omega) g3
        · refine hB u (fun q => g ⟨q.1, by omega, q.2.2⟩)
  refine Ok.of (by decide) rfl (Nat.le_of_ble_eq_true rfl) ?_
  refine Go.walk 400 [2] E94 E94_ok (fun G C hG hC => ?_)
  (repeat ((conv => whnf); first | refine ⟨_, by assumption, ?_⟩ | refine ⟨_, _, by assumption, ?_⟩ | refine ⟨(show _ ∧ _ by omega), ?_⟩ | refine ⟨(show _ ∨ _ by omega), ?_⟩ | refine ⟨fun h => absurd h (by decide), fun _ => ?_⟩ | refine ⟨fun _ => ?_, fun h => absurd h (by decide)⟩ | refine ⟨fun _ => ?_, fun h => absurd rfl h⟩ | refine ⟨fun h => absurd rfl h, fun _ => ?_⟩)); try (conv => whnf)
  refine hG _ _ _ _ _ _ ?_
  exact outer (I 362 0 - 1).toNat 1 I (by omega) (by omega) Fr.rf (fun u g1 g2 => absurd g2 (by omega)) (fun u _ => rfl)
