/-! the reference: images, would, at, kindAt -/
def ImgM (I : aI) (i : Int) (o : Option (aN × Int)) : Prop := match o with
  | none => I 365 i = 0
  | some q => I 365 i = 1 ∧ (∀ k : Int, 0 ≤ k → k < 68 → I 364 (69 * i + k) = q.1 k) ∧ I 364 (69 * i + 68) = q.2
/-- keep(i) -/
theorem ok_mkeep {P : aP} {d : Nat} {K : aK} {I : aI} {R : aR} {S : aS} {i : Int} (hM : MS R S) (hi : iR i) (h0 : ¬ (0 ≤ i ∧ i ≤ 1) → K (some (vi (-1000000001))) I R S)
    (h1 : 0 ≤ i ∧ i ≤ 1 → ∀ I', MF [364, 365] [3] I I' → I' 361 3 = 0 → ImgM I' i (some (I 362, I 361 1)) → (∀ j o, 0 ≤ j → j ≤ 1 → j ≠ i → ImgM I j o → ImgM I' j o) → K (some (vi 1)) I' R S) : Ok P 134 (d + 2) [vr 361, vi i] I R S K := by
  obtain ⟨m0, r1, m1, r2, m2, r3, m3, r4, m4, r5, m5, r6, m6, r7, m7, r8, m8, r9, m9, r10, m10, r11, m11, r12, m12, r13, m13, r14, m14, r15, m15⟩ := id hM
  have loop : 0 ≤ i ∧ i ≤ 1 → ∀ (m : Nat) (k : Int) (I' : aI), 0 ≤ k → 68 - k = m → MF [364, 365] [3] I I' → (∀ x : Int, 0 ≤ x → x < k → I' 364 (69 * i + x) = I 362 x) → (∀ x : Int, (x < 69 * i ∨ 69 * i + 69 ≤ x) → I' 364 x = I 364 x) → I' 365 = I 365 → Go P 134 (d + 2) K 14 [vr 361, vi i, vi k] [] I' R S := by
    intro hi1 m
    induction m with
    | zero =>
      intro k I' g0 gm hF hx hy hz
      have es : I' 361 ((1 : Nat) : Int) = I 361 1 := hF.2 1 (by decide)
      refine Go.walk 400 [14] E134 E134_ok (fun G C hG hC => ?_)
      (repeat ((conv => whnf); first | refine ⟨_, by assumption, ?_⟩ | refine ⟨_, _, by assumption, ?_⟩ | refine ⟨(show _ ∧ _ by omega), ?_⟩ | refine ⟨(show _ ∨ _ by omega), ?_⟩ | refine ⟨fun h => absurd h (by decide), fun _ => ?_⟩ | refine ⟨fun _ => ?_, fun h => absurd h (by decide)⟩ | refine ⟨fun _ => ?_, fun h => absurd rfl h⟩ | refine ⟨fun h => absurd rfl h, fun _ => ?_⟩)); try (conv => whnf)
      refine ⟨fun _ => ?_, fun q => absurd (show (68 : Int) ≤ k by omega) q⟩
      (repeat ((conv => whnf); first | refine ⟨_, by assumption, ?_⟩ | refine ⟨_, _, by assumption, ?_⟩ | refine ⟨(show _ ∧ _ by omega), ?_⟩ | refine ⟨(show _ ∨ _ by omega), ?_⟩ | refine ⟨fun h => absurd h (by decide), fun _ => ?_⟩ | refine ⟨fun _ => ?_, fun h => absurd h (by decide)⟩ | refine ⟨fun _ => ?_, fun h => absurd rfl h⟩ | refine ⟨fun h => absurd rfl h, fun _ => ?_⟩)); try (conv => whnf)
      refine h1 hi1 (uI (uI (uI I' 364 (69 * i + 68) (I' 361 1)) 365 i 1) 361 3 0) (((hF.put (by decide) (by decide)).put (by decide) (by decide)).putF (by decide)) uI_at ?_ ?_
      · refine ⟨?_, fun x a b => ?_, ?_⟩
        · rw [uI_ne (by omega), uI_at]
        · rw [uI_ne (by omega), uI_ne (by omega), uI_ne (by omega)]; exact hx x a (by omega)
        · rw [uI_ne (by omega), uI_ne (by omega), uI_at]; exact es
      · intro j o a b c ho
        have c5 : ∀ z : Int, z ≠ i → uI (uI (uI I' 364 (69 * i + 68) (I' 361 1)) 365 i 1) 361 3 0 365 z = I 365 z := fun z hz2 => by rw [uI_ne (by omega), uI_ne (by omega), uI_ne (by omega), hz]
        have c4 : ∀ z : Int, (z < 69 * i ∨ 69 * i + 69 ≤ z) → uI (uI (uI I' 364 (69 * i + 68) (I' 361 1)) 365 i 1) 361 3 0 364 z = I 364 z := fun z hz2 => by rw [uI_ne (by omega), uI_ne (by omega), uI_ne (by omega)]; exact hy z hz2
        cases o with
        | none =>
          show uI _ 361 3 0 365 j = 0
          rw [c5 j c]; exact ho
        | some q =>
          obtain ⟨o1, o2, o3⟩ := ho
          refine ⟨by rw [c5 j c]; exact o1, fun x a2 b2 => ?_, ?_⟩
          · rw [c4 _ (by omega)]; exact o2 x a2 b2
          · rw [c4 _ (by omega)]; exact o3
    | succ m ih =>
      intro k I' g0 gm hF hx hy hz
      have e := hF.1 362 (by decide)
      refine Go.walk 400 [14] E134 E134_ok (fun G C hG hC => ?_)
      (repeat ((conv => whnf); first | refine ⟨_, by assumption, ?_⟩ | refine ⟨_, _, by assumption, ?_⟩ | refine ⟨(show _ ∧ _ by omega), ?_⟩ | refine ⟨(show _ ∨ _ by omega), ?_⟩ | refine ⟨fun h => absurd h (by decide), fun _ => ?_⟩ | refine ⟨fun _ => ?_, fun h => absurd h (by decide)⟩ | refine ⟨fun _ => ?_, fun h => absurd rfl h⟩ | refine ⟨fun h => absurd rfl h, fun _ => ?_⟩)); try (conv => whnf)
      refine ⟨fun q => absurd q (by omega), fun _ => ?_⟩
      (repeat ((conv => whnf); first | refine ⟨_, by assumption, ?_⟩ | refine ⟨_, _, by assumption, ?_⟩ | refine ⟨(show _ ∧ _ by omega), ?_⟩ | refine ⟨(show _ ∨ _ by omega), ?_⟩ | refine ⟨fun h => absurd h (by decide), fun _ => ?_⟩ | refine ⟨fun _ => ?_, fun h => absurd h (by decide)⟩ | refine ⟨fun _ => ?_, fun h => absurd rfl h⟩ | refine ⟨fun h => absurd rfl h, fun _ => ?_⟩)); try (conv => whnf)
      refine hG _ _ _ _ _ _ ?_
      rw [e]
      refine ih (k + 1) _ (by omega) (by omega) (hF.put (by decide) (by decide)) (fun x a b => ?_) (fun x a => ?_) (by funext x; rw [uI_ne (by omega), hz])
      · by_cases q : x = k
        · subst q; exact uI_at
        · rw [uI_ne (by omega)]; exact hx x a (by omega)
      · rw [uI_ne (by omega)]; exact hy x a
  refine Ok.of (by decide) rfl (Nat.le_of_ble_eq_true rfl) ?_
  refine Go.walk 400 [14] E134 E134_ok (fun G C hG hC => ?_)
  (repeat ((conv => whnf); first | refine ⟨_, by assumption, ?_⟩ | refine ⟨_, _, by assumption, ?_⟩ | refine ⟨(show _ ∧ _ by omega), ?_⟩ | refine ⟨(show _ ∨ _ by omega), ?_⟩ | refine ⟨fun h => absurd h (by decide), fun _ => ?_⟩ | refine ⟨fun _ => ?_, fun h => absurd h (by decide)⟩ | refine ⟨fun _ => ?_, fun h => absurd rfl h⟩ | refine ⟨fun h => absurd rfl h, fun _ => ?_⟩)); try (conv => whnf)
  refine hC _ _ _ _ _ _ ?_
  refine ok_in hi (by omega) (by omega) (fun g1 => ?_) (fun g1 => ?_)
  · (repeat ((conv => whnf); first | refine ⟨_, by assumption, ?_⟩ | refine ⟨_, _, by assumption, ?_⟩ | refine ⟨(show _ ∧ _ by omega), ?_⟩ | refine ⟨(show _ ∨ _ by omega), ?_⟩ | refine ⟨fun h => absurd h (by decide), fun _ => ?_⟩ | refine ⟨fun _ => ?_, fun h => absurd h (by decide)⟩ | refine ⟨fun _ => ?_, fun h => absurd rfl h⟩ | refine ⟨fun h => absurd rfl h, fun _ => ?_⟩)); try (conv => whnf)
    refine hG _ _ _ _ _ _ ?_
    exact loop g1 68 0 I (by omega) (by omega) MF.rf (fun x a b => absurd b (by omega)) (fun _ _ => rfl) rfl
  · (repeat ((conv => whnf); first | refine ⟨_, by assumption, ?_⟩ | refine ⟨_, _, by assumption, ?_⟩ | refine ⟨(show _ ∧ _ by omega), ?_⟩ | refine ⟨(show _ ∨ _ by omega), ?_⟩ | refine ⟨fun h => absurd h (by decide), fun _ => ?_⟩ | refine ⟨fun _ => ?_, fun h => absurd h (by decide)⟩ | refine ⟨fun _ => ?_, fun h => absurd rfl h⟩ | refine ⟨fun h => absurd rfl h, fun _ => ?_⟩)); try (conv => whnf)
    exact h0 g1
/-- goBack(i) -/
theorem ok_mgoBack {P : aP} {d : Nat} {K : aK} {I : aI} {R : aR} {S : aS} {i : Int} {o : Option (aN × Int)} (hM : MS R S) (hi : iR i) (hI : 0 ≤ i ∧ i ≤ 1 → ImgM I i o) (h0 : ¬ (0 ≤ i ∧ i ≤ 1) → K (some (vi (-1000000001))) I R S) (h2 : 0 ≤ i ∧ i ≤ 1 → o = none → K (some (vi (-1000000003))) I R S)
    (h1 : 0 ≤ i ∧ i ≤ 1 → ∀ q I', o = some q → MF [362] [1, 3] I I' → I' 361 3 = 0 → I' 361 1 = q.2 → (∀ k : Int, 0 ≤ k → k < 68 → I' 362 k = q.1 k) → K (some (vi 1)) I' R S) : Ok P 135 (d + 2) [vr 361, vi i] I R S K := by
  obtain ⟨m0, r1, m1, r2, m2, r3, m3, r4, m4, r5, m5, r6, m6, r7, m7, r8, m8, r9, m9, r10, m10, r11, m11, r12, m12, r13, m13, r14, m14, r15, m15⟩ := id hM
  have loop : 0 ≤ i ∧ i ≤ 1 → ∀ q, o = some q → ∀ (m : Nat) (k : Int) (I' : aI), 0 ≤ k → 68 - k = m → MF [362] [1, 3] I I' → (∀ x : Int, 0 ≤ x → x < k → I' 362 x = q.1 x) → Go P 135 (d + 2) K 26 [vr 361, vi i, vi k] [] I' R S := by
    intro hi1 q hq m
    have hIm := hI hi1
    rw [hq] at hIm
    obtain ⟨o1, o2, o3⟩ := hIm
    induction m with
    | zero =>
      intro k I' g0 gm hF hx
      have e4 := hF.1 364 (by decide)
      refine Go.walk 400 [26] E135 E135_ok (fun G C hG hC => ?_)
      (repeat ((conv => whnf); first | refine ⟨_, by assumption, ?_⟩ | refine ⟨_, _, by assumption, ?_⟩ | refine ⟨(show _ ∧ _ by omega), ?_⟩ | refine ⟨(show _ ∨ _ by omega), ?_⟩ | refine ⟨fun h => absurd h (by decide), fun _ => ?_⟩ | refine ⟨fun _ => ?_, fun h => absurd h (by decide)⟩ | refine ⟨fun _ => ?_, fun h => absurd rfl h⟩ | refine ⟨fun h => absurd rfl h, fun _ => ?_⟩)); try (conv => whnf)
      refine ⟨fun _ => ?_, fun z => absurd (show (68 : Int) ≤ k by omega) z⟩
      (repeat ((conv => whnf); first | refine ⟨_, by assumption, ?_⟩ | refine ⟨_, _, by assumption, ?_⟩ | refine ⟨(show _ ∧ _ by omega), ?_⟩ | refine ⟨(show _ ∨ _ by omega), ?_⟩ | refine ⟨fun h => absurd h (by decide), fun _ => ?_⟩ | refine ⟨fun _ => ?_, fun h => absurd h (by decide)⟩ | refine ⟨fun _ => ?_, fun h => absurd rfl h⟩ | refine ⟨fun h => absurd rfl h, fun _ => ?_⟩)); try (conv => whnf)
      rw [e4, o3]
      refine h1 hi1 q _ hq ((hF.putF (j := 1) (by decide)).putF (j := 3) (by decide)) uI_at ?_ (fun x a b => ?_)
      · rw [uI_ne (by omega)]; exact uI_at
      · rw [uI_ne (by omega), uI_ne (by omega)]; exact hx x a (by omega)
    | succ m ih =>
      intro k I' g0 gm hF hx
      have e4 := hF.1 364 (by decide)
      refine Go.walk 400 [26] E135 E135_ok (fun G C hG hC => ?_)
      (repeat ((conv => whnf); first | refine ⟨_, by assumption, ?_⟩ | refine ⟨_, _, by assumption, ?_⟩ | refine ⟨(show _ ∧ _ by omega), ?_⟩ | refine ⟨(show _ ∨ _ by omega), ?_⟩ | refine ⟨fun h => absurd h (by decide), fun _ => ?_⟩ | refine ⟨fun _ => ?_, fun h => absurd h (by decide)⟩ | refine ⟨fun _ => ?_, fun h => absurd rfl h⟩ | refine ⟨fun h => absurd rfl h, fun _ => ?_⟩)); try (conv => whnf)
      refine ⟨fun z => absurd z (by omega), fun _ => ?_⟩
      (repeat ((conv => whnf); first | refine ⟨_, by assumption, ?_⟩ | refine ⟨_, _, by assumption, ?_⟩ | refine ⟨(show _ ∧ _ by omega), ?_⟩ | refine ⟨(show _ ∨ _ by omega), ?_⟩ | refine ⟨fun h => absurd h (by decide), fun _ => ?_⟩ | refine ⟨fun _ => ?_, fun h => absurd h (by decide)⟩ | refine ⟨fun _ => ?_, fun h => absurd rfl h⟩ | refine ⟨fun h => absurd rfl h, fun _ => ?_⟩)); try (conv => whnf)
      refine hG _ _ _ _ _ _ ?_
      rw [e4, o2 k g0 (by omega)]
      refine ih (k + 1) _ (by omega) (by omega) (hF.put (by decide) (by decide)) (fun x a b => ?_)
      by_cases z : x = k
      · subst z; exact uI_at
      · rw [uI_ne (by omega)]; exact hx x a (by omega)
  refine Ok.of (by decide) rfl (Nat.le_of_ble_eq_true rfl) ?_
  refine Go.walk 400 [26] E135 E135_ok (fun G C hG hC => ?_)
  (repeat ((conv => whnf); first | refine ⟨_, by assumption, ?_⟩ | refine ⟨_, _, by assumption, ?_⟩ | refine ⟨(show _ ∧ _ by omega), ?_⟩ | refine ⟨(show _ ∨ _ by omega), ?_⟩ | refine ⟨fun h => absurd h (by decide), fun _ => ?_⟩ | refine ⟨fun _ => ?_, fun h => absurd h (by decide)⟩ | refine ⟨fun _ => ?_, fun h => absurd rfl h⟩ | refine ⟨fun h => absurd rfl h, fun _ => ?_⟩)); try (conv => whnf)
  refine hC _ _ _ _ _ _ ?_
  refine ok_in hi (by omega) (by omega) (fun g1 => ?_) (fun g1 => ?_)
  · have hIm := hI g1
    cases o with
    | none =>
      have hz : I 365 i = 0 := hIm
      (repeat ((conv => whnf); first | refine ⟨_, by assumption, ?_⟩ | refine ⟨_, _, by assumption, ?_⟩ | refine ⟨(show _ ∧ _ by omega), ?_⟩ | refine ⟨(show _ ∨ _ by omega), ?_⟩ | refine ⟨fun h => absurd h (by decide), fun _ => ?_⟩ | refine ⟨fun _ => ?_, fun h => absurd h (by decide)⟩ | refine ⟨fun _ => ?_, fun h => absurd rfl h⟩ | refine ⟨fun h => absurd rfl h, fun _ => ?_⟩)); try (conv => whnf)
      refine ⟨fun z => absurd hz z, fun _ => ?_⟩
      (repeat ((conv => whnf); first | refine ⟨_, by assumption, ?_⟩ | refine ⟨_, _, by assumption, ?_⟩ | refine ⟨(show _ ∧ _ by omega), ?_⟩ | refine ⟨(show _ ∨ _ by omega), ?_⟩ | refine ⟨fun h => absurd h (by decide), fun _ => ?_⟩ | refine ⟨fun _ => ?_, fun h => absurd h (by decide)⟩ | refine ⟨fun _ => ?_, fun h => absurd rfl h⟩ | refine ⟨fun h => absurd rfl h, fun _ => ?_⟩)); try (conv => whnf)
      exact h2 g1 rfl
    | some q =>
      have hz : I 365 i = 1 := hIm.1
      (repeat ((conv => whnf); first | refine ⟨_, by assumption, ?_⟩ | refine ⟨_, _, by assumption, ?_⟩ | refine ⟨(show _ ∧ _ by omega), ?_⟩ | refine ⟨(show _ ∨ _ by omega), ?_⟩ | refine ⟨fun h => absurd h (by decide), fun _ => ?_⟩ | refine ⟨fun _ => ?_, fun h => absurd h (by decide)⟩ | refine ⟨fun _ => ?_, fun h => absurd rfl h⟩ | refine ⟨fun h => absurd rfl h, fun _ => ?_⟩)); try (conv => whnf)
      refine ⟨fun _ => ?_, fun z => absurd z (by omega)⟩
      (repeat ((conv => whnf); first | refine ⟨_, by assumption, ?_⟩ | refine ⟨_, _, by assumption, ?_⟩ | refine ⟨(show _ ∧ _ by omega), ?_⟩ | refine ⟨(show _ ∨ _ by omega), ?_⟩ | refine ⟨fun h => absurd h (by decide), fun _ => ?_⟩ | refine ⟨fun _ => ?_, fun h => absurd h (by decide)⟩ | refine ⟨fun _ => ?_, fun h => absurd rfl h⟩ | refine ⟨fun h => absurd rfl h, fun _ => ?_⟩)); try (conv => whnf)
      refine hG _ _ _ _ _ _ ?_
      exact loop g1 q rfl 68 0 I (by omega) (by omega) MF.rf (fun x a b => absurd b (by omega))
  · (repeat ((conv => whnf); first | refine ⟨_, by assumption, ?_⟩ | refine ⟨_, _, by assumption, ?_⟩ | refine ⟨(show _ ∧ _ by omega), ?_⟩ | refine ⟨(show _ ∨ _ by omega), ?_⟩ | refine ⟨fun h => absurd h (by decide), fun _ => ?_⟩ | refine ⟨fun _ => ?_, fun h => absurd h (by decide)⟩ | refine ⟨fun _ => ?_, fun h => absurd rfl h⟩ | refine ⟨fun h => absurd rfl h, fun _ => ?_⟩)); try (conv => whnf)
    exact h0 g1
/-- what asks change of the reference's cells -/
abbrev QF (I I' : aI) : Prop := MF [368, 369, 370, 371, 372, 373, 374, 375, 376] [18, 19] I I'
theorem QF.fr {I I' : aI} {L : List Nat} (h : Fr L I I') (h1 : 361 ∉ L) (h2 : ∀ a, a ∈ L → a ∈ [368, 369, 370, 371, 372, 373, 374, 375, 376]) : QF I I' := (MF.of (J := []) h h1).trans (MF.rf (L := []) (J := [])) (fun a ha => by rcases ha with ha | ha; exact h2 a ha; cases ha) (by simp)
theorem QF.mf {I I' : aI} (h : MF [368, 369, 370, 371, 372, 373, 374, 375, 376] [18] I I') : QF I I' := h.trans (MF.rf (L := []) (J := [])) (by simp) (by simp <;> omega)
def setP (pl : Int → Int) (v k : Int) : Int → Int := fun x => if x = v then k else pl x
def wouldF (n : aN) (v k : Int) : Int := if ¬ ((0 ≤ v ∧ v < n 0) ∧ (k = 0 ∨ isKb n k = true)) then -1000000001 else if v = 0 then -1000000003 else sla n (setP (pl0 n) v k) (wd0 n) + 1000000
theorem setP_ok {n : aN} (hW : WF n) {v k : Int} (hv : v ≠ 0) (hk : k = 0 ∨ isKb n k = true) : PlOk n (setP (pl0 n) v k) := by
  have h := pl0_ok hW
  have hk3 : 0 ≤ k ∧ k ≤ 3 := by
    rcases hk with rfl | hk
    · omega
    · have := isKb_iff.mp hk
      exact ⟨by have := this.1; omega, this.2.1⟩
  refine ⟨fun x h0 h1 => ?_, ?_⟩
  · unfold setP
    split
    · exact hk3
    · exact h.1 x h0 h1
  · unfold setP
    rw [if_neg (fun e => hv e.symm)]
    exact h.2
/-- would(v, k) -/
theorem ok_mwould {P : aP} {d : Nat} {K : aK} {I : aI} {R : aR} {S : aS} {v k : Int} (hM : MS R S) (hW : WF (I 362)) (hv : iR v) (hk : iR k) (hK : ∀ I', QF I I' → K (some (vi (wouldF (I 362) v k))) I' R S) : Ok P 115 (d + 6) [vr 361, vi v, vi k] I R S K := by
  obtain ⟨m0, r1, m1, r2, m2, r3, m3, r4, m4, r5, m5, r6, m6, r7, m7, r8, m8, r9, m9, r10, m10, r11, m11, r12, m12, r13, m13, r14, m14, r15, m15⟩ := id hM
  have hN := hW.1
  refine Ok.of (by decide) rfl (Nat.le_of_ble_eq_true rfl) ?_
  refine Go.walk 400 [] E115 E115_ok (fun G C hG hC => ?_)
  (repeat ((conv => whnf); first | refine ⟨_, by assumption, ?_⟩ | refine ⟨_, _, by assumption, ?_⟩ | refine ⟨(show _ ∧ _ by omega), ?_⟩ | refine ⟨(show _ ∨ _ by omega), ?_⟩ | refine ⟨fun h => absurd h (by decide), fun _ => ?_⟩ | refine ⟨fun _ => ?_, fun h => absurd h (by decide)⟩ | refine ⟨fun _ => ?_, fun h => absurd rfl h⟩ | refine ⟨fun h => absurd rfl h, fun _ => ?_⟩)); try (conv => whnf)
  refine hC _ _ _ _ _ _ ?_
  refine ok_isPlaceable hM hW hv hk (fun h1 => ?_) (fun h1 => ?_)
  · rw [← isKb_iff] at h1
    (repeat ((conv => whnf); first | refine ⟨_, by assumption, ?_⟩ | refine ⟨_, _, by assumption, ?_⟩ | refine ⟨(show _ ∧ _ by omega), ?_⟩ | refine ⟨(show _ ∨ _ by omega), ?_⟩ | refine ⟨fun h => absurd h (by decide), fun _ => ?_⟩ | refine ⟨fun _ => ?_, fun h => absurd h (by decide)⟩ | refine ⟨fun _ => ?_, fun h => absurd rfl h⟩ | refine ⟨fun h => absurd rfl h, fun _ => ?_⟩)); try (conv => whnf)
    refine ⟨fun h2 => ?_, fun h2 => ?_⟩
    · have hsp := setP_ok hW (v := v) (k := k) h2 h1.2
      (repeat ((conv => whnf); first | refine ⟨_, by assumption, ?_⟩ | refine ⟨_, _, by assumption, ?_⟩ | refine ⟨(show _ ∧ _ by omega), ?_⟩ | refine ⟨(show _ ∨ _ by omega), ?_⟩ | refine ⟨fun h => absurd h (by decide), fun _ => ?_⟩ | refine ⟨fun _ => ?_, fun h => absurd h (by decide)⟩ | refine ⟨fun _ => ?_, fun h => absurd rfl h⟩ | refine ⟨fun h => absurd rfl h, fun _ => ?_⟩)); try (conv => whnf)
      refine hC _ _ _ _ _ _ ?_
      refine ok_asPlaced hM hW (fun I1 hF1 g1 => ?_)
      have e := hF1 362 (by decide)
      have e2 : uI I1 368 v k 362 = I 362 := by funext x; rw [uI_ne (by omega), e]
      (repeat ((conv => whnf); first | refine ⟨_, by assumption, ?_⟩ | refine ⟨_, _, by assumption, ?_⟩ | refine ⟨(show _ ∧ _ by omega), ?_⟩ | refine ⟨(show _ ∨ _ by omega), ?_⟩ | refine ⟨fun h => absurd h (by decide), fun _ => ?_⟩ | refine ⟨fun _ => ?_, fun h => absurd h (by decide)⟩ | refine ⟨fun _ => ?_, fun h => absurd rfl h⟩ | refine ⟨fun h => absurd rfl h, fun _ => ?_⟩)); try (conv => whnf)
      refine hC _ _ _ _ _ _ ?_
      refine ok_runsAll2 (pl := setP (pl0 (I 362)) v k) (wd := wd0 (I 362)) hM (by rw [e2]; exact hW) (by rw [e2]; exact hsp) (by rw [e2]; exact wd0_ok hW) (fun x a b => ?_) (fun x a b => ?_) (fun I3 hF3 g3 => ?_)
      · rw [e2] at b
        unfold setP
        by_cases q : x = v
        · subst q; rw [uI_at, if_pos rfl]
        · rw [uI_ne (by omega), if_neg q]; exact (g1 x a b).1
      · rw [e2] at b
        rw [uI_ne (by omega)]; exact (g1 x (by omega) b).2
      rw [e2] at g3
      have e3 : I3 362 = I 362 := by rw [hF3 362 (by decide), e2]
      (repeat ((conv => whnf); first | refine ⟨_, by assumption, ?_⟩ | refine ⟨_, _, by assumption, ?_⟩ | refine ⟨(show _ ∧ _ by omega), ?_⟩ | refine ⟨(show _ ∨ _ by omega), ?_⟩ | refine ⟨fun h => absurd h (by decide), fun _ => ?_⟩ | refine ⟨fun _ => ?_, fun h => absurd h (by decide)⟩ | refine ⟨fun _ => ?_, fun h => absurd rfl h⟩ | refine ⟨fun h => absurd rfl h, fun _ => ?_⟩)); try (conv => whnf)
      refine hC _ _ _ _ _ _ ?_
      refine ok_slack0 hM e3 hW hsp (wd0_ok hW) g3 ?_
      (repeat ((conv => whnf); first | refine ⟨_, by assumption, ?_⟩ | refine ⟨_, _, by assumption, ?_⟩ | refine ⟨(show _ ∧ _ by omega), ?_⟩ | refine ⟨(show _ ∨ _ by omega), ?_⟩ | refine ⟨fun h => absurd h (by decide), fun _ => ?_⟩ | refine ⟨fun _ => ?_, fun h => absurd h (by decide)⟩ | refine ⟨fun _ => ?_, fun h => absurd rfl h⟩ | refine ⟨fun h => absurd rfl h, fun _ => ?_⟩)); try (conv => whnf)
      have := hK I3 (((QF.fr hF1 (by decide) (by simp <;> omega)).put (a := 368) (j := v) (z := k) (by decide) (by decide)).trans (QF.fr hF3 (by decide) (by simp <;> omega)) (by simp <;> omega) (by simp <;> omega))
      rw [wouldF, if_neg (fun q => q h1), if_neg h2] at this
      exact this
    · (repeat ((conv => whnf); first | refine ⟨_, by assumption, ?_⟩ | refine ⟨_, _, by assumption, ?_⟩ | refine ⟨(show _ ∧ _ by omega), ?_⟩ | refine ⟨(show _ ∨ _ by omega), ?_⟩ | refine ⟨fun h => absurd h (by decide), fun _ => ?_⟩ | refine ⟨fun _ => ?_, fun h => absurd h (by decide)⟩ | refine ⟨fun _ => ?_, fun h => absurd rfl h⟩ | refine ⟨fun h => absurd rfl h, fun _ => ?_⟩)); try (conv => whnf)
      have := hK I MF.rf
      rw [wouldF, if_neg (fun q => q h1), if_pos h2] at this
      exact this
  · rw [← isKb_iff] at h1
    (repeat ((conv => whnf); first | refine ⟨_, by assumption, ?_⟩ | refine ⟨_, _, by assumption, ?_⟩ | refine ⟨(show _ ∧ _ by omega), ?_⟩ | refine ⟨(show _ ∨ _ by omega), ?_⟩ | refine ⟨fun h => absurd h (by decide), fun _ => ?_⟩ | refine ⟨fun _ => ?_, fun h => absurd h (by decide)⟩ | refine ⟨fun _ => ?_, fun h => absurd rfl h⟩ | refine ⟨fun h => absurd rfl h, fun _ => ?_⟩)); try (conv => whnf)
    have := hK I MF.rf
    rw [wouldF, if_pos h1] at this
    exact this
def kindAtF (n : aN) (k w : Int) : Int := if ¬ isKb n k = true then -1000000001 else if 0 ≤ w ∧ w ≤ 4 then kf n k (1 + w) else -1000000002
/-- kindAt(k, what) -/
theorem ok_mkindAt {P : aP} {d : Nat} {K : aK} {I : aI} {R : aR} {S : aS} {k w : Int} (hM : MS R S) (hW : WF (I 362)) (hk : iR k) (hw : iR w) (hK : K (some (vi (kindAtF (I 362) k w))) I R S) : Ok P 108 (d + 3) [vr 361, vi k, vi w] I R S K := by
  obtain ⟨m0, r1, m1, r2, m2, r3, m3, r4, m4, r5, m5, r6, m6, r7, m7, r8, m8, r9, m9, r10, m10, r11, m11, r12, m12, r13, m13, r14, m14, r15, m15⟩ := id hM
  unfold kindAtF at hK
  refine Ok.of (by decide) rfl (Nat.le_of_ble_eq_true rfl) ?_
  refine Go.walk 400 [] E108 E108_ok (fun G C hG hC => ?_)
  (repeat ((conv => whnf); first | refine ⟨_, by assumption, ?_⟩ | refine ⟨_, _, by assumption, ?_⟩ | refine ⟨(show _ ∧ _ by omega), ?_⟩ | refine ⟨(show _ ∨ _ by omega), ?_⟩ | refine ⟨fun h => absurd h (by decide), fun _ => ?_⟩ | refine ⟨fun _ => ?_, fun h => absurd h (by decide)⟩ | refine ⟨fun _ => ?_, fun h => absurd rfl h⟩ | refine ⟨fun h => absurd rfl h, fun _ => ?_⟩)); try (conv => whnf)
  refine hC _ _ _ _ _ _ ?_
  refine ok_isKind hM hk hW (fun h1 => ?_) (fun h1 => ?_)
  · have hb := isKb_iff.mpr h1
    rw [if_neg (fun q => q hb)] at hK
    obtain ⟨k1, k2, k3⟩ := h1
    (repeat ((conv => whnf); first | refine ⟨_, by assumption, ?_⟩ | refine ⟨_, _, by assumption, ?_⟩ | refine ⟨(show _ ∧ _ by omega), ?_⟩ | refine ⟨(show _ ∨ _ by omega), ?_⟩ | refine ⟨fun h => absurd h (by decide), fun _ => ?_⟩ | refine ⟨fun _ => ?_, fun h => absurd h (by decide)⟩ | refine ⟨fun _ => ?_, fun h => absurd rfl h⟩ | refine ⟨fun h => absurd rfl h, fun _ => ?_⟩)); try (conv => whnf)
    refine hC _ _ _ _ _ _ ?_
    refine ok_in hw (by omega) (by omega) (fun h2 => ?_) (fun h2 => ?_)
    · rw [if_pos h2] at hK
      (repeat ((conv => whnf); first | refine ⟨_, by assumption, ?_⟩ | refine ⟨_, _, by assumption, ?_⟩ | refine ⟨(show _ ∧ _ by omega), ?_⟩ | refine ⟨(show _ ∨ _ by omega), ?_⟩ | refine ⟨fun h => absurd h (by decide), fun _ => ?_⟩ | refine ⟨fun _ => ?_, fun h => absurd h (by decide)⟩ | refine ⟨fun _ => ?_, fun h => absurd rfl h⟩ | refine ⟨fun h => absurd rfl h, fun _ => ?_⟩)); try (conv => whnf)
      refine hC _ _ _ _ _ _ ?_
      refine ok_ofKind hM (by omega) ?_
      (repeat ((conv => whnf); first | refine ⟨_, by assumption, ?_⟩ | refine ⟨_, _, by assumption, ?_⟩ | refine ⟨(show _ ∧ _ by omega), ?_⟩ | refine ⟨(show _ ∨ _ by omega), ?_⟩ | refine ⟨fun h => absurd h (by decide), fun _ => ?_⟩ | refine ⟨fun _ => ?_, fun h => absurd h (by decide)⟩ | refine ⟨fun _ => ?_, fun h => absurd rfl h⟩ | refine ⟨fun h => absurd rfl h, fun _ => ?_⟩)); try (conv => whnf)
      exact hK
    · rw [if_neg h2] at hK
      (repeat ((conv => whnf); first | refine ⟨_, by assumption, ?_⟩ | refine ⟨_, _, by assumption, ?_⟩ | refine ⟨(show _ ∧ _ by omega), ?_⟩ | refine ⟨(show _ ∨ _ by omega), ?_⟩ | refine ⟨fun h => absurd h (by decide), fun _ => ?_⟩ | refine ⟨fun _ => ?_, fun h => absurd h (by decide)⟩ | refine ⟨fun _ => ?_, fun h => absurd rfl h⟩ | refine ⟨fun h => absurd rfl h, fun _ => ?_⟩)); try (conv => whnf)
      exact hK
  · rw [if_pos (fun q => h1 (isKb_iff.mp q))] at hK
    (repeat ((conv => whnf); first | refine ⟨_, by assumption, ?_⟩ | refine ⟨_, _, by assumption, ?_⟩ | refine ⟨(show _ ∧ _ by omega), ?_⟩ | refine ⟨(show _ ∨ _ by omega), ?_⟩ | refine ⟨fun h => absurd h (by decide), fun _ => ?_⟩ | refine ⟨fun _ => ?_, fun h => absurd h (by decide)⟩ | refine ⟨fun _ => ?_, fun h => absurd rfl h⟩ | refine ⟨fun h => absurd rfl h, fun _ => ?_⟩)); try (conv => whnf)
    exact hK
