/-! the class: goBackBy, deedComes, the smaller deeds -/
theorem ok_goBackBy {P : aP} {d : Nat} {K : aK} {I : aI} {R : aR} {S : aS} {h : List aN} {m : Int} {q : aN} (hS : SS R S) (hP : PastR I h) (h1 : 1 ≤ m) (h2 : m ≤ h.length) (hq : h[h.length - m.toNat]? = some q) (hK : ∀ I', (∀ a, ¬ (1 ≤ a ∧ a ≤ 14) → a ≠ 100 → I' a = I a) → NetR I' 1 q → PastR I' (h.take (h.length - m.toNat)) → K none I' R S) : Ok P 37 (d + 2) [vr 100, vi m, vr 1] I R S K := by
  obtain ⟨-, ⟨b0, b1, b2, b3, b4, b5, b6⟩, -, c2, c3, -⟩ := hS
  obtain ⟨p0, p1, p2, p3⟩ := hP
  have hN1 := c3 1 (Or.inl rfl)
  have sn1 := hN1.1
  have q1 : I 100 ((1 : Nat) : Int) = I 100 1 := rfl
  have e1 : uI I 100 ((1 : Nat) : Int) ((I 100 1 + 16 - m) % 16) 100 ((2 : Nat) : Int) = h.length := by rw [uI_ne (by omega)]; exact p0
  have e2 : uI (uI I 100 ((1 : Nat) : Int) ((I 100 1 + 16 - m) % 16)) 100 ((2 : Nat) : Int) ((h.length : Int) - m) 100 ((1 : Nat) : Int) = (I 100 1 + 16 - m) % 16 := by rw [uI_ne (by omega)]; exact uI_at
  have hnx : 0 ≤ (I 100 1 + 16 - m) % 16 ∧ (I 100 1 + 16 - m) % 16 < 16 := by omega
  have e3 := c2 _ hnx.1 hnx.2
  have hNr := c3 (rgc ((I 100 1 + 16 - m) % 16)) (Or.inr (Or.inr (Or.inl ⟨_, hnx.1, hnx.2, rfl⟩)))
  have rlo : ∀ j : Int, 102 ≤ rgc j := fun j => by unfold rgc; omega
  have cg : ∀ (x : Int) (m' : aN), NetR I (rgc x) m' → NetR (uI (uI I 100 ((1 : Nat) : Int) ((I 100 1 + 16 - m) % 16)) 100 ((2 : Nat) : Int) ((h.length : Int) - m)) (rgc x) m' := by
    intro x m' hm
    refine hm.cg (fun y g1 g2 => ?_)
    have := rlo x
    funext k
    rw [uI_ne (by omega), uI_ne (by omega)]
  have hRq := cg _ q (p3 (h.length - m.toNat) q hq)
  have ex : (I 100 1 + 16 - (h.length : Int) + ((h.length - m.toNat : Nat) : Int)) % 16 = (I 100 1 + 16 - m) % 16 := by omega
  rw [ex] at hRq
  refine Ok.of (by decide) rfl (Nat.le_of_ble_eq_true rfl) ?_
  refine Go.walk 400 [] E37 E37_ok (fun G C hG hC => ?_)
  (repeat ((conv => whnf); first | refine ⟨_, by assumption, ?_⟩ | refine ⟨_, _, by assumption, ?_⟩ | refine ⟨(show _ ∧ _ by omega), ?_⟩ | refine ⟨(show _ ∨ _ by omega), ?_⟩ | refine ⟨fun h => absurd h (by decide), fun _ => ?_⟩ | refine ⟨fun _ => ?_, fun h => absurd h (by decide)⟩ | refine ⟨fun _ => ?_, fun h => absurd rfl h⟩ | refine ⟨fun h => absurd rfl h, fun _ => ?_⟩)); try (conv => whnf)
  rw [q1, e1, e2]
  refine ⟨by omega, _, e3, ?_⟩
  (repeat ((conv => whnf); first | refine ⟨_, by assumption, ?_⟩ | refine ⟨_, _, by assumption, ?_⟩ | refine ⟨(show _ ∧ _ by omega), ?_⟩ | refine ⟨(show _ ∨ _ by omega), ?_⟩ | refine ⟨fun h => absurd h (by decide), fun _ => ?_⟩ | refine ⟨fun _ => ?_, fun h => absurd h (by decide)⟩ | refine ⟨fun _ => ?_, fun h => absurd rfl h⟩ | refine ⟨fun h => absurd rfl h, fun _ => ?_⟩)); try (conv => whnf)
  refine hC _ _ _ _ _ _ ?_
  refine ok_copyFrom hN1 hNr hRq (by have := rlo ((I 100 1 + 16 - m) % 16); omega) (fun I1 hF1 hR1 => ?_)
  (repeat ((conv => whnf); first | refine ⟨_, by assumption, ?_⟩ | refine ⟨_, _, by assumption, ?_⟩ | refine ⟨(show _ ∧ _ by omega), ?_⟩ | refine ⟨(show _ ∨ _ by omega), ?_⟩ | refine ⟨fun h => absurd h (by decide), fun _ => ?_⟩ | refine ⟨fun _ => ?_, fun h => absurd h (by decide)⟩ | refine ⟨fun _ => ?_, fun h => absurd rfl h⟩ | refine ⟨fun h => absurd rfl h, fun _ => ?_⟩)); try (conv => whnf)
  have u1 : I1 100 = uI (uI I 100 ((1 : Nat) : Int) ((I 100 1 + 16 - m) % 16)) 100 ((2 : Nat) : Int) ((h.length : Int) - m) 100 := hF1 100 (by omega)
  have w1 : I1 100 1 = (I 100 1 + 16 - m) % 16 := by rw [u1]; exact e2
  have w2 : I1 100 2 = (h.length : Int) - m := by rw [u1]; exact uI_at
  have hl : (h.take (h.length - m.toNat)).length = h.length - m.toNat := by rw [List.length_take]; omega
  refine hK I1 (fun a h3 h4 => ?_) hR1 ⟨?_, ?_, ?_, ?_⟩
  · rw [hF1 a (by omega)]
    funext k
    rw [uI_ne (by omega), uI_ne (by omega)]
  · rw [w2, hl]; omega
  · rw [hl]; omega
  · rw [w1]; exact hnx
  · intro j m' hj
    have hjl := (List.getElem?_eq_some_iff.mp hj).1
    rw [hl] at hjl
    rw [List.getElem?_take_of_lt (by omega)] at hj
    rw [w1, hl]
    have ey : ((I 100 1 + 16 - m) % 16 + 16 - ((h.length - m.toNat : Nat) : Int) + (j : Int)) % 16 = (I 100 1 + 16 - (h.length : Int) + (j : Int)) % 16 := by omega
    rw [ey]
    refine (cg _ m' (p3 j m' hj)).cg (fun y g1 g2 => hF1 y ?_)
    have := rlo ((I 100 1 + 16 - (h.length : Int) + (j : Int)) % 16)
    omega
/-- deedComes() -/
theorem ok_deedC {P : aP} {d : Nat} {K : aK} {I : aI} {R : aR} {S : aS} {n : aN} {h : List aN} {B : List (Int × Int)} {sd : Int} {im : Int → Option (aN × Int)} (hC0 : CSt n h B sd im I R S) (hK : ∀ I', XF I R S I' R S → CSt n (pushH h n) B sd im I' R S → I' 34 5 = 0 → K none I' R S) : Ok P 70 (d + 3) [vr 0] I R S K := by
  obtain ⟨c1, c2, c3, c4, c5, c6, c7, c8, c9⟩ := hC0
  obtain ⟨⟨a0, a1, a2, a3, a4, a5, a6, a7, a8, a9, a10⟩, ⟨b0, b1, b2, b3, b4, b5, b6⟩, e1, e2, e3, e4, e5, e6⟩ := id c1
  have s34 := e6.1
  refine Ok.of (by decide) rfl (Nat.le_of_ble_eq_true rfl) ?_
  refine Go.walk 400 [] E70 E70_ok (fun G C hG hC => ?_)
  (repeat ((conv => whnf); first | refine ⟨_, by assumption, ?_⟩ | refine ⟨_, _, by assumption, ?_⟩ | refine ⟨(show _ ∧ _ by omega), ?_⟩ | refine ⟨(show _ ∨ _ by omega), ?_⟩ | refine ⟨fun h => absurd h (by decide), fun _ => ?_⟩ | refine ⟨fun _ => ?_, fun h => absurd h (by decide)⟩ | refine ⟨fun _ => ?_, fun h => absurd rfl h⟩ | refine ⟨fun h => absurd rfl h, fun _ => ?_⟩)); try (conv => whnf)
  refine hC _ _ _ _ _ _ ?_
  refine ok_push c1 c4 c5 (fun I1 hI1 hP1 => ?_)
  (repeat ((conv => whnf); first | refine ⟨_, by assumption, ?_⟩ | refine ⟨_, _, by assumption, ?_⟩ | refine ⟨(show _ ∧ _ by omega), ?_⟩ | refine ⟨(show _ ∨ _ by omega), ?_⟩ | refine ⟨fun h => absurd h (by decide), fun _ => ?_⟩ | refine ⟨fun _ => ?_, fun h => absurd h (by decide)⟩ | refine ⟨fun _ => ?_, fun h => absurd rfl h⟩ | refine ⟨fun h => absurd rfl h, fun _ => ?_⟩)); try (conv => whnf)
  refine hC _ _ _ _ _ _ ?_
  refine ok_forget e6 ?_
  (repeat ((conv => whnf); first | refine ⟨_, by assumption, ?_⟩ | refine ⟨_, _, by assumption, ?_⟩ | refine ⟨(show _ ∧ _ by omega), ?_⟩ | refine ⟨(show _ ∨ _ by omega), ?_⟩ | refine ⟨fun h => absurd h (by decide), fun _ => ?_⟩ | refine ⟨fun _ => ?_, fun h => absurd h (by decide)⟩ | refine ⟨fun _ => ?_, fun h => absurd rfl h⟩ | refine ⟨fun h => absurd rfl h, fun _ => ?_⟩)); try (conv => whnf)
  have hI2 : ∀ a, ¬ (100 ≤ a ∧ a ≤ 325) → a ≠ 34 → uI I1 34 5 0 a = I a := fun a p q => by
    rw [← hI1 a p]
    funext k
    exact uI_ne (fun e => q e.1)
  refine hK _ (XF.of (fun a p q => hI2 a (by omega) (by omega))) ⟨c1, c2, c3, c4.cg (fun x g1 g2 => hI2 x (by omega) (by omega)), hP1.cg (fun a g1 g2 => by funext k; exact uI_ne (by omega)), c6.cg (fun a g1 g2 => hI2 a (by omega) (by omega)), by rw [hI2 329 (by omega) (by omega)]; exact c7, fun i g0 g1 => (c8 i g0 g1).cg g0 g1 (fun a p q => hI2 a (by omega) (by omega)), Or.inl uI_at⟩ uI_at
/-- what a deed comes to: refused, and nothing is changed; or done -/
def DeedC (F : Int × Option aN) (n : aN) (h : List aN) (B : List (Int × Int)) (sd : Int) (im : Int → Option (aN × Int)) (I : aI) (R : aR) (S : aS) (K : aK) : Prop := (F.2 = none → ∀ I', XF I R S I' R S → CSt n h B sd im I' R S → K (some (vi F.1)) I' R S) ∧ ∀ n', F.2 = some n' → ∀ I', XF I R S I' R S → CSt n' (pushH h n) B sd im I' R S → K (some (vi F.1)) I' R S
section Dc
variable {n : aN} {h : List aN} {B : List (Int × Int)} {sd : Int} {im : Int → Option (aN × Int)}
theorem DeedC.no {F : Int × Option aN} {I : aI} {R : aR} {S : aS} {K : aK} {r : Int} (hD : DeedC F n h B sd im I R S K) (hC : CSt n h B sd im I R S) (e : F = (r, none)) : K (some (vi r)) I R S := by
  have := hD.1 (by rw [e]) I XF.rf hC
  rw [e] at this
  exact this
theorem DeedC.yes {F : Int × Option aN} {I I1 I2 : aI} {R : aR} {S : aS} {K : aK} {r : Int} {n' : aN} (hD : DeedC F n h B sd im I R S K) (e : F = (r, some n')) (hX : XF I R S I1 R S) (hC : CSt n (pushH h n) B sd im I1 R S) (h5 : I1 34 5 = 0) (hI : ∀ a, ¬ (1 ≤ a ∧ a ≤ 33) → I2 a = I1 a) (hR : NetR I2 1 n') : K (some (vi r)) I2 R S := by
  have := hD.2 n' (by rw [e]) I2 (hX.tr (XF.of (fun a p q => hI a (by omega)))) (hC.net h5 hI hR)
  rw [e] at this
  exact this
/-- node(above, r, c) -/
theorem ok_cnode {P : aP} {d : Nat} {K : aK} {I : aI} {R : aR} {S : aS} {a r c : Int} (hC0 : CSt n h B sd im I R S) (hW : WF n) (ha : iR a) (hr : iR r) (hc : iR c) (hK : DeedC (nodeF n a r c) n h B sd im I R S K) : Ok P 53 (d + 4) [vr 0, vi a, vi r, vi c] I R S K := by
  obtain ⟨c1, c2, c3, c4, c5, c6, c7, c8, c9⟩ := id hC0
  obtain ⟨⟨a0, a1, -⟩, -, -, -, e3, -⟩ := id c1
  have hN1 := e3 1 (Or.inl rfl)
  have sn := hN1.1
  refine Ok.of (by decide) rfl (Nat.le_of_ble_eq_true rfl) ?_
  refine Go.walk 400 [] E53 E53_ok (fun G C hG hC => ?_)
  (repeat ((conv => whnf); first | refine ⟨_, by assumption, ?_⟩ | refine ⟨_, _, by assumption, ?_⟩ | refine ⟨(show _ ∧ _ by omega), ?_⟩ | refine ⟨(show _ ∨ _ by omega), ?_⟩ | refine ⟨fun h => absurd h (by decide), fun _ => ?_⟩ | refine ⟨fun _ => ?_, fun h => absurd h (by decide)⟩ | refine ⟨fun _ => ?_, fun h => absurd rfl h⟩ | refine ⟨fun h => absurd rfl h, fun _ => ?_⟩)); try (conv => whnf)
  refine hC _ _ _ _ _ _ ?_
  refine ok_hasNode hN1 c4 hW ha (fun q => ?_) (fun q => ?_)
  · (repeat ((conv => whnf); first | refine ⟨_, by assumption, ?_⟩ | refine ⟨_, _, by assumption, ?_⟩ | refine ⟨(show _ ∧ _ by omega), ?_⟩ | refine ⟨(show _ ∨ _ by omega), ?_⟩ | refine ⟨fun h => absurd h (by decide), fun _ => ?_⟩ | refine ⟨fun _ => ?_, fun h => absurd h (by decide)⟩ | refine ⟨fun _ => ?_, fun h => absurd rfl h⟩ | refine ⟨fun h => absurd rfl h, fun _ => ?_⟩)); try (conv => whnf)
    refine hC _ _ _ _ _ _ ?_
    refine ok_within hr (by omega) (by omega) (fun q1 => ?_) (fun q1 => ?_)
    · (repeat ((conv => whnf); first | refine ⟨_, by assumption, ?_⟩ | refine ⟨_, _, by assumption, ?_⟩ | refine ⟨(show _ ∧ _ by omega), ?_⟩ | refine ⟨(show _ ∨ _ by omega), ?_⟩ | refine ⟨fun h => absurd h (by decide), fun _ => ?_⟩ | refine ⟨fun _ => ?_, fun h => absurd h (by decide)⟩ | refine ⟨fun _ => ?_, fun h => absurd rfl h⟩ | refine ⟨fun h => absurd rfl h, fun _ => ?_⟩)); try (conv => whnf)
      refine hC _ _ _ _ _ _ ?_
      refine ok_within hc (by omega) (by omega) (fun q2 => ?_) (fun q2 => ?_)
      · (repeat ((conv => whnf); first | refine ⟨_, by assumption, ?_⟩ | refine ⟨_, _, by assumption, ?_⟩ | refine ⟨(show _ ∧ _ by omega), ?_⟩ | refine ⟨(show _ ∨ _ by omega), ?_⟩ | refine ⟨fun h => absurd h (by decide), fun _ => ?_⟩ | refine ⟨fun _ => ?_, fun h => absurd h (by decide)⟩ | refine ⟨fun _ => ?_, fun h => absurd rfl h⟩ | refine ⟨fun h => absurd rfl h, fun _ => ?_⟩)); try (conv => whnf)
        refine hC _ _ _ _ _ _ ?_
        refine ok_hasRoom hN1 c4 hW (fun q3 => ?_) (fun q3 => ?_)
        · (repeat ((conv => whnf); first | refine ⟨_, by assumption, ?_⟩ | refine ⟨_, _, by assumption, ?_⟩ | refine ⟨(show _ ∧ _ by omega), ?_⟩ | refine ⟨(show _ ∨ _ by omega), ?_⟩ | refine ⟨fun h => absurd h (by decide), fun _ => ?_⟩ | refine ⟨fun _ => ?_, fun h => absurd h (by decide)⟩ | refine ⟨fun _ => ?_, fun h => absurd rfl h⟩ | refine ⟨fun h => absurd rfl h, fun _ => ?_⟩)); try (conv => whnf)
          refine hC _ _ _ _ _ _ ?_
          refine ok_deedC hC0 (fun I1 hX1 hC1 h5 => ?_)
          (repeat ((conv => whnf); first | refine ⟨_, by assumption, ?_⟩ | refine ⟨_, _, by assumption, ?_⟩ | refine ⟨(show _ ∧ _ by omega), ?_⟩ | refine ⟨(show _ ∨ _ by omega), ?_⟩ | refine ⟨fun h => absurd h (by decide), fun _ => ?_⟩ | refine ⟨fun _ => ?_, fun h => absurd h (by decide)⟩ | refine ⟨fun _ => ?_, fun h => absurd rfl h⟩ | refine ⟨fun h => absurd rfl h, fun _ => ?_⟩)); try (conv => whnf)
          refine hC _ _ _ _ _ _ ?_
          refine ok_grow hN1 hC1.2.2.2.1 hW q3 (fun I2 hF2 hR2 => ?_)
          (repeat ((conv => whnf); first | refine ⟨_, by assumption, ?_⟩ | refine ⟨_, _, by assumption, ?_⟩ | refine ⟨(show _ ∧ _ by omega), ?_⟩ | refine ⟨(show _ ∨ _ by omega), ?_⟩ | refine ⟨fun h => absurd h (by decide), fun _ => ?_⟩ | refine ⟨fun _ => ?_, fun h => absurd h (by decide)⟩ | refine ⟨fun _ => ?_, fun h => absurd rfl h⟩ | refine ⟨fun h => absurd rfl h, fun _ => ?_⟩)); try (conv => whnf)
          refine hK.yes (r := n 0) (n' := growF n a r c) ?_ hX1 hC1 h5 (fun x hx => hF2 x (by omega)) hR2
          unfold nodeF
          rw [if_neg (fun z => z q), if_neg (fun z => z ⟨q1, q2⟩), if_neg (by omega)]
        · have hN := hW.1
          (repeat ((conv => whnf); first | refine ⟨_, by assumption, ?_⟩ | refine ⟨_, _, by assumption, ?_⟩ | refine ⟨(show _ ∧ _ by omega), ?_⟩ | refine ⟨(show _ ∨ _ by omega), ?_⟩ | refine ⟨fun h => absurd h (by decide), fun _ => ?_⟩ | refine ⟨fun _ => ?_, fun h => absurd h (by decide)⟩ | refine ⟨fun _ => ?_, fun h => absurd rfl h⟩ | refine ⟨fun h => absurd rfl h, fun _ => ?_⟩)); try (conv => whnf)
          refine hK.no hC0 ?_
          unfold nodeF
          rw [if_neg (fun z => z q), if_neg (fun z => z ⟨q1, q2⟩), if_pos (by omega)]
      · (repeat ((conv => whnf); first | refine ⟨_, by assumption, ?_⟩ | refine ⟨_, _, by assumption, ?_⟩ | refine ⟨(show _ ∧ _ by omega), ?_⟩ | refine ⟨(show _ ∨ _ by omega), ?_⟩ | refine ⟨fun h => absurd h (by decide), fun _ => ?_⟩ | refine ⟨fun _ => ?_, fun h => absurd h (by decide)⟩ | refine ⟨fun _ => ?_, fun h => absurd rfl h⟩ | refine ⟨fun h => absurd rfl h, fun _ => ?_⟩)); try (conv => whnf)
        refine hK.no hC0 ?_
        unfold nodeF
        rw [if_neg (fun z => z q), if_pos (fun z => q2 z.2)]
    · (repeat ((conv => whnf); first | refine ⟨_, by assumption, ?_⟩ | refine ⟨_, _, by assumption, ?_⟩ | refine ⟨(show _ ∧ _ by omega), ?_⟩ | refine ⟨(show _ ∨ _ by omega), ?_⟩ | refine ⟨fun h => absurd h (by decide), fun _ => ?_⟩ | refine ⟨fun _ => ?_, fun h => absurd h (by decide)⟩ | refine ⟨fun _ => ?_, fun h => absurd rfl h⟩ | refine ⟨fun h => absurd rfl h, fun _ => ?_⟩)); try (conv => whnf)
      refine hK.no hC0 ?_
      unfold nodeF
      rw [if_neg (fun z => z q), if_pos (fun z => q1 z.1)]
  · (repeat ((conv => whnf); first | refine ⟨_, by assumption, ?_⟩ | refine ⟨_, _, by assumption, ?_⟩ | refine ⟨(show _ ∧ _ by omega), ?_⟩ | refine ⟨(show _ ∨ _ by omega), ?_⟩ | refine ⟨fun h => absurd h (by decide), fun _ => ?_⟩ | refine ⟨fun _ => ?_, fun h => absurd h (by decide)⟩ | refine ⟨fun _ => ?_, fun h => absurd rfl h⟩ | refine ⟨fun h => absurd rfl h, fun _ => ?_⟩)); try (conv => whnf)
    refine hK.no hC0 ?_
    unfold nodeF
    rw [if_pos q]
/-- end(v, load, need, wants) -/
theorem ok_cend {P : aP} {d : Nat} {K : aK} {I : aI} {R : aR} {S : aS} {v l e w : Int} (hC0 : CSt n h B sd im I R S) (hW : WF n) (hv : iR v) (hl : iR l) (he : iR e) (hw : iR w) (hK : DeedC (endF n v l e w) n h B sd im I R S K) : Ok P 54 (d + 4) [vr 0, vi v, vi l, vi e, vi w] I R S K := by
  have hN := hW.1
  obtain ⟨c1, c2, c3, c4, c5, c6, c7, c8, c9⟩ := id hC0
  obtain ⟨⟨a0, a1, -⟩, -, -, -, e3, -⟩ := id c1
  have hN1 := e3 1 (Or.inl rfl)
  have sn := hN1.1
  refine Ok.of (by decide) rfl (Nat.le_of_ble_eq_true rfl) ?_
  refine Go.walk 400 [] E54 E54_ok (fun G C hG hC => ?_)
  (repeat ((conv => whnf); first | refine ⟨_, by assumption, ?_⟩ | refine ⟨_, _, by assumption, ?_⟩ | refine ⟨(show _ ∧ _ by omega), ?_⟩ | refine ⟨(show _ ∨ _ by omega), ?_⟩ | refine ⟨fun h => absurd h (by decide), fun _ => ?_⟩ | refine ⟨fun _ => ?_, fun h => absurd h (by decide)⟩ | refine ⟨fun _ => ?_, fun h => absurd rfl h⟩ | refine ⟨fun h => absurd rfl h, fun _ => ?_⟩)); try (conv => whnf)
  refine hC _ _ _ _ _ _ ?_
  refine ok_hasNode hN1 c4 hW hv (fun q => ?_) (fun q => ?_)
  · (repeat ((conv => whnf); first | refine ⟨_, by assumption, ?_⟩ | refine ⟨_, _, by assumption, ?_⟩ | refine ⟨(show _ ∧ _ by omega), ?_⟩ | refine ⟨(show _ ∨ _ by omega), ?_⟩ | refine ⟨fun h => absurd h (by decide), fun _ => ?_⟩ | refine ⟨fun _ => ?_, fun h => absurd h (by decide)⟩ | refine ⟨fun _ => ?_, fun h => absurd rfl h⟩ | refine ⟨fun h => absurd rfl h, fun _ => ?_⟩)); try (conv => whnf)
    refine hC _ _ _ _ _ _ ?_
    refine ok_within hl (by omega) (by omega) (fun q1 => ?_) (fun q1 => ?_)
    · (repeat ((conv => whnf); first | refine ⟨_, by assumption, ?_⟩ | refine ⟨_, _, by assumption, ?_⟩ | refine ⟨(show _ ∧ _ by omega), ?_⟩ | refine ⟨(show _ ∨ _ by omega), ?_⟩ | refine ⟨fun h => absurd h (by decide), fun _ => ?_⟩ | refine ⟨fun _ => ?_, fun h => absurd h (by decide)⟩ | refine ⟨fun _ => ?_, fun h => absurd rfl h⟩ | refine ⟨fun h => absurd rfl h, fun _ => ?_⟩)); try (conv => whnf)
      refine hC _ _ _ _ _ _ ?_
      refine ok_within he (by omega) (by omega) (fun q2 => ?_) (fun q2 => ?_)
      · (repeat ((conv => whnf); first | refine ⟨_, by assumption, ?_⟩ | refine ⟨_, _, by assumption, ?_⟩ | refine ⟨(show _ ∧ _ by omega), ?_⟩ | refine ⟨(show _ ∨ _ by omega), ?_⟩ | refine ⟨fun h => absurd h (by decide), fun _ => ?_⟩ | refine ⟨fun _ => ?_, fun h => absurd h (by decide)⟩ | refine ⟨fun _ => ?_, fun h => absurd rfl h⟩ | refine ⟨fun h => absurd rfl h, fun _ => ?_⟩)); try (conv => whnf)
        refine hC _ _ _ _ _ _ ?_
        refine ok_within hw (by omega) (by omega) (fun q3 => ?_) (fun q3 => ?_)
        · (repeat ((conv => whnf); first | refine ⟨_, by assumption, ?_⟩ | refine ⟨_, _, by assumption, ?_⟩ | refine ⟨(show _ ∧ _ by omega), ?_⟩ | refine ⟨(show _ ∨ _ by omega), ?_⟩ | refine ⟨fun h => absurd h (by decide), fun _ => ?_⟩ | refine ⟨fun _ => ?_, fun h => absurd h (by decide)⟩ | refine ⟨fun _ => ?_, fun h => absurd rfl h⟩ | refine ⟨fun h => absurd rfl h, fun _ => ?_⟩)); try (conv => whnf)
          refine ⟨fun q4 => ?_, fun q4 => ?_⟩
          · (repeat ((conv => whnf); first | refine ⟨_, by assumption, ?_⟩ | refine ⟨_, _, by assumption, ?_⟩ | refine ⟨(show _ ∧ _ by omega), ?_⟩ | refine ⟨(show _ ∨ _ by omega), ?_⟩ | refine ⟨fun h => absurd h (by decide), fun _ => ?_⟩ | refine ⟨fun _ => ?_, fun h => absurd h (by decide)⟩ | refine ⟨fun _ => ?_, fun h => absurd rfl h⟩ | refine ⟨fun h => absurd rfl h, fun _ => ?_⟩)); try (conv => whnf)
            refine hC _ _ _ _ _ _ ?_
            refine ok_deedC hC0 (fun I1 hX1 hC1 h5 => ?_)
            (repeat ((conv => whnf); first | refine ⟨_, by assumption, ?_⟩ | refine ⟨_, _, by assumption, ?_⟩ | refine ⟨(show _ ∧ _ by omega), ?_⟩ | refine ⟨(show _ ∨ _ by omega), ?_⟩ | refine ⟨fun h => absurd h (by decide), fun _ => ?_⟩ | refine ⟨fun _ => ?_, fun h => absurd h (by decide)⟩ | refine ⟨fun _ => ?_, fun h => absurd rfl h⟩ | refine ⟨fun h => absurd rfl h, fun _ => ?_⟩)); try (conv => whnf)
            refine hC _ _ _ _ _ _ ?_
            refine ok_tellEnd hN1 hC1.2.2.2.1 (by omega) (fun I2 hF2 hR2 => ?_)
            have hW2 := wf_end hW (v := v) (by omega) ⟨q1, q2, q3⟩
            have ez : endN n v l e w 0 = n 0 := by
              unfold endN
              rw [st_lo (by omega) (by omega) (by omega), st_lo (by omega) (by omega) (by omega), st_lo (by omega) (by omega) (by omega)]
            have eF : endF n v l e w = (b2i (mEnd (endN n v l e w) v), some (endN n v l e w)) := by
              unfold endF
              rw [if_neg (fun z => z q), if_neg (fun z => z ⟨q1, q2, q3⟩), if_neg q4]
            have fin := hK.yes eF hX1 hC1 h5 (fun x hx => hF2 x (by omega)) hR2
            (repeat ((conv => whnf); first | refine ⟨_, by assumption, ?_⟩ | refine ⟨_, _, by assumption, ?_⟩ | refine ⟨(show _ ∧ _ by omega), ?_⟩ | refine ⟨(show _ ∨ _ by omega), ?_⟩ | refine ⟨fun h => absurd h (by decide), fun _ => ?_⟩ | refine ⟨fun _ => ?_, fun h => absurd h (by decide)⟩ | refine ⟨fun _ => ?_, fun h => absurd rfl h⟩ | refine ⟨fun h => absurd rfl h, fun _ => ?_⟩)); try (conv => whnf)
            refine hC _ _ _ _ _ _ ?_
            refine ok_cisEnd hN1 hR2 hW2 (by omega) (fun g => ?_) (fun g => ?_)
            · rw [g] at fin
              (repeat ((conv => whnf); first | refine ⟨_, by assumption, ?_⟩ | refine ⟨_, _, by assumption, ?_⟩ | refine ⟨(show _ ∧ _ by omega), ?_⟩ | refine ⟨(show _ ∨ _ by omega), ?_⟩ | refine ⟨fun h => absurd h (by decide), fun _ => ?_⟩ | refine ⟨fun _ => ?_, fun h => absurd h (by decide)⟩ | refine ⟨fun _ => ?_, fun h => absurd rfl h⟩ | refine ⟨fun h => absurd rfl h, fun _ => ?_⟩)); try (conv => whnf)
              exact fin
            · rw [g] at fin
              (repeat ((conv => whnf); first | refine ⟨_, by assumption, ?_⟩ | refine ⟨_, _, by assumption, ?_⟩ | refine ⟨(show _ ∧ _ by omega), ?_⟩ | refine ⟨(show _ ∨ _ by omega), ?_⟩ | refine ⟨fun h => absurd h (by decide), fun _ => ?_⟩ | refine ⟨fun _ => ?_, fun h => absurd h (by decide)⟩ | refine ⟨fun _ => ?_, fun h => absurd rfl h⟩ | refine ⟨fun h => absurd rfl h, fun _ => ?_⟩)); try (conv => whnf)
              exact fin
          · (repeat ((conv => whnf); first | refine ⟨_, by assumption, ?_⟩ | refine ⟨_, _, by assumption, ?_⟩ | refine ⟨(show _ ∧ _ by omega), ?_⟩ | refine ⟨(show _ ∨ _ by omega), ?_⟩ | refine ⟨fun h => absurd h (by decide), fun _ => ?_⟩ | refine ⟨fun _ => ?_, fun h => absurd h (by decide)⟩ | refine ⟨fun _ => ?_, fun h => absurd rfl h⟩ | refine ⟨fun h => absurd rfl h, fun _ => ?_⟩)); try (conv => whnf)
            refine hK.no hC0 ?_
            unfold endF
            rw [if_neg (fun z => z q), if_neg (fun z => z ⟨q1, q2, q3⟩), if_pos q4]
        · (repeat ((conv => whnf); first | refine ⟨_, by assumption, ?_⟩ | refine ⟨_, _, by assumption, ?_⟩ | refine ⟨(show _ ∧ _ by omega), ?_⟩ | refine ⟨(show _ ∨ _ by omega), ?_⟩ | refine ⟨fun h => absurd h (by decide), fun _ => ?_⟩ | refine ⟨fun _ => ?_, fun h => absurd h (by decide)⟩ | refine ⟨fun _ => ?_, fun h => absurd rfl h⟩ | refine ⟨fun h => absurd rfl h, fun _ => ?_⟩)); try (conv => whnf)
          refine hK.no hC0 ?_
          unfold endF
          rw [if_neg (fun z => z q), if_pos (fun z => q3 z.2.2)]
      · (repeat ((conv => whnf); first | refine ⟨_, by assumption, ?_⟩ | refine ⟨_, _, by assumption, ?_⟩ | refine ⟨(show _ ∧ _ by omega), ?_⟩ | refine ⟨(show _ ∨ _ by omega), ?_⟩ | refine ⟨fun h => absurd h (by decide), fun _ => ?_⟩ | refine ⟨fun _ => ?_, fun h => absurd h (by decide)⟩ | refine ⟨fun _ => ?_, fun h => absurd rfl h⟩ | refine ⟨fun h => absurd rfl h, fun _ => ?_⟩)); try (conv => whnf)
        refine hK.no hC0 ?_
        unfold endF
        rw [if_neg (fun z => z q), if_pos (fun z => q2 z.2.1)]
    · (repeat ((conv => whnf); first | refine ⟨_, by assumption, ?_⟩ | refine ⟨_, _, by assumption, ?_⟩ | refine ⟨(show _ ∧ _ by omega), ?_⟩ | refine ⟨(show _ ∨ _ by omega), ?_⟩ | refine ⟨fun h => absurd h (by decide), fun _ => ?_⟩ | refine ⟨fun _ => ?_, fun h => absurd h (by decide)⟩ | refine ⟨fun _ => ?_, fun h => absurd rfl h⟩ | refine ⟨fun h => absurd rfl h, fun _ => ?_⟩)); try (conv => whnf)
      refine hK.no hC0 ?_
      unfold endF
      rw [if_neg (fun z => z q), if_pos (fun z => q1 z.1)]
  · (repeat ((conv => whnf); first | refine ⟨_, by assumption, ?_⟩ | refine ⟨_, _, by assumption, ?_⟩ | refine ⟨(show _ ∧ _ by omega), ?_⟩ | refine ⟨(show _ ∨ _ by omega), ?_⟩ | refine ⟨fun h => absurd h (by decide), fun _ => ?_⟩ | refine ⟨fun _ => ?_, fun h => absurd h (by decide)⟩ | refine ⟨fun _ => ?_, fun h => absurd rfl h⟩ | refine ⟨fun h => absurd rfl h, fun _ => ?_⟩)); try (conv => whnf)
    refine hK.no hC0 ?_
    unfold endF
    rw [if_pos q]
/-- pull(p) -/
theorem ok_cpull {P : aP} {d : Nat} {K : aK} {I : aI} {R : aR} {S : aS} {p : Int} (hC0 : CSt n h B sd im I R S) (hp : iR p) (hK : DeedC (pullF n p) n h B sd im I R S K) : Ok P 56 (d + 4) [vr 0, vi p] I R S K := by
  obtain ⟨c1, c2, c3, c4, c5, c6, c7, c8, c9⟩ := id hC0
  obtain ⟨⟨a0, a1, -⟩, -, -, -, e3, -⟩ := id c1
  have hN1 := e3 1 (Or.inl rfl)
  have sn := hN1.1
  refine Ok.of (by decide) rfl (Nat.le_of_ble_eq_true rfl) ?_
  refine Go.walk 400 [] E56 E56_ok (fun G C hG hC => ?_)
  (repeat ((conv => whnf); first | refine ⟨_, by assumption, ?_⟩ | refine ⟨_, _, by assumption, ?_⟩ | refine ⟨(show _ ∧ _ by omega), ?_⟩ | refine ⟨(show _ ∨ _ by omega), ?_⟩ | refine ⟨fun h => absurd h (by decide), fun _ => ?_⟩ | refine ⟨fun _ => ?_, fun h => absurd h (by decide)⟩ | refine ⟨fun _ => ?_, fun h => absurd rfl h⟩ | refine ⟨fun h => absurd rfl h, fun _ => ?_⟩)); try (conv => whnf)
  refine hC _ _ _ _ _ _ ?_
  refine ok_within hp (by omega) (by omega) (fun q => ?_) (fun q => ?_)
  · (repeat ((conv => whnf); first | refine ⟨_, by assumption, ?_⟩ | refine ⟨_, _, by assumption, ?_⟩ | refine ⟨(show _ ∧ _ by omega), ?_⟩ | refine ⟨(show _ ∨ _ by omega), ?_⟩ | refine ⟨fun h => absurd h (by decide), fun _ => ?_⟩ | refine ⟨fun _ => ?_, fun h => absurd h (by decide)⟩ | refine ⟨fun _ => ?_, fun h => absurd rfl h⟩ | refine ⟨fun h => absurd rfl h, fun _ => ?_⟩)); try (conv => whnf)
    refine hC _ _ _ _ _ _ ?_
    refine ok_deedC hC0 (fun I1 hX1 hC1 h5 => ?_)
    have e1 : I1 1 ((1 : Nat) : Int) = n 1 := hC1.2.2.2.1.1.2.1
    (repeat ((conv => whnf); first | refine ⟨_, by assumption, ?_⟩ | refine ⟨_, _, by assumption, ?_⟩ | refine ⟨(show _ ∧ _ by omega), ?_⟩ | refine ⟨(show _ ∨ _ by omega), ?_⟩ | refine ⟨fun h => absurd h (by decide), fun _ => ?_⟩ | refine ⟨fun _ => ?_, fun h => absurd h (by decide)⟩ | refine ⟨fun _ => ?_, fun h => absurd rfl h⟩ | refine ⟨fun h => absurd rfl h, fun _ => ?_⟩)); try (conv => whnf)
    rw [e1]
    refine hK.yes (r := n 1) (n' := up n 1 p) ?_ hX1 hC1 h5 (fun x hx => ?_) (hC1.2.2.2.1.up1 (by omega))
    · unfold pullF
      rw [if_neg (fun z => z q)]
    · funext k
      exact uI_ne (by omega)
  · (repeat ((conv => whnf); first | refine ⟨_, by assumption, ?_⟩ | refine ⟨_, _, by assumption, ?_⟩ | refine ⟨(show _ ∧ _ by omega), ?_⟩ | refine ⟨(show _ ∨ _ by omega), ?_⟩ | refine ⟨fun h => absurd h (by decide), fun _ => ?_⟩ | refine ⟨fun _ => ?_, fun h => absurd h (by decide)⟩ | refine ⟨fun _ => ?_, fun h => absurd rfl h⟩ | refine ⟨fun h => absurd rfl h, fun _ => ?_⟩)); try (conv => whnf)
    refine hK.no hC0 ?_
    unfold pullF
    rw [if_pos q]
/-- take() -/
theorem ok_ctake {P : aP} {d : Nat} {K : aK} {I : aI} {R : aR} {S : aS} (hC0 : CSt n h B sd im I R S) (hW : WF n) (hK : DeedC (takeF n) n h B sd im I R S K) : Ok P 60 (d + 4) [vr 0] I R S K := by
  have hN := hW.1
  obtain ⟨c1, c2, c3, c4, c5, c6, c7, c8, c9⟩ := id hC0
  obtain ⟨⟨a0, a1, -⟩, -, -, -, e3, -⟩ := id c1
  have hN1 := e3 1 (Or.inl rfl)
  have sn := hN1.1
  have e0 : I 1 ((0 : Nat) : Int) = n 0 := c4.1.1
  refine Ok.of (by decide) rfl (Nat.le_of_ble_eq_true rfl) ?_
  refine Go.walk 400 [] E60 E60_ok (fun G C hG hC => ?_)
  (repeat ((conv => whnf); first | refine ⟨_, by assumption, ?_⟩ | refine ⟨_, _, by assumption, ?_⟩ | refine ⟨(show _ ∧ _ by omega), ?_⟩ | refine ⟨(show _ ∨ _ by omega), ?_⟩ | refine ⟨fun h => absurd h (by decide), fun _ => ?_⟩ | refine ⟨fun _ => ?_, fun h => absurd h (by decide)⟩ | refine ⟨fun _ => ?_, fun h => absurd rfl h⟩ | refine ⟨fun h => absurd rfl h, fun _ => ?_⟩)); try (conv => whnf)
  rw [e0]
  refine ⟨fun q => ?_, fun q => ?_⟩
  · (repeat ((conv => whnf); first | refine ⟨_, by assumption, ?_⟩ | refine ⟨_, _, by assumption, ?_⟩ | refine ⟨(show _ ∧ _ by omega), ?_⟩ | refine ⟨(show _ ∨ _ by omega), ?_⟩ | refine ⟨fun h => absurd h (by decide), fun _ => ?_⟩ | refine ⟨fun _ => ?_, fun h => absurd h (by decide)⟩ | refine ⟨fun _ => ?_, fun h => absurd rfl h⟩ | refine ⟨fun h => absurd rfl h, fun _ => ?_⟩)); try (conv => whnf)
    refine hC _ _ _ _ _ _ ?_
    refine ok_deedC hC0 (fun I1 hX1 hC1 h5 => ?_)
    have e1 : I1 1 ((0 : Nat) : Int) = n 0 := hC1.2.2.2.1.1.1
    have e2 : uI I1 1 ((0 : Nat) : Int) (n 0 - 1) 1 ((0 : Nat) : Int) = n 0 - 1 := uI_at
    (repeat ((conv => whnf); first | refine ⟨_, by assumption, ?_⟩ | refine ⟨_, _, by assumption, ?_⟩ | refine ⟨(show _ ∧ _ by omega), ?_⟩ | refine ⟨(show _ ∨ _ by omega), ?_⟩ | refine ⟨fun h => absurd h (by decide), fun _ => ?_⟩ | refine ⟨fun _ => ?_, fun h => absurd h (by decide)⟩ | refine ⟨fun _ => ?_, fun h => absurd rfl h⟩ | refine ⟨fun h => absurd rfl h, fun _ => ?_⟩)); try (conv => whnf)
    rw [e1, e2]
    refine hK.yes (r := n 0 - 1) (n' := up n 0 (n 0 - 1)) ?_ hX1 hC1 h5 (fun x hx => ?_) (hC1.2.2.2.1.up1 (by omega))
    · unfold takeF
      rw [if_neg (by omega)]
    · funext k
      exact uI_ne (by omega)
  · (repeat ((conv => whnf); first | refine ⟨_, by assumption, ?_⟩ | refine ⟨_, _, by assumption, ?_⟩ | refine ⟨(show _ ∧ _ by omega), ?_⟩ | refine ⟨(show _ ∨ _ by omega), ?_⟩ | refine ⟨fun h => absurd h (by decide), fun _ => ?_⟩ | refine ⟨fun _ => ?_, fun h => absurd h (by decide)⟩ | refine ⟨fun _ => ?_, fun h => absurd rfl h⟩ | refine ⟨fun h => absurd rfl h, fun _ => ?_⟩)); try (conv => whnf)
    refine hK.no hC0 ?_
    unfold takeF
    rw [if_pos (by omega)]
/-- place(v, k) -/
theorem ok_cplace {P : aP} {d : Nat} {K : aK} {I : aI} {R : aR} {S : aS} {v k : Int} (hC0 : CSt n h B sd im I R S) (hW : WF n) (hv : iR v) (hk : iR k) (hK : DeedC (placeF n v k) n h B sd im I R S K) : Ok P 59 (d + 4) [vr 0, vi v, vi k] I R S K := by
  have hN := hW.1
  obtain ⟨c1, c2, c3, c4, c5, c6, c7, c8, c9⟩ := id hC0
  obtain ⟨⟨a0, a1, -⟩, -, -, -, e3, -⟩ := id c1
  have hN1 := e3 1 (Or.inl rfl)
  obtain ⟨s0, sr1, sm1, sr2, sm2, sr3, sm3, sr4, sm4, sr5, sm5, sr6, sm6, sr7, sm7, sr8, sm8, sr9, sm9, sr10, sm10, sr11, sm11, sr12, sm12, sr13, sm13⟩ := id hN1
  refine Ok.of (by decide) rfl (Nat.le_of_ble_eq_true rfl) ?_
  refine Go.walk 400 [] E59 E59_ok (fun G C hG hC => ?_)
  (repeat ((conv => whnf); first | refine ⟨_, by assumption, ?_⟩ | refine ⟨_, _, by assumption, ?_⟩ | refine ⟨(show _ ∧ _ by omega), ?_⟩ | refine ⟨(show _ ∨ _ by omega), ?_⟩ | refine ⟨fun h => absurd h (by decide), fun _ => ?_⟩ | refine ⟨fun _ => ?_, fun h => absurd h (by decide)⟩ | refine ⟨fun _ => ?_, fun h => absurd rfl h⟩ | refine ⟨fun h => absurd rfl h, fun _ => ?_⟩)); try (conv => whnf)
  refine hC _ _ _ _ _ _ ?_
  refine ok_hasNode hN1 c4 hW hv (fun q => ?_) (fun q => ?_)
  · (repeat ((conv => whnf); first | refine ⟨_, by assumption, ?_⟩ | refine ⟨_, _, by assumption, ?_⟩ | refine ⟨(show _ ∧ _ by omega), ?_⟩ | refine ⟨(show _ ∨ _ by omega), ?_⟩ | refine ⟨fun h => absurd h (by decide), fun _ => ?_⟩ | refine ⟨fun _ => ?_, fun h => absurd h (by decide)⟩ | refine ⟨fun _ => ?_, fun h => absurd rfl h⟩ | refine ⟨fun h => absurd rfl h, fun _ => ?_⟩)); try (conv => whnf)
    refine hC _ _ _ _ _ _ ?_
    refine ok_canBePlaced hN1 c4 hk (fun q1 => ?_) (fun q1 => ?_)
    · have q1' : k = 0 ∨ isKb n k = true := by rw [isKb_iff]; exact q1
      (repeat ((conv => whnf); first | refine ⟨_, by assumption, ?_⟩ | refine ⟨_, _, by assumption, ?_⟩ | refine ⟨(show _ ∧ _ by omega), ?_⟩ | refine ⟨(show _ ∨ _ by omega), ?_⟩ | refine ⟨fun h => absurd h (by decide), fun _ => ?_⟩ | refine ⟨fun _ => ?_, fun h => absurd h (by decide)⟩ | refine ⟨fun _ => ?_, fun h => absurd rfl h⟩ | refine ⟨fun h => absurd rfl h, fun _ => ?_⟩)); try (conv => whnf)
      refine ⟨fun q4 => ?_, fun q4 => ?_⟩
      · (repeat ((conv => whnf); first | refine ⟨_, by assumption, ?_⟩ | refine ⟨_, _, by assumption, ?_⟩ | refine ⟨(show _ ∧ _ by omega), ?_⟩ | refine ⟨(show _ ∨ _ by omega), ?_⟩ | refine ⟨fun h => absurd h (by decide), fun _ => ?_⟩ | refine ⟨fun _ => ?_, fun h => absurd h (by decide)⟩ | refine ⟨fun _ => ?_, fun h => absurd rfl h⟩ | refine ⟨fun h => absurd rfl h, fun _ => ?_⟩)); try (conv => whnf)
        refine hC _ _ _ _ _ _ ?_
        refine ok_deedC hC0 (fun I1 hX1 hC1 h5 => ?_)
        have e1 : I1 9 v = nf n v 7 := (hC1.2.2.2.1.2.1 v (by omega) (by omega)).2.2.2.2.2.2.2
        (repeat ((conv => whnf); first | refine ⟨_, by assumption, ?_⟩ | refine ⟨_, _, by assumption, ?_⟩ | refine ⟨(show _ ∧ _ by omega), ?_⟩ | refine ⟨(show _ ∨ _ by omega), ?_⟩ | refine ⟨fun h => absurd h (by decide), fun _ => ?_⟩ | refine ⟨fun _ => ?_, fun h => absurd h (by decide)⟩ | refine ⟨fun _ => ?_, fun h => absurd rfl h⟩ | refine ⟨fun h => absurd rfl h, fun _ => ?_⟩)); try (conv => whnf)
        rw [e1]
        refine hK.yes (r := nf n v 7) (n' := st n v 7 k) ?_ hX1 hC1 h5 (fun x hx => ?_) (hC1.2.2.2.1.st (b := 9) (by omega) (by omega) (by omega))
        · unfold placeF
          rw [if_neg (fun z => z ⟨q, q1'⟩), if_neg q4]
        · funext k
          exact uI_ne (by omega)
      · (repeat ((conv => whnf); first | refine ⟨_, by assumption, ?_⟩ | refine ⟨_, _, by assumption, ?_⟩ | refine ⟨(show _ ∧ _ by omega), ?_⟩ | refine ⟨(show _ ∨ _ by omega), ?_⟩ | refine ⟨fun h => absurd h (by decide), fun _ => ?_⟩ | refine ⟨fun _ => ?_, fun h => absurd h (by decide)⟩ | refine ⟨fun _ => ?_, fun h => absurd rfl h⟩ | refine ⟨fun h => absurd rfl h, fun _ => ?_⟩)); try (conv => whnf)
        refine hK.no hC0 ?_
        unfold placeF
        rw [if_neg (fun z => z ⟨q, q1'⟩), if_pos q4]
    · have q1' : ¬ (k = 0 ∨ isKb n k = true) := by rw [isKb_iff]; exact q1
      (repeat ((conv => whnf); first | refine ⟨_, by assumption, ?_⟩ | refine ⟨_, _, by assumption, ?_⟩ | refine ⟨(show _ ∧ _ by omega), ?_⟩ | refine ⟨(show _ ∨ _ by omega), ?_⟩ | refine ⟨fun h => absurd h (by decide), fun _ => ?_⟩ | refine ⟨fun _ => ?_, fun h => absurd h (by decide)⟩ | refine ⟨fun _ => ?_, fun h => absurd rfl h⟩ | refine ⟨fun h => absurd rfl h, fun _ => ?_⟩)); try (conv => whnf)
      refine hK.no hC0 ?_
      unfold placeF
      rw [if_pos (fun z => q1' z.2)]
  · (repeat ((conv => whnf); first | refine ⟨_, by assumption, ?_⟩ | refine ⟨_, _, by assumption, ?_⟩ | refine ⟨(show _ ∧ _ by omega), ?_⟩ | refine ⟨(show _ ∨ _ by omega), ?_⟩ | refine ⟨fun h => absurd h (by decide), fun _ => ?_⟩ | refine ⟨fun _ => ?_, fun h => absurd h (by decide)⟩ | refine ⟨fun _ => ?_, fun h => absurd rfl h⟩ | refine ⟨fun h => absurd rfl h, fun _ => ?_⟩)); try (conv => whnf)
    refine hK.no hC0 ?_
    unfold placeF
    rw [if_pos (fun z => q z.1)]
end Dc
