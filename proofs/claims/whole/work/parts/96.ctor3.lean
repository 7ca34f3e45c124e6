/-! the constructor of the class -/
def Ext (a : Nat) (I : aI) (R : aR) (S : aS) (I' : aI) (R' : aR) (S' : aS) : Prop := (∃ T, S' = S ++ T) ∧ ∀ x, 0 < x → x < a → I' x = I x ∧ R' x = R x
theorem Ext.tr {a b : Nat} {I I1 I2 : aI} {R R1 R2 : aR} {S S1 S2 : aS} (h1 : Ext a I R S I1 R1 S1) (h2 : Ext b I1 R1 S1 I2 R2 S2) (hab : a ≤ b) : Ext a I R S I2 R2 S2 := by
  obtain ⟨⟨T1, e1⟩, g1⟩ := h1
  obtain ⟨⟨T2, e2⟩, g2⟩ := h2
  refine ⟨⟨T1 ++ T2, by rw [e2, e1, List.append_assoc]⟩, fun x p q => ?_⟩
  have u := g2 x p (by omega)
  have v := g1 x p q
  exact ⟨u.1.trans v.1, u.2.trans v.2⟩
theorem Ext.of {a c : Nat} {ob : Nat × Nat} {k : Int} {I I' : aI} {R R' : aR} {S S' : aS} (hl : c = a) (h : NF0 a (zI I c) (zR R c) (S ++ [ob]) I' R' S') (z : Option Nat) : Ext a I R S I' (uR R' 0 k z) S' := by
  subst hl
  obtain ⟨⟨T, e⟩, g⟩ := h
  refine ⟨⟨[ob] ++ T, by rw [e, List.append_assoc]⟩, fun x p q => ⟨?_, ?_⟩⟩
  · rw [(g x q).1, zI_ne (by omega)]
  · rw [uR_o (by omega), (g x q).2, zR_ne (by omega)]
def cof : Nat → Nat
  | 0 => 1
  | 1 => 15
  | 2 => 29
  | 3 => 34
  | 4 => 100
  | 5 => 326
  | 6 => 329
  | 7 => 330
  | 8 => 331
  | _ => 332
def Zf (k : Nat) (R : aR) : Prop := ∀ i : Nat, i < k → R 0 (i : Int) = some (cof i)
theorem Zf.up {k a : Nat} {R R' : aR} (h : Zf k R) (hR : R' 0 = R 0) (ha : a = cof k) : Zf (k + 1) (uR R' 0 (k : Nat) (some a)) := by
  intro i hi
  by_cases q : i = k
  · subst q
    rw [ha]
    exact uR_at
  · rw [uR_ne (by omega), hR]
    exact h i (by omega)
/-- new Draws() -/
theorem ok_newDraws {P : aP} {d : Nat} {K : aK} {I : aI} {R : aR} {S : aS} {a : Nat} (ha : S[a]? = some (2, 1)) (hK : K none (uI I a 0 0) R S) : Ok P 12 (d + 1) [vr a] I R S K := by
  refine Ok.of (by decide) rfl (Nat.le_of_ble_eq_true rfl) ?_
  refine Go.walk 400 [] E12 E12_ok (fun G C hG hC => ?_)
  (repeat ((conv => whnf); first | refine ⟨_, by assumption, ?_⟩ | refine ⟨_, _, by assumption, ?_⟩ | refine ⟨(show _ ∧ _ by omega), ?_⟩ | refine ⟨(show _ ∨ _ by omega), ?_⟩ | refine ⟨fun h => absurd h (by decide), fun _ => ?_⟩ | refine ⟨fun _ => ?_, fun h => absurd h (by decide)⟩ | refine ⟨fun _ => ?_, fun h => absurd rfl h⟩ | refine ⟨fun h => absurd rfl h, fun _ => ?_⟩)); try (conv => whnf)
  exact hK
/-- what the new object holds -/
def CInit (I : aI) (R : aR) (S : aS) : Prop := SS R S ∧ (∀ f, fr f → F1 R S f (f + 1) (f + 2) (f + 3) 16) ∧ NetR I 1 nz ∧ (I 100 1 = 0 ∧ I 100 2 = 0) ∧ I 326 2 = 0 ∧ I 329 0 = 0 ∧ (∀ k, I 332 k = 0) ∧ I 34 5 = 0
/-- the images under way -/
def IQ (I0 : aI) (R0 : aR) (S0 : aS) (i : Nat) (I : aI) (R : aR) (S : aS) : Prop := S.length = 333 + 14 * i ∧ (∀ j : Nat, j < i → NetS R S (333 + 14 * j) ∧ R 330 (j : Int) = some (333 + 14 * j)) ∧ (∀ x, x < 333 → I x = I0 x ∧ (x ≠ 330 → R x = R0 x)) ∧ (∃ T, S = S0 ++ T) ∧ szs S = szs S0 + 84 * i
theorem iq_step {I0 : aI} {R0 : aR} {S0 : aS} {i : Nat} {I I' : aI} {R R' : aR} {S S' : aS} (h : IQ I0 R0 S0 i I R S) (hN : NF0 (333 + 14 * i) (zI I S.length) (zR R S.length) (S ++ [(4, 16)]) I' R' S') (hl : S'.length = 333 + 14 * i + 14) (hs : szs S' = szs (S ++ [(4, 16)]) + 68) (hF : NetS R' S' (333 + 14 * i)) : IQ I0 R0 S0 (i + 1) I' (uR R' 330 (i : Int) (some (333 + 14 * i))) S' := by
  obtain ⟨h1, h6, h7, ⟨T, h8⟩, h9⟩ := h
  obtain ⟨⟨T', e'⟩, hx⟩ := hN
  have hR : ∀ x, x < 333 + 14 * i → R' x = R x := fun x q => by rw [(hx x q).2, zR_ne (by omega)]
  have hI : ∀ x, x < 333 + 14 * i → I' x = I x := fun x q => by rw [(hx x q).1, zI_ne (by omega)]
  have eS : S' = S ++ ([(4, 16)] ++ T') := by rw [e', List.append_assoc]
  refine ⟨by omega, fun j g0 => ?_, fun x q => ⟨by rw [hI x (by omega)]; exact (h7 x q).1, fun r => by rw [uR_o r, hR x (by omega)]; exact (h7 x q).2 r⟩, ⟨T ++ ([(4, 16)] ++ T'), by rw [eS, h8, List.append_assoc]⟩, ?_⟩
  · by_cases q : j = i
    · subst q
      refine ⟨?_, uR_at⟩
      have := hF.cg (T := []) (R' := uR R' 330 (j : Int) (some (333 + 14 * j))) (uR_o (by omega))
      rw [List.append_nil] at this
      exact this
    · obtain ⟨k1, k2⟩ := h6 j (by omega)
      refine ⟨?_, by rw [uR_ne (by omega), hR 330 (by omega)]; exact k2⟩
      rw [eS]
      exact k1.cg (by rw [uR_o (by omega), hR _ (by omega)])
  · rw [hs, szs_1]
    show szs S + 16 + 68 = _
    omega
/-- new RepeaterWires() -/
theorem ok_newClass {P : aP} {d : Nat} {K : aK} {I : aI} {R : aR} {S : aS} (hl : S.length = 1) (ha : S[0]? = some (7, 10)) (hK : ∀ I' R' S', S'.length = 361 → szs S' = szs S + 2630 → CInit I' R' S' → K none I' R' S') : Ok P 43 (d + 3) [vr 0] I R S K := by
  have loop : ∀ (I0 : aI) (R0 : aR) (S0 : aS), S0[0]? = some (7, 10) → S0[330]? = some (12, 2) → R0 0 7 = some 330 → (∀ I' R' S', IQ I0 R0 S0 2 I' R' S' → K none I' R' S') → ∀ (m i : Nat) (I1 : aI) (R1 : aR) (S1 : aS), i + m = 2 → IQ I0 R0 S0 i I1 R1 S1 → Go P 43 (d + 3) K 105 [vr 0, vi (i : Int)] [] I1 R1 S1 := by
    intro I0 R0 S0 y0 y1 y2 hfin m
    induction m with
    | zero =>
      intro i I1 R1 S1 gm hQ
      have hi : i = 2 := by omega
      subst hi
      refine Go.walk 400 [105] E43 E43_ok (fun G C hG hC => ?_)
      (repeat ((conv => whnf); first | refine ⟨_, by assumption, ?_⟩ | refine ⟨_, _, by assumption, ?_⟩ | refine ⟨(show _ ∧ _ by omega), ?_⟩ | refine ⟨(show _ ∨ _ by omega), ?_⟩ | refine ⟨fun h => absurd h (by decide), fun _ => ?_⟩ | refine ⟨fun _ => ?_, fun h => absurd h (by decide)⟩ | refine ⟨fun _ => ?_, fun h => absurd rfl h⟩ | refine ⟨fun h => absurd rfl h, fun _ => ?_⟩)); try (conv => whnf)
      exact hfin _ _ _ hQ
    | succ m ih =>
      intro i I1 R1 S1 gm hQ
      obtain ⟨h1, h2, h3, ⟨T, h4⟩, h5⟩ := id hQ
      have w0 : S1[0]? = some (7, 10) := by rw [h4]; exact at_app y0
      have w1 : S1[330]? = some (12, 2) := by rw [h4]; exact at_app y1
      have w2 : R1 0 ((7 : Nat) : Int) = some 330 := by rw [(h3 0 (by omega)).2 (by omega)]; exact y2
      have z1 : (S1 ++ [(4, 16)])[S1.length]? = some (4, 16) := at_new
      refine Go.walk 400 [105] E43 E43_ok (fun G C hG hC => ?_)
      (repeat ((conv => whnf); first | refine ⟨_, by assumption, ?_⟩ | refine ⟨_, _, by assumption, ?_⟩ | refine ⟨(show _ ∧ _ by omega), ?_⟩ | refine ⟨(show _ ∨ _ by omega), ?_⟩ | refine ⟨fun h => absurd h (by decide), fun _ => ?_⟩ | refine ⟨fun _ => ?_, fun h => absurd h (by decide)⟩ | refine ⟨fun _ => ?_, fun h => absurd rfl h⟩ | refine ⟨fun h => absurd rfl h, fun _ => ?_⟩)); try (conv => whnf)
      refine ⟨fun q => absurd q (by omega), fun _ => ?_⟩
      (repeat ((conv => whnf); first | refine ⟨_, by assumption, ?_⟩ | refine ⟨_, _, by assumption, ?_⟩ | refine ⟨(show _ ∧ _ by omega), ?_⟩ | refine ⟨(show _ ∨ _ by omega), ?_⟩ | refine ⟨fun h => absurd h (by decide), fun _ => ?_⟩ | refine ⟨fun _ => ?_, fun h => absurd h (by decide)⟩ | refine ⟨fun _ => ?_, fun h => absurd rfl h⟩ | refine ⟨fun h => absurd rfl h, fun _ => ?_⟩)); try (conv => whnf)
      rw [h1]
      refine hC _ _ _ _ _ _ ?_
      refine ok_newNet (by rw [List.length_append, List.length_singleton, h1]) (by rw [← h1]; exact at_new) (fun I2 R2 S2 hN hl2 hs2 hF2 _ => ?_)
      have st := iq_step hQ (by rw [h1]; exact hN) hl2 hs2 hF2
      obtain ⟨T2, h42⟩ := st.2.2.2.1
      have st3 : S2[330]? = some (12, 2) := by rw [h42]; exact at_app y1
      have st7 := (st.2.1 i (by omega)).1.1
      (repeat ((conv => whnf); first | refine ⟨_, by assumption, ?_⟩ | refine ⟨_, _, by assumption, ?_⟩ | refine ⟨(show _ ∧ _ by omega), ?_⟩ | refine ⟨(show _ ∨ _ by omega), ?_⟩ | refine ⟨fun h => absurd h (by decide), fun _ => ?_⟩ | refine ⟨fun _ => ?_, fun h => absurd h (by decide)⟩ | refine ⟨fun _ => ?_, fun h => absurd rfl h⟩ | refine ⟨fun h => absurd rfl h, fun _ => ?_⟩)); try (conv => whnf)
      refine hG _ _ _ _ _ _ ?_
      have e : ((i : Int) + 1) = ((i + 1 : Nat) : Int) := by omega
      rw [e]
      exact ih (i + 1) I2 _ S2 (by omega) st
  have tail : ∀ (I7 : aI) (R7 : aR) (S7 : aS), S7.length = 330 → S7[0]? = some (7, 10) → Zf 7 R7 → (∀ I' R' S', Ext 330 I7 R7 S7 I' R' S' → S'.length = 361 → szs S' = szs S7 + 174 → Zf 10 R' → (S'[330]? = some (12, 2) ∧ S'[331]? = some (9, 2) ∧ S'[332]? = some (10, 2)) → (∀ j : Int, 0 ≤ j → j < 2 → NetS R' S' (imc j) ∧ R' 330 j = some (imc j)) → (∀ k, I' 332 k = 0) → K none I' R' S') → Go P 43 (d + 3) K 81 [vr 0, vu] [] I7 R7 S7 := by
    intro I7 R7 S7 l7 o7 f7 hfin
    have t1 : (S7 ++ [(12, 2)])[0]? = some (7, 10) := at_app o7
    have t2 : ((S7 ++ [(12, 2)]) ++ [(9, 2)])[0]? = some (7, 10) := at_app t1
    have t3 : (((S7 ++ [(12, 2)]) ++ [(9, 2)]) ++ [(10, 2)])[0]? = some (7, 10) := at_app t2
    have l8 : (S7 ++ [(Int.toNat 12, Int.toNat 2)]).length = 331 := by rw [List.length_append, List.length_singleton, l7]
    have l9 : ((S7 ++ [(Int.toNat 12, Int.toNat 2)]) ++ [(Int.toNat 9, Int.toNat 2)]).length = 332 := by rw [List.length_append, List.length_singleton, l8]
    have l10 : (((S7 ++ [(Int.toNat 12, Int.toNat 2)]) ++ [(Int.toNat 9, Int.toNat 2)]) ++ [(Int.toNat 10, Int.toNat 2)]).length = 333 := by rw [List.length_append, List.length_singleton, l9]
    have n1 : (S7 ++ [(12, 2)])[330]? = some (12, 2) := by rw [← l7]; exact at_new
    have n2 : ((S7 ++ [(12, 2)]) ++ [(9, 2)])[331]? = some (9, 2) := by rw [← show (S7 ++ [(12, 2)]).length = 331 from l8]; exact at_new
    have n3 : (((S7 ++ [(12, 2)]) ++ [(9, 2)]) ++ [(10, 2)])[332]? = some (10, 2) := by rw [← show ((S7 ++ [(12, 2)]) ++ [(9, 2)]).length = 332 from l9]; exact at_new
    have g8 := f7.up (R' := zR R7 330) (a := 330) (zR_ne (by omega)) rfl
    have g9 := g8.up (R' := zR (uR (zR R7 330) 0 ((7 : Nat) : Int) (some 330)) 331) (a := 331) (zR_ne (by omega)) rfl
    have g10 := g9.up (R' := zR (uR (zR (uR (zR R7 330) 0 ((7 : Nat) : Int) (some 330)) 331) 0 ((8 : Nat) : Int) (some 331)) 332) (a := 332) (zR_ne (by omega)) rfl
    refine Go.walk 400 [105] E43 E43_ok (fun G C hG hC => ?_)
    (repeat ((conv => whnf); first | refine ⟨_, by assumption, ?_⟩ | refine ⟨_, _, by assumption, ?_⟩ | refine ⟨(show _ ∧ _ by omega), ?_⟩ | refine ⟨(show _ ∨ _ by omega), ?_⟩ | refine ⟨fun h => absurd h (by decide), fun _ => ?_⟩ | refine ⟨fun _ => ?_, fun h => absurd h (by decide)⟩ | refine ⟨fun _ => ?_, fun h => absurd rfl h⟩ | refine ⟨fun h => absurd rfl h, fun _ => ?_⟩)); try (conv => whnf)
    simp only [l7, l8, l9]
    refine hG _ _ _ _ _ _ ?_
    refine loop _ _ (((S7 ++ [(12, 2)]) ++ [(9, 2)]) ++ [(10, 2)]) t3 (at_app (at_app n1)) (g10 7 (by omega)) (fun I' R' S' hQ => ?_) 2 0 _ _ _ (by omega) ⟨l10, fun j h => by omega, fun x _ => ⟨rfl, fun _ => rfl⟩, ⟨[], (List.append_nil _).symm⟩, rfl⟩
    obtain ⟨h1, h2, h3, ⟨T, h4⟩, h5⟩ := hQ
    refine hfin I' R' S' ⟨⟨[(12, 2)] ++ [(9, 2)] ++ [(10, 2)] ++ T, by rw [h4]; simp [List.append_assoc]⟩, fun x p q => ⟨?_, ?_⟩⟩ h1 ?_ (fun i hi => ?_) ⟨?_, ?_, ?_⟩ (fun j p0 p1 => ?_) (fun k => ?_)
    · rw [(h3 x (by omega)).1, zI_ne (by omega), zI_ne (by omega), zI_ne (by omega)]
    · rw [(h3 x (by omega)).2 (by omega), uR_o (by omega), zR_ne (by omega), uR_o (by omega), zR_ne (by omega), uR_o (by omega), zR_ne (by omega)]
    · rw [h5, szs_1, szs_1, szs_1]
      show szs S7 + 2 + 2 + 2 + 84 * 2 = _
      omega
    · rw [(h3 0 (by omega)).2 (by omega)]; exact g10 i hi
    · rw [h4]; exact at_app (at_app (at_app n1))
    · rw [h4]; exact at_app (at_app n2)
    · rw [h4]; exact at_app n3
    · have := h2 j.toNat (by omega)
      rw [show ((j.toNat : Nat) : Int) = j by omega] at this
      exact this
    · rw [(h3 332 (by omega)).1]; exact zI_at
  have hl0 : (S ++ [(4, 16)]).length = 1 + 1 := by rw [List.length_append, List.length_singleton, hl]
  have z0 : (S ++ [(4, 16)])[1]? = some (4, 16) := by rw [← hl]; exact at_new
  refine Ok.of (by decide) rfl (Nat.le_of_ble_eq_true rfl) ?_
  refine Go.walk 400 [81] E43 E43_ok (fun G C hG hC => ?_)
  (repeat ((conv => whnf); first | refine ⟨_, by assumption, ?_⟩ | refine ⟨_, _, by assumption, ?_⟩ | refine ⟨(show _ ∧ _ by omega), ?_⟩ | refine ⟨(show _ ∨ _ by omega), ?_⟩ | refine ⟨fun h => absurd h (by decide), fun _ => ?_⟩ | refine ⟨fun _ => ?_, fun h => absurd h (by decide)⟩ | refine ⟨fun _ => ?_, fun h => absurd rfl h⟩ | refine ⟨fun h => absurd rfl h, fun _ => ?_⟩)); try (conv => whnf)
  rw [hl]
  refine hC _ _ _ _ _ _ ?_
  refine ok_newNet hl0 z0 (fun I1 R1 S1 hN1 l1 k1 N1 Q1 => ?_)
  have x1 := Ext.of (k := ((0 : Nat) : Int)) rfl hN1 (some 1)
  have f1 : Zf 1 (uR R1 0 ((0 : Nat) : Int) (some 1)) := fun i hi => by rw [show i = 0 by omega]; exact uR_at
  have o1 : S1[0]? = some (7, 10) := by obtain ⟨T, e⟩ := x1.1; rw [e]; exact at_app ha
  have o1' : (S1 ++ [(4, 16)])[0]? = some (7, 10) := at_app o1
  have z1 : (S1 ++ [(4, 16)])[15]? = some (4, 16) := by rw [← show S1.length = 15 from l1]; exact at_new
  (repeat ((conv => whnf); first | refine ⟨_, by assumption, ?_⟩ | refine ⟨_, _, by assumption, ?_⟩ | refine ⟨(show _ ∧ _ by omega), ?_⟩ | refine ⟨(show _ ∨ _ by omega), ?_⟩ | refine ⟨fun h => absurd h (by decide), fun _ => ?_⟩ | refine ⟨fun _ => ?_, fun h => absurd h (by decide)⟩ | refine ⟨fun _ => ?_, fun h => absurd rfl h⟩ | refine ⟨fun h => absurd rfl h, fun _ => ?_⟩)); try (conv => whnf)
  rw [l1]
  refine hC _ _ _ _ _ _ ?_
  refine ok_newNet (by rw [List.length_append, List.length_singleton, l1]) z1 (fun I2 R2 S2 hN2 l2 k2 N2 _ => ?_)
  have x2 := Ext.of (k := ((1 : Nat) : Int)) rfl hN2 (some 15)
  have f2 : Zf 2 (uR R2 0 ((1 : Nat) : Int) (some 15)) := f1.up ((hN2.2 0 (by omega)).2.trans (zR_ne (by omega))) rfl
  have o2 : S2[0]? = some (7, 10) := by obtain ⟨T, e⟩ := x2.1; rw [e]; exact at_app o1
  have z2 : (S2 ++ [(6, 7)])[29]? = some (6, 7) := by rw [← show S2.length = 29 from l2]; exact at_new
  (repeat ((conv => whnf); first | refine ⟨_, by assumption, ?_⟩ | refine ⟨_, _, by assumption, ?_⟩ | refine ⟨(show _ ∧ _ by omega), ?_⟩ | refine ⟨(show _ ∨ _ by omega), ?_⟩ | refine ⟨fun h => absurd h (by decide), fun _ => ?_⟩ | refine ⟨fun _ => ?_, fun h => absurd h (by decide)⟩ | refine ⟨fun _ => ?_, fun h => absurd rfl h⟩ | refine ⟨fun h => absurd rfl h, fun _ => ?_⟩)); try (conv => whnf)
  rw [l2]
  refine hC _ _ _ _ _ _ ?_
  refine ok_newTiming (by rw [List.length_append, List.length_singleton, l2]) z2 (fun I3 R3 S3 hN3 l3 k3 T3 => ?_)
  have x3 := Ext.of (k := ((2 : Nat) : Int)) rfl hN3 (some 29)
  have f3 : Zf 3 (uR R3 0 ((2 : Nat) : Int) (some 29)) := f2.up ((hN3.2 0 (by omega)).2.trans (zR_ne (by omega))) rfl
  have o3 : S3[0]? = some (7, 10) := by obtain ⟨T, e⟩ := x3.1; rw [e]; exact at_app o2
  have z3 : (S3 ++ [(1, 6)])[34]? = some (1, 6) := by rw [← show S3.length = 34 from l3]; exact at_new
  (repeat ((conv => whnf); first | refine ⟨_, by assumption, ?_⟩ | refine ⟨_, _, by assumption, ?_⟩ | refine ⟨(show _ ∧ _ by omega), ?_⟩ | refine ⟨(show _ ∨ _ by omega), ?_⟩ | refine ⟨fun h => absurd h (by decide), fun _ => ?_⟩ | refine ⟨fun _ => ?_, fun h => absurd h (by decide)⟩ | refine ⟨fun _ => ?_, fun h => absurd rfl h⟩ | refine ⟨fun h => absurd rfl h, fun _ => ?_⟩)); try (conv => whnf)
  rw [l3]
  refine hC _ _ _ _ _ _ ?_
  refine ok_newChoices (by rw [List.length_append, List.length_singleton, l3]) z3 (fun I4 R4 S4 hN4 l4 k4 C4 F4 q4 => ?_)
  have x4 := Ext.of (k := ((3 : Nat) : Int)) rfl hN4 (some 34)
  have f4 : Zf 4 (uR R4 0 ((3 : Nat) : Int) (some 34)) := f3.up ((hN4.2 0 (by omega)).2.trans (zR_ne (by omega))) rfl
  have o4 : S4[0]? = some (7, 10) := by obtain ⟨T, e⟩ := x4.1; rw [e]; exact at_app o3
  have z4 : (S4 ++ [(5, 3)])[100]? = some (5, 3) := by rw [← show S4.length = 100 from l4]; exact at_new
  (repeat ((conv => whnf); first | refine ⟨_, by assumption, ?_⟩ | refine ⟨_, _, by assumption, ?_⟩ | refine ⟨(show _ ∧ _ by omega), ?_⟩ | refine ⟨(show _ ∨ _ by omega), ?_⟩ | refine ⟨fun h => absurd h (by decide), fun _ => ?_⟩ | refine ⟨fun _ => ?_, fun h => absurd h (by decide)⟩ | refine ⟨fun _ => ?_, fun h => absurd rfl h⟩ | refine ⟨fun h => absurd rfl h, fun _ => ?_⟩)); try (conv => whnf)
  rw [l4]
  refine hC _ _ _ _ _ _ ?_
  refine ok_newPast (by rw [List.length_append, List.length_singleton, l4]) z4 (fun I5 R5 S5 hN5 l5 k5 P5 Q5 q5 => ?_)
  have x5 := Ext.of (k := ((4 : Nat) : Int)) rfl hN5 (some 100)
  have f5 : Zf 5 (uR R5 0 ((4 : Nat) : Int) (some 100)) := f4.up ((hN5.2 0 (by omega)).2.trans (zR_ne (by omega))) rfl
  have o5 : S5[0]? = some (7, 10) := by obtain ⟨T, e⟩ := x5.1; rw [e]; exact at_app o4
  have z5 : (S5 ++ [(0, 3)])[326]? = some (0, 3) := by rw [← show S5.length = 326 from l5]; exact at_new
  (repeat ((conv => whnf); first | refine ⟨_, by assumption, ?_⟩ | refine ⟨_, _, by assumption, ?_⟩ | refine ⟨(show _ ∧ _ by omega), ?_⟩ | refine ⟨(show _ ∨ _ by omega), ?_⟩ | refine ⟨fun h => absurd h (by decide), fun _ => ?_⟩ | refine ⟨fun _ => ?_, fun h => absurd h (by decide)⟩ | refine ⟨fun _ => ?_, fun h => absurd rfl h⟩ | refine ⟨fun h => absurd rfl h, fun _ => ?_⟩)); try (conv => whnf)
  rw [l5]
  refine hC _ _ _ _ _ _ ?_
  refine ok_newBook (by rw [List.length_append, List.length_singleton, l5]) z5 (fun I6 R6 S6 hN6 l6 k6 B6 q6 => ?_)
  have x6 := Ext.of (k := ((5 : Nat) : Int)) rfl hN6 (some 326)
  have f6 : Zf 6 (uR R6 0 ((5 : Nat) : Int) (some 326)) := f5.up ((hN6.2 0 (by omega)).2.trans (zR_ne (by omega))) rfl
  have o6 : S6[0]? = some (7, 10) := by obtain ⟨T, e⟩ := x6.1; rw [e]; exact at_app o5
  have o6' : (S6 ++ [(2, 1)])[0]? = some (7, 10) := at_app o6
  have z6 : (S6 ++ [(2, 1)])[329]? = some (2, 1) := by rw [← show S6.length = 329 from l6]; exact at_new
  (repeat ((conv => whnf); first | refine ⟨_, by assumption, ?_⟩ | refine ⟨_, _, by assumption, ?_⟩ | refine ⟨(show _ ∧ _ by omega), ?_⟩ | refine ⟨(show _ ∨ _ by omega), ?_⟩ | refine ⟨fun h => absurd h (by decide), fun _ => ?_⟩ | refine ⟨fun _ => ?_, fun h => absurd h (by decide)⟩ | refine ⟨fun _ => ?_, fun h => absurd rfl h⟩ | refine ⟨fun h => absurd rfl h, fun _ => ?_⟩)); try (conv => whnf)
  rw [l6]
  refine hC _ _ _ _ _ _ ?_
  refine ok_newDraws z6 ?_
  have l7 : (S6 ++ [(2, 1)]).length = 330 := by rw [List.length_append, List.length_singleton, l6]
  have k7 : szs (S6 ++ [(2, 1)]) = szs S6 + 1 := szs_1
  have x7 : Ext 329 I6 (uR R6 0 ((5 : Nat) : Int) (some 326)) S6 (uI (zI I6 329) 329 0 0) (uR (zR (uR R6 0 ((5 : Nat) : Int) (some 326)) 329) 0 ((6 : Nat) : Int) (some 329)) (S6 ++ [(2, 1)]) := ⟨⟨_, rfl⟩, fun x p q => ⟨by rw [uI_o (by omega), zI_ne (by omega)], by rw [uR_o (by omega), zR_ne (by omega)]⟩⟩
  have f7 : Zf 7 (uR (zR (uR R6 0 ((5 : Nat) : Int) (some 326)) 329) 0 ((6 : Nat) : Int) (some 329)) := f6.up (zR_ne (by omega)) rfl
  have q7 : uI (zI I6 329) 329 0 0 329 0 = 0 := uI_at
  (repeat ((conv => whnf); first | refine ⟨_, by assumption, ?_⟩ | refine ⟨_, _, by assumption, ?_⟩ | refine ⟨(show _ ∧ _ by omega), ?_⟩ | refine ⟨(show _ ∨ _ by omega), ?_⟩ | refine ⟨fun h => absurd h (by decide), fun _ => ?_⟩ | refine ⟨fun _ => ?_, fun h => absurd h (by decide)⟩ | refine ⟨fun _ => ?_, fun h => absurd rfl h⟩ | refine ⟨fun h => absurd rfl h, fun _ => ?_⟩)); try (conv => whnf)
  refine hG _ _ _ _ _ _ ?_
  refine tail _ _ _ l7 o6' f7 (fun I' R' S' X7 m1 m2 m3 m4 m5 m6 => ?_)
  have X6 := x7.tr X7 (by omega)
  have X5 := x6.tr X6 (by omega)
  have X4 := x5.tr X5 (by omega)
  have X3 := x4.tr X4 (by omega)
  have X2 := x3.tr X3 (by omega)
  have X1 := x2.tr X2 (by omega)
  have netUp : ∀ {c a : Nat} {Ia : aI} {Ra : aR} {Sa : aS} {k : Int} {z : Option Nat}, Ext a Ia (uR Ra 0 k z) Sa I' R' S' → 0 < c → c < a → NetS Ra Sa c → NetS R' S' c := by
    intro c a Ia Ra Sa k z X h0 h1 hN
    obtain ⟨⟨T, e⟩, g⟩ := X
    rw [e]
    exact hN.cg ((g c h0 h1).2.trans (uR_o (by omega)))
  have sUp : ∀ {x a : Nat} {p : Nat × Nat} {Ia : aI} {Ra : aR} {Sa : aS}, Ext a Ia Ra Sa I' R' S' → Sa[x]? = some p → S'[x]? = some p := by
    intro x a p Ia Ra Sa X h
    obtain ⟨⟨T, e⟩, g⟩ := X
    rw [e]
    exact at_app h
  have rUp : ∀ {c a : Nat} {Ia : aI} {Ra : aR} {Sa : aS} {k : Int} {z : Option Nat}, Ext a Ia (uR Ra 0 k z) Sa I' R' S' → 0 < c → c < a → R' c = Ra c := by
    intro c a Ia Ra Sa k z X h0 h1
    exact (X.2 c h0 h1).2.trans (uR_o (by omega))
  obtain ⟨T3a, T3b, T3c, T3d, T3e, T3f, T3g, T3h, T3i⟩ := T3
  obtain ⟨B6a, B6b, B6c, B6d, B6e⟩ := B6
  have r29 := rUp X3 (c := 29) (by omega) (by omega)
  have r326 := rUp X6 (c := 326) (by omega) (by omega)
  have r100 := rUp X5 (c := 100) (by omega) (by omega)
  have r101 := rUp X5 (c := 101) (by omega) (by omega)
  refine hK I' R' S' m1 ?_ ⟨⟨⟨sUp X1 o1, m3 0 (by omega), m3 1 (by omega), m3 2 (by omega), m3 3 (by omega), m3 4 (by omega), m3 5 (by omega), m3 6 (by omega), m3 7 (by omega), m3 8 (by omega), m3 9 (by omega)⟩, ⟨m4.1, m4.2.1, m4.2.2, sUp X5 P5.1, by rw [r100]; exact P5.2.1, sUp X5 P5.2.2, sUp X7 z6⟩, fun j p0 p1 => (m5 j p0 p1).2, fun j p0 p1 => by rw [r101]; exact (Q5 j p0 p1).2, fun a ha => ?_, ⟨sUp X3 T3a, by rw [r29]; exact T3b, sUp X3 T3c, by rw [r29]; exact T3d, sUp X3 T3e, by rw [r29]; exact T3f, sUp X3 T3g, by rw [r29]; exact T3h, sUp X3 T3i⟩, ⟨sUp X6 B6a, by rw [r326]; exact B6b, sUp X6 B6c, by rw [r326]; exact B6d, sUp X6 B6e⟩, ?_⟩, fun f hf => ?_, Q1.cg (fun x g1 g2 => (X1.2 x (by omega) (by omega)).1), by rw [(X5.2 100 (by omega) (by omega)).1]; exact q5, by rw [(X6.2 326 (by omega) (by omega)).1]; exact q6, by rw [(X7.2 329 (by omega) (by omega)).1]; exact q7, m6, by rw [(X4.2 34 (by omega) (by omega)).1]; exact q4⟩
  · have u1 : szs (S ++ [(4, 16)]) = szs S + 16 := szs_1
    have u2 : szs (S1 ++ [(4, 16)]) = szs S1 + 16 := szs_1
    have u3 : szs (S2 ++ [(6, 7)]) = szs S2 + 7 := szs_1
    have u4 : szs (S3 ++ [(1, 6)]) = szs S3 + 6 := szs_1
    have u5 : szs (S4 ++ [(5, 3)]) = szs S4 + 3 := szs_1
    have u6 : szs (S5 ++ [(0, 3)]) = szs S5 + 3 := szs_1
    have m2' : szs S' = szs (S6 ++ [(2, 1)]) + 174 := m2
    have k1' : szs S1 = szs (S ++ [(4, 16)]) + 68 := k1
    have k2' : szs S2 = szs (S1 ++ [(4, 16)]) + 68 := k2
    have k3' : szs S3 = szs (S2 ++ [(6, 7)]) + 24 := k3
    have k4' : szs S4 = szs (S3 ++ [(1, 6)]) + 844 := k4
    have k5' : szs S5 = szs (S4 ++ [(5, 3)]) + 1360 := k5
    have k6' : szs S6 = szs (S5 ++ [(0, 3)]) + 40 := k6
    clear m2 k1 k2 k3 k4 k5 k6
    rw [m2', k7, k6', u6, k5', u5, k4', u4, k3', u3, k2', u2, k1', u1]
  · rcases ha with rfl | rfl | ⟨j, p0, p1, rfl⟩ | ⟨j, p0, p1, rfl⟩
    · exact netUp X1 (by omega) (by omega) N1
    · exact netUp X2 (by omega) (by omega) N2
    · exact netUp X5 (by unfold rgc; omega) (by unfold rgc; omega) (Q5 j p0 p1).1
    · exact (m5 j p0 p1).1
  · obtain ⟨⟨T, e⟩, g⟩ := X4
    rw [e]
    exact C4.cg ((g 34 (by omega) (by omega)).2.trans (uR_o (by omega))) ((g 35 (by omega) (by omega)).2.trans (uR_o (by omega)))
  · obtain ⟨⟨T, e⟩, g⟩ := X4
    rw [e]
    exact (F4 f hf).app ((g f (by omega) (by omega)).2.trans (uR_o (by omega)))
