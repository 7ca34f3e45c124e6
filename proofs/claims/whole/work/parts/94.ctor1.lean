/-! constructors: nothing that was there is touched; printed by wip/whole/genctor.py -/
def NF0 (a : Nat) (I : aI) (R : aR) (S : aS) (I' : aI) (R' : aR) (S' : aS) : Prop := (∃ T, S' = S ++ T) ∧ ∀ x, x < a → I' x = I x ∧ R' x = R x
theorem uI_o {I : aI} {a b : Nat} {j z : Int} (h : b ≠ a) : uI I a j z b = I b := by funext k; exact uI_ne (fun e => h e.1)
theorem uR_o {R : aR} {a b : Nat} {j : Int} {z : Option Nat} (h : b ≠ a) : uR R a j z b = R b := by funext k; exact uR_ne (fun e => h e.1)
theorem zI_at {I : aI} {a : Nat} {k : Int} : zI I a a k = 0 := by show (if _ then _ else _) = _; rw [if_pos rfl]
def nz : aN := fun k => if k = 0 ∨ k = 1 then 1 else 0
theorem nz_nf {v w : Int} (hv : 0 ≤ v) (hw : 0 ≤ w) : nf nz v w = 0 := if_neg (by omega)
theorem nz_kf {k w : Int} (hk : 1 ≤ k) (hw : 0 ≤ w) : kf nz k w = 0 := if_neg (by omega)
theorem nz_K : mKinds nz = 0 := by decide
theorem nz_WF : WF nz := by
  have e0 : nz 0 = 1 := if_pos (Or.inl rfl)
  have e1 : nz 1 = 1 := if_pos (Or.inr rfl)
  refine ⟨by rw [e0, e1]; omega, fun v g0 g1 => ?_, fun v g0 g1 => by omega, fun v g0 g1 => by omega, nz_nf (by omega) (by omega), fun k g0 g1 => ?_⟩
  · rw [nz_nf g0 (by omega), nz_nf g0 (by omega), nz_nf g0 (by omega), nz_nf g0 (by omega), nz_nf g0 (by omega), nz_nf g0 (by omega), nz_nf g0 (by omega), nz_nf g0 (by omega)]
    omega
  · rw [nz_kf g0 (by omega), nz_kf g0 (by omega), nz_kf g0 (by omega), nz_kf g0 (by omega), nz_kf g0 (by omega), nz_kf g0 (by omega)]
    omega
theorem szs_1 {S : aS} {p : Nat × Nat} : szs (S ++ [p]) = szs S + p.2 := szs_push S p
def lsum (ln : Nat → Nat × Nat) : Nat → Nat
  | 0 => 0
  | 1 => 0
  | i + 2 => lsum ln (i + 1) + (ln (i + 1)).2
/-- an object under way: rows 1 .. i - 1 are made -/
def NI (a : Nat) (ob : Nat × Nat) (fl : Nat → Nat) (ln : Nat → Nat × Nat) (Ia : Int → Int) (I0 : aI) (R0 : aR) (S0 : aS) (i : Nat) (I : aI) (R : aR) (S : aS) : Prop := S.length = a + i ∧ S[a]? = some ob ∧ (∀ j, 1 ≤ j → j < i → R a (fl j : Nat) = some (a + j) ∧ S[a + j]? = some (ln j) ∧ ∀ k, I (a + j) k = 0) ∧ (∀ x, x < a → I x = I0 x ∧ R x = R0 x) ∧ (∃ T, S = S0 ++ T) ∧ szs S = szs S0 + lsum ln i ∧ I a = Ia
theorem ni_step {a : Nat} {ob : Nat × Nat} {fl : Nat → Nat} {ln : Nat → Nat × Nat} {Ia : Int → Int} {I0 : aI} {R0 : aR} {S0 : aS} {i : Nat} {I : aI} {R : aR} {S : aS} (hi : 1 ≤ i) (hf : ∀ j, 1 ≤ j → j < i → fl j ≠ fl i) (h : NI a ob fl ln Ia I0 R0 S0 i I R S) : NI a ob fl ln Ia I0 R0 S0 (i + 1) (zI I S.length) (uR (zR R S.length) a (fl i : Nat) (some S.length)) (S ++ [ln i]) := by
  obtain ⟨h1, h2, h3, h4, ⟨T, h5⟩, h6, h7⟩ := h
  refine ⟨by rw [List.length_append, List.length_singleton]; omega, at_app h2, fun j g0 g1 => ?_, fun x hx => ⟨?_, ?_⟩, ⟨T ++ [ln i], by rw [h5, List.append_assoc]⟩, ?_, ?_⟩
  · by_cases q : j = i
    · subst q
      rw [uR_at, h1]
      refine ⟨rfl, ?_, fun k => zI_at⟩
      rw [← h1]
      exact at_new
    · obtain ⟨k1, k2, k3⟩ := h3 j g0 (by omega)
      have hne := hf j g0 (by omega)
      rw [uR_ne (by omega), zR_ne (by omega), zI_ne (by omega)]
      exact ⟨k1, at_app k2, k3⟩
  · rw [zI_ne (by omega)]; exact (h4 x hx).1
  · rw [uR_o (by omega), zR_ne (by omega)]; exact (h4 x hx).2
  · rw [szs_1, h6]
    obtain ⟨i', rfl⟩ : ∃ i', i = i' + 1 := ⟨i - 1, by omega⟩
    show _ = szs S0 + (lsum ln (i' + 1) + (ln (i' + 1)).2)
    omega
  · rw [zI_ne (by omega)]; exact h7
def flF (j : Nat) : Nat := j
def lnF0 (_ : Nat) : Nat × Nat := (9, 16)
/-- new Front() -/
theorem ok_newFront {P : aP} {d : Nat} {K : aK} {I : aI} {R : aR} {S : aS} {a : Nat} (hl : S.length = a + 1) (ha : S[a]? = some (3, 4)) (hK : ∀ I' R' S', NF0 a I R S I' R' S' → S'.length = a + 4 → szs S' = szs S + 48 → F1 R' S' a (a + 1) (a + 2) (a + 3) 16 → K none I' R' S') : Ok P 14 (d + 1) [vr a] I R S K := by
  have g4 : ∀ I1 R1 S1, NI a (3, 4) flF lnF0 (uI I a ((0 : Nat) : Int) 0 a) I R S 4 I1 R1 S1 → Go P 14 (d + 1) K 33 [vr a] [] I1 R1 S1 := by
    intro I1 R1 S1 h
    obtain ⟨h1, h2, h3, h4, h5, h6, h7⟩ := h
    refine Go.walk 400 [] E14 E14_ok (fun G C hG hC => ?_)
    (repeat ((conv => whnf); first | refine ⟨_, by assumption, ?_⟩ | refine ⟨_, _, by assumption, ?_⟩ | refine ⟨(show _ ∧ _ by omega), ?_⟩ | refine ⟨(show _ ∨ _ by omega), ?_⟩ | refine ⟨fun h => absurd h (by decide), fun _ => ?_⟩ | refine ⟨fun _ => ?_, fun h => absurd h (by decide)⟩ | refine ⟨fun _ => ?_, fun h => absurd rfl h⟩ | refine ⟨fun h => absurd rfl h, fun _ => ?_⟩)); try (conv => whnf)
    exact hK _ _ _ ⟨h5, h4⟩ h1 h6 ⟨h2, (h3 1 (by omega) (by omega)).1, (h3 1 (by omega) (by omega)).2.1, (h3 2 (by omega) (by omega)).1, (h3 2 (by omega) (by omega)).2.1, (h3 3 (by omega) (by omega)).1, (h3 3 (by omega) (by omega)).2.1⟩
  have g3 : ∀ I1 R1 S1, NI a (3, 4) flF lnF0 (uI I a ((0 : Nat) : Int) 0 a) I R S 3 I1 R1 S1 → Go P 14 (d + 1) K 25 [vr a] [] I1 R1 S1 := by
    intro I1 R1 S1 h
    have s0 := h.2.1
    have s1 : (S1 ++ [lnF0 3])[a]? = some (3, 4) := at_app s0
    have st := ni_step (by omega) (fun j h1 h2 => by unfold flF; omega) h
    refine Go.walk 400 [33] E14 E14_ok (fun G C hG hC => ?_)
    (repeat ((conv => whnf); first | refine ⟨_, by assumption, ?_⟩ | refine ⟨_, _, by assumption, ?_⟩ | refine ⟨(show _ ∧ _ by omega), ?_⟩ | refine ⟨(show _ ∨ _ by omega), ?_⟩ | refine ⟨fun h => absurd h (by decide), fun _ => ?_⟩ | refine ⟨fun _ => ?_, fun h => absurd h (by decide)⟩ | refine ⟨fun _ => ?_, fun h => absurd rfl h⟩ | refine ⟨fun h => absurd rfl h, fun _ => ?_⟩)); try (conv => whnf)
    refine hG _ _ _ _ _ _ ?_
    exact g4 _ _ _ st
  have g2 : ∀ I1 R1 S1, NI a (3, 4) flF lnF0 (uI I a ((0 : Nat) : Int) 0 a) I R S 2 I1 R1 S1 → Go P 14 (d + 1) K 17 [vr a] [] I1 R1 S1 := by
    intro I1 R1 S1 h
    have s0 := h.2.1
    have s1 : (S1 ++ [lnF0 2])[a]? = some (3, 4) := at_app s0
    have st := ni_step (by omega) (fun j h1 h2 => by unfold flF; omega) h
    refine Go.walk 400 [25] E14 E14_ok (fun G C hG hC => ?_)
    (repeat ((conv => whnf); first | refine ⟨_, by assumption, ?_⟩ | refine ⟨_, _, by assumption, ?_⟩ | refine ⟨(show _ ∧ _ by omega), ?_⟩ | refine ⟨(show _ ∨ _ by omega), ?_⟩ | refine ⟨fun h => absurd h (by decide), fun _ => ?_⟩ | refine ⟨fun _ => ?_, fun h => absurd h (by decide)⟩ | refine ⟨fun _ => ?_, fun h => absurd rfl h⟩ | refine ⟨fun h => absurd rfl h, fun _ => ?_⟩)); try (conv => whnf)
    refine hG _ _ _ _ _ _ ?_
    exact g3 _ _ _ st
  have g1 : ∀ I1 R1 S1, NI a (3, 4) flF lnF0 (uI I a ((0 : Nat) : Int) 0 a) I R S 1 I1 R1 S1 → Go P 14 (d + 1) K 9 [vr a] [] I1 R1 S1 := by
    intro I1 R1 S1 h
    have s0 := h.2.1
    have s1 : (S1 ++ [lnF0 1])[a]? = some (3, 4) := at_app s0
    have st := ni_step (by omega) (fun j h1 h2 => by unfold flF; omega) h
    refine Go.walk 400 [17] E14 E14_ok (fun G C hG hC => ?_)
    (repeat ((conv => whnf); first | refine ⟨_, by assumption, ?_⟩ | refine ⟨_, _, by assumption, ?_⟩ | refine ⟨(show _ ∧ _ by omega), ?_⟩ | refine ⟨(show _ ∨ _ by omega), ?_⟩ | refine ⟨fun h => absurd h (by decide), fun _ => ?_⟩ | refine ⟨fun _ => ?_, fun h => absurd h (by decide)⟩ | refine ⟨fun _ => ?_, fun h => absurd rfl h⟩ | refine ⟨fun h => absurd rfl h, fun _ => ?_⟩)); try (conv => whnf)
    refine hG _ _ _ _ _ _ ?_
    exact g2 _ _ _ st
  refine Ok.of (by decide) rfl (Nat.le_of_ble_eq_true rfl) ?_
  refine Go.walk 400 [9] E14 E14_ok (fun G C hG hC => ?_)
  (repeat ((conv => whnf); first | refine ⟨_, by assumption, ?_⟩ | refine ⟨_, _, by assumption, ?_⟩ | refine ⟨(show _ ∧ _ by omega), ?_⟩ | refine ⟨(show _ ∨ _ by omega), ?_⟩ | refine ⟨fun h => absurd h (by decide), fun _ => ?_⟩ | refine ⟨fun _ => ?_, fun h => absurd h (by decide)⟩ | refine ⟨fun _ => ?_, fun h => absurd rfl h⟩ | refine ⟨fun h => absurd rfl h, fun _ => ?_⟩)); try (conv => whnf)
  refine hG _ _ _ _ _ _ ?_
  exact g1 _ _ _ ⟨hl, ha, fun j h1 h2 => by omega, fun x hx => ⟨uI_o (by omega), rfl⟩, ⟨[], by rw [List.append_nil]⟩, rfl, rfl⟩
def flN (j : Nat) : Nat := 2 + j
def lnN (j : Nat) : Nat × Nat := if j ≤ 8 then (9, 6) else (9, 4)
/-- new Net() -/
theorem ok_newNet {P : aP} {d : Nat} {K : aK} {I : aI} {R : aR} {S : aS} {a : Nat} (hl : S.length = a + 1) (ha : S[a]? = some (4, 16)) (hK : ∀ I' R' S', NF0 a I R S I' R' S' → S'.length = a + 14 → szs S' = szs S + 68 → NetS R' S' a → NetR I' a nz → K none I' R' S') : Ok P 22 (d + 1) [vr a] I R S K := by
  have g14 : ∀ I1 R1 S1, NI a (4, 16) flN lnN (uI (uI (uI I a ((0 : Nat) : Int) 1) a ((1 : Nat) : Int) 1) a ((2 : Nat) : Int) 0 a) I R S 14 I1 R1 S1 → Go P 22 (d + 1) K 118 [vr a] [] I1 R1 S1 := by
    intro I1 R1 S1 h
    obtain ⟨h1, h2, h3, h4, h5, h6, h7⟩ := h
    have e0 : I1 a 0 = 1 := by rw [h7, uI_ne (by omega), uI_ne (by omega)]; exact uI_at
    have e1 : I1 a 1 = 1 := by rw [h7, uI_ne (by omega)]; exact uI_at
    have e2 : I1 a 2 = 0 := by rw [h7]; exact uI_at
    refine Go.walk 400 [] E22 E22_ok (fun G C hG hC => ?_)
    (repeat ((conv => whnf); first | refine ⟨_, by assumption, ?_⟩ | refine ⟨_, _, by assumption, ?_⟩ | refine ⟨(show _ ∧ _ by omega), ?_⟩ | refine ⟨(show _ ∨ _ by omega), ?_⟩ | refine ⟨fun h => absurd h (by decide), fun _ => ?_⟩ | refine ⟨fun _ => ?_, fun h => absurd h (by decide)⟩ | refine ⟨fun _ => ?_, fun h => absurd rfl h⟩ | refine ⟨fun h => absurd rfl h, fun _ => ?_⟩)); try (conv => whnf)
    refine hK _ _ _ ⟨h5, h4⟩ h1 h6 ⟨h2, (h3 1 (by omega) (by omega)).1, (h3 1 (by omega) (by omega)).2.1, (h3 2 (by omega) (by omega)).1, (h3 2 (by omega) (by omega)).2.1, (h3 3 (by omega) (by omega)).1, (h3 3 (by omega) (by omega)).2.1, (h3 4 (by omega) (by omega)).1, (h3 4 (by omega) (by omega)).2.1, (h3 5 (by omega) (by omega)).1, (h3 5 (by omega) (by omega)).2.1, (h3 6 (by omega) (by omega)).1, (h3 6 (by omega) (by omega)).2.1, (h3 7 (by omega) (by omega)).1, (h3 7 (by omega) (by omega)).2.1, (h3 8 (by omega) (by omega)).1, (h3 8 (by omega) (by omega)).2.1, (h3 9 (by omega) (by omega)).1, (h3 9 (by omega) (by omega)).2.1, (h3 10 (by omega) (by omega)).1, (h3 10 (by omega) (by omega)).2.1, (h3 11 (by omega) (by omega)).1, (h3 11 (by omega) (by omega)).2.1, (h3 12 (by omega) (by omega)).1, (h3 12 (by omega) (by omega)).2.1, (h3 13 (by omega) (by omega)).1, (h3 13 (by omega) (by omega)).2.1⟩ ⟨⟨e0, e1, by rw [nz_K]; exact e2⟩, fun v g0 g1 => ?_, fun k g0 g1 => ?_, ?_⟩
    · rw [nz_nf g0 (by omega), nz_nf g0 (by omega), nz_nf g0 (by omega), nz_nf g0 (by omega), nz_nf g0 (by omega), nz_nf g0 (by omega), nz_nf g0 (by omega), nz_nf g0 (by omega)]
      exact ⟨(h3 1 (by omega) (by omega)).2.2 v, (h3 2 (by omega) (by omega)).2.2 v, (h3 3 (by omega) (by omega)).2.2 v, (h3 4 (by omega) (by omega)).2.2 v, (h3 5 (by omega) (by omega)).2.2 v, (h3 6 (by omega) (by omega)).2.2 v, (h3 7 (by omega) (by omega)).2.2 v, (h3 8 (by omega) (by omega)).2.2 v⟩
    · rw [nz_kf g0 (by omega), nz_kf g0 (by omega), nz_kf g0 (by omega), nz_kf g0 (by omega), nz_kf g0 (by omega)]
      exact ⟨(h3 9 (by omega) (by omega)).2.2 k, (h3 10 (by omega) (by omega)).2.2 k, (h3 11 (by omega) (by omega)).2.2 k, (h3 12 (by omega) (by omega)).2.2 k, (h3 13 (by omega) (by omega)).2.2 k⟩
    · exact ⟨(h3 9 (by omega) (by omega)).2.2 0, (h3 10 (by omega) (by omega)).2.2 0, (h3 11 (by omega) (by omega)).2.2 0, (h3 12 (by omega) (by omega)).2.2 0, (h3 13 (by omega) (by omega)).2.2 0⟩
  have g13 : ∀ I1 R1 S1, NI a (4, 16) flN lnN (uI (uI (uI I a ((0 : Nat) : Int) 1) a ((1 : Nat) : Int) 1) a ((2 : Nat) : Int) 0 a) I R S 13 I1 R1 S1 → Go P 22 (d + 1) K 111 [vr a] [] I1 R1 S1 := by
    intro I1 R1 S1 h
    have s0 := h.2.1
    have s1 : (S1 ++ [lnN 13])[a]? = some (4, 16) := at_app s0
    have st := ni_step (by omega) (fun j h1 h2 => by unfold flN; omega) h
    refine Go.walk 400 [118] E22 E22_ok (fun G C hG hC => ?_)
    (repeat ((conv => whnf); first | refine ⟨_, by assumption, ?_⟩ | refine ⟨_, _, by assumption, ?_⟩ | refine ⟨(show _ ∧ _ by omega), ?_⟩ | refine ⟨(show _ ∨ _ by omega), ?_⟩ | refine ⟨fun h => absurd h (by decide), fun _ => ?_⟩ | refine ⟨fun _ => ?_, fun h => absurd h (by decide)⟩ | refine ⟨fun _ => ?_, fun h => absurd rfl h⟩ | refine ⟨fun h => absurd rfl h, fun _ => ?_⟩)); try (conv => whnf)
    refine hG _ _ _ _ _ _ ?_
    exact g14 _ _ _ st
  have g12 : ∀ I1 R1 S1, NI a (4, 16) flN lnN (uI (uI (uI I a ((0 : Nat) : Int) 1) a ((1 : Nat) : Int) 1) a ((2 : Nat) : Int) 0 a) I R S 12 I1 R1 S1 → Go P 22 (d + 1) K 104 [vr a] [] I1 R1 S1 := by
    intro I1 R1 S1 h
    have s0 := h.2.1
    have s1 : (S1 ++ [lnN 12])[a]? = some (4, 16) := at_app s0
    have st := ni_step (by omega) (fun j h1 h2 => by unfold flN; omega) h
    refine Go.walk 400 [111] E22 E22_ok (fun G C hG hC => ?_)
    (repeat ((conv => whnf); first | refine ⟨_, by assumption, ?_⟩ | refine ⟨_, _, by assumption, ?_⟩ | refine ⟨(show _ ∧ _ by omega), ?_⟩ | refine ⟨(show _ ∨ _ by omega), ?_⟩ | refine ⟨fun h => absurd h (by decide), fun _ => ?_⟩ | refine ⟨fun _ => ?_, fun h => absurd h (by decide)⟩ | refine ⟨fun _ => ?_, fun h => absurd rfl h⟩ | refine ⟨fun h => absurd rfl h, fun _ => ?_⟩)); try (conv => whnf)
    refine hG _ _ _ _ _ _ ?_
    exact g13 _ _ _ st
  have g11 : ∀ I1 R1 S1, NI a (4, 16) flN lnN (uI (uI (uI I a ((0 : Nat) : Int) 1) a ((1 : Nat) : Int) 1) a ((2 : Nat) : Int) 0 a) I R S 11 I1 R1 S1 → Go P 22 (d + 1) K 97 [vr a] [] I1 R1 S1 := by
    intro I1 R1 S1 h
    have s0 := h.2.1
    have s1 : (S1 ++ [lnN 11])[a]? = some (4, 16) := at_app s0
    have st := ni_step (by omega) (fun j h1 h2 => by unfold flN; omega) h
    refine Go.walk 400 [104] E22 E22_ok (fun G C hG hC => ?_)
    (repeat ((conv => whnf); first | refine ⟨_, by assumption, ?_⟩ | refine ⟨_, _, by assumption, ?_⟩ | refine ⟨(show _ ∧ _ by omega), ?_⟩ | refine ⟨(show _ ∨ _ by omega), ?_⟩ | refine ⟨fun h => absurd h (by decide), fun _ => ?_⟩ | refine ⟨fun _ => ?_, fun h => absurd h (by decide)⟩ | refine ⟨fun _ => ?_, fun h => absurd rfl h⟩ | refine ⟨fun h => absurd rfl h, fun _ => ?_⟩)); try (conv => whnf)
    refine hG _ _ _ _ _ _ ?_
    exact g12 _ _ _ st
  have g10 : ∀ I1 R1 S1, NI a (4, 16) flN lnN (uI (uI (uI I a ((0 : Nat) : Int) 1) a ((1 : Nat) : Int) 1) a ((2 : Nat) : Int) 0 a) I R S 10 I1 R1 S1 → Go P 22 (d + 1) K 90 [vr a] [] I1 R1 S1 := by
    intro I1 R1 S1 h
    have s0 := h.2.1
    have s1 : (S1 ++ [lnN 10])[a]? = some (4, 16) := at_app s0
    have st := ni_step (by omega) (fun j h1 h2 => by unfold flN; omega) h
    refine Go.walk 400 [97] E22 E22_ok (fun G C hG hC => ?_)
    (repeat ((conv => whnf); first | refine ⟨_, by assumption, ?_⟩ | refine ⟨_, _, by assumption, ?_⟩ | refine ⟨(show _ ∧ _ by omega), ?_⟩ | refine ⟨(show _ ∨ _ by omega), ?_⟩ | refine ⟨fun h => absurd h (by decide), fun _ => ?_⟩ | refine ⟨fun _ => ?_, fun h => absurd h (by decide)⟩ | refine ⟨fun _ => ?_, fun h => absurd rfl h⟩ | refine ⟨fun h => absurd rfl h, fun _ => ?_⟩)); try (conv => whnf)
    refine hG _ _ _ _ _ _ ?_
    exact g11 _ _ _ st
  have g9 : ∀ I1 R1 S1, NI a (4, 16) flN lnN (uI (uI (uI I a ((0 : Nat) : Int) 1) a ((1 : Nat) : Int) 1) a ((2 : Nat) : Int) 0 a) I R S 9 I1 R1 S1 → Go P 22 (d + 1) K 83 [vr a] [] I1 R1 S1 := by
    intro I1 R1 S1 h
    have s0 := h.2.1
    have s1 : (S1 ++ [lnN 9])[a]? = some (4, 16) := at_app s0
    have st := ni_step (by omega) (fun j h1 h2 => by unfold flN; omega) h
    refine Go.walk 400 [90] E22 E22_ok (fun G C hG hC => ?_)
    (repeat ((conv => whnf); first | refine ⟨_, by assumption, ?_⟩ | refine ⟨_, _, by assumption, ?_⟩ | refine ⟨(show _ ∧ _ by omega), ?_⟩ | refine ⟨(show _ ∨ _ by omega), ?_⟩ | refine ⟨fun h => absurd h (by decide), fun _ => ?_⟩ | refine ⟨fun _ => ?_, fun h => absurd h (by decide)⟩ | refine ⟨fun _ => ?_, fun h => absurd rfl h⟩ | refine ⟨fun h => absurd rfl h, fun _ => ?_⟩)); try (conv => whnf)
    refine hG _ _ _ _ _ _ ?_
    exact g10 _ _ _ st
  have g8 : ∀ I1 R1 S1, NI a (4, 16) flN lnN (uI (uI (uI I a ((0 : Nat) : Int) 1) a ((1 : Nat) : Int) 1) a ((2 : Nat) : Int) 0 a) I R S 8 I1 R1 S1 → Go P 22 (d + 1) K 75 [vr a] [] I1 R1 S1 := by
    intro I1 R1 S1 h
    have s0 := h.2.1
    have s1 : (S1 ++ [lnN 8])[a]? = some (4, 16) := at_app s0
    have st := ni_step (by omega) (fun j h1 h2 => by unfold flN; omega) h
    refine Go.walk 400 [83] E22 E22_ok (fun G C hG hC => ?_)
    (repeat ((conv => whnf); first | refine ⟨_, by assumption, ?_⟩ | refine ⟨_, _, by assumption, ?_⟩ | refine ⟨(show _ ∧ _ by omega), ?_⟩ | refine ⟨(show _ ∨ _ by omega), ?_⟩ | refine ⟨fun h => absurd h (by decide), fun _ => ?_⟩ | refine ⟨fun _ => ?_, fun h => absurd h (by decide)⟩ | refine ⟨fun _ => ?_, fun h => absurd rfl h⟩ | refine ⟨fun h => absurd rfl h, fun _ => ?_⟩)); try (conv => whnf)
    refine hG _ _ _ _ _ _ ?_
    exact g9 _ _ _ st
  have g7 : ∀ I1 R1 S1, NI a (4, 16) flN lnN (uI (uI (uI I a ((0 : Nat) : Int) 1) a ((1 : Nat) : Int) 1) a ((2 : Nat) : Int) 0 a) I R S 7 I1 R1 S1 → Go P 22 (d + 1) K 67 [vr a] [] I1 R1 S1 := by
    intro I1 R1 S1 h
    have s0 := h.2.1
    have s1 : (S1 ++ [lnN 7])[a]? = some (4, 16) := at_app s0
    have st := ni_step (by omega) (fun j h1 h2 => by unfold flN; omega) h
    refine Go.walk 400 [75] E22 E22_ok (fun G C hG hC => ?_)
    (repeat ((conv => whnf); first | refine ⟨_, by assumption, ?_⟩ | refine ⟨_, _, by assumption, ?_⟩ | refine ⟨(show _ ∧ _ by omega), ?_⟩ | refine ⟨(show _ ∨ _ by omega), ?_⟩ | refine ⟨fun h => absurd h (by decide), fun _ => ?_⟩ | refine ⟨fun _ => ?_, fun h => absurd h (by decide)⟩ | refine ⟨fun _ => ?_, fun h => absurd rfl h⟩ | refine ⟨fun h => absurd rfl h, fun _ => ?_⟩)); try (conv => whnf)
    refine hG _ _ _ _ _ _ ?_
    exact g8 _ _ _ st
  have g6 : ∀ I1 R1 S1, NI a (4, 16) flN lnN (uI (uI (uI I a ((0 : Nat) : Int) 1) a ((1 : Nat) : Int) 1) a ((2 : Nat) : Int) 0 a) I R S 6 I1 R1 S1 → Go P 22 (d + 1) K 59 [vr a] [] I1 R1 S1 := by
    intro I1 R1 S1 h
    have s0 := h.2.1
    have s1 : (S1 ++ [lnN 6])[a]? = some (4, 16) := at_app s0
    have st := ni_step (by omega) (fun j h1 h2 => by unfold flN; omega) h
    refine Go.walk 400 [67] E22 E22_ok (fun G C hG hC => ?_)
    (repeat ((conv => whnf); first | refine ⟨_, by assumption, ?_⟩ | refine ⟨_, _, by assumption, ?_⟩ | refine ⟨(show _ ∧ _ by omega), ?_⟩ | refine ⟨(show _ ∨ _ by omega), ?_⟩ | refine ⟨fun h => absurd h (by decide), fun _ => ?_⟩ | refine ⟨fun _ => ?_, fun h => absurd h (by decide)⟩ | refine ⟨fun _ => ?_, fun h => absurd rfl h⟩ | refine ⟨fun h => absurd rfl h, fun _ => ?_⟩)); try (conv => whnf)
    refine hG _ _ _ _ _ _ ?_
    exact g7 _ _ _ st
  have g5 : ∀ I1 R1 S1, NI a (4, 16) flN lnN (uI (uI (uI I a ((0 : Nat) : Int) 1) a ((1 : Nat) : Int) 1) a ((2 : Nat) : Int) 0 a) I R S 5 I1 R1 S1 → Go P 22 (d + 1) K 51 [vr a] [] I1 R1 S1 := by
    intro I1 R1 S1 h
    have s0 := h.2.1
    have s1 : (S1 ++ [lnN 5])[a]? = some (4, 16) := at_app s0
    have st := ni_step (by omega) (fun j h1 h2 => by unfold flN; omega) h
    refine Go.walk 400 [59] E22 E22_ok (fun G C hG hC => ?_)
    (repeat ((conv => whnf); first | refine ⟨_, by assumption, ?_⟩ | refine ⟨_, _, by assumption, ?_⟩ | refine ⟨(show _ ∧ _ by omega), ?_⟩ | refine ⟨(show _ ∨ _ by omega), ?_⟩ | refine ⟨fun h => absurd h (by decide), fun _ => ?_⟩ | refine ⟨fun _ => ?_, fun h => absurd h (by decide)⟩ | refine ⟨fun _ => ?_, fun h => absurd rfl h⟩ | refine ⟨fun h => absurd rfl h, fun _ => ?_⟩)); try (conv => whnf)
    refine hG _ _ _ _ _ _ ?_
    exact g6 _ _ _ st
  have g4 : ∀ I1 R1 S1, NI a (4, 16) flN lnN (uI (uI (uI I a ((0 : Nat) : Int) 1) a ((1 : Nat) : Int) 1) a ((2 : Nat) : Int) 0 a) I R S 4 I1 R1 S1 → Go P 22 (d + 1) K 43 [vr a] [] I1 R1 S1 := by
    intro I1 R1 S1 h
    have s0 := h.2.1
    have s1 : (S1 ++ [lnN 4])[a]? = some (4, 16) := at_app s0
    have st := ni_step (by omega) (fun j h1 h2 => by unfold flN; omega) h
    refine Go.walk 400 [51] E22 E22_ok (fun G C hG hC => ?_)
    (repeat ((conv => whnf); first | refine ⟨_, by assumption, ?_⟩ | refine ⟨_, _, by assumption, ?_⟩ | refine ⟨(show _ ∧ _ by omega), ?_⟩ | refine ⟨(show _ ∨ _ by omega), ?_⟩ | refine ⟨fun h => absurd h (by decide), fun _ => ?_⟩ | refine ⟨fun _ => ?_, fun h => absurd h (by decide)⟩ | refine ⟨fun _ => ?_, fun h => absurd rfl h⟩ | refine ⟨fun h => absurd rfl h, fun _ => ?_⟩)); try (conv => whnf)
    refine hG _ _ _ _ _ _ ?_
    exact g5 _ _ _ st
  have g3 : ∀ I1 R1 S1, NI a (4, 16) flN lnN (uI (uI (uI I a ((0 : Nat) : Int) 1) a ((1 : Nat) : Int) 1) a ((2 : Nat) : Int) 0 a) I R S 3 I1 R1 S1 → Go P 22 (d + 1) K 35 [vr a] [] I1 R1 S1 := by
    intro I1 R1 S1 h
    have s0 := h.2.1
    have s1 : (S1 ++ [lnN 3])[a]? = some (4, 16) := at_app s0
    have st := ni_step (by omega) (fun j h1 h2 => by unfold flN; omega) h
    refine Go.walk 400 [43] E22 E22_ok (fun G C hG hC => ?_)
    (repeat ((conv => whnf); first | refine ⟨_, by assumption, ?_⟩ | refine ⟨_, _, by assumption, ?_⟩ | refine ⟨(show _ ∧ _ by omega), ?_⟩ | refine ⟨(show _ ∨ _ by omega), ?_⟩ | refine ⟨fun h => absurd h (by decide), fun _ => ?_⟩ | refine ⟨fun _ => ?_, fun h => absurd h (by decide)⟩ | refine ⟨fun _ => ?_, fun h => absurd rfl h⟩ | refine ⟨fun h => absurd rfl h, fun _ => ?_⟩)); try (conv => whnf)
    refine hG _ _ _ _ _ _ ?_
    exact g4 _ _ _ st
  have g2 : ∀ I1 R1 S1, NI a (4, 16) flN lnN (uI (uI (uI I a ((0 : Nat) : Int) 1) a ((1 : Nat) : Int) 1) a ((2 : Nat) : Int) 0 a) I R S 2 I1 R1 S1 → Go P 22 (d + 1) K 27 [vr a] [] I1 R1 S1 := by
    intro I1 R1 S1 h
    have s0 := h.2.1
    have s1 : (S1 ++ [lnN 2])[a]? = some (4, 16) := at_app s0
    have st := ni_step (by omega) (fun j h1 h2 => by unfold flN; omega) h
    refine Go.walk 400 [35] E22 E22_ok (fun G C hG hC => ?_)
    (repeat ((conv => whnf); first | refine ⟨_, by assumption, ?_⟩ | refine ⟨_, _, by assumption, ?_⟩ | refine ⟨(show _ ∧ _ by omega), ?_⟩ | refine ⟨(show _ ∨ _ by omega), ?_⟩ | refine ⟨fun h => absurd h (by decide), fun _ => ?_⟩ | refine ⟨fun _ => ?_, fun h => absurd h (by decide)⟩ | refine ⟨fun _ => ?_, fun h => absurd rfl h⟩ | refine ⟨fun h => absurd rfl h, fun _ => ?_⟩)); try (conv => whnf)
    refine hG _ _ _ _ _ _ ?_
    exact g3 _ _ _ st
  have g1 : ∀ I1 R1 S1, NI a (4, 16) flN lnN (uI (uI (uI I a ((0 : Nat) : Int) 1) a ((1 : Nat) : Int) 1) a ((2 : Nat) : Int) 0 a) I R S 1 I1 R1 S1 → Go P 22 (d + 1) K 19 [vr a] [] I1 R1 S1 := by
    intro I1 R1 S1 h
    have s0 := h.2.1
    have s1 : (S1 ++ [lnN 1])[a]? = some (4, 16) := at_app s0
    have st := ni_step (by omega) (fun j h1 h2 => by unfold flN; omega) h
    refine Go.walk 400 [27] E22 E22_ok (fun G C hG hC => ?_)
    (repeat ((conv => whnf); first | refine ⟨_, by assumption, ?_⟩ | refine ⟨_, _, by assumption, ?_⟩ | refine ⟨(show _ ∧ _ by omega), ?_⟩ | refine ⟨(show _ ∨ _ by omega), ?_⟩ | refine ⟨fun h => absurd h (by decide), fun _ => ?_⟩ | refine ⟨fun _ => ?_, fun h => absurd h (by decide)⟩ | refine ⟨fun _ => ?_, fun h => absurd rfl h⟩ | refine ⟨fun h => absurd rfl h, fun _ => ?_⟩)); try (conv => whnf)
    refine hG _ _ _ _ _ _ ?_
    exact g2 _ _ _ st
  refine Ok.of (by decide) rfl (Nat.le_of_ble_eq_true rfl) ?_
  refine Go.walk 400 [19] E22 E22_ok (fun G C hG hC => ?_)
  (repeat ((conv => whnf); first | refine ⟨_, by assumption, ?_⟩ | refine ⟨_, _, by assumption, ?_⟩ | refine ⟨(show _ ∧ _ by omega), ?_⟩ | refine ⟨(show _ ∨ _ by omega), ?_⟩ | refine ⟨fun h => absurd h (by decide), fun _ => ?_⟩ | refine ⟨fun _ => ?_, fun h => absurd h (by decide)⟩ | refine ⟨fun _ => ?_, fun h => absurd rfl h⟩ | refine ⟨fun h => absurd rfl h, fun _ => ?_⟩)); try (conv => whnf)
  refine hG _ _ _ _ _ _ ?_
  exact g1 _ _ _ ⟨hl, ha, fun j h1 h2 => by omega, fun x hx => ⟨by rw [uI_o (by omega), uI_o (by omega), uI_o (by omega)], rfl⟩, ⟨[], by rw [List.append_nil]⟩, rfl, rfl⟩
def flT (j : Nat) : Nat := j - 1
def lnT (_ : Nat) : Nat × Nat := (9, 6)
/-- new Timing() -/
theorem ok_newTiming {P : aP} {d : Nat} {K : aK} {I : aI} {R : aR} {S : aS} {a : Nat} (hl : S.length = a + 1) (ha : S[a]? = some (6, 7)) (hK : ∀ I' R' S', NF0 a I R S I' R' S' → S'.length = a + 5 → szs S' = szs S + 24 → (S'[a]? = some (6, 7) ∧ R' a 0 = some (a + 1) ∧ S'[a + 1]? = some (9, 6) ∧ R' a 1 = some (a + 2) ∧ S'[a + 2]? = some (9, 6) ∧ R' a 2 = some (a + 3) ∧ S'[a + 3]? = some (9, 6) ∧ R' a 3 = some (a + 4) ∧ S'[a + 4]? = some (9, 6)) → K none I' R' S') : Ok P 38 (d + 1) [vr a] I R S K := by
  have g5 : ∀ I1 R1 S1, NI a (6, 7) flT lnT (I a) I R S 5 I1 R1 S1 → Go P 38 (d + 1) K 36 [vr a] [] I1 R1 S1 := by
    intro I1 R1 S1 h
    obtain ⟨h1, h2, h3, h4, h5, h6, h7⟩ := h
    refine Go.walk 400 [] E38 E38_ok (fun G C hG hC => ?_)
    (repeat ((conv => whnf); first | refine ⟨_, by assumption, ?_⟩ | refine ⟨_, _, by assumption, ?_⟩ | refine ⟨(show _ ∧ _ by omega), ?_⟩ | refine ⟨(show _ ∨ _ by omega), ?_⟩ | refine ⟨fun h => absurd h (by decide), fun _ => ?_⟩ | refine ⟨fun _ => ?_, fun h => absurd h (by decide)⟩ | refine ⟨fun _ => ?_, fun h => absurd rfl h⟩ | refine ⟨fun h => absurd rfl h, fun _ => ?_⟩)); try (conv => whnf)
    exact hK _ _ _ ⟨h5, fun x hx => ⟨by rw [uI_o (by omega), uI_o (by omega), uI_o (by omega)]; exact (h4 x hx).1, (h4 x hx).2⟩⟩ h1 h6 ⟨h2, (h3 1 (by omega) (by omega)).1, (h3 1 (by omega) (by omega)).2.1, (h3 2 (by omega) (by omega)).1, (h3 2 (by omega) (by omega)).2.1, (h3 3 (by omega) (by omega)).1, (h3 3 (by omega) (by omega)).2.1, (h3 4 (by omega) (by omega)).1, (h3 4 (by omega) (by omega)).2.1⟩
  have g4 : ∀ I1 R1 S1, NI a (6, 7) flT lnT (I a) I R S 4 I1 R1 S1 → Go P 38 (d + 1) K 28 [vr a] [] I1 R1 S1 := by
    intro I1 R1 S1 h
    have s0 := h.2.1
    have s1 : (S1 ++ [lnT 4])[a]? = some (6, 7) := at_app s0
    have st := ni_step (by omega) (fun j h1 h2 => by unfold flT; omega) h
    refine Go.walk 400 [36] E38 E38_ok (fun G C hG hC => ?_)
    (repeat ((conv => whnf); first | refine ⟨_, by assumption, ?_⟩ | refine ⟨_, _, by assumption, ?_⟩ | refine ⟨(show _ ∧ _ by omega), ?_⟩ | refine ⟨(show _ ∨ _ by omega), ?_⟩ | refine ⟨fun h => absurd h (by decide), fun _ => ?_⟩ | refine ⟨fun _ => ?_, fun h => absurd h (by decide)⟩ | refine ⟨fun _ => ?_, fun h => absurd rfl h⟩ | refine ⟨fun h => absurd rfl h, fun _ => ?_⟩)); try (conv => whnf)
    refine hG _ _ _ _ _ _ ?_
    exact g5 _ _ _ st
  have g3 : ∀ I1 R1 S1, NI a (6, 7) flT lnT (I a) I R S 3 I1 R1 S1 → Go P 38 (d + 1) K 20 [vr a] [] I1 R1 S1 := by
    intro I1 R1 S1 h
    have s0 := h.2.1
    have s1 : (S1 ++ [lnT 3])[a]? = some (6, 7) := at_app s0
    have st := ni_step (by omega) (fun j h1 h2 => by unfold flT; omega) h
    refine Go.walk 400 [28] E38 E38_ok (fun G C hG hC => ?_)
    (repeat ((conv => whnf); first | refine ⟨_, by assumption, ?_⟩ | refine ⟨_, _, by assumption, ?_⟩ | refine ⟨(show _ ∧ _ by omega), ?_⟩ | refine ⟨(show _ ∨ _ by omega), ?_⟩ | refine ⟨fun h => absurd h (by decide), fun _ => ?_⟩ | refine ⟨fun _ => ?_, fun h => absurd h (by decide)⟩ | refine ⟨fun _ => ?_, fun h => absurd rfl h⟩ | refine ⟨fun h => absurd rfl h, fun _ => ?_⟩)); try (conv => whnf)
    refine hG _ _ _ _ _ _ ?_
    exact g4 _ _ _ st
  have g2 : ∀ I1 R1 S1, NI a (6, 7) flT lnT (I a) I R S 2 I1 R1 S1 → Go P 38 (d + 1) K 12 [vr a] [] I1 R1 S1 := by
    intro I1 R1 S1 h
    have s0 := h.2.1
    have s1 : (S1 ++ [lnT 2])[a]? = some (6, 7) := at_app s0
    have st := ni_step (by omega) (fun j h1 h2 => by unfold flT; omega) h
    refine Go.walk 400 [20] E38 E38_ok (fun G C hG hC => ?_)
    (repeat ((conv => whnf); first | refine ⟨_, by assumption, ?_⟩ | refine ⟨_, _, by assumption, ?_⟩ | refine ⟨(show _ ∧ _ by omega), ?_⟩ | refine ⟨(show _ ∨ _ by omega), ?_⟩ | refine ⟨fun h => absurd h (by decide), fun _ => ?_⟩ | refine ⟨fun _ => ?_, fun h => absurd h (by decide)⟩ | refine ⟨fun _ => ?_, fun h => absurd rfl h⟩ | refine ⟨fun h => absurd rfl h, fun _ => ?_⟩)); try (conv => whnf)
    refine hG _ _ _ _ _ _ ?_
    exact g3 _ _ _ st
  have g1 : ∀ I1 R1 S1, NI a (6, 7) flT lnT (I a) I R S 1 I1 R1 S1 → Go P 38 (d + 1) K 4 [vr a] [] I1 R1 S1 := by
    intro I1 R1 S1 h
    have s0 := h.2.1
    have s1 : (S1 ++ [lnT 1])[a]? = some (6, 7) := at_app s0
    have st := ni_step (by omega) (fun j h1 h2 => by unfold flT; omega) h
    refine Go.walk 400 [12] E38 E38_ok (fun G C hG hC => ?_)
    (repeat ((conv => whnf); first | refine ⟨_, by assumption, ?_⟩ | refine ⟨_, _, by assumption, ?_⟩ | refine ⟨(show _ ∧ _ by omega), ?_⟩ | refine ⟨(show _ ∨ _ by omega), ?_⟩ | refine ⟨fun h => absurd h (by decide), fun _ => ?_⟩ | refine ⟨fun _ => ?_, fun h => absurd h (by decide)⟩ | refine ⟨fun _ => ?_, fun h => absurd rfl h⟩ | refine ⟨fun h => absurd rfl h, fun _ => ?_⟩)); try (conv => whnf)
    refine hG _ _ _ _ _ _ ?_
    exact g2 _ _ _ st
  refine Ok.of (by decide) rfl (Nat.le_of_ble_eq_true rfl) ?_
  refine Go.walk 400 [4] E38 E38_ok (fun G C hG hC => ?_)
  (repeat ((conv => whnf); first | refine ⟨_, by assumption, ?_⟩ | refine ⟨_, _, by assumption, ?_⟩ | refine ⟨(show _ ∧ _ by omega), ?_⟩ | refine ⟨(show _ ∨ _ by omega), ?_⟩ | refine ⟨fun h => absurd h (by decide), fun _ => ?_⟩ | refine ⟨fun _ => ?_, fun h => absurd h (by decide)⟩ | refine ⟨fun _ => ?_, fun h => absurd rfl h⟩ | refine ⟨fun h => absurd rfl h, fun _ => ?_⟩)); try (conv => whnf)
  refine hG _ _ _ _ _ _ ?_
  exact g1 _ _ _ ⟨hl, ha, fun j h1 h2 => by omega, fun x hx => ⟨rfl, rfl⟩, ⟨[], by rw [List.append_nil]⟩, rfl, rfl⟩
def lnB (_ : Nat) : Nat × Nat := (9, 20)
/-- new Book() -/
theorem ok_newBook {P : aP} {d : Nat} {K : aK} {I : aI} {R : aR} {S : aS} {a : Nat} (hl : S.length = a + 1) (ha : S[a]? = some (0, 3)) (hK : ∀ I' R' S', NF0 a I R S I' R' S' → S'.length = a + 3 → szs S' = szs S + 40 → (S'[a]? = some (0, 3) ∧ R' a 0 = some (a + 1) ∧ S'[a + 1]? = some (9, 20) ∧ R' a 1 = some (a + 2) ∧ S'[a + 2]? = some (9, 20)) → I' a 2 = 0 → K none I' R' S') : Ok P 0 (d + 1) [vr a] I R S K := by
  have g3 : ∀ I1 R1 S1, NI a (0, 3) flT lnB (I a) I R S 3 I1 R1 S1 → Go P 0 (d + 1) K 20 [vr a] [] I1 R1 S1 := by
    intro I1 R1 S1 h
    obtain ⟨h1, h2, h3, h4, h5, h6, h7⟩ := h
    refine Go.walk 400 [] E0 E0_ok (fun G C hG hC => ?_)
    (repeat ((conv => whnf); first | refine ⟨_, by assumption, ?_⟩ | refine ⟨_, _, by assumption, ?_⟩ | refine ⟨(show _ ∧ _ by omega), ?_⟩ | refine ⟨(show _ ∨ _ by omega), ?_⟩ | refine ⟨fun h => absurd h (by decide), fun _ => ?_⟩ | refine ⟨fun _ => ?_, fun h => absurd h (by decide)⟩ | refine ⟨fun _ => ?_, fun h => absurd rfl h⟩ | refine ⟨fun h => absurd rfl h, fun _ => ?_⟩)); try (conv => whnf)
    exact hK _ _ _ ⟨h5, fun x hx => ⟨by rw [uI_o (by omega)]; exact (h4 x hx).1, (h4 x hx).2⟩⟩ h1 h6 ⟨h2, (h3 1 (by omega) (by omega)).1, (h3 1 (by omega) (by omega)).2.1, (h3 2 (by omega) (by omega)).1, (h3 2 (by omega) (by omega)).2.1⟩ uI_at
  have g2 : ∀ I1 R1 S1, NI a (0, 3) flT lnB (I a) I R S 2 I1 R1 S1 → Go P 0 (d + 1) K 12 [vr a] [] I1 R1 S1 := by
    intro I1 R1 S1 h
    have s0 := h.2.1
    have s1 : (S1 ++ [lnB 2])[a]? = some (0, 3) := at_app s0
    have st := ni_step (by omega) (fun j h1 h2 => by unfold flT; omega) h
    refine Go.walk 400 [20] E0 E0_ok (fun G C hG hC => ?_)
    (repeat ((conv => whnf); first | refine ⟨_, by assumption, ?_⟩ | refine ⟨_, _, by assumption, ?_⟩ | refine ⟨(show _ ∧ _ by omega), ?_⟩ | refine ⟨(show _ ∨ _ by omega), ?_⟩ | refine ⟨fun h => absurd h (by decide), fun _ => ?_⟩ | refine ⟨fun _ => ?_, fun h => absurd h (by decide)⟩ | refine ⟨fun _ => ?_, fun h => absurd rfl h⟩ | refine ⟨fun h => absurd rfl h, fun _ => ?_⟩)); try (conv => whnf)
    refine hG _ _ _ _ _ _ ?_
    exact g3 _ _ _ st
  have g1 : ∀ I1 R1 S1, NI a (0, 3) flT lnB (I a) I R S 1 I1 R1 S1 → Go P 0 (d + 1) K 4 [vr a] [] I1 R1 S1 := by
    intro I1 R1 S1 h
    have s0 := h.2.1
    have s1 : (S1 ++ [lnB 1])[a]? = some (0, 3) := at_app s0
    have st := ni_step (by omega) (fun j h1 h2 => by unfold flT; omega) h
    refine Go.walk 400 [12] E0 E0_ok (fun G C hG hC => ?_)
    (repeat ((conv => whnf); first | refine ⟨_, by assumption, ?_⟩ | refine ⟨_, _, by assumption, ?_⟩ | refine ⟨(show _ ∧ _ by omega), ?_⟩ | refine ⟨(show _ ∨ _ by omega), ?_⟩ | refine ⟨fun h => absurd h (by decide), fun _ => ?_⟩ | refine ⟨fun _ => ?_, fun h => absurd h (by decide)⟩ | refine ⟨fun _ => ?_, fun h => absurd rfl h⟩ | refine ⟨fun h => absurd rfl h, fun _ => ?_⟩)); try (conv => whnf)
    refine hG _ _ _ _ _ _ ?_
    exact g2 _ _ _ st
  refine Ok.of (by decide) rfl (Nat.le_of_ble_eq_true rfl) ?_
  refine Go.walk 400 [4] E0 E0_ok (fun G C hG hC => ?_)
  (repeat ((conv => whnf); first | refine ⟨_, by assumption, ?_⟩ | refine ⟨_, _, by assumption, ?_⟩ | refine ⟨(show _ ∧ _ by omega), ?_⟩ | refine ⟨(show _ ∨ _ by omega), ?_⟩ | refine ⟨fun h => absurd h (by decide), fun _ => ?_⟩ | refine ⟨fun _ => ?_, fun h => absurd h (by decide)⟩ | refine ⟨fun _ => ?_, fun h => absurd rfl h⟩ | refine ⟨fun h => absurd rfl h, fun _ => ?_⟩)); try (conv => whnf)
  refine hG _ _ _ _ _ _ ?_
  exact g1 _ _ _ ⟨hl, ha, fun j h1 h2 => by omega, fun x hx => ⟨rfl, rfl⟩, ⟨[], by rw [List.append_nil]⟩, rfl, rfl⟩
def flM : Nat → Nat
  | 1 => 0
  | 2 => 2
  | 3 => 4
  | 4 => 5
  | 5 => 6
  | 6 => 7
  | 7 => 9
  | 8 => 10
  | 9 => 11
  | 10 => 12
  | 11 => 13
  | 12 => 14
  | 13 => 15
  | 14 => 16
  | 15 => 17
  | j => j + 100
def lnM : Nat → Nat × Nat
  | 1 => (9, 68)
  | 2 => (9, 1088)
  | 3 => (9, 138)
  | 4 => (10, 2)
  | 5 => (9, 20)
  | 6 => (9, 20)
  | 7 => (9, 6)
  | 8 => (9, 6)
  | 9 => (9, 6)
  | 10 => (9, 6)
  | 11 => (9, 6)
  | 12 => (9, 6)
  | 13 => (9, 1100)
  | 14 => (9, 1100)
  | 15 => (9, 1100)
  | _ => (0, 0)
theorem flM_inj : ∀ i, i < 16 → ∀ j, j < i → 1 ≤ j → flM j ≠ flM i := by decide
/-- new RepeaterWiresModel() -/
theorem ok_newModel {P : aP} {d : Nat} {K : aK} {I : aI} {R : aR} {S : aS} (hl : S.length = 361 + 1) (ha : S[361]? = some (8, 20)) (hz : ∀ k, I 361 k = 0) (hK : ∀ I' R' S', NF0 361 I R S I' R' S' → S'.length = 377 → szs S' = szs S + 4672 → MS R' S' → I' 362 = nz → (∀ k, I' 361 k = 0) → (∀ k, I' 365 k = 0) → K none I' R' S') : Ok P 77 (d + 1) [vr 361] I R S K := by
  obtain ⟨a, ea⟩ : ∃ a, a = 361 := ⟨361, rfl⟩
  have g16 : ∀ I1 R1 S1, NI a (8, 20) flM lnM (I a) I R S 16 I1 R1 S1 → Go P 77 (d + 1) K 128 [vr a] [] I1 R1 S1 := by
    intro I1 R1 S1 h
    obtain ⟨h1, h2, h3, h4, h5, h6, h7⟩ := h
    subst ea
    have r0 := (h3 1 (by omega) (by omega)).1
    have s0 := (h3 1 (by omega) (by omega)).2.1
    have r0' : R1 361 ((0 : Nat) : Int) = some 362 := r0
    have s0' : S1[362]? = some (9, 68) := s0
    refine Go.walk 400 [] E77 E77_ok (fun G C hG hC => ?_)
    (repeat ((conv => whnf); first | refine ⟨_, by assumption, ?_⟩ | refine ⟨_, _, by assumption, ?_⟩ | refine ⟨(show _ ∧ _ by omega), ?_⟩ | refine ⟨(show _ ∨ _ by omega), ?_⟩ | refine ⟨fun h => absurd h (by decide), fun _ => ?_⟩ | refine ⟨fun _ => ?_, fun h => absurd h (by decide)⟩ | refine ⟨fun _ => ?_, fun h => absurd rfl h⟩ | refine ⟨fun h => absurd rfl h, fun _ => ?_⟩)); try (conv => whnf)
    have en : uI (uI I1 362 0 1) 362 1 1 362 = nz := by
      funext k
      have z := (h3 1 (by omega) (by omega)).2.2 k
      have z' : I1 362 k = 0 := z
      unfold nz
      by_cases q1 : k = 1
      · rw [q1, uI_at, if_pos (Or.inr rfl)]
      · by_cases q0 : k = 0
        · rw [q0, uI_ne (by omega), uI_at, if_pos (Or.inl rfl)]
        · rw [uI_ne (by omega), uI_ne (by omega), z', if_neg (by omega)]
    refine hK _ _ _ ⟨h5, fun x hx => ⟨by rw [uI_o (by omega), uI_o (by omega)]; exact (h4 x hx).1, (h4 x hx).2⟩⟩ h1 h6 ⟨h2, (h3 1 (by omega) (by omega)).1, (h3 1 (by omega) (by omega)).2.1, (h3 2 (by omega) (by omega)).1, (h3 2 (by omega) (by omega)).2.1, (h3 3 (by omega) (by omega)).1, (h3 3 (by omega) (by omega)).2.1, (h3 4 (by omega) (by omega)).1, (h3 4 (by omega) (by omega)).2.1, (h3 5 (by omega) (by omega)).1, (h3 5 (by omega) (by omega)).2.1, (h3 6 (by omega) (by omega)).1, (h3 6 (by omega) (by omega)).2.1, (h3 7 (by omega) (by omega)).1, (h3 7 (by omega) (by omega)).2.1, (h3 8 (by omega) (by omega)).1, (h3 8 (by omega) (by omega)).2.1, (h3 9 (by omega) (by omega)).1, (h3 9 (by omega) (by omega)).2.1, (h3 10 (by omega) (by omega)).1, (h3 10 (by omega) (by omega)).2.1, (h3 11 (by omega) (by omega)).1, (h3 11 (by omega) (by omega)).2.1, (h3 12 (by omega) (by omega)).1, (h3 12 (by omega) (by omega)).2.1, (h3 13 (by omega) (by omega)).1, (h3 13 (by omega) (by omega)).2.1, (h3 14 (by omega) (by omega)).1, (h3 14 (by omega) (by omega)).2.1, (h3 15 (by omega) (by omega)).1, (h3 15 (by omega) (by omega)).2.1⟩ en (fun k => by rw [uI_o (by omega), uI_o (by omega), h7]; exact hz k) (fun k => by rw [uI_o (by omega), uI_o (by omega)]; exact (h3 4 (by omega) (by omega)).2.2 k)
  have g15 : ∀ I1 R1 S1, NI a (8, 20) flM lnM (I a) I R S 15 I1 R1 S1 → Go P 77 (d + 1) K 119 [vr a] [] I1 R1 S1 := by
    intro I1 R1 S1 h
    have s0 := h.2.1
    have s1 : (S1 ++ [lnM 15])[a]? = some (8, 20) := at_app s0
    have st := ni_step (by omega) (fun j h1 h2 => flM_inj _ (by omega) j h2 h1) h
    refine Go.walk 400 [128] E77 E77_ok (fun G C hG hC => ?_)
    (repeat ((conv => whnf); first | refine ⟨_, by assumption, ?_⟩ | refine ⟨_, _, by assumption, ?_⟩ | refine ⟨(show _ ∧ _ by omega), ?_⟩ | refine ⟨(show _ ∨ _ by omega), ?_⟩ | refine ⟨fun h => absurd h (by decide), fun _ => ?_⟩ | refine ⟨fun _ => ?_, fun h => absurd h (by decide)⟩ | refine ⟨fun _ => ?_, fun h => absurd rfl h⟩ | refine ⟨fun h => absurd rfl h, fun _ => ?_⟩)); try (conv => whnf)
    refine hG _ _ _ _ _ _ ?_
    exact g16 _ _ _ st
  have g14 : ∀ I1 R1 S1, NI a (8, 20) flM lnM (I a) I R S 14 I1 R1 S1 → Go P 77 (d + 1) K 110 [vr a] [] I1 R1 S1 := by
    intro I1 R1 S1 h
    have s0 := h.2.1
    have s1 : (S1 ++ [lnM 14])[a]? = some (8, 20) := at_app s0
    have st := ni_step (by omega) (fun j h1 h2 => flM_inj _ (by omega) j h2 h1) h
    refine Go.walk 400 [119] E77 E77_ok (fun G C hG hC => ?_)
    (repeat ((conv => whnf); first | refine ⟨_, by assumption, ?_⟩ | refine ⟨_, _, by assumption, ?_⟩ | refine ⟨(show _ ∧ _ by omega), ?_⟩ | refine ⟨(show _ ∨ _ by omega), ?_⟩ | refine ⟨fun h => absurd h (by decide), fun _ => ?_⟩ | refine ⟨fun _ => ?_, fun h => absurd h (by decide)⟩ | refine ⟨fun _ => ?_, fun h => absurd rfl h⟩ | refine ⟨fun h => absurd rfl h, fun _ => ?_⟩)); try (conv => whnf)
    refine hG _ _ _ _ _ _ ?_
    exact g15 _ _ _ st
  have g13 : ∀ I1 R1 S1, NI a (8, 20) flM lnM (I a) I R S 13 I1 R1 S1 → Go P 77 (d + 1) K 101 [vr a] [] I1 R1 S1 := by
    intro I1 R1 S1 h
    have s0 := h.2.1
    have s1 : (S1 ++ [lnM 13])[a]? = some (8, 20) := at_app s0
    have st := ni_step (by omega) (fun j h1 h2 => flM_inj _ (by omega) j h2 h1) h
    refine Go.walk 400 [110] E77 E77_ok (fun G C hG hC => ?_)
    (repeat ((conv => whnf); first | refine ⟨_, by assumption, ?_⟩ | refine ⟨_, _, by assumption, ?_⟩ | refine ⟨(show _ ∧ _ by omega), ?_⟩ | refine ⟨(show _ ∨ _ by omega), ?_⟩ | refine ⟨fun h => absurd h (by decide), fun _ => ?_⟩ | refine ⟨fun _ => ?_, fun h => absurd h (by decide)⟩ | refine ⟨fun _ => ?_, fun h => absurd rfl h⟩ | refine ⟨fun h => absurd rfl h, fun _ => ?_⟩)); try (conv => whnf)
    refine hG _ _ _ _ _ _ ?_
    exact g14 _ _ _ st
  have g12 : ∀ I1 R1 S1, NI a (8, 20) flM lnM (I a) I R S 12 I1 R1 S1 → Go P 77 (d + 1) K 93 [vr a] [] I1 R1 S1 := by
    intro I1 R1 S1 h
    have s0 := h.2.1
    have s1 : (S1 ++ [lnM 12])[a]? = some (8, 20) := at_app s0
    have st := ni_step (by omega) (fun j h1 h2 => flM_inj _ (by omega) j h2 h1) h
    refine Go.walk 400 [101] E77 E77_ok (fun G C hG hC => ?_)
    (repeat ((conv => whnf); first | refine ⟨_, by assumption, ?_⟩ | refine ⟨_, _, by assumption, ?_⟩ | refine ⟨(show _ ∧ _ by omega), ?_⟩ | refine ⟨(show _ ∨ _ by omega), ?_⟩ | refine ⟨fun h => absurd h (by decide), fun _ => ?_⟩ | refine ⟨fun _ => ?_, fun h => absurd h (by decide)⟩ | refine ⟨fun _ => ?_, fun h => absurd rfl h⟩ | refine ⟨fun h => absurd rfl h, fun _ => ?_⟩)); try (conv => whnf)
    refine hG _ _ _ _ _ _ ?_
    exact g13 _ _ _ st
  have g11 : ∀ I1 R1 S1, NI a (8, 20) flM lnM (I a) I R S 11 I1 R1 S1 → Go P 77 (d + 1) K 85 [vr a] [] I1 R1 S1 := by
    intro I1 R1 S1 h
    have s0 := h.2.1
    have s1 : (S1 ++ [lnM 11])[a]? = some (8, 20) := at_app s0
    have st := ni_step (by omega) (fun j h1 h2 => flM_inj _ (by omega) j h2 h1) h
    refine Go.walk 400 [93] E77 E77_ok (fun G C hG hC => ?_)
    (repeat ((conv => whnf); first | refine ⟨_, by assumption, ?_⟩ | refine ⟨_, _, by assumption, ?_⟩ | refine ⟨(show _ ∧ _ by omega), ?_⟩ | refine ⟨(show _ ∨ _ by omega), ?_⟩ | refine ⟨fun h => absurd h (by decide), fun _ => ?_⟩ | refine ⟨fun _ => ?_, fun h => absurd h (by decide)⟩ | refine ⟨fun _ => ?_, fun h => absurd rfl h⟩ | refine ⟨fun h => absurd rfl h, fun _ => ?_⟩)); try (conv => whnf)
    refine hG _ _ _ _ _ _ ?_
    exact g12 _ _ _ st
  have g10 : ∀ I1 R1 S1, NI a (8, 20) flM lnM (I a) I R S 10 I1 R1 S1 → Go P 77 (d + 1) K 77 [vr a] [] I1 R1 S1 := by
    intro I1 R1 S1 h
    have s0 := h.2.1
    have s1 : (S1 ++ [lnM 10])[a]? = some (8, 20) := at_app s0
    have st := ni_step (by omega) (fun j h1 h2 => flM_inj _ (by omega) j h2 h1) h
    refine Go.walk 400 [85] E77 E77_ok (fun G C hG hC => ?_)
    (repeat ((conv => whnf); first | refine ⟨_, by assumption, ?_⟩ | refine ⟨_, _, by assumption, ?_⟩ | refine ⟨(show _ ∧ _ by omega), ?_⟩ | refine ⟨(show _ ∨ _ by omega), ?_⟩ | refine ⟨fun h => absurd h (by decide), fun _ => ?_⟩ | refine ⟨fun _ => ?_, fun h => absurd h (by decide)⟩ | refine ⟨fun _ => ?_, fun h => absurd rfl h⟩ | refine ⟨fun h => absurd rfl h, fun _ => ?_⟩)); try (conv => whnf)
    refine hG _ _ _ _ _ _ ?_
    exact g11 _ _ _ st
  have g9 : ∀ I1 R1 S1, NI a (8, 20) flM lnM (I a) I R S 9 I1 R1 S1 → Go P 77 (d + 1) K 69 [vr a] [] I1 R1 S1 := by
    intro I1 R1 S1 h
    have s0 := h.2.1
    have s1 : (S1 ++ [lnM 9])[a]? = some (8, 20) := at_app s0
    have st := ni_step (by omega) (fun j h1 h2 => flM_inj _ (by omega) j h2 h1) h
    refine Go.walk 400 [77] E77 E77_ok (fun G C hG hC => ?_)
    (repeat ((conv => whnf); first | refine ⟨_, by assumption, ?_⟩ | refine ⟨_, _, by assumption, ?_⟩ | refine ⟨(show _ ∧ _ by omega), ?_⟩ | refine ⟨(show _ ∨ _ by omega), ?_⟩ | refine ⟨fun h => absurd h (by decide), fun _ => ?_⟩ | refine ⟨fun _ => ?_, fun h => absurd h (by decide)⟩ | refine ⟨fun _ => ?_, fun h => absurd rfl h⟩ | refine ⟨fun h => absurd rfl h, fun _ => ?_⟩)); try (conv => whnf)
    refine hG _ _ _ _ _ _ ?_
    exact g10 _ _ _ st
  have g8 : ∀ I1 R1 S1, NI a (8, 20) flM lnM (I a) I R S 8 I1 R1 S1 → Go P 77 (d + 1) K 61 [vr a] [] I1 R1 S1 := by
    intro I1 R1 S1 h
    have s0 := h.2.1
    have s1 : (S1 ++ [lnM 8])[a]? = some (8, 20) := at_app s0
    have st := ni_step (by omega) (fun j h1 h2 => flM_inj _ (by omega) j h2 h1) h
    refine Go.walk 400 [69] E77 E77_ok (fun G C hG hC => ?_)
    (repeat ((conv => whnf); first | refine ⟨_, by assumption, ?_⟩ | refine ⟨_, _, by assumption, ?_⟩ | refine ⟨(show _ ∧ _ by omega), ?_⟩ | refine ⟨(show _ ∨ _ by omega), ?_⟩ | refine ⟨fun h => absurd h (by decide), fun _ => ?_⟩ | refine ⟨fun _ => ?_, fun h => absurd h (by decide)⟩ | refine ⟨fun _ => ?_, fun h => absurd rfl h⟩ | refine ⟨fun h => absurd rfl h, fun _ => ?_⟩)); try (conv => whnf)
    refine hG _ _ _ _ _ _ ?_
    exact g9 _ _ _ st
  have g7 : ∀ I1 R1 S1, NI a (8, 20) flM lnM (I a) I R S 7 I1 R1 S1 → Go P 77 (d + 1) K 53 [vr a] [] I1 R1 S1 := by
    intro I1 R1 S1 h
    have s0 := h.2.1
    have s1 : (S1 ++ [lnM 7])[a]? = some (8, 20) := at_app s0
    have st := ni_step (by omega) (fun j h1 h2 => flM_inj _ (by omega) j h2 h1) h
    refine Go.walk 400 [61] E77 E77_ok (fun G C hG hC => ?_)
    (repeat ((conv => whnf); first | refine ⟨_, by assumption, ?_⟩ | refine ⟨_, _, by assumption, ?_⟩ | refine ⟨(show _ ∧ _ by omega), ?_⟩ | refine ⟨(show _ ∨ _ by omega), ?_⟩ | refine ⟨fun h => absurd h (by decide), fun _ => ?_⟩ | refine ⟨fun _ => ?_, fun h => absurd h (by decide)⟩ | refine ⟨fun _ => ?_, fun h => absurd rfl h⟩ | refine ⟨fun h => absurd rfl h, fun _ => ?_⟩)); try (conv => whnf)
    refine hG _ _ _ _ _ _ ?_
    exact g8 _ _ _ st
  have g6 : ∀ I1 R1 S1, NI a (8, 20) flM lnM (I a) I R S 6 I1 R1 S1 → Go P 77 (d + 1) K 45 [vr a] [] I1 R1 S1 := by
    intro I1 R1 S1 h
    have s0 := h.2.1
    have s1 : (S1 ++ [lnM 6])[a]? = some (8, 20) := at_app s0
    have st := ni_step (by omega) (fun j h1 h2 => flM_inj _ (by omega) j h2 h1) h
    refine Go.walk 400 [53] E77 E77_ok (fun G C hG hC => ?_)
    (repeat ((conv => whnf); first | refine ⟨_, by assumption, ?_⟩ | refine ⟨_, _, by assumption, ?_⟩ | refine ⟨(show _ ∧ _ by omega), ?_⟩ | refine ⟨(show _ ∨ _ by omega), ?_⟩ | refine ⟨fun h => absurd h (by decide), fun _ => ?_⟩ | refine ⟨fun _ => ?_, fun h => absurd h (by decide)⟩ | refine ⟨fun _ => ?_, fun h => absurd rfl h⟩ | refine ⟨fun h => absurd rfl h, fun _ => ?_⟩)); try (conv => whnf)
    refine hG _ _ _ _ _ _ ?_
    exact g7 _ _ _ st
  have g5 : ∀ I1 R1 S1, NI a (8, 20) flM lnM (I a) I R S 5 I1 R1 S1 → Go P 77 (d + 1) K 37 [vr a] [] I1 R1 S1 := by
    intro I1 R1 S1 h
    have s0 := h.2.1
    have s1 : (S1 ++ [lnM 5])[a]? = some (8, 20) := at_app s0
    have st := ni_step (by omega) (fun j h1 h2 => flM_inj _ (by omega) j h2 h1) h
    refine Go.walk 400 [45] E77 E77_ok (fun G C hG hC => ?_)
    (repeat ((conv => whnf); first | refine ⟨_, by assumption, ?_⟩ | refine ⟨_, _, by assumption, ?_⟩ | refine ⟨(show _ ∧ _ by omega), ?_⟩ | refine ⟨(show _ ∨ _ by omega), ?_⟩ | refine ⟨fun h => absurd h (by decide), fun _ => ?_⟩ | refine ⟨fun _ => ?_, fun h => absurd h (by decide)⟩ | refine ⟨fun _ => ?_, fun h => absurd rfl h⟩ | refine ⟨fun h => absurd rfl h, fun _ => ?_⟩)); try (conv => whnf)
    refine hG _ _ _ _ _ _ ?_
    exact g6 _ _ _ st
  have g4 : ∀ I1 R1 S1, NI a (8, 20) flM lnM (I a) I R S 4 I1 R1 S1 → Go P 77 (d + 1) K 30 [vr a] [] I1 R1 S1 := by
    intro I1 R1 S1 h
    have s0 := h.2.1
    have s1 : (S1 ++ [lnM 4])[a]? = some (8, 20) := at_app s0
    have st := ni_step (by omega) (fun j h1 h2 => flM_inj _ (by omega) j h2 h1) h
    refine Go.walk 400 [37] E77 E77_ok (fun G C hG hC => ?_)
    (repeat ((conv => whnf); first | refine ⟨_, by assumption, ?_⟩ | refine ⟨_, _, by assumption, ?_⟩ | refine ⟨(show _ ∧ _ by omega), ?_⟩ | refine ⟨(show _ ∨ _ by omega), ?_⟩ | refine ⟨fun h => absurd h (by decide), fun _ => ?_⟩ | refine ⟨fun _ => ?_, fun h => absurd h (by decide)⟩ | refine ⟨fun _ => ?_, fun h => absurd rfl h⟩ | refine ⟨fun h => absurd rfl h, fun _ => ?_⟩)); try (conv => whnf)
    refine hG _ _ _ _ _ _ ?_
    exact g5 _ _ _ st
  have g3 : ∀ I1 R1 S1, NI a (8, 20) flM lnM (I a) I R S 3 I1 R1 S1 → Go P 77 (d + 1) K 21 [vr a] [] I1 R1 S1 := by
    intro I1 R1 S1 h
    have s0 := h.2.1
    have s1 : (S1 ++ [lnM 3])[a]? = some (8, 20) := at_app s0
    have st := ni_step (by omega) (fun j h1 h2 => flM_inj _ (by omega) j h2 h1) h
    refine Go.walk 400 [30] E77 E77_ok (fun G C hG hC => ?_)
    (repeat ((conv => whnf); first | refine ⟨_, by assumption, ?_⟩ | refine ⟨_, _, by assumption, ?_⟩ | refine ⟨(show _ ∧ _ by omega), ?_⟩ | refine ⟨(show _ ∨ _ by omega), ?_⟩ | refine ⟨fun h => absurd h (by decide), fun _ => ?_⟩ | refine ⟨fun _ => ?_, fun h => absurd h (by decide)⟩ | refine ⟨fun _ => ?_, fun h => absurd rfl h⟩ | refine ⟨fun h => absurd rfl h, fun _ => ?_⟩)); try (conv => whnf)
    refine hG _ _ _ _ _ _ ?_
    exact g4 _ _ _ st
  have g2 : ∀ I1 R1 S1, NI a (8, 20) flM lnM (I a) I R S 2 I1 R1 S1 → Go P 77 (d + 1) K 12 [vr a] [] I1 R1 S1 := by
    intro I1 R1 S1 h
    have s0 := h.2.1
    have s1 : (S1 ++ [lnM 2])[a]? = some (8, 20) := at_app s0
    have st := ni_step (by omega) (fun j h1 h2 => flM_inj _ (by omega) j h2 h1) h
    refine Go.walk 400 [21] E77 E77_ok (fun G C hG hC => ?_)
    (repeat ((conv => whnf); first | refine ⟨_, by assumption, ?_⟩ | refine ⟨_, _, by assumption, ?_⟩ | refine ⟨(show _ ∧ _ by omega), ?_⟩ | refine ⟨(show _ ∨ _ by omega), ?_⟩ | refine ⟨fun h => absurd h (by decide), fun _ => ?_⟩ | refine ⟨fun _ => ?_, fun h => absurd h (by decide)⟩ | refine ⟨fun _ => ?_, fun h => absurd rfl h⟩ | refine ⟨fun h => absurd rfl h, fun _ => ?_⟩)); try (conv => whnf)
    refine hG _ _ _ _ _ _ ?_
    exact g3 _ _ _ st
  have g1 : ∀ I1 R1 S1, NI a (8, 20) flM lnM (I a) I R S 1 I1 R1 S1 → Go P 77 (d + 1) K 4 [vr a] [] I1 R1 S1 := by
    intro I1 R1 S1 h
    have s0 := h.2.1
    have s1 : (S1 ++ [lnM 1])[a]? = some (8, 20) := at_app s0
    have st := ni_step (by omega) (fun j h1 h2 => flM_inj _ (by omega) j h2 h1) h
    refine Go.walk 400 [12] E77 E77_ok (fun G C hG hC => ?_)
    (repeat ((conv => whnf); first | refine ⟨_, by assumption, ?_⟩ | refine ⟨_, _, by assumption, ?_⟩ | refine ⟨(show _ ∧ _ by omega), ?_⟩ | refine ⟨(show _ ∨ _ by omega), ?_⟩ | refine ⟨fun h => absurd h (by decide), fun _ => ?_⟩ | refine ⟨fun _ => ?_, fun h => absurd h (by decide)⟩ | refine ⟨fun _ => ?_, fun h => absurd rfl h⟩ | refine ⟨fun h => absurd rfl h, fun _ => ?_⟩)); try (conv => whnf)
    refine hG _ _ _ _ _ _ ?_
    exact g2 _ _ _ st
  rw [← ea] at hl ha ⊢
  refine Ok.of (by decide) rfl (Nat.le_of_ble_eq_true rfl) ?_
  refine Go.walk 400 [4] E77 E77_ok (fun G C hG hC => ?_)
  (repeat ((conv => whnf); first | refine ⟨_, by assumption, ?_⟩ | refine ⟨_, _, by assumption, ?_⟩ | refine ⟨(show _ ∧ _ by omega), ?_⟩ | refine ⟨(show _ ∨ _ by omega), ?_⟩ | refine ⟨fun h => absurd h (by decide), fun _ => ?_⟩ | refine ⟨fun _ => ?_, fun h => absurd h (by decide)⟩ | refine ⟨fun _ => ?_, fun h => absurd rfl h⟩ | refine ⟨fun h => absurd rfl h, fun _ => ?_⟩)); try (conv => whnf)
  refine hG _ _ _ _ _ _ ?_
  exact g1 _ _ _ ⟨hl, ha, fun j h1 h2 => by omega, fun x hx => ⟨rfl, rfl⟩, ⟨[], by rw [List.append_nil]⟩, rfl, rfl⟩
