/-! a Front of the class: three rows that hold a list -/
def Hk (I : aI) (x y z : Nat) (k : Int) (L : List aT) : Prop := ∀ (i : Nat) (t : aT), L[i]? = some t → I x (k + i) = t.1 ∧ I y (k + i) = t.2.1 ∧ I z (k + i) = t.2.2
def D4 (f x y z : Nat) : Prop := f ≠ x ∧ f ≠ y ∧ f ≠ z ∧ x ≠ y ∧ x ≠ z ∧ y ≠ z
def F1 (R : aR) (S : aS) (f x y z len : Nat) : Prop := S[f]? = some (3, 4) ∧ R f 1 = some x ∧ S[x]? = some (9, len) ∧ R f 2 = some y ∧ S[y]? = some (9, len) ∧ R f 3 = some z ∧ S[z]? = some (9, len)
def u3g (I : aI) (x y z : Nat) (k : Int) (t : aT) : aI := uI (uI (uI I x k t.1) y k t.2.1) z k t.2.2
theorem u3g_at {I : aI} {x y z : Nat} {k : Int} {t : aT} (h1 : x ≠ y) (h2 : x ≠ z) (h3 : y ≠ z) : u3g I x y z k t x k = t.1 ∧ u3g I x y z k t y k = t.2.1 ∧ u3g I x y z k t z k = t.2.2 := by
  refine ⟨?_, ?_, ?_⟩
  · show uI (uI (uI I x k t.1) y k t.2.1) z k t.2.2 x k = _
    rw [uI_ne (fun e => h2 e.1), uI_ne (fun e => h1 e.1), uI_at]
  · show uI (uI (uI I x k t.1) y k t.2.1) z k t.2.2 y k = _
    rw [uI_ne (fun e => h3 e.1), uI_at]
  · exact uI_at
theorem u3g_ne {I : aI} {x y z : Nat} {k j : Int} {t : aT} (q : Nat) (h : j ≠ k) : u3g I x y z k t q j = I q j := by
  show uI (uI (uI I x k t.1) y k t.2.1) z k t.2.2 q j = _
  rw [uI_ne (fun e => h e.2), uI_ne (fun e => h e.2), uI_ne (fun e => h e.2)]
theorem Hk.cons {I : aI} {x y z : Nat} {k : Int} {c : aT} {L : List aT} (h : Hk I x y z k (c :: L)) : (I x k = c.1 ∧ I y k = c.2.1 ∧ I z k = c.2.2) ∧ Hk I x y z (k + 1) L := by
  refine ⟨?_, fun i t ht => ?_⟩
  · have := h 0 c rfl
    rw [show k + ((0 : Nat) : Int) = k by omega] at this
    exact this
  · have := h (i + 1) t ht
    rw [show k + ((i + 1 : Nat) : Int) = k + 1 + (i : Nat) by omega] at this
    exact this
theorem Hk.put {I : aI} {x y z : Nat} {k j : Int} {t : aT} {L : List aT} (h : Hk I x y z k L) (hj : j < k ∨ k + L.length ≤ j) : Hk (u3g I x y z j t) x y z k L := by
  intro i w hx
  have hi := (List.getElem?_eq_some_iff.mp hx).1
  rw [u3g_ne x (by omega), u3g_ne y (by omega), u3g_ne z (by omega)]
  exact h i w hx
theorem Hk.snoc {I : aI} {x y z : Nat} {k j : Int} {t : aT} {L : List aT} (h1 : x ≠ y) (h2 : x ≠ z) (h3 : y ≠ z) (h : Hk I x y z k L) (hj : j = k + L.length) : Hk (u3g I x y z j t) x y z k (L ++ [t]) := by
  intro i w hx
  by_cases hi : i < L.length
  · rw [List.getElem?_append_left hi] at hx
    exact h.put (t := t) (Or.inr (by omega)) i w hx
  · have hz := (List.getElem?_eq_some_iff.mp hx).1
    rw [List.length_append, List.length_singleton] at hz
    have hi2 : i = L.length := by omega
    subst hi2
    rw [List.getElem?_append_right (Nat.le_refl _), Nat.sub_self] at hx
    cases hx
    rw [← hj]
    exact u3g_at h1 h2 h3
theorem Hk.app {I : aI} {x y z : Nat} {k : Int} {A B : List aT} (hA : Hk I x y z k A) (hB : Hk I x y z (k + A.length) B) : Hk I x y z k (A ++ B) := by
  intro i w hx
  by_cases hi : i < A.length
  · rw [List.getElem?_append_left hi] at hx
    exact hA i w hx
  · rw [List.getElem?_append_right (by omega)] at hx
    have := hB (i - A.length) w hx
    rw [show k + (A.length : Int) + ((i - A.length : Nat) : Int) = k + (i : Nat) by omega] at this
    exact this
theorem Hk.left {I : aI} {x y z : Nat} {k : Int} {A B : List aT} (h : Hk I x y z k (A ++ B)) : Hk I x y z k A := by
  intro i w hx
  have hi := (List.getElem?_eq_some_iff.mp hx).1
  exact h i w (by rw [List.getElem?_append_left hi]; exact hx)
theorem Hk.right {I : aI} {x y z : Nat} {k : Int} {A B : List aT} (h : Hk I x y z k (A ++ B)) : Hk I x y z (k + A.length) B := by
  intro i w hx
  have := h (A.length + i) w (by rw [List.getElem?_append_right (by omega), Nat.add_sub_cancel_left]; exact hx)
  rw [show k + ((A.length + i : Nat) : Int) = k + (A.length : Int) + (i : Nat) by omega] at this
  exact this
theorem Hk.cg {I I' : aI} {x y z : Nat} {k : Int} {L : List aT} (h : Hk I x y z k L) (hx : I' x = I x) (hy : I' y = I y) (hz : I' z = I z) : Hk I' x y z k L := by
  intro i w hw
  rw [hx, hy, hz]
  exact h i w hw
theorem Hk.nil {I : aI} {x y z : Nat} {k : Int} : Hk I x y z k [] := fun i t h => by simp at h
/-- standsAhead(i, shows, cost) -/
theorem ok_ahead {P : aP} {d : Nat} {K : aK} {I : aI} {R : aR} {S : aS} {f x y z len : Nat} {i s c : Int} {u : aT} (hS : F1 R S f x y z len) (hl : len ≤ 1024) (hi : 0 ≤ i ∧ i < len) (hu : I x i = u.1 ∧ I y i = u.2.1 ∧ I z i = u.2.2) (hur : tR u) (hs : iR s) (hc : iR c) (h1 : u.1 < s ∨ (u.1 = s ∧ u.2.2 < c) → K (some (vi 1)) I R S) (h0 : ¬ (u.1 < s ∨ (u.1 = s ∧ u.2.2 < c)) → K (some (vi 0)) I R S) : Ok P 18 (d + 1) [vr f, vi i, vi s, vi c] I R S K := by
  obtain ⟨s0, r1, s1, r2, s2, r3, s3⟩ := hS
  obtain ⟨u1, u2, u3⟩ := hu
  obtain ⟨v1, v2, v3⟩ := hur
  refine Ok.of (by decide) rfl (Nat.le_of_ble_eq_true rfl) ?_
  refine Go.walk 400 [] E18 E18_ok (fun G C hG hC => ?_)
  (repeat ((conv => whnf); first | refine ⟨_, by assumption, ?_⟩ | refine ⟨_, _, by assumption, ?_⟩ | refine ⟨(show _ ∧ _ by omega), ?_⟩ | refine ⟨(show _ ∨ _ by omega), ?_⟩ | refine ⟨fun h => absurd h (by decide), fun _ => ?_⟩ | refine ⟨fun _ => ?_, fun h => absurd h (by decide)⟩ | refine ⟨fun _ => ?_, fun h => absurd rfl h⟩ | refine ⟨fun h => absurd rfl h, fun _ => ?_⟩)); try (conv => whnf)
  rw [u1]
  refine ⟨fun q => ?_, fun q => ?_⟩
  · (repeat ((conv => whnf); first | refine ⟨_, by assumption, ?_⟩ | refine ⟨_, _, by assumption, ?_⟩ | refine ⟨(show _ ∧ _ by omega), ?_⟩ | refine ⟨(show _ ∨ _ by omega), ?_⟩ | refine ⟨fun h => absurd h (by decide), fun _ => ?_⟩ | refine ⟨fun _ => ?_, fun h => absurd h (by decide)⟩ | refine ⟨fun _ => ?_, fun h => absurd rfl h⟩ | refine ⟨fun h => absurd rfl h, fun _ => ?_⟩)); try (conv => whnf)
    exact h1 (Or.inl q)
  · (repeat ((conv => whnf); first | refine ⟨_, by assumption, ?_⟩ | refine ⟨_, _, by assumption, ?_⟩ | refine ⟨(show _ ∧ _ by omega), ?_⟩ | refine ⟨(show _ ∨ _ by omega), ?_⟩ | refine ⟨fun h => absurd h (by decide), fun _ => ?_⟩ | refine ⟨fun _ => ?_, fun h => absurd h (by decide)⟩ | refine ⟨fun _ => ?_, fun h => absurd rfl h⟩ | refine ⟨fun h => absurd rfl h, fun _ => ?_⟩)); try (conv => whnf)
    rw [u1]
    refine ⟨fun q2 => ?_, fun q2 => ?_⟩
    · (repeat ((conv => whnf); first | refine ⟨_, by assumption, ?_⟩ | refine ⟨_, _, by assumption, ?_⟩ | refine ⟨(show _ ∧ _ by omega), ?_⟩ | refine ⟨(show _ ∨ _ by omega), ?_⟩ | refine ⟨fun h => absurd h (by decide), fun _ => ?_⟩ | refine ⟨fun _ => ?_, fun h => absurd h (by decide)⟩ | refine ⟨fun _ => ?_, fun h => absurd rfl h⟩ | refine ⟨fun h => absurd rfl h, fun _ => ?_⟩)); try (conv => whnf)
      exact h0 (by omega)
    · (repeat ((conv => whnf); first | refine ⟨_, by assumption, ?_⟩ | refine ⟨_, _, by assumption, ?_⟩ | refine ⟨(show _ ∧ _ by omega), ?_⟩ | refine ⟨(show _ ∨ _ by omega), ?_⟩ | refine ⟨fun h => absurd h (by decide), fun _ => ?_⟩ | refine ⟨fun _ => ?_, fun h => absurd h (by decide)⟩ | refine ⟨fun _ => ?_, fun h => absurd rfl h⟩ | refine ⟨fun h => absurd rfl h, fun _ => ?_⟩)); try (conv => whnf)
      rw [u3]
      refine ⟨fun q3 => ?_, fun q3 => ?_⟩
      · (repeat ((conv => whnf); first | refine ⟨_, by assumption, ?_⟩ | refine ⟨_, _, by assumption, ?_⟩ | refine ⟨(show _ ∧ _ by omega), ?_⟩ | refine ⟨(show _ ∨ _ by omega), ?_⟩ | refine ⟨fun h => absurd h (by decide), fun _ => ?_⟩ | refine ⟨fun _ => ?_, fun h => absurd h (by decide)⟩ | refine ⟨fun _ => ?_, fun h => absurd rfl h⟩ | refine ⟨fun h => absurd rfl h, fun _ => ?_⟩)); try (conv => whnf)
        exact h0 (by omega)
      · (repeat ((conv => whnf); first | refine ⟨_, by assumption, ?_⟩ | refine ⟨_, _, by assumption, ?_⟩ | refine ⟨(show _ ∧ _ by omega), ?_⟩ | refine ⟨(show _ ∨ _ by omega), ?_⟩ | refine ⟨fun h => absurd h (by decide), fun _ => ?_⟩ | refine ⟨fun _ => ?_, fun h => absurd h (by decide)⟩ | refine ⟨fun _ => ?_, fun h => absurd rfl h⟩ | refine ⟨fun h => absurd rfl h, fun _ => ?_⟩)); try (conv => whnf)
        exact h1 (by omega)
/-- dropBeaten(from, slack, cost) -/
theorem ok_dropBeaten {P : aP} {d : Nat} {K : aK} {I : aI} {R : aR} {S : aS} {f x y z len : Nat} {s c : Int} {A B : List aT} (hS : F1 R S f x y z len) (hD : D4 f x y z) (hl : len ≤ 1024) (hsz : I f 0 = A.length + B.length) (hlen : A.length + B.length ≤ len) (hA : Hk I x y z 0 A) (hB : Hk I x y z A.length B) (hr : ∀ t ∈ B, tR t) (hs : iR s) (hc : iR c)
    (hK : ∀ I', Fr [f, x, y, z] I I' → I' f 0 = A.length + (B.filter (fun u => decide (u.2.2 < c ∨ s < u.2.1))).length → Hk I' x y z 0 (A ++ B.filter (fun u => decide (u.2.2 < c ∨ s < u.2.1))) → K none I' R S) : Ok P 19 (d + 1) [vr f, vi A.length, vi s, vi c] I R S K := by
  obtain ⟨s0, r1, s1, r2, s2, r3, s3⟩ := id hS
  obtain ⟨d1, d2, d3, d4, d5, d6⟩ := id hD
  have loop : ∀ (T Q : List aT) (I' : aI) (i : Int), (∀ t ∈ T, tR t) → Fr [f, x, y, z] I I' → I' f = I f → Q.length ≤ i → i + T.length = A.length + B.length → Hk I' x y z 0 Q → Hk I' x y z i T → (Q ++ T.filter (fun u => decide (u.2.2 < c ∨ s < u.2.1))) = (A ++ B.filter (fun u => decide (u.2.2 < c ∨ s < u.2.1))) → Go P 19 (d + 1) K 6 [vr f, vi A.length, vi s, vi c, vi Q.length, vi i] [] I' R S := by
    intro T
    induction T with
    | nil =>
      intro Q I' i hT hF hff hle hi hQ hT2 he
      have e0 : I' f ((0 : Nat) : Int) = A.length + B.length := by rw [hff]; exact hsz
      rw [List.filter_nil, List.append_nil] at he
      rw [List.length_nil] at hi
      refine Go.walk 400 [6] E19 E19_ok (fun G C hG hC => ?_)
      (repeat ((conv => whnf); first | refine ⟨_, by assumption, ?_⟩ | refine ⟨_, _, by assumption, ?_⟩ | refine ⟨(show _ ∧ _ by omega), ?_⟩ | refine ⟨(show _ ∨ _ by omega), ?_⟩ | refine ⟨fun h => absurd h (by decide), fun _ => ?_⟩ | refine ⟨fun _ => ?_, fun h => absurd h (by decide)⟩ | refine ⟨fun _ => ?_, fun h => absurd rfl h⟩ | refine ⟨fun h => absurd rfl h, fun _ => ?_⟩)); try (conv => whnf)
      rw [e0]
      refine ⟨fun _ => ?_, fun q => absurd (show (A.length : Int) + B.length ≤ i by omega) q⟩
      (repeat ((conv => whnf); first | refine ⟨_, by assumption, ?_⟩ | refine ⟨_, _, by assumption, ?_⟩ | refine ⟨(show _ ∧ _ by omega), ?_⟩ | refine ⟨(show _ ∨ _ by omega), ?_⟩ | refine ⟨fun h => absurd h (by decide), fun _ => ?_⟩ | refine ⟨fun _ => ?_, fun h => absurd h (by decide)⟩ | refine ⟨fun _ => ?_, fun h => absurd rfl h⟩ | refine ⟨fun h => absurd rfl h, fun _ => ?_⟩)); try (conv => whnf)
      refine hK _ (hF.put (by simp)) ?_ ?_
      · refine uI_at.trans ?_
        have := congrArg List.length he
        rw [List.length_append] at this
        omega
      · rw [← he]
        exact hQ.cg (by funext k; exact uI_ne (fun e => d1 e.1.symm)) (by funext k; exact uI_ne (fun e => d2 e.1.symm)) (by funext k; exact uI_ne (fun e => d3 e.1.symm))
    | cons u T ih =>
      intro Q I' i hT hF hff hle hi hQ hT2 he
      have e0 : I' f ((0 : Nat) : Int) = A.length + B.length := by rw [hff]; exact hsz
      obtain ⟨⟨u1, u2, u3⟩, hT3⟩ := hT2.cons
      obtain ⟨v1, v2, v3⟩ := hT u List.mem_cons_self
      have hT4 : ∀ t ∈ T, tR t := fun t h => hT t (List.mem_cons_of_mem _ h)
      rw [List.length_cons] at hi
      have keep : decide (u.2.2 < c ∨ s < u.2.1) = true → Go P 19 (d + 1) K 37 [vr f, vi A.length, vi s, vi c, vi Q.length, vi i] [] I' R S := by
        intro hd
        rw [List.filter_cons, if_pos hd, ← List.singleton_append, ← List.append_assoc] at he
        have y1 : uI I' x Q.length u.1 y i = u.2.1 := by rw [uI_ne (fun e => d4 e.1.symm)]; exact u2
        have y2 : uI (uI I' x Q.length u.1) y Q.length u.2.1 z i = u.2.2 := by rw [uI_ne (fun e => d6 e.1.symm), uI_ne (fun e => d5 e.1.symm)]; exact u3
        refine Go.walk 400 [6] E19 E19_ok (fun G C hG hC => ?_)
        (repeat ((conv => whnf); first | refine ⟨_, by assumption, ?_⟩ | refine ⟨_, _, by assumption, ?_⟩ | refine ⟨(show _ ∧ _ by omega), ?_⟩ | refine ⟨(show _ ∨ _ by omega), ?_⟩ | refine ⟨fun h => absurd h (by decide), fun _ => ?_⟩ | refine ⟨fun _ => ?_, fun h => absurd h (by decide)⟩ | refine ⟨fun _ => ?_, fun h => absurd rfl h⟩ | refine ⟨fun h => absurd rfl h, fun _ => ?_⟩)); try (conv => whnf)
        rw [u1, y1, y2]
        refine hG _ _ _ _ _ _ ?_
        have h := ih (Q ++ [u]) (u3g I' x y z Q.length u) (i + 1) hT4 (((hF.put (by simp)).put (by simp)).put (by simp)) (by
          rw [← hff]
          funext k
          show uI (uI (uI I' x Q.length u.1) y Q.length u.2.1) z Q.length u.2.2 f k = _
          rw [uI_ne (fun e => d3 e.1), uI_ne (fun e => d2 e.1), uI_ne (fun e => d1 e.1)]) (by rw [List.length_append, List.length_singleton]; omega) (by omega) (hQ.snoc d4 d5 d6 (by omega)) (hT3.put (Or.inl (by omega))) he
        rw [List.length_append, List.length_singleton] at h
        exact h
      have skip : decide (u.2.2 < c ∨ s < u.2.1) = false → Go P 19 (d + 1) K 82 [vr f, vi A.length, vi s, vi c, vi Q.length, vi i] [] I' R S := by
        intro hd
        rw [List.filter_cons, if_neg (by rw [hd]; exact Bool.false_ne_true)] at he
        refine Go.walk 400 [6] E19 E19_ok (fun G C hG hC => ?_)
        (repeat ((conv => whnf); first | refine ⟨_, by assumption, ?_⟩ | refine ⟨_, _, by assumption, ?_⟩ | refine ⟨(show _ ∧ _ by omega), ?_⟩ | refine ⟨(show _ ∨ _ by omega), ?_⟩ | refine ⟨fun h => absurd h (by decide), fun _ => ?_⟩ | refine ⟨fun _ => ?_, fun h => absurd h (by decide)⟩ | refine ⟨fun _ => ?_, fun h => absurd rfl h⟩ | refine ⟨fun h => absurd rfl h, fun _ => ?_⟩)); try (conv => whnf)
        refine hG _ _ _ _ _ _ ?_
        exact ih Q I' (i + 1) hT4 hF hff (by omega) (by omega) hQ hT3 he
      refine Go.walk 400 [6, 37, 82] E19 E19_ok (fun G C hG hC => ?_)
      (repeat ((conv => whnf); first | refine ⟨_, by assumption, ?_⟩ | refine ⟨_, _, by assumption, ?_⟩ | refine ⟨(show _ ∧ _ by omega), ?_⟩ | refine ⟨(show _ ∨ _ by omega), ?_⟩ | refine ⟨fun h => absurd h (by decide), fun _ => ?_⟩ | refine ⟨fun _ => ?_, fun h => absurd h (by decide)⟩ | refine ⟨fun _ => ?_, fun h => absurd rfl h⟩ | refine ⟨fun h => absurd rfl h, fun _ => ?_⟩)); try (conv => whnf)
      rw [e0]
      refine ⟨fun q => absurd q (by omega), fun _ => ?_⟩
      (repeat ((conv => whnf); first | refine ⟨_, by assumption, ?_⟩ | refine ⟨_, _, by assumption, ?_⟩ | refine ⟨(show _ ∧ _ by omega), ?_⟩ | refine ⟨(show _ ∨ _ by omega), ?_⟩ | refine ⟨fun h => absurd h (by decide), fun _ => ?_⟩ | refine ⟨fun _ => ?_, fun h => absurd h (by decide)⟩ | refine ⟨fun _ => ?_, fun h => absurd rfl h⟩ | refine ⟨fun h => absurd rfl h, fun _ => ?_⟩)); try (conv => whnf)
      rw [u3]
      refine ⟨fun q => ?_, fun q => ?_⟩
      · refine hG _ _ _ _ _ _ ?_
        exact keep (decide_eq_true (Or.inl q))
      · (repeat ((conv => whnf); first | refine ⟨_, by assumption, ?_⟩ | refine ⟨_, _, by assumption, ?_⟩ | refine ⟨(show _ ∧ _ by omega), ?_⟩ | refine ⟨(show _ ∨ _ by omega), ?_⟩ | refine ⟨fun h => absurd h (by decide), fun _ => ?_⟩ | refine ⟨fun _ => ?_, fun h => absurd h (by decide)⟩ | refine ⟨fun _ => ?_, fun h => absurd rfl h⟩ | refine ⟨fun h => absurd rfl h, fun _ => ?_⟩)); try (conv => whnf)
        rw [u2]
        refine ⟨fun q2 => ?_, fun q2 => ?_⟩
        · refine hG _ _ _ _ _ _ ?_
          exact skip (decide_eq_false (by omega))
        · refine hG _ _ _ _ _ _ ?_
          exact keep (decide_eq_true (by omega))
  refine Ok.of (by decide) rfl (Nat.le_of_ble_eq_true rfl) ?_
  refine Go.walk 400 [6] E19 E19_ok (fun G C hG hC => ?_)
  (repeat ((conv => whnf); first | refine ⟨_, by assumption, ?_⟩ | refine ⟨_, _, by assumption, ?_⟩ | refine ⟨(show _ ∧ _ by omega), ?_⟩ | refine ⟨(show _ ∨ _ by omega), ?_⟩ | refine ⟨fun h => absurd h (by decide), fun _ => ?_⟩ | refine ⟨fun _ => ?_, fun h => absurd h (by decide)⟩ | refine ⟨fun _ => ?_, fun h => absurd rfl h⟩ | refine ⟨fun h => absurd rfl h, fun _ => ?_⟩)); try (conv => whnf)
  refine hG _ _ _ _ _ _ ?_
  exact loop B A I A.length hr Fr.rf rfl (Int.le_refl _) rfl hA hB rfl
theorem cI_at1 {I : aI} {a t : Nat} {sp dp n k : Int} (h : dp ≤ k ∧ k < dp + n) : cI I a sp t dp n t k = I a (sp + (k - dp)) := by
  show (if _ then _ else _) = _
  rw [if_pos ⟨rfl, h.1, h.2⟩]
theorem cI_ne1 {I : aI} {a t b : Nat} {sp dp n k : Int} (h : ¬ (b = t ∧ dp ≤ k ∧ k < dp + n)) : cI I a sp t dp n b k = I b k := by
  show (if _ then _ else _) = _
  rw [if_neg h]
/-- one row, a stretch moved by one and a number put in front of it -/
theorem ins_row {I : aI} {x : Nat} {m k : Int} (v : Int → Int) {w : Int} {q : Nat} (hk : 0 ≤ k) (hm : k ≤ m) (hq : 0 ≤ (q : Int)) : uI (cI I x k x (k + 1) (m - k)) x k w x q = if (q : Int) < k then I x q else if (q : Int) = k then w else if (q : Int) ≤ m then I x (q - 1) else I x q := by
  by_cases h1 : (q : Int) < k
  · rw [if_pos h1, uI_ne (by omega), cI_ne1 (by omega)]
  · rw [if_neg h1]
    by_cases h2 : (q : Int) = k
    · rw [if_pos h2, h2, uI_at]
    · rw [if_neg h2, uI_ne (by omega)]
      by_cases h3 : (q : Int) ≤ m
      · rw [if_pos h3, cI_at1 (by omega)]
        congr 1
        omega
      · rw [if_neg h3, cI_ne1 (by omega)]
/-- insert(spot, shows, slack, cost) -/
theorem ok_insert {P : aP} {d : Nat} {K : aK} {I : aI} {R : aR} {S : aS} {f x y z len : Nat} {t : aT} {A B : List aT} (hS : F1 R S f x y z len) (hD : D4 f x y z) (hl : len ≤ 1024) (hsz : I f 0 = A.length + B.length) (hlen : A.length + B.length < len) (hA : Hk I x y z 0 (A ++ B))
    (hK : ∀ I', Fr [f, x, y, z] I I' → I' f 0 = A.length + B.length + 1 → Hk I' x y z 0 (A ++ t :: B) → K none I' R S) : Ok P 20 (d + 1) [vr f, vi A.length, vi t.1, vi t.2.1, vi t.2.2] I R S K := by
  obtain ⟨s0, r1, s1, r2, s2, r3, s3⟩ := id hS
  obtain ⟨d1, d2, d3, d4, d5, d6⟩ := id hD
  have e0 : I f ((0 : Nat) : Int) = A.length + B.length := hsz
  have e1 : cI I x A.length x (A.length + 1) (A.length + B.length - A.length) f ((0 : Nat) : Int) = A.length + B.length := by rw [cI_ne1 (fun e => d1 e.1)]; exact hsz
  have e2 : cI (cI I x A.length x (A.length + 1) (A.length + B.length - A.length)) y A.length y (A.length + 1) (A.length + B.length - A.length) f ((0 : Nat) : Int) = A.length + B.length := by rw [cI_ne1 (fun e => d2 e.1)]; exact e1
  have e3 : uI (uI (uI (cI (cI (cI I x A.length x (A.length + 1) (A.length + B.length - A.length)) y A.length y (A.length + 1) (A.length + B.length - A.length)) z A.length z (A.length + 1) (A.length + B.length - A.length)) x A.length t.1) y A.length t.2.1) z A.length t.2.2 f ((0 : Nat) : Int) = A.length + B.length := by
    rw [uI_ne (fun e => d3 e.1), uI_ne (fun e => d2 e.1), uI_ne (fun e => d1 e.1), cI_ne1 (fun e => d3 e.1)]; exact e2
  refine Ok.of (by decide) rfl (Nat.le_of_ble_eq_true rfl) ?_
  refine Go.walk 400 [] E20 E20_ok (fun G C hG hC => ?_)
  (repeat ((conv => whnf); first | refine ⟨_, by assumption, ?_⟩ | refine ⟨_, _, by assumption, ?_⟩ | refine ⟨(show _ ∧ _ by omega), ?_⟩ | refine ⟨(show _ ∨ _ by omega), ?_⟩ | refine ⟨fun h => absurd h (by decide), fun _ => ?_⟩ | refine ⟨fun _ => ?_, fun h => absurd h (by decide)⟩ | refine ⟨fun _ => ?_, fun h => absurd rfl h⟩ | refine ⟨fun h => absurd rfl h, fun _ => ?_⟩)); try (conv => whnf)
  rw [e0]
  refine ⟨len, len, s1, s1, by omega, ?_⟩
  (repeat ((conv => whnf); first | refine ⟨_, by assumption, ?_⟩ | refine ⟨_, _, by assumption, ?_⟩ | refine ⟨(show _ ∧ _ by omega), ?_⟩ | refine ⟨(show _ ∨ _ by omega), ?_⟩ | refine ⟨fun h => absurd h (by decide), fun _ => ?_⟩ | refine ⟨fun _ => ?_, fun h => absurd h (by decide)⟩ | refine ⟨fun _ => ?_, fun h => absurd rfl h⟩ | refine ⟨fun h => absurd rfl h, fun _ => ?_⟩)); try (conv => whnf)
  rw [e1]
  refine ⟨len, len, s2, s2, by omega, ?_⟩
  (repeat ((conv => whnf); first | refine ⟨_, by assumption, ?_⟩ | refine ⟨_, _, by assumption, ?_⟩ | refine ⟨(show _ ∧ _ by omega), ?_⟩ | refine ⟨(show _ ∨ _ by omega), ?_⟩ | refine ⟨fun h => absurd h (by decide), fun _ => ?_⟩ | refine ⟨fun _ => ?_, fun h => absurd h (by decide)⟩ | refine ⟨fun _ => ?_, fun h => absurd rfl h⟩ | refine ⟨fun h => absurd rfl h, fun _ => ?_⟩)); try (conv => whnf)
  rw [e2]
  refine ⟨len, len, s3, s3, by omega, ?_⟩
  (repeat ((conv => whnf); first | refine ⟨_, by assumption, ?_⟩ | refine ⟨_, _, by assumption, ?_⟩ | refine ⟨(show _ ∧ _ by omega), ?_⟩ | refine ⟨(show _ ∨ _ by omega), ?_⟩ | refine ⟨fun h => absurd h (by decide), fun _ => ?_⟩ | refine ⟨fun _ => ?_, fun h => absurd h (by decide)⟩ | refine ⟨fun _ => ?_, fun h => absurd rfl h⟩ | refine ⟨fun h => absurd rfl h, fun _ => ?_⟩)); try (conv => whnf)
  rw [e3]
  refine hK _ ?_ uI_at ?_
  · intro a ha
    simp only [List.mem_cons, List.not_mem_nil, or_false, not_or] at ha
    obtain ⟨a1, a2, a3, a4⟩ := ha
    funext k
    rw [uI_ne (fun e => a1 e.1), uI_ne (fun e => a4 e.1), uI_ne (fun e => a3 e.1), uI_ne (fun e => a2 e.1), cI_ne1 (fun e => a4 e.1), cI_ne1 (fun e => a3 e.1), cI_ne1 (fun e => a2 e.1)]
  · intro i w hw
    have hx : ∀ k : Int, uI (uI (uI (uI (cI (cI (cI I x A.length x (A.length + 1) (A.length + B.length - A.length)) y A.length y (A.length + 1) (A.length + B.length - A.length)) z A.length z (A.length + 1) (A.length + B.length - A.length)) x A.length t.1) y A.length t.2.1) z A.length t.2.2) f ((0 : Nat) : Int) (A.length + B.length + 1) x k = uI (cI I x A.length x (A.length + 1) (A.length + B.length - A.length)) x A.length t.1 x k := by
      intro k
      rw [uI_ne (fun e => d1 e.1.symm), uI_ne (fun e => d5 e.1), uI_ne (fun e => d4 e.1)]
      by_cases q : k = A.length
      · rw [q, uI_at, uI_at]
      · rw [uI_ne (fun e => q e.2), uI_ne (fun e => q e.2), cI_ne1 (fun e => d5 e.1), cI_ne1 (fun e => d4 e.1)]
    have hy : ∀ k : Int, uI (uI (uI (uI (cI (cI (cI I x A.length x (A.length + 1) (A.length + B.length - A.length)) y A.length y (A.length + 1) (A.length + B.length - A.length)) z A.length z (A.length + 1) (A.length + B.length - A.length)) x A.length t.1) y A.length t.2.1) z A.length t.2.2) f ((0 : Nat) : Int) (A.length + B.length + 1) y k = uI (cI I y A.length y (A.length + 1) (A.length + B.length - A.length)) y A.length t.2.1 y k := by
      intro k
      rw [uI_ne (fun e => d2 e.1.symm), uI_ne (fun e => d6 e.1)]
      by_cases q : k = A.length
      · rw [q, uI_at, uI_at]
      · rw [uI_ne (fun e => q e.2), uI_ne (fun e => d4 e.1.symm), uI_ne (fun e => q e.2), cI_ne1 (fun e => d6 e.1)]
        by_cases g : (A.length : Int) + 1 ≤ k ∧ k < (A.length : Int) + 1 + (A.length + B.length - A.length)
        · rw [cI_at1 g, cI_at1 g, cI_ne1 (fun e => d4 e.1.symm)]
        · rw [cI_ne1 (fun e => g e.2), cI_ne1 (fun e => g e.2), cI_ne1 (fun e => g e.2)]
    have hz : ∀ k : Int, uI (uI (uI (uI (cI (cI (cI I x A.length x (A.length + 1) (A.length + B.length - A.length)) y A.length y (A.length + 1) (A.length + B.length - A.length)) z A.length z (A.length + 1) (A.length + B.length - A.length)) x A.length t.1) y A.length t.2.1) z A.length t.2.2) f ((0 : Nat) : Int) (A.length + B.length + 1) z k = uI (cI I z A.length z (A.length + 1) (A.length + B.length - A.length)) z A.length t.2.2 z k := by
      intro k
      rw [uI_ne (fun e => d3 e.1.symm)]
      by_cases q : k = A.length
      · rw [q, uI_at, uI_at]
      · rw [uI_ne (fun e => q e.2), uI_ne (fun e => d6 e.1.symm), uI_ne (fun e => d5 e.1.symm), uI_ne (fun e => q e.2)]
        by_cases g : (A.length : Int) + 1 ≤ k ∧ k < (A.length : Int) + 1 + (A.length + B.length - A.length)
        · rw [cI_at1 g, cI_at1 g, cI_ne1 (fun e => d6 e.1.symm), cI_ne1 (fun e => d5 e.1.symm)]
        · rw [cI_ne1 (fun e => g e.2), cI_ne1 (fun e => g e.2), cI_ne1 (fun e => g e.2), cI_ne1 (fun e => g e.2)]
    rw [show (0 : Int) + (i : Nat) = (i : Nat) by omega, hx, hy, hz, ins_row (fun _ => 0) (by omega) (by omega) (by omega), ins_row (fun _ => 0) (by omega) (by omega) (by omega), ins_row (fun _ => 0) (by omega) (by omega) (by omega)]
    by_cases g1 : i < A.length
    · have c1 : (i : Int) < A.length := by omega
      rw [if_pos c1, if_pos c1, if_pos c1]
      rw [List.getElem?_append_left g1] at hw
      have := hA i w (by rw [List.getElem?_append_left g1]; exact hw)
      rw [show (0 : Int) + (i : Nat) = (i : Nat) by omega] at this
      exact this
    · have c1 : ¬ (i : Int) < A.length := by omega
      rw [if_neg c1, if_neg c1, if_neg c1]
      rw [List.getElem?_append_right (by omega)] at hw
      by_cases g2 : i = A.length
      · have c2 : (i : Int) = A.length := by omega
        rw [if_pos c2, if_pos c2, if_pos c2]
        rw [g2, Nat.sub_self] at hw
        cases hw
        exact ⟨rfl, rfl, rfl⟩
      · have c2 : ¬ (i : Int) = A.length := by omega
        rw [if_neg c2, if_neg c2, if_neg c2]
        obtain ⟨j, hj⟩ : ∃ j, i - A.length = j + 1 := ⟨i - A.length - 1, by omega⟩
        rw [hj, List.getElem?_cons_succ] at hw
        have hjl := (List.getElem?_eq_some_iff.mp hw).1
        have c3 : (i : Int) ≤ A.length + B.length := by omega
        rw [if_pos c3, if_pos c3, if_pos c3]
        have := hA (A.length + j) w (by rw [List.getElem?_append_right (by omega), Nat.add_sub_cancel_left]; exact hw)
        rw [show (0 : Int) + ((A.length + j : Nat) : Int) = (i : Int) - 1 by omega] at this
        exact this
