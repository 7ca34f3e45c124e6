/-! the reference: what is kept ahead of a deed; the deeds -/
def up (n : aN) (j z : Int) : aN := fun k => if k = j then z else n k
def st (n : aN) (v w z : Int) : aN := up n (20 + 8 * v + w) z
def sk (n : aN) (k w z : Int) : aN := up n (2 + 6 * (k - 1) + w) z
theorem uI_up {I : aI} {j z : Int} {a : Nat} : uI I a j z a = up (I a) j z := by
  funext k
  simp [uI, up]
theorem up_at {n : aN} {j z : Int} : up n j z j = z := by simp [up]
theorem up_ne {n : aN} {j k z : Int} (h : k ≠ j) : up n j z k = n k := by simp [up, h]
/-- what is kept of the past: the latest is the last -/
def HistM (I : aI) (h : List aN) : Prop := I 361 3 = h.length ∧ h.length ≤ 16 ∧ ∀ (j : Nat) (m : aN), h[j]? = some m → ∀ k, 0 ≤ k → k < 68 → I 363 (68 * j + k) = m k
def pushH (h : List aN) (n : aN) : List aN := (if h.length = 16 then h.tail else h) ++ [n]
theorem HistM.of {I I' : aI} {h : List aN} (hh : HistM I h) (h1 : I' 361 3 = I 361 3) (h2 : I' 363 = I 363) : HistM I' h := ⟨h1.trans hh.1, hh.2.1, fun j m hj k g1 g2 => by rw [h2]; exact hh.2.2 j m hj k g1 g2⟩
/-- deed() -/
theorem ok_deed {P : aP} {d : Nat} {K : aK} {I : aI} {R : aR} {S : aS} {h : List aN} (hM : MS R S) (hH : HistM I h) (hK : ∀ I', MF [363] [3] I I' → HistM I' (pushH h (I 362)) → K none I' R S) : Ok P 116 (d + 1) [vr 361] I R S K := by
  obtain ⟨m0, r1, m1, r2, m2, r3, m3, r4, m4, r5, m5, r6, m6, r7, m7, r8, m8, r9, m9, r10, m10, r11, m11, r12, m12, r13, m13, r14, m14, r15, m15⟩ := id hM
  obtain ⟨hk, hl, hb⟩ := hH
  -- the row is written
  have copy : ∀ (g : List aN), g.length < 16 → pushH h (I 362) = g ++ [I 362] → ∀ (m : Nat) (k : Int) (I' : aI), 0 ≤ k → 68 - k = m → MF [363] [3] I I' → I' 361 3 = g.length → (∀ (j : Nat) (q : aN), g[j]? = some q → ∀ x : Int, 0 ≤ x → x < 68 → I' 363 (68 * j + x) = q x) → (∀ x : Int, 0 ≤ x → x < k → I' 363 (68 * g.length + x) = I 362 x) → Go P 116 (d + 1) K 51 [vr 361, vi k] [] I' R S := by
    intro g hg hpu m
    induction m with
    | zero =>
      intro k I' h0 hm hF h3 hB hCo
      have h3' : I' 361 ((3 : Nat) : Int) = g.length := h3
      refine Go.walk 400 [51] E116 E116_ok (fun G C hG hC => ?_)
      (repeat ((conv => whnf); first | refine ⟨_, by assumption, ?_⟩ | refine ⟨_, _, by assumption, ?_⟩ | refine ⟨(show _ ∧ _ by omega), ?_⟩ | refine ⟨(show _ ∨ _ by omega), ?_⟩ | refine ⟨fun h => absurd h (by decide), fun _ => ?_⟩ | refine ⟨fun _ => ?_, fun h => absurd h (by decide)⟩ | refine ⟨fun _ => ?_, fun h => absurd rfl h⟩ | refine ⟨fun h => absurd rfl h, fun _ => ?_⟩)); try (conv => whnf)
      refine ⟨fun _ => ?_, fun q => absurd (show (68 : Int) ≤ k by omega) q⟩
      (repeat ((conv => whnf); first | refine ⟨_, by assumption, ?_⟩ | refine ⟨_, _, by assumption, ?_⟩ | refine ⟨(show _ ∧ _ by omega), ?_⟩ | refine ⟨(show _ ∨ _ by omega), ?_⟩ | refine ⟨fun h => absurd h (by decide), fun _ => ?_⟩ | refine ⟨fun _ => ?_, fun h => absurd h (by decide)⟩ | refine ⟨fun _ => ?_, fun h => absurd rfl h⟩ | refine ⟨fun h => absurd rfl h, fun _ => ?_⟩)); try (conv => whnf)
      refine hK (uI I' 361 3 (I' 361 3 + 1)) (hF.putF (by decide)) ?_
      rw [hpu]
      refine ⟨by rw [uI_at, List.length_append, List.length_singleton]; omega, by rw [List.length_append, List.length_singleton]; omega, fun j q hj x g1 g2 => ?_⟩
      rw [uI_ne (by omega)]
      by_cases hj2 : j < g.length
      · rw [List.getElem?_append_left hj2] at hj
        exact hB j q hj x g1 g2
      · have hz := (List.getElem?_eq_some_iff.mp hj).1
        rw [List.length_append, List.length_singleton] at hz
        have e : j = g.length := by omega
        subst e
        rw [List.getElem?_append_right (Nat.le_refl _), Nat.sub_self] at hj
        cases hj
        exact hCo x g1 (by omega)
    | succ m ih =>
      intro k I' h0 hm hF h3 hB hCo
      have h3' : I' 361 ((3 : Nat) : Int) = g.length := h3
      have e2 : I' 362 = I 362 := hF.1 362 (by decide)
      refine Go.walk 400 [51] E116 E116_ok (fun G C hG hC => ?_)
      (repeat ((conv => whnf); first | refine ⟨_, by assumption, ?_⟩ | refine ⟨_, _, by assumption, ?_⟩ | refine ⟨(show _ ∧ _ by omega), ?_⟩ | refine ⟨(show _ ∨ _ by omega), ?_⟩ | refine ⟨fun h => absurd h (by decide), fun _ => ?_⟩ | refine ⟨fun _ => ?_, fun h => absurd h (by decide)⟩ | refine ⟨fun _ => ?_, fun h => absurd rfl h⟩ | refine ⟨fun h => absurd rfl h, fun _ => ?_⟩)); try (conv => whnf)
      refine ⟨fun q => absurd q (by omega), fun _ => ?_⟩
      (repeat ((conv => whnf); first | refine ⟨_, by assumption, ?_⟩ | refine ⟨_, _, by assumption, ?_⟩ | refine ⟨(show _ ∧ _ by omega), ?_⟩ | refine ⟨(show _ ∨ _ by omega), ?_⟩ | refine ⟨fun h => absurd h (by decide), fun _ => ?_⟩ | refine ⟨fun _ => ?_, fun h => absurd h (by decide)⟩ | refine ⟨fun _ => ?_, fun h => absurd rfl h⟩ | refine ⟨fun h => absurd rfl h, fun _ => ?_⟩)); try (conv => whnf)
      refine hG _ _ _ _ _ _ ?_
      rw [h3', e2]
      refine ih (k + 1) _ (by omega) (by omega) (hF.put (by decide) (by decide)) (by rw [uI_ne (by omega)]; exact h3) (fun j q hj x g1 g2 => ?_) (fun x g1 g2 => ?_)
      · have hj2 := (List.getElem?_eq_some_iff.mp hj).1
        rw [uI_ne (by omega)]
        exact hB j q hj x g1 g2
      · by_cases hx : x = k
        · subst hx; exact uI_at
        · rw [uI_ne (by omega)]
          exact hCo x g1 (by omega)
  have shift : h.length = 16 → ∀ (m : Nat) (k : Int) (I' : aI), 0 ≤ k → 1020 - k = m → MF [363] [3] I I' → I' 361 3 = 16 → (∀ x : Int, 0 ≤ x → x < k → I' 363 x = I 363 (x + 68)) → (∀ x : Int, k ≤ x → I' 363 x = I 363 x) → Go P 116 (d + 1) K 11 [vr 361, vi k] [] I' R S := by
    intro h16 m
    induction m with
    | zero =>
      intro k I' h0 hm hF h3 hB hCo
      have h3' : I' 361 ((3 : Nat) : Int) = 16 := h3
      refine Go.walk 400 [11, 51] E116 E116_ok (fun G C hG hC => ?_)
      (repeat ((conv => whnf); first | refine ⟨_, by assumption, ?_⟩ | refine ⟨_, _, by assumption, ?_⟩ | refine ⟨(show _ ∧ _ by omega), ?_⟩ | refine ⟨(show _ ∨ _ by omega), ?_⟩ | refine ⟨fun h => absurd h (by decide), fun _ => ?_⟩ | refine ⟨fun _ => ?_, fun h => absurd h (by decide)⟩ | refine ⟨fun _ => ?_, fun h => absurd rfl h⟩ | refine ⟨fun h => absurd rfl h, fun _ => ?_⟩)); try (conv => whnf)
      refine ⟨fun _ => ?_, fun q => absurd (show (1020 : Int) ≤ k by omega) q⟩
      (repeat ((conv => whnf); first | refine ⟨_, by assumption, ?_⟩ | refine ⟨_, _, by assumption, ?_⟩ | refine ⟨(show _ ∧ _ by omega), ?_⟩ | refine ⟨(show _ ∨ _ by omega), ?_⟩ | refine ⟨fun h => absurd h (by decide), fun _ => ?_⟩ | refine ⟨fun _ => ?_, fun h => absurd h (by decide)⟩ | refine ⟨fun _ => ?_, fun h => absurd rfl h⟩ | refine ⟨fun h => absurd rfl h, fun _ => ?_⟩)); try (conv => whnf)
      refine hG _ _ _ _ _ _ ?_
      have ht : h.tail.length = 15 := by rw [List.length_tail]; omega
      refine copy h.tail (by omega) (by rw [pushH, if_pos h16]) 68 0 (uI I' 361 3 (I' 361 3 - 1)) (by omega) (by omega) (hF.putF (by decide)) (by rw [uI_at, ht]; omega) (fun j q hj x g1 g2 => ?_) (fun x g1 g2 => absurd g2 (by omega))
      have hj2 := (List.getElem?_eq_some_iff.mp hj).1
      rw [uI_ne (by omega), hB _ (by omega) (by omega)]
      rw [List.getElem?_tail] at hj
      have := hb (j + 1) q hj x g1 g2
      rw [show 68 * (j : Int) + x + 68 = 68 * ((j + 1 : Nat) : Int) + x by omega]
      exact this
    | succ m ih =>
      intro k I' h0 hm hF h3 hB hCo
      refine Go.walk 400 [11, 51] E116 E116_ok (fun G C hG hC => ?_)
      (repeat ((conv => whnf); first | refine ⟨_, by assumption, ?_⟩ | refine ⟨_, _, by assumption, ?_⟩ | refine ⟨(show _ ∧ _ by omega), ?_⟩ | refine ⟨(show _ ∨ _ by omega), ?_⟩ | refine ⟨fun h => absurd h (by decide), fun _ => ?_⟩ | refine ⟨fun _ => ?_, fun h => absurd h (by decide)⟩ | refine ⟨fun _ => ?_, fun h => absurd rfl h⟩ | refine ⟨fun h => absurd rfl h, fun _ => ?_⟩)); try (conv => whnf)
      refine ⟨fun q => absurd q (by omega), fun _ => ?_⟩
      (repeat ((conv => whnf); first | refine ⟨_, by assumption, ?_⟩ | refine ⟨_, _, by assumption, ?_⟩ | refine ⟨(show _ ∧ _ by omega), ?_⟩ | refine ⟨(show _ ∨ _ by omega), ?_⟩ | refine ⟨fun h => absurd h (by decide), fun _ => ?_⟩ | refine ⟨fun _ => ?_, fun h => absurd h (by decide)⟩ | refine ⟨fun _ => ?_, fun h => absurd rfl h⟩ | refine ⟨fun h => absurd rfl h, fun _ => ?_⟩)); try (conv => whnf)
      refine hG _ _ _ _ _ _ ?_
      refine ih (k + 1) _ (by omega) (by omega) (hF.put (by decide) (by decide)) (by rw [uI_ne (by omega)]; exact h3) (fun x g1 g2 => ?_) (fun x g1 => ?_)
      · by_cases hx : x = k
        · subst hx
          rw [uI_at, hCo _ (by omega)]
        · rw [uI_ne (by omega)]
          exact hB x g1 (by omega)
      · rw [uI_ne (by omega)]
        exact hCo x (by omega)
  have hk' : I 361 ((3 : Nat) : Int) = h.length := hk
  refine Ok.of (by decide) rfl (Nat.le_of_ble_eq_true rfl) ?_
  refine Go.walk 400 [11, 51] E116 E116_ok (fun G C hG hC => ?_)
  (repeat ((conv => whnf); first | refine ⟨_, by assumption, ?_⟩ | refine ⟨_, _, by assumption, ?_⟩ | refine ⟨(show _ ∧ _ by omega), ?_⟩ | refine ⟨(show _ ∨ _ by omega), ?_⟩ | refine ⟨fun h => absurd h (by decide), fun _ => ?_⟩ | refine ⟨fun _ => ?_, fun h => absurd h (by decide)⟩ | refine ⟨fun _ => ?_, fun h => absurd rfl h⟩ | refine ⟨fun h => absurd rfl h, fun _ => ?_⟩)); try (conv => whnf)
  refine ⟨fun hne => ?_, fun heq => ?_⟩
  · (repeat ((conv => whnf); first | refine ⟨_, by assumption, ?_⟩ | refine ⟨_, _, by assumption, ?_⟩ | refine ⟨(show _ ∧ _ by omega), ?_⟩ | refine ⟨(show _ ∨ _ by omega), ?_⟩ | refine ⟨fun h => absurd h (by decide), fun _ => ?_⟩ | refine ⟨fun _ => ?_, fun h => absurd h (by decide)⟩ | refine ⟨fun _ => ?_, fun h => absurd rfl h⟩ | refine ⟨fun h => absurd rfl h, fun _ => ?_⟩)); try (conv => whnf)
    refine hG _ _ _ _ _ _ ?_
    exact copy h (by omega) (by rw [pushH, if_neg (by omega)]) 68 0 I (by omega) (by omega) MF.rf hk hb (fun x g1 g2 => absurd g2 (by omega))
  · (repeat ((conv => whnf); first | refine ⟨_, by assumption, ?_⟩ | refine ⟨_, _, by assumption, ?_⟩ | refine ⟨(show _ ∧ _ by omega), ?_⟩ | refine ⟨(show _ ∨ _ by omega), ?_⟩ | refine ⟨fun h => absurd h (by decide), fun _ => ?_⟩ | refine ⟨fun _ => ?_, fun h => absurd h (by decide)⟩ | refine ⟨fun _ => ?_, fun h => absurd rfl h⟩ | refine ⟨fun h => absurd rfl h, fun _ => ?_⟩)); try (conv => whnf)
    refine hG _ _ _ _ _ _ ?_
    exact shift (by omega) 1020 0 I (by omega) (by omega) MF.rf (by omega) (fun x g1 g2 => absurd g2 (by omega)) (fun _ _ => rfl)
/-- sets(v, what, value) -/
theorem ok_sets {P : aP} {d : Nat} {K : aK} {I : aI} {R : aR} {S : aS} {v w z : Int} (hM : MS R S) (hb : 0 ≤ v ∧ v < 6 ∧ 0 ≤ w ∧ w < 8) (h1 : K none (uI I 362 (20 + 8 * v + w) z) R S) : Ok P 117 (d + 1) [vr 361, vi v, vi w, vi z] I R S K := by
  obtain ⟨m0, r1, m1, r2, m2, r3, m3, r4, m4, r5, m5, r6, m6, r7, m7, r8, m8, r9, m9, r10, m10, r11, m11, r12, m12, r13, m13, r14, m14, r15, m15⟩ := id hM
  refine Ok.of (by decide) rfl (Nat.le_of_ble_eq_true rfl) ?_
  refine Go.walk 400 [] E117 E117_ok (fun G C hG hC => ?_)
  (repeat ((conv => whnf); first | refine ⟨_, by assumption, ?_⟩ | refine ⟨_, _, by assumption, ?_⟩ | refine ⟨(show _ ∧ _ by omega), ?_⟩ | refine ⟨(show _ ∨ _ by omega), ?_⟩ | refine ⟨fun h => absurd h (by decide), fun _ => ?_⟩ | refine ⟨fun _ => ?_, fun h => absurd h (by decide)⟩ | refine ⟨fun _ => ?_, fun h => absurd rfl h⟩ | refine ⟨fun h => absurd rfl h, fun _ => ?_⟩)); try (conv => whnf)
  exact h1
def growF (n : aN) (a r c : Int) : aN := up (st (st (st (st (st (st (st (st n (n 0) 0 a) (n 0) 1 r) (n 0) 2 c) (n 0) 3 1) (n 0) 4 1) (n 0) 5 100) (n 0) 6 0) (n 0) 7 0) 0 (n 0 + 1)
/-- comes(above, r, c) -/
theorem ok_comes {P : aP} {d : Nat} {K : aK} {I : aI} {R : aR} {S : aS} {a r c : Int} (hM : MS R S) (hb : 0 ≤ I 362 0 ∧ I 362 0 < 6) (h1 : ∀ I', Fr [362] I I' → I' 362 = growF (I 362) a r c → K (some (vi (I 362 0))) I' R S) : Ok P 118 (d + 2) [vr 361, vi a, vi r, vi c] I R S K := by
  obtain ⟨m0, r1, m1, r2, m2, r3, m3, r4, m4, r5, m5, r6, m6, r7, m7, r8, m8, r9, m9, r10, m10, r11, m11, r12, m12, r13, m13, r14, m14, r15, m15⟩ := id hM
  refine Ok.of (by decide) rfl (Nat.le_of_ble_eq_true rfl) ?_
  refine Go.walk 400 [] E118 E118_ok (fun G C hG hC => ?_)
  (repeat ((conv => whnf); first | refine ⟨_, by assumption, ?_⟩ | refine ⟨_, _, by assumption, ?_⟩ | refine ⟨(show _ ∧ _ by omega), ?_⟩ | refine ⟨(show _ ∨ _ by omega), ?_⟩ | refine ⟨fun h => absurd h (by decide), fun _ => ?_⟩ | refine ⟨fun _ => ?_, fun h => absurd h (by decide)⟩ | refine ⟨fun _ => ?_, fun h => absurd rfl h⟩ | refine ⟨fun h => absurd rfl h, fun _ => ?_⟩)); try (conv => whnf)
  refine hC _ _ _ _ _ _ ?_
  refine ok_sets hM (by omega) ?_
  (repeat ((conv => whnf); first | refine ⟨_, by assumption, ?_⟩ | refine ⟨_, _, by assumption, ?_⟩ | refine ⟨(show _ ∧ _ by omega), ?_⟩ | refine ⟨(show _ ∨ _ by omega), ?_⟩ | refine ⟨fun h => absurd h (by decide), fun _ => ?_⟩ | refine ⟨fun _ => ?_, fun h => absurd h (by decide)⟩ | refine ⟨fun _ => ?_, fun h => absurd rfl h⟩ | refine ⟨fun h => absurd rfl h, fun _ => ?_⟩)); try (conv => whnf)
  refine hC _ _ _ _ _ _ ?_
  refine ok_sets hM (by omega) ?_
  (repeat ((conv => whnf); first | refine ⟨_, by assumption, ?_⟩ | refine ⟨_, _, by assumption, ?_⟩ | refine ⟨(show _ ∧ _ by omega), ?_⟩ | refine ⟨(show _ ∨ _ by omega), ?_⟩ | refine ⟨fun h => absurd h (by decide), fun _ => ?_⟩ | refine ⟨fun _ => ?_, fun h => absurd h (by decide)⟩ | refine ⟨fun _ => ?_, fun h => absurd rfl h⟩ | refine ⟨fun h => absurd rfl h, fun _ => ?_⟩)); try (conv => whnf)
  refine hC _ _ _ _ _ _ ?_
  refine ok_sets hM (by omega) ?_
  (repeat ((conv => whnf); first | refine ⟨_, by assumption, ?_⟩ | refine ⟨_, _, by assumption, ?_⟩ | refine ⟨(show _ ∧ _ by omega), ?_⟩ | refine ⟨(show _ ∨ _ by omega), ?_⟩ | refine ⟨fun h => absurd h (by decide), fun _ => ?_⟩ | refine ⟨fun _ => ?_, fun h => absurd h (by decide)⟩ | refine ⟨fun _ => ?_, fun h => absurd rfl h⟩ | refine ⟨fun h => absurd rfl h, fun _ => ?_⟩)); try (conv => whnf)
  refine hC _ _ _ _ _ _ ?_
  refine ok_sets hM (by omega) ?_
  (repeat ((conv => whnf); first | refine ⟨_, by assumption, ?_⟩ | refine ⟨_, _, by assumption, ?_⟩ | refine ⟨(show _ ∧ _ by omega), ?_⟩ | refine ⟨(show _ ∨ _ by omega), ?_⟩ | refine ⟨fun h => absurd h (by decide), fun _ => ?_⟩ | refine ⟨fun _ => ?_, fun h => absurd h (by decide)⟩ | refine ⟨fun _ => ?_, fun h => absurd rfl h⟩ | refine ⟨fun h => absurd rfl h, fun _ => ?_⟩)); try (conv => whnf)
  refine hC _ _ _ _ _ _ ?_
  refine ok_sets hM (by omega) ?_
  (repeat ((conv => whnf); first | refine ⟨_, by assumption, ?_⟩ | refine ⟨_, _, by assumption, ?_⟩ | refine ⟨(show _ ∧ _ by omega), ?_⟩ | refine ⟨(show _ ∨ _ by omega), ?_⟩ | refine ⟨fun h => absurd h (by decide), fun _ => ?_⟩ | refine ⟨fun _ => ?_, fun h => absurd h (by decide)⟩ | refine ⟨fun _ => ?_, fun h => absurd rfl h⟩ | refine ⟨fun h => absurd rfl h, fun _ => ?_⟩)); try (conv => whnf)
  refine hC _ _ _ _ _ _ ?_
  refine ok_sets hM (by omega) ?_
  (repeat ((conv => whnf); first | refine ⟨_, by assumption, ?_⟩ | refine ⟨_, _, by assumption, ?_⟩ | refine ⟨(show _ ∧ _ by omega), ?_⟩ | refine ⟨(show _ ∨ _ by omega), ?_⟩ | refine ⟨fun h => absurd h (by decide), fun _ => ?_⟩ | refine ⟨fun _ => ?_, fun h => absurd h (by decide)⟩ | refine ⟨fun _ => ?_, fun h => absurd rfl h⟩ | refine ⟨fun h => absurd rfl h, fun _ => ?_⟩)); try (conv => whnf)
  refine hC _ _ _ _ _ _ ?_
  refine ok_sets hM (by omega) ?_
  (repeat ((conv => whnf); first | refine ⟨_, by assumption, ?_⟩ | refine ⟨_, _, by assumption, ?_⟩ | refine ⟨(show _ ∧ _ by omega), ?_⟩ | refine ⟨(show _ ∨ _ by omega), ?_⟩ | refine ⟨fun h => absurd h (by decide), fun _ => ?_⟩ | refine ⟨fun _ => ?_, fun h => absurd h (by decide)⟩ | refine ⟨fun _ => ?_, fun h => absurd rfl h⟩ | refine ⟨fun h => absurd rfl h, fun _ => ?_⟩)); try (conv => whnf)
  refine hC _ _ _ _ _ _ ?_
  refine ok_sets hM (by omega) ?_
  (repeat ((conv => whnf); first | refine ⟨_, by assumption, ?_⟩ | refine ⟨_, _, by assumption, ?_⟩ | refine ⟨(show _ ∧ _ by omega), ?_⟩ | refine ⟨(show _ ∨ _ by omega), ?_⟩ | refine ⟨fun h => absurd h (by decide), fun _ => ?_⟩ | refine ⟨fun _ => ?_, fun h => absurd h (by decide)⟩ | refine ⟨fun _ => ?_, fun h => absurd rfl h⟩ | refine ⟨fun h => absurd rfl h, fun _ => ?_⟩)); try (conv => whnf)
  refine h1 _ ((((((((Fr.rf.put (by decide)).put (by decide)).put (by decide)).put (by decide)).put (by decide)).put (by decide)).put (by decide)).put (by decide) |>.put (by decide)) ?_
  simp only [uI_up, growF, st]
  congr 1
  rw [up_ne (by omega), up_ne (by omega), up_ne (by omega), up_ne (by omega), up_ne (by omega), up_ne (by omega), up_ne (by omega), up_ne (by omega)]
