/-! a Front of the class: widen -/
theorem zI_ne {I : aI} {a b : Nat} (h : b ≠ a) : zI I a b = I b := by
  funext k
  show (if _ then _ else _) = _
  rw [if_neg h]
theorem zR_ne {R : aR} {a b : Nat} (h : b ≠ a) : zR R a b = R b := by
  funext k
  show (if _ then _ else _) = _
  rw [if_neg h]
theorem uR_at {R : aR} {a : Nat} {j : Int} {z : Option Nat} : uR R a j z a j = z := by simp [uR]
theorem uR_ne {R : aR} {a b : Nat} {j k : Int} {z : Option Nat} (h : ¬ (b = a ∧ k = j)) : uR R a j z b k = R b k := by simp only [uR]; rw [if_neg h]
theorem at_app {S T : aS} {x : Nat} {p : Nat × Nat} (h : S[x]? = some p) : (S ++ T)[x]? = some p := by
  rw [List.getElem?_append_left (List.getElem?_eq_some_iff.mp h).1]
  exact h
theorem at_lt {S : aS} {x : Nat} {p : Nat × Nat} (h : S[x]? = some p) : x < S.length := (List.getElem?_eq_some_iff.mp h).1
theorem at_new {S : aS} {p : Nat × Nat} : (S ++ [p])[S.length]? = some p := by
  rw [List.getElem?_append_right (Nat.le_refl _), Nat.sub_self]
  rfl
/-- Arrays.copyOf(row, m), m greater than its length -/
theorem ok_copyOf {P : aP} {d : Nat} {K : aK} {I : aI} {R : aR} {S : aS} {x len m : Nat} (hx : S[x]? = some (9, len)) (hm : len < m ∧ m ≤ 2048) (hK : ∀ I' R', (∀ a, a ≠ S.length → I' a = I a) → (∀ k : Int, 0 ≤ k → k < len → I' S.length k = I x k) → (∀ a, a ≠ S.length → R' a = R a) → K (some (vr S.length)) I' R' (S ++ [(9, m)])) : Ok P 139 (d + 2) [vr x, vi m] I R S K := by
  have hl := at_lt hx
  have hx2 : (S ++ [(9, ((m : Int)).toNat)])[x]? = some (9, len) := at_app hx
  have hx3 : (S ++ [(9, ((m : Int)).toNat)])[S.length]? = some (9, m) := at_new
  refine Ok.of (by decide) rfl (Nat.le_of_ble_eq_true rfl) ?_
  refine Go.walk 400 [] E139 E139_ok (fun G C hG hC => ?_)
  (repeat ((conv => whnf); first | refine ⟨_, by assumption, ?_⟩ | refine ⟨_, _, by assumption, ?_⟩ | refine ⟨(show _ ∧ _ by omega), ?_⟩ | refine ⟨(show _ ∨ _ by omega), ?_⟩ | refine ⟨fun h => absurd h (by decide), fun _ => ?_⟩ | refine ⟨fun _ => ?_, fun h => absurd h (by decide)⟩ | refine ⟨fun _ => ?_, fun h => absurd rfl h⟩ | refine ⟨fun h => absurd rfl h, fun _ => ?_⟩)); try (conv => whnf)
  refine ⟨fun _ => ?_, fun q => absurd q (by omega)⟩
  (repeat ((conv => whnf); first | refine ⟨_, by assumption, ?_⟩ | refine ⟨_, _, by assumption, ?_⟩ | refine ⟨(show _ ∧ _ by omega), ?_⟩ | refine ⟨(show _ ∨ _ by omega), ?_⟩ | refine ⟨fun h => absurd h (by decide), fun _ => ?_⟩ | refine ⟨fun _ => ?_, fun h => absurd h (by decide)⟩ | refine ⟨fun _ => ?_, fun h => absurd rfl h⟩ | refine ⟨fun h => absurd rfl h, fun _ => ?_⟩)); try (conv => whnf)
  refine hC _ _ _ _ _ _ ?_
  refine ok_min (by omega) (by omega) ?_
  rw [if_pos (by omega)]
  (repeat ((conv => whnf); first | refine ⟨_, by assumption, ?_⟩ | refine ⟨_, _, by assumption, ?_⟩ | refine ⟨(show _ ∧ _ by omega), ?_⟩ | refine ⟨(show _ ∨ _ by omega), ?_⟩ | refine ⟨fun h => absurd h (by decide), fun _ => ?_⟩ | refine ⟨fun _ => ?_, fun h => absurd h (by decide)⟩ | refine ⟨fun _ => ?_, fun h => absurd rfl h⟩ | refine ⟨fun h => absurd rfl h, fun _ => ?_⟩)); try (conv => whnf)
  refine ⟨len, m, hx2, hx3, by omega, ?_⟩
  (repeat ((conv => whnf); first | refine ⟨_, by assumption, ?_⟩ | refine ⟨_, _, by assumption, ?_⟩ | refine ⟨(show _ ∧ _ by omega), ?_⟩ | refine ⟨(show _ ∨ _ by omega), ?_⟩ | refine ⟨fun h => absurd h (by decide), fun _ => ?_⟩ | refine ⟨fun _ => ?_, fun h => absurd h (by decide)⟩ | refine ⟨fun _ => ?_, fun h => absurd rfl h⟩ | refine ⟨fun h => absurd rfl h, fun _ => ?_⟩)); try (conv => whnf)
  refine hK _ _ (fun a ha => ?_) (fun k h0 h1 => ?_) (fun a ha => zR_ne ha)
  · funext k
    rw [cI_ne1 (fun e => ha e.1), zI_ne ha]
  · rw [cI_at1 (by omega), zI_ne (by omega)]
    congr 1
    omega
/-- widen(), where there is room -/
theorem ok_widen {P : aP} {d : Nat} {K : aK} {I : aI} {R : aR} {S : aS} {f x y z len : Nat} (hS : F1 R S f x y z len) (hD : D4 f x y z) (h1 : 1 ≤ len ∧ 2 * len ≤ 1024)
    (hK : ∀ I' R', (∀ a, a < S.length → I' a = I a) → (∀ k : Int, 0 ≤ k → k < len → I' S.length k = I x k ∧ I' (S.length + 1) k = I y k ∧ I' (S.length + 2) k = I z k) → (∀ a, a < S.length → a ≠ f → R' a = R a) → F1 R' (S ++ [(9, 2 * len), (9, 2 * len), (9, 2 * len)]) f S.length (S.length + 1) (S.length + 2) (2 * len) → K (some (vi 1)) I' R' (S ++ [(9, 2 * len), (9, 2 * len), (9, 2 * len)])) : Ok P 21 (d + 3) [vr f] I R S K := by
  obtain ⟨s0, r1, s1, r2, s2, r3, s3⟩ := id hS
  obtain ⟨d1, d2, d3, d4, d5, d6⟩ := id hD
  have l0 := at_lt s0
  have l1 := at_lt s1
  have l2 := at_lt s2
  have l3 := at_lt s3
  have em : (2 : Int) * (len : Int) = ((2 * len : Nat) : Int) := by omega
  refine Ok.of (by decide) rfl (Nat.le_of_ble_eq_true rfl) ?_
  refine Go.walk 400 [] E21 E21_ok (fun G C hG hC => ?_)
  (repeat ((conv => whnf); first | refine ⟨_, by assumption, ?_⟩ | refine ⟨_, _, by assumption, ?_⟩ | refine ⟨(show _ ∧ _ by omega), ?_⟩ | refine ⟨(show _ ∨ _ by omega), ?_⟩ | refine ⟨fun h => absurd h (by decide), fun _ => ?_⟩ | refine ⟨fun _ => ?_, fun h => absurd h (by decide)⟩ | refine ⟨fun _ => ?_, fun h => absurd rfl h⟩ | refine ⟨fun h => absurd rfl h, fun _ => ?_⟩)); try (conv => whnf)
  refine ⟨fun _ => ?_, fun q => absurd (show (2 : Int) * (len : Int) ≤ 1024 by omega) q⟩
  (repeat ((conv => whnf); first | refine ⟨_, by assumption, ?_⟩ | refine ⟨_, _, by assumption, ?_⟩ | refine ⟨(show _ ∧ _ by omega), ?_⟩ | refine ⟨(show _ ∨ _ by omega), ?_⟩ | refine ⟨fun h => absurd h (by decide), fun _ => ?_⟩ | refine ⟨fun _ => ?_, fun h => absurd h (by decide)⟩ | refine ⟨fun _ => ?_, fun h => absurd rfl h⟩ | refine ⟨fun h => absurd rfl h, fun _ => ?_⟩)); try (conv => whnf)
  rw [em]
  refine hC _ _ _ _ _ _ ?_
  refine ok_copyOf s1 (by omega) (fun I1 R1 i1 i2 i3 => ?_)
  have s0' := at_app (T := [(9, 2 * len)]) s0
  have s2' := at_app (T := [(9, 2 * len)]) s2
  have s3' := at_app (T := [(9, 2 * len)]) s3
  have r2' : uR R1 f ((1 : Nat) : Int) (some S.length) f ((2 : Nat) : Int) = some y := by rw [uR_ne (by omega), i3 f (by omega)]; exact r2
  (repeat ((conv => whnf); first | refine ⟨_, by assumption, ?_⟩ | refine ⟨_, _, by assumption, ?_⟩ | refine ⟨(show _ ∧ _ by omega), ?_⟩ | refine ⟨(show _ ∨ _ by omega), ?_⟩ | refine ⟨fun h => absurd h (by decide), fun _ => ?_⟩ | refine ⟨fun _ => ?_, fun h => absurd h (by decide)⟩ | refine ⟨fun _ => ?_, fun h => absurd rfl h⟩ | refine ⟨fun h => absurd rfl h, fun _ => ?_⟩)); try (conv => whnf)
  refine hC _ _ _ _ _ _ ?_
  refine ok_copyOf s2' (by omega) (fun I2 R2 j1 j2 j3 => ?_)
  rw [List.length_append, List.length_singleton] at j1 j2 j3 ⊢
  have s0'' := at_app (T := [(9, 2 * len)]) s0'
  have s3'' := at_app (T := [(9, 2 * len)]) s3'
  have r3' : uR R2 f ((2 : Nat) : Int) (some (S.length + 1)) f ((3 : Nat) : Int) = some z := by rw [uR_ne (by omega), j3 f (by omega), uR_ne (by omega), i3 f (by omega)]; exact r3
  (repeat ((conv => whnf); first | refine ⟨_, by assumption, ?_⟩ | refine ⟨_, _, by assumption, ?_⟩ | refine ⟨(show _ ∧ _ by omega), ?_⟩ | refine ⟨(show _ ∨ _ by omega), ?_⟩ | refine ⟨fun h => absurd h (by decide), fun _ => ?_⟩ | refine ⟨fun _ => ?_, fun h => absurd h (by decide)⟩ | refine ⟨fun _ => ?_, fun h => absurd rfl h⟩ | refine ⟨fun h => absurd rfl h, fun _ => ?_⟩)); try (conv => whnf)
  refine hC _ _ _ _ _ _ ?_
  refine ok_copyOf s3'' (by omega) (fun I3 R3 k1 k2 k3 => ?_)
  rw [List.length_append, List.length_append, List.length_singleton] at k1 k2 k3 ⊢
  have s0''' := at_app (T := [(9, 2 * len)]) s0''
  (repeat ((conv => whnf); first | refine ⟨_, by assumption, ?_⟩ | refine ⟨_, _, by assumption, ?_⟩ | refine ⟨(show _ ∧ _ by omega), ?_⟩ | refine ⟨(show _ ∨ _ by omega), ?_⟩ | refine ⟨fun h => absurd h (by decide), fun _ => ?_⟩ | refine ⟨fun _ => ?_, fun h => absurd h (by decide)⟩ | refine ⟨fun _ => ?_, fun h => absurd rfl h⟩ | refine ⟨fun h => absurd rfl h, fun _ => ?_⟩)); try (conv => whnf)
  rw [List.append_assoc, List.append_assoc]
  refine hK _ _ (fun a ha => ?_) (fun k g0 g1 => ⟨?_, ?_, ?_⟩) (fun a ha hf => ?_) ⟨?_, ?_, ?_, ?_, ?_, ?_, ?_⟩
  · rw [k1 a (by omega), j1 a (by omega), i1 a (by omega)]
  · rw [k1 _ (by omega), j1 _ (by omega), i2 k g0 g1]
  · rw [k1 _ (by omega), j2 k g0 g1, i1 y (by omega)]
  · rw [show S.length + 2 = S.length + 1 + 1 by omega, k2 k g0 g1, j1 z (by omega), i1 z (by omega)]
  · funext k
    rw [uR_ne (fun e => hf e.1), k3 a (by omega), uR_ne (fun e => hf e.1), j3 a (by omega), uR_ne (fun e => hf e.1), i3 a (by omega)]
  · exact at_app s0
  · rw [uR_ne (by omega), k3 f (by omega), uR_ne (by omega), j3 f (by omega)]
    exact uR_at
  · rw [List.getElem?_append_right (by omega), Nat.sub_self]
    rfl
  · rw [uR_ne (by omega), k3 f (by omega)]
    exact uR_at
  · rw [List.getElem?_append_right (by omega), show S.length + 1 - S.length = 1 by omega]
    rfl
  · exact uR_at
  · rw [List.getElem?_append_right (by omega), show S.length + 2 - S.length = 2 by omega]
    rfl
