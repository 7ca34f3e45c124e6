/-! the reference: words, its shape, its small methods -/
abbrev aN : Type := Int → Int
def nf (n : aN) (v w : Int) : Int := n (20 + 8 * v + w)
def kf (n : aN) (k w : Int) : Int := n (2 + 6 * (k - 1) + w)
def b2i (c : Bool) : Int := match c with
  | true => 1
  | false => 0
/-- a fold over lo, lo + 1 .. hi - 1 -/
def rfN {α : Type} (f : Int → α → α) (a : α) (lo : Int) : Nat → α
  | 0 => a
  | k + 1 => f (lo + k) (rfN f a lo k)
def rf {α : Type} (f : Int → α → α) (a : α) (lo hi : Int) : α := rfN f a lo (hi - lo).toNat
theorem rf_nil {α : Type} {f : Int → α → α} {a : α} {lo hi : Int} (h : hi ≤ lo) : rf f a lo hi = a := by
  unfold rf
  rw [show (hi - lo).toNat = 0 by omega]
  rfl
theorem rf_succ {α : Type} {f : Int → α → α} {a : α} {lo hi : Int} (h : lo ≤ hi) : rf f a lo (hi + 1) = f hi (rf f a lo hi) := by
  unfold rf
  rw [show (hi + 1 - lo).toNat = (hi - lo).toNat + 1 by omega]
  show f (lo + ((hi - lo).toNat : Int)) _ = _
  rw [show lo + ((hi - lo).toNat : Int) = hi by omega]
theorem rf_congr {α : Type} {f g : Int → α → α} {a : α} {lo : Int} : ∀ (k : Nat) (hi : Int), hi - lo = k → (∀ u, lo ≤ u → u < hi → ∀ x, f u x = g u x) → rf f a lo hi = rf g a lo hi
  | 0, hi, h, _ => by rw [rf_nil (by omega), rf_nil (by omega)]
  | k + 1, hi, h, hfg => by
    have e : hi = (hi - 1) + 1 := by omega
    rw [e, rf_succ (by omega), rf_succ (by omega), rf_congr k (hi - 1) (by omega) (fun u h1 h2 x => hfg u h1 (by omega) x), hfg (hi - 1) (by omega) (by omega)]
theorem rf_cong {α : Type} {f g : Int → α → α} {a : α} {lo hi : Int} (h : ∀ u, lo ≤ u → u < hi → ∀ x, f u x = g u x) : rf f a lo hi = rf g a lo hi := by
  by_cases hl : lo ≤ hi
  · exact rf_congr (hi - lo).toNat hi (by omega) h
  · rw [rf_nil (by omega), rf_nil (by omega)]
/-- an invariant of a fold -/
theorem rf_inv {α : Type} {f : Int → α → α} {a : α} {lo : Int} (Q : Int → α → Prop) (h0 : Q lo a) : ∀ (k : Nat) (hi : Int), hi - lo = k → (∀ u x, lo ≤ u → u < hi → Q u x → Q (u + 1) (f u x)) → Q hi (rf f a lo hi)
  | 0, hi, h, _ => by rw [rf_nil (by omega), show hi = lo by omega]; exact h0
  | k + 1, hi, h, hs => by
    have e : hi = (hi - 1) + 1 := by omega
    rw [e, rf_succ (by omega)]
    exact hs (hi - 1) _ (by omega) (by omega) (rf_inv Q h0 k (hi - 1) (by omega) (fun u x h1 h2 => hs u x h1 (by omega)))
/-- the shape of the reference's object -/
def MS (R : aR) (S : aS) : Prop := S[361]? = some (8, 20) ∧ R 361 0 = some 362 ∧ S[362]? = some (9, 68) ∧ R 361 2 = some 363 ∧ S[363]? = some (9, 1088) ∧ R 361 4 = some 364 ∧ S[364]? = some (9, 138) ∧ R 361 5 = some 365 ∧ S[365]? = some (10, 2) ∧ R 361 6 = some 366 ∧ S[366]? = some (9, 20) ∧ R 361 7 = some 367 ∧ S[367]? = some (9, 20) ∧ R 361 9 = some 368 ∧ S[368]? = some (9, 6) ∧ R 361 10 = some 369 ∧ S[369]? = some (9, 6) ∧ R 361 11 = some 370 ∧ S[370]? = some (9, 6) ∧ R 361 12 = some 371 ∧ S[371]? = some (9, 6) ∧ R 361 13 = some 372 ∧ S[372]? = some (9, 6) ∧ R 361 14 = some 373 ∧ S[373]? = some (9, 6) ∧ R 361 15 = some 374 ∧ S[374]? = some (9, 1100) ∧ R 361 16 = some 375 ∧ S[375]? = some (9, 1100) ∧ R 361 17 = some 376 ∧ S[376]? = some (9, 1100)
/-- the bounds of a net's numbers -/
def WF (n : aN) : Prop := (1 ≤ n 0 ∧ n 0 ≤ 6 ∧ 0 ≤ n 1 ∧ n 1 ≤ 9) ∧
  (∀ v : Int, 0 ≤ v → v < 6 → (0 ≤ nf n v 0 ∧ (1 ≤ v → nf n v 0 < v)) ∧ (0 ≤ nf n v 1 ∧ nf n v 1 ≤ 9) ∧ (0 ≤ nf n v 2 ∧ nf n v 2 ≤ 9) ∧ (0 ≤ nf n v 3 ∧ nf n v 3 ≤ 2) ∧ (0 ≤ nf n v 4 ∧ nf n v 4 ≤ 9) ∧ (0 ≤ nf n v 5 ∧ nf n v 5 ≤ 9999) ∧ (0 ≤ nf n v 6 ∧ nf n v 6 ≤ 1) ∧ (0 ≤ nf n v 7 ∧ nf n v 7 ≤ 3)) ∧
  (∀ v : Int, 1 ≤ v → v < n 0 → 1 ≤ nf n v 3 ∧ 1 ≤ nf n v 4) ∧ (∀ v : Int, 1 ≤ v → v < n 0 → 1 ≤ nf n v 7 → kf n (nf n v 7) 0 = 1) ∧ nf n 0 7 = 0 ∧
  (∀ k : Int, 1 ≤ k → k ≤ 3 → (0 ≤ kf n k 0 ∧ kf n k 0 ≤ 1) ∧ (0 ≤ kf n k 1 ∧ kf n k 1 ≤ 9) ∧ (0 ≤ kf n k 2 ∧ kf n k 2 ≤ 9) ∧ (0 ≤ kf n k 3 ∧ kf n k 3 ≤ 99) ∧ (0 ≤ kf n k 4 ∧ kf n k 4 ≤ 99) ∧ (0 ≤ kf n k 5 ∧ kf n k 5 ≤ 1))
theorem ok_in {P : aP} {d : Nat} {K : aK} {I : aI} {R : aR} {S : aS} {v lo hi : Int} (hv : iR v) (hlo : iR lo) (hhi : iR hi) (h1 : lo ≤ v ∧ v ≤ hi → K (some (vi 1)) I R S) (h0 : ¬ (lo ≤ v ∧ v ≤ hi) → K (some (vi 0)) I R S) : Ok P 78 (d + 1) [vi v, vi lo, vi hi] I R S K := by
  refine Ok.of (by decide) rfl (Nat.le_of_ble_eq_true rfl) ?_
  refine Go.walk 400 [] E78 E78_ok (fun G C hG hC => ?_)
  (repeat ((conv => whnf); first | refine ⟨_, by assumption, ?_⟩ | refine ⟨_, _, by assumption, ?_⟩ | refine ⟨(show _ ∧ _ by omega), ?_⟩ | refine ⟨(show _ ∨ _ by omega), ?_⟩ | refine ⟨fun h => absurd h (by decide), fun _ => ?_⟩ | refine ⟨fun _ => ?_, fun h => absurd h (by decide)⟩ | refine ⟨fun _ => ?_, fun h => absurd rfl h⟩ | refine ⟨fun h => absurd rfl h, fun _ => ?_⟩)); try (conv => whnf)
  refine ⟨fun h => ?_, fun h => ?_⟩
  · (repeat ((conv => whnf); first | refine ⟨_, by assumption, ?_⟩ | refine ⟨_, _, by assumption, ?_⟩ | refine ⟨(show _ ∧ _ by omega), ?_⟩ | refine ⟨(show _ ∨ _ by omega), ?_⟩ | refine ⟨fun h => absurd h (by decide), fun _ => ?_⟩ | refine ⟨fun _ => ?_, fun h => absurd h (by decide)⟩ | refine ⟨fun _ => ?_, fun h => absurd rfl h⟩ | refine ⟨fun h => absurd rfl h, fun _ => ?_⟩)); try (conv => whnf)
    exact h0 (by omega)
  · (repeat ((conv => whnf); first | refine ⟨_, by assumption, ?_⟩ | refine ⟨_, _, by assumption, ?_⟩ | refine ⟨(show _ ∧ _ by omega), ?_⟩ | refine ⟨(show _ ∨ _ by omega), ?_⟩ | refine ⟨fun h => absurd h (by decide), fun _ => ?_⟩ | refine ⟨fun _ => ?_, fun h => absurd h (by decide)⟩ | refine ⟨fun _ => ?_, fun h => absurd rfl h⟩ | refine ⟨fun h => absurd rfl h, fun _ => ?_⟩)); try (conv => whnf)
    refine ⟨fun h => ?_, fun h => ?_⟩
    · (repeat ((conv => whnf); first | refine ⟨_, by assumption, ?_⟩ | refine ⟨_, _, by assumption, ?_⟩ | refine ⟨(show _ ∧ _ by omega), ?_⟩ | refine ⟨(show _ ∨ _ by omega), ?_⟩ | refine ⟨fun h => absurd h (by decide), fun _ => ?_⟩ | refine ⟨fun _ => ?_, fun h => absurd h (by decide)⟩ | refine ⟨fun _ => ?_, fun h => absurd rfl h⟩ | refine ⟨fun h => absurd rfl h, fun _ => ?_⟩)); try (conv => whnf)
      exact h0 (by omega)
    · (repeat ((conv => whnf); first | refine ⟨_, by assumption, ?_⟩ | refine ⟨_, _, by assumption, ?_⟩ | refine ⟨(show _ ∧ _ by omega), ?_⟩ | refine ⟨(show _ ∨ _ by omega), ?_⟩ | refine ⟨fun h => absurd h (by decide), fun _ => ?_⟩ | refine ⟨fun _ => ?_, fun h => absurd h (by decide)⟩ | refine ⟨fun _ => ?_, fun h => absurd rfl h⟩ | refine ⟨fun h => absurd rfl h, fun _ => ?_⟩)); try (conv => whnf)
      exact h1 (by omega)
/-- of(v, what) -/
theorem ok_of {P : aP} {d : Nat} {K : aK} {I : aI} {R : aR} {S : aS} {v w : Int} (hM : MS R S) (hb : 0 ≤ v ∧ v < 6 ∧ 0 ≤ w ∧ w < 8) (h1 : K (some (vi (nf (I 362) v w))) I R S) : Ok P 79 (d + 1) [vr 361, vi v, vi w] I R S K := by
  obtain ⟨m0, r1, m1, mr⟩ := hM
  refine Ok.of (by decide) rfl (Nat.le_of_ble_eq_true rfl) ?_
  refine Go.walk 400 [] E79 E79_ok (fun G C hG hC => ?_)
  (repeat ((conv => whnf); first | refine ⟨_, by assumption, ?_⟩ | refine ⟨_, _, by assumption, ?_⟩ | refine ⟨(show _ ∧ _ by omega), ?_⟩ | refine ⟨(show _ ∨ _ by omega), ?_⟩ | refine ⟨fun h => absurd h (by decide), fun _ => ?_⟩ | refine ⟨fun _ => ?_, fun h => absurd h (by decide)⟩ | refine ⟨fun _ => ?_, fun h => absurd rfl h⟩ | refine ⟨fun h => absurd rfl h, fun _ => ?_⟩)); try (conv => whnf)
  exact h1
/-- ofKind(k, what) -/
theorem ok_ofKind {P : aP} {d : Nat} {K : aK} {I : aI} {R : aR} {S : aS} {k w : Int} (hM : MS R S) (hb : 1 ≤ k ∧ k ≤ 3 ∧ 0 ≤ w ∧ w < 6) (h1 : K (some (vi (kf (I 362) k w))) I R S) : Ok P 80 (d + 1) [vr 361, vi k, vi w] I R S K := by
  obtain ⟨m0, r1, m1, mr⟩ := hM
  refine Ok.of (by decide) rfl (Nat.le_of_ble_eq_true rfl) ?_
  refine Go.walk 400 [] E80 E80_ok (fun G C hG hC => ?_)
  (repeat ((conv => whnf); first | refine ⟨_, by assumption, ?_⟩ | refine ⟨_, _, by assumption, ?_⟩ | refine ⟨(show _ ∧ _ by omega), ?_⟩ | refine ⟨(show _ ∨ _ by omega), ?_⟩ | refine ⟨fun h => absurd h (by decide), fun _ => ?_⟩ | refine ⟨fun _ => ?_, fun h => absurd h (by decide)⟩ | refine ⟨fun _ => ?_, fun h => absurd rfl h⟩ | refine ⟨fun h => absurd rfl h, fun _ => ?_⟩)); try (conv => whnf)
  exact h1
/-- isNode(v) -/
theorem ok_isNode {P : aP} {d : Nat} {K : aK} {I : aI} {R : aR} {S : aS} {v : Int} (hM : MS R S) (hv : iR v) (hW : WF (I 362)) (h1 : 0 ≤ v ∧ v < I 362 0 → K (some (vi 1)) I R S) (h0 : ¬ (0 ≤ v ∧ v < I 362 0) → K (some (vi 0)) I R S) : Ok P 81 (d + 2) [vr 361, vi v] I R S K := by
  obtain ⟨m0, r1, m1, mr⟩ := hM
  have hN := hW.1
  refine Ok.of (by decide) rfl (Nat.le_of_ble_eq_true rfl) ?_
  refine Go.walk 400 [] E81 E81_ok (fun G C hG hC => ?_)
  (repeat ((conv => whnf); first | refine ⟨_, by assumption, ?_⟩ | refine ⟨_, _, by assumption, ?_⟩ | refine ⟨(show _ ∧ _ by omega), ?_⟩ | refine ⟨(show _ ∨ _ by omega), ?_⟩ | refine ⟨fun h => absurd h (by decide), fun _ => ?_⟩ | refine ⟨fun _ => ?_, fun h => absurd h (by decide)⟩ | refine ⟨fun _ => ?_, fun h => absurd rfl h⟩ | refine ⟨fun h => absurd rfl h, fun _ => ?_⟩)); try (conv => whnf)
  refine hC _ _ _ _ _ _ ?_
  refine ok_in hv (by omega) (by omega) (fun h => ?_) (fun h => ?_)
  · (repeat ((conv => whnf); first | refine ⟨_, by assumption, ?_⟩ | refine ⟨_, _, by assumption, ?_⟩ | refine ⟨(show _ ∧ _ by omega), ?_⟩ | refine ⟨(show _ ∨ _ by omega), ?_⟩ | refine ⟨fun h => absurd h (by decide), fun _ => ?_⟩ | refine ⟨fun _ => ?_, fun h => absurd h (by decide)⟩ | refine ⟨fun _ => ?_, fun h => absurd rfl h⟩ | refine ⟨fun h => absurd rfl h, fun _ => ?_⟩)); try (conv => whnf)
    exact h1 (by omega)
  · (repeat ((conv => whnf); first | refine ⟨_, by assumption, ?_⟩ | refine ⟨_, _, by assumption, ?_⟩ | refine ⟨(show _ ∧ _ by omega), ?_⟩ | refine ⟨(show _ ∨ _ by omega), ?_⟩ | refine ⟨fun h => absurd h (by decide), fun _ => ?_⟩ | refine ⟨fun _ => ?_, fun h => absurd h (by decide)⟩ | refine ⟨fun _ => ?_, fun h => absurd rfl h⟩ | refine ⟨fun h => absurd rfl h, fun _ => ?_⟩)); try (conv => whnf)
    exact h0 (by omega)
/-- isKind(k) -/
theorem ok_isKind {P : aP} {d : Nat} {K : aK} {I : aI} {R : aR} {S : aS} {k : Int} (hM : MS R S) (hk : iR k) (hW : WF (I 362)) (h1 : 1 ≤ k ∧ k ≤ 3 ∧ kf (I 362) k 0 = 1 → K (some (vi 1)) I R S) (h0 : ¬ (1 ≤ k ∧ k ≤ 3 ∧ kf (I 362) k 0 = 1) → K (some (vi 0)) I R S) : Ok P 82 (d + 2) [vr 361, vi k] I R S K := by
  obtain ⟨m0, r1, m1, r2, m2, r3, m3, r4, m4, r5, m5, r6, m6, r7, m7, r8, m8, r9, m9, r10, m10, r11, m11, r12, m12, r13, m13, r14, m14, r15, m15⟩ := id hM
  refine Ok.of (by decide) rfl (Nat.le_of_ble_eq_true rfl) ?_
  refine Go.walk 400 [] E82 E82_ok (fun G C hG hC => ?_)
  (repeat ((conv => whnf); first | refine ⟨_, by assumption, ?_⟩ | refine ⟨_, _, by assumption, ?_⟩ | refine ⟨(show _ ∧ _ by omega), ?_⟩ | refine ⟨(show _ ∨ _ by omega), ?_⟩ | refine ⟨fun h => absurd h (by decide), fun _ => ?_⟩ | refine ⟨fun _ => ?_, fun h => absurd h (by decide)⟩ | refine ⟨fun _ => ?_, fun h => absurd rfl h⟩ | refine ⟨fun h => absurd rfl h, fun _ => ?_⟩)); try (conv => whnf)
  refine hC _ _ _ _ _ _ ?_
  refine ok_in hk (by omega) (by omega) (fun h => ?_) (fun h => ?_)
  · (repeat ((conv => whnf); first | refine ⟨_, by assumption, ?_⟩ | refine ⟨_, _, by assumption, ?_⟩ | refine ⟨(show _ ∧ _ by omega), ?_⟩ | refine ⟨(show _ ∨ _ by omega), ?_⟩ | refine ⟨fun h => absurd h (by decide), fun _ => ?_⟩ | refine ⟨fun _ => ?_, fun h => absurd h (by decide)⟩ | refine ⟨fun _ => ?_, fun h => absurd rfl h⟩ | refine ⟨fun h => absurd rfl h, fun _ => ?_⟩)); try (conv => whnf)
    refine hC _ _ _ _ _ _ ?_
    refine ok_ofKind hM (by omega) ?_
    have hb := hW.2.2.2.2.2 k h.1 h.2
    (repeat ((conv => whnf); first | refine ⟨_, by assumption, ?_⟩ | refine ⟨_, _, by assumption, ?_⟩ | refine ⟨(show _ ∧ _ by omega), ?_⟩ | refine ⟨(show _ ∨ _ by omega), ?_⟩ | refine ⟨fun h => absurd h (by decide), fun _ => ?_⟩ | refine ⟨fun _ => ?_, fun h => absurd h (by decide)⟩ | refine ⟨fun _ => ?_, fun h => absurd rfl h⟩ | refine ⟨fun h => absurd rfl h, fun _ => ?_⟩)); try (conv => whnf)
    refine ⟨fun h2 => ?_, fun h2 => ?_⟩
    · (repeat ((conv => whnf); first | refine ⟨_, by assumption, ?_⟩ | refine ⟨_, _, by assumption, ?_⟩ | refine ⟨(show _ ∧ _ by omega), ?_⟩ | refine ⟨(show _ ∨ _ by omega), ?_⟩ | refine ⟨fun h => absurd h (by decide), fun _ => ?_⟩ | refine ⟨fun _ => ?_, fun h => absurd h (by decide)⟩ | refine ⟨fun _ => ?_, fun h => absurd rfl h⟩ | refine ⟨fun h => absurd rfl h, fun _ => ?_⟩)); try (conv => whnf)
      exact h0 (by omega)
    · (repeat ((conv => whnf); first | refine ⟨_, by assumption, ?_⟩ | refine ⟨_, _, by assumption, ?_⟩ | refine ⟨(show _ ∧ _ by omega), ?_⟩ | refine ⟨(show _ ∨ _ by omega), ?_⟩ | refine ⟨fun h => absurd h (by decide), fun _ => ?_⟩ | refine ⟨fun _ => ?_, fun h => absurd h (by decide)⟩ | refine ⟨fun _ => ?_, fun h => absurd rfl h⟩ | refine ⟨fun h => absurd rfl h, fun _ => ?_⟩)); try (conv => whnf)
      exact h1 (by omega)
  · (repeat ((conv => whnf); first | refine ⟨_, by assumption, ?_⟩ | refine ⟨_, _, by assumption, ?_⟩ | refine ⟨(show _ ∧ _ by omega), ?_⟩ | refine ⟨(show _ ∨ _ by omega), ?_⟩ | refine ⟨fun h => absurd h (by decide), fun _ => ?_⟩ | refine ⟨fun _ => ?_, fun h => absurd h (by decide)⟩ | refine ⟨fun _ => ?_, fun h => absurd rfl h⟩ | refine ⟨fun h => absurd rfl h, fun _ => ?_⟩)); try (conv => whnf)
    exact h0 (by omega)
