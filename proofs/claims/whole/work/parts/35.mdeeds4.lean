/-! the reference: drop, draws, drift, undo, the book, the seed, images -/
def plc (n : aN) (k : Int) : Bool := rf (fun v b => b || decide (nf n v 7 = k)) false 1 (n 0)
def dropF (n : aN) (k : Int) : Int × Option aN := if ¬ isKb n k = true then (-1000000001, none) else if plc n k = true then (-1000000003, none) else (kf (sk n k 0 0) 1 0 + kf (sk n k 0 0) 2 0 + kf (sk n k 0 0) 3 0, some (sk n k 0 0))
theorem plc_mono {n : aN} {k v : Int} (h1 : 1 ≤ v) (h2 : v < n 0) (h : nf n v 7 = k) : plc n k = true := by
  unfold plc
  have key := rf_inv (f := fun v b => b || decide (nf n v 7 = k)) (a := false) (lo := 1) (fun u b => v < u → b = true) (by omega) (n 0 - 1).toNat (n 0) (by omega) (fun u x g1 g2 g3 g4 => by
    by_cases e : u = v
    · subst e; simp [h]
    · rw [g3 (by omega)]; rfl)
  exact key h2
/-- drop(k) -/
theorem ok_mdrop {P : aP} {d : Nat} {K : aK} {I : aI} {R : aR} {S : aS} {k : Int} {h : List aN} (hM : MS R S) (hW : WF (I 362)) (hH : HistM I h) (hk : iR k) (hK : DeedM (dropF (I 362) k) h I R S K) : Ok P 124 (d + 3) [vr 361, vi k] I R S K := by
  obtain ⟨m0, r1, m1, r2, m2, r3, m3, r4, m4, r5, m5, r6, m6, r7, m7, r8, m8, r9, m9, r10, m10, r11, m11, r12, m12, r13, m13, r14, m14, r15, m15⟩ := id hM
  have hN := hW.1
  have loop : isKb (I 362) k = true → ∀ (m : Nat) (v : Int), 1 ≤ v → I 362 0 - v = m → rf (fun v b => b || decide (nf (I 362) v 7 = k)) false 1 v = false → Go P 124 (d + 3) K 13 [vr 361, vi k, vi v] [] I R S := by
    intro hkb m
    have hki := isKb_iff.mp hkb
    obtain ⟨k1, k2, k3⟩ := hki
    induction m with
    | zero =>
      intro v hv hm hr
      have hp : plc (I 362) k = false := by rw [plc, show I 362 0 = v by omega]; exact hr
      refine Go.walk 400 [13] E124 E124_ok (fun G C hG hC => ?_)
      (repeat ((conv => whnf); first | refine ⟨_, by assumption, ?_⟩ | refine ⟨_, _, by assumption, ?_⟩ | refine ⟨(show _ ∧ _ by omega), ?_⟩ | refine ⟨(show _ ∨ _ by omega), ?_⟩ | refine ⟨fun h => absurd h (by decide), fun _ => ?_⟩ | refine ⟨fun _ => ?_, fun h => absurd h (by decide)⟩ | refine ⟨fun _ => ?_, fun h => absurd rfl h⟩ | refine ⟨fun h => absurd rfl h, fun _ => ?_⟩)); try (conv => whnf)
      refine ⟨fun _ => ?_, fun q => absurd (show I 362 0 ≤ v by omega) q⟩
      (repeat ((conv => whnf); first | refine ⟨_, by assumption, ?_⟩ | refine ⟨_, _, by assumption, ?_⟩ | refine ⟨(show _ ∧ _ by omega), ?_⟩ | refine ⟨(show _ ∨ _ by omega), ?_⟩ | refine ⟨fun h => absurd h (by decide), fun _ => ?_⟩ | refine ⟨fun _ => ?_, fun h => absurd h (by decide)⟩ | refine ⟨fun _ => ?_, fun h => absurd rfl h⟩ | refine ⟨fun h => absurd rfl h, fun _ => ?_⟩)); try (conv => whnf)
      refine hC _ _ _ _ _ _ ?_
      refine ok_deed hM hH (fun I1 hF1 hH1 => ?_)
      have e := hF1.1 362 (by decide)
      have eI : uI I1 362 (2 + 6 * (k - 1) + 0) 0 362 = sk (I 362) k 0 0 := by rw [uI_up, e]; rfl
      (repeat ((conv => whnf); first | refine ⟨_, by assumption, ?_⟩ | refine ⟨_, _, by assumption, ?_⟩ | refine ⟨(show _ ∧ _ by omega), ?_⟩ | refine ⟨(show _ ∨ _ by omega), ?_⟩ | refine ⟨fun h => absurd h (by decide), fun _ => ?_⟩ | refine ⟨fun _ => ?_, fun h => absurd h (by decide)⟩ | refine ⟨fun _ => ?_, fun h => absurd rfl h⟩ | refine ⟨fun h => absurd rfl h, fun _ => ?_⟩)); try (conv => whnf)
      refine hC _ _ _ _ _ _ ?_
      refine ok_ofKind hM (by omega) ?_
      (repeat ((conv => whnf); first | refine ⟨_, by assumption, ?_⟩ | refine ⟨_, _, by assumption, ?_⟩ | refine ⟨(show _ ∧ _ by omega), ?_⟩ | refine ⟨(show _ ∨ _ by omega), ?_⟩ | refine ⟨fun h => absurd h (by decide), fun _ => ?_⟩ | refine ⟨fun _ => ?_, fun h => absurd h (by decide)⟩ | refine ⟨fun _ => ?_, fun h => absurd rfl h⟩ | refine ⟨fun h => absurd rfl h, fun _ => ?_⟩)); try (conv => whnf)
      refine hC _ _ _ _ _ _ ?_
      refine ok_ofKind hM (by omega) ?_
      (repeat ((conv => whnf); first | refine ⟨_, by assumption, ?_⟩ | refine ⟨_, _, by assumption, ?_⟩ | refine ⟨(show _ ∧ _ by omega), ?_⟩ | refine ⟨(show _ ∨ _ by omega), ?_⟩ | refine ⟨fun h => absurd h (by decide), fun _ => ?_⟩ | refine ⟨fun _ => ?_, fun h => absurd h (by decide)⟩ | refine ⟨fun _ => ?_, fun h => absurd rfl h⟩ | refine ⟨fun h => absurd rfl h, fun _ => ?_⟩)); try (conv => whnf)
      refine hC _ _ _ _ _ _ ?_
      refine ok_ofKind hM (by omega) ?_
      rw [eI]
      (repeat ((conv => whnf); first | refine ⟨_, by assumption, ?_⟩ | refine ⟨_, _, by assumption, ?_⟩ | refine ⟨(show _ ∧ _ by omega), ?_⟩ | refine ⟨(show _ ∨ _ by omega), ?_⟩ | refine ⟨fun h => absurd h (by decide), fun _ => ?_⟩ | refine ⟨fun _ => ?_, fun h => absurd h (by decide)⟩ | refine ⟨fun _ => ?_, fun h => absurd rfl h⟩ | refine ⟨fun h => absurd rfl h, fun _ => ?_⟩)); try (conv => whnf)
      exact hK.yes (by rw [dropF, if_neg (fun q => q hkb), if_neg (by rw [hp]; decide)]) hF1 hH1 (mf_362 (Fr.rf.put (by decide))) eI
    | succ m ih =>
      intro v hv hm hr
      have hb := (hW.2.1 v (by omega) (by omega)).2.2.2.2.2.2.2
      refine Go.walk 400 [13] E124 E124_ok (fun G C hG hC => ?_)
      (repeat ((conv => whnf); first | refine ⟨_, by assumption, ?_⟩ | refine ⟨_, _, by assumption, ?_⟩ | refine ⟨(show _ ∧ _ by omega), ?_⟩ | refine ⟨(show _ ∨ _ by omega), ?_⟩ | refine ⟨fun h => absurd h (by decide), fun _ => ?_⟩ | refine ⟨fun _ => ?_, fun h => absurd h (by decide)⟩ | refine ⟨fun _ => ?_, fun h => absurd rfl h⟩ | refine ⟨fun h => absurd rfl h, fun _ => ?_⟩)); try (conv => whnf)
      refine ⟨fun q => absurd q (by omega), fun _ => ?_⟩
      (repeat ((conv => whnf); first | refine ⟨_, by assumption, ?_⟩ | refine ⟨_, _, by assumption, ?_⟩ | refine ⟨(show _ ∧ _ by omega), ?_⟩ | refine ⟨(show _ ∨ _ by omega), ?_⟩ | refine ⟨fun h => absurd h (by decide), fun _ => ?_⟩ | refine ⟨fun _ => ?_, fun h => absurd h (by decide)⟩ | refine ⟨fun _ => ?_, fun h => absurd rfl h⟩ | refine ⟨fun h => absurd rfl h, fun _ => ?_⟩)); try (conv => whnf)
      refine hC _ _ _ _ _ _ ?_
      refine ok_of hM (by omega) ?_
      (repeat ((conv => whnf); first | refine ⟨_, by assumption, ?_⟩ | refine ⟨_, _, by assumption, ?_⟩ | refine ⟨(show _ ∧ _ by omega), ?_⟩ | refine ⟨(show _ ∨ _ by omega), ?_⟩ | refine ⟨fun h => absurd h (by decide), fun _ => ?_⟩ | refine ⟨fun _ => ?_, fun h => absurd h (by decide)⟩ | refine ⟨fun _ => ?_, fun h => absurd rfl h⟩ | refine ⟨fun h => absurd rfl h, fun _ => ?_⟩)); try (conv => whnf)
      refine ⟨fun q => ?_, fun q => ?_⟩
      · (repeat ((conv => whnf); first | refine ⟨_, by assumption, ?_⟩ | refine ⟨_, _, by assumption, ?_⟩ | refine ⟨(show _ ∧ _ by omega), ?_⟩ | refine ⟨(show _ ∨ _ by omega), ?_⟩ | refine ⟨fun h => absurd h (by decide), fun _ => ?_⟩ | refine ⟨fun _ => ?_, fun h => absurd h (by decide)⟩ | refine ⟨fun _ => ?_, fun h => absurd rfl h⟩ | refine ⟨fun h => absurd rfl h, fun _ => ?_⟩)); try (conv => whnf)
        refine hG _ _ _ _ _ _ ?_
        refine ih (v + 1) (by omega) (by omega) ?_
        rw [rf_succ hv, hr]; simp [q]
      · (repeat ((conv => whnf); first | refine ⟨_, by assumption, ?_⟩ | refine ⟨_, _, by assumption, ?_⟩ | refine ⟨(show _ ∧ _ by omega), ?_⟩ | refine ⟨(show _ ∨ _ by omega), ?_⟩ | refine ⟨fun h => absurd h (by decide), fun _ => ?_⟩ | refine ⟨fun _ => ?_, fun h => absurd h (by decide)⟩ | refine ⟨fun _ => ?_, fun h => absurd rfl h⟩ | refine ⟨fun h => absurd rfl h, fun _ => ?_⟩)); try (conv => whnf)
        exact hK.no (by rw [dropF, if_neg (fun q => q hkb), if_pos (plc_mono hv (by omega) q)])
  refine Ok.of (by decide) rfl (Nat.le_of_ble_eq_true rfl) ?_
  refine Go.walk 400 [13] E124 E124_ok (fun G C hG hC => ?_)
  (repeat ((conv => whnf); first | refine ⟨_, by assumption, ?_⟩ | refine ⟨_, _, by assumption, ?_⟩ | refine ⟨(show _ ∧ _ by omega), ?_⟩ | refine ⟨(show _ ∨ _ by omega), ?_⟩ | refine ⟨fun h => absurd h (by decide), fun _ => ?_⟩ | refine ⟨fun _ => ?_, fun h => absurd h (by decide)⟩ | refine ⟨fun _ => ?_, fun h => absurd rfl h⟩ | refine ⟨fun h => absurd rfl h, fun _ => ?_⟩)); try (conv => whnf)
  refine hC _ _ _ _ _ _ ?_
  refine ok_isKind hM hk hW (fun h1 => ?_) (fun h1 => ?_)
  · (repeat ((conv => whnf); first | refine ⟨_, by assumption, ?_⟩ | refine ⟨_, _, by assumption, ?_⟩ | refine ⟨(show _ ∧ _ by omega), ?_⟩ | refine ⟨(show _ ∨ _ by omega), ?_⟩ | refine ⟨fun h => absurd h (by decide), fun _ => ?_⟩ | refine ⟨fun _ => ?_, fun h => absurd h (by decide)⟩ | refine ⟨fun _ => ?_, fun h => absurd rfl h⟩ | refine ⟨fun h => absurd rfl h, fun _ => ?_⟩)); try (conv => whnf)
    refine hG _ _ _ _ _ _ ?_
    exact loop (isKb_iff.mpr h1) (I 362 0 - 1).toNat 1 (by omega) (by omega) (by rw [rf_nil (by omega)])
  · (repeat ((conv => whnf); first | refine ⟨_, by assumption, ?_⟩ | refine ⟨_, _, by assumption, ?_⟩ | refine ⟨(show _ ∧ _ by omega), ?_⟩ | refine ⟨(show _ ∨ _ by omega), ?_⟩ | refine ⟨fun h => absurd h (by decide), fun _ => ?_⟩ | refine ⟨fun _ => ?_, fun h => absurd h (by decide)⟩ | refine ⟨fun _ => ?_, fun h => absurd rfl h⟩ | refine ⟨fun h => absurd rfl h, fun _ => ?_⟩)); try (conv => whnf)
    exact hK.no (by rw [dropF, if_pos (fun q => h1 (isKb_iff.mp q))])
def sdN (s : Int) : Int := (s * 1103515245 + 12345) % 2147483648
theorem sdN_bd {s : Int} : 0 ≤ sdN s ∧ sdN s < 2147483648 := by
  unfold sdN
  omega
/-- draws(m) -/
theorem ok_draws {P : aP} {d : Nat} {K : aK} {I : aI} {R : aR} {S : aS} {m : Int} (hM : MS R S) (hs : 0 ≤ I 361 1 ∧ I 361 1 < 2147483648) (hm : 0 < m ∧ m < 2147483648) (hK : K (some (vi (sdN (I 361 1) / 65536 % m))) (uI I 361 1 (sdN (I 361 1))) R S) : Ok P 128 (d + 1) [vr 361, vi m] I R S K := by
  obtain ⟨m0, r1, m1, r2, m2, r3, m3, r4, m4, r5, m5, r6, m6, r7, m7, r8, m8, r9, m9, r10, m10, r11, m11, r12, m12, r13, m13, r14, m14, r15, m15⟩ := id hM
  have hb := sdN_bd (s := I 361 1)
  have e : uI I 361 ((1 : Nat) : Int) (sdN (I 361 1)) 361 ((1 : Nat) : Int) = sdN (I 361 1) := uI_at
  have hs2 : 0 ≤ I 361 ((1 : Nat) : Int) ∧ I 361 ((1 : Nat) : Int) < 2147483648 := hs
  refine Ok.of (by decide) rfl (Nat.le_of_ble_eq_true rfl) ?_
  refine Go.walk 400 [] E128 E128_ok (fun G C hG hC => ?_)
  (repeat ((conv => whnf); first | refine ⟨_, by assumption, ?_⟩ | refine ⟨(show _ ∧ _ by omega), ?_⟩))
  conv => whnf
  have e2 : (I 361 ((1 : Nat) : Int) * 1103515245 + 12345) % 2147483648 = sdN (I 361 1) := rfl
  rw [e2, e]
  refine ⟨by omega, ?_⟩
  conv => whnf
  refine ⟨by have : 0 ≤ sdN (I 361 1) / 65536 := Int.ediv_nonneg hb.1 (by omega)
             have : sdN (I 361 1) / 65536 < 2147483648 := by omega
             omega, ?_⟩
  conv => whnf
  exact hK
def dr1 (s : Int) (m : Int) : Int := sdN s / 65536 % m
def driftN (n : aN) (s : Int) : aN := st (st (st (growF n (dr1 s (n 0)) (dr1 (sdN s) 10) (dr1 (sdN (sdN s)) 10)) (n 0) 4 (1 + dr1 (sdN (sdN (sdN s))) 9)) (n 0) 5 (dr1 (sdN (sdN (sdN (sdN s)))) 300)) (n 0) 6 (dr1 (sdN (sdN (sdN (sdN (sdN s))))) 2)
def driftS (s : Int) : Int := sdN (sdN (sdN (sdN (sdN (sdN s)))))
theorem dr1_bd {s m : Int} (hm : 0 < m) : 0 ≤ dr1 s m ∧ dr1 s m < m := ⟨Int.emod_nonneg _ (by omega), Int.emod_lt_of_pos _ hm⟩
