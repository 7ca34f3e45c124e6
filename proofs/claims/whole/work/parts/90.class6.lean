/-! the class: best, least; the worst end -/
def bestC (c : Int) : List aT → Int → Int
  | [], r => r
  | x :: T, r => if x.2.2 ≤ c then bestC c T (x.2.1 + 1000000) else r
theorem best_eq {c : Int} : ∀ (L : List aT) (r : Int), L.Pairwise (fun x y => x.2.2 < y.2.2 ∧ x.2.1 < y.2.1) → (∀ x ∈ L, r < x.2.1 + 1000000) → L.foldl (fun r x => bestS c x r) r = bestC c L r
  | [], r, _, _ => rfl
  | x :: T, r, hp, hr => by
    obtain ⟨h1, h2⟩ := List.pairwise_cons.mp hp
    have hx := hr x List.mem_cons_self
    show T.foldl (fun r x => bestS c x r) (bestS c x r) = if x.2.2 ≤ c then bestC c T (x.2.1 + 1000000) else r
    by_cases q : x.2.2 ≤ c
    · rw [if_pos q]
      have e : bestS c x r = x.2.1 + 1000000 := by unfold bestS; rw [if_pos ⟨q, hx⟩]
      rw [e]
      exact best_eq T _ h2 (fun y hy => by have := (h1 y hy).2; omega)
    · rw [if_neg q]
      have e : bestS c x r = r := by unfold bestS; rw [if_neg (fun z => q z.1)]
      rw [e]
      have key : ∀ M : List aT, (∀ y ∈ M, ¬ y.2.2 ≤ c) → M.foldl (fun r x => bestS c x r) r = r := by
        intro M
        induction M with
        | nil => intro _; rfl
        | cons y M ih =>
          intro hM
          show M.foldl (fun r x => bestS c x r) (bestS c y r) = r
          have e2 : bestS c y r = r := by unfold bestS; rw [if_neg (fun z => hM y List.mem_cons_self z.1)]
          rw [e2]
          exact ih (fun z hz => hM z (List.mem_cons_of_mem _ hz))
      exact key T (fun y hy => by have := (h1 y hy).1; omega)
theorem pts_sorted {n : aN} {L : List aT} (hL : Fro L (PtsX n)) : L.Pairwise (fun x y => x.2.2 < y.2.2 ∧ x.2.1 < y.2.1) := by
  have h0 : ∀ x ∈ L, x.1 = 0 := fun x hx => by
    obtain ⟨pl, -, -, rfl⟩ := hL.2.1 x hx
    rfl
  refine List.Pairwise.imp_of_mem (fun {x y} hx hy hxy => ?_) hL.1
  have a := h0 x hx
  have b := h0 y hy
  unfold lt2 at hxy
  refine ⟨by omega, ?_⟩
  by_cases q : x.2.1 < y.2.1
  · exact q
  · have := hL.2.2.2 x hx y hy (wb_iff.mpr ⟨by omega, by omega, by omega⟩)
    rw [this] at hxy
    omega
theorem pts_tB {n : aN} (hW : WF n) {L : List aT} (hL : Fro L (PtsX n)) : ∀ x ∈ L, tB x := fun x hx => by
  obtain ⟨pl, a1, -, rfl⟩ := hL.2.1 x hx
  exact ptr_bd hW (a1.pl hW)
section Qd
variable {n : aN} {h : List aN} {B : List (Int × Int)} {sd : Int} {im : Int → Option (aN × Int)}
/-- best(cost) -/
theorem ok_cbest {P : aP} {d : Nat} {K : aK} {I : aI} {R : aR} {S : aS} {c : Int} (hC0 : CSt n h B sd im I R S) (hW : WF n) (hc : iR c) (h0 : c < 0 → K (some (vi (-1000000002))) I R S) (hK : 0 ≤ c → ∀ I' R' S' L, XF I R S I' R' S' → CSt n h B sd im I' R' S' → Fro L (PtsX n) → K (some (vi (bestL L c))) I' R' S') : Ok P 50 (d + 8) [vr 0, vi c] I R S K := by
  have hN := hW.1
  obtain ⟨c1, c2, c3, c4, c5, c6, c7, c8, c9⟩ := id hC0
  obtain ⟨⟨a0, a1, a2, a3, a4, -⟩, -, -, -, e3, e4, -, e6⟩ := id c1
  have s34 := e6.1
  refine Ok.of (by decide) rfl (Nat.le_of_ble_eq_true rfl) ?_
  refine Go.walk 400 [27] E50 E50_ok (fun G C hG hC => ?_)
  (repeat ((conv => whnf); first | refine ⟨_, by assumption, ?_⟩ | refine ⟨_, _, by assumption, ?_⟩ | refine ⟨(show _ ∧ _ by omega), ?_⟩ | refine ⟨(show _ ∨ _ by omega), ?_⟩ | refine ⟨fun h => absurd h (by decide), fun _ => ?_⟩ | refine ⟨fun _ => ?_, fun h => absurd h (by decide)⟩ | refine ⟨fun _ => ?_, fun h => absurd rfl h⟩ | refine ⟨fun h => absurd rfl h, fun _ => ?_⟩)); try (conv => whnf)
  refine ⟨fun q => ?_, fun q => ?_⟩
  · (repeat ((conv => whnf); first | refine ⟨_, by assumption, ?_⟩ | refine ⟨_, _, by assumption, ?_⟩ | refine ⟨(show _ ∧ _ by omega), ?_⟩ | refine ⟨(show _ ∨ _ by omega), ?_⟩ | refine ⟨fun h => absurd h (by decide), fun _ => ?_⟩ | refine ⟨fun _ => ?_, fun h => absurd h (by decide)⟩ | refine ⟨fun _ => ?_, fun h => absurd rfl h⟩ | refine ⟨fun h => absurd rfl h, fun _ => ?_⟩)); try (conv => whnf)
    refine hC _ _ _ _ _ _ ?_
    refine ok_ccho hC0 hW (fun I1 R1 S1 hX1 hC1 hO => ?_)
    obtain ⟨d1, d2, -⟩ := id hC1
    obtain ⟨-, -, -, -, -, -, -, f6⟩ := id d1
    obtain ⟨z0, z1, z2, z3, z4, z5, z6, z7⟩ := id f6
    obtain ⟨L, l1, l2⟩ := hO.2
    have l2 := fro_iff l2 (fun x => pox_pts hW)
    have hB := pts_tB hW l2
    obtain ⟨⟨s0, r1, s1, r2, s2, r3, s3⟩, hln⟩ := d2.2.1 36 (by omega)
    have el : I1 36 ((0 : Nat) : Int) = L.length := l1.1
    have hll := l1.2.1
    have hlb := hln.b
    have hK := hK q I1 R1 S1 L hX1 hC1 l2
    have eb : bestL L c = bestC c L (-1) := best_eq L (-1) (pts_sorted l2) (fun x hx => by have := (hB x hx).2.1; omega)
    rw [eb] at hK
    have loop : ∀ (T D : List aT) (r : Int), L = D ++ T → bestC c T r = bestC c L (-1) → Go P 50 (d + 8) K 27 [vr 0, vi c, vr 36, vi r, vi D.length] [] I1 R1 S1 := by
      intro T
      induction T with
      | nil =>
        intro D r hD he
        rw [List.append_nil] at hD
        have hlen : L.length = D.length := by rw [hD]
        rw [← he] at hK
        refine Go.walk 400 [27] E50 E50_ok (fun G C hG hC => ?_)
        (repeat ((conv => whnf); first | refine ⟨_, by assumption, ?_⟩ | refine ⟨_, _, by assumption, ?_⟩ | refine ⟨(show _ ∧ _ by omega), ?_⟩ | refine ⟨(show _ ∨ _ by omega), ?_⟩ | refine ⟨fun h => absurd h (by decide), fun _ => ?_⟩ | refine ⟨fun _ => ?_, fun h => absurd h (by decide)⟩ | refine ⟨fun _ => ?_, fun h => absurd rfl h⟩ | refine ⟨fun h => absurd rfl h, fun _ => ?_⟩)); try (conv => whnf)
        rw [el]
        refine ⟨fun _ => ?_, fun z => absurd (show (L.length : Int) ≤ D.length by omega) z⟩
        (repeat ((conv => whnf); first | refine ⟨_, by assumption, ?_⟩ | refine ⟨_, _, by assumption, ?_⟩ | refine ⟨(show _ ∧ _ by omega), ?_⟩ | refine ⟨(show _ ∨ _ by omega), ?_⟩ | refine ⟨fun h => absurd h (by decide), fun _ => ?_⟩ | refine ⟨fun _ => ?_, fun h => absurd h (by decide)⟩ | refine ⟨fun _ => ?_, fun h => absurd rfl h⟩ | refine ⟨fun h => absurd rfl h, fun _ => ?_⟩)); try (conv => whnf)
        exact hK
      | cons y T ih =>
        intro D r hD he
        have hlen : L.length = D.length + (T.length + 1) := by rw [hD, List.length_append, List.length_cons]
        have l1' := l1
        rw [hD] at l1'
        obtain ⟨y1, y2, y3⟩ := l1'.at
        obtain ⟨b1, b2, b3⟩ := hB y (by rw [hD]; simp)
        have he' : (if y.2.2 ≤ c then bestC c T (y.2.1 + 1000000) else r) = bestC c L (-1) := he
        refine Go.walk 400 [27] E50 E50_ok (fun G C hG hC => ?_)
        (repeat ((conv => whnf); first | refine ⟨_, by assumption, ?_⟩ | refine ⟨_, _, by assumption, ?_⟩ | refine ⟨(show _ ∧ _ by omega), ?_⟩ | refine ⟨(show _ ∨ _ by omega), ?_⟩ | refine ⟨fun h => absurd h (by decide), fun _ => ?_⟩ | refine ⟨fun _ => ?_, fun h => absurd h (by decide)⟩ | refine ⟨fun _ => ?_, fun h => absurd rfl h⟩ | refine ⟨fun h => absurd rfl h, fun _ => ?_⟩)); try (conv => whnf)
        rw [el]
        refine ⟨fun z => absurd z (by omega), fun _ => ?_⟩
        (repeat ((conv => whnf); first | refine ⟨_, by assumption, ?_⟩ | refine ⟨_, _, by assumption, ?_⟩ | refine ⟨(show _ ∧ _ by omega), ?_⟩ | refine ⟨(show _ ∨ _ by omega), ?_⟩ | refine ⟨fun h => absurd h (by decide), fun _ => ?_⟩ | refine ⟨fun _ => ?_, fun h => absurd h (by decide)⟩ | refine ⟨fun _ => ?_, fun h => absurd rfl h⟩ | refine ⟨fun h => absurd rfl h, fun _ => ?_⟩)); try (conv => whnf)
        rw [y3]
        refine ⟨fun z => ?_, fun z => ?_⟩
        · rw [if_neg (by omega)] at he'
          rw [← he'] at hK
          (repeat ((conv => whnf); first | refine ⟨_, by assumption, ?_⟩ | refine ⟨_, _, by assumption, ?_⟩ | refine ⟨(show _ ∧ _ by omega), ?_⟩ | refine ⟨(show _ ∨ _ by omega), ?_⟩ | refine ⟨fun h => absurd h (by decide), fun _ => ?_⟩ | refine ⟨fun _ => ?_, fun h => absurd h (by decide)⟩ | refine ⟨fun _ => ?_, fun h => absurd rfl h⟩ | refine ⟨fun h => absurd rfl h, fun _ => ?_⟩)); try (conv => whnf)
          exact hK
        · rw [if_pos (by omega)] at he'
          (repeat ((conv => whnf); first | refine ⟨_, by assumption, ?_⟩ | refine ⟨_, _, by assumption, ?_⟩ | refine ⟨(show _ ∧ _ by omega), ?_⟩ | refine ⟨(show _ ∨ _ by omega), ?_⟩ | refine ⟨fun h => absurd h (by decide), fun _ => ?_⟩ | refine ⟨fun _ => ?_, fun h => absurd h (by decide)⟩ | refine ⟨fun _ => ?_, fun h => absurd rfl h⟩ | refine ⟨fun h => absurd rfl h, fun _ => ?_⟩)); try (conv => whnf)
          rw [y2]
          refine hG _ _ _ _ _ _ ?_
          have := ih (D ++ [y]) (y.2.1 + 1000000) (by rw [hD, List.append_assoc]; rfl) he'
          rw [List.length_append, List.length_singleton] at this
          exact this
    (repeat ((conv => whnf); first | refine ⟨_, by assumption, ?_⟩ | refine ⟨_, _, by assumption, ?_⟩ | refine ⟨(show _ ∧ _ by omega), ?_⟩ | refine ⟨(show _ ∨ _ by omega), ?_⟩ | refine ⟨fun h => absurd h (by decide), fun _ => ?_⟩ | refine ⟨fun _ => ?_, fun h => absurd h (by decide)⟩ | refine ⟨fun _ => ?_, fun h => absurd rfl h⟩ | refine ⟨fun h => absurd rfl h, fun _ => ?_⟩)); try (conv => whnf)
    refine hG _ _ _ _ _ _ ?_
    exact loop L [] (-1) rfl rfl
  · (repeat ((conv => whnf); first | refine ⟨_, by assumption, ?_⟩ | refine ⟨_, _, by assumption, ?_⟩ | refine ⟨(show _ ∧ _ by omega), ?_⟩ | refine ⟨(show _ ∨ _ by omega), ?_⟩ | refine ⟨fun h => absurd h (by decide), fun _ => ?_⟩ | refine ⟨fun _ => ?_, fun h => absurd h (by decide)⟩ | refine ⟨fun _ => ?_, fun h => absurd rfl h⟩ | refine ⟨fun h => absurd rfl h, fun _ => ?_⟩)); try (conv => whnf)
    exact h0 (by omega)
/-- least(s) -/
theorem ok_cleast {P : aP} {d : Nat} {K : aK} {I : aI} {R : aR} {S : aS} {s : Int} (hC0 : CSt n h B sd im I R S) (hW : WF n) (hs : iR s) (hK : ∀ I' R' S' L, XF I R S I' R' S' → CSt n h B sd im I' R' S' → Fro L (PtsX n) → K (some (vi (leastL L s))) I' R' S') : Ok P 51 (d + 8) [vr 0, vi s] I R S K := by
  have hN := hW.1
  obtain ⟨c1, c2, c3, c4, c5, c6, c7, c8, c9⟩ := id hC0
  obtain ⟨⟨a0, a1, a2, a3, a4, -⟩, -, -, -, e3, e4, -, e6⟩ := id c1
  have s34 := e6.1
  refine Ok.of (by decide) rfl (Nat.le_of_ble_eq_true rfl) ?_
  refine Go.walk 400 [17] E51 E51_ok (fun G C hG hC => ?_)
  (repeat ((conv => whnf); first | refine ⟨_, by assumption, ?_⟩ | refine ⟨_, _, by assumption, ?_⟩ | refine ⟨(show _ ∧ _ by omega), ?_⟩ | refine ⟨(show _ ∨ _ by omega), ?_⟩ | refine ⟨fun h => absurd h (by decide), fun _ => ?_⟩ | refine ⟨fun _ => ?_, fun h => absurd h (by decide)⟩ | refine ⟨fun _ => ?_, fun h => absurd rfl h⟩ | refine ⟨fun h => absurd rfl h, fun _ => ?_⟩)); try (conv => whnf)
  refine hC _ _ _ _ _ _ ?_
  refine ok_ccho hC0 hW (fun I1 R1 S1 hX1 hC1 hO => ?_)
  obtain ⟨d1, d2, -⟩ := id hC1
  obtain ⟨-, -, -, -, -, -, -, f6⟩ := id d1
  obtain ⟨z0, z1, z2, z3, z4, z5, z6, z7⟩ := id f6
  obtain ⟨L, l1, l2⟩ := hO.2
  have l2 := fro_iff l2 (fun x => pox_pts hW)
  have hB := pts_tB hW l2
  obtain ⟨⟨s0, r1, s1, r2, s2, r3, s3⟩, hln⟩ := d2.2.1 36 (by omega)
  have el : I1 36 ((0 : Nat) : Int) = L.length := l1.1
  have hll := l1.2.1
  have hlb := hln.b
  have hK := hK I1 R1 S1 L hX1 hC1 l2
  have loop : ∀ (T D : List aT), L = D ++ T → leastL T s = leastL L s → Go P 51 (d + 8) K 17 [vr 0, vi s, vr 36, vi D.length] [] I1 R1 S1 := by
    intro T
    induction T with
    | nil =>
      intro D hD he
      rw [List.append_nil] at hD
      have hlen : L.length = D.length := by rw [hD]
      rw [← he] at hK
      refine Go.walk 400 [17] E51 E51_ok (fun G C hG hC => ?_)
      (repeat ((conv => whnf); first | refine ⟨_, by assumption, ?_⟩ | refine ⟨_, _, by assumption, ?_⟩ | refine ⟨(show _ ∧ _ by omega), ?_⟩ | refine ⟨(show _ ∨ _ by omega), ?_⟩ | refine ⟨fun h => absurd h (by decide), fun _ => ?_⟩ | refine ⟨fun _ => ?_, fun h => absurd h (by decide)⟩ | refine ⟨fun _ => ?_, fun h => absurd rfl h⟩ | refine ⟨fun h => absurd rfl h, fun _ => ?_⟩)); try (conv => whnf)
      rw [el]
      refine ⟨fun _ => ?_, fun z => absurd (show (L.length : Int) ≤ D.length by omega) z⟩
      (repeat ((conv => whnf); first | refine ⟨_, by assumption, ?_⟩ | refine ⟨_, _, by assumption, ?_⟩ | refine ⟨(show _ ∧ _ by omega), ?_⟩ | refine ⟨(show _ ∨ _ by omega), ?_⟩ | refine ⟨fun h => absurd h (by decide), fun _ => ?_⟩ | refine ⟨fun _ => ?_, fun h => absurd h (by decide)⟩ | refine ⟨fun _ => ?_, fun h => absurd rfl h⟩ | refine ⟨fun h => absurd rfl h, fun _ => ?_⟩)); try (conv => whnf)
      exact hK
    | cons y T ih =>
      intro D hD he
      have hlen : L.length = D.length + (T.length + 1) := by rw [hD, List.length_append, List.length_cons]
      have l1' := l1
      rw [hD] at l1'
      obtain ⟨y1, y2, y3⟩ := l1'.at
      obtain ⟨b1, b2, b3⟩ := hB y (by rw [hD]; simp)
      have he' : (if s ≤ y.2.1 then y.2.2 else leastL T s) = leastL L s := he
      refine Go.walk 400 [17] E51 E51_ok (fun G C hG hC => ?_)
      (repeat ((conv => whnf); first | refine ⟨_, by assumption, ?_⟩ | refine ⟨_, _, by assumption, ?_⟩ | refine ⟨(show _ ∧ _ by omega), ?_⟩ | refine ⟨(show _ ∨ _ by omega), ?_⟩ | refine ⟨fun h => absurd h (by decide), fun _ => ?_⟩ | refine ⟨fun _ => ?_, fun h => absurd h (by decide)⟩ | refine ⟨fun _ => ?_, fun h => absurd rfl h⟩ | refine ⟨fun h => absurd rfl h, fun _ => ?_⟩)); try (conv => whnf)
      rw [el]
      refine ⟨fun z => absurd z (by omega), fun _ => ?_⟩
      (repeat ((conv => whnf); first | refine ⟨_, by assumption, ?_⟩ | refine ⟨_, _, by assumption, ?_⟩ | refine ⟨(show _ ∧ _ by omega), ?_⟩ | refine ⟨(show _ ∨ _ by omega), ?_⟩ | refine ⟨fun h => absurd h (by decide), fun _ => ?_⟩ | refine ⟨fun _ => ?_, fun h => absurd h (by decide)⟩ | refine ⟨fun _ => ?_, fun h => absurd rfl h⟩ | refine ⟨fun h => absurd rfl h, fun _ => ?_⟩)); try (conv => whnf)
      rw [y2]
      refine ⟨fun z => ?_, fun z => ?_⟩
      · rw [if_neg (by omega)] at he'
        (repeat ((conv => whnf); first | refine ⟨_, by assumption, ?_⟩ | refine ⟨_, _, by assumption, ?_⟩ | refine ⟨(show _ ∧ _ by omega), ?_⟩ | refine ⟨(show _ ∨ _ by omega), ?_⟩ | refine ⟨fun h => absurd h (by decide), fun _ => ?_⟩ | refine ⟨fun _ => ?_, fun h => absurd h (by decide)⟩ | refine ⟨fun _ => ?_, fun h => absurd rfl h⟩ | refine ⟨fun h => absurd rfl h, fun _ => ?_⟩)); try (conv => whnf)
        refine hG _ _ _ _ _ _ ?_
        have := ih (D ++ [y]) (by rw [hD, List.append_assoc]; rfl) he'
        rw [List.length_append, List.length_singleton] at this
        exact this
      · rw [if_pos (by omega)] at he'
        rw [← he'] at hK
        (repeat ((conv => whnf); first | refine ⟨_, by assumption, ?_⟩ | refine ⟨_, _, by assumption, ?_⟩ | refine ⟨(show _ ∧ _ by omega), ?_⟩ | refine ⟨(show _ ∨ _ by omega), ?_⟩ | refine ⟨fun h => absurd h (by decide), fun _ => ?_⟩ | refine ⟨fun _ => ?_, fun h => absurd h (by decide)⟩ | refine ⟨fun _ => ?_, fun h => absurd rfl h⟩ | refine ⟨fun h => absurd rfl h, fun _ => ?_⟩)); try (conv => whnf)
        rw [y3]
        exact hK
  (repeat ((conv => whnf); first | refine ⟨_, by assumption, ?_⟩ | refine ⟨_, _, by assumption, ?_⟩ | refine ⟨(show _ ∧ _ by omega), ?_⟩ | refine ⟨(show _ ∨ _ by omega), ?_⟩ | refine ⟨fun h => absurd h (by decide), fun _ => ?_⟩ | refine ⟨fun _ => ?_, fun h => absurd h (by decide)⟩ | refine ⟨fun _ => ?_, fun h => absurd rfl h⟩ | refine ⟨fun h => absurd rfl h, fun _ => ?_⟩)); try (conv => whnf)
  refine hG _ _ _ _ _ _ ?_
  exact loop L [] rfl rfl
end Qd
/-- the worst end: the class's fold finds the first of those of the least slack -/
theorem wo_inv {n : aN} (hW : WF n) {tm : Int → Int} (htm : ∀ v, 1 ≤ v → v < n 0 → 0 ≤ tm v) : ∀ hi, 1 ≤ hi → hi ≤ n 0 → (slP n tm hi = 900000 ∧ woP n tm hi = -1 ∧ ∀ u, 1 ≤ u → u < hi → mEnd n u = false) ∨ ((1 ≤ woP n tm hi ∧ woP n tm hi < hi) ∧ mEnd n (woP n tm hi) = true ∧ nf n (woP n tm hi) 5 - tm (woP n tm hi) = slP n tm hi ∧ (∀ u, 1 ≤ u → u < woP n tm hi → mEnd n u = true → slP n tm hi < nf n u 5 - tm u) ∧ ∀ u, 1 ≤ u → u < hi → mEnd n u = true → slP n tm hi ≤ nf n u 5 - tm u) := by
  have hN := hW.1
  refine hi_ind _ (lo := 1) (fun hi h h1 _ => ?_) (fun hi h ih _ hn => ?_)
  · refine Or.inl ⟨rf_nil h, rf_nil h, fun u a b => by omega⟩
  · have s1 : slP n tm (hi + 1) = slS n tm hi (slP n tm hi) := rf_succ h
    have s3 : woP n tm (hi + 1) = if (mEnd n hi && decide (nf n hi 5 - tm hi < slP n tm hi)) = true then hi else woP n tm hi := rf_succ h
    have hb := (hW.2.1 hi (by omega) (by omega)).2.2.2.2.2.1
    have ht := htm hi h (by omega)
    unfold slS at s1
    rw [bel0 hW (by omega) (by omega), Bool.true_and] at s1
    cases he : mEnd n hi with
    | false =>
      rw [he, Bool.false_and, if_neg Bool.false_ne_true] at s1 s3
      rw [s1, s3]
      rcases ih h (by omega) with ⟨a1, a2, a3⟩ | ⟨a1, a2, a3, a4, a5⟩
      · refine Or.inl ⟨a1, a2, fun u b1 b2 => ?_⟩
        by_cases q : u = hi
        · rw [q]; exact he
        · exact a3 u b1 (by omega)
      · refine Or.inr ⟨by omega, a2, a3, a4, fun u b1 b2 b3 => ?_⟩
        by_cases q : u = hi
        · rw [q, he] at b3; cases b3
        · exact a5 u b1 (by omega) b3
    | true =>
      rw [he, Bool.true_and] at s1 s3
      by_cases q : nf n hi 5 - tm hi < slP n tm hi
      · rw [if_pos (decide_eq_true q)] at s1 s3
        rw [s1, s3]
        refine Or.inr ⟨by omega, he, rfl, fun u b1 b2 b3 => ?_, fun u b1 b2 b3 => ?_⟩
        · rcases ih h (by omega) with ⟨a1, a2, a3⟩ | ⟨a1, a2, a3, a4, a5⟩
          · rw [a3 u b1 b2] at b3; cases b3
          · have := a5 u b1 b2 b3
            omega
        · by_cases z : u = hi
          · rw [z]; exact Int.le_refl _
          · rcases ih h (by omega) with ⟨a1, a2, a3⟩ | ⟨a1, a2, a3, a4, a5⟩
            · rw [a3 u b1 (by omega)] at b3; cases b3
            · have := a5 u b1 (by omega) b3
              omega
      · rw [if_neg (by rw [decide_eq_false q]; exact Bool.false_ne_true)] at s1 s3
        rw [s1, s3]
        rcases ih h (by omega) with ⟨a1, a2, a3⟩ | ⟨a1, a2, a3, a4, a5⟩
        · omega
        · refine Or.inr ⟨by omega, a2, a3, a4, fun u b1 b2 b3 => ?_⟩
          by_cases z : u = hi
          · rw [z]; omega
          · exact a5 u b1 (by omega) b3
theorem worF_none {n : aN} : ∀ (k : Nat) (v : Int), (∀ u, v ≤ u → u < v + k → mEnd n u = false) → worF n k v = -1
  | 0, _, _ => rfl
  | k + 1, v, h => by
    show (if mEnd n v = true ∧ nf n v 5 - tim0 n v = sla0 n then v else worF n k (v + 1)) = -1
    rw [if_neg (fun z => by rw [h v (Int.le_refl _) (by omega)] at z; cases z.1)]
    exact worF_none k (v + 1) (fun u a b => h u (by omega) (by omega))
theorem worF_some {n : aN} {w : Int} (h1 : mEnd n w = true) (h2 : nf n w 5 - tim0 n w = sla0 n) : ∀ (k : Nat) (v : Int), v ≤ w → w < v + k → (∀ u, v ≤ u → u < w → mEnd n u = true → sla0 n < nf n u 5 - tim0 n u) → worF n k v = w
  | 0, v, a, b, _ => by omega
  | k + 1, v, a, b, h => by
    show (if mEnd n v = true ∧ nf n v 5 - tim0 n v = sla0 n then v else worF n k (v + 1)) = w
    by_cases q : v = w
    · rw [q, if_pos ⟨h1, h2⟩]
    · rw [if_neg (fun z => by have := h v (Int.le_refl _) (by omega) z.1; omega)]
      exact worF_some h1 h2 k (v + 1) (by omega) (by omega) (fun u c e => h u (by omega) e)
theorem worst_eq {n : aN} (hW : WF n) : woP n (tim n (pl0 n) (wd0 n) 0 (src n (pl0 n) (wd0 n))) (n 0) = mWorst n := by
  have hN := hW.1
  have es : slP n (tim n (pl0 n) (wd0 n) 0 (src n (pl0 n) (wd0 n))) (n 0) = sla0 n := rfl
  unfold mWorst
  rcases wo_inv hW (tm := tim n (pl0 n) (wd0 n) 0 (src n (pl0 n) (wd0 n))) (fun v a b => (tim0_bd hW (by omega) b).1) (n 0) hN.1 (Int.le_refl _) with ⟨a1, a2, a3⟩ | ⟨a1, a2, a3, a4, a5⟩
  · rw [a2, worF_none _ _ (fun u b c => a3 u b (by omega))]
  · rw [es] at a3 a4
    exact (worF_some a2 a3 _ 1 a1.1 (by omega) a4).symm
