/-! the Choices of the class: gather -/
theorem px_succ {n : aN} {Y : Int → aT → Prop} {v u : Int} (h : v + 1 ≤ u) : PX n Y v (u + 1) = if nf n u 0 = v then JX n u (PX n Y v u) (Y u) else PX n Y v u := by
  unfold PX
  rw [rf_succ h]
theorem cs_succ {n : aN} {sz : Int → Nat} {v u : Int} (h : v + 1 ≤ u) : cs n sz v (u + 1) = if nf n u 0 = v then cs n sz v u + sz u else cs n sz v u := by
  unfold cs
  rw [rf_succ h]
theorem zo_jx {n : aN} (hW : WF n) {u : Int} (h1 : 1 ≤ u) (h2 : u < n 0) {LA LB L : List aT} {X Y : aT → Prop} (hA : Fro LA X) (hB : Fro LB Y) (h : Fro L (ZO n u LA LB)) : Fro L (JX n u X Y) := by
  refine fro_of h (fun x hx => ?_) (fun x hx => ?_)
  · obtain ⟨y, hy, a, ha, e⟩ := hx
    exact ⟨a, y, hA.2.1 a ha, hB.2.1 y hy, e⟩
  · obtain ⟨a, y, ha, hy, rfl⟩ := hx
    obtain ⟨a', ha', wa⟩ := hA.2.2.1 a ha
    obtain ⟨y', hy', wy⟩ := hB.2.2.1 y hy
    exact ⟨jn n u a' y', ⟨y', hy', a', ha', rfl⟩, jn_mono hW h1 h2 wa wy⟩
theorem pow_le5 {k : Nat} (h : k ≤ 5) : 4 ^ k ≤ 1024 := Nat.le_trans (Nat.pow_le_pow_right (by omega) h) (by decide)
/-- gather(net, v, t, isEnd, sum) -/
theorem ok_gather {P : aP} {d : Nat} {K : aK} {I : aI} {R : aR} {S : aS} {n : aN} {W B : Int → Int → aT → Prop} {sz : Int → Nat} {v t : Int} {s : Nat} (hW : WF n) (hB0 : CB n I R S) (hE : SE n W B sz) (hv : 0 ≤ v ∧ v < n 0) (ht : 0 ≤ t ∧ t ≤ 1) (hs : s = 40 ∨ s = 44)
    (hrows : ∀ u, v < u → u < n 0 → ∃ L, FL I R S (rowc u t) L ∧ Fro L (W u t) ∧ L.length ≤ 4 ^ sz u)
    (hK : ∀ I' R' S' L, ChT (fun x => x = s ∨ x = 48) I R S I' R' S' → FL I' R' S' s L → Fro L (B v t) → L.length ≤ 4 ^ (sz v - 1) → K none I' R' S') : Ok P 7 (d + 6) [vr 34, vr 1, vi v, vi t, vi (b2i (mEnd n v)), vr s] I R S K := by
  have hN := hW.1
  have hfs : fr s := by rcases hs with rfl | rfl <;> omega
  have h48 : s ≠ 48 := by omega
  have hszv := hE.2.2.2.2.2 v hv.1 hv.2
  have hsz5 : cs n sz v (n 0) ≤ 5 := by omega
  have hcs : ∀ w, v + 1 ≤ w → w ≤ n 0 → cs n sz v w ≤ cs n sz v (n 0) := by
    intro w g0 g1
    have := cs_mono (n := n) (sz := sz) g0 (n 0 - w).toNat
    rw [show w + ((n 0 - w).toNat : Int) = n 0 by omega] at this
    exact this
  have loop : ∀ (m : Nat) (u : Int) (I' : aI) (R' : aR) (S' : aS), v + 1 ≤ u → n 0 - u = m → mEnd n v = false → ChT (fun x => x = s ∨ x = 48) I R S I' R' S' → (∃ L, FL I' R' S' s L ∧ Fro L (PX n (fun u => W u t) v u) ∧ L.length ≤ 4 ^ cs n sz v u) → Go P 7 (d + 6) K 53 [vr 34, vr 1, vi v, vi t, vi 0, vr s, vi u] [] I' R' S' := by
    intro m
    induction m with
    | zero =>
      intro u I' R' S' g0 gm hne hT hL
      have hu : u = n 0 := by omega
      subst hu
      obtain ⟨c1, c2, c3, c4⟩ := hB0.go hT
      have e0 : I' 1 ((0 : Nat) : Int) = n 0 := c3.1.1
      obtain ⟨L, l1, l2, l3⟩ := hL
      obtain ⟨s0, sr1, sm1, sr2, sm2, sr3, sm3, sr4, sm4, sr5, sm5, sr6, sm6, sr7, sm7, sr8, sm8, sr9, sm9, sr10, sm10, sr11, sm11, sr12, sm12, sr13, sm13⟩ := id c2
      refine Go.walk 400 [53] E7 E7_ok (fun G C hG hC => ?_)
      (repeat ((conv => whnf); first | refine ⟨_, by assumption, ?_⟩ | refine ⟨_, _, by assumption, ?_⟩ | refine ⟨(show _ ∧ _ by omega), ?_⟩ | refine ⟨(show _ ∨ _ by omega), ?_⟩ | refine ⟨fun h => absurd h (by decide), fun _ => ?_⟩ | refine ⟨fun _ => ?_, fun h => absurd h (by decide)⟩ | refine ⟨fun _ => ?_, fun h => absurd rfl h⟩ | refine ⟨fun h => absurd rfl h, fun _ => ?_⟩)); try (conv => whnf)
      rw [e0]
      refine ⟨fun _ => ?_, fun q => absurd (Int.le_refl _) q⟩
      (repeat ((conv => whnf); first | refine ⟨_, by assumption, ?_⟩ | refine ⟨_, _, by assumption, ?_⟩ | refine ⟨(show _ ∧ _ by omega), ?_⟩ | refine ⟨(show _ ∨ _ by omega), ?_⟩ | refine ⟨fun h => absurd h (by decide), fun _ => ?_⟩ | refine ⟨fun _ => ?_, fun h => absurd h (by decide)⟩ | refine ⟨fun _ => ?_, fun h => absurd rfl h⟩ | refine ⟨fun h => absurd rfl h, fun _ => ?_⟩)); try (conv => whnf)
      refine hK I' R' S' L hT l1 (fro_iff l2 (fun x => (hE.2.2.2.1 v t x hv.1 hv.2 ht.1 ht.2 hne).symm)) ?_
      rw [show sz v - 1 = cs n sz v (n 0) by omega]
      exact l3
    | succ m ih =>
      intro u I' R' S' g0 gm hne hT hL
      obtain ⟨c1, c2, c3, c4⟩ := hB0.go hT
      have e0 : I' 1 ((0 : Nat) : Int) = n 0 := c3.1.1
      have ea : I' 2 u = nf n u 0 := (c3.2.1 u (by omega) (by omega)).1
      have hab := (hW.2.1 u (by omega) (by omega)).1
      obtain ⟨L, l1, l2, l3⟩ := hL
      obtain ⟨x0, x1, x2, x3, x4, x5, x6, x7⟩ := id c1
      have ih2 := ih (u + 1)
      rw [px_succ g0, cs_succ g0] at ih2
      have hcu := hcs (u + 1) (by omega) (by omega)
      rw [cs_succ g0] at hcu
      obtain ⟨s0, sr1, sm1, sr2, sm2, sr3, sm3, sr4, sm4, sr5, sm5, sr6, sm6, sr7, sm7, sr8, sm8, sr9, sm9, sr10, sm10, sr11, sm11, sr12, sm12, sr13, sm13⟩ := id c2
      refine Go.walk 400 [53] E7 E7_ok (fun G C hG hC => ?_)
      (repeat ((conv => whnf); first | refine ⟨_, by assumption, ?_⟩ | refine ⟨_, _, by assumption, ?_⟩ | refine ⟨(show _ ∧ _ by omega), ?_⟩ | refine ⟨(show _ ∨ _ by omega), ?_⟩ | refine ⟨fun h => absurd h (by decide), fun _ => ?_⟩ | refine ⟨fun _ => ?_, fun h => absurd h (by decide)⟩ | refine ⟨fun _ => ?_, fun h => absurd rfl h⟩ | refine ⟨fun h => absurd rfl h, fun _ => ?_⟩)); try (conv => whnf)
      rw [e0]
      refine ⟨fun q => absurd q (by omega), fun _ => ?_⟩
      (repeat ((conv => whnf); first | refine ⟨_, by assumption, ?_⟩ | refine ⟨_, _, by assumption, ?_⟩ | refine ⟨(show _ ∧ _ by omega), ?_⟩ | refine ⟨(show _ ∨ _ by omega), ?_⟩ | refine ⟨fun h => absurd h (by decide), fun _ => ?_⟩ | refine ⟨fun _ => ?_, fun h => absurd h (by decide)⟩ | refine ⟨fun _ => ?_, fun h => absurd rfl h⟩ | refine ⟨fun h => absurd rfl h, fun _ => ?_⟩)); try (conv => whnf)
      rw [ea]
      refine ⟨by omega, fun q => ?_, fun q => ?_⟩
      · rw [if_neg q, if_neg q] at ih2
        (repeat ((conv => whnf); first | refine ⟨_, by assumption, ?_⟩ | refine ⟨_, _, by assumption, ?_⟩ | refine ⟨(show _ ∧ _ by omega), ?_⟩ | refine ⟨(show _ ∨ _ by omega), ?_⟩ | refine ⟨fun h => absurd h (by decide), fun _ => ?_⟩ | refine ⟨fun _ => ?_, fun h => absurd h (by decide)⟩ | refine ⟨fun _ => ?_, fun h => absurd rfl h⟩ | refine ⟨fun h => absurd rfl h, fun _ => ?_⟩)); try (conv => whnf)
        refine hG _ _ _ _ _ _ ?_
        exact ih2 I' R' S' (by omega) (by omega) hne hT ⟨L, l1, l2, l3⟩
      · rw [if_pos q, if_pos q] at ih2
        rw [if_pos q] at hcu
        (repeat ((conv => whnf); first | refine ⟨_, by assumption, ?_⟩ | refine ⟨_, _, by assumption, ?_⟩ | refine ⟨(show _ ∧ _ by omega), ?_⟩ | refine ⟨(show _ ∨ _ by omega), ?_⟩ | refine ⟨fun h => absurd h (by decide), fun _ => ?_⟩ | refine ⟨fun _ => ?_, fun h => absurd h (by decide)⟩ | refine ⟨fun _ => ?_, fun h => absurd rfl h⟩ | refine ⟨fun h => absurd rfl h, fun _ => ?_⟩)); try (conv => whnf)
        refine hC _ _ _ _ _ _ ?_
        refine ok_row c1 (by omega) (by omega) ht.1 ht.2 ?_
        have hrf := rowc_fr (v := u) (t := t) (by omega) (by omega) ht.1 ht.2
        have hrne : ¬ (rowc u t = s ∨ rowc u t = 48) := by omega
        obtain ⟨LB, b1, b2, b3⟩ := hrows u (by omega) (by omega)
        have b1' := hT.2.2.2.2.1 (rowc u t) hrf.1 hrne LB b1
        have hpw : L.length * LB.length ≤ 4 ^ (cs n sz v u + sz u) := by
          rw [Nat.pow_add]
          exact Nat.mul_le_mul l3 b3
        have hp5 := pow_le5 (k := cs n sz v u + sz u) (by omega)
        (repeat ((conv => whnf); first | refine ⟨_, by assumption, ?_⟩ | refine ⟨_, _, by assumption, ?_⟩ | refine ⟨(show _ ∧ _ by omega), ?_⟩ | refine ⟨(show _ ∨ _ by omega), ?_⟩ | refine ⟨fun h => absurd h (by decide), fun _ => ?_⟩ | refine ⟨fun _ => ?_, fun h => absurd h (by decide)⟩ | refine ⟨fun _ => ?_, fun h => absurd rfl h⟩ | refine ⟨fun h => absurd rfl h, fun _ => ?_⟩)); try (conv => whnf)
        refine hC _ _ _ _ _ _ ?_
        refine ok_join hW (hB0.go hT) (by omega) hfs hrf.1 h48 (by omega) (by omega) l1 b1' (fun a ha => px_bB hW hE ht.1 ht.2 hv.1 g0 (by omega) (l2.2.1 a ha)) (fun y hy => hE.2.2.2.2.1 u t y (by omega) (by omega) ht.1 ht.2 (b2.2.1 y hy)) (by omega) (fun I2 R2 S2 L2 hT2 k1 k2 k3 => ?_)
        (repeat ((conv => whnf); first | refine ⟨_, by assumption, ?_⟩ | refine ⟨_, _, by assumption, ?_⟩ | refine ⟨(show _ ∧ _ by omega), ?_⟩ | refine ⟨(show _ ∨ _ by omega), ?_⟩ | refine ⟨fun h => absurd h (by decide), fun _ => ?_⟩ | refine ⟨fun _ => ?_, fun h => absurd h (by decide)⟩ | refine ⟨fun _ => ?_, fun h => absurd rfl h⟩ | refine ⟨fun h => absurd rfl h, fun _ => ?_⟩)); try (conv => whnf)
        refine hG _ _ _ _ _ _ ?_
        exact ih2 I2 R2 S2 (by omega) (by omega) hne (hT.tr hT2 (fun x hx => hx.elim id id)) ⟨L2, k1, zo_jx hW (by omega) (by omega) l2 b2 k2, by omega⟩
  obtain ⟨c1, c2, c3, c4⟩ := id hB0
  have sf := (c4.2.1 s hfs).1.1
  obtain ⟨s0, sr1, sm1, sr2, sm2, sr3, sm3, sr4, sm4, sr5, sm5, sr6, sm6, sr7, sm7, sr8, sm8, sr9, sm9, sr10, sm10, sr11, sm11, sr12, sm12, sr13, sm13⟩ := id c2
  cases hm : mEnd n v with
  | true =>
    show Ok P 7 (d + 6) [vr 34, vr 1, vi v, vi t, vi 1, vr s] I R S K
    obtain ⟨-, -, -, -, b4, b5, b6, -⟩ := hW.2.1 v hv.1 (by omega)
    refine Ok.of (by decide) rfl (Nat.le_of_ble_eq_true rfl) ?_
    refine Go.walk 400 [53] E7 E7_ok (fun G C hG hC => ?_)
    (repeat ((conv => whnf); first | refine ⟨_, by assumption, ?_⟩ | refine ⟨_, _, by assumption, ?_⟩ | refine ⟨(show _ ∧ _ by omega), ?_⟩ | refine ⟨(show _ ∨ _ by omega), ?_⟩ | refine ⟨fun h => absurd h (by decide), fun _ => ?_⟩ | refine ⟨fun _ => ?_, fun h => absurd h (by decide)⟩ | refine ⟨fun _ => ?_, fun h => absurd rfl h⟩ | refine ⟨fun h => absurd rfl h, fun _ => ?_⟩)); try (conv => whnf)
    refine hC _ _ _ _ _ _ ?_
    refine ok_clear c4 hfs (fun I1 hT1 hL1 => ?_)
    obtain ⟨d1, d2, d3, d4⟩ := hB0.go hT1
    obtain ⟨-, -, -, -, r4, r5, r6, -⟩ := d3.2.1 v hv.1 (by omega)
    have r4' : I1 6 v = nf n v 4 := r4
    have r5' : I1 7 v = nf n v 5 := r5
    have r6' : I1 8 v = nf n v 6 := r6
    have hend : ∀ x, B v t x ↔ nf n v 6 = t ∧ x = (nf n v 4, nf n v 5, 0) := fun x => hE.2.2.1 v t x hv.1 hv.2 ht.1 ht.2 hm
    (repeat ((conv => whnf); first | refine ⟨_, by assumption, ?_⟩ | refine ⟨_, _, by assumption, ?_⟩ | refine ⟨(show _ ∧ _ by omega), ?_⟩ | refine ⟨(show _ ∨ _ by omega), ?_⟩ | refine ⟨fun h => absurd h (by decide), fun _ => ?_⟩ | refine ⟨fun _ => ?_, fun h => absurd h (by decide)⟩ | refine ⟨fun _ => ?_, fun h => absurd rfl h⟩ | refine ⟨fun h => absurd rfl h, fun _ => ?_⟩)); try (conv => whnf)
    rw [r6']
    refine ⟨fun q => ?_, fun q => ?_⟩
    · (repeat ((conv => whnf); first | refine ⟨_, by assumption, ?_⟩ | refine ⟨_, _, by assumption, ?_⟩ | refine ⟨(show _ ∧ _ by omega), ?_⟩ | refine ⟨(show _ ∨ _ by omega), ?_⟩ | refine ⟨fun h => absurd h (by decide), fun _ => ?_⟩ | refine ⟨fun _ => ?_, fun h => absurd h (by decide)⟩ | refine ⟨fun _ => ?_, fun h => absurd rfl h⟩ | refine ⟨fun h => absurd rfl h, fun _ => ?_⟩)); try (conv => whnf)
      refine hK I1 R S [] (hT1.tr (ChT.rf d4) (F := fun x => x = s ∨ x = 48) (F2 := fun _ => False) (fun x hx => Or.inl (hx.elim id False.elim))) hL1 (fro_iff fro_nil (fun x => ⟨fun h => h.elim, fun h => q ((hend x).mp h).1⟩)) (Nat.zero_le _)
    · (repeat ((conv => whnf); first | refine ⟨_, by assumption, ?_⟩ | refine ⟨_, _, by assumption, ?_⟩ | refine ⟨(show _ ∧ _ by omega), ?_⟩ | refine ⟨(show _ ∨ _ by omega), ?_⟩ | refine ⟨fun h => absurd h (by decide), fun _ => ?_⟩ | refine ⟨fun _ => ?_, fun h => absurd h (by decide)⟩ | refine ⟨fun _ => ?_, fun h => absurd rfl h⟩ | refine ⟨fun h => absurd rfl h, fun _ => ?_⟩)); try (conv => whnf)
      rw [r4', r5']
      refine hC _ _ _ _ _ _ ?_
      refine ok_offerA (Z := fun _ => False) (g := fun x => x) (D := []) (l0 := 0) (y := (nf n v 4, nf n v 5, 0)) d4 hfs ⟨[], hL1, fro_iff fro_nil (fun x => (oa_nil (Z := fun _ => False) (g := fun x => x) (x := x)).symm), Nat.zero_le _⟩ (fun x hx => (oa_nil.mp hx).elim) ⟨by show iR (nf n v 4); omega, by show iR (nf n v 5); omega, by show iR 0; omega⟩ (by simp) (fun I2 R2 S2 hT2 hA2 => ?_)
      (repeat ((conv => whnf); first | refine ⟨_, by assumption, ?_⟩ | refine ⟨_, _, by assumption, ?_⟩ | refine ⟨(show _ ∧ _ by omega), ?_⟩ | refine ⟨(show _ ∨ _ by omega), ?_⟩ | refine ⟨fun h => absurd h (by decide), fun _ => ?_⟩ | refine ⟨fun _ => ?_, fun h => absurd h (by decide)⟩ | refine ⟨fun _ => ?_, fun h => absurd rfl h⟩ | refine ⟨fun h => absurd rfl h, fun _ => ?_⟩)); try (conv => whnf)
      obtain ⟨L, l1, l2, l3⟩ := hA2
      refine hK I2 R2 S2 L (hT1.tr hT2 (fun x hx => Or.inl (hx.elim id id))) l1 (fro_iff l2 (fun x => ?_)) (Nat.le_trans l3 (Nat.pow_pos (by omega)))
      rw [hend x]
      unfold OA
      constructor
      · rintro (h | ⟨y, hy, e⟩)
        · exact h.elim
        · simp only [List.nil_append, List.mem_singleton] at hy
          exact ⟨q, e.trans hy⟩
      · rintro ⟨-, e⟩
        exact Or.inr ⟨_, by simp, e⟩
  | false =>
    show Ok P 7 (d + 6) [vr 34, vr 1, vi v, vi t, vi 0, vr s] I R S K
    refine Ok.of (by decide) rfl (Nat.le_of_ble_eq_true rfl) ?_
    refine Go.walk 400 [53] E7 E7_ok (fun G C hG hC => ?_)
    (repeat ((conv => whnf); first | refine ⟨_, by assumption, ?_⟩ | refine ⟨_, _, by assumption, ?_⟩ | refine ⟨(show _ ∧ _ by omega), ?_⟩ | refine ⟨(show _ ∨ _ by omega), ?_⟩ | refine ⟨fun h => absurd h (by decide), fun _ => ?_⟩ | refine ⟨fun _ => ?_, fun h => absurd h (by decide)⟩ | refine ⟨fun _ => ?_, fun h => absurd rfl h⟩ | refine ⟨fun h => absurd rfl h, fun _ => ?_⟩)); try (conv => whnf)
    refine hC _ _ _ _ _ _ ?_
    refine ok_clear c4 hfs (fun I1 hT1 hL1 => ?_)
    obtain ⟨d1, d2, d3, d4⟩ := hB0.go hT1
    (repeat ((conv => whnf); first | refine ⟨_, by assumption, ?_⟩ | refine ⟨_, _, by assumption, ?_⟩ | refine ⟨(show _ ∧ _ by omega), ?_⟩ | refine ⟨(show _ ∨ _ by omega), ?_⟩ | refine ⟨fun h => absurd h (by decide), fun _ => ?_⟩ | refine ⟨fun _ => ?_, fun h => absurd h (by decide)⟩ | refine ⟨fun _ => ?_, fun h => absurd rfl h⟩ | refine ⟨fun h => absurd rfl h, fun _ => ?_⟩)); try (conv => whnf)
    refine hC _ _ _ _ _ _ ?_
    refine ok_offerA (Z := fun _ => False) (g := fun x => x) (D := []) (l0 := 0) (y := (0, 900000, 0)) d4 hfs ⟨[], hL1, fro_iff fro_nil (fun x => (oa_nil (Z := fun _ => False) (g := fun x => x) (x := x)).symm), Nat.zero_le _⟩ (fun x hx => (oa_nil.mp hx).elim) ⟨by show iR 0; omega, by show iR 900000; omega, by show iR 0; omega⟩ (by simp) (fun I2 R2 S2 hT2 hA2 => ?_)
    (repeat ((conv => whnf); first | refine ⟨_, by assumption, ?_⟩ | refine ⟨_, _, by assumption, ?_⟩ | refine ⟨(show _ ∧ _ by omega), ?_⟩ | refine ⟨(show _ ∨ _ by omega), ?_⟩ | refine ⟨fun h => absurd h (by decide), fun _ => ?_⟩ | refine ⟨fun _ => ?_, fun h => absurd h (by decide)⟩ | refine ⟨fun _ => ?_, fun h => absurd rfl h⟩ | refine ⟨fun h => absurd rfl h, fun _ => ?_⟩)); try (conv => whnf)
    refine hG _ _ _ _ _ _ ?_
    obtain ⟨L, l1, l2, l3⟩ := hA2
    refine loop (n 0 - (v + 1)).toNat (v + 1) I2 R2 S2 (by omega) (by omega) hm (hT1.tr hT2 (fun x hx => Or.inl (hx.elim id id))) ⟨L, l1, fro_iff l2 (fun x => ?_), Nat.le_trans l3 (Nat.pow_pos (by omega))⟩
    unfold OA PX
    rw [rf_nil (Int.le_refl _)]
    constructor
    · rintro (h | ⟨y, hy, e⟩)
      · exact h.elim
      · simp only [List.nil_append, List.mem_singleton] at hy
        exact e.trans hy
    · intro e
      exact Or.inr ⟨_, by simp, e⟩
