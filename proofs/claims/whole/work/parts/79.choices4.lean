/-! the Choices of the class: equip -/
def bc (t : Int) : Nat := if t = 0 then 40 else 44
theorem bc_fr (t : Int) : fr (bc t) ∧ bc t < 48 ∧ (bc t = 40 ∨ bc t = 44) := by
  unfold bc
  split <;> omega
/-- at k: what no repeater and the kinds ahead of k make of what can be had below -/
def EK (n : aN) (LL : Int → List aT) (t k : Int) : aT → Prop := fun x => x ∈ LL t ∨ ∃ j, 1 ≤ j ∧ j < k ∧ isK n j ∧ ∃ y ∈ LL ((t + kf n j 5) % 2), x = dr n j y
theorem ek_no {n : aN} {LL : Int → List aT} {t k : Int} (hk : ¬ isK n k) {x : aT} : EK n LL t k x ↔ EK n LL t (k + 1) x := by
  unfold EK
  constructor
  · rintro (h | ⟨j, h1, h2, h3⟩)
    · exact Or.inl h
    · exact Or.inr ⟨j, h1, by omega, h3⟩
  · rintro (h | ⟨j, h1, h2, h3, h4⟩)
    · exact Or.inl h
    · refine Or.inr ⟨j, h1, ?_, h3, h4⟩
      by_cases e : j = k
      · subst e; exact absurd h3 hk
      · omega
theorem ek_yes {n : aN} {LL : Int → List aT} {t k : Int} (hk : isK n k) {x : aT} : OA (EK n LL t k) (dr n k) (LL ((t + kf n k 5) % 2)) x ↔ EK n LL t (k + 1) x := by
  unfold OA EK
  constructor
  · rintro ((h | ⟨j, h1, h2, h3⟩) | ⟨y, hy, e⟩)
    · exact Or.inl h
    · exact Or.inr ⟨j, h1, by omega, h3⟩
    · exact Or.inr ⟨k, hk.1, by omega, hk, y, hy, e⟩
  · rintro (h | ⟨j, h1, h2, h3, y, hy, e⟩)
    · exact Or.inl (Or.inl h)
    · by_cases q : j = k
      · subst q; exact Or.inr ⟨y, hy, e⟩
      · exact Or.inl (Or.inr ⟨j, h1, by omega, h3, y, hy, e⟩)
theorem ek_fro {n : aN} (hW : WF n) {W B : Int → Int → aT → Prop} {sz : Int → Nat} (hE : SE n W B sz) {v t : Int} (h1 : 1 ≤ v) (h2 : v < n 0) (t0 : 0 ≤ t) (t1 : t ≤ 1) {LL : Int → List aT} (hLL : ∀ t, 0 ≤ t → t ≤ 1 → Fro (LL t) (B v t)) {L : List aT} (h : Fro L (EK n LL t 4)) : Fro L (W v t) := by
  refine fro_of h (fun x hx => ?_) (fun x hx => ?_)
  · rw [hE.1 v t x h1 h2 t0 t1]
    rcases hx with hx | ⟨j, g1, g2, g3, y, hy, e⟩
    · exact Or.inl ((hLL t t0 t1).2.1 x hx)
    · exact Or.inr ⟨j, y, g3, (hLL ((t + kf n j 5) % 2) (by omega) (by omega)).2.1 y hy, e⟩
  · rw [hE.1 v t x h1 h2 t0 t1] at hx
    rcases hx with hx | ⟨j, y, g3, hy, rfl⟩
    · obtain ⟨o, ho, hb⟩ := (hLL t t0 t1).2.2.1 x hx
      exact ⟨o, Or.inl ho, hb⟩
    · obtain ⟨o, ho, hb⟩ := (hLL ((t + kf n j 5) % 2) (by omega) (by omega)).2.2.1 y hy
      exact ⟨dr n j o, Or.inr ⟨j, g3.1, by have := g3.2.1; omega, g3, o, ho, rfl⟩, dr_mono hW ⟨g3.1, g3.2.1⟩ hb⟩
/-- equip(net, v, t) -/
theorem ok_equip {P : aP} {d : Nat} {K : aK} {I : aI} {R : aR} {S : aS} {n : aN} {W B : Int → Int → aT → Prop} {sz : Int → Nat} {v t : Int} {LL : Int → List aT} {c : Nat} (hW : WF n) (hB0 : CB n I R S) (hE : SE n W B sz) (hv : 1 ≤ v ∧ v < n 0) (ht : 0 ≤ t ∧ t ≤ 1) (hc : 4 * c ≤ 1024)
    (hLL : ∀ t, 0 ≤ t → t ≤ 1 → FL I R S (bc t) (LL t) ∧ Fro (LL t) (B v t) ∧ (LL t).length ≤ c)
    (hK : ∀ I' R' S' L, ChT (fun x => x = rowc v t) I R S I' R' S' → FL I' R' S' (rowc v t) L → Fro L (W v t) → L.length ≤ 4 * c → K none I' R' S') : Ok P 9 (d + 6) [vr 34, vr 1, vi v, vi t] I R S K := by
  have hN := hW.1
  obtain ⟨hrf, hr52⟩ := rowc_fr (v := v) (t := t) (by omega) (by omega) ht.1 ht.2
  have hbB : ∀ t, 0 ≤ t → t ≤ 1 → ∀ y ∈ LL t, bB y := fun t t0 t1 y hy => (hE.2.2.2.2.1 v t y (by omega) hv.2 t0 t1 (hE.bw (by omega) hv.2 t0 t1 ((hLL t t0 t1).2.1.2.1 y hy))).bB
  have hekR : ∀ k x, k ≤ 4 → EK n LL t k x → tR x := by
    rintro k x hk (h | ⟨j, g1, g2, g3, y, hy, rfl⟩)
    · exact (hbB t ht.1 ht.2 x h).tR
    · exact dr_bB hW ⟨g1, by omega⟩ (hbB _ (by omega) (by omega) y hy)
  have kinds : ∀ (m : Nat) (k : Int) (I' : aI) (R' : aR) (S' : aS) (z5 z7 : aV), 1 ≤ k → 4 - k = m → ChT (fun x => x = rowc v t) I R S I' R' S' → (∃ L, FL I' R' S' (rowc v t) L ∧ Fro L (EK n LL t k) ∧ (L.length : Int) ≤ k * c) → Go P 9 (d + 6) K 81 [vr 34, vr 1, vi v, vi t, vr (rowc v t), z5, vi k, z7] [] I' R' S' := by
    intro m
    induction m with
    | zero =>
      intro k I' R' S' z5 z7 g0 gm hT hL
      have hk4 : k = 4 := by omega
      subst hk4
      obtain ⟨L, l1, l2, l3⟩ := hL
      refine Go.walk 400 [81] E9 E9_ok (fun G C hG hC => ?_)
      (repeat ((conv => whnf); first | refine ⟨_, by assumption, ?_⟩ | refine ⟨_, _, by assumption, ?_⟩ | refine ⟨(show _ ∧ _ by omega), ?_⟩ | refine ⟨(show _ ∨ _ by omega), ?_⟩ | refine ⟨fun h => absurd h (by decide), fun _ => ?_⟩ | refine ⟨fun _ => ?_, fun h => absurd h (by decide)⟩ | refine ⟨fun _ => ?_, fun h => absurd rfl h⟩ | refine ⟨fun h => absurd rfl h, fun _ => ?_⟩)); try (conv => whnf)
      exact hK I' R' S' L hT l1 (ek_fro hW hE hv.1 hv.2 ht.1 ht.2 (fun t t0 t1 => (hLL t t0 t1).2.1) l2) (by omega)
    | succ m ih =>
      intro k I' R' S' z5 z7 g0 gm hT hL
      obtain ⟨c1, c2, c3, c4⟩ := hB0.go hT
      obtain ⟨x0, x1, x2, x3, x4, x5, x6, x7⟩ := id c1
      obtain ⟨L, l1, l2, l3⟩ := hL
      have hkl : (k + 1) * (c : Int) = k * c + c := by rw [Int.add_mul, Int.one_mul]
      have hkc : k * (c : Int) ≤ 3 * c := Int.mul_le_mul_of_nonneg_right (by omega) (by omega)
      obtain ⟨-, -, -, -, k5⟩ := c3.2.2.1 k g0 (by omega)
      have k5' : I' 14 k = kf n k 5 := k5
      have hkb := (hW.2.2.2.2.2 k g0 (by omega)).2.2.2.2.2
      have hx := xor01 ht hkb
      obtain ⟨s0, sr1, sm1, sr2, sm2, sr3, sm3, sr4, sm4, sr5, sm5, sr6, sm6, sr7, sm7, sr8, sm8, sr9, sm9, sr10, sm10, sr11, sm11, sr12, sm12, sr13, sm13⟩ := id c2
      have drive : isK n k → ∀ z : Nat, z = bc ((t + kf n k 5) % 2) → Go P 9 (d + 6) K 119 [vr 34, vr 1, vi v, vi t, vr (rowc v t), z5, vi k, z7] [vr z] I' R' S' := by
        intro hk z hz
        subst hz
        have htt := hLL ((t + kf n k 5) % 2) (by omega) (by omega)
        have hbf := bc_fr ((t + kf n k 5) % 2)
        have hL2 := hT.2.2.2.2.1 (bc ((t + kf n k 5) % 2)) hbf.1 (by omega) _ htt.1
        refine Go.walk 400 [81] E9 E9_ok (fun G C hG hC => ?_)
        (repeat ((conv => whnf); first | refine ⟨_, by assumption, ?_⟩ | refine ⟨_, _, by assumption, ?_⟩ | refine ⟨(show _ ∧ _ by omega), ?_⟩ | refine ⟨(show _ ∨ _ by omega), ?_⟩ | refine ⟨fun h => absurd h (by decide), fun _ => ?_⟩ | refine ⟨fun _ => ?_, fun h => absurd h (by decide)⟩ | refine ⟨fun _ => ?_, fun h => absurd rfl h⟩ | refine ⟨fun h => absurd rfl h, fun _ => ?_⟩)); try (conv => whnf)
        refine hC _ _ _ _ _ _ ?_
        refine ok_driveAll (l0 := (k * c).toNat) hW (hB0.go hT) ⟨g0, by omega⟩ hbf.1 hrf (by omega) hL2 (hbB _ (by omega) (by omega)) (fun x hx => hekR k x (by omega) hx) ⟨L, l1, fro_iff l2 (fun x => oa_nil.symm), by rw [List.length_nil]; omega⟩ (by omega) (fun I2 R2 S2 hT2 hA2 => ?_)
        (repeat ((conv => whnf); first | refine ⟨_, by assumption, ?_⟩ | refine ⟨_, _, by assumption, ?_⟩ | refine ⟨(show _ ∧ _ by omega), ?_⟩ | refine ⟨(show _ ∨ _ by omega), ?_⟩ | refine ⟨fun h => absurd h (by decide), fun _ => ?_⟩ | refine ⟨fun _ => ?_, fun h => absurd h (by decide)⟩ | refine ⟨fun _ => ?_, fun h => absurd rfl h⟩ | refine ⟨fun h => absurd rfl h, fun _ => ?_⟩)); try (conv => whnf)
        refine hG _ _ _ _ _ _ ?_
        obtain ⟨L2, m1, m2, m3⟩ := hA2
        exact ih (k + 1) I2 R2 S2 _ _ (by omega) (by omega) (hT.tr hT2 (fun x hx => hx.elim id id)) ⟨L2, m1, fro_iff m2 (fun x => ek_yes hk), by omega⟩
      refine Go.walk 400 [81, 119] E9 E9_ok (fun G C hG hC => ?_)
      (repeat ((conv => whnf); first | refine ⟨_, by assumption, ?_⟩ | refine ⟨_, _, by assumption, ?_⟩ | refine ⟨(show _ ∧ _ by omega), ?_⟩ | refine ⟨(show _ ∨ _ by omega), ?_⟩ | refine ⟨fun h => absurd h (by decide), fun _ => ?_⟩ | refine ⟨fun _ => ?_, fun h => absurd h (by decide)⟩ | refine ⟨fun _ => ?_, fun h => absurd rfl h⟩ | refine ⟨fun h => absurd rfl h, fun _ => ?_⟩)); try (conv => whnf)
      refine ⟨fun q => absurd q (by omega), fun _ => ?_⟩
      (repeat ((conv => whnf); first | refine ⟨_, by assumption, ?_⟩ | refine ⟨_, _, by assumption, ?_⟩ | refine ⟨(show _ ∧ _ by omega), ?_⟩ | refine ⟨(show _ ∨ _ by omega), ?_⟩ | refine ⟨fun h => absurd h (by decide), fun _ => ?_⟩ | refine ⟨fun _ => ?_, fun h => absurd h (by decide)⟩ | refine ⟨fun _ => ?_, fun h => absurd rfl h⟩ | refine ⟨fun h => absurd rfl h, fun _ => ?_⟩)); try (conv => whnf)
      refine hC _ _ _ _ _ _ ?_
      refine ok_hasKind c2 c3 (by omega) (fun hk => ?_) (fun hk => ?_)
      · (repeat ((conv => whnf); first | refine ⟨_, by assumption, ?_⟩ | refine ⟨_, _, by assumption, ?_⟩ | refine ⟨(show _ ∧ _ by omega), ?_⟩ | refine ⟨(show _ ∨ _ by omega), ?_⟩ | refine ⟨fun h => absurd h (by decide), fun _ => ?_⟩ | refine ⟨fun _ => ?_, fun h => absurd h (by decide)⟩ | refine ⟨fun _ => ?_, fun h => absurd rfl h⟩ | refine ⟨fun h => absurd rfl h, fun _ => ?_⟩)); try (conv => whnf)
        rw [k5', hx]
        refine ⟨by omega, fun q => ?_, fun q => ?_⟩
        · (repeat ((conv => whnf); first | refine ⟨_, by assumption, ?_⟩ | refine ⟨_, _, by assumption, ?_⟩ | refine ⟨(show _ ∧ _ by omega), ?_⟩ | refine ⟨(show _ ∨ _ by omega), ?_⟩ | refine ⟨fun h => absurd h (by decide), fun _ => ?_⟩ | refine ⟨fun _ => ?_, fun h => absurd h (by decide)⟩ | refine ⟨fun _ => ?_, fun h => absurd rfl h⟩ | refine ⟨fun h => absurd rfl h, fun _ => ?_⟩)); try (conv => whnf)
          refine hG _ _ _ _ _ _ ?_
          exact drive hk 44 (by unfold bc; rw [if_neg q])
        · (repeat ((conv => whnf); first | refine ⟨_, by assumption, ?_⟩ | refine ⟨_, _, by assumption, ?_⟩ | refine ⟨(show _ ∧ _ by omega), ?_⟩ | refine ⟨(show _ ∨ _ by omega), ?_⟩ | refine ⟨fun h => absurd h (by decide), fun _ => ?_⟩ | refine ⟨fun _ => ?_, fun h => absurd h (by decide)⟩ | refine ⟨fun _ => ?_, fun h => absurd rfl h⟩ | refine ⟨fun h => absurd rfl h, fun _ => ?_⟩)); try (conv => whnf)
          refine hG _ _ _ _ _ _ ?_
          exact drive hk 40 (by unfold bc; rw [if_pos q])
      · have ihn := ih (k + 1) I' R' S' z5 z7 (by omega) (by omega) hT ⟨L, l1, fro_iff l2 (fun x => ek_no hk), by omega⟩
        (repeat ((conv => whnf); first | refine ⟨_, by assumption, ?_⟩ | refine ⟨_, _, by assumption, ?_⟩ | refine ⟨(show _ ∧ _ by omega), ?_⟩ | refine ⟨(show _ ∨ _ by omega), ?_⟩ | refine ⟨fun h => absurd h (by decide), fun _ => ?_⟩ | refine ⟨fun _ => ?_, fun h => absurd h (by decide)⟩ | refine ⟨fun _ => ?_, fun h => absurd rfl h⟩ | refine ⟨fun h => absurd rfl h, fun _ => ?_⟩)); try (conv => whnf)
        refine hG _ _ _ _ _ _ ?_
        exact ihn
  obtain ⟨hbf, hb48, -⟩ := bc_fr t
  obtain ⟨hLt, hFt, hct⟩ := hLL t ht.1 ht.2
  have bare : ∀ (T D : List aT) (I' : aI) (R' : aR) (S' : aS) (z : aV), LL t = D ++ T → ChT (fun x => x = rowc v t) I R S I' R' S' → Acc I' R' S' (rowc v t) (fun _ => False) (fun x => x) D 0 → Go P 9 (d + 6) K 33 [vr 34, vr 1, vi v, vi t, vr (rowc v t), vr (bc t), vi D.length, z] [] I' R' S' := by
    intro T
    induction T with
    | nil =>
      intro D I' R' S' z hD hT hA'
      rw [List.append_nil] at hD
      have hlen : (LL t).length = D.length := by rw [hD]
      have hL' := hT.2.2.2.2.1 (bc t) hbf (by omega) _ hLt
      obtain ⟨⟨s0, r1, s1, r2, s2, r3, s3⟩, hln⟩ := hT.2.2.2.1.2.1 (bc t) hbf
      have e0 : I' (bc t) ((0 : Nat) : Int) = (LL t).length := hL'.1
      obtain ⟨L, l1, l2, l3⟩ := hA'
      refine Go.walk 400 [33, 81] E9 E9_ok (fun G C hG hC => ?_)
      (repeat ((conv => whnf); first | refine ⟨_, by assumption, ?_⟩ | refine ⟨_, _, by assumption, ?_⟩ | refine ⟨(show _ ∧ _ by omega), ?_⟩ | refine ⟨(show _ ∨ _ by omega), ?_⟩ | refine ⟨fun h => absurd h (by decide), fun _ => ?_⟩ | refine ⟨fun _ => ?_, fun h => absurd h (by decide)⟩ | refine ⟨fun _ => ?_, fun h => absurd rfl h⟩ | refine ⟨fun h => absurd rfl h, fun _ => ?_⟩)); try (conv => whnf)
      rw [e0]
      refine ⟨fun _ => ?_, fun q => absurd (show ((LL t).length : Int) ≤ D.length by omega) q⟩
      (repeat ((conv => whnf); first | refine ⟨_, by assumption, ?_⟩ | refine ⟨_, _, by assumption, ?_⟩ | refine ⟨(show _ ∧ _ by omega), ?_⟩ | refine ⟨(show _ ∨ _ by omega), ?_⟩ | refine ⟨fun h => absurd h (by decide), fun _ => ?_⟩ | refine ⟨fun _ => ?_, fun h => absurd h (by decide)⟩ | refine ⟨fun _ => ?_, fun h => absurd rfl h⟩ | refine ⟨fun h => absurd rfl h, fun _ => ?_⟩)); try (conv => whnf)
      refine hG _ _ _ _ _ _ ?_
      refine kinds 3 1 I' R' S' _ _ (by omega) (by omega) hT ⟨L, l1, fro_iff l2 (fun x => ?_), by omega⟩
      rw [← hD]
      unfold OA EK
      constructor
      · rintro (h | ⟨y, hy, e⟩)
        · exact h.elim
        · exact Or.inl (e ▸ hy)
      · rintro (h | ⟨j, g1, g2, -⟩)
        · exact Or.inr ⟨x, h, rfl⟩
        · omega
    | cons y T ih =>
      intro D I' R' S' z hD hT hA'
      have hlen : (LL t).length = D.length + (T.length + 1) := by rw [hD, List.length_append, List.length_cons]
      have hL' := hT.2.2.2.2.1 (bc t) hbf (by omega) _ hLt
      obtain ⟨c1, c2, c3, c4⟩ := hB0.go hT
      obtain ⟨⟨s0, r1, s1, r2, s2, r3, s3⟩, hln⟩ := c4.2.1 (bc t) hbf
      have sf := (c4.2.1 (rowc v t) hrf).1.1
      have e0 : I' (bc t) ((0 : Nat) : Int) = (LL t).length := hL'.1
      have hll := hL'.2.1
      have hlb := hln.b
      have hL2 := hL'
      rw [hD] at hL2
      obtain ⟨y1, y2, y3⟩ := hL2.at
      have hyB := hbB t ht.1 ht.2 y (by rw [hD]; simp)
      refine Go.walk 400 [33, 81] E9 E9_ok (fun G C hG hC => ?_)
      (repeat ((conv => whnf); first | refine ⟨_, by assumption, ?_⟩ | refine ⟨_, _, by assumption, ?_⟩ | refine ⟨(show _ ∧ _ by omega), ?_⟩ | refine ⟨(show _ ∨ _ by omega), ?_⟩ | refine ⟨fun h => absurd h (by decide), fun _ => ?_⟩ | refine ⟨fun _ => ?_, fun h => absurd h (by decide)⟩ | refine ⟨fun _ => ?_, fun h => absurd rfl h⟩ | refine ⟨fun h => absurd rfl h, fun _ => ?_⟩)); try (conv => whnf)
      rw [e0]
      refine ⟨fun q => absurd q (by omega), fun _ => ?_⟩
      (repeat ((conv => whnf); first | refine ⟨_, by assumption, ?_⟩ | refine ⟨_, _, by assumption, ?_⟩ | refine ⟨(show _ ∧ _ by omega), ?_⟩ | refine ⟨(show _ ∨ _ by omega), ?_⟩ | refine ⟨fun h => absurd h (by decide), fun _ => ?_⟩ | refine ⟨fun _ => ?_, fun h => absurd h (by decide)⟩ | refine ⟨fun _ => ?_, fun h => absurd rfl h⟩ | refine ⟨fun h => absurd rfl h, fun _ => ?_⟩)); try (conv => whnf)
      rw [y1, y2, y3]
      refine hC _ _ _ _ _ _ ?_
      refine ok_offerA (g := fun x => x) (y := y) c4 hrf hA' (fun x hx => ?_) hyB.tR (by omega) (fun I2 R2 S2 hT2 hA2 => ?_)
      · rcases hx with hx | ⟨w, hw, rfl⟩
        · exact hx.elim
        · exact (hbB t ht.1 ht.2 _ (by rw [hD]; simp [hw])).tR
      · (repeat ((conv => whnf); first | refine ⟨_, by assumption, ?_⟩ | refine ⟨_, _, by assumption, ?_⟩ | refine ⟨(show _ ∧ _ by omega), ?_⟩ | refine ⟨(show _ ∨ _ by omega), ?_⟩ | refine ⟨fun h => absurd h (by decide), fun _ => ?_⟩ | refine ⟨fun _ => ?_, fun h => absurd h (by decide)⟩ | refine ⟨fun _ => ?_, fun h => absurd rfl h⟩ | refine ⟨fun h => absurd rfl h, fun _ => ?_⟩)); try (conv => whnf)
        refine hG _ _ _ _ _ _ ?_
        have h := ih (D ++ [y]) I2 R2 S2 z (by rw [hD, List.append_assoc]; rfl) (hT.tr hT2 (fun x hx => hx.elim id id)) hA2
        rw [List.length_append, List.length_singleton] at h
        exact h
  obtain ⟨c1, c2, c3, c4⟩ := id hB0
  obtain ⟨x0, x1, x2, x3, x4, x5, x6, x7⟩ := id c1
  have sf := (c4.2.1 (rowc v t) hrf).1.1
  have start : ∀ (I' : aI), ChT (fun x => x = rowc v t) I R S I' R S → FL I' R S (rowc v t) [] → ∀ z6 z7 : aV, Go P 9 (d + 6) K 28 [vr 34, vr 1, vi v, vi t, vr (rowc v t), vu, z6, z7] [vr (bc t)] I' R S := by
    intro I' hT hL z6 z7
    refine Go.walk 400 [33] E9 E9_ok (fun G C hG hC => ?_)
    (repeat ((conv => whnf); first | refine ⟨_, by assumption, ?_⟩ | refine ⟨_, _, by assumption, ?_⟩ | refine ⟨(show _ ∧ _ by omega), ?_⟩ | refine ⟨(show _ ∨ _ by omega), ?_⟩ | refine ⟨fun h => absurd h (by decide), fun _ => ?_⟩ | refine ⟨fun _ => ?_, fun h => absurd h (by decide)⟩ | refine ⟨fun _ => ?_, fun h => absurd rfl h⟩ | refine ⟨fun h => absurd rfl h, fun _ => ?_⟩)); try (conv => whnf)
    refine hG _ _ _ _ _ _ ?_
    exact bare (LL t) [] I' R S _ rfl hT ⟨[], hL, fro_iff fro_nil (fun x => (oa_nil (Z := fun _ => False) (g := fun x => x) (x := x)).symm), Nat.zero_le _⟩
  refine Ok.of (by decide) rfl (Nat.le_of_ble_eq_true rfl) ?_
  refine Go.walk 400 [28] E9 E9_ok (fun G C hG hC => ?_)
  (repeat ((conv => whnf); first | refine ⟨_, by assumption, ?_⟩ | refine ⟨_, _, by assumption, ?_⟩ | refine ⟨(show _ ∧ _ by omega), ?_⟩ | refine ⟨(show _ ∨ _ by omega), ?_⟩ | refine ⟨fun h => absurd h (by decide), fun _ => ?_⟩ | refine ⟨fun _ => ?_, fun h => absurd h (by decide)⟩ | refine ⟨fun _ => ?_, fun h => absurd rfl h⟩ | refine ⟨fun h => absurd rfl h, fun _ => ?_⟩)); try (conv => whnf)
  refine hC _ _ _ _ _ _ ?_
  refine ok_row c1 (by omega) (by omega) ht.1 ht.2 ?_
  (repeat ((conv => whnf); first | refine ⟨_, by assumption, ?_⟩ | refine ⟨_, _, by assumption, ?_⟩ | refine ⟨(show _ ∧ _ by omega), ?_⟩ | refine ⟨(show _ ∨ _ by omega), ?_⟩ | refine ⟨fun h => absurd h (by decide), fun _ => ?_⟩ | refine ⟨fun _ => ?_, fun h => absurd h (by decide)⟩ | refine ⟨fun _ => ?_, fun h => absurd rfl h⟩ | refine ⟨fun h => absurd rfl h, fun _ => ?_⟩)); try (conv => whnf)
  refine hC _ _ _ _ _ _ ?_
  refine ok_clear c4 hrf (fun I1 hT1 hL1 => ?_)
  have st1 := start I1 hT1 hL1
  unfold bc at st1
  (repeat ((conv => whnf); first | refine ⟨_, by assumption, ?_⟩ | refine ⟨_, _, by assumption, ?_⟩ | refine ⟨(show _ ∧ _ by omega), ?_⟩ | refine ⟨(show _ ∨ _ by omega), ?_⟩ | refine ⟨fun h => absurd h (by decide), fun _ => ?_⟩ | refine ⟨fun _ => ?_, fun h => absurd h (by decide)⟩ | refine ⟨fun _ => ?_, fun h => absurd rfl h⟩ | refine ⟨fun h => absurd rfl h, fun _ => ?_⟩)); try (conv => whnf)
  refine ⟨fun q => ?_, fun q => ?_⟩
  · rw [if_neg q] at st1
    (repeat ((conv => whnf); first | refine ⟨_, by assumption, ?_⟩ | refine ⟨_, _, by assumption, ?_⟩ | refine ⟨(show _ ∧ _ by omega), ?_⟩ | refine ⟨(show _ ∨ _ by omega), ?_⟩ | refine ⟨fun h => absurd h (by decide), fun _ => ?_⟩ | refine ⟨fun _ => ?_, fun h => absurd h (by decide)⟩ | refine ⟨fun _ => ?_, fun h => absurd rfl h⟩ | refine ⟨fun h => absurd rfl h, fun _ => ?_⟩)); try (conv => whnf)
    refine hG _ _ _ _ _ _ ?_
    exact st1 _ _
  · rw [if_pos q] at st1
    (repeat ((conv => whnf); first | refine ⟨_, by assumption, ?_⟩ | refine ⟨_, _, by assumption, ?_⟩ | refine ⟨(show _ ∧ _ by omega), ?_⟩ | refine ⟨(show _ ∨ _ by omega), ?_⟩ | refine ⟨fun h => absurd h (by decide), fun _ => ?_⟩ | refine ⟨fun _ => ?_, fun h => absurd h (by decide)⟩ | refine ⟨fun _ => ?_, fun h => absurd rfl h⟩ | refine ⟨fun h => absurd rfl h, fun _ => ?_⟩)); try (conv => whnf)
    refine hG _ _ _ _ _ _ ?_
    exact st1 _ _
