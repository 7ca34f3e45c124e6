/-! the law's loop and its start; printed by wip/whole/genlaw2.py -/
theorem SS.cg2 {R R' : aR} {S T : aS} (h : SS R S) (hR : ∀ a, a < 361 → R' a = R a) : SS R' (S ++ T) := by
  obtain ⟨⟨a0, a1, a2, a3, a4, a5, a6, a7, a8, a9, a10⟩, ⟨b0, b1, b2, b3, b4, b5, b6⟩, c1, c2, c3, ⟨t0, q1, t1, q2, t2, q3, t3, q4, t4⟩, ⟨e0, f1, e1, f2, e2⟩, c6⟩ := h
  have r0 := hR 0 (by omega)
  have r100 := hR 100 (by omega)
  have r29 := hR 29 (by omega)
  have r326 := hR 326 (by omega)
  refine ⟨⟨at_app a0, ?_, ?_, ?_, ?_, ?_, ?_, ?_, ?_, ?_, ?_⟩, ⟨at_app b0, at_app b1, at_app b2, at_app b3, ?_, at_app b5, at_app b6⟩, fun j g0 g1 => ?_, fun j g0 g1 => ?_, fun a ha => ?_, ⟨at_app t0, ?_, at_app t1, ?_, at_app t2, ?_, at_app t3, ?_, at_app t4⟩, ⟨at_app e0, ?_, at_app e1, ?_, at_app e2⟩, c6.cg (hR 34 (by omega)) (hR 35 (by omega))⟩
  all_goals first | (rw [r0]; assumption) | (rw [r100]; assumption) | (rw [r29]; assumption) | (rw [r326]; assumption) | skip
  · rw [hR 330 (by omega)]; exact c1 j g0 g1
  · rw [hR 101 (by omega)]; exact c2 j g0 g1
  · exact (c3 a ha).cg (hR a (isNet_b ha).2.2)
theorem fs_init {R : aR} {S : aS} (hl : 377 ≤ S.length) (hF : ∀ f, fr f → F1 R S f (f + 1) (f + 2) (f + 3) 16) : FS R S ∧ ∀ f, fr f → lnF R S f = 16 := by
  have e : ∀ f (i : Int), fr f → 1 ≤ i → i ≤ 3 → (rg R f i : Int) = f + i := by
    intro f i hf h1 h3
    obtain ⟨s0, r1, s1, r2, s2, r3, s3⟩ := hF f hf
    rcases (show i = 1 ∨ i = 2 ∨ i = 3 by omega) with rfl | rfl | rfl
    · rw [rg_of r1]; omega
    · rw [rg_of r2]; omega
    · rw [rg_of r3]; omega
  have l16 : ∀ f, fr f → lnF R S f = 16 := fun f hf => by
    obtain ⟨s0, r1, s1, -⟩ := hF f hf
    exact lnF_of r1 s1
  refine ⟨⟨hl, fun f hf => ?_, fun f i hf h1 h3 => ?_, fun f g i j hf hg h1 h3 k1 k3 he => ?_⟩, l16⟩
  · obtain ⟨s0, r1, s1, r2, s2, r3, s3⟩ := hF f hf
    rw [rg_of r1, rg_of r2, rg_of r3, l16 f hf]
    exact ⟨hF f hf, Or.inl rfl⟩
  · have := e f i hf h1 h3
    omega
  · have a := e f i hf h1 h3
    have b := e g j hg k1 k3
    omega
theorem pot_bd {h : Nat → Nat} (hb : ∀ f, fr f → h f ≤ 1024) : pot h ≤ 16384 := by
  have q0 := hb 36 (by omega)
  have q1 := hb 40 (by omega)
  have q2 := hb 44 (by omega)
  have q3 := hb 48 (by omega)
  have q4 := hb 52 (by omega)
  have q5 := hb 56 (by omega)
  have q6 := hb 60 (by omega)
  have q7 := hb 64 (by omega)
  have q8 := hb 68 (by omega)
  have q9 := hb 72 (by omega)
  have q10 := hb 76 (by omega)
  have q11 := hb 80 (by omega)
  have q12 := hb 84 (by omega)
  have q13 := hb 88 (by omega)
  have q14 := hb 92 (by omega)
  have q15 := hb 96 (by omega)
  unfold pot
  omega
theorem room_ok {n : aN} {h : List aN} {B : List (Int × Int)} {sd : Int} {im : Int → Option (aN × Int)} {I : aI} {R : aR} {S : aS} (hC : CSt n h B sd im I R S) : S.length ≤ 600000 ∧ szs S ≤ 7302250 := by
  obtain ⟨-, c2, ⟨r1, r2⟩, -⟩ := hC
  have := pot_bd (h := lnF R S) (fun f hf => ((c2.2.1 f hf).2.b).2)
  omega
theorem law_loop {P : aP} (hL : pL P ≤ 3584) (hX : ∀ j, iR (pX P j)) : ∀ (m : Nat) (i : Int) (I : aI) (R : aR) (S : aS) (n : aN) (h : List aN) (B : List (Int × Int)) (sd : Int) (im : Int → Option (aN × Int)), 0 ≤ i → i ≤ 3591 → 3600 - i ≤ m → JS n h B sd im I R S → Go P qLaw 11 kLaw 18 [vx, vr 0, vr 361, vi i] [] I R S := by
  intro m
  induction m with
  | zero => intro i I R S n h B sd im g0 g1 g2; omega
  | succ m ih =>
    intro i I R S n h B sd im g0 g1 g2 hJ
    have next : i + 7 ≤ pL P → NxT P i := by
      intro hi I' R' S' n' h' B' sd' im' hJ'
      refine Go.walk 400 [18] (E140_16) (E140_16_ok) (fun G C hG hC => ?_)
      (repeat ((conv => whnf); first | refine ⟨_, by assumption, ?_⟩ | refine ⟨_, _, by assumption, ?_⟩ | refine ⟨(show _ ∧ _ by omega), ?_⟩ | refine ⟨(show _ ∨ _ by omega), ?_⟩ | refine ⟨fun h => absurd h (by decide), fun _ => ?_⟩ | refine ⟨fun _ => ?_, fun h => absurd h (by decide)⟩ | refine ⟨fun _ => ?_, fun h => absurd rfl h⟩ | refine ⟨fun h => absurd rfl h, fun _ => ?_⟩)); try (conv => whnf)
      refine hG _ _ _ _ _ _ ?_
      exact ih (i + 7) I' R' S' n' h' B' sd' im' (by omega) (by omega) (by omega) hJ'
    have hr := room_ok hJ.1
    have hand := iR_and (x := pX P i.toNat) (y := 31)
    refine Go.walk 400 [18, 925, 148, 171, 204, 237, 270, 323, 356, 379, 402, 435, 478, 531, 584, 607, 682, 705, 738, 751, 764, 787, 810, 843, 856, 879, 902] (E140_0 ++ (E140_16)) (List.forall_mem_append.mpr ⟨E140_0_ok, E140_16_ok⟩) (fun G C hG hC => ?_)
    (repeat ((conv => whnf); first | refine ⟨_, by assumption, ?_⟩ | refine ⟨_, _, by assumption, ?_⟩ | refine ⟨(show _ ∧ _ by omega), ?_⟩ | refine ⟨(show _ ∨ _ by omega), ?_⟩ | refine ⟨fun h => absurd h (by decide), fun _ => ?_⟩ | refine ⟨fun _ => ?_, fun h => absurd h (by decide)⟩ | refine ⟨fun _ => ?_, fun h => absurd rfl h⟩ | refine ⟨fun h => absurd rfl h, fun _ => ?_⟩)); try (conv => whnf)
    refine ⟨fun q => ?_, fun q => ?_⟩
    · (repeat ((conv => whnf); first | refine ⟨_, by assumption, ?_⟩ | refine ⟨_, _, by assumption, ?_⟩ | refine ⟨(show _ ∧ _ by omega), ?_⟩ | refine ⟨(show _ ∨ _ by omega), ?_⟩ | refine ⟨fun h => absurd h (by decide), fun _ => ?_⟩ | refine ⟨fun _ => ?_, fun h => absurd h (by decide)⟩ | refine ⟨fun _ => ?_, fun h => absurd rfl h⟩ | refine ⟨fun h => absurd rfl h, fun _ => ?_⟩)); try (conv => whnf)
      exact ⟨rfl, hr⟩
    · have hi : 0 ≤ i ∧ i + 7 ≤ pL P := ⟨g0, by omega⟩
      have nx1 := next hi.2
      (repeat ((conv => whnf); first | refine ⟨_, by assumption, ?_⟩ | refine ⟨_, _, by assumption, ?_⟩ | refine ⟨(show _ ∧ _ by omega), ?_⟩ | refine ⟨(show _ ∨ _ by omega), ?_⟩ | refine ⟨fun h => absurd h (by decide), fun _ => ?_⟩ | refine ⟨fun _ => ?_, fun h => absurd h (by decide)⟩ | refine ⟨fun _ => ?_, fun h => absurd rfl h⟩ | refine ⟨fun h => absurd rfl h, fun _ => ?_⟩)); try (conv => whnf)
      refine ⟨fun q => ?_, fun q => ?_, fun q => ?_, fun q => ?_, fun q => ?_, fun q => ?_, fun q => ?_, fun q => ?_, fun q => ?_, fun q => ?_, fun q => ?_, fun q => ?_, fun q => ?_, fun q => ?_, fun q => ?_, fun q => ?_, fun q => ?_, fun q => ?_, fun q => ?_, fun q => ?_, fun q => ?_, fun q => ?_, fun q => ?_, fun q => ?_, fun q => ?_, fun q => ?_, trivial⟩
      · refine hG _ _ _ _ _ _ ?_
        exact nx1 I R S n h B sd im hJ
      · refine hG _ _ _ _ _ _ ?_
        exact law_0 hL hX hi hJ nx1
      · refine hG _ _ _ _ _ _ ?_
        exact law_1 hL hX hi hJ nx1
      · refine hG _ _ _ _ _ _ ?_
        exact law_2 hL hX hi hJ nx1
      · refine hG _ _ _ _ _ _ ?_
        exact law_3 hL hX hi hJ nx1
      · refine hG _ _ _ _ _ _ ?_
        exact law_4 hL hX hi hJ nx1
      · refine hG _ _ _ _ _ _ ?_
        exact law_5 hL hX hi hJ nx1
      · refine hG _ _ _ _ _ _ ?_
        exact law_6 hL hX hi hJ nx1
      · refine hG _ _ _ _ _ _ ?_
        exact law_7 hL hX hi hJ nx1
      · refine hG _ _ _ _ _ _ ?_
        exact law_8 hL hX hi hJ nx1
      · refine hG _ _ _ _ _ _ ?_
        exact law_9 hL hX hi hJ nx1
      · refine hG _ _ _ _ _ _ ?_
        exact law_10 hL hX hi hJ nx1
      · refine hG _ _ _ _ _ _ ?_
        exact law_11 hL hX hi hJ nx1
      · refine hG _ _ _ _ _ _ ?_
        exact law_12 hL hX hi hJ nx1
      · refine hG _ _ _ _ _ _ ?_
        exact law_13 hL hX hi hJ nx1
      · refine hG _ _ _ _ _ _ ?_
        exact law_14 hL hX hi hJ nx1
      · refine hG _ _ _ _ _ _ ?_
        exact law_15 hL hX hi hJ nx1
      · refine hG _ _ _ _ _ _ ?_
        exact law_16 hL hX hi hJ nx1
      · refine hG _ _ _ _ _ _ ?_
        exact law_17 hL hX hi hJ nx1
      · refine hG _ _ _ _ _ _ ?_
        exact law_18 hL hX hi hJ nx1
      · refine hG _ _ _ _ _ _ ?_
        exact law_19 hL hX hi hJ nx1
      · refine hG _ _ _ _ _ _ ?_
        exact law_20 hL hX hi hJ nx1
      · refine hG _ _ _ _ _ _ ?_
        exact law_21 hL hX hi hJ nx1
      · refine hG _ _ _ _ _ _ ?_
        exact law_22 hL hX hi hJ nx1
      · refine hG _ _ _ _ _ _ ?_
        exact law_23 hL hX hi hJ nx1
      · refine hG _ _ _ _ _ _ ?_
        exact law_24 hL hX hi hJ nx1
theorem law_ok : lawOk := by
  intro P hL hX
  refine Go.walk 400 [18] (E140_0) (E140_0_ok) (fun G C hG hC => ?_)
  (repeat ((conv => whnf); first | refine ⟨_, by assumption, ?_⟩ | refine ⟨_, _, by assumption, ?_⟩ | refine ⟨(show _ ∧ _ by omega), ?_⟩ | refine ⟨(show _ ∨ _ by omega), ?_⟩ | refine ⟨fun h => absurd h (by decide), fun _ => ?_⟩ | refine ⟨fun _ => ?_, fun h => absurd h (by decide)⟩ | refine ⟨fun _ => ?_, fun h => absurd rfl h⟩ | refine ⟨fun h => absurd rfl h, fun _ => ?_⟩)); try (conv => whnf)
  refine hC _ _ _ _ _ _ ?_
  refine ok_newClass (S := [(7, 10)]) rfl rfl (fun I1 R1 S1 l1 k1 hI1 => ?_)
  have l1' : (S1 ++ [(8, 20)]).length = 361 + 1 := by rw [List.length_append, List.length_singleton, l1]
  have n1 : (S1 ++ [(8, 20)])[361]? = some (8, 20) := by rw [← l1]; exact at_new
  (repeat ((conv => whnf); first | refine ⟨_, by assumption, ?_⟩ | refine ⟨_, _, by assumption, ?_⟩ | refine ⟨(show _ ∧ _ by omega), ?_⟩ | refine ⟨(show _ ∨ _ by omega), ?_⟩ | refine ⟨fun h => absurd h (by decide), fun _ => ?_⟩ | refine ⟨fun _ => ?_, fun h => absurd h (by decide)⟩ | refine ⟨fun _ => ?_, fun h => absurd rfl h⟩ | refine ⟨fun h => absurd rfl h, fun _ => ?_⟩)); try (conv => whnf)
  rw [l1]
  refine hC _ _ _ _ _ _ ?_
  refine ok_newModel (S := S1 ++ [(8, 20)]) l1' n1 (fun k => zI_at) (fun I2 R2 S2 hN l2 k2 hM e2 z1 z5 => ?_)
  (repeat ((conv => whnf); first | refine ⟨_, by assumption, ?_⟩ | refine ⟨_, _, by assumption, ?_⟩ | refine ⟨(show _ ∧ _ by omega), ?_⟩ | refine ⟨(show _ ∨ _ by omega), ?_⟩ | refine ⟨fun h => absurd h (by decide), fun _ => ?_⟩ | refine ⟨fun _ => ?_, fun h => absurd h (by decide)⟩ | refine ⟨fun _ => ?_, fun h => absurd rfl h⟩ | refine ⟨fun h => absurd rfl h, fun _ => ?_⟩)); try (conv => whnf)
  refine hG _ _ _ _ _ _ ?_
  obtain ⟨⟨T, eT⟩, hx⟩ := hN
  have hR : ∀ x, x < 361 → R2 x = R1 x := fun x q => by rw [(hx x q).2, zR_ne (by omega)]
  have hI : ∀ x, x < 361 → I2 x = I1 x := fun x q => by rw [(hx x q).1, zI_ne (by omega)]
  have eS : S2 = S1 ++ ([(8, 20)] ++ T) := by rw [eT, List.append_assoc]
  obtain ⟨c1, c2, c3, c4, c5, c6, c7, c8⟩ := hI1
  have hFS := fs_init (R := R2) (S := S2) (by omega) (fun f hf => by rw [eS]; exact (c2 f hf).app (hR f (by omega)))
  have hsz : szs S2 = 7332 := by
    have u1 : szs (S1 ++ [(8, 20)]) = szs S1 + 20 := szs_1
    have u2 : szs ([(7, 10)] : aS) = 10 := rfl
    rw [k2, u1, k1, u2]
  have hpt : pot (lnF R2 S2) = 256 := by
    unfold pot
    rw [hFS.2 36 (by omega), hFS.2 40 (by omega), hFS.2 44 (by omega), hFS.2 48 (by omega), hFS.2 52 (by omega), hFS.2 56 (by omega), hFS.2 60 (by omega), hFS.2 64 (by omega), hFS.2 68 (by omega), hFS.2 72 (by omega), hFS.2 76 (by omega), hFS.2 80 (by omega), hFS.2 84 (by omega), hFS.2 88 (by omega), hFS.2 92 (by omega), hFS.2 96 (by omega)]
  refine law_loop hL hX 3600 0 I2 R2 S2 nz [] [] 0 (fun _ => none) (by omega) (by omega) (by omega) ⟨⟨by rw [eS]; exact c1.cg2 hR, hFS.1, ⟨by rw [hsz, hpt], by rw [hsz, l2]; omega⟩, c3.cg (fun x g1 g2 => hI x (by omega)), ⟨by rw [hI 100 (by omega)]; exact c4.2, by simp, by rw [hI 100 (by omega), c4.1]; omega, fun j m hj => by simp at hj⟩, ⟨by rw [hI 326 (by omega)]; exact c5, by simp, fun j p hj => by simp at hj⟩, by rw [hI 329 (by omega)]; exact c6, fun j p0 p1 => ?_, Or.inl (by rw [hI 34 (by omega)]; exact c8)⟩, ⟨hM, e2, ⟨z1 3, by simp, fun j m hj => by simp at hj⟩, ⟨z1 8, by simp, fun j p hj => by simp at hj⟩, z1 1, fun j p0 p1 => z5 j⟩, nz_WF, fun m hm => absurd hm List.not_mem_nil, fun p hp => absurd hp List.not_mem_nil, by omega, fun j q hq => by cases hq⟩
  show I2 332 j = 0
  rw [hI 332 (by omega)]
  exact c7 j
