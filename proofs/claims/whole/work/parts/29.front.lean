/-! fronts: lists of triples of which none is beaten -/
def lt2 (x y : aT) : Prop := x.1 < y.1 ∨ (x.1 = y.1 ∧ x.2.2 < y.2.2)
def Fro (L : List aT) (X : aT → Prop) : Prop := L.Pairwise lt2 ∧ (∀ x ∈ L, X x) ∧ (∀ x, X x → ∃ o ∈ L, wb o x = true) ∧ (∀ x ∈ L, ∀ y ∈ L, wb x y = true → x = y)
theorem wb_rfl (x : aT) : wb x x = true := wb_iff.mpr ⟨Int.le_refl _, Int.le_refl _, Int.le_refl _⟩
theorem wb_trans {x y z : aT} (h1 : wb x y = true) (h2 : wb y z = true) : wb x z = true := by
  rw [wb_iff] at *
  omega
theorem wb_anti {x y : aT} (h1 : wb x y = true) (h2 : wb y x = true) : x = y := by
  rw [wb_iff] at *
  obtain ⟨a, b, c⟩ := x
  obtain ⟨a', b', c'⟩ := y
  simp only at h1 h2
  have e1 : a = a' := by omega
  have e2 : b = b' := by omega
  have e3 : c = c' := by omega
  rw [e1, e2, e3]
theorem lt2_trans {x y z : aT} (h1 : lt2 x y) (h2 : lt2 y z) : lt2 x z := by
  unfold lt2 at *
  omega
theorem lt2_irrefl {x : aT} : ¬ lt2 x x := by
  unfold lt2
  omega
theorem mts_fro {L L' : List aT} {t : aT} {X : aT → Prop} (h : Fro L X) (hm : Mts L t L') : Fro L' (fun x => X x ∨ x = t) := by
  obtain ⟨hs, hX, hc, ha⟩ := h
  rcases hm with ⟨hany, rfl⟩ | ⟨hany, A, B, hM, hB, hA, rfl⟩
  · obtain ⟨o, ho, hb⟩ := List.any_eq_true.mp hany
    refine ⟨hs, fun x hx => Or.inl (hX x hx), fun x hx => ?_, ha⟩
    rcases hx with hx | rfl
    · exact hc x hx
    · exact ⟨o, ho, hb⟩
  · have hno : ∀ o ∈ L, wb o t = false := fun o ho => by
      have := List.any_eq_false.mp hany o ho
      simpa using this
    have hmem : ∀ x, x ∈ A ++ B ↔ x ∈ L ∧ wb t x = false := fun x => by
      rw [← hM, List.mem_filter]
      simp
    have hMs : (A ++ B).Pairwise lt2 := by rw [← hM]; exact hs.filter _
    obtain ⟨pA, pB, pAB⟩ := List.pairwise_append.mp hMs
    have hAt : ∀ x ∈ A, lt2 x t := by
      intro x hx
      have hne : A ≠ [] := fun e => by rw [e] at hx; cases hx
      have hz : A = A.dropLast ++ [A.getLast hne] := (List.dropLast_concat_getLast hne).symm
      have hzn := hA _ _ hz
      have hzm := (hmem (A.getLast hne)).mp (List.mem_append.mpr (Or.inl (List.getLast_mem hne)))
      have hlast : lt2 (A.getLast hne) t := by
        have h1 := hno _ hzm.1
        have h2 := hzm.2
        simp only [wb, Bool.and_eq_false_iff, decide_eq_false_iff_not] at h1 h2
        unfold gtl at hzn
        unfold lt2
        omega
      rw [hz] at hx pA
      rcases List.mem_append.mp hx with hx | hx
      · exact lt2_trans ((List.pairwise_append.mp pA).2.2 x hx _ (List.mem_singleton_self _)) hlast
      · rw [List.mem_singleton.mp hx]; exact hlast
    have hBt : ∀ x ∈ B, lt2 t x := by
      intro x hx
      have := hB x hx
      unfold gtl at this
      unfold lt2
      omega
    refine ⟨?_, ?_, ?_, ?_⟩
    · refine List.pairwise_append.mpr ⟨pA, List.pairwise_cons.mpr ⟨hBt, pB⟩, fun x hx y hy => ?_⟩
      rcases List.mem_cons.mp hy with rfl | hy
      · exact hAt x hx
      · exact pAB x hx y hy
    · intro x hx
      rcases List.mem_append.mp hx with hx | hx
      · exact Or.inl (hX x ((hmem x).mp (List.mem_append.mpr (Or.inl hx))).1)
      · rcases List.mem_cons.mp hx with hx | hx
        · exact Or.inr hx
        · exact Or.inl (hX x ((hmem x).mp (List.mem_append.mpr (Or.inr hx))).1)
    · intro x hx
      have ht : t ∈ A ++ t :: B := List.mem_append.mpr (Or.inr List.mem_cons_self)
      rcases hx with hx | rfl
      · obtain ⟨o, ho, hb⟩ := hc x hx
        cases hto : wb t o with
        | true => exact ⟨t, ht, wb_trans hto hb⟩
        | false =>
          refine ⟨o, ?_, hb⟩
          rcases List.mem_append.mp ((hmem o).mpr ⟨ho, hto⟩) with q | q
          · exact List.mem_append.mpr (Or.inl q)
          · exact List.mem_append.mpr (Or.inr (List.mem_cons_of_mem _ q))
      · exact ⟨x, ht, wb_rfl x⟩
    · have hcl : ∀ x, x ∈ A ++ t :: B → x = t ∨ (x ∈ L ∧ wb t x = false) := by
        intro x hx
        rcases List.mem_append.mp hx with hx | hx
        · exact Or.inr ((hmem x).mp (List.mem_append.mpr (Or.inl hx)))
        · rcases List.mem_cons.mp hx with hx | hx
          · exact Or.inl hx
          · exact Or.inr ((hmem x).mp (List.mem_append.mpr (Or.inr hx)))
      intro x hx y hy hw
      rcases hcl x hx with rfl | hx2 <;> rcases hcl y hy with rfl | hy2
      · rfl
      · rw [hy2.2] at hw; cases hw
      · rw [hno x hx2.1] at hw; cases hw
      · exact ha x hx2.1 y hy2.1 hw
theorem srt_eq : ∀ (L L' : List aT), L.Pairwise lt2 → L'.Pairwise lt2 → (∀ x, x ∈ L ↔ x ∈ L') → L = L'
  | [], [], _, _, _ => rfl
  | [], y :: l', _, _, h => absurd ((h y).mpr List.mem_cons_self) List.not_mem_nil
  | x :: l, [], _, _, h => absurd ((h x).mp List.mem_cons_self) List.not_mem_nil
  | x :: l, y :: l', h1, h2, h => by
    obtain ⟨a1, b1⟩ := List.pairwise_cons.mp h1
    obtain ⟨a2, b2⟩ := List.pairwise_cons.mp h2
    have e : x = y := by
      rcases List.mem_cons.mp ((h x).mp List.mem_cons_self) with e | hx
      · exact e
      · rcases List.mem_cons.mp ((h y).mpr List.mem_cons_self) with e | hy
        · exact e.symm
        · exact absurd (lt2_trans (a1 y hy) (a2 x hx)) lt2_irrefl
    subst e
    congr 1
    refine srt_eq l l' b1 b2 (fun z => ⟨fun hz => ?_, fun hz => ?_⟩)
    · rcases List.mem_cons.mp ((h z).mp (List.mem_cons_of_mem _ hz)) with e | q
      · rw [e] at hz; exact absurd (a1 _ hz) lt2_irrefl
      · exact q
    · rcases List.mem_cons.mp ((h z).mpr (List.mem_cons_of_mem _ hz)) with e | q
      · rw [e] at hz; exact absurd (a2 _ hz) lt2_irrefl
      · exact q
theorem fro_sub {L L' : List aT} {X : aT → Prop} (h : Fro L X) (h' : Fro L' X) : ∀ x, x ∈ L → x ∈ L' := by
  intro x hx
  obtain ⟨o, ho, hb⟩ := h'.2.2.1 x (h.2.1 x hx)
  obtain ⟨p, hp, hb2⟩ := h.2.2.1 o (h'.2.1 o ho)
  have e := h.2.2.2 p hp x hx (wb_trans hb2 hb)
  subst e
  have := wb_anti hb2 hb
  rw [this]
  exact ho
/-- there is but one -/
theorem fro_one {L L' : List aT} {X : aT → Prop} (h : Fro L X) (h' : Fro L' X) : L = L' := srt_eq L L' h.1 h'.1 (fun x => ⟨fro_sub h h' x, fro_sub h' h x⟩)
theorem fro_of {L : List aT} {X Y : aT → Prop} (h : Fro L X) (h1 : ∀ x, X x → Y x) (h2 : ∀ y, Y y → ∃ x, X x ∧ wb x y = true) : Fro L Y := by
  refine ⟨h.1, fun x hx => h1 x (h.2.1 x hx), fun y hy => ?_, h.2.2.2⟩
  obtain ⟨x, hx, hb⟩ := h2 y hy
  obtain ⟨o, ho, hb2⟩ := h.2.2.1 x hx
  exact ⟨o, ho, wb_trans hb2 hb⟩
theorem fro_nil : Fro [] (fun _ => False) := ⟨List.Pairwise.nil, fun _ h => absurd h List.not_mem_nil, fun _ h => h.elim, fun _ h => absurd h List.not_mem_nil⟩
theorem mts_len {L L' : List aT} {t : aT} (h : Mts L t L') : L'.length ≤ L.length + 1 := by
  rcases h with ⟨-, rfl⟩ | ⟨-, A, B, hM, -, -, rfl⟩
  · omega
  · have h1 : (A ++ B).length ≤ L.length := by rw [← hM]; exact List.length_filter_le _ _
    rw [List.length_append] at h1
    rw [List.length_append, List.length_cons]
    omega
/-! all ways to place repeaters at a node and below it -/
def Asg (n : aN) (top : Int) (pl : Int → Int) : Prop := ∀ v, 0 ≤ v → v < n 0 → ((1 ≤ v ∧ bel n v top = true) → pl v = 0 ∨ isK n (pl v)) ∧ (¬ (1 ≤ v ∧ bel n v top = true) → pl v = 0)
theorem Asg.pl {n : aN} (hW : WF n) {top : Int} {pl : Int → Int} (h : Asg n top pl) : PlOk n pl := by
  have hN := hW.1
  refine ⟨fun v h0 h1 => ?_, (h 0 (by omega) (by omega)).2 (by omega)⟩
  by_cases hc : 1 ≤ v ∧ bel n v top = true
  · rcases (h v h0 h1).1 hc with e | e
    · omega
    · exact ⟨by have := e.1; omega, e.2.1⟩
  · have := (h v h0 h1).2 hc
    omega
def dg (n : aN) (pl : Int → Int) (v : Int) : Int := if v < n 0 then pl v else 0
def val (n : aN) (pl : Int → Int) : Int := dg n pl 1 + 4 * dg n pl 2 + 16 * dg n pl 3 + 64 * dg n pl 4 + 256 * dg n pl 5
theorem dg_bd {n : aN} (hW : WF n) {top : Int} {pl : Int → Int} (h : Asg n top pl) {v : Int} (h0 : 0 ≤ v) : 0 ≤ dg n pl v ∧ dg n pl v ≤ 3 := by
  unfold dg
  split
  · rename_i h1
    exact (h.pl hW).1 v h0 h1
  · omega
theorem val_bd {n : aN} (hW : WF n) {top : Int} {pl : Int → Int} (h : Asg n top pl) : 0 ≤ val n pl ∧ val n pl ≤ 1023 := by
  have h1 := dg_bd hW h (show (0 : Int) ≤ 1 by omega)
  have h2 := dg_bd hW h (show (0 : Int) ≤ 2 by omega)
  have h3 := dg_bd hW h (show (0 : Int) ≤ 3 by omega)
  have h4 := dg_bd hW h (show (0 : Int) ≤ 4 by omega)
  have h5 := dg_bd hW h (show (0 : Int) ≤ 5 by omega)
  unfold val
  omega
theorem val_inj {n : aN} (hW : WF n) {top : Int} {pl pl' : Int → Int} (h : Asg n top pl) (h' : Asg n top pl') (e : val n pl = val n pl') : ∀ v, 0 ≤ v → v < n 0 → pl v = pl' v := by
  have hN := hW.1
  have a1 := dg_bd hW h (show (0 : Int) ≤ 1 by omega)
  have a2 := dg_bd hW h (show (0 : Int) ≤ 2 by omega)
  have a3 := dg_bd hW h (show (0 : Int) ≤ 3 by omega)
  have a4 := dg_bd hW h (show (0 : Int) ≤ 4 by omega)
  have a5 := dg_bd hW h (show (0 : Int) ≤ 5 by omega)
  have b1 := dg_bd hW h' (show (0 : Int) ≤ 1 by omega)
  have b2 := dg_bd hW h' (show (0 : Int) ≤ 2 by omega)
  have b3 := dg_bd hW h' (show (0 : Int) ≤ 3 by omega)
  have b4 := dg_bd hW h' (show (0 : Int) ≤ 4 by omega)
  have b5 := dg_bd hW h' (show (0 : Int) ≤ 5 by omega)
  unfold val at e
  have c1 : dg n pl 1 = dg n pl' 1 := by omega
  have c2 : dg n pl 2 = dg n pl' 2 := by omega
  have c3 : dg n pl 3 = dg n pl' 3 := by omega
  have c4 : dg n pl 4 = dg n pl' 4 := by omega
  have c5 : dg n pl 5 = dg n pl' 5 := by omega
  intro v h0 h1
  have hz := (h.pl hW).2
  have hz' := (h'.pl hW).2
  have key : ∀ w : Int, w < n 0 → dg n pl w = dg n pl' w → pl w = pl' w := fun w hw he => by
    simp only [dg, if_pos hw] at he
    exact he
  rcases (show v = 0 ∨ v = 1 ∨ v = 2 ∨ v = 3 ∨ v = 4 ∨ v = 5 by omega) with rfl | rfl | rfl | rfl | rfl | rfl
  · rw [hz, hz']
  · exact key 1 h1 c1
  · exact key 2 h1 c2
  · exact key 3 h1 c3
  · exact key 4 h1 c4
  · exact key 5 h1 c5
theorem digit_max {n : aN} {k x : Int} (hk : Nk n k 4) (hx : x = 0 ∨ isK n x) (h0 : 0 ≤ k) : x ≤ k := by
  rcases hx with rfl | hx
  · exact h0
  · by_cases h : x ≤ k
    · exact h
    · exact absurd hx (hk.2.2.2 x (by omega) (by have := hx.2.1; omega))
theorem digit_nxt {n : aN} {k j x : Int} (hk : Nk n k j) (hx : x = 0 ∨ isK n x) (h0 : 0 ≤ k) : x ≤ k ∨ j ≤ x := by
  rcases hx with rfl | hx
  · exact Or.inl h0
  · by_cases h : x ≤ k
    · exact Or.inl h
    · by_cases h2 : j ≤ x
      · exact Or.inr h2
      · exact absurd hx (hk.2.2.2 x (by omega) (by omega))
/-- the next way comes just behind -/
theorem val_next {n : aN} (hW : WF n) {top v0 : Int} {pl p2 px : Int → Int} (h : Asg n top pl) (hx : Asg n top px) (h1 : 1 ≤ v0) (h2 : v0 < n 0) (hb : bel n v0 top = true) (hn : Nk n (pl v0) (p2 v0)) (h4 : p2 v0 < 4)
    (hlo : ∀ u, 1 ≤ u → u < v0 → bel n u top = true → Nk n (pl u) 4 ∧ p2 u = 0) (hhi : ∀ u, ¬ (1 ≤ u ∧ u ≤ v0 ∧ bel n u top = true) → p2 u = pl u) : Asg n top p2 ∧ val n pl < val n p2 ∧ (val n px < val n p2 → val n px ≤ val n pl) := by
  have hN := hW.1
  have hA : Asg n top p2 := by
    intro v g0 g1
    refine ⟨fun hc => ?_, fun hc => ?_⟩
    · by_cases e : v = v0
      · subst e; exact Or.inr (hn.2.2.1 h4)
      · by_cases e2 : v < v0
        · exact Or.inl (hlo v hc.1 e2 hc.2).2
        · rw [hhi v (by omega)]; exact (h v g0 g1).1 hc
    · rw [hhi v (fun q => hc ⟨q.1, q.2.2⟩)]; exact (h v g0 g1).2 hc
  have dlo : ∀ u, 1 ≤ u → u < v0 → dg n p2 u = 0 ∧ dg n px u ≤ dg n pl u := by
    intro u g1 g2
    have hu : u < n 0 := by omega
    simp only [dg, if_pos hu]
    by_cases hbu : bel n u top = true
    · exact ⟨(hlo u g1 g2 hbu).2, digit_max (hlo u g1 g2 hbu).1 ((hx u (by omega) hu).1 ⟨g1, hbu⟩) ((h.pl hW).1 u (by omega) hu).1⟩
    · rw [hhi u (fun q => hbu q.2.2), (h u (by omega) hu).2 (fun q => hbu q.2), (hx u (by omega) hu).2 (fun q => hbu q.2)]
      omega
  have dhi : ∀ u, v0 < u → dg n p2 u = dg n pl u := by
    intro u g
    unfold dg
    rw [hhi u (by omega)]
  have dat : dg n pl v0 < dg n p2 v0 ∧ (dg n px v0 ≤ dg n pl v0 ∨ dg n p2 v0 ≤ dg n px v0) := by
    simp only [dg, if_pos h2]
    exact ⟨hn.1, digit_nxt hn ((hx v0 (by omega) h2).1 ⟨h1, hb⟩) ((h.pl hW).1 v0 (by omega) h2).1⟩
  have a1 := dg_bd hW h (show (0 : Int) ≤ 1 by omega)
  have a2 := dg_bd hW h (show (0 : Int) ≤ 2 by omega)
  have a3 := dg_bd hW h (show (0 : Int) ≤ 3 by omega)
  have a4 := dg_bd hW h (show (0 : Int) ≤ 4 by omega)
  have a5 := dg_bd hW h (show (0 : Int) ≤ 5 by omega)
  have b1 := dg_bd hW hx (show (0 : Int) ≤ 1 by omega)
  have b2 := dg_bd hW hx (show (0 : Int) ≤ 2 by omega)
  have b3 := dg_bd hW hx (show (0 : Int) ≤ 3 by omega)
  have b4 := dg_bd hW hx (show (0 : Int) ≤ 4 by omega)
  have b5 := dg_bd hW hx (show (0 : Int) ≤ 5 by omega)
  have e1 := dg_bd hW hA (show (0 : Int) ≤ 1 by omega)
  have e2 := dg_bd hW hA (show (0 : Int) ≤ 2 by omega)
  have e3 := dg_bd hW hA (show (0 : Int) ≤ 3 by omega)
  have e4 := dg_bd hW hA (show (0 : Int) ≤ 4 by omega)
  have e5 := dg_bd hW hA (show (0 : Int) ≤ 5 by omega)
  refine ⟨hA, ?_⟩
  unfold val
  rcases (show v0 = 1 ∨ v0 = 2 ∨ v0 = 3 ∨ v0 = 4 ∨ v0 = 5 by omega) with rfl | rfl | rfl | rfl | rfl
  · have := dhi 2 (by omega); have := dhi 3 (by omega); have := dhi 4 (by omega); have := dhi 5 (by omega)
    omega
  · have := dlo 1 (by omega) (by omega); have := dhi 3 (by omega); have := dhi 4 (by omega); have := dhi 5 (by omega)
    omega
  · have := dlo 1 (by omega) (by omega); have := dlo 2 (by omega) (by omega); have := dhi 4 (by omega); have := dhi 5 (by omega)
    omega
  · have := dlo 1 (by omega) (by omega); have := dlo 2 (by omega) (by omega); have := dlo 3 (by omega) (by omega); have := dhi 5 (by omega)
    omega
  · have := dlo 1 (by omega) (by omega); have := dlo 2 (by omega) (by omega); have := dlo 3 (by omega) (by omega); have := dlo 4 (by omega) (by omega)
    omega
/-- none comes behind the last -/
theorem val_last {n : aN} (hW : WF n) {top : Int} {pl px : Int → Int} (h : Asg n top pl) (hx : Asg n top px) (hlo : ∀ u, 1 ≤ u → u < n 0 → bel n u top = true → Nk n (pl u) 4) : val n px ≤ val n pl := by
  have hN := hW.1
  have key : ∀ u, 1 ≤ u → dg n px u ≤ dg n pl u := by
    intro u g1
    unfold dg
    split
    · rename_i hu
      by_cases hbu : bel n u top = true
      · exact digit_max (hlo u g1 hu hbu) ((hx u (by omega) hu).1 ⟨g1, hbu⟩) ((h.pl hW).1 u (by omega) hu).1
      · rw [(h u (by omega) hu).2 (fun q => hbu q.2), (hx u (by omega) hu).2 (fun q => hbu q.2)]
        omega
    · omega
  have := key 1 (by omega); have := key 2 (by omega); have := key 3 (by omega); have := key 4 (by omega); have := key 5 (by omega)
  unfold val
  omega
