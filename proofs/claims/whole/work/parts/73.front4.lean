/-! the sixteen Fronts of the class together -/
abbrev fr (f : Nat) : Prop := 36 ≤ f ∧ f < 100 ∧ f % 4 = 0
abbrev ar (x : Nat) : Prop := (36 ≤ x ∧ x < 100 ∧ x % 4 ≠ 0) ∨ 377 ≤ x
def rg (R : aR) (f : Nat) (i : Int) : Nat := (R f i).getD 0
def lnF (R : aR) (S : aS) (f : Nat) : Nat := match S[rg R f 1]? with
  | some p => p.2
  | none => 0
def lnOk (len : Nat) : Prop := len = 16 ∨ len = 32 ∨ len = 64 ∨ len = 128 ∨ len = 256 ∨ len = 512 ∨ len = 1024
def FS (R : aR) (S : aS) : Prop := 377 ≤ S.length ∧ (∀ f, fr f → F1 R S f (rg R f 1) (rg R f 2) (rg R f 3) (lnF R S f) ∧ lnOk (lnF R S f)) ∧ (∀ f (i : Int), fr f → 1 ≤ i → i ≤ 3 → ar (rg R f i)) ∧ (∀ f g (i j : Int), fr f → fr g → 1 ≤ i → i ≤ 3 → 1 ≤ j → j ≤ 3 → rg R f i = rg R g j → f = g ∧ i = j)
def pot (h : Nat → Nat) : Nat := h 36 + h 40 + h 44 + h 48 + h 52 + h 56 + h 60 + h 64 + h 68 + h 72 + h 76 + h 80 + h 84 + h 88 + h 92 + h 96
theorem pot_one {h h' : Nat → Nat} {f : Nat} (hf : fr f) (he : ∀ g, fr g → g ≠ f → h' g = h g) : pot h' + h f = pot h + h' f := by
  have hc : f = 36 ∨ f = 40 ∨ f = 44 ∨ f = 48 ∨ f = 52 ∨ f = 56 ∨ f = 60 ∨ f = 64 ∨ f = 68 ∨ f = 72 ∨ f = 76 ∨ f = 80 ∨ f = 84 ∨ f = 88 ∨ f = 92 ∨ f = 96 := by omega
  have q : ∀ g, fr g → h' g = h g ∨ g = f := fun g hg => by
    by_cases e : g = f
    · exact Or.inr e
    · exact Or.inl (he g hg e)
  have q0 := q 36 (by omega)
  have q1 := q 40 (by omega)
  have q2 := q 44 (by omega)
  have q3 := q 48 (by omega)
  have q4 := q 52 (by omega)
  have q5 := q 56 (by omega)
  have q6 := q 60 (by omega)
  have q7 := q 64 (by omega)
  have q8 := q 68 (by omega)
  have q9 := q 72 (by omega)
  have q10 := q 76 (by omega)
  have q11 := q 80 (by omega)
  have q12 := q 84 (by omega)
  have q13 := q 88 (by omega)
  have q14 := q 92 (by omega)
  have q15 := q 96 (by omega)
  unfold pot
  rcases hc with e | e | e | e | e | e | e | e | e | e | e | e | e | e | e | e <;> subst e <;> simp only [Nat.reduceEqDiff, or_false, or_true] at q0 q1 q2 q3 q4 q5 q6 q7 q8 q9 q10 q11 q12 q13 q14 q15 <;> omega
theorem pot_swap {h h' : Nat → Nat} {f g : Nat} (hf : fr f) (hg : fr g) (hne : f ≠ g) (h1 : h' f = h g) (h2 : h' g = h f) (he : ∀ x, fr x → x ≠ f → x ≠ g → h' x = h x) : pot h' = pot h := by
  have a := pot_one (h := h) (h' := fun x => if x = f then h g else h x) hf (fun x hx q => by rw [if_neg q])
  have b := pot_one (h := fun x => if x = f then h g else h x) (h' := h') hg (fun x hx q => by
    by_cases e : x = f
    · rw [if_pos e, e]; exact h1
    · rw [if_neg e]; exact he x hx e q)
  simp only [if_true, if_neg (fun e : g = f => hne e.symm)] at a b
  omega
/-- a Front holds a list -/
def FL (I : aI) (R : aR) (S : aS) (f : Nat) (L : List aT) : Prop := I f 0 = L.length ∧ L.length ≤ lnF R S f ∧ Hk I (rg R f 1) (rg R f 2) (rg R f 3) 0 L
/-- what work on the Fronts of F leaves as it was -/
def ChT (F : Nat → Prop) (I : aI) (R : aR) (S : aS) (I' : aI) (R' : aR) (S' : aS) : Prop := (∃ T, S' = S ++ T) ∧ (∀ a, ¬ fr a → ¬ ar a → I' a = I a) ∧ (∀ a, ¬ fr a → ¬ ar a → R' a = R a) ∧ FS R' S' ∧ (∀ g, fr g → ¬ F g → ∀ L, FL I R S g L → FL I' R' S' g L) ∧ szs S' + 6 * pot (lnF R S) = szs S + 6 * pot (lnF R' S') ∧ 32 * S'.length + szs S ≤ 32 * S.length + szs S'
theorem ChT.rf {F : Nat → Prop} {I : aI} {R : aR} {S : aS} (h : FS R S) : ChT F I R S I R S := ⟨⟨[], by rw [List.append_nil]⟩, fun _ _ _ => rfl, fun _ _ _ => rfl, h, fun _ _ _ _ h => h, rfl, Nat.le_refl _⟩
theorem ChT.tr {F F1 F2 : Nat → Prop} {I I1 I2 : aI} {R R1 R2 : aR} {S S1 S2 : aS} (h1 : ChT F1 I R S I1 R1 S1) (h2 : ChT F2 I1 R1 S1 I2 R2 S2) (hF : ∀ g, F1 g ∨ F2 g → F g) : ChT F I R S I2 R2 S2 := by
  obtain ⟨⟨T1, e1⟩, i1, r1, s1, l1, z1, w1⟩ := h1
  obtain ⟨⟨T2, e2⟩, i2, r2, s2, l2, z2, w2⟩ := h2
  exact ⟨⟨T1 ++ T2, by rw [e2, e1, List.append_assoc]⟩, fun a h h' => (i2 a h h').trans (i1 a h h'), fun a h h' => (r2 a h h').trans (r1 a h h'), s2, fun g hg hn L h => l2 g hg (fun q => hn (hF g (Or.inr q))) L (l1 g hg (fun q => hn (hF g (Or.inl q))) L h), by omega, by omega⟩
theorem FS.d4 {R : aR} {S : aS} (h : FS R S) {f : Nat} (hf : fr f) : D4 f (rg R f 1) (rg R f 2) (rg R f 3) := by
  obtain ⟨-, -, ha, hi⟩ := h
  have a1 := ha f 1 hf (by omega) (by omega)
  have a2 := ha f 2 hf (by omega) (by omega)
  have a3 := ha f 3 hf (by omega) (by omega)
  exact ⟨by omega, by omega, by omega, fun e => absurd (hi f f 1 2 hf hf (by omega) (by omega) (by omega) (by omega) e).2 (by omega), fun e => absurd (hi f f 1 3 hf hf (by omega) (by omega) (by omega) (by omega) e).2 (by omega), fun e => absurd (hi f f 2 3 hf hf (by omega) (by omega) (by omega) (by omega) e).2 (by omega)⟩
theorem FS.far {R : aR} {S : aS} (h : FS R S) {f g : Nat} (hf : fr f) (hg : fr g) (hne : g ≠ f) {i : Int} (h1 : 1 ≤ i) (h3 : i ≤ 3) : rg R g i ∉ [f, rg R f 1, rg R f 2, rg R f 3] := by
  obtain ⟨-, -, ha, hi⟩ := h
  have a1 := ha g i hg h1 h3
  simp only [List.mem_cons, List.not_mem_nil, or_false, not_or]
  exact ⟨by omega, fun e => hne (hi g f i 1 hg hf h1 h3 (by omega) (by omega) e).1, fun e => hne (hi g f i 2 hg hf h1 h3 (by omega) (by omega) e).1, fun e => hne (hi g f i 3 hg hf h1 h3 (by omega) (by omega) e).1⟩
theorem FS.farf {R : aR} {S : aS} (h : FS R S) {f g : Nat} (hf : fr f) (hg : fr g) (hne : g ≠ f) : g ∉ [f, rg R f 1, rg R f 2, rg R f 3] := by
  obtain ⟨-, -, ha, hi⟩ := h
  have a1 := ha f 1 hf (by omega) (by omega)
  have a2 := ha f 2 hf (by omega) (by omega)
  have a3 := ha f 3 hf (by omega) (by omega)
  simp only [List.mem_cons, List.not_mem_nil, or_false, not_or]
  exact ⟨hne, by omega, by omega, by omega⟩
theorem F1.lt {R : aR} {S : aS} {f x y z len : Nat} (h : F1 R S f x y z len) : f < S.length ∧ x < S.length ∧ y < S.length ∧ z < S.length := by
  obtain ⟨s0, r1, s1, r2, s2, r3, s3⟩ := h
  exact ⟨at_lt s0, at_lt s1, at_lt s2, at_lt s3⟩
theorem F1.app {R R' : aR} {S T : aS} {f x y z len : Nat} (h : F1 R S f x y z len) (hR : R' f = R f) : F1 R' (S ++ T) f x y z len := by
  obtain ⟨s0, r1, s1, r2, s2, r3, s3⟩ := h
  exact ⟨at_app s0, by rw [hR]; exact r1, at_app s1, by rw [hR]; exact r2, at_app s2, by rw [hR]; exact r3, at_app s3⟩
theorem rg_of {R : aR} {f x : Nat} {i : Int} (h : R f i = some x) : rg R f i = x := by
  unfold rg
  rw [h]
  rfl
theorem lnF_of {R : aR} {S : aS} {f x k len : Nat} (h : R f 1 = some x) (hs : S[x]? = some (k, len)) : lnF R S f = len := by
  unfold lnF
  rw [rg_of h, hs]
/-- the same cells after more were made: a Front that nothing touched -/
theorem lnF_app {R R' : aR} {S T : aS} {f x y z len : Nat} (h : F1 R S f x y z len) (hR : R' f = R f) : lnF R' (S ++ T) f = len := by
  obtain ⟨s0, r1, s1, r2, s2, r3, s3⟩ := h.app (T := T) hR
  exact lnF_of r1 s1
theorem rg_cg {R R' : aR} {f : Nat} (hR : R' f = R f) (i : Int) : rg R' f i = rg R f i := by
  unfold rg
  rw [hR]
theorem lnOk.b {len : Nat} (h : lnOk len) : 1 ≤ len ∧ len ≤ 1024 := by
  unfold lnOk at h
  omega
theorem lnOk.dbl {len : Nat} (h : lnOk len) (h2 : 2 * len ≤ 1024) : lnOk (2 * len) := by
  unfold lnOk at h ⊢
  omega
/-- offer(shows, slack, cost) -/
theorem ok_offer {P : aP} {d : Nat} {K : aK} {I : aI} {R : aR} {S : aS} {f : Nat} {t : aT} {L : List aT} (hS : FS R S) (hf : fr f) (hL : FL I R S f L) (hP : L.Pairwise lt2) (hr : ∀ u ∈ L, tR u) (ht : tR t) (hlen : L.length < 1024)
    (hK : ∀ I' R' S' L', ChT (fun g => g = f) I R S I' R' S' → Mts L t L' → FL I' R' S' f L' → K none I' R' S') : Ok P 16 (d + 4) [vr f, vi t.1, vi t.2.1, vi t.2.2] I R S K := by
  obtain ⟨h377, hF, ha, hi⟩ := id hS
  obtain ⟨hF1, hln⟩ := hF f hf
  obtain ⟨l0, l1, l2⟩ := hL
  have hlb := hln.b
  refine ok_offer1 hF1 (hS.d4 hf) hlb l0 l1 (fun h => by unfold lnOk at hln; omega) l2 hP hr ht (fun I' R' S' x' y' z' len' L' hO hM k0 k1 k2 hF2 => ?_)
  rcases hO with ⟨rfl, rfl, rfl, rfl, rfl, rfl, hFr⟩ | ⟨rfl, rfl, rfl, rfl, hw, rfl, hI, hR⟩
  · refine hK I' R' S' L' ⟨⟨[], by rw [List.append_nil]⟩, fun a h1 h2 => ?_, fun _ _ _ => rfl, hS, fun g hg hn Lg hLg => ?_, rfl, Nat.le_refl _⟩ hM ⟨k0, k1, k2⟩
    · refine hFr a ?_
      have a1 := ha f 1 hf (by omega) (by omega)
      have a2 := ha f 2 hf (by omega) (by omega)
      have a3 := ha f 3 hf (by omega) (by omega)
      simp only [List.mem_cons, List.not_mem_nil, or_false, not_or]
      exact ⟨fun e => h1 (e ▸ hf), fun e => h2 (e ▸ a1), fun e => h2 (e ▸ a2), fun e => h2 (e ▸ a3)⟩
    · refine ⟨?_, hLg.2.1, hLg.2.2.cg (hFr _ (hS.far hf hg hn (by omega) (by omega))) (hFr _ (hS.far hf hg hn (by omega) (by omega))) (hFr _ (hS.far hf hg hn (by omega) (by omega)))⟩
      rw [hFr g (hS.farf hf hg hn)]
      exact hLg.1
  · have hlt := hF1.lt
    obtain ⟨s0, r1, s1, r2, s2, r3, s3⟩ := id hF2
    have eln : lnF R' (S ++ [(9, 2 * lnF R S f), (9, 2 * lnF R S f), (9, 2 * lnF R S f)]) f = 2 * lnF R S f := lnF_of r1 s1
    have oth : ∀ g, fr g → g ≠ f → R' g = R g := fun g hg hn => hR g (by omega) hn
    have hap : ∀ g, fr g → g ≠ f → F1 R' (S ++ [(9, 2 * lnF R S f), (9, 2 * lnF R S f), (9, 2 * lnF R S f)]) g (rg R g 1) (rg R g 2) (rg R g 3) (lnF R S g) := fun g hg hn => (hF g hg).1.app (oth g hg hn)
    have elg : ∀ g, fr g → g ≠ f → lnF R' (S ++ [(9, 2 * lnF R S f), (9, 2 * lnF R S f), (9, 2 * lnF R S f)]) g = lnF R S g := fun g hg hn => lnF_app (hF g hg).1 (oth g hg hn)
    have e1 := rg_of r1
    have e2 := rg_of r2
    have e3 := rg_of r3
    have hgl : ∀ g (i : Int), fr g → 1 ≤ i → i ≤ 3 → rg R g i < S.length := by
      intro g i hg h1 h3
      have := (hF g hg).1.lt
      rcases (show i = 1 ∨ i = 2 ∨ i = 3 by omega) with rfl | rfl | rfl
      · exact this.2.1
      · exact this.2.2.1
      · exact this.2.2.2
    have hfi : ∀ i : Int, 1 ≤ i → i ≤ 3 → (rg R' f i : Int) = S.length + (i - 1) := by
      intro i h1 h3
      rcases (show i = 1 ∨ i = 2 ∨ i = 3 by omega) with rfl | rfl | rfl
      · rw [e1]; omega
      · rw [e2]; omega
      · rw [e3]; omega
    have hFS : FS R' (S ++ [(9, 2 * lnF R S f), (9, 2 * lnF R S f), (9, 2 * lnF R S f)]) := by
      refine ⟨by rw [List.length_append]; omega, fun g hg => ?_, fun g i hg h1 h3 => ?_, fun g g' i j hg hg' h1 h3 g1 g3 he => ?_⟩
      · by_cases q : g = f
        · subst q
          rw [e1, e2, e3, eln]
          exact ⟨hF2, hln.dbl hw⟩
        · rw [elg g hg q, rg_cg (oth g hg q), rg_cg (oth g hg q), rg_cg (oth g hg q)]
          exact ⟨hap g hg q, (hF g hg).2⟩
      · by_cases q : g = f
        · subst q
          have := hfi i h1 h3
          omega
        · rw [rg_cg (oth g hg q)]
          exact ha g i hg h1 h3
      · by_cases q : g = f
        · by_cases q' : g' = f
          · subst q
            subst q'
            have b1 := hfi i h1 h3
            have b2 := hfi j g1 g3
            exact ⟨rfl, by omega⟩
          · subst q
            rw [rg_cg (oth g' hg' q')] at he
            have b1 := hfi i h1 h3
            have b2 := hgl g' j hg' g1 g3
            omega
        · by_cases q' : g' = f
          · subst q'
            rw [rg_cg (oth g hg q)] at he
            have b1 := hfi j g1 g3
            have b2 := hgl g i hg h1 h3
            omega
          · rw [rg_cg (oth g hg q), rg_cg (oth g' hg' q')] at he
            exact hi g g' i j hg hg' h1 h3 g1 g3 he
    have hpo := pot_one (h := lnF R S) (h' := lnF R' (S ++ [(9, 2 * lnF R S f), (9, 2 * lnF R S f), (9, 2 * lnF R S f)])) hf elg
    rw [eln] at hpo
    have hsz : szs (S ++ [(9, 2 * lnF R S f), (9, 2 * lnF R S f), (9, 2 * lnF R S f)]) = szs S + 6 * lnF R S f := by
      simp only [szs, List.map_append, List.map_cons, List.map_nil, List.sum_append, List.sum_cons, List.sum_nil]
      omega
    refine hK I' R' _ L' ⟨⟨_, rfl⟩, fun a h1 h2 => ?_, fun a h1 h2 => ?_, hFS, fun g hg hn Lg hLg => ?_, ?_, ?_⟩ hM ⟨k0, by rw [eln]; exact k1, by rw [e1, e2, e3]; exact k2⟩
    · have a1 := ha f 1 hf (by omega) (by omega)
      have a2 := ha f 2 hf (by omega) (by omega)
      have a3 := ha f 3 hf (by omega) (by omega)
      refine hI a (by omega) ?_
      simp only [List.mem_cons, List.not_mem_nil, or_false, not_or]
      exact ⟨fun e => h1 (e ▸ hf), fun e => h2 (e ▸ a1), fun e => h2 (e ▸ a2), fun e => h2 (e ▸ a3)⟩
    · exact hR a (by omega) (fun e => h1 (e ▸ hf))
    · unfold FL
      rw [elg g hg hn, rg_cg (oth g hg hn), rg_cg (oth g hg hn), rg_cg (oth g hg hn), hI g (by omega) (hS.farf hf hg hn)]
      refine ⟨hLg.1, hLg.2.1, hLg.2.2.cg (hI _ (hgl g 1 hg (by omega) (by omega)) (hS.far hf hg hn (by omega) (by omega))) (hI _ (hgl g 2 hg (by omega) (by omega)) (hS.far hf hg hn (by omega) (by omega))) (hI _ (hgl g 3 hg (by omega) (by omega)) (hS.far hf hg hn (by omega) (by omega)))⟩
    · rw [hsz]; omega
    · rw [hsz, List.length_append]
      unfold lnOk at hln
      simp only [List.length_cons, List.length_nil]
      omega
/-- clear() -/
theorem ok_clear {P : aP} {d : Nat} {K : aK} {I : aI} {R : aR} {S : aS} {f : Nat} (hS : FS R S) (hf : fr f) (hK : ∀ I', ChT (fun g => g = f) I R S I' R S → FL I' R S f [] → K none I' R S) : Ok P 15 (d + 1) [vr f] I R S K := by
  obtain ⟨h377, hF, ha, hi⟩ := id hS
  obtain ⟨s0, r1, s1, r2, s2, r3, s3⟩ := (hF f hf).1
  refine Ok.of (by decide) rfl (Nat.le_of_ble_eq_true rfl) ?_
  refine Go.walk 400 [] E15 E15_ok (fun G C hG hC => ?_)
  (repeat ((conv => whnf); first | refine ⟨_, by assumption, ?_⟩ | refine ⟨_, _, by assumption, ?_⟩ | refine ⟨(show _ ∧ _ by omega), ?_⟩ | refine ⟨(show _ ∨ _ by omega), ?_⟩ | refine ⟨fun h => absurd h (by decide), fun _ => ?_⟩ | refine ⟨fun _ => ?_, fun h => absurd h (by decide)⟩ | refine ⟨fun _ => ?_, fun h => absurd rfl h⟩ | refine ⟨fun h => absurd rfl h, fun _ => ?_⟩)); try (conv => whnf)
  have ne : ∀ a, a ≠ f → uI I f ((0 : Nat) : Int) 0 a = I a := fun a h => by funext k; exact uI_ne (fun e => h e.1)
  refine hK _ ⟨⟨[], by rw [List.append_nil]⟩, fun a h1 h2 => ne a (fun e => h1 (e ▸ hf)), fun _ _ _ => rfl, hS, fun g hg hn Lg hLg => ?_, rfl, Nat.le_refl _⟩ ⟨uI_at, Nat.zero_le _, Hk.nil⟩
  have a1 := ha g 1 hg (by omega) (by omega)
  have a2 := ha g 2 hg (by omega) (by omega)
  have a3 := ha g 3 hg (by omega) (by omega)
  unfold FL
  rw [ne g hn]
  exact ⟨hLg.1, hLg.2.1, hLg.2.2.cg (ne _ (by omega)) (ne _ (by omega)) (ne _ (by omega))⟩
