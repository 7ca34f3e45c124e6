/-! a Front of the class: swapWith -/
theorem ok_swap {P : aP} {d : Nat} {K : aK} {I : aI} {R : aR} {S : aS} {f g : Nat} (hS : FS R S) (hf : fr f) (hg : fr g) (hne : f ≠ g)
    (hK : ∀ I' R', ChT (fun x => x = f ∨ x = g) I R S I' R' S → (∀ L, FL I R S g L → FL I' R' S f L) → (∀ L, FL I R S f L → FL I' R' S g L) → K none I' R' S) : Ok P 17 (d + 1) [vr f, vr g] I R S K := by
  obtain ⟨h377, hF, ha, hi⟩ := id hS
  obtain ⟨s0, r1, s1, r2, s2, r3, s3⟩ := (hF f hf).1
  obtain ⟨t0, q1, t1, q2, t2, q3, t3⟩ := (hF g hg).1
  have p1 : uR R g ((1 : Nat) : Int) (some (rg R f 1)) f ((2 : Nat) : Int) = some (rg R f 2) := by rw [uR_ne (fun e => hne e.1)]; exact r2
  have p2 : uR (uR R g ((1 : Nat) : Int) (some (rg R f 1))) g ((2 : Nat) : Int) (some (rg R f 2)) f ((3 : Nat) : Int) = some (rg R f 3) := by rw [uR_ne (fun e => hne e.1), uR_ne (fun e => hne e.1)]; exact r3
  have key : ∀ R' : aR, (∀ x, x ≠ f → x ≠ g → R' x = R x) → R' f 1 = some (rg R g 1) → R' f 2 = some (rg R g 2) → R' f 3 = some (rg R g 3) → R' g 1 = some (rg R f 1) → R' g 2 = some (rg R f 2) → R' g 3 = some (rg R f 3) → ∀ I' : aI, (∀ x, x ≠ f → x ≠ g → I' x = I x) → I' f 0 = I g 0 → I' g 0 = I f 0 → K none I' R' S := by
    intro R' hR f1 f2 f3 g1 g2 g3 I' hI if0 ig0
    have ef : ∀ i : Int, 1 ≤ i → i ≤ 3 → rg R' f i = rg R g i := by
      intro i h1 h3
      rcases (show i = 1 ∨ i = 2 ∨ i = 3 by omega) with rfl | rfl | rfl
      · exact rg_of f1
      · exact rg_of f2
      · exact rg_of f3
    have eg : ∀ i : Int, 1 ≤ i → i ≤ 3 → rg R' g i = rg R f i := by
      intro i h1 h3
      rcases (show i = 1 ∨ i = 2 ∨ i = 3 by omega) with rfl | rfl | rfl
      · exact rg_of g1
      · exact rg_of g2
      · exact rg_of g3
    have lf : lnF R' S f = lnF R S g := lnF_of f1 t1
    have lg : lnF R' S g = lnF R S f := lnF_of g1 s1
    have lo : ∀ x, x ≠ f → x ≠ g → lnF R' S x = lnF R S x := fun x h1 h2 => by
      unfold lnF
      rw [rg_cg (hR x h1 h2)]
    have sw : ∀ x, fr x → ∃ y, fr y ∧ (∀ i : Int, 1 ≤ i → i ≤ 3 → rg R' x i = rg R y i) ∧ lnF R' S x = lnF R S y ∧ ((x = f ∧ y = g) ∨ (x = g ∧ y = f) ∨ (x ≠ f ∧ x ≠ g ∧ y = x)) := by
      intro x hx
      by_cases e : x = f
      · subst e
        exact ⟨g, hg, ef, lf, Or.inl ⟨rfl, rfl⟩⟩
      · by_cases e2 : x = g
        · subst e2
          exact ⟨f, hf, eg, lg, Or.inr (Or.inl ⟨rfl, rfl⟩)⟩
        · exact ⟨x, hx, fun i _ _ => rg_cg (hR x e e2) i, lo x e e2, Or.inr (Or.inr ⟨e, e2, rfl⟩)⟩
    have hFS : FS R' S := by
      refine ⟨h377, fun x hx => ?_, fun x i hx h1 h3 => ?_, fun x x' i j hx hx' h1 h3 k1 k3 he => ?_⟩
      · by_cases e : x = f
        · subst e
          rw [ef 1 (by omega) (by omega), ef 2 (by omega) (by omega), ef 3 (by omega) (by omega), lf]
          exact ⟨⟨s0, f1, t1, f2, t2, f3, t3⟩, (hF g hg).2⟩
        · by_cases e2 : x = g
          · subst e2
            rw [eg 1 (by omega) (by omega), eg 2 (by omega) (by omega), eg 3 (by omega) (by omega), lg]
            exact ⟨⟨t0, g1, s1, g2, s2, g3, s3⟩, (hF f hf).2⟩
          · rw [rg_cg (hR x e e2), rg_cg (hR x e e2), rg_cg (hR x e e2), lo x e e2]
            have := (hF x hx).1.app (T := []) (hR x e e2)
            rw [List.append_nil] at this
            exact ⟨this, (hF x hx).2⟩
      · obtain ⟨y, hy, hr, -, -⟩ := sw x hx
        rw [hr i h1 h3]
        exact ha y i hy h1 h3
      · obtain ⟨y, hy, hr, -, hc⟩ := sw x hx
        obtain ⟨y', hy', hr', -, hc'⟩ := sw x' hx'
        rw [hr i h1 h3, hr' j k1 k3] at he
        obtain ⟨c1, c2⟩ := hi y y' i j hy hy' h1 h3 k1 k3 he
        refine ⟨?_, c2⟩
        omega
    have ne : ∀ x, ar x → x ≠ f ∧ x ≠ g := fun x hx => ⟨by omega, by omega⟩
    refine hK I' R' ⟨⟨[], by rw [List.append_nil]⟩, fun a h1 h2 => hI a (fun e => h1 (e ▸ hf)) (fun e => h1 (e ▸ hg)), fun a h1 h2 => hR a (fun e => h1 (e ▸ hf)) (fun e => h1 (e ▸ hg)), hFS, fun x hx hn L hL => ?_, ?_, Nat.le_refl _⟩ (fun L hL => ?_) (fun L hL => ?_)
    · have n1 : x ≠ f := fun e => hn (Or.inl e)
      have n2 : x ≠ g := fun e => hn (Or.inr e)
      have nn : ∀ i : Int, 1 ≤ i → i ≤ 3 → I' (rg R x i) = I (rg R x i) := fun i h1 h3 => by
        have := ne _ (ha x i hx h1 h3)
        exact hI _ this.1 this.2
      unfold FL
      rw [hI x n1 n2, lo x n1 n2, rg_cg (hR x n1 n2), rg_cg (hR x n1 n2), rg_cg (hR x n1 n2)]
      exact ⟨hL.1, hL.2.1, hL.2.2.cg (nn 1 (by omega) (by omega)) (nn 2 (by omega) (by omega)) (nn 3 (by omega) (by omega))⟩
    · rw [pot_swap (h := lnF R S) (h' := lnF R' S) hf hg hne lf lg (fun x _ h1 h2 => lo x h1 h2)]
    · have nn : ∀ i : Int, 1 ≤ i → i ≤ 3 → I' (rg R g i) = I (rg R g i) := fun i h1 h3 => by
        have := ne _ (ha g i hg h1 h3)
        exact hI _ this.1 this.2
      unfold FL
      rw [if0, lf, ef 1 (by omega) (by omega), ef 2 (by omega) (by omega), ef 3 (by omega) (by omega)]
      exact ⟨hL.1, hL.2.1, hL.2.2.cg (nn 1 (by omega) (by omega)) (nn 2 (by omega) (by omega)) (nn 3 (by omega) (by omega))⟩
    · have nn : ∀ i : Int, 1 ≤ i → i ≤ 3 → I' (rg R f i) = I (rg R f i) := fun i h1 h3 => by
        have := ne _ (ha f i hf h1 h3)
        exact hI _ this.1 this.2
      unfold FL
      rw [ig0, lg, eg 1 (by omega) (by omega), eg 2 (by omega) (by omega), eg 3 (by omega) (by omega)]
      exact ⟨hL.1, hL.2.1, hL.2.2.cg (nn 1 (by omega) (by omega)) (nn 2 (by omega) (by omega)) (nn 3 (by omega) (by omega))⟩
  refine Ok.of (by decide) rfl (Nat.le_of_ble_eq_true rfl) ?_
  refine Go.walk 400 [] E17 E17_ok (fun G C hG hC => ?_)
  (repeat ((conv => whnf); first | refine ⟨_, by assumption, ?_⟩ | refine ⟨_, _, by assumption, ?_⟩ | refine ⟨(show _ ∧ _ by omega), ?_⟩ | refine ⟨(show _ ∨ _ by omega), ?_⟩ | refine ⟨fun h => absurd h (by decide), fun _ => ?_⟩ | refine ⟨fun _ => ?_, fun h => absurd h (by decide)⟩ | refine ⟨fun _ => ?_, fun h => absurd rfl h⟩ | refine ⟨fun h => absurd rfl h, fun _ => ?_⟩)); try (conv => whnf)
  refine key _ (fun x h1 h2 => ?_) ?_ ?_ ?_ ?_ ?_ ?_ _ (fun x h1 h2 => ?_) ?_ ?_
  · funext k
    rw [uR_ne (fun e => h1 e.1), uR_ne (fun e => h1 e.1), uR_ne (fun e => h1 e.1), uR_ne (fun e => h2 e.1), uR_ne (fun e => h2 e.1), uR_ne (fun e => h2 e.1)]
  · rw [uR_ne (by omega), uR_ne (by omega)]; exact uR_at
  · rw [uR_ne (by omega)]; exact uR_at
  · exact uR_at
  · rw [uR_ne (by omega), uR_ne (by omega), uR_ne (by omega), uR_ne (by omega), uR_ne (by omega)]; exact uR_at
  · rw [uR_ne (by omega), uR_ne (by omega), uR_ne (by omega), uR_ne (by omega)]; exact uR_at
  · rw [uR_ne (by omega), uR_ne (by omega), uR_ne (by omega)]; exact uR_at
  · funext k
    rw [uI_ne (fun e => h1 e.1), uI_ne (fun e => h2 e.1)]
  · exact uI_at
  · rw [uI_ne (by omega)]; exact uI_at
