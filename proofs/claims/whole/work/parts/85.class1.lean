/-! the class as a whole: its shape, its state -/
def imc (j : Int) : Nat := 333 + 14 * j.toNat
def rgc (j : Int) : Nat := 102 + 14 * j.toNat
def isNet (a : Nat) : Prop := a = 1 ∨ a = 15 ∨ (∃ j : Int, 0 ≤ j ∧ j < 16 ∧ a = rgc j) ∨ ∃ j : Int, 0 ≤ j ∧ j < 2 ∧ a = imc j
def SS (R : aR) (S : aS) : Prop := (S[0]? = some (7, 10) ∧ R 0 0 = some 1 ∧ R 0 1 = some 15 ∧ R 0 2 = some 29 ∧ R 0 3 = some 34 ∧ R 0 4 = some 100 ∧ R 0 5 = some 326 ∧ R 0 6 = some 329 ∧ R 0 7 = some 330 ∧ R 0 8 = some 331 ∧ R 0 9 = some 332) ∧ (S[330]? = some (12, 2) ∧ S[331]? = some (9, 2) ∧ S[332]? = some (10, 2) ∧ S[100]? = some (5, 3) ∧ R 100 0 = some 101 ∧ S[101]? = some (12, 16) ∧ S[329]? = some (2, 1)) ∧ (∀ j : Int, 0 ≤ j → j < 2 → R 330 j = some (imc j)) ∧ (∀ j : Int, 0 ≤ j → j < 16 → R 101 j = some (rgc j)) ∧ (∀ a, isNet a → NetS R S a) ∧ TiS R S ∧ BkS R S ∧ ChS R S
theorem isNet_b {a : Nat} (h : isNet a) : ¬ fr a ∧ ¬ ar a ∧ a < 361 := by
  rcases h with h | h | ⟨j, h0, h1, h⟩ | ⟨j, h0, h1, h⟩
  · omega
  · omega
  · unfold rgc at h; omega
  · unfold imc at h; omega
theorem SS.cg {R R' : aR} {S T : aS} (h : SS R S) (hR : ∀ a, ¬ fr a → ¬ ar a → R' a = R a) : SS R' (S ++ T) := by
  obtain ⟨⟨a0, a1, a2, a3, a4, a5, a6, a7, a8, a9, a10⟩, ⟨b0, b1, b2, b3, b4, b5, b6⟩, c1, c2, c3, ⟨t0, q1, t1, q2, t2, q3, t3, q4, t4⟩, ⟨e0, f1, e1, f2, e2⟩, c6⟩ := h
  have r0 := hR 0 (by omega) (by omega)
  have r100 := hR 100 (by omega) (by omega)
  have r29 := hR 29 (by omega) (by omega)
  have r326 := hR 326 (by omega) (by omega)
  refine ⟨⟨at_app a0, ?_, ?_, ?_, ?_, ?_, ?_, ?_, ?_, ?_, ?_⟩, ⟨at_app b0, at_app b1, at_app b2, at_app b3, ?_, at_app b5, at_app b6⟩, fun j g0 g1 => ?_, fun j g0 g1 => ?_, fun a ha => ?_, ⟨at_app t0, ?_, at_app t1, ?_, at_app t2, ?_, at_app t3, ?_, at_app t4⟩, ⟨at_app e0, ?_, at_app e1, ?_, at_app e2⟩, c6.cg (hR 34 (by omega) (by omega)) (hR 35 (by omega) (by omega))⟩
  all_goals first | (rw [r0]; assumption) | (rw [r100]; assumption) | (rw [r29]; assumption) | (rw [r326]; assumption) | skip
  · rw [hR 330 (by omega) (by omega)]; exact c1 j g0 g1
  · rw [hR 101 (by omega) (by omega)]; exact c2 j g0 g1
  · have := isNet_b ha
    exact (c3 a ha).cg (hR a this.1 this.2.1)
theorem SS.cg0 {R R' : aR} {S : aS} (h : SS R S) (hR : ∀ a, ¬ fr a → ¬ ar a → R' a = R a) : SS R' S := by
  have := h.cg (T := []) hR
  rw [List.append_nil] at this
  exact this
/-- the nets ahead of the latest deeds -/
def PastR (I : aI) (h : List aN) : Prop := I 100 2 = h.length ∧ h.length ≤ 16 ∧ (0 ≤ I 100 1 ∧ I 100 1 < 16) ∧ ∀ (j : Nat) (m : aN), h[j]? = some m → NetR I (rgc ((I 100 1 + 16 - h.length + j) % 16)) m
def ImgC (I : aI) (i : Int) (o : Option (aN × Int)) : Prop := match o with
  | none => I 332 i = 0
  | some q => I 332 i = 1 ∧ NetR I (imc i) q.1 ∧ I 331 i = q.2
/-- the room that is used -/
def Rm (R : aR) (S : aS) : Prop := szs S + 1536 = 7332 + 6 * pot (lnF R S) ∧ 32 * S.length + 7332 ≤ 32 * 377 + szs S
def CSt (n : aN) (h : List aN) (B : List (Int × Int)) (sd : Int) (im : Int → Option (aN × Int)) (I : aI) (R : aR) (S : aS) : Prop := SS R S ∧ FS R S ∧ Rm R S ∧ NetR I 1 n ∧ PastR I h ∧ BkR I B ∧ I 329 0 = sd ∧ (∀ i, 0 ≤ i → i ≤ 1 → ImgC I i (im i)) ∧ (I 34 5 = 0 ∨ (I 34 5 = 1 ∧ ChoOk n (WaysX n) I R S))
/-- what holds of the numbers themselves -/
def PC (n : aN) (h : List aN) (B : List (Int × Int)) (sd : Int) (im : Int → Option (aN × Int)) : Prop := WF n ∧ (∀ m ∈ h, WF m) ∧ (∀ p ∈ B, (0 ≤ p.1 ∧ p.1 < 6) ∧ iR p.2) ∧ (0 ≤ sd ∧ sd < 2147483648) ∧ ∀ i q, im i = some q → WF q.1 ∧ 0 ≤ q.2 ∧ q.2 < 2147483648
/-- the reference's cells are left alone -/
def XF (I : aI) (R : aR) (S : aS) (I' : aI) (R' : aR) (S' : aS) : Prop := (∃ T, S' = S ++ T) ∧ ∀ a, 361 ≤ a → a ≤ 376 → I' a = I a ∧ R' a = R a
theorem XF.rf {I : aI} {R : aR} {S : aS} : XF I R S I R S := ⟨⟨[], by rw [List.append_nil]⟩, fun _ _ _ => ⟨rfl, rfl⟩⟩
theorem XF.of {I I' : aI} {R : aR} {S : aS} (h : ∀ a, 361 ≤ a → a ≤ 376 → I' a = I a) : XF I R S I' R S := ⟨⟨[], by rw [List.append_nil]⟩, fun a h1 h2 => ⟨h a h1 h2, rfl⟩⟩
theorem XF.tr {I I1 I2 : aI} {R R1 R2 : aR} {S S1 S2 : aS} (h1 : XF I R S I1 R1 S1) (h2 : XF I1 R1 S1 I2 R2 S2) : XF I R S I2 R2 S2 := by
  obtain ⟨⟨T1, e1⟩, g1⟩ := h1
  obtain ⟨⟨T2, e2⟩, g2⟩ := h2
  exact ⟨⟨T1 ++ T2, by rw [e2, e1, List.append_assoc]⟩, fun a p q => ⟨(g2 a p q).1.trans (g1 a p q).1, (g2 a p q).2.trans (g1 a p q).2⟩⟩
theorem PastR.cg {I I' : aI} {h : List aN} (hP : PastR I h) (hI : ∀ a, 100 ≤ a → a ≤ 325 → I' a = I a) : PastR I' h := by
  obtain ⟨p0, p1, p2, p3⟩ := hP
  unfold PastR
  rw [hI 100 (by omega) (by omega)]
  refine ⟨p0, p1, p2, fun j m hj => (p3 j m hj).cg (fun x g1 g2 => hI x ?_ ?_)⟩
  · unfold rgc at g1; omega
  · unfold rgc at g2; omega
theorem BkR.cg {I I' : aI} {B : List (Int × Int)} (hB : BkR I B) (hI : ∀ a, 326 ≤ a → a ≤ 328 → I' a = I a) : BkR I' B := by
  unfold BkR at hB ⊢
  rw [hI 326 (by omega) (by omega), hI 327 (by omega) (by omega), hI 328 (by omega) (by omega)]
  exact hB
theorem ImgC.cg {I I' : aI} {i : Int} {o : Option (aN × Int)} (h : ImgC I i o) (h0 : 0 ≤ i) (h1 : i ≤ 1) (hI : ∀ a, 331 ≤ a → a ≤ 360 → I' a = I a) : ImgC I' i o := by
  cases o with
  | none =>
    show I' 332 i = 0
    rw [hI 332 (by omega) (by omega)]
    exact h
  | some q =>
    obtain ⟨a1, a2, a3⟩ := h
    refine ⟨by rw [hI 332 (by omega) (by omega)]; exact a1, a2.cg (fun x g1 g2 => hI x ?_ ?_), by rw [hI 331 (by omega) (by omega)]; exact a3⟩
    · unfold imc at g1; omega
    · unfold imc at g2; omega
/-- questions of timing: the trial net and the timing alone are touched -/
theorem CSt.q {n : aN} {h : List aN} {B : List (Int × Int)} {sd : Int} {im : Int → Option (aN × Int)} {I I' : aI} {R : aR} {S : aS} (hC : CSt n h B sd im I R S) (hN : n 0 ≤ 6) (hI : ∀ a, ¬ (15 ≤ a ∧ a ≤ 33) → I' a = I a) : CSt n h B sd im I' R S := by
  obtain ⟨c1, c2, c3, c4, c5, c6, c7, c8, c9⟩ := hC
  refine ⟨c1, c2, c3, c4.cg (fun x g1 g2 => hI x (by omega)), c5.cg (fun a g1 g2 => hI a (by omega)), c6.cg (fun a g1 g2 => hI a (by omega)), by rw [hI 329 (by omega)]; exact c7, fun i g0 g1 => (c8 i g0 g1).cg g0 g1 (fun a p1 p2 => hI a (by omega)), ?_⟩
  rw [hI 34 (by omega)]
  rcases c9 with c9 | ⟨c9, c10⟩
  · exact Or.inl c9
  · exact Or.inr ⟨c9, c10.cg hN c2 (fun a ha => hI a (by omega))⟩
/-- the net itself is changed, while the choices are not fresh -/
theorem CSt.net {n n' : aN} {h : List aN} {B : List (Int × Int)} {sd : Int} {im : Int → Option (aN × Int)} {I I' : aI} {R : aR} {S : aS} (hC : CSt n h B sd im I R S) (h5 : I 34 5 = 0) (hI : ∀ a, ¬ (1 ≤ a ∧ a ≤ 33) → I' a = I a) (hR : NetR I' 1 n') : CSt n' h B sd im I' R S := by
  obtain ⟨c1, c2, c3, c4, c5, c6, c7, c8, c9⟩ := hC
  exact ⟨c1, c2, c3, hR, c5.cg (fun a g1 g2 => hI a (by omega)), c6.cg (fun a g1 g2 => hI a (by omega)), by rw [hI 329 (by omega)]; exact c7, fun i g0 g1 => (c8 i g0 g1).cg g0 g1 (fun a p1 p2 => hI a (by omega)), Or.inl (by rw [hI 34 (by omega)]; exact h5)⟩
/-- the choices are made -/
theorem CSt.cho {n : aN} {h : List aN} {B : List (Int × Int)} {sd : Int} {im : Int → Option (aN × Int)} {I I' : aI} {R R' : aR} {S S' : aS} (hC : CSt n h B sd im I R S) (hF : CF I R S I' R' S') (h5 : I' 34 5 = 1) (hO : ChoOk n (WaysX n) I' R' S') : CSt n h B sd im I' R' S' ∧ XF I R S I' R' S' := by
  obtain ⟨c1, c2, c3, c4, c5, c6, c7, c8, c9⟩ := hC
  obtain ⟨⟨T, e⟩, f2, f3, f4, f5, f6⟩ := hF
  subst e
  refine ⟨⟨c1.cg f3, f4, ?_, c4.cg (fun x g1 g2 => f2 x (by omega) (by omega) (by omega)), c5.cg (fun a g1 g2 => f2 a (by omega) (by omega) (by omega)), c6.cg (fun a g1 g2 => f2 a (by omega) (by omega) (by omega)), by rw [f2 329 (by omega) (by omega) (by omega)]; exact c7, fun i g0 g1 => (c8 i g0 g1).cg g0 g1 (fun a p1 p2 => f2 a (by omega) (by omega) (by omega)), Or.inr ⟨h5, hO⟩⟩, ⟨T, rfl⟩, fun a p q => ⟨f2 a (by omega) (by omega) (by omega), f3 a (by omega) (by omega)⟩⟩
  unfold Rm at c3 ⊢
  omega
/-- within(x, lowest, highest) -/
theorem ok_within {P : aP} {d : Nat} {K : aK} {I : aI} {R : aR} {S : aS} {v lo hi : Int} (hv : iR v) (hlo : iR lo) (hhi : iR hi) (h1 : lo ≤ v ∧ v ≤ hi → K (some (vi 1)) I R S) (h0 : ¬ (lo ≤ v ∧ v ≤ hi) → K (some (vi 0)) I R S) : Ok P 69 (d + 1) [vi v, vi lo, vi hi] I R S K := by
  refine Ok.of (by decide) rfl (Nat.le_of_ble_eq_true rfl) ?_
  refine Go.walk 400 [] E69 E69_ok (fun G C hG hC => ?_)
  (repeat ((conv => whnf); first | refine ⟨_, by assumption, ?_⟩ | refine ⟨_, _, by assumption, ?_⟩ | refine ⟨(show _ ∧ _ by omega), ?_⟩ | refine ⟨(show _ ∨ _ by omega), ?_⟩ | refine ⟨fun h => absurd h (by decide), fun _ => ?_⟩ | refine ⟨fun _ => ?_, fun h => absurd h (by decide)⟩ | refine ⟨fun _ => ?_, fun h => absurd rfl h⟩ | refine ⟨fun h => absurd rfl h, fun _ => ?_⟩)); try (conv => whnf)
  refine ⟨fun h => ?_, fun h => ?_⟩
  · (repeat ((conv => whnf); first | refine ⟨_, by assumption, ?_⟩ | refine ⟨_, _, by assumption, ?_⟩ | refine ⟨(show _ ∧ _ by omega), ?_⟩ | refine ⟨(show _ ∨ _ by omega), ?_⟩ | refine ⟨fun h => absurd h (by decide), fun _ => ?_⟩ | refine ⟨fun _ => ?_, fun h => absurd h (by decide)⟩ | refine ⟨fun _ => ?_, fun h => absurd rfl h⟩ | refine ⟨fun h => absurd rfl h, fun _ => ?_⟩)); try (conv => whnf)
    exact h0 (by omega)
  · (repeat ((conv => whnf); first | refine ⟨_, by assumption, ?_⟩ | refine ⟨_, _, by assumption, ?_⟩ | refine ⟨(show _ ∧ _ by omega), ?_⟩ | refine ⟨(show _ ∨ _ by omega), ?_⟩ | refine ⟨fun h => absurd h (by decide), fun _ => ?_⟩ | refine ⟨fun _ => ?_, fun h => absurd h (by decide)⟩ | refine ⟨fun _ => ?_, fun h => absurd rfl h⟩ | refine ⟨fun h => absurd rfl h, fun _ => ?_⟩)); try (conv => whnf)
    refine ⟨fun h => ?_, fun h => ?_⟩
    · (repeat ((conv => whnf); first | refine ⟨_, by assumption, ?_⟩ | refine ⟨_, _, by assumption, ?_⟩ | refine ⟨(show _ ∧ _ by omega), ?_⟩ | refine ⟨(show _ ∨ _ by omega), ?_⟩ | refine ⟨fun h => absurd h (by decide), fun _ => ?_⟩ | refine ⟨fun _ => ?_, fun h => absurd h (by decide)⟩ | refine ⟨fun _ => ?_, fun h => absurd rfl h⟩ | refine ⟨fun h => absurd rfl h, fun _ => ?_⟩)); try (conv => whnf)
      exact h0 (by omega)
    · (repeat ((conv => whnf); first | refine ⟨_, by assumption, ?_⟩ | refine ⟨_, _, by assumption, ?_⟩ | refine ⟨(show _ ∧ _ by omega), ?_⟩ | refine ⟨(show _ ∨ _ by omega), ?_⟩ | refine ⟨fun h => absurd h (by decide), fun _ => ?_⟩ | refine ⟨fun _ => ?_, fun h => absurd h (by decide)⟩ | refine ⟨fun _ => ?_, fun h => absurd rfl h⟩ | refine ⟨fun h => absurd rfl h, fun _ => ?_⟩)); try (conv => whnf)
      exact h1 (by omega)
/-- forget() -/
theorem ok_forget {P : aP} {d : Nat} {K : aK} {I : aI} {R : aR} {S : aS} (hS : ChS R S) (hK : K none (uI I 34 5 0) R S) : Ok P 4 (d + 1) [vr 34] I R S K := by
  obtain ⟨s0, -⟩ := hS
  refine Ok.of (by decide) rfl (Nat.le_of_ble_eq_true rfl) ?_
  refine Go.walk 400 [] E4 E4_ok (fun G C hG hC => ?_)
  (repeat ((conv => whnf); first | refine ⟨_, by assumption, ?_⟩ | refine ⟨_, _, by assumption, ?_⟩ | refine ⟨(show _ ∧ _ by omega), ?_⟩ | refine ⟨(show _ ∨ _ by omega), ?_⟩ | refine ⟨fun h => absurd h (by decide), fun _ => ?_⟩ | refine ⟨fun _ => ?_, fun h => absurd h (by decide)⟩ | refine ⟨fun _ => ?_, fun h => absurd rfl h⟩ | refine ⟨fun h => absurd rfl h, fun _ => ?_⟩)); try (conv => whnf)
  exact hK
theorem mod16 {a b : Int} (h : a % 16 = b) (hb : 0 ≤ b ∧ b < 16) : 0 ≤ b ∧ b < 16 := hb
/-- push(net) -/
theorem ok_push {P : aP} {d : Nat} {K : aK} {I : aI} {R : aR} {S : aS} {n : aN} {h : List aN} (hS : SS R S) (hR : NetR I 1 n) (hP : PastR I h) (hK : ∀ I', (∀ a, ¬ (100 ≤ a ∧ a ≤ 325) → I' a = I a) → PastR I' (pushH h n) → K none I' R S) : Ok P 36 (d + 2) [vr 100, vr 1] I R S K := by
  obtain ⟨-, ⟨b0, b1, b2, b3, b4, b5, b6⟩, -, c2, c3, -⟩ := hS
  obtain ⟨p0, p1, p2, p3⟩ := hP
  have e1 : R 101 (I 100 ((1 : Nat) : Int)) = some (rgc (I 100 1)) := c2 _ p2.1 p2.2
  have hN1 := c3 1 (Or.inl rfl)
  have hNr := c3 (rgc (I 100 1)) (Or.inr (Or.inr (Or.inl ⟨_, p2.1, p2.2, rfl⟩)))
  have q1 : 0 ≤ I 100 ((1 : Nat) : Int) ∧ I 100 ((1 : Nat) : Int) < 16 := p2
  have rlo : ∀ j : Int, 102 ≤ rgc j := fun j => by unfold rgc; omega
  have rhi : ∀ j : Int, j < 16 → rgc j + 13 ≤ 325 := fun j hj => by unfold rgc; omega
  have sn := hNr.1
  refine Ok.of (by decide) rfl (Nat.le_of_ble_eq_true rfl) ?_
  refine Go.walk 400 [] E36 E36_ok (fun G C hG hC => ?_)
  (repeat ((conv => whnf); first | refine ⟨_, by assumption, ?_⟩ | refine ⟨_, _, by assumption, ?_⟩ | refine ⟨(show _ ∧ _ by omega), ?_⟩ | refine ⟨(show _ ∨ _ by omega), ?_⟩ | refine ⟨fun h => absurd h (by decide), fun _ => ?_⟩ | refine ⟨fun _ => ?_, fun h => absurd h (by decide)⟩ | refine ⟨fun _ => ?_, fun h => absurd rfl h⟩ | refine ⟨fun h => absurd rfl h, fun _ => ?_⟩)); try (conv => whnf)
  refine hC _ _ _ _ _ _ ?_
  refine ok_copyFrom hNr hN1 hR (by have := rlo (I 100 1); omega) (fun I1 hF1 hR1 => ?_)
  have u1 : I1 100 = I 100 := hF1 100 (Or.inl (by have := rlo (I 100 1); omega))
  have v1 : I1 100 ((1 : Nat) : Int) = I 100 1 := by rw [u1]; rfl
  have v2 : uI I1 100 ((1 : Nat) : Int) ((I 100 1 + 1) % 16) 100 ((2 : Nat) : Int) = h.length := by rw [uI_ne (by omega), u1]; exact p0
  (repeat ((conv => whnf); first | refine ⟨_, by assumption, ?_⟩ | refine ⟨_, _, by assumption, ?_⟩ | refine ⟨(show _ ∧ _ by omega), ?_⟩ | refine ⟨(show _ ∨ _ by omega), ?_⟩ | refine ⟨fun h => absurd h (by decide), fun _ => ?_⟩ | refine ⟨fun _ => ?_, fun h => absurd h (by decide)⟩ | refine ⟨fun _ => ?_, fun h => absurd rfl h⟩ | refine ⟨fun h => absurd rfl h, fun _ => ?_⟩)); try (conv => whnf)
  rw [v1, v2]
  refine hC _ _ _ _ _ _ ?_
  refine ok_min (by omega) (by omega) ?_
  (repeat ((conv => whnf); first | refine ⟨_, by assumption, ?_⟩ | refine ⟨_, _, by assumption, ?_⟩ | refine ⟨(show _ ∧ _ by omega), ?_⟩ | refine ⟨(show _ ∨ _ by omega), ?_⟩ | refine ⟨fun h => absurd h (by decide), fun _ => ?_⟩ | refine ⟨fun _ => ?_, fun h => absurd h (by decide)⟩ | refine ⟨fun _ => ?_, fun h => absurd rfl h⟩ | refine ⟨fun h => absurd rfl h, fun _ => ?_⟩)); try (conv => whnf)
  refine hK _ (fun a ha => ?_) ⟨?_, ?_, ?_, ?_⟩
  · funext k
    rw [uI_ne (by omega), uI_ne (by omega), hF1 a (by have := rlo (I 100 1); have := rhi (I 100 1) p2.2; omega)]
  · refine uI_at.trans ?_
    unfold pushH
    by_cases q : h.length = 16
    · rw [if_pos q, if_neg (by omega), List.length_append, List.length_tail, List.length_singleton]; omega
    · rw [if_neg q, if_pos (by omega), List.length_append, List.length_singleton]; omega
  · unfold pushH
    by_cases q : h.length = 16
    · rw [if_pos q, List.length_append, List.length_tail, List.length_singleton]; omega
    · rw [if_neg q, List.length_append, List.length_singleton]; omega
  · rw [uI_ne (by omega)]
    have e : uI I1 100 ((1 : Nat) : Int) ((I 100 1 + 1) % 16) 100 1 = (I 100 1 + 1) % 16 := uI_at
    rw [e]
    omega
  · intro j m hj
    rw [uI_ne (show ¬ ((100 : Nat) = 100 ∧ (1 : Int) = ((2 : Nat) : Int)) by omega)]
    have e : uI I1 100 ((1 : Nat) : Int) ((I 100 1 + 1) % 16) 100 1 = (I 100 1 + 1) % 16 := uI_at
    rw [e]
    have cg : ∀ (x : Int) (m : aN), x < 16 → NetR I1 (rgc x) m → NetR (uI (uI I1 100 ((1 : Nat) : Int) ((I 100 1 + 1) % 16)) 100 ((2 : Nat) : Int) (if (h.length : Int) + 1 ≤ 16 then (h.length : Int) + 1 else 16)) (rgc x) m := by
      intro x m hx hm
      refine hm.cg (fun y g1 g2 => ?_)
      have := rlo x
      funext k
      rw [uI_ne (by omega), uI_ne (by omega)]
    have old : ∀ (x : Int) (m : aN), 0 ≤ x → x < 16 → x ≠ I 100 1 → NetR I (rgc x) m → NetR I1 (rgc x) m := by
      intro x m h0 h1 hne hm
      refine hm.cg (fun y g1 g2 => hF1 y ?_)
      unfold rgc at g1 g2 ⊢
      omega
    unfold pushH at hj ⊢
    by_cases q : h.length = 16
    · rw [if_pos q] at hj ⊢
      have hl : (h.tail ++ [n]).length = 16 := by rw [List.length_append, List.length_tail, List.length_singleton]; omega
      rw [hl]
      have hjl := (List.getElem?_eq_some_iff.mp hj).1
      rw [hl] at hjl
      by_cases qj : j < 15
      · rw [List.getElem?_append_left (by rw [List.length_tail]; omega), List.getElem?_tail] at hj
        have ex : ((I 100 1 + 1) % 16 + 16 - ((16 : Nat) : Int) + (j : Int)) % 16 = (I 100 1 + 16 - (h.length : Int) + ((j + 1 : Nat) : Int)) % 16 := by omega
        rw [ex]
        exact cg _ m (by omega) (old _ m (by omega) (by omega) (by omega) (p3 (j + 1) m hj))
      · have ej : j = 15 := by omega
        subst ej
        rw [List.getElem?_append_right (by rw [List.length_tail]; omega), List.length_tail, q] at hj
        cases hj
        have ex : ((I 100 1 + 1) % 16 + 16 - ((16 : Nat) : Int) + ((15 : Nat) : Int)) % 16 = I 100 1 := by omega
        rw [ex]
        exact cg _ n p2.2 hR1
    · rw [if_neg q] at hj ⊢
      rw [List.length_append, List.length_singleton]
      have hjl := (List.getElem?_eq_some_iff.mp hj).1
      rw [List.length_append, List.length_singleton] at hjl
      by_cases qj : j < h.length
      · rw [List.getElem?_append_left qj] at hj
        have ex : ((I 100 1 + 1) % 16 + 16 - ((h.length + 1 : Nat) : Int) + (j : Int)) % 16 = (I 100 1 + 16 - (h.length : Int) + (j : Int)) % 16 := by omega
        rw [ex]
        exact cg _ m (by omega) (old _ m (by omega) (by omega) (by omega) (p3 j m hj))
      · have ej : j = h.length := by omega
        rw [ej, List.getElem?_append_right (Nat.le_refl _), Nat.sub_self] at hj
        cases hj
        have ex : ((I 100 1 + 1) % 16 + 16 - ((h.length + 1 : Nat) : Int) + (j : Int)) % 16 = I 100 1 := by omega
        rw [ex]
        exact cg _ n p2.2 hR1
