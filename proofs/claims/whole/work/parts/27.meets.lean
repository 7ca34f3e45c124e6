/-! the reference: isBeaten, meets -/
abbrev aT : Type := Int × Int × Int
def wb (o x : aT) : Bool := decide (o.1 ≤ x.1) && (decide (x.2.1 ≤ o.2.1) && decide (o.2.2 ≤ x.2.2))
theorem wb_iff {o x : aT} : wb o x = true ↔ o.1 ≤ x.1 ∧ x.2.1 ≤ o.2.1 ∧ o.2.2 ≤ x.2.2 := by simp [wb]
def gtl (x t : aT) : Prop := t.1 < x.1 ∨ (x.1 = t.1 ∧ t.2.2 < x.2.2)
def tR (t : aT) : Prop := iR t.1 ∧ iR t.2.1 ∧ iR t.2.2
/-- three rows hold a list of triples -/
def Hd (I : aI) (a b c : Nat) (L : List aT) : Prop := ∀ (i : Nat) (t : aT), L[i]? = some t → I a i = t.1 ∧ I b i = t.2.1 ∧ I c i = t.2.2
theorem ok_isBeaten {P : aP} {d : Nat} {K : aK} {I : aI} {R : aR} {S : aS} {x o : aT} (hx : tR x) (ho : tR o) (h1 : wb o x = true → K (some (vi 1)) I R S) (h0 : wb o x = false → K (some (vi 0)) I R S) : Ok P 95 (d + 1) [vi x.1, vi x.2.1, vi x.2.2, vi o.1, vi o.2.1, vi o.2.2] I R S K := by
  obtain ⟨a1, a2, a3⟩ := hx
  obtain ⟨b1, b2, b3⟩ := ho
  have h0' : ¬ (o.1 ≤ x.1 ∧ x.2.1 ≤ o.2.1 ∧ o.2.2 ≤ x.2.2) → K (some (vi 0)) I R S := fun h => h0 (by cases hc : wb o x with
    | false => rfl
    | true => exact absurd (wb_iff.mp hc) h)
  refine Ok.of (by decide) rfl (Nat.le_of_ble_eq_true rfl) ?_
  refine Go.walk 400 [] E95 E95_ok (fun G C hG hC => ?_)
  (repeat ((conv => whnf); first | refine ⟨_, by assumption, ?_⟩ | refine ⟨_, _, by assumption, ?_⟩ | refine ⟨(show _ ∧ _ by omega), ?_⟩ | refine ⟨(show _ ∨ _ by omega), ?_⟩ | refine ⟨fun h => absurd h (by decide), fun _ => ?_⟩ | refine ⟨fun _ => ?_, fun h => absurd h (by decide)⟩ | refine ⟨fun _ => ?_, fun h => absurd rfl h⟩ | refine ⟨fun h => absurd rfl h, fun _ => ?_⟩)); try (conv => whnf)
  refine ⟨fun h => ?_, fun h => ?_⟩
  · (repeat ((conv => whnf); first | refine ⟨_, by assumption, ?_⟩ | refine ⟨_, _, by assumption, ?_⟩ | refine ⟨(show _ ∧ _ by omega), ?_⟩ | refine ⟨(show _ ∨ _ by omega), ?_⟩ | refine ⟨fun h => absurd h (by decide), fun _ => ?_⟩ | refine ⟨fun _ => ?_, fun h => absurd h (by decide)⟩ | refine ⟨fun _ => ?_, fun h => absurd rfl h⟩ | refine ⟨fun h => absurd rfl h, fun _ => ?_⟩)); try (conv => whnf)
    exact h0' (by omega)
  · (repeat ((conv => whnf); first | refine ⟨_, by assumption, ?_⟩ | refine ⟨_, _, by assumption, ?_⟩ | refine ⟨(show _ ∧ _ by omega), ?_⟩ | refine ⟨(show _ ∨ _ by omega), ?_⟩ | refine ⟨fun h => absurd h (by decide), fun _ => ?_⟩ | refine ⟨fun _ => ?_, fun h => absurd h (by decide)⟩ | refine ⟨fun _ => ?_, fun h => absurd rfl h⟩ | refine ⟨fun h => absurd rfl h, fun _ => ?_⟩)); try (conv => whnf)
    refine ⟨fun h => ?_, fun h => ?_⟩
    · (repeat ((conv => whnf); first | refine ⟨_, by assumption, ?_⟩ | refine ⟨_, _, by assumption, ?_⟩ | refine ⟨(show _ ∧ _ by omega), ?_⟩ | refine ⟨(show _ ∨ _ by omega), ?_⟩ | refine ⟨fun h => absurd h (by decide), fun _ => ?_⟩ | refine ⟨fun _ => ?_, fun h => absurd h (by decide)⟩ | refine ⟨fun _ => ?_, fun h => absurd rfl h⟩ | refine ⟨fun h => absurd rfl h, fun _ => ?_⟩)); try (conv => whnf)
      exact h0' (by omega)
    · (repeat ((conv => whnf); first | refine ⟨_, by assumption, ?_⟩ | refine ⟨_, _, by assumption, ?_⟩ | refine ⟨(show _ ∧ _ by omega), ?_⟩ | refine ⟨(show _ ∨ _ by omega), ?_⟩ | refine ⟨fun h => absurd h (by decide), fun _ => ?_⟩ | refine ⟨fun _ => ?_, fun h => absurd h (by decide)⟩ | refine ⟨fun _ => ?_, fun h => absurd rfl h⟩ | refine ⟨fun h => absurd rfl h, fun _ => ?_⟩)); try (conv => whnf)
      refine ⟨fun h => ?_, fun h => ?_⟩
      · (repeat ((conv => whnf); first | refine ⟨_, by assumption, ?_⟩ | refine ⟨_, _, by assumption, ?_⟩ | refine ⟨(show _ ∧ _ by omega), ?_⟩ | refine ⟨(show _ ∨ _ by omega), ?_⟩ | refine ⟨fun h => absurd h (by decide), fun _ => ?_⟩ | refine ⟨fun _ => ?_, fun h => absurd h (by decide)⟩ | refine ⟨fun _ => ?_, fun h => absurd rfl h⟩ | refine ⟨fun h => absurd rfl h, fun _ => ?_⟩)); try (conv => whnf)
        exact h0' (by omega)
      · (repeat ((conv => whnf); first | refine ⟨_, by assumption, ?_⟩ | refine ⟨_, _, by assumption, ?_⟩ | refine ⟨(show _ ∧ _ by omega), ?_⟩ | refine ⟨(show _ ∨ _ by omega), ?_⟩ | refine ⟨fun h => absurd h (by decide), fun _ => ?_⟩ | refine ⟨fun _ => ?_, fun h => absurd h (by decide)⟩ | refine ⟨fun _ => ?_, fun h => absurd rfl h⟩ | refine ⟨fun h => absurd rfl h, fun _ => ?_⟩)); try (conv => whnf)
        exact h1 (wb_iff.mpr (by omega))
/-- what else of the reference's object and rows stays -/
def MF (L : List Nat) (J : List Int) (I I' : aI) : Prop := (∀ a, a ∉ (361 :: L) → I' a = I a) ∧ ∀ j, j ∉ J → I' 361 j = I 361 j
theorem MF.rf {L : List Nat} {J : List Int} {I : aI} : MF L J I I := ⟨fun _ _ => rfl, fun _ _ => rfl⟩
theorem MF.put {L : List Nat} {J : List Int} {I I' : aI} {a : Nat} {j z : Int} (h : MF L J I I') (ha : a ∈ L) (h361 : a ≠ 361) : MF L J I (uI I' a j z) := by
  refine ⟨fun x hx => ?_, fun k hk => ?_⟩
  · rw [← h.1 x hx]
    funext k
    exact uI_ne (fun e => hx (List.mem_cons_of_mem _ (e.1 ▸ ha)))
  · rw [uI_ne (fun e => h361 e.1.symm)]; exact h.2 k hk
theorem MF.putF {L : List Nat} {J : List Int} {I I' : aI} {j z : Int} (h : MF L J I I') (hj : j ∈ J) : MF L J I (uI I' 361 j z) := by
  refine ⟨fun x hx => ?_, fun k hk => ?_⟩
  · rw [← h.1 x hx]
    funext k
    exact uI_ne (fun e => hx (e.1 ▸ List.mem_cons_self))
  · rw [uI_ne (fun e => hk (by rw [e.2]; exact hj))]; exact h.2 k hk
theorem MF.trans {L L1 L2 : List Nat} {J J1 J2 : List Int} {I I1 I2 : aI} (h : MF L1 J1 I I1) (h2 : MF L2 J2 I1 I2) (hL : ∀ a, a ∈ L1 ∨ a ∈ L2 → a ∈ L) (hJ : ∀ a, a ∈ J1 ∨ a ∈ J2 → a ∈ J) : MF L J I I2 := by
  refine ⟨fun x hx => ?_, fun j hj => ?_⟩
  · have h3 : x ∉ 361 :: L1 := fun q => hx (by rcases List.mem_cons.mp q with q | q; exact q ▸ List.mem_cons_self; exact List.mem_cons_of_mem _ (hL x (Or.inl q)))
    have h4 : x ∉ 361 :: L2 := fun q => hx (by rcases List.mem_cons.mp q with q | q; exact q ▸ List.mem_cons_self; exact List.mem_cons_of_mem _ (hL x (Or.inr q)))
    rw [h2.1 x h4, h.1 x h3]
  · rw [h2.2 j (fun q => hj (hJ j (Or.inr q))), h.2 j (fun q => hj (hJ j (Or.inl q)))]
theorem MF.of {L : List Nat} {J : List Int} {I I' : aI} (h : Fr L I I') (hL : 361 ∉ L) : MF L J I I' := ⟨fun x hx => h x (fun q => hx (List.mem_cons_of_mem _ q)), fun j _ => by rw [h 361 hL]⟩
/-- what meets makes of a list -/
def Mts (L : List aT) (t : aT) (L' : List aT) : Prop := (L.any (fun o => wb o t) = true ∧ L' = L) ∨ (L.any (fun o => wb o t) = false ∧ ∃ A B, L.filter (fun x => !wb t x) = A ++ B ∧ (∀ x ∈ B, gtl x t) ∧ (∀ A' x, A = A' ++ [x] → ¬ gtl x t) ∧ L' = A ++ t :: B)
/-- three rows hold a list from a place on -/
def Ho (I : aI) (k : Int) (L : List aT) : Prop := ∀ (i : Nat) (t : aT), L[i]? = some t → I 374 (k + i) = t.1 ∧ I 375 (k + i) = t.2.1 ∧ I 376 (k + i) = t.2.2
theorem Ho.cons {I : aI} {k : Int} {c : aT} {L : List aT} (h : Ho I k (c :: L)) : (I 374 k = c.1 ∧ I 375 k = c.2.1 ∧ I 376 k = c.2.2) ∧ Ho I (k + 1) L := by
  refine ⟨?_, fun i t ht => ?_⟩
  · have := h 0 c rfl
    rw [show k + ((0 : Nat) : Int) = k by omega] at this
    exact this
  · have := h (i + 1) t ht
    rw [show k + ((i + 1 : Nat) : Int) = k + 1 + (i : Nat) by omega] at this
    exact this
def u3 (I : aI) (k : Int) (t : aT) : aI := uI (uI (uI I 374 k t.1) 375 k t.2.1) 376 k t.2.2
theorem u3_at {I : aI} {k : Int} {t : aT} : u3 I k t 374 k = t.1 ∧ u3 I k t 375 k = t.2.1 ∧ u3 I k t 376 k = t.2.2 := by
  refine ⟨?_, ?_, ?_⟩
  · show uI (uI (uI I 374 k t.1) 375 k t.2.1) 376 k t.2.2 374 k = _
    rw [uI_ne (by omega), uI_ne (by omega), uI_at]
  · show uI (uI (uI I 374 k t.1) 375 k t.2.1) 376 k t.2.2 375 k = _
    rw [uI_ne (by omega), uI_at]
  · exact uI_at
theorem u3_ne {I : aI} {k j : Int} {t : aT} (q : Nat) (h : j ≠ k) : u3 I k t q j = I q j := by
  show uI (uI (uI I 374 k t.1) 375 k t.2.1) 376 k t.2.2 q j = _
  rw [uI_ne (fun e => h e.2), uI_ne (fun e => h e.2), uI_ne (fun e => h e.2)]
theorem Ho.put {I : aI} {k j : Int} {t : aT} {L : List aT} (h : Ho I k L) (hj : j < k ∨ k + L.length ≤ j) : Ho (u3 I j t) k L := by
  intro i x hx
  have hi := (List.getElem?_eq_some_iff.mp hx).1
  rw [u3_ne 374 (by omega), u3_ne 375 (by omega), u3_ne 376 (by omega)]
  exact h i x hx
theorem Ho.snoc {I : aI} {k j : Int} {t : aT} {L : List aT} (h : Ho I k L) (hj : j = k + L.length) : Ho (u3 I j t) k (L ++ [t]) := by
  intro i x hx
  by_cases hi : i < L.length
  · rw [List.getElem?_append_left hi] at hx
    exact h.put (t := t) (Or.inr (by omega)) i x hx
  · have hz := (List.getElem?_eq_some_iff.mp hx).1
    rw [List.length_append, List.length_singleton] at hz
    have hi2 : i = L.length := by omega
    subst hi2
    rw [List.getElem?_append_right (Nat.le_refl _), Nat.sub_self] at hx
    cases hx
    rw [← hj]
    exact u3_at
theorem Ho.front {I : aI} {k j : Int} {t : aT} {L : List aT} (h : Ho I k L) (hj : j + 1 = k) : Ho (u3 I j t) j (t :: L) := by
  intro i x hx
  cases i with
  | zero =>
    cases hx
    rw [show j + ((0 : Nat) : Int) = j by omega]
    exact u3_at
  | succ i =>
    have := h.put (t := t) (j := j) (Or.inl (by omega)) i x hx
    rw [show j + ((i + 1 : Nat) : Int) = k + (i : Nat) by omega]
    exact this
theorem Ho.app {I : aI} {k : Int} {A B : List aT} (hA : Ho I k A) (hB : Ho I (k + A.length) B) : Ho I k (A ++ B) := by
  intro i x hx
  by_cases hi : i < A.length
  · rw [List.getElem?_append_left hi] at hx
    exact hA i x hx
  · rw [List.getElem?_append_right (by omega)] at hx
    have := hB (i - A.length) x hx
    rw [show k + (A.length : Int) + ((i - A.length : Nat) : Int) = k + (i : Nat) by omega] at this
    exact this
theorem Ho.left {I : aI} {k : Int} {A B : List aT} (h : Ho I k (A ++ B)) : Ho I k A := by
  intro i x hx
  have hi := (List.getElem?_eq_some_iff.mp hx).1
  exact h i x (by rw [List.getElem?_append_left hi]; exact hx)
theorem MF.put3 {I I' : aI} {k : Int} {t : aT} (h : MF [374, 375, 376] [18] I I') : MF [374, 375, 376] [18] I (u3 I' k t) := ((h.put (by decide) (by decide)).put (by decide) (by decide)).put (by decide) (by decide)
theorem Ho.hd {I : aI} {L : List aT} : Ho I 0 L ↔ Hd I 374 375 376 L := by
  constructor
  · intro h i t ht
    have := h i t ht
    rw [show (0 : Int) + (i : Nat) = (i : Nat) by omega] at this
    exact this
  · intro h i t ht
    rw [show (0 : Int) + (i : Nat) = (i : Nat) by omega]
    exact h i t ht
theorem ok_meets {P : aP} {d : Nat} {K : aK} {I : aI} {R : aR} {S : aS} {t : aT} {L : List aT} (hM : MS R S) (hf : I 361 18 = L.length) (hL : Hd I 374 375 376 L) (hlen : L.length < 1099) (ht : tR t) (hr : ∀ x ∈ L, tR x)
    (hK : ∀ I' L', MF [374, 375, 376] [18] I I' → Mts L t L' → I' 361 18 = L'.length → Hd I' 374 375 376 L' → K none I' R S) : Ok P 96 (d + 2) [vr 361, vi t.1, vi t.2.1, vi t.2.2] I R S K := by
  obtain ⟨m0, r1, m1, r2, m2, r3, m3, r4, m4, r5, m5, r6, m6, r7, m7, r8, m8, r9, m9, r10, m10, r11, m11, r12, m12, r13, m13, r14, m14, r15, m15⟩ := id hM
  obtain ⟨t1, t2, t3⟩ := id ht
  -- the end
  have fin : ∀ (A B : List aT) (I' : aI) (at_ nn : Int), at_ = A.length → nn = A.length + B.length → nn < 1099 → L.any (fun o => wb o t) = false → L.filter (fun x => !wb t x) = A ++ B → (∀ x ∈ B, gtl x t) → (∀ A' x, A = A' ++ [x] → ¬ gtl x t) → MF [374, 375, 376] [18] I I' → Ho I' 0 A → Ho I' (at_ + 1) B →
      Go P 96 (d + 2) K 247 [vr 361, vi t.1, vi t.2.1, vi t.2.2, vi nn, vi at_] [] I' R S := by
    intro A B I' at_ nn ha hn hl han hfl hB hA' hF hA hB2
    refine Go.walk 400 [] E96 E96_ok (fun G C hG hC => ?_)
    (repeat ((conv => whnf); first | refine ⟨_, by assumption, ?_⟩ | refine ⟨_, _, by assumption, ?_⟩ | refine ⟨(show _ ∧ _ by omega), ?_⟩ | refine ⟨(show _ ∨ _ by omega), ?_⟩ | refine ⟨fun h => absurd h (by decide), fun _ => ?_⟩ | refine ⟨fun _ => ?_, fun h => absurd h (by decide)⟩ | refine ⟨fun _ => ?_, fun h => absurd rfl h⟩ | refine ⟨fun h => absurd rfl h, fun _ => ?_⟩)); try (conv => whnf)
    refine hK (uI (u3 I' at_ t) 361 18 (nn + 1)) (A ++ t :: B) (hF.put3.putF (by decide)) (Or.inr ⟨han, A, B, hfl, hB, hA', rfl⟩) ?_ ?_
    · rw [uI_at]; simp; omega
    · have h1 : Ho (u3 I' at_ t) 0 (A ++ t :: B) := (hA.put (Or.inr (by omega))).app (by rw [show (0 : Int) + A.length = at_ by omega]; exact hB2.front rfl)
      intro i x hx
      have := (Ho.hd.mp h1) i x hx
      rw [uI_ne (by omega), uI_ne (by omega), uI_ne (by omega)]
      exact this
  -- the third loop: shifting
  have l3 : ∀ (Ar B : List aT) (I' : aI) (at_ nn : Int), at_ = Ar.length → nn = Ar.length + B.length → nn < 1099 → L.any (fun o => wb o t) = false → L.filter (fun x => !wb t x) = Ar.reverse ++ B → (∀ x ∈ B, gtl x t) → (∀ x ∈ Ar, tR x) → MF [374, 375, 376] [18] I I' → Ho I' 0 Ar.reverse → Ho I' (at_ + 1) B →
      Go P 96 (d + 2) K 149 [vr 361, vi t.1, vi t.2.1, vi t.2.2, vi nn, vi at_] [] I' R S := by
    intro Ar
    induction Ar with
    | nil =>
      intro B I' at_ nn ha hn hl han hfl hB hAr hF hA hB2
      have ha : at_ = 0 := ha
      refine Go.walk 400 [149, 247] E96 E96_ok (fun G C hG hC => ?_)
      (repeat ((conv => whnf); first | refine ⟨_, by assumption, ?_⟩ | refine ⟨_, _, by assumption, ?_⟩ | refine ⟨(show _ ∧ _ by omega), ?_⟩ | refine ⟨(show _ ∨ _ by omega), ?_⟩ | refine ⟨fun h => absurd h (by decide), fun _ => ?_⟩ | refine ⟨fun _ => ?_, fun h => absurd h (by decide)⟩ | refine ⟨fun _ => ?_, fun h => absurd rfl h⟩ | refine ⟨fun h => absurd rfl h, fun _ => ?_⟩)); try (conv => whnf)
      refine ⟨fun _ => ?_, fun h => absurd (show at_ ≤ 0 by omega) h⟩
      (repeat ((conv => whnf); first | refine ⟨_, by assumption, ?_⟩ | refine ⟨_, _, by assumption, ?_⟩ | refine ⟨(show _ ∧ _ by omega), ?_⟩ | refine ⟨(show _ ∨ _ by omega), ?_⟩ | refine ⟨fun h => absurd h (by decide), fun _ => ?_⟩ | refine ⟨fun _ => ?_, fun h => absurd h (by decide)⟩ | refine ⟨fun _ => ?_, fun h => absurd rfl h⟩ | refine ⟨fun h => absurd rfl h, fun _ => ?_⟩)); try (conv => whnf)
      refine hG _ _ _ _ _ _ ?_
      exact fin [] B I' at_ nn (by simp [ha]) (by simpa using hn) hl han (by simpa using hfl) hB (fun A' x h => by cases A' <;> cases h) hF (fun i t h => by cases h) hB2
    | cons x Ar ih =>
      intro B I' at_ nn ha hn hl han hfl hB hAr hF hA hB2
      rw [List.length_cons] at ha hn
      rw [List.reverse_cons] at hfl hA
      have hx := hA Ar.length x (by rw [List.getElem?_append_right (by simp)]; simp)
      rw [show (0 : Int) + (Ar.length : Nat) = at_ - 1 by omega] at hx
      obtain ⟨x1, x2, x3⟩ := hAr x List.mem_cons_self
      have hstop : ¬ gtl x t → Go P 96 (d + 2) K 247 [vr 361, vi t.1, vi t.2.1, vi t.2.2, vi nn, vi at_] [] I' R S := by
        intro hng
        refine fin (Ar.reverse ++ [x]) B I' at_ nn (by simp; omega) (by simp; omega) hl han hfl hB (fun A2 y h => ?_) hF hA hB2
        have := List.append_inj' h rfl
        cases this.2
        exact hng
      have hgo : gtl x t → Go P 96 (d + 2) K 149 [vr 361, vi t.1, vi t.2.1, vi t.2.2, vi nn, vi (at_ + -1)] [] (u3 I' at_ x) R S := by
        intro hg
        refine ih (x :: B) (u3 I' at_ x) (at_ + -1) nn (by omega) (by rw [List.length_cons]; omega) hl han (by rw [hfl]; simp) (fun y hy => ?_) (fun y hy => hAr y (List.mem_cons_of_mem _ hy)) hF.put3 (hA.left.put (Or.inr (by simp; omega))) ?_
        · rcases List.mem_cons.mp hy with h | h
          · rw [h]; exact hg
          · exact hB y h
        · rw [show at_ + -1 + 1 = at_ by omega]
          exact hB2.front rfl
      have hx5' : uI I' 374 at_ x.1 375 (at_ - 1) = x.2.1 := by rw [uI_ne (by omega)]; exact hx.2.1
      have hx6' : uI (uI I' 374 at_ x.1) 375 at_ x.2.1 376 (at_ - 1) = x.2.2 := by rw [uI_ne (by omega), uI_ne (by omega)]; exact hx.2.2
      have go193 : gtl x t → Go P 96 (d + 2) K 193 [vr 361, vi t.1, vi t.2.1, vi t.2.2, vi nn, vi at_] [] I' R S := by
        intro hg
        refine Go.walk 400 [149, 247] E96 E96_ok (fun G C hG hC => ?_)
        (repeat ((conv => whnf); first | refine ⟨_, by assumption, ?_⟩ | refine ⟨_, _, by assumption, ?_⟩ | refine ⟨(show _ ∧ _ by omega), ?_⟩ | refine ⟨(show _ ∨ _ by omega), ?_⟩ | refine ⟨fun h => absurd h (by decide), fun _ => ?_⟩ | refine ⟨fun _ => ?_, fun h => absurd h (by decide)⟩ | refine ⟨fun _ => ?_, fun h => absurd rfl h⟩ | refine ⟨fun h => absurd rfl h, fun _ => ?_⟩)); try (conv => whnf)
        rw [hx.1, hx5', hx6']
        refine hG _ _ _ _ _ _ ?_
        exact hgo hg
      refine Go.walk 400 [149, 247, 193] E96 E96_ok (fun G C hG hC => ?_)
      (repeat ((conv => whnf); first | refine ⟨_, by assumption, ?_⟩ | refine ⟨_, _, by assumption, ?_⟩ | refine ⟨(show _ ∧ _ by omega), ?_⟩ | refine ⟨(show _ ∨ _ by omega), ?_⟩ | refine ⟨fun h => absurd h (by decide), fun _ => ?_⟩ | refine ⟨fun _ => ?_, fun h => absurd h (by decide)⟩ | refine ⟨fun _ => ?_, fun h => absurd rfl h⟩ | refine ⟨fun h => absurd rfl h, fun _ => ?_⟩)); try (conv => whnf)
      refine ⟨fun h => absurd h (by omega), fun _ => ?_⟩
      (repeat ((conv => whnf); first | refine ⟨_, by assumption, ?_⟩ | refine ⟨_, _, by assumption, ?_⟩ | refine ⟨(show _ ∧ _ by omega), ?_⟩ | refine ⟨(show _ ∨ _ by omega), ?_⟩ | refine ⟨fun h => absurd h (by decide), fun _ => ?_⟩ | refine ⟨fun _ => ?_, fun h => absurd h (by decide)⟩ | refine ⟨fun _ => ?_, fun h => absurd rfl h⟩ | refine ⟨fun h => absurd rfl h, fun _ => ?_⟩)); try (conv => whnf)
      rw [hx.1]
      (try refine ⟨by omega, ?_⟩)
      refine ⟨fun h => ?_, fun h => ?_⟩
      · (repeat ((conv => whnf); first | refine ⟨_, by assumption, ?_⟩ | refine ⟨_, _, by assumption, ?_⟩ | refine ⟨(show _ ∧ _ by omega), ?_⟩ | refine ⟨(show _ ∨ _ by omega), ?_⟩ | refine ⟨fun h => absurd h (by decide), fun _ => ?_⟩ | refine ⟨fun _ => ?_, fun h => absurd h (by decide)⟩ | refine ⟨fun _ => ?_, fun h => absurd rfl h⟩ | refine ⟨fun h => absurd rfl h, fun _ => ?_⟩)); try (conv => whnf)
        refine hG _ _ _ _ _ _ ?_
        exact go193 (Or.inl h)
      · (repeat ((conv => whnf); first | refine ⟨_, by assumption, ?_⟩ | refine ⟨_, _, by assumption, ?_⟩ | refine ⟨(show _ ∧ _ by omega), ?_⟩ | refine ⟨(show _ ∨ _ by omega), ?_⟩ | refine ⟨fun h => absurd h (by decide), fun _ => ?_⟩ | refine ⟨fun _ => ?_, fun h => absurd h (by decide)⟩ | refine ⟨fun _ => ?_, fun h => absurd rfl h⟩ | refine ⟨fun h => absurd rfl h, fun _ => ?_⟩)); try (conv => whnf)
        rw [hx.1]
        (try refine ⟨by omega, ?_⟩)
        refine ⟨fun h2 => ?_, fun h2 => ?_⟩
        · (repeat ((conv => whnf); first | refine ⟨_, by assumption, ?_⟩ | refine ⟨_, _, by assumption, ?_⟩ | refine ⟨(show _ ∧ _ by omega), ?_⟩ | refine ⟨(show _ ∨ _ by omega), ?_⟩ | refine ⟨fun h => absurd h (by decide), fun _ => ?_⟩ | refine ⟨fun _ => ?_, fun h => absurd h (by decide)⟩ | refine ⟨fun _ => ?_, fun h => absurd rfl h⟩ | refine ⟨fun h => absurd rfl h, fun _ => ?_⟩)); try (conv => whnf)
          refine hG _ _ _ _ _ _ ?_
          exact hstop (fun hg => by rcases hg with hg | hg <;> omega)
        · (repeat ((conv => whnf); first | refine ⟨_, by assumption, ?_⟩ | refine ⟨_, _, by assumption, ?_⟩ | refine ⟨(show _ ∧ _ by omega), ?_⟩ | refine ⟨(show _ ∨ _ by omega), ?_⟩ | refine ⟨fun h => absurd h (by decide), fun _ => ?_⟩ | refine ⟨fun _ => ?_, fun h => absurd h (by decide)⟩ | refine ⟨fun _ => ?_, fun h => absurd rfl h⟩ | refine ⟨fun h => absurd rfl h, fun _ => ?_⟩)); try (conv => whnf)
          rw [hx.2.2]
          (try refine ⟨by omega, ?_⟩)
          refine ⟨fun h3 => ?_, fun h3 => ?_⟩
          · (repeat ((conv => whnf); first | refine ⟨_, by assumption, ?_⟩ | refine ⟨_, _, by assumption, ?_⟩ | refine ⟨(show _ ∧ _ by omega), ?_⟩ | refine ⟨(show _ ∨ _ by omega), ?_⟩ | refine ⟨fun h => absurd h (by decide), fun _ => ?_⟩ | refine ⟨fun _ => ?_, fun h => absurd h (by decide)⟩ | refine ⟨fun _ => ?_, fun h => absurd rfl h⟩ | refine ⟨fun h => absurd rfl h, fun _ => ?_⟩)); try (conv => whnf)
            refine hG _ _ _ _ _ _ ?_
            exact hstop (fun hg => by rcases hg with hg | hg <;> omega)
          · (repeat ((conv => whnf); first | refine ⟨_, by assumption, ?_⟩ | refine ⟨_, _, by assumption, ?_⟩ | refine ⟨(show _ ∧ _ by omega), ?_⟩ | refine ⟨(show _ ∨ _ by omega), ?_⟩ | refine ⟨fun h => absurd h (by decide), fun _ => ?_⟩ | refine ⟨fun _ => ?_, fun h => absurd h (by decide)⟩ | refine ⟨fun _ => ?_, fun h => absurd rfl h⟩ | refine ⟨fun h => absurd rfl h, fun _ => ?_⟩)); try (conv => whnf)
            refine hG _ _ _ _ _ _ ?_
            exact go193 (Or.inr ⟨h2, by omega⟩)
  -- the second loop: what is beaten goes
  have l2 : ∀ (C M : List aT) (I' : aI) (k nn : Int), k + C.length = L.length → nn = M.length → nn ≤ k → L.any (fun o => wb o t) = false → M ++ C.filter (fun x => !wb t x) = L.filter (fun x => !wb t x) → (∀ x ∈ M, tR x) → (∀ x ∈ C, tR x) → MF [374, 375, 376] [18] I I' → I' 361 18 = L.length → Ho I' 0 M → Ho I' k C →
      Go P 96 (d + 2) K 55 [vr 361, vi t.1, vi t.2.1, vi t.2.2, vi nn, vi k] [] I' R S := by
    intro C
    induction C with
    | nil =>
      intro M I' k nn hk hn hle han hfl hMr hCr hF hsz hMo hC
      have hk : k + ((0 : Nat) : Int) = L.length := hk
      refine Go.walk 400 [55, 149] E96 E96_ok (fun G C hG hC => ?_)
      (repeat ((conv => whnf); first | refine ⟨_, by assumption, ?_⟩ | refine ⟨_, _, by assumption, ?_⟩ | refine ⟨(show _ ∧ _ by omega), ?_⟩ | refine ⟨(show _ ∨ _ by omega), ?_⟩ | refine ⟨fun h => absurd h (by decide), fun _ => ?_⟩ | refine ⟨fun _ => ?_, fun h => absurd h (by decide)⟩ | refine ⟨fun _ => ?_, fun h => absurd rfl h⟩ | refine ⟨fun h => absurd rfl h, fun _ => ?_⟩)); try (conv => whnf)
      refine ⟨⟨by omega, by have : I' 361 ((18 : Nat) : Int) = L.length := hsz; omega⟩, ?_⟩
      refine ⟨fun _ => ?_, fun h => absurd (show I' 361 18 ≤ k by omega) h⟩
      (repeat ((conv => whnf); first | refine ⟨_, by assumption, ?_⟩ | refine ⟨_, _, by assumption, ?_⟩ | refine ⟨(show _ ∧ _ by omega), ?_⟩ | refine ⟨(show _ ∨ _ by omega), ?_⟩ | refine ⟨fun h => absurd h (by decide), fun _ => ?_⟩ | refine ⟨fun _ => ?_, fun h => absurd h (by decide)⟩ | refine ⟨fun _ => ?_, fun h => absurd rfl h⟩ | refine ⟨fun h => absurd rfl h, fun _ => ?_⟩)); try (conv => whnf)
      refine hG _ _ _ _ _ _ ?_
      refine l3 M.reverse [] I' nn nn (by simp [hn]) (by simp [hn]) (by omega) han (by rw [List.reverse_reverse]; simpa using hfl.symm) (fun x h => by cases h) (fun x h => hMr x (by simpa using h)) hF (by rw [List.reverse_reverse]; exact hMo) (fun i t h => by cases h)
    | cons c C ih =>
      intro M I' k nn hk hn hle han hfl hMr hCr hF hsz hMo hC
      rw [List.length_cons] at hk
      obtain ⟨hc, hC'⟩ := hC.cons
      have hcr := hCr c List.mem_cons_self
      refine Go.walk 400 [55, 149] E96 E96_ok (fun G C hG hC => ?_)
      (repeat ((conv => whnf); first | refine ⟨_, by assumption, ?_⟩ | refine ⟨_, _, by assumption, ?_⟩ | refine ⟨(show _ ∧ _ by omega), ?_⟩ | refine ⟨(show _ ∨ _ by omega), ?_⟩ | refine ⟨fun h => absurd h (by decide), fun _ => ?_⟩ | refine ⟨fun _ => ?_, fun h => absurd h (by decide)⟩ | refine ⟨fun _ => ?_, fun h => absurd rfl h⟩ | refine ⟨fun h => absurd rfl h, fun _ => ?_⟩)); try (conv => whnf)
      refine ⟨⟨by omega, by have : I' 361 ((18 : Nat) : Int) = L.length := hsz; omega⟩, ?_⟩
      refine ⟨fun h => absurd (show I' 361 18 ≤ k from h) (by omega), fun _ => ?_⟩
      (repeat ((conv => whnf); first | refine ⟨_, by assumption, ?_⟩ | refine ⟨_, _, by assumption, ?_⟩ | refine ⟨(show _ ∧ _ by omega), ?_⟩ | refine ⟨(show _ ∨ _ by omega), ?_⟩ | refine ⟨fun h => absurd h (by decide), fun _ => ?_⟩ | refine ⟨fun _ => ?_, fun h => absurd h (by decide)⟩ | refine ⟨fun _ => ?_, fun h => absurd rfl h⟩ | refine ⟨fun h => absurd rfl h, fun _ => ?_⟩)); try (conv => whnf)
      rw [hc.1, hc.2.1, hc.2.2]
      refine hC _ _ _ _ _ _ ?_
      refine ok_isBeaten (x := c) (o := t) hcr ht (fun hb => ?_) (fun hb => ?_)
      · (repeat ((conv => whnf); first | refine ⟨_, by assumption, ?_⟩ | refine ⟨_, _, by assumption, ?_⟩ | refine ⟨(show _ ∧ _ by omega), ?_⟩ | refine ⟨(show _ ∨ _ by omega), ?_⟩ | refine ⟨fun h => absurd h (by decide), fun _ => ?_⟩ | refine ⟨fun _ => ?_, fun h => absurd h (by decide)⟩ | refine ⟨fun _ => ?_, fun h => absurd rfl h⟩ | refine ⟨fun h => absurd rfl h, fun _ => ?_⟩)); try (conv => whnf)
        refine hG _ _ _ _ _ _ ?_
        refine ih M I' (k + 1) nn (by omega) hn (by omega) han ?_ hMr (fun x h => hCr x (List.mem_cons_of_mem _ h)) hF hsz hMo hC'
        rw [← hfl, List.filter_cons, hb]; rfl
      · have e5 : uI I' 374 nn c.1 375 k = c.2.1 := by rw [uI_ne (by omega)]; exact hc.2.1
        have e6 : uI (uI I' 374 nn c.1) 375 nn c.2.1 376 k = c.2.2 := by rw [uI_ne (by omega), uI_ne (by omega)]; exact hc.2.2
        (repeat ((conv => whnf); first | refine ⟨_, by assumption, ?_⟩ | refine ⟨_, _, by assumption, ?_⟩ | refine ⟨(show _ ∧ _ by omega), ?_⟩ | refine ⟨(show _ ∨ _ by omega), ?_⟩ | refine ⟨fun h => absurd h (by decide), fun _ => ?_⟩ | refine ⟨fun _ => ?_, fun h => absurd h (by decide)⟩ | refine ⟨fun _ => ?_, fun h => absurd rfl h⟩ | refine ⟨fun h => absurd rfl h, fun _ => ?_⟩)); try (conv => whnf)
        rw [hc.1, e5, e6]
        refine hG _ _ _ _ _ _ ?_
        refine ih (M ++ [c]) (u3 I' nn c) (k + 1) (nn + 1) (by omega) (by simp; omega) (by omega) han ?_ (fun x h => ?_) (fun x h => hCr x (List.mem_cons_of_mem _ h)) hF.put3 ?_ (hMo.snoc (by omega)) (hC'.put (Or.inl (by omega)))
        · rw [← hfl, List.filter_cons, hb]; simp
        · rcases List.mem_append.mp h with h | h
          · exact hMr x h
          · rw [List.mem_singleton.mp h]; exact hcr
        · show uI (uI (uI I' 374 nn c.1) 375 nn c.2.1) 376 nn c.2.2 361 18 = _
          rw [uI_ne (by omega), uI_ne (by omega), uI_ne (by omega)]; exact hsz
  -- the first loop: is it beaten
  have l1 : ∀ (C : List aT) (k : Int), 0 ≤ k → k + C.length = L.length → L.any (fun o => wb o t) = C.any (fun o => wb o t) → (∀ x ∈ C, tR x) → Ho I k C →
      Go P 96 (d + 2) K 6 [vr 361, vi t.1, vi t.2.1, vi t.2.2, vi 0, vi k] [] I R S := by
    intro C
    induction C with
    | nil =>
      intro k h0 hk hany hCr hC
      have hk : k + ((0 : Nat) : Int) = L.length := hk
      refine Go.walk 400 [6, 55] E96 E96_ok (fun G C hG hC => ?_)
      (repeat ((conv => whnf); first | refine ⟨_, by assumption, ?_⟩ | refine ⟨_, _, by assumption, ?_⟩ | refine ⟨(show _ ∧ _ by omega), ?_⟩ | refine ⟨(show _ ∨ _ by omega), ?_⟩ | refine ⟨fun h => absurd h (by decide), fun _ => ?_⟩ | refine ⟨fun _ => ?_, fun h => absurd h (by decide)⟩ | refine ⟨fun _ => ?_, fun h => absurd rfl h⟩ | refine ⟨fun h => absurd rfl h, fun _ => ?_⟩)); try (conv => whnf)
      refine ⟨⟨by omega, by have : I 361 ((18 : Nat) : Int) = L.length := hf; omega⟩, ?_⟩
      refine ⟨fun _ => ?_, fun h => absurd (show I 361 18 ≤ k by omega) h⟩
      (repeat ((conv => whnf); first | refine ⟨_, by assumption, ?_⟩ | refine ⟨_, _, by assumption, ?_⟩ | refine ⟨(show _ ∧ _ by omega), ?_⟩ | refine ⟨(show _ ∨ _ by omega), ?_⟩ | refine ⟨fun h => absurd h (by decide), fun _ => ?_⟩ | refine ⟨fun _ => ?_, fun h => absurd h (by decide)⟩ | refine ⟨fun _ => ?_, fun h => absurd rfl h⟩ | refine ⟨fun h => absurd rfl h, fun _ => ?_⟩)); try (conv => whnf)
      refine hG _ _ _ _ _ _ ?_
      exact l2 L [] I 0 0 (by omega) rfl (by omega) (by rw [hany]; rfl) (by simp) (fun x h => by cases h) hr MF.rf hf (fun i t h => by cases h) (Ho.hd.mpr hL)
    | cons c C ih =>
      intro k h0 hk hany hCr hC
      rw [List.length_cons] at hk
      obtain ⟨hc, hC'⟩ := hC.cons
      have hcr := hCr c List.mem_cons_self
      refine Go.walk 400 [6, 55] E96 E96_ok (fun G C hG hC => ?_)
      (repeat ((conv => whnf); first | refine ⟨_, by assumption, ?_⟩ | refine ⟨_, _, by assumption, ?_⟩ | refine ⟨(show _ ∧ _ by omega), ?_⟩ | refine ⟨(show _ ∨ _ by omega), ?_⟩ | refine ⟨fun h => absurd h (by decide), fun _ => ?_⟩ | refine ⟨fun _ => ?_, fun h => absurd h (by decide)⟩ | refine ⟨fun _ => ?_, fun h => absurd rfl h⟩ | refine ⟨fun h => absurd rfl h, fun _ => ?_⟩)); try (conv => whnf)
      refine ⟨⟨by omega, by have : I 361 ((18 : Nat) : Int) = L.length := hf; omega⟩, ?_⟩
      refine ⟨fun h => absurd (show I 361 18 ≤ k from h) (by omega), fun _ => ?_⟩
      (repeat ((conv => whnf); first | refine ⟨_, by assumption, ?_⟩ | refine ⟨_, _, by assumption, ?_⟩ | refine ⟨(show _ ∧ _ by omega), ?_⟩ | refine ⟨(show _ ∨ _ by omega), ?_⟩ | refine ⟨fun h => absurd h (by decide), fun _ => ?_⟩ | refine ⟨fun _ => ?_, fun h => absurd h (by decide)⟩ | refine ⟨fun _ => ?_, fun h => absurd rfl h⟩ | refine ⟨fun h => absurd rfl h, fun _ => ?_⟩)); try (conv => whnf)
      rw [hc.1, hc.2.1, hc.2.2]
      refine hC _ _ _ _ _ _ ?_
      refine ok_isBeaten (x := t) (o := c) ht hcr (fun hb => ?_) (fun hb => ?_)
      · (repeat ((conv => whnf); first | refine ⟨_, by assumption, ?_⟩ | refine ⟨_, _, by assumption, ?_⟩ | refine ⟨(show _ ∧ _ by omega), ?_⟩ | refine ⟨(show _ ∨ _ by omega), ?_⟩ | refine ⟨fun h => absurd h (by decide), fun _ => ?_⟩ | refine ⟨fun _ => ?_, fun h => absurd h (by decide)⟩ | refine ⟨fun _ => ?_, fun h => absurd rfl h⟩ | refine ⟨fun h => absurd rfl h, fun _ => ?_⟩)); try (conv => whnf)
        exact hK I L MF.rf (Or.inl ⟨by rw [hany, List.any_cons, hb]; rfl, rfl⟩) hf hL
      · (repeat ((conv => whnf); first | refine ⟨_, by assumption, ?_⟩ | refine ⟨_, _, by assumption, ?_⟩ | refine ⟨(show _ ∧ _ by omega), ?_⟩ | refine ⟨(show _ ∨ _ by omega), ?_⟩ | refine ⟨fun h => absurd h (by decide), fun _ => ?_⟩ | refine ⟨fun _ => ?_, fun h => absurd h (by decide)⟩ | refine ⟨fun _ => ?_, fun h => absurd rfl h⟩ | refine ⟨fun h => absurd rfl h, fun _ => ?_⟩)); try (conv => whnf)
        refine hG _ _ _ _ _ _ ?_
        exact ih (k + 1) (by omega) (by omega) (by rw [hany, List.any_cons, hb]; rfl) (fun x h => hCr x (List.mem_cons_of_mem _ h)) hC'
  refine Ok.of (by decide) rfl (Nat.le_of_ble_eq_true rfl) ?_
  refine Go.walk 400 [6] E96 E96_ok (fun G C hG hC => ?_)
  (repeat ((conv => whnf); first | refine ⟨_, by assumption, ?_⟩ | refine ⟨_, _, by assumption, ?_⟩ | refine ⟨(show _ ∧ _ by omega), ?_⟩ | refine ⟨(show _ ∨ _ by omega), ?_⟩ | refine ⟨fun h => absurd h (by decide), fun _ => ?_⟩ | refine ⟨fun _ => ?_, fun h => absurd h (by decide)⟩ | refine ⟨fun _ => ?_, fun h => absurd rfl h⟩ | refine ⟨fun h => absurd rfl h, fun _ => ?_⟩)); try (conv => whnf)
  refine hG _ _ _ _ _ _ ?_
  exact l1 L 0 (by omega) (by omega) rfl hr (Ho.hd.mpr hL)
