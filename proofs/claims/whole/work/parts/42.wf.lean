/-! the bounds stand through every deed -/
theorem nf_up {n : aN} {j z v w : Int} (h : 20 + 8 * v + w ≠ j) : nf (up n j z) v w = nf n v w := up_ne h
theorem kf_up {n : aN} {j z k w : Int} (h : 2 + 6 * (k - 1) + w ≠ j) : kf (up n j z) k w = kf n k w := up_ne h
theorem wf_up0 {n : aN} (hW : WF n) {m : Int} (hm : 1 ≤ m ∧ m ≤ 6) (hx : ∀ v, 1 ≤ v → n 0 ≤ v → v < m → (1 ≤ nf n v 3 ∧ 1 ≤ nf n v 4) ∧ (1 ≤ nf n v 7 → kf n (nf n v 7) 0 = 1)) : WF (up n 0 m) := by
  obtain ⟨h1, h2, h3, h4, h5, h6⟩ := hW
  have e0 : up n 0 m 0 = m := up_at
  have e1 : up n 0 m 1 = n 1 := up_ne (by omega)
  have en : ∀ x y : Int, 0 ≤ x → 0 ≤ y → nf (up n 0 m) x y = nf n x y := fun x y g1 g2 => nf_up (by omega)
  have ek : ∀ k y : Int, 1 ≤ k → 0 ≤ y → kf (up n 0 m) k y = kf n k y := fun k y g1 g2 => kf_up (by omega)
  refine ⟨by rw [e0, e1]; omega, fun v a b => ?_, fun v a b => ?_, fun v a b c => ?_, ?_, fun k a b => ?_⟩
  · rw [en v 0 a (by omega), en v 1 a (by omega), en v 2 a (by omega), en v 3 a (by omega), en v 4 a (by omega), en v 5 a (by omega), en v 6 a (by omega), en v 7 a (by omega)]
    exact h2 v a b
  · rw [e0] at b
    rw [en v 3 (by omega) (by omega), en v 4 (by omega) (by omega)]
    by_cases q : v < n 0
    · exact h3 v a q
    · exact (hx v a (by omega) b).1
  · rw [e0] at b
    rw [en v 7 (by omega) (by omega)] at c ⊢
    rw [ek _ 0 c (by omega)]
    by_cases q : v < n 0
    · exact h4 v a q c
    · exact (hx v a (by omega) b).2 c
  · rw [en 0 7 (by omega) (by omega)]; exact h5
  · rw [ek k 0 a (by omega), ek k 1 a (by omega), ek k 2 a (by omega), ek k 3 a (by omega), ek k 4 a (by omega), ek k 5 a (by omega)]
    exact h6 k a b
theorem wf_take {n n' : aN} {r : Int} (hW : WF n) (h : takeF n = (r, some n')) : WF n' := by
  have hN := hW.1
  unfold takeF at h
  split at h
  · cases h
  · cases h
    exact wf_up0 hW (by omega) (fun v _ _ _ => by omega)
theorem wf_pull {n n' : aN} {r p : Int} (hW : WF n) (h : pullF n p = (r, some n')) : WF n' := by
  obtain ⟨h1, h2, h3, h4, h5, h6⟩ := hW
  unfold pullF at h
  split at h
  · cases h
  · rename_i hp
    cases h
    have e0 : up n 1 p 0 = n 0 := up_ne (by omega)
    have e1 : up n 1 p 1 = p := up_at
    have en : ∀ x y : Int, 0 ≤ x → 0 ≤ y → nf (up n 1 p) x y = nf n x y := fun x y g1 g2 => nf_up (by omega)
    have ek : ∀ k y : Int, 1 ≤ k → 0 ≤ y → kf (up n 1 p) k y = kf n k y := fun k y g1 g2 => kf_up (by omega)
    refine ⟨by rw [e0, e1]; omega, fun v a b => ?_, fun v a b => ?_, fun v a b c => ?_, ?_, fun k a b => ?_⟩
    · rw [en v 0 a (by omega), en v 1 a (by omega), en v 2 a (by omega), en v 3 a (by omega), en v 4 a (by omega), en v 5 a (by omega), en v 6 a (by omega), en v 7 a (by omega)]
      exact h2 v a b
    · rw [e0] at b
      rw [en v 3 (by omega) (by omega), en v 4 (by omega) (by omega)]
      exact h3 v a b
    · rw [e0] at b
      rw [en v 7 (by omega) (by omega)] at c ⊢
      rw [ek _ 0 c (by omega)]
      exact h4 v a b c
    · rw [en 0 7 (by omega) (by omega)]; exact h5
    · rw [ek k 0 a (by omega), ek k 1 a (by omega), ek k 2 a (by omega), ek k 3 a (by omega), ek k 4 a (by omega), ek k 5 a (by omega)]
      exact h6 k a b
/-- one number of a kind -/
theorem wf_sk {n : aN} (hW : WF n) {k w z : Int} (hk : 1 ≤ k ∧ k ≤ 3) (hw : 0 ≤ w ∧ w < 6) (hz : (w = 0 → 0 ≤ z ∧ z ≤ 1) ∧ (w = 1 → 0 ≤ z ∧ z ≤ 9) ∧ (w = 2 → 0 ≤ z ∧ z ≤ 9) ∧ (w = 3 → 0 ≤ z ∧ z ≤ 99) ∧ (w = 4 → 0 ≤ z ∧ z ≤ 99) ∧ (w = 5 → 0 ≤ z ∧ z ≤ 1)) (hp : w = 0 → z = 1 ∨ ∀ v, 1 ≤ v → v < n 0 → nf n v 7 ≠ k) : WF (sk n k w z) := by
  obtain ⟨h1, h2, h3, h4, h5, h6⟩ := hW
  have e0 : sk n k w z 0 = n 0 := up_ne (by omega)
  have e1 : sk n k w z 1 = n 1 := up_ne (by omega)
  have en : ∀ x y : Int, 0 ≤ x → 0 ≤ y → nf (sk n k w z) x y = nf n x y := fun x y g1 g2 => nf_up (by omega)
  have ek : ∀ x y : Int, 0 ≤ y → y < 6 → kf (sk n k w z) x y = if x = k ∧ y = w then z else kf n x y := by
    intro x y g1 g2
    unfold kf sk up
    by_cases q : x = k ∧ y = w
    · rw [if_pos q, if_pos (by omega)]
    · rw [if_neg q, if_neg (by omega)]
  refine ⟨by rw [e0, e1]; exact h1, fun v a b => ?_, fun v a b => ?_, fun v a b c => ?_, ?_, fun x a b => ?_⟩
  · rw [en v 0 a (by omega), en v 1 a (by omega), en v 2 a (by omega), en v 3 a (by omega), en v 4 a (by omega), en v 5 a (by omega), en v 6 a (by omega), en v 7 a (by omega)]
    exact h2 v a b
  · rw [e0] at b
    rw [en v 3 (by omega) (by omega), en v 4 (by omega) (by omega)]
    exact h3 v a b
  · rw [e0] at b
    rw [en v 7 (by omega) (by omega)] at c ⊢
    rw [ek _ 0 (by omega) (by omega)]
    split
    · rename_i q
      rcases hp q.2.symm with r | r
      · exact r
      · exact absurd q.1 (r v a b)
    · exact h4 v a b c
  · rw [en 0 7 (by omega) (by omega)]; exact h5
  · have h6 := h6 x a b
    rw [ek x 0 (by omega) (by omega), ek x 1 (by omega) (by omega), ek x 2 (by omega) (by omega), ek x 3 (by omega) (by omega), ek x 4 (by omega) (by omega), ek x 5 (by omega) (by omega)]
    refine ⟨?_, ?_, ?_, ?_, ?_, ?_⟩ <;> (split <;> omega)
theorem wf_kind {n n' : aN} {e k i p o c t : Int} (hW : WF n) (h : kindF n k i p o c t = (e, some n')) : WF n' := by
  unfold kindF at h
  split at h
  · cases h
  · split at h
    · cases h
    · rename_i h1 h2
      cases h
      unfold kindN
      have h1 : 1 ≤ k ∧ k ≤ 3 := by omega
      refine wf_sk (wf_sk (wf_sk (wf_sk (wf_sk (wf_sk hW h1 (by omega) ?_ (fun _ => Or.inl rfl)) h1 (by omega) ?_ (by omega)) h1 (by omega) ?_ (by omega)) h1 (by omega) ?_ (by omega)) h1 (by omega) ?_ (by omega)) h1 (by omega) ?_ (by omega) <;> (refine ⟨?_, ?_, ?_, ?_, ?_, ?_⟩ <;> omega)
theorem wf_drop {n n' : aN} {e k : Int} (hW : WF n) (h : dropF n k = (e, some n')) : WF n' := by
  unfold dropF at h
  split at h
  · cases h
  · split at h
    · cases h
    · rename_i h1 h2
      cases h
      have h3 := isKb_iff.mp (show isKb n k = true by cases hq : isKb n k with
        | true => rfl
        | false => exact absurd hq (by intro z; exact h1 (by rw [z]; exact Bool.false_ne_true)))
      refine wf_sk hW ⟨h3.1, h3.2.1⟩ (by omega) (by omega) (fun _ => Or.inr (fun v a b c => h2 (plc_mono a b c)))
theorem wf_place {n n' : aN} {e v k : Int} (hW : WF n) (h : placeF n v k = (e, some n')) : WF n' := by
  have hN := hW.1
  unfold placeF at h
  split at h
  · cases h
  · split at h
    · cases h
    · rename_i h1 h2
      cases h
      have h1 : (0 ≤ v ∧ v < n 0) ∧ (k = 0 ∨ isKb n k = true) := Classical.byContradiction h1
      have hk3 : 0 ≤ k ∧ k ≤ 3 ∧ (1 ≤ k → kf n k 0 = 1) := by
        rcases h1.2 with q | q
        · omega
        · have := isKb_iff.mp q
          exact ⟨by have := this.1; omega, this.2.1, fun _ => this.2.2⟩
      exact wf_st hW (by omega) (by omega) ⟨by omega, by omega, by omega, by omega, by omega, by omega, by omega, by omega⟩ (fun _ => hk3.2.2)
theorem wf_grow {n : aN} (hW : WF n) {a r c : Int} (h6 : n 0 < 6) (ha : 0 ≤ a ∧ a < n 0) (hr : 0 ≤ r ∧ r ≤ 9) (hc : 0 ≤ c ∧ c ≤ 9) : WF (growF n a r c) := by
  have hN := hW.1
  have hv : 1 ≤ n 0 := hN.1
  unfold growF
  have hst : WF (st (st (st (st (st (st (st (st n (n 0) 0 a) (n 0) 1 r) (n 0) 2 c) (n 0) 3 1) (n 0) 4 1) (n 0) 5 100) (n 0) 6 0) (n 0) 7 0) := by
    refine wf_st (wf_st (wf_st (wf_st (wf_st (wf_st (wf_st (wf_st hW hv (by omega) ?_ (by omega)) hv (by omega) ?_ (by omega)) hv (by omega) ?_ (by omega)) hv (by omega) ?_ (by omega)) hv (by omega) ?_ (by omega)) hv (by omega) ?_ (by omega)) hv (by omega) ?_ (by omega)) hv (by omega) ?_ (by omega) <;> (refine ⟨?_, ?_, ?_, ?_, ?_, ?_, ?_, ?_⟩ <;> omega)
  have e0 : st (st (st (st (st (st (st (st n (n 0) 0 a) (n 0) 1 r) (n 0) 2 c) (n 0) 3 1) (n 0) 4 1) (n 0) 5 100) (n 0) 6 0) (n 0) 7 0 0 = n 0 := by
    unfold st
    rw [up_ne (by omega), up_ne (by omega), up_ne (by omega), up_ne (by omega), up_ne (by omega), up_ne (by omega), up_ne (by omega), up_ne (by omega)]
  refine wf_up0 hst (by omega) (fun v g1 g2 g3 => ?_)
  rw [e0] at g2
  have hvv : v = n 0 := by omega
  subst hvv
  have e3 : nf (st (st (st (st (st (st (st (st n (n 0) 0 a) (n 0) 1 r) (n 0) 2 c) (n 0) 3 1) (n 0) 4 1) (n 0) 5 100) (n 0) 6 0) (n 0) 7 0) (n 0) 3 = 1 := by
    rw [nf_st (by omega) (by omega), if_neg (by omega), nf_st (by omega) (by omega), if_neg (by omega), nf_st (by omega) (by omega), if_neg (by omega), nf_st (by omega) (by omega), if_neg (by omega), nf_st (by omega) (by omega), if_pos ⟨rfl, rfl⟩]
  have e4 : nf (st (st (st (st (st (st (st (st n (n 0) 0 a) (n 0) 1 r) (n 0) 2 c) (n 0) 3 1) (n 0) 4 1) (n 0) 5 100) (n 0) 6 0) (n 0) 7 0) (n 0) 4 = 1 := by
    rw [nf_st (by omega) (by omega), if_neg (by omega), nf_st (by omega) (by omega), if_neg (by omega), nf_st (by omega) (by omega), if_neg (by omega), nf_st (by omega) (by omega), if_pos ⟨rfl, rfl⟩]
  have e7 : nf (st (st (st (st (st (st (st (st n (n 0) 0 a) (n 0) 1 r) (n 0) 2 c) (n 0) 3 1) (n 0) 4 1) (n 0) 5 100) (n 0) 6 0) (n 0) 7 0) (n 0) 7 = 0 := by
    rw [nf_st (by omega) (by omega), if_pos ⟨rfl, rfl⟩]
  rw [e3, e4, e7]
  exact ⟨by omega, by omega⟩
theorem wf_node {n n' : aN} {e a r c : Int} (hW : WF n) (h : nodeF n a r c = (e, some n')) : WF n' := by
  have hN := hW.1
  unfold nodeF at h
  split at h
  · cases h
  · split at h
    · cases h
    · split at h
      · cases h
      · cases h
        exact wf_grow hW (by omega) (by omega) (by omega) (by omega)
theorem wf_drift {n : aN} (hW : WF n) {s : Int} (h6 : n 0 < 6) : WF (driftN n s) := by
  have hN := hW.1
  have hv : 1 ≤ n 0 := hN.1
  have d1 := dr1_bd (s := s) (m := n 0) (by omega)
  have d2 := dr1_bd (s := sdN s) (m := 10) (by omega)
  have d3 := dr1_bd (s := sdN (sdN s)) (m := 10) (by omega)
  have d4 := dr1_bd (s := sdN (sdN (sdN s))) (m := 9) (by omega)
  have d5 := dr1_bd (s := sdN (sdN (sdN (sdN s)))) (m := 300) (by omega)
  have d6 := dr1_bd (s := sdN (sdN (sdN (sdN (sdN s))))) (m := 2) (by omega)
  have hg := wf_grow hW h6 d1 (r := dr1 (sdN s) 10) (c := dr1 (sdN (sdN s)) 10) (by omega) (by omega)
  unfold driftN
  refine wf_st (wf_st (wf_st hg hv (by omega) ?_ (by omega)) hv (by omega) ?_ (by omega)) hv (by omega) ?_ (by omega) <;> (refine ⟨?_, ?_, ?_, ?_, ?_, ?_, ?_, ?_⟩ <;> omega)
theorem wf_endF {n n' : aN} {x v l e w : Int} (hW : WF n) (h : endF n v l e w = (x, some n')) : WF n' := by
  unfold endF at h
  split at h
  · cases h
  · split at h
    · cases h
    · split at h
      · cases h
      · cases h
        exact wf_end hW (by omega) (by omega)
theorem wf_wireF {n n' : aN} {x v r c w : Int} (hW : WF n) (h : wireF n v r c w = (x, some n')) : WF n' := by
  unfold wireF at h
  split at h
  · cases h
  · split at h
    · cases h
    · split at h
      · cases h
      · cases h
        exact wf_wire hW (by omega) (by omega)
theorem wf_changeF {n n' : aN} {x : Int} (hW : WF n) (h : changeF n = (x, some n')) : WF n' := by
  unfold changeF at h
  split at h
  · cases h
  · rename_i q
    cases h
    exact (wf_change hW q).2
