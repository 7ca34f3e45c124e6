/-! both sides together -/
def MSt (n : aN) (h : List aN) (B : List (Int × Int)) (sd : Int) (im : Int → Option (aN × Int)) (I : aI) (R : aR) (S : aS) : Prop := MS R S ∧ I 362 = n ∧ HistM I h ∧ BookM I B ∧ I 361 1 = sd ∧ ∀ i, 0 ≤ i → i ≤ 1 → ImgM I i (im i)
def JS (n : aN) (h : List aN) (B : List (Int × Int)) (sd : Int) (im : Int → Option (aN × Int)) (I : aI) (R : aR) (S : aS) : Prop := CSt n h B sd im I R S ∧ MSt n h B sd im I R S ∧ PC n h B sd im
section Jt
variable {n : aN} {h : List aN} {B : List (Int × Int)} {sd : Int} {im : Int → Option (aN × Int)}
theorem MS.up {R R' : aR} {S T : aS} (hM : MS R S) (h : R' 361 = R 361) : MS R' (S ++ T) := by
  obtain ⟨m0, r1, m1, r2, m2, r3, m3, r4, m4, r5, m5, r6, m6, r7, m7, r8, m8, r9, m9, r10, m10, r11, m11, r12, m12, r13, m13, r14, m14, r15, m15⟩ := id hM
  unfold MS
  rw [h]
  exact ⟨at_app m0, r1, at_app m1, r2, at_app m2, r3, at_app m3, r4, at_app m4, r5, at_app m5, r6, at_app m6, r7, at_app m7, r8, at_app m8, r9, at_app m9, r10, at_app m10, r11, at_app m11, r12, at_app m12, r13, at_app m13, r14, at_app m14, r15, at_app m15⟩
theorem ImgM.cg {I I' : aI} {i : Int} {o : Option (aN × Int)} (hI : ImgM I i o) (h4 : I' 364 = I 364) (h5 : I' 365 = I 365) : ImgM I' i o := by
  cases o with
  | none => show I' 365 i = 0; rw [h5]; exact hI
  | some q =>
    obtain ⟨a, b, c⟩ := hI
    exact ⟨by rw [h5]; exact a, fun k g0 g1 => by rw [h4]; exact b k g0 g1, by rw [h4]; exact c⟩
theorem BookM.cg {I I' : aI} (hB : BookM I B) (h1 : I' 361 8 = I 361 8) (h6 : I' 366 = I 366) (h7 : I' 367 = I 367) : BookM I' B := by
  unfold BookM at hB ⊢
  rw [h1, h6, h7]
  exact hB
/-- the class's work leaves the reference as it is -/
theorem MSt.x {I I' : aI} {R R' : aR} {S S' : aS} (hM : MSt n h B sd im I R S) (hX : XF I R S I' R' S') : MSt n h B sd im I' R' S' := by
  obtain ⟨m1, m2, m3, m4, m5, m6⟩ := hM
  obtain ⟨⟨T, e⟩, g⟩ := hX
  have g1 : ∀ a, 361 ≤ a → a ≤ 376 → I' a = I a := fun a p q => (g a p q).1
  refine ⟨by rw [e]; exact m1.up (g 361 (by omega) (by omega)).2, by rw [g1 362 (by omega) (by omega)]; exact m2, m3.cg (by rw [g1 361 (by omega) (by omega)]) (g1 363 (by omega) (by omega)), m4.cg (by rw [g1 361 (by omega) (by omega)]) (g1 366 (by omega) (by omega)) (g1 367 (by omega) (by omega)), by rw [g1 361 (by omega) (by omega)]; exact m5, fun i p q => (m6 i p q).cg (g1 364 (by omega) (by omega)) (g1 365 (by omega) (by omega))⟩
/-- the reference's work leaves the class as it is -/
theorem CSt.m {I I' : aI} {R : aR} {S : aS} (hC : CSt n h B sd im I R S) (hN : n 0 ≤ 6) (hI : ∀ a, (a < 361 ∨ 376 < a) → I' a = I a) : CSt n h B sd im I' R S := by
  obtain ⟨c1, c2, c3, c4, c5, c6, c7, c8, c9⟩ := hC
  refine ⟨c1, c2, c3, c4.cg (fun x g1 g2 => hI x (by omega)), c5.cg (fun a g1 g2 => hI a (by omega)), c6.cg (fun a g1 g2 => hI a (by omega)), by rw [hI 329 (by omega)]; exact c7, fun i g0 g1 => (c8 i g0 g1).cg g0 g1 (fun a p1 p2 => hI a (by omega)), ?_⟩
  rw [hI 34 (by omega)]
  rcases c9 with c9 | ⟨c9, c10⟩
  · exact Or.inl c9
  · exact Or.inr ⟨c9, c10.cg hN c2 (fun a ha => hI a (by omega))⟩
theorem MF.out {L : List Nat} {J : List Int} {I I' : aI} (hF : MF L J I I') (hL : ∀ a, a ∈ L → 361 ≤ a ∧ a ≤ 376) : ∀ a, (a < 361 ∨ 376 < a) → I' a = I a := fun a ha => hF.1 a (fun q => by
  rcases List.mem_cons.mp q with e | q
  · omega
  · have := hL a q; omega)
theorem QF.out {I I' : aI} (hF : QF I I') : ∀ a, (a < 361 ∨ 376 < a) → I' a = I a := MF.out hF (by simp <;> omega)
/-- a question leaves the reference's state as it is -/
theorem MSt.q {I I' : aI} {R : aR} {S : aS} (hM : MSt n h B sd im I R S) (hF : QF I I') : MSt n h B sd im I' R S := by
  obtain ⟨m1, m2, m3, m4, m5, m6⟩ := hM
  obtain ⟨f1, f2⟩ := hF
  exact ⟨m1, by rw [f1 362 (by decide)]; exact m2, m3.cg (f2 3 (by decide)) (f1 363 (by decide)), m4.cg (f2 8 (by decide)) (f1 366 (by decide)) (f1 367 (by decide)), by rw [f2 1 (by decide)]; exact m5, fun i p q => (m6 i p q).cg (f1 364 (by decide)) (f1 365 (by decide))⟩
def nx (F : Int × Option aN) (n : aN) : aN := match F.2 with
  | none => n
  | some m => m
def hx (F : Int × Option aN) (n : aN) (h : List aN) : List aN := match F.2 with
  | none => h
  | some _ => pushH h n
theorem DeedC.of {F : Int × Option aN} {I : aI} {R : aR} {S : aS} {K : aK} (hK : ∀ I', XF I R S I' R S → CSt (nx F n) (hx F n h) B sd im I' R S → K (some (vi F.1)) I' R S) : DeedC F n h B sd im I R S K := by
  refine ⟨fun e I' hX hC => hK I' hX ?_, fun n' e I' hX hC => hK I' hX ?_⟩
  · unfold nx hx; rw [e]; exact hC
  · unfold nx hx; rw [e]; exact hC
theorem DeedM.of {F : Int × Option aN} {I : aI} {R : aR} {S : aS} {K : aK} (hM : MSt n h B sd im I R S) (hK : ∀ I', (∀ a, (a < 361 ∨ 376 < a) → I' a = I a) → MSt (nx F n) (hx F n h) B sd im I' R S → K (some (vi F.1)) I' R S) : DeedM F h I R S K := by
  refine ⟨fun e I' hF => hK I' (QF.out hF) ?_, fun n' e I' hF h2 h3 => hK I' (hF.out (by simp <;> omega)) ?_⟩
  · unfold nx hx; rw [e]; exact hM.q hF
  · unfold nx hx
    rw [e]
    obtain ⟨m1, m2, m3, m4, m5, m6⟩ := hM
    obtain ⟨f1, f2⟩ := hF
    rw [m2] at h3
    exact ⟨m1, h2, h3, m4.cg (f2 8 (by decide)) (f1 366 (by decide)) (f1 367 (by decide)), by rw [f2 1 (by decide)]; exact m5, fun i p q => (m6 i p q).cg (f1 364 (by decide)) (f1 365 (by decide))⟩
theorem push_mem {m : aN} (hm : m ∈ pushH h n) : m = n ∨ m ∈ h := by
  unfold pushH at hm
  rw [List.mem_append, List.mem_singleton] at hm
  rcases hm with hm | hm
  · by_cases q : h.length = 16
    · rw [if_pos q] at hm
      exact Or.inr (List.mem_of_mem_tail hm)
    · rw [if_neg q] at hm
      exact Or.inr hm
  · exact Or.inl hm
theorem PC.deed {F : Int × Option aN} (hP : PC n h B sd im) (hF : ∀ r n', F = (r, some n') → WF n') : PC (nx F n) (hx F n h) B sd im := by
  obtain ⟨p1, p2, p3, p4, p5⟩ := hP
  cases hq : F.2 with
  | none =>
    unfold nx hx
    rw [hq]
    exact ⟨p1, p2, p3, p4, p5⟩
  | some n' =>
    unfold nx hx
    rw [hq]
    refine ⟨hF F.1 n' (by rw [← hq]), fun m hm => ?_, p3, p4, p5⟩
    rcases push_mem hm with e | e
    · rw [e]; exact p1
    · exact p2 m e
end Jt
/-! the answers are ints -/
theorem iR_c1 : iR (-1000000001) := by omega
theorem iR_c2 : iR (-1000000002) := by omega
theorem iR_c3 : iR (-1000000003) := by omega
theorem iR_c4 : iR (-1000000004) := by omega
theorem iR_kindAt {n : aN} (hW : WF n) {k w : Int} : iR (kindAtF n k w) := by
  unfold kindAtF
  split
  · omega
  · rename_i hk
    have hk := isKb_iff.mp (Classical.not_not.mp hk)
    split
    · rename_i hw
      obtain ⟨k0, k1, k2, k3, k4, k5⟩ := hW.2.2.2.2.2 k hk.1 hk.2.1
      rcases (show w = 0 ∨ w = 1 ∨ w = 2 ∨ w = 3 ∨ w = 4 by omega) with e | e | e | e | e <;> subst e
      · show iR (kf n k 1); omega
      · show iR (kf n k 2); omega
      · show iR (kf n k 3); omega
      · show iR (kf n k 4); omega
      · show iR (kf n k 5); omega
    · omega
theorem iR_nf {n : aN} (hW : WF n) {v w : Int} (hv : 0 ≤ v ∧ v < 6) (hw : 0 ≤ w ∧ w < 8) (h1 : 1 ≤ v ∨ 1 ≤ w) : iR (nf n v w) := by
  obtain ⟨r0, r1, r2, r3, r4, r5, r6, r7⟩ := hW.2.1 v hv.1 hv.2
  rcases (show w = 0 ∨ w = 1 ∨ w = 2 ∨ w = 3 ∨ w = 4 ∨ w = 5 ∨ w = 6 ∨ w = 7 by omega) with e | e | e | e | e | e | e | e <;> subst e <;> omega
theorem iR_at {n : aN} (hW : WF n) {v w : Int} : iR (atF n v w) := by
  have hN := hW.1
  unfold atF
  by_cases q0 : 0 ≤ v ∧ v < n 0
  · rw [if_neg (fun z => z q0)]
    by_cases q1 : 0 ≤ w ∧ w ≤ 12
    · rw [if_neg (fun z => z q1)]
      have ht := tim0_bd hW q0.1 q0.2
      have hb := bea_bd hW (pl0_ok hW).1 (wd0_ok hW) q0.1 q0.2
      have hs := sho_bd hW (pl0_ok hW) (wd0_ok hW) q0.1 q0.2
      have hu := tur01 (n := n) (pl := pl0 n) (top := 0) (turn := 0) (v := v)
      have h5 := (hW.2.1 v q0.1 (by omega)).2.2.2.2.2.1
      unfold tim0 at ht
      by_cases q2 : w < 4
      · rw [if_pos q2]
        split
        · omega
        · exact iR_nf hW (by omega) (by omega) (by omega)
      · rw [if_neg q2]
        by_cases q3 : w < 7
        · rw [if_pos q3]
          split
          · exact iR_nf hW (by omega) (by omega) (by omega)
          · omega
        · rw [if_neg q3]
          split
          · exact iR_nf hW (by omega) (by omega) (by omega)
          · split
            · omega
            · split
              · omega
              · split
                · omega
                · split
                  · split
                    · omega
                    · omega
                  · omega
    · rw [if_pos q1]; omega
  · rw [if_pos q0]; omega
theorem worF_bd {n : aN} : ∀ (k : Nat) (v : Int), 0 ≤ v → -1 ≤ worF n k v ∧ worF n k v ≤ v + k
  | 0, v, h => by show -1 ≤ (-1 : Int) ∧ (-1 : Int) ≤ v + (0 : Nat); omega
  | k + 1, v, h => by
    have := worF_bd (n := n) k (v + 1) (by omega)
    show -1 ≤ (if mEnd n v = true ∧ nf n v 5 - tim0 n v = sla0 n then v else worF n k (v + 1)) ∧ (if mEnd n v = true ∧ nf n v 5 - tim0 n v = sla0 n then v else worF n k (v + 1)) ≤ v + ((k + 1 : Nat) : Int)
    split <;> omega
theorem chb {n : aN} (hN : 1 ≤ n 0 ∧ n 0 ≤ 6) : -1 ≤ mChange n ∧ mChange n ≤ 53 := by
  show -1 ≤ (chAll n).1 ∧ (chAll n).1 ≤ 53
  rcases chAll_what (n := n) hN.1 with e | ⟨v, k, g1, g2, g3, g4, g5, e⟩
  · omega
  · omega
theorem iR_told {n : aN} (hW : WF n) {B : List (Int × Int)} {kn sd w : Int} (hB : B.length ≤ 20) (hk : iR kn) (hs : iR sd) : iR (toldF n B kn sd w) := by
  have hN := hW.1
  have h1 := iR_mEnds (n := n) hN.1
  have h3 := iR_mKinds (n := n)
  have h4 := mCost_bd hW (pl0_ok hW) (top := 0)
  have h5 := sla_bd hW (pl0_ok hW) (wd0_ok hW)
  have h6 := worF_bd (n := n) (n 0 - 1).toNat 1 (by omega)
  have h7 : iR (wro n (pl0 n)) := iR_mWrong
  have h9 := mWid_bd hW
  have h10 := chb (n := n) ⟨hN.1, hN.2.1⟩
  have h12 := weL_bd (n := n) B 0 (by omega)
  unfold toldF
  split
  · omega
  · split
    · exact h1
    · split
      · omega
      · split
        · exact h3
        · split
          · omega
          · split
            · show iR (sla n (pl0 n) (wd0 n) + 1000000)
              omega
            · split
              · show iR (worF n (n 0 - 1).toNat 1)
                omega
              · split
                · exact h7
                · split
                  · omega
                  · unfold toldMF
                    split
                    · omega
                    · split
                      · omega
                      · split
                        · omega
                        · split
                          · exact hk
                          · split
                            · exact hs
                            · omega
theorem iR_tB {x : aT} (h : tB x) : iR x.1 ∧ iR x.2.1 ∧ iR (x.2.1 + 1000000) ∧ iR x.2.2 := by
  obtain ⟨h1, h2, h3⟩ := h
  exact ⟨by omega, by omega, by omega, by omega⟩
theorem iR_cand {L : List aT} (hL : ∀ x ∈ L, tB x) {i w : Int} : iR (candL L i w) := by
  unfold candL
  split
  · omega
  · split
    · omega
    · split
      · omega
      · rename_i x hx
        obtain ⟨b1, b2, b3, b4⟩ := iR_tB (hL x (List.mem_of_getElem? hx))
        split
        · exact b1
        · split
          · exact b3
          · exact b4
theorem iR_pt {L : List aT} (hL : ∀ x ∈ L, tB x) {i w : Int} : iR (ptL L i w) := by
  unfold ptL
  split
  · omega
  · split
    · omega
    · rename_i x hx
      obtain ⟨b1, b2, b3, b4⟩ := iR_tB (hL x (List.mem_of_getElem? hx))
      split
      · exact b4
      · split
        · exact b3
        · omega
theorem iR_best {L : List aT} (hL : ∀ x ∈ L, tB x) {c : Int} : iR (bestL L c) := by
  have key : ∀ (M : List aT) (r : Int), (∀ x ∈ M, tB x) → iR r → iR (M.foldl (fun r x => bestS c x r) r) := by
    intro M
    induction M with
    | nil => intro r _ hr; exact hr
    | cons x M ih =>
      intro r hM hr
      refine ih _ (fun y hy => hM y (List.mem_cons_of_mem _ hy)) ?_
      obtain ⟨b1, b2, b3, b4⟩ := iR_tB (hM x List.mem_cons_self)
      show iR (bestS c x r)
      unfold bestS
      split
      · exact b3
      · exact hr
  exact key L (-1) hL (by omega)
theorem iR_least {L : List aT} (hL : ∀ x ∈ L, tB x) {s : Int} : iR (leastL L s) := by
  induction L with
  | nil => show iR (-1); omega
  | cons x L ih =>
    show iR (if s ≤ x.2.1 then x.2.2 else leastL L s)
    split
    · exact (iR_tB (hL x List.mem_cons_self)).2.2.2
    · exact ih (fun y hy => hL y (List.mem_cons_of_mem _ hy))
theorem iR_would {n : aN} (hW : WF n) {v k : Int} : iR (wouldF n v k) := by
  unfold wouldF
  by_cases q : (0 ≤ v ∧ v < n 0) ∧ (k = 0 ∨ isKb n k = true)
  · rw [if_neg (fun z => z q)]
    by_cases q2 : v = 0
    · rw [if_pos q2]; omega
    · rw [if_neg q2]
      have := sla_bd hW (setP_ok hW q2 q.2) (wd0_ok hW)
      omega
  · rw [if_pos q]; omega
theorem ways_tB {n : aN} (hW : WF n) {v t : Int} (hv : 0 ≤ v ∧ v < n 0) {L : List aT} (hL : Fro L (WaysX n v t)) : ∀ x ∈ L, tB x := fun x hx => by
  obtain ⟨pl, a1, -, rfl⟩ := hL.2.1 x hx
  exact trp_bd hW (a1.pl hW) hv
theorem iR_node {n : aN} (hW : WF n) {a r c : Int} : iR (nodeF n a r c).1 := by
  have hN := hW.1
  unfold nodeF
  split
  · exact iR_c1
  · split
    · exact iR_c2
    · split
      · exact iR_c4
      · show iR (n 0); omega
theorem iR_b2i {b : Bool} : iR (b2i b) := by
  cases b
  · show iR 0; omega
  · show iR 1; omega
theorem iR_end {n : aN} {v l e w : Int} : iR (endF n v l e w).1 := by
  unfold endF
  split
  · exact iR_c1
  · split
    · exact iR_c2
    · split
      · exact iR_c3
      · exact iR_b2i
theorem iR_wire {n : aN} (hW : WF n) {v r c w : Int} : iR (wireF n v r c w).1 := by
  unfold wireF
  split
  · exact iR_c1
  · rename_i q
    have q := Classical.not_not.mp q
    split
    · exact iR_c2
    · rename_i q1
      have q1 := Classical.not_not.mp q1
      split
      · exact iR_c3
      · have hW2 := wf_wire hW (v := v) (by omega) q1
        have ez : wireN n v r c w 0 = n 0 := by
          unfold wireN
          rw [st_lo (by omega) (by omega) (by omega), st_lo (by omega) (by omega) (by omega), st_lo (by omega) (by omega) (by omega)]
        have := tim0_bd hW2 (v := v) q.1 (by omega)
        show iR (tim0 (wireN n v r c w) v)
        omega
theorem iR_pull {n : aN} (hW : WF n) {p : Int} : iR (pullF n p).1 := by
  have hN := hW.1
  unfold pullF
  split
  · exact iR_c2
  · show iR (n 1); omega
theorem iR_kind {n : aN} (hW : WF n) {k i p o c t : Int} : iR (kindF n k i p o c t).1 := by
  unfold kindF
  split
  · exact iR_c1
  · rename_i q
    have q := Classical.not_not.mp q
    split
    · exact iR_c2
    · have := (hW.2.2.2.2.2 k q.1 q.2).1
      show iR (kf n k 0)
      omega
theorem iR_drop {n : aN} (hW : WF n) {k : Int} : iR (dropF n k).1 := by
  by_cases q : isKb n k = true
  · have hk := isKb_iff.mp q
    unfold dropF
    rw [if_neg (fun z => z q)]
    split
    · exact iR_c3
    · obtain ⟨f1, f2, f3⟩ := kf3 (n := n) (z := 0) ⟨hk.1, hk.2.1⟩
      have b1 := (hW.2.2.2.2.2 1 (by omega) (by omega)).1
      have b2 := (hW.2.2.2.2.2 2 (by omega) (by omega)).1
      have b3 := (hW.2.2.2.2.2 3 (by omega) (by omega)).1
      show iR (kf (sk n k 0 0) 1 0 + kf (sk n k 0 0) 2 0 + kf (sk n k 0 0) 3 0)
      rw [f1, f2, f3]
      split <;> split <;> split <;> omega
  · unfold dropF
    rw [if_pos q]
    exact iR_c1
theorem iR_place {n : aN} (hW : WF n) {v k : Int} : iR (placeF n v k).1 := by
  have hN := hW.1
  unfold placeF
  split
  · exact iR_c1
  · rename_i q
    have q := Classical.not_not.mp q
    split
    · exact iR_c3
    · exact iR_nf hW (by omega) (by omega) (by omega)
theorem iR_take {n : aN} (hW : WF n) : iR (takeF n).1 := by
  have hN := hW.1
  unfold takeF
  split
  · exact iR_c3
  · show iR (n 0 - 1); omega
theorem iR_change {n : aN} (hW : WF n) : iR (changeF n).1 := by
  unfold changeF
  split
  · exact iR_c3
  · rename_i q
    obtain ⟨w1, w2⟩ := wf_change hW q
    have := sla_bd w2 (pl0_ok w2) (wd0_ok w2)
    show iR (sla _ (pl0 _) (wd0 _) + 1000000)
    omega
