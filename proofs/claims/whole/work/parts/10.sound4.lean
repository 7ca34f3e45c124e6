/-! heap instructions, making of cells, calls, ends; printed by wip/whole/gensound2.py -/
section Sn2
variable {P : aP} {q d pc a nx : Nat} {b : Int} {xs : List (Int × Nat)} {K : aK} {G : aG} {C : aC} {ls st : List aV} {I : aI} {R : aR} {S : aS}
theorem flk_in {ci k : Nat} (h : FLK.any (fun x => Nat.beq x.1 (mO q) && Nat.beq x.2.1 a && Nat.beq x.2.2.1 ci && Nat.beq x.2.2.2.1 k) = true) : Cond.fieldLink (RN (mO q)) a (TF ci k).1 (TF ci k).2.1 (TF ci k).2.2.1 ∈ gw ∧ ci < 9 ∧ k < NF ci := by
  obtain ⟨x, hx, h⟩ := List.any_eq_true.mp h
  simp only [Bool.and_eq_true] at h
  have h1 := beqE h.1.1.1
  have h2 := beqE h.1.1.2
  have h3 := beqE h.1.2
  have h4 := beqE h.2
  have h5 := FLK_ok x hx
  rw [← h1, ← h2, ← h3, ← h4]
  exact ⟨gw_at (FLK_pl x hx) rfl, h5⟩
theorem clk_in {ci : Nat} (h : CLK.any (fun x => Nat.beq x.1 (mO q) && Nat.beq x.2.1 a && Nat.beq x.2.2.1 ci) = true) : Cond.classLink (RN (mO q)) a (RN ci) ∈ gw := by
  obtain ⟨x, hx, h⟩ := List.any_eq_true.mp h
  simp only [Bool.and_eq_true] at h
  rw [← beqE h.1.1, ← beqE h.1.2, ← beqE h.2]
  exact gw_at (CLK_pl x hx) rfl
theorem mlk_in {q' : Nat} (h : MLK.any (fun x => Nat.beq x.1 (mO q) && Nat.beq x.2.1 a && Nat.beq x.2.2.1 q') = true) : Cond.methodLink (RN (mO q)) a (mY q') ∈ gw := by
  obtain ⟨x, hx, h⟩ := List.any_eq_true.mp h
  simp only [Bool.and_eq_true] at h
  rw [← beqE h.1.1, ← beqE h.1.2, ← beqE h.2]
  exact gw_at (MLK_pl x hx) rfl
theorem nlk_in {q' : Nat} {s : State} (hN : Nz s) (h : NLK.any (fun x => Nat.beq x.1 (mO q) && Nat.beq x.2.1 a && Nat.beq x.2.2.1 q') = true) : va_Nw (.methodLinkNest (RN (mO q)) a (mY q') "RepeaterWires") s := by
  obtain ⟨x, hx, h⟩ := List.any_eq_true.mp h
  simp only [Bool.and_eq_true] at h
  rw [← beqE h.1.1, ← beqE h.1.2, ← beqE h.2]
  exact hN.1 x hx
theorem oil_in (h : OIL.any (fun x => Nat.beq x.1 (mO q) && Nat.beq x.2.1 a) = true) : Cond.methodLink (RN (mO q)) a objectInit ∈ gw := by
  obtain ⟨x, hx, h⟩ := List.any_eq_true.mp h
  simp only [Bool.and_eq_true] at h
  rw [← beqE h.1, ← beqE h.2]
  exact gw_at (OIL_pl x hx) rfl
theorem acl_in (h : ACL.any (fun x => Nat.beq x.1 (mO q) && Nat.beq x.2.1 a) = true) : Cond.methodLink (RN (mO q)) a arraycopyName ∈ gw := by
  obtain ⟨x, hx, h⟩ := List.any_eq_true.mp h
  simp only [Bool.and_eq_true] at h
  rw [← beqE h.1, ← beqE h.2]
  exact gw_at (ACL_pl x hx) rfl
theorem ce_obj {cy : Nat → ClassId} {bs x ci n : Nat} (h : ci < 9) : ce cy bs I R x (ci, n) = .inr (ci, (List.range (NF ci)).map (fv bs I R x ci)) := by simp [ce, h]
theorem ce_9 {cy : Nat → ClassId} {bs x n : Nat} : ce cy bs I R x (9, n) = .inl (cy 9, n, .inl (fun i => Int32.ofInt (I x i))) := rfl
theorem ce_10 {cy : Nat → ClassId} {bs x n : Nat} : ce cy bs I R x (10, n) = .inl (cy 10, n, .inl (fun i => Int32.ofInt (I x i))) := rfl
theorem ce_11 {cy : Nat → ClassId} {bs x n : Nat} : ce cy bs I R x (11, n) = .inl (cy 11, n, .inr (.inr (.inr (.inr (fun i => (R x i).map (fun y => bs + y)))))) := rfl
theorem ce_12 {cy : Nat → ClassId} {bs x n : Nat} : ce cy bs I R x (12, n) = .inl (cy 12, n, .inr (.inr (.inr (.inr (fun i => (R x i).map (fun y => bs + y)))))) := rfl
theorem fv_int {bs x ci k : Nat} (h : isRf ci k = false) : fv bs I R x ci k = .int (Int32.ofInt (I x k)) := by simp [fv, h]
theorem fv_ref {bs x ci k y : Nat} (h : isRf ci k = true) (hy : R x k = some y) : fv bs I R x ci k = .ref (bs + y) := by simp [fv, h, hy, va_rf]
theorem fs_at {bs x ci k : Nat} (h : k < NF ci) : ((List.range (NF ci)).map (fv bs I R x ci))[k]? = some (fv bs I R x ci k) := by rw [List.getElem?_map, List.getElem?_range h]; rfl
theorem upd_I {x : Nat} {j z : Int} (h : 0 ≤ j) : upd (fun i => Int32.ofInt (I x i)) j.toNat (Int32.ofInt z) = fun (i : Nat) => Int32.ofInt (uI I x j z x i) := by
  funext i
  simp only [upd, uI, true_and]
  by_cases e : i = j.toNat
  · rw [if_pos e, if_pos (by omega)]
  · rw [if_neg e, if_neg (by omega)]
theorem upd_R {bs x y : Nat} {j : Int} (h : 0 ≤ j) : va_up (fun i => (R x i).map (fun y => bs + y)) j.toNat (some (bs + y)) = fun (i : Nat) => (uR R x j (some y) x i).map (fun y => bs + y) := by
  funext i
  simp only [va_up, uR, true_and]
  by_cases e : i = j.toNat
  · rw [if_pos e, if_pos (by omega)]; rfl
  · rw [if_neg e, if_neg (by omega)]
theorem cpy_I {x t : Nat} {sp dp n : Int} (h1 : 0 ≤ sp) (h2 : 0 ≤ dp) (h3 : 0 ≤ n) : va_cpy (fun (i : Nat) => Int32.ofInt (I x i)) (fun (i : Nat) => Int32.ofInt (I t i)) sp.toNat dp.toNat n.toNat = fun (i : Nat) => Int32.ofInt (cI I x sp t dp n t i) := by
  funext i
  simp only [va_cpy, cI, true_and]
  by_cases e : dp.toNat ≤ i ∧ i < dp.toNat + n.toNat
  · rw [if_pos e, if_pos (by omega)]
    congr 2
    omega
  · rw [if_neg e, if_neg (by omega)]

theorem isRf_ok : ∀ c, c < 9 → ∀ k, k < NF c → isRf c k = true → (∃ n, tF c k = .object n) ∨ ∃ t, tF c k = .array t := by
  intro c hc k hk h
  have key : ∀ c, c < 9 → ∀ k, k < NF c → (match tF c k with
    | .int => true
    | .boolean => true
    | .object _ => true
    | .array _ => true
    | _ => false) = true := by decide +kernel
  have h2 := key c hc k hk
  unfold isRf at h
  cases e : tF c k <;> rw [e] at h h2 <;> first | exact Or.inl ⟨_, rfl⟩ | exact Or.inr ⟨_, rfl⟩ | exact absurd h (by decide) | exact absurd h2 (by decide)
theorem sn_44 (hg : gOk P q d K G) (he : eChk q (pc, 44, a, b, nx, xs) = true) (h : stp q (pL P) (pX P) G C K 44 a b nx xs ls st I R S) : Go P q d K pc ls st I R S := by
  obtain ⟨hd, hn, hx⟩ := chk he
  have hn : nx = pc + 3 := hn
  subst hn
  simp only [stp] at h
  split at h
  · rename_i ci k x st1
    simp only [eX, Bool.and_eq_true] at hx
    obtain ⟨hlk, h9, hk⟩ := flk_in hx.2
    obtain ⟨n, hS1, h⟩ := h
    have key : ∀ v, fv (pB P) I R x ci.toNat k = cv (pB P) (pS P) v → G (pc + 3) ls (v :: st1) I R S → Go P q d K pc ls (.inr (.inl (some x)) :: st1) I R S := by
      intro v hv h
      refine go_pure (ls' := ls) (st' := v :: st1) (pc' := pc + 3) (fun p e s m args below meth c Rm Q H locs cells slots la hc hP hS h4 h5 hl kk => ?_) (hg _ _ _ _ _ _ h)
      have he1 := wH_at (cy := pC P) (bs := pB P) (I := I) (R := R) hS1
      rw [ce_obj h9] at he1
      have k9 := kk la hl
      rw [List.map_cons, ← hv] at k9
      exact va_get (ci := ci.toNat) hc.1 hc.2.1 hc.2.2.2.2.1 (in_gw h9) hc.2.2.2.1 hc.2.2.2.2.2.1 hP x he1 (cl_at h9) k hk (hc.2.2.2.2.1 _ hlk) (fun _ h => h) (fs_at hk) hd k9
    split at h
    · rename_i hrf
      obtain ⟨y, hy, h⟩ := h
      exact key _ (fv_ref hrf hy) h
    · rename_i hrf
      exact key _ (fv_int hrf) h
  · exact h.elim
theorem sn_45 (hg : gOk P q d K G) (he : eChk q (pc, 45, a, b, nx, xs) = true) (h : stp q (pL P) (pX P) G C K 45 a b nx xs ls st I R S) : Go P q d K pc ls st I R S := by
  obtain ⟨hd, hn, hx⟩ := chk he
  have hn : nx = pc + 3 := hn
  subst hn
  simp only [stp] at h
  split at h
  · rename_i ci k z x st1
    simp only [eX, Bool.and_eq_true, Bool.not_eq_true'] at hx
    obtain ⟨hlk, h9, hk⟩ := flk_in hx.2.1
    split at h
    · exact h.elim
    · rename_i hrf
      obtain ⟨n, hS1, h⟩ := h
      have hnar : narrow (tF ci.toNat k) (.int (Int32.ofInt z)) = .int (Int32.ofInt z) ∧ fits (tF ci.toNat k) (.int (Int32.ofInt z)) = true ∧ G (pc + 3) ls st1 (uI I x k z) R S := by
        split at h
        · rename_i hz
          obtain ⟨h01, h⟩ := h
          unfold isZf at hz
          split at hz
          · rename_i e
            rw [e]
            rcases h01 with rfl | rfl
            · exact ⟨by decide +kernel, by decide +kernel, h⟩
            · exact ⟨by decide +kernel, by decide +kernel, h⟩
          · cases hz
        · rename_i hz
          unfold isRf at hrf
          unfold isZf at hz
          split at hrf
          · rename_i e
            rw [e]
            exact ⟨vp_nar_int _, rfl, h⟩
          · rename_i e
            rw [e] at hz
            cases hz
          · cases hrf
      obtain ⟨hn1, hf1, h⟩ := hnar
      refine go_heap (I1 := uI I x k z) (R1 := R) (st' := st1) (pc' := pc + 3) (fun p e s m args below meth c Rm Q H locs cells slots la hc hP hS h4 h5 hl kk => ?_) (hg _ _ _ _ _ _ h)
      have he1 := wH_at (cy := pC P) (bs := pB P) (I := I) (R := R) hS1
      rw [ce_obj h9] at he1
      have hty := ty_ok ci.toNat h9 k hk
      refine va_put (ci := ci.toNat) (ty := tF ci.toNat k) hc.1 hc.2.1 hc.2.2.2.2.1 (in_gw h9) (tF ci.toNat) (ty_ok ci.toNat h9) (nm_ok ci.toNat h9) hc.2.2.2.1 hc.2.2.2.2.2.1 hP wH_D hS x he1 (cl_at h9) k hk (hc.2.2.2.2.1 _ hlk) (fun _ h => h) hx.2.2 hty hn1 hf1 (by simp [hk]) hd (fun H1 locs1 hP1 _ hS2 => kk H1 locs1 ?_ hS2)
      rw [wH_set (I' := uI I x k z) (R' := R) hS1 (by rw [ce_obj h9, ← fs_set (f := fv (pB P) I R x ci.toNat) (k := k) (g := fv (pB P) (uI I x k z) R x ci.toNat) (v := .int (Int32.ofInt z)) (by rw [fv_int hrf]; simp [uI]) (fun j hj => by rw [fv, fv, show uI I x k z x (j : Int) = I x (j : Int) from if_neg (by omega)])]; rfl) (fun y hy kn => ce_uI hy kn)] at hP1
      exact hP1
  · rename_i ci k y x st1
    simp only [eX, Bool.and_eq_true, Bool.not_eq_true'] at hx
    obtain ⟨hlk, h9, hk⟩ := flk_in hx.2.1
    split at h
    · rename_i hrf
      obtain ⟨n, hS1, h⟩ := h
      have hnar : narrow (tF ci.toNat k) (.ref (pB P + y)) = .ref (pB P + y) ∧ fits (tF ci.toNat k) (.ref (pB P + y)) = true := by
        have := isRf_ok ci.toNat h9 k hk hrf
        rcases this with ⟨n, e⟩ | ⟨t, e⟩ <;> rw [e] <;> exact ⟨rfl, rfl⟩
      refine go_heap (I1 := I) (R1 := uR R x k (some y)) (st' := st1) (pc' := pc + 3) (fun p e s m args below meth c Rm Q H locs cells slots la hc hP hS h4 h5 hl kk => ?_) (hg _ _ _ _ _ _ h)
      have he1 := wH_at (cy := pC P) (bs := pB P) (I := I) (R := R) hS1
      rw [ce_obj h9] at he1
      have hty := ty_ok ci.toNat h9 k hk
      refine va_put (ci := ci.toNat) (ty := tF ci.toNat k) hc.1 hc.2.1 hc.2.2.2.2.1 (in_gw h9) (tF ci.toNat) (ty_ok ci.toNat h9) (nm_ok ci.toNat h9) hc.2.2.2.1 hc.2.2.2.2.2.1 hP wH_D hS x he1 (cl_at h9) k hk (hc.2.2.2.2.1 _ hlk) (fun _ h => h) hx.2.2 hty hnar.1 hnar.2 (by simp [hk]) hd (fun H1 locs1 hP1 _ hS2 => kk H1 locs1 ?_ hS2)
      rw [wH_set (I' := I) (R' := uR R x k (some y)) hS1 (by rw [ce_obj h9, ← fs_set (f := fv (pB P) I R x ci.toNat) (k := k) (g := fv (pB P) I (uR R x k (some y)) x ci.toNat) (v := .ref (pB P + y)) (by rw [fv_ref hrf (y := y)]; simp [uR]) (fun j hj => by rw [fv, fv, show uR R x k (some y) x (j : Int) = R x (j : Int) from if_neg (by omega)])]; rfl) (fun y hy kn => ce_uR hy kn)] at hP1
      exact hP1
    · exact h.elim
  · exact h.elim
theorem sn_46 (hg : gOk P q d K G) (he : eChk q (pc, 46, a, b, nx, xs) = true) (h : stp q (pL P) (pX P) G C K 46 a b nx xs ls st I R S) : Go P q d K pc ls st I R S := by
  obtain ⟨hd, hn, hx⟩ := chk he
  have hn : nx = pc + 3 := hn
  subst hn
  simp only [stp] at h
  split at h
  · rename_i ci k y x st1
    simp only [eX, Bool.and_eq_true, decide_eq_true_eq] at hx
    obtain ⟨hlk, h9, hk⟩ := flk_in hx.2.1.1.1
    have hfin := hx.2.1.1.2
    have hci := beqE hx.2.1.2
    have hini := hx.2.2
    split at h
    · rename_i hrf
      obtain ⟨n, hS1, h⟩ := h
      have hnar : narrow (tF ci.toNat k) (.ref (pB P + y)) = .ref (pB P + y) ∧ fits (tF ci.toNat k) (.ref (pB P + y)) = true := by
        have := isRf_ok ci.toNat h9 k hk hrf
        rcases this with ⟨n, e⟩ | ⟨t, e⟩ <;> rw [e] <;> exact ⟨rfl, rfl⟩
      refine go_heap (I1 := I) (R1 := uR R x k (some y)) (st' := st1) (pc' := pc + 3) (fun p e s m args below meth c Rm Q H locs cells slots la hc hP hS h4 h5 hl kk => ?_) (hg _ _ _ _ _ _ h)
      have he1 := wH_at (cy := pC P) (bs := pB P) (I := I) (R := R) hS1
      rw [ce_obj h9] at he1
      have hty := ty_ok ci.toNat h9 k hk
      refine va_putF (ci := ci.toNat) (ty := tF ci.toNat k) hc.1 hc.2.1 hc.2.2.2.2.1 (in_gw h9) (tF ci.toNat) (ty_ok ci.toNat h9) (nm_ok ci.toNat h9) hc.2.2.2.1 hc.2.2.2.2.2.1 hP wH_D hS x he1 (cl_at h9) k hk (hc.2.2.2.2.1 _ hlk) (fun _ h => h) hfin (hc.2.2.2.2.2.2.2.2.2.2 hini) (by rw [own_ok ci.toNat h9 k hk, hci]) hty hnar.1 hnar.2 (by simp [hk]) hd (fun H1 locs1 hP1 _ hS2 => kk H1 locs1 ?_ hS2)
      rw [wH_set (I' := I) (R' := uR R x k (some y)) hS1 (by rw [ce_obj h9, ← fs_set (f := fv (pB P) I R x ci.toNat) (k := k) (g := fv (pB P) I (uR R x k (some y)) x ci.toNat) (v := .ref (pB P + y)) (by rw [fv_ref hrf (y := y)]; simp [uR]) (fun j hj => by rw [fv, fv, show uR R x k (some y) x (j : Int) = R x (j : Int) from if_neg (by omega)])]; rfl) (fun y hy kn => ce_uR hy kn)] at hP1
      exact hP1
    · exact h.elim
  · exact h.elim
theorem sn_47 (hg : gOk P q d K G) (he : eChk q (pc, 47, a, b, nx, xs) = true) (h : stp q (pL P) (pX P) G C K 47 a b nx xs ls st I R S) : Go P q d K pc ls st I R S := by
  obtain ⟨hd, hn, hx⟩ := chk he
  have hn : nx = pc + 1 := hn
  subst hn
  simp only [stp] at h
  split at h
  · rename_i j x st1
    obtain ⟨n, hS1, hj, h⟩ := h
    refine go_pure (ls' := ls) (st' := .inl (I x j) :: st1) (pc' := pc + 1) (fun p e s m args below meth c Rm Q H locs cells slots la hc hP hS h4 h5 hl kk => ?_) (hg _ _ _ _ _ _ h)
    have he1 := wH_at (cy := pC P) (bs := pB P) (I := I) (R := R) hS1
    rw [ce_9] at he1
    have k9 := kk la hl
    refine va_iald hc.1 hc.2.1 hc.2.2.2.2.2.1 hP x 0 he1 rfl (inI hj.1 hj.2.1 hj.2.2) hd ?_
    rw [clI hj.1 (by omega), Int.toNat_of_nonneg hj.1]
    exact k9
  · rename_i j st1
    obtain ⟨hj, h⟩ := h
    refine go_pure (ls' := ls) (st' := .inl (pX P j.toNat) :: st1) (pc' := pc + 1) (fun p e s m args below meth c Rm Q H locs cells slots la hc hP hS h4 h5 hl kk => ?_) (hg _ _ _ _ _ _ h)
    have k9 := kk la hl
    refine va_sld hc.1 hc.2.1 hc.2.2.2.2.2.2.2.1 (by have := hc.2.2.2.2.2.2.2.2.1; have := hc.2.2.2.2.2.2.2.2.2.1; omega) (by show ¬ pB P ≤ pS P; have := hc.2.2.2.2.2.2.2.2.1; omega) hS (inI hj.1 hj.2.1 hj.2.2) hd ?_
    rw [clI hj.1 (by omega)]
    exact k9
  · exact h.elim
theorem sn_48 (hg : gOk P q d K G) (he : eChk q (pc, 48, a, b, nx, xs) = true) (h : stp q (pL P) (pX P) G C K 48 a b nx xs ls st I R S) : Go P q d K pc ls st I R S := by
  obtain ⟨hd, hn, hx⟩ := chk he
  have hn : nx = pc + 1 := hn
  subst hn
  simp only [stp] at h
  split at h
  · rename_i z j x st1
    obtain ⟨n, hS1, hj, h⟩ := h
    refine go_heap (I1 := uI I x j z) (R1 := R) (st' := st1) (pc' := pc + 1) (fun p e s m args below meth c Rm Q H locs cells slots la hc hP hS h4 h5 hl kk => ?_) (hg _ _ _ _ _ _ h)
    have he1 := wH_at (cy := pC P) (bs := pB P) (I := I) (R := R) hS1
    rw [ce_9] at he1
    refine va_iast hc.1 hc.2.1 hc.2.2.2.2.2.1 hP wH_D hS x 0 he1 rfl (inI hj.1 hj.2.1 hj.2.2) hd (fun H1 locs1 hP1 _ hS2 => kk H1 locs1 ?_ hS2)
    rw [clI hj.1 (by omega), upd_I hj.1, wH_set (I' := uI I x j z) (R' := R) hS1 ce_9 (fun y hy kn => ce_uI hy kn)] at hP1
    exact hP1
  · exact h.elim
theorem sn_49 (hg : gOk P q d K G) (he : eChk q (pc, 49, a, b, nx, xs) = true) (h : stp q (pL P) (pX P) G C K 49 a b nx xs ls st I R S) : Go P q d K pc ls st I R S := by
  obtain ⟨hd, hn, hx⟩ := chk he
  have hn : nx = pc + 1 := hn
  subst hn
  simp only [stp] at h
  split at h
  · rename_i j x st1
    obtain ⟨k, n, hS1, hj, y, hy, h⟩ := h
    obtain ⟨hk, hj⟩ := hj
    refine go_pure (ls' := ls) (st' := vr y :: st1) (pc' := pc + 1) (fun p e s m args below meth c Rm Q H locs cells slots la hc hP hS h4 h5 hl kk => ?_) (hg _ _ _ _ _ _ h)
    have he1 := wH_at (cy := pC P) (bs := pB P) (I := I) (R := R) hS1
    have k9 := kk la hl
    have hv : va_rf ((R x ((Int32.ofInt j).toNatClampNeg : Nat)).map (fun y => pB P + y)) = .ref (pB P + y) := by
      rw [clI hj.1 (by omega), Int.toNat_of_nonneg hj.1, hy]; rfl
    rcases hk with rfl | rfl
    · rw [ce_11] at he1
      refine va_aldq hc.1 hc.2.1 hc.2.2.2.2.2.1 hP x 2 he1 rfl (inI hj.1 hj.2.1 hj.2.2) hd ?_
      rw [hv]
      exact k9
    · rw [ce_12] at he1
      refine va_aldq hc.1 hc.2.1 hc.2.2.2.2.2.1 hP x 3 he1 rfl (inI hj.1 hj.2.1 hj.2.2) hd ?_
      rw [hv]
      exact k9
  · exact h.elim
theorem sn_50 (hg : gOk P q d K G) (he : eChk q (pc, 50, a, b, nx, xs) = true) (h : stp q (pL P) (pX P) G C K 50 a b nx xs ls st I R S) : Go P q d K pc ls st I R S := by
  obtain ⟨hd, hn, hx⟩ := chk he
  have hn : nx = pc + 1 := hn
  subst hn
  simp only [stp] at h
  split at h
  · rename_i y j x st1
    obtain ⟨k, n, hS1, hj, mm, hS2, h⟩ := h
    obtain ⟨hk, hj⟩ := hj
    refine go_heap (I1 := I) (R1 := uR R x j (some y)) (st' := st1) (pc' := pc + 1) (fun p e s m args below meth c Rm Q H locs cells slots la hc hP hS h4 h5 hl kk => ?_) (hg _ _ _ _ _ _ h)
    have he1 := wH_at (cy := pC P) (bs := pB P) (I := I) (R := R) hS1
    have he2 := wH_at (cy := pC P) (bs := pB P) (I := I) (R := R) hS2
    rcases hk with rfl | rfl
    · rw [ce_11] at he1
      rw [ce_obj (by decide)] at he2
      refine va_astq hc.1 hc.2.1 hc.2.2.2.2.2.1 hP wH_D hS x 2 y 3 (r := (RN 3, TF 3, NF 3)) he1 rfl he2 (cl_at (by decide)) (inI hj.1 hj.2.1 hj.2.2) hd (fun H1 locs1 hP1 _ hS3 => kk H1 locs1 ?_ hS3)
      rw [clI hj.1 (by omega), upd_R hj.1, wH_set (I' := I) (R' := uR R x j (some y)) hS1 ce_11 (fun y hy kn => ce_uR hy kn)] at hP1
      exact hP1
    · rw [ce_12] at he1
      rw [ce_obj (by decide)] at he2
      refine va_astq hc.1 hc.2.1 hc.2.2.2.2.2.1 hP wH_D hS x 3 y 4 (r := (RN 4, TF 4, NF 4)) he1 rfl he2 (cl_at (by decide)) (inI hj.1 hj.2.1 hj.2.2) hd (fun H1 locs1 hP1 _ hS3 => kk H1 locs1 ?_ hS3)
      rw [clI hj.1 (by omega), upd_R hj.1, wH_set (I' := I) (R' := uR R x j (some y)) hS1 ce_12 (fun y hy kn => ce_uR hy kn)] at hP1
      exact hP1
  · exact h.elim
theorem sn_51 (hg : gOk P q d K G) (he : eChk q (pc, 51, a, b, nx, xs) = true) (h : stp q (pL P) (pX P) G C K 51 a b nx xs ls st I R S) : Go P q d K pc ls st I R S := by
  obtain ⟨hd, hn, hx⟩ := chk he
  have hn : nx = pc + 1 := hn
  subst hn
  simp only [stp] at h
  split at h
  · rename_i j x st1
    obtain ⟨n, hS1, hj, h⟩ := h
    refine go_pure (ls' := ls) (st' := .inl (I x j) :: st1) (pc' := pc + 1) (fun p e s m args below meth c Rm Q H locs cells slots la hc hP hS h4 h5 hl kk => ?_) (hg _ _ _ _ _ _ h)
    have he1 := wH_at (cy := pC P) (bs := pB P) (I := I) (R := R) hS1
    rw [ce_10] at he1
    have k9 := kk la hl
    refine va_zald hc.1 hc.2.1 hc.2.2.2.2.2.1 hP x 1 he1 rfl (inI hj.1 hj.2.1 hj.2.2) hd ?_
    rw [clI hj.1 (by omega), Int.toNat_of_nonneg hj.1]
    exact k9
  · exact h.elim
theorem sn_52 (hg : gOk P q d K G) (he : eChk q (pc, 52, a, b, nx, xs) = true) (h : stp q (pL P) (pX P) G C K 52 a b nx xs ls st I R S) : Go P q d K pc ls st I R S := by
  obtain ⟨hd, hn, hx⟩ := chk he
  have hn : nx = pc + 1 := hn
  subst hn
  simp only [stp] at h
  split at h
  · rename_i z j x st1
    obtain ⟨n, hS1, hj, h⟩ := h
    obtain ⟨h01, hj⟩ := hj
    have hz : vp_nar .boolean (Int32.ofInt z) = Int32.ofInt z := by rcases h01 with rfl | rfl <;> decide +kernel
    refine go_heap (I1 := uI I x j z) (R1 := R) (st' := st1) (pc' := pc + 1) (fun p e s m args below meth c Rm Q H locs cells slots la hc hP hS h4 h5 hl kk => ?_) (hg _ _ _ _ _ _ h)
    have he1 := wH_at (cy := pC P) (bs := pB P) (I := I) (R := R) hS1
    rw [ce_10] at he1
    refine va_zast hc.1 hc.2.1 hc.2.2.2.2.2.1 hP wH_D hS x 1 he1 rfl (inI hj.1 hj.2.1 hj.2.2) hd (fun H1 locs1 hP1 _ hS2 => kk H1 locs1 ?_ hS2)
    rw [clI hj.1 (by omega), hz, upd_I hj.1, wH_set (I' := uI I x j z) (R' := R) hS1 ce_10 (fun y hy kn => ce_uI hy kn)] at hP1
    exact hP1
  · exact h.elim
theorem sn_53 (hg : gOk P q d K G) (he : eChk q (pc, 53, a, b, nx, xs) = true) (h : stp q (pL P) (pX P) G C K 53 a b nx xs ls st I R S) : Go P q d K pc ls st I R S := by
  obtain ⟨hd, hn, hx⟩ := chk he
  have hn : nx = pc + 1 := hn
  subst hn
  simp only [stp] at h
  split at h
  · rename_i x st1
    obtain ⟨k, n, hS1, hk, h⟩ := h
    refine go_pure (ls' := ls) (st' := .inl n :: st1) (pc' := pc + 1) (fun p e s m args below meth c Rm Q H locs cells slots la hc hP hS h4 h5 hl kk => ?_) (hg _ _ _ _ _ _ h)
    have he1 := wH_at (cy := pC P) (bs := pB P) (I := I) (R := R) hS1
    have k9 := kk la hl
    have hv : Int32.ofNat n = Int32.ofInt (n : Int) := Int32.ofInt_eq_ofNat.symm
    rcases (show k = 9 ∨ k = 10 ∨ k = 11 ∨ k = 12 by omega) with rfl | rfl | rfl | rfl
    · rw [ce_9] at he1
      exact va_alen hc.1 hc.2.1 hc.2.2.2.2.2.1 hP x 0 he1 rfl hv hd k9
    · rw [ce_10] at he1
      exact va_alen hc.1 hc.2.1 hc.2.2.2.2.2.1 hP x 1 he1 rfl hv hd k9
    · rw [ce_11] at he1
      exact va_alen hc.1 hc.2.1 hc.2.2.2.2.2.1 hP x 2 he1 rfl hv hd k9
    · rw [ce_12] at he1
      exact va_alen hc.1 hc.2.1 hc.2.2.2.2.2.1 hP x 3 he1 rfl hv hd k9
  · rename_i st1
    refine go_pure (ls' := ls) (st' := .inl (pL P) :: st1) (pc' := pc + 1) (fun p e s m args below meth c Rm Q H locs cells slots la hc hP hS h4 h5 hl kk => ?_) (hg _ _ _ _ _ _ h)
    have k9 := kk la hl
    refine va_slen hc.1 hc.2.1 hc.2.2.2.2.2.2.2.1 (by have := hc.2.2.2.2.2.2.2.2.1; have := hc.2.2.2.2.2.2.2.2.2.1; omega) (by show ¬ pB P ≤ pS P; have := hc.2.2.2.2.2.2.2.2.1; omega) hS hd ?_
    rw [show Int32.ofNat (pL P) = Int32.ofInt ((pL P : Nat) : Int) from Int32.ofInt_eq_ofNat.symm]
    exact k9
  · exact h.elim
theorem nn_I {z : Int} (h1 : 0 ≤ z) (h2 : z ≤ 1000000) : ¬ Int32.ofInt z < 0 := by
  rw [zeroI, ltI ⟨by omega, by omega⟩ iR0]
  omega
theorem sn_54 (hg : gOk P q d K G) (he : eChk q (pc, 54, a, b, nx, xs) = true) (h : stp q (pL P) (pX P) G C K 54 a b nx xs ls st I R S) : Go P q d K pc ls st I R S := by
  obtain ⟨hd, hn, hx⟩ := chk he
  have hn : nx = pc + 2 := hn
  subst hn
  simp only [stp] at h
  simp only [eX, Bool.and_eq_true, Bool.or_eq_true, decide_eq_true_eq] at hx
  split at h
  · rename_i z st1
    obtain ⟨hz, h⟩ := h
    refine go_new (kn := (b.toNat, z.toNat)) (st' := st1) (pc' := pc + 2) (fun p e s m args below meth c Rm Q H locs cells slots la hc hP hS h6 h7 kk => ?_) (hg _ _ _ _ _ _ h)
    rcases hx.2 with rfl | rfl
    · refine va_newa (atype := .int) (ty := .int) (N' := z.toNat) (a0 := (z.toNat, .inl (fun _ => 0))) hc.1 hc.2.1 (hc.2.2.2.2.1 _ (gw_at arr_pl.1 rfl)) rfl hc.2.2.2.2.2.1 hP wH_D hS (fun x hx => Nat.le_trans hc.2.2.2.2.2.2.2.2.2.1 hx) (fun cA => rfl) (nn_I hz.1 hz.2) (clI hz.1 (by omega)) (by show z.toNat * 4 ≤ 536870912; omega) h6 h7 hd (fun x cA H1 hK1 hP1 hD1 hS1 => ?_)
      have hcA : cA = pC P 9 := by
        have g1 := va_nm_int (hK1.2 4 (cA, .int) rfl).2
        have g2 := va_nm_int (hc.2.2.2.2.2.1.2 0 (pC P 9, .int) rfl).2
        exact Option.some.inj (g1.symm.trans g2)
      subst hcA
      refine kk x H1 ?_ ?_ hS1
      · rw [show ((9 : Int).toNat) = 9 from rfl, ce_9]; simp only [zI, if_true, ← zeroI]; exact hP1
      · rw [show ((9 : Int).toNat) = 9 from rfl, ce_9]; simp only [zI, if_true, ← zeroI]; exact hD1
    · refine va_newa (atype := .boolean) (ty := .boolean) (N' := z.toNat) (a0 := (z.toNat, .inl (fun _ => 0))) hc.1 hc.2.1 (hc.2.2.2.2.1 _ (gw_at arr_pl.2.1 rfl)) rfl hc.2.2.2.2.2.1 hP wH_D hS (fun x hx => Nat.le_trans hc.2.2.2.2.2.2.2.2.2.1 hx) (fun cA => rfl) (nn_I hz.1 hz.2) (clI hz.1 (by omega)) (by show z.toNat * 1 ≤ 536870912; omega) h6 h7 hd (fun x cA H1 hK1 hP1 hD1 hS1 => ?_)
      have hcA : cA = pC P 10 := by
        have g1 := va_nm_boolean (hK1.2 4 (cA, .boolean) rfl).2
        have g2 := va_nm_boolean (hc.2.2.2.2.2.1.2 1 (pC P 10, .boolean) rfl).2
        exact Option.some.inj (g1.symm.trans g2)
      subst hcA
      refine kk x H1 ?_ ?_ hS1
      · rw [show ((10 : Int).toNat) = 10 from rfl, ce_10]; simp only [zI, if_true, ← zeroI]; exact hP1
      · rw [show ((10 : Int).toNat) = 10 from rfl, ce_10]; simp only [zI, if_true, ← zeroI]; exact hD1
  · exact h.elim
theorem sn_55 (hg : gOk P q d K G) (he : eChk q (pc, 55, a, b, nx, xs) = true) (h : stp q (pL P) (pX P) G C K 55 a b nx xs ls st I R S) : Go P q d K pc ls st I R S := by
  obtain ⟨hd, hn, hx⟩ := chk he
  have hn : nx = pc + 3 := hn
  subst hn
  simp only [stp] at h
  simp only [eX, Bool.and_eq_true, Bool.or_eq_true, decide_eq_true_eq] at hx
  split at h
  · rename_i z st1
    obtain ⟨hz, h⟩ := h
    refine go_new (kn := (b.toNat, z.toNat)) (st' := st1) (pc' := pc + 3) (fun p e s m args below meth c Rm Q H locs cells slots la hc hP hS h6 h7 kk => ?_) (hg _ _ _ _ _ _ h)
    have hcl := clk_in hx.2
    rcases hx.1.2 with rfl | rfl
    · refine va_newq (C := RN 3) (N' := z.toNat) hc.1 hc.2.1 hc.2.2.2.1 (hc.2.2.2.2.1 _ hcl) hc.2.2.2.2.2.2.1.2.1 hc.2.2.2.2.2.1 hP wH_D hS (fun x hx => Nat.le_trans hc.2.2.2.2.2.2.2.2.2.1 hx) (nn_I hz.1 hz.2) (clI hz.1 (by omega)) (by omega) h6 h7 hd (fun x cA H1 hK1 hP1 hD1 hS1 => ?_)
      have hcA : cA = pC P 11 := by
        obtain ⟨_, _, _, _, _, g1⟩ := (hK1.2 4 (cA, .object (RN 3)) rfl).2
        obtain ⟨_, _, _, _, _, g2⟩ := (hc.2.2.2.2.2.1.2 2 (pC P 11, .object (RN 3)) rfl).2
        exact Option.some.inj (g1.symm.trans g2)
      subst hcA
      refine kk x H1 ?_ ?_ hS1
      · rw [show ((11 : Int).toNat) = 11 from rfl, ce_11]; simp only [zR, if_true]; exact hP1
      · rw [show ((11 : Int).toNat) = 11 from rfl, ce_11]; simp only [zR, if_true]; exact hD1
    · refine va_newq (C := RN 4) (N' := z.toNat) hc.1 hc.2.1 hc.2.2.2.1 (hc.2.2.2.2.1 _ hcl) hc.2.2.2.2.2.2.1.2.2 hc.2.2.2.2.2.1 hP wH_D hS (fun x hx => Nat.le_trans hc.2.2.2.2.2.2.2.2.2.1 hx) (nn_I hz.1 hz.2) (clI hz.1 (by omega)) (by omega) h6 h7 hd (fun x cA H1 hK1 hP1 hD1 hS1 => ?_)
      have hcA : cA = pC P 12 := by
        obtain ⟨_, _, _, _, _, g1⟩ := (hK1.2 4 (cA, .object (RN 4)) rfl).2
        obtain ⟨_, _, _, _, _, g2⟩ := (hc.2.2.2.2.2.1.2 3 (pC P 12, .object (RN 4)) rfl).2
        exact Option.some.inj (g1.symm.trans g2)
      subst hcA
      refine kk x H1 ?_ ?_ hS1
      · rw [show ((12 : Int).toNat) = 12 from rfl, ce_12]; simp only [zR, if_true]; exact hP1
      · rw [show ((12 : Int).toNat) = 12 from rfl, ce_12]; simp only [zR, if_true]; exact hD1
  · exact h.elim
theorem sn_56 (hg : gOk P q d K G) (he : eChk q (pc, 56, a, b, nx, xs) = true) (h : stp q (pL P) (pX P) G C K 56 a b nx xs ls st I R S) : Go P q d K pc ls st I R S := by
  obtain ⟨hd, hn, hx⟩ := chk he
  have hn : nx = pc + 3 := hn
  subst hn
  simp only [stp] at h
  simp only [eX, Bool.and_eq_true] at hx
  have h9 := bltE hx.1.2
  have hcl := clk_in hx.2
  refine go_new (kn := (b.toNat, NF b.toNat)) (st' := st) (pc' := pc + 3) (fun p e s m args below meth c Rm Q H locs cells slots la hc hP hS h6 h7 kk => ?_) (hg _ _ _ _ _ _ h)
  refine va_new (ci := b.toNat) (C := RN b.toNat) (T := TF b.toNat) (N := NF b.toNat) (fs := (List.range (NF b.toNat)).map (fv (pB P) (zI I S.length) (zR R S.length) S.length b.toNat)) hc.1 hc.2.1 hc.2.2.2.2.1 (in_gw h9) (tF b.toNat) (ty_ok b.toNat h9) hc.2.2.2.1 (hc.2.2.2.2.1 _ hcl) (hc.2.2.2.2.1 _ (gw_at (in_pl b.toNat h9) rfl)) (hc.2.2.2.2.1 _ (gw_at (iz_pl b.toNat (by omega)) rfl)) hc.2.2.2.2.2.1 hP wH_D hS (fun x hx => Nat.le_trans hc.2.2.2.2.2.2.2.2.2.1 hx) (cl_at h9) (fun j hj => ?_) h6 h7 hd (fun x H1 hP1 hD1 hS1 => ?_)
  · rw [vp_V, List.getD_eq_getElem?_getD, fs_at hj, Option.getD_some]
    cases hrf : isRf b.toNat j with
    | true =>
      rw [fv, if_pos hrf]
      rcases isRf_ok b.toNat h9 j hj hrf with ⟨n, e⟩ | ⟨t, e⟩ <;> rw [e] <;> simp [zR, va_rf, defaultValue]
    | false =>
      rw [fv_int hrf]
      have hz : zI I S.length S.length (j : Int) = 0 := by simp [zI]
      rw [hz]
      unfold isRf at hrf
      split at hrf
      · rename_i e; rw [e]; rfl
      · rename_i e; rw [e]; rfl
      · cases hrf
  · refine kk x H1 ?_ ?_ hS1
    · rw [ce_obj h9]; exact hP1
    · rw [ce_obj h9]; exact hD1
theorem sn_57 (hg : gOk P q d K G) (he : eChk q (pc, 57, a, b, nx, xs) = true) (h : stp q (pL P) (pX P) G C K 57 a b nx xs ls st I R S) : Go P q d K pc ls st I R S := by
  obtain ⟨hd, hn, hx⟩ := chk he
  have hn : nx = pc + 1 := hn
  subst hn
  simp only [stp] at h
  split at h
  · rename_i v st1
    split at h
    · rename_i hv
      refine go_pure (ls' := ls) (st' := v :: v :: st1) (pc' := pc + 1) (fun p e s m args below meth c Rm Q H locs cells slots la hc hP hS h4 h5 hl kk => ?_) (hg _ _ _ _ _ _ h)
      exact lv_dup hc.1 hc.2.1 hd (cat1 hv) (kk la hl)
    · exact h.elim
  · exact h.elim
theorem sn_58 (hg : gOk P q d K G) (he : eChk q (pc, 58, a, b, nx, xs) = true) (h : stp q (pL P) (pX P) G C K 58 a b nx xs ls st I R S) : Go P q d K pc ls st I R S := by
  obtain ⟨hd, hn, hx⟩ := chk he
  have hn : nx = pc + 1 := hn
  subst hn
  simp only [stp] at h
  split at h
  · rename_i v w st1
    split at h
    · rename_i hv
      simp only [Bool.and_eq_true] at hv
      refine go_pure (ls' := ls) (st' := v :: w :: v :: w :: st1) (pc' := pc + 1) (fun p e s m args below meth c Rm Q H locs cells slots la hc hP hS h4 h5 hl kk => ?_) (hg _ _ _ _ _ _ h)
      exact lv_dup2_11 hc.1 hc.2.1 hd (cat1 hv.1) (cat1 hv.2) (kk la hl)
    · exact h.elim
  · exact h.elim
theorem sn_59 (hg : gOk P q d K G) (he : eChk q (pc, 59, a, b, nx, xs) = true) (h : stp q (pL P) (pX P) G C K 59 a b nx xs ls st I R S) : Go P q d K pc ls st I R S := by
  obtain ⟨hd, hn, hx⟩ := chk he
  have hn : nx = pc + 1 := hn
  subst hn
  simp only [stp] at h
  split at h
  · rename_i v st1
    split at h
    · rename_i hv
      refine go_pure (ls' := ls) (st' := st1) (pc' := pc + 1) (fun p e s m args below meth c Rm Q H locs cells slots la hc hP hS h4 h5 hl kk => ?_) (hg _ _ _ _ _ _ h)
      exact lv_pop hc.1 hc.2.1 hd (cat1 hv) (kk la hl)
    · exact h.elim
  · exact h.elim
end Sn2
