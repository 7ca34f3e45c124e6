/-! calls and ends, and the walk -/
section Sn3
variable {P : aP} {q d pc a nx : Nat} {b : Int} {xs : List (Int × Nat)} {K : aK} {G : aG} {C : aC} {ls st : List aV} {I : aI} {R : aR} {S : aS}
abbrev cOk (P : aP) (d : Nat) (C : aC) : Prop := ∀ q' as I R S k, C q' as I R S k → Ok P q' d as I R S k
theorem sn_60 (hg : gOk P q (d + 1) K G) (hC : cOk P d C) (he : eChk q (pc, 60, a, b, nx, xs) = true) (h : stp q (pL P) (pX P) G C K 60 a b nx xs ls st I R S) : Go P q (d + 1) K pc ls st I R S := by
  obtain ⟨hd, hn, hx⟩ := chk he
  have hn : nx = pc + 3 := hn
  subst hn
  simp only [stp] at h
  simp only [eX, Bool.and_eq_true, Bool.not_eq_true', decide_eq_false_iff_not] at hx
  split at h
  · rename_i ci n
    obtain ⟨⟨⟨⟨⟨-, hq⟩, hst⟩, hni⟩, hml⟩, hmm⟩ := hx
    simp only [Bool.and_eq_true] at hmm
    obtain ⟨⟨hnn, hco⟩, h9⟩ := hmm
    have hq : b.toNat < qLaw := bltE hq
    have hst := beqE hst
    have hnn := beqE hnn
    have hco := beqE hco
    have h9 := bltE h9
    split at h
    · rename_i as x st1 hpop
      split at h
      · rename_i hok
        simp only [Bool.and_eq_true] at hok
        obtain ⟨mm, hS1, h⟩ := h
        obtain ⟨d', hdd, r, I1, R1, S1, hk, hM⟩ := hC _ _ _ _ _ _ h
        obtain ⟨e1, e2⟩ := popn_eq _ _ _ _ _ hpop
        have e1 : st = as.reverse ++ (.inr (.inl (some x)) :: st1) := e1
        refine go_call (rest := st1) hM (fun p e s m args below meth c Rm H locs cells slots la hc hP hS h4 h5 hl hsz hf => ?_) (hg _ _ _ _ _ _ hk)
        obtain ⟨o1, o2, o3⟩ := own_lt hq
        have he1 := wH_at (cy := pC P) (bs := pB P) (I := I) (R := R) hS1
        rw [ce_obj h9] at he1
        have hin : (Cond.instanceMethod (mY b.toNat)).before args s = true := by
          have := gw_at (mi_pl b.toNat hq) (by rw [if_neg (by rw [hst]; decide)]; rfl)
          rw [if_neg (by rw [hst]; decide)] at this
          exact hc.2.2.2.2.1 _ this
        have hse : (Cond.selects (RN ci.toNat) (mY b.toNat) (mY b.toNat)).before args s = true := by
          have := gw_at (ms_pl b.toNat hq hst hni) rfl
          rw [o1, ← hco] at this
          exact hc.2.2.2.2.1 _ this
        exact va_runV (As := as.map (cv (pB P) (pS P))) (rest := st1.map (cv (pB P) (pS P))) (C := RN ci.toNat) (b := pB P + x) ⟨hc.1, hc.2.1, hc.2.2.1, hc.2.2.2.1, hc.2.2.2.2.1⟩ hM.2 ⟨cxB hc hq (by omega) (by omega) (mlk_in hml), hin, hse⟩ ⟨blind_Rp, va_recv hc.2.2.2.2.2.1 hP (cl_at h9) he1, fun U hU hW => ⟨rfl, Rp_at hc hP hS hsz hU hW⟩⟩ rfl (by simp [e2, hnn]) (by rw [hl]) (by rw [e1]; simp [cv]) (lv_room (okst_sum _ _ hok.2)) hd hf
      · exact h.elim
    · exact h.elim
  · exact h.elim
theorem sn_61 (hg : gOk P q (d + 1) K G) (hC : cOk P d C) (he : eChk q (pc, 61, a, b, nx, xs) = true) (h : stp q (pL P) (pX P) G C K 61 a b nx xs ls st I R S) : Go P q (d + 1) K pc ls st I R S := by
  obtain ⟨hd, hn, hx⟩ := chk he
  have hn : nx = pc + 3 := hn
  subst hn
  simp only [stp] at h
  simp only [eX, Bool.and_eq_true, decide_eq_true_eq] at hx
  split at h
  · rename_i ci n
    obtain ⟨⟨⟨⟨⟨⟨-, hq⟩, hst⟩, hni⟩, hret⟩, hml⟩, hnn⟩ := hx
    have hq : b.toNat < qLaw := bltE hq
    have hst := beqE hst
    have hnn := beqE hnn
    split at h
    · rename_i as x st1 hpop
      split at h
      · rename_i hok
        simp only [Bool.and_eq_true] at hok
        obtain ⟨d', hdd, r, I1, R1, S1, hk, hM⟩ := hC _ _ _ _ _ _ h
        obtain ⟨e1, e2⟩ := popn_eq _ _ _ _ _ hpop
        have e1 : st = as.reverse ++ (.inr (.inl (some x)) :: st1) := e1
        refine go_call (rest := st1) hM (fun p e s m args below meth c Rm H locs cells slots la hc hP hS h4 h5 hl hsz hf => ?_) (hg _ _ _ _ _ _ hk)
        have hin : (Cond.instanceMethod (mY b.toNat)).before args s = true := by
          have := gw_at (mi_pl b.toNat hq) (by rw [if_neg (by rw [hst]; decide)]; rfl)
          rw [if_neg (by rw [hst]; decide)] at this
          exact hc.2.2.2.2.1 _ this
        have hcb := cxB (S := S) (S1 := S1) (d' := d') (Rm := Rm) hc hq (by omega) (by omega) (mlk_in hml)
        rw [hret] at hcb
        exact va_runI (As := as.map (cv (pB P) (pS P))) (rest := st1.map (cv (pB P) (pS P))) (b := pB P + x) ⟨hc.1, hc.2.1, hc.2.2.1, hc.2.2.2.1, hc.2.2.2.2.1⟩ hM.2 ⟨hcb, hni, hin⟩ ⟨blind_Rp, fun U hU hW => ⟨rfl, Rp_at hc hP hS hsz hU hW⟩⟩ rfl (by simp [e2, hnn]) (by rw [hl]) (by rw [e1]; simp [cv]) (lv_room (okst_sum _ _ hok.2)) hd hf
      · exact h.elim
    · exact h.elim
  · exact h.elim
theorem sn_62 (hg : gOk P q (d + 1) K G) (hC : cOk P d C) (he : eChk q (pc, 62, a, b, nx, xs) = true) (h : stp q (pL P) (pX P) G C K 62 a b nx xs ls st I R S) : Go P q (d + 1) K pc ls st I R S := by
  obtain ⟨hd, hn, hx⟩ := chk he
  have hn : nx = pc + 3 := hn
  subst hn
  simp only [stp] at h
  simp only [eX, Bool.and_eq_true, decide_eq_true_eq] at hx
  split at h
  · rename_i ci n
    obtain ⟨⟨⟨⟨⟨⟨-, hq⟩, hst⟩, hni⟩, hret⟩, hml⟩, hnn⟩ := hx
    have hq : b.toNat < qLaw := bltE hq
    have hst := beqE hst
    have hnn := beqE hnn
    split at h
    · rename_i as x st1 hpop
      split at h
      · rename_i hok
        simp only [Bool.and_eq_true] at hok
        obtain ⟨d', hdd, r, I1, R1, S1, hk, hM⟩ := hC _ _ _ _ _ _ h
        obtain ⟨e1, e2⟩ := popn_eq _ _ _ _ _ hpop
        have e1 : st = as.reverse ++ (.inr (.inl (some x)) :: st1) := e1
        refine go_call (rest := st1) hM (fun p e s m args below meth c Rm H locs cells slots la hc hP hS h4 h5 hl hsz hf => ?_) (hg _ _ _ _ _ _ hk)
        have hin : (Cond.instanceMethod (mY b.toNat)).before args s = true := by
          have := gw_at (mi_pl b.toNat hq) (by rw [if_neg (by rw [hst]; decide)]; rfl)
          rw [if_neg (by rw [hst]; decide)] at this
          exact hc.2.2.2.2.1 _ this
        have hcb := cxN (S := S) (S1 := S1) (d' := d') (Rm := Rm) hc hq (by omega) (by omega) (nlk_in hc.2.2.2.2.2.2.1 hml)
        rw [hret] at hcb
        exact va_runIN (As := as.map (cv (pB P) (pS P))) (rest := st1.map (cv (pB P) (pS P))) (b := pB P + x) ⟨hc.1, hc.2.1, hc.2.2.1, hc.2.2.2.1, hc.2.2.2.2.1⟩ hM.2 ⟨hcb, hni, hin⟩ ⟨blind_Rp, fun U hU hW => ⟨rfl, Rp_at hc hP hS hsz hU hW⟩⟩ rfl (by simp [e2, hnn]) (by rw [hl]) (by rw [e1]; simp [cv]) (lv_room (okst_sum _ _ hok.2)) hd hf
      · exact h.elim
    · exact h.elim
  · exact h.elim
theorem sn_63 (hg : gOk P q (d + 1) K G) (hC : cOk P d C) (he : eChk q (pc, 63, a, b, nx, xs) = true) (h : stp q (pL P) (pX P) G C K 63 a b nx xs ls st I R S) : Go P q (d + 1) K pc ls st I R S := by
  obtain ⟨hd, hn, hx⟩ := chk he
  have hn : nx = pc + 3 := hn
  subst hn
  simp only [stp] at h
  simp only [eX, Bool.and_eq_true] at hx
  split at h
  · rename_i ci n
    obtain ⟨⟨⟨⟨-, hq⟩, hst⟩, hml⟩, hnn⟩ := hx
    have hq : b.toNat < qLaw := bltE hq
    have hst := beqE hst
    have hnn := beqE hnn
    split at h
    · rename_i as st1 hpop
      split at h
      · rename_i hok
        simp only [Bool.and_eq_true] at hok
        obtain ⟨d', hdd, r, I1, R1, S1, hk, hM⟩ := hC _ _ _ _ _ _ h
        obtain ⟨e1, e2⟩ := popn_eq _ _ _ _ _ hpop
        have e1 : st = as.reverse ++ st1 := e1
        refine go_call (rest := st1) hM (fun p e s m args below meth c Rm H locs cells slots la hc hP hS h4 h5 hl hsz hf => ?_) (hg _ _ _ _ _ _ hk)
        have hin : (Cond.static (mY b.toNat)).before args s = true := by
          have := gw_at (mi_pl b.toNat hq) (by rw [if_pos hst]; rfl)
          rw [if_pos hst] at this
          exact hc.2.2.2.2.1 _ this
        exact va_runS (As := as.map (cv (pB P) (pS P))) (rest := st1.map (cv (pB P) (pS P))) ⟨hc.1, hc.2.1, hc.2.2.1, hc.2.2.2.1, hc.2.2.2.2.1⟩ hM.2 ⟨cxB hc hq (by omega) (by omega) (mlk_in hml), hin⟩ ⟨blind_Rp, fun U hU hW => ⟨rfl, Rp_at hc hP hS hsz hU hW⟩⟩ rfl (by simp [e2, hnn]) (by rw [hl]) (by rw [e1]; simp [cv]) (lv_room (okst_sum _ _ hok.2)) hd hf
      · exact h.elim
    · exact h.elim
  · exact h.elim
theorem sn_64 (hg : gOk P q (d + 1) K G) (he : eChk q (pc, 64, a, b, nx, xs) = true) (h : stp q (pL P) (pX P) G C K 64 a b nx xs ls st I R S) : Go P q (d + 1) K pc ls st I R S := by
  obtain ⟨hd, hn, hx⟩ := chk he
  have hn : nx = pc + 3 := hn
  subst hn
  simp only [stp] at h
  simp only [eX, Bool.and_eq_true] at hx
  split at h
  · rename_i x st1
    split at h
    · rename_i hok
      refine go_pure (ls' := ls) (st' := st1) (pc' := pc + 3) (fun p e s m args below meth c Rm Q H locs cells slots la hc hP hS h4 h5 hl kk => ?_) (hg _ _ _ _ _ _ h)
      have hsum := okst_sum (bs := pB P) (b := pS P) _ _ hok
      exact W.objInit hc.1 hc.2.1 hc.2.2.2.1 (hc.2.2.2.2.1 _ (oil_in hx.2)) (hc.2.2.2.2.1 _ (gw_at obj_pl.1 rfl)) (hc.2.2.2.2.1 _ (gw_at obj_pl.2 rfl)) rfl (hl.1.trans hc.2.2.1.symm) rfl hd (by omega) (by show 2 * 0 + _ + 12 ≤ _; omega) (kk la hl)
    · exact h.elim
  · exact h.elim
theorem sn_65 (hg : gOk P q (d + 1) K G) (he : eChk q (pc, 65, a, b, nx, xs) = true) (h : stp q (pL P) (pX P) G C K 65 a b nx xs ls st I R S) : Go P q (d + 1) K pc ls st I R S := by
  obtain ⟨hd, hn, hx⟩ := chk he
  have hn : nx = pc + 3 := hn
  subst hn
  simp only [stp] at h
  simp only [eX, Bool.and_eq_true] at hx
  split at h
  · rename_i n dp t sp x st1
    split at h
    · rename_i hok
      obtain ⟨n0, n1, hS0, hS1, hj, h⟩ := h
      refine go_heap (I1 := cI I x sp t dp n) (R1 := R) (st' := st1) (pc' := pc + 3) (fun p e s m args below meth c Rm Q H locs cells slots la hc hP hS h4 h5 hl kk => ?_) (hg _ _ _ _ _ _ h)
      have hsum := okst_sum (bs := pB P) (b := pS P) _ _ hok
      have he0 := wH_at (cy := pC P) (bs := pB P) (I := I) (R := R) hS0
      have he1 := wH_at (cy := pC P) (bs := pB P) (I := I) (R := R) hS1
      rw [ce_9] at he0 he1
      have hnf : nativeFrameWords "java/lang/System" "arraycopy" 5 + 11 = 18 := by decide +kernel
      refine va_copyi hc.1 hc.2.1 (hc.2.2.1.trans hl.symm) hc.2.2.2.1 (hc.2.2.2.2.1 _ (acl_in hx.2)) (hc.2.2.2.2.1 _ (gw_at acp_pl.1 rfl)) (hc.2.2.2.2.1 _ (gw_at acp_pl.2.1 rfl)) (hc.2.2.2.2.1 _ (gw_at acp_pl.2.2 rfl)) hc.2.2.2.2.2.1 hP wH_D hS x t 0 0 he0 he1 rfl rfl rfl (nn_I hj.1 (by omega)) (nn_I hj.2.1 (by omega)) (nn_I hj.2.2.1 (by omega)) (by rw [clI hj.1 (by omega), clI hj.2.2.1 (by omega)]; omega) (by rw [clI hj.2.1 (by omega), clI hj.2.2.1 (by omega)]; omega) (fun _ _ => rfl) (by omega) (by rw [hnf]; omega) hd (fun H1 locs1 hP1 _ hS2 => kk H1 locs1 ?_ hS2)
      rw [clI hj.1 (by omega), clI hj.2.1 (by omega), clI hj.2.2.1 (by omega), cpy_I hj.1 hj.2.1 hj.2.2.1, wH_set (I' := cI I x sp t dp n) (R' := R) hS1 ce_9 (fun y hy kn => ce_cI hy kn)] at hP1
      exact hP1
    · exact h.elim
  · exact h.elim
theorem go_ret {r : Option aV} (ho : rOp q pc r) (hst : st = r.toList) (hK : K r I R S) : Go P q d K pc ls st I R S := by
  refine ⟨r, I, R, S, hK, ⟨Nat.le_refl _, Nat.le_refl _⟩, ?_⟩
  intro p e s m args below meth c Rm Q n0 z0 hc h1 h2 h3 h4 h5 h6 h7 hret H locs la hP hS hl
  rw [hst, show r.toList.map (cv (pB P) (pS P)) = (r.map (cv (pB P) (pS P))).toList from by cases r <;> rfl]
  exact hret pc H locs la ho hP hS
theorem sn_66 (he : eChk q (pc, 66, a, b, nx, xs) = true) (h : stp q (pL P) (pX P) G C K 66 a b nx xs ls st I R S) : Go P q d K pc ls st I R S := by
  obtain ⟨hd, hn, hx⟩ := chk he
  simp only [stp] at h
  split at h
  · rename_i z
    split at h
    · rename_i hr
      exact go_ret (r := some (.inl z)) ⟨hd, Or.inl hr⟩ rfl h
    · rename_i hr
      obtain ⟨h01, h⟩ := h
      exact go_ret (r := some (.inl z)) ⟨hd, Or.inr ⟨hr, h01⟩⟩ rfl h
    · exact h.elim
  · exact h.elim
theorem sn_67 (he : eChk q (pc, 67, a, b, nx, xs) = true) (h : stp q (pL P) (pX P) G C K 67 a b nx xs ls st I R S) : Go P q d K pc ls st I R S := by
  obtain ⟨hd, hn, hx⟩ := chk he
  simp only [stp] at h
  split at h
  · rename_i x
    split at h
    · rename_i n hr
      exact go_ret (r := some (vr x)) ⟨hd, _, hr, Or.inl ⟨_, rfl⟩⟩ rfl h
    · rename_i n hr
      exact go_ret (r := some (vr x)) ⟨hd, _, hr, Or.inr ⟨_, rfl⟩⟩ rfl h
    · exact h.elim
  · exact h.elim
theorem sn_68 (he : eChk q (pc, 68, a, b, nx, xs) = true) (h : stp q (pL P) (pX P) G C K 68 a b nx xs ls st I R S) : Go P q d K pc ls st I R S := by
  obtain ⟨hd, hn, hx⟩ := chk he
  simp only [stp] at h
  split at h
  · split at h
    · rename_i hr
      exact go_ret (r := none) ⟨hd, hr⟩ rfl h
    · exact h.elim
  · exact h.elim
theorem stp_snd {o : Nat} (hg : gOk P q (d + 1) K G) (hC : cOk P d C) (he : eChk q (pc, o, a, b, nx, xs) = true) (h : stp q (pL P) (pX P) G C K o a b nx xs ls st I R S) : Go P q (d + 1) K pc ls st I R S := by
  match o, he, h with
  | 0, _, h => exact h.elim
  | 1, he, h => exact sn_1 hg he h
  | 2, he, h => exact sn_2 hg he h
  | 3, he, h => exact sn_3 hg he h
  | 4, he, h => exact sn_4 hg he h
  | 5, he, h => exact sn_5 hg he h
  | 6, he, h => exact sn_6 hg he h
  | 7, he, h => exact sn_7 hg he h
  | 8, he, h => exact sn_8 hg he h
  | 9, he, h => exact sn_9 hg he h
  | 10, he, h => exact sn_10 hg he h
  | 11, he, h => exact sn_11 hg he h
  | 12, he, h => exact sn_12 hg he h
  | 13, he, h => exact sn_13 hg he h
  | 14, he, h => exact sn_14 hg he h
  | 15, he, h => exact sn_15 hg he h
  | 16, he, h => exact sn_16 hg he h
  | 17, he, h => exact sn_17 hg he h
  | 18, he, h => exact sn_18 hg he h
  | 19, he, h => exact sn_19 hg he h
  | 20, he, h => exact sn_20 hg he h
  | 21, he, h => exact sn_21 hg he h
  | 22, he, h => exact sn_22 hg he h
  | 23, he, h => exact sn_23 hg he h
  | 24, he, h => exact sn_24 hg he h
  | 25, he, h => exact sn_25 hg he h
  | 26, he, h => exact sn_26 hg he h
  | 27, he, h => exact sn_27 hg he h
  | 28, he, h => exact sn_28 hg he h
  | 29, he, h => exact sn_29 hg he h
  | 30, he, h => exact sn_30 hg he h
  | 31, he, h => exact sn_31 hg he h
  | 32, he, h => exact sn_32 hg he h
  | 33, he, h => exact sn_33 hg he h
  | 34, he, h => exact sn_34 hg he h
  | 35, he, h => exact sn_35 hg he h
  | 36, he, h => exact sn_36 hg he h
  | 37, he, h => exact sn_37 hg he h
  | 38, he, h => exact sn_38 hg he h
  | 39, he, h => exact sn_39 hg he h
  | 40, he, h => exact sn_40 hg he h
  | 41, he, h => exact sn_41 hg he h
  | 42, he, h => exact sn_42 hg he h
  | 43, he, h => exact sn_43 hg he h
  | 44, he, h => exact sn_44 hg he h
  | 45, he, h => exact sn_45 hg he h
  | 46, he, h => exact sn_46 hg he h
  | 47, he, h => exact sn_47 hg he h
  | 48, he, h => exact sn_48 hg he h
  | 49, he, h => exact sn_49 hg he h
  | 50, he, h => exact sn_50 hg he h
  | 51, he, h => exact sn_51 hg he h
  | 52, he, h => exact sn_52 hg he h
  | 53, he, h => exact sn_53 hg he h
  | 54, he, h => exact sn_54 hg he h
  | 55, he, h => exact sn_55 hg he h
  | 56, he, h => exact sn_56 hg he h
  | 57, he, h => exact sn_57 hg he h
  | 58, he, h => exact sn_58 hg he h
  | 59, he, h => exact sn_59 hg he h
  | 60, he, h => exact sn_60 hg hC he h
  | 61, he, h => exact sn_61 hg hC he h
  | 62, he, h => exact sn_62 hg hC he h
  | 63, he, h => exact sn_63 hg hC he h
  | 64, he, h => exact sn_64 hg he h
  | 65, he, h => exact sn_65 hg he h
  | 66, he, h => exact sn_66 he h
  | 67, he, h => exact sn_67 he h
  | 68, he, h => exact sn_68 he h
  | _ + 69, _, h => exact h.elim
theorem lk_mem : ∀ (E : List aE) (pc : Nat) (e : aE), lk E pc = some e → e ∈ E ∧ e.1 = pc
  | [], _, _, h => by cases h
  | x :: l, pc, e, h => by
    unfold lk at h
    split at h
    · rename_i hb
      cases h
      exact ⟨List.mem_cons_self, beqE hb⟩
    · obtain ⟨h1, h2⟩ := lk_mem l pc e h
      exact ⟨List.mem_cons_of_mem _ h1, h2⟩
theorem wpn_snd {E : List aE} {stops : List Nat} (hE : ∀ e ∈ E, eChk q e = true) (hg : gOk P q (d + 1) K G) (hC : cOk P d C) : ∀ (n : Nat) (pc : Nat) (ls st : List aV) (I : aI) (R : aR) (S : aS), wpn q (pL P) (pX P) E stops G C K n pc ls st I R S → Go P q (d + 1) K pc ls st I R S
  | 0, pc, ls, st, I, R, S, h => hg _ _ _ _ _ _ h
  | n + 1, pc, ls, st, I, R, S, h => by
    unfold wpn at h
    split at h
    · rename_i pc0 o a b nx xs hl
      obtain ⟨h1, h2⟩ := lk_mem _ _ _ hl
      have h2 : pc0 = pc := h2
      subst h2
      refine stp_snd (G := fun pc ls st I R S => match mem pc stops with
        | true => G pc ls st I R S
        | false => wpn q (pL P) (pX P) E stops G C K n pc ls st I R S) ?_ hC (hE _ h1) h
      intro pc ls st I R S h
      try dsimp only at h
      split at h
      · exact hg _ _ _ _ _ _ h
      · exact wpn_snd hE hg hC n pc ls st I R S h
    · exact h.elim
/-- THE WALK: what is left of it is said of any G and C that follow from the machine's own -/
theorem Go.walk (n : Nat) (stops : List Nat) (E : List aE) (hE : ∀ e ∈ E, eChk q e = true)
    (h : ∀ (G : aG) (C : aC), (∀ pc ls st I R S, Go P q (d + 1) K pc ls st I R S → G pc ls st I R S) → (∀ q' as I R S k, Ok P q' d as I R S k → C q' as I R S k) → wpn q (pL P) (pX P) E stops G C K n pc ls st I R S) : Go P q (d + 1) K pc ls st I R S :=
  wpn_snd hE (fun _ _ _ _ _ _ h => h) (fun _ _ _ _ _ _ h => h) n pc ls st I R S (h _ _ (fun _ _ _ _ _ _ h => h) (fun _ _ _ _ _ _ h => h))
end Sn3
