/-! each instruction of the small machine is sound; printed by wip/whole/gensound.py -/
section Sn
variable {P : aP} {q d pc a nx : Nat} {b : Int} {xs : List (Int × Nat)} {K : aK} {G : aG} {C : aC} {ls st : List aV} {I : aI} {R : aR} {S : aS}
theorem chk {o : Nat} (h : eChk q (pc, o, a, b, nx, xs) = true) : decode (mB q) pc = .ok (eI pc o a b nx xs) ∧ nx = pc + (eI pc o a b nx xs).2 ∧ eX q pc o a b nx xs = true := by
  simp only [eChk, Bool.and_eq_true, decide_eq_true_eq] at h
  exact ⟨h.1.1, Nat.eq_of_beq_eq_true h.1.2, h.2⟩
abbrev gOk (P : aP) (q d : Nat) (K : aK) (G : aG) : Prop := ∀ pc ls st I R S, G pc ls st I R S → Go P q d K pc ls st I R S
theorem beqE {x y : Nat} (h : Nat.beq x y = true) : x = y := Nat.eq_of_beq_eq_true h
theorem fin4 {a : Nat} (h : Nat.blt a 4 = true) : ((Fin.ofNat 4 a : Fin 4) : Nat) = a := by
  have : a < 4 := by simpa [Nat.blt_eq] using h
  simp [Fin.ofNat, Nat.mod_eq_of_lt this]
theorem bltE {x y : Nat} (h : Nat.blt x y = true) : x < y := by simpa [Nat.blt_eq] using h

theorem sn_1 (hg : gOk P q d K G) (he : eChk q (pc, 1, a, b, nx, xs) = true) (h : stp q (pL P) (pX P) G C K 1 a b nx xs ls st I R S) : Go P q d K pc ls st I R S := by
  obtain ⟨hd, hn, hx⟩ := chk he
  simp only [stp] at h
  split at h
  · rename_i z hz
    refine go_pure (ls' := ls) (st' := .inl z :: st) (pc' := nx) (fun p e s m args below meth c Rm Q H locs cells slots la hc hP hS h4 h5 hl kk => ?_) (hg _ _ _ _ _ _ h)
    have hr := lvx_read (a := a) hl (by rw [hz]; rfl)
    rw [hz] at hr
    simp only [eX, Bool.or_eq_true, Bool.and_eq_true] at hx
    rcases hx with hx | ⟨hx, h3⟩
    · have e2 := beqE hx
      have e1 : Nat.beq nx (pc + 1) = false := by rw [e2]; cases hb : Nat.beq (pc + 2) (pc + 1) with
        | false => rfl
        | true => have := beqE hb; omega
      have hd2 : decode (mB q) pc = .ok (.iload a, 2) := by rw [hd]; simp only [eI, e1]
      subst e2
      exact lv_iload hc.1 hc.2.1 hd2 hr (kk la hl)
    · have hd2 : decode (mB q) pc = .ok (.iload_n (Fin.ofNat 4 a), 1) := by rw [hd]; simp only [eI, hx]
      have e2 := beqE hx
      subst e2
      exact lv_iload_n hc.1 hc.2.1 hd2 (fin4 h3) hr (kk la hl)
  · exact h.elim
theorem sn_2 (hg : gOk P q d K G) (he : eChk q (pc, 2, a, b, nx, xs) = true) (h : stp q (pL P) (pX P) G C K 2 a b nx xs ls st I R S) : Go P q d K pc ls st I R S := by
  obtain ⟨hd, hn, hx⟩ := chk he
  simp only [stp] at h
  have key : ∀ v x, c1 v = true → cv (pB P) (pS P) v = .ref x → nth ls a = v → G nx ls (v :: st) I R S → Go P q d K pc ls st I R S := by
    intro v x hv hvx hz h
    refine go_pure (ls' := ls) (st' := v :: st) (pc' := nx) (fun p e s m args below meth c Rm Q H locs cells slots la hc hP hS h4 h5 hl kk => ?_) (hg _ _ _ _ _ _ h)
    have hr := lvx_read (a := a) hl (by rw [hz]; exact hv)
    rw [hz, hvx] at hr
    have kk : W p (pl P) e Rm s m args below meth c H locs cells slots Q (F0 m nx la (.ref x :: st.map (cv (pB P) (pS P)))) := by rw [← hvx]; exact kk la hl
    simp only [eX, Bool.or_eq_true, Bool.and_eq_true] at hx
    rcases hx with hx | ⟨hx, h3⟩
    · have e2 := beqE hx
      have e1 : Nat.beq nx (pc + 1) = false := by rw [e2]; cases hb : Nat.beq (pc + 2) (pc + 1) with
        | false => rfl
        | true => have := beqE hb; omega
      have hd2 : decode (mB q) pc = .ok (.aload a, 2) := by rw [hd]; simp only [eI, e1]
      subst e2
      exact lv_aload hc.1 hc.2.1 hd2 hr kk
    · have hd2 : decode (mB q) pc = .ok (.aload_n (Fin.ofNat 4 a), 1) := by rw [hd]; simp only [eI, hx]
      have e2 := beqE hx
      subst e2
      exact lv_aload_n hc.1 hc.2.1 hd2 (fin4 h3) hr kk
  split at h
  · rename_i x hz
    exact key _ _ rfl rfl hz h
  · rename_i hz
    exact key _ _ rfl rfl hz h
  · exact h.elim
theorem sn_3 (hg : gOk P q d K G) (he : eChk q (pc, 3, a, b, nx, xs) = true) (h : stp q (pL P) (pX P) G C K 3 a b nx xs ls st I R S) : Go P q d K pc ls st I R S := by
  obtain ⟨hd, hn, hx⟩ := chk he
  simp only [stp] at h
  split at h
  · rename_i z st1
    refine go_pure (ls' := setn ls a (.inl z)) (st' := st1) (pc' := nx) (fun p e s m args below meth c Rm Q H locs cells slots la hc hP hS h4 h5 hl kk => ?_) (hg _ _ _ _ _ _ h)
    simp only [eX, Bool.or_eq_true, Bool.and_eq_true] at hx
    obtain ⟨hx, ha⟩ := hx
    rcases hx with hx | ⟨hx, h3⟩
    · have e2 := beqE hx
      have e1 : Nat.beq nx (pc + 1) = false := by rw [e2]; cases hb : Nat.beq (pc + 2) (pc + 1) with
        | false => rfl
        | true => have := beqE hb; omega
      have hd2 : decode (mB q) pc = .ok (.istore a, 2) := by rw [hd]; simp only [eI, e1]
      subst e2
      exact lv_istore hc.1 hc.2.1 hd2 hl (bltE ha) rfl (fun la' hl' => kk la' (lvx_set (v := .inl z) hl'))
    · have hd2 : decode (mB q) pc = .ok (.istore_n (Fin.ofNat 4 a), 1) := by rw [hd]; simp only [eI, hx]
      have e2 := beqE hx
      subst e2
      exact lv_istore_n hc.1 hc.2.1 hd2 (fin4 h3) hl (bltE ha) rfl (fun la' hl' => kk la' (lvx_set (v := .inl z) hl'))
  · exact h.elim
theorem sn_4 (hg : gOk P q d K G) (he : eChk q (pc, 4, a, b, nx, xs) = true) (h : stp q (pL P) (pX P) G C K 4 a b nx xs ls st I R S) : Go P q d K pc ls st I R S := by
  obtain ⟨hd, hn, hx⟩ := chk he
  simp only [stp] at h
  split at h
  · rename_i x st1
    refine go_pure (ls' := setn ls a (vr x)) (st' := st1) (pc' := nx) (fun p e s m args below meth c Rm Q H locs cells slots la hc hP hS h4 h5 hl kk => ?_) (hg _ _ _ _ _ _ h)
    simp only [eX, Bool.or_eq_true, Bool.and_eq_true] at hx
    obtain ⟨hx, ha⟩ := hx
    rcases hx with hx | ⟨hx, h3⟩
    · have e2 := beqE hx
      have e1 : Nat.beq nx (pc + 1) = false := by rw [e2]; cases hb : Nat.beq (pc + 2) (pc + 1) with
        | false => rfl
        | true => have := beqE hb; omega
      have hd2 : decode (mB q) pc = .ok (.astore a, 2) := by rw [hd]; simp only [eI, e1]
      subst e2
      exact lv_astore hc.1 hc.2.1 hd2 hl (bltE ha) rfl (fun la' hl' => kk la' (lvx_set (v := vr x) hl'))
    · have hd2 : decode (mB q) pc = .ok (.astore_n (Fin.ofNat 4 a), 1) := by rw [hd]; simp only [eI, hx]
      have e2 := beqE hx
      subst e2
      exact lv_astore_n hc.1 hc.2.1 hd2 (fin4 h3) hl (bltE ha) rfl (fun la' hl' => kk la' (lvx_set (v := vr x) hl'))
  · exact h.elim
theorem sn_5 (hg : gOk P q d K G) (he : eChk q (pc, 5, a, b, nx, xs) = true) (h : stp q (pL P) (pX P) G C K 5 a b nx xs ls st I R S) : Go P q d K pc ls st I R S := by
  obtain ⟨hd, hn, hx⟩ := chk he
  have hn : nx = pc + 1 := hn
  subst hn
  refine go_pure (ls' := ls) (st' := .inl b :: st) (fun p e s m args below meth c Rm Q H locs cells slots la hc hP hS h4 h5 hl kk => ?_) (hg _ _ _ _ _ _ h)
  exact lv_iconst hc.1 hc.2.1 hd rfl (kk la hl)
theorem sn_6 (hg : gOk P q d K G) (he : eChk q (pc, 6, a, b, nx, xs) = true) (h : stp q (pL P) (pX P) G C K 6 a b nx xs ls st I R S) : Go P q d K pc ls st I R S := by
  obtain ⟨hd, hn, hx⟩ := chk he
  have hn : nx = pc + 2 := hn
  subst hn
  simp only [eX, Bool.and_eq_true, decide_eq_true_eq] at hx
  refine go_pure (ls' := ls) (st' := .inl b :: st) (fun p e s m args below meth c Rm Q H locs cells slots la hc hP hS h4 h5 hl kk => ?_) (hg _ _ _ _ _ _ h)
  exact lv_bipush hc.1 hc.2.1 hd (Int8.toInt32_ofInt (by have := hx.2.1; rw [Int8.toInt_minValue]; omega) (by have := hx.2.2; rw [Int8.toInt_maxValue]; omega)) (kk la hl)
theorem sn_7 (hg : gOk P q d K G) (he : eChk q (pc, 7, a, b, nx, xs) = true) (h : stp q (pL P) (pX P) G C K 7 a b nx xs ls st I R S) : Go P q d K pc ls st I R S := by
  obtain ⟨hd, hn, hx⟩ := chk he
  have hn : nx = pc + 3 := hn
  subst hn
  simp only [eX, Bool.and_eq_true, decide_eq_true_eq] at hx
  refine go_pure (ls' := ls) (st' := .inl b :: st) (fun p e s m args below meth c Rm Q H locs cells slots la hc hP hS h4 h5 hl kk => ?_) (hg _ _ _ _ _ _ h)
  exact lv_sipush hc.1 hc.2.1 hd (Int16.toInt32_ofInt (by have := hx.2.1; rw [Int16.toInt_minValue]; omega) (by have := hx.2.2; rw [Int16.toInt_maxValue]; omega)) (kk la hl)
theorem cst_in (h : CST.any (fun x => Nat.beq x.1 (mO q) && Nat.beq x.2.1 a && decide (x.2.2.1 = b)) = true) : Cond.constant (RN (mO q)) a (Int32.ofInt b) ∈ gw := by
  obtain ⟨x, hx, h⟩ := List.any_eq_true.mp h
  simp only [Bool.and_eq_true, decide_eq_true_eq] at h
  rw [← beqE h.1.1, ← beqE h.1.2, ← h.2]
  exact gw_at (CST_pl x hx) rfl
theorem csl_in (h : CSL.any (fun x => Nat.beq x.1 (mO q) && Nat.beq x.2.1 a && decide (x.2.2.1 = b)) = true) : Cond.constantLong (RN (mO q)) a (Int64.ofInt b) ∈ gw := by
  obtain ⟨x, hx, h⟩ := List.any_eq_true.mp h
  simp only [Bool.and_eq_true, decide_eq_true_eq] at h
  rw [← beqE h.1.1, ← beqE h.1.2, ← h.2]
  exact gw_at (CSL_pl x hx) rfl
theorem sn_8 (hg : gOk P q d K G) (he : eChk q (pc, 8, a, b, nx, xs) = true) (h : stp q (pL P) (pX P) G C K 8 a b nx xs ls st I R S) : Go P q d K pc ls st I R S := by
  obtain ⟨hd, hn, hx⟩ := chk he
  have hn : nx = pc + 2 := hn
  subst hn
  simp only [eX, Bool.and_eq_true] at hx
  refine go_pure (ls' := ls) (st' := .inl b :: st) (fun p e s m args below meth c Rm Q H locs cells slots la hc hP hS h4 h5 hl kk => ?_) (hg _ _ _ _ _ _ h)
  exact lv_ldc hc.1 hc.2.1 hc.2.2.2.1 (hc.2.2.2.2.1 _ (cst_in hx.2)) hd (kk la hl)
theorem sn_9 (hg : gOk P q d K G) (he : eChk q (pc, 9, a, b, nx, xs) = true) (h : stp q (pL P) (pX P) G C K 9 a b nx xs ls st I R S) : Go P q d K pc ls st I R S := by
  obtain ⟨hd, hn, hx⟩ := chk he
  have hn : nx = pc + 3 := hn
  subst hn
  simp only [eX, Bool.and_eq_true] at hx
  refine go_pure (ls' := ls) (st' := .inl b :: st) (fun p e s m args below meth c Rm Q H locs cells slots la hc hP hS h4 h5 hl kk => ?_) (hg _ _ _ _ _ _ h)
  exact lv_ldcw hc.1 hc.2.1 hc.2.2.2.1 (hc.2.2.2.2.1 _ (cst_in hx.2)) hd (kk la hl)
theorem sn_10 (hg : gOk P q d K G) (he : eChk q (pc, 10, a, b, nx, xs) = true) (h : stp q (pL P) (pX P) G C K 10 a b nx xs ls st I R S) : Go P q d K pc ls st I R S := by
  obtain ⟨hd, hn, hx⟩ := chk he
  have hn : nx = pc + 3 := hn
  subst hn
  simp only [eX, Bool.and_eq_true] at hx
  refine go_pure (ls' := ls) (st' := .inr (.inr (.inl b)) :: st) (fun p e s m args below meth c Rm Q H locs cells slots la hc hP hS h4 h5 hl kk => ?_) (hg _ _ _ _ _ _ h)
  exact lv_ldc2 hc.1 hc.2.1 hc.2.2.2.1 (hc.2.2.2.2.1 _ (csl_in hx.2)) hd (kk la hl)
theorem sn_11 (hg : gOk P q d K G) (he : eChk q (pc, 11, a, b, nx, xs) = true) (h : stp q (pL P) (pX P) G C K 11 a b nx xs ls st I R S) : Go P q d K pc ls st I R S := by
  obtain ⟨hd, hn, hx⟩ := chk he
  have hn : nx = pc + 1 := hn
  subst hn
  simp only [stp] at h
  split at h
  · rename_i y x st1
    refine go_pure (ls' := ls) (st' := .inl (x + y) :: st1) (fun p e s m args below meth c Rm Q H locs cells slots la hc hP hS h4 h5 hl kk => ?_) (hg _ _ _ _ _ _ h)
    refine lv_iadd hc.1 hc.2.1 hd ?_
    have k9 := kk la hl
    rw [List.map_cons] at k9
    simp only [cv, Int32.ofInt_add] at k9
    exact k9
  · exact h.elim
theorem sn_12 (hg : gOk P q d K G) (he : eChk q (pc, 12, a, b, nx, xs) = true) (h : stp q (pL P) (pX P) G C K 12 a b nx xs ls st I R S) : Go P q d K pc ls st I R S := by
  obtain ⟨hd, hn, hx⟩ := chk he
  have hn : nx = pc + 1 := hn
  subst hn
  simp only [stp] at h
  split at h
  · rename_i y x st1
    refine go_pure (ls' := ls) (st' := .inl (x - y) :: st1) (fun p e s m args below meth c Rm Q H locs cells slots la hc hP hS h4 h5 hl kk => ?_) (hg _ _ _ _ _ _ h)
    refine lv_isub hc.1 hc.2.1 hd ?_
    have k9 := kk la hl
    rw [List.map_cons] at k9
    simp only [cv, Int32.ofInt_sub] at k9
    exact k9
  · exact h.elim
theorem sn_13 (hg : gOk P q d K G) (he : eChk q (pc, 13, a, b, nx, xs) = true) (h : stp q (pL P) (pX P) G C K 13 a b nx xs ls st I R S) : Go P q d K pc ls st I R S := by
  obtain ⟨hd, hn, hx⟩ := chk he
  have hn : nx = pc + 1 := hn
  subst hn
  simp only [stp] at h
  split at h
  · rename_i y x st1
    refine go_pure (ls' := ls) (st' := .inl (x * y) :: st1) (fun p e s m args below meth c Rm Q H locs cells slots la hc hP hS h4 h5 hl kk => ?_) (hg _ _ _ _ _ _ h)
    refine lv_imul hc.1 hc.2.1 hd ?_
    have k9 := kk la hl
    rw [List.map_cons] at k9
    simp only [cv, Int32.ofInt_mul] at k9
    exact k9
  · exact h.elim
theorem sn_14 (hg : gOk P q d K G) (he : eChk q (pc, 14, a, b, nx, xs) = true) (h : stp q (pL P) (pX P) G C K 14 a b nx xs ls st I R S) : Go P q d K pc ls st I R S := by
  obtain ⟨hd, hn, hx⟩ := chk he
  have hn : nx = pc + 1 := hn
  subst hn
  simp only [stp] at h
  split at h
  · rename_i y x st1
    obtain ⟨hg1, h⟩ := h
    refine go_pure (ls' := ls) (st' := .inl (x / y) :: st1) (fun p e s m args below meth c Rm Q H locs cells slots la hc hP hS h4 h5 hl kk => ?_) (hg _ _ _ _ _ _ h)
    refine lv_idiv hc.1 hc.2.1 hd (fun h0 => by rw [zeroI, eqI ⟨by omega, by omega⟩ iR0] at h0; omega) ?_
    have k9 := kk la hl
    rw [List.map_cons] at k9
    simp only [cv, ← divI hg1.1 hg1.2.1 hg1.2.2.1 hg1.2.2.2] at k9
    exact k9
  · exact h.elim
theorem sn_15 (hg : gOk P q d K G) (he : eChk q (pc, 15, a, b, nx, xs) = true) (h : stp q (pL P) (pX P) G C K 15 a b nx xs ls st I R S) : Go P q d K pc ls st I R S := by
  obtain ⟨hd, hn, hx⟩ := chk he
  have hn : nx = pc + 1 := hn
  subst hn
  simp only [stp] at h
  split at h
  · rename_i y x st1
    obtain ⟨hg1, h⟩ := h
    refine go_pure (ls' := ls) (st' := .inl (x % y) :: st1) (fun p e s m args below meth c Rm Q H locs cells slots la hc hP hS h4 h5 hl kk => ?_) (hg _ _ _ _ _ _ h)
    refine lv_irem hc.1 hc.2.1 hd (fun h0 => by rw [zeroI, eqI ⟨by omega, by omega⟩ iR0] at h0; omega) ?_
    have k9 := kk la hl
    rw [List.map_cons] at k9
    simp only [cv, ← remI hg1.1 hg1.2.1 hg1.2.2.1 hg1.2.2.2] at k9
    exact k9
  · exact h.elim
theorem sn_16 (hg : gOk P q d K G) (he : eChk q (pc, 16, a, b, nx, xs) = true) (h : stp q (pL P) (pX P) G C K 16 a b nx xs ls st I R S) : Go P q d K pc ls st I R S := by
  obtain ⟨hd, hn, hx⟩ := chk he
  have hn : nx = pc + 1 := hn
  subst hn
  simp only [stp] at h
  split at h
  · rename_i y x st1
    refine go_pure (ls' := ls) (st' := .inl (bAnd x y) :: st1) (fun p e s m args below meth c Rm Q H locs cells slots la hc hP hS h4 h5 hl kk => ?_) (hg _ _ _ _ _ _ h)
    refine lv_iand hc.1 hc.2.1 hd ?_
    have k9 := kk la hl
    rw [List.map_cons] at k9
    simp only [cv, bAnd, Int32.ofInt_toInt] at k9
    exact k9
  · exact h.elim
theorem sn_17 (hg : gOk P q d K G) (he : eChk q (pc, 17, a, b, nx, xs) = true) (h : stp q (pL P) (pX P) G C K 17 a b nx xs ls st I R S) : Go P q d K pc ls st I R S := by
  obtain ⟨hd, hn, hx⟩ := chk he
  have hn : nx = pc + 1 := hn
  subst hn
  simp only [stp] at h
  split at h
  · rename_i y x st1
    refine go_pure (ls' := ls) (st' := .inl (bOr x y) :: st1) (fun p e s m args below meth c Rm Q H locs cells slots la hc hP hS h4 h5 hl kk => ?_) (hg _ _ _ _ _ _ h)
    refine lv_ior hc.1 hc.2.1 hd ?_
    have k9 := kk la hl
    rw [List.map_cons] at k9
    simp only [cv, bOr, Int32.ofInt_toInt] at k9
    exact k9
  · exact h.elim
theorem sn_18 (hg : gOk P q d K G) (he : eChk q (pc, 18, a, b, nx, xs) = true) (h : stp q (pL P) (pX P) G C K 18 a b nx xs ls st I R S) : Go P q d K pc ls st I R S := by
  obtain ⟨hd, hn, hx⟩ := chk he
  have hn : nx = pc + 1 := hn
  subst hn
  simp only [stp] at h
  split at h
  · rename_i y x st1
    refine go_pure (ls' := ls) (st' := .inl (bXor x y) :: st1) (fun p e s m args below meth c Rm Q H locs cells slots la hc hP hS h4 h5 hl kk => ?_) (hg _ _ _ _ _ _ h)
    refine lv_ixor hc.1 hc.2.1 hd ?_
    have k9 := kk la hl
    rw [List.map_cons] at k9
    simp only [cv, bXor, Int32.ofInt_toInt] at k9
    exact k9
  · exact h.elim
theorem sn_19 (hg : gOk P q d K G) (he : eChk q (pc, 19, a, b, nx, xs) = true) (h : stp q (pL P) (pX P) G C K 19 a b nx xs ls st I R S) : Go P q d K pc ls st I R S := by
  obtain ⟨hd, hn, hx⟩ := chk he
  have hn : nx = pc + 1 := hn
  subst hn
  simp only [stp] at h
  split at h
  · rename_i y x st1
    refine go_pure (ls' := ls) (st' := .inl (bShl x y) :: st1) (fun p e s m args below meth c Rm Q H locs cells slots la hc hP hS h4 h5 hl kk => ?_) (hg _ _ _ _ _ _ h)
    refine lv_ishl hc.1 hc.2.1 hd ?_
    have k9 := kk la hl
    rw [List.map_cons] at k9
    simp only [cv, bShl, Int32.ofInt_toInt] at k9
    exact k9
  · exact h.elim
theorem sn_20 (hg : gOk P q d K G) (he : eChk q (pc, 20, a, b, nx, xs) = true) (h : stp q (pL P) (pX P) G C K 20 a b nx xs ls st I R S) : Go P q d K pc ls st I R S := by
  obtain ⟨hd, hn, hx⟩ := chk he
  have hn : nx = pc + 1 := hn
  subst hn
  simp only [stp] at h
  split at h
  · rename_i y x st1
    refine go_pure (ls' := ls) (st' := .inl (bShr x y) :: st1) (fun p e s m args below meth c Rm Q H locs cells slots la hc hP hS h4 h5 hl kk => ?_) (hg _ _ _ _ _ _ h)
    refine lv_ishr hc.1 hc.2.1 hd ?_
    have k9 := kk la hl
    rw [List.map_cons] at k9
    simp only [cv, bShr, Int32.ofInt_toInt] at k9
    exact k9
  · exact h.elim
theorem sn_21 (hg : gOk P q d K G) (he : eChk q (pc, 21, a, b, nx, xs) = true) (h : stp q (pL P) (pX P) G C K 21 a b nx xs ls st I R S) : Go P q d K pc ls st I R S := by
  obtain ⟨hd, hn, hx⟩ := chk he
  have hn : nx = pc + 1 := hn
  subst hn
  simp only [stp] at h
  split at h
  · rename_i y x st1
    refine go_pure (ls' := ls) (st' := .inl (bUshr x y) :: st1) (fun p e s m args below meth c Rm Q H locs cells slots la hc hP hS h4 h5 hl kk => ?_) (hg _ _ _ _ _ _ h)
    refine lv_iushr hc.1 hc.2.1 hd rfl ?_
    have k9 := kk la hl
    rw [List.map_cons] at k9
    simp only [cv, bUshr, Int32.ofInt_toInt] at k9
    exact k9
  · exact h.elim
theorem sn_22 (hg : gOk P q d K G) (he : eChk q (pc, 22, a, b, nx, xs) = true) (h : stp q (pL P) (pX P) G C K 22 a b nx xs ls st I R S) : Go P q d K pc ls st I R S := by
  obtain ⟨hd, hn, hx⟩ := chk he
  have hn : nx = pc + 1 := hn
  subst hn
  simp only [stp] at h
  split at h
  · rename_i x st1
    obtain ⟨hi, h⟩ := h
    refine go_pure (ls' := ls) (st' := .inr (.inr (.inl x)) :: st1) (fun p e s m args below meth c Rm Q H locs cells slots la hc hP hS h4 h5 hl kk => ?_) (hg _ _ _ _ _ _ h)
    exact lv_i2l hc.1 hc.2.1 hd (Int32.toInt64_ofInt (by have := hi.1; rw [Int32.toInt_minValue]; omega) (by have := hi.2; rw [Int32.toInt_maxValue]; omega)) (kk la hl)
  · exact h.elim
theorem sn_23 (hg : gOk P q d K G) (he : eChk q (pc, 23, a, b, nx, xs) = true) (h : stp q (pL P) (pX P) G C K 23 a b nx xs ls st I R S) : Go P q d K pc ls st I R S := by
  obtain ⟨hd, hn, hx⟩ := chk he
  have hn : nx = pc + 1 := hn
  subst hn
  simp only [stp] at h
  split at h
  · rename_i x st1
    refine go_pure (ls' := ls) (st' := .inl x :: st1) (fun p e s m args below meth c Rm Q H locs cells slots la hc hP hS h4 h5 hl kk => ?_) (hg _ _ _ _ _ _ h)
    exact lv_l2i hc.1 hc.2.1 hd Int64.toInt32_ofInt (kk la hl)
  · exact h.elim
theorem sn_24 (hg : gOk P q d K G) (he : eChk q (pc, 24, a, b, nx, xs) = true) (h : stp q (pL P) (pX P) G C K 24 a b nx xs ls st I R S) : Go P q d K pc ls st I R S := by
  obtain ⟨hd, hn, hx⟩ := chk he
  have hn : nx = pc + 1 := hn
  subst hn
  simp only [stp] at h
  split at h
  · rename_i y x st1
    refine go_pure (ls' := ls) (st' := .inr (.inr (.inl (x * y))) :: st1) (fun p e s m args below meth c Rm Q H locs cells slots la hc hP hS h4 h5 hl kk => ?_) (hg _ _ _ _ _ _ h)
    refine lv_lmul hc.1 hc.2.1 hd ?_
    have k9 := kk la hl
    rw [List.map_cons] at k9
    simp only [cv, Int64.ofInt_mul] at k9
    exact k9
  · exact h.elim
theorem sn_25 (hg : gOk P q d K G) (he : eChk q (pc, 25, a, b, nx, xs) = true) (h : stp q (pL P) (pX P) G C K 25 a b nx xs ls st I R S) : Go P q d K pc ls st I R S := by
  obtain ⟨hd, hn, hx⟩ := chk he
  have hn : nx = pc + 1 := hn
  subst hn
  simp only [stp] at h
  split at h
  · rename_i y x st1
    refine go_pure (ls' := ls) (st' := .inr (.inr (.inl (x + y))) :: st1) (fun p e s m args below meth c Rm Q H locs cells slots la hc hP hS h4 h5 hl kk => ?_) (hg _ _ _ _ _ _ h)
    refine lv_ladd hc.1 hc.2.1 hd ?_
    have k9 := kk la hl
    rw [List.map_cons] at k9
    simp only [cv, Int64.ofInt_add] at k9
    exact k9
  · exact h.elim
theorem sn_26 (hg : gOk P q d K G) (he : eChk q (pc, 26, a, b, nx, xs) = true) (h : stp q (pL P) (pX P) G C K 26 a b nx xs ls st I R S) : Go P q d K pc ls st I R S := by
  obtain ⟨hd, hn, hx⟩ := chk he
  have hn : nx = pc + 1 := hn
  subst hn
  simp only [stp] at h
  split at h
  · rename_i y x st1
    refine go_pure (ls' := ls) (st' := .inr (.inr (.inl (bLand x y))) :: st1) (fun p e s m args below meth c Rm Q H locs cells slots la hc hP hS h4 h5 hl kk => ?_) (hg _ _ _ _ _ _ h)
    refine lv_land hc.1 hc.2.1 hd ?_
    have k9 := kk la hl
    rw [List.map_cons] at k9
    simp only [cv, bLand, Int64.ofInt_toInt] at k9
    exact k9
  · exact h.elim
theorem sn_27 (hg : gOk P q d K G) (he : eChk q (pc, 27, a, b, nx, xs) = true) (h : stp q (pL P) (pX P) G C K 27 a b nx xs ls st I R S) : Go P q d K pc ls st I R S := by
  obtain ⟨hd, hn, hx⟩ := chk he
  have hn : nx = pc + 1 := hn
  subst hn
  simp only [stp] at h
  split at h
  · rename_i y x st1
    obtain ⟨hg1, h⟩ := h
    refine go_pure (ls' := ls) (st' := .inr (.inr (.inl (x % y))) :: st1) (fun p e s m args below meth c Rm Q H locs cells slots la hc hP hS h4 h5 hl kk => ?_) (hg _ _ _ _ _ _ h)
    refine lv_lrem hc.1 hc.2.1 hd (fun h0 => by have e := congrArg Int64.toInt h0; rw [tL (by omega) hg1.2.2.2, show (0 : Int64).toInt = 0 from by decide] at e; omega) ?_
    have k9 := kk la hl
    rw [List.map_cons] at k9
    simp only [cv, ← remL hg1.1 hg1.2.1 hg1.2.2.1 hg1.2.2.2] at k9
    exact k9
  · exact h.elim
theorem sn_28 (hg : gOk P q d K G) (he : eChk q (pc, 28, a, b, nx, xs) = true) (h : stp q (pL P) (pX P) G C K 28 a b nx xs ls st I R S) : Go P q d K pc ls st I R S := by
  obtain ⟨hd, hn, hx⟩ := chk he
  have hn : nx = pc + 3 := hn
  subst hn
  simp only [eX, Bool.and_eq_true] at hx
  simp only [stp] at h
  split at h
  · rename_i z hz
    refine go_pure (ls' := setn ls a (.inl (z + b))) (st' := st) (fun p e s m args below meth c Rm Q H locs cells slots la hc hP hS h4 h5 hl kk => ?_) (hg _ _ _ _ _ _ h)
    obtain ⟨k, hk⟩ := List.getElem?_of_mem ((lvL_mem (bs := pB P) (b := pS P) ls 0 (a, .int (Int32.ofInt z))).mpr ⟨a, by rw [hz]; rfl, by rw [hz, Nat.zero_add]; rfl⟩)
    exact lv_iinc hc.1 hc.2.1 hd hl hk (Int32.ofInt_add z b).symm (bltE hx.2) rfl (fun la' hl' => kk la' (lvx_set (v := .inl (z + b)) hl'))
  · exact h.elim
theorem sn_29 (hg : gOk P q d K G) (he : eChk q (pc, 29, a, b, nx, xs) = true) (h : stp q (pL P) (pX P) G C K 29 a b nx xs ls st I R S) : Go P q d K pc ls st I R S := by
  obtain ⟨hd, hn, hx⟩ := chk he
  refine go_pure (ls' := ls) (st' := st) (pc' := a) (fun p e s m args below meth c Rm Q H locs cells slots la hc hP hS h4 h5 hl kk => ?_) (hg _ _ _ _ _ _ h)
  exact lv_goto hc.1 hc.2.1 hd (by omega) (kk la hl)
theorem go_if {c0 : Prop} {pc1 pc2 : Nat} {st1 : List aV} (hd : Decidable c0) (ht : c0 → Go P q d K pc1 ls st1 I R S) (hf : ¬ c0 → Go P q d K pc2 ls st1 I R S)
    (hs : ∀ (p : Program) (e : Env) (s : State) (m : MethodId) (args : Array Value) (below : List Frame) (meth : Method) (c : Code) (Rm : Room) (Q : State → Prop) (H : Heap) (locs : List Loc) (cells slots : Nat) (la : Array Slot),
      Cx P q p s m args meth c →
      (c0 → W p (pl P) e Rm s m args below meth c H locs cells slots Q (F0 m pc1 la (st1.map (cv (pB P) (pS P))))) → (¬ c0 → W p (pl P) e Rm s m args below meth c H locs cells slots Q (F0 m pc2 la (st1.map (cv (pB P) (pS P))))) →
      W p (pl P) e Rm s m args below meth c H locs cells slots Q (F0 m pc la (st.map (cv (pB P) (pS P))))) : Go P q d K pc ls st I R S := by
  by_cases h0 : c0
  · refine go_pure (ls' := ls) (st' := st1) (pc' := pc1) (fun p e s m args below meth c Rm Q H locs cells slots la hc hP hS h4 h5 hl kk => hs p e s m args below meth c Rm Q H locs cells slots la hc (fun _ => kk la hl) (fun h => absurd h0 h)) (ht h0)
  · refine go_pure (ls' := ls) (st' := st1) (pc' := pc2) (fun p e s m args below meth c Rm Q H locs cells slots la hc hP hS h4 h5 hl kk => hs p e s m args below meth c Rm Q H locs cells slots la hc (fun h => absurd h h0) (fun _ => kk la hl)) (hf h0)
theorem sn_30 (hg : gOk P q d K G) (he : eChk q (pc, 30, a, b, nx, xs) = true) (h : stp q (pL P) (pX P) G C K 30 a b nx xs ls st I R S) : Go P q d K pc ls st I R S := by
  obtain ⟨hd, hn, hx⟩ := chk he
  have hn : nx = pc + 3 := hn
  subst hn
  simp only [stp] at h
  split at h
  · rename_i x st1
    obtain ⟨hi, h⟩ := h
    refine go_if (c0 := x = 0) (pc1 := a) (pc2 := pc + 3) (st1 := st1) inferInstance (fun hh => hg _ _ _ _ _ _ (h.1 hh)) (fun hh => hg _ _ _ _ _ _ (h.2 hh)) (fun p e s m args below meth c Rm Q H locs cells slots la hc kt kf => ?_)
    refine lv_if_eq hc.1 hc.2.1 (tgt := a) hd (by omega) (fun hh => ?_) (fun hh => ?_)
    · rw [zeroI, eqI hi iR0] at hh; exact kt hh
    · rw [zeroI, eqI hi iR0] at hh; exact kf hh
  · exact h.elim
theorem sn_31 (hg : gOk P q d K G) (he : eChk q (pc, 31, a, b, nx, xs) = true) (h : stp q (pL P) (pX P) G C K 31 a b nx xs ls st I R S) : Go P q d K pc ls st I R S := by
  obtain ⟨hd, hn, hx⟩ := chk he
  have hn : nx = pc + 3 := hn
  subst hn
  simp only [stp] at h
  split at h
  · rename_i x st1
    obtain ⟨hi, h⟩ := h
    refine go_if (c0 := x = 0) (pc1 := pc + 3) (pc2 := a) (st1 := st1) inferInstance (fun hh => hg _ _ _ _ _ _ (h.2 hh)) (fun hh => hg _ _ _ _ _ _ (h.1 hh)) (fun p e s m args below meth c Rm Q H locs cells slots la hc kt kf => ?_)
    refine lv_if_ne hc.1 hc.2.1 (tgt := a) hd (by omega) (fun hh => ?_) (fun hh => ?_)
    · rw [zeroI, eqI hi iR0] at hh; exact kf hh
    · rw [zeroI, eqI hi iR0] at hh; exact kt hh
  · exact h.elim
theorem sn_32 (hg : gOk P q d K G) (he : eChk q (pc, 32, a, b, nx, xs) = true) (h : stp q (pL P) (pX P) G C K 32 a b nx xs ls st I R S) : Go P q d K pc ls st I R S := by
  obtain ⟨hd, hn, hx⟩ := chk he
  have hn : nx = pc + 3 := hn
  subst hn
  simp only [stp] at h
  split at h
  · rename_i x st1
    obtain ⟨hi, h⟩ := h
    refine go_if (c0 := x < 0) (pc1 := a) (pc2 := pc + 3) (st1 := st1) inferInstance (fun hh => hg _ _ _ _ _ _ (h.1 hh)) (fun hh => hg _ _ _ _ _ _ (h.2 hh)) (fun p e s m args below meth c Rm Q H locs cells slots la hc kt kf => ?_)
    refine lv_if_lt hc.1 hc.2.1 (tgt := a) hd (by omega) (fun hh => ?_) (fun hh => ?_)
    · rw [zeroI, ltI hi iR0] at hh; exact kt hh
    · rw [zeroI, ltI hi iR0] at hh; exact kf hh
  · exact h.elim
theorem sn_33 (hg : gOk P q d K G) (he : eChk q (pc, 33, a, b, nx, xs) = true) (h : stp q (pL P) (pX P) G C K 33 a b nx xs ls st I R S) : Go P q d K pc ls st I R S := by
  obtain ⟨hd, hn, hx⟩ := chk he
  have hn : nx = pc + 3 := hn
  subst hn
  simp only [stp] at h
  split at h
  · rename_i x st1
    obtain ⟨hi, h⟩ := h
    refine go_if (c0 := 0 ≤ x) (pc1 := a) (pc2 := pc + 3) (st1 := st1) inferInstance (fun hh => hg _ _ _ _ _ _ (h.1 hh)) (fun hh => hg _ _ _ _ _ _ (h.2 hh)) (fun p e s m args below meth c Rm Q H locs cells slots la hc kt kf => ?_)
    refine lv_if_ge hc.1 hc.2.1 (tgt := a) hd (by omega) (fun hh => ?_) (fun hh => ?_)
    · rw [zeroI, leI iR0 hi] at hh; exact kt hh
    · rw [zeroI, leI iR0 hi] at hh; exact kf hh
  · exact h.elim
theorem sn_34 (hg : gOk P q d K G) (he : eChk q (pc, 34, a, b, nx, xs) = true) (h : stp q (pL P) (pX P) G C K 34 a b nx xs ls st I R S) : Go P q d K pc ls st I R S := by
  obtain ⟨hd, hn, hx⟩ := chk he
  have hn : nx = pc + 3 := hn
  subst hn
  simp only [stp] at h
  split at h
  · rename_i x st1
    obtain ⟨hi, h⟩ := h
    refine go_if (c0 := 0 < x) (pc1 := a) (pc2 := pc + 3) (st1 := st1) inferInstance (fun hh => hg _ _ _ _ _ _ (h.1 hh)) (fun hh => hg _ _ _ _ _ _ (h.2 hh)) (fun p e s m args below meth c Rm Q H locs cells slots la hc kt kf => ?_)
    refine lv_if_gt hc.1 hc.2.1 (tgt := a) hd (by omega) (fun hh => ?_) (fun hh => ?_)
    · rw [zeroI, ltI iR0 hi] at hh; exact kt hh
    · rw [zeroI, ltI iR0 hi] at hh; exact kf hh
  · exact h.elim
theorem sn_35 (hg : gOk P q d K G) (he : eChk q (pc, 35, a, b, nx, xs) = true) (h : stp q (pL P) (pX P) G C K 35 a b nx xs ls st I R S) : Go P q d K pc ls st I R S := by
  obtain ⟨hd, hn, hx⟩ := chk he
  have hn : nx = pc + 3 := hn
  subst hn
  simp only [stp] at h
  split at h
  · rename_i x st1
    obtain ⟨hi, h⟩ := h
    refine go_if (c0 := x ≤ 0) (pc1 := a) (pc2 := pc + 3) (st1 := st1) inferInstance (fun hh => hg _ _ _ _ _ _ (h.1 hh)) (fun hh => hg _ _ _ _ _ _ (h.2 hh)) (fun p e s m args below meth c Rm Q H locs cells slots la hc kt kf => ?_)
    refine lv_if_le hc.1 hc.2.1 (tgt := a) hd (by omega) (fun hh => ?_) (fun hh => ?_)
    · rw [zeroI, leI hi iR0] at hh; exact kt hh
    · rw [zeroI, leI hi iR0] at hh; exact kf hh
  · exact h.elim
theorem sn_36 (hg : gOk P q d K G) (he : eChk q (pc, 36, a, b, nx, xs) = true) (h : stp q (pL P) (pX P) G C K 36 a b nx xs ls st I R S) : Go P q d K pc ls st I R S := by
  obtain ⟨hd, hn, hx⟩ := chk he
  have hn : nx = pc + 3 := hn
  subst hn
  simp only [stp] at h
  split at h
  · rename_i y x st1
    obtain ⟨hi, h⟩ := h
    refine go_if (c0 := x = y) (pc1 := a) (pc2 := pc + 3) (st1 := st1) inferInstance (fun hh => hg _ _ _ _ _ _ (h.1 hh)) (fun hh => hg _ _ _ _ _ _ (h.2 hh)) (fun p e s m args below meth c Rm Q H locs cells slots la hc kt kf => ?_)
    refine lv_icmp_eq hc.1 hc.2.1 (tgt := a) hd (by omega) (fun hh => ?_) (fun hh => ?_)
    · rw [eqI hi.1 hi.2] at hh; exact kt hh
    · rw [eqI hi.1 hi.2] at hh; exact kf hh
  · exact h.elim
theorem sn_37 (hg : gOk P q d K G) (he : eChk q (pc, 37, a, b, nx, xs) = true) (h : stp q (pL P) (pX P) G C K 37 a b nx xs ls st I R S) : Go P q d K pc ls st I R S := by
  obtain ⟨hd, hn, hx⟩ := chk he
  have hn : nx = pc + 3 := hn
  subst hn
  simp only [stp] at h
  split at h
  · rename_i y x st1
    obtain ⟨hi, h⟩ := h
    refine go_if (c0 := x = y) (pc1 := pc + 3) (pc2 := a) (st1 := st1) inferInstance (fun hh => hg _ _ _ _ _ _ (h.2 hh)) (fun hh => hg _ _ _ _ _ _ (h.1 hh)) (fun p e s m args below meth c Rm Q H locs cells slots la hc kt kf => ?_)
    refine lv_icmp_ne hc.1 hc.2.1 (tgt := a) hd (by omega) (fun hh => ?_) (fun hh => ?_)
    · rw [eqI hi.1 hi.2] at hh; exact kf hh
    · rw [eqI hi.1 hi.2] at hh; exact kt hh
  · exact h.elim
theorem sn_38 (hg : gOk P q d K G) (he : eChk q (pc, 38, a, b, nx, xs) = true) (h : stp q (pL P) (pX P) G C K 38 a b nx xs ls st I R S) : Go P q d K pc ls st I R S := by
  obtain ⟨hd, hn, hx⟩ := chk he
  have hn : nx = pc + 3 := hn
  subst hn
  simp only [stp] at h
  split at h
  · rename_i y x st1
    obtain ⟨hi, h⟩ := h
    refine go_if (c0 := x < y) (pc1 := a) (pc2 := pc + 3) (st1 := st1) inferInstance (fun hh => hg _ _ _ _ _ _ (h.1 hh)) (fun hh => hg _ _ _ _ _ _ (h.2 hh)) (fun p e s m args below meth c Rm Q H locs cells slots la hc kt kf => ?_)
    refine lv_icmp_lt hc.1 hc.2.1 (tgt := a) hd (by omega) (fun hh => ?_) (fun hh => ?_)
    · rw [ltI hi.1 hi.2] at hh; exact kt hh
    · rw [ltI hi.1 hi.2] at hh; exact kf hh
  · exact h.elim
theorem sn_39 (hg : gOk P q d K G) (he : eChk q (pc, 39, a, b, nx, xs) = true) (h : stp q (pL P) (pX P) G C K 39 a b nx xs ls st I R S) : Go P q d K pc ls st I R S := by
  obtain ⟨hd, hn, hx⟩ := chk he
  have hn : nx = pc + 3 := hn
  subst hn
  simp only [stp] at h
  split at h
  · rename_i y x st1
    obtain ⟨hi, h⟩ := h
    refine go_if (c0 := y ≤ x) (pc1 := a) (pc2 := pc + 3) (st1 := st1) inferInstance (fun hh => hg _ _ _ _ _ _ (h.1 hh)) (fun hh => hg _ _ _ _ _ _ (h.2 hh)) (fun p e s m args below meth c Rm Q H locs cells slots la hc kt kf => ?_)
    refine lv_icmp_ge hc.1 hc.2.1 (tgt := a) hd (by omega) (fun hh => ?_) (fun hh => ?_)
    · rw [leI hi.2 hi.1] at hh; exact kt hh
    · rw [leI hi.2 hi.1] at hh; exact kf hh
  · exact h.elim
theorem sn_40 (hg : gOk P q d K G) (he : eChk q (pc, 40, a, b, nx, xs) = true) (h : stp q (pL P) (pX P) G C K 40 a b nx xs ls st I R S) : Go P q d K pc ls st I R S := by
  obtain ⟨hd, hn, hx⟩ := chk he
  have hn : nx = pc + 3 := hn
  subst hn
  simp only [stp] at h
  split at h
  · rename_i y x st1
    obtain ⟨hi, h⟩ := h
    refine go_if (c0 := y < x) (pc1 := a) (pc2 := pc + 3) (st1 := st1) inferInstance (fun hh => hg _ _ _ _ _ _ (h.1 hh)) (fun hh => hg _ _ _ _ _ _ (h.2 hh)) (fun p e s m args below meth c Rm Q H locs cells slots la hc kt kf => ?_)
    refine lv_icmp_gt hc.1 hc.2.1 (tgt := a) hd (by omega) (fun hh => ?_) (fun hh => ?_)
    · rw [ltI hi.2 hi.1] at hh; exact kt hh
    · rw [ltI hi.2 hi.1] at hh; exact kf hh
  · exact h.elim
theorem sn_41 (hg : gOk P q d K G) (he : eChk q (pc, 41, a, b, nx, xs) = true) (h : stp q (pL P) (pX P) G C K 41 a b nx xs ls st I R S) : Go P q d K pc ls st I R S := by
  obtain ⟨hd, hn, hx⟩ := chk he
  have hn : nx = pc + 3 := hn
  subst hn
  simp only [stp] at h
  split at h
  · rename_i y x st1
    obtain ⟨hi, h⟩ := h
    refine go_if (c0 := x ≤ y) (pc1 := a) (pc2 := pc + 3) (st1 := st1) inferInstance (fun hh => hg _ _ _ _ _ _ (h.1 hh)) (fun hh => hg _ _ _ _ _ _ (h.2 hh)) (fun p e s m args below meth c Rm Q H locs cells slots la hc kt kf => ?_)
    refine lv_icmp_le hc.1 hc.2.1 (tgt := a) hd (by omega) (fun hh => ?_) (fun hh => ?_)
    · rw [leI hi.1 hi.2] at hh; exact kt hh
    · rw [leI hi.1 hi.2] at hh; exact kf hh
  · exact h.elim
theorem tsw_at {x : Int} {g : Nat → Prop} : ∀ (l : List (Int × Nat)) (lo : Int) (k : Nat) (r : Int × Nat), tsw x g lo l → x = lo + (k : Int) → l[k]? = some r → g r.2
  | [], _, _, _, _, _, h => by cases h
  | r0 :: l, lo, 0, r, h, hx, hk => by
    cases hk
    exact h.1 (by omega)
  | r0 :: l, lo, k + 1, r, h, hx, hk => tsw_at l (lo + 1) k r h.2 (by omega) hk
theorem lsw_at {x : Int} {g : Nat → Prop} {g0 : Prop} (pc a : Nat) : ∀ (l : List (Int × Nat)), lswD x g0 l → lsw x g l → (g0 ∧ Op.lookupswitch.offset (l.map (fun r => (r.1, (r.2 : Int) - pc))) ((a : Int) - pc) x = (a : Int) - pc) ∨ ∃ t, g t ∧ Op.lookupswitch.offset (l.map (fun r => (r.1, (r.2 : Int) - pc))) ((a : Int) - pc) x = (t : Int) - pc
  | [], h, _ => Or.inl ⟨h, rfl⟩
  | r :: l, h, h2 => by
    by_cases e : x = r.1
    · refine Or.inr ⟨r.2, h2.1 e, ?_⟩
      simp [Op.lookupswitch.offset, e]
    · have hne : ¬ r.1 = x := fun h => e h.symm
      rcases lsw_at pc a l (h e) h2.2 with ⟨h3, h4⟩ | ⟨t, h3, h4⟩
      · refine Or.inl ⟨h3, ?_⟩
        simpa [Op.lookupswitch.offset, e, hne] using h4
      · refine Or.inr ⟨t, h3, ?_⟩
        simpa [Op.lookupswitch.offset, e, hne] using h4
theorem sn_42 (hg : gOk P q d K G) (he : eChk q (pc, 42, a, b, nx, xs) = true) (h : stp q (pL P) (pX P) G C K 42 a b nx xs ls st I R S) : Go P q d K pc ls st I R S := by
  obtain ⟨hd, hn, hx⟩ := chk he
  simp only [stp] at h
  split at h
  · rename_i x st1
    obtain ⟨hi, h1, h2⟩ := h
    by_cases hout : x < b ∨ b + (xs.length : Int) ≤ x
    · refine go_pure (ls' := ls) (st' := st1) (pc' := a) (fun p e s m args below meth c Rm Q H locs cells slots la hc hP hS h4 h5 hl kk => ?_) (hg _ _ _ _ _ _ (h1 hout))
      exact lv_tableOut hc.1 hc.2.1 hd (by rw [tI hi]; omega) (by omega) (kk la hl)
    · have hk : (x - b).toNat < xs.length := by omega
      have hr := List.getElem?_eq_getElem hk
      have h3 := tsw_at (g := fun t => G t ls st1 I R S) xs b (x - b).toNat _ h2 (by omega) hr
      refine go_pure (ls' := ls) (st' := st1) (pc' := (xs[(x - b).toNat]'hk).2) (fun p e s m args below meth c Rm Q H locs cells slots la hc hP hS h4 h5 hl kk => ?_) (hg _ _ _ _ _ _ h3)
      exact lv_tableIn hc.1 hc.2.1 (off := ((xs[(x - b).toNat]'hk).2 : Int) - pc) hd (by rw [tI hi]; omega) (by rw [tI hi]; omega) (by rw [tI hi, List.getElem?_toArray, List.getElem?_map, hr]; rfl) (by omega) (kk la hl)
  · exact h.elim
theorem sn_43 (hg : gOk P q d K G) (he : eChk q (pc, 43, a, b, nx, xs) = true) (h : stp q (pL P) (pX P) G C K 43 a b nx xs ls st I R S) : Go P q d K pc ls st I R S := by
  obtain ⟨hd, hn, hx⟩ := chk he
  simp only [stp] at h
  split at h
  · rename_i x st1
    obtain ⟨hi, h1, h2⟩ := h
    rcases lsw_at (g := fun t => G t ls st1 I R S) pc a xs h1 h2 with ⟨h3, h9⟩ | ⟨t, h3, h9⟩
    · refine go_pure (ls' := ls) (st' := st1) (pc' := a) (fun p e s m args below meth c Rm Q H locs cells slots la hc hP hS h4 h5 hl kk => ?_) (hg _ _ _ _ _ _ h3)
      exact lv_lookup hc.1 hc.2.1 (off := (a : Int) - pc) hd hx (by rw [tI hi]; exact h9) (by omega) (kk la hl)
    · refine go_pure (ls' := ls) (st' := st1) (pc' := t) (fun p e s m args below meth c Rm Q H locs cells slots la hc hP hS h4 h5 hl kk => ?_) (hg _ _ _ _ _ _ h3)
      exact lv_lookup hc.1 hc.2.1 (off := (t : Int) - pc) hd hx (by rw [tI hi]; exact h9) (by omega) (kk la hl)
  · exact h.elim
end Sn
