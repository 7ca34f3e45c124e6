/-! what is fixed in a run: the launch, the numbers of types, the first cell, the script -/
abbrev aP : Type := Launch × va_G × (Nat → ClassId) × Nat × Nat × Nat × (Nat → Int)
abbrev pl (P : aP) : Launch := P.1
abbrev pD (P : aP) : va_G := P.2.1
abbrev pC (P : aP) : Nat → ClassId := P.2.2.1
abbrev pB (P : aP) : Nat := P.2.2.2.1
abbrev pS (P : aP) : Nat := P.2.2.2.2.1
abbrev pL (P : aP) : Nat := P.2.2.2.2.2.1
abbrev pX (P : aP) : Nat → Int := P.2.2.2.2.2.2
def szs (S : aS) : Nat := (S.map Prod.snd).sum
theorem szs_push (S : aS) (kn : Nat × Nat) : szs (S ++ [kn]) = szs S + kn.2 := by simp [szs]
def Nz (U : State) : Prop := (∀ x ∈ NLK, va_Nw (.methodLinkNest (RN x.1) x.2.1 (mY x.2.2.1) "RepeaterWires") U) ∧ va_AO (RN 3) U ∧ va_AO (RN 4) U
theorem Nz.warm {s U : State} (hW : s.WarmedH U.vm) (h : Nz s) : Nz U := ⟨fun x hx => va_Nw.warmM hW (h.1 x hx), va_AO.moved hW.alike h.2.1, va_AO.moved hW.alike h.2.2⟩
abbrev wP (P : aP) (I : aI) (R : aR) (S : aS) (H : Heap) : Prop := va_P (pD P) clL (wH (pC P) (pB P) I R S) H
abbrev sP (P : aP) (H0 H : Heap) (locs : List Loc) : Prop := va_S (fun x => pB P ≤ x) H0 H locs
def Rp (P : aP) (I : aI) (R : aR) (S : aS) (U : State) : Prop := U.heap.size = pB P + S.length ∧ wP P I R S U.heap ∧ va_K (pD P) clL (tyL (pC P)) U ∧ Nz U ∧ va_X (pS P) (pL P) (fun j => Int32.ofInt (pX P j)) U U.heap ∧ pS P < pB P
def Cx (P : aP) (q : Nat) (p : Program) (s : State) (m : MethodId) (args : Array Value) (meth : Method) (c : Code) : Prop :=
  p.tables.exec = Jvm.exec ∧ c.code = mB q ∧ c.maxLocals = mL q ∧ s.vm.findClass (RN (mO q)) = some m.cls ∧ (∀ w ∈ gw, w.before args s = true) ∧ va_K (pD P) clL (tyL (pC P)) s ∧ Nz s ∧ va_X (pS P) (pL P) (fun j => Int32.ofInt (pX P j)) s s.heap ∧ pS P < pB P ∧ pB P ≤ s.heap.size ∧ ((mY q).name = "<init>" → meth.name = "<init>")
def rOp (q pc : Nat) (r : Option aV) : Prop := match r with
  | none => decode (mB q) pc = .ok (.return_, 1) ∧ mR q = none
  | some (.inl z) => decode (mB q) pc = .ok (.ireturn, 1) ∧ (mR q = some .int ∨ (mR q = some .boolean ∧ (z = 0 ∨ z = 1)))
  | some (.inr (.inl (some _))) => decode (mB q) pc = .ok (.areturn, 1) ∧ ∃ rt, mR q = some rt ∧ ((∃ n, rt = .object n) ∨ ∃ t, rt = .array t)
  | _ => False
def GoX (P : aP) (q d : Nat) (r : Option aV) (I' : aI) (R' : aR) (S' : aS) (pc : Nat) (ls st : List aV) (I : aI) (R : aR) (S : aS) : Prop :=
  (S.length ≤ S'.length ∧ szs S ≤ szs S') ∧
  ∀ (p : Program) (e : Env) (s : State) (m : MethodId) (args : Array Value) (below : List Frame) (meth : Method) (c : Code) (Rm : Room) (Q : State → Prop) (n0 z0 : Nat),
    Cx P q p s m args meth c → s.heap.size = pB P + n0 → n0 ≤ S.length → z0 ≤ szs S → d ≤ Rm.frames → 36 * d ≤ Rm.locals → S'.length ≤ n0 + Rm.cells → szs S' ≤ z0 + Rm.slots →
    (∀ (pc : Nat) (H : Heap) (locs : List Loc) (la : Array Slot), rOp q pc r → wP P I' R' S' H → sP P s.heap H locs → W p (pl P) e Rm s m args below meth c H locs (S'.length - n0) (szs S' - z0) Q (F0 m pc la (r.map (cv (pB P) (pS P))).toList)) →
    ∀ (H : Heap) (locs : List Loc) (la : Array Slot), wP P I R S H → sP P s.heap H locs → lv_has la (mL q) (lvL (pB P) (pS P) 0 ls) →
      W p (pl P) e Rm s m args below meth c H locs (S.length - n0) (szs S - z0) Q (F0 m pc la (st.map (cv (pB P) (pS P))))
def Go (P : aP) (q d : Nat) (K : aK) (pc : Nat) (ls st : List aV) (I : aI) (R : aR) (S : aS) : Prop := ∃ r I' R' S', K r I' R' S' ∧ GoX P q d r I' R' S' pc ls st I R S
def rmX (d : Nat) (S S' : aS) : Room := { frames := d, cells := S'.length - S.length, slots := szs S' - szs S, locals := 36 * d }
abbrev wsM (q : Nat) : List Cond := .code (mY q) (mB q) (mL q) (mR q) :: gw
def qcX (P : aP) (r : Option aV) (I' : aI) (R' : aR) (S' : aS) : Array Value → State → Outcome → State → Prop := fun _ st o t => o = .returned (r.map (cv (pB P) (pS P))) ∧ wP P I' R' S' t.heap ∧ va_F (fun x => pB P ≤ x) st t
def MtX (P : aP) (q d : Nat) (as : List aV) (I : aI) (R : aR) (S : aS) (r : Option aV) (I' : aI) (R' : aR) (S' : aS) : Prop :=
  (S.length ≤ S'.length ∧ szs S ≤ szs S') ∧ Met (pl P) (mY q) (wsM q) (rmX d S S') (va_Pc (as.map (cv (pB P) (pS P))) (Rp P I R S)) (qcX P r I' R' S') (S'.length - S.length) (szs S' - szs S) (fun x => pB P ≤ x)
def Ok (P : aP) (q d : Nat) (as : List aV) (I : aI) (R : aR) (S : aS) (K : aK) : Prop := ∃ d', d' ≤ d ∧ ∃ r I' R' S', K r I' R' S' ∧ MtX P q d' as I R S r I' R' S'
theorem Ok.mono {P : aP} {q d d2 : Nat} {as : List aV} {I : aI} {R : aR} {S : aS} {K K2 : aK} (h : Ok P q d as I R S K) (hd : d ≤ d2) (hK : ∀ r I R S, K r I R S → K2 r I R S) : Ok P q d2 as I R S K2 := by
  obtain ⟨d', h1, r, I', R', S', h2, h3⟩ := h
  exact ⟨d', Nat.le_trans h1 hd, r, I', R', S', hK _ _ _ _ h2, h3⟩
section Pure
variable {P : aP} {q d pc : Nat} {K : aK} {ls st : List aV} {I : aI} {R : aR} {S : aS}
/-- a step that leaves the heap -/
theorem go_pure {pc' : Nat} {ls' st' : List aV}
    (hs : ∀ (p : Program) (e : Env) (s : State) (m : MethodId) (args : Array Value) (below : List Frame) (meth : Method) (c : Code) (Rm : Room) (Q : State → Prop) (H : Heap) (locs : List Loc) (cells slots : Nat) (la : Array Slot),
      Cx P q p s m args meth c → wP P I R S H → sP P s.heap H locs → d ≤ Rm.frames → 36 * d ≤ Rm.locals → lv_has la (mL q) (lvL (pB P) (pS P) 0 ls) →
      (∀ la', lv_has la' (mL q) (lvL (pB P) (pS P) 0 ls') → W p (pl P) e Rm s m args below meth c H locs cells slots Q (F0 m pc' la' (st'.map (cv (pB P) (pS P))))) →
      W p (pl P) e Rm s m args below meth c H locs cells slots Q (F0 m pc la (st.map (cv (pB P) (pS P)))))
    (g : Go P q d K pc' ls' st' I R S) : Go P q d K pc ls st I R S := by
  obtain ⟨r, I', R', S', hK, hz, hw⟩ := g
  refine ⟨r, I', R', S', hK, hz, ?_⟩
  intro p e s m args below meth c Rm Q n0 z0 hc h1 h2 h3 h4 h5 h6 h7 hret H locs la hP hS hl
  exact hs p e s m args below meth c Rm Q H locs _ _ la hc hP hS h4 h5 hl (fun la' hl' => hw p e s m args below meth c Rm Q n0 z0 hc h1 h2 h3 h4 h5 h6 h7 hret H locs la' hP hS hl')
/-- a step that writes a cell -/
theorem go_heap {pc' : Nat} {st' : List aV} {I1 : aI} {R1 : aR}
    (hs : ∀ (p : Program) (e : Env) (s : State) (m : MethodId) (args : Array Value) (below : List Frame) (meth : Method) (c : Code) (Rm : Room) (Q : State → Prop) (H : Heap) (locs : List Loc) (cells slots : Nat) (la : Array Slot),
      Cx P q p s m args meth c → wP P I R S H → sP P s.heap H locs → d ≤ Rm.frames → 36 * d ≤ Rm.locals → la.size = mL q →
      (∀ (H1 : Heap) (locs1 : List Loc), wP P I1 R1 S H1 → sP P s.heap H1 locs1 → W p (pl P) e Rm s m args below meth c H1 locs1 cells slots Q (F0 m pc' la (st'.map (cv (pB P) (pS P))))) →
      W p (pl P) e Rm s m args below meth c H locs cells slots Q (F0 m pc la (st.map (cv (pB P) (pS P)))))
    (g : Go P q d K pc' ls st' I1 R1 S) : Go P q d K pc ls st I R S := by
  obtain ⟨r, I', R', S', hK, hz, hw⟩ := g
  refine ⟨r, I', R', S', hK, hz, ?_⟩
  intro p e s m args below meth c Rm Q n0 z0 hc h1 h2 h3 h4 h5 h6 h7 hret H locs la hP hS hl
  exact hs p e s m args below meth c Rm Q H locs _ _ la hc hP hS h4 h5 hl.1 (fun H1 locs1 hP1 hS1 => hw p e s m args below meth c Rm Q n0 z0 hc h1 h2 h3 h4 h5 h6 h7 hret H1 locs1 la hP1 hS1 hl)
theorem W_bnd {p : Program} {l : Launch} {e : Env} {Rm : Room} {s : State} {m : MethodId} {args : Array Value} {below : List Frame} {meth : Method} {c : Code} {H : Heap} {locs : List Loc} {cells slots : Nat} {Q : State → Prop} {g : JFrame}
    (k : H.size ≤ s.heap.size + cells → W p l e Rm s m args below meth c H locs cells slots Q g) : W p l e Rm s m args below meth c H locs cells slots Q g := by
  intro T hT X
  refine k ?_ T hT X
  have h := X.same.2.2.1
  rw [← hT]
  exact h
theorem sz_low {H H0 : Heap} {locs : List Loc} (hP : wP P I R S H) (hS : sP P H0 H locs) (hb : pB P ≤ H0.size) : pB P + S.length ≤ H.size := by
  cases hl : S.length with
  | zero => have := hS.1; omega
  | succ n =>
    have hn : n < S.length := by omega
    have h1 := (hP n _ (wH_at (List.getElem?_eq_getElem hn))).lt
    dsimp only at h1
    omega
/-- a step that makes a cell -/
theorem go_new {pc' : Nat} {st' : List aV} {kn : Nat × Nat}
    (hs : ∀ (p : Program) (e : Env) (s : State) (m : MethodId) (args : Array Value) (below : List Frame) (meth : Method) (c : Code) (Rm : Room) (Q : State → Prop) (H : Heap) (locs : List Loc) (cells slots : Nat) (la : Array Slot),
      Cx P q p s m args meth c → wP P I R S H → sP P s.heap H locs → cells + 1 ≤ Rm.cells → slots + kn.2 ≤ Rm.slots →
      (∀ (x : Nat) (H1 : Heap), va_P (pD P) clL (wH (pC P) (pB P) I R S ++ [(x, ce (pC P) (pB P) (zI I S.length) (zR R S.length) S.length kn)]) H1 → va_D (fun x => pB P ≤ x) (wH (pC P) (pB P) I R S ++ [(x, ce (pC P) (pB P) (zI I S.length) (zR R S.length) S.length kn)]) → sP P s.heap H1 locs →
        W p (pl P) e Rm s m args below meth c H1 locs (cells + 1) (slots + kn.2) Q (F0 m pc' la (.ref x :: st'.map (cv (pB P) (pS P))))) →
      W p (pl P) e Rm s m args below meth c H locs cells slots Q (F0 m pc la (st.map (cv (pB P) (pS P)))))
    (g : Go P q d K pc' ls (vr S.length :: st') (zI I S.length) (zR R S.length) (S ++ [kn])) : Go P q d K pc ls st I R S := by
  obtain ⟨r, I', R', S', hK, hz, hw⟩ := g
  rw [szs_push, List.length_append, List.length_singleton] at hz
  refine ⟨r, I', R', S', hK, ⟨by omega, by omega⟩, ?_⟩
  intro p e s m args below meth c Rm Q n0 z0 hc h1 h2 h3 h4 h5 h6 h7 hret H locs la hP hS hl
  refine hs p e s m args below meth c Rm Q H locs _ _ la hc hP hS (by omega) (by omega) (fun x H1 hP1 hD1 hS1 => ?_)
  refine W_bnd (fun hb => ?_)
  have hx1 : x < H1.size := (hP1 S.length (x, _) (by rw [List.getElem?_append_right (by rw [wH_len]; exact Nat.le_refl _), wH_len, Nat.sub_self]; rfl)).lt
  have hx2 : pB P ≤ x := hD1.2 S.length (x, _) (by rw [List.getElem?_append_right (by rw [wH_len]; exact Nat.le_refl _), wH_len, Nat.sub_self]; rfl)
  have hx3 : ¬ x < pB P + S.length := by
    intro hlt
    have hi : x - pB P < S.length := by omega
    have hq := wH_at (cy := pC P) (bs := pB P) (I := I) (R := R) (List.getElem?_eq_getElem hi)
    have := hD1.1 (x - pB P) S.length (pB P + (x - pB P), _) (x, _) (by rw [List.getElem?_append_left (by rw [wH_len]; exact hi)]; exact hq) (by rw [List.getElem?_append_right (by rw [wH_len]; exact Nat.le_refl _), wH_len, Nat.sub_self]; rfl) (by dsimp only; omega)
    omega
  have hx : x = pB P + S.length := by omega
  subst hx
  rw [wH_push rfl (fun x hx kn => ce_zz hx kn)] at hP1
  have e1 : S.length - n0 + 1 = (S ++ [kn]).length - n0 := by rw [List.length_append, List.length_singleton]; omega
  have e2 : szs S - z0 + kn.2 = szs (S ++ [kn]) - z0 := by rw [szs_push]; omega
  rw [e1, e2]
  exact hw p e s m args below meth c Rm Q n0 z0 hc h1 (by rw [List.length_append]; omega) (by rw [szs_push]; omega) h4 h5 h6 h7 hret H1 locs la hP1 hS1 hl
/-- a call -/
theorem go_call {q' d' : Nat} {as rest : List aV} {r : Option aV} {I1 : aI} {R1 : aR} {S1 : aS} (hM : MtX P q' d' as I R S r I1 R1 S1)
    (hs : ∀ (p : Program) (e : Env) (s : State) (m : MethodId) (args : Array Value) (below : List Frame) (meth : Method) (c : Code) (Rm : Room) (H : Heap) (locs : List Loc) (cells slots : Nat) (la : Array Slot),
      Cx P q p s m args meth c → wP P I R S H → sP P s.heap H locs → d ≤ Rm.frames → 36 * d ≤ Rm.locals → la.size = mL q → H.size = pB P + S.length →
      cells + (S1.length - S.length) ≤ Rm.cells ∧ slots + (szs S1 - szs S) ≤ Rm.slots →
      va_Run p (pl P) e Rm s m args below meth c H locs cells slots (S1.length - S.length) (szs S1 - szs S) (F0 m pc la (st.map (cv (pB P) (pS P)))) (rest.map (cv (pB P) (pS P))) (qcX P r I1 R1 S1 (as.map (cv (pB P) (pS P))).toArray) (fun x => pB P ≤ x))
    (g : Go P q d K (pc + 3) ls (r.toList ++ rest) I1 R1 S1) : Go P q d K pc ls st I R S := by
  obtain ⟨hz0, -⟩ := hM
  obtain ⟨r2, I', R', S', hK, hz, hw⟩ := g
  refine ⟨r2, I', R', S', hK, ⟨by omega, by omega⟩, ?_⟩
  intro p e s m args below meth c Rm Q n0 z0 hc h1 h2 h3 h4 h5 h6 h7 hret H locs la hP hS hl
  refine W_bnd (fun hb => ?_)
  have hsz : H.size = pB P + S.length := by
    have := sz_low hP hS hc.2.2.2.2.2.2.2.2.2.1
    omega
  have hrun := hs p e s m args below meth c Rm H locs (S.length - n0) (szs S - z0) la hc hP hS h4 h5 hl.1 hsz ⟨by omega, by omega⟩
  intro T hT X
  obtain ⟨v, st₀, t, T', Lc, e0, X', hL, e1, e2, ⟨hv, hp1, hF⟩, stp⟩ := hrun T hT X
  cases hv
  have c1 : S.length - n0 + (S1.length - S.length) = S1.length - n0 := by omega
  have c2 : szs S - z0 + (szs S1 - szs S) = szs S1 - z0 := by omega
  rw [c1, c2] at X'
  rw [← e1] at hp1
  have hS1 : sP P s.heap T'.heap (locs ++ Lc) := by
    refine ⟨Nat.le_trans hS.1 (by rw [e1, ← e0]; exact hF.1), fun x g1 g2 => ?_, fun x hx => ?_⟩
    · rw [e1, hF.2 x (by rw [e0]; exact Nat.lt_of_lt_of_le g1 hS.1) g2, e0]
      exact hS.2.1 x g1 g2
    · rcases List.mem_append.mp hx with h | h
      · exact hS.2.2 x h
      · exact hL x h
  obtain ⟨t2, a1, b1⟩ := hw p e s m args below meth c Rm Q n0 z0 hc h1 (by omega) (by omega) h4 h5 h6 h7 hret T'.heap (locs ++ Lc) la hp1 hS1 hl T' rfl X'
  refine ⟨t2, stp t2 ?_, b1⟩
  have e3 : (r.toList ++ rest).map (cv (pB P) (pS P)) = (r.map (cv (pB P) (pS P))).toList ++ rest.map (cv (pB P) (pS P)) := by cases r <;> simp
  rw [e3] at a1
  exact a1
theorem blind_Rp {as : List Value} : FrameBlind (va_Pc as (Rp P I R S)) := by
  intro a U g mk h
  obtain ⟨h0, h1, h2, h3, h4, h5, h6⟩ := h
  exact ⟨h0, h1, h2, va_K.moved (u := U) (U := U.calling g mk a) (Vm.Alike.refl U.vm) h3, ⟨fun x hx => va_Nw.same rfl rfl (h4.1 x hx), va_AO.moved (Vm.Alike.refl U.vm) h4.2.1, va_AO.moved (Vm.Alike.refl U.vm) h4.2.2⟩, h5, h6⟩
theorem Rp_at {p : Program} {s : State} {m : MethodId} {args : Array Value} {meth : Method} {c : Code} {H : Heap} {locs : List Loc} (hc : Cx P q p s m args meth c) (hP : wP P I R S H) (hS : sP P s.heap H locs) (hsz : H.size = pB P + S.length) {U : State} (hU : U.heap = H) (hW : s.WarmedH U.vm) : Rp P I R S U := by
  obtain ⟨c0, c1, c2, c3, c4, c5, c6, c7, c8, c9, c10⟩ := hc
  refine ⟨by rw [hU]; exact hsz, by rw [hU]; exact hP, va_K.moved hW.alike c5, c6.warm hW, ?_, c8⟩
  rw [hU]
  exact (c7.moved hW.alike).kept (hS.2.1 _ (by omega) (by show ¬ pB P ≤ pS P; omega))
theorem gwM {q' : Nat} (hq : q' < qLaw) : GoodIn gw (wsM q') := by
  have hcm : Cond.code (mY q') (mB q') (mL q') (mR q') ∈ gw := gw_at (mc_pl q' hq) rfl
  intro w hw
  rcases List.mem_cons.mp hw with h | h
  · rw [h]; exact ⟨hcm, good_of_word rfl⟩
  · exact ⟨h, good_of_word (List.mem_filter.mp h).2⟩
theorem own_lt {q' : Nat} (hq : q' < qLaw) : (mY q').cls = RN (mO q') ∧ mO q' < 13 ∧ mL q' ≤ 16 := mo_ok q' hq
theorem cxB {p : Program} {s : State} {m : MethodId} {args : Array Value} {meth : Method} {c : Code} {Rm : Room} {q' d' idx : Nat} {S1 : aS} (hc : Cx P q p s m args meth c) (hq : q' < qLaw) (h4 : d' + 1 ≤ Rm.frames) (h5 : 36 * (d' + 1) ≤ Rm.locals) (hl : (Cond.methodLink (RN (mO q)) idx (mY q')) ∈ gw) :
    CallB Rm s args (RN (mO q)) idx (mY q') (mB q') (mL q') (mR q') (wsM q') (rmX d' S S1) (S1.length - S.length) (szs S1 - szs S) (mN q') := by
  obtain ⟨c0, c1, c2, c3, c4, -⟩ := hc
  obtain ⟨o1, o2, o3⟩ := own_lt hq
  refine ⟨rfl, rfl, h4, by show 8 + (mL q' + 11) + 36 * d' ≤ Rm.locals; omega, pay_in c4 (gwM hq), List.mem_cons_self, c4 _ (gw_at (mc_pl q' hq) rfl), ?_, ?_, fun sig h => ?_, c4 _ hl⟩
  · rw [o1]; exact c4 _ (gw_at (iz_pl _ o2) rfl)
  · rw [o1]; exact mh_ok _ o2
  · have h2 := md_ok q' hq
    rw [h] at h2
    exact (Option.some.inj h2).symm
theorem cxN {p : Program} {s : State} {m : MethodId} {args : Array Value} {meth : Method} {c : Code} {Rm : Room} {q' d' idx : Nat} {S1 : aS} (hc : Cx P q p s m args meth c) (hq : q' < qLaw) (h4 : d' + 1 ≤ Rm.frames) (h5 : 36 * (d' + 1) ≤ Rm.locals) (hl : va_Nw (.methodLinkNest (RN (mO q)) idx (mY q') "RepeaterWires") s) :
    va_CN Rm s args (RN (mO q)) idx (mY q') "RepeaterWires" (mB q') (mL q') (mR q') (wsM q') (rmX d' S S1) (S1.length - S.length) (szs S1 - szs S) (mN q') := by
  obtain ⟨c0, c1, c2, c3, c4, -⟩ := hc
  obtain ⟨o1, o2, o3⟩ := own_lt hq
  refine ⟨⟨rfl, rfl, h4, by show 8 + (mL q' + 11) + 36 * d' ≤ Rm.locals; omega, pay_in c4 (gwM hq), List.mem_cons_self⟩, c4 _ (gw_at (mc_pl q' hq) rfl), ?_, ?_, fun sig h => ?_, va_Nw.use rfl hl⟩
  · rw [o1]; exact c4 _ (gw_at (iz_pl _ o2) rfl)
  · rw [o1]; exact mh_ok _ o2
  · have h2 := md_ok q' hq
    rw [h] at h2
    exact (Option.some.inj h2).symm
end Pure
/-- a method's contract out of its walk -/
theorem Ok.of {P : aP} {q d : Nat} {K : aK} {as : List aV} {I : aI} {R : aR} {S : aS} (hq : q < qLaw) (ha : allc1 as = true) (hn : as.length ≤ mL q) (g : Go P q d K 0 (as ++ List.replicate (mL q - as.length) vu) [] I R S) : Ok P q d as I R S K := by
  obtain ⟨r, I', R', S', hK, hz, hw⟩ := g
  refine ⟨d, Nat.le_refl d, r, I', R', S', hK, hz, ?_⟩
  refine va_MetF (cc := mB q) (maxL := mL q) (ret := mR q) (mq_ok q hq) rfl ?_
  intro p e s m args below meth c s₁ B hml hv
  obtain ⟨rfl, hsz, hP, hKK, hN, hX, hbb⟩ := hv
  have hx := B.exec
  have hb := B.bytes
  have hr := B.returns
  have hlocks := B.notSynchronized
  have hts : ∀ w ∈ gw, w.before ((as.map (cv (pB P) (pS P))).toArray) s = true := fun w h => atoms_spec (ws := wsM q) B.pre w (List.mem_cons_of_mem _ h)
  have hown0 : s.vm.findClass (mY q).cls = some m.cls := findClass_of_methodNamed B.named
  have hown : s.vm.findClass (RN (mO q)) = some m.cls := by rw [← (own_lt hq).1]; exact hown0
  have hname : meth.name = (mY q).name := (name_of_methodNamed B.named B.method).1
  have hc : Cx P q p s m ((as.map (cv (pB P) (pS P))).toArray) meth c := ⟨hx, hb, hml, hown, hts, hKK, hN, hX, hbb, by omega, fun h => hname.trans h⟩
  have hl0 := lv_entry (as.map (cv (pB P) (pS P))) (n := mL q) (by rw [sl_len as ha]; exact hn)
  rw [lg_entry_eq]
  generalize (lg_sl (as.map (cv (pB P) (pS P))) ++ List.replicate (mL q - (lg_sl (as.map (cv (pB P) (pS P)))).length) Slot.unset).toArray = la at hl0 ⊢
  have hl : lv_has la (mL q) (lvL (pB P) (pS P) 0 (as ++ List.replicate (mL q - as.length) vu)) := ⟨hl0.1, hl0.2.1, fun x hx => hl0.2.2 x (lvx_args as 0 ha x hx)⟩
  have key := hw p e s m ((as.map (cv (pB P) (pS P))).toArray) below meth c (headSpec (wsM q) (rmX d S S')).room (MQ below (qcX P r I' R' S') ((as.map (cv (pB P) (pS P))).toArray) s (S'.length - S.length) (szs S' - szs S) (fun x => pB P ≤ x)) S.length (szs S) hc hsz (Nat.le_refl _) (Nat.le_refl _) (Nat.le_refl _) (Nat.le_refl _) (by show S'.length ≤ S.length + (S'.length - S.length); omega) (by show szs S' ≤ szs S + (szs S' - szs S); omega) ?_ s.heap [] la hP va_S.rf hl
  · rw [Nat.sub_self, Nat.sub_self] at key
    exact key
  · intro pc H locs la ho hP' hS'
    have hq' : ∀ t : State, t.heap = H → s.WarmedH t.vm → qcX P r I' R' S' ((as.map (cv (pB P) (pS P))).toArray) s (.returned (r.map (cv (pB P) (pS P)))) t := fun t ht _ => ⟨rfl, by rw [ht]; exact hP', hS'.F ht⟩
    rcases r with _ | z | x | z | z
    · exact W.vret hx hb (hr.trans ho.2) hq' hS'.2.2 ho.1
    · rcases ho.2 with h | ⟨h, h01⟩
      · exact W.iret hx hb (hr.trans h) hq' hS'.2.2 ho.1
      · refine W.zret hx hb (hr.trans h) ?_ hq' hS'.2.2 ho.1
        rcases h01 with rfl | rfl <;> decide +kernel
    · cases x with
      | none => exact ho.elim
      | some x =>
        obtain ⟨h1, rt, h2, h3⟩ := ho
        exact W.aret hx hb (hr.trans h2) h3 (Or.inr ⟨_, rfl⟩) hq' hS'.2.2 h1
    · exact ho.elim
    · exact ho.elim
