/-! THE CLAIM OUT OF ONE WALK OF THE LAW'S BODY. Your part is whole_start (and what it stands on); all else here is the same for every law, but numbers. -/
def R_law : String := "RepeaterWiresLaw"
def lw_P (b : Addr) (xs : List Int32) (args : Array Value) (s : State) : Prop := args = #[.ref b] ∧ s.IntsAt b xs ∧ xs.length ≤ 3584 ∧ (Jvm.Cond.and given_1 narrow_1).before args s = true
def lw_Q (_ : Array Value) (s : State) (o : Outcome) (t : State) : Prop := o = .returned (some (.int 1)) ∧ Framed s o t [] 600000 7302250
def lw_Z (below : List Frame) (a : Array Value) (s : State) : State → Prop := fun t => ∃ o, t.status = .running ∧ Ended t below o ∧ lw_Q a s o t
/-- the law's own end, with 1 on the stack, nothing written that was there before, its room as the claim has it -/
theorem lw_ret {p : Program} {l : Launch} {e : Env} {s : State} {m : MethodId} {below : List Frame} {meth : Method} {c : Code} {b : Nat} (hx : p.tables.exec = Jvm.exec) (hb : c.code = code) (hr : meth.sig.returnType = ret) (hlocks : meth.locks = false) {pc : Nat} {H : Heap} {ls : Array Slot} (hdg : decode code pc = .ok (.ireturn, 1)) : W p l e room_1 s m #[Value.ref b] below meth c H [] 600000 7302250 (lw_Z below #[Value.ref b] s) (F0 m pc ls [.int 1]) := by
  intro T hT X
  obtain ⟨fs, hret, hrun, hended, hW, hframe⟩ := X.leave (v := some (.int 1)) (hlocks := hlocks) (fun h => by rw [hr] at h; cases h)
  have hmeth' : T.vm.method? m = some meth := X.method'
  refine ⟨T.setFrames fs, ?_, .returned (some (.int 1)), hrun, hended, rfl, ⟨_, rfl⟩, hW, hframe⟩
  jvm_step X.here [X.here.top, hx, hb, hdg, hmeth', hr, ret, narrow_b1]
  (try refine ⟨rfl, ?_⟩); (try refine ⟨rfl, ?_⟩)
  first | (intro acts; rw [hret _ acts rfl rfl rfl]) | rw [hret _ _ rfl rfl rfl]
  exact Steps.refl _
/-- what holds at the law's entry: the machine, the code, the tables' words (any of lw_tbl by 'hts w (by decide +kernel)'), the script of L ints xs at the cell b, what the Statement gives of the start (any of its parts by flat_of_before) -/
def lw_At (p : Program) (s : State) (m : MethodId) (meth : Method) (c : Code) (b L : Nat) (xs : Nat → Int32) : Prop :=
  p.tables.exec = Jvm.exec ∧ c.code = code ∧ meth.sig.returnType = ret ∧ c.maxLocals = 4 ∧ s.vm.findClass R_law = some m.cls ∧ (∀ w ∈ lw_tbl, w.before #[Value.ref b] s = true) ∧ va_X b L xs s s.heap ∧ b < s.heap.size ∧ meth.locks = false ∧ (Jvm.Cond.and given_1 narrow_1).before #[Value.ref b] s = true
-- ===== YOUR PART BEGINS =====
theorem iR_toInt (x : Int32) : iR x.toInt := ⟨by have := Int32.le_toInt x; omega, by have := Int32.toInt_lt x; omega⟩
theorem whole_open (hlaw : lawOk) {p : Program} {e : Env} {s : State} {m : MethodId} {below : List Frame} {meth : Method} {c : Code} (l : Launch) {b L : Nat} {xs : Nat → Int32} (hL : L ≤ 3584) (C0 : lw_At p s m meth c b L xs) : W p l e room_1 s m #[Value.ref b] below meth c s.heap [] 0 0 (lw_Z below #[Value.ref b] s) (entryFrame m ([Value.ref b] : List Value).toArray 4) := by
  obtain ⟨hx, hb, hr, hml, hown, hts, hX, hbl, hlocks, hgv⟩ := id C0
  have hgw : ∀ w ∈ gw, w.before #[Value.ref b] s = true := fun w h => hts w (List.mem_filter.mp h).1
  have hkn : ∀ c, ∃ x : ClassId × (Nat → Nat), c < 9 → u_Kn s (RN c) (TF c) (NF c) x.1 x.2 := by
    intro c
    by_cases h : c < 9
    · obtain ⟨cC, iS, hk⟩ := u_known (C := RN c) (T := TF c) (N := NF c) (n := NF c) hgw (in_gw h) (hgw _ (gw_at (in_pl c h) rfl))
      exact ⟨(cC, iS), fun _ => hk⟩
    · exact ⟨(0, fun _ => 0), fun h2 => absurd h2 h⟩
  obtain ⟨c9, k9, m9, a1, a2, a3⟩ := Cond.arrayClass_spec (hgw _ (gw_at arr_pl.1 rfl))
  obtain ⟨c10, k10, m10, b1, b2, b3⟩ := Cond.arrayClass_spec (hgw _ (gw_at arr_pl.2.1 rfl))
  have o3 : va_AO (RN 3) s := va_AO.of (hts _ (List.mem_of_getElem? arr_pl.2.2.1))
  have o4 : va_AO (RN 4) s := va_AO.of (hts _ (List.mem_of_getElem? arr_pl.2.2.2))
  obtain ⟨m11, c11, k11, d1, d2, d3, d4, d5⟩ := Cond.arrayOver_spec (va_AO.use (A := #[]) o3)
  obtain ⟨m12, c12, k12, f1, f2, f3, f4, f5⟩ := Cond.arrayOver_spec (va_AO.use (A := #[]) o4)
  have hK : va_K (fun c => (Classical.choose (hkn c)).1, fun c => (Classical.choose (hkn c)).2) clL (tyL (fun k => if k = 9 then c9 else if k = 10 then c10 else if k = 11 then c11 else c12)) s := by
    refine ⟨fun c q hq => ?_, fun k q hq => ?_⟩
    · have hc : c < 9 := by
        have := (List.getElem?_eq_some_iff.mp hq).1
        simpa using this
      rw [cl_at hc] at hq
      cases hq
      exact Classical.choose_spec (hkn c) hc
    · match k, hq with
      | 0, hq =>
        cases hq
        exact ⟨fun n z => ⟨fun k h => (by cases h), k9, a2, m9, a3⟩, a1⟩
      | 1, hq =>
        cases hq
        exact ⟨fun n z => ⟨fun k h => (by cases h), k10, b2, m10, b3⟩, b1⟩
      | 2, hq =>
        cases hq
        exact ⟨fun n z => ⟨fun k h => (by cases h), k11, d3, m11, d4⟩, k11, m11, d3, d4, d1, d5⟩
      | 3, hq =>
        cases hq
        exact ⟨fun n z => ⟨fun k h => (by cases h), k12, f3, m12, f4⟩, k12, m12, f3, f4, f1, f5⟩
      | n + 4, hq => cases hq
  have hN : Nz s := ⟨fun x hx => va_Nw.of rfl (hts _ (List.mem_of_getElem? (NLK_pl x hx))), o3, o4⟩
  obtain ⟨P, rfl⟩ : ∃ P : aP, P = (l, (fun c => (Classical.choose (hkn c)).1, fun c => (Classical.choose (hkn c)).2), (fun k => if k = 9 then c9 else if k = 10 then c10 else if k = 11 then c11 else c12), s.heap.size, b, L, fun j => (xs j).toInt) := ⟨_, rfl⟩
  obtain ⟨r, I', R', S', ⟨rfl, hk1, hk2⟩, hz, hw⟩ := hlaw (l, (fun c => (Classical.choose (hkn c)).1, fun c => (Classical.choose (hkn c)).2), (fun k => if k = 9 then c9 else if k = 10 then c10 else if k = 11 then c11 else c12), s.heap.size, b, L, fun j => (xs j).toInt) hL (fun j => iR_toInt (xs j))
  have hX2 : va_X b L (fun j => Int32.ofInt (xs j).toInt) s s.heap := by
    simp only [Int32.ofInt_toInt]
    exact hX
  have hl0 := lv_entry ([.ref b]) (n := 4) (Nat.le_of_ble_eq_true rfl)
  rw [lg_entry_eq]
  generalize (lg_sl ([.ref b]) ++ List.replicate (4 - (lg_sl ([.ref b])).length) Slot.unset).toArray = la at hl0 ⊢
  have hl : lv_has la 4 [(0, .ref b)] := hl0
  refine hw p e s m #[Value.ref b] below meth c room_1 (lw_Z below #[Value.ref b] s) 0 0 ⟨hx, hb, hml, hown, hgw, hK, hN, hX2, hbl, Nat.le_refl _, fun h => absurd h (by decide +kernel)⟩ rfl (Nat.zero_le _) (Nat.zero_le _) (Nat.le_of_ble_eq_true rfl) (Nat.le_of_ble_eq_true rfl) (by show S'.length ≤ 0 + 600000; omega) (by show szs S' ≤ 0 + 7302250; omega) ?_ s.heap [] la (fun k q h => by simp [wH] at h) va_S.rf hl
  intro pc H locs la ho hP hS
  refine va_forget (fun q hq => hS.2.2 q hq) ?_
  refine W.widen (k := 600000) (n := 7302250) (by omega) (by omega) ?_
  exact lw_ret hx hb hr hlocks ho.1
