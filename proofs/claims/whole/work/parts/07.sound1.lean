/-! The small machine against the real one -/
def gw : List Cond := lw_tbl.filter goodWord
theorem gw_at {i : Nat} {w : Cond} (h : lw_tbl[i]? = some w) (hg : goodWord w = true) : w ∈ gw := List.mem_filter.mpr ⟨List.mem_of_getElem? h, hg⟩
abbrev clL : List vw_C := (List.range 9).map (fun c => (RN c, TF c, NF c))
theorem cl_at {ci : Nat} (h : ci < 9) : clL[ci]? = some (RN ci, TF ci, NF ci) := by
  rw [List.getElem?_map, List.getElem?_range h]; rfl
theorem in_gw {ci : Nat} (h : ci < 9) : ∀ w ∈ u_ws (RN ci) (TF ci) (NF ci), w ∈ gw := by
  intro w hw
  obtain ⟨k, hk, rfl⟩ := List.mem_map.mp hw
  refine gw_at (lay_pl ci h k (List.mem_range.mp hk)) ?_
  unfold u_lay
  split <;> rfl
abbrev tyL (cy : Nat → ClassId) : List (ClassId × FieldType) := [(cy 9, .int), (cy 10, .boolean), (cy 11, .object (RN 3)), (cy 12, .object (RN 4))]
def fv (bs : Nat) (I : aI) (R : aR) (a ci k : Nat) : Value := if isRf ci k = true then va_rf ((R a k).map (fun y => bs + y)) else .int (Int32.ofInt (I a k))
def ce (cy : Nat → ClassId) (bs : Nat) (I : aI) (R : aR) (a : Nat) (kn : Nat × Nat) : va_E :=
  if kn.1 < 9 then .inr (kn.1, (List.range (NF kn.1)).map (fv bs I R a kn.1))
  else if kn.1 < 11 then .inl (cy kn.1, kn.2, .inl (fun i => Int32.ofInt (I a i)))
  else .inl (cy kn.1, kn.2, .inr (.inr (.inr (.inr (fun i => (R a i).map (fun y => bs + y))))))
def wH (cy : Nat → ClassId) (bs : Nat) (I : aI) (R : aR) (S : aS) : va_W := S.mapIdx (fun a kn => (bs + a, ce cy bs I R a kn))
theorem wH_at {cy : Nat → ClassId} {bs : Nat} {I : aI} {R : aR} {S : aS} {a : Nat} {kn : Nat × Nat} (h : S[a]? = some kn) : (wH cy bs I R S)[a]? = some (bs + a, ce cy bs I R a kn) := by
  simp [wH, h]
theorem wH_inv {cy : Nat → ClassId} {bs : Nat} {I : aI} {R : aR} {S : aS} {a : Nat} {p : Nat × va_E} (h : (wH cy bs I R S)[a]? = some p) : p.1 = bs + a ∧ a < S.length := by
  rw [wH, List.getElem?_mapIdx] at h
  cases hs : S[a]? with
  | none => rw [hs] at h; cases h
  | some kn =>
    rw [hs] at h
    cases h
    exact ⟨rfl, (List.getElem?_eq_some_iff.mp hs).1⟩
theorem wH_D {cy : Nat → ClassId} {bs : Nat} {I : aI} {R : aR} {S : aS} : va_D (fun x => bs ≤ x) (wH cy bs I R S) := by
  refine ⟨fun i j p q hi hj e => ?_, fun k q hk => ?_⟩
  · have h1 := (wH_inv hi).1
    have h2 := (wH_inv hj).1
    omega
  · rw [(wH_inv hk).1]; exact Nat.le_add_right _ _
theorem wH_len {cy : Nat → ClassId} {bs : Nat} {I : aI} {R : aR} {S : aS} : (wH cy bs I R S).length = S.length := by simp [wH]
theorem wH_set {cy : Nat → ClassId} {bs : Nat} {I I' : aI} {R R' : aR} {S : aS} {a : Nat} {kn : Nat × Nat} {e : va_E} (h : S[a]? = some kn) (he : ce cy bs I' R' a kn = e) (ho : ∀ x, x ≠ a → ∀ kn, ce cy bs I' R' x kn = ce cy bs I R x kn) :
    (wH cy bs I R S).set a (bs + a, e) = wH cy bs I' R' S := by
  apply List.ext_getElem?
  intro i
  have hl : a < S.length := (List.getElem?_eq_some_iff.mp h).1
  by_cases hi : i = a
  · subst hi
    rw [List.getElem?_set_self (by rw [wH_len]; exact hl), wH_at h, he]
  · rw [List.getElem?_set_ne (Ne.symm hi)]
    simp only [wH, List.getElem?_mapIdx]
    cases S[i]? with
    | none => rfl
    | some kn => simp [ho i hi kn]
theorem wH_push {cy : Nat → ClassId} {bs : Nat} {I I' : aI} {R R' : aR} {S : aS} {kn : Nat × Nat} {e : va_E} (he : ce cy bs I' R' S.length kn = e) (ho : ∀ x, x ≠ S.length → ∀ kn, ce cy bs I' R' x kn = ce cy bs I R x kn) :
    wH cy bs I R S ++ [(bs + S.length, e)] = wH cy bs I' R' (S ++ [kn]) := by
  apply List.ext_getElem?
  intro i
  simp only [wH, List.getElem?_mapIdx]
  by_cases hi : i < S.length
  · rw [List.getElem?_append_left (by simpa using hi), List.getElem?_append_left hi, List.getElem?_mapIdx]
    cases S[i]? with
    | none => rfl
    | some kn => simp [ho i (by omega) kn]
  · by_cases h2 : i = S.length
    · subst h2
      rw [List.getElem?_append_right (by simp), List.getElem?_append_right (by simp)]
      simp [he]
    · rw [List.getElem?_eq_none (by simp; omega), List.getElem?_eq_none (by simp; omega)]
      rfl
theorem ce_uI {cy : Nat → ClassId} {bs : Nat} {I : aI} {R : aR} {a : Nat} {j z : Int} {x : Nat} (h : x ≠ a) (kn : Nat × Nat) : ce cy bs (uI I a j z) R x kn = ce cy bs I R x kn := by
  have e : ∀ k : Int, uI I a j z x k = I x k := fun k => by simp [uI, h]
  unfold ce
  have e2 : fv bs (uI I a j z) R x kn.1 = fv bs I R x kn.1 := by funext k; simp [fv, e]
  simp only [e, e2]
theorem ce_uR {cy : Nat → ClassId} {bs : Nat} {I : aI} {R : aR} {a : Nat} {j : Int} {z : Option Nat} {x : Nat} (h : x ≠ a) (kn : Nat × Nat) : ce cy bs I (uR R a j z) x kn = ce cy bs I R x kn := by
  have e : ∀ k : Int, uR R a j z x k = R x k := fun k => by simp [uR, h]
  unfold ce
  have e2 : fv bs I (uR R a j z) x kn.1 = fv bs I R x kn.1 := by funext k; simp [fv, e]
  simp only [e, e2]
theorem ce_zz {cy : Nat → ClassId} {bs : Nat} {I : aI} {R : aR} {a x : Nat} (h : x ≠ a) (kn : Nat × Nat) : ce cy bs (zI I a) (zR R a) x kn = ce cy bs I R x kn := by
  have e : ∀ k : Int, zI I a x k = I x k := fun k => by simp [zI, h]
  have e1 : ∀ k : Int, zR R a x k = R x k := fun k => by simp [zR, h]
  unfold ce
  have e2 : fv bs (zI I a) (zR R a) x kn.1 = fv bs I R x kn.1 := by funext k; simp [fv, e, e1]
  simp only [e, e1, e2]
theorem ce_cI {cy : Nat → ClassId} {bs : Nat} {I : aI} {R : aR} {a t : Nat} {sp dp n : Int} {x : Nat} (h : x ≠ t) (kn : Nat × Nat) : ce cy bs (cI I a sp t dp n) R x kn = ce cy bs I R x kn := by
  have e : ∀ k : Int, cI I a sp t dp n x k = I x k := fun k => by simp [cI, h]
  unfold ce
  have e2 : fv bs (cI I a sp t dp n) R x kn.1 = fv bs I R x kn.1 := by funext k; simp [fv, e]
  simp only [e, e2]
theorem fs_set {n k : Nat} {f g : Nat → Value} {v : Value} (h1 : g k = v) (h2 : ∀ j, j ≠ k → g j = f j) : ((List.range n).map f).set k v = (List.range n).map g := by
  apply List.ext_getElem?
  intro i
  by_cases hi : i < n
  · by_cases e : i = k
    · subst e
      rw [List.getElem?_set_self (by simpa using hi), List.getElem?_map, List.getElem?_range hi, Option.map_some, h1]
    · rw [List.getElem?_set_ne (Ne.symm e), List.getElem?_map, List.getElem?_map, List.getElem?_range hi, Option.map_some, Option.map_some, h2 i e]
  · rw [List.getElem?_eq_none (by simp; omega), List.getElem?_eq_none (by simp; omega)]
/-! numbers -/
theorem tI {x : Int} (h : iR x) : (Int32.ofInt x).toInt = x := Int32.toInt_ofInt_of_le (by have := h.1; omega) (by have := h.2; omega)
theorem tL {x : Int} (h1 : 0 ≤ x) (h2 : x < 9223372036854775808) : (Int64.ofInt x).toInt = x := Int64.toInt_ofInt_of_le (by omega) (by omega)
theorem eqI {x y : Int} (h : iR x) (h2 : iR y) : Int32.ofInt x = Int32.ofInt y ↔ x = y := by rw [← Int32.toInt_inj, tI h, tI h2]
theorem ltI {x y : Int} (h : iR x) (h2 : iR y) : Int32.ofInt x < Int32.ofInt y ↔ x < y := by rw [Int32.lt_iff_toInt_lt, tI h, tI h2]
theorem leI {x y : Int} (h : iR x) (h2 : iR y) : Int32.ofInt x ≤ Int32.ofInt y ↔ x ≤ y := by rw [Int32.le_iff_toInt_le, tI h, tI h2]
theorem iR0 : iR 0 := ⟨by decide, by decide⟩
theorem zeroI : (0 : Int32) = Int32.ofInt 0 := by decide
theorem clI {j : Int} (h1 : 0 ≤ j) (h2 : j < 2147483648) : (Int32.ofInt j).toNatClampNeg = j.toNat := by
  show (Int32.ofInt j).toInt.toNat = _
  rw [tI ⟨by omega, h2⟩]
theorem inI {j : Int} {n : Nat} (h1 : 0 ≤ j) (h2 : j < n) (h3 : n ≤ 1000000) : vp_in (Int32.ofInt j) n := by
  rw [vp_in_iff, tI ⟨by omega, by omega⟩]
  exact ⟨h1, h2⟩
theorem divI {x y : Int} (h1 : 0 ≤ x) (h2 : x < 2147483648) (h3 : 0 < y) (h4 : y < 2147483648) : Int32.ofInt x / Int32.ofInt y = Int32.ofInt (x / y) := by
  obtain ⟨a, rfl⟩ := Int.eq_ofNat_of_zero_le h1
  obtain ⟨c, rfl⟩ := Int.eq_ofNat_of_zero_le (Int.le_of_lt h3)
  have e : ∀ n : Nat, Int32.ofInt (n : Int) = nI n := fun n => Int32.ofInt_eq_ofNat
  rw [e, e, pk_div (by omega) (by omega) (by omega), ← e, Int.natCast_ediv]
theorem remI {x y : Int} (h1 : 0 ≤ x) (h2 : x < 2147483648) (h3 : 0 < y) (h4 : y < 2147483648) : Int32.ofInt x - Int32.ofInt x / Int32.ofInt y * Int32.ofInt y = Int32.ofInt (x % y) := by
  rw [divI h1 h2 h3 h4, ← Int32.ofInt_mul, ← Int32.ofInt_sub, Int.emod_def, Int.mul_comm]
theorem remL {x y : Int} (h1 : 0 ≤ x) (h2 : x < 9223372036854775808) (h3 : 0 < y) (h4 : y < 9223372036854775808) : Int64.ofInt x - Int64.ofInt x / Int64.ofInt y * Int64.ofInt y = Int64.ofInt (x % y) := by
  obtain ⟨a, rfl⟩ := Int.eq_ofNat_of_zero_le h1
  obtain ⟨c, rfl⟩ := Int.eq_ofNat_of_zero_le (Int.le_of_lt h3)
  have e : ∀ n : Nat, Int64.ofInt (n : Int) = lN n := fun n => Int64.ofInt_eq_ofNat
  rw [e, e, pk_lRem (by omega) (by omega) (by omega), ← e, Int.natCast_emod]
/-! locals and the stack -/
theorem cat1 {bs b : Nat} {v : aV} (h : c1 v = true) : (cv bs b v).category = 1 := by
  rcases v with z | r | z | x
  · rfl
  · cases r <;> rfl
  · cases h
  · rfl
def lvL (bs b : Nat) : Nat → List aV → List (Nat × Value)
  | _, [] => []
  | i, v :: l => match c1 v with
    | true => (i, cv bs b v) :: lvL bs b (i + 1) l
    | false => lvL bs b (i + 1) l
theorem lvL_mem {bs b : Nat} : ∀ (ls : List aV) (i : Nat) (q : Nat × Value), q ∈ lvL bs b i ls ↔ ∃ k, c1 (nth ls k) = true ∧ q = (i + k, cv bs b (nth ls k))
  | [], i, q => by
    constructor
    · intro h; cases h
    · rintro ⟨k, h, -⟩; cases h
  | v :: l, i, q => by
    have ih := lvL_mem (bs := bs) (b := b) l (i + 1) q
    constructor
    · intro h
      unfold lvL at h
      split at h
      · rename_i hc
        rcases List.mem_cons.mp h with h | h
        · exact ⟨0, hc, h⟩
        · obtain ⟨k, h1, h2⟩ := ih.mp h
          exact ⟨k + 1, h1, by rw [h2]; congr 1; omega⟩
      · obtain ⟨k, h1, h2⟩ := ih.mp h
        exact ⟨k + 1, h1, by rw [h2]; congr 1; omega⟩
    · rintro ⟨k, h1, h2⟩
      unfold lvL
      cases k with
      | zero =>
        have hc : c1 v = true := h1
        rw [hc]
        rw [h2]
        exact List.mem_cons_self
      | succ k =>
        have h3 : q ∈ lvL bs b (i + 1) l := ih.mpr ⟨k, h1, by rw [h2]; show (i + (k + 1), _) = (i + 1 + k, _); congr 1; omega⟩
        split
        · exact List.mem_cons_of_mem _ h3
        · exact h3
theorem nth_setn {w : aV} : ∀ (ls : List aV) (a k : Nat), nth (setn ls a w) k = w ∨ (nth (setn ls a w) k = nth ls k ∧ (k = a → ls.length ≤ a))
  | [], a, k => Or.inr ⟨rfl, fun _ => Nat.zero_le _⟩
  | v :: l, 0, 0 => Or.inl rfl
  | v :: l, 0, k + 1 => Or.inr ⟨rfl, fun h => by omega⟩
  | v :: l, a + 1, 0 => Or.inr ⟨rfl, fun h => by omega⟩
  | v :: l, a + 1, k + 1 => by
    rcases nth_setn (w := w) l a k with h | ⟨h, h2⟩
    · exact Or.inl h
    · exact Or.inr ⟨h, fun e => by have := h2 (by omega); simp; omega⟩
theorem nth_big : ∀ (ls : List aV) (k : Nat), ls.length ≤ k → nth ls k = vu
  | [], _, _ => rfl
  | _ :: l, 0, h => by simp at h
  | _ :: l, k + 1, h => nth_big l k (by simp at h; omega)
theorem nth_setn_ne {w : aV} : ∀ (ls : List aV) (a k : Nat), k ≠ a → nth (setn ls a w) k = nth ls k
  | [], a, k, _ => rfl
  | v :: l, 0, 0, h => absurd rfl h
  | v :: l, 0, k + 1, _ => rfl
  | v :: l, a + 1, 0, _ => rfl
  | v :: l, a + 1, k + 1, h => nth_setn_ne l a k (by omega)
theorem lvx_read {bs b n : Nat} {la : Array Slot} {ls : List aV} {a : Nat} (h : lv_has la n (lvL bs b 0 ls)) (hc : c1 (nth ls a) = true) : la[a]? = some (.val (cv bs b (nth ls a))) := by
  have := h.2.2 (0 + a, cv bs b (nth ls a)) ((lvL_mem ls 0 _).mpr ⟨a, hc, rfl⟩)
  rw [Nat.zero_add] at this
  exact this
theorem lvx_set {bs b n : Nat} {la : Array Slot} {ls : List aV} {a : Nat} {v : aV} (h : lv_has la n ((a, cv bs b v) :: (lvL bs b 0 ls).filter (fun q => !(q.1 == a) && !(q.1 + 1 == a && q.2.category == 2)))) : lv_has la n (lvL bs b 0 (setn ls a v)) := by
  refine ⟨h.1, h.2.1, fun q hq => ?_⟩
  obtain ⟨k, h1, h2⟩ := (lvL_mem _ _ _).mp hq
  rw [Nat.zero_add] at h2
  apply h.2.2
  by_cases hk : k = a
  · subst hk
    rcases nth_setn (w := v) ls k k with e | ⟨e, e2⟩
    · rw [e] at h2; rw [h2]; exact List.mem_cons_self
    · rw [e, nth_big ls k (e2 rfl)] at h1
      cases h1
  · rw [nth_setn_ne ls a k hk] at h1 h2
    refine List.mem_cons_of_mem _ (List.mem_filter.mpr ⟨(lvL_mem _ _ _).mpr ⟨k, h1, by rw [Nat.zero_add]; exact h2⟩, ?_⟩)
    rw [h2]
    simp [hk, cat1 (bs := bs) (b := b) h1]
theorem lvx_args {bs b k : Nat} : ∀ (as : List aV) (i : Nat), allc1 as = true → ∀ q ∈ lvL bs b i (as ++ List.replicate k vu), q ∈ lv_args i (as.map (cv bs b))
  | [], i, _, q, hq => by
    obtain ⟨j, h1, h2⟩ := (lvL_mem _ _ _).mp hq
    have : ∀ (n j : Nat), nth (List.replicate n vu) j = vu := by
      intro n
      induction n with
      | zero => intro j; rfl
      | succ n ih => intro j; cases j with
        | zero => rfl
        | succ j => exact ih j
    rw [show ([] : List aV) ++ List.replicate k vu = List.replicate k vu from rfl, this] at h1
    cases h1
  | v :: l, i, h, q, hq => by
    unfold allc1 at h
    split at h
    · rename_i hc
      have hq : q ∈ lvL bs b i (v :: (l ++ List.replicate k vu)) := hq
      unfold lvL at hq
      rw [hc] at hq
      show q ∈ (i, cv bs b v) :: lv_args (if (cv bs b v).category = 2 then i + 2 else i + 1) (l.map (cv bs b))
      rw [cat1 (bs := bs) (b := b) hc, if_neg (by decide)]
      rcases List.mem_cons.mp hq with e | e
      · rw [e]; exact List.mem_cons_self
      · exact List.mem_cons_of_mem _ (lvx_args l (i + 1) h q e)
    · cases h
theorem sl_len {bs b : Nat} : ∀ (as : List aV), allc1 as = true → (lg_sl (as.map (cv bs b))).length = as.length
  | [], _ => rfl
  | v :: l, h => by
    unfold allc1 at h
    split at h
    · rename_i hc
      have ih := sl_len (bs := bs) (b := b) l h
      unfold lg_sl at ih ⊢
      rw [List.map_cons, List.flatMap_cons, List.length_append, ih, cat1 (bs := bs) (b := b) hc]
      simp; omega
    · cases h
theorem okst_sum {bs b : Nat} : ∀ (st : List aV) (n : Nat), okst st n = true → ((st.map (cv bs b)).map fun v => v.category).sum ≤ n
  | [], _, _ => Nat.zero_le _
  | _ :: _, 0, h => by cases h
  | v :: l, n + 1, h => by
    unfold okst at h
    split at h
    · rename_i hc
      have ih := okst_sum (bs := bs) (b := b) l n h
      rw [List.map_cons, List.map_cons, List.sum_cons, cat1 hc]
      omega
    · cases h
theorem popn_eq : ∀ (n : Nat) (acc st as rest : List aV), popn n acc st = some (as, rest) → acc.reverse ++ st = as.reverse ++ rest ∧ as.length = n + acc.length
  | 0, acc, st, as, rest, h => by
    cases h
    exact ⟨rfl, by omega⟩
  | n + 1, acc, [], as, rest, h => by cases h
  | n + 1, acc, v :: st, as, rest, h => by
    obtain ⟨h1, h2⟩ := popn_eq n (v :: acc) st as rest h
    refine ⟨?_, by rw [h2]; simp; omega⟩
    rw [← h1]
    simp
