/-! A SMALL MACHINE over whole numbers, cells by their order of making; what it does is tied to the real one in the next part -/
abbrev aV : Type := Int ⊕ (Option Nat ⊕ (Int ⊕ Bool))
abbrev aI : Type := Nat → Int → Int
abbrev aR : Type := Nat → Int → Option Nat
abbrev aS : Type := List (Nat × Nat)
abbrev aE : Type := Nat × Nat × Nat × Int × Nat × List (Int × Nat)
abbrev aG : Type := Nat → List aV → List aV → aI → aR → aS → Prop
abbrev aK : Type := Option aV → aI → aR → aS → Prop
abbrev aC : Type := Nat → List aV → aI → aR → aS → aK → Prop
abbrev vi (z : Int) : aV := .inl z
abbrev vr (a : Nat) : aV := .inr (.inl (some a))
abbrev vu : aV := .inr (.inr (.inr false))
abbrev vx : aV := .inr (.inr (.inr true))
def cv (bs b : Nat) : aV → Value
  | .inl z => .int (Int32.ofInt z)
  | .inr (.inl none) => .null
  | .inr (.inl (some a)) => .ref (bs + a)
  | .inr (.inr (.inl z)) => .long (Int64.ofInt z)
  | .inr (.inr (.inr _)) => .ref b
/-- a value of one word -/
def c1 : aV → Bool
  | .inl _ => true
  | .inr (.inl _) => true
  | .inr (.inr (.inl _)) => false
  | .inr (.inr (.inr x)) => x
def uI (I : aI) (a : Nat) (j z : Int) : aI := fun x k => if x = a ∧ k = j then z else I x k
def uR (R : aR) (a : Nat) (j : Int) (z : Option Nat) : aR := fun x k => if x = a ∧ k = j then z else R x k
def zI (I : aI) (a : Nat) : aI := fun x k => if x = a then 0 else I x k
def zR (R : aR) (a : Nat) : aR := fun x k => if x = a then none else R x k
/-- a stretch of an array copied -/
def cI (I : aI) (a : Nat) (sp : Int) (t : Nat) (dp n : Int) : aI := fun x k => if x = t ∧ dp ≤ k ∧ k < dp + n then I a (sp + (k - dp)) else I x k
def bAnd (x y : Int) : Int := (Int32.ofInt x &&& Int32.ofInt y).toInt
def bOr (x y : Int) : Int := (Int32.ofInt x ||| Int32.ofInt y).toInt
def bXor (x y : Int) : Int := (Int32.ofInt x ^^^ Int32.ofInt y).toInt
def bShl (x y : Int) : Int := (Int32.ofInt x <<< (Int32.ofInt y &&& 31)).toInt
def bShr (x y : Int) : Int := (Int32.ofInt x >>> (Int32.ofInt y &&& 31)).toInt
def bUshr (x y : Int) : Int := ((Int32.ofInt x).toUInt32 >>> ((Int32.ofInt y).toUInt32 &&& Int32.toUInt32 31)).toInt32.toInt
def bLand (x y : Int) : Int := (Int64.ofInt x &&& Int64.ofInt y).toInt
def isRf (ci k : Nat) : Bool := match tF ci k with
  | .int => false
  | .boolean => false
  | _ => true
def isZf (ci k : Nat) : Bool := match tF ci k with
  | .boolean => true
  | _ => false
def nth : List aV → Nat → aV
  | [], _ => vu
  | v :: _, 0 => v
  | _ :: l, n + 1 => nth l n
def setn : List aV → Nat → aV → List aV
  | [], _, _ => []
  | _ :: l, 0, w => w :: l
  | v :: l, n + 1, w => v :: setn l n w
/-- the n topmost, the lowest of them first, and the rest -/
def popn : Nat → List aV → List aV → Option (List aV × List aV)
  | 0, acc, st => some (acc, st)
  | _ + 1, _, [] => none
  | n + 1, acc, v :: st => popn n (v :: acc) st
def okst : List aV → Nat → Bool
  | [], _ => true
  | _ :: _, 0 => false
  | v :: l, n + 1 => match c1 v with
    | true => okst l n
    | false => false
def allc1 : List aV → Bool
  | [] => true
  | v :: l => match c1 v with
    | true => allc1 l
    | false => false
def tsw (x : Int) (g : Nat → Prop) : Int → List (Int × Nat) → Prop
  | _, [] => True
  | lo, q :: l => (x = lo → g q.2) ∧ tsw x g (lo + 1) l
def lswD (x : Int) (g : Prop) : List (Int × Nat) → Prop
  | [] => g
  | q :: l => ¬ x = q.1 → lswD x g l
def lsw (x : Int) (g : Nat → Prop) : List (Int × Nat) → Prop
  | [] => True
  | q :: l => (x = q.1 → g q.2) ∧ lsw x g l
abbrev iR (x : Int) : Prop := -2147483648 ≤ x ∧ x < 2147483648
/-- one instruction -/
def stp (q L : Nat) (X : Nat → Int) (G : aG) (C : aC) (K : aK) (o a : Nat) (b : Int) (nx : Nat) (xs : List (Int × Nat)) (ls st : List aV) (I : aI) (R : aR) (S : aS) : Prop :=
  match o with
  | 1 => match nth ls a with
    | .inl z => G nx ls (.inl z :: st) I R S
    | _ => False
  | 2 => match nth ls a with
    | .inr (.inl (some x)) => G nx ls (vr x :: st) I R S
    | .inr (.inr (.inr true)) => G nx ls (vx :: st) I R S
    | _ => False
  | 3 => match st with
    | .inl z :: st => G nx (setn ls a (.inl z)) st I R S
    | _ => False
  | 4 => match st with
    | .inr (.inl (some x)) :: st => G nx (setn ls a (vr x)) st I R S
    | _ => False
  | 5 => G nx ls (.inl b :: st) I R S
  | 6 => G nx ls (.inl b :: st) I R S
  | 7 => G nx ls (.inl b :: st) I R S
  | 8 => G nx ls (.inl b :: st) I R S
  | 9 => G nx ls (.inl b :: st) I R S
  | 10 => G nx ls (.inr (.inr (.inl b)) :: st) I R S
  | 11 => match st with
    | .inl y :: .inl x :: st => G nx ls (.inl (x + y) :: st) I R S
    | _ => False
  | 12 => match st with
    | .inl y :: .inl x :: st => G nx ls (.inl (x - y) :: st) I R S
    | _ => False
  | 13 => match st with
    | .inl y :: .inl x :: st => G nx ls (.inl (x * y) :: st) I R S
    | _ => False
  | 14 => match st with
    | .inl y :: .inl x :: st => ∃ _ : 0 ≤ x ∧ x < 2147483648 ∧ 0 < y ∧ y < 2147483648, G nx ls (.inl (x / y) :: st) I R S
    | _ => False
  | 15 => match st with
    | .inl y :: .inl x :: st => ∃ _ : 0 ≤ x ∧ x < 2147483648 ∧ 0 < y ∧ y < 2147483648, G nx ls (.inl (x % y) :: st) I R S
    | _ => False
  | 16 => match st with
    | .inl y :: .inl x :: st => G nx ls (.inl (bAnd x y) :: st) I R S
    | _ => False
  | 17 => match st with
    | .inl y :: .inl x :: st => G nx ls (.inl (bOr x y) :: st) I R S
    | _ => False
  | 18 => match st with
    | .inl y :: .inl x :: st => G nx ls (.inl (bXor x y) :: st) I R S
    | _ => False
  | 19 => match st with
    | .inl y :: .inl x :: st => G nx ls (.inl (bShl x y) :: st) I R S
    | _ => False
  | 20 => match st with
    | .inl y :: .inl x :: st => G nx ls (.inl (bShr x y) :: st) I R S
    | _ => False
  | 21 => match st with
    | .inl y :: .inl x :: st => G nx ls (.inl (bUshr x y) :: st) I R S
    | _ => False
  | 22 => match st with
    | .inl x :: st => ∃ _ : iR x, G nx ls (.inr (.inr (.inl x)) :: st) I R S
    | _ => False
  | 23 => match st with
    | .inr (.inr (.inl x)) :: st => G nx ls (.inl x :: st) I R S
    | _ => False
  | 24 => match st with
    | .inr (.inr (.inl y)) :: .inr (.inr (.inl x)) :: st => G nx ls (.inr (.inr (.inl (x * y))) :: st) I R S
    | _ => False
  | 25 => match st with
    | .inr (.inr (.inl y)) :: .inr (.inr (.inl x)) :: st => G nx ls (.inr (.inr (.inl (x + y))) :: st) I R S
    | _ => False
  | 26 => match st with
    | .inr (.inr (.inl y)) :: .inr (.inr (.inl x)) :: st => G nx ls (.inr (.inr (.inl (bLand x y))) :: st) I R S
    | _ => False
  | 27 => match st with
    | .inr (.inr (.inl y)) :: .inr (.inr (.inl x)) :: st => ∃ _ : 0 ≤ x ∧ x < 9223372036854775808 ∧ 0 < y ∧ y < 9223372036854775808, G nx ls (.inr (.inr (.inl (x % y))) :: st) I R S
    | _ => False
  | 28 => match nth ls a with
    | .inl z => G nx (setn ls a (.inl (z + b))) st I R S
    | _ => False
  | 29 => G a ls st I R S
  | 30 => match st with
    | .inl x :: st => ∃ _ : iR x, (x = 0 → G a ls st I R S) ∧ (¬ x = 0 → G nx ls st I R S)
    | _ => False
  | 31 => match st with
    | .inl x :: st => ∃ _ : iR x, (¬ x = 0 → G a ls st I R S) ∧ (x = 0 → G nx ls st I R S)
    | _ => False
  | 32 => match st with
    | .inl x :: st => ∃ _ : iR x, (x < 0 → G a ls st I R S) ∧ (¬ x < 0 → G nx ls st I R S)
    | _ => False
  | 33 => match st with
    | .inl x :: st => ∃ _ : iR x, (0 ≤ x → G a ls st I R S) ∧ (¬ 0 ≤ x → G nx ls st I R S)
    | _ => False
  | 34 => match st with
    | .inl x :: st => ∃ _ : iR x, (0 < x → G a ls st I R S) ∧ (¬ 0 < x → G nx ls st I R S)
    | _ => False
  | 35 => match st with
    | .inl x :: st => ∃ _ : iR x, (x ≤ 0 → G a ls st I R S) ∧ (¬ x ≤ 0 → G nx ls st I R S)
    | _ => False
  | 36 => match st with
    | .inl y :: .inl x :: st => ∃ _ : iR x ∧ iR y, (x = y → G a ls st I R S) ∧ (¬ x = y → G nx ls st I R S)
    | _ => False
  | 37 => match st with
    | .inl y :: .inl x :: st => ∃ _ : iR x ∧ iR y, (¬ x = y → G a ls st I R S) ∧ (x = y → G nx ls st I R S)
    | _ => False
  | 38 => match st with
    | .inl y :: .inl x :: st => ∃ _ : iR x ∧ iR y, (x < y → G a ls st I R S) ∧ (¬ x < y → G nx ls st I R S)
    | _ => False
  | 39 => match st with
    | .inl y :: .inl x :: st => ∃ _ : iR x ∧ iR y, (y ≤ x → G a ls st I R S) ∧ (¬ y ≤ x → G nx ls st I R S)
    | _ => False
  | 40 => match st with
    | .inl y :: .inl x :: st => ∃ _ : iR x ∧ iR y, (y < x → G a ls st I R S) ∧ (¬ y < x → G nx ls st I R S)
    | _ => False
  | 41 => match st with
    | .inl y :: .inl x :: st => ∃ _ : iR x ∧ iR y, (x ≤ y → G a ls st I R S) ∧ (¬ x ≤ y → G nx ls st I R S)
    | _ => False
  | 42 => match st with
    | .inl x :: st => ∃ _ : iR x, ((x < b ∨ b + (xs.length : Int) ≤ x) → G a ls st I R S) ∧ tsw x (fun t => G t ls st I R S) b xs
    | _ => False
  | 43 => match st with
    | .inl x :: st => ∃ _ : iR x, lswD x (G a ls st I R S) xs ∧ lsw x (fun t => G t ls st I R S) xs
    | _ => False
  | 44 => match xs, st with
    | [(ci, k)], .inr (.inl (some x)) :: st => ∃ n, ∃ _ : S[x]? = some (ci.toNat, n), match isRf ci.toNat k with
      | true => ∃ y, ∃ _ : R x k = some y, G nx ls (vr y :: st) I R S
      | false => G nx ls (.inl (I x k) :: st) I R S
    | _, _ => False
  | 45 => match xs, st with
    | [(ci, k)], .inl z :: .inr (.inl (some x)) :: st => match isRf ci.toNat k with
      | true => False
      | false => ∃ n, ∃ _ : S[x]? = some (ci.toNat, n), match isZf ci.toNat k with
        | true => ∃ _ : z = 0 ∨ z = 1, G nx ls st (uI I x k z) R S
        | false => G nx ls st (uI I x k z) R S
    | [(ci, k)], .inr (.inl (some y)) :: .inr (.inl (some x)) :: st => match isRf ci.toNat k with
      | true => ∃ n, ∃ _ : S[x]? = some (ci.toNat, n), G nx ls st I (uR R x k (some y)) S
      | false => False
    | _, _ => False
  | 46 => match xs, st with
    | [(ci, k)], .inr (.inl (some y)) :: .inr (.inl (some x)) :: st => match isRf ci.toNat k with
      | true => ∃ n, ∃ _ : S[x]? = some (ci.toNat, n), G nx ls st I (uR R x k (some y)) S
      | false => False
    | _, _ => False
  | 47 => match st with
    | .inl j :: .inr (.inl (some x)) :: st => ∃ n, ∃ _ : S[x]? = some (9, n), ∃ _ : 0 ≤ j ∧ j < n ∧ n ≤ 1000000, G nx ls (.inl (I x j) :: st) I R S
    | .inl j :: .inr (.inr (.inr true)) :: st => ∃ _ : 0 ≤ j ∧ j < L ∧ L ≤ 1000000, G nx ls (.inl (X j.toNat) :: st) I R S
    | _ => False
  | 48 => match st with
    | .inl z :: .inl j :: .inr (.inl (some x)) :: st => ∃ n, ∃ _ : S[x]? = some (9, n), ∃ _ : 0 ≤ j ∧ j < n ∧ n ≤ 1000000, G nx ls st (uI I x j z) R S
    | _ => False
  | 49 => match st with
    | .inl j :: .inr (.inl (some x)) :: st => ∃ k n, ∃ _ : S[x]? = some (k, n), ∃ _ : (k = 11 ∨ k = 12) ∧ 0 ≤ j ∧ j < n ∧ n ≤ 1000000, ∃ y, ∃ _ : R x j = some y, G nx ls (vr y :: st) I R S
    | _ => False
  | 50 => match st with
    | .inr (.inl (some y)) :: .inl j :: .inr (.inl (some x)) :: st => ∃ k n, ∃ _ : S[x]? = some (k, n), ∃ _ : (k = 11 ∨ k = 12) ∧ 0 ≤ j ∧ j < n ∧ n ≤ 1000000, ∃ m, ∃ _ : S[y]? = some (k - 8, m), G nx ls st I (uR R x j (some y)) S
    | _ => False
  | 51 => match st with
    | .inl j :: .inr (.inl (some x)) :: st => ∃ n, ∃ _ : S[x]? = some (10, n), ∃ _ : 0 ≤ j ∧ j < n ∧ n ≤ 1000000, G nx ls (.inl (I x j) :: st) I R S
    | _ => False
  | 52 => match st with
    | .inl z :: .inl j :: .inr (.inl (some x)) :: st => ∃ n, ∃ _ : S[x]? = some (10, n), ∃ _ : (z = 0 ∨ z = 1) ∧ 0 ≤ j ∧ j < n ∧ n ≤ 1000000, G nx ls st (uI I x j z) R S
    | _ => False
  | 53 => match st with
    | .inr (.inl (some x)) :: st => ∃ k n, ∃ _ : S[x]? = some (k, n), ∃ _ : 9 ≤ k ∧ k ≤ 12, G nx ls (.inl n :: st) I R S
    | .inr (.inr (.inr true)) :: st => G nx ls (.inl L :: st) I R S
    | _ => False
  | 54 => match st with
    | .inl z :: st => ∃ _ : 0 ≤ z ∧ z ≤ 1000000, G nx ls (vr S.length :: st) (zI I S.length) (zR R S.length) (S ++ [(b.toNat, z.toNat)])
    | _ => False
  | 55 => match st with
    | .inl z :: st => ∃ _ : 0 ≤ z ∧ z ≤ 1000000, G nx ls (vr S.length :: st) (zI I S.length) (zR R S.length) (S ++ [(b.toNat, z.toNat)])
    | _ => False
  | 56 => G nx ls (vr S.length :: st) (zI I S.length) (zR R S.length) (S ++ [(b.toNat, NF b.toNat)])
  | 57 => match st with
    | v :: st => match c1 v with
      | true => G nx ls (v :: v :: st) I R S
      | false => False
    | _ => False
  | 58 => match st with
    | v :: w :: st => match c1 v && c1 w with
      | true => G nx ls (v :: w :: v :: w :: st) I R S
      | false => False
    | _ => False
  | 59 => match st with
    | v :: st => match c1 v with
      | true => G nx ls st I R S
      | false => False
    | _ => False
  | 60 => match xs with
    | [(ci, n)] => match popn n [] st with
      | some (as, .inr (.inl (some x)) :: st) => match allc1 as && okst st 8 with
        | true => ∃ m, ∃ _ : S[x]? = some (ci.toNat, m), C b.toNat (vr x :: as) I R S (fun r I R S => G nx ls (r.toList ++ st) I R S)
        | false => False
      | _ => False
    | _ => False
  | 61 => match xs with
    | [(_, n)] => match popn n [] st with
      | some (as, .inr (.inl (some x)) :: st) => match allc1 as && okst st 8 with
        | true => C b.toNat (vr x :: as) I R S (fun r I R S => G nx ls (r.toList ++ st) I R S)
        | false => False
      | _ => False
    | _ => False
  | 62 => match xs with
    | [(_, n)] => match popn n [] st with
      | some (as, .inr (.inl (some x)) :: st) => match allc1 as && okst st 8 with
        | true => C b.toNat (vr x :: as) I R S (fun r I R S => G nx ls (r.toList ++ st) I R S)
        | false => False
      | _ => False
    | _ => False
  | 63 => match xs with
    | [(_, n)] => match popn n [] st with
      | some (as, st) => match allc1 as && okst st 8 with
        | true => C b.toNat as I R S (fun r I R S => G nx ls (r.toList ++ st) I R S)
        | false => False
      | _ => False
    | _ => False
  | 64 => match st with
    | .inr (.inl (some _)) :: st => match okst st 8 with
      | true => G nx ls st I R S
      | false => False
    | _ => False
  | 65 => match st with
    | .inl n :: .inl dp :: .inr (.inl (some t)) :: .inl sp :: .inr (.inl (some x)) :: st => match okst st 8 with
      | true => ∃ n0 n1, ∃ _ : S[x]? = some (9, n0), ∃ _ : S[t]? = some (9, n1), ∃ _ : 0 ≤ sp ∧ 0 ≤ dp ∧ 0 ≤ n ∧ sp + n ≤ n0 ∧ dp + n ≤ n1 ∧ n0 ≤ 1000000 ∧ n1 ≤ 1000000, G nx ls st (cI I x sp t dp n) R S
      | false => False
    | _ => False
  | 66 => match st with
    | [.inl z] => match mR q with
      | some .int => K (some (.inl z)) I R S
      | some .boolean => ∃ _ : z = 0 ∨ z = 1, K (some (.inl z)) I R S
      | _ => False
    | _ => False
  | 67 => match st with
    | [.inr (.inl (some x))] => match mR q with
      | some (.object _) => K (some (vr x)) I R S
      | some (.array _) => K (some (vr x)) I R S
      | _ => False
    | _ => False
  | 68 => match st with
    | [] => match mR q with
      | none => K none I R S
      | _ => False
    | _ => False
  | _ => False
/-- the instruction that an entry stands for, and its length -/
def eI (pc o a : Nat) (b : Int) (nx : Nat) (xs : List (Int × Nat)) : Instr × Nat := match o with
  | 1 => match Nat.beq nx (pc + 1) with
    | true => (.iload_n (Fin.ofNat 4 a), 1)
    | false => (.iload a, 2)
  | 2 => match Nat.beq nx (pc + 1) with
    | true => (.aload_n (Fin.ofNat 4 a), 1)
    | false => (.aload a, 2)
  | 3 => match Nat.beq nx (pc + 1) with
    | true => (.istore_n (Fin.ofNat 4 a), 1)
    | false => (.istore a, 2)
  | 4 => match Nat.beq nx (pc + 1) with
    | true => (.astore_n (Fin.ofNat 4 a), 1)
    | false => (.astore a, 2)
  | 5 => (.iconst b, 1)
  | 6 => (.bipush b, 2)
  | 7 => (.sipush b, 3)
  | 8 => (.ldc a, 2)
  | 9 => (.ldc_w a, 3)
  | 10 => (.ldc2_w a, 3)
  | 11 => (.iadd, 1)
  | 12 => (.isub, 1)
  | 13 => (.imul, 1)
  | 14 => (.idiv, 1)
  | 15 => (.irem, 1)
  | 16 => (.iand, 1)
  | 17 => (.ior, 1)
  | 18 => (.ixor, 1)
  | 19 => (.ishl, 1)
  | 20 => (.ishr, 1)
  | 21 => (.iushr, 1)
  | 22 => (.i2l, 1)
  | 23 => (.l2i, 1)
  | 24 => (.lmul, 1)
  | 25 => (.ladd, 1)
  | 26 => (.land, 1)
  | 27 => (.lrem, 1)
  | 28 => (.iinc a b, 3)
  | 29 => (.goto ((a : Int) - pc), 3)
  | 30 => (.ifCond .eq ((a : Int) - pc), 3)
  | 31 => (.ifCond .ne ((a : Int) - pc), 3)
  | 32 => (.ifCond .lt ((a : Int) - pc), 3)
  | 33 => (.ifCond .ge ((a : Int) - pc), 3)
  | 34 => (.ifCond .gt ((a : Int) - pc), 3)
  | 35 => (.ifCond .le ((a : Int) - pc), 3)
  | 36 => (.if_icmp .eq ((a : Int) - pc), 3)
  | 37 => (.if_icmp .ne ((a : Int) - pc), 3)
  | 38 => (.if_icmp .lt ((a : Int) - pc), 3)
  | 39 => (.if_icmp .ge ((a : Int) - pc), 3)
  | 40 => (.if_icmp .gt ((a : Int) - pc), 3)
  | 41 => (.if_icmp .le ((a : Int) - pc), 3)
  | 42 => (.tableswitch ((a : Int) - pc) b (b + (xs.length : Int) - 1) (xs.map (fun q => (q.2 : Int) - pc)).toArray, nx - pc)
  | 43 => (.lookupswitch ((a : Int) - pc) (xs.map (fun q => (q.1, (q.2 : Int) - pc))).toArray, nx - pc)
  | 44 => (.getfield a, 3)
  | 45 => (.putfield a, 3)
  | 46 => (.putfield a, 3)
  | 47 => (.iaload, 1)
  | 48 => (.iastore, 1)
  | 49 => (.aaload, 1)
  | 50 => (.aastore, 1)
  | 51 => (.baload, 1)
  | 52 => (.bastore, 1)
  | 53 => (.arraylength, 1)
  | 54 => (.newarray (if b = 9 then .int else .boolean), 2)
  | 55 => (.anewarray a, 3)
  | 56 => (.new a, 3)
  | 57 => (.dup, 1)
  | 58 => (.dup2, 1)
  | 59 => (.pop, 1)
  | 60 => (.invokevirtual a, 3)
  | 61 => (.invokespecial a, 3)
  | 62 => (.invokespecial a, 3)
  | 63 => (.invokestatic a, 3)
  | 64 => (.invokespecial a, 3)
  | 65 => (.invokestatic a, 3)
  | 66 => (.ireturn, 1)
  | 67 => (.areturn, 1)
  | 68 => (.return_, 1)
  | _ => (.nop, 1)
/-- what else is asked of an entry: links, places of locals, bounds of constants -/
def eX (q pc o a : Nat) (b : Int) (nx : Nat) (xs : List (Int × Nat)) : Bool := match o with
  | 1 => (Nat.beq nx (pc + 2)) || (Nat.beq nx (pc + 1) && Nat.blt a 4)
  | 2 => (Nat.beq nx (pc + 2)) || (Nat.beq nx (pc + 1) && Nat.blt a 4)
  | 3 => ((Nat.beq nx (pc + 2)) || (Nat.beq nx (pc + 1) && Nat.blt a 4)) && Nat.blt a (mL q)
  | 4 => ((Nat.beq nx (pc + 2)) || (Nat.beq nx (pc + 1) && Nat.blt a 4)) && Nat.blt a (mL q)
  | 6 => Nat.beq nx (pc + 2) && decide (-128 ≤ b ∧ b < 128)
  | 7 => Nat.beq nx (pc + 3) && decide (-32768 ≤ b ∧ b < 32768)
  | 8 => Nat.beq nx (pc + 2) && CST.any (fun x => Nat.beq x.1 (mO q) && Nat.beq x.2.1 a && decide (x.2.2.1 = b))
  | 9 => Nat.beq nx (pc + 3) && CST.any (fun x => Nat.beq x.1 (mO q) && Nat.beq x.2.1 a && decide (x.2.2.1 = b))
  | 10 => Nat.beq nx (pc + 3) && CSL.any (fun x => Nat.beq x.1 (mO q) && Nat.beq x.2.1 a && decide (x.2.2.1 = b))
  | 28 => Nat.beq nx (pc + 3) && Nat.blt a (mL q)
  | 43 => ((xs.map (fun q => (q.1, (q.2 : Int) - pc))).zip ((xs.map (fun q => (q.1, (q.2 : Int) - pc))).drop 1)).all (fun (a, next) => a.1 < next.1)
  | 44 => Nat.beq nx (pc + 3) && (match xs with
    | [(ci, k)] => FLK.any (fun x => Nat.beq x.1 (mO q) && Nat.beq x.2.1 a && Nat.beq x.2.2.1 ci.toNat && Nat.beq x.2.2.2.1 k)
    | _ => false)
  | 45 => Nat.beq nx (pc + 3) && (match xs with
    | [(ci, k)] => FLK.any (fun x => Nat.beq x.1 (mO q) && Nat.beq x.2.1 a && Nat.beq x.2.2.1 ci.toNat && Nat.beq x.2.2.2.1 k) && !(TF ci.toNat k).2.2.2
    | _ => false)
  | 46 => Nat.beq nx (pc + 3) && (match xs with
    | [(ci, k)] => FLK.any (fun x => Nat.beq x.1 (mO q) && Nat.beq x.2.1 a && Nat.beq x.2.2.1 ci.toNat && Nat.beq x.2.2.2.1 k) && (TF ci.toNat k).2.2.2 && Nat.beq ci.toNat (mO q) && decide ((mY q).name = "<init>")
    | _ => false)
  | 54 => Nat.beq nx (pc + 2) && (decide (b = 9) || decide (b = 10))
  | 55 => Nat.beq nx (pc + 3) && (decide (b = 11) || decide (b = 12)) && CLK.any (fun x => Nat.beq x.1 (mO q) && Nat.beq x.2.1 a && Nat.beq x.2.2.1 (b.toNat - 8))
  | 56 => Nat.beq nx (pc + 3) && Nat.blt b.toNat 9 && CLK.any (fun x => Nat.beq x.1 (mO q) && Nat.beq x.2.1 a && Nat.beq x.2.2.1 b.toNat)
  | 60 => Nat.beq nx (pc + 3) && Nat.blt b.toNat qLaw && Nat.beq (mS b.toNat) 1 && !decide ((mY b.toNat).name = "<init>") && MLK.any (fun x => Nat.beq x.1 (mO q) && Nat.beq x.2.1 a && Nat.beq x.2.2.1 b.toNat) && (match xs with
    | [(ci, n)] => Nat.beq n (mN b.toNat) && Nat.beq ci.toNat (mO b.toNat) && Nat.blt ci.toNat 9
    | _ => false)
  | 61 => Nat.beq nx (pc + 3) && Nat.blt b.toNat qLaw && Nat.beq (mS b.toNat) 1 && decide ((mY b.toNat).name = "<init>") && decide (mR b.toNat = none) && MLK.any (fun x => Nat.beq x.1 (mO q) && Nat.beq x.2.1 a && Nat.beq x.2.2.1 b.toNat) && (match xs with
    | [(_, n)] => Nat.beq n (mN b.toNat)
    | _ => false)
  | 62 => Nat.beq nx (pc + 3) && Nat.blt b.toNat qLaw && Nat.beq (mS b.toNat) 1 && decide ((mY b.toNat).name = "<init>") && decide (mR b.toNat = none) && NLK.any (fun x => Nat.beq x.1 (mO q) && Nat.beq x.2.1 a && Nat.beq x.2.2.1 b.toNat) && (match xs with
    | [(_, n)] => Nat.beq n (mN b.toNat)
    | _ => false)
  | 63 => Nat.beq nx (pc + 3) && Nat.blt b.toNat qLaw && Nat.beq (mS b.toNat) 0 && MLK.any (fun x => Nat.beq x.1 (mO q) && Nat.beq x.2.1 a && Nat.beq x.2.2.1 b.toNat) && (match xs with
    | [(_, n)] => Nat.beq n (mN b.toNat)
    | _ => false)
  | 64 => Nat.beq nx (pc + 3) && OIL.any (fun x => Nat.beq x.1 (mO q) && Nat.beq x.2.1 a)
  | 65 => Nat.beq nx (pc + 3) && ACL.any (fun x => Nat.beq x.1 (mO q) && Nat.beq x.2.1 a)
  | _ => true
def eChk (q : Nat) (e : aE) : Bool := decide (decode (mB q) e.1 = .ok (eI e.1 e.2.1 e.2.2.1 e.2.2.2.1 e.2.2.2.2.1 e.2.2.2.2.2)) && Nat.beq e.2.2.2.2.1 (e.1 + (eI e.1 e.2.1 e.2.2.1 e.2.2.2.1 e.2.2.2.2.1 e.2.2.2.2.2).2) && eX q e.1 e.2.1 e.2.2.1 e.2.2.2.1 e.2.2.2.2.1 e.2.2.2.2.2
def lk : List aE → Nat → Option aE
  | [], _ => none
  | e :: l, pc => match Nat.beq e.1 pc with
    | true => some e
    | false => lk l pc
def mem : Nat → List Nat → Bool
  | _, [] => false
  | a, b :: l => match Nat.beq a b with
    | true => true
    | false => mem a l
/-- a walk of at most n instructions; it stops, and leaves what is to be shown, at the places named -/
def wpn (q L : Nat) (X : Nat → Int) (E : List aE) (stops : List Nat) (G : aG) (C : aC) (K : aK) : Nat → aG
  | 0, pc, ls, st, I, R, S => G pc ls st I R S
  | n + 1, pc, ls, st, I, R, S => match lk E pc with
    | some (_, o, a, b, nx, xs) => stp q L X (fun pc ls st I R S => match mem pc stops with
        | true => G pc ls st I R S
        | false => wpn q L X E stops G C K n pc ls st I R S) C K o a b nx xs ls st I R S
    | none => False
