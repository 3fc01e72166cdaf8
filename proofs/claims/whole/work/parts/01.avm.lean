/-! THE ABSTRACT MACHINE of whole numbers: a cell is a number, a value is a whole number of a kind; shapes of cells apart from what they hold.
kinds of cells: 0 none, 1 int[], 2 long[], 3 byte[], 4 boolean[], 5 Bed[], 6 int[][], 7 long[][], 9 the script, 10 + c an object of class c -/
abbrev aV : Type := Int ⊕ Int ⊕ Option Int
abbrev aI (z : Int) : aV := .inl z
abbrev aJ (z : Int) : aV := .inr (.inl z)
abbrev aR (z : Int) : aV := .inr (.inr (some z))
abbrev aU : aV := .inr (.inr none)
/-- an instruction: its place, itself, what it links, a number -/
abbrev aEnt : Type := Nat × Instr × List Nat × Int
abbrev aSh : Type := List (Nat × Nat × List Int)
abbrev aM : Type := Int → Int → Int
abbrev aO : Type := List aV × aSh × aM
def aW (z : Int) : Int := z.bmod 4294967296
def aWL (z : Int) : Int := z.bmod 18446744073709551616
def aB8 (z : Int) : Int := z.bmod 256
def aCell (S : aSh) (r : Int) : Nat × Nat × List Int := match r with
  | .ofNat k => S.getD k (0, 0, [])
  | .negSucc _ => (0, 0, [])
def aK (S : aSh) (r : Int) : Nat := (aCell S r).1
def aL (S : aSh) (r : Int) : Int := ((aCell S r).2.1 : Int)
def aLn (S : aSh) (k : Nat) (r : Int) : Int := if aK S r = k then aL S r else 0
def aF (S : aSh) (r : Int) (j : Nat) : Int := (aCell S r).2.2.getD j (-1)
def aPut (S : aSh) (r : Int) (j : Nat) (v : Int) : aSh := match r with
  | .ofNat k => S.set k ((aCell S r).1, (aCell S r).2.1, (aCell S r).2.2.set j v)
  | .negSucc _ => S
def aSet (M : aM) (r i v : Int) : aM := fun a b => if a = r ∧ b = i then v else M a b
def aNew (M : aM) (r : Int) (f : Int → Int) : aM := fun a b => if a = r then f b else M a b
def aNews (M : aM) (r n : Int) : aM := fun a b => if r ≤ a ∧ a ≤ r + n then 0 else M a b
def aCpy (M : aM) (s sp d dp n : Int) : aM := fun a b => if a = d ∧ dp ≤ b ∧ b < dp + n then M s (sp + (b - dp)) else M a b
def aSeek (C : List aEnt) (pc : Nat) : List aEnt := C.dropWhile (fun e => e.1 != pc)
def aCat : List aV → Nat
  | [] => 0
  | .inr (.inl _) :: l => 2 + aCat l
  | .inl _ :: l => 1 + aCat l
  | .inr (.inr _) :: l => 1 + aCat l
def aArg : List aV → List aV
  | [] => []
  | .inr (.inl z) :: l => .inr (.inl z) :: aU :: aArg l
  | .inl z :: l => .inl z :: aArg l
  | .inr (.inr z) :: l => .inr (.inr z) :: aArg l
def aLoc (as : List aV) (n : Nat) : List aV := aArg as ++ List.replicate (n - (aArg as).length) aU
/-- a slot that is written makes a long of which it was the second half none -/
def aSt (ls : List aV) (i : Nat) (v : aV) : List aV := match i with
  | 0 => ls.set 0 v
  | i + 1 => match ls[i]? with
    | some (.inr (.inl _)) => (ls.set i aU).set (i + 1) v
    | _ => ls.set (i + 1) v
def aSt2 (ls : List aV) (i : Nat) (z : Int) : List aV := (aSt ls i (.inr (.inl z))).set (i + 1) aU
def aShl (x y : Int) : Int := (Int32.ofInt x <<< (Int32.ofInt y &&& 31)).toInt
def aShr (x y : Int) : Int := (Int32.ofInt x >>> (Int32.ofInt y &&& 31)).toInt
def aUsh (x y : Int) : Int := ((Int32.ofInt x).toUInt32 >>> ((Int32.ofInt y).toUInt32 &&& Int32.toUInt32 31)).toInt32.toInt
def aLsl (x y : Int) : Int := (Int64.ofInt x <<< ((Int32.ofInt y).toInt64 &&& 63)).toInt
def aLus (x y : Int) : Int := ((Int64.ofInt x).toUInt64 >>> ((Int32.ofInt y).toInt64.toUInt64 &&& Int64.toUInt64 63)).toInt64.toInt
def aAnd (x y : Int) : Int := (Int32.ofInt x &&& Int32.ofInt y).toInt
def aOr (x y : Int) : Int := (Int32.ofInt x ||| Int32.ofInt y).toInt
def aXor (x y : Int) : Int := (Int32.ofInt x ^^^ Int32.ofInt y).toInt
def aLand (x y : Int) : Int := (Int64.ofInt x &&& Int64.ofInt y).toInt
def aLor (x y : Int) : Int := (Int64.ofInt x ||| Int64.ofInt y).toInt
def aLxor (x y : Int) : Int := (Int64.ofInt x ^^^ Int64.ofInt y).toInt
def aDiv (x y : Int) : Int := (Int32.ofInt x / Int32.ofInt y).toInt
def aRem (x y : Int) : Int := (Int32.ofInt x - Int32.ofInt x / Int32.ofInt y * Int32.ofInt y).toInt
def aCmp (x y : Int) : Int := if x < y then -1 else if x = y then 0 else 1
/-- the offset that a switch takes -/
def aTab (lo hi d : Int) (offs : Array Int) (x : Int) : Int := if x < lo ∨ hi < x then d else (offs[(x - lo).toNat]?).getD d
def aSwi (d : Int) (ps : Array (Int × Int)) (x : Int) : Int := Op.lookupswitch.offset ps.toList d x
def aTo (pc : Nat) (off : Int) : Nat := ((pc : Int) + off).toNat
/-- the one String constant, by its signs -/
def aTxt : List Nat := [120, 32, 121, 32, 119, 105, 100, 101, 32, 104, 105, 103, 104, 32, 116, 111, 117, 99, 104, 32, 104, 101, 108, 100, 32, 112, 117, 115, 104, 32, 119, 111, 111, 100, 32, 114, 111, 117, 110, 100, 32, 102, 114, 97, 109, 101, 32, 98, 108, 111, 99, 107, 32, 112, 105, 101, 99, 101, 32, 119, 101, 100, 103, 101, 32, 110, 111, 114, 116, 104, 32, 101, 97, 115, 116, 32, 115, 111, 117, 116, 104, 32, 119, 101, 115, 116, 32, 101, 110, 111, 117, 103, 104, 32, 103, 105, 118, 101, 32, 114, 117, 108, 101, 32, 105, 102, 32, 111, 114, 32, 97, 110, 100, 32, 110, 111, 116, 32]
/-- the machine: t what field j of class c is (0 int, 1 long, 2 a reference, 3 a final reference, 4 boolean), P the methods' instructions -/
def aRun (t : Nat → Nat → Nat) (P : Nat → List aEnt) : Nat → List aEnt → List aEnt → List aV → List aV → aSh → aM → Option aO
  | 0, _, _, _, _, _, _ => none
  | _ + 1, _, [], _, _, _, _ => none
  | n + 1, C, (pc, i, k, q) :: rest, ls, st, S, M => match i with
    | .iload_n j => match ls[j.val]? with
      | some (.inl z) => aRun t P n C rest ls (.inl z :: st) S M
      | _ => none
    | .iload j => match ls[j]? with
      | some (.inl z) => aRun t P n C rest ls (.inl z :: st) S M
      | _ => none
    | .lload_n j => match ls[j.val]? with
      | some (.inr (.inl z)) => aRun t P n C rest ls (.inr (.inl z) :: st) S M
      | _ => none
    | .lload j => match ls[j]? with
      | some (.inr (.inl z)) => aRun t P n C rest ls (.inr (.inl z) :: st) S M
      | _ => none
    | .aload_n j => match ls[j.val]? with
      | some (.inr (.inr (some z))) => aRun t P n C rest ls (.inr (.inr (some z)) :: st) S M
      | _ => none
    | .aload j => match ls[j]? with
      | some (.inr (.inr (some z))) => aRun t P n C rest ls (.inr (.inr (some z)) :: st) S M
      | _ => none
    | .istore_n j => match st with
      | .inl z :: st => aRun t P n C rest (aSt ls j.val (.inl z)) st S M
      | _ => none
    | .istore j => match st with
      | .inl z :: st => aRun t P n C rest (aSt ls j (.inl z)) st S M
      | _ => none
    | .lstore_n j => match st with
      | .inr (.inl z) :: st => aRun t P n C rest (aSt2 ls j.val z) st S M
      | _ => none
    | .lstore j => match st with
      | .inr (.inl z) :: st => aRun t P n C rest (aSt2 ls j z) st S M
      | _ => none
    | .astore_n j => match st with
      | .inr (.inr (some z)) :: st => aRun t P n C rest (aSt ls j.val (.inr (.inr (some z)))) st S M
      | _ => none
    | .astore j => match st with
      | .inr (.inr (some z)) :: st => aRun t P n C rest (aSt ls j (.inr (.inr (some z)))) st S M
      | _ => none
    | .iconst z => aRun t P n C rest ls (.inl z :: st) S M
    | .bipush z => aRun t P n C rest ls (.inl z :: st) S M
    | .sipush z => aRun t P n C rest ls (.inl z :: st) S M
    | .lconst z => aRun t P n C rest ls (.inr (.inl (z.val : Int)) :: st) S M
    | .ldc _ => match k with
      | [] => aRun t P n C rest ls (.inr (.inr (some (-2))) :: st) S M
      | _ => aRun t P n C rest ls (.inl q :: st) S M
    | .ldc_w _ => aRun t P n C rest ls (.inl q :: st) S M
    | .ldc2_w _ => aRun t P n C rest ls (.inr (.inl q) :: st) S M
    | .iadd => match st with
      | .inl y :: .inl x :: st => aRun t P n C rest ls (.inl (aW (x + y)) :: st) S M
      | _ => none
    | .isub => match st with
      | .inl y :: .inl x :: st => aRun t P n C rest ls (.inl (aW (x - y)) :: st) S M
      | _ => none
    | .imul => match st with
      | .inl y :: .inl x :: st => aRun t P n C rest ls (.inl (aW (x * y)) :: st) S M
      | _ => none
    | .ineg => match st with
      | .inl x :: st => aRun t P n C rest ls (.inl (aW (-x)) :: st) S M
      | _ => none
    | .idiv => match st with
      | .inl y :: .inl x :: st => if ¬ y = 0 then aRun t P n C rest ls (.inl (aDiv x y) :: st) S M else none
      | _ => none
    | .irem => match st with
      | .inl y :: .inl x :: st => if ¬ y = 0 then aRun t P n C rest ls (.inl (aRem x y) :: st) S M else none
      | _ => none
    | .iand => match st with
      | .inl y :: .inl x :: st => aRun t P n C rest ls (.inl (aAnd x y) :: st) S M
      | _ => none
    | .ior => match st with
      | .inl y :: .inl x :: st => aRun t P n C rest ls (.inl (aOr x y) :: st) S M
      | _ => none
    | .ixor => match st with
      | .inl y :: .inl x :: st => aRun t P n C rest ls (.inl (aXor x y) :: st) S M
      | _ => none
    | .ishl => match st with
      | .inl y :: .inl x :: st => aRun t P n C rest ls (.inl (aShl x y) :: st) S M
      | _ => none
    | .ishr => match st with
      | .inl y :: .inl x :: st => aRun t P n C rest ls (.inl (aShr x y) :: st) S M
      | _ => none
    | .iushr => match st with
      | .inl y :: .inl x :: st => aRun t P n C rest ls (.inl (aUsh x y) :: st) S M
      | _ => none
    | .ladd => match st with
      | .inr (.inl y) :: .inr (.inl x) :: st => aRun t P n C rest ls (.inr (.inl (aWL (x + y))) :: st) S M
      | _ => none
    | .lsub => match st with
      | .inr (.inl y) :: .inr (.inl x) :: st => aRun t P n C rest ls (.inr (.inl (aWL (x - y))) :: st) S M
      | _ => none
    | .lmul => match st with
      | .inr (.inl y) :: .inr (.inl x) :: st => aRun t P n C rest ls (.inr (.inl (aWL (x * y))) :: st) S M
      | _ => none
    | .land => match st with
      | .inr (.inl y) :: .inr (.inl x) :: st => aRun t P n C rest ls (.inr (.inl (aLand x y)) :: st) S M
      | _ => none
    | .lor => match st with
      | .inr (.inl y) :: .inr (.inl x) :: st => aRun t P n C rest ls (.inr (.inl (aLor x y)) :: st) S M
      | _ => none
    | .lxor => match st with
      | .inr (.inl y) :: .inr (.inl x) :: st => aRun t P n C rest ls (.inr (.inl (aLxor x y)) :: st) S M
      | _ => none
    | .lshl => match st with
      | .inl y :: .inr (.inl x) :: st => aRun t P n C rest ls (.inr (.inl (aLsl x y)) :: st) S M
      | _ => none
    | .lushr => match st with
      | .inl y :: .inr (.inl x) :: st => aRun t P n C rest ls (.inr (.inl (aLus x y)) :: st) S M
      | _ => none
    | .lcmp => match st with
      | .inr (.inl y) :: .inr (.inl x) :: st => aRun t P n C rest ls (.inl (aCmp x y) :: st) S M
      | _ => none
    | .i2l => match st with
      | .inl x :: st => aRun t P n C rest ls (.inr (.inl x) :: st) S M
      | _ => none
    | .l2i => match st with
      | .inr (.inl x) :: st => aRun t P n C rest ls (.inl (aW x) :: st) S M
      | _ => none
    | .i2b => match st with
      | .inl x :: st => aRun t P n C rest ls (.inl (aB8 x) :: st) S M
      | _ => none
    | .iinc j z => match ls[j]? with
      | some (.inl x) => aRun t P n C rest (aSt ls j (.inl (aW (x + z)))) st S M
      | _ => none
    | .dup => match st with
      | .inl x :: st => aRun t P n C rest ls (.inl x :: .inl x :: st) S M
      | .inr (.inr (some x)) :: st => aRun t P n C rest ls (.inr (.inr (some x)) :: .inr (.inr (some x)) :: st) S M
      | _ => none
    | .pop => match st with
      | .inl _ :: st => aRun t P n C rest ls st S M
      | .inr (.inr (some _)) :: st => aRun t P n C rest ls st S M
      | _ => none
    | .dup2 => match st with
      | .inr (.inl x) :: st => aRun t P n C rest ls (.inr (.inl x) :: .inr (.inl x) :: st) S M
      | .inl y :: .inr (.inr (some x)) :: st => aRun t P n C rest ls (.inl y :: .inr (.inr (some x)) :: .inl y :: .inr (.inr (some x)) :: st) S M
      | _ => none
    | .pop2 => match st with
      | .inr (.inl _) :: st => aRun t P n C rest ls st S M
      | _ => none
    | .ifCond c off => match c, st with
      | .eq, .inl x :: st => if x = 0 then aRun t P n C (aSeek C (aTo pc off)) ls st S M else aRun t P n C rest ls st S M
      | .ne, .inl x :: st => if ¬ x = 0 then aRun t P n C (aSeek C (aTo pc off)) ls st S M else aRun t P n C rest ls st S M
      | .lt, .inl x :: st => if x < 0 then aRun t P n C (aSeek C (aTo pc off)) ls st S M else aRun t P n C rest ls st S M
      | .ge, .inl x :: st => if 0 ≤ x then aRun t P n C (aSeek C (aTo pc off)) ls st S M else aRun t P n C rest ls st S M
      | .gt, .inl x :: st => if 0 < x then aRun t P n C (aSeek C (aTo pc off)) ls st S M else aRun t P n C rest ls st S M
      | .le, .inl x :: st => if x ≤ 0 then aRun t P n C (aSeek C (aTo pc off)) ls st S M else aRun t P n C rest ls st S M
      | _, _ => none
    | .if_icmp c off => match c, st with
      | .eq, .inl y :: .inl x :: st => if x = y then aRun t P n C (aSeek C (aTo pc off)) ls st S M else aRun t P n C rest ls st S M
      | .ne, .inl y :: .inl x :: st => if ¬ x = y then aRun t P n C (aSeek C (aTo pc off)) ls st S M else aRun t P n C rest ls st S M
      | .lt, .inl y :: .inl x :: st => if x < y then aRun t P n C (aSeek C (aTo pc off)) ls st S M else aRun t P n C rest ls st S M
      | .ge, .inl y :: .inl x :: st => if y ≤ x then aRun t P n C (aSeek C (aTo pc off)) ls st S M else aRun t P n C rest ls st S M
      | .gt, .inl y :: .inl x :: st => if y < x then aRun t P n C (aSeek C (aTo pc off)) ls st S M else aRun t P n C rest ls st S M
      | .le, .inl y :: .inl x :: st => if x ≤ y then aRun t P n C (aSeek C (aTo pc off)) ls st S M else aRun t P n C rest ls st S M
      | _, _ => none
    | .goto off => aRun t P n C (aSeek C (aTo pc off)) ls st S M
    | .tableswitch d lo hi offs => match st with
      | .inl x :: st => aRun t P n C (aSeek C (aTo pc (aTab lo hi d offs x))) ls st S M
      | _ => none
    | .lookupswitch d ps => match st with
      | .inl x :: st => aRun t P n C (aSeek C (aTo pc (aSwi d ps x))) ls st S M
      | _ => none
    | .getfield _ => match k, st with
      | [ci, j], .inr (.inr (some r)) :: st => match t ci j with
        | 1 => if aK S r = 10 + ci then aRun t P n C rest ls (.inr (.inl (M r j)) :: st) S M else none
        | 2 => if aK S r = 10 + ci then aRun t P n C rest ls (.inr (.inr (some (M r j))) :: st) S M else none
        | 3 => if aK S r = 10 + ci then aRun t P n C rest ls (.inr (.inr (some (aF S r j))) :: st) S M else none
        | _ => if aK S r = 10 + ci then aRun t P n C rest ls (.inl (M r j) :: st) S M else none
      | _, _ => none
    | .putfield _ => match k, st with
      | [ci, j], v :: .inr (.inr (some r)) :: st => match t ci j, v with
        | 0, .inl z => if aK S r = 10 + ci then aRun t P n C rest ls st S (aSet M r j z) else none
        | 1, .inr (.inl z) => if aK S r = 10 + ci then aRun t P n C rest ls st S (aSet M r j z) else none
        | 2, .inr (.inr (some z)) => if aK S r = 10 + ci ∧ -1 ≤ z then aRun t P n C rest ls st S (aSet M r j z) else none
        | 3, .inr (.inr (some z)) => if aK S r = 10 + ci ∧ -1 ≤ z then aRun t P n C rest ls st (aPut S r j z) M else none
        | 4, .inl z => if aK S r = 10 + ci ∧ (z = 0 ∨ z = 1) then aRun t P n C rest ls st S (aSet M r j z) else none
        | _, _ => none
      | _, _ => none
    | .iaload => match k, st with
      | [1], .inl j :: .inr (.inr (some r)) :: st => if 0 ≤ j ∧ j < aLn S 1 r then aRun t P n C rest ls (.inl (M r j) :: st) S M else none
      | [9], .inl j :: .inr (.inr (some r)) :: st => if 0 ≤ j ∧ j < aLn S 9 r then aRun t P n C rest ls (.inl (M r j) :: st) S M else none
      | _, _ => none
    | .laload => match st with
      | .inl j :: .inr (.inr (some r)) :: st => if 0 ≤ j ∧ j < aLn S 2 r then aRun t P n C rest ls (.inr (.inl (M r j)) :: st) S M else none
      | _ => none
    | .baload => match k, st with
      | [3], .inl j :: .inr (.inr (some r)) :: st => if 0 ≤ j ∧ j < aLn S 3 r then aRun t P n C rest ls (.inl (M r j) :: st) S M else none
      | [4], .inl j :: .inr (.inr (some r)) :: st => if 0 ≤ j ∧ j < aLn S 4 r then aRun t P n C rest ls (.inl (M r j) :: st) S M else none
      | _, _ => none
    | .aaload => match k, st with
      | [a], .inl j :: .inr (.inr (some r)) :: st => if 0 ≤ j ∧ j < aLn S a r then aRun t P n C rest ls (.inr (.inr (some (aF S r j.toNat))) :: st) S M else none
      | _, _ => none
    | .iastore => match st with
      | .inl z :: .inl j :: .inr (.inr (some r)) :: st => if 0 ≤ j ∧ j < aLn S 1 r then aRun t P n C rest ls st S (aSet M r j z) else none
      | _ => none
    | .lastore => match st with
      | .inr (.inl z) :: .inl j :: .inr (.inr (some r)) :: st => if 0 ≤ j ∧ j < aLn S 2 r then aRun t P n C rest ls st S (aSet M r j z) else none
      | _ => none
    | .bastore => match k, st with
      | [3], .inl z :: .inl j :: .inr (.inr (some r)) :: st => if 0 ≤ j ∧ j < aLn S 3 r then aRun t P n C rest ls st S (aSet M r j (aB8 z)) else none
      | [4], .inl z :: .inl j :: .inr (.inr (some r)) :: st => if (0 ≤ j ∧ j < aLn S 4 r) ∧ (z = 0 ∨ z = 1) then aRun t P n C rest ls st S (aSet M r j z) else none
      | _, _ => none
    | .aastore => match st with
      | .inr (.inr (some z)) :: .inl j :: .inr (.inr (some r)) :: st => if (0 ≤ j ∧ j < aLn S 5 r) ∧ aK S z = 10 then aRun t P n C rest ls st (aPut S r j.toNat z) M else none
      | _ => none
    | .arraylength => match k, st with
      | [a], .inr (.inr (some r)) :: st => if aK S r = a then aRun t P n C rest ls (.inl (aL S r) :: st) S M else none
      | _, _ => none
    | .new _ => match k with
      | [ci, f] => aRun t P n C rest ls (.inr (.inr (some (S.length : Int))) :: st) (S ++ [(10 + ci, f, List.replicate f (-1))]) (aNew M S.length (fun j => if t ci j.toNat = 2 then -1 else 0))
      | _ => none
    | .newarray _ => match k, st with
      | [a], .inl z :: st => if 0 ≤ z ∧ z ≤ 4000 then aRun t P n C rest ls (.inr (.inr (some (S.length : Int))) :: st) (S ++ [(a, z.toNat, [])]) (aNew M S.length (fun _ => 0)) else none
      | _, _ => none
    | .anewarray _ => match st with
      | .inl z :: st => if 0 ≤ z ∧ z ≤ 4000 then aRun t P n C rest ls (.inr (.inr (some (S.length : Int))) :: st) (S ++ [(5, z.toNat, List.replicate z.toNat (-1))]) (aNew M S.length (fun _ => 0)) else none
      | _ => none
    | .multianewarray _ _ => match k, st with
      | [a, b], .inl y :: .inl x :: st => if (0 ≤ x ∧ x ≤ 4000) ∧ (0 ≤ y ∧ y ≤ 4000) then aRun t P n C rest ls (.inr (.inr (some (S.length : Int))) :: st) ((S ++ [(a, x.toNat, (List.range x.toNat).map (fun (i : Nat) => (S.length : Int) + 1 + (i : Int)))]) ++ List.replicate x.toNat (b, y.toNat, [])) (aNews M S.length x) else none
      | _, _ => none
    | .ireturn => match k, st with
      | [], [.inl z] => some ([.inl z], S, M)
      | [4], [.inl z] => if z = 0 ∨ z = 1 then some ([.inl z], S, M) else none
      | _, _ => none
    | .lreturn => match st with
      | [.inr (.inl z)] => some ([.inr (.inl z)], S, M)
      | _ => none
    | .areturn => match st with
      | [.inr (.inr (some z))] => some ([.inr (.inr (some z))], S, M)
      | _ => none
    | .return_ => match st with
      | [] => some ([], S, M)
      | _ => none
    | .invokestatic _ => match k with
      | [z, na, ml] => match Nat.ble na st.length && Nat.ble (aCat (st.drop na)) 8 && Nat.ble (aArg (st.take na).reverse).length ml with
        | true => match aRun t P n (P z) (P z) (aLoc (st.take na).reverse ml) [] S M with
          | some (v, S', M') => aRun t P n C rest ls (v ++ st.drop na) S' M'
          | none => none
        | false => none
      | [] => match st with
        | .inl len :: .inl dp :: .inr (.inr (some d)) :: .inl sp :: [.inr (.inr (some s))] =>
          if ((aK S s = 1 ∧ aK S d = 1) ∧ (0 ≤ len ∧ 0 ≤ sp ∧ 0 ≤ dp)) ∧ sp + len ≤ aL S s ∧ dp + len ≤ aL S d then aRun t P n C rest ls [] S (aCpy M s sp d dp len) else none
        | _ => none
      | [0] => match st with
        | .inl y :: .inl x :: st => match Nat.ble (aCat st) 8 with
          | true => aRun t P n C rest ls (.inl (min x y) :: st) S M
          | false => none
        | _ => none
      | [1] => match st with
        | .inl y :: .inl x :: st => match Nat.ble (aCat st) 8 with
          | true => aRun t P n C rest ls (.inl (max x y) :: st) S M
          | false => none
        | _ => none
      | _ => none
    | .invokespecial _ => match k with
      | [z, na, ml, ci] => match Nat.ble na st.length && Nat.ble (aCat (st.drop na)) 8 && Nat.ble (aArg (st.take na).reverse).length ml, (st.take na).reverse with
        | true, .inr (.inr (some r)) :: _ => if aK S r = 10 + ci then match aRun t P n (P z) (P z) (aLoc (st.take na).reverse ml) [] S M with
          | some (v, S', M') => aRun t P n C rest ls (v ++ st.drop na) S' M'
          | none => none
          else none
        | _, _ => none
      | [] => match st with
        | [.inr (.inr (some r))] => if 10 ≤ aK S r then aRun t P n C rest ls [] S M else none
        | _ => none
      | _ => none
    | .invokevirtual _ => match k with
      | [z, na, ml, ci] => match Nat.ble na st.length && Nat.ble (aCat (st.drop na)) 8 && Nat.ble (aArg (st.take na).reverse).length ml, (st.take na).reverse with
        | true, .inr (.inr (some r)) :: _ => if aK S r = 10 + ci then match aRun t P n (P z) (P z) (aLoc (st.take na).reverse ml) [] S M with
          | some (v, S', M') => aRun t P n C rest ls (v ++ st.drop na) S' M'
          | none => none
          else none
        | _, _ => none
      | [0] => match st with
        | .inr (.inr (some r)) :: st => match Nat.ble (aCat st) 8 with
          | true => if r = -2 then aRun t P n C rest ls (.inl (aTxt.length : Int) :: st) S M else none
          | false => none
        | _ => none
      | [1] => match st with
        | .inl j :: .inr (.inr (some r)) :: st => match Nat.ble (aCat st) 8 with
          | true => if r = -2 ∧ 0 ≤ j ∧ j < (aTxt.length : Int) then aRun t P n C rest ls (.inl ((aTxt.getD j.toNat 0 : Nat) : Int) :: st) S M else none
          | false => none
        | _ => none
      | _ => none
    | _ => none
