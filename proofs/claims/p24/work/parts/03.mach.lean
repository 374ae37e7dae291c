def NC : Nat := 76
def kdL : List Nat := [8, 5, 0, 6, 5, 0, 5, 0, 5, 0, 6, 5, 0, 5, 0, 5, 0, 3, 1, 6, 5, 0, 5, 0, 5, 0, 6, 5, 0, 5, 0, 5, 0, 6, 5, 0, 5, 0, 5, 0, 6, 5, 0, 5, 0, 5, 0, 5, 0, 2, 5, 0, 5, 0, 7, 5, 0, 5, 0, 5, 0, 5, 0, 5, 0, 4, 5, 0, 5, 0, 5, 0, 5, 0, 5, 0]
def alL : List Nat := [0, 0, 40, 0, 0, 14, 0, 14, 0, 14, 0, 0, 14, 0, 14, 0, 14, 0, 4, 0, 0, 14, 0, 14, 0, 14, 0, 0, 14, 0, 14, 0, 14, 0, 0, 14, 0, 14, 0, 14, 0, 0, 14, 0, 14, 0, 14, 0, 14, 0, 0, 225, 0, 59, 0, 0, 28, 0, 28, 0, 28, 0, 28, 0, 28, 0, 0, 28, 0, 28, 0, 28, 0, 28, 0, 28]
def rfL : List (List Nat) := [[1, 3, 10, 0, 17, 47, 49, 54, 65], [2, 0], [], [4, 6, 8, 0, 0, 0, 0], [5, 0], [], [7, 0], [], [9, 0], [], [11, 13, 15, 0, 0, 0, 0], [12, 0], [], [14, 0], [], [16, 0], [], [18, 0], [19, 26, 33, 40], [20, 22, 24, 0, 0, 0, 0], [21, 0], [], [23, 0], [], [25, 0], [], [27, 29, 31, 0, 0, 0, 0], [28, 0], [], [30, 0], [], [32, 0], [], [34, 36, 38, 0, 0, 0, 0], [35, 0], [], [37, 0], [], [39, 0], [], [41, 43, 45, 0, 0, 0, 0], [42, 0], [], [44, 0], [], [46, 0], [], [48, 0], [], [50, 52], [51, 0], [], [53, 0], [], [55, 57, 59, 61, 63], [56, 0], [], [58, 0], [], [60, 0], [], [62, 0], [], [64, 0], [], [66, 68, 70, 72, 74, 0, 0, 0, 0, 0], [67, 0], [], [69, 0], [], [71, 0], [], [73, 0], [], [75, 0], []]
def fcL : List (List Nat) := [[2, 2], [2, 0], [2, 2, 2, 2, 2, 0, 0, 0, 0, 0], [2, 0], [2, 2, 2, 0, 0, 0, 0], [2, 2, 2, 2, 2], [2, 2, 2, 1, 2, 2, 2, 2, 2]]
/-! ===== the mini machine: numbers as Int, cells by their places in the world behind the constructors ===== -/
abbrev MV : Type := Int ⊕ (Option Nat ⊕ UInt64)
abbrev MH : Type := Nat → Nat → Int
abbrev ML : Type := List (Nat × MV)
abbrev vI (z : Int) : MV := Sum.inl z
abbrev vR (i : Nat) : MV := Sum.inr (Sum.inl (some i))
abbrev vO (o : Option Nat) : MV := Sum.inr (Sum.inl o)
abbrev vD (d : UInt64) : MV := Sum.inr (Sum.inr d)
def inR (z : Int) : Prop := -2147483648 ≤ z ∧ z ≤ 2147483647
def wr (z : Int) : Int := Int.bmod z 4294967296
def up (h : MH) (i j : Nat) (v : Int) : MH := fun a b => if a = i ∧ b = j then v else h a b
def c2 : MV → Bool
  | .inr (.inr _) => true
  | _ => false
def tv (ad : Nat → Nat) : MV → Value
  | .inl z => .int (Int32.ofInt z)
  | .inr (.inl (some i)) => .ref (ad i)
  | .inr (.inl none) => .null
  | .inr (.inr d) => .double d
def okV : MV → Prop
  | .inl z => inR z
  | _ => True
def tl (ad : Nat → Nat) (q : Nat × MV) : Nat × Value := (q.1, tv ad q.2)
def kd (i : Nat) : Nat := kdL.getD i 1000
def al (i : Nat) : Nat := alL.getD i 0
def rf (i k : Nat) : Nat := (rfL.getD i []).getD k 0
def fc (ci k : Nat) : Nat := (fcL.getD ci []).getD k 3
def fn (ci : Nat) : Nat := (fcL.getD ci []).length
def lkL : ML → Nat → Option MV
  | [], _ => none
  | q :: l, i => bif q.1 == i then some q.2 else lkL l i
def sto (L : ML) (i : Nat) (v : MV) : ML := (i, v) :: L.filter (fun q => !(q.1 == i) && !(q.1 + 1 == i && c2 q.2))
def sto2 (L : ML) (i : Nat) (v : MV) : ML := (i, v) :: L.filter (fun q => !(q.1 == i) && (!(q.1 == i + 1) && !(q.1 + 1 == i && c2 q.2)))
def ilen : Instr → Nat
  | .bipush _ | .iload _ | .istore _ | .aload _ | .astore _ | .dload _ | .dstore _ | .ldc _ | .newarray _ => 2
  | .sipush _ | .iinc _ _ | .getfield _ | .putfield _ | .invokevirtual _ | .invokespecial _ | .invokestatic _ | .goto _ | .if_icmp _ _ | .ifCond _ _ | .ifnull _ | .ifnonnull _ | .new _ | .anewarray _ => 3
  | _ => 1
def plen : List Instr → Nat
  | [] => 0
  | I :: is => ilen I + plen is
def sits (cc : ByteArray) : Nat → List Instr → Bool
  | _, [] => true
  | pc, I :: is => decide (decode cc pc = .ok (I, ilen I)) && sits cc (pc + ilen I) is
def andv (x y : Int) : Int := (Int32.ofInt x &&& Int32.ofInt y).toInt
def shrv (x y : Int) : Int := (Int32.ofInt x >>> (Int32.ofInt y &&& 31)).toInt
def remv (x y : Int) : Int := (Int32.ofInt x - Int32.ofInt x / Int32.ofInt y * Int32.ofInt y).toInt
abbrev MR : Type := Option ((ML × List MV × MH) × Prop)
/-- one instruction of a straight stretch; the Prop is what must hold for it -/
def mstep (fl : Nat → Option (Nat × Nat)) (nL : Nat) : Instr → ML → List MV → MH → MR
  | .iconst n, L, st, h => bif decide (-100 ≤ n) && decide (n ≤ 100) then some ((L, vI n :: st, h), True) else none
  | .bipush n, L, st, h => bif decide (-128 ≤ n) && decide (n ≤ 127) then some ((L, vI n :: st, h), True) else none
  | .sipush n, L, st, h => bif decide (-32768 ≤ n) && decide (n ≤ 32767) then some ((L, vI n :: st, h), True) else none
  | .iload_n k, L, st, h => match lkL L k.val with
    | some (.inl z) => some ((L, vI z :: st, h), True)
    | _ => none
  | .iload k, L, st, h => match lkL L k with
    | some (.inl z) => some ((L, vI z :: st, h), True)
    | _ => none
  | .aload_n k, L, st, h => match lkL L k.val with
    | some (.inr (.inl o)) => some ((L, vO o :: st, h), True)
    | _ => none
  | .aload k, L, st, h => match lkL L k with
    | some (.inr (.inl o)) => some ((L, vO o :: st, h), True)
    | _ => none
  | .dload k, L, st, h => match lkL L k with
    | some (.inr (.inr d)) => some ((L, vD d :: st, h), True)
    | _ => none
  | .istore_n k, L, .inl z :: st, h => bif decide (k.val < nL) then some ((sto L k.val (vI z), st, h), True) else none
  | .istore k, L, .inl z :: st, h => bif decide (k < nL) then some ((sto L k (vI z), st, h), True) else none
  | .astore_n k, L, .inr (.inl (some i)) :: st, h => bif decide (k.val < nL) then some ((sto L k.val (vR i), st, h), True) else none
  | .astore k, L, .inr (.inl (some i)) :: st, h => bif decide (k < nL) then some ((sto L k (vR i), st, h), True) else none
  | .dstore k, L, .inr (.inr d) :: st, h => bif decide (k + 1 < nL) then some ((sto2 L k (vD d), st, h), True) else none
  | .iinc k n, L, st, h => match lkL L k with
    | some (.inl z) => bif decide (k < nL) then some ((sto L k (vI (wr (z + n))), st, h), True) else none
    | _ => none
  | .iadd, L, .inl y :: .inl x :: st, h => some ((L, vI (wr (x + y)) :: st, h), True)
  | .isub, L, .inl y :: .inl x :: st, h => some ((L, vI (wr (x - y)) :: st, h), True)
  | .imul, L, .inl y :: .inl x :: st, h => some ((L, vI (wr (x * y)) :: st, h), True)
  | .ineg, L, .inl x :: st, h => some ((L, vI (wr (-x)) :: st, h), True)
  | .i2c, L, .inl x :: st, h => some ((L, vI (x % 65536) :: st, h), True)
  | .dup, L, .inl z :: st, h => some ((L, vI z :: vI z :: st, h), True)
  | .dup, L, .inr (.inl o) :: st, h => some ((L, vO o :: vO o :: st, h), True)
  | .dup2, L, .inl y :: .inr (.inl o) :: st, h => some ((L, vI y :: vO o :: vI y :: vO o :: st, h), True)
  | .pop, L, .inl _ :: st, h => some ((L, st, h), True)
  | .aconst_null, L, st, h => some ((L, vO none :: st, h), True)
  | .getfield idx, L, .inr (.inl (some i)) :: st, h => match fl idx with
    | some (ci, k) => bif fc ci k == 2 then some ((L, vR (rf i k) :: st, h), kd i = ci + 2) else some ((L, vI (h i k) :: st, h), kd i = ci + 2)
    | none => none
  | .putfield idx, L, .inl v :: .inr (.inl (some i)) :: st, h => match fl idx with
    | some (ci, k) => bif fc ci k == 0 then some ((L, st, up h i k v), kd i = ci + 2) else bif fc ci k == 1 then some ((L, st, up h i k v), kd i = ci + 2 ∧ (v = 0 ∨ v = 1)) else none
    | none => none
  | .iaload, L, .inl j :: .inr (.inl (some a)) :: st, h => some ((L, vI (h a j.toNat) :: st, h), kd a = 0 ∧ 0 ≤ j ∧ j < (al a : Int))
  | .iastore, L, .inl v :: .inl j :: .inr (.inl (some a)) :: st, h => some ((L, st, up h a j.toNat v), kd a = 0 ∧ 0 ≤ j ∧ j < (al a : Int))
  | .arraylength, L, .inr (.inl (some a)) :: st, h => some ((L, vI (al a : Int) :: st, h), kd a ≤ 1)
  | .aaload, L, .inl j :: .inr (.inl (some a)) :: st, h => some ((L, vR (rf a j.toNat) :: st, h), kd a = 1 ∧ 0 ≤ j ∧ j < (al a : Int))
  | .i2d, L, .inl x :: st, h => some ((L, vD (FP.i2d (Int32.ofInt x)) :: st, h), True)
  | .dconst n, L, st, h => bif n.val == 1 then some ((L, vD FP.dconst1 :: st, h), True) else none
  | .dmul, L, .inr (.inr y) :: .inr (.inr x) :: st, h => some ((L, vD (FP.dmul x y) :: st, h), vf_n64 (FP.dmul x y))
  | .ddiv, L, .inr (.inr y) :: .inr (.inr x) :: st, h => some ((L, vD (FP.ddiv x y) :: st, h), vf_n64 (FP.ddiv x y))
  | .dcmp op, L, .inr (.inr y) :: .inr (.inr x) :: st, h => some ((L, vI (Op.cmpValue (FP.dcmp x y) op).toInt :: st, h), True)
  | .iand, L, .inl y :: .inl x :: st, h => some ((L, vI (andv x y) :: st, h), True)
  | .ishr, L, .inl y :: .inl x :: st, h => some ((L, vI (shrv x y) :: st, h), True)
  | .irem, L, .inl y :: .inl x :: st, h => some ((L, vI (remv x y) :: st, h), ¬ y = 0)
  | _, _, _, _ => none
def mrun (fl : Nat → Option (Nat × Nat)) (nL : Nat) : List Instr → ML → List MV → MH → MR
  | [], L, st, h => some ((L, st, h), True)
  | I :: is, L, st, h => match mstep fl nL I L st h with
    | none => none
    | some ((L1, st1, h1), P) => match mrun fl nL is L1 st1 h1 with
      | none => none
      | some (c, P') => some (c, P ∧ P')
