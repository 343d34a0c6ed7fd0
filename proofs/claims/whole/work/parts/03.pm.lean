/-! THE PURE MACHINE: method bodies as tables of instructions over a fixed layout of things; ints in one map, longs in another -/
abbrev PH : Type := (Nat → Nat → Int32) × (Nat → Nat → Int64)
abbrev LO : Type := Nat × Nat × List (Option Nat)
abbrev PE : Type := Instr × Nat × Nat × Nat × Nat × Int32 × Int64
abbrev PO : Type := Option Value ⊕ Nat
abbrev PL : Type := List (Option Value)
def pu (h : PH) (i j : Nat) (v : Int32) : PH := (fun a => if a = i then (fun k => if k = j then v else h.1 a k) else h.1 a, h.2)
def pul (h : PH) (i j : Nat) (v : Int64) : PH := (h.1, fun a => if a = i then (fun k => if k = j then v else h.2 a k) else h.2 a)
def pcpy (h : PH) (src sp dst dp n : Nat) : PH := (fun a => if a = dst then (fun k => if dp ≤ k ∧ k < dp + n then h.1 src (sp + (k - dp)) else h.1 a k) else h.1 a, h.2)
def lgo : PL → Nat → Option Value
  | [], _ => none
  | x :: _, 0 => x
  | _ :: t, n + 1 => lgo t n
def lgf : List (Option Nat) → Nat → Option (Option Nat)
  | [], _ => none
  | x :: _, 0 => some x
  | _ :: t, n + 1 => lgf t n
def catz : List Value → Nat
  | [] => 0
  | .long _ :: t => 2 + catz t
  | .double _ :: t => 2 + catz t
  | _ :: t => 1 + catz t
/-- the last k values of the stack, deepest first -/
def popk : Nat → List Value → List Value → Option (List Value × List Value)
  | 0, st, acc => some (acc, st)
  | _ + 1, [], _ => none
  | n + 1, v :: st, acc => popk n st (v :: acc)

def ls1 {α : Type} (lv : PL) (a : Nat) (v : Value) (k : PL → Option α) : Option α :=
  match a, lv with
  | 0, _ :: t => k (some v :: t)
  | 1, some (.long _) :: _ :: t => k (none :: some v :: t)
  | 1, x0 :: _ :: t => k (x0 :: some v :: t)
  | 2, x0 :: some (.long _) :: _ :: t => k (x0 :: none :: some v :: t)
  | 2, x0 :: x1 :: _ :: t => k (x0 :: x1 :: some v :: t)
  | 3, x0 :: x1 :: some (.long _) :: _ :: t => k (x0 :: x1 :: none :: some v :: t)
  | 3, x0 :: x1 :: x2 :: _ :: t => k (x0 :: x1 :: x2 :: some v :: t)
  | 4, x0 :: x1 :: x2 :: some (.long _) :: _ :: t => k (x0 :: x1 :: x2 :: none :: some v :: t)
  | 4, x0 :: x1 :: x2 :: x3 :: _ :: t => k (x0 :: x1 :: x2 :: x3 :: some v :: t)
  | 5, x0 :: x1 :: x2 :: x3 :: some (.long _) :: _ :: t => k (x0 :: x1 :: x2 :: x3 :: none :: some v :: t)
  | 5, x0 :: x1 :: x2 :: x3 :: x4 :: _ :: t => k (x0 :: x1 :: x2 :: x3 :: x4 :: some v :: t)
  | 6, x0 :: x1 :: x2 :: x3 :: x4 :: some (.long _) :: _ :: t => k (x0 :: x1 :: x2 :: x3 :: x4 :: none :: some v :: t)
  | 6, x0 :: x1 :: x2 :: x3 :: x4 :: x5 :: _ :: t => k (x0 :: x1 :: x2 :: x3 :: x4 :: x5 :: some v :: t)
  | 7, x0 :: x1 :: x2 :: x3 :: x4 :: x5 :: some (.long _) :: _ :: t => k (x0 :: x1 :: x2 :: x3 :: x4 :: x5 :: none :: some v :: t)
  | 7, x0 :: x1 :: x2 :: x3 :: x4 :: x5 :: x6 :: _ :: t => k (x0 :: x1 :: x2 :: x3 :: x4 :: x5 :: x6 :: some v :: t)
  | 8, x0 :: x1 :: x2 :: x3 :: x4 :: x5 :: x6 :: some (.long _) :: _ :: t => k (x0 :: x1 :: x2 :: x3 :: x4 :: x5 :: x6 :: none :: some v :: t)
  | 8, x0 :: x1 :: x2 :: x3 :: x4 :: x5 :: x6 :: x7 :: _ :: t => k (x0 :: x1 :: x2 :: x3 :: x4 :: x5 :: x6 :: x7 :: some v :: t)
  | _, _ => none
def ls2 {α : Type} (lv : PL) (a : Nat) (v : Value) (k : PL → Option α) : Option α :=
  match a, lv with
  | 0, _ :: _ :: t => k (some v :: none :: t)
  | 1, some (.long _) :: _ :: _ :: t => k (none :: some v :: none :: t)
  | 1, x0 :: _ :: _ :: t => k (x0 :: some v :: none :: t)
  | 2, x0 :: some (.long _) :: _ :: _ :: t => k (x0 :: none :: some v :: none :: t)
  | 2, x0 :: x1 :: _ :: _ :: t => k (x0 :: x1 :: some v :: none :: t)
  | 3, x0 :: x1 :: some (.long _) :: _ :: _ :: t => k (x0 :: x1 :: none :: some v :: none :: t)
  | 3, x0 :: x1 :: x2 :: _ :: _ :: t => k (x0 :: x1 :: x2 :: some v :: none :: t)
  | 4, x0 :: x1 :: x2 :: some (.long _) :: _ :: _ :: t => k (x0 :: x1 :: x2 :: none :: some v :: none :: t)
  | 4, x0 :: x1 :: x2 :: x3 :: _ :: _ :: t => k (x0 :: x1 :: x2 :: x3 :: some v :: none :: t)
  | 5, x0 :: x1 :: x2 :: x3 :: some (.long _) :: _ :: _ :: t => k (x0 :: x1 :: x2 :: x3 :: none :: some v :: none :: t)
  | 5, x0 :: x1 :: x2 :: x3 :: x4 :: _ :: _ :: t => k (x0 :: x1 :: x2 :: x3 :: x4 :: some v :: none :: t)
  | 6, x0 :: x1 :: x2 :: x3 :: x4 :: some (.long _) :: _ :: _ :: t => k (x0 :: x1 :: x2 :: x3 :: x4 :: none :: some v :: none :: t)
  | 6, x0 :: x1 :: x2 :: x3 :: x4 :: x5 :: _ :: _ :: t => k (x0 :: x1 :: x2 :: x3 :: x4 :: x5 :: some v :: none :: t)
  | 7, x0 :: x1 :: x2 :: x3 :: x4 :: x5 :: some (.long _) :: _ :: _ :: t => k (x0 :: x1 :: x2 :: x3 :: x4 :: x5 :: none :: some v :: none :: t)
  | 7, x0 :: x1 :: x2 :: x3 :: x4 :: x5 :: x6 :: _ :: _ :: t => k (x0 :: x1 :: x2 :: x3 :: x4 :: x5 :: x6 :: some v :: none :: t)
  | _, _ => none
abbrev PR : Type := Option (Nat × PL × List Value × PH)
def inb (i : Int32) (n : Nat) : Bool := decide (0 ≤ i) && decide (i.toNatClampNeg < n)
def ald (n : Nat) (h : PH) (r : Nat) (i : Int32) : Option Int32 := if inb i n then some (h.1 r i.toNatClampNeg) else none
def ldl (n : Nat) (h : PH) (r : Nat) (i : Int32) : Option Int64 := if inb i n then some (h.2 r i.toNatClampNeg) else none
def ast (n : Nat) (h : PH) (r : Nat) (i x : Int32) : Option PH := if inb i n then some (pu h r i.toNatClampNeg x) else none
def asl (n : Nat) (h : PH) (r : Nat) (i : Int32) (x : Int64) : Option PH := if inb i n then some (pul h r i.toNatClampNeg x) else none
def aidx (n : Nat) (i : Int32) : Option Nat := if inb i n then some i.toNatClampNeg else none
def dvl (x y : Int64) : Option Int64 := if y = 0 then none else some (x / y)
def zbo (x : Int32) : Option Int32 := if x = 0 then some 0 else if x = 1 then some 1 else none
def acp (n0 n1 : Nat) (h : PH) (src : Nat) (sp : Int32) (dst : Nat) (dp n : Int32) : Option PH :=
  if ¬ sp < 0 ∧ ¬ dp < 0 ∧ ¬ n < 0 ∧ sp.toNatClampNeg + n.toNatClampNeg ≤ n0 ∧ dp.toNatClampNeg + n.toNatClampNeg ≤ n1 ∧ src ≠ dst then some (pcpy h src sp.toNatClampNeg dst dp.toNatClampNeg n.toNatClampNeg) else none
/-- String constants: things from SB on -/
def SB : Nat := 1000

def pstep (lay : Nat → LO) (slen : Nat → Nat) (sch : Nat → Nat → Int32) (e : PE) (lv : PL) (st : List Value) (h : PH) : PR :=
  match e with
  | (i, nx, a, b, t, v, w) =>
  match i with
  | .iconst _ => some (nx, lv, .int v :: st, h)
  | .bipush _ => some (nx, lv, .int v :: st, h)
  | .sipush _ => some (nx, lv, .int v :: st, h)
  | .ldc_w _ => some (nx, lv, .int v :: st, h)
  | .ldc _ => match t with
    | 0 => some (nx, lv, .int v :: st, h)
    | 1 => some (nx, lv, .ref (SB + a) :: st, h)
    | _ => none
  | .lconst _ => some (nx, lv, .long w :: st, h)
  | .ldc2_w _ => some (nx, lv, .long w :: st, h)
  | .iload_n _ => match lgo lv a with
    | some (.int x) => some (nx, lv, .int x :: st, h)
    | _ => none
  | .iload _ => match lgo lv a with
    | some (.int x) => some (nx, lv, .int x :: st, h)
    | _ => none
  | .aload_n _ => match lgo lv a with
    | some (.ref x) => some (nx, lv, .ref x :: st, h)
    | _ => none
  | .aload _ => match lgo lv a with
    | some (.ref x) => some (nx, lv, .ref x :: st, h)
    | _ => none
  | .lload_n _ => match lgo lv a with
    | some (.long x) => some (nx, lv, .long x :: st, h)
    | _ => none
  | .lload _ => match lgo lv a with
    | some (.long x) => some (nx, lv, .long x :: st, h)
    | _ => none
  | .istore_n _ => match st with
    | .int x :: r => ls1 lv a (.int x) fun lv => some (nx, lv, r, h)
    | _ => none
  | .istore _ => match st with
    | .int x :: r => ls1 lv a (.int x) fun lv => some (nx, lv, r, h)
    | _ => none
  | .astore_n _ => match st with
    | .ref x :: r => ls1 lv a (.ref x) fun lv => some (nx, lv, r, h)
    | _ => none
  | .astore _ => match st with
    | .ref x :: r => ls1 lv a (.ref x) fun lv => some (nx, lv, r, h)
    | _ => none
  | .lstore_n _ => match st with
    | .long x :: r => ls2 lv a (.long x) fun lv => some (nx, lv, r, h)
    | _ => none
  | .lstore _ => match st with
    | .long x :: r => ls2 lv a (.long x) fun lv => some (nx, lv, r, h)
    | _ => none
  | .iinc _ _ => match lgo lv a with
    | some (.int x) => ls1 lv a (.int (x + v)) fun lv => some (nx, lv, st, h)
    | _ => none
  | .iadd => match st with
    | .int y :: .int x :: r => some (nx, lv, .int (x + y) :: r, h)
    | _ => none
  | .isub => match st with
    | .int y :: .int x :: r => some (nx, lv, .int (x - y) :: r, h)
    | _ => none
  | .imul => match st with
    | .int y :: .int x :: r => some (nx, lv, .int (x * y) :: r, h)
    | _ => none
  | .iand => match st with
    | .int y :: .int x :: r => some (nx, lv, .int (x &&& y) :: r, h)
    | _ => none
  | .ior => match st with
    | .int y :: .int x :: r => some (nx, lv, .int (x ||| y) :: r, h)
    | _ => none
  | .ixor => match st with
    | .int y :: .int x :: r => some (nx, lv, .int (x ^^^ y) :: r, h)
    | _ => none
  | .ishl => match st with
    | .int y :: .int x :: r => some (nx, lv, .int (x <<< (y &&& 31)) :: r, h)
    | _ => none
  | .ishr => match st with
    | .int y :: .int x :: r => some (nx, lv, .int (x >>> (y &&& 31)) :: r, h)
    | _ => none
  | .iushr => match st with
    | .int y :: .int x :: r => some (nx, lv, .int ((x.toUInt32 >>> (y.toUInt32 &&& Int32.toUInt32 31)).toInt32) :: r, h)
    | _ => none
  | .idiv => match st with
    | .int y :: .int x :: r => if y = 0 then none else some (nx, lv, .int (x / y) :: r, h)
    | _ => none
  | .irem => match st with
    | .int y :: .int x :: r => if y = 0 then none else some (nx, lv, .int (x - x / y * y) :: r, h)
    | _ => none
  | .ineg => match st with
    | .int x :: r => some (nx, lv, .int (-x) :: r, h)
    | _ => none
  | .ladd => match st with
    | .long y :: .long x :: r => some (nx, lv, .long (x + y) :: r, h)
    | _ => none
  | .lsub => match st with
    | .long y :: .long x :: r => some (nx, lv, .long (x - y) :: r, h)
    | _ => none
  | .lmul => match st with
    | .long y :: .long x :: r => some (nx, lv, .long (x * y) :: r, h)
    | _ => none
  | .lcmp => match st with
    | .long y :: .long x :: r => some (nx, lv, .int (lg_cmp x y) :: r, h)
    | _ => none
  | .i2l => match st with
    | .int x :: r => some (nx, lv, .long x.toInt64 :: r, h)
    | _ => none
  | .l2i => match st with
    | .long x :: r => some (nx, lv, .int x.toInt32 :: r, h)
    | _ => none
  | .i2b => match st with
    | .int x :: r => some (nx, lv, .int x.toInt8.toInt32 :: r, h)
    | _ => none
  | .dup => match st with
    | .int x :: r => some (nx, lv, .int x :: .int x :: r, h)
    | .ref x :: r => some (nx, lv, .ref x :: .ref x :: r, h)
    | _ => none
  | .dup2 => match st with
    | .int y :: .ref x :: r => some (nx, lv, .int y :: .ref x :: .int y :: .ref x :: r, h)
    | _ => none
  | .pop => match st with
    | .int _ :: r => some (nx, lv, r, h)
    | _ => none
  | .goto _ => some (a, lv, st, h)
  | .ifnull _ => match st with
    | .ref _ :: r => some (nx, lv, r, h)
    | _ => none
  | .ifCond .eq _ => match st with
    | .int x :: r => if x = 0 then some (a, lv, r, h) else some (nx, lv, r, h)
    | _ => none
  | .ifCond .ne _ => match st with
    | .int x :: r => if ¬ x = 0 then some (a, lv, r, h) else some (nx, lv, r, h)
    | _ => none
  | .ifCond .lt _ => match st with
    | .int x :: r => if x < 0 then some (a, lv, r, h) else some (nx, lv, r, h)
    | _ => none
  | .ifCond .ge _ => match st with
    | .int x :: r => if 0 ≤ x then some (a, lv, r, h) else some (nx, lv, r, h)
    | _ => none
  | .ifCond .gt _ => match st with
    | .int x :: r => if 0 < x then some (a, lv, r, h) else some (nx, lv, r, h)
    | _ => none
  | .ifCond .le _ => match st with
    | .int x :: r => if x ≤ 0 then some (a, lv, r, h) else some (nx, lv, r, h)
    | _ => none
  | .if_icmp .eq _ => match st with
    | .int y :: .int x :: r => if x = y then some (a, lv, r, h) else some (nx, lv, r, h)
    | _ => none
  | .if_icmp .ne _ => match st with
    | .int y :: .int x :: r => if ¬ x = y then some (a, lv, r, h) else some (nx, lv, r, h)
    | _ => none
  | .if_icmp .lt _ => match st with
    | .int y :: .int x :: r => if x < y then some (a, lv, r, h) else some (nx, lv, r, h)
    | _ => none
  | .if_icmp .ge _ => match st with
    | .int y :: .int x :: r => if y ≤ x then some (a, lv, r, h) else some (nx, lv, r, h)
    | _ => none
  | .if_icmp .gt _ => match st with
    | .int y :: .int x :: r => if y < x then some (a, lv, r, h) else some (nx, lv, r, h)
    | _ => none
  | .if_icmp .le _ => match st with
    | .int y :: .int x :: r => if x ≤ y then some (a, lv, r, h) else some (nx, lv, r, h)
    | _ => none
  | .tableswitch _ lo hi offs => match st with
    | .int x :: r => if x.toInt < lo ∨ hi < x.toInt then some (a, lv, r, h) else
      match offs[(x.toInt - lo).toNat]? with
      | some off => some (((b : Int) + off).toNat, lv, r, h)
      | none => none
    | _ => none
  | .getfield _ => match st with
    | .ref o :: r => match lay o with
      | (0, ci, fs) => match Nat.beq ci a with
        | true => match lgf fs b with
          | some (some j) => some (nx, lv, .ref j :: r, h)
          | some none => some (nx, lv, .int (h.1 o b) :: r, h)
          | none => none
        | false => none
      | _ => none
    | _ => none
  | .putfield _ => match st with
    | .int x :: .ref o :: r => match lay o with
      | (0, ci, fs) => match Nat.beq ci a with
        | true => match lgf fs b with
          | some none => match t with
            | 0 => some (nx, lv, r, pu h o b x)
            | 1 => if x = 0 then some (nx, lv, r, pu h o b 0) else if x = 1 then some (nx, lv, r, pu h o b 1) else none
            | _ => none
          | _ => none
        | false => none
      | _ => none
    | _ => none
  | .iaload => match st with
    | .int i :: .ref o :: r => match lay o with
      | (1, n, _) => if inb i n then some (nx, lv, .int (h.1 o i.toNatClampNeg) :: r, h) else none
      | (7, _, _) => if inb i (h.1 (o + 1) 0).toNatClampNeg then some (nx, lv, .int (h.1 o i.toNatClampNeg) :: r, h) else none
      | _ => none
    | _ => none
  | .baload => match st with
    | .int i :: .ref o :: r => match lay o with
      | (2, n, _) => if inb i n then some (nx, lv, .int (h.1 o i.toNatClampNeg) :: r, h) else none
      | (3, n, _) => if inb i n then some (nx, lv, .int (h.1 o i.toNatClampNeg) :: r, h) else none
      | _ => none
    | _ => none
  | .laload => match st with
    | .int i :: .ref o :: r => match lay o with
      | (4, n, _) => if inb i n then some (nx, lv, .long (h.2 o i.toNatClampNeg) :: r, h) else none
      | _ => none
    | _ => none
  | .aaload => match st with
    | .int i :: .ref o :: r => match lay o with
      | (5, n, [some q, some d]) => if inb i n then some (nx, lv, .ref (q + d * i.toNatClampNeg) :: r, h) else none
      | (6, n, [some q, some d]) => if inb i n then some (nx, lv, .ref (q + d * i.toNatClampNeg) :: r, h) else none
      | _ => none
    | _ => none
  | .iastore => match st with
    | .int x :: .int i :: .ref o :: r => match lay o with
      | (1, n, _) => if inb i n then some (nx, lv, r, pu h o i.toNatClampNeg x) else none
      | _ => none
    | _ => none
  | .bastore => match st with
    | .int x :: .int i :: .ref o :: r => match lay o with
      | (2, n, _) => if inb i n then some (nx, lv, r, pu h o i.toNatClampNeg (vp_nar .byte x)) else none
      | (3, n, _) => if inb i n then some (nx, lv, r, pu h o i.toNatClampNeg (vp_nar .boolean x)) else none
      | _ => none
    | _ => none
  | .lastore => match st with
    | .long x :: .int i :: .ref o :: r => match lay o with
      | (4, n, _) => if inb i n then some (nx, lv, r, pul h o i.toNatClampNeg x) else none
      | _ => none
    | _ => none
  | .arraylength => match st with
    | .ref o :: r => match lay o with
      | (1, n, _) => some (nx, lv, .int (Int32.ofNat n) :: r, h)
      | (2, n, _) => some (nx, lv, .int (Int32.ofNat n) :: r, h)
      | (3, n, _) => some (nx, lv, .int (Int32.ofNat n) :: r, h)
      | (5, n, _) => some (nx, lv, .int (Int32.ofNat n) :: r, h)
      | (7, _, _) => some (nx, lv, .int (h.1 (o + 1) 0) :: r, h)
      | _ => none
    | _ => none
  | .ldiv => match st with
    | .long y :: .long x :: r => if y = 0 then none else some (nx, lv, .long (x / y) :: r, h)
    | _ => none
  | .invokestatic _ => match t with
    | 100 => match st with
      | .int y :: .int x :: r => some (nx, lv, .int (if y < x then y else x) :: r, h)
      | _ => none
    | 101 => match st with
      | .long y :: .long x :: r => some (nx, lv, .long (if y < x then x else y) :: r, h)
      | _ => none
    | 102 => match st with
      | .long y :: .long x :: r => some (nx, lv, .long (if y < x then y else x) :: r, h)
      | _ => none
    | 103 => match st with
      | .int n :: .int dp :: .ref d :: .int sp :: .ref o :: r => match lay o, lay d with
        | (1, n0, _), (1, n1, _) => if ¬ sp < 0 ∧ ¬ dp < 0 ∧ ¬ n < 0 ∧ sp.toNatClampNeg + n.toNatClampNeg ≤ n0 ∧ dp.toNatClampNeg + n.toNatClampNeg ≤ n1 ∧ o ≠ d then some (nx, lv, r, pcpy h o sp.toNatClampNeg d dp.toNatClampNeg n.toNatClampNeg) else none
        | _, _ => none
      | _ => none
    | _ => none
  | .invokevirtual _ => match t with
    | 110 => match st with
      | .ref o :: r => match Nat.ble SB o with
        | true => some (nx, lv, .int (Int32.ofNat (slen (o - SB))) :: r, h)
        | false => none
      | _ => none
    | 111 => match st with
      | .int i :: .ref o :: r => match Nat.ble SB o with
        | true => if inb i (slen (o - SB)) then some (nx, lv, .int (sch (o - SB) i.toNatClampNeg) :: r, h) else none
        | false => none
      | _ => none
    | _ => none
  | _ => none
