/-! THE SECOND MACHINE: law, city, nodes, texts: things are made, and are never taken away. A thing: an object (its class, its fields), an array of ints or bytes, of longs, of references -/
abbrev gRF : Type := Option (Nat ⊕ Nat)
abbrev gPV : Type := Int32 ⊕ (Int64 ⊕ gRF)
abbrev gDT : Type := (Nat × List gPV) ⊕ ((Nat × List Int32) ⊕ (List Int64 ⊕ (Nat × List gRF)))
/-- the things in the order of their making, cells and slots made so far -/
abbrev gDS : Type := List gDT × Nat × Nat
abbrev gST : Type := PH × gDS
abbrev gLV : Type := List (Option gPV)
abbrev gPO : Type := Option gPV
def gKS : Nat := 16
def gStrB (j : Nat) : List Int32 := [[110, 101, 116, 119, 111, 114, 107], [32, 101, 100, 103, 101], [98, 97, 110], [100, 101, 112, 111, 116], [115, 101, 114, 118, 105, 99, 101, 32], [32], [59], [], [99, 111, 115, 116], [100, 101, 109, 97, 110, 100], [43], [32, 45, 32], [42, 32], [47], [40], [41]].getD j []
def gOnes : List Int32 := [48, 49, 50, 51, 52, 53, 54, 55, 56, 57, 48, 49, 50, 51, 52, 53, 54, 55, 56, 57, 48, 49, 50, 51, 52, 53, 54, 55, 56, 57, 48, 49, 50, 51, 52, 53, 54, 55, 56, 57, 48, 49, 50, 51, 52, 53, 54, 55, 56, 57, 48, 49, 50, 51, 52, 53, 54, 55, 56, 57, 48, 49, 50, 51, 52, 53, 54, 55, 56, 57, 48, 49, 50, 51, 52, 53, 54, 55, 56, 57, 48, 49, 50, 51, 52, 53, 54, 55, 56, 57, 48, 49, 50, 51, 52, 53, 54, 55, 56, 57]
def gTens : List Int32 := [48, 48, 48, 48, 48, 48, 48, 48, 48, 48, 49, 49, 49, 49, 49, 49, 49, 49, 49, 49, 50, 50, 50, 50, 50, 50, 50, 50, 50, 50, 51, 51, 51, 51, 51, 51, 51, 51, 51, 51, 52, 52, 52, 52, 52, 52, 52, 52, 52, 52, 53, 53, 53, 53, 53, 53, 53, 53, 53, 53, 54, 54, 54, 54, 54, 54, 54, 54, 54, 54, 55, 55, 55, 55, 55, 55, 55, 55, 55, 55, 56, 56, 56, 56, 56, 56, 56, 56, 56, 56, 57, 57, 57, 57, 57, 57, 57, 57, 57, 57]
/-- what was there before: 0 the class's object, 1 VARIABLES, 3 and 4 the tables of digits, 5 the script, 10 + 2 j a String constant, 11 + 2 j its bytes -/
def gkS (q : Nat) : Bool := Nat.ble 10 q && (Nat.blt q 42 && Nat.beq (q % 2) 0)
def gkF (q ci b : Nat) : Option gPV := bif Nat.beq ci 11 && gkS q then (match b with
  | 0 => some (.inr (.inr (some (.inr (q + 1)))))
  | 1 => some (.inl 0)
  | _ => none) else none
def gkB (q : Nat) : Option (List Int32) := bif Nat.beq q 3 then some gOnes else bif Nat.beq q 4 then some gTens else bif Nat.blt q 11 then none else bif gkS (q - 1) then some (gStrB ((q - 11) / 2)) else none
def gkQ (q : Nat) : Option (Nat × List gRF) := bif Nat.beq q 1 then some (40, [some (.inr 26), some (.inr 28)]) else none
/-- a field -/
def gFld (D : gDS) (r : gRF) (ci b : Nat) : Option gPV := match r with
  | some (.inl i) => (match D.1[i]? with
    | some (.inl (cj, vs)) => bif Nat.beq cj ci then vs[b]? else none
    | _ => none)
  | some (.inr q) => gkF q ci b
  | none => none
def gFi (D : gDS) (r : gRF) (ci b : Nat) : Option Int32 := match gFld D r ci b with
  | some (.inl x) => some x
  | _ => none
def gFr (D : gDS) (r : gRF) (ci b : Nat) : Option gRF := match gFld D r ci b with
  | some (.inr (.inr x)) => some x
  | _ => none
/-- the ints of an array of kind k: 1 int, 2 byte -/
def gInt (D : gDS) (r : gRF) (k : Nat) : Option (List Int32) := match r with
  | some (.inl i) => (match D.1[i]? with
    | some (.inr (.inl (k', xs))) => bif Nat.beq k' k then some xs else none
    | _ => none)
  | some (.inr q) => bif Nat.beq k 2 then gkB q else none
  | none => none
def gIld (D : gDS) (r : gRF) (k : Nat) (i : Int32) : Option Int32 := (gInt D r k).bind fun xs => (aidx xs.length i).bind fun j => some (xs.getD j 0)
def gJs (D : gDS) (r : gRF) : Option (List Int64) := match r with
  | some (.inl i) => (match D.1[i]? with
    | some (.inr (.inr (.inl xs))) => some xs
    | _ => none)
  | _ => none
def gJld (D : gDS) (r : gRF) (i : Int32) : Option Int64 := (gJs D r).bind fun xs => (aidx xs.length i).bind fun j => some (xs.getD j 0)
def gQs (D : gDS) (r : gRF) : Option (Nat × List gRF) := match r with
  | some (.inl i) => (match D.1[i]? with
    | some (.inr (.inr (.inr p))) => some p
    | _ => none)
  | some (.inr q) => gkQ q
  | none => none
def gQld (D : gDS) (r : gRF) (i : Int32) : Option gRF := (gQs D r).bind fun p => (aidx p.2.length i).bind fun j => some (p.2.getD j none)
/-- an array's length -/
def gLen (D : gDS) (r : gRF) : Option Int32 := match r with
  | some (.inl i) => (match D.1[i]? with
    | some (.inr (.inl (_, xs))) => some (Int32.ofNat xs.length)
    | some (.inr (.inr (.inl xs))) => some (Int32.ofNat xs.length)
    | some (.inr (.inr (.inr (_, xs)))) => some (Int32.ofNat xs.length)
    | _ => none)
  | some (.inr q) => (match gkB q with
    | some xs => some (Int32.ofNat xs.length)
    | none => none)
  | none => none
/-- an object's class -/
def gCls (D : gDS) (r : gRF) : Option Nat := match r with
  | some (.inl i) => (match D.1[i]? with
    | some (.inl (cj, _)) => some cj
    | _ => none)
  | some (.inr q) => bif gkS q then some 11 else none
  | none => none
def gRv (D : gDS) (r : gRF) (ci : Nat) : Option Unit := match gCls D r with
  | some c => bif Nat.beq c ci then some () else none
  | none => none
/-- a thing changed -/
def gSet (D : gDS) (i : Nat) (t : gDT) : gDS := (D.1.set i t, D.2)
def gFst (D : gDS) (r : gRF) (ci b : Nat) (v : gPV) : Option gDS := match r with
  | some (.inl i) => (match D.1[i]? with
    | some (.inl (cj, vs)) => bif Nat.beq cj ci && Nat.blt b vs.length then some (gSet D i (.inl (cj, vs.set b v))) else none
    | _ => none)
  | _ => none
def gIst (D : gDS) (r : gRF) (k : Nat) (i : Int32) (v : Int32) : Option gDS := match r with
  | some (.inl a) => (match D.1[a]? with
    | some (.inr (.inl (k', xs))) => bif Nat.beq k' k then (aidx xs.length i).bind fun j => some (gSet D a (.inr (.inl (k', xs.set j v)))) else none
    | _ => none)
  | _ => none
def gJst (D : gDS) (r : gRF) (i : Int32) (v : Int64) : Option gDS := match r with
  | some (.inl a) => (match D.1[a]? with
    | some (.inr (.inr (.inl xs))) => (aidx xs.length i).bind fun j => some (gSet D a (.inr (.inr (.inl (xs.set j v)))))
    | _ => none)
  | _ => none
/-- what may stand in an array of references of class key: 6 rows of ints, 41 cities -/
def gFit (D : gDS) (key : Nat) (v : gRF) : Bool := match v with
  | none => Nat.beq key 41
  | some (.inl i) => (match D.1[i]? with
    | some (.inl (c, _)) => Nat.beq key 41 && Nat.beq c 8
    | some (.inr (.inl (k, _))) => Nat.beq key 6 && Nat.beq k 1
    | _ => false)
  | _ => false
def gQst (D : gDS) (r : gRF) (i : Int32) (v : gRF) : Option gDS := match r with
  | some (.inl a) => (match D.1[a]? with
    | some (.inr (.inr (.inr (key, xs)))) => bif gFit D key v then (aidx xs.length i).bind fun j => some (gSet D a (.inr (.inr (.inr (key, xs.set j v))))) else none
    | _ => none)
  | _ => none
/-- a thing made -/
def gNew (D : gDS) (t : gDT) (n : Nat) : gDS := (D.1 ++ [t], D.2.1 + 1, D.2.2 + n)
def gTop (D : gDS) : gRF := some (.inl D.1.length)
def gDef (ci : Nat) : List gPV := match ci with
  | 8 => [.inl 0, .inl 0, .inr (.inr none), .inr (.inr none), .inr (.inr none), .inr (.inr none), .inr (.inr none), .inr (.inr none), .inr (.inr none)]
  | 9 => [.inl 0, .inl 0, .inr (.inr none), .inr (.inr none)]
  | 10 => [.inl 0]
  | 11 => [.inr (.inr none), .inl 0, .inl 0, .inl 0]
  | _ => [.inr (.inr none), .inl 0, .inl 0, .inl 0]
/-- how many a new array may have -/
def gCnt (n : Int32) : Option Nat := if 0 ≤ n ∧ n.toNatClampNeg ≤ 100000 then some n.toNatClampNeg else none
def gNwI (D : gDS) (k : Nat) (n : Int32) : Option gDS := bif Nat.beq k 1 || Nat.beq k 2 then (gCnt n).bind fun m => some (gNew D (.inr (.inl (k, List.replicate m 0))) m) else none
def gNwJ (D : gDS) (n : Int32) : Option gDS := (gCnt n).bind fun m => some (gNew D (.inr (.inr (.inl (List.replicate m 0)))) m)
def gNwQ (D : gDS) (key : Nat) (n : Int32) : Option gDS := bif Nat.beq key 6 || Nat.beq key 41 then (gCnt n).bind fun m => some (gNew D (.inr (.inr (.inr (key, List.replicate m none)))) m) else none
def gAI (D : gDS) (k m : Nat) : gDS := gNew D (.inr (.inl (k, List.replicate m 0))) m
def gAJ (D : gDS) (m : Nat) : gDS := gNew D (.inr (.inr (.inl (List.replicate m 0)))) m
def gAQ (D : gDS) (key m : Nat) : gDS := gNew D (.inr (.inr (.inr (key, List.replicate m none)))) m
def gNwO (D : gDS) (ci : Nat) : gDS := gNew D (.inl (ci, gDef ci)) (gDef ci).length
/-- rows of ints, all made -/
def gNwM (D : gDS) (n k : Int32) : Option gDS := (gCnt n).bind fun m => (gCnt k).bind fun j => some (D.1 ++ [.inr (.inr (.inr (6, (List.range m).map fun i => some (.inl (D.1.length + 1 + i)))))] ++ List.replicate m (.inr (.inl (1, List.replicate j 0))), D.2.1 + (1 + m), D.2.2 + (m + m * j))
/-- a copy of an array: 1 ints, 2 bytes, 6 rows of ints -/
def gCln (D : gDS) (r : gRF) (key : Nat) : Option gDS := match r with
  | some (.inl i) => (match D.1[i]? with
    | some (.inr (.inl (k, xs))) => bif Nat.beq k key then some (gNew D (.inr (.inl (k, xs))) xs.length) else none
    | some (.inr (.inr (.inr (k, xs)))) => bif Nat.beq k key && Nat.beq key 6 then some (gNew D (.inr (.inr (.inr (k, xs)))) xs.length) else none
    | _ => none)
  | _ => none
/-- an array of kind key -/
def gIsA (D : gDS) (r : gRF) (key : Nat) : Option Unit := match r with
  | some (.inl i) => (match D.1[i]? with
    | some (.inr (.inl (k, _))) => bif Nat.beq k key then some () else none
    | some (.inr (.inr (.inr (k, _)))) => bif Nat.beq k key && Nat.beq key 6 then some () else none
    | _ => none)
  | _ => none
/-- bytes copied into another array -/
def gCpB (D : gDS) (src : gRF) (sp : Int32) (dst : gRF) (dp n : Int32) : Option gDS := (gInt D src 2).bind fun xs => match dst with
  | some (.inl a) => (match D.1[a]? with
    | some (.inr (.inl (k, ys))) => if Nat.beq k 2 = true ∧ ¬ sp < 0 ∧ ¬ dp < 0 ∧ ¬ n < 0 ∧ sp.toNatClampNeg + n.toNatClampNeg ≤ xs.length ∧ dp.toNatClampNeg + n.toNatClampNeg ≤ ys.length ∧ ¬ src = dst then
        some (gSet D a (.inr (.inl (2, ys.take dp.toNatClampNeg ++ ((xs.drop sp.toNatClampNeg).take n.toNatClampNeg ++ ys.drop (dp.toNatClampNeg + n.toNatClampNeg)))))) else none
    | _ => none)
  | _ => none
/-- cells and slots that a call of the class may have made -/
def gBm (D : gDS) (n : Nat) : gDS := (D.1, D.2.1 + n, D.2.2 + 6 * n)
def gDv (x y : Int32) : Option Int32 := if y = 0 then none else some (x / y)
def gRm (x y : Int32) : Option Int32 := if y = 0 then none else some (x - x / y * y)
def gNar (t : Nat) (x : Int32) : Option Int32 := match t with
  | 5 => if vp_nar .char x = x then some x else none
  | _ => if vp_nar .byte x = x then some x else none
def gFsN (D : gDS) (r : gRF) (ci b : Nat) (x : Int32) : Option gDS := (gNar 6 x).bind fun z => gFst D r ci b (.inl z)
def gChk (i n : Int32) : Option Unit := if ¬ i < 0 ∧ i < n then some () else none
/-- an int of the script -/
def gScr (h : PH) (i : Int32) : Option Int32 := if inb i (h.1 168 0).toNatClampNeg then some (h.1 167 i.toNatClampNeg) else none
def gcat : List gPV → Nat
  | [] => 0
  | .inr (.inl _) :: t => 2 + gcat t
  | .inl _ :: t => 1 + gcat t
  | .inr (.inr _) :: t => 1 + gcat t
def ggo : gLV → Nat → Option gPV
  | [], _ => none
  | x :: _, 0 => x
  | _ :: t, n + 1 => ggo t n
def gput : gLV → Nat → Option gPV → gLV
  | [], _, _ => []
  | _ :: t, 0, v => v :: t
  | x :: t, n + 1, v => x :: gput t n v
/-- no long stands just ahead of place a -/
def gnl (lv : gLV) : Nat → Bool
  | 0 => true
  | a + 1 => (match ggo lv a with
    | some (.inr (.inl _)) => false
    | _ => true)
def gpop : Nat → List gPV → List gPV → Option (List gPV × List gPV)
  | 0, st, acc => some (acc, st)
  | _ + 1, [], _ => none
  | n + 1, v :: st, acc => gpop n st (v :: acc)
def glA : Nat → List gPV → gLV
  | 0, _ => []
  | n + 1, [] => none :: glA n []
  | 1, v :: _ => [some v]
  | n + 2, .inr (.inl x) :: t => some (.inr (.inl x)) :: none :: glA n t
  | n + 2, .inl x :: t => some (.inl x) :: glA (n + 1) t
  | n + 2, .inr (.inr x) :: t => some (.inr (.inr x)) :: glA (n + 1) t
def gmask : List Bool → gLV → gLV
  | true :: m, x :: t => x :: gmask m t
  | false :: m, _ :: t => none :: gmask m t
  | _, _ => []
abbrev gR : Type := Option (Nat × gLV × List gPV × gST)
def gstep (e : PE) (lv : gLV) (st : List gPV) (s : gST) : gR :=
  match e with
  | (i, nx, a, b, t, v, w) =>
  match i with
  | .iconst _ => some (nx, lv, .inl v :: st, s)
  | .bipush _ => some (nx, lv, .inl v :: st, s)
  | .sipush _ => some (nx, lv, .inl v :: st, s)
  | .ldc_w _ => some (nx, lv, .inl v :: st, s)
  | .ldc _ => match t with
    | 0 => some (nx, lv, .inl v :: st, s)
    | 1 => some (nx, lv, .inr (.inr (some (.inr a))) :: st, s)
    | _ => none
  | .lconst _ => some (nx, lv, .inr (.inl w) :: st, s)
  | .ldc2_w _ => some (nx, lv, .inr (.inl w) :: st, s)
  | .aconst_null => some (nx, lv, .inr (.inr none) :: st, s)
  | .iload_n _ => match ggo lv a with
    | some (.inl x) => some (nx, lv, .inl x :: st, s)
    | _ => none
  | .iload _ => match ggo lv a with
    | some (.inl x) => some (nx, lv, .inl x :: st, s)
    | _ => none
  | .lload_n _ => match ggo lv a with
    | some (.inr (.inl x)) => some (nx, lv, .inr (.inl x) :: st, s)
    | _ => none
  | .lload _ => match ggo lv a with
    | some (.inr (.inl x)) => some (nx, lv, .inr (.inl x) :: st, s)
    | _ => none
  | .aload_n _ => match ggo lv a with
    | some (.inr (.inr x)) => some (nx, lv, .inr (.inr x) :: st, s)
    | _ => none
  | .aload _ => match ggo lv a with
    | some (.inr (.inr x)) => some (nx, lv, .inr (.inr x) :: st, s)
    | _ => none
  | .istore_n _ => match st with
    | .inl x :: r => bif gnl lv a then some (nx, gput lv a (some (.inl x)), r, s) else none
    | _ => none
  | .istore _ => match st with
    | .inl x :: r => bif gnl lv a then some (nx, gput lv a (some (.inl x)), r, s) else none
    | _ => none
  | .astore_n _ => match st with
    | .inr (.inr x) :: r => bif gnl lv a then some (nx, gput lv a (some (.inr (.inr x))), r, s) else none
    | _ => none
  | .astore _ => match st with
    | .inr (.inr x) :: r => bif gnl lv a then some (nx, gput lv a (some (.inr (.inr x))), r, s) else none
    | _ => none
  | .lstore_n _ => match st with
    | .inr (.inl x) :: r => bif gnl lv a then some (nx, gput (gput lv a (some (.inr (.inl x)))) (a + 1) none, r, s) else none
    | _ => none
  | .lstore _ => match st with
    | .inr (.inl x) :: r => bif gnl lv a then some (nx, gput (gput lv a (some (.inr (.inl x)))) (a + 1) none, r, s) else none
    | _ => none
  | .iinc _ _ => match t with
    | 1 => (match ggo lv a with
      | some (.inl x) => bif gnl lv a then some (nx, gput lv a (some (.inl (x - v))), st, s) else none
      | _ => none)
    | _ => (match ggo lv a with
      | some (.inl x) => bif gnl lv a then some (nx, gput lv a (some (.inl (x + v))), st, s) else none
      | _ => none)
  | .iadd => match st with
    | .inl y :: .inl x :: r => some (nx, lv, .inl (x + y) :: r, s)
    | _ => none
  | .isub => match st with
    | .inl y :: .inl x :: r => some (nx, lv, .inl (x - y) :: r, s)
    | _ => none
  | .imul => match st with
    | .inl y :: .inl x :: r => some (nx, lv, .inl (x * y) :: r, s)
    | _ => none
  | .iand => match st with
    | .inl y :: .inl x :: r => some (nx, lv, .inl (x &&& y) :: r, s)
    | _ => none
  | .ior => match st with
    | .inl y :: .inl x :: r => some (nx, lv, .inl (x ||| y) :: r, s)
    | _ => none
  | .ixor => match st with
    | .inl y :: .inl x :: r => some (nx, lv, .inl (x ^^^ y) :: r, s)
    | _ => none
  | .ishl => match st with
    | .inl y :: .inl x :: r => some (nx, lv, .inl (x <<< (y &&& 31)) :: r, s)
    | _ => none
  | .ishr => match st with
    | .inl y :: .inl x :: r => some (nx, lv, .inl (x >>> (y &&& 31)) :: r, s)
    | _ => none
  | .iushr => match st with
    | .inl y :: .inl x :: r => some (nx, lv, .inl ((x.toUInt32 >>> (y.toUInt32 &&& Int32.toUInt32 31)).toInt32) :: r, s)
    | _ => none
  | .idiv => match st with
    | .inl y :: .inl x :: r => (gDv x y).map fun z => (nx, lv, .inl z :: r, s)
    | _ => none
  | .irem => match st with
    | .inl y :: .inl x :: r => (gRm x y).map fun z => (nx, lv, .inl z :: r, s)
    | _ => none
  | .ineg => match st with
    | .inl x :: r => some (nx, lv, .inl (-x) :: r, s)
    | _ => none
  | .ladd => match st with
    | .inr (.inl y) :: .inr (.inl x) :: r => some (nx, lv, .inr (.inl (x + y)) :: r, s)
    | _ => none
  | .lsub => match st with
    | .inr (.inl y) :: .inr (.inl x) :: r => some (nx, lv, .inr (.inl (x - y)) :: r, s)
    | _ => none
  | .lmul => match st with
    | .inr (.inl y) :: .inr (.inl x) :: r => some (nx, lv, .inr (.inl (x * y)) :: r, s)
    | _ => none
  | .ldiv => match st with
    | .inr (.inl y) :: .inr (.inl x) :: r => (dvl x y).map fun z => (nx, lv, .inr (.inl z) :: r, s)
    | _ => none
  | .lcmp => match st with
    | .inr (.inl y) :: .inr (.inl x) :: r => some (nx, lv, .inl (lg_cmp x y) :: r, s)
    | _ => none
  | .i2l => match st with
    | .inl x :: r => some (nx, lv, .inr (.inl x.toInt64) :: r, s)
    | _ => none
  | .l2i => match st with
    | .inr (.inl x) :: r => some (nx, lv, .inl x.toInt32 :: r, s)
    | _ => none
  | .i2c => match st with
    | .inl x :: r => some (nx, lv, .inl (vp_nar .char x) :: r, s)
    | _ => none
  | .dup => match st with
    | .inl x :: r => some (nx, lv, .inl x :: .inl x :: r, s)
    | .inr (.inr x) :: r => some (nx, lv, .inr (.inr x) :: .inr (.inr x) :: r, s)
    | _ => none
  | .dup2 => match st with
    | .inl y :: .inr (.inr x) :: r => some (nx, lv, .inl y :: .inr (.inr x) :: .inl y :: .inr (.inr x) :: r, s)
    | _ => none
  | .pop => match st with
    | .inl _ :: r => some (nx, lv, r, s)
    | .inr (.inr _) :: r => some (nx, lv, r, s)
    | _ => none
  | .goto _ => some (a, lv, st, s)
  | .ifnull _ => match st with
    | .inr (.inr x) :: r => if x = none then some (a, lv, r, s) else some (nx, lv, r, s)
    | _ => none
  | .ifnonnull _ => match st with
    | .inr (.inr x) :: r => if x = none then some (nx, lv, r, s) else some (a, lv, r, s)
    | _ => none
  | .ifCond .eq _ => match st with
    | .inl x :: r => if x = 0 then some (a, lv, r, s) else some (nx, lv, r, s)
    | _ => none
  | .ifCond .ne _ => match st with
    | .inl x :: r => if ¬ x = 0 then some (a, lv, r, s) else some (nx, lv, r, s)
    | _ => none
  | .ifCond .lt _ => match st with
    | .inl x :: r => if x < 0 then some (a, lv, r, s) else some (nx, lv, r, s)
    | _ => none
  | .ifCond .ge _ => match st with
    | .inl x :: r => if 0 ≤ x then some (a, lv, r, s) else some (nx, lv, r, s)
    | _ => none
  | .ifCond .gt _ => match st with
    | .inl x :: r => if 0 < x then some (a, lv, r, s) else some (nx, lv, r, s)
    | _ => none
  | .ifCond .le _ => match st with
    | .inl x :: r => if x ≤ 0 then some (a, lv, r, s) else some (nx, lv, r, s)
    | _ => none
  | .if_icmp .eq _ => match st with
    | .inl y :: .inl x :: r => if x = y then some (a, lv, r, s) else some (nx, lv, r, s)
    | _ => none
  | .if_icmp .ne _ => match st with
    | .inl y :: .inl x :: r => if ¬ x = y then some (a, lv, r, s) else some (nx, lv, r, s)
    | _ => none
  | .if_icmp .lt _ => match st with
    | .inl y :: .inl x :: r => if x < y then some (a, lv, r, s) else some (nx, lv, r, s)
    | _ => none
  | .if_icmp .ge _ => match st with
    | .inl y :: .inl x :: r => if y ≤ x then some (a, lv, r, s) else some (nx, lv, r, s)
    | _ => none
  | .if_icmp .gt _ => match st with
    | .inl y :: .inl x :: r => if y < x then some (a, lv, r, s) else some (nx, lv, r, s)
    | _ => none
  | .if_icmp .le _ => match st with
    | .inl y :: .inl x :: r => if x ≤ y then some (a, lv, r, s) else some (nx, lv, r, s)
    | _ => none
  | .tableswitch _ lo hi offs => match st with
    | .inl x :: r => if x.toInt < lo ∨ hi < x.toInt then some (a, lv, r, s) else
      match offs[(x.toInt - lo).toNat]? with
      | some off => some (((b : Int) + off).toNat, lv, r, s)
      | none => none
    | _ => none
  | .getfield _ => match st with
    | .inr (.inr o) :: r => (match t with
      | 0 => (gFi s.2 o a b).map fun z => (nx, lv, .inl z :: r, s)
      | 2 => (gFr s.2 o a b).map fun z => (nx, lv, .inr (.inr z) :: r, s)
      | _ => none)
    | _ => none
  | .putfield _ => match st with
    | .inl x :: .inr (.inr o) :: r => (match t with
      | 0 => (gFst s.2 o a b (.inl x)).map fun D => (nx, lv, r, (s.1, D))
      | 1 => (gFsN s.2 o a b x).map fun D => (nx, lv, r, (s.1, D))
      | _ => none)
    | .inr (.inr x) :: .inr (.inr o) :: r => (match t with
      | 2 => (gFst s.2 o a b (.inr (.inr x))).map fun D => (nx, lv, r, (s.1, D))
      | _ => none)
    | _ => none
  | .getstatic _ => match t with
    | 1 => some (nx, lv, .inl v :: st, s)
    | 2 => some (nx, lv, .inr (.inr (some (.inr a))) :: st, s)
    | _ => none
  | .iaload => match st with
    | .inl i :: .inr (.inr o) :: r => (match t with
      | 7 => (match o with
        | some (.inr 5) => (gScr s.1 i).map fun z => (nx, lv, .inl z :: r, s)
        | _ => none)
      | _ => (gIld s.2 o 1 i).map fun z => (nx, lv, .inl z :: r, s))
    | _ => none
  | .baload => match st with
    | .inl i :: .inr (.inr o) :: r => (gIld s.2 o 2 i).map fun z => (nx, lv, .inl z :: r, s)
    | _ => none
  | .laload => match st with
    | .inl i :: .inr (.inr o) :: r => (gJld s.2 o i).map fun z => (nx, lv, .inr (.inl z) :: r, s)
    | _ => none
  | .aaload => match st with
    | .inl i :: .inr (.inr o) :: r => (gQld s.2 o i).map fun z => (nx, lv, .inr (.inr z) :: r, s)
    | _ => none
  | .iastore => match st with
    | .inl x :: .inl i :: .inr (.inr o) :: r => (gIst s.2 o 1 i x).map fun D => (nx, lv, r, (s.1, D))
    | _ => none
  | .bastore => match st with
    | .inl x :: .inl i :: .inr (.inr o) :: r => (gIst s.2 o 2 i (vp_nar .byte x)).map fun D => (nx, lv, r, (s.1, D))
    | _ => none
  | .lastore => match st with
    | .inr (.inl x) :: .inl i :: .inr (.inr o) :: r => (gJst s.2 o i x).map fun D => (nx, lv, r, (s.1, D))
    | _ => none
  | .aastore => match st with
    | .inr (.inr x) :: .inl i :: .inr (.inr o) :: r => (gQst s.2 o i x).map fun D => (nx, lv, r, (s.1, D))
    | _ => none
  | .arraylength => match st with
    | .inr (.inr o) :: r => (gLen s.2 o).map fun z => (nx, lv, .inl z :: r, s)
    | _ => none
  | .newarray _ => match st with
    | .inl n :: r => (match t with
      | 4 => (gNwJ s.2 n).map fun D => (nx, lv, .inr (.inr (gTop s.2)) :: r, (s.1, D))
      | _ => (gNwI s.2 t n).map fun D => (nx, lv, .inr (.inr (gTop s.2)) :: r, (s.1, D)))
    | _ => none
  | .anewarray _ => match st with
    | .inl n :: r => (gNwQ s.2 t n).map fun D => (nx, lv, .inr (.inr (gTop s.2)) :: r, (s.1, D))
    | _ => none
  | .multianewarray _ _ => match st with
    | .inl k :: .inl n :: r => (gNwM s.2 n k).map fun D => (nx, lv, .inr (.inr (gTop s.2)) :: r, (s.1, D))
    | _ => none
  | .new _ => bif Nat.ble 8 a && Nat.blt a 13 then some (nx, lv, .inr (.inr (gTop s.2)) :: st, (s.1, gNwO s.2 a)) else none
  | .checkcast _ => match st with
    | .inr (.inr o) :: r => (gIsA s.2 o t).map fun _ => (nx, lv, .inr (.inr o) :: r, s)
    | _ => none
  | .invokespecial _ => match t with
    | 50 => match st with
      | .inr (.inr (some o)) :: r => (match Nat.ble (gcat r) 8 with
        | true => some (nx, lv, r, s)
        | false => none)
      | _ => none
    | _ => none
  | .invokestatic _ => match t with
    | 100 => match st with
      | .inl y :: .inl x :: r => (match Nat.ble (gcat r) 8 with
        | true => some (nx, lv, .inl (if y < x then y else x) :: r, s)
        | false => none)
      | _ => none
    | 104 => match st with
      | .inl y :: .inl x :: r => (match Nat.ble (gcat r) 8 with
        | true => some (nx, lv, .inl (if y < x then x else y) :: r, s)
        | false => none)
      | _ => none
    | 101 => match st with
      | .inr (.inl y) :: .inr (.inl x) :: r => (match Nat.ble (gcat r) 8 with
        | true => some (nx, lv, .inr (.inl (if y < x then x else y)) :: r, s)
        | false => none)
      | _ => none
    | 102 => match st with
      | .inr (.inl y) :: .inr (.inl x) :: r => (match Nat.ble (gcat r) 8 with
        | true => some (nx, lv, .inr (.inl (if y < x then y else x)) :: r, s)
        | false => none)
      | _ => none
    | 103 => match st with
      | .inl n :: .inl dp :: .inr (.inr d) :: .inl sp :: .inr (.inr o) :: r => (match Nat.ble (gcat r) 8 with
        | true => (gCpB s.2 o sp d dp n).map fun D => (nx, lv, r, (s.1, D))
        | false => none)
      | _ => none
    | 120 => match st with
      | .inl n :: .inl i :: r => (match Nat.ble (gcat r) 8 with
        | true => (gChk i n).map fun _ => (nx, lv, r, s)
        | false => none)
      | _ => none
    | _ => none
  | .invokevirtual _ => match t with
    | 130 => match st with
      | .inr (.inr o) :: r => (match Nat.ble (gcat r) 8 with
        | true => (gCln s.2 o a).map fun D => (nx, lv, .inr (.inr (gTop s.2)) :: r, (s.1, D))
        | false => none)
      | _ => none
    | _ => none
  | _ => none
abbrev gMI : Type := (Nat → Option PE) × Nat × Nat
def gret (rt : Nat) (e : PE) (st : List gPV) : Option gPO :=
  match e.1 with
  | .ireturn => match st with
    | [.inl x] => match rt with
      | 1 => some (some (.inl x))
      | 2 => (zbo x).map fun z => some (.inl z)
      | 5 => (gNar 5 x).map fun z => some (.inl z)
      | 6 => (gNar 6 x).map fun z => some (.inl z)
      | _ => none
    | _ => none
  | .lreturn => match st with
    | [.inr (.inl x)] => match rt with
      | 3 => some (some (.inr (.inl x)))
      | _ => none
    | _ => none
  | .areturn => match st with
    | [.inr (.inr x)] => match rt with
      | 4 => some (some (.inr (.inr x)))
      | _ => none
    | _ => none
  | .return_ => match st with
    | [] => match rt with
      | 0 => some none
      | _ => none
    | _ => none
  | _ => none
/-- a call of the second machine: its method, its arguments, the rest of the stack; t < 99 the receiver's class, 99 static, 98 a constructor, 97 the super class's -/
def gcall (e : PE) (st : List gPV) : Option (Nat × List gPV × List gPV) :=
  match e with
  | (i, _, a, b, t, _, _) =>
  match i with
  | .invokevirtual _ => match Nat.blt t 90 with
    | true => gpop b st []
      |>.map fun p => (a, p.1, p.2)
    | false => none
  | .invokestatic _ => match t with
    | 99 => gpop b st [] |>.map fun p => (a, p.1, p.2)
    | _ => none
  | .invokespecial _ => match t with
    | 98 => gpop b st [] |>.map fun p => (a, p.1, p.2)
    | 97 => gpop b st [] |>.map fun p => (a, p.1, p.2)
    | _ => none
  | _ => none
/-- a call of the class's machine -/
def gxcall (e : PE) (st : List gPV) : Option (Nat × List gPV × List gPV) :=
  match e with
  | (i, _, a, b, t, _, _) =>
  match i with
  | .invokevirtual _ => match t with
    | 140 => gpop b st [] |>.map fun p => (a, p.1, p.2)
    | _ => none
  | .invokestatic _ => match t with
    | 140 => gpop b st [] |>.map fun p => (a, p.1, p.2)
    | _ => none
  | _ => none
def grecv (D : gDS) (as : List gPV) (t : Nat) : Bool := match Nat.blt t 90 || Nat.beq t 97 with
  | false => true
  | true => (match as with
    | .inr (.inr r) :: _ => (match gCls D r with
      | some c => bif Nat.beq t 97 then Nat.beq c 12 else Nat.beq c t
      | none => false)
    | _ => false)
/-- what the class's machine is given -/
def gxv : gPV → Value
  | .inl x => .int x
  | .inr (.inr (some (.inr 0))) => .ref 0
  | _ => .null
def gxo : Option Value → gPO
  | some (.int x) => some (.inl x)
  | some (.long x) => some (.inr (.inl x))
  | _ => none
def gxok (as : List gPV) : Bool := (match as with
  | .inr (.inr (some (.inr 0))) :: _ => true
  | _ => false) && as.all fun v => match v with
  | .inl _ => true
  | .inr (.inr (some (.inr 0))) => true
  | _ => false
