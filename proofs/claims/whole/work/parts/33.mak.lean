/-! THE MAKER: the constructors and the law's first lines, as a pure machine over a list of things -/
abbrev MT : Type := Nat × Nat × List Value
def mBy (ci : Nat) : ByteArray := match ci with
  | 0 => prog_2_method_1_code
  | 1 => prog_3_method_1_code
  | 2 => prog_4_method_1_code
  | 3 => prog_5_method_1_code
  | 4 => prog_6_method_1_code
  | 5 => prog_7_method_1_code
  | 6 => prog_8_method_1_code
  | 7 => prog_1_method_1_code
  | 8 => prog_10_method_1_code
  | _ => ccOf 221
/-- the class that a pool number means where a thing is made; 9 for an array of references or int[][] -/
def mNew (q : Nat) : Nat := match q with
  | 1009 => 2
  | 1017 => 3
  | 4009 => 2
  | 4018 => 5
  | 4025 => 3
  | 6015 => 2
  | 6022 => 0
  | 7009 => 6
  | 7016 => 4
  | 7038 => 1
  | 9008 => 7
  | 9076 => 8
  | _ => 99
/-- the constructor that a pool number means; 50: Object's -/
def mIni (q : Nat) : Nat := match q with
  | 3 => 50
  | 1003 => 50
  | 2003 => 50
  | 3003 => 50
  | 4003 => 50
  | 5003 => 50
  | 6003 => 50
  | 7003 => 50
  | 8003 => 50
  | 1034 => 2
  | 1035 => 3
  | 4011 => 2
  | 4020 => 5
  | 4027 => 3
  | 6017 => 2
  | 6024 => 0
  | 7011 => 6
  | 7018 => 4
  | 7040 => 1
  | 9075 => 7
  | 9078 => 8
  | _ => 99
def mLev (ci : Nat) : Nat := match ci with
  | 1 => 1
  | 4 => 1
  | 6 => 1
  | 7 => 2
  | 9 => 3
  | _ => 0
def mDef (ci : Nat) : List Value := (List.range (fN ci)).map fun k => defaultValue (fY ci k)
def mKey : ArrayType → Nat
  | .int => 1
  | .byte => 2
  | .boolean => 3
  | .long => 4
  | _ => 0
def mRf (n : Nat) : Value → Bool
  | .ref a => Nat.blt a n
  | _ => true
/-- every reference is to a thing that is there -/
def mOk (M : List MT) : Bool := M.all fun t => t.2.2.all (mRf M.length)
def mFr (q : Nat) : Option (Nat × Nat × Bool) := match q with
  | 7023 => some (4, 0, true)
  | 7028 => some (4, 1, true)
  | 7033 => some (4, 2, true)
  | q => fres q
abbrev MR : Type := Option (Nat × PL × List Value × List MT × Nat × Nat)
def mStep (ci pc : Nat) (lv : PL) (st : List Value) (M : List MT) : MR :=
  match decode (mBy ci) pc with
  | .ok (.aload_n i, 1) => match lgo lv i.val with
    | some (.ref a) => some (pc + 1, lv, .ref a :: st, M, 0, 0)
    | _ => none
  | .ok (.iload_n i, 1) => match lgo lv i.val with
    | some (.int a) => some (pc + 1, lv, .int a :: st, M, 0, 0)
    | _ => none
  | .ok (.astore_n i, 1) => match st, Nat.blt i.val lv.length with
    | .ref a :: r, true => some (pc + 1, lv.set i.val (some (.ref a)), r, M, 0, 0)
    | _, _ => none
  | .ok (.istore_n i, 1) => match st, Nat.blt i.val lv.length with
    | .int a :: r, true => some (pc + 1, lv.set i.val (some (.int a)), r, M, 0, 0)
    | _, _ => none
  | .ok (.istore i, 2) => match st, Nat.blt i lv.length with
    | .int a :: r, true => some (pc + 2, lv.set i (some (.int a)), r, M, 0, 0)
    | _, _ => none
  | .ok (.iconst n, 1) => some (pc + 1, lv, .int (Int32.ofInt n) :: st, M, 0, 0)
  | .ok (.bipush n, 2) => some (pc + 2, lv, .int (Int8.ofInt n).toInt32 :: st, M, 0, 0)
  | .ok (.sipush n, 3) => some (pc + 3, lv, .int (Int16.ofInt n).toInt32 :: st, M, 0, 0)
  | .ok (.dup, 1) => match st with
    | .ref a :: r => some (pc + 1, lv, .ref a :: .ref a :: r, M, 0, 0)
    | _ => none
  | .ok (.iinc i n, 3) => match lgo lv i with
    | some (.int a) => some (pc + 3, lv.set i (some (.int (a + Int32.ofInt n))), st, M, 0, 0)
    | _ => none
  | .ok (.goto d, 3) => if 0 ≤ (pc : Int) + d then some (((pc : Int) + d).toNat, lv, st, M, 0, 0) else none
  | .ok (.if_icmp .ge d, 3) => match st with
    | .int b :: .int a :: r => if 0 ≤ (pc : Int) + d then some (if b ≤ a then ((pc : Int) + d).toNat else pc + 3, lv, r, M, 0, 0) else none
    | _ => none
  | .ok (.new x, 3) => match Nat.blt (mNew (1000 * ci + x)) 9 && Nat.blt x 1000 with
    | true => some (pc + 3, lv, .ref M.length :: st, M ++ [(0, mNew (1000 * ci + x), mDef (mNew (1000 * ci + x)))], 1, fN (mNew (1000 * ci + x)))
    | false => none
  | .ok (.newarray t, 2) => match st with
    | .int n :: r => match decide (0 ≤ n) && Nat.blt 0 (mKey t) && Nat.ble n.toNatClampNeg 2000 with
      | true => some (pc + 2, lv, .ref M.length :: r, M ++ [(mKey t, n.toNatClampNeg, [])], 1, n.toNatClampNeg)
      | false => none
    | _ => none
  | .ok (.anewarray x, 3) => match st with
    | .int n :: r => match decide (n = 8) && Nat.blt x 1000, mNew (1000 * ci + x) with
      | true, 2 => some (pc + 3, lv, .ref M.length :: r, M ++ [(34, 8, List.replicate 8 .null)], 1, 8)
      | true, 3 => some (pc + 3, lv, .ref M.length :: r, M ++ [(90, 8, List.replicate 8 .null)], 1, 8)
      | _, _ => none
    | _ => none
  | .ok (.multianewarray 26 2, 4) => match st with
    | .int k :: .int n :: r => match decide (0 ≤ n) && decide (0 ≤ k) && Nat.beq ci 8 && Nat.ble n.toNatClampNeg 2000 && Nat.ble k.toNatClampNeg 2000 with
      | true => some (pc + 4, lv, .ref M.length :: r, M ++ [(6, n.toNatClampNeg, (List.range n.toNatClampNeg).map fun i => .ref (M.length + 1 + i))] ++ List.replicate n.toNatClampNeg (1, k.toNatClampNeg, []), 1 + n.toNatClampNeg, n.toNatClampNeg + n.toNatClampNeg * k.toNatClampNeg)
      | false => none
    | _ => none
  | .ok (.putfield x, 3) => match st, mFr (1000 * ci + x) with
    | v :: .ref a :: r, some (cj, b, false) => match M[a]? with
      | some (0, ck, vs) => match Nat.beq ck cj && Nat.beq cj ci && Nat.blt b vs.length && Nat.blt x 1000 && Nat.blt ci 9 && fits (fY cj b) v && decide (narrow (fY cj b) v = v) with
        | true => some (pc + 3, lv, r, M.set a (0, ck, vs.set b v), 0, 0)
        | false => none
      | _ => none
    | _, _ => none
  | .ok (.getfield x, 3) => match st, mFr (1000 * ci + x) with
    | .ref a :: r, some (cj, b, _) => match M[a]? with
      | some (0, ck, vs) => match Nat.beq ck cj, vs[b]? with
        | true, some (.ref q) => match Nat.blt x 1000 with
          | true => some (pc + 3, lv, .ref q :: r, M, 0, 0)
          | false => none
        | _, _ => none
      | _ => none
    | _, _ => none
  | .ok (.aastore, 1) => match st with
    | .ref v :: .int i :: .ref a :: r => match M[a]?, M[v]? with
      | some (key, n, vs), some (0, cv, _) => match ((Nat.beq key 34 && Nat.beq cv 2) || (Nat.beq key 90 && Nat.beq cv 3)) && decide (0 ≤ i) && Nat.blt i.toNatClampNeg n && Nat.beq vs.length n with
        | true => some (pc + 1, lv, r, M.set a (key, n, vs.set i.toNatClampNeg (.ref v)), 0, 0)
        | false => none
      | _, _ => none
    | _ => none
  | _ => none
/-- cells and slots that a constructor may make -/
def mBud (ci : Nat) : Nat × Nat := match ci with
  | 0 => (2, 711)
  | 1 => (91, 1680)
  | 2 => (6, 129)
  | 3 => (3, 64)
  | 4 => (16, 1507)
  | 5 => (4, 1296)
  | 6 => (11, 1553)
  | 7 => (121, 4760)
  | 8 => (43, 19936)
  | _ => (167, 24721)
/-- locals and operands refer to things that are there, or to the script (167) -/
def mRx (n : Nat) : Value → Bool
  | .ref a => Nat.blt a n || Nat.beq a 167
  | .int _ => true
  | _ => false
def mOkL (lv : PL) (st : List Value) (n : Nat) : Bool := st.all (mRx n) && lv.all (fun x => match x with
  | some v => mRx n v
  | none => true)
/-- to a constructor's return, or in the law to the loop's head -/
def mRun : Nat → Nat → Nat → PL → List Value → List MT → Nat → Nat → Option (PL × List MT × Nat × Nat)
  | 0, _, _, _, _, _, _, _ => none
  | n + 1, ci, pc, lv, st, M, cnt, sl => match decode (mBy ci) pc with
    | .ok (.return_, 1) => match st, Nat.blt ci 9 with
      | [], true => some (lv, M, cnt, sl)
      | _, _ => none
    | .ok (.iload 4, 2) => match st, Nat.beq ci 9 && Nat.beq pc 23 with
      | [], true => some (lv, M, cnt, sl)
      | _, _ => none
    | .ok (.invokespecial x, 3) => match st with
      | .ref a :: r => match Nat.beq (mIni (1000 * ci + x)) 50 with
        | true => match Nat.ble r.length 8 && Nat.blt x 1000 && mOkL lv st M.length with
          | true => mRun n ci (pc + 3) lv r M cnt sl
          | false => none
        | false => match Nat.blt (mIni (1000 * ci + x)) 9 && Nat.blt (mLev (mIni (1000 * ci + x))) (mLev ci) && Nat.ble (cnt + (mBud (mIni (1000 * ci + x))).1) (mBud ci).1 && Nat.ble (sl + (mBud (mIni (1000 * ci + x))).2) (mBud ci).2 && Nat.ble r.length 8 && Nat.blt x 1000 && mOkL lv st M.length && Nat.ble M.length 167 && (match M[a]? with
            | some (0, ck, _) => Nat.beq ck (mIni (1000 * ci + x))
            | _ => false) with
          | true => match mRun n (mIni (1000 * ci + x)) 0 (some (.ref a) :: List.replicate (if Nat.beq (mIni (1000 * ci + x)) 1 then 1 else 0) none) [] M 0 0 with
            | some (_, M', c', s') => match Nat.ble c' (mBud (mIni (1000 * ci + x))).1 && Nat.ble s' (mBud (mIni (1000 * ci + x))).2 && Nat.ble M.length M'.length with
              | true => mRun n ci (pc + 3) lv r M' (cnt + (mBud (mIni (1000 * ci + x))).1) (sl + (mBud (mIni (1000 * ci + x))).2)
              | false => none
            | none => none
          | false => none
      | _ => none
    | _ => match mStep ci pc lv st M with
      | some (pc', lv', st', M', dc, ds) => match Nat.ble (cnt + dc) (mBud ci).1 && Nat.ble (sl + ds) (mBud ci).2 && mOk M' && Nat.ble M'.length 167 && Nat.ble M.length M'.length && mOkL lv st M.length with
        | true => mRun n ci pc' lv' st' M' (cnt + dc) (sl + ds)
        | false => none
      | none => none
def mTst (n ci : Nat) (nl : Nat) : Option (Nat × Nat × Nat) := match mRun n ci 0 (some (.ref 0) :: List.replicate nl none) [] [(0, ci, mDef ci)] 0 0 with
  | some (_, M, c, s) => some (M.length, c, s)
  | none => none
theorem mT_0 : mTst 100 0 0 = some (3, 2, 711) := by decide +kernel
theorem mT_2 : mTst 100 2 0 = some (7, 6, 129) := by decide +kernel
theorem mT_3 : mTst 100 3 0 = some (4, 3, 64) := by decide +kernel
theorem mT_5 : mTst 100 5 0 = some (5, 4, 1296) := by decide +kernel
theorem mT_4 : mTst 100 4 0 = some (17, 16, 1507) := by decide +kernel
theorem mT_6 : mTst 100 6 0 = some (12, 11, 1553) := by decide +kernel
theorem mT_1 : mTst 300 1 1 = some (92, 91, 1680) := by decide +kernel
theorem mT_7 : mTst 300 7 0 = some (122, 121, 4760) := by decide +kernel
theorem mT_8 : mTst 100 8 0 = some (44, 43, 19936) := by decide +kernel
def mLaw : Option (PL × List MT × Nat × Nat) := mRun 300 9 0 (some (.ref 167) :: List.replicate 6 none) [] [] 0 0
theorem mT_9 : mLaw.map (fun x => (x.2.1.length, x.2.2)) = some (167, 167, 24721) := by decide +kernel
