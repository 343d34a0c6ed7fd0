/-! EVERY ENTRY OF THE TABLES, held against the bytes and the pool -/
def chkI (k pc : Nat) (i : Instr) (a b t : Nat) (v : Int32) (w : Int64) : Bool :=
  match i with
  | .iconst n => decide (Int32.ofInt n = v)
  | .bipush n => decide ((Int8.ofInt n).toInt32 = v)
  | .sipush n => decide ((Int16.ofInt n).toInt32 = v)
  | .ldc x => match t with
    | 0 => decide (cres (1000 * clsOf k + x) = some v)
    | 1 => decide (sres (1000 * clsOf k + x) = some a) && Nat.blt a 7
    | _ => false
  | .ldc_w x => decide (cres (1000 * clsOf k + x) = some v)
  | .lconst n => decide (Int64.ofNat n.val = w)
  | .ldc2_w x => decide (lres (1000 * clsOf k + x) = some w)
  | .iload_n n => Nat.beq n.val a
  | .aload_n n => Nat.beq n.val a
  | .lload_n n => Nat.beq n.val a
  | .iload j => Nat.beq j a
  | .aload j => Nat.beq j a
  | .lload j => Nat.beq j a
  | .istore_n n => Nat.beq n.val a && Nat.blt a (miOf k).2.2.2.2
  | .astore_n n => Nat.beq n.val a && Nat.blt a (miOf k).2.2.2.2
  | .lstore_n n => Nat.beq n.val a && Nat.blt (a + 1) (miOf k).2.2.2.2
  | .istore j => Nat.beq j a && Nat.blt a (miOf k).2.2.2.2
  | .astore j => Nat.beq j a && Nat.blt a (miOf k).2.2.2.2
  | .lstore j => Nat.beq j a && Nat.blt (a + 1) (miOf k).2.2.2.2
  | .iinc j n => Nat.beq j a && decide (Int32.ofInt n = v) && Nat.blt a (miOf k).2.2.2.2
  | .goto o => decide ((pc : Int) + o = (a : Int))
  | .ifCond _ o => decide ((pc : Int) + o = (a : Int))
  | .if_icmp _ o => decide ((pc : Int) + o = (a : Int))
  | .getfield x => match fres (1000 * clsOf k + x) with
    | some (ci, s, _) => Nat.beq ci a && Nat.beq s b
    | none => false
  | .putfield x => match fres (1000 * clsOf k + x) with
    | some (ci, s, _) => Nat.beq ci a && Nat.beq s b && !(fT ci s).2.2.2 && (match t with
      | 0 => decide (parseFieldDescriptor (fT ci s).2.2.1 = some .int)
      | 1 => decide (parseFieldDescriptor (fT ci s).2.2.1 = some .boolean)
      | _ => false)
    | none => false
  | .invokevirtual x => match Nat.blt t 99 with
    | true => (match mres (1000 * clsOf k + x) with
      | some (k', 0) => Nat.beq k' a && Nat.beq b (nargOf a + 1) && Nat.beq t (clsOf a)
      | _ => false)
    | false => Nat.beq (nres (1000 * clsOf k + x)) t
  | .invokestatic x => match Nat.beq t 99 with
    | true => (match mres (1000 * clsOf k + x) with
      | some (k', kind) => Nat.beq k' a && Nat.beq b (nargOf a) && Nat.blt 0 kind && (match hhOf a with
        | [] => Nat.blt kind 3
        | _ => Nat.beq kind 3)
      | none => false)
    | false => Nat.beq (nres (1000 * clsOf k + x)) t
  | .new ik => (match hhOf k with
    | [] => true
    | _ => false) && (match tres (1000 * clsOf k + b + 10000 * a) with
    | some (ik', ic, E, _) => Nat.beq ik ik' && Nat.beq E a && decide (decode (ccOf k) (pc + 3) = .ok (.dup, 1)) && (match t with
      | 200 => decide (decode (ccOf k) (pc + 4) = .ok (.ldc b, 2)) && decide (decode (ccOf k) (pc + 6) = .ok (.invokespecial ic, 3)) && decide (decode (ccOf k) (pc + 9) = .ok (.athrow, 1))
      | 201 => decide (decode (ccOf k) (pc + 4) = .ok (.ldc_w b, 3)) && decide (decode (ccOf k) (pc + 7) = .ok (.invokespecial ic, 3)) && decide (decode (ccOf k) (pc + 10) = .ok (.athrow, 1))
      | _ => false)
    | none => false)
  | _ => true
def pidx : Instr → Nat
  | .ldc x => x
  | .ldc_w x => x
  | .ldc2_w x => x
  | .getfield x => x
  | .putfield x => x
  | .invokevirtual x => x
  | .invokestatic x => x
  | .new x => x
  | _ => 0
def chkE (k pc : Nat) (e : PE) : Bool :=
  match e with
  | (i, nx, a, b, t, v, w) => match i with
    | .tableswitch d lo hi offs => decide (decode (ccOf k) pc = .ok (.tableswitch d lo hi offs, nx - pc)) && decide ((pc : Int) + d = (a : Int)) && Nat.beq b pc && offs.all (fun o => decide (0 ≤ (pc : Int) + o))
    | i => decide (decode (ccOf k) pc = .ok (i, ilen i)) && Nat.beq nx (pc + ilen i) && (Nat.blt (pidx i) 1000 && chkI k pc i a b t v w)
def chkM (k : Nat) : Bool := (List.range (lenOf k)).all fun pc => match (miOf k).1 pc with
  | none => true
  | some e => chkE k pc e
theorem chkM_0 : (List.range 10).all (fun i => chkM (0 + i)) = true := by decide +kernel
theorem chkM_1 : (List.range 10).all (fun i => chkM (10 + i)) = true := by decide +kernel
theorem chkM_2 : (List.range 10).all (fun i => chkM (20 + i)) = true := by decide +kernel
theorem chkM_3 : (List.range 10).all (fun i => chkM (30 + i)) = true := by decide +kernel
theorem chkM_4 : (List.range 10).all (fun i => chkM (40 + i)) = true := by decide +kernel
theorem chkM_5 : (List.range 10).all (fun i => chkM (50 + i)) = true := by decide +kernel
theorem chkM_6 : (List.range 10).all (fun i => chkM (60 + i)) = true := by decide +kernel
theorem chkM_7 : (List.range 10).all (fun i => chkM (70 + i)) = true := by decide +kernel
theorem chkM_8 : (List.range 10).all (fun i => chkM (80 + i)) = true := by decide +kernel
theorem chkM_9 : (List.range 10).all (fun i => chkM (90 + i)) = true := by decide +kernel
theorem chkM_10 : (List.range 10).all (fun i => chkM (100 + i)) = true := by decide +kernel
theorem chkM_11 : (List.range 10).all (fun i => chkM (110 + i)) = true := by decide +kernel
