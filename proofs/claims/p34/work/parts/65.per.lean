/-! THE MADE THINGS ARE THE LAYOUT'S -/
/-- the layout's thing i was made as number pi i -/
def mPi (i : Nat) : Nat := if i < 34 then i else if i < 90 then 34 + 11 * ((i - 34) / 7) + (i - 34) % 7 else if i < 122 then 41 + 11 * ((i - 90) / 4) + (i - 90) % 4 else i
/-- the fields' first values -/
def mH (i k : Nat) : Int32 := match mLaw with
  | some (_, M, _, _) => match M[mPi i]? with
    | some (0, _, vs) => match vs[k]? with
      | some (.int v) => v
      | _ => 0
    | _ => 0
  | none => 0
def mFs (i : Nat) : List (Option Nat) → Nat → List Value
  | [], _ => []
  | none :: t, k => .int (mH i k) :: mFs i t (k + 1)
  | some j :: t, k => .ref (mPi j) :: mFs i t (k + 1)
/-- the thing that the layout asks at i -/
def mWant (i : Nat) : Option MT := match layF i with
  | (0, ci, fs) => some (0, ci, mFs i fs 0)
  | (1, n, _) => some (1, n, [])
  | (2, n, _) => some (2, n, [])
  | (3, n, _) => some (3, n, [])
  | (4, n, _) => some (4, n, [])
  | (5, n, [some q, some d]) => some (q, n, (List.range n).map fun j => .ref (mPi (q + d * j)))
  | (6, n, [some q, some d]) => some (6, n, (List.range n).map fun j => .ref (mPi (q + d * j)))
  | _ => none
def mMade : List MT := match mLaw with
  | some (_, M, _, _) => M
  | none => []
theorem mPi_ok : (List.range 122).all (fun i => Nat.blt (mPi i) 122 && (mMade[mPi i]? == mWant i)) = true := by decide +kernel
theorem mPi_inj : (List.range 122).all (fun i => (List.range 122).all fun j => Nat.beq i j || !(Nat.beq (mPi i) (mPi j))) = true := by decide +kernel
/-- all that is not 0 at first -/
def mH0 (i k : Nat) : Int32 := if i = 1 ∧ k = 7 then 258 else if i = 1 ∧ k = 11 then -1 else 0
theorem mH_ok : (List.range 122).all (fun i => (List.range 20).all fun k => decide (mH i k = mH0 i k)) = true := by decide +kernel
