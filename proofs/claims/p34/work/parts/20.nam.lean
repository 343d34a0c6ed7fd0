/-! NAMES: classes and fields as printed (NAMES.whole), methods by number, and the meaning of the pool numbers that the tables use -/
def RX0 : String := "WindyTours$Formula"
def TX0 : u_T := fun k => match k with
  | 0 => ("WindyTours$Formula", "steps", "[I", true)
  | 1 => ("WindyTours$Formula", "stack", "[I", true)
  | _ => ("WindyTours$Formula", "size", "I", false)
def tyX0 : Nat → FieldType := fun k => match k with
  | 0 => .array .int
  | 1 => .array .int
  | _ => .int
abbrev wsX00 : List Cond := u_ws RX0 TX0 3
theorem nmX0 : ∀ a, a < 3 → ∀ b, b < 3 → a ≠ b → (TX0 a).2.1 ≠ (TX0 b).2.1 := by decide +kernel
theorem tyX0_ok : ∀ k, k < 3 → parseFieldDescriptor (TX0 k).2.2.1 = some (tyX0 k) := by decide +kernel
def RX1 : String := "WindyTours$History"
def TX1 : u_T := fun k => match k with
  | 0 => ("WindyTours$History", "networks", "[LWindyTours$Network;", true)
  | 1 => ("WindyTours$History", "plans", "[LWindyTours$Plan;", true)
  | 2 => ("WindyTours$History", "loads", "[Z", true)
  | 3 => ("WindyTours$History", "kept", "I", false)
  | _ => ("WindyTours$History", "next", "I", false)
def tyX1 : Nat → FieldType := fun k => match k with
  | 0 => .array (.object "WindyTours$Network")
  | 1 => .array (.object "WindyTours$Plan")
  | 2 => .array .boolean
  | 3 => .int
  | _ => .int
abbrev wsX10 : List Cond := u_ws RX1 TX1 5
theorem nmX1 : ∀ a, a < 5 → ∀ b, b < 5 → a ≠ b → (TX1 a).2.1 ≠ (TX1 b).2.1 := by decide +kernel
theorem tyX1_ok : ∀ k, k < 5 → parseFieldDescriptor (TX1 k).2.2.1 = some (tyX1 k) := by decide +kernel
def RX2 : String := "WindyTours$Network"
def TX2 : u_T := fun k => match k with
  | 0 => ("WindyTours$Network", "nodes", "I", false)
  | 1 => ("WindyTours$Network", "capacity", "I", false)
  | 2 => ("WindyTours$Network", "edges", "I", false)
  | 3 => ("WindyTours$Network", "depots", "I", false)
  | 4 => ("WindyTours$Network", "starts", "[I", true)
  | 5 => ("WindyTours$Network", "costs", "[I", true)
  | 6 => ("WindyTours$Network", "services", "[I", true)
  | 7 => ("WindyTours$Network", "bans", "[I", true)
  | 8 => ("WindyTours$Network", "demands", "[I", true)
  | _ => ("WindyTours$Network", "depotNodes", "[I", true)
def tyX2 : Nat → FieldType := fun k => match k with
  | 0 => .int
  | 1 => .int
  | 2 => .int
  | 3 => .int
  | 4 => .array .int
  | 5 => .array .int
  | 6 => .array .int
  | 7 => .array .int
  | 8 => .array .int
  | _ => .array .int
abbrev wsX20 : List Cond := u_ws RX2 TX2 10
theorem nmX2 : ∀ a, a < 10 → ∀ b, b < 10 → a ≠ b → (TX2 a).2.1 ≠ (TX2 b).2.1 := by decide +kernel
theorem tyX2_ok : ∀ k, k < 10 → parseFieldDescriptor (TX2 k).2.2.1 = some (tyX2 k) := by decide +kernel
def RX3 : String := "WindyTours$Plan"
def TX3 : u_T := fun k => match k with
  | 0 => ("WindyTours$Plan", "tours", "I", false)
  | 1 => ("WindyTours$Plan", "homes", "[I", true)
  | 2 => ("WindyTours$Plan", "sizes", "[I", true)
  | _ => ("WindyTours$Plan", "arcs", "[I", true)
def tyX3 : Nat → FieldType := fun k => match k with
  | 0 => .int
  | 1 => .array .int
  | 2 => .array .int
  | _ => .array .int
abbrev wsX30 : List Cond := u_ws RX3 TX3 4
theorem nmX3 : ∀ a, a < 4 → ∀ b, b < 4 → a ≠ b → (TX3 a).2.1 ≠ (TX3 b).2.1 := by decide +kernel
theorem tyX3_ok : ∀ k, k < 4 → parseFieldDescriptor (TX3 k).2.2.1 = some (tyX3 k) := by decide +kernel
def RX4 : String := "WindyTours$Planner"
def TX4 : u_T := fun k => match k with
  | 0 => ("WindyTours$Planner", "network", "LWindyTours$Network;", true)
  | 1 => ("WindyTours$Planner", "routes", "LWindyTours$Routes;", true)
  | _ => ("WindyTours$Planner", "plan", "LWindyTours$Plan;", true)
def tyX4 : Nat → FieldType := fun k => match k with
  | 0 => .object "WindyTours$Network"
  | 1 => .object "WindyTours$Routes"
  | _ => .object "WindyTours$Plan"
abbrev wsX40 : List Cond := u_ws RX4 TX4 3
theorem nmX4 : ∀ a, a < 3 → ∀ b, b < 3 → a ≠ b → (TX4 a).2.1 ≠ (TX4 b).2.1 := by decide +kernel
theorem tyX4_ok : ∀ k, k < 3 → parseFieldDescriptor (TX4 k).2.2.1 = some (tyX4 k) := by decide +kernel
def RX5 : String := "WindyTours$Routes"
def TX5 : u_T := fun k => match k with
  | 0 => ("WindyTours$Routes", "deadheads", "[I", true)
  | 1 => ("WindyTours$Routes", "approaches", "[I", true)
  | 2 => ("WindyTours$Routes", "returns", "[I", true)
  | _ => ("WindyTours$Routes", "distances", "[I", true)
def tyX5 : Nat → FieldType := fun k => match k with
  | 0 => .array .int
  | 1 => .array .int
  | 2 => .array .int
  | _ => .array .int
abbrev wsX50 : List Cond := u_ws RX5 TX5 4
theorem nmX5 : ∀ a, a < 4 → ∀ b, b < 4 → a ≠ b → (TX5 a).2.1 ≠ (TX5 b).2.1 := by decide +kernel
theorem tyX5_ok : ∀ k, k < 4 → parseFieldDescriptor (TX5 k).2.2.1 = some (tyX5 k) := by decide +kernel
def RX6 : String := "WindyTours$SetupReader"
def TX6 : u_T := fun k => match k with
  | 0 => ("WindyTours$SetupReader", "text", "[B", true)
  | 1 => ("WindyTours$SetupReader", "network", "LWindyTours$Network;", true)
  | 2 => ("WindyTours$SetupReader", "formula", "LWindyTours$Formula;", true)
  | 3 => ("WindyTours$SetupReader", "buffered", "I", false)
  | 4 => ("WindyTours$SetupReader", "length", "I", false)
  | 5 => ("WindyTours$SetupReader", "start", "I", false)
  | 6 => ("WindyTours$SetupReader", "stop", "I", false)
  | 7 => ("WindyTours$SetupReader", "kind", "I", false)
  | 8 => ("WindyTours$SetupReader", "value", "I", false)
  | 9 => ("WindyTours$SetupReader", "hasService", "Z", false)
  | 10 => ("WindyTours$SetupReader", "error", "I", false)
  | _ => ("WindyTours$SetupReader", "errorAt", "I", false)
def tyX6 : Nat → FieldType := fun k => match k with
  | 0 => .array .byte
  | 1 => .object "WindyTours$Network"
  | 2 => .object "WindyTours$Formula"
  | 3 => .int
  | 4 => .int
  | 5 => .int
  | 6 => .int
  | 7 => .int
  | 8 => .int
  | 9 => .boolean
  | 10 => .int
  | _ => .int
abbrev wsX60 : List Cond := u_ws RX6 TX6 12
theorem nmX6 : ∀ a, a < 12 → ∀ b, b < 12 → a ≠ b → (TX6 a).2.1 ≠ (TX6 b).2.1 := by decide +kernel
theorem tyX6_ok : ∀ k, k < 12 → parseFieldDescriptor (TX6 k).2.2.1 = some (tyX6 k) := by decide +kernel
def RX7 : String := "WindyTours"
def TX7 : u_T := fun k => match k with
  | 0 => ("WindyTours", "reader", "LWindyTours$SetupReader;", true)
  | 1 => ("WindyTours", "planner", "LWindyTours$Planner;", true)
  | 2 => ("WindyTours", "network", "LWindyTours$Network;", true)
  | 3 => ("WindyTours", "routes", "LWindyTours$Routes;", true)
  | 4 => ("WindyTours", "plan", "LWindyTours$Plan;", true)
  | _ => ("WindyTours", "history", "LWindyTours$History;", true)
def tyX7 : Nat → FieldType := fun k => match k with
  | 0 => .object "WindyTours$SetupReader"
  | 1 => .object "WindyTours$Planner"
  | 2 => .object "WindyTours$Network"
  | 3 => .object "WindyTours$Routes"
  | 4 => .object "WindyTours$Plan"
  | _ => .object "WindyTours$History"
abbrev wsX70 : List Cond := u_ws RX7 TX7 6
theorem nmX7 : ∀ a, a < 6 → ∀ b, b < 6 → a ≠ b → (TX7 a).2.1 ≠ (TX7 b).2.1 := by decide +kernel
theorem tyX7_ok : ∀ k, k < 6 → parseFieldDescriptor (TX7 k).2.2.1 = some (tyX7 k) := by decide +kernel
def RX8 : String := "WindyToursLaw$City"
def TX8 : u_T := fun k => match k with
  | 0 => ("WindyToursLaw$City", "nodes", "I", false)
  | 1 => ("WindyToursLaw$City", "capacity", "I", false)
  | 2 => ("WindyToursLaw$City", "service", "LWindyToursLaw$Node;", false)
  | 3 => ("WindyToursLaw$City", "edges", "[[I", false)
  | 4 => ("WindyToursLaw$City", "bans", "[[I", false)
  | 5 => ("WindyToursLaw$City", "depots", "[I", false)
  | 6 => ("WindyToursLaw$City", "homes", "[I", false)
  | 7 => ("WindyToursLaw$City", "tours", "[[I", false)
  | _ => ("WindyToursLaw$City", "ways", "[[I", false)
def tyX8 : Nat → FieldType := fun k => match k with
  | 0 => .int
  | 1 => .int
  | 2 => .object "WindyToursLaw$Node"
  | 3 => .array (.array .int)
  | 4 => .array (.array .int)
  | 5 => .array .int
  | 6 => .array .int
  | 7 => .array (.array .int)
  | _ => .array (.array .int)
abbrev wsX80 : List Cond := u_ws RX8 TX8 9
theorem nmX8 : ∀ a, a < 9 → ∀ b, b < 9 → a ≠ b → (TX8 a).2.1 ≠ (TX8 b).2.1 := by decide +kernel
theorem tyX8_ok : ∀ k, k < 9 → parseFieldDescriptor (TX8 k).2.2.1 = some (tyX8 k) := by decide +kernel
def RX9 : String := "WindyToursLaw$Node"
def TX9 : u_T := fun k => match k with
  | 0 => ("WindyToursLaw$Node", "kind", "I", false)
  | 1 => ("WindyToursLaw$Node", "number", "I", false)
  | 2 => ("WindyToursLaw$Node", "left", "LWindyToursLaw$Node;", false)
  | _ => ("WindyToursLaw$Node", "right", "LWindyToursLaw$Node;", false)
def tyX9 : Nat → FieldType := fun k => match k with
  | 0 => .int
  | 1 => .int
  | 2 => .object "WindyToursLaw$Node"
  | _ => .object "WindyToursLaw$Node"
abbrev wsX90 : List Cond := u_ws RX9 TX9 4
theorem nmX9 : ∀ a, a < 4 → ∀ b, b < 4 → a ≠ b → (TX9 a).2.1 ≠ (TX9 b).2.1 := by decide +kernel
theorem tyX9_ok : ∀ k, k < 4 → parseFieldDescriptor (TX9 k).2.2.1 = some (tyX9 k) := by decide +kernel
def RX10 : String := "WindyToursLaw$Random"
def TX10 : u_T := fun k => match k with
  | _ => ("WindyToursLaw$Random", "seed", "I", false)
def tyX10 : Nat → FieldType := fun k => match k with
  | _ => .int
abbrev wsX100 : List Cond := u_ws RX10 TX10 1
theorem nmX10 : ∀ a, a < 1 → ∀ b, b < 1 → a ≠ b → (TX10 a).2.1 ≠ (TX10 b).2.1 := by decide +kernel
theorem tyX10_ok : ∀ k, k < 1 → parseFieldDescriptor (TX10 k).2.2.1 = some (tyX10 k) := by decide +kernel
def RX11 : String := "WindyToursModel"
def TX11 : u_T := fun k => match k with
  | _ => ("", "", "", false)
def tyX11 : Nat → FieldType := fun k => match k with
  | _ => .int
abbrev wsX110 : List Cond := u_ws RX11 TX11 0
theorem nmX11 : ∀ a, a < 0 → ∀ b, b < 0 → a ≠ b → (TX11 a).2.1 ≠ (TX11 b).2.1 := by decide +kernel
theorem tyX11_ok : ∀ k, k < 0 → parseFieldDescriptor (TX11 k).2.2.1 = some (tyX11 k) := by decide +kernel
def RJ5 : String := "java/lang/AbstractStringBuilder"
def TJ5 : u_T := fun k => match k with
  | _ => ("", "", "", false)
def tyJ5 : Nat → FieldType := fun k => match k with
  | _ => .int
abbrev wsJ50 : List Cond := u_ws RJ5 TJ5 0
theorem nmJ5 : ∀ a, a < 0 → ∀ b, b < 0 → a ≠ b → (TJ5 a).2.1 ≠ (TJ5 b).2.1 := by decide +kernel
theorem tyJ5_ok : ∀ k, k < 0 → parseFieldDescriptor (TJ5 k).2.2.1 = some (tyJ5 k) := by decide +kernel
def RJ6 : String := "java/lang/Integer"
def TJ6 : u_T := fun k => match k with
  | _ => ("", "", "", false)
def tyJ6 : Nat → FieldType := fun k => match k with
  | _ => .int
abbrev wsJ60 : List Cond := u_ws RJ6 TJ6 0
theorem nmJ6 : ∀ a, a < 0 → ∀ b, b < 0 → a ≠ b → (TJ6 a).2.1 ≠ (TJ6 b).2.1 := by decide +kernel
theorem tyJ6_ok : ∀ k, k < 0 → parseFieldDescriptor (TJ6 k).2.2.1 = some (tyJ6 k) := by decide +kernel
def RJ9 : String := "java/lang/Math"
def TJ9 : u_T := fun k => match k with
  | _ => ("", "", "", false)
def tyJ9 : Nat → FieldType := fun k => match k with
  | _ => .int
abbrev wsJ90 : List Cond := u_ws RJ9 TJ9 0
theorem nmJ9 : ∀ a, a < 0 → ∀ b, b < 0 → a ≠ b → (TJ9 a).2.1 ≠ (TJ9 b).2.1 := by decide +kernel
theorem tyJ9_ok : ∀ k, k < 0 → parseFieldDescriptor (TJ9 k).2.2.1 = some (tyJ9 k) := by decide +kernel
def RJ0 : String := "java/lang/String"
def TJ0 : u_T := fun k => match k with
  | 0 => ("java/lang/String", "value", "[B", true)
  | 1 => ("java/lang/String", "coder", "B", true)
  | 2 => ("java/lang/String", "hash", "I", false)
  | _ => ("java/lang/String", "hashIsZero", "Z", false)
def tyJ0 : Nat → FieldType := fun k => match k with
  | 0 => .array .byte
  | 1 => .byte
  | 2 => .int
  | _ => .boolean
abbrev wsJ00 : List Cond := u_ws RJ0 TJ0 4
theorem nmJ0 : ∀ a, a < 4 → ∀ b, b < 4 → a ≠ b → (TJ0 a).2.1 ≠ (TJ0 b).2.1 := by decide +kernel
theorem tyJ0_ok : ∀ k, k < 4 → parseFieldDescriptor (TJ0 k).2.2.1 = some (tyJ0 k) := by decide +kernel
def RJ4 : String := "java/lang/StringBuilder"
def TJ4 : u_T := fun k => match k with
  | 0 => ("java/lang/AbstractStringBuilder", "value", "[B", false)
  | 1 => ("java/lang/AbstractStringBuilder", "coder", "B", false)
  | 2 => ("java/lang/AbstractStringBuilder", "maybeLatin1", "Z", false)
  | _ => ("java/lang/AbstractStringBuilder", "count", "I", false)
def tyJ4 : Nat → FieldType := fun k => match k with
  | 0 => .array .byte
  | 1 => .byte
  | 2 => .boolean
  | _ => .int
abbrev wsJ40 : List Cond := u_ws RJ4 TJ4 4
theorem nmJ4 : ∀ a, a < 4 → ∀ b, b < 4 → a ≠ b → (TJ4 a).2.1 ≠ (TJ4 b).2.1 := by decide +kernel
theorem tyJ4_ok : ∀ k, k < 4 → parseFieldDescriptor (TJ4 k).2.2.1 = some (tyJ4 k) := by decide +kernel
def RJ1 : String := "java/lang/StringLatin1"
def TJ1 : u_T := fun k => match k with
  | _ => ("", "", "", false)
def tyJ1 : Nat → FieldType := fun k => match k with
  | _ => .int
abbrev wsJ10 : List Cond := u_ws RJ1 TJ1 0
theorem nmJ1 : ∀ a, a < 0 → ∀ b, b < 0 → a ≠ b → (TJ1 a).2.1 ≠ (TJ1 b).2.1 := by decide +kernel
theorem tyJ1_ok : ∀ k, k < 0 → parseFieldDescriptor (TJ1 k).2.2.1 = some (tyJ1 k) := by decide +kernel
def RJ2 : String := "java/lang/StringUTF16"
def TJ2 : u_T := fun k => match k with
  | _ => ("", "", "", false)
def tyJ2 : Nat → FieldType := fun k => match k with
  | _ => .int
abbrev wsJ20 : List Cond := u_ws RJ2 TJ2 0
theorem nmJ2 : ∀ a, a < 0 → ∀ b, b < 0 → a ≠ b → (TJ2 a).2.1 ≠ (TJ2 b).2.1 := by decide +kernel
theorem tyJ2_ok : ∀ k, k < 0 → parseFieldDescriptor (TJ2 k).2.2.1 = some (tyJ2 k) := by decide +kernel
def RJ10 : String := "java/lang/System"
def TJ10 : u_T := fun k => match k with
  | _ => ("", "", "", false)
def tyJ10 : Nat → FieldType := fun k => match k with
  | _ => .int
abbrev wsJ100 : List Cond := u_ws RJ10 TJ10 0
theorem nmJ10 : ∀ a, a < 0 → ∀ b, b < 0 → a ≠ b → (TJ10 a).2.1 ≠ (TJ10 b).2.1 := by decide +kernel
theorem tyJ10_ok : ∀ k, k < 0 → parseFieldDescriptor (TJ10 k).2.2.1 = some (tyJ10 k) := by decide +kernel
def RJ7 : String := "java/util/Arrays"
def TJ7 : u_T := fun k => match k with
  | _ => ("", "", "", false)
def tyJ7 : Nat → FieldType := fun k => match k with
  | _ => .int
abbrev wsJ70 : List Cond := u_ws RJ7 TJ7 0
theorem nmJ7 : ∀ a, a < 0 → ∀ b, b < 0 → a ≠ b → (TJ7 a).2.1 ≠ (TJ7 b).2.1 := by decide +kernel
theorem tyJ7_ok : ∀ k, k < 0 → parseFieldDescriptor (TJ7 k).2.2.1 = some (tyJ7 k) := by decide +kernel
def RJ8 : String := "jdk/internal/util/ArraysSupport"
def TJ8 : u_T := fun k => match k with
  | _ => ("", "", "", false)
def tyJ8 : Nat → FieldType := fun k => match k with
  | _ => .int
abbrev wsJ80 : List Cond := u_ws RJ8 TJ8 0
theorem nmJ8 : ∀ a, a < 0 → ∀ b, b < 0 → a ≠ b → (TJ8 a).2.1 ≠ (TJ8 b).2.1 := by decide +kernel
theorem tyJ8_ok : ∀ k, k < 0 → parseFieldDescriptor (TJ8 k).2.2.1 = some (tyJ8 k) := by decide +kernel
def RJ3 : String := "jdk/internal/util/Preconditions"
def TJ3 : u_T := fun k => match k with
  | _ => ("", "", "", false)
def tyJ3 : Nat → FieldType := fun k => match k with
  | _ => .int
abbrev wsJ30 : List Cond := u_ws RJ3 TJ3 0
theorem nmJ3 : ∀ a, a < 0 → ∀ b, b < 0 → a ≠ b → (TJ3 a).2.1 ≠ (TJ3 b).2.1 := by decide +kernel
theorem tyJ3_ok : ∀ k, k < 0 → parseFieldDescriptor (TJ3 k).2.2.1 = some (tyJ3 k) := by decide +kernel
def RL : String := "WindyToursLaw"
abbrev vwCl : List vw_C := [(RX0, TX0, 3), (RX1, TX1, 5), (RX2, TX2, 10), (RX3, TX3, 4), (RX4, TX4, 3), (RX5, TX5, 4), (RX6, TX6, 12), (RX7, TX7, 6), (RX8, TX8, 9), (RX9, TX9, 4), (RX10, TX10, 1), (RJ0, TJ0, 4), (RJ4, TJ4, 4)]
def ownN (k : Nat) : String :=
  bif Nat.blt k 5 then bif Nat.blt k 2 then bif Nat.blt k 1 then bif Nat.beq k 0 then RX0 else ""
  else bif Nat.beq k 1 then RX1 else ""
  else bif Nat.blt k 3 then bif Nat.beq k 2 then RX2 else ""
  else bif Nat.blt k 4 then bif Nat.beq k 3 then RX3 else ""
  else bif Nat.beq k 4 then RX4 else ""
  else bif Nat.blt k 7 then bif Nat.blt k 6 then bif Nat.beq k 5 then RX5 else ""
  else bif Nat.beq k 6 then RX6 else ""
  else bif Nat.blt k 8 then bif Nat.beq k 7 then RX7 else ""
  else bif Nat.blt k 9 then bif Nat.beq k 8 then RX8 else ""
  else bif Nat.beq k 9 then RL else ""
def clsOf (k : Nat) : Nat :=
  bif Nat.blt k 59 then bif Nat.blt k 29 then bif Nat.blt k 14 then bif Nat.blt k 7 then bif Nat.blt k 3 then bif Nat.blt k 1 then bif Nat.beq k 0 then 0 else 0
  else bif Nat.blt k 2 then bif Nat.beq k 1 then 0 else 0
  else bif Nat.beq k 2 then 0 else 0
  else bif Nat.blt k 5 then bif Nat.blt k 4 then bif Nat.beq k 3 then 0 else 0
  else bif Nat.beq k 4 then 0 else 0
  else bif Nat.blt k 6 then bif Nat.beq k 5 then 1 else 0
  else bif Nat.beq k 6 then 1 else 0
  else bif Nat.blt k 10 then bif Nat.blt k 8 then bif Nat.beq k 7 then 1 else 0
  else bif Nat.blt k 9 then bif Nat.beq k 8 then 2 else 0
  else bif Nat.beq k 9 then 2 else 0
  else bif Nat.blt k 12 then bif Nat.blt k 11 then bif Nat.beq k 10 then 2 else 0
  else bif Nat.beq k 11 then 2 else 0
  else bif Nat.blt k 13 then bif Nat.beq k 12 then 2 else 0
  else bif Nat.beq k 13 then 2 else 0
  else bif Nat.blt k 21 then bif Nat.blt k 17 then bif Nat.blt k 15 then bif Nat.beq k 14 then 2 else 0
  else bif Nat.blt k 16 then bif Nat.beq k 15 then 2 else 0
  else bif Nat.beq k 16 then 2 else 0
  else bif Nat.blt k 19 then bif Nat.blt k 18 then bif Nat.beq k 17 then 2 else 0
  else bif Nat.beq k 18 then 2 else 0
  else bif Nat.blt k 20 then bif Nat.beq k 19 then 3 else 0
  else bif Nat.beq k 20 then 3 else 0
  else bif Nat.blt k 25 then bif Nat.blt k 23 then bif Nat.blt k 22 then bif Nat.beq k 21 then 3 else 0
  else bif Nat.beq k 22 then 3 else 0
  else bif Nat.blt k 24 then bif Nat.beq k 23 then 3 else 0
  else bif Nat.beq k 24 then 3 else 0
  else bif Nat.blt k 27 then bif Nat.blt k 26 then bif Nat.beq k 25 then 3 else 0
  else bif Nat.beq k 26 then 3 else 0
  else bif Nat.blt k 28 then bif Nat.beq k 27 then 3 else 0
  else bif Nat.beq k 28 then 4 else 0
  else bif Nat.blt k 44 then bif Nat.blt k 36 then bif Nat.blt k 32 then bif Nat.blt k 30 then bif Nat.beq k 29 then 4 else 0
  else bif Nat.blt k 31 then bif Nat.beq k 30 then 4 else 0
  else bif Nat.beq k 31 then 4 else 0
  else bif Nat.blt k 34 then bif Nat.blt k 33 then bif Nat.beq k 32 then 4 else 0
  else bif Nat.beq k 33 then 4 else 0
  else bif Nat.blt k 35 then bif Nat.beq k 34 then 4 else 0
  else bif Nat.beq k 35 then 4 else 0
  else bif Nat.blt k 40 then bif Nat.blt k 38 then bif Nat.blt k 37 then bif Nat.beq k 36 then 4 else 0
  else bif Nat.beq k 37 then 4 else 0
  else bif Nat.blt k 39 then bif Nat.beq k 38 then 4 else 0
  else bif Nat.beq k 39 then 4 else 0
  else bif Nat.blt k 42 then bif Nat.blt k 41 then bif Nat.beq k 40 then 4 else 0
  else bif Nat.beq k 41 then 5 else 0
  else bif Nat.blt k 43 then bif Nat.beq k 42 then 5 else 0
  else bif Nat.beq k 43 then 5 else 0
  else bif Nat.blt k 51 then bif Nat.blt k 47 then bif Nat.blt k 45 then bif Nat.beq k 44 then 5 else 0
  else bif Nat.blt k 46 then bif Nat.beq k 45 then 5 else 0
  else bif Nat.beq k 46 then 5 else 0
  else bif Nat.blt k 49 then bif Nat.blt k 48 then bif Nat.beq k 47 then 5 else 0
  else bif Nat.beq k 48 then 5 else 0
  else bif Nat.blt k 50 then bif Nat.beq k 49 then 6 else 0
  else bif Nat.beq k 50 then 6 else 0
  else bif Nat.blt k 55 then bif Nat.blt k 53 then bif Nat.blt k 52 then bif Nat.beq k 51 then 6 else 0
  else bif Nat.beq k 52 then 6 else 0
  else bif Nat.blt k 54 then bif Nat.beq k 53 then 6 else 0
  else bif Nat.beq k 54 then 6 else 0
  else bif Nat.blt k 57 then bif Nat.blt k 56 then bif Nat.beq k 55 then 6 else 0
  else bif Nat.beq k 56 then 6 else 0
  else bif Nat.blt k 58 then bif Nat.beq k 57 then 6 else 0
  else bif Nat.beq k 58 then 6 else 0
  else bif Nat.blt k 89 then bif Nat.blt k 74 then bif Nat.blt k 66 then bif Nat.blt k 62 then bif Nat.blt k 60 then bif Nat.beq k 59 then 6 else 0
  else bif Nat.blt k 61 then bif Nat.beq k 60 then 6 else 0
  else bif Nat.beq k 61 then 6 else 0
  else bif Nat.blt k 64 then bif Nat.blt k 63 then bif Nat.beq k 62 then 6 else 0
  else bif Nat.beq k 63 then 6 else 0
  else bif Nat.blt k 65 then bif Nat.beq k 64 then 6 else 0
  else bif Nat.beq k 65 then 6 else 0
  else bif Nat.blt k 70 then bif Nat.blt k 68 then bif Nat.blt k 67 then bif Nat.beq k 66 then 6 else 0
  else bif Nat.beq k 67 then 6 else 0
  else bif Nat.blt k 69 then bif Nat.beq k 68 then 6 else 0
  else bif Nat.beq k 69 then 7 else 0
  else bif Nat.blt k 72 then bif Nat.blt k 71 then bif Nat.beq k 70 then 7 else 0
  else bif Nat.beq k 71 then 7 else 0
  else bif Nat.blt k 73 then bif Nat.beq k 72 then 7 else 0
  else bif Nat.beq k 73 then 7 else 0
  else bif Nat.blt k 81 then bif Nat.blt k 77 then bif Nat.blt k 75 then bif Nat.beq k 74 then 7 else 0
  else bif Nat.blt k 76 then bif Nat.beq k 75 then 7 else 0
  else bif Nat.beq k 76 then 7 else 0
  else bif Nat.blt k 79 then bif Nat.blt k 78 then bif Nat.beq k 77 then 7 else 0
  else bif Nat.beq k 78 then 7 else 0
  else bif Nat.blt k 80 then bif Nat.beq k 79 then 7 else 0
  else bif Nat.beq k 80 then 7 else 0
  else bif Nat.blt k 85 then bif Nat.blt k 83 then bif Nat.blt k 82 then bif Nat.beq k 81 then 7 else 0
  else bif Nat.beq k 82 then 7 else 0
  else bif Nat.blt k 84 then bif Nat.beq k 83 then 7 else 0
  else bif Nat.beq k 84 then 7 else 0
  else bif Nat.blt k 87 then bif Nat.blt k 86 then bif Nat.beq k 85 then 7 else 0
  else bif Nat.beq k 86 then 7 else 0
  else bif Nat.blt k 88 then bif Nat.beq k 87 then 7 else 0
  else bif Nat.beq k 88 then 7 else 0
  else bif Nat.blt k 104 then bif Nat.blt k 96 then bif Nat.blt k 92 then bif Nat.blt k 90 then bif Nat.beq k 89 then 7 else 0
  else bif Nat.blt k 91 then bif Nat.beq k 90 then 7 else 0
  else bif Nat.beq k 91 then 7 else 0
  else bif Nat.blt k 94 then bif Nat.blt k 93 then bif Nat.beq k 92 then 7 else 0
  else bif Nat.beq k 93 then 7 else 0
  else bif Nat.blt k 95 then bif Nat.beq k 94 then 7 else 0
  else bif Nat.beq k 95 then 7 else 0
  else bif Nat.blt k 100 then bif Nat.blt k 98 then bif Nat.blt k 97 then bif Nat.beq k 96 then 7 else 0
  else bif Nat.beq k 97 then 7 else 0
  else bif Nat.blt k 99 then bif Nat.beq k 98 then 7 else 0
  else bif Nat.beq k 99 then 7 else 0
  else bif Nat.blt k 102 then bif Nat.blt k 101 then bif Nat.beq k 100 then 7 else 0
  else bif Nat.beq k 101 then 7 else 0
  else bif Nat.blt k 103 then bif Nat.beq k 102 then 7 else 0
  else bif Nat.beq k 103 then 7 else 0
  else bif Nat.blt k 111 then bif Nat.blt k 107 then bif Nat.blt k 105 then bif Nat.beq k 104 then 9 else 0
  else bif Nat.blt k 106 then bif Nat.beq k 105 then 9 else 0
  else bif Nat.beq k 106 then 9 else 0
  else bif Nat.blt k 109 then bif Nat.blt k 108 then bif Nat.beq k 107 then 9 else 0
  else bif Nat.beq k 108 then 9 else 0
  else bif Nat.blt k 110 then bif Nat.beq k 109 then 9 else 0
  else bif Nat.beq k 110 then 9 else 0
  else bif Nat.blt k 115 then bif Nat.blt k 113 then bif Nat.blt k 112 then bif Nat.beq k 111 then 9 else 0
  else bif Nat.beq k 112 then 9 else 0
  else bif Nat.blt k 114 then bif Nat.beq k 113 then 9 else 0
  else bif Nat.beq k 114 then 9 else 0
  else bif Nat.blt k 117 then bif Nat.blt k 116 then bif Nat.beq k 115 then 9 else 0
  else bif Nat.beq k 116 then 9 else 0
  else bif Nat.blt k 118 then bif Nat.beq k 117 then 9 else 0
  else bif Nat.beq k 118 then 9 else 0
def yOf (k : Nat) : MethodName :=
  bif Nat.blt k 59 then bif Nat.blt k 29 then bif Nat.blt k 14 then bif Nat.blt k 7 then bif Nat.blt k 3 then bif Nat.blt k 1 then bif Nat.beq k 0 then ⟨RX0, "clear", "()V"⟩ else ⟨"", "", ""⟩
  else bif Nat.blt k 2 then bif Nat.beq k 1 then ⟨RX0, "addOperand", "(I)V"⟩ else ⟨"", "", ""⟩
  else bif Nat.beq k 2 then ⟨RX0, "addOperator", "(I)V"⟩ else ⟨"", "", ""⟩
  else bif Nat.blt k 5 then bif Nat.blt k 4 then bif Nat.beq k 3 then ⟨RX0, "valueFor", "(II)I"⟩ else ⟨"", "", ""⟩
  else bif Nat.beq k 4 then ⟨RX0, "applied", "(IJJ)I"⟩ else ⟨"", "", ""⟩
  else bif Nat.blt k 6 then bif Nat.beq k 5 then ⟨RX1, "isReady", "(I)Z"⟩ else ⟨"", "", ""⟩
  else bif Nat.beq k 6 then ⟨RX1, "remember", "(LWindyTours$Network;LWindyTours$Plan;Z)V"⟩ else ⟨"", "", ""⟩
  else bif Nat.blt k 10 then bif Nat.blt k 8 then bif Nat.beq k 7 then ⟨RX1, "restore", "(LWindyTours$Network;LWindyTours$Plan;)Z"⟩ else ⟨"", "", ""⟩
  else bif Nat.blt k 9 then bif Nat.beq k 8 then ⟨RX2, "clear", "()V"⟩ else ⟨"", "", ""⟩
  else bif Nat.beq k 9 then ⟨RX2, "copyFrom", "(LWindyTours$Network;)V"⟩ else ⟨"", "", ""⟩
  else bif Nat.blt k 12 then bif Nat.blt k 11 then bif Nat.beq k 10 then ⟨RX2, "addEdge", "(IIIII)V"⟩ else ⟨"", "", ""⟩
  else bif Nat.beq k 11 then ⟨RX2, "putArc", "(III)V"⟩ else ⟨"", "", ""⟩
  else bif Nat.blt k 13 then bif Nat.beq k 12 then ⟨RX2, "addDepot", "(I)V"⟩ else ⟨"", "", ""⟩
  else bif Nat.beq k 13 then ⟨RX2, "banTurn", "(III)V"⟩ else ⟨"", "", ""⟩
  else bif Nat.blt k 21 then bif Nat.blt k 17 then bif Nat.blt k 15 then bif Nat.beq k 14 then ⟨RX2, "start", "(I)I"⟩ else ⟨"", "", ""⟩
  else bif Nat.blt k 16 then bif Nat.beq k 15 then ⟨RX2, "end", "(I)I"⟩ else ⟨"", "", ""⟩
  else bif Nat.beq k 16 then ⟨RX2, "touches", "(II)Z"⟩ else ⟨"", "", ""⟩
  else bif Nat.blt k 19 then bif Nat.blt k 18 then bif Nat.beq k 17 then ⟨RX2, "allowsTurn", "(II)Z"⟩ else ⟨"", "", ""⟩
  else bif Nat.beq k 18 then ⟨RX2, "oddSet", "()I"⟩ else ⟨"", "", ""⟩
  else bif Nat.blt k 20 then bif Nat.beq k 19 then ⟨RX3, "clear", "()V"⟩ else ⟨"", "", ""⟩
  else bif Nat.beq k 20 then ⟨RX3, "copyFrom", "(LWindyTours$Plan;)V"⟩ else ⟨"", "", ""⟩
  else bif Nat.blt k 25 then bif Nat.blt k 23 then bif Nat.blt k 22 then bif Nat.beq k 21 then ⟨RX3, "addTour", "(I)I"⟩ else ⟨"", "", ""⟩
  else bif Nat.beq k 22 then ⟨RX3, "arcOrDepot", "(II)I"⟩ else ⟨"", "", ""⟩
  else bif Nat.blt k 24 then bif Nat.beq k 23 then ⟨RX3, "tourServing", "(I)I"⟩ else ⟨"", "", ""⟩
  else bif Nat.beq k 24 then ⟨RX3, "positionIn", "(II)I"⟩ else ⟨"", "", ""⟩
  else bif Nat.blt k 27 then bif Nat.blt k 26 then bif Nat.beq k 25 then ⟨RX3, "putIn", "(III)V"⟩ else ⟨"", "", ""⟩
  else bif Nat.beq k 26 then ⟨RX3, "takeOut", "(II)V"⟩ else ⟨"", "", ""⟩
  else bif Nat.blt k 28 then bif Nat.beq k 27 then ⟨RX3, "turnRound", "(II)V"⟩ else ⟨"", "", ""⟩
  else bif Nat.beq k 28 then ⟨RX4, "isWaiting", "(I)Z"⟩ else ⟨"", "", ""⟩
  else bif Nat.blt k 44 then bif Nat.blt k 36 then bif Nat.blt k 32 then bif Nat.blt k 30 then bif Nat.beq k 29 then ⟨RX4, "demandIn", "(I)I"⟩ else ⟨"", "", ""⟩
  else bif Nat.blt k 31 then bif Nat.beq k 30 then ⟨RX4, "hasRoom", "(II)Z"⟩ else ⟨"", "", ""⟩
  else bif Nat.beq k 31 then ⟨RX4, "link", "(III)I"⟩ else ⟨"", "", ""⟩
  else bif Nat.blt k 34 then bif Nat.blt k 33 then bif Nat.beq k 32 then ⟨RX4, "costOf", "(I)I"⟩ else ⟨"", "", ""⟩
  else bif Nat.beq k 33 then ⟨RX4, "increaseBy", "(III)I"⟩ else ⟨"", "", ""⟩
  else bif Nat.blt k 35 then bif Nat.beq k 34 then ⟨RX4, "canSpare", "(II)Z"⟩ else ⟨"", "", ""⟩
  else bif Nat.beq k 35 then ⟨RX4, "canTurn", "(II)Z"⟩ else ⟨"", "", ""⟩
  else bif Nat.blt k 40 then bif Nat.blt k 38 then bif Nat.blt k 37 then bif Nat.beq k 36 then ⟨RX4, "bestPlace", "(I)I"⟩ else ⟨"", "", ""⟩
  else bif Nat.beq k 37 then ⟨RX4, "increaseAt", "(II)I"⟩ else ⟨"", "", ""⟩
  else bif Nat.blt k 39 then bif Nat.beq k 38 then ⟨RX4, "insertBest", "(I)Z"⟩ else ⟨"", "", ""⟩
  else bif Nat.beq k 39 then ⟨RX4, "gainOf", "(I)I"⟩ else ⟨"", "", ""⟩
  else bif Nat.blt k 42 then bif Nat.blt k 41 then bif Nat.beq k 40 then ⟨RX4, "makeBestChange", "()I"⟩ else ⟨"", "", ""⟩
  else bif Nat.beq k 41 then ⟨RX5, "explore", "(LWindyTours$Network;)V"⟩ else ⟨"", "", ""⟩
  else bif Nat.blt k 43 then bif Nat.beq k 42 then ⟨RX5, "markTurns", "(LWindyTours$Network;)V"⟩ else ⟨"", "", ""⟩
  else bif Nat.beq k 43 then ⟨RX5, "findDeadheads", "(LWindyTours$Network;)V"⟩ else ⟨"", "", ""⟩
  else bif Nat.blt k 51 then bif Nat.blt k 47 then bif Nat.blt k 45 then bif Nat.beq k 44 then ⟨RX5, "approach", "(LWindyTours$Network;II)I"⟩ else ⟨"", "", ""⟩
  else bif Nat.blt k 46 then bif Nat.beq k 45 then ⟨RX5, "returnTo", "(LWindyTours$Network;II)I"⟩ else ⟨"", "", ""⟩
  else bif Nat.beq k 46 then ⟨RX5, "between", "(LWindyTours$Network;II)I"⟩ else ⟨"", "", ""⟩
  else bif Nat.blt k 49 then bif Nat.blt k 48 then bif Nat.beq k 47 then ⟨RX5, "cheapestPairs", "([III)I"⟩ else ⟨"", "", ""⟩
  else bif Nat.beq k 48 then ⟨RX5, "lowestIn", "(I)I"⟩ else ⟨"", "", ""⟩
  else bif Nat.blt k 50 then bif Nat.beq k 49 then ⟨RX6, "addWord", "(I)V"⟩ else ⟨"", "", ""⟩
  else bif Nat.beq k 50 then ⟨RX6, "readSetup", "(I)I"⟩ else ⟨"", "", ""⟩
  else bif Nat.blt k 55 then bif Nat.blt k 53 then bif Nat.blt k 52 then bif Nat.beq k 51 then ⟨RX6, "startOver", "(I)V"⟩ else ⟨"", "", ""⟩
  else bif Nat.beq k 52 then ⟨RX6, "readEdge", "()V"⟩ else ⟨"", "", ""⟩
  else bif Nat.blt k 54 then bif Nat.beq k 53 then ⟨RX6, "readBan", "()V"⟩ else ⟨"", "", ""⟩
  else bif Nat.beq k 54 then ⟨RX6, "takeEdgeAt", "(I)I"⟩ else ⟨"", "", ""⟩
  else bif Nat.blt k 57 then bif Nat.blt k 56 then bif Nat.beq k 55 then ⟨RX6, "readDepot", "()V"⟩ else ⟨"", "", ""⟩
  else bif Nat.beq k 56 then ⟨RX6, "readSum", "(I)V"⟩ else ⟨"", "", ""⟩
  else bif Nat.blt k 58 then bif Nat.beq k 57 then ⟨RX6, "readTerm", "(I)V"⟩ else ⟨"", "", ""⟩
  else bif Nat.beq k 58 then ⟨RX6, "readFactor", "(I)V"⟩ else ⟨"", "", ""⟩
  else bif Nat.blt k 89 then bif Nat.blt k 74 then bif Nat.blt k 66 then bif Nat.blt k 62 then bif Nat.blt k 60 then bif Nat.beq k 59 then ⟨RX6, "priceServices", "()V"⟩ else ⟨"", "", ""⟩
  else bif Nat.blt k 61 then bif Nat.beq k 60 then ⟨RX6, "fail", "(I)V"⟩ else ⟨"", "", ""⟩
  else bif Nat.beq k 61 then ⟨RX6, "takeNumber", "(II)I"⟩ else ⟨"", "", ""⟩
  else bif Nat.blt k 64 then bif Nat.blt k 63 then bif Nat.beq k 62 then ⟨RX6, "takeWord", "(Ljava/lang/String;)V"⟩ else ⟨"", "", ""⟩
  else bif Nat.beq k 63 then ⟨RX6, "takeSign", "(C)V"⟩ else ⟨"", "", ""⟩
  else bif Nat.blt k 65 then bif Nat.beq k 64 then ⟨RX6, "isWord", "(Ljava/lang/String;)Z"⟩ else ⟨"", "", ""⟩
  else bif Nat.beq k 65 then ⟨RX6, "next", "()V"⟩ else ⟨"", "", ""⟩
  else bif Nat.blt k 70 then bif Nat.blt k 68 then bif Nat.blt k 67 then bif Nat.beq k 66 then ⟨RX6, "byteAt", "(I)I"⟩ else ⟨"", "", ""⟩
  else bif Nat.beq k 67 then ⟨RX6, "isDigit", "(I)Z"⟩ else ⟨"", "", ""⟩
  else bif Nat.blt k 69 then bif Nat.beq k 68 then ⟨RX6, "isLetter", "(I)Z"⟩ else ⟨"", "", ""⟩
  else bif Nat.beq k 69 then ⟨RX7, "append", "(IIIII)I"⟩ else ⟨"", "", ""⟩
  else bif Nat.blt k 72 then bif Nat.blt k 71 then bif Nat.beq k 70 then ⟨RX7, "load", "(I)I"⟩ else ⟨"", "", ""⟩
  else bif Nat.beq k 71 then ⟨RX7, "errorOffset", "()I"⟩ else ⟨"", "", ""⟩
  else bif Nat.blt k 73 then bif Nat.beq k 72 then ⟨RX7, "nodeCount", "()I"⟩ else ⟨"", "", ""⟩
  else bif Nat.beq k 73 then ⟨RX7, "edgeCount", "()I"⟩ else ⟨"", "", ""⟩
  else bif Nat.blt k 81 then bif Nat.blt k 77 then bif Nat.blt k 75 then bif Nat.beq k 74 then ⟨RX7, "depotCount", "()I"⟩ else ⟨"", "", ""⟩
  else bif Nat.blt k 76 then bif Nat.beq k 75 then ⟨RX7, "tourCount", "()I"⟩ else ⟨"", "", ""⟩
  else bif Nat.beq k 76 then ⟨RX7, "edge", "(II)I"⟩ else ⟨"", "", ""⟩
  else bif Nat.blt k 79 then bif Nat.blt k 78 then bif Nat.beq k 77 then ⟨RX7, "deadhead", "(II)I"⟩ else ⟨"", "", ""⟩
  else bif Nat.beq k 78 then ⟨RX7, "matching", "()I"⟩ else ⟨"", "", ""⟩
  else bif Nat.blt k 80 then bif Nat.beq k 79 then ⟨RX7, "depotOf", "(I)I"⟩ else ⟨"", "", ""⟩
  else bif Nat.beq k 80 then ⟨RX7, "length", "(I)I"⟩ else ⟨"", "", ""⟩
  else bif Nat.blt k 85 then bif Nat.blt k 83 then bif Nat.blt k 82 then bif Nat.beq k 81 then ⟨RX7, "arcAt", "(II)I"⟩ else ⟨"", "", ""⟩
  else bif Nat.beq k 82 then ⟨RX7, "loadOf", "(I)I"⟩ else ⟨"", "", ""⟩
  else bif Nat.blt k 84 then bif Nat.beq k 83 then ⟨RX7, "tourCost", "(I)I"⟩ else ⟨"", "", ""⟩
  else bif Nat.beq k 84 then ⟨RX7, "totalCost", "()I"⟩ else ⟨"", "", ""⟩
  else bif Nat.blt k 87 then bif Nat.blt k 86 then bif Nat.beq k 85 then ⟨RX7, "unserved", "()I"⟩ else ⟨"", "", ""⟩
  else bif Nat.beq k 86 then ⟨RX7, "tourOf", "(I)I"⟩ else ⟨"", "", ""⟩
  else bif Nat.blt k 88 then bif Nat.beq k 87 then ⟨RX7, "bestInsertion", "(I)I"⟩ else ⟨"", "", ""⟩
  else bif Nat.beq k 88 then ⟨RX7, "openTour", "(I)I"⟩ else ⟨"", "", ""⟩
  else bif Nat.blt k 104 then bif Nat.blt k 96 then bif Nat.blt k 92 then bif Nat.blt k 90 then bif Nat.beq k 89 then ⟨RX7, "insert", "(III)I"⟩ else ⟨"", "", ""⟩
  else bif Nat.blt k 91 then bif Nat.beq k 90 then ⟨RX7, "drop", "(I)I"⟩ else ⟨"", "", ""⟩
  else bif Nat.beq k 91 then ⟨RX7, "flip", "(I)I"⟩ else ⟨"", "", ""⟩
  else bif Nat.blt k 94 then bif Nat.blt k 93 then bif Nat.beq k 92 then ⟨RX7, "build", "()I"⟩ else ⟨"", "", ""⟩
  else bif Nat.beq k 93 then ⟨RX7, "improve", "(I)I"⟩ else ⟨"", "", ""⟩
  else bif Nat.blt k 95 then bif Nat.beq k 94 then ⟨RX7, "undo", "()I"⟩ else ⟨"", "", ""⟩
  else bif Nat.beq k 95 then ⟨RX7, "checksum", "()J"⟩ else ⟨"", "", ""⟩
  else bif Nat.blt k 100 then bif Nat.blt k 98 then bif Nat.blt k 97 then bif Nat.beq k 96 then ⟨RX7, "requireEdge", "(I)V"⟩ else ⟨"", "", ""⟩
  else bif Nat.beq k 97 then ⟨RX7, "requireArc", "(I)V"⟩ else ⟨"", "", ""⟩
  else bif Nat.blt k 99 then bif Nat.beq k 98 then ⟨RX7, "requireTour", "(I)V"⟩ else ⟨"", "", ""⟩
  else bif Nat.beq k 99 then ⟨RX7, "orNone", "(I)I"⟩ else ⟨"", "", ""⟩
  else bif Nat.blt k 102 then bif Nat.blt k 101 then bif Nat.beq k 100 then ⟨RX7, "limited", "(JII)I"⟩ else ⟨"", "", ""⟩
  else bif Nat.beq k 101 then ⟨RX7, "at", "([II)I"⟩ else ⟨"", "", ""⟩
  else bif Nat.blt k 103 then bif Nat.beq k 102 then ⟨RX7, "put", "([III)V"⟩ else ⟨"", "", ""⟩
  else bif Nat.beq k 103 then ⟨RX7, "copyRow", "([I[I)V"⟩ else ⟨"", "", ""⟩
  else bif Nat.blt k 111 then bif Nat.blt k 107 then bif Nat.blt k 105 then bif Nat.beq k 104 then ⟨RL, "load", "(LWindyTours;I)I"⟩ else ⟨"", "", ""⟩
  else bif Nat.blt k 106 then bif Nat.beq k 105 then ⟨RL, "edge", "(LWindyTours;II)I"⟩ else ⟨"", "", ""⟩
  else bif Nat.beq k 106 then ⟨RL, "deadhead", "(LWindyTours;II)I"⟩ else ⟨"", "", ""⟩
  else bif Nat.blt k 109 then bif Nat.blt k 108 then bif Nat.beq k 107 then ⟨RL, "depotOf", "(LWindyTours;I)I"⟩ else ⟨"", "", ""⟩
  else bif Nat.beq k 108 then ⟨RL, "length", "(LWindyTours;I)I"⟩ else ⟨"", "", ""⟩
  else bif Nat.blt k 110 then bif Nat.beq k 109 then ⟨RL, "arcAt", "(LWindyTours;II)I"⟩ else ⟨"", "", ""⟩
  else bif Nat.beq k 110 then ⟨RL, "loadOf", "(LWindyTours;I)I"⟩ else ⟨"", "", ""⟩
  else bif Nat.blt k 115 then bif Nat.blt k 113 then bif Nat.blt k 112 then bif Nat.beq k 111 then ⟨RL, "tourCost", "(LWindyTours;I)I"⟩ else ⟨"", "", ""⟩
  else bif Nat.beq k 112 then ⟨RL, "tourOf", "(LWindyTours;I)I"⟩ else ⟨"", "", ""⟩
  else bif Nat.blt k 114 then bif Nat.beq k 113 then ⟨RL, "bestInsertion", "(LWindyTours;I)I"⟩ else ⟨"", "", ""⟩
  else bif Nat.beq k 114 then ⟨RL, "openTour", "(LWindyTours;I)I"⟩ else ⟨"", "", ""⟩
  else bif Nat.blt k 117 then bif Nat.blt k 116 then bif Nat.beq k 115 then ⟨RL, "insert", "(LWindyTours;III)I"⟩ else ⟨"", "", ""⟩
  else bif Nat.beq k 116 then ⟨RL, "drop", "(LWindyTours;I)I"⟩ else ⟨"", "", ""⟩
  else bif Nat.blt k 118 then bif Nat.beq k 117 then ⟨RL, "flip", "(LWindyTours;I)I"⟩ else ⟨"", "", ""⟩
  else bif Nat.beq k 118 then ⟨RL, "improve", "(LWindyTours;I)I"⟩ else ⟨"", "", ""⟩
def ccOf (k : Nat) : ByteArray :=
  bif Nat.blt k 59 then bif Nat.blt k 29 then bif Nat.blt k 14 then bif Nat.blt k 7 then bif Nat.blt k 3 then bif Nat.blt k 1 then bif Nat.beq k 0 then prog_2_method_2_code else ⟨#[]⟩
  else bif Nat.blt k 2 then bif Nat.beq k 1 then prog_2_method_3_code else ⟨#[]⟩
  else bif Nat.beq k 2 then prog_2_method_4_code else ⟨#[]⟩
  else bif Nat.blt k 5 then bif Nat.blt k 4 then bif Nat.beq k 3 then prog_2_method_5_code else ⟨#[]⟩
  else bif Nat.beq k 4 then prog_2_method_6_code else ⟨#[]⟩
  else bif Nat.blt k 6 then bif Nat.beq k 5 then prog_3_method_2_code else ⟨#[]⟩
  else bif Nat.beq k 6 then prog_3_method_3_code else ⟨#[]⟩
  else bif Nat.blt k 10 then bif Nat.blt k 8 then bif Nat.beq k 7 then prog_3_method_4_code else ⟨#[]⟩
  else bif Nat.blt k 9 then bif Nat.beq k 8 then prog_4_method_2_code else ⟨#[]⟩
  else bif Nat.beq k 9 then prog_4_method_3_code else ⟨#[]⟩
  else bif Nat.blt k 12 then bif Nat.blt k 11 then bif Nat.beq k 10 then prog_4_method_4_code else ⟨#[]⟩
  else bif Nat.beq k 11 then prog_4_method_5_code else ⟨#[]⟩
  else bif Nat.blt k 13 then bif Nat.beq k 12 then prog_4_method_6_code else ⟨#[]⟩
  else bif Nat.beq k 13 then prog_4_method_7_code else ⟨#[]⟩
  else bif Nat.blt k 21 then bif Nat.blt k 17 then bif Nat.blt k 15 then bif Nat.beq k 14 then prog_4_method_8_code else ⟨#[]⟩
  else bif Nat.blt k 16 then bif Nat.beq k 15 then prog_4_method_9_code else ⟨#[]⟩
  else bif Nat.beq k 16 then prog_4_method_10_code else ⟨#[]⟩
  else bif Nat.blt k 19 then bif Nat.blt k 18 then bif Nat.beq k 17 then prog_4_method_11_code else ⟨#[]⟩
  else bif Nat.beq k 18 then prog_4_method_12_code else ⟨#[]⟩
  else bif Nat.blt k 20 then bif Nat.beq k 19 then prog_5_method_2_code else ⟨#[]⟩
  else bif Nat.beq k 20 then prog_5_method_3_code else ⟨#[]⟩
  else bif Nat.blt k 25 then bif Nat.blt k 23 then bif Nat.blt k 22 then bif Nat.beq k 21 then prog_5_method_4_code else ⟨#[]⟩
  else bif Nat.beq k 22 then prog_5_method_5_code else ⟨#[]⟩
  else bif Nat.blt k 24 then bif Nat.beq k 23 then prog_5_method_6_code else ⟨#[]⟩
  else bif Nat.beq k 24 then prog_5_method_7_code else ⟨#[]⟩
  else bif Nat.blt k 27 then bif Nat.blt k 26 then bif Nat.beq k 25 then prog_5_method_8_code else ⟨#[]⟩
  else bif Nat.beq k 26 then prog_5_method_9_code else ⟨#[]⟩
  else bif Nat.blt k 28 then bif Nat.beq k 27 then prog_5_method_10_code else ⟨#[]⟩
  else bif Nat.beq k 28 then prog_6_method_2_code else ⟨#[]⟩
  else bif Nat.blt k 44 then bif Nat.blt k 36 then bif Nat.blt k 32 then bif Nat.blt k 30 then bif Nat.beq k 29 then prog_6_method_3_code else ⟨#[]⟩
  else bif Nat.blt k 31 then bif Nat.beq k 30 then prog_6_method_4_code else ⟨#[]⟩
  else bif Nat.beq k 31 then prog_6_method_5_code else ⟨#[]⟩
  else bif Nat.blt k 34 then bif Nat.blt k 33 then bif Nat.beq k 32 then prog_6_method_6_code else ⟨#[]⟩
  else bif Nat.beq k 33 then prog_6_method_7_code else ⟨#[]⟩
  else bif Nat.blt k 35 then bif Nat.beq k 34 then prog_6_method_8_code else ⟨#[]⟩
  else bif Nat.beq k 35 then prog_6_method_9_code else ⟨#[]⟩
  else bif Nat.blt k 40 then bif Nat.blt k 38 then bif Nat.blt k 37 then bif Nat.beq k 36 then prog_6_method_10_code else ⟨#[]⟩
  else bif Nat.beq k 37 then prog_6_method_11_code else ⟨#[]⟩
  else bif Nat.blt k 39 then bif Nat.beq k 38 then prog_6_method_12_code else ⟨#[]⟩
  else bif Nat.beq k 39 then prog_6_method_13_code else ⟨#[]⟩
  else bif Nat.blt k 42 then bif Nat.blt k 41 then bif Nat.beq k 40 then prog_6_method_14_code else ⟨#[]⟩
  else bif Nat.beq k 41 then prog_7_method_2_code else ⟨#[]⟩
  else bif Nat.blt k 43 then bif Nat.beq k 42 then prog_7_method_3_code else ⟨#[]⟩
  else bif Nat.beq k 43 then prog_7_method_4_code else ⟨#[]⟩
  else bif Nat.blt k 51 then bif Nat.blt k 47 then bif Nat.blt k 45 then bif Nat.beq k 44 then prog_7_method_5_code else ⟨#[]⟩
  else bif Nat.blt k 46 then bif Nat.beq k 45 then prog_7_method_6_code else ⟨#[]⟩
  else bif Nat.beq k 46 then prog_7_method_7_code else ⟨#[]⟩
  else bif Nat.blt k 49 then bif Nat.blt k 48 then bif Nat.beq k 47 then prog_7_method_8_code else ⟨#[]⟩
  else bif Nat.beq k 48 then prog_7_method_9_code else ⟨#[]⟩
  else bif Nat.blt k 50 then bif Nat.beq k 49 then prog_8_method_2_code else ⟨#[]⟩
  else bif Nat.beq k 50 then prog_8_method_3_code else ⟨#[]⟩
  else bif Nat.blt k 55 then bif Nat.blt k 53 then bif Nat.blt k 52 then bif Nat.beq k 51 then prog_8_method_4_code else ⟨#[]⟩
  else bif Nat.beq k 52 then prog_8_method_5_code else ⟨#[]⟩
  else bif Nat.blt k 54 then bif Nat.beq k 53 then prog_8_method_6_code else ⟨#[]⟩
  else bif Nat.beq k 54 then prog_8_method_7_code else ⟨#[]⟩
  else bif Nat.blt k 57 then bif Nat.blt k 56 then bif Nat.beq k 55 then prog_8_method_8_code else ⟨#[]⟩
  else bif Nat.beq k 56 then prog_8_method_9_code else ⟨#[]⟩
  else bif Nat.blt k 58 then bif Nat.beq k 57 then prog_8_method_10_code else ⟨#[]⟩
  else bif Nat.beq k 58 then prog_8_method_11_code else ⟨#[]⟩
  else bif Nat.blt k 89 then bif Nat.blt k 74 then bif Nat.blt k 66 then bif Nat.blt k 62 then bif Nat.blt k 60 then bif Nat.beq k 59 then prog_8_method_12_code else ⟨#[]⟩
  else bif Nat.blt k 61 then bif Nat.beq k 60 then prog_8_method_13_code else ⟨#[]⟩
  else bif Nat.beq k 61 then prog_8_method_14_code else ⟨#[]⟩
  else bif Nat.blt k 64 then bif Nat.blt k 63 then bif Nat.beq k 62 then prog_8_method_15_code else ⟨#[]⟩
  else bif Nat.beq k 63 then prog_8_method_16_code else ⟨#[]⟩
  else bif Nat.blt k 65 then bif Nat.beq k 64 then prog_8_method_17_code else ⟨#[]⟩
  else bif Nat.beq k 65 then prog_8_method_18_code else ⟨#[]⟩
  else bif Nat.blt k 70 then bif Nat.blt k 68 then bif Nat.blt k 67 then bif Nat.beq k 66 then prog_8_method_19_code else ⟨#[]⟩
  else bif Nat.beq k 67 then prog_8_method_20_code else ⟨#[]⟩
  else bif Nat.blt k 69 then bif Nat.beq k 68 then prog_8_method_21_code else ⟨#[]⟩
  else bif Nat.beq k 69 then prog_1_method_2_code else ⟨#[]⟩
  else bif Nat.blt k 72 then bif Nat.blt k 71 then bif Nat.beq k 70 then prog_1_method_3_code else ⟨#[]⟩
  else bif Nat.beq k 71 then prog_1_method_4_code else ⟨#[]⟩
  else bif Nat.blt k 73 then bif Nat.beq k 72 then prog_1_method_5_code else ⟨#[]⟩
  else bif Nat.beq k 73 then prog_1_method_6_code else ⟨#[]⟩
  else bif Nat.blt k 81 then bif Nat.blt k 77 then bif Nat.blt k 75 then bif Nat.beq k 74 then prog_1_method_7_code else ⟨#[]⟩
  else bif Nat.blt k 76 then bif Nat.beq k 75 then prog_1_method_8_code else ⟨#[]⟩
  else bif Nat.beq k 76 then prog_1_method_9_code else ⟨#[]⟩
  else bif Nat.blt k 79 then bif Nat.blt k 78 then bif Nat.beq k 77 then prog_1_method_11_code else ⟨#[]⟩
  else bif Nat.beq k 78 then prog_1_method_15_code else ⟨#[]⟩
  else bif Nat.blt k 80 then bif Nat.beq k 79 then prog_1_method_16_code else ⟨#[]⟩
  else bif Nat.beq k 80 then prog_1_method_17_code else ⟨#[]⟩
  else bif Nat.blt k 85 then bif Nat.blt k 83 then bif Nat.blt k 82 then bif Nat.beq k 81 then prog_1_method_18_code else ⟨#[]⟩
  else bif Nat.beq k 82 then prog_1_method_19_code else ⟨#[]⟩
  else bif Nat.blt k 84 then bif Nat.beq k 83 then prog_1_method_20_code else ⟨#[]⟩
  else bif Nat.beq k 84 then prog_1_method_21_code else ⟨#[]⟩
  else bif Nat.blt k 87 then bif Nat.blt k 86 then bif Nat.beq k 85 then prog_1_method_22_code else ⟨#[]⟩
  else bif Nat.beq k 86 then prog_1_method_23_code else ⟨#[]⟩
  else bif Nat.blt k 88 then bif Nat.beq k 87 then prog_1_method_24_code else ⟨#[]⟩
  else bif Nat.beq k 88 then prog_1_method_25_code else ⟨#[]⟩
  else bif Nat.blt k 104 then bif Nat.blt k 96 then bif Nat.blt k 92 then bif Nat.blt k 90 then bif Nat.beq k 89 then prog_1_method_26_code else ⟨#[]⟩
  else bif Nat.blt k 91 then bif Nat.beq k 90 then prog_1_method_27_code else ⟨#[]⟩
  else bif Nat.beq k 91 then prog_1_method_28_code else ⟨#[]⟩
  else bif Nat.blt k 94 then bif Nat.blt k 93 then bif Nat.beq k 92 then prog_1_method_29_code else ⟨#[]⟩
  else bif Nat.beq k 93 then prog_1_method_30_code else ⟨#[]⟩
  else bif Nat.blt k 95 then bif Nat.beq k 94 then prog_1_method_31_code else ⟨#[]⟩
  else bif Nat.beq k 95 then prog_1_method_32_code else ⟨#[]⟩
  else bif Nat.blt k 100 then bif Nat.blt k 98 then bif Nat.blt k 97 then bif Nat.beq k 96 then prog_1_method_34_code else ⟨#[]⟩
  else bif Nat.beq k 97 then prog_1_method_35_code else ⟨#[]⟩
  else bif Nat.blt k 99 then bif Nat.beq k 98 then prog_1_method_36_code else ⟨#[]⟩
  else bif Nat.beq k 99 then prog_1_method_37_code else ⟨#[]⟩
  else bif Nat.blt k 102 then bif Nat.blt k 101 then bif Nat.beq k 100 then prog_1_method_38_code else ⟨#[]⟩
  else bif Nat.beq k 101 then prog_1_method_39_code else ⟨#[]⟩
  else bif Nat.blt k 103 then bif Nat.beq k 102 then prog_1_method_40_code else ⟨#[]⟩
  else bif Nat.beq k 103 then prog_1_method_41_code else ⟨#[]⟩
  else bif Nat.blt k 111 then bif Nat.blt k 107 then bif Nat.blt k 105 then bif Nat.beq k 104 then method_7_code else ⟨#[]⟩
  else bif Nat.blt k 106 then bif Nat.beq k 105 then method_8_code else ⟨#[]⟩
  else bif Nat.beq k 106 then method_10_code else ⟨#[]⟩
  else bif Nat.blt k 109 then bif Nat.blt k 108 then bif Nat.beq k 107 then method_13_code else ⟨#[]⟩
  else bif Nat.beq k 108 then method_14_code else ⟨#[]⟩
  else bif Nat.blt k 110 then bif Nat.beq k 109 then method_15_code else ⟨#[]⟩
  else bif Nat.beq k 110 then method_16_code else ⟨#[]⟩
  else bif Nat.blt k 115 then bif Nat.blt k 113 then bif Nat.blt k 112 then bif Nat.beq k 111 then method_17_code else ⟨#[]⟩
  else bif Nat.beq k 112 then method_18_code else ⟨#[]⟩
  else bif Nat.blt k 114 then bif Nat.beq k 113 then method_19_code else ⟨#[]⟩
  else bif Nat.beq k 114 then method_20_code else ⟨#[]⟩
  else bif Nat.blt k 117 then bif Nat.blt k 116 then bif Nat.beq k 115 then method_21_code else ⟨#[]⟩
  else bif Nat.beq k 116 then method_22_code else ⟨#[]⟩
  else bif Nat.blt k 118 then bif Nat.beq k 117 then method_23_code else ⟨#[]⟩
  else bif Nat.beq k 118 then method_24_code else ⟨#[]⟩
def retOf (k : Nat) : Option FieldType :=
  bif Nat.blt k 59 then bif Nat.blt k 29 then bif Nat.blt k 14 then bif Nat.blt k 7 then bif Nat.blt k 3 then bif Nat.blt k 1 then bif Nat.beq k 0 then none else none
  else bif Nat.blt k 2 then bif Nat.beq k 1 then none else none
  else bif Nat.beq k 2 then none else none
  else bif Nat.blt k 5 then bif Nat.blt k 4 then bif Nat.beq k 3 then some .int else none
  else bif Nat.beq k 4 then some .int else none
  else bif Nat.blt k 6 then bif Nat.beq k 5 then some .boolean else none
  else bif Nat.beq k 6 then none else none
  else bif Nat.blt k 10 then bif Nat.blt k 8 then bif Nat.beq k 7 then some .boolean else none
  else bif Nat.blt k 9 then bif Nat.beq k 8 then none else none
  else bif Nat.beq k 9 then none else none
  else bif Nat.blt k 12 then bif Nat.blt k 11 then bif Nat.beq k 10 then none else none
  else bif Nat.beq k 11 then none else none
  else bif Nat.blt k 13 then bif Nat.beq k 12 then none else none
  else bif Nat.beq k 13 then none else none
  else bif Nat.blt k 21 then bif Nat.blt k 17 then bif Nat.blt k 15 then bif Nat.beq k 14 then some .int else none
  else bif Nat.blt k 16 then bif Nat.beq k 15 then some .int else none
  else bif Nat.beq k 16 then some .boolean else none
  else bif Nat.blt k 19 then bif Nat.blt k 18 then bif Nat.beq k 17 then some .boolean else none
  else bif Nat.beq k 18 then some .int else none
  else bif Nat.blt k 20 then bif Nat.beq k 19 then none else none
  else bif Nat.beq k 20 then none else none
  else bif Nat.blt k 25 then bif Nat.blt k 23 then bif Nat.blt k 22 then bif Nat.beq k 21 then some .int else none
  else bif Nat.beq k 22 then some .int else none
  else bif Nat.blt k 24 then bif Nat.beq k 23 then some .int else none
  else bif Nat.beq k 24 then some .int else none
  else bif Nat.blt k 27 then bif Nat.blt k 26 then bif Nat.beq k 25 then none else none
  else bif Nat.beq k 26 then none else none
  else bif Nat.blt k 28 then bif Nat.beq k 27 then none else none
  else bif Nat.beq k 28 then some .boolean else none
  else bif Nat.blt k 44 then bif Nat.blt k 36 then bif Nat.blt k 32 then bif Nat.blt k 30 then bif Nat.beq k 29 then some .int else none
  else bif Nat.blt k 31 then bif Nat.beq k 30 then some .boolean else none
  else bif Nat.beq k 31 then some .int else none
  else bif Nat.blt k 34 then bif Nat.blt k 33 then bif Nat.beq k 32 then some .int else none
  else bif Nat.beq k 33 then some .int else none
  else bif Nat.blt k 35 then bif Nat.beq k 34 then some .boolean else none
  else bif Nat.beq k 35 then some .boolean else none
  else bif Nat.blt k 40 then bif Nat.blt k 38 then bif Nat.blt k 37 then bif Nat.beq k 36 then some .int else none
  else bif Nat.beq k 37 then some .int else none
  else bif Nat.blt k 39 then bif Nat.beq k 38 then some .boolean else none
  else bif Nat.beq k 39 then some .int else none
  else bif Nat.blt k 42 then bif Nat.blt k 41 then bif Nat.beq k 40 then some .int else none
  else bif Nat.beq k 41 then none else none
  else bif Nat.blt k 43 then bif Nat.beq k 42 then none else none
  else bif Nat.beq k 43 then none else none
  else bif Nat.blt k 51 then bif Nat.blt k 47 then bif Nat.blt k 45 then bif Nat.beq k 44 then some .int else none
  else bif Nat.blt k 46 then bif Nat.beq k 45 then some .int else none
  else bif Nat.beq k 46 then some .int else none
  else bif Nat.blt k 49 then bif Nat.blt k 48 then bif Nat.beq k 47 then some .int else none
  else bif Nat.beq k 48 then some .int else none
  else bif Nat.blt k 50 then bif Nat.beq k 49 then none else none
  else bif Nat.beq k 50 then some .int else none
  else bif Nat.blt k 55 then bif Nat.blt k 53 then bif Nat.blt k 52 then bif Nat.beq k 51 then none else none
  else bif Nat.beq k 52 then none else none
  else bif Nat.blt k 54 then bif Nat.beq k 53 then none else none
  else bif Nat.beq k 54 then some .int else none
  else bif Nat.blt k 57 then bif Nat.blt k 56 then bif Nat.beq k 55 then none else none
  else bif Nat.beq k 56 then none else none
  else bif Nat.blt k 58 then bif Nat.beq k 57 then none else none
  else bif Nat.beq k 58 then none else none
  else bif Nat.blt k 89 then bif Nat.blt k 74 then bif Nat.blt k 66 then bif Nat.blt k 62 then bif Nat.blt k 60 then bif Nat.beq k 59 then none else none
  else bif Nat.blt k 61 then bif Nat.beq k 60 then none else none
  else bif Nat.beq k 61 then some .int else none
  else bif Nat.blt k 64 then bif Nat.blt k 63 then bif Nat.beq k 62 then none else none
  else bif Nat.beq k 63 then none else none
  else bif Nat.blt k 65 then bif Nat.beq k 64 then some .boolean else none
  else bif Nat.beq k 65 then none else none
  else bif Nat.blt k 70 then bif Nat.blt k 68 then bif Nat.blt k 67 then bif Nat.beq k 66 then some .int else none
  else bif Nat.beq k 67 then some .boolean else none
  else bif Nat.blt k 69 then bif Nat.beq k 68 then some .boolean else none
  else bif Nat.beq k 69 then some .int else none
  else bif Nat.blt k 72 then bif Nat.blt k 71 then bif Nat.beq k 70 then some .int else none
  else bif Nat.beq k 71 then some .int else none
  else bif Nat.blt k 73 then bif Nat.beq k 72 then some .int else none
  else bif Nat.beq k 73 then some .int else none
  else bif Nat.blt k 81 then bif Nat.blt k 77 then bif Nat.blt k 75 then bif Nat.beq k 74 then some .int else none
  else bif Nat.blt k 76 then bif Nat.beq k 75 then some .int else none
  else bif Nat.beq k 76 then some .int else none
  else bif Nat.blt k 79 then bif Nat.blt k 78 then bif Nat.beq k 77 then some .int else none
  else bif Nat.beq k 78 then some .int else none
  else bif Nat.blt k 80 then bif Nat.beq k 79 then some .int else none
  else bif Nat.beq k 80 then some .int else none
  else bif Nat.blt k 85 then bif Nat.blt k 83 then bif Nat.blt k 82 then bif Nat.beq k 81 then some .int else none
  else bif Nat.beq k 82 then some .int else none
  else bif Nat.blt k 84 then bif Nat.beq k 83 then some .int else none
  else bif Nat.beq k 84 then some .int else none
  else bif Nat.blt k 87 then bif Nat.blt k 86 then bif Nat.beq k 85 then some .int else none
  else bif Nat.beq k 86 then some .int else none
  else bif Nat.blt k 88 then bif Nat.beq k 87 then some .int else none
  else bif Nat.beq k 88 then some .int else none
  else bif Nat.blt k 104 then bif Nat.blt k 96 then bif Nat.blt k 92 then bif Nat.blt k 90 then bif Nat.beq k 89 then some .int else none
  else bif Nat.blt k 91 then bif Nat.beq k 90 then some .int else none
  else bif Nat.beq k 91 then some .int else none
  else bif Nat.blt k 94 then bif Nat.blt k 93 then bif Nat.beq k 92 then some .int else none
  else bif Nat.beq k 93 then some .int else none
  else bif Nat.blt k 95 then bif Nat.beq k 94 then some .int else none
  else bif Nat.beq k 95 then some .long else none
  else bif Nat.blt k 100 then bif Nat.blt k 98 then bif Nat.blt k 97 then bif Nat.beq k 96 then none else none
  else bif Nat.beq k 97 then none else none
  else bif Nat.blt k 99 then bif Nat.beq k 98 then none else none
  else bif Nat.beq k 99 then some .int else none
  else bif Nat.blt k 102 then bif Nat.blt k 101 then bif Nat.beq k 100 then some .int else none
  else bif Nat.beq k 101 then some .int else none
  else bif Nat.blt k 103 then bif Nat.beq k 102 then none else none
  else bif Nat.beq k 103 then none else none
  else bif Nat.blt k 111 then bif Nat.blt k 107 then bif Nat.blt k 105 then bif Nat.beq k 104 then some .int else none
  else bif Nat.blt k 106 then bif Nat.beq k 105 then some .int else none
  else bif Nat.beq k 106 then some .int else none
  else bif Nat.blt k 109 then bif Nat.blt k 108 then bif Nat.beq k 107 then some .int else none
  else bif Nat.beq k 108 then some .int else none
  else bif Nat.blt k 110 then bif Nat.beq k 109 then some .int else none
  else bif Nat.beq k 110 then some .int else none
  else bif Nat.blt k 115 then bif Nat.blt k 113 then bif Nat.blt k 112 then bif Nat.beq k 111 then some .int else none
  else bif Nat.beq k 112 then some .int else none
  else bif Nat.blt k 114 then bif Nat.beq k 113 then some .int else none
  else bif Nat.beq k 114 then some .int else none
  else bif Nat.blt k 117 then bif Nat.blt k 116 then bif Nat.beq k 115 then some .int else none
  else bif Nat.beq k 116 then some .int else none
  else bif Nat.blt k 118 then bif Nat.beq k 117 then some .int else none
  else bif Nat.beq k 118 then some .int else none
def nargOf (k : Nat) : Nat :=
  bif Nat.blt k 59 then bif Nat.blt k 29 then bif Nat.blt k 14 then bif Nat.blt k 7 then bif Nat.blt k 3 then bif Nat.blt k 1 then bif Nat.beq k 0 then 0 else 0
  else bif Nat.blt k 2 then bif Nat.beq k 1 then 1 else 0
  else bif Nat.beq k 2 then 1 else 0
  else bif Nat.blt k 5 then bif Nat.blt k 4 then bif Nat.beq k 3 then 2 else 0
  else bif Nat.beq k 4 then 3 else 0
  else bif Nat.blt k 6 then bif Nat.beq k 5 then 1 else 0
  else bif Nat.beq k 6 then 3 else 0
  else bif Nat.blt k 10 then bif Nat.blt k 8 then bif Nat.beq k 7 then 2 else 0
  else bif Nat.blt k 9 then bif Nat.beq k 8 then 0 else 0
  else bif Nat.beq k 9 then 1 else 0
  else bif Nat.blt k 12 then bif Nat.blt k 11 then bif Nat.beq k 10 then 5 else 0
  else bif Nat.beq k 11 then 3 else 0
  else bif Nat.blt k 13 then bif Nat.beq k 12 then 1 else 0
  else bif Nat.beq k 13 then 3 else 0
  else bif Nat.blt k 21 then bif Nat.blt k 17 then bif Nat.blt k 15 then bif Nat.beq k 14 then 1 else 0
  else bif Nat.blt k 16 then bif Nat.beq k 15 then 1 else 0
  else bif Nat.beq k 16 then 2 else 0
  else bif Nat.blt k 19 then bif Nat.blt k 18 then bif Nat.beq k 17 then 2 else 0
  else bif Nat.beq k 18 then 0 else 0
  else bif Nat.blt k 20 then bif Nat.beq k 19 then 0 else 0
  else bif Nat.beq k 20 then 1 else 0
  else bif Nat.blt k 25 then bif Nat.blt k 23 then bif Nat.blt k 22 then bif Nat.beq k 21 then 1 else 0
  else bif Nat.beq k 22 then 2 else 0
  else bif Nat.blt k 24 then bif Nat.beq k 23 then 1 else 0
  else bif Nat.beq k 24 then 2 else 0
  else bif Nat.blt k 27 then bif Nat.blt k 26 then bif Nat.beq k 25 then 3 else 0
  else bif Nat.beq k 26 then 2 else 0
  else bif Nat.blt k 28 then bif Nat.beq k 27 then 2 else 0
  else bif Nat.beq k 28 then 1 else 0
  else bif Nat.blt k 44 then bif Nat.blt k 36 then bif Nat.blt k 32 then bif Nat.blt k 30 then bif Nat.beq k 29 then 1 else 0
  else bif Nat.blt k 31 then bif Nat.beq k 30 then 2 else 0
  else bif Nat.beq k 31 then 3 else 0
  else bif Nat.blt k 34 then bif Nat.blt k 33 then bif Nat.beq k 32 then 1 else 0
  else bif Nat.beq k 33 then 3 else 0
  else bif Nat.blt k 35 then bif Nat.beq k 34 then 2 else 0
  else bif Nat.beq k 35 then 2 else 0
  else bif Nat.blt k 40 then bif Nat.blt k 38 then bif Nat.blt k 37 then bif Nat.beq k 36 then 1 else 0
  else bif Nat.beq k 37 then 2 else 0
  else bif Nat.blt k 39 then bif Nat.beq k 38 then 1 else 0
  else bif Nat.beq k 39 then 1 else 0
  else bif Nat.blt k 42 then bif Nat.blt k 41 then bif Nat.beq k 40 then 0 else 0
  else bif Nat.beq k 41 then 1 else 0
  else bif Nat.blt k 43 then bif Nat.beq k 42 then 1 else 0
  else bif Nat.beq k 43 then 1 else 0
  else bif Nat.blt k 51 then bif Nat.blt k 47 then bif Nat.blt k 45 then bif Nat.beq k 44 then 3 else 0
  else bif Nat.blt k 46 then bif Nat.beq k 45 then 3 else 0
  else bif Nat.beq k 46 then 3 else 0
  else bif Nat.blt k 49 then bif Nat.blt k 48 then bif Nat.beq k 47 then 3 else 0
  else bif Nat.beq k 48 then 1 else 0
  else bif Nat.blt k 50 then bif Nat.beq k 49 then 1 else 0
  else bif Nat.beq k 50 then 1 else 0
  else bif Nat.blt k 55 then bif Nat.blt k 53 then bif Nat.blt k 52 then bif Nat.beq k 51 then 1 else 0
  else bif Nat.beq k 52 then 0 else 0
  else bif Nat.blt k 54 then bif Nat.beq k 53 then 0 else 0
  else bif Nat.beq k 54 then 1 else 0
  else bif Nat.blt k 57 then bif Nat.blt k 56 then bif Nat.beq k 55 then 0 else 0
  else bif Nat.beq k 56 then 1 else 0
  else bif Nat.blt k 58 then bif Nat.beq k 57 then 1 else 0
  else bif Nat.beq k 58 then 1 else 0
  else bif Nat.blt k 89 then bif Nat.blt k 74 then bif Nat.blt k 66 then bif Nat.blt k 62 then bif Nat.blt k 60 then bif Nat.beq k 59 then 0 else 0
  else bif Nat.blt k 61 then bif Nat.beq k 60 then 1 else 0
  else bif Nat.beq k 61 then 2 else 0
  else bif Nat.blt k 64 then bif Nat.blt k 63 then bif Nat.beq k 62 then 1 else 0
  else bif Nat.beq k 63 then 1 else 0
  else bif Nat.blt k 65 then bif Nat.beq k 64 then 1 else 0
  else bif Nat.beq k 65 then 0 else 0
  else bif Nat.blt k 70 then bif Nat.blt k 68 then bif Nat.blt k 67 then bif Nat.beq k 66 then 1 else 0
  else bif Nat.beq k 67 then 1 else 0
  else bif Nat.blt k 69 then bif Nat.beq k 68 then 1 else 0
  else bif Nat.beq k 69 then 5 else 0
  else bif Nat.blt k 72 then bif Nat.blt k 71 then bif Nat.beq k 70 then 1 else 0
  else bif Nat.beq k 71 then 0 else 0
  else bif Nat.blt k 73 then bif Nat.beq k 72 then 0 else 0
  else bif Nat.beq k 73 then 0 else 0
  else bif Nat.blt k 81 then bif Nat.blt k 77 then bif Nat.blt k 75 then bif Nat.beq k 74 then 0 else 0
  else bif Nat.blt k 76 then bif Nat.beq k 75 then 0 else 0
  else bif Nat.beq k 76 then 2 else 0
  else bif Nat.blt k 79 then bif Nat.blt k 78 then bif Nat.beq k 77 then 2 else 0
  else bif Nat.beq k 78 then 0 else 0
  else bif Nat.blt k 80 then bif Nat.beq k 79 then 1 else 0
  else bif Nat.beq k 80 then 1 else 0
  else bif Nat.blt k 85 then bif Nat.blt k 83 then bif Nat.blt k 82 then bif Nat.beq k 81 then 2 else 0
  else bif Nat.beq k 82 then 1 else 0
  else bif Nat.blt k 84 then bif Nat.beq k 83 then 1 else 0
  else bif Nat.beq k 84 then 0 else 0
  else bif Nat.blt k 87 then bif Nat.blt k 86 then bif Nat.beq k 85 then 0 else 0
  else bif Nat.beq k 86 then 1 else 0
  else bif Nat.blt k 88 then bif Nat.beq k 87 then 1 else 0
  else bif Nat.beq k 88 then 1 else 0
  else bif Nat.blt k 104 then bif Nat.blt k 96 then bif Nat.blt k 92 then bif Nat.blt k 90 then bif Nat.beq k 89 then 3 else 0
  else bif Nat.blt k 91 then bif Nat.beq k 90 then 1 else 0
  else bif Nat.beq k 91 then 1 else 0
  else bif Nat.blt k 94 then bif Nat.blt k 93 then bif Nat.beq k 92 then 0 else 0
  else bif Nat.beq k 93 then 1 else 0
  else bif Nat.blt k 95 then bif Nat.beq k 94 then 0 else 0
  else bif Nat.beq k 95 then 0 else 0
  else bif Nat.blt k 100 then bif Nat.blt k 98 then bif Nat.blt k 97 then bif Nat.beq k 96 then 1 else 0
  else bif Nat.beq k 97 then 1 else 0
  else bif Nat.blt k 99 then bif Nat.beq k 98 then 1 else 0
  else bif Nat.beq k 99 then 1 else 0
  else bif Nat.blt k 102 then bif Nat.blt k 101 then bif Nat.beq k 100 then 3 else 0
  else bif Nat.beq k 101 then 2 else 0
  else bif Nat.blt k 103 then bif Nat.beq k 102 then 3 else 0
  else bif Nat.beq k 103 then 2 else 0
  else bif Nat.blt k 111 then bif Nat.blt k 107 then bif Nat.blt k 105 then bif Nat.beq k 104 then 2 else 0
  else bif Nat.blt k 106 then bif Nat.beq k 105 then 3 else 0
  else bif Nat.beq k 106 then 3 else 0
  else bif Nat.blt k 109 then bif Nat.blt k 108 then bif Nat.beq k 107 then 2 else 0
  else bif Nat.beq k 108 then 2 else 0
  else bif Nat.blt k 110 then bif Nat.beq k 109 then 3 else 0
  else bif Nat.beq k 110 then 2 else 0
  else bif Nat.blt k 115 then bif Nat.blt k 113 then bif Nat.blt k 112 then bif Nat.beq k 111 then 2 else 0
  else bif Nat.beq k 112 then 2 else 0
  else bif Nat.blt k 114 then bif Nat.beq k 113 then 2 else 0
  else bif Nat.beq k 114 then 2 else 0
  else bif Nat.blt k 117 then bif Nat.blt k 116 then bif Nat.beq k 115 then 4 else 0
  else bif Nat.beq k 116 then 2 else 0
  else bif Nat.blt k 118 then bif Nat.beq k 117 then 2 else 0
  else bif Nat.beq k 118 then 2 else 0
def hhOf (k : Nat) : List (Nat × Nat × Nat × Nat) :=
  bif Nat.blt k 111 then bif Nat.blt k 107 then bif Nat.blt k 105 then bif Nat.beq k 104 then [(0, 5, 6, 40)] else []
  else bif Nat.blt k 106 then bif Nat.beq k 105 then [(0, 6, 7, 47), (0, 6, 11, 40)] else []
  else bif Nat.beq k 106 then [(0, 6, 7, 47)] else []
  else bif Nat.blt k 109 then bif Nat.blt k 108 then bif Nat.beq k 107 then [(0, 5, 6, 47)] else []
  else bif Nat.beq k 108 then [(0, 5, 6, 47)] else []
  else bif Nat.blt k 110 then bif Nat.beq k 109 then [(0, 6, 7, 47), (0, 6, 11, 71)] else []
  else bif Nat.beq k 110 then [(0, 5, 6, 47)] else []
  else bif Nat.blt k 115 then bif Nat.blt k 113 then bif Nat.blt k 112 then bif Nat.beq k 111 then [(0, 5, 6, 47)] else []
  else bif Nat.beq k 112 then [(0, 5, 6, 47)] else []
  else bif Nat.blt k 114 then bif Nat.beq k 113 then [(0, 5, 6, 47), (0, 5, 10, 86)] else []
  else bif Nat.beq k 114 then [(0, 5, 6, 47), (0, 5, 10, 86)] else []
  else bif Nat.blt k 117 then bif Nat.blt k 116 then bif Nat.beq k 115 then [(0, 7, 8, 47), (0, 7, 13, 86)] else []
  else bif Nat.beq k 116 then [(0, 5, 6, 47), (0, 5, 10, 86)] else []
  else bif Nat.blt k 118 then bif Nat.beq k 117 then [(0, 5, 6, 47), (0, 5, 10, 86)] else []
  else bif Nat.beq k 118 then [(0, 5, 6, 40)] else []
def fres (k : Nat) : Option (Nat × Nat × Bool) :=
  bif Nat.blt k 9000 then bif Nat.blt k 5059 then bif Nat.blt k 3018 then bif Nat.blt k 2018 then bif Nat.blt k 1023 then bif Nat.blt k 18 then bif Nat.blt k 15 then bif Nat.beq k 9 then some (0, 0, false) else none
  else bif Nat.beq k 15 then some (0, 1, false) else none
  else bif Nat.blt k 1011 then bif Nat.beq k 18 then some (0, 2, false) else none
  else bif Nat.blt k 1019 then bif Nat.beq k 1011 then some (1, 0, false) else none
  else bif Nat.beq k 1019 then some (1, 1, false) else none
  else bif Nat.blt k 1031 then bif Nat.blt k 1027 then bif Nat.beq k 1023 then some (1, 2, false) else none
  else bif Nat.beq k 1027 then some (1, 3, false) else none
  else bif Nat.blt k 2009 then bif Nat.beq k 1031 then some (1, 4, false) else none
  else bif Nat.blt k 2015 then bif Nat.beq k 2009 then some (2, 4, false) else none
  else bif Nat.beq k 2015 then some (2, 5, false) else none
  else bif Nat.blt k 2034 then bif Nat.blt k 2024 then bif Nat.blt k 2021 then bif Nat.beq k 2018 then some (2, 6, false) else none
  else bif Nat.beq k 2021 then some (2, 7, false) else none
  else bif Nat.blt k 2027 then bif Nat.beq k 2024 then some (2, 8, false) else none
  else bif Nat.blt k 2030 then bif Nat.beq k 2027 then some (2, 9, false) else none
  else bif Nat.beq k 2030 then some (2, 0, false) else none
  else bif Nat.blt k 2040 then bif Nat.blt k 2037 then bif Nat.beq k 2034 then some (2, 1, false) else none
  else bif Nat.beq k 2037 then some (2, 2, false) else none
  else bif Nat.blt k 3009 then bif Nat.beq k 2040 then some (2, 3, false) else none
  else bif Nat.blt k 3015 then bif Nat.beq k 3009 then some (3, 1, false) else none
  else bif Nat.beq k 3015 then some (3, 2, false) else none
  else bif Nat.blt k 4064 then bif Nat.blt k 4032 then bif Nat.blt k 4012 then bif Nat.blt k 3021 then bif Nat.beq k 3018 then some (3, 3, false) else none
  else bif Nat.beq k 3021 then some (3, 0, false) else none
  else bif Nat.blt k 4021 then bif Nat.beq k 4012 then some (4, 0, false) else none
  else bif Nat.blt k 4028 then bif Nat.beq k 4021 then some (4, 1, false) else none
  else bif Nat.beq k 4028 then some (4, 2, false) else none
  else bif Nat.blt k 4054 then bif Nat.blt k 4044 then bif Nat.beq k 4032 then some (2, 8, true) else none
  else bif Nat.beq k 4044 then some (3, 2, true) else none
  else bif Nat.blt k 4058 then bif Nat.beq k 4054 then some (2, 1, true) else none
  else bif Nat.blt k 4061 then bif Nat.beq k 4058 then some (3, 1, true) else none
  else bif Nat.beq k 4061 then some (5, 1, true) else none
  else bif Nat.blt k 5009 then bif Nat.blt k 4074 then bif Nat.blt k 4067 then bif Nat.beq k 4064 then some (5, 2, true) else none
  else bif Nat.beq k 4067 then some (5, 0, true) else none
  else bif Nat.blt k 4078 then bif Nat.beq k 4074 then some (2, 6, true) else none
  else bif Nat.blt k 4108 then bif Nat.beq k 4078 then some (3, 0, true) else none
  else bif Nat.beq k 4108 then some (2, 2, true) else none
  else bif Nat.blt k 5021 then bif Nat.blt k 5015 then bif Nat.beq k 5009 then some (5, 0, false) else none
  else bif Nat.blt k 5018 then bif Nat.beq k 5015 then some (5, 1, false) else none
  else bif Nat.beq k 5018 then some (5, 2, false) else none
  else bif Nat.blt k 5031 then bif Nat.beq k 5021 then some (5, 3, false) else none
  else bif Nat.blt k 5037 then bif Nat.beq k 5031 then some (2, 2, true) else none
  else bif Nat.beq k 5037 then some (2, 0, true) else none
  else bif Nat.blt k 7019 then bif Nat.blt k 6048 then bif Nat.blt k 6033 then bif Nat.blt k 6018 then bif Nat.blt k 6009 then bif Nat.beq k 5059 then some (2, 5, true) else none
  else bif Nat.beq k 6009 then some (6, 0, false) else none
  else bif Nat.blt k 6025 then bif Nat.beq k 6018 then some (6, 1, false) else none
  else bif Nat.blt k 6029 then bif Nat.beq k 6025 then some (6, 2, false) else none
  else bif Nat.beq k 6029 then some (6, 3, false) else none
  else bif Nat.blt k 6039 then bif Nat.blt k 6036 then bif Nat.beq k 6033 then some (6, 4, false) else none
  else bif Nat.beq k 6036 then some (6, 5, false) else none
  else bif Nat.blt k 6042 then bif Nat.beq k 6039 then some (6, 6, false) else none
  else bif Nat.blt k 6045 then bif Nat.beq k 6042 then some (6, 7, false) else none
  else bif Nat.beq k 6045 then some (6, 8, false) else none
  else bif Nat.blt k 6118 then bif Nat.blt k 6055 then bif Nat.blt k 6052 then bif Nat.beq k 6048 then some (6, 9, false) else none
  else bif Nat.beq k 6052 then some (6, 10, false) else none
  else bif Nat.blt k 6071 then bif Nat.beq k 6055 then some (6, 11, false) else none
  else bif Nat.blt k 6074 then bif Nat.beq k 6071 then some (2, 0, true) else none
  else bif Nat.beq k 6074 then some (2, 1, true) else none
  else bif Nat.blt k 6167 then bif Nat.blt k 6137 then bif Nat.beq k 6118 then some (2, 2, true) else none
  else bif Nat.blt k 6159 then bif Nat.beq k 6137 then some (2, 3, true) else none
  else bif Nat.beq k 6159 then some (2, 5, true) else none
  else bif Nat.blt k 6173 then bif Nat.beq k 6167 then some (2, 8, true) else none
  else bif Nat.blt k 7012 then bif Nat.beq k 6173 then some (2, 6, true) else none
  else bif Nat.beq k 7012 then some (7, 0, false) else none
  else bif Nat.blt k 7094 then bif Nat.blt k 7045 then bif Nat.blt k 7032 then bif Nat.blt k 7027 then bif Nat.beq k 7019 then some (7, 1, false) else none
  else bif Nat.beq k 7027 then some (7, 2, false) else none
  else bif Nat.blt k 7037 then bif Nat.beq k 7032 then some (7, 3, false) else none
  else bif Nat.blt k 7041 then bif Nat.beq k 7037 then some (7, 4, false) else none
  else bif Nat.beq k 7041 then some (7, 5, false) else none
  else bif Nat.blt k 7085 then bif Nat.blt k 7068 then bif Nat.beq k 7045 then some (6, 3, true) else none
  else bif Nat.beq k 7068 then some (6, 1, true) else none
  else bif Nat.blt k 7088 then bif Nat.beq k 7085 then some (2, 2, true) else none
  else bif Nat.blt k 7091 then bif Nat.beq k 7088 then some (6, 11, true) else none
  else bif Nat.beq k 7091 then some (2, 0, true) else none
  else bif Nat.blt k 7126 then bif Nat.blt k 7103 then bif Nat.blt k 7097 then bif Nat.beq k 7094 then some (2, 3, true) else none
  else bif Nat.beq k 7097 then some (3, 0, true) else none
  else bif Nat.blt k 7111 then bif Nat.beq k 7103 then some (2, 4, true) else none
  else bif Nat.blt k 7114 then bif Nat.beq k 7111 then some (2, 5, true) else none
  else bif Nat.beq k 7114 then some (2, 8, true) else none
  else bif Nat.blt k 7155 then bif Nat.blt k 7135 then bif Nat.beq k 7126 then some (5, 0, true) else none
  else bif Nat.blt k 7152 then bif Nat.beq k 7135 then some (5, 3, true) else none
  else bif Nat.beq k 7152 then some (3, 1, true) else none
  else bif Nat.blt k 7195 then bif Nat.beq k 7155 then some (3, 2, true) else none
  else bif Nat.blt k 7243 then bif Nat.beq k 7195 then some (2, 9, true) else none
  else bif Nat.beq k 7243 then some (1, 3, true) else none
  else none
def mres (k : Nat) : Option (Nat × Nat) :=
  bif Nat.blt k 10000 then bif Nat.blt k 6133 then bif Nat.blt k 4111 then bif Nat.blt k 3033 then bif Nat.blt k 2043 then bif Nat.blt k 36 then bif Nat.blt k 26 then bif Nat.beq k 22 then some (102, 2) else none
  else bif Nat.blt k 30 then bif Nat.beq k 26 then some (101, 2) else none
  else bif Nat.beq k 30 then some (4, 1) else none
  else bif Nat.blt k 1040 then bif Nat.blt k 1036 then bif Nat.beq k 36 then some (100, 2) else none
  else bif Nat.beq k 1036 then some (5, 0) else none
  else bif Nat.blt k 1044 then bif Nat.beq k 1040 then some (9, 0) else none
  else bif Nat.beq k 1044 then some (20, 0) else none
  else bif Nat.blt k 2059 then bif Nat.blt k 2051 then bif Nat.blt k 2047 then bif Nat.beq k 2043 then some (103, 2) else none
  else bif Nat.beq k 2047 then some (11, 0) else none
  else bif Nat.blt k 2055 then bif Nat.beq k 2051 then some (102, 2) else none
  else bif Nat.beq k 2055 then some (15, 0) else none
  else bif Nat.blt k 3025 then bif Nat.blt k 2063 then bif Nat.beq k 2059 then some (101, 2) else none
  else bif Nat.beq k 2063 then some (14, 0) else none
  else bif Nat.blt k 3029 then bif Nat.beq k 3025 then some (103, 2) else none
  else bif Nat.beq k 3029 then some (102, 2) else none
  else bif Nat.blt k 4081 then bif Nat.blt k 4040 then bif Nat.blt k 3037 then bif Nat.beq k 3033 then some (101, 2) else none
  else bif Nat.blt k 4036 then bif Nat.beq k 3037 then some (24, 0) else none
  else bif Nat.beq k 4036 then some (101, 2) else none
  else bif Nat.blt k 4051 then bif Nat.blt k 4047 then bif Nat.beq k 4040 then some (23, 0) else none
  else bif Nat.beq k 4047 then some (22, 0) else none
  else bif Nat.blt k 4070 then bif Nat.beq k 4051 then some (29, 0) else none
  else bif Nat.beq k 4070 then some (31, 0) else none
  else bif Nat.blt k 4095 then bif Nat.blt k 4088 then bif Nat.blt k 4085 then bif Nat.beq k 4081 then some (30, 0) else none
  else bif Nat.beq k 4085 then some (33, 0) else none
  else bif Nat.blt k 4091 then bif Nat.beq k 4088 then some (36, 0) else none
  else bif Nat.beq k 4091 then some (25, 0) else none
  else bif Nat.blt k 4101 then bif Nat.blt k 4098 then bif Nat.beq k 4095 then some (24, 0) else none
  else bif Nat.beq k 4098 then some (34, 0) else none
  else bif Nat.blt k 4105 then bif Nat.beq k 4101 then some (26, 0) else none
  else bif Nat.beq k 4105 then some (37, 0) else none
  else bif Nat.blt k 6063 then bif Nat.blt k 5051 then bif Nat.blt k 5028 then bif Nat.blt k 4114 then bif Nat.beq k 4111 then some (39, 0) else none
  else bif Nat.blt k 5024 then bif Nat.beq k 4114 then some (38, 0) else none
  else bif Nat.beq k 5024 then some (42, 0) else none
  else bif Nat.blt k 5044 then bif Nat.blt k 5040 then bif Nat.beq k 5028 then some (43, 0) else none
  else bif Nat.beq k 5040 then some (44, 0) else none
  else bif Nat.blt k 5048 then bif Nat.beq k 5044 then some (102, 2) else none
  else bif Nat.beq k 5048 then some (45, 0) else none
  else bif Nat.blt k 5076 then bif Nat.blt k 5062 then bif Nat.blt k 5054 then bif Nat.beq k 5051 then some (46, 0) else none
  else bif Nat.beq k 5054 then some (17, 0) else none
  else bif Nat.blt k 5066 then bif Nat.beq k 5062 then some (101, 2) else none
  else bif Nat.beq k 5066 then some (14, 0) else none
  else bif Nat.blt k 5082 then bif Nat.blt k 5079 then bif Nat.beq k 5076 then some (15, 0) else none
  else bif Nat.beq k 5079 then some (48, 1) else none
  else bif Nat.blt k 6058 then bif Nat.beq k 5082 then some (47, 1) else none
  else bif Nat.beq k 6058 then some (51, 0) else none
  else bif Nat.blt k 6105 then bif Nat.blt k 6087 then bif Nat.blt k 6077 then bif Nat.blt k 6067 then bif Nat.beq k 6063 then some (62, 0) else none
  else bif Nat.beq k 6067 then some (61, 0) else none
  else bif Nat.blt k 6083 then bif Nat.beq k 6077 then some (63, 0) else none
  else bif Nat.beq k 6083 then some (64, 0) else none
  else bif Nat.blt k 6097 then bif Nat.blt k 6092 then bif Nat.beq k 6087 then some (52, 0) else none
  else bif Nat.beq k 6092 then some (53, 0) else none
  else bif Nat.blt k 6102 then bif Nat.beq k 6097 then some (55, 0) else none
  else bif Nat.beq k 6102 then some (65, 0) else none
  else bif Nat.blt k 6117 then bif Nat.blt k 6111 then bif Nat.blt k 6108 then bif Nat.beq k 6105 then some (56, 0) else none
  else bif Nat.beq k 6108 then some (60, 0) else none
  else bif Nat.blt k 6114 then bif Nat.beq k 6111 then some (59, 0) else none
  else bif Nat.beq k 6114 then some (8, 0) else none
  else bif Nat.blt k 6125 then bif Nat.blt k 6121 then bif Nat.beq k 6117 then some (0, 0) else none
  else bif Nat.beq k 6121 then some (10, 0) else none
  else bif Nat.blt k 6129 then bif Nat.beq k 6125 then some (54, 0) else none
  else bif Nat.beq k 6129 then some (13, 0) else none
  else bif Nat.blt k 7177 then bif Nat.blt k 7064 then bif Nat.blt k 6170 then bif Nat.blt k 6146 then bif Nat.blt k 6140 then bif Nat.beq k 6133 then some (16, 0) else none
  else bif Nat.blt k 6143 then bif Nat.beq k 6140 then some (12, 0) else none
  else bif Nat.beq k 6143 then some (57, 0) else none
  else bif Nat.blt k 6154 then bif Nat.blt k 6149 then bif Nat.beq k 6146 then some (2, 0) else none
  else bif Nat.beq k 6149 then some (58, 0) else none
  else bif Nat.blt k 6163 then bif Nat.beq k 6154 then some (1, 0) else none
  else bif Nat.beq k 6163 then some (101, 2) else none
  else bif Nat.blt k 6196 then bif Nat.blt k 6180 then bif Nat.blt k 6176 then bif Nat.beq k 6170 then some (3, 0) else none
  else bif Nat.beq k 6176 then some (100, 2) else none
  else bif Nat.blt k 6189 then bif Nat.beq k 6180 then some (102, 2) else none
  else bif Nat.beq k 6189 then some (66, 0) else none
  else bif Nat.blt k 7049 then bif Nat.blt k 6206 then bif Nat.beq k 6196 then some (67, 1) else none
  else bif Nat.beq k 6206 then some (68, 1) else none
  else bif Nat.blt k 7060 then bif Nat.beq k 7049 then some (49, 0) else none
  else bif Nat.beq k 7060 then some (50, 0) else none
  else bif Nat.blt k 7129 then bif Nat.blt k 7080 then bif Nat.blt k 7069 then bif Nat.beq k 7064 then some (6, 0) else none
  else bif Nat.blt k 7075 then bif Nat.beq k 7069 then some (9, 0) else none
  else bif Nat.beq k 7075 then some (41, 0) else none
  else bif Nat.blt k 7107 then bif Nat.blt k 7100 then bif Nat.beq k 7080 then some (19, 0) else none
  else bif Nat.beq k 7100 then some (96, 0) else none
  else bif Nat.blt k 7119 then bif Nat.beq k 7107 then some (101, 1) else none
  else bif Nat.beq k 7119 then some (97, 0) else none
  else bif Nat.blt k 7158 then bif Nat.blt k 7145 then bif Nat.blt k 7141 then bif Nat.beq k 7129 then some (99, 1) else none
  else bif Nat.beq k 7141 then some (18, 0) else none
  else bif Nat.blt k 7149 then bif Nat.beq k 7145 then some (47, 2) else none
  else bif Nat.beq k 7149 then some (98, 0) else none
  else bif Nat.blt k 7170 then bif Nat.blt k 7167 then bif Nat.beq k 7158 then some (22, 0) else none
  else bif Nat.beq k 7167 then some (29, 0) else none
  else bif Nat.blt k 7173 then bif Nat.beq k 7170 then some (32, 0) else none
  else bif Nat.beq k 7173 then some (28, 0) else none
  else bif Nat.blt k 7255 then bif Nat.blt k 7220 then bif Nat.blt k 7201 then bif Nat.blt k 7185 then bif Nat.beq k 7177 then some (23, 0) else none
  else bif Nat.blt k 7198 then bif Nat.beq k 7185 then some (36, 0) else none
  else bif Nat.beq k 7198 then some (21, 0) else none
  else bif Nat.blt k 7211 then bif Nat.blt k 7204 then bif Nat.beq k 7201 then some (30, 0) else none
  else bif Nat.beq k 7204 then some (33, 0) else none
  else bif Nat.blt k 7217 then bif Nat.beq k 7211 then some (25, 0) else none
  else bif Nat.beq k 7217 then some (24, 0) else none
  else bif Nat.blt k 7235 then bif Nat.blt k 7229 then bif Nat.blt k 7225 then bif Nat.beq k 7220 then some (34, 0) else none
  else bif Nat.beq k 7225 then some (26, 0) else none
  else bif Nat.blt k 7232 then bif Nat.beq k 7229 then some (35, 0) else none
  else bif Nat.beq k 7232 then some (27, 0) else none
  else bif Nat.blt k 7246 then bif Nat.blt k 7240 then bif Nat.beq k 7235 then some (38, 0) else none
  else bif Nat.beq k 7240 then some (40, 0) else none
  else bif Nat.blt k 7250 then bif Nat.beq k 7246 then some (7, 0) else none
  else bif Nat.beq k 7250 then some (84, 0) else none
  else bif Nat.blt k 9077 then bif Nat.blt k 9063 then bif Nat.blt k 9043 then bif Nat.blt k 9037 then bif Nat.beq k 7255 then some (85, 0) else none
  else bif Nat.beq k 9037 then some (70, 0) else none
  else bif Nat.blt k 9054 then bif Nat.beq k 9043 then some (76, 0) else none
  else bif Nat.beq k 9054 then some (77, 0) else none
  else bif Nat.blt k 9068 then bif Nat.blt k 9066 then bif Nat.beq k 9063 then some (79, 0) else none
  else bif Nat.beq k 9066 then some (80, 0) else none
  else bif Nat.blt k 9074 then bif Nat.beq k 9068 then some (81, 0) else none
  else bif Nat.beq k 9074 then some (82, 0) else none
  else bif Nat.blt k 9092 then bif Nat.blt k 9083 then bif Nat.blt k 9080 then bif Nat.beq k 9077 then some (83, 0) else none
  else bif Nat.beq k 9080 then some (86, 0) else none
  else bif Nat.blt k 9089 then bif Nat.beq k 9083 then some (87, 0) else none
  else bif Nat.beq k 9089 then some (88, 0) else none
  else bif Nat.blt k 9099 then bif Nat.blt k 9096 then bif Nat.beq k 9092 then some (89, 0) else none
  else bif Nat.beq k 9096 then some (90, 0) else none
  else bif Nat.blt k 9102 then bif Nat.beq k 9099 then some (91, 0) else none
  else bif Nat.beq k 9102 then some (93, 0) else none
  else none
def cres (k : Nat) : Option Int32 :=
  bif Nat.blt k 10000 then bif Nat.blt k 7208 then bif Nat.blt k 4077 then bif Nat.blt k 35 then bif Nat.beq k 34 then some (-1000000) else none
  else bif Nat.beq k 35 then some 1000000 else none
  else bif Nat.blt k 5058 then bif Nat.beq k 4077 then some 100000000 else none
  else bif Nat.blt k 6200 then bif Nat.beq k 5058 then some 100000000 else none
  else bif Nat.beq k 6200 then some 100000 else none
  else bif Nat.blt k 9049 then bif Nat.blt k 9042 then bif Nat.beq k 7208 then some 100000000 else none
  else bif Nat.beq k 9042 then some (-2000000098) else none
  else bif Nat.blt k 9073 then bif Nat.beq k 9049 then some (-2000000097) else none
  else bif Nat.blt k 9088 then bif Nat.beq k 9073 then some (-2000000100) else none
  else bif Nat.beq k 9088 then some (-2000000099) else none
  else none
def lres (k : Nat) : Option Int64 :=
  bif Nat.blt k 10000 then bif Nat.beq k 7253 then some 31 else none
  else none
def sres (k : Nat) : Option Nat :=
  bif Nat.blt k 10000 then bif Nat.blt k 6095 then bif Nat.blt k 6081 then bif Nat.beq k 6062 then some 0 else none
  else bif Nat.blt k 6090 then bif Nat.beq k 6081 then some 1 else none
  else bif Nat.beq k 6090 then some 2 else none
  else bif Nat.blt k 6152 then bif Nat.blt k 6100 then bif Nat.beq k 6095 then some 3 else none
  else bif Nat.beq k 6100 then some 4 else none
  else bif Nat.blt k 6157 then bif Nat.beq k 6152 then some 5 else none
  else bif Nat.beq k 6157 then some 6 else none
  else none
def nres (k : Nat) : Nat :=
  bif Nat.blt k 10000 then bif Nat.blt k 6201 then bif Nat.blt k 6184 then bif Nat.blt k 5070 then bif Nat.beq k 1047 then 100 else 0
  else bif Nat.beq k 5070 then 100 else 0
  else bif Nat.blt k 6192 then bif Nat.beq k 6184 then 110 else 0
  else bif Nat.beq k 6192 then 111 else 0
  else bif Nat.blt k 7272 then bif Nat.blt k 7266 then bif Nat.beq k 6201 then 100 else 0
  else bif Nat.beq k 7266 then 102 else 0
  else bif Nat.blt k 7275 then bif Nat.beq k 7272 then 101 else 0
  else bif Nat.blt k 7277 then bif Nat.beq k 7275 then 100 else 0
  else bif Nat.beq k 7277 then 103 else 0
  else 0
def sTxt (k : Nat) : String := ["network", "edge", "ban", "depot", "service", "cost", "demand"].getD k ""
def exN (k : Nat) : String := ["java/lang/IllegalArgumentException", "java/lang/IndexOutOfBoundsException", "java/lang/IllegalStateException", "java/util/NoSuchElementException"].getD k ""
def tres (k : Nat) : Option (Nat × Nat × Nat × String) :=
  bif Nat.blt k 100000 then bif Nat.blt k 17264 then bif Nat.blt k 17164 then bif Nat.blt k 7117 then bif Nat.beq k 7055 then some (53, 57, 0, "the buffer has fewer bytes") else none
  else bif Nat.blt k 7238 then bif Nat.beq k 7117 then some (53, 57, 0, "what is not 0 to 4") else none
  else bif Nat.beq k 7238 then some (53, 57, 0, "most is not 1 to 10") else none
  else bif Nat.blt k 17260 then bif Nat.blt k 17190 then bif Nat.beq k 17164 then some (188, 192, 1, "no such position") else none
  else bif Nat.beq k 17190 then some (188, 192, 1, "no such depot") else none
  else bif Nat.blt k 17262 then bif Nat.beq k 17260 then some (188, 192, 1, "no such edge") else none
  else bif Nat.beq k 17262 then some (188, 192, 1, "no such arc") else none
  else bif Nat.blt k 27209 then bif Nat.blt k 27182 then bif Nat.beq k 17264 then some (188, 192, 1, "no such tour") else none
  else bif Nat.blt k 27193 then bif Nat.beq k 27182 then some (180, 184, 2, "the edge is served or has no demand") else none
  else bif Nat.beq k 27193 then some (180, 184, 2, "there are 4 tours") else none
  else bif Nat.blt k 27223 then bif Nat.blt k 27215 then bif Nat.beq k 27209 then some (180, 184, 2, "the insertion is not possible") else none
  else bif Nat.beq k 27215 then some (180, 184, 2, "the edge is not served") else none
  else bif Nat.blt k 37164 then bif Nat.beq k 27223 then some (180, 184, 2, "the tour would not be drivable") else none
  else bif Nat.beq k 37164 then some (162, 166, 3, "no such position") else none
  else none
