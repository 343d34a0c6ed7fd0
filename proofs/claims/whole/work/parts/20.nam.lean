/-! NAMES: classes and fields as printed (NAMES.whole), methods by number, and the meaning of the pool numbers that the tables use -/
def RX0 : String := "WindyTours$Formula"
def TX0 : u_T := fun k => match k with
  | 0 => ("WindyTours$Formula", "steps", "[I", true)
  | 1 => ("WindyTours$Formula", "stack", "[I", true)
  | _ => ("WindyTours$Formula", "size", "I", false)
def tyX0 : Nat → FieldType := fun k => match k with
  | 0 => .array .int
  | 1 => .array .int
  | _ => .int
abbrev wsX00 : List Cond := u_ws RX0 TX0 3
theorem nmX0 : ∀ a, a < 3 → ∀ b, b < 3 → a ≠ b → (TX0 a).2.1 ≠ (TX0 b).2.1 := by decide +kernel
theorem tyX0_ok : ∀ k, k < 3 → parseFieldDescriptor (TX0 k).2.2.1 = some (tyX0 k) := by decide +kernel
def RX1 : String := "WindyTours$History"
def TX1 : u_T := fun k => match k with
  | 0 => ("WindyTours$History", "networks", "[LWindyTours$Network;", true)
  | 1 => ("WindyTours$History", "plans", "[LWindyTours$Plan;", true)
  | 2 => ("WindyTours$History", "loads", "[Z", true)
  | 3 => ("WindyTours$History", "kept", "I", false)
  | _ => ("WindyTours$History", "next", "I", false)
def tyX1 : Nat → FieldType := fun k => match k with
  | 0 => .array (.object "WindyTours$Network")
  | 1 => .array (.object "WindyTours$Plan")
  | 2 => .array .boolean
  | 3 => .int
  | _ => .int
abbrev wsX10 : List Cond := u_ws RX1 TX1 5
theorem nmX1 : ∀ a, a < 5 → ∀ b, b < 5 → a ≠ b → (TX1 a).2.1 ≠ (TX1 b).2.1 := by decide +kernel
theorem tyX1_ok : ∀ k, k < 5 → parseFieldDescriptor (TX1 k).2.2.1 = some (tyX1 k) := by decide +kernel
def RX2 : String := "WindyTours$Network"
def TX2 : u_T := fun k => match k with
  | 0 => ("WindyTours$Network", "nodes", "I", false)
  | 1 => ("WindyTours$Network", "capacity", "I", false)
  | 2 => ("WindyTours$Network", "edges", "I", false)
  | 3 => ("WindyTours$Network", "depots", "I", false)
  | 4 => ("WindyTours$Network", "starts", "[I", true)
  | 5 => ("WindyTours$Network", "costs", "[I", true)
  | 6 => ("WindyTours$Network", "services", "[I", true)
  | 7 => ("WindyTours$Network", "bans", "[I", true)
  | 8 => ("WindyTours$Network", "demands", "[I", true)
  | _ => ("WindyTours$Network", "depotNodes", "[I", true)
def tyX2 : Nat → FieldType := fun k => match k with
  | 0 => .int
  | 1 => .int
  | 2 => .int
  | 3 => .int
  | 4 => .array .int
  | 5 => .array .int
  | 6 => .array .int
  | 7 => .array .int
  | 8 => .array .int
  | _ => .array .int
abbrev wsX20 : List Cond := u_ws RX2 TX2 10
theorem nmX2 : ∀ a, a < 10 → ∀ b, b < 10 → a ≠ b → (TX2 a).2.1 ≠ (TX2 b).2.1 := by decide +kernel
theorem tyX2_ok : ∀ k, k < 10 → parseFieldDescriptor (TX2 k).2.2.1 = some (tyX2 k) := by decide +kernel
def RX3 : String := "WindyTours$Plan"
def TX3 : u_T := fun k => match k with
  | 0 => ("WindyTours$Plan", "tours", "I", false)
  | 1 => ("WindyTours$Plan", "homes", "[I", true)
  | 2 => ("WindyTours$Plan", "sizes", "[I", true)
  | _ => ("WindyTours$Plan", "arcs", "[I", true)
def tyX3 : Nat → FieldType := fun k => match k with
  | 0 => .int
  | 1 => .array .int
  | 2 => .array .int
  | _ => .array .int
abbrev wsX30 : List Cond := u_ws RX3 TX3 4
theorem nmX3 : ∀ a, a < 4 → ∀ b, b < 4 → a ≠ b → (TX3 a).2.1 ≠ (TX3 b).2.1 := by decide +kernel
theorem tyX3_ok : ∀ k, k < 4 → parseFieldDescriptor (TX3 k).2.2.1 = some (tyX3 k) := by decide +kernel
def RX4 : String := "WindyTours$Planner"
def TX4 : u_T := fun k => match k with
  | 0 => ("WindyTours$Planner", "network", "LWindyTours$Network;", true)
  | 1 => ("WindyTours$Planner", "routes", "LWindyTours$Routes;", true)
  | _ => ("WindyTours$Planner", "plan", "LWindyTours$Plan;", true)
def tyX4 : Nat → FieldType := fun k => match k with
  | 0 => .object "WindyTours$Network"
  | 1 => .object "WindyTours$Routes"
  | _ => .object "WindyTours$Plan"
abbrev wsX40 : List Cond := u_ws RX4 TX4 3
theorem nmX4 : ∀ a, a < 3 → ∀ b, b < 3 → a ≠ b → (TX4 a).2.1 ≠ (TX4 b).2.1 := by decide +kernel
theorem tyX4_ok : ∀ k, k < 3 → parseFieldDescriptor (TX4 k).2.2.1 = some (tyX4 k) := by decide +kernel
def RX5 : String := "WindyTours$Routes"
def TX5 : u_T := fun k => match k with
  | 0 => ("WindyTours$Routes", "deadheads", "[I", true)
  | 1 => ("WindyTours$Routes", "approaches", "[I", true)
  | 2 => ("WindyTours$Routes", "returns", "[I", true)
  | _ => ("WindyTours$Routes", "distances", "[I", true)
def tyX5 : Nat → FieldType := fun k => match k with
  | 0 => .array .int
  | 1 => .array .int
  | 2 => .array .int
  | _ => .array .int
abbrev wsX50 : List Cond := u_ws RX5 TX5 4
theorem nmX5 : ∀ a, a < 4 → ∀ b, b < 4 → a ≠ b → (TX5 a).2.1 ≠ (TX5 b).2.1 := by decide +kernel
theorem tyX5_ok : ∀ k, k < 4 → parseFieldDescriptor (TX5 k).2.2.1 = some (tyX5 k) := by decide +kernel
def RX6 : String := "WindyTours$SetupReader"
def TX6 : u_T := fun k => match k with
  | 0 => ("WindyTours$SetupReader", "text", "[B", true)
  | 1 => ("WindyTours$SetupReader", "network", "LWindyTours$Network;", true)
  | 2 => ("WindyTours$SetupReader", "formula", "LWindyTours$Formula;", true)
  | 3 => ("WindyTours$SetupReader", "buffered", "I", false)
  | 4 => ("WindyTours$SetupReader", "length", "I", false)
  | 5 => ("WindyTours$SetupReader", "start", "I", false)
  | 6 => ("WindyTours$SetupReader", "stop", "I", false)
  | 7 => ("WindyTours$SetupReader", "kind", "I", false)
  | 8 => ("WindyTours$SetupReader", "value", "I", false)
  | 9 => ("WindyTours$SetupReader", "hasService", "Z", false)
  | 10 => ("WindyTours$SetupReader", "error", "I", false)
  | _ => ("WindyTours$SetupReader", "errorAt", "I", false)
def tyX6 : Nat → FieldType := fun k => match k with
  | 0 => .array .byte
  | 1 => .object "WindyTours$Network"
  | 2 => .object "WindyTours$Formula"
  | 3 => .int
  | 4 => .int
  | 5 => .int
  | 6 => .int
  | 7 => .int
  | 8 => .int
  | 9 => .boolean
  | 10 => .int
  | _ => .int
abbrev wsX60 : List Cond := u_ws RX6 TX6 12
theorem nmX6 : ∀ a, a < 12 → ∀ b, b < 12 → a ≠ b → (TX6 a).2.1 ≠ (TX6 b).2.1 := by decide +kernel
theorem tyX6_ok : ∀ k, k < 12 → parseFieldDescriptor (TX6 k).2.2.1 = some (tyX6 k) := by decide +kernel
def RX7 : String := "WindyTours"
def TX7 : u_T := fun k => match k with
  | 0 => ("WindyTours", "reader", "LWindyTours$SetupReader;", true)
  | 1 => ("WindyTours", "planner", "LWindyTours$Planner;", true)
  | 2 => ("WindyTours", "network", "LWindyTours$Network;", true)
  | 3 => ("WindyTours", "routes", "LWindyTours$Routes;", true)
  | 4 => ("WindyTours", "plan", "LWindyTours$Plan;", true)
  | _ => ("WindyTours", "history", "LWindyTours$History;", true)
def tyX7 : Nat → FieldType := fun k => match k with
  | 0 => .object "WindyTours$SetupReader"
  | 1 => .object "WindyTours$Planner"
  | 2 => .object "WindyTours$Network"
  | 3 => .object "WindyTours$Routes"
  | 4 => .object "WindyTours$Plan"
  | _ => .object "WindyTours$History"
abbrev wsX70 : List Cond := u_ws RX7 TX7 6
theorem nmX7 : ∀ a, a < 6 → ∀ b, b < 6 → a ≠ b → (TX7 a).2.1 ≠ (TX7 b).2.1 := by decide +kernel
theorem tyX7_ok : ∀ k, k < 6 → parseFieldDescriptor (TX7 k).2.2.1 = some (tyX7 k) := by decide +kernel
def RX8 : String := "WindyToursModel"
def TX8 : u_T := fun k => match k with
  | 0 => ("WindyToursModel", "thrown", "I", false)
  | 1 => ("WindyToursModel", "buffer", "[I", true)
  | 2 => ("WindyToursModel", "bufferLength", "I", false)
  | 3 => ("WindyToursModel", "textLength", "I", false)
  | 4 => ("WindyToursModel", "position", "I", false)
  | 5 => ("WindyToursModel", "error", "I", false)
  | 6 => ("WindyToursModel", "errorAt", "I", false)
  | 7 => ("WindyToursModel", "errorOffset", "I", false)
  | 8 => ("WindyToursModel", "data", "[I", true)
  | 9 => ("WindyToursModel", "draft", "[I", true)
  | 10 => ("WindyToursModel", "kept", "[I", true)
  | 11 => ("WindyToursModel", "history", "[[I", true)
  | 12 => ("WindyToursModel", "undoDepth", "I", false)
  | 13 => ("WindyToursModel", "numberStart", "I", false)
  | 14 => ("WindyToursModel", "nesting", "I", false)
  | 15 => ("WindyToursModel", "seen", "I", false)
  | 16 => ("WindyToursModel", "gaps", "[[I", true)
  | _ => ("WindyToursModel", "stack", "[J", true)
def tyX8 : Nat → FieldType := fun k => match k with
  | 0 => .int
  | 1 => .array .int
  | 2 => .int
  | 3 => .int
  | 4 => .int
  | 5 => .int
  | 6 => .int
  | 7 => .int
  | 8 => .array .int
  | 9 => .array .int
  | 10 => .array .int
  | 11 => .array (.array .int)
  | 12 => .int
  | 13 => .int
  | 14 => .int
  | 15 => .int
  | 16 => .array (.array .int)
  | _ => .array .long
abbrev wsX80 : List Cond := u_ws RX8 TX8 18
theorem nmX8 : ∀ a, a < 18 → ∀ b, b < 18 → a ≠ b → (TX8 a).2.1 ≠ (TX8 b).2.1 := by decide +kernel
theorem tyX8_ok : ∀ k, k < 18 → parseFieldDescriptor (TX8 k).2.2.1 = some (tyX8 k) := by decide +kernel
def RL : String := "WindyToursLaw"
abbrev vwCl : List vw_C := [(RX0, TX0, 3), (RX1, TX1, 5), (RX2, TX2, 10), (RX3, TX3, 4), (RX4, TX4, 3), (RX5, TX5, 4), (RX6, TX6, 12), (RX7, TX7, 6), (RX8, TX8, 18)]
def ownN (k : Nat) : String :=
  bif Nat.blt k 5 then bif Nat.blt k 2 then bif Nat.blt k 1 then bif Nat.beq k 0 then RX0 else ""
  else bif Nat.beq k 1 then RX1 else ""
  else bif Nat.blt k 3 then bif Nat.beq k 2 then RX2 else ""
  else bif Nat.blt k 4 then bif Nat.beq k 3 then RX3 else ""
  else bif Nat.beq k 4 then RX4 else ""
  else bif Nat.blt k 7 then bif Nat.blt k 6 then bif Nat.beq k 5 then RX5 else ""
  else bif Nat.beq k 6 then RX6 else ""
  else bif Nat.blt k 8 then bif Nat.beq k 7 then RX7 else ""
  else bif Nat.blt k 9 then bif Nat.beq k 8 then RX8 else ""
  else bif Nat.beq k 9 then RL else ""
def clsOf (k : Nat) : Nat :=
  bif Nat.blt k 111 then bif Nat.blt k 55 then bif Nat.blt k 27 then bif Nat.blt k 13 then bif Nat.blt k 6 then bif Nat.blt k 3 then bif Nat.blt k 1 then bif Nat.beq k 0 then 0 else 0
  else bif Nat.blt k 2 then bif Nat.beq k 1 then 0 else 0
  else bif Nat.beq k 2 then 0 else 0
  else bif Nat.blt k 4 then bif Nat.beq k 3 then 0 else 0
  else bif Nat.blt k 5 then bif Nat.beq k 4 then 0 else 0
  else bif Nat.beq k 5 then 1 else 0
  else bif Nat.blt k 9 then bif Nat.blt k 7 then bif Nat.beq k 6 then 1 else 0
  else bif Nat.blt k 8 then bif Nat.beq k 7 then 1 else 0
  else bif Nat.beq k 8 then 2 else 0
  else bif Nat.blt k 11 then bif Nat.blt k 10 then bif Nat.beq k 9 then 2 else 0
  else bif Nat.beq k 10 then 2 else 0
  else bif Nat.blt k 12 then bif Nat.beq k 11 then 2 else 0
  else bif Nat.beq k 12 then 2 else 0
  else bif Nat.blt k 20 then bif Nat.blt k 16 then bif Nat.blt k 14 then bif Nat.beq k 13 then 2 else 0
  else bif Nat.blt k 15 then bif Nat.beq k 14 then 2 else 0
  else bif Nat.beq k 15 then 2 else 0
  else bif Nat.blt k 18 then bif Nat.blt k 17 then bif Nat.beq k 16 then 2 else 0
  else bif Nat.beq k 17 then 2 else 0
  else bif Nat.blt k 19 then bif Nat.beq k 18 then 2 else 0
  else bif Nat.beq k 19 then 3 else 0
  else bif Nat.blt k 23 then bif Nat.blt k 21 then bif Nat.beq k 20 then 3 else 0
  else bif Nat.blt k 22 then bif Nat.beq k 21 then 3 else 0
  else bif Nat.beq k 22 then 3 else 0
  else bif Nat.blt k 25 then bif Nat.blt k 24 then bif Nat.beq k 23 then 3 else 0
  else bif Nat.beq k 24 then 3 else 0
  else bif Nat.blt k 26 then bif Nat.beq k 25 then 3 else 0
  else bif Nat.beq k 26 then 3 else 0
  else bif Nat.blt k 41 then bif Nat.blt k 34 then bif Nat.blt k 30 then bif Nat.blt k 28 then bif Nat.beq k 27 then 3 else 0
  else bif Nat.blt k 29 then bif Nat.beq k 28 then 4 else 0
  else bif Nat.beq k 29 then 4 else 0
  else bif Nat.blt k 32 then bif Nat.blt k 31 then bif Nat.beq k 30 then 4 else 0
  else bif Nat.beq k 31 then 4 else 0
  else bif Nat.blt k 33 then bif Nat.beq k 32 then 4 else 0
  else bif Nat.beq k 33 then 4 else 0
  else bif Nat.blt k 37 then bif Nat.blt k 35 then bif Nat.beq k 34 then 4 else 0
  else bif Nat.blt k 36 then bif Nat.beq k 35 then 4 else 0
  else bif Nat.beq k 36 then 4 else 0
  else bif Nat.blt k 39 then bif Nat.blt k 38 then bif Nat.beq k 37 then 4 else 0
  else bif Nat.beq k 38 then 4 else 0
  else bif Nat.blt k 40 then bif Nat.beq k 39 then 4 else 0
  else bif Nat.beq k 40 then 4 else 0
  else bif Nat.blt k 48 then bif Nat.blt k 44 then bif Nat.blt k 42 then bif Nat.beq k 41 then 5 else 0
  else bif Nat.blt k 43 then bif Nat.beq k 42 then 5 else 0
  else bif Nat.beq k 43 then 5 else 0
  else bif Nat.blt k 46 then bif Nat.blt k 45 then bif Nat.beq k 44 then 5 else 0
  else bif Nat.beq k 45 then 5 else 0
  else bif Nat.blt k 47 then bif Nat.beq k 46 then 5 else 0
  else bif Nat.beq k 47 then 5 else 0
  else bif Nat.blt k 51 then bif Nat.blt k 49 then bif Nat.beq k 48 then 5 else 0
  else bif Nat.blt k 50 then bif Nat.beq k 49 then 6 else 0
  else bif Nat.beq k 50 then 6 else 0
  else bif Nat.blt k 53 then bif Nat.blt k 52 then bif Nat.beq k 51 then 6 else 0
  else bif Nat.beq k 52 then 6 else 0
  else bif Nat.blt k 54 then bif Nat.beq k 53 then 6 else 0
  else bif Nat.beq k 54 then 6 else 0
  else bif Nat.blt k 83 then bif Nat.blt k 69 then bif Nat.blt k 62 then bif Nat.blt k 58 then bif Nat.blt k 56 then bif Nat.beq k 55 then 6 else 0
  else bif Nat.blt k 57 then bif Nat.beq k 56 then 6 else 0
  else bif Nat.beq k 57 then 6 else 0
  else bif Nat.blt k 60 then bif Nat.blt k 59 then bif Nat.beq k 58 then 6 else 0
  else bif Nat.beq k 59 then 6 else 0
  else bif Nat.blt k 61 then bif Nat.beq k 60 then 6 else 0
  else bif Nat.beq k 61 then 6 else 0
  else bif Nat.blt k 65 then bif Nat.blt k 63 then bif Nat.beq k 62 then 6 else 0
  else bif Nat.blt k 64 then bif Nat.beq k 63 then 6 else 0
  else bif Nat.beq k 64 then 6 else 0
  else bif Nat.blt k 67 then bif Nat.blt k 66 then bif Nat.beq k 65 then 6 else 0
  else bif Nat.beq k 66 then 6 else 0
  else bif Nat.blt k 68 then bif Nat.beq k 67 then 6 else 0
  else bif Nat.beq k 68 then 6 else 0
  else bif Nat.blt k 76 then bif Nat.blt k 72 then bif Nat.blt k 70 then bif Nat.beq k 69 then 7 else 0
  else bif Nat.blt k 71 then bif Nat.beq k 70 then 7 else 0
  else bif Nat.beq k 71 then 7 else 0
  else bif Nat.blt k 74 then bif Nat.blt k 73 then bif Nat.beq k 72 then 7 else 0
  else bif Nat.beq k 73 then 7 else 0
  else bif Nat.blt k 75 then bif Nat.beq k 74 then 7 else 0
  else bif Nat.beq k 75 then 7 else 0
  else bif Nat.blt k 79 then bif Nat.blt k 77 then bif Nat.beq k 76 then 7 else 0
  else bif Nat.blt k 78 then bif Nat.beq k 77 then 7 else 0
  else bif Nat.beq k 78 then 7 else 0
  else bif Nat.blt k 81 then bif Nat.blt k 80 then bif Nat.beq k 79 then 7 else 0
  else bif Nat.beq k 80 then 7 else 0
  else bif Nat.blt k 82 then bif Nat.beq k 81 then 7 else 0
  else bif Nat.beq k 82 then 7 else 0
  else bif Nat.blt k 97 then bif Nat.blt k 90 then bif Nat.blt k 86 then bif Nat.blt k 84 then bif Nat.beq k 83 then 7 else 0
  else bif Nat.blt k 85 then bif Nat.beq k 84 then 7 else 0
  else bif Nat.beq k 85 then 7 else 0
  else bif Nat.blt k 88 then bif Nat.blt k 87 then bif Nat.beq k 86 then 7 else 0
  else bif Nat.beq k 87 then 7 else 0
  else bif Nat.blt k 89 then bif Nat.beq k 88 then 7 else 0
  else bif Nat.beq k 89 then 7 else 0
  else bif Nat.blt k 93 then bif Nat.blt k 91 then bif Nat.beq k 90 then 7 else 0
  else bif Nat.blt k 92 then bif Nat.beq k 91 then 7 else 0
  else bif Nat.beq k 92 then 7 else 0
  else bif Nat.blt k 95 then bif Nat.blt k 94 then bif Nat.beq k 93 then 7 else 0
  else bif Nat.beq k 94 then 7 else 0
  else bif Nat.blt k 96 then bif Nat.beq k 95 then 7 else 0
  else bif Nat.beq k 96 then 7 else 0
  else bif Nat.blt k 104 then bif Nat.blt k 100 then bif Nat.blt k 98 then bif Nat.beq k 97 then 7 else 0
  else bif Nat.blt k 99 then bif Nat.beq k 98 then 7 else 0
  else bif Nat.beq k 99 then 7 else 0
  else bif Nat.blt k 102 then bif Nat.blt k 101 then bif Nat.beq k 100 then 7 else 0
  else bif Nat.beq k 101 then 7 else 0
  else bif Nat.blt k 103 then bif Nat.beq k 102 then 7 else 0
  else bif Nat.beq k 103 then 7 else 0
  else bif Nat.blt k 107 then bif Nat.blt k 105 then bif Nat.beq k 104 then 7 else 0
  else bif Nat.blt k 106 then bif Nat.beq k 105 then 7 else 0
  else bif Nat.beq k 106 then 7 else 0
  else bif Nat.blt k 109 then bif Nat.blt k 108 then bif Nat.beq k 107 then 7 else 0
  else bif Nat.beq k 108 then 7 else 0
  else bif Nat.blt k 110 then bif Nat.beq k 109 then 8 else 0
  else bif Nat.beq k 110 then 8 else 0
  else bif Nat.blt k 166 then bif Nat.blt k 138 then bif Nat.blt k 124 then bif Nat.blt k 117 then bif Nat.blt k 114 then bif Nat.blt k 112 then bif Nat.beq k 111 then 8 else 0
  else bif Nat.blt k 113 then bif Nat.beq k 112 then 8 else 0
  else bif Nat.beq k 113 then 8 else 0
  else bif Nat.blt k 115 then bif Nat.beq k 114 then 8 else 0
  else bif Nat.blt k 116 then bif Nat.beq k 115 then 8 else 0
  else bif Nat.beq k 116 then 8 else 0
  else bif Nat.blt k 120 then bif Nat.blt k 118 then bif Nat.beq k 117 then 8 else 0
  else bif Nat.blt k 119 then bif Nat.beq k 118 then 8 else 0
  else bif Nat.beq k 119 then 8 else 0
  else bif Nat.blt k 122 then bif Nat.blt k 121 then bif Nat.beq k 120 then 8 else 0
  else bif Nat.beq k 121 then 8 else 0
  else bif Nat.blt k 123 then bif Nat.beq k 122 then 8 else 0
  else bif Nat.beq k 123 then 8 else 0
  else bif Nat.blt k 131 then bif Nat.blt k 127 then bif Nat.blt k 125 then bif Nat.beq k 124 then 8 else 0
  else bif Nat.blt k 126 then bif Nat.beq k 125 then 8 else 0
  else bif Nat.beq k 126 then 8 else 0
  else bif Nat.blt k 129 then bif Nat.blt k 128 then bif Nat.beq k 127 then 8 else 0
  else bif Nat.beq k 128 then 8 else 0
  else bif Nat.blt k 130 then bif Nat.beq k 129 then 8 else 0
  else bif Nat.beq k 130 then 8 else 0
  else bif Nat.blt k 134 then bif Nat.blt k 132 then bif Nat.beq k 131 then 8 else 0
  else bif Nat.blt k 133 then bif Nat.beq k 132 then 8 else 0
  else bif Nat.beq k 133 then 8 else 0
  else bif Nat.blt k 136 then bif Nat.blt k 135 then bif Nat.beq k 134 then 8 else 0
  else bif Nat.beq k 135 then 8 else 0
  else bif Nat.blt k 137 then bif Nat.beq k 136 then 8 else 0
  else bif Nat.beq k 137 then 8 else 0
  else bif Nat.blt k 152 then bif Nat.blt k 145 then bif Nat.blt k 141 then bif Nat.blt k 139 then bif Nat.beq k 138 then 8 else 0
  else bif Nat.blt k 140 then bif Nat.beq k 139 then 8 else 0
  else bif Nat.beq k 140 then 8 else 0
  else bif Nat.blt k 143 then bif Nat.blt k 142 then bif Nat.beq k 141 then 8 else 0
  else bif Nat.beq k 142 then 8 else 0
  else bif Nat.blt k 144 then bif Nat.beq k 143 then 8 else 0
  else bif Nat.beq k 144 then 8 else 0
  else bif Nat.blt k 148 then bif Nat.blt k 146 then bif Nat.beq k 145 then 8 else 0
  else bif Nat.blt k 147 then bif Nat.beq k 146 then 8 else 0
  else bif Nat.beq k 147 then 8 else 0
  else bif Nat.blt k 150 then bif Nat.blt k 149 then bif Nat.beq k 148 then 8 else 0
  else bif Nat.beq k 149 then 8 else 0
  else bif Nat.blt k 151 then bif Nat.beq k 150 then 8 else 0
  else bif Nat.beq k 151 then 8 else 0
  else bif Nat.blt k 159 then bif Nat.blt k 155 then bif Nat.blt k 153 then bif Nat.beq k 152 then 8 else 0
  else bif Nat.blt k 154 then bif Nat.beq k 153 then 8 else 0
  else bif Nat.beq k 154 then 8 else 0
  else bif Nat.blt k 157 then bif Nat.blt k 156 then bif Nat.beq k 155 then 8 else 0
  else bif Nat.beq k 156 then 8 else 0
  else bif Nat.blt k 158 then bif Nat.beq k 157 then 8 else 0
  else bif Nat.beq k 158 then 8 else 0
  else bif Nat.blt k 162 then bif Nat.blt k 160 then bif Nat.beq k 159 then 8 else 0
  else bif Nat.blt k 161 then bif Nat.beq k 160 then 8 else 0
  else bif Nat.beq k 161 then 8 else 0
  else bif Nat.blt k 164 then bif Nat.blt k 163 then bif Nat.beq k 162 then 8 else 0
  else bif Nat.beq k 163 then 8 else 0
  else bif Nat.blt k 165 then bif Nat.beq k 164 then 8 else 0
  else bif Nat.beq k 165 then 8 else 0
  else bif Nat.blt k 194 then bif Nat.blt k 180 then bif Nat.blt k 173 then bif Nat.blt k 169 then bif Nat.blt k 167 then bif Nat.beq k 166 then 8 else 0
  else bif Nat.blt k 168 then bif Nat.beq k 167 then 8 else 0
  else bif Nat.beq k 168 then 8 else 0
  else bif Nat.blt k 171 then bif Nat.blt k 170 then bif Nat.beq k 169 then 8 else 0
  else bif Nat.beq k 170 then 8 else 0
  else bif Nat.blt k 172 then bif Nat.beq k 171 then 8 else 0
  else bif Nat.beq k 172 then 8 else 0
  else bif Nat.blt k 176 then bif Nat.blt k 174 then bif Nat.beq k 173 then 8 else 0
  else bif Nat.blt k 175 then bif Nat.beq k 174 then 8 else 0
  else bif Nat.beq k 175 then 8 else 0
  else bif Nat.blt k 178 then bif Nat.blt k 177 then bif Nat.beq k 176 then 8 else 0
  else bif Nat.beq k 177 then 8 else 0
  else bif Nat.blt k 179 then bif Nat.beq k 178 then 8 else 0
  else bif Nat.beq k 179 then 8 else 0
  else bif Nat.blt k 187 then bif Nat.blt k 183 then bif Nat.blt k 181 then bif Nat.beq k 180 then 8 else 0
  else bif Nat.blt k 182 then bif Nat.beq k 181 then 8 else 0
  else bif Nat.beq k 182 then 8 else 0
  else bif Nat.blt k 185 then bif Nat.blt k 184 then bif Nat.beq k 183 then 8 else 0
  else bif Nat.beq k 184 then 8 else 0
  else bif Nat.blt k 186 then bif Nat.beq k 185 then 8 else 0
  else bif Nat.beq k 186 then 8 else 0
  else bif Nat.blt k 190 then bif Nat.blt k 188 then bif Nat.beq k 187 then 8 else 0
  else bif Nat.blt k 189 then bif Nat.beq k 188 then 8 else 0
  else bif Nat.beq k 189 then 8 else 0
  else bif Nat.blt k 192 then bif Nat.blt k 191 then bif Nat.beq k 190 then 8 else 0
  else bif Nat.beq k 191 then 8 else 0
  else bif Nat.blt k 193 then bif Nat.beq k 192 then 8 else 0
  else bif Nat.beq k 193 then 8 else 0
  else bif Nat.blt k 208 then bif Nat.blt k 201 then bif Nat.blt k 197 then bif Nat.blt k 195 then bif Nat.beq k 194 then 8 else 0
  else bif Nat.blt k 196 then bif Nat.beq k 195 then 8 else 0
  else bif Nat.beq k 196 then 8 else 0
  else bif Nat.blt k 199 then bif Nat.blt k 198 then bif Nat.beq k 197 then 8 else 0
  else bif Nat.beq k 198 then 8 else 0
  else bif Nat.blt k 200 then bif Nat.beq k 199 then 8 else 0
  else bif Nat.beq k 200 then 8 else 0
  else bif Nat.blt k 204 then bif Nat.blt k 202 then bif Nat.beq k 201 then 8 else 0
  else bif Nat.blt k 203 then bif Nat.beq k 202 then 8 else 0
  else bif Nat.beq k 203 then 9 else 0
  else bif Nat.blt k 206 then bif Nat.blt k 205 then bif Nat.beq k 204 then 9 else 0
  else bif Nat.beq k 205 then 9 else 0
  else bif Nat.blt k 207 then bif Nat.beq k 206 then 9 else 0
  else bif Nat.beq k 207 then 9 else 0
  else bif Nat.blt k 215 then bif Nat.blt k 211 then bif Nat.blt k 209 then bif Nat.beq k 208 then 9 else 0
  else bif Nat.blt k 210 then bif Nat.beq k 209 then 9 else 0
  else bif Nat.beq k 210 then 9 else 0
  else bif Nat.blt k 213 then bif Nat.blt k 212 then bif Nat.beq k 211 then 9 else 0
  else bif Nat.beq k 212 then 9 else 0
  else bif Nat.blt k 214 then bif Nat.beq k 213 then 9 else 0
  else bif Nat.beq k 214 then 9 else 0
  else bif Nat.blt k 218 then bif Nat.blt k 216 then bif Nat.beq k 215 then 9 else 0
  else bif Nat.blt k 217 then bif Nat.beq k 216 then 9 else 0
  else bif Nat.beq k 217 then 9 else 0
  else bif Nat.blt k 220 then bif Nat.blt k 219 then bif Nat.beq k 218 then 9 else 0
  else bif Nat.beq k 219 then 9 else 0
  else bif Nat.blt k 221 then bif Nat.beq k 220 then 9 else 0
  else bif Nat.beq k 221 then 9 else 0
def yOf (k : Nat) : MethodName :=
  bif Nat.blt k 111 then bif Nat.blt k 55 then bif Nat.blt k 27 then bif Nat.blt k 13 then bif Nat.blt k 6 then bif Nat.blt k 3 then bif Nat.blt k 1 then bif Nat.beq k 0 then ⟨RX0, "clear", "()V"⟩ else ⟨"", "", ""⟩
  else bif Nat.blt k 2 then bif Nat.beq k 1 then ⟨RX0, "addOperand", "(I)V"⟩ else ⟨"", "", ""⟩
  else bif Nat.beq k 2 then ⟨RX0, "addOperator", "(I)V"⟩ else ⟨"", "", ""⟩
  else bif Nat.blt k 4 then bif Nat.beq k 3 then ⟨RX0, "valueFor", "(II)I"⟩ else ⟨"", "", ""⟩
  else bif Nat.blt k 5 then bif Nat.beq k 4 then ⟨RX0, "applied", "(IJJ)I"⟩ else ⟨"", "", ""⟩
  else bif Nat.beq k 5 then ⟨RX1, "isReady", "(I)Z"⟩ else ⟨"", "", ""⟩
  else bif Nat.blt k 9 then bif Nat.blt k 7 then bif Nat.beq k 6 then ⟨RX1, "remember", "(LWindyTours$Network;LWindyTours$Plan;Z)V"⟩ else ⟨"", "", ""⟩
  else bif Nat.blt k 8 then bif Nat.beq k 7 then ⟨RX1, "restore", "(LWindyTours$Network;LWindyTours$Plan;)Z"⟩ else ⟨"", "", ""⟩
  else bif Nat.beq k 8 then ⟨RX2, "clear", "()V"⟩ else ⟨"", "", ""⟩
  else bif Nat.blt k 11 then bif Nat.blt k 10 then bif Nat.beq k 9 then ⟨RX2, "copyFrom", "(LWindyTours$Network;)V"⟩ else ⟨"", "", ""⟩
  else bif Nat.beq k 10 then ⟨RX2, "addEdge", "(IIIII)V"⟩ else ⟨"", "", ""⟩
  else bif Nat.blt k 12 then bif Nat.beq k 11 then ⟨RX2, "putArc", "(III)V"⟩ else ⟨"", "", ""⟩
  else bif Nat.beq k 12 then ⟨RX2, "addDepot", "(I)V"⟩ else ⟨"", "", ""⟩
  else bif Nat.blt k 20 then bif Nat.blt k 16 then bif Nat.blt k 14 then bif Nat.beq k 13 then ⟨RX2, "banTurn", "(III)V"⟩ else ⟨"", "", ""⟩
  else bif Nat.blt k 15 then bif Nat.beq k 14 then ⟨RX2, "start", "(I)I"⟩ else ⟨"", "", ""⟩
  else bif Nat.beq k 15 then ⟨RX2, "end", "(I)I"⟩ else ⟨"", "", ""⟩
  else bif Nat.blt k 18 then bif Nat.blt k 17 then bif Nat.beq k 16 then ⟨RX2, "touches", "(II)Z"⟩ else ⟨"", "", ""⟩
  else bif Nat.beq k 17 then ⟨RX2, "allowsTurn", "(II)Z"⟩ else ⟨"", "", ""⟩
  else bif Nat.blt k 19 then bif Nat.beq k 18 then ⟨RX2, "oddSet", "()I"⟩ else ⟨"", "", ""⟩
  else bif Nat.beq k 19 then ⟨RX3, "clear", "()V"⟩ else ⟨"", "", ""⟩
  else bif Nat.blt k 23 then bif Nat.blt k 21 then bif Nat.beq k 20 then ⟨RX3, "copyFrom", "(LWindyTours$Plan;)V"⟩ else ⟨"", "", ""⟩
  else bif Nat.blt k 22 then bif Nat.beq k 21 then ⟨RX3, "addTour", "(I)I"⟩ else ⟨"", "", ""⟩
  else bif Nat.beq k 22 then ⟨RX3, "arcOrDepot", "(II)I"⟩ else ⟨"", "", ""⟩
  else bif Nat.blt k 25 then bif Nat.blt k 24 then bif Nat.beq k 23 then ⟨RX3, "tourServing", "(I)I"⟩ else ⟨"", "", ""⟩
  else bif Nat.beq k 24 then ⟨RX3, "positionIn", "(II)I"⟩ else ⟨"", "", ""⟩
  else bif Nat.blt k 26 then bif Nat.beq k 25 then ⟨RX3, "putIn", "(III)V"⟩ else ⟨"", "", ""⟩
  else bif Nat.beq k 26 then ⟨RX3, "takeOut", "(II)V"⟩ else ⟨"", "", ""⟩
  else bif Nat.blt k 41 then bif Nat.blt k 34 then bif Nat.blt k 30 then bif Nat.blt k 28 then bif Nat.beq k 27 then ⟨RX3, "turnRound", "(II)V"⟩ else ⟨"", "", ""⟩
  else bif Nat.blt k 29 then bif Nat.beq k 28 then ⟨RX4, "isWaiting", "(I)Z"⟩ else ⟨"", "", ""⟩
  else bif Nat.beq k 29 then ⟨RX4, "demandIn", "(I)I"⟩ else ⟨"", "", ""⟩
  else bif Nat.blt k 32 then bif Nat.blt k 31 then bif Nat.beq k 30 then ⟨RX4, "hasRoom", "(II)Z"⟩ else ⟨"", "", ""⟩
  else bif Nat.beq k 31 then ⟨RX4, "link", "(III)I"⟩ else ⟨"", "", ""⟩
  else bif Nat.blt k 33 then bif Nat.beq k 32 then ⟨RX4, "costOf", "(I)I"⟩ else ⟨"", "", ""⟩
  else bif Nat.beq k 33 then ⟨RX4, "increaseBy", "(III)I"⟩ else ⟨"", "", ""⟩
  else bif Nat.blt k 37 then bif Nat.blt k 35 then bif Nat.beq k 34 then ⟨RX4, "canSpare", "(II)Z"⟩ else ⟨"", "", ""⟩
  else bif Nat.blt k 36 then bif Nat.beq k 35 then ⟨RX4, "canTurn", "(II)Z"⟩ else ⟨"", "", ""⟩
  else bif Nat.beq k 36 then ⟨RX4, "bestPlace", "(I)I"⟩ else ⟨"", "", ""⟩
  else bif Nat.blt k 39 then bif Nat.blt k 38 then bif Nat.beq k 37 then ⟨RX4, "increaseAt", "(II)I"⟩ else ⟨"", "", ""⟩
  else bif Nat.beq k 38 then ⟨RX4, "insertBest", "(I)Z"⟩ else ⟨"", "", ""⟩
  else bif Nat.blt k 40 then bif Nat.beq k 39 then ⟨RX4, "gainOf", "(I)I"⟩ else ⟨"", "", ""⟩
  else bif Nat.beq k 40 then ⟨RX4, "makeBestChange", "()I"⟩ else ⟨"", "", ""⟩
  else bif Nat.blt k 48 then bif Nat.blt k 44 then bif Nat.blt k 42 then bif Nat.beq k 41 then ⟨RX5, "explore", "(LWindyTours$Network;)V"⟩ else ⟨"", "", ""⟩
  else bif Nat.blt k 43 then bif Nat.beq k 42 then ⟨RX5, "markTurns", "(LWindyTours$Network;)V"⟩ else ⟨"", "", ""⟩
  else bif Nat.beq k 43 then ⟨RX5, "findDeadheads", "(LWindyTours$Network;)V"⟩ else ⟨"", "", ""⟩
  else bif Nat.blt k 46 then bif Nat.blt k 45 then bif Nat.beq k 44 then ⟨RX5, "approach", "(LWindyTours$Network;II)I"⟩ else ⟨"", "", ""⟩
  else bif Nat.beq k 45 then ⟨RX5, "returnTo", "(LWindyTours$Network;II)I"⟩ else ⟨"", "", ""⟩
  else bif Nat.blt k 47 then bif Nat.beq k 46 then ⟨RX5, "between", "(LWindyTours$Network;II)I"⟩ else ⟨"", "", ""⟩
  else bif Nat.beq k 47 then ⟨RX5, "cheapestPairs", "([III)I"⟩ else ⟨"", "", ""⟩
  else bif Nat.blt k 51 then bif Nat.blt k 49 then bif Nat.beq k 48 then ⟨RX5, "lowestIn", "(I)I"⟩ else ⟨"", "", ""⟩
  else bif Nat.blt k 50 then bif Nat.beq k 49 then ⟨RX6, "addWord", "(I)V"⟩ else ⟨"", "", ""⟩
  else bif Nat.beq k 50 then ⟨RX6, "readSetup", "(I)I"⟩ else ⟨"", "", ""⟩
  else bif Nat.blt k 53 then bif Nat.blt k 52 then bif Nat.beq k 51 then ⟨RX6, "startOver", "(I)V"⟩ else ⟨"", "", ""⟩
  else bif Nat.beq k 52 then ⟨RX6, "readEdge", "()V"⟩ else ⟨"", "", ""⟩
  else bif Nat.blt k 54 then bif Nat.beq k 53 then ⟨RX6, "readBan", "()V"⟩ else ⟨"", "", ""⟩
  else bif Nat.beq k 54 then ⟨RX6, "takeEdgeAt", "(I)I"⟩ else ⟨"", "", ""⟩
  else bif Nat.blt k 83 then bif Nat.blt k 69 then bif Nat.blt k 62 then bif Nat.blt k 58 then bif Nat.blt k 56 then bif Nat.beq k 55 then ⟨RX6, "readDepot", "()V"⟩ else ⟨"", "", ""⟩
  else bif Nat.blt k 57 then bif Nat.beq k 56 then ⟨RX6, "readSum", "(I)V"⟩ else ⟨"", "", ""⟩
  else bif Nat.beq k 57 then ⟨RX6, "readTerm", "(I)V"⟩ else ⟨"", "", ""⟩
  else bif Nat.blt k 60 then bif Nat.blt k 59 then bif Nat.beq k 58 then ⟨RX6, "readFactor", "(I)V"⟩ else ⟨"", "", ""⟩
  else bif Nat.beq k 59 then ⟨RX6, "priceServices", "()V"⟩ else ⟨"", "", ""⟩
  else bif Nat.blt k 61 then bif Nat.beq k 60 then ⟨RX6, "fail", "(I)V"⟩ else ⟨"", "", ""⟩
  else bif Nat.beq k 61 then ⟨RX6, "takeNumber", "(II)I"⟩ else ⟨"", "", ""⟩
  else bif Nat.blt k 65 then bif Nat.blt k 63 then bif Nat.beq k 62 then ⟨RX6, "takeWord", "(Ljava/lang/String;)V"⟩ else ⟨"", "", ""⟩
  else bif Nat.blt k 64 then bif Nat.beq k 63 then ⟨RX6, "takeSign", "(C)V"⟩ else ⟨"", "", ""⟩
  else bif Nat.beq k 64 then ⟨RX6, "isWord", "(Ljava/lang/String;)Z"⟩ else ⟨"", "", ""⟩
  else bif Nat.blt k 67 then bif Nat.blt k 66 then bif Nat.beq k 65 then ⟨RX6, "next", "()V"⟩ else ⟨"", "", ""⟩
  else bif Nat.beq k 66 then ⟨RX6, "byteAt", "(I)I"⟩ else ⟨"", "", ""⟩
  else bif Nat.blt k 68 then bif Nat.beq k 67 then ⟨RX6, "isDigit", "(I)Z"⟩ else ⟨"", "", ""⟩
  else bif Nat.beq k 68 then ⟨RX6, "isLetter", "(I)Z"⟩ else ⟨"", "", ""⟩
  else bif Nat.blt k 76 then bif Nat.blt k 72 then bif Nat.blt k 70 then bif Nat.beq k 69 then ⟨RX7, "append", "(IIIII)I"⟩ else ⟨"", "", ""⟩
  else bif Nat.blt k 71 then bif Nat.beq k 70 then ⟨RX7, "load", "(I)I"⟩ else ⟨"", "", ""⟩
  else bif Nat.beq k 71 then ⟨RX7, "errorOffset", "()I"⟩ else ⟨"", "", ""⟩
  else bif Nat.blt k 74 then bif Nat.blt k 73 then bif Nat.beq k 72 then ⟨RX7, "nodeCount", "()I"⟩ else ⟨"", "", ""⟩
  else bif Nat.beq k 73 then ⟨RX7, "edgeCount", "()I"⟩ else ⟨"", "", ""⟩
  else bif Nat.blt k 75 then bif Nat.beq k 74 then ⟨RX7, "depotCount", "()I"⟩ else ⟨"", "", ""⟩
  else bif Nat.beq k 75 then ⟨RX7, "tourCount", "()I"⟩ else ⟨"", "", ""⟩
  else bif Nat.blt k 79 then bif Nat.blt k 77 then bif Nat.beq k 76 then ⟨RX7, "edge", "(II)I"⟩ else ⟨"", "", ""⟩
  else bif Nat.blt k 78 then bif Nat.beq k 77 then ⟨RX7, "mayFollow", "(II)Z"⟩ else ⟨"", "", ""⟩
  else bif Nat.beq k 78 then ⟨RX7, "deadhead", "(II)I"⟩ else ⟨"", "", ""⟩
  else bif Nat.blt k 81 then bif Nat.blt k 80 then bif Nat.beq k 79 then ⟨RX7, "distance", "(II)I"⟩ else ⟨"", "", ""⟩
  else bif Nat.beq k 80 then ⟨RX7, "serviceCost", "(I)I"⟩ else ⟨"", "", ""⟩
  else bif Nat.blt k 82 then bif Nat.beq k 81 then ⟨RX7, "oddNodes", "()I"⟩ else ⟨"", "", ""⟩
  else bif Nat.beq k 82 then ⟨RX7, "matching", "()I"⟩ else ⟨"", "", ""⟩
  else bif Nat.blt k 97 then bif Nat.blt k 90 then bif Nat.blt k 86 then bif Nat.blt k 84 then bif Nat.beq k 83 then ⟨RX7, "depotOf", "(I)I"⟩ else ⟨"", "", ""⟩
  else bif Nat.blt k 85 then bif Nat.beq k 84 then ⟨RX7, "length", "(I)I"⟩ else ⟨"", "", ""⟩
  else bif Nat.beq k 85 then ⟨RX7, "arcAt", "(II)I"⟩ else ⟨"", "", ""⟩
  else bif Nat.blt k 88 then bif Nat.blt k 87 then bif Nat.beq k 86 then ⟨RX7, "loadOf", "(I)I"⟩ else ⟨"", "", ""⟩
  else bif Nat.beq k 87 then ⟨RX7, "tourCost", "(I)I"⟩ else ⟨"", "", ""⟩
  else bif Nat.blt k 89 then bif Nat.beq k 88 then ⟨RX7, "totalCost", "()I"⟩ else ⟨"", "", ""⟩
  else bif Nat.beq k 89 then ⟨RX7, "unserved", "()I"⟩ else ⟨"", "", ""⟩
  else bif Nat.blt k 93 then bif Nat.blt k 91 then bif Nat.beq k 90 then ⟨RX7, "tourOf", "(I)I"⟩ else ⟨"", "", ""⟩
  else bif Nat.blt k 92 then bif Nat.beq k 91 then ⟨RX7, "bestInsertion", "(I)I"⟩ else ⟨"", "", ""⟩
  else bif Nat.beq k 92 then ⟨RX7, "openTour", "(I)I"⟩ else ⟨"", "", ""⟩
  else bif Nat.blt k 95 then bif Nat.blt k 94 then bif Nat.beq k 93 then ⟨RX7, "insert", "(III)I"⟩ else ⟨"", "", ""⟩
  else bif Nat.beq k 94 then ⟨RX7, "drop", "(I)I"⟩ else ⟨"", "", ""⟩
  else bif Nat.blt k 96 then bif Nat.beq k 95 then ⟨RX7, "flip", "(I)I"⟩ else ⟨"", "", ""⟩
  else bif Nat.beq k 96 then ⟨RX7, "build", "()I"⟩ else ⟨"", "", ""⟩
  else bif Nat.blt k 104 then bif Nat.blt k 100 then bif Nat.blt k 98 then bif Nat.beq k 97 then ⟨RX7, "improve", "(I)I"⟩ else ⟨"", "", ""⟩
  else bif Nat.blt k 99 then bif Nat.beq k 98 then ⟨RX7, "undo", "()I"⟩ else ⟨"", "", ""⟩
  else bif Nat.beq k 99 then ⟨RX7, "checksum", "()J"⟩ else ⟨"", "", ""⟩
  else bif Nat.blt k 102 then bif Nat.blt k 101 then bif Nat.beq k 100 then ⟨RX7, "requireNode", "(I)V"⟩ else ⟨"", "", ""⟩
  else bif Nat.beq k 101 then ⟨RX7, "requireEdge", "(I)V"⟩ else ⟨"", "", ""⟩
  else bif Nat.blt k 103 then bif Nat.beq k 102 then ⟨RX7, "requireArc", "(I)V"⟩ else ⟨"", "", ""⟩
  else bif Nat.beq k 103 then ⟨RX7, "requireTour", "(I)V"⟩ else ⟨"", "", ""⟩
  else bif Nat.blt k 107 then bif Nat.blt k 105 then bif Nat.beq k 104 then ⟨RX7, "orNone", "(I)I"⟩ else ⟨"", "", ""⟩
  else bif Nat.blt k 106 then bif Nat.beq k 105 then ⟨RX7, "limited", "(JII)I"⟩ else ⟨"", "", ""⟩
  else bif Nat.beq k 106 then ⟨RX7, "at", "([II)I"⟩ else ⟨"", "", ""⟩
  else bif Nat.blt k 109 then bif Nat.blt k 108 then bif Nat.beq k 107 then ⟨RX7, "put", "([III)V"⟩ else ⟨"", "", ""⟩
  else bif Nat.beq k 108 then ⟨RX7, "copyRow", "([I[I)V"⟩ else ⟨"", "", ""⟩
  else bif Nat.blt k 110 then bif Nat.beq k 109 then ⟨RX8, "thrown", "()I"⟩ else ⟨"", "", ""⟩
  else bif Nat.beq k 110 then ⟨RX8, "fails", "(ZI)Z"⟩ else ⟨"", "", ""⟩
  else bif Nat.blt k 166 then bif Nat.blt k 138 then bif Nat.blt k 124 then bif Nat.blt k 117 then bif Nat.blt k 114 then bif Nat.blt k 112 then bif Nat.beq k 111 then ⟨RX8, "in", "(III)Z"⟩ else ⟨"", "", ""⟩
  else bif Nat.blt k 113 then bif Nat.beq k 112 then ⟨RX8, "min", "(II)I"⟩ else ⟨"", "", ""⟩
  else bif Nat.beq k 113 then ⟨RX8, "copy", "([I[I)V"⟩ else ⟨"", "", ""⟩
  else bif Nat.blt k 115 then bif Nat.beq k 114 then ⟨RX8, "edge", "(I)I"⟩ else ⟨"", "", ""⟩
  else bif Nat.blt k 116 then bif Nat.beq k 115 then ⟨RX8, "ban", "(II)I"⟩ else ⟨"", "", ""⟩
  else bif Nat.beq k 116 then ⟨RX8, "tour", "(I)I"⟩ else ⟨"", "", ""⟩
  else bif Nat.blt k 120 then bif Nat.blt k 118 then bif Nat.beq k 117 then ⟨RX8, "append", "(IIIII)I"⟩ else ⟨"", "", ""⟩
  else bif Nat.blt k 119 then bif Nat.beq k 118 then ⟨RX8, "byteAt", "(I)I"⟩ else ⟨"", "", ""⟩
  else bif Nat.beq k 119 then ⟨RX8, "next", "()I"⟩ else ⟨"", "", ""⟩
  else bif Nat.blt k 122 then bif Nat.blt k 121 then bif Nat.beq k 120 then ⟨RX8, "isGood", "()Z"⟩ else ⟨"", "", ""⟩
  else bif Nat.beq k 121 then ⟨RX8, "report", "(II)V"⟩ else ⟨"", "", ""⟩
  else bif Nat.blt k 123 then bif Nat.beq k 122 then ⟨RX8, "isDigit", "(I)Z"⟩ else ⟨"", "", ""⟩
  else bif Nat.beq k 123 then ⟨RX8, "takeWord", "(Ljava/lang/String;)Z"⟩ else ⟨"", "", ""⟩
  else bif Nat.blt k 131 then bif Nat.blt k 127 then bif Nat.blt k 125 then bif Nat.beq k 124 then ⟨RX8, "expect", "(I)V"⟩ else ⟨"", "", ""⟩
  else bif Nat.blt k 126 then bif Nat.beq k 125 then ⟨RX8, "number", "(II)I"⟩ else ⟨"", "", ""⟩
  else bif Nat.beq k 126 then ⟨RX8, "emit", "(I)V"⟩ else ⟨"", "", ""⟩
  else bif Nat.blt k 129 then bif Nat.blt k 128 then bif Nat.beq k 127 then ⟨RX8, "factor", "()V"⟩ else ⟨"", "", ""⟩
  else bif Nat.beq k 128 then ⟨RX8, "term", "()V"⟩ else ⟨"", "", ""⟩
  else bif Nat.blt k 130 then bif Nat.beq k 129 then ⟨RX8, "sum", "()V"⟩ else ⟨"", "", ""⟩
  else bif Nat.beq k 130 then ⟨RX8, "once", "(II)V"⟩ else ⟨"", "", ""⟩
  else bif Nat.blt k 134 then bif Nat.blt k 132 then bif Nat.beq k 131 then ⟨RX8, "readEdge", "(I)V"⟩ else ⟨"", "", ""⟩
  else bif Nat.blt k 133 then bif Nat.beq k 132 then ⟨RX8, "edgeAt", "(I)I"⟩ else ⟨"", "", ""⟩
  else bif Nat.beq k 133 then ⟨RX8, "readBan", "()V"⟩ else ⟨"", "", ""⟩
  else bif Nat.blt k 136 then bif Nat.blt k 135 then bif Nat.beq k 134 then ⟨RX8, "readDepot", "(I)V"⟩ else ⟨"", "", ""⟩
  else bif Nat.beq k 135 then ⟨RX8, "statement", "()V"⟩ else ⟨"", "", ""⟩
  else bif Nat.blt k 137 then bif Nat.beq k 136 then ⟨RX8, "load", "(I)I"⟩ else ⟨"", "", ""⟩
  else bif Nat.beq k 137 then ⟨RX8, "errorOffset", "()I"⟩ else ⟨"", "", ""⟩
  else bif Nat.blt k 152 then bif Nat.blt k 145 then bif Nat.blt k 141 then bif Nat.blt k 139 then bif Nat.beq k 138 then ⟨RX8, "arcs", "()I"⟩ else ⟨"", "", ""⟩
  else bif Nat.blt k 140 then bif Nat.beq k 139 then ⟨RX8, "tail", "(I)I"⟩ else ⟨"", "", ""⟩
  else bif Nat.beq k 140 then ⟨RX8, "head", "(I)I"⟩ else ⟨"", "", ""⟩
  else bif Nat.blt k 143 then bif Nat.blt k 142 then bif Nat.beq k 141 then ⟨RX8, "costOf", "(I)I"⟩ else ⟨"", "", ""⟩
  else bif Nat.beq k 142 then ⟨RX8, "follows", "(II)Z"⟩ else ⟨"", "", ""⟩
  else bif Nat.blt k 144 then bif Nat.beq k 143 then ⟨RX8, "layGaps", "()V"⟩ else ⟨"", "", ""⟩
  else bif Nat.beq k 144 then ⟨RX8, "approach", "(II)I"⟩ else ⟨"", "", ""⟩
  else bif Nat.blt k 148 then bif Nat.blt k 146 then bif Nat.beq k 145 then ⟨RX8, "comeBack", "(II)I"⟩ else ⟨"", "", ""⟩
  else bif Nat.blt k 147 then bif Nat.beq k 146 then ⟨RX8, "distanceOf", "(II)I"⟩ else ⟨"", "", ""⟩
  else bif Nat.beq k 147 then ⟨RX8, "limited", "(J)J"⟩ else ⟨"", "", ""⟩
  else bif Nat.blt k 150 then bif Nat.blt k 149 then bif Nat.beq k 148 then ⟨RX8, "operate", "(IJJ)J"⟩ else ⟨"", "", ""⟩
  else bif Nat.beq k 149 then ⟨RX8, "serviceOf", "(I)I"⟩ else ⟨"", "", ""⟩
  else bif Nat.blt k 151 then bif Nat.beq k 150 then ⟨RX8, "lengthOf", "(I)I"⟩ else ⟨"", "", ""⟩
  else bif Nat.beq k 151 then ⟨RX8, "arcOf", "(II)I"⟩ else ⟨"", "", ""⟩
  else bif Nat.blt k 159 then bif Nat.blt k 155 then bif Nat.blt k 153 then bif Nat.beq k 152 then ⟨RX8, "costOfTour", "(I)I"⟩ else ⟨"", "", ""⟩
  else bif Nat.blt k 154 then bif Nat.beq k 153 then ⟨RX8, "loadOfTour", "(I)I"⟩ else ⟨"", "", ""⟩
  else bif Nat.beq k 154 then ⟨RX8, "demandOf", "(I)I"⟩ else ⟨"", "", ""⟩
  else bif Nat.blt k 157 then bif Nat.blt k 156 then bif Nat.beq k 155 then ⟨RX8, "totalOf", "()I"⟩ else ⟨"", "", ""⟩
  else bif Nat.beq k 156 then ⟨RX8, "tourWith", "(I)I"⟩ else ⟨"", "", ""⟩
  else bif Nat.blt k 158 then bif Nat.beq k 157 then ⟨RX8, "placeIn", "(II)I"⟩ else ⟨"", "", ""⟩
  else bif Nat.beq k 158 then ⟨RX8, "put", "(III)V"⟩ else ⟨"", "", ""⟩
  else bif Nat.blt k 162 then bif Nat.blt k 160 then bif Nat.beq k 159 then ⟨RX8, "take", "(II)V"⟩ else ⟨"", "", ""⟩
  else bif Nat.blt k 161 then bif Nat.beq k 160 then ⟨RX8, "costWith", "(III)I"⟩ else ⟨"", "", ""⟩
  else bif Nat.beq k 161 then ⟨RX8, "canBeServed", "(I)Z"⟩ else ⟨"", "", ""⟩
  else bif Nat.blt k 164 then bif Nat.blt k 163 then bif Nat.beq k 162 then ⟨RX8, "findInsertion", "(I)I"⟩ else ⟨"", "", ""⟩
  else bif Nat.beq k 163 then ⟨RX8, "putBy", "(II)V"⟩ else ⟨"", "", ""⟩
  else bif Nat.blt k 165 then bif Nat.beq k 164 then ⟨RX8, "change", "(I)I"⟩ else ⟨"", "", ""⟩
  else bif Nat.beq k 165 then ⟨RX8, "gainOf", "(I)I"⟩ else ⟨"", "", ""⟩
  else bif Nat.blt k 194 then bif Nat.blt k 180 then bif Nat.blt k 173 then bif Nat.blt k 169 then bif Nat.blt k 167 then bif Nat.beq k 166 then ⟨RX8, "noEdge", "(I)Z"⟩ else ⟨"", "", ""⟩
  else bif Nat.blt k 168 then bif Nat.beq k 167 then ⟨RX8, "noArc", "(I)Z"⟩ else ⟨"", "", ""⟩
  else bif Nat.beq k 168 then ⟨RX8, "noNode", "(I)Z"⟩ else ⟨"", "", ""⟩
  else bif Nat.blt k 171 then bif Nat.blt k 170 then bif Nat.beq k 169 then ⟨RX8, "noTour", "(I)Z"⟩ else ⟨"", "", ""⟩
  else bif Nat.beq k 170 then ⟨RX8, "told", "(I)I"⟩ else ⟨"", "", ""⟩
  else bif Nat.blt k 172 then bif Nat.beq k 171 then ⟨RX8, "nodeCount", "()I"⟩ else ⟨"", "", ""⟩
  else bif Nat.beq k 172 then ⟨RX8, "edgeCount", "()I"⟩ else ⟨"", "", ""⟩
  else bif Nat.blt k 176 then bif Nat.blt k 174 then bif Nat.beq k 173 then ⟨RX8, "depotCount", "()I"⟩ else ⟨"", "", ""⟩
  else bif Nat.blt k 175 then bif Nat.beq k 174 then ⟨RX8, "tourCount", "()I"⟩ else ⟨"", "", ""⟩
  else bif Nat.beq k 175 then ⟨RX8, "edge", "(II)I"⟩ else ⟨"", "", ""⟩
  else bif Nat.blt k 178 then bif Nat.blt k 177 then bif Nat.beq k 176 then ⟨RX8, "mayFollow", "(II)Z"⟩ else ⟨"", "", ""⟩
  else bif Nat.beq k 177 then ⟨RX8, "deadhead", "(II)I"⟩ else ⟨"", "", ""⟩
  else bif Nat.blt k 179 then bif Nat.beq k 178 then ⟨RX8, "distance", "(II)I"⟩ else ⟨"", "", ""⟩
  else bif Nat.beq k 179 then ⟨RX8, "serviceCost", "(I)I"⟩ else ⟨"", "", ""⟩
  else bif Nat.blt k 187 then bif Nat.blt k 183 then bif Nat.blt k 181 then bif Nat.beq k 180 then ⟨RX8, "oddOnes", "()I"⟩ else ⟨"", "", ""⟩
  else bif Nat.blt k 182 then bif Nat.beq k 181 then ⟨RX8, "oddNodes", "()I"⟩ else ⟨"", "", ""⟩
  else bif Nat.beq k 182 then ⟨RX8, "match", "(I)I"⟩ else ⟨"", "", ""⟩
  else bif Nat.blt k 185 then bif Nat.blt k 184 then bif Nat.beq k 183 then ⟨RX8, "matching", "()I"⟩ else ⟨"", "", ""⟩
  else bif Nat.beq k 184 then ⟨RX8, "depotOf", "(I)I"⟩ else ⟨"", "", ""⟩
  else bif Nat.blt k 186 then bif Nat.beq k 185 then ⟨RX8, "length", "(I)I"⟩ else ⟨"", "", ""⟩
  else bif Nat.beq k 186 then ⟨RX8, "arcAt", "(II)I"⟩ else ⟨"", "", ""⟩
  else bif Nat.blt k 190 then bif Nat.blt k 188 then bif Nat.beq k 187 then ⟨RX8, "loadOf", "(I)I"⟩ else ⟨"", "", ""⟩
  else bif Nat.blt k 189 then bif Nat.beq k 188 then ⟨RX8, "tourCost", "(I)I"⟩ else ⟨"", "", ""⟩
  else bif Nat.beq k 189 then ⟨RX8, "totalCost", "()I"⟩ else ⟨"", "", ""⟩
  else bif Nat.blt k 192 then bif Nat.blt k 191 then bif Nat.beq k 190 then ⟨RX8, "unservedOnes", "()I"⟩ else ⟨"", "", ""⟩
  else bif Nat.beq k 191 then ⟨RX8, "unserved", "()I"⟩ else ⟨"", "", ""⟩
  else bif Nat.blt k 193 then bif Nat.beq k 192 then ⟨RX8, "tourOf", "(I)I"⟩ else ⟨"", "", ""⟩
  else bif Nat.beq k 193 then ⟨RX8, "bestInsertion", "(I)I"⟩ else ⟨"", "", ""⟩
  else bif Nat.blt k 208 then bif Nat.blt k 201 then bif Nat.blt k 197 then bif Nat.blt k 195 then bif Nat.beq k 194 then ⟨RX8, "remember", "()V"⟩ else ⟨"", "", ""⟩
  else bif Nat.blt k 196 then bif Nat.beq k 195 then ⟨RX8, "openTour", "(I)I"⟩ else ⟨"", "", ""⟩
  else bif Nat.beq k 196 then ⟨RX8, "insert", "(III)I"⟩ else ⟨"", "", ""⟩
  else bif Nat.blt k 199 then bif Nat.blt k 198 then bif Nat.beq k 197 then ⟨RX8, "drop", "(I)I"⟩ else ⟨"", "", ""⟩
  else bif Nat.beq k 198 then ⟨RX8, "flip", "(I)I"⟩ else ⟨"", "", ""⟩
  else bif Nat.blt k 200 then bif Nat.beq k 199 then ⟨RX8, "build", "()I"⟩ else ⟨"", "", ""⟩
  else bif Nat.beq k 200 then ⟨RX8, "improve", "(I)I"⟩ else ⟨"", "", ""⟩
  else bif Nat.blt k 204 then bif Nat.blt k 202 then bif Nat.beq k 201 then ⟨RX8, "undo", "()I"⟩ else ⟨"", "", ""⟩
  else bif Nat.blt k 203 then bif Nat.beq k 202 then ⟨RX8, "checksum", "()J"⟩ else ⟨"", "", ""⟩
  else bif Nat.beq k 203 then ⟨RL, "load", "(LWindyTours;I[J)I"⟩ else ⟨"", "", ""⟩
  else bif Nat.blt k 206 then bif Nat.blt k 205 then bif Nat.beq k 204 then ⟨RL, "edge", "(LWindyTours;II[J)I"⟩ else ⟨"", "", ""⟩
  else bif Nat.beq k 205 then ⟨RL, "mayFollow", "(LWindyTours;II[J)I"⟩ else ⟨"", "", ""⟩
  else bif Nat.blt k 207 then bif Nat.beq k 206 then ⟨RL, "deadhead", "(LWindyTours;II[J)I"⟩ else ⟨"", "", ""⟩
  else bif Nat.beq k 207 then ⟨RL, "distance", "(LWindyTours;II[J)I"⟩ else ⟨"", "", ""⟩
  else bif Nat.blt k 215 then bif Nat.blt k 211 then bif Nat.blt k 209 then bif Nat.beq k 208 then ⟨RL, "serviceCost", "(LWindyTours;I[J)I"⟩ else ⟨"", "", ""⟩
  else bif Nat.blt k 210 then bif Nat.beq k 209 then ⟨RL, "depotOf", "(LWindyTours;I[J)I"⟩ else ⟨"", "", ""⟩
  else bif Nat.beq k 210 then ⟨RL, "length", "(LWindyTours;I[J)I"⟩ else ⟨"", "", ""⟩
  else bif Nat.blt k 213 then bif Nat.blt k 212 then bif Nat.beq k 211 then ⟨RL, "arcAt", "(LWindyTours;II[J)I"⟩ else ⟨"", "", ""⟩
  else bif Nat.beq k 212 then ⟨RL, "loadOf", "(LWindyTours;I[J)I"⟩ else ⟨"", "", ""⟩
  else bif Nat.blt k 214 then bif Nat.beq k 213 then ⟨RL, "tourCost", "(LWindyTours;I[J)I"⟩ else ⟨"", "", ""⟩
  else bif Nat.beq k 214 then ⟨RL, "tourOf", "(LWindyTours;I[J)I"⟩ else ⟨"", "", ""⟩
  else bif Nat.blt k 218 then bif Nat.blt k 216 then bif Nat.beq k 215 then ⟨RL, "bestInsertion", "(LWindyTours;I[J)I"⟩ else ⟨"", "", ""⟩
  else bif Nat.blt k 217 then bif Nat.beq k 216 then ⟨RL, "openTour", "(LWindyTours;I[J)I"⟩ else ⟨"", "", ""⟩
  else bif Nat.beq k 217 then ⟨RL, "insert", "(LWindyTours;III[J)I"⟩ else ⟨"", "", ""⟩
  else bif Nat.blt k 220 then bif Nat.blt k 219 then bif Nat.beq k 218 then ⟨RL, "drop", "(LWindyTours;I[J)I"⟩ else ⟨"", "", ""⟩
  else bif Nat.beq k 219 then ⟨RL, "flip", "(LWindyTours;I[J)I"⟩ else ⟨"", "", ""⟩
  else bif Nat.blt k 221 then bif Nat.beq k 220 then ⟨RL, "improve", "(LWindyTours;I[J)I"⟩ else ⟨"", "", ""⟩
  else bif Nat.beq k 221 then ⟨RL, "law", "([I)Z"⟩ else ⟨"", "", ""⟩
def ccOf (k : Nat) : ByteArray :=
  bif Nat.blt k 111 then bif Nat.blt k 55 then bif Nat.blt k 27 then bif Nat.blt k 13 then bif Nat.blt k 6 then bif Nat.blt k 3 then bif Nat.blt k 1 then bif Nat.beq k 0 then prog_2_method_2_code else ⟨#[]⟩
  else bif Nat.blt k 2 then bif Nat.beq k 1 then prog_2_method_3_code else ⟨#[]⟩
  else bif Nat.beq k 2 then prog_2_method_4_code else ⟨#[]⟩
  else bif Nat.blt k 4 then bif Nat.beq k 3 then prog_2_method_5_code else ⟨#[]⟩
  else bif Nat.blt k 5 then bif Nat.beq k 4 then prog_2_method_6_code else ⟨#[]⟩
  else bif Nat.beq k 5 then prog_3_method_2_code else ⟨#[]⟩
  else bif Nat.blt k 9 then bif Nat.blt k 7 then bif Nat.beq k 6 then prog_3_method_3_code else ⟨#[]⟩
  else bif Nat.blt k 8 then bif Nat.beq k 7 then prog_3_method_4_code else ⟨#[]⟩
  else bif Nat.beq k 8 then prog_4_method_2_code else ⟨#[]⟩
  else bif Nat.blt k 11 then bif Nat.blt k 10 then bif Nat.beq k 9 then prog_4_method_3_code else ⟨#[]⟩
  else bif Nat.beq k 10 then prog_4_method_4_code else ⟨#[]⟩
  else bif Nat.blt k 12 then bif Nat.beq k 11 then prog_4_method_5_code else ⟨#[]⟩
  else bif Nat.beq k 12 then prog_4_method_6_code else ⟨#[]⟩
  else bif Nat.blt k 20 then bif Nat.blt k 16 then bif Nat.blt k 14 then bif Nat.beq k 13 then prog_4_method_7_code else ⟨#[]⟩
  else bif Nat.blt k 15 then bif Nat.beq k 14 then prog_4_method_8_code else ⟨#[]⟩
  else bif Nat.beq k 15 then prog_4_method_9_code else ⟨#[]⟩
  else bif Nat.blt k 18 then bif Nat.blt k 17 then bif Nat.beq k 16 then prog_4_method_10_code else ⟨#[]⟩
  else bif Nat.beq k 17 then prog_4_method_11_code else ⟨#[]⟩
  else bif Nat.blt k 19 then bif Nat.beq k 18 then prog_4_method_12_code else ⟨#[]⟩
  else bif Nat.beq k 19 then prog_5_method_2_code else ⟨#[]⟩
  else bif Nat.blt k 23 then bif Nat.blt k 21 then bif Nat.beq k 20 then prog_5_method_3_code else ⟨#[]⟩
  else bif Nat.blt k 22 then bif Nat.beq k 21 then prog_5_method_4_code else ⟨#[]⟩
  else bif Nat.beq k 22 then prog_5_method_5_code else ⟨#[]⟩
  else bif Nat.blt k 25 then bif Nat.blt k 24 then bif Nat.beq k 23 then prog_5_method_6_code else ⟨#[]⟩
  else bif Nat.beq k 24 then prog_5_method_7_code else ⟨#[]⟩
  else bif Nat.blt k 26 then bif Nat.beq k 25 then prog_5_method_8_code else ⟨#[]⟩
  else bif Nat.beq k 26 then prog_5_method_9_code else ⟨#[]⟩
  else bif Nat.blt k 41 then bif Nat.blt k 34 then bif Nat.blt k 30 then bif Nat.blt k 28 then bif Nat.beq k 27 then prog_5_method_10_code else ⟨#[]⟩
  else bif Nat.blt k 29 then bif Nat.beq k 28 then prog_6_method_2_code else ⟨#[]⟩
  else bif Nat.beq k 29 then prog_6_method_3_code else ⟨#[]⟩
  else bif Nat.blt k 32 then bif Nat.blt k 31 then bif Nat.beq k 30 then prog_6_method_4_code else ⟨#[]⟩
  else bif Nat.beq k 31 then prog_6_method_5_code else ⟨#[]⟩
  else bif Nat.blt k 33 then bif Nat.beq k 32 then prog_6_method_6_code else ⟨#[]⟩
  else bif Nat.beq k 33 then prog_6_method_7_code else ⟨#[]⟩
  else bif Nat.blt k 37 then bif Nat.blt k 35 then bif Nat.beq k 34 then prog_6_method_8_code else ⟨#[]⟩
  else bif Nat.blt k 36 then bif Nat.beq k 35 then prog_6_method_9_code else ⟨#[]⟩
  else bif Nat.beq k 36 then prog_6_method_10_code else ⟨#[]⟩
  else bif Nat.blt k 39 then bif Nat.blt k 38 then bif Nat.beq k 37 then prog_6_method_11_code else ⟨#[]⟩
  else bif Nat.beq k 38 then prog_6_method_12_code else ⟨#[]⟩
  else bif Nat.blt k 40 then bif Nat.beq k 39 then prog_6_method_13_code else ⟨#[]⟩
  else bif Nat.beq k 40 then prog_6_method_14_code else ⟨#[]⟩
  else bif Nat.blt k 48 then bif Nat.blt k 44 then bif Nat.blt k 42 then bif Nat.beq k 41 then prog_7_method_2_code else ⟨#[]⟩
  else bif Nat.blt k 43 then bif Nat.beq k 42 then prog_7_method_3_code else ⟨#[]⟩
  else bif Nat.beq k 43 then prog_7_method_4_code else ⟨#[]⟩
  else bif Nat.blt k 46 then bif Nat.blt k 45 then bif Nat.beq k 44 then prog_7_method_5_code else ⟨#[]⟩
  else bif Nat.beq k 45 then prog_7_method_6_code else ⟨#[]⟩
  else bif Nat.blt k 47 then bif Nat.beq k 46 then prog_7_method_7_code else ⟨#[]⟩
  else bif Nat.beq k 47 then prog_7_method_8_code else ⟨#[]⟩
  else bif Nat.blt k 51 then bif Nat.blt k 49 then bif Nat.beq k 48 then prog_7_method_9_code else ⟨#[]⟩
  else bif Nat.blt k 50 then bif Nat.beq k 49 then prog_8_method_2_code else ⟨#[]⟩
  else bif Nat.beq k 50 then prog_8_method_3_code else ⟨#[]⟩
  else bif Nat.blt k 53 then bif Nat.blt k 52 then bif Nat.beq k 51 then prog_8_method_4_code else ⟨#[]⟩
  else bif Nat.beq k 52 then prog_8_method_5_code else ⟨#[]⟩
  else bif Nat.blt k 54 then bif Nat.beq k 53 then prog_8_method_6_code else ⟨#[]⟩
  else bif Nat.beq k 54 then prog_8_method_7_code else ⟨#[]⟩
  else bif Nat.blt k 83 then bif Nat.blt k 69 then bif Nat.blt k 62 then bif Nat.blt k 58 then bif Nat.blt k 56 then bif Nat.beq k 55 then prog_8_method_8_code else ⟨#[]⟩
  else bif Nat.blt k 57 then bif Nat.beq k 56 then prog_8_method_9_code else ⟨#[]⟩
  else bif Nat.beq k 57 then prog_8_method_10_code else ⟨#[]⟩
  else bif Nat.blt k 60 then bif Nat.blt k 59 then bif Nat.beq k 58 then prog_8_method_11_code else ⟨#[]⟩
  else bif Nat.beq k 59 then prog_8_method_12_code else ⟨#[]⟩
  else bif Nat.blt k 61 then bif Nat.beq k 60 then prog_8_method_13_code else ⟨#[]⟩
  else bif Nat.beq k 61 then prog_8_method_14_code else ⟨#[]⟩
  else bif Nat.blt k 65 then bif Nat.blt k 63 then bif Nat.beq k 62 then prog_8_method_15_code else ⟨#[]⟩
  else bif Nat.blt k 64 then bif Nat.beq k 63 then prog_8_method_16_code else ⟨#[]⟩
  else bif Nat.beq k 64 then prog_8_method_17_code else ⟨#[]⟩
  else bif Nat.blt k 67 then bif Nat.blt k 66 then bif Nat.beq k 65 then prog_8_method_18_code else ⟨#[]⟩
  else bif Nat.beq k 66 then prog_8_method_19_code else ⟨#[]⟩
  else bif Nat.blt k 68 then bif Nat.beq k 67 then prog_8_method_20_code else ⟨#[]⟩
  else bif Nat.beq k 68 then prog_8_method_21_code else ⟨#[]⟩
  else bif Nat.blt k 76 then bif Nat.blt k 72 then bif Nat.blt k 70 then bif Nat.beq k 69 then prog_1_method_2_code else ⟨#[]⟩
  else bif Nat.blt k 71 then bif Nat.beq k 70 then prog_1_method_3_code else ⟨#[]⟩
  else bif Nat.beq k 71 then prog_1_method_4_code else ⟨#[]⟩
  else bif Nat.blt k 74 then bif Nat.blt k 73 then bif Nat.beq k 72 then prog_1_method_5_code else ⟨#[]⟩
  else bif Nat.beq k 73 then prog_1_method_6_code else ⟨#[]⟩
  else bif Nat.blt k 75 then bif Nat.beq k 74 then prog_1_method_7_code else ⟨#[]⟩
  else bif Nat.beq k 75 then prog_1_method_8_code else ⟨#[]⟩
  else bif Nat.blt k 79 then bif Nat.blt k 77 then bif Nat.beq k 76 then prog_1_method_9_code else ⟨#[]⟩
  else bif Nat.blt k 78 then bif Nat.beq k 77 then prog_1_method_10_code else ⟨#[]⟩
  else bif Nat.beq k 78 then prog_1_method_11_code else ⟨#[]⟩
  else bif Nat.blt k 81 then bif Nat.blt k 80 then bif Nat.beq k 79 then prog_1_method_12_code else ⟨#[]⟩
  else bif Nat.beq k 80 then prog_1_method_13_code else ⟨#[]⟩
  else bif Nat.blt k 82 then bif Nat.beq k 81 then prog_1_method_14_code else ⟨#[]⟩
  else bif Nat.beq k 82 then prog_1_method_15_code else ⟨#[]⟩
  else bif Nat.blt k 97 then bif Nat.blt k 90 then bif Nat.blt k 86 then bif Nat.blt k 84 then bif Nat.beq k 83 then prog_1_method_16_code else ⟨#[]⟩
  else bif Nat.blt k 85 then bif Nat.beq k 84 then prog_1_method_17_code else ⟨#[]⟩
  else bif Nat.beq k 85 then prog_1_method_18_code else ⟨#[]⟩
  else bif Nat.blt k 88 then bif Nat.blt k 87 then bif Nat.beq k 86 then prog_1_method_19_code else ⟨#[]⟩
  else bif Nat.beq k 87 then prog_1_method_20_code else ⟨#[]⟩
  else bif Nat.blt k 89 then bif Nat.beq k 88 then prog_1_method_21_code else ⟨#[]⟩
  else bif Nat.beq k 89 then prog_1_method_22_code else ⟨#[]⟩
  else bif Nat.blt k 93 then bif Nat.blt k 91 then bif Nat.beq k 90 then prog_1_method_23_code else ⟨#[]⟩
  else bif Nat.blt k 92 then bif Nat.beq k 91 then prog_1_method_24_code else ⟨#[]⟩
  else bif Nat.beq k 92 then prog_1_method_25_code else ⟨#[]⟩
  else bif Nat.blt k 95 then bif Nat.blt k 94 then bif Nat.beq k 93 then prog_1_method_26_code else ⟨#[]⟩
  else bif Nat.beq k 94 then prog_1_method_27_code else ⟨#[]⟩
  else bif Nat.blt k 96 then bif Nat.beq k 95 then prog_1_method_28_code else ⟨#[]⟩
  else bif Nat.beq k 96 then prog_1_method_29_code else ⟨#[]⟩
  else bif Nat.blt k 104 then bif Nat.blt k 100 then bif Nat.blt k 98 then bif Nat.beq k 97 then prog_1_method_30_code else ⟨#[]⟩
  else bif Nat.blt k 99 then bif Nat.beq k 98 then prog_1_method_31_code else ⟨#[]⟩
  else bif Nat.beq k 99 then prog_1_method_32_code else ⟨#[]⟩
  else bif Nat.blt k 102 then bif Nat.blt k 101 then bif Nat.beq k 100 then prog_1_method_33_code else ⟨#[]⟩
  else bif Nat.beq k 101 then prog_1_method_34_code else ⟨#[]⟩
  else bif Nat.blt k 103 then bif Nat.beq k 102 then prog_1_method_35_code else ⟨#[]⟩
  else bif Nat.beq k 103 then prog_1_method_36_code else ⟨#[]⟩
  else bif Nat.blt k 107 then bif Nat.blt k 105 then bif Nat.beq k 104 then prog_1_method_37_code else ⟨#[]⟩
  else bif Nat.blt k 106 then bif Nat.beq k 105 then prog_1_method_38_code else ⟨#[]⟩
  else bif Nat.beq k 106 then prog_1_method_39_code else ⟨#[]⟩
  else bif Nat.blt k 109 then bif Nat.blt k 108 then bif Nat.beq k 107 then prog_1_method_40_code else ⟨#[]⟩
  else bif Nat.beq k 108 then prog_1_method_41_code else ⟨#[]⟩
  else bif Nat.blt k 110 then bif Nat.beq k 109 then prog_10_method_2_code else ⟨#[]⟩
  else bif Nat.beq k 110 then prog_10_method_3_code else ⟨#[]⟩
  else bif Nat.blt k 166 then bif Nat.blt k 138 then bif Nat.blt k 124 then bif Nat.blt k 117 then bif Nat.blt k 114 then bif Nat.blt k 112 then bif Nat.beq k 111 then prog_10_method_4_code else ⟨#[]⟩
  else bif Nat.blt k 113 then bif Nat.beq k 112 then prog_10_method_5_code else ⟨#[]⟩
  else bif Nat.beq k 113 then prog_10_method_6_code else ⟨#[]⟩
  else bif Nat.blt k 115 then bif Nat.beq k 114 then prog_10_method_7_code else ⟨#[]⟩
  else bif Nat.blt k 116 then bif Nat.beq k 115 then prog_10_method_8_code else ⟨#[]⟩
  else bif Nat.beq k 116 then prog_10_method_9_code else ⟨#[]⟩
  else bif Nat.blt k 120 then bif Nat.blt k 118 then bif Nat.beq k 117 then prog_10_method_10_code else ⟨#[]⟩
  else bif Nat.blt k 119 then bif Nat.beq k 118 then prog_10_method_11_code else ⟨#[]⟩
  else bif Nat.beq k 119 then prog_10_method_12_code else ⟨#[]⟩
  else bif Nat.blt k 122 then bif Nat.blt k 121 then bif Nat.beq k 120 then prog_10_method_13_code else ⟨#[]⟩
  else bif Nat.beq k 121 then prog_10_method_14_code else ⟨#[]⟩
  else bif Nat.blt k 123 then bif Nat.beq k 122 then prog_10_method_15_code else ⟨#[]⟩
  else bif Nat.beq k 123 then prog_10_method_16_code else ⟨#[]⟩
  else bif Nat.blt k 131 then bif Nat.blt k 127 then bif Nat.blt k 125 then bif Nat.beq k 124 then prog_10_method_17_code else ⟨#[]⟩
  else bif Nat.blt k 126 then bif Nat.beq k 125 then prog_10_method_18_code else ⟨#[]⟩
  else bif Nat.beq k 126 then prog_10_method_19_code else ⟨#[]⟩
  else bif Nat.blt k 129 then bif Nat.blt k 128 then bif Nat.beq k 127 then prog_10_method_20_code else ⟨#[]⟩
  else bif Nat.beq k 128 then prog_10_method_21_code else ⟨#[]⟩
  else bif Nat.blt k 130 then bif Nat.beq k 129 then prog_10_method_22_code else ⟨#[]⟩
  else bif Nat.beq k 130 then prog_10_method_23_code else ⟨#[]⟩
  else bif Nat.blt k 134 then bif Nat.blt k 132 then bif Nat.beq k 131 then prog_10_method_24_code else ⟨#[]⟩
  else bif Nat.blt k 133 then bif Nat.beq k 132 then prog_10_method_25_code else ⟨#[]⟩
  else bif Nat.beq k 133 then prog_10_method_26_code else ⟨#[]⟩
  else bif Nat.blt k 136 then bif Nat.blt k 135 then bif Nat.beq k 134 then prog_10_method_27_code else ⟨#[]⟩
  else bif Nat.beq k 135 then prog_10_method_28_code else ⟨#[]⟩
  else bif Nat.blt k 137 then bif Nat.beq k 136 then prog_10_method_29_code else ⟨#[]⟩
  else bif Nat.beq k 137 then prog_10_method_30_code else ⟨#[]⟩
  else bif Nat.blt k 152 then bif Nat.blt k 145 then bif Nat.blt k 141 then bif Nat.blt k 139 then bif Nat.beq k 138 then prog_10_method_31_code else ⟨#[]⟩
  else bif Nat.blt k 140 then bif Nat.beq k 139 then prog_10_method_32_code else ⟨#[]⟩
  else bif Nat.beq k 140 then prog_10_method_33_code else ⟨#[]⟩
  else bif Nat.blt k 143 then bif Nat.blt k 142 then bif Nat.beq k 141 then prog_10_method_34_code else ⟨#[]⟩
  else bif Nat.beq k 142 then prog_10_method_35_code else ⟨#[]⟩
  else bif Nat.blt k 144 then bif Nat.beq k 143 then prog_10_method_36_code else ⟨#[]⟩
  else bif Nat.beq k 144 then prog_10_method_37_code else ⟨#[]⟩
  else bif Nat.blt k 148 then bif Nat.blt k 146 then bif Nat.beq k 145 then prog_10_method_38_code else ⟨#[]⟩
  else bif Nat.blt k 147 then bif Nat.beq k 146 then prog_10_method_39_code else ⟨#[]⟩
  else bif Nat.beq k 147 then prog_10_method_40_code else ⟨#[]⟩
  else bif Nat.blt k 150 then bif Nat.blt k 149 then bif Nat.beq k 148 then prog_10_method_41_code else ⟨#[]⟩
  else bif Nat.beq k 149 then prog_10_method_42_code else ⟨#[]⟩
  else bif Nat.blt k 151 then bif Nat.beq k 150 then prog_10_method_43_code else ⟨#[]⟩
  else bif Nat.beq k 151 then prog_10_method_44_code else ⟨#[]⟩
  else bif Nat.blt k 159 then bif Nat.blt k 155 then bif Nat.blt k 153 then bif Nat.beq k 152 then prog_10_method_45_code else ⟨#[]⟩
  else bif Nat.blt k 154 then bif Nat.beq k 153 then prog_10_method_46_code else ⟨#[]⟩
  else bif Nat.beq k 154 then prog_10_method_47_code else ⟨#[]⟩
  else bif Nat.blt k 157 then bif Nat.blt k 156 then bif Nat.beq k 155 then prog_10_method_48_code else ⟨#[]⟩
  else bif Nat.beq k 156 then prog_10_method_49_code else ⟨#[]⟩
  else bif Nat.blt k 158 then bif Nat.beq k 157 then prog_10_method_50_code else ⟨#[]⟩
  else bif Nat.beq k 158 then prog_10_method_51_code else ⟨#[]⟩
  else bif Nat.blt k 162 then bif Nat.blt k 160 then bif Nat.beq k 159 then prog_10_method_52_code else ⟨#[]⟩
  else bif Nat.blt k 161 then bif Nat.beq k 160 then prog_10_method_53_code else ⟨#[]⟩
  else bif Nat.beq k 161 then prog_10_method_54_code else ⟨#[]⟩
  else bif Nat.blt k 164 then bif Nat.blt k 163 then bif Nat.beq k 162 then prog_10_method_55_code else ⟨#[]⟩
  else bif Nat.beq k 163 then prog_10_method_56_code else ⟨#[]⟩
  else bif Nat.blt k 165 then bif Nat.beq k 164 then prog_10_method_57_code else ⟨#[]⟩
  else bif Nat.beq k 165 then prog_10_method_58_code else ⟨#[]⟩
  else bif Nat.blt k 194 then bif Nat.blt k 180 then bif Nat.blt k 173 then bif Nat.blt k 169 then bif Nat.blt k 167 then bif Nat.beq k 166 then prog_10_method_59_code else ⟨#[]⟩
  else bif Nat.blt k 168 then bif Nat.beq k 167 then prog_10_method_60_code else ⟨#[]⟩
  else bif Nat.beq k 168 then prog_10_method_61_code else ⟨#[]⟩
  else bif Nat.blt k 171 then bif Nat.blt k 170 then bif Nat.beq k 169 then prog_10_method_62_code else ⟨#[]⟩
  else bif Nat.beq k 170 then prog_10_method_63_code else ⟨#[]⟩
  else bif Nat.blt k 172 then bif Nat.beq k 171 then prog_10_method_64_code else ⟨#[]⟩
  else bif Nat.beq k 172 then prog_10_method_65_code else ⟨#[]⟩
  else bif Nat.blt k 176 then bif Nat.blt k 174 then bif Nat.beq k 173 then prog_10_method_66_code else ⟨#[]⟩
  else bif Nat.blt k 175 then bif Nat.beq k 174 then prog_10_method_67_code else ⟨#[]⟩
  else bif Nat.beq k 175 then prog_10_method_68_code else ⟨#[]⟩
  else bif Nat.blt k 178 then bif Nat.blt k 177 then bif Nat.beq k 176 then prog_10_method_69_code else ⟨#[]⟩
  else bif Nat.beq k 177 then prog_10_method_70_code else ⟨#[]⟩
  else bif Nat.blt k 179 then bif Nat.beq k 178 then prog_10_method_71_code else ⟨#[]⟩
  else bif Nat.beq k 179 then prog_10_method_72_code else ⟨#[]⟩
  else bif Nat.blt k 187 then bif Nat.blt k 183 then bif Nat.blt k 181 then bif Nat.beq k 180 then prog_10_method_73_code else ⟨#[]⟩
  else bif Nat.blt k 182 then bif Nat.beq k 181 then prog_10_method_74_code else ⟨#[]⟩
  else bif Nat.beq k 182 then prog_10_method_75_code else ⟨#[]⟩
  else bif Nat.blt k 185 then bif Nat.blt k 184 then bif Nat.beq k 183 then prog_10_method_76_code else ⟨#[]⟩
  else bif Nat.beq k 184 then prog_10_method_77_code else ⟨#[]⟩
  else bif Nat.blt k 186 then bif Nat.beq k 185 then prog_10_method_78_code else ⟨#[]⟩
  else bif Nat.beq k 186 then prog_10_method_79_code else ⟨#[]⟩
  else bif Nat.blt k 190 then bif Nat.blt k 188 then bif Nat.beq k 187 then prog_10_method_80_code else ⟨#[]⟩
  else bif Nat.blt k 189 then bif Nat.beq k 188 then prog_10_method_81_code else ⟨#[]⟩
  else bif Nat.beq k 189 then prog_10_method_82_code else ⟨#[]⟩
  else bif Nat.blt k 192 then bif Nat.blt k 191 then bif Nat.beq k 190 then prog_10_method_83_code else ⟨#[]⟩
  else bif Nat.beq k 191 then prog_10_method_84_code else ⟨#[]⟩
  else bif Nat.blt k 193 then bif Nat.beq k 192 then prog_10_method_85_code else ⟨#[]⟩
  else bif Nat.beq k 193 then prog_10_method_86_code else ⟨#[]⟩
  else bif Nat.blt k 208 then bif Nat.blt k 201 then bif Nat.blt k 197 then bif Nat.blt k 195 then bif Nat.beq k 194 then prog_10_method_87_code else ⟨#[]⟩
  else bif Nat.blt k 196 then bif Nat.beq k 195 then prog_10_method_88_code else ⟨#[]⟩
  else bif Nat.beq k 196 then prog_10_method_89_code else ⟨#[]⟩
  else bif Nat.blt k 199 then bif Nat.blt k 198 then bif Nat.beq k 197 then prog_10_method_90_code else ⟨#[]⟩
  else bif Nat.beq k 198 then prog_10_method_91_code else ⟨#[]⟩
  else bif Nat.blt k 200 then bif Nat.beq k 199 then prog_10_method_92_code else ⟨#[]⟩
  else bif Nat.beq k 200 then prog_10_method_93_code else ⟨#[]⟩
  else bif Nat.blt k 204 then bif Nat.blt k 202 then bif Nat.beq k 201 then prog_10_method_94_code else ⟨#[]⟩
  else bif Nat.blt k 203 then bif Nat.beq k 202 then prog_10_method_95_code else ⟨#[]⟩
  else bif Nat.beq k 203 then method_3_code else ⟨#[]⟩
  else bif Nat.blt k 206 then bif Nat.blt k 205 then bif Nat.beq k 204 then method_4_code else ⟨#[]⟩
  else bif Nat.beq k 205 then method_5_code else ⟨#[]⟩
  else bif Nat.blt k 207 then bif Nat.beq k 206 then method_6_code else ⟨#[]⟩
  else bif Nat.beq k 207 then method_7_code else ⟨#[]⟩
  else bif Nat.blt k 215 then bif Nat.blt k 211 then bif Nat.blt k 209 then bif Nat.beq k 208 then method_8_code else ⟨#[]⟩
  else bif Nat.blt k 210 then bif Nat.beq k 209 then method_9_code else ⟨#[]⟩
  else bif Nat.beq k 210 then method_10_code else ⟨#[]⟩
  else bif Nat.blt k 213 then bif Nat.blt k 212 then bif Nat.beq k 211 then method_11_code else ⟨#[]⟩
  else bif Nat.beq k 212 then method_12_code else ⟨#[]⟩
  else bif Nat.blt k 214 then bif Nat.beq k 213 then method_13_code else ⟨#[]⟩
  else bif Nat.beq k 214 then method_14_code else ⟨#[]⟩
  else bif Nat.blt k 218 then bif Nat.blt k 216 then bif Nat.beq k 215 then method_15_code else ⟨#[]⟩
  else bif Nat.blt k 217 then bif Nat.beq k 216 then method_16_code else ⟨#[]⟩
  else bif Nat.beq k 217 then method_17_code else ⟨#[]⟩
  else bif Nat.blt k 220 then bif Nat.blt k 219 then bif Nat.beq k 218 then method_18_code else ⟨#[]⟩
  else bif Nat.beq k 219 then method_19_code else ⟨#[]⟩
  else bif Nat.blt k 221 then bif Nat.beq k 220 then method_20_code else ⟨#[]⟩
  else bif Nat.beq k 221 then code else ⟨#[]⟩
def retOf (k : Nat) : Option FieldType :=
  bif Nat.blt k 111 then bif Nat.blt k 55 then bif Nat.blt k 27 then bif Nat.blt k 13 then bif Nat.blt k 6 then bif Nat.blt k 3 then bif Nat.blt k 1 then bif Nat.beq k 0 then none else none
  else bif Nat.blt k 2 then bif Nat.beq k 1 then none else none
  else bif Nat.beq k 2 then none else none
  else bif Nat.blt k 4 then bif Nat.beq k 3 then some .int else none
  else bif Nat.blt k 5 then bif Nat.beq k 4 then some .int else none
  else bif Nat.beq k 5 then some .boolean else none
  else bif Nat.blt k 9 then bif Nat.blt k 7 then bif Nat.beq k 6 then none else none
  else bif Nat.blt k 8 then bif Nat.beq k 7 then some .boolean else none
  else bif Nat.beq k 8 then none else none
  else bif Nat.blt k 11 then bif Nat.blt k 10 then bif Nat.beq k 9 then none else none
  else bif Nat.beq k 10 then none else none
  else bif Nat.blt k 12 then bif Nat.beq k 11 then none else none
  else bif Nat.beq k 12 then none else none
  else bif Nat.blt k 20 then bif Nat.blt k 16 then bif Nat.blt k 14 then bif Nat.beq k 13 then none else none
  else bif Nat.blt k 15 then bif Nat.beq k 14 then some .int else none
  else bif Nat.beq k 15 then some .int else none
  else bif Nat.blt k 18 then bif Nat.blt k 17 then bif Nat.beq k 16 then some .boolean else none
  else bif Nat.beq k 17 then some .boolean else none
  else bif Nat.blt k 19 then bif Nat.beq k 18 then some .int else none
  else bif Nat.beq k 19 then none else none
  else bif Nat.blt k 23 then bif Nat.blt k 21 then bif Nat.beq k 20 then none else none
  else bif Nat.blt k 22 then bif Nat.beq k 21 then some .int else none
  else bif Nat.beq k 22 then some .int else none
  else bif Nat.blt k 25 then bif Nat.blt k 24 then bif Nat.beq k 23 then some .int else none
  else bif Nat.beq k 24 then some .int else none
  else bif Nat.blt k 26 then bif Nat.beq k 25 then none else none
  else bif Nat.beq k 26 then none else none
  else bif Nat.blt k 41 then bif Nat.blt k 34 then bif Nat.blt k 30 then bif Nat.blt k 28 then bif Nat.beq k 27 then none else none
  else bif Nat.blt k 29 then bif Nat.beq k 28 then some .boolean else none
  else bif Nat.beq k 29 then some .int else none
  else bif Nat.blt k 32 then bif Nat.blt k 31 then bif Nat.beq k 30 then some .boolean else none
  else bif Nat.beq k 31 then some .int else none
  else bif Nat.blt k 33 then bif Nat.beq k 32 then some .int else none
  else bif Nat.beq k 33 then some .int else none
  else bif Nat.blt k 37 then bif Nat.blt k 35 then bif Nat.beq k 34 then some .boolean else none
  else bif Nat.blt k 36 then bif Nat.beq k 35 then some .boolean else none
  else bif Nat.beq k 36 then some .int else none
  else bif Nat.blt k 39 then bif Nat.blt k 38 then bif Nat.beq k 37 then some .int else none
  else bif Nat.beq k 38 then some .boolean else none
  else bif Nat.blt k 40 then bif Nat.beq k 39 then some .int else none
  else bif Nat.beq k 40 then some .int else none
  else bif Nat.blt k 48 then bif Nat.blt k 44 then bif Nat.blt k 42 then bif Nat.beq k 41 then none else none
  else bif Nat.blt k 43 then bif Nat.beq k 42 then none else none
  else bif Nat.beq k 43 then none else none
  else bif Nat.blt k 46 then bif Nat.blt k 45 then bif Nat.beq k 44 then some .int else none
  else bif Nat.beq k 45 then some .int else none
  else bif Nat.blt k 47 then bif Nat.beq k 46 then some .int else none
  else bif Nat.beq k 47 then some .int else none
  else bif Nat.blt k 51 then bif Nat.blt k 49 then bif Nat.beq k 48 then some .int else none
  else bif Nat.blt k 50 then bif Nat.beq k 49 then none else none
  else bif Nat.beq k 50 then some .int else none
  else bif Nat.blt k 53 then bif Nat.blt k 52 then bif Nat.beq k 51 then none else none
  else bif Nat.beq k 52 then none else none
  else bif Nat.blt k 54 then bif Nat.beq k 53 then none else none
  else bif Nat.beq k 54 then some .int else none
  else bif Nat.blt k 83 then bif Nat.blt k 69 then bif Nat.blt k 62 then bif Nat.blt k 58 then bif Nat.blt k 56 then bif Nat.beq k 55 then none else none
  else bif Nat.blt k 57 then bif Nat.beq k 56 then none else none
  else bif Nat.beq k 57 then none else none
  else bif Nat.blt k 60 then bif Nat.blt k 59 then bif Nat.beq k 58 then none else none
  else bif Nat.beq k 59 then none else none
  else bif Nat.blt k 61 then bif Nat.beq k 60 then none else none
  else bif Nat.beq k 61 then some .int else none
  else bif Nat.blt k 65 then bif Nat.blt k 63 then bif Nat.beq k 62 then none else none
  else bif Nat.blt k 64 then bif Nat.beq k 63 then none else none
  else bif Nat.beq k 64 then some .boolean else none
  else bif Nat.blt k 67 then bif Nat.blt k 66 then bif Nat.beq k 65 then none else none
  else bif Nat.beq k 66 then some .int else none
  else bif Nat.blt k 68 then bif Nat.beq k 67 then some .boolean else none
  else bif Nat.beq k 68 then some .boolean else none
  else bif Nat.blt k 76 then bif Nat.blt k 72 then bif Nat.blt k 70 then bif Nat.beq k 69 then some .int else none
  else bif Nat.blt k 71 then bif Nat.beq k 70 then some .int else none
  else bif Nat.beq k 71 then some .int else none
  else bif Nat.blt k 74 then bif Nat.blt k 73 then bif Nat.beq k 72 then some .int else none
  else bif Nat.beq k 73 then some .int else none
  else bif Nat.blt k 75 then bif Nat.beq k 74 then some .int else none
  else bif Nat.beq k 75 then some .int else none
  else bif Nat.blt k 79 then bif Nat.blt k 77 then bif Nat.beq k 76 then some .int else none
  else bif Nat.blt k 78 then bif Nat.beq k 77 then some .boolean else none
  else bif Nat.beq k 78 then some .int else none
  else bif Nat.blt k 81 then bif Nat.blt k 80 then bif Nat.beq k 79 then some .int else none
  else bif Nat.beq k 80 then some .int else none
  else bif Nat.blt k 82 then bif Nat.beq k 81 then some .int else none
  else bif Nat.beq k 82 then some .int else none
  else bif Nat.blt k 97 then bif Nat.blt k 90 then bif Nat.blt k 86 then bif Nat.blt k 84 then bif Nat.beq k 83 then some .int else none
  else bif Nat.blt k 85 then bif Nat.beq k 84 then some .int else none
  else bif Nat.beq k 85 then some .int else none
  else bif Nat.blt k 88 then bif Nat.blt k 87 then bif Nat.beq k 86 then some .int else none
  else bif Nat.beq k 87 then some .int else none
  else bif Nat.blt k 89 then bif Nat.beq k 88 then some .int else none
  else bif Nat.beq k 89 then some .int else none
  else bif Nat.blt k 93 then bif Nat.blt k 91 then bif Nat.beq k 90 then some .int else none
  else bif Nat.blt k 92 then bif Nat.beq k 91 then some .int else none
  else bif Nat.beq k 92 then some .int else none
  else bif Nat.blt k 95 then bif Nat.blt k 94 then bif Nat.beq k 93 then some .int else none
  else bif Nat.beq k 94 then some .int else none
  else bif Nat.blt k 96 then bif Nat.beq k 95 then some .int else none
  else bif Nat.beq k 96 then some .int else none
  else bif Nat.blt k 104 then bif Nat.blt k 100 then bif Nat.blt k 98 then bif Nat.beq k 97 then some .int else none
  else bif Nat.blt k 99 then bif Nat.beq k 98 then some .int else none
  else bif Nat.beq k 99 then some .long else none
  else bif Nat.blt k 102 then bif Nat.blt k 101 then bif Nat.beq k 100 then none else none
  else bif Nat.beq k 101 then none else none
  else bif Nat.blt k 103 then bif Nat.beq k 102 then none else none
  else bif Nat.beq k 103 then none else none
  else bif Nat.blt k 107 then bif Nat.blt k 105 then bif Nat.beq k 104 then some .int else none
  else bif Nat.blt k 106 then bif Nat.beq k 105 then some .int else none
  else bif Nat.beq k 106 then some .int else none
  else bif Nat.blt k 109 then bif Nat.blt k 108 then bif Nat.beq k 107 then none else none
  else bif Nat.beq k 108 then none else none
  else bif Nat.blt k 110 then bif Nat.beq k 109 then some .int else none
  else bif Nat.beq k 110 then some .boolean else none
  else bif Nat.blt k 166 then bif Nat.blt k 138 then bif Nat.blt k 124 then bif Nat.blt k 117 then bif Nat.blt k 114 then bif Nat.blt k 112 then bif Nat.beq k 111 then some .boolean else none
  else bif Nat.blt k 113 then bif Nat.beq k 112 then some .int else none
  else bif Nat.beq k 113 then none else none
  else bif Nat.blt k 115 then bif Nat.beq k 114 then some .int else none
  else bif Nat.blt k 116 then bif Nat.beq k 115 then some .int else none
  else bif Nat.beq k 116 then some .int else none
  else bif Nat.blt k 120 then bif Nat.blt k 118 then bif Nat.beq k 117 then some .int else none
  else bif Nat.blt k 119 then bif Nat.beq k 118 then some .int else none
  else bif Nat.beq k 119 then some .int else none
  else bif Nat.blt k 122 then bif Nat.blt k 121 then bif Nat.beq k 120 then some .boolean else none
  else bif Nat.beq k 121 then none else none
  else bif Nat.blt k 123 then bif Nat.beq k 122 then some .boolean else none
  else bif Nat.beq k 123 then some .boolean else none
  else bif Nat.blt k 131 then bif Nat.blt k 127 then bif Nat.blt k 125 then bif Nat.beq k 124 then none else none
  else bif Nat.blt k 126 then bif Nat.beq k 125 then some .int else none
  else bif Nat.beq k 126 then none else none
  else bif Nat.blt k 129 then bif Nat.blt k 128 then bif Nat.beq k 127 then none else none
  else bif Nat.beq k 128 then none else none
  else bif Nat.blt k 130 then bif Nat.beq k 129 then none else none
  else bif Nat.beq k 130 then none else none
  else bif Nat.blt k 134 then bif Nat.blt k 132 then bif Nat.beq k 131 then none else none
  else bif Nat.blt k 133 then bif Nat.beq k 132 then some .int else none
  else bif Nat.beq k 133 then none else none
  else bif Nat.blt k 136 then bif Nat.blt k 135 then bif Nat.beq k 134 then none else none
  else bif Nat.beq k 135 then none else none
  else bif Nat.blt k 137 then bif Nat.beq k 136 then some .int else none
  else bif Nat.beq k 137 then some .int else none
  else bif Nat.blt k 152 then bif Nat.blt k 145 then bif Nat.blt k 141 then bif Nat.blt k 139 then bif Nat.beq k 138 then some .int else none
  else bif Nat.blt k 140 then bif Nat.beq k 139 then some .int else none
  else bif Nat.beq k 140 then some .int else none
  else bif Nat.blt k 143 then bif Nat.blt k 142 then bif Nat.beq k 141 then some .int else none
  else bif Nat.beq k 142 then some .boolean else none
  else bif Nat.blt k 144 then bif Nat.beq k 143 then none else none
  else bif Nat.beq k 144 then some .int else none
  else bif Nat.blt k 148 then bif Nat.blt k 146 then bif Nat.beq k 145 then some .int else none
  else bif Nat.blt k 147 then bif Nat.beq k 146 then some .int else none
  else bif Nat.beq k 147 then some .long else none
  else bif Nat.blt k 150 then bif Nat.blt k 149 then bif Nat.beq k 148 then some .long else none
  else bif Nat.beq k 149 then some .int else none
  else bif Nat.blt k 151 then bif Nat.beq k 150 then some .int else none
  else bif Nat.beq k 151 then some .int else none
  else bif Nat.blt k 159 then bif Nat.blt k 155 then bif Nat.blt k 153 then bif Nat.beq k 152 then some .int else none
  else bif Nat.blt k 154 then bif Nat.beq k 153 then some .int else none
  else bif Nat.beq k 154 then some .int else none
  else bif Nat.blt k 157 then bif Nat.blt k 156 then bif Nat.beq k 155 then some .int else none
  else bif Nat.beq k 156 then some .int else none
  else bif Nat.blt k 158 then bif Nat.beq k 157 then some .int else none
  else bif Nat.beq k 158 then none else none
  else bif Nat.blt k 162 then bif Nat.blt k 160 then bif Nat.beq k 159 then none else none
  else bif Nat.blt k 161 then bif Nat.beq k 160 then some .int else none
  else bif Nat.beq k 161 then some .boolean else none
  else bif Nat.blt k 164 then bif Nat.blt k 163 then bif Nat.beq k 162 then some .int else none
  else bif Nat.beq k 163 then none else none
  else bif Nat.blt k 165 then bif Nat.beq k 164 then some .int else none
  else bif Nat.beq k 165 then some .int else none
  else bif Nat.blt k 194 then bif Nat.blt k 180 then bif Nat.blt k 173 then bif Nat.blt k 169 then bif Nat.blt k 167 then bif Nat.beq k 166 then some .boolean else none
  else bif Nat.blt k 168 then bif Nat.beq k 167 then some .boolean else none
  else bif Nat.beq k 168 then some .boolean else none
  else bif Nat.blt k 171 then bif Nat.blt k 170 then bif Nat.beq k 169 then some .boolean else none
  else bif Nat.beq k 170 then some .int else none
  else bif Nat.blt k 172 then bif Nat.beq k 171 then some .int else none
  else bif Nat.beq k 172 then some .int else none
  else bif Nat.blt k 176 then bif Nat.blt k 174 then bif Nat.beq k 173 then some .int else none
  else bif Nat.blt k 175 then bif Nat.beq k 174 then some .int else none
  else bif Nat.beq k 175 then some .int else none
  else bif Nat.blt k 178 then bif Nat.blt k 177 then bif Nat.beq k 176 then some .boolean else none
  else bif Nat.beq k 177 then some .int else none
  else bif Nat.blt k 179 then bif Nat.beq k 178 then some .int else none
  else bif Nat.beq k 179 then some .int else none
  else bif Nat.blt k 187 then bif Nat.blt k 183 then bif Nat.blt k 181 then bif Nat.beq k 180 then some .int else none
  else bif Nat.blt k 182 then bif Nat.beq k 181 then some .int else none
  else bif Nat.beq k 182 then some .int else none
  else bif Nat.blt k 185 then bif Nat.blt k 184 then bif Nat.beq k 183 then some .int else none
  else bif Nat.beq k 184 then some .int else none
  else bif Nat.blt k 186 then bif Nat.beq k 185 then some .int else none
  else bif Nat.beq k 186 then some .int else none
  else bif Nat.blt k 190 then bif Nat.blt k 188 then bif Nat.beq k 187 then some .int else none
  else bif Nat.blt k 189 then bif Nat.beq k 188 then some .int else none
  else bif Nat.beq k 189 then some .int else none
  else bif Nat.blt k 192 then bif Nat.blt k 191 then bif Nat.beq k 190 then some .int else none
  else bif Nat.beq k 191 then some .int else none
  else bif Nat.blt k 193 then bif Nat.beq k 192 then some .int else none
  else bif Nat.beq k 193 then some .int else none
  else bif Nat.blt k 208 then bif Nat.blt k 201 then bif Nat.blt k 197 then bif Nat.blt k 195 then bif Nat.beq k 194 then none else none
  else bif Nat.blt k 196 then bif Nat.beq k 195 then some .int else none
  else bif Nat.beq k 196 then some .int else none
  else bif Nat.blt k 199 then bif Nat.blt k 198 then bif Nat.beq k 197 then some .int else none
  else bif Nat.beq k 198 then some .int else none
  else bif Nat.blt k 200 then bif Nat.beq k 199 then some .int else none
  else bif Nat.beq k 200 then some .int else none
  else bif Nat.blt k 204 then bif Nat.blt k 202 then bif Nat.beq k 201 then some .int else none
  else bif Nat.blt k 203 then bif Nat.beq k 202 then some .long else none
  else bif Nat.beq k 203 then some .int else none
  else bif Nat.blt k 206 then bif Nat.blt k 205 then bif Nat.beq k 204 then some .int else none
  else bif Nat.beq k 205 then some .int else none
  else bif Nat.blt k 207 then bif Nat.beq k 206 then some .int else none
  else bif Nat.beq k 207 then some .int else none
  else bif Nat.blt k 215 then bif Nat.blt k 211 then bif Nat.blt k 209 then bif Nat.beq k 208 then some .int else none
  else bif Nat.blt k 210 then bif Nat.beq k 209 then some .int else none
  else bif Nat.beq k 210 then some .int else none
  else bif Nat.blt k 213 then bif Nat.blt k 212 then bif Nat.beq k 211 then some .int else none
  else bif Nat.beq k 212 then some .int else none
  else bif Nat.blt k 214 then bif Nat.beq k 213 then some .int else none
  else bif Nat.beq k 214 then some .int else none
  else bif Nat.blt k 218 then bif Nat.blt k 216 then bif Nat.beq k 215 then some .int else none
  else bif Nat.blt k 217 then bif Nat.beq k 216 then some .int else none
  else bif Nat.beq k 217 then some .int else none
  else bif Nat.blt k 220 then bif Nat.blt k 219 then bif Nat.beq k 218 then some .int else none
  else bif Nat.beq k 219 then some .int else none
  else bif Nat.blt k 221 then bif Nat.beq k 220 then some .int else none
  else bif Nat.beq k 221 then some .boolean else none
def nargOf (k : Nat) : Nat :=
  bif Nat.blt k 111 then bif Nat.blt k 55 then bif Nat.blt k 27 then bif Nat.blt k 13 then bif Nat.blt k 6 then bif Nat.blt k 3 then bif Nat.blt k 1 then bif Nat.beq k 0 then 0 else 0
  else bif Nat.blt k 2 then bif Nat.beq k 1 then 1 else 0
  else bif Nat.beq k 2 then 1 else 0
  else bif Nat.blt k 4 then bif Nat.beq k 3 then 2 else 0
  else bif Nat.blt k 5 then bif Nat.beq k 4 then 3 else 0
  else bif Nat.beq k 5 then 1 else 0
  else bif Nat.blt k 9 then bif Nat.blt k 7 then bif Nat.beq k 6 then 3 else 0
  else bif Nat.blt k 8 then bif Nat.beq k 7 then 2 else 0
  else bif Nat.beq k 8 then 0 else 0
  else bif Nat.blt k 11 then bif Nat.blt k 10 then bif Nat.beq k 9 then 1 else 0
  else bif Nat.beq k 10 then 5 else 0
  else bif Nat.blt k 12 then bif Nat.beq k 11 then 3 else 0
  else bif Nat.beq k 12 then 1 else 0
  else bif Nat.blt k 20 then bif Nat.blt k 16 then bif Nat.blt k 14 then bif Nat.beq k 13 then 3 else 0
  else bif Nat.blt k 15 then bif Nat.beq k 14 then 1 else 0
  else bif Nat.beq k 15 then 1 else 0
  else bif Nat.blt k 18 then bif Nat.blt k 17 then bif Nat.beq k 16 then 2 else 0
  else bif Nat.beq k 17 then 2 else 0
  else bif Nat.blt k 19 then bif Nat.beq k 18 then 0 else 0
  else bif Nat.beq k 19 then 0 else 0
  else bif Nat.blt k 23 then bif Nat.blt k 21 then bif Nat.beq k 20 then 1 else 0
  else bif Nat.blt k 22 then bif Nat.beq k 21 then 1 else 0
  else bif Nat.beq k 22 then 2 else 0
  else bif Nat.blt k 25 then bif Nat.blt k 24 then bif Nat.beq k 23 then 1 else 0
  else bif Nat.beq k 24 then 2 else 0
  else bif Nat.blt k 26 then bif Nat.beq k 25 then 3 else 0
  else bif Nat.beq k 26 then 2 else 0
  else bif Nat.blt k 41 then bif Nat.blt k 34 then bif Nat.blt k 30 then bif Nat.blt k 28 then bif Nat.beq k 27 then 2 else 0
  else bif Nat.blt k 29 then bif Nat.beq k 28 then 1 else 0
  else bif Nat.beq k 29 then 1 else 0
  else bif Nat.blt k 32 then bif Nat.blt k 31 then bif Nat.beq k 30 then 2 else 0
  else bif Nat.beq k 31 then 3 else 0
  else bif Nat.blt k 33 then bif Nat.beq k 32 then 1 else 0
  else bif Nat.beq k 33 then 3 else 0
  else bif Nat.blt k 37 then bif Nat.blt k 35 then bif Nat.beq k 34 then 2 else 0
  else bif Nat.blt k 36 then bif Nat.beq k 35 then 2 else 0
  else bif Nat.beq k 36 then 1 else 0
  else bif Nat.blt k 39 then bif Nat.blt k 38 then bif Nat.beq k 37 then 2 else 0
  else bif Nat.beq k 38 then 1 else 0
  else bif Nat.blt k 40 then bif Nat.beq k 39 then 1 else 0
  else bif Nat.beq k 40 then 0 else 0
  else bif Nat.blt k 48 then bif Nat.blt k 44 then bif Nat.blt k 42 then bif Nat.beq k 41 then 1 else 0
  else bif Nat.blt k 43 then bif Nat.beq k 42 then 1 else 0
  else bif Nat.beq k 43 then 1 else 0
  else bif Nat.blt k 46 then bif Nat.blt k 45 then bif Nat.beq k 44 then 3 else 0
  else bif Nat.beq k 45 then 3 else 0
  else bif Nat.blt k 47 then bif Nat.beq k 46 then 3 else 0
  else bif Nat.beq k 47 then 3 else 0
  else bif Nat.blt k 51 then bif Nat.blt k 49 then bif Nat.beq k 48 then 1 else 0
  else bif Nat.blt k 50 then bif Nat.beq k 49 then 1 else 0
  else bif Nat.beq k 50 then 1 else 0
  else bif Nat.blt k 53 then bif Nat.blt k 52 then bif Nat.beq k 51 then 1 else 0
  else bif Nat.beq k 52 then 0 else 0
  else bif Nat.blt k 54 then bif Nat.beq k 53 then 0 else 0
  else bif Nat.beq k 54 then 1 else 0
  else bif Nat.blt k 83 then bif Nat.blt k 69 then bif Nat.blt k 62 then bif Nat.blt k 58 then bif Nat.blt k 56 then bif Nat.beq k 55 then 0 else 0
  else bif Nat.blt k 57 then bif Nat.beq k 56 then 1 else 0
  else bif Nat.beq k 57 then 1 else 0
  else bif Nat.blt k 60 then bif Nat.blt k 59 then bif Nat.beq k 58 then 1 else 0
  else bif Nat.beq k 59 then 0 else 0
  else bif Nat.blt k 61 then bif Nat.beq k 60 then 1 else 0
  else bif Nat.beq k 61 then 2 else 0
  else bif Nat.blt k 65 then bif Nat.blt k 63 then bif Nat.beq k 62 then 1 else 0
  else bif Nat.blt k 64 then bif Nat.beq k 63 then 1 else 0
  else bif Nat.beq k 64 then 1 else 0
  else bif Nat.blt k 67 then bif Nat.blt k 66 then bif Nat.beq k 65 then 0 else 0
  else bif Nat.beq k 66 then 1 else 0
  else bif Nat.blt k 68 then bif Nat.beq k 67 then 1 else 0
  else bif Nat.beq k 68 then 1 else 0
  else bif Nat.blt k 76 then bif Nat.blt k 72 then bif Nat.blt k 70 then bif Nat.beq k 69 then 5 else 0
  else bif Nat.blt k 71 then bif Nat.beq k 70 then 1 else 0
  else bif Nat.beq k 71 then 0 else 0
  else bif Nat.blt k 74 then bif Nat.blt k 73 then bif Nat.beq k 72 then 0 else 0
  else bif Nat.beq k 73 then 0 else 0
  else bif Nat.blt k 75 then bif Nat.beq k 74 then 0 else 0
  else bif Nat.beq k 75 then 0 else 0
  else bif Nat.blt k 79 then bif Nat.blt k 77 then bif Nat.beq k 76 then 2 else 0
  else bif Nat.blt k 78 then bif Nat.beq k 77 then 2 else 0
  else bif Nat.beq k 78 then 2 else 0
  else bif Nat.blt k 81 then bif Nat.blt k 80 then bif Nat.beq k 79 then 2 else 0
  else bif Nat.beq k 80 then 1 else 0
  else bif Nat.blt k 82 then bif Nat.beq k 81 then 0 else 0
  else bif Nat.beq k 82 then 0 else 0
  else bif Nat.blt k 97 then bif Nat.blt k 90 then bif Nat.blt k 86 then bif Nat.blt k 84 then bif Nat.beq k 83 then 1 else 0
  else bif Nat.blt k 85 then bif Nat.beq k 84 then 1 else 0
  else bif Nat.beq k 85 then 2 else 0
  else bif Nat.blt k 88 then bif Nat.blt k 87 then bif Nat.beq k 86 then 1 else 0
  else bif Nat.beq k 87 then 1 else 0
  else bif Nat.blt k 89 then bif Nat.beq k 88 then 0 else 0
  else bif Nat.beq k 89 then 0 else 0
  else bif Nat.blt k 93 then bif Nat.blt k 91 then bif Nat.beq k 90 then 1 else 0
  else bif Nat.blt k 92 then bif Nat.beq k 91 then 1 else 0
  else bif Nat.beq k 92 then 1 else 0
  else bif Nat.blt k 95 then bif Nat.blt k 94 then bif Nat.beq k 93 then 3 else 0
  else bif Nat.beq k 94 then 1 else 0
  else bif Nat.blt k 96 then bif Nat.beq k 95 then 1 else 0
  else bif Nat.beq k 96 then 0 else 0
  else bif Nat.blt k 104 then bif Nat.blt k 100 then bif Nat.blt k 98 then bif Nat.beq k 97 then 1 else 0
  else bif Nat.blt k 99 then bif Nat.beq k 98 then 0 else 0
  else bif Nat.beq k 99 then 0 else 0
  else bif Nat.blt k 102 then bif Nat.blt k 101 then bif Nat.beq k 100 then 1 else 0
  else bif Nat.beq k 101 then 1 else 0
  else bif Nat.blt k 103 then bif Nat.beq k 102 then 1 else 0
  else bif Nat.beq k 103 then 1 else 0
  else bif Nat.blt k 107 then bif Nat.blt k 105 then bif Nat.beq k 104 then 1 else 0
  else bif Nat.blt k 106 then bif Nat.beq k 105 then 3 else 0
  else bif Nat.beq k 106 then 2 else 0
  else bif Nat.blt k 109 then bif Nat.blt k 108 then bif Nat.beq k 107 then 3 else 0
  else bif Nat.beq k 108 then 2 else 0
  else bif Nat.blt k 110 then bif Nat.beq k 109 then 0 else 0
  else bif Nat.beq k 110 then 2 else 0
  else bif Nat.blt k 166 then bif Nat.blt k 138 then bif Nat.blt k 124 then bif Nat.blt k 117 then bif Nat.blt k 114 then bif Nat.blt k 112 then bif Nat.beq k 111 then 3 else 0
  else bif Nat.blt k 113 then bif Nat.beq k 112 then 2 else 0
  else bif Nat.beq k 113 then 2 else 0
  else bif Nat.blt k 115 then bif Nat.beq k 114 then 1 else 0
  else bif Nat.blt k 116 then bif Nat.beq k 115 then 2 else 0
  else bif Nat.beq k 116 then 1 else 0
  else bif Nat.blt k 120 then bif Nat.blt k 118 then bif Nat.beq k 117 then 5 else 0
  else bif Nat.blt k 119 then bif Nat.beq k 118 then 1 else 0
  else bif Nat.beq k 119 then 0 else 0
  else bif Nat.blt k 122 then bif Nat.blt k 121 then bif Nat.beq k 120 then 0 else 0
  else bif Nat.beq k 121 then 2 else 0
  else bif Nat.blt k 123 then bif Nat.beq k 122 then 1 else 0
  else bif Nat.beq k 123 then 1 else 0
  else bif Nat.blt k 131 then bif Nat.blt k 127 then bif Nat.blt k 125 then bif Nat.beq k 124 then 1 else 0
  else bif Nat.blt k 126 then bif Nat.beq k 125 then 2 else 0
  else bif Nat.beq k 126 then 1 else 0
  else bif Nat.blt k 129 then bif Nat.blt k 128 then bif Nat.beq k 127 then 0 else 0
  else bif Nat.beq k 128 then 0 else 0
  else bif Nat.blt k 130 then bif Nat.beq k 129 then 0 else 0
  else bif Nat.beq k 130 then 2 else 0
  else bif Nat.blt k 134 then bif Nat.blt k 132 then bif Nat.beq k 131 then 1 else 0
  else bif Nat.blt k 133 then bif Nat.beq k 132 then 1 else 0
  else bif Nat.beq k 133 then 0 else 0
  else bif Nat.blt k 136 then bif Nat.blt k 135 then bif Nat.beq k 134 then 1 else 0
  else bif Nat.beq k 135 then 0 else 0
  else bif Nat.blt k 137 then bif Nat.beq k 136 then 1 else 0
  else bif Nat.beq k 137 then 0 else 0
  else bif Nat.blt k 152 then bif Nat.blt k 145 then bif Nat.blt k 141 then bif Nat.blt k 139 then bif Nat.beq k 138 then 0 else 0
  else bif Nat.blt k 140 then bif Nat.beq k 139 then 1 else 0
  else bif Nat.beq k 140 then 1 else 0
  else bif Nat.blt k 143 then bif Nat.blt k 142 then bif Nat.beq k 141 then 1 else 0
  else bif Nat.beq k 142 then 2 else 0
  else bif Nat.blt k 144 then bif Nat.beq k 143 then 0 else 0
  else bif Nat.beq k 144 then 2 else 0
  else bif Nat.blt k 148 then bif Nat.blt k 146 then bif Nat.beq k 145 then 2 else 0
  else bif Nat.blt k 147 then bif Nat.beq k 146 then 2 else 0
  else bif Nat.beq k 147 then 1 else 0
  else bif Nat.blt k 150 then bif Nat.blt k 149 then bif Nat.beq k 148 then 3 else 0
  else bif Nat.beq k 149 then 1 else 0
  else bif Nat.blt k 151 then bif Nat.beq k 150 then 1 else 0
  else bif Nat.beq k 151 then 2 else 0
  else bif Nat.blt k 159 then bif Nat.blt k 155 then bif Nat.blt k 153 then bif Nat.beq k 152 then 1 else 0
  else bif Nat.blt k 154 then bif Nat.beq k 153 then 1 else 0
  else bif Nat.beq k 154 then 1 else 0
  else bif Nat.blt k 157 then bif Nat.blt k 156 then bif Nat.beq k 155 then 0 else 0
  else bif Nat.beq k 156 then 1 else 0
  else bif Nat.blt k 158 then bif Nat.beq k 157 then 2 else 0
  else bif Nat.beq k 158 then 3 else 0
  else bif Nat.blt k 162 then bif Nat.blt k 160 then bif Nat.beq k 159 then 2 else 0
  else bif Nat.blt k 161 then bif Nat.beq k 160 then 3 else 0
  else bif Nat.beq k 161 then 1 else 0
  else bif Nat.blt k 164 then bif Nat.blt k 163 then bif Nat.beq k 162 then 1 else 0
  else bif Nat.beq k 163 then 2 else 0
  else bif Nat.blt k 165 then bif Nat.beq k 164 then 1 else 0
  else bif Nat.beq k 165 then 1 else 0
  else bif Nat.blt k 194 then bif Nat.blt k 180 then bif Nat.blt k 173 then bif Nat.blt k 169 then bif Nat.blt k 167 then bif Nat.beq k 166 then 1 else 0
  else bif Nat.blt k 168 then bif Nat.beq k 167 then 1 else 0
  else bif Nat.beq k 168 then 1 else 0
  else bif Nat.blt k 171 then bif Nat.blt k 170 then bif Nat.beq k 169 then 1 else 0
  else bif Nat.beq k 170 then 1 else 0
  else bif Nat.blt k 172 then bif Nat.beq k 171 then 0 else 0
  else bif Nat.beq k 172 then 0 else 0
  else bif Nat.blt k 176 then bif Nat.blt k 174 then bif Nat.beq k 173 then 0 else 0
  else bif Nat.blt k 175 then bif Nat.beq k 174 then 0 else 0
  else bif Nat.beq k 175 then 2 else 0
  else bif Nat.blt k 178 then bif Nat.blt k 177 then bif Nat.beq k 176 then 2 else 0
  else bif Nat.beq k 177 then 2 else 0
  else bif Nat.blt k 179 then bif Nat.beq k 178 then 2 else 0
  else bif Nat.beq k 179 then 1 else 0
  else bif Nat.blt k 187 then bif Nat.blt k 183 then bif Nat.blt k 181 then bif Nat.beq k 180 then 0 else 0
  else bif Nat.blt k 182 then bif Nat.beq k 181 then 0 else 0
  else bif Nat.beq k 182 then 1 else 0
  else bif Nat.blt k 185 then bif Nat.blt k 184 then bif Nat.beq k 183 then 0 else 0
  else bif Nat.beq k 184 then 1 else 0
  else bif Nat.blt k 186 then bif Nat.beq k 185 then 1 else 0
  else bif Nat.beq k 186 then 2 else 0
  else bif Nat.blt k 190 then bif Nat.blt k 188 then bif Nat.beq k 187 then 1 else 0
  else bif Nat.blt k 189 then bif Nat.beq k 188 then 1 else 0
  else bif Nat.beq k 189 then 0 else 0
  else bif Nat.blt k 192 then bif Nat.blt k 191 then bif Nat.beq k 190 then 0 else 0
  else bif Nat.beq k 191 then 0 else 0
  else bif Nat.blt k 193 then bif Nat.beq k 192 then 1 else 0
  else bif Nat.beq k 193 then 1 else 0
  else bif Nat.blt k 208 then bif Nat.blt k 201 then bif Nat.blt k 197 then bif Nat.blt k 195 then bif Nat.beq k 194 then 0 else 0
  else bif Nat.blt k 196 then bif Nat.beq k 195 then 1 else 0
  else bif Nat.beq k 196 then 3 else 0
  else bif Nat.blt k 199 then bif Nat.blt k 198 then bif Nat.beq k 197 then 1 else 0
  else bif Nat.beq k 198 then 1 else 0
  else bif Nat.blt k 200 then bif Nat.beq k 199 then 0 else 0
  else bif Nat.beq k 200 then 1 else 0
  else bif Nat.blt k 204 then bif Nat.blt k 202 then bif Nat.beq k 201 then 0 else 0
  else bif Nat.blt k 203 then bif Nat.beq k 202 then 0 else 0
  else bif Nat.beq k 203 then 3 else 0
  else bif Nat.blt k 206 then bif Nat.blt k 205 then bif Nat.beq k 204 then 4 else 0
  else bif Nat.beq k 205 then 4 else 0
  else bif Nat.blt k 207 then bif Nat.beq k 206 then 4 else 0
  else bif Nat.beq k 207 then 4 else 0
  else bif Nat.blt k 215 then bif Nat.blt k 211 then bif Nat.blt k 209 then bif Nat.beq k 208 then 3 else 0
  else bif Nat.blt k 210 then bif Nat.beq k 209 then 3 else 0
  else bif Nat.beq k 210 then 3 else 0
  else bif Nat.blt k 213 then bif Nat.blt k 212 then bif Nat.beq k 211 then 4 else 0
  else bif Nat.beq k 212 then 3 else 0
  else bif Nat.blt k 214 then bif Nat.beq k 213 then 3 else 0
  else bif Nat.beq k 214 then 3 else 0
  else bif Nat.blt k 218 then bif Nat.blt k 216 then bif Nat.beq k 215 then 3 else 0
  else bif Nat.blt k 217 then bif Nat.beq k 216 then 3 else 0
  else bif Nat.beq k 217 then 5 else 0
  else bif Nat.blt k 220 then bif Nat.blt k 219 then bif Nat.beq k 218 then 3 else 0
  else bif Nat.beq k 219 then 3 else 0
  else bif Nat.blt k 221 then bif Nat.beq k 220 then 3 else 0
  else bif Nat.beq k 221 then 1 else 0
def hhOf (k : Nat) : List (Nat × Nat × Nat × Nat) :=
  bif Nat.blt k 212 then bif Nat.blt k 207 then bif Nat.blt k 205 then bif Nat.blt k 204 then bif Nat.beq k 203 then [(0, 9, 12, 13)] else []
  else bif Nat.beq k 204 then [(0, 10, 13, 19), (0, 10, 17, 13)] else []
  else bif Nat.blt k 206 then bif Nat.beq k 205 then [(0, 17, 20, 19)] else []
  else bif Nat.beq k 206 then [(0, 10, 13, 19)] else []
  else bif Nat.blt k 209 then bif Nat.blt k 208 then bif Nat.beq k 207 then [(0, 10, 13, 19)] else []
  else bif Nat.beq k 208 then [(0, 9, 12, 19)] else []
  else bif Nat.blt k 210 then bif Nat.beq k 209 then [(0, 9, 12, 19)] else []
  else bif Nat.blt k 211 then bif Nat.beq k 210 then [(0, 9, 12, 19)] else []
  else bif Nat.beq k 211 then [(0, 10, 13, 19), (0, 10, 17, 43)] else []
  else bif Nat.blt k 216 then bif Nat.blt k 214 then bif Nat.blt k 213 then bif Nat.beq k 212 then [(0, 9, 12, 19)] else []
  else bif Nat.beq k 213 then [(0, 9, 12, 19)] else []
  else bif Nat.blt k 215 then bif Nat.beq k 214 then [(0, 9, 12, 19)] else []
  else bif Nat.beq k 215 then [(0, 9, 12, 19), (0, 9, 15, 57)] else []
  else bif Nat.blt k 218 then bif Nat.blt k 217 then bif Nat.beq k 216 then [(0, 9, 12, 19), (0, 9, 15, 57)] else []
  else bif Nat.beq k 217 then [(0, 12, 15, 19), (0, 12, 19, 57)] else []
  else bif Nat.blt k 219 then bif Nat.beq k 218 then [(0, 9, 12, 19), (0, 9, 15, 57)] else []
  else bif Nat.blt k 220 then bif Nat.beq k 219 then [(0, 9, 12, 19), (0, 9, 15, 57)] else []
  else bif Nat.beq k 220 then [(0, 9, 12, 13)] else []
def fres (k : Nat) : Option (Nat × Nat × Bool) :=
  bif Nat.blt k 9000 then bif Nat.blt k 6048 then bif Nat.blt k 4032 then bif Nat.blt k 2024 then bif Nat.blt k 1027 then bif Nat.blt k 1011 then bif Nat.blt k 15 then bif Nat.beq k 9 then some (0, 0, false) else none
  else bif Nat.blt k 18 then bif Nat.beq k 15 then some (0, 1, false) else none
  else bif Nat.beq k 18 then some (0, 2, false) else none
  else bif Nat.blt k 1019 then bif Nat.beq k 1011 then some (1, 0, false) else none
  else bif Nat.blt k 1023 then bif Nat.beq k 1019 then some (1, 1, false) else none
  else bif Nat.beq k 1023 then some (1, 2, false) else none
  else bif Nat.blt k 2015 then bif Nat.blt k 1031 then bif Nat.beq k 1027 then some (1, 3, false) else none
  else bif Nat.blt k 2009 then bif Nat.beq k 1031 then some (1, 4, false) else none
  else bif Nat.beq k 2009 then some (2, 4, false) else none
  else bif Nat.blt k 2018 then bif Nat.beq k 2015 then some (2, 5, false) else none
  else bif Nat.blt k 2021 then bif Nat.beq k 2018 then some (2, 6, false) else none
  else bif Nat.beq k 2021 then some (2, 7, false) else none
  else bif Nat.blt k 3009 then bif Nat.blt k 2034 then bif Nat.blt k 2027 then bif Nat.beq k 2024 then some (2, 8, false) else none
  else bif Nat.blt k 2030 then bif Nat.beq k 2027 then some (2, 9, false) else none
  else bif Nat.beq k 2030 then some (2, 0, false) else none
  else bif Nat.blt k 2037 then bif Nat.beq k 2034 then some (2, 1, false) else none
  else bif Nat.blt k 2040 then bif Nat.beq k 2037 then some (2, 2, false) else none
  else bif Nat.beq k 2040 then some (2, 3, false) else none
  else bif Nat.blt k 3021 then bif Nat.blt k 3015 then bif Nat.beq k 3009 then some (3, 1, false) else none
  else bif Nat.blt k 3018 then bif Nat.beq k 3015 then some (3, 2, false) else none
  else bif Nat.beq k 3018 then some (3, 3, false) else none
  else bif Nat.blt k 4021 then bif Nat.blt k 4012 then bif Nat.beq k 3021 then some (3, 0, false) else none
  else bif Nat.beq k 4012 then some (4, 0, false) else none
  else bif Nat.blt k 4028 then bif Nat.beq k 4021 then some (4, 1, false) else none
  else bif Nat.beq k 4028 then some (4, 2, false) else none
  else bif Nat.blt k 5021 then bif Nat.blt k 4067 then bif Nat.blt k 4058 then bif Nat.blt k 4044 then bif Nat.beq k 4032 then some (2, 8, true) else none
  else bif Nat.blt k 4054 then bif Nat.beq k 4044 then some (3, 2, true) else none
  else bif Nat.beq k 4054 then some (2, 1, true) else none
  else bif Nat.blt k 4061 then bif Nat.beq k 4058 then some (3, 1, true) else none
  else bif Nat.blt k 4064 then bif Nat.beq k 4061 then some (5, 1, true) else none
  else bif Nat.beq k 4064 then some (5, 2, true) else none
  else bif Nat.blt k 4108 then bif Nat.blt k 4074 then bif Nat.beq k 4067 then some (5, 0, true) else none
  else bif Nat.blt k 4078 then bif Nat.beq k 4074 then some (2, 6, true) else none
  else bif Nat.beq k 4078 then some (3, 0, true) else none
  else bif Nat.blt k 5015 then bif Nat.blt k 5009 then bif Nat.beq k 4108 then some (2, 2, true) else none
  else bif Nat.beq k 5009 then some (5, 0, false) else none
  else bif Nat.blt k 5018 then bif Nat.beq k 5015 then some (5, 1, false) else none
  else bif Nat.beq k 5018 then some (5, 2, false) else none
  else bif Nat.blt k 6025 then bif Nat.blt k 5059 then bif Nat.blt k 5031 then bif Nat.beq k 5021 then some (5, 3, false) else none
  else bif Nat.blt k 5037 then bif Nat.beq k 5031 then some (2, 2, true) else none
  else bif Nat.beq k 5037 then some (2, 0, true) else none
  else bif Nat.blt k 6009 then bif Nat.beq k 5059 then some (2, 5, true) else none
  else bif Nat.blt k 6018 then bif Nat.beq k 6009 then some (6, 0, false) else none
  else bif Nat.beq k 6018 then some (6, 1, false) else none
  else bif Nat.blt k 6036 then bif Nat.blt k 6029 then bif Nat.beq k 6025 then some (6, 2, false) else none
  else bif Nat.blt k 6033 then bif Nat.beq k 6029 then some (6, 3, false) else none
  else bif Nat.beq k 6033 then some (6, 4, false) else none
  else bif Nat.blt k 6042 then bif Nat.blt k 6039 then bif Nat.beq k 6036 then some (6, 5, false) else none
  else bif Nat.beq k 6039 then some (6, 6, false) else none
  else bif Nat.blt k 6045 then bif Nat.beq k 6042 then some (6, 7, false) else none
  else bif Nat.beq k 6045 then some (6, 8, false) else none
  else bif Nat.blt k 7114 then bif Nat.blt k 7027 then bif Nat.blt k 6137 then bif Nat.blt k 6071 then bif Nat.blt k 6052 then bif Nat.beq k 6048 then some (6, 9, false) else none
  else bif Nat.blt k 6055 then bif Nat.beq k 6052 then some (6, 10, false) else none
  else bif Nat.beq k 6055 then some (6, 11, false) else none
  else bif Nat.blt k 6074 then bif Nat.beq k 6071 then some (2, 0, true) else none
  else bif Nat.blt k 6118 then bif Nat.beq k 6074 then some (2, 1, true) else none
  else bif Nat.beq k 6118 then some (2, 2, true) else none
  else bif Nat.blt k 6173 then bif Nat.blt k 6159 then bif Nat.beq k 6137 then some (2, 3, true) else none
  else bif Nat.blt k 6167 then bif Nat.beq k 6159 then some (2, 5, true) else none
  else bif Nat.beq k 6167 then some (2, 8, true) else none
  else bif Nat.blt k 7012 then bif Nat.beq k 6173 then some (2, 6, true) else none
  else bif Nat.blt k 7019 then bif Nat.beq k 7012 then some (7, 0, false) else none
  else bif Nat.beq k 7019 then some (7, 1, false) else none
  else bif Nat.blt k 7085 then bif Nat.blt k 7041 then bif Nat.blt k 7032 then bif Nat.beq k 7027 then some (7, 2, false) else none
  else bif Nat.blt k 7037 then bif Nat.beq k 7032 then some (7, 3, false) else none
  else bif Nat.beq k 7037 then some (7, 4, false) else none
  else bif Nat.blt k 7045 then bif Nat.beq k 7041 then some (7, 5, false) else none
  else bif Nat.blt k 7068 then bif Nat.beq k 7045 then some (6, 3, true) else none
  else bif Nat.beq k 7068 then some (6, 1, true) else none
  else bif Nat.blt k 7094 then bif Nat.blt k 7088 then bif Nat.beq k 7085 then some (2, 2, true) else none
  else bif Nat.blt k 7091 then bif Nat.beq k 7088 then some (6, 11, true) else none
  else bif Nat.beq k 7091 then some (2, 0, true) else none
  else bif Nat.blt k 7103 then bif Nat.blt k 7097 then bif Nat.beq k 7094 then some (2, 3, true) else none
  else bif Nat.beq k 7097 then some (3, 0, true) else none
  else bif Nat.blt k 7111 then bif Nat.beq k 7103 then some (2, 4, true) else none
  else bif Nat.beq k 7111 then some (2, 5, true) else none
  else bif Nat.blt k 8028 then bif Nat.blt k 7195 then bif Nat.blt k 7138 then bif Nat.blt k 7126 then bif Nat.beq k 7114 then some (2, 8, true) else none
  else bif Nat.blt k 7135 then bif Nat.beq k 7126 then some (5, 0, true) else none
  else bif Nat.beq k 7135 then some (5, 3, true) else none
  else bif Nat.blt k 7152 then bif Nat.beq k 7138 then some (2, 6, true) else none
  else bif Nat.blt k 7155 then bif Nat.beq k 7152 then some (3, 1, true) else none
  else bif Nat.beq k 7155 then some (3, 2, true) else none
  else bif Nat.blt k 8013 then bif Nat.blt k 7243 then bif Nat.beq k 7195 then some (2, 9, true) else none
  else bif Nat.blt k 8009 then bif Nat.beq k 7243 then some (1, 3, true) else none
  else bif Nat.beq k 8009 then some (8, 1, false) else none
  else bif Nat.blt k 8020 then bif Nat.blt k 8017 then bif Nat.beq k 8013 then some (8, 7, false) else none
  else bif Nat.beq k 8017 then some (8, 8, false) else none
  else bif Nat.blt k 8023 then bif Nat.beq k 8020 then some (8, 9, false) else none
  else bif Nat.beq k 8023 then some (8, 10, false) else none
  else bif Nat.blt k 8047 then bif Nat.blt k 8038 then bif Nat.blt k 8031 then bif Nat.beq k 8028 then some (8, 11, false) else none
  else bif Nat.blt k 8034 then bif Nat.beq k 8031 then some (8, 16, false) else none
  else bif Nat.beq k 8034 then some (8, 17, false) else none
  else bif Nat.blt k 8041 then bif Nat.beq k 8038 then some (8, 0, false) else none
  else bif Nat.blt k 8044 then bif Nat.beq k 8041 then some (8, 2, false) else none
  else bif Nat.beq k 8044 then some (8, 3, false) else none
  else bif Nat.blt k 8089 then bif Nat.blt k 8054 then bif Nat.beq k 8047 then some (8, 4, false) else none
  else bif Nat.blt k 8057 then bif Nat.beq k 8054 then some (8, 5, false) else none
  else bif Nat.beq k 8057 then some (8, 6, false) else none
  else bif Nat.blt k 8127 then bif Nat.blt k 8097 then bif Nat.beq k 8089 then some (8, 13, false) else none
  else bif Nat.beq k 8097 then some (8, 14, false) else none
  else bif Nat.blt k 8292 then bif Nat.beq k 8127 then some (8, 15, false) else none
  else bif Nat.beq k 8292 then some (8, 12, false) else none
  else none
def mres (k : Nat) : Option (Nat × Nat) :=
  bif Nat.blt k 10000 then bif Nat.blt k 8140 then bif Nat.blt k 6143 then bif Nat.blt k 4114 then bif Nat.blt k 3033 then bif Nat.blt k 2043 then bif Nat.blt k 36 then bif Nat.blt k 26 then bif Nat.beq k 22 then some (107, 2) else none
  else bif Nat.blt k 30 then bif Nat.beq k 26 then some (106, 2) else none
  else bif Nat.beq k 30 then some (4, 1) else none
  else bif Nat.blt k 1040 then bif Nat.blt k 1036 then bif Nat.beq k 36 then some (105, 2) else none
  else bif Nat.beq k 1036 then some (5, 0) else none
  else bif Nat.blt k 1044 then bif Nat.beq k 1040 then some (9, 0) else none
  else bif Nat.beq k 1044 then some (20, 0) else none
  else bif Nat.blt k 2059 then bif Nat.blt k 2051 then bif Nat.blt k 2047 then bif Nat.beq k 2043 then some (108, 2) else none
  else bif Nat.beq k 2047 then some (11, 0) else none
  else bif Nat.blt k 2055 then bif Nat.beq k 2051 then some (107, 2) else none
  else bif Nat.beq k 2055 then some (15, 0) else none
  else bif Nat.blt k 3025 then bif Nat.blt k 2063 then bif Nat.beq k 2059 then some (106, 2) else none
  else bif Nat.beq k 2063 then some (14, 0) else none
  else bif Nat.blt k 3029 then bif Nat.beq k 3025 then some (108, 2) else none
  else bif Nat.beq k 3029 then some (107, 2) else none
  else bif Nat.blt k 4085 then bif Nat.blt k 4047 then bif Nat.blt k 4036 then bif Nat.blt k 3037 then bif Nat.beq k 3033 then some (106, 2) else none
  else bif Nat.beq k 3037 then some (24, 0) else none
  else bif Nat.blt k 4040 then bif Nat.beq k 4036 then some (106, 2) else none
  else bif Nat.beq k 4040 then some (23, 0) else none
  else bif Nat.blt k 4070 then bif Nat.blt k 4051 then bif Nat.beq k 4047 then some (22, 0) else none
  else bif Nat.beq k 4051 then some (29, 0) else none
  else bif Nat.blt k 4081 then bif Nat.beq k 4070 then some (31, 0) else none
  else bif Nat.beq k 4081 then some (30, 0) else none
  else bif Nat.blt k 4098 then bif Nat.blt k 4091 then bif Nat.blt k 4088 then bif Nat.beq k 4085 then some (33, 0) else none
  else bif Nat.beq k 4088 then some (36, 0) else none
  else bif Nat.blt k 4095 then bif Nat.beq k 4091 then some (25, 0) else none
  else bif Nat.beq k 4095 then some (24, 0) else none
  else bif Nat.blt k 4105 then bif Nat.blt k 4101 then bif Nat.beq k 4098 then some (34, 0) else none
  else bif Nat.beq k 4101 then some (26, 0) else none
  else bif Nat.blt k 4111 then bif Nat.beq k 4105 then some (37, 0) else none
  else bif Nat.beq k 4111 then some (39, 0) else none
  else bif Nat.blt k 6077 then bif Nat.blt k 5062 then bif Nat.blt k 5044 then bif Nat.blt k 5028 then bif Nat.blt k 5024 then bif Nat.beq k 4114 then some (38, 0) else none
  else bif Nat.beq k 5024 then some (42, 0) else none
  else bif Nat.blt k 5040 then bif Nat.beq k 5028 then some (43, 0) else none
  else bif Nat.beq k 5040 then some (44, 0) else none
  else bif Nat.blt k 5051 then bif Nat.blt k 5048 then bif Nat.beq k 5044 then some (107, 2) else none
  else bif Nat.beq k 5048 then some (45, 0) else none
  else bif Nat.blt k 5054 then bif Nat.beq k 5051 then some (46, 0) else none
  else bif Nat.beq k 5054 then some (17, 0) else none
  else bif Nat.blt k 5082 then bif Nat.blt k 5076 then bif Nat.blt k 5066 then bif Nat.beq k 5062 then some (106, 2) else none
  else bif Nat.beq k 5066 then some (14, 0) else none
  else bif Nat.blt k 5079 then bif Nat.beq k 5076 then some (15, 0) else none
  else bif Nat.beq k 5079 then some (48, 1) else none
  else bif Nat.blt k 6063 then bif Nat.blt k 6058 then bif Nat.beq k 5082 then some (47, 1) else none
  else bif Nat.beq k 6058 then some (51, 0) else none
  else bif Nat.blt k 6067 then bif Nat.beq k 6063 then some (62, 0) else none
  else bif Nat.beq k 6067 then some (61, 0) else none
  else bif Nat.blt k 6111 then bif Nat.blt k 6097 then bif Nat.blt k 6087 then bif Nat.blt k 6083 then bif Nat.beq k 6077 then some (63, 0) else none
  else bif Nat.beq k 6083 then some (64, 0) else none
  else bif Nat.blt k 6092 then bif Nat.beq k 6087 then some (52, 0) else none
  else bif Nat.beq k 6092 then some (53, 0) else none
  else bif Nat.blt k 6105 then bif Nat.blt k 6102 then bif Nat.beq k 6097 then some (55, 0) else none
  else bif Nat.beq k 6102 then some (65, 0) else none
  else bif Nat.blt k 6108 then bif Nat.beq k 6105 then some (56, 0) else none
  else bif Nat.beq k 6108 then some (60, 0) else none
  else bif Nat.blt k 6125 then bif Nat.blt k 6117 then bif Nat.blt k 6114 then bif Nat.beq k 6111 then some (59, 0) else none
  else bif Nat.beq k 6114 then some (8, 0) else none
  else bif Nat.blt k 6121 then bif Nat.beq k 6117 then some (0, 0) else none
  else bif Nat.beq k 6121 then some (10, 0) else none
  else bif Nat.blt k 6133 then bif Nat.blt k 6129 then bif Nat.beq k 6125 then some (54, 0) else none
  else bif Nat.beq k 6129 then some (13, 0) else none
  else bif Nat.blt k 6140 then bif Nat.beq k 6133 then some (16, 0) else none
  else bif Nat.beq k 6140 then some (12, 0) else none
  else bif Nat.blt k 7185 then bif Nat.blt k 7075 then bif Nat.blt k 6180 then bif Nat.blt k 6154 then bif Nat.blt k 6146 then bif Nat.beq k 6143 then some (57, 0) else none
  else bif Nat.blt k 6149 then bif Nat.beq k 6146 then some (2, 0) else none
  else bif Nat.beq k 6149 then some (58, 0) else none
  else bif Nat.blt k 6170 then bif Nat.blt k 6163 then bif Nat.beq k 6154 then some (1, 0) else none
  else bif Nat.beq k 6163 then some (106, 2) else none
  else bif Nat.blt k 6176 then bif Nat.beq k 6170 then some (3, 0) else none
  else bif Nat.beq k 6176 then some (105, 2) else none
  else bif Nat.blt k 7049 then bif Nat.blt k 6196 then bif Nat.blt k 6189 then bif Nat.beq k 6180 then some (107, 2) else none
  else bif Nat.beq k 6189 then some (66, 0) else none
  else bif Nat.blt k 6206 then bif Nat.beq k 6196 then some (67, 1) else none
  else bif Nat.beq k 6206 then some (68, 1) else none
  else bif Nat.blt k 7064 then bif Nat.blt k 7060 then bif Nat.beq k 7049 then some (49, 0) else none
  else bif Nat.beq k 7060 then some (50, 0) else none
  else bif Nat.blt k 7069 then bif Nat.beq k 7064 then some (6, 0) else none
  else bif Nat.beq k 7069 then some (9, 0) else none
  else bif Nat.blt k 7141 then bif Nat.blt k 7119 then bif Nat.blt k 7100 then bif Nat.blt k 7080 then bif Nat.beq k 7075 then some (41, 0) else none
  else bif Nat.beq k 7080 then some (19, 0) else none
  else bif Nat.blt k 7107 then bif Nat.beq k 7100 then some (101, 0) else none
  else bif Nat.beq k 7107 then some (106, 1) else none
  else bif Nat.blt k 7129 then bif Nat.blt k 7122 then bif Nat.beq k 7119 then some (102, 0) else none
  else bif Nat.beq k 7122 then some (17, 0) else none
  else bif Nat.blt k 7132 then bif Nat.beq k 7129 then some (104, 1) else none
  else bif Nat.beq k 7132 then some (100, 0) else none
  else bif Nat.blt k 7167 then bif Nat.blt k 7149 then bif Nat.blt k 7145 then bif Nat.beq k 7141 then some (18, 0) else none
  else bif Nat.beq k 7145 then some (47, 2) else none
  else bif Nat.blt k 7158 then bif Nat.beq k 7149 then some (103, 0) else none
  else bif Nat.beq k 7158 then some (22, 0) else none
  else bif Nat.blt k 7173 then bif Nat.blt k 7170 then bif Nat.beq k 7167 then some (29, 0) else none
  else bif Nat.beq k 7170 then some (32, 0) else none
  else bif Nat.blt k 7177 then bif Nat.beq k 7173 then some (28, 0) else none
  else bif Nat.beq k 7177 then some (23, 0) else none
  else bif Nat.blt k 8060 then bif Nat.blt k 7229 then bif Nat.blt k 7211 then bif Nat.blt k 7201 then bif Nat.blt k 7198 then bif Nat.beq k 7185 then some (36, 0) else none
  else bif Nat.beq k 7198 then some (21, 0) else none
  else bif Nat.blt k 7204 then bif Nat.beq k 7201 then some (30, 0) else none
  else bif Nat.beq k 7204 then some (33, 0) else none
  else bif Nat.blt k 7220 then bif Nat.blt k 7217 then bif Nat.beq k 7211 then some (25, 0) else none
  else bif Nat.beq k 7217 then some (24, 0) else none
  else bif Nat.blt k 7225 then bif Nat.beq k 7220 then some (34, 0) else none
  else bif Nat.beq k 7225 then some (26, 0) else none
  else bif Nat.blt k 7246 then bif Nat.blt k 7235 then bif Nat.blt k 7232 then bif Nat.beq k 7229 then some (35, 0) else none
  else bif Nat.beq k 7232 then some (27, 0) else none
  else bif Nat.blt k 7240 then bif Nat.beq k 7235 then some (38, 0) else none
  else bif Nat.beq k 7240 then some (40, 0) else none
  else bif Nat.blt k 7255 then bif Nat.blt k 7250 then bif Nat.beq k 7246 then some (7, 0) else none
  else bif Nat.beq k 7250 then some (88, 0) else none
  else bif Nat.blt k 8050 then bif Nat.beq k 7255 then some (89, 0) else none
  else bif Nat.beq k 8050 then some (118, 0) else none
  else bif Nat.blt k 8109 then bif Nat.blt k 8085 then bif Nat.blt k 8068 then bif Nat.blt k 8064 then bif Nat.beq k 8060 then some (111, 1) else none
  else bif Nat.beq k 8064 then some (120, 0) else none
  else bif Nat.blt k 8081 then bif Nat.beq k 8068 then some (119, 0) else none
  else bif Nat.beq k 8081 then some (121, 0) else none
  else bif Nat.blt k 8100 then bif Nat.blt k 8093 then bif Nat.beq k 8085 then some (122, 1) else none
  else bif Nat.beq k 8093 then some (112, 1) else none
  else bif Nat.blt k 8103 then bif Nat.beq k 8100 then some (129, 0) else none
  else bif Nat.beq k 8103 then some (124, 0) else none
  else bif Nat.blt k 8124 then bif Nat.blt k 8118 then bif Nat.blt k 8115 then bif Nat.beq k 8109 then some (123, 0) else none
  else bif Nat.beq k 8115 then some (125, 0) else none
  else bif Nat.blt k 8121 then bif Nat.beq k 8118 then some (126, 0) else none
  else bif Nat.beq k 8121 then some (127, 0) else none
  else bif Nat.blt k 8133 then bif Nat.blt k 8130 then bif Nat.beq k 8124 then some (128, 0) else none
  else bif Nat.beq k 8130 then some (114, 1) else none
  else bif Nat.blt k 8136 then bif Nat.beq k 8133 then some (132, 0) else none
  else bif Nat.beq k 8136 then some (115, 1) else none
  else bif Nat.blt k 9079 then bif Nat.blt k 8253 then bif Nat.blt k 8199 then bif Nat.blt k 8169 then bif Nat.blt k 8154 then bif Nat.blt k 8144 then bif Nat.beq k 8140 then some (131, 0) else none
  else bif Nat.blt k 8149 then bif Nat.beq k 8144 then some (133, 0) else none
  else bif Nat.beq k 8149 then some (134, 0) else none
  else bif Nat.blt k 8163 then bif Nat.blt k 8157 then bif Nat.beq k 8154 then some (130, 0) else none
  else bif Nat.beq k 8157 then some (110, 0) else none
  else bif Nat.blt k 8166 then bif Nat.beq k 8163 then some (135, 0) else none
  else bif Nat.beq k 8166 then some (194, 0) else none
  else bif Nat.blt k 8182 then bif Nat.blt k 8176 then bif Nat.blt k 8173 then bif Nat.beq k 8169 then some (113, 1) else none
  else bif Nat.beq k 8173 then some (143, 0) else none
  else bif Nat.blt k 8179 then bif Nat.beq k 8176 then some (140, 0) else none
  else bif Nat.beq k 8179 then some (139, 0) else none
  else bif Nat.blt k 8189 then bif Nat.blt k 8185 then bif Nat.beq k 8182 then some (138, 0) else none
  else bif Nat.beq k 8185 then some (142, 0) else none
  else bif Nat.blt k 8192 then bif Nat.beq k 8189 then some (141, 0) else none
  else bif Nat.beq k 8192 then some (145, 0) else none
  else bif Nat.blt k 8227 then bif Nat.blt k 8215 then bif Nat.blt k 8209 then bif Nat.blt k 8203 then bif Nat.beq k 8199 then some (147, 1) else none
  else bif Nat.beq k 8203 then some (148, 1) else none
  else bif Nat.blt k 8212 then bif Nat.beq k 8209 then some (116, 1) else none
  else bif Nat.beq k 8212 then some (150, 0) else none
  else bif Nat.blt k 8221 then bif Nat.blt k 8218 then bif Nat.beq k 8215 then some (151, 0) else none
  else bif Nat.beq k 8218 then some (144, 0) else none
  else bif Nat.blt k 8224 then bif Nat.beq k 8221 then some (149, 0) else none
  else bif Nat.beq k 8224 then some (154, 0) else none
  else bif Nat.blt k 8240 then bif Nat.blt k 8233 then bif Nat.blt k 8230 then bif Nat.beq k 8227 then some (152, 0) else none
  else bif Nat.beq k 8230 then some (157, 0) else none
  else bif Nat.blt k 8236 then bif Nat.beq k 8233 then some (153, 0) else none
  else bif Nat.beq k 8236 then some (158, 0) else none
  else bif Nat.blt k 8246 then bif Nat.blt k 8243 then bif Nat.beq k 8240 then some (159, 0) else none
  else bif Nat.beq k 8243 then some (156, 0) else none
  else bif Nat.blt k 8250 then bif Nat.beq k 8246 then some (160, 0) else none
  else bif Nat.beq k 8250 then some (155, 0) else none
  else bif Nat.blt k 9021 then bif Nat.blt k 8277 then bif Nat.blt k 8265 then bif Nat.blt k 8259 then bif Nat.blt k 8256 then bif Nat.beq k 8253 then some (162, 0) else none
  else bif Nat.beq k 8256 then some (163, 0) else none
  else bif Nat.blt k 8262 then bif Nat.beq k 8259 then some (164, 0) else none
  else bif Nat.beq k 8262 then some (166, 0) else none
  else bif Nat.blt k 8271 then bif Nat.blt k 8268 then bif Nat.beq k 8265 then some (167, 0) else none
  else bif Nat.beq k 8268 then some (170, 1) else none
  else bif Nat.blt k 8274 then bif Nat.beq k 8271 then some (168, 0) else none
  else bif Nat.beq k 8274 then some (146, 0) else none
  else bif Nat.blt k 8289 then bif Nat.blt k 8283 then bif Nat.blt k 8280 then bif Nat.beq k 8277 then some (180, 0) else none
  else bif Nat.beq k 8280 then some (182, 0) else none
  else bif Nat.blt k 8286 then bif Nat.beq k 8283 then some (169, 0) else none
  else bif Nat.beq k 8286 then some (161, 0) else none
  else bif Nat.blt k 9007 then bif Nat.blt k 8295 then bif Nat.beq k 8289 then some (190, 0) else none
  else bif Nat.beq k 8295 then some (165, 0) else none
  else bif Nat.blt k 9015 then bif Nat.beq k 9007 then some (70, 0) else none
  else bif Nat.beq k 9015 then some (76, 0) else none
  else bif Nat.blt k 9048 then bif Nat.blt k 9034 then bif Nat.blt k 9028 then bif Nat.blt k 9025 then bif Nat.beq k 9021 then some (77, 0) else none
  else bif Nat.beq k 9025 then some (78, 0) else none
  else bif Nat.blt k 9031 then bif Nat.beq k 9028 then some (79, 0) else none
  else bif Nat.beq k 9031 then some (80, 0) else none
  else bif Nat.blt k 9040 then bif Nat.blt k 9037 then bif Nat.beq k 9034 then some (83, 0) else none
  else bif Nat.beq k 9037 then some (84, 0) else none
  else bif Nat.blt k 9045 then bif Nat.beq k 9040 then some (85, 0) else none
  else bif Nat.beq k 9045 then some (86, 0) else none
  else bif Nat.blt k 9062 then bif Nat.blt k 9054 then bif Nat.blt k 9051 then bif Nat.beq k 9048 then some (87, 0) else none
  else bif Nat.beq k 9051 then some (90, 0) else none
  else bif Nat.blt k 9059 then bif Nat.beq k 9054 then some (91, 0) else none
  else bif Nat.beq k 9059 then some (92, 0) else none
  else bif Nat.blt k 9069 then bif Nat.blt k 9066 then bif Nat.beq k 9062 then some (93, 0) else none
  else bif Nat.beq k 9066 then some (94, 0) else none
  else bif Nat.blt k 9072 then bif Nat.beq k 9069 then some (95, 0) else none
  else bif Nat.beq k 9072 then some (97, 0) else none
  else bif Nat.blt k 9141 then bif Nat.blt k 9114 then bif Nat.blt k 9098 then bif Nat.blt k 9089 then bif Nat.blt k 9083 then bif Nat.beq k 9079 then some (69, 0) else none
  else bif Nat.blt k 9084 then bif Nat.beq k 9083 then some (117, 0) else none
  else bif Nat.beq k 9084 then some (203, 3) else none
  else bif Nat.blt k 9094 then bif Nat.blt k 9090 then bif Nat.beq k 9089 then some (136, 0) else none
  else bif Nat.beq k 9090 then some (109, 0) else none
  else bif Nat.blt k 9097 then bif Nat.beq k 9094 then some (71, 0) else none
  else bif Nat.beq k 9097 then some (137, 0) else none
  else bif Nat.blt k 9106 then bif Nat.blt k 9102 then bif Nat.blt k 9101 then bif Nat.beq k 9098 then some (72, 0) else none
  else bif Nat.beq k 9101 then some (171, 0) else none
  else bif Nat.blt k 9105 then bif Nat.beq k 9102 then some (73, 0) else none
  else bif Nat.beq k 9105 then some (172, 0) else none
  else bif Nat.blt k 9110 then bif Nat.blt k 9109 then bif Nat.beq k 9106 then some (74, 0) else none
  else bif Nat.beq k 9109 then some (173, 0) else none
  else bif Nat.blt k 9113 then bif Nat.beq k 9110 then some (75, 0) else none
  else bif Nat.beq k 9113 then some (174, 0) else none
  else bif Nat.blt k 9127 then bif Nat.blt k 9121 then bif Nat.blt k 9118 then bif Nat.blt k 9117 then bif Nat.beq k 9114 then some (204, 3) else none
  else bif Nat.beq k 9117 then some (175, 0) else none
  else bif Nat.blt k 9120 then bif Nat.beq k 9118 then some (205, 3) else none
  else bif Nat.beq k 9120 then some (176, 0) else none
  else bif Nat.blt k 9124 then bif Nat.blt k 9123 then bif Nat.beq k 9121 then some (206, 3) else none
  else bif Nat.beq k 9123 then some (177, 0) else none
  else bif Nat.blt k 9126 then bif Nat.beq k 9124 then some (207, 3) else none
  else bif Nat.beq k 9126 then some (178, 0) else none
  else bif Nat.blt k 9134 then bif Nat.blt k 9130 then bif Nat.blt k 9129 then bif Nat.beq k 9127 then some (208, 3) else none
  else bif Nat.beq k 9129 then some (179, 0) else none
  else bif Nat.blt k 9133 then bif Nat.beq k 9130 then some (81, 0) else none
  else bif Nat.beq k 9133 then some (181, 0) else none
  else bif Nat.blt k 9138 then bif Nat.blt k 9137 then bif Nat.beq k 9134 then some (82, 0) else none
  else bif Nat.beq k 9137 then some (183, 0) else none
  else bif Nat.blt k 9140 then bif Nat.beq k 9138 then some (209, 3) else none
  else bif Nat.beq k 9140 then some (184, 0) else none
  else bif Nat.blt k 9167 then bif Nat.blt k 9153 then bif Nat.blt k 9147 then bif Nat.blt k 9144 then bif Nat.blt k 9143 then bif Nat.beq k 9141 then some (210, 3) else none
  else bif Nat.beq k 9143 then some (185, 0) else none
  else bif Nat.blt k 9146 then bif Nat.beq k 9144 then some (211, 3) else none
  else bif Nat.beq k 9146 then some (186, 0) else none
  else bif Nat.blt k 9150 then bif Nat.blt k 9149 then bif Nat.beq k 9147 then some (212, 3) else none
  else bif Nat.beq k 9149 then some (187, 0) else none
  else bif Nat.blt k 9152 then bif Nat.beq k 9150 then some (213, 3) else none
  else bif Nat.beq k 9152 then some (188, 0) else none
  else bif Nat.blt k 9161 then bif Nat.blt k 9157 then bif Nat.blt k 9156 then bif Nat.beq k 9153 then some (88, 0) else none
  else bif Nat.beq k 9156 then some (189, 0) else none
  else bif Nat.blt k 9160 then bif Nat.beq k 9157 then some (89, 0) else none
  else bif Nat.beq k 9160 then some (191, 0) else none
  else bif Nat.blt k 9164 then bif Nat.blt k 9163 then bif Nat.beq k 9161 then some (214, 3) else none
  else bif Nat.beq k 9163 then some (192, 0) else none
  else bif Nat.blt k 9166 then bif Nat.beq k 9164 then some (215, 3) else none
  else bif Nat.beq k 9166 then some (193, 0) else none
  else bif Nat.blt k 9180 then bif Nat.blt k 9174 then bif Nat.blt k 9170 then bif Nat.blt k 9169 then bif Nat.beq k 9167 then some (216, 3) else none
  else bif Nat.beq k 9169 then some (195, 0) else none
  else bif Nat.blt k 9173 then bif Nat.beq k 9170 then some (217, 3) else none
  else bif Nat.beq k 9173 then some (196, 0) else none
  else bif Nat.blt k 9177 then bif Nat.blt k 9176 then bif Nat.beq k 9174 then some (218, 3) else none
  else bif Nat.beq k 9176 then some (197, 0) else none
  else bif Nat.blt k 9179 then bif Nat.beq k 9177 then some (219, 3) else none
  else bif Nat.beq k 9179 then some (198, 0) else none
  else bif Nat.blt k 9187 then bif Nat.blt k 9184 then bif Nat.blt k 9183 then bif Nat.beq k 9180 then some (96, 0) else none
  else bif Nat.beq k 9183 then some (199, 0) else none
  else bif Nat.blt k 9186 then bif Nat.beq k 9184 then some (220, 3) else none
  else bif Nat.beq k 9186 then some (200, 0) else none
  else bif Nat.blt k 9191 then bif Nat.blt k 9190 then bif Nat.beq k 9187 then some (98, 0) else none
  else bif Nat.beq k 9190 then some (201, 0) else none
  else bif Nat.blt k 9195 then bif Nat.beq k 9191 then some (99, 0) else none
  else bif Nat.beq k 9195 then some (202, 0) else none
  else none
def cres (k : Nat) : Option Int32 :=
  bif Nat.blt k 10000 then bif Nat.blt k 5058 then bif Nat.blt k 35 then bif Nat.beq k 34 then some (-1000000) else none
  else bif Nat.blt k 4077 then bif Nat.beq k 35 then some 1000000 else none
  else bif Nat.beq k 4077 then some 100000000 else none
  else bif Nat.blt k 7208 then bif Nat.blt k 6200 then bif Nat.beq k 5058 then some 100000000 else none
  else bif Nat.beq k 6200 then some 100000 else none
  else bif Nat.blt k 8092 then bif Nat.beq k 7208 then some 100000000 else none
  else bif Nat.beq k 8092 then some 1000000 else none
  else none
def lres (k : Nat) : Option Int64 :=
  bif Nat.blt k 10000 then bif Nat.blt k 8197 then bif Nat.blt k 8195 then bif Nat.beq k 7253 then some 31 else none
  else bif Nat.beq k 8195 then some 1000000 else none
  else bif Nat.blt k 8207 then bif Nat.beq k 8197 then some (-1000000) else none
  else bif Nat.blt k 8298 then bif Nat.beq k 8207 then some 9999 else none
  else bif Nat.beq k 8298 then some 31 else none
  else none
def sres (k : Nat) : Option Nat :=
  bif Nat.blt k 10000 then bif Nat.blt k 8107 then bif Nat.blt k 6095 then bif Nat.blt k 6081 then bif Nat.beq k 6062 then some 0 else none
  else bif Nat.blt k 6090 then bif Nat.beq k 6081 then some 1 else none
  else bif Nat.beq k 6090 then some 2 else none
  else bif Nat.blt k 6152 then bif Nat.blt k 6100 then bif Nat.beq k 6095 then some 3 else none
  else bif Nat.beq k 6100 then some 4 else none
  else bif Nat.blt k 6157 then bif Nat.beq k 6152 then some 5 else none
  else bif Nat.beq k 6157 then some 6 else none
  else bif Nat.blt k 8143 then bif Nat.blt k 8113 then bif Nat.beq k 8107 then some 5 else none
  else bif Nat.blt k 8139 then bif Nat.beq k 8113 then some 6 else none
  else bif Nat.beq k 8139 then some 1 else none
  else bif Nat.blt k 8152 then bif Nat.blt k 8147 then bif Nat.beq k 8143 then some 2 else none
  else bif Nat.beq k 8147 then some 3 else none
  else bif Nat.blt k 8161 then bif Nat.beq k 8152 then some 4 else none
  else bif Nat.beq k 8161 then some 0 else none
  else none
def nres (k : Nat) : Nat :=
  bif Nat.blt k 10000 then bif Nat.blt k 7266 then bif Nat.blt k 6184 then bif Nat.blt k 5070 then bif Nat.beq k 1047 then 100 else 0
  else bif Nat.beq k 5070 then 100 else 0
  else bif Nat.blt k 6192 then bif Nat.beq k 6184 then 110 else 0
  else bif Nat.blt k 6201 then bif Nat.beq k 6192 then 111 else 0
  else bif Nat.beq k 6201 then 100 else 0
  else bif Nat.blt k 7277 then bif Nat.blt k 7272 then bif Nat.beq k 7266 then 102 else 0
  else bif Nat.blt k 7275 then bif Nat.beq k 7272 then 101 else 0
  else bif Nat.beq k 7275 then 100 else 0
  else bif Nat.blt k 8072 then bif Nat.beq k 7277 then 103 else 0
  else bif Nat.blt k 8077 then bif Nat.beq k 8072 then 110 else 0
  else bif Nat.beq k 8077 then 111 else 0
  else 0
def sTxt (k : Nat) : String := ["network", "edge", "ban", "depot", "service", "cost", "demand"].getD k ""
def exN (k : Nat) : String := ["java/lang/IllegalArgumentException", "java/lang/IndexOutOfBoundsException", "java/lang/IllegalStateException", "java/util/NoSuchElementException"].getD k ""
def tres (k : Nat) : Option (Nat × Nat × Nat × String) :=
  bif Nat.blt k 100000 then bif Nat.blt k 17262 then bif Nat.blt k 17164 then bif Nat.blt k 7117 then bif Nat.beq k 7055 then some (53, 57, 0, "the buffer has fewer bytes") else none
  else bif Nat.blt k 7238 then bif Nat.beq k 7117 then some (53, 57, 0, "what is not 0 to 4") else none
  else bif Nat.beq k 7238 then some (53, 57, 0, "most is not 1 to 10") else none
  else bif Nat.blt k 17258 then bif Nat.blt k 17190 then bif Nat.beq k 17164 then some (188, 192, 1, "no such position") else none
  else bif Nat.beq k 17190 then some (188, 192, 1, "no such depot") else none
  else bif Nat.blt k 17260 then bif Nat.beq k 17258 then some (188, 192, 1, "no such node") else none
  else bif Nat.beq k 17260 then some (188, 192, 1, "no such edge") else none
  else bif Nat.blt k 27209 then bif Nat.blt k 27182 then bif Nat.blt k 17264 then bif Nat.beq k 17262 then some (188, 192, 1, "no such arc") else none
  else bif Nat.beq k 17264 then some (188, 192, 1, "no such tour") else none
  else bif Nat.blt k 27193 then bif Nat.beq k 27182 then some (180, 184, 2, "the edge is served or has no demand") else none
  else bif Nat.beq k 27193 then some (180, 184, 2, "there are 4 tours") else none
  else bif Nat.blt k 27223 then bif Nat.blt k 27215 then bif Nat.beq k 27209 then some (180, 184, 2, "the insertion is not possible") else none
  else bif Nat.beq k 27215 then some (180, 184, 2, "the edge is not served") else none
  else bif Nat.blt k 37164 then bif Nat.beq k 27223 then some (180, 184, 2, "the tour would not be drivable") else none
  else bif Nat.beq k 37164 then some (162, 166, 3, "no such position") else none
  else none
