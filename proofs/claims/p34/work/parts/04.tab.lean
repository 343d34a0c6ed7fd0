/-! THE LAYOUT OF THE THINGS, and the methods as tables of the pure machine: written by wip/whole/gentab.py out of the printed names and the listing -/
def NID : Nat := 122
def layF (i : Nat) : LO :=
  bif Nat.blt i 168 then
  bif Nat.blt i 61 then bif Nat.blt i 30 then bif Nat.blt i 15 then bif Nat.blt i 7 then bif Nat.blt i 3 then bif Nat.blt i 1 then bif Nat.beq i 0 then (0, 7, [some 1, some 13, some 14, some 21, some 26, some 30]) else (9, 0, [])
  else bif Nat.blt i 2 then bif Nat.beq i 1 then (0, 6, [some 2, some 3, some 10, none, none, none, none, none, none, none, none, none]) else (9, 0, [])
  else bif Nat.beq i 2 then (2, 700, []) else (9, 0, [])
  else bif Nat.blt i 5 then bif Nat.blt i 4 then bif Nat.beq i 3 then (0, 2, [none, none, none, none, some 4, some 5, some 6, some 7, some 8, some 9]) else (9, 0, [])
  else bif Nat.beq i 4 then (1, 28, []) else (9, 0, [])
  else bif Nat.blt i 6 then bif Nat.beq i 5 then (1, 28, []) else (9, 0, [])
  else bif Nat.beq i 6 then (1, 28, []) else (9, 0, [])
  else bif Nat.blt i 11 then bif Nat.blt i 9 then bif Nat.blt i 8 then bif Nat.beq i 7 then (1, 28, []) else (9, 0, [])
  else bif Nat.beq i 8 then (1, 14, []) else (9, 0, [])
  else bif Nat.blt i 10 then bif Nat.beq i 9 then (1, 3, []) else (9, 0, [])
  else bif Nat.beq i 10 then (0, 0, [some 11, some 12, none]) else (9, 0, [])
  else bif Nat.blt i 13 then bif Nat.blt i 12 then bif Nat.beq i 11 then (1, 700, []) else (9, 0, [])
  else bif Nat.beq i 12 then (1, 11, []) else (9, 0, [])
  else bif Nat.blt i 14 then bif Nat.beq i 13 then (0, 4, [some 14, some 21, some 26]) else (9, 0, [])
  else bif Nat.beq i 14 then (0, 2, [none, none, none, none, some 15, some 16, some 17, some 18, some 19, some 20]) else (9, 0, [])
  else bif Nat.blt i 22 then bif Nat.blt i 18 then bif Nat.blt i 16 then bif Nat.beq i 15 then (1, 28, []) else (9, 0, [])
  else bif Nat.blt i 17 then bif Nat.beq i 16 then (1, 28, []) else (9, 0, [])
  else bif Nat.beq i 17 then (1, 28, []) else (9, 0, [])
  else bif Nat.blt i 20 then bif Nat.blt i 19 then bif Nat.beq i 18 then (1, 28, []) else (9, 0, [])
  else bif Nat.beq i 19 then (1, 14, []) else (9, 0, [])
  else bif Nat.blt i 21 then bif Nat.beq i 20 then (1, 3, []) else (9, 0, [])
  else bif Nat.beq i 21 then (0, 5, [some 22, some 23, some 24, some 25]) else (9, 0, [])
  else bif Nat.blt i 26 then bif Nat.blt i 24 then bif Nat.blt i 23 then bif Nat.beq i 22 then (1, 784, []) else (9, 0, [])
  else bif Nat.beq i 23 then (1, 224, []) else (9, 0, [])
  else bif Nat.blt i 25 then bif Nat.beq i 24 then (1, 224, []) else (9, 0, [])
  else bif Nat.beq i 25 then (1, 64, []) else (9, 0, [])
  else bif Nat.blt i 28 then bif Nat.blt i 27 then bif Nat.beq i 26 then (0, 3, [none, some 27, some 28, some 29]) else (9, 0, [])
  else bif Nat.beq i 27 then (1, 4, []) else (9, 0, [])
  else bif Nat.blt i 29 then bif Nat.beq i 28 then (1, 4, []) else (9, 0, [])
  else bif Nat.beq i 29 then (1, 56, []) else (9, 0, [])
  else bif Nat.blt i 45 then bif Nat.blt i 37 then bif Nat.blt i 33 then bif Nat.blt i 31 then bif Nat.beq i 30 then (0, 1, [some 31, some 32, some 33, none, none]) else (9, 0, [])
  else bif Nat.blt i 32 then bif Nat.beq i 31 then (5, 8, [some 34, some 7]) else (9, 0, [])
  else bif Nat.beq i 32 then (5, 8, [some 90, some 4]) else (9, 0, [])
  else bif Nat.blt i 35 then bif Nat.blt i 34 then bif Nat.beq i 33 then (3, 8, []) else (9, 0, [])
  else bif Nat.beq i 34 then (0, 2, [none, none, none, none, some 35, some 36, some 37, some 38, some 39, some 40]) else (9, 0, [])
  else bif Nat.blt i 36 then bif Nat.beq i 35 then (1, 28, []) else (9, 0, [])
  else bif Nat.beq i 36 then (1, 28, []) else (9, 0, [])
  else bif Nat.blt i 41 then bif Nat.blt i 39 then bif Nat.blt i 38 then bif Nat.beq i 37 then (1, 28, []) else (9, 0, [])
  else bif Nat.beq i 38 then (1, 28, []) else (9, 0, [])
  else bif Nat.blt i 40 then bif Nat.beq i 39 then (1, 14, []) else (9, 0, [])
  else bif Nat.beq i 40 then (1, 3, []) else (9, 0, [])
  else bif Nat.blt i 43 then bif Nat.blt i 42 then bif Nat.beq i 41 then (0, 2, [none, none, none, none, some 42, some 43, some 44, some 45, some 46, some 47]) else (9, 0, [])
  else bif Nat.beq i 42 then (1, 28, []) else (9, 0, [])
  else bif Nat.blt i 44 then bif Nat.beq i 43 then (1, 28, []) else (9, 0, [])
  else bif Nat.beq i 44 then (1, 28, []) else (9, 0, [])
  else bif Nat.blt i 53 then bif Nat.blt i 49 then bif Nat.blt i 47 then bif Nat.blt i 46 then bif Nat.beq i 45 then (1, 28, []) else (9, 0, [])
  else bif Nat.beq i 46 then (1, 14, []) else (9, 0, [])
  else bif Nat.blt i 48 then bif Nat.beq i 47 then (1, 3, []) else (9, 0, [])
  else bif Nat.beq i 48 then (0, 2, [none, none, none, none, some 49, some 50, some 51, some 52, some 53, some 54]) else (9, 0, [])
  else bif Nat.blt i 51 then bif Nat.blt i 50 then bif Nat.beq i 49 then (1, 28, []) else (9, 0, [])
  else bif Nat.beq i 50 then (1, 28, []) else (9, 0, [])
  else bif Nat.blt i 52 then bif Nat.beq i 51 then (1, 28, []) else (9, 0, [])
  else bif Nat.beq i 52 then (1, 28, []) else (9, 0, [])
  else bif Nat.blt i 57 then bif Nat.blt i 55 then bif Nat.blt i 54 then bif Nat.beq i 53 then (1, 14, []) else (9, 0, [])
  else bif Nat.beq i 54 then (1, 3, []) else (9, 0, [])
  else bif Nat.blt i 56 then bif Nat.beq i 55 then (0, 2, [none, none, none, none, some 56, some 57, some 58, some 59, some 60, some 61]) else (9, 0, [])
  else bif Nat.beq i 56 then (1, 28, []) else (9, 0, [])
  else bif Nat.blt i 59 then bif Nat.blt i 58 then bif Nat.beq i 57 then (1, 28, []) else (9, 0, [])
  else bif Nat.beq i 58 then (1, 28, []) else (9, 0, [])
  else bif Nat.blt i 60 then bif Nat.beq i 59 then (1, 28, []) else (9, 0, [])
  else bif Nat.beq i 60 then (1, 14, []) else (9, 0, [])
  else bif Nat.blt i 92 then bif Nat.blt i 76 then bif Nat.blt i 68 then bif Nat.blt i 64 then bif Nat.blt i 62 then bif Nat.beq i 61 then (1, 3, []) else (9, 0, [])
  else bif Nat.blt i 63 then bif Nat.beq i 62 then (0, 2, [none, none, none, none, some 63, some 64, some 65, some 66, some 67, some 68]) else (9, 0, [])
  else bif Nat.beq i 63 then (1, 28, []) else (9, 0, [])
  else bif Nat.blt i 66 then bif Nat.blt i 65 then bif Nat.beq i 64 then (1, 28, []) else (9, 0, [])
  else bif Nat.beq i 65 then (1, 28, []) else (9, 0, [])
  else bif Nat.blt i 67 then bif Nat.beq i 66 then (1, 28, []) else (9, 0, [])
  else bif Nat.beq i 67 then (1, 14, []) else (9, 0, [])
  else bif Nat.blt i 72 then bif Nat.blt i 70 then bif Nat.blt i 69 then bif Nat.beq i 68 then (1, 3, []) else (9, 0, [])
  else bif Nat.beq i 69 then (0, 2, [none, none, none, none, some 70, some 71, some 72, some 73, some 74, some 75]) else (9, 0, [])
  else bif Nat.blt i 71 then bif Nat.beq i 70 then (1, 28, []) else (9, 0, [])
  else bif Nat.beq i 71 then (1, 28, []) else (9, 0, [])
  else bif Nat.blt i 74 then bif Nat.blt i 73 then bif Nat.beq i 72 then (1, 28, []) else (9, 0, [])
  else bif Nat.beq i 73 then (1, 28, []) else (9, 0, [])
  else bif Nat.blt i 75 then bif Nat.beq i 74 then (1, 14, []) else (9, 0, [])
  else bif Nat.beq i 75 then (1, 3, []) else (9, 0, [])
  else bif Nat.blt i 84 then bif Nat.blt i 80 then bif Nat.blt i 78 then bif Nat.blt i 77 then bif Nat.beq i 76 then (0, 2, [none, none, none, none, some 77, some 78, some 79, some 80, some 81, some 82]) else (9, 0, [])
  else bif Nat.beq i 77 then (1, 28, []) else (9, 0, [])
  else bif Nat.blt i 79 then bif Nat.beq i 78 then (1, 28, []) else (9, 0, [])
  else bif Nat.beq i 79 then (1, 28, []) else (9, 0, [])
  else bif Nat.blt i 82 then bif Nat.blt i 81 then bif Nat.beq i 80 then (1, 28, []) else (9, 0, [])
  else bif Nat.beq i 81 then (1, 14, []) else (9, 0, [])
  else bif Nat.blt i 83 then bif Nat.beq i 82 then (1, 3, []) else (9, 0, [])
  else bif Nat.beq i 83 then (0, 2, [none, none, none, none, some 84, some 85, some 86, some 87, some 88, some 89]) else (9, 0, [])
  else bif Nat.blt i 88 then bif Nat.blt i 86 then bif Nat.blt i 85 then bif Nat.beq i 84 then (1, 28, []) else (9, 0, [])
  else bif Nat.beq i 85 then (1, 28, []) else (9, 0, [])
  else bif Nat.blt i 87 then bif Nat.beq i 86 then (1, 28, []) else (9, 0, [])
  else bif Nat.beq i 87 then (1, 28, []) else (9, 0, [])
  else bif Nat.blt i 90 then bif Nat.blt i 89 then bif Nat.beq i 88 then (1, 14, []) else (9, 0, [])
  else bif Nat.beq i 89 then (1, 3, []) else (9, 0, [])
  else bif Nat.blt i 91 then bif Nat.beq i 90 then (0, 3, [none, some 91, some 92, some 93]) else (9, 0, [])
  else bif Nat.beq i 91 then (1, 4, []) else (9, 0, [])
  else bif Nat.blt i 107 then bif Nat.blt i 99 then bif Nat.blt i 95 then bif Nat.blt i 93 then bif Nat.beq i 92 then (1, 4, []) else (9, 0, [])
  else bif Nat.blt i 94 then bif Nat.beq i 93 then (1, 56, []) else (9, 0, [])
  else bif Nat.beq i 94 then (0, 3, [none, some 95, some 96, some 97]) else (9, 0, [])
  else bif Nat.blt i 97 then bif Nat.blt i 96 then bif Nat.beq i 95 then (1, 4, []) else (9, 0, [])
  else bif Nat.beq i 96 then (1, 4, []) else (9, 0, [])
  else bif Nat.blt i 98 then bif Nat.beq i 97 then (1, 56, []) else (9, 0, [])
  else bif Nat.beq i 98 then (0, 3, [none, some 99, some 100, some 101]) else (9, 0, [])
  else bif Nat.blt i 103 then bif Nat.blt i 101 then bif Nat.blt i 100 then bif Nat.beq i 99 then (1, 4, []) else (9, 0, [])
  else bif Nat.beq i 100 then (1, 4, []) else (9, 0, [])
  else bif Nat.blt i 102 then bif Nat.beq i 101 then (1, 56, []) else (9, 0, [])
  else bif Nat.beq i 102 then (0, 3, [none, some 103, some 104, some 105]) else (9, 0, [])
  else bif Nat.blt i 105 then bif Nat.blt i 104 then bif Nat.beq i 103 then (1, 4, []) else (9, 0, [])
  else bif Nat.beq i 104 then (1, 4, []) else (9, 0, [])
  else bif Nat.blt i 106 then bif Nat.beq i 105 then (1, 56, []) else (9, 0, [])
  else bif Nat.beq i 106 then (0, 3, [none, some 107, some 108, some 109]) else (9, 0, [])
  else bif Nat.blt i 115 then bif Nat.blt i 111 then bif Nat.blt i 109 then bif Nat.blt i 108 then bif Nat.beq i 107 then (1, 4, []) else (9, 0, [])
  else bif Nat.beq i 108 then (1, 4, []) else (9, 0, [])
  else bif Nat.blt i 110 then bif Nat.beq i 109 then (1, 56, []) else (9, 0, [])
  else bif Nat.beq i 110 then (0, 3, [none, some 111, some 112, some 113]) else (9, 0, [])
  else bif Nat.blt i 113 then bif Nat.blt i 112 then bif Nat.beq i 111 then (1, 4, []) else (9, 0, [])
  else bif Nat.beq i 112 then (1, 4, []) else (9, 0, [])
  else bif Nat.blt i 114 then bif Nat.beq i 113 then (1, 56, []) else (9, 0, [])
  else bif Nat.beq i 114 then (0, 3, [none, some 115, some 116, some 117]) else (9, 0, [])
  else bif Nat.blt i 119 then bif Nat.blt i 117 then bif Nat.blt i 116 then bif Nat.beq i 115 then (1, 4, []) else (9, 0, [])
  else bif Nat.beq i 116 then (1, 4, []) else (9, 0, [])
  else bif Nat.blt i 118 then bif Nat.beq i 117 then (1, 56, []) else (9, 0, [])
  else bif Nat.beq i 118 then (0, 3, [none, some 119, some 120, some 121]) else (9, 0, [])
  else bif Nat.blt i 121 then bif Nat.blt i 120 then bif Nat.beq i 119 then (1, 4, []) else (9, 0, [])
  else bif Nat.beq i 120 then (1, 4, []) else (9, 0, [])
  else bif Nat.blt i 167 then bif Nat.beq i 121 then (1, 56, []) else (9, 0, [])
  else bif Nat.beq i 167 then (7, 0, []) else (9, 0, [])
  else (9, 0, [])
def slenF (i : Nat) : Nat := [7, 4, 3, 5, 7, 4, 6].getD i 0
def schF (i k : Nat) : Int32 := ([[110, 101, 116, 119, 111, 114, 107], [101, 100, 103, 101], [98, 97, 110], [100, 101, 112, 111, 116], [115, 101, 114, 118, 105, 99, 101], [99, 111, 115, 116], [100, 101, 109, 97, 110, 100]].getD i []).getD k 0
abbrev PMR : Type := Nat × Nat × (Nat → Nat → Option (Nat × Nat)) × Nat
abbrev PMI : Type := (Nat → Option PE) × PMR
def hdl : List (Nat × Nat × Nat × Nat × Nat) → Nat → Nat → Option (Nat × Nat)
  | [], _, _ => none
  | (s0, e0, E0, nx, sl) :: t, pc, E => bif Nat.beq E 99 then some (0, 0) else bif Nat.beq E E0 && (Nat.ble s0 pc && Nat.blt pc e0) then some (nx, sl) else hdl t pc E
def wrapM (n : Nat) (cd : Nat → Option PE) (r : PMR) : PMI := (fun pc => bif Nat.blt pc n then cd pc else none, r)
def cd_X0_clear (pc : Nat) : Option PE :=
  bif Nat.blt pc 2 then bif Nat.blt pc 1 then bif Nat.beq pc 0 then some (.aload_n 0, 1, 0, 0, 0, 0, 0) else none
  else bif Nat.beq pc 1 then some (.iconst 0, 2, 0, 0, 0, 0, 0) else none
  else bif Nat.blt pc 5 then bif Nat.beq pc 2 then some (.putfield 18, 5, 0, 2, 0, 0, 0) else none
  else bif Nat.beq pc 5 then some (.return_, 6, 0, 0, 0, 0, 0) else none
def rs_X0_clear : PMR := (0, 0, hdl [], 1)
def mi_X0_clear : PMI := wrapM 6 cd_X0_clear rs_X0_clear
def cd_X0_addOperand (pc : Nat) : Option PE :=
  bif Nat.blt pc 12 then bif Nat.blt pc 5 then bif Nat.blt pc 1 then bif Nat.beq pc 0 then some (.aload_n 0, 1, 0, 0, 0, 0, 0) else none
  else bif Nat.blt pc 4 then bif Nat.beq pc 1 then some (.getfield 9, 4, 0, 0, 2, 0, 0) else none
  else bif Nat.beq pc 4 then some (.aload_n 0, 5, 0, 0, 0, 0, 0) else none
  else bif Nat.blt pc 8 then bif Nat.beq pc 5 then some (.getfield 18, 8, 0, 2, 0, 0, 0) else none
  else bif Nat.blt pc 9 then bif Nat.beq pc 8 then some (.iload_n 1, 9, 1, 0, 0, 0, 0) else none
  else bif Nat.beq pc 9 then some (.invokestatic 22, 12, 102, 3, 99, 0, 0) else none
  else bif Nat.blt pc 17 then bif Nat.blt pc 13 then bif Nat.beq pc 12 then some (.aload_n 0, 13, 0, 0, 0, 0, 0) else none
  else bif Nat.blt pc 14 then bif Nat.beq pc 13 then some (.dup, 14, 0, 0, 0, 0, 0) else none
  else bif Nat.beq pc 14 then some (.getfield 18, 17, 0, 2, 0, 0, 0) else none
  else bif Nat.blt pc 19 then bif Nat.blt pc 18 then bif Nat.beq pc 17 then some (.iconst 1, 18, 0, 0, 0, 1, 0) else none
  else bif Nat.beq pc 18 then some (.iadd, 19, 0, 0, 0, 0, 0) else none
  else bif Nat.blt pc 22 then bif Nat.beq pc 19 then some (.putfield 18, 22, 0, 2, 0, 0, 0) else none
  else bif Nat.beq pc 22 then some (.return_, 23, 0, 0, 0, 0, 0) else none
def rs_X0_addOperand : PMR := (0, 0, hdl [], 2)
def mi_X0_addOperand : PMI := wrapM 23 cd_X0_addOperand rs_X0_addOperand
def cd_X0_addOperator (pc : Nat) : Option PE :=
  bif Nat.blt pc 13 then bif Nat.blt pc 5 then bif Nat.blt pc 1 then bif Nat.beq pc 0 then some (.aload_n 0, 1, 0, 0, 0, 0, 0) else none
  else bif Nat.blt pc 4 then bif Nat.beq pc 1 then some (.getfield 9, 4, 0, 0, 2, 0, 0) else none
  else bif Nat.beq pc 4 then some (.aload_n 0, 5, 0, 0, 0, 0, 0) else none
  else bif Nat.blt pc 9 then bif Nat.blt pc 8 then bif Nat.beq pc 5 then some (.getfield 18, 8, 0, 2, 0, 0, 0) else none
  else bif Nat.beq pc 8 then some (.iload_n 1, 9, 1, 0, 0, 0, 0) else none
  else bif Nat.blt pc 10 then bif Nat.beq pc 9 then some (.ineg, 10, 0, 0, 0, 0, 0) else none
  else bif Nat.beq pc 10 then some (.invokestatic 22, 13, 102, 3, 99, 0, 0) else none
  else bif Nat.blt pc 18 then bif Nat.blt pc 14 then bif Nat.beq pc 13 then some (.aload_n 0, 14, 0, 0, 0, 0, 0) else none
  else bif Nat.blt pc 15 then bif Nat.beq pc 14 then some (.dup, 15, 0, 0, 0, 0, 0) else none
  else bif Nat.beq pc 15 then some (.getfield 18, 18, 0, 2, 0, 0, 0) else none
  else bif Nat.blt pc 20 then bif Nat.blt pc 19 then bif Nat.beq pc 18 then some (.iconst 1, 19, 0, 0, 0, 1, 0) else none
  else bif Nat.beq pc 19 then some (.iadd, 20, 0, 0, 0, 0, 0) else none
  else bif Nat.blt pc 23 then bif Nat.beq pc 20 then some (.putfield 18, 23, 0, 2, 0, 0, 0) else none
  else bif Nat.beq pc 23 then some (.return_, 24, 0, 0, 0, 0, 0) else none
def rs_X0_addOperator : PMR := (0, 0, hdl [], 2)
def mi_X0_addOperator : PMI := wrapM 24 cd_X0_addOperator rs_X0_addOperator
def cd_X0_valueFor (pc : Nat) : Option PE :=
  bif Nat.blt pc 54 then bif Nat.blt pc 30 then bif Nat.blt pc 11 then bif Nat.blt pc 3 then bif Nat.blt pc 1 then bif Nat.beq pc 0 then some (.iconst 0, 1, 0, 0, 0, 0, 0) else none
  else bif Nat.blt pc 2 then bif Nat.beq pc 1 then some (.istore_n 3, 2, 3, 0, 0, 0, 0) else none
  else bif Nat.beq pc 2 then some (.iconst 0, 3, 0, 0, 0, 0, 0) else none
  else bif Nat.blt pc 7 then bif Nat.blt pc 5 then bif Nat.beq pc 3 then some (.istore 4, 5, 4, 0, 0, 0, 0) else none
  else bif Nat.beq pc 5 then some (.iload 4, 7, 4, 0, 0, 0, 0) else none
  else bif Nat.blt pc 8 then bif Nat.beq pc 7 then some (.aload_n 0, 8, 0, 0, 0, 0, 0) else none
  else bif Nat.beq pc 8 then some (.getfield 18, 11, 0, 2, 0, 0, 0) else none
  else bif Nat.blt pc 20 then bif Nat.blt pc 15 then bif Nat.blt pc 14 then bif Nat.beq pc 11 then some (.if_icmp .ge 104, 14, 115, 0, 0, 0, 0) else none
  else bif Nat.beq pc 14 then some (.aload_n 0, 15, 0, 0, 0, 0, 0) else none
  else bif Nat.blt pc 18 then bif Nat.beq pc 15 then some (.getfield 9, 18, 0, 0, 2, 0, 0) else none
  else bif Nat.beq pc 18 then some (.iload 4, 20, 4, 0, 0, 0, 0) else none
  else bif Nat.blt pc 25 then bif Nat.blt pc 23 then bif Nat.beq pc 20 then some (.invokestatic 26, 23, 101, 2, 99, 0, 0) else none
  else bif Nat.beq pc 23 then some (.istore 5, 25, 5, 0, 0, 0, 0) else none
  else bif Nat.blt pc 27 then bif Nat.beq pc 25 then some (.iload 5, 27, 5, 0, 0, 0, 0) else none
  else bif Nat.beq pc 27 then some (.ifCond .ge 45, 30, 72, 0, 0, 0, 0) else none
  else bif Nat.blt pc 42 then bif Nat.blt pc 37 then bif Nat.blt pc 33 then bif Nat.beq pc 30 then some (.iinc 3 (-1), 33, 3, 0, 0, (-1), 0) else none
  else bif Nat.blt pc 34 then bif Nat.beq pc 33 then some (.aload_n 0, 34, 0, 0, 0, 0, 0) else none
  else bif Nat.beq pc 34 then some (.getfield 15, 37, 0, 1, 2, 0, 0) else none
  else bif Nat.blt pc 39 then bif Nat.blt pc 38 then bif Nat.beq pc 37 then some (.iload_n 3, 38, 3, 0, 0, 0, 0) else none
  else bif Nat.beq pc 38 then some (.iconst 1, 39, 0, 0, 0, 1, 0) else none
  else bif Nat.blt pc 40 then bif Nat.beq pc 39 then some (.isub, 40, 0, 0, 0, 0, 0) else none
  else bif Nat.beq pc 40 then some (.iload 5, 42, 5, 0, 0, 0, 0) else none
  else bif Nat.blt pc 48 then bif Nat.blt pc 44 then bif Nat.blt pc 43 then bif Nat.beq pc 42 then some (.ineg, 43, 0, 0, 0, 0, 0) else none
  else bif Nat.beq pc 43 then some (.aload_n 0, 44, 0, 0, 0, 0, 0) else none
  else bif Nat.blt pc 47 then bif Nat.beq pc 44 then some (.getfield 15, 47, 0, 1, 2, 0, 0) else none
  else bif Nat.beq pc 47 then some (.iload_n 3, 48, 3, 0, 0, 0, 0) else none
  else bif Nat.blt pc 50 then bif Nat.blt pc 49 then bif Nat.beq pc 48 then some (.iconst 1, 49, 0, 0, 0, 1, 0) else none
  else bif Nat.beq pc 49 then some (.isub, 50, 0, 0, 0, 0, 0) else none
  else bif Nat.blt pc 53 then bif Nat.beq pc 50 then some (.invokestatic 26, 53, 101, 2, 99, 0, 0) else none
  else bif Nat.beq pc 53 then some (.i2l, 54, 0, 0, 0, 0, 0) else none
  else bif Nat.blt pc 86 then bif Nat.blt pc 69 then bif Nat.blt pc 59 then bif Nat.blt pc 55 then bif Nat.beq pc 54 then some (.aload_n 0, 55, 0, 0, 0, 0, 0) else none
  else bif Nat.blt pc 58 then bif Nat.beq pc 55 then some (.getfield 15, 58, 0, 1, 2, 0, 0) else none
  else bif Nat.beq pc 58 then some (.iload_n 3, 59, 3, 0, 0, 0, 0) else none
  else bif Nat.blt pc 63 then bif Nat.blt pc 62 then bif Nat.beq pc 59 then some (.invokestatic 26, 62, 101, 2, 99, 0, 0) else none
  else bif Nat.beq pc 62 then some (.i2l, 63, 0, 0, 0, 0, 0) else none
  else bif Nat.blt pc 66 then bif Nat.beq pc 63 then some (.invokestatic 30, 66, 4, 3, 99, 0, 0) else none
  else bif Nat.beq pc 66 then some (.invokestatic 22, 69, 102, 3, 99, 0, 0) else none
  else bif Nat.blt pc 77 then bif Nat.blt pc 73 then bif Nat.blt pc 72 then bif Nat.beq pc 69 then some (.goto 40, 72, 109, 0, 0, 0, 0) else none
  else bif Nat.beq pc 72 then some (.aload_n 0, 73, 0, 0, 0, 0, 0) else none
  else bif Nat.blt pc 76 then bif Nat.beq pc 73 then some (.getfield 15, 76, 0, 1, 2, 0, 0) else none
  else bif Nat.beq pc 76 then some (.iload_n 3, 77, 3, 0, 0, 0, 0) else none
  else bif Nat.blt pc 82 then bif Nat.blt pc 79 then bif Nat.beq pc 77 then some (.iload 5, 79, 5, 0, 0, 0, 0) else none
  else bif Nat.beq pc 79 then some (.sipush 10000, 82, 0, 0, 0, 10000, 0) else none
  else bif Nat.blt pc 85 then bif Nat.beq pc 82 then some (.if_icmp .ne 7, 85, 89, 0, 0, 0, 0) else none
  else bif Nat.beq pc 85 then some (.iload_n 1, 86, 1, 0, 0, 0, 0) else none
  else bif Nat.blt pc 106 then bif Nat.blt pc 97 then bif Nat.blt pc 91 then bif Nat.blt pc 89 then bif Nat.beq pc 86 then some (.goto 17, 89, 103, 0, 0, 0, 0) else none
  else bif Nat.beq pc 89 then some (.iload 5, 91, 5, 0, 0, 0, 0) else none
  else bif Nat.blt pc 94 then bif Nat.beq pc 91 then some (.sipush 10001, 94, 0, 0, 0, 10001, 0) else none
  else bif Nat.beq pc 94 then some (.if_icmp .ne 7, 97, 101, 0, 0, 0, 0) else none
  else bif Nat.blt pc 101 then bif Nat.blt pc 98 then bif Nat.beq pc 97 then some (.iload_n 2, 98, 2, 0, 0, 0, 0) else none
  else bif Nat.beq pc 98 then some (.goto 5, 101, 103, 0, 0, 0, 0) else none
  else bif Nat.blt pc 103 then bif Nat.beq pc 101 then some (.iload 5, 103, 5, 0, 0, 0, 0) else none
  else bif Nat.beq pc 103 then some (.invokestatic 22, 106, 102, 3, 99, 0, 0) else none
  else bif Nat.blt pc 116 then bif Nat.blt pc 112 then bif Nat.blt pc 109 then bif Nat.beq pc 106 then some (.iinc 3 1, 109, 3, 0, 0, 1, 0) else none
  else bif Nat.beq pc 109 then some (.iinc 4 1, 112, 4, 0, 0, 1, 0) else none
  else bif Nat.blt pc 115 then bif Nat.beq pc 112 then some (.goto (-107), 115, 5, 0, 0, 0, 0) else none
  else bif Nat.beq pc 115 then some (.aload_n 0, 116, 0, 0, 0, 0, 0) else none
  else bif Nat.blt pc 120 then bif Nat.blt pc 119 then bif Nat.beq pc 116 then some (.getfield 15, 119, 0, 1, 2, 0, 0) else none
  else bif Nat.beq pc 119 then some (.iconst 0, 120, 0, 0, 0, 0, 0) else none
  else bif Nat.blt pc 123 then bif Nat.beq pc 120 then some (.invokestatic 26, 123, 101, 2, 99, 0, 0) else none
  else bif Nat.beq pc 123 then some (.ireturn, 124, 0, 0, 0, 0, 0) else none
def rs_X0_valueFor : PMR := (1, 0, hdl [], 6)
def mi_X0_valueFor : PMI := wrapM 124 cd_X0_valueFor rs_X0_valueFor
def cd_X0_applied (pc : Nat) : Option PE :=
  bif Nat.blt pc 32 then bif Nat.blt pc 14 then bif Nat.blt pc 6 then bif Nat.blt pc 3 then bif Nat.blt pc 1 then bif Nat.beq pc 0 then some (.lconst 0, 1, 0, 0, 0, 0, 0) else none
  else bif Nat.beq pc 1 then some (.lstore 5, 3, 5, 0, 0, 0, 0) else none
  else bif Nat.blt pc 4 then bif Nat.beq pc 3 then some (.iload_n 0, 4, 0, 0, 0, 0, 0) else none
  else bif Nat.beq pc 4 then some (.bipush 43, 6, 0, 0, 0, 43, 0) else none
  else bif Nat.blt pc 10 then bif Nat.blt pc 9 then bif Nat.beq pc 6 then some (.if_icmp .ne 11, 9, 17, 0, 0, 0, 0) else none
  else bif Nat.beq pc 9 then some (.lload_n 1, 10, 1, 0, 0, 0, 0) else none
  else bif Nat.blt pc 11 then bif Nat.beq pc 10 then some (.lload_n 3, 11, 3, 0, 0, 0, 0) else none
  else bif Nat.blt pc 12 then bif Nat.beq pc 11 then some (.ladd, 12, 0, 0, 0, 0, 0) else none
  else bif Nat.beq pc 12 then some (.lstore 5, 14, 5, 0, 0, 0, 0) else none
  else bif Nat.blt pc 24 then bif Nat.blt pc 18 then bif Nat.blt pc 17 then bif Nat.beq pc 14 then some (.goto 42, 17, 56, 0, 0, 0, 0) else none
  else bif Nat.beq pc 17 then some (.iload_n 0, 18, 0, 0, 0, 0, 0) else none
  else bif Nat.blt pc 20 then bif Nat.beq pc 18 then some (.bipush 45, 20, 0, 0, 0, 45, 0) else none
  else bif Nat.blt pc 23 then bif Nat.beq pc 20 then some (.if_icmp .ne 11, 23, 31, 0, 0, 0, 0) else none
  else bif Nat.beq pc 23 then some (.lload_n 1, 24, 1, 0, 0, 0, 0) else none
  else bif Nat.blt pc 26 then bif Nat.blt pc 25 then bif Nat.beq pc 24 then some (.lload_n 3, 25, 3, 0, 0, 0, 0) else none
  else bif Nat.beq pc 25 then some (.lsub, 26, 0, 0, 0, 0, 0) else none
  else bif Nat.blt pc 28 then bif Nat.beq pc 26 then some (.lstore 5, 28, 5, 0, 0, 0, 0) else none
  else bif Nat.blt pc 31 then bif Nat.beq pc 28 then some (.goto 28, 31, 56, 0, 0, 0, 0) else none
  else bif Nat.beq pc 31 then some (.iload_n 0, 32, 0, 0, 0, 0, 0) else none
  else bif Nat.blt pc 48 then bif Nat.blt pc 40 then bif Nat.blt pc 37 then bif Nat.blt pc 34 then bif Nat.beq pc 32 then some (.bipush 42, 34, 0, 0, 0, 42, 0) else none
  else bif Nat.beq pc 34 then some (.if_icmp .ne 11, 37, 45, 0, 0, 0, 0) else none
  else bif Nat.blt pc 38 then bif Nat.beq pc 37 then some (.lload_n 1, 38, 1, 0, 0, 0, 0) else none
  else bif Nat.blt pc 39 then bif Nat.beq pc 38 then some (.lload_n 3, 39, 3, 0, 0, 0, 0) else none
  else bif Nat.beq pc 39 then some (.lmul, 40, 0, 0, 0, 0, 0) else none
  else bif Nat.blt pc 45 then bif Nat.blt pc 42 then bif Nat.beq pc 40 then some (.lstore 5, 42, 5, 0, 0, 0, 0) else none
  else bif Nat.beq pc 42 then some (.goto 14, 45, 56, 0, 0, 0, 0) else none
  else bif Nat.blt pc 46 then bif Nat.beq pc 45 then some (.lload_n 3, 46, 3, 0, 0, 0, 0) else none
  else bif Nat.blt pc 47 then bif Nat.beq pc 46 then some (.lconst 0, 47, 0, 0, 0, 0, 0) else none
  else bif Nat.beq pc 47 then some (.lcmp, 48, 0, 0, 0, 0, 0) else none
  else bif Nat.blt pc 56 then bif Nat.blt pc 52 then bif Nat.blt pc 51 then bif Nat.beq pc 48 then some (.ifCond .eq 8, 51, 56, 0, 0, 0, 0) else none
  else bif Nat.beq pc 51 then some (.lload_n 1, 52, 1, 0, 0, 0, 0) else none
  else bif Nat.blt pc 53 then bif Nat.beq pc 52 then some (.lload_n 3, 53, 3, 0, 0, 0, 0) else none
  else bif Nat.blt pc 54 then bif Nat.beq pc 53 then some (.ldiv, 54, 0, 0, 0, 0, 0) else none
  else bif Nat.beq pc 54 then some (.lstore 5, 56, 5, 0, 0, 0, 0) else none
  else bif Nat.blt pc 60 then bif Nat.blt pc 58 then bif Nat.beq pc 56 then some (.lload 5, 58, 5, 0, 0, 0, 0) else none
  else bif Nat.beq pc 58 then some (.ldc 34, 60, 0, 0, 0, (-1000000), 0) else none
  else bif Nat.blt pc 62 then bif Nat.beq pc 60 then some (.ldc 35, 62, 0, 0, 0, 1000000, 0) else none
  else bif Nat.blt pc 65 then bif Nat.beq pc 62 then some (.invokestatic 36, 65, 100, 3, 99, 0, 0) else none
  else bif Nat.beq pc 65 then some (.ireturn, 66, 0, 0, 0, 0, 0) else none
def rs_X0_applied : PMR := (1, 0, hdl [], 7)
def mi_X0_applied : PMI := wrapM 66 cd_X0_applied rs_X0_applied
def cd_X1_isReady (pc : Nat) : Option PE :=
  bif Nat.blt pc 27 then bif Nat.blt pc 13 then bif Nat.blt pc 5 then bif Nat.blt pc 1 then bif Nat.beq pc 0 then some (.iload_n 1, 1, 1, 0, 0, 0, 0) else none
  else bif Nat.blt pc 4 then bif Nat.beq pc 1 then some (.ifCond .lt 52, 4, 53, 0, 0, 0, 0) else none
  else bif Nat.beq pc 4 then some (.iload_n 1, 5, 1, 0, 0, 0, 0) else none
  else bif Nat.blt pc 9 then bif Nat.blt pc 6 then bif Nat.beq pc 5 then some (.aload_n 0, 6, 0, 0, 0, 0, 0) else none
  else bif Nat.beq pc 6 then some (.getfield 11, 9, 1, 0, 2, 0, 0) else none
  else bif Nat.blt pc 10 then bif Nat.beq pc 9 then some (.arraylength, 10, 0, 0, 0, 0, 0) else none
  else bif Nat.beq pc 10 then some (.if_icmp .ge 43, 13, 53, 0, 0, 0, 0) else none
  else bif Nat.blt pc 19 then bif Nat.blt pc 15 then bif Nat.blt pc 14 then bif Nat.beq pc 13 then some (.iload_n 1, 14, 1, 0, 0, 0, 0) else none
  else bif Nat.beq pc 14 then some (.aload_n 0, 15, 0, 0, 0, 0, 0) else none
  else bif Nat.blt pc 18 then bif Nat.beq pc 15 then some (.getfield 19, 18, 1, 1, 2, 0, 0) else none
  else bif Nat.beq pc 18 then some (.arraylength, 19, 0, 0, 0, 0, 0) else none
  else bif Nat.blt pc 23 then bif Nat.blt pc 22 then bif Nat.beq pc 19 then some (.if_icmp .ge 34, 22, 53, 0, 0, 0, 0) else none
  else bif Nat.beq pc 22 then some (.iload_n 1, 23, 1, 0, 0, 0, 0) else none
  else bif Nat.blt pc 24 then bif Nat.beq pc 23 then some (.aload_n 0, 24, 0, 0, 0, 0, 0) else none
  else bif Nat.beq pc 24 then some (.getfield 23, 27, 1, 2, 2, 0, 0) else none
  else bif Nat.blt pc 41 then bif Nat.blt pc 35 then bif Nat.blt pc 31 then bif Nat.blt pc 28 then bif Nat.beq pc 27 then some (.arraylength, 28, 0, 0, 0, 0, 0) else none
  else bif Nat.beq pc 28 then some (.if_icmp .ge 25, 31, 53, 0, 0, 0, 0) else none
  else bif Nat.blt pc 32 then bif Nat.beq pc 31 then some (.aload_n 0, 32, 0, 0, 0, 0, 0) else none
  else bif Nat.beq pc 32 then some (.getfield 11, 35, 1, 0, 2, 0, 0) else none
  else bif Nat.blt pc 37 then bif Nat.blt pc 36 then bif Nat.beq pc 35 then some (.iload_n 1, 36, 1, 0, 0, 0, 0) else none
  else bif Nat.beq pc 36 then some (.aaload, 37, 0, 0, 0, 0, 0) else none
  else bif Nat.blt pc 40 then bif Nat.beq pc 37 then some (.ifnull 16, 40, 53, 0, 0, 0, 0) else none
  else bif Nat.beq pc 40 then some (.aload_n 0, 41, 0, 0, 0, 0, 0) else none
  else bif Nat.blt pc 49 then bif Nat.blt pc 45 then bif Nat.blt pc 44 then bif Nat.beq pc 41 then some (.getfield 19, 44, 1, 1, 2, 0, 0) else none
  else bif Nat.beq pc 44 then some (.iload_n 1, 45, 1, 0, 0, 0, 0) else none
  else bif Nat.blt pc 46 then bif Nat.beq pc 45 then some (.aaload, 46, 0, 0, 0, 0, 0) else none
  else bif Nat.beq pc 46 then some (.ifnull 7, 49, 53, 0, 0, 0, 0) else none
  else bif Nat.blt pc 53 then bif Nat.blt pc 50 then bif Nat.beq pc 49 then some (.iconst 1, 50, 0, 0, 0, 1, 0) else none
  else bif Nat.beq pc 50 then some (.goto 4, 53, 54, 0, 0, 0, 0) else none
  else bif Nat.blt pc 54 then bif Nat.beq pc 53 then some (.iconst 0, 54, 0, 0, 0, 0, 0) else none
  else bif Nat.beq pc 54 then some (.ireturn, 55, 0, 0, 0, 0, 0) else none
def rs_X1_isReady : PMR := (2, 0, hdl [], 2)
def mi_X1_isReady : PMI := wrapM 55 cd_X1_isReady rs_X1_isReady
def cd_X1_remember (pc : Nat) : Option PE :=
  bif Nat.blt pc 40 then bif Nat.blt pc 21 then bif Nat.blt pc 11 then bif Nat.blt pc 2 then bif Nat.blt pc 1 then bif Nat.beq pc 0 then some (.aload_n 0, 1, 0, 0, 0, 0, 0) else none
  else bif Nat.beq pc 1 then some (.aload_n 0, 2, 0, 0, 0, 0, 0) else none
  else bif Nat.blt pc 5 then bif Nat.beq pc 2 then some (.getfield 31, 5, 1, 4, 0, 0, 0) else none
  else bif Nat.blt pc 8 then bif Nat.beq pc 5 then some (.invokevirtual 36, 8, 5, 2, 1, 0, 0) else none
  else bif Nat.beq pc 8 then some (.ifCond .ne 4, 11, 12, 0, 0, 0, 0) else none
  else bif Nat.blt pc 16 then bif Nat.blt pc 12 then bif Nat.beq pc 11 then some (.return_, 12, 0, 0, 0, 0, 0) else none
  else bif Nat.blt pc 13 then bif Nat.beq pc 12 then some (.aload_n 0, 13, 0, 0, 0, 0, 0) else none
  else bif Nat.beq pc 13 then some (.getfield 23, 16, 1, 2, 2, 0, 0) else none
  else bif Nat.blt pc 17 then bif Nat.beq pc 16 then some (.aload_n 0, 17, 0, 0, 0, 0, 0) else none
  else bif Nat.blt pc 20 then bif Nat.beq pc 17 then some (.getfield 31, 20, 1, 4, 0, 0, 0) else none
  else bif Nat.beq pc 20 then some (.iload_n 3, 21, 3, 0, 0, 0, 0) else none
  else bif Nat.blt pc 30 then bif Nat.blt pc 23 then bif Nat.blt pc 22 then bif Nat.beq pc 21 then some (.bastore, 22, 0, 0, 0, 0, 0) else none
  else bif Nat.beq pc 22 then some (.iload_n 3, 23, 3, 0, 0, 0, 0) else none
  else bif Nat.blt pc 26 then bif Nat.beq pc 23 then some (.ifCond .eq 16, 26, 39, 0, 0, 0, 0) else none
  else bif Nat.blt pc 27 then bif Nat.beq pc 26 then some (.aload_n 0, 27, 0, 0, 0, 0, 0) else none
  else bif Nat.beq pc 27 then some (.getfield 11, 30, 1, 0, 2, 0, 0) else none
  else bif Nat.blt pc 35 then bif Nat.blt pc 31 then bif Nat.beq pc 30 then some (.aload_n 0, 31, 0, 0, 0, 0, 0) else none
  else bif Nat.blt pc 34 then bif Nat.beq pc 31 then some (.getfield 31, 34, 1, 4, 0, 0, 0) else none
  else bif Nat.beq pc 34 then some (.aaload, 35, 0, 0, 0, 0, 0) else none
  else bif Nat.blt pc 36 then bif Nat.beq pc 35 then some (.aload_n 1, 36, 1, 0, 0, 0, 0) else none
  else bif Nat.blt pc 39 then bif Nat.beq pc 36 then some (.invokevirtual 40, 39, 9, 2, 2, 0, 0) else none
  else bif Nat.beq pc 39 then some (.aload_n 0, 40, 0, 0, 0, 0, 0) else none
  else bif Nat.blt pc 59 then bif Nat.blt pc 49 then bif Nat.blt pc 44 then bif Nat.blt pc 43 then bif Nat.beq pc 40 then some (.getfield 19, 43, 1, 1, 2, 0, 0) else none
  else bif Nat.beq pc 43 then some (.aload_n 0, 44, 0, 0, 0, 0, 0) else none
  else bif Nat.blt pc 47 then bif Nat.beq pc 44 then some (.getfield 31, 47, 1, 4, 0, 0, 0) else none
  else bif Nat.blt pc 48 then bif Nat.beq pc 47 then some (.aaload, 48, 0, 0, 0, 0, 0) else none
  else bif Nat.beq pc 48 then some (.aload_n 2, 49, 2, 0, 0, 0, 0) else none
  else bif Nat.blt pc 54 then bif Nat.blt pc 52 then bif Nat.beq pc 49 then some (.invokevirtual 44, 52, 20, 2, 3, 0, 0) else none
  else bif Nat.blt pc 53 then bif Nat.beq pc 52 then some (.aload_n 0, 53, 0, 0, 0, 0, 0) else none
  else bif Nat.beq pc 53 then some (.aload_n 0, 54, 0, 0, 0, 0, 0) else none
  else bif Nat.blt pc 57 then bif Nat.beq pc 54 then some (.getfield 31, 57, 1, 4, 0, 0, 0) else none
  else bif Nat.blt pc 58 then bif Nat.beq pc 57 then some (.iconst 1, 58, 0, 0, 0, 1, 0) else none
  else bif Nat.beq pc 58 then some (.iadd, 59, 0, 0, 0, 0, 0) else none
  else bif Nat.blt pc 70 then bif Nat.blt pc 65 then bif Nat.blt pc 61 then bif Nat.beq pc 59 then some (.bipush 8, 61, 0, 0, 0, 8, 0) else none
  else bif Nat.blt pc 62 then bif Nat.beq pc 61 then some (.irem, 62, 0, 0, 0, 0, 0) else none
  else bif Nat.beq pc 62 then some (.putfield 31, 65, 1, 4, 0, 0, 0) else none
  else bif Nat.blt pc 66 then bif Nat.beq pc 65 then some (.aload_n 0, 66, 0, 0, 0, 0, 0) else none
  else bif Nat.blt pc 67 then bif Nat.beq pc 66 then some (.aload_n 0, 67, 0, 0, 0, 0, 0) else none
  else bif Nat.beq pc 67 then some (.getfield 27, 70, 1, 3, 0, 0, 0) else none
  else bif Nat.blt pc 74 then bif Nat.blt pc 71 then bif Nat.beq pc 70 then some (.iconst 1, 71, 0, 0, 0, 1, 0) else none
  else bif Nat.blt pc 72 then bif Nat.beq pc 71 then some (.iadd, 72, 0, 0, 0, 0, 0) else none
  else bif Nat.beq pc 72 then some (.bipush 8, 74, 0, 0, 0, 8, 0) else none
  else bif Nat.blt pc 77 then bif Nat.beq pc 74 then some (.invokestatic 47, 77, 0, 0, 100, 0, 0) else none
  else bif Nat.blt pc 80 then bif Nat.beq pc 77 then some (.putfield 27, 80, 1, 3, 0, 0, 0) else none
  else bif Nat.beq pc 80 then some (.return_, 81, 0, 0, 0, 0, 0) else none
def rs_X1_remember : PMR := (0, 0, hdl [], 4)
def mi_X1_remember : PMI := wrapM 81 cd_X1_remember rs_X1_remember
def cd_X1_restore (pc : Nat) : Option PE :=
  bif Nat.blt pc 40 then bif Nat.blt pc 20 then bif Nat.blt pc 9 then bif Nat.blt pc 6 then bif Nat.blt pc 1 then bif Nat.beq pc 0 then some (.aload_n 0, 1, 0, 0, 0, 0, 0) else none
  else bif Nat.blt pc 4 then bif Nat.beq pc 1 then some (.getfield 31, 4, 1, 4, 0, 0, 0) else none
  else bif Nat.beq pc 4 then some (.bipush 8, 6, 0, 0, 0, 8, 0) else none
  else bif Nat.blt pc 7 then bif Nat.beq pc 6 then some (.iadd, 7, 0, 0, 0, 0, 0) else none
  else bif Nat.blt pc 8 then bif Nat.beq pc 7 then some (.iconst 1, 8, 0, 0, 0, 1, 0) else none
  else bif Nat.beq pc 8 then some (.isub, 9, 0, 0, 0, 0, 0) else none
  else bif Nat.blt pc 13 then bif Nat.blt pc 11 then bif Nat.beq pc 9 then some (.bipush 8, 11, 0, 0, 0, 8, 0) else none
  else bif Nat.blt pc 12 then bif Nat.beq pc 11 then some (.irem, 12, 0, 0, 0, 0, 0) else none
  else bif Nat.beq pc 12 then some (.istore_n 3, 13, 3, 0, 0, 0, 0) else none
  else bif Nat.blt pc 14 then bif Nat.beq pc 13 then some (.aload_n 0, 14, 0, 0, 0, 0, 0) else none
  else bif Nat.blt pc 17 then bif Nat.beq pc 14 then some (.getfield 27, 17, 1, 3, 0, 0, 0) else none
  else bif Nat.beq pc 17 then some (.ifCond .le 11, 20, 28, 0, 0, 0, 0) else none
  else bif Nat.blt pc 30 then bif Nat.blt pc 25 then bif Nat.blt pc 21 then bif Nat.beq pc 20 then some (.aload_n 0, 21, 0, 0, 0, 0, 0) else none
  else bif Nat.blt pc 22 then bif Nat.beq pc 21 then some (.iload_n 3, 22, 3, 0, 0, 0, 0) else none
  else bif Nat.beq pc 22 then some (.invokevirtual 36, 25, 5, 2, 1, 0, 0) else none
  else bif Nat.blt pc 28 then bif Nat.beq pc 25 then some (.ifCond .ne 5, 28, 30, 0, 0, 0, 0) else none
  else bif Nat.blt pc 29 then bif Nat.beq pc 28 then some (.iconst 0, 29, 0, 0, 0, 0, 0) else none
  else bif Nat.beq pc 29 then some (.ireturn, 30, 0, 0, 0, 0, 0) else none
  else bif Nat.blt pc 35 then bif Nat.blt pc 31 then bif Nat.beq pc 30 then some (.aload_n 0, 31, 0, 0, 0, 0, 0) else none
  else bif Nat.blt pc 32 then bif Nat.beq pc 31 then some (.iload_n 3, 32, 3, 0, 0, 0, 0) else none
  else bif Nat.beq pc 32 then some (.putfield 31, 35, 1, 4, 0, 0, 0) else none
  else bif Nat.blt pc 36 then bif Nat.beq pc 35 then some (.aload_n 0, 36, 0, 0, 0, 0, 0) else none
  else bif Nat.blt pc 37 then bif Nat.beq pc 36 then some (.dup, 37, 0, 0, 0, 0, 0) else none
  else bif Nat.beq pc 37 then some (.getfield 27, 40, 1, 3, 0, 0, 0) else none
  else bif Nat.blt pc 60 then bif Nat.blt pc 50 then bif Nat.blt pc 45 then bif Nat.blt pc 41 then bif Nat.beq pc 40 then some (.iconst 1, 41, 0, 0, 0, 1, 0) else none
  else bif Nat.blt pc 42 then bif Nat.beq pc 41 then some (.isub, 42, 0, 0, 0, 0, 0) else none
  else bif Nat.beq pc 42 then some (.putfield 27, 45, 1, 3, 0, 0, 0) else none
  else bif Nat.blt pc 46 then bif Nat.beq pc 45 then some (.aload_n 2, 46, 2, 0, 0, 0, 0) else none
  else bif Nat.blt pc 47 then bif Nat.beq pc 46 then some (.aload_n 0, 47, 0, 0, 0, 0, 0) else none
  else bif Nat.beq pc 47 then some (.getfield 19, 50, 1, 1, 2, 0, 0) else none
  else bif Nat.blt pc 55 then bif Nat.blt pc 51 then bif Nat.beq pc 50 then some (.iload_n 3, 51, 3, 0, 0, 0, 0) else none
  else bif Nat.blt pc 52 then bif Nat.beq pc 51 then some (.aaload, 52, 0, 0, 0, 0, 0) else none
  else bif Nat.beq pc 52 then some (.invokevirtual 44, 55, 20, 2, 3, 0, 0) else none
  else bif Nat.blt pc 56 then bif Nat.beq pc 55 then some (.aload_n 0, 56, 0, 0, 0, 0, 0) else none
  else bif Nat.blt pc 59 then bif Nat.beq pc 56 then some (.getfield 23, 59, 1, 2, 2, 0, 0) else none
  else bif Nat.beq pc 59 then some (.iload_n 3, 60, 3, 0, 0, 0, 0) else none
  else bif Nat.blt pc 70 then bif Nat.blt pc 65 then bif Nat.blt pc 61 then bif Nat.beq pc 60 then some (.baload, 61, 0, 0, 0, 0, 0) else none
  else bif Nat.blt pc 64 then bif Nat.beq pc 61 then some (.ifCond .eq 13, 64, 74, 0, 0, 0, 0) else none
  else bif Nat.beq pc 64 then some (.aload_n 1, 65, 1, 0, 0, 0, 0) else none
  else bif Nat.blt pc 66 then bif Nat.beq pc 65 then some (.aload_n 0, 66, 0, 0, 0, 0, 0) else none
  else bif Nat.blt pc 69 then bif Nat.beq pc 66 then some (.getfield 11, 69, 1, 0, 2, 0, 0) else none
  else bif Nat.beq pc 69 then some (.iload_n 3, 70, 3, 0, 0, 0, 0) else none
  else bif Nat.blt pc 75 then bif Nat.blt pc 71 then bif Nat.beq pc 70 then some (.aaload, 71, 0, 0, 0, 0, 0) else none
  else bif Nat.blt pc 74 then bif Nat.beq pc 71 then some (.invokevirtual 40, 74, 9, 2, 2, 0, 0) else none
  else bif Nat.beq pc 74 then some (.aload_n 0, 75, 0, 0, 0, 0, 0) else none
  else bif Nat.blt pc 79 then bif Nat.blt pc 78 then bif Nat.beq pc 75 then some (.getfield 23, 78, 1, 2, 2, 0, 0) else none
  else bif Nat.beq pc 78 then some (.iload_n 3, 79, 3, 0, 0, 0, 0) else none
  else bif Nat.blt pc 80 then bif Nat.beq pc 79 then some (.baload, 80, 0, 0, 0, 0, 0) else none
  else bif Nat.beq pc 80 then some (.ireturn, 81, 0, 0, 0, 0, 0) else none
def rs_X1_restore : PMR := (2, 0, hdl [], 4)
def mi_X1_restore : PMI := wrapM 81 cd_X1_restore rs_X1_restore
def cd_X2_clear (pc : Nat) : Option PE :=
  bif Nat.blt pc 10 then bif Nat.blt pc 5 then bif Nat.blt pc 1 then bif Nat.beq pc 0 then some (.aload_n 0, 1, 0, 0, 0, 0, 0) else none
  else bif Nat.blt pc 2 then bif Nat.beq pc 1 then some (.iconst 0, 2, 0, 0, 0, 0, 0) else none
  else bif Nat.beq pc 2 then some (.putfield 30, 5, 2, 0, 0, 0, 0) else none
  else bif Nat.blt pc 6 then bif Nat.beq pc 5 then some (.aload_n 0, 6, 0, 0, 0, 0, 0) else none
  else bif Nat.blt pc 7 then bif Nat.beq pc 6 then some (.iconst 0, 7, 0, 0, 0, 0, 0) else none
  else bif Nat.beq pc 7 then some (.putfield 34, 10, 2, 1, 0, 0, 0) else none
  else bif Nat.blt pc 15 then bif Nat.blt pc 11 then bif Nat.beq pc 10 then some (.aload_n 0, 11, 0, 0, 0, 0, 0) else none
  else bif Nat.blt pc 12 then bif Nat.beq pc 11 then some (.iconst 0, 12, 0, 0, 0, 0, 0) else none
  else bif Nat.beq pc 12 then some (.putfield 37, 15, 2, 2, 0, 0, 0) else none
  else bif Nat.blt pc 17 then bif Nat.blt pc 16 then bif Nat.beq pc 15 then some (.aload_n 0, 16, 0, 0, 0, 0, 0) else none
  else bif Nat.beq pc 16 then some (.iconst 0, 17, 0, 0, 0, 0, 0) else none
  else bif Nat.blt pc 20 then bif Nat.beq pc 17 then some (.putfield 40, 20, 2, 3, 0, 0, 0) else none
  else bif Nat.beq pc 20 then some (.return_, 21, 0, 0, 0, 0, 0) else none
def rs_X2_clear : PMR := (0, 0, hdl [], 1)
def mi_X2_clear : PMI := wrapM 21 cd_X2_clear rs_X2_clear
def cd_X2_copyFrom (pc : Nat) : Option PE :=
  bif Nat.blt pc 47 then bif Nat.blt pc 21 then bif Nat.blt pc 9 then bif Nat.blt pc 2 then bif Nat.blt pc 1 then bif Nat.beq pc 0 then some (.aload_n 0, 1, 0, 0, 0, 0, 0) else none
  else bif Nat.beq pc 1 then some (.aload_n 1, 2, 1, 0, 0, 0, 0) else none
  else bif Nat.blt pc 5 then bif Nat.beq pc 2 then some (.getfield 30, 5, 2, 0, 0, 0, 0) else none
  else bif Nat.blt pc 8 then bif Nat.beq pc 5 then some (.putfield 30, 8, 2, 0, 0, 0, 0) else none
  else bif Nat.beq pc 8 then some (.aload_n 0, 9, 0, 0, 0, 0, 0) else none
  else bif Nat.blt pc 16 then bif Nat.blt pc 10 then bif Nat.beq pc 9 then some (.aload_n 1, 10, 1, 0, 0, 0, 0) else none
  else bif Nat.blt pc 13 then bif Nat.beq pc 10 then some (.getfield 34, 13, 2, 1, 0, 0, 0) else none
  else bif Nat.beq pc 13 then some (.putfield 34, 16, 2, 1, 0, 0, 0) else none
  else bif Nat.blt pc 17 then bif Nat.beq pc 16 then some (.aload_n 0, 17, 0, 0, 0, 0, 0) else none
  else bif Nat.blt pc 18 then bif Nat.beq pc 17 then some (.aload_n 1, 18, 1, 0, 0, 0, 0) else none
  else bif Nat.beq pc 18 then some (.getfield 37, 21, 2, 2, 0, 0, 0) else none
  else bif Nat.blt pc 33 then bif Nat.blt pc 26 then bif Nat.blt pc 24 then bif Nat.beq pc 21 then some (.putfield 37, 24, 2, 2, 0, 0, 0) else none
  else bif Nat.blt pc 25 then bif Nat.beq pc 24 then some (.aload_n 0, 25, 0, 0, 0, 0, 0) else none
  else bif Nat.beq pc 25 then some (.aload_n 1, 26, 1, 0, 0, 0, 0) else none
  else bif Nat.blt pc 29 then bif Nat.beq pc 26 then some (.getfield 40, 29, 2, 3, 0, 0, 0) else none
  else bif Nat.blt pc 32 then bif Nat.beq pc 29 then some (.putfield 40, 32, 2, 3, 0, 0, 0) else none
  else bif Nat.beq pc 32 then some (.aload_n 1, 33, 1, 0, 0, 0, 0) else none
  else bif Nat.blt pc 40 then bif Nat.blt pc 36 then bif Nat.beq pc 33 then some (.getfield 9, 36, 2, 4, 2, 0, 0) else none
  else bif Nat.blt pc 37 then bif Nat.beq pc 36 then some (.aload_n 0, 37, 0, 0, 0, 0, 0) else none
  else bif Nat.beq pc 37 then some (.getfield 9, 40, 2, 4, 2, 0, 0) else none
  else bif Nat.blt pc 43 then bif Nat.beq pc 40 then some (.invokestatic 43, 43, 103, 2, 99, 0, 0) else none
  else bif Nat.blt pc 44 then bif Nat.beq pc 43 then some (.aload_n 1, 44, 1, 0, 0, 0, 0) else none
  else bif Nat.beq pc 44 then some (.getfield 15, 47, 2, 5, 2, 0, 0) else none
  else bif Nat.blt pc 73 then bif Nat.blt pc 59 then bif Nat.blt pc 54 then bif Nat.blt pc 48 then bif Nat.beq pc 47 then some (.aload_n 0, 48, 0, 0, 0, 0, 0) else none
  else bif Nat.blt pc 51 then bif Nat.beq pc 48 then some (.getfield 15, 51, 2, 5, 2, 0, 0) else none
  else bif Nat.beq pc 51 then some (.invokestatic 43, 54, 103, 2, 99, 0, 0) else none
  else bif Nat.blt pc 55 then bif Nat.beq pc 54 then some (.aload_n 1, 55, 1, 0, 0, 0, 0) else none
  else bif Nat.blt pc 58 then bif Nat.beq pc 55 then some (.getfield 18, 58, 2, 6, 2, 0, 0) else none
  else bif Nat.beq pc 58 then some (.aload_n 0, 59, 0, 0, 0, 0, 0) else none
  else bif Nat.blt pc 66 then bif Nat.blt pc 62 then bif Nat.beq pc 59 then some (.getfield 18, 62, 2, 6, 2, 0, 0) else none
  else bif Nat.blt pc 65 then bif Nat.beq pc 62 then some (.invokestatic 43, 65, 103, 2, 99, 0, 0) else none
  else bif Nat.beq pc 65 then some (.aload_n 1, 66, 1, 0, 0, 0, 0) else none
  else bif Nat.blt pc 69 then bif Nat.beq pc 66 then some (.getfield 21, 69, 2, 7, 2, 0, 0) else none
  else bif Nat.blt pc 70 then bif Nat.beq pc 69 then some (.aload_n 0, 70, 0, 0, 0, 0, 0) else none
  else bif Nat.beq pc 70 then some (.getfield 21, 73, 2, 7, 2, 0, 0) else none
  else bif Nat.blt pc 87 then bif Nat.blt pc 80 then bif Nat.blt pc 76 then bif Nat.beq pc 73 then some (.invokestatic 43, 76, 103, 2, 99, 0, 0) else none
  else bif Nat.blt pc 77 then bif Nat.beq pc 76 then some (.aload_n 1, 77, 1, 0, 0, 0, 0) else none
  else bif Nat.beq pc 77 then some (.getfield 24, 80, 2, 8, 2, 0, 0) else none
  else bif Nat.blt pc 81 then bif Nat.beq pc 80 then some (.aload_n 0, 81, 0, 0, 0, 0, 0) else none
  else bif Nat.blt pc 84 then bif Nat.beq pc 81 then some (.getfield 24, 84, 2, 8, 2, 0, 0) else none
  else bif Nat.beq pc 84 then some (.invokestatic 43, 87, 103, 2, 99, 0, 0) else none
  else bif Nat.blt pc 92 then bif Nat.blt pc 88 then bif Nat.beq pc 87 then some (.aload_n 1, 88, 1, 0, 0, 0, 0) else none
  else bif Nat.blt pc 91 then bif Nat.beq pc 88 then some (.getfield 27, 91, 2, 9, 2, 0, 0) else none
  else bif Nat.beq pc 91 then some (.aload_n 0, 92, 0, 0, 0, 0, 0) else none
  else bif Nat.blt pc 95 then bif Nat.beq pc 92 then some (.getfield 27, 95, 2, 9, 2, 0, 0) else none
  else bif Nat.blt pc 98 then bif Nat.beq pc 95 then some (.invokestatic 43, 98, 103, 2, 99, 0, 0) else none
  else bif Nat.beq pc 98 then some (.return_, 99, 0, 0, 0, 0, 0) else none
def rs_X2_copyFrom : PMR := (0, 0, hdl [], 2)
def mi_X2_copyFrom : PMI := wrapM 99 cd_X2_copyFrom rs_X2_copyFrom
def cd_X2_addEdge (pc : Nat) : Option PE :=
  bif Nat.blt pc 29 then bif Nat.blt pc 16 then bif Nat.blt pc 9 then bif Nat.blt pc 4 then bif Nat.blt pc 1 then bif Nat.beq pc 0 then some (.aload_n 0, 1, 0, 0, 0, 0, 0) else none
  else bif Nat.beq pc 1 then some (.getfield 37, 4, 2, 2, 0, 0, 0) else none
  else bif Nat.blt pc 6 then bif Nat.beq pc 4 then some (.bipush 14, 6, 0, 0, 0, 14, 0) else none
  else bif Nat.beq pc 6 then some (.if_icmp .lt 4, 9, 10, 0, 0, 0, 0) else none
  else bif Nat.blt pc 11 then bif Nat.blt pc 10 then bif Nat.beq pc 9 then some (.return_, 10, 0, 0, 0, 0, 0) else none
  else bif Nat.beq pc 10 then some (.aload_n 0, 11, 0, 0, 0, 0, 0) else none
  else bif Nat.blt pc 12 then bif Nat.beq pc 11 then some (.iconst 2, 12, 0, 0, 0, 2, 0) else none
  else bif Nat.blt pc 13 then bif Nat.beq pc 12 then some (.aload_n 0, 13, 0, 0, 0, 0, 0) else none
  else bif Nat.beq pc 13 then some (.getfield 37, 16, 2, 2, 0, 0, 0) else none
  else bif Nat.blt pc 22 then bif Nat.blt pc 18 then bif Nat.blt pc 17 then bif Nat.beq pc 16 then some (.imul, 17, 0, 0, 0, 0, 0) else none
  else bif Nat.beq pc 17 then some (.iload_n 1, 18, 1, 0, 0, 0, 0) else none
  else bif Nat.blt pc 19 then bif Nat.beq pc 18 then some (.iload_n 3, 19, 3, 0, 0, 0, 0) else none
  else bif Nat.beq pc 19 then some (.invokevirtual 47, 22, 11, 4, 2, 0, 0) else none
  else bif Nat.blt pc 24 then bif Nat.blt pc 23 then bif Nat.beq pc 22 then some (.aload_n 0, 23, 0, 0, 0, 0, 0) else none
  else bif Nat.beq pc 23 then some (.iconst 2, 24, 0, 0, 0, 2, 0) else none
  else bif Nat.blt pc 25 then bif Nat.beq pc 24 then some (.aload_n 0, 25, 0, 0, 0, 0, 0) else none
  else bif Nat.blt pc 28 then bif Nat.beq pc 25 then some (.getfield 37, 28, 2, 2, 0, 0, 0) else none
  else bif Nat.beq pc 28 then some (.imul, 29, 0, 0, 0, 0, 0) else none
  else bif Nat.blt pc 45 then bif Nat.blt pc 34 then bif Nat.blt pc 31 then bif Nat.blt pc 30 then bif Nat.beq pc 29 then some (.iconst 1, 30, 0, 0, 0, 1, 0) else none
  else bif Nat.beq pc 30 then some (.iadd, 31, 0, 0, 0, 0, 0) else none
  else bif Nat.blt pc 32 then bif Nat.beq pc 31 then some (.iload_n 2, 32, 2, 0, 0, 0, 0) else none
  else bif Nat.beq pc 32 then some (.iload 4, 34, 4, 0, 0, 0, 0) else none
  else bif Nat.blt pc 38 then bif Nat.blt pc 37 then bif Nat.beq pc 34 then some (.invokevirtual 47, 37, 11, 4, 2, 0, 0) else none
  else bif Nat.beq pc 37 then some (.aload_n 0, 38, 0, 0, 0, 0, 0) else none
  else bif Nat.blt pc 41 then bif Nat.beq pc 38 then some (.getfield 24, 41, 2, 8, 2, 0, 0) else none
  else bif Nat.blt pc 42 then bif Nat.beq pc 41 then some (.aload_n 0, 42, 0, 0, 0, 0, 0) else none
  else bif Nat.beq pc 42 then some (.getfield 37, 45, 2, 2, 0, 0, 0) else none
  else bif Nat.blt pc 52 then bif Nat.blt pc 50 then bif Nat.blt pc 47 then bif Nat.beq pc 45 then some (.iload 5, 47, 5, 0, 0, 0, 0) else none
  else bif Nat.beq pc 47 then some (.invokestatic 51, 50, 102, 3, 99, 0, 0) else none
  else bif Nat.blt pc 51 then bif Nat.beq pc 50 then some (.aload_n 0, 51, 0, 0, 0, 0, 0) else none
  else bif Nat.beq pc 51 then some (.dup, 52, 0, 0, 0, 0, 0) else none
  else bif Nat.blt pc 56 then bif Nat.blt pc 55 then bif Nat.beq pc 52 then some (.getfield 37, 55, 2, 2, 0, 0, 0) else none
  else bif Nat.beq pc 55 then some (.iconst 1, 56, 0, 0, 0, 1, 0) else none
  else bif Nat.blt pc 57 then bif Nat.beq pc 56 then some (.iadd, 57, 0, 0, 0, 0, 0) else none
  else bif Nat.blt pc 60 then bif Nat.beq pc 57 then some (.putfield 37, 60, 2, 2, 0, 0, 0) else none
  else bif Nat.beq pc 60 then some (.return_, 61, 0, 0, 0, 0, 0) else none
def rs_X2_addEdge : PMR := (0, 0, hdl [], 6)
def mi_X2_addEdge : PMI := wrapM 61 cd_X2_addEdge rs_X2_addEdge
def cd_X2_putArc (pc : Nat) : Option PE :=
  bif Nat.blt pc 18 then bif Nat.blt pc 9 then bif Nat.blt pc 4 then bif Nat.blt pc 1 then bif Nat.beq pc 0 then some (.aload_n 0, 1, 0, 0, 0, 0, 0) else none
  else bif Nat.beq pc 1 then some (.getfield 9, 4, 2, 4, 2, 0, 0) else none
  else bif Nat.blt pc 5 then bif Nat.beq pc 4 then some (.iload_n 1, 5, 1, 0, 0, 0, 0) else none
  else bif Nat.blt pc 6 then bif Nat.beq pc 5 then some (.iload_n 2, 6, 2, 0, 0, 0, 0) else none
  else bif Nat.beq pc 6 then some (.invokestatic 51, 9, 102, 3, 99, 0, 0) else none
  else bif Nat.blt pc 13 then bif Nat.blt pc 10 then bif Nat.beq pc 9 then some (.aload_n 0, 10, 0, 0, 0, 0, 0) else none
  else bif Nat.beq pc 10 then some (.getfield 15, 13, 2, 5, 2, 0, 0) else none
  else bif Nat.blt pc 14 then bif Nat.beq pc 13 then some (.iload_n 1, 14, 1, 0, 0, 0, 0) else none
  else bif Nat.blt pc 15 then bif Nat.beq pc 14 then some (.iload_n 3, 15, 3, 0, 0, 0, 0) else none
  else bif Nat.beq pc 15 then some (.invokestatic 51, 18, 102, 3, 99, 0, 0) else none
  else bif Nat.blt pc 27 then bif Nat.blt pc 22 then bif Nat.blt pc 19 then bif Nat.beq pc 18 then some (.aload_n 0, 19, 0, 0, 0, 0, 0) else none
  else bif Nat.beq pc 19 then some (.getfield 18, 22, 2, 6, 2, 0, 0) else none
  else bif Nat.blt pc 23 then bif Nat.beq pc 22 then some (.iload_n 1, 23, 1, 0, 0, 0, 0) else none
  else bif Nat.blt pc 24 then bif Nat.beq pc 23 then some (.iload_n 3, 24, 3, 0, 0, 0, 0) else none
  else bif Nat.beq pc 24 then some (.invokestatic 51, 27, 102, 3, 99, 0, 0) else none
  else bif Nat.blt pc 32 then bif Nat.blt pc 28 then bif Nat.beq pc 27 then some (.aload_n 0, 28, 0, 0, 0, 0, 0) else none
  else bif Nat.blt pc 31 then bif Nat.beq pc 28 then some (.getfield 21, 31, 2, 7, 2, 0, 0) else none
  else bif Nat.beq pc 31 then some (.iload_n 1, 32, 1, 0, 0, 0, 0) else none
  else bif Nat.blt pc 33 then bif Nat.beq pc 32 then some (.iconst 0, 33, 0, 0, 0, 0, 0) else none
  else bif Nat.blt pc 36 then bif Nat.beq pc 33 then some (.invokestatic 51, 36, 102, 3, 99, 0, 0) else none
  else bif Nat.beq pc 36 then some (.return_, 37, 0, 0, 0, 0, 0) else none
def rs_X2_putArc : PMR := (0, 0, hdl [], 4)
def mi_X2_putArc : PMI := wrapM 37 cd_X2_putArc rs_X2_putArc
def cd_X2_addDepot (pc : Nat) : Option PE :=
  bif Nat.blt pc 17 then bif Nat.blt pc 8 then bif Nat.blt pc 4 then bif Nat.blt pc 1 then bif Nat.beq pc 0 then some (.aload_n 0, 1, 0, 0, 0, 0, 0) else none
  else bif Nat.beq pc 1 then some (.getfield 40, 4, 2, 3, 0, 0, 0) else none
  else bif Nat.blt pc 5 then bif Nat.beq pc 4 then some (.iconst 3, 5, 0, 0, 0, 3, 0) else none
  else bif Nat.beq pc 5 then some (.if_icmp .lt 4, 8, 9, 0, 0, 0, 0) else none
  else bif Nat.blt pc 10 then bif Nat.blt pc 9 then bif Nat.beq pc 8 then some (.return_, 9, 0, 0, 0, 0, 0) else none
  else bif Nat.beq pc 9 then some (.aload_n 0, 10, 0, 0, 0, 0, 0) else none
  else bif Nat.blt pc 13 then bif Nat.beq pc 10 then some (.getfield 27, 13, 2, 9, 2, 0, 0) else none
  else bif Nat.blt pc 14 then bif Nat.beq pc 13 then some (.aload_n 0, 14, 0, 0, 0, 0, 0) else none
  else bif Nat.beq pc 14 then some (.getfield 40, 17, 2, 3, 0, 0, 0) else none
  else bif Nat.blt pc 23 then bif Nat.blt pc 21 then bif Nat.blt pc 18 then bif Nat.beq pc 17 then some (.iload_n 1, 18, 1, 0, 0, 0, 0) else none
  else bif Nat.beq pc 18 then some (.invokestatic 51, 21, 102, 3, 99, 0, 0) else none
  else bif Nat.blt pc 22 then bif Nat.beq pc 21 then some (.aload_n 0, 22, 0, 0, 0, 0, 0) else none
  else bif Nat.beq pc 22 then some (.dup, 23, 0, 0, 0, 0, 0) else none
  else bif Nat.blt pc 27 then bif Nat.blt pc 26 then bif Nat.beq pc 23 then some (.getfield 40, 26, 2, 3, 0, 0, 0) else none
  else bif Nat.beq pc 26 then some (.iconst 1, 27, 0, 0, 0, 1, 0) else none
  else bif Nat.blt pc 28 then bif Nat.beq pc 27 then some (.iadd, 28, 0, 0, 0, 0, 0) else none
  else bif Nat.blt pc 31 then bif Nat.beq pc 28 then some (.putfield 40, 31, 2, 3, 0, 0, 0) else none
  else bif Nat.beq pc 31 then some (.return_, 32, 0, 0, 0, 0, 0) else none
def rs_X2_addDepot : PMR := (0, 0, hdl [], 2)
def mi_X2_addDepot : PMI := wrapM 32 cd_X2_addDepot rs_X2_addDepot
def cd_X2_banTurn (pc : Nat) : Option PE :=
  bif Nat.blt pc 21 then bif Nat.blt pc 11 then bif Nat.blt pc 3 then bif Nat.blt pc 1 then bif Nat.beq pc 0 then some (.aload_n 0, 1, 0, 0, 0, 0, 0) else none
  else bif Nat.blt pc 2 then bif Nat.beq pc 1 then some (.iconst 2, 2, 0, 0, 0, 2, 0) else none
  else bif Nat.beq pc 2 then some (.iload_n 2, 3, 2, 0, 0, 0, 0) else none
  else bif Nat.blt pc 7 then bif Nat.blt pc 4 then bif Nat.beq pc 3 then some (.imul, 4, 0, 0, 0, 0, 0) else none
  else bif Nat.beq pc 4 then some (.invokevirtual 55, 7, 15, 2, 2, 0, 0) else none
  else bif Nat.blt pc 8 then bif Nat.beq pc 7 then some (.iload_n 1, 8, 1, 0, 0, 0, 0) else none
  else bif Nat.beq pc 8 then some (.if_icmp .ne 9, 11, 17, 0, 0, 0, 0) else none
  else bif Nat.blt pc 17 then bif Nat.blt pc 13 then bif Nat.blt pc 12 then bif Nat.beq pc 11 then some (.iconst 2, 12, 0, 0, 0, 2, 0) else none
  else bif Nat.beq pc 12 then some (.iload_n 2, 13, 2, 0, 0, 0, 0) else none
  else bif Nat.blt pc 14 then bif Nat.beq pc 13 then some (.imul, 14, 0, 0, 0, 0, 0) else none
  else bif Nat.beq pc 14 then some (.goto 8, 17, 22, 0, 0, 0, 0) else none
  else bif Nat.blt pc 19 then bif Nat.blt pc 18 then bif Nat.beq pc 17 then some (.iconst 2, 18, 0, 0, 0, 2, 0) else none
  else bif Nat.beq pc 18 then some (.iload_n 2, 19, 2, 0, 0, 0, 0) else none
  else bif Nat.blt pc 20 then bif Nat.beq pc 19 then some (.imul, 20, 0, 0, 0, 0, 0) else none
  else bif Nat.beq pc 20 then some (.iconst 1, 21, 0, 0, 0, 1, 0) else none
  else bif Nat.blt pc 34 then bif Nat.blt pc 25 then bif Nat.blt pc 22 then bif Nat.beq pc 21 then some (.iadd, 22, 0, 0, 0, 0, 0) else none
  else bif Nat.blt pc 24 then bif Nat.beq pc 22 then some (.istore 4, 24, 4, 0, 0, 0, 0) else none
  else bif Nat.beq pc 24 then some (.aload_n 0, 25, 0, 0, 0, 0, 0) else none
  else bif Nat.blt pc 30 then bif Nat.blt pc 28 then bif Nat.beq pc 25 then some (.getfield 21, 28, 2, 7, 2, 0, 0) else none
  else bif Nat.beq pc 28 then some (.iload 4, 30, 4, 0, 0, 0, 0) else none
  else bif Nat.blt pc 31 then bif Nat.beq pc 30 then some (.aload_n 0, 31, 0, 0, 0, 0, 0) else none
  else bif Nat.beq pc 31 then some (.getfield 21, 34, 2, 7, 2, 0, 0) else none
  else bif Nat.blt pc 41 then bif Nat.blt pc 39 then bif Nat.blt pc 36 then bif Nat.beq pc 34 then some (.iload 4, 36, 4, 0, 0, 0, 0) else none
  else bif Nat.beq pc 36 then some (.invokestatic 59, 39, 101, 2, 99, 0, 0) else none
  else bif Nat.blt pc 40 then bif Nat.beq pc 39 then some (.iconst 1, 40, 0, 0, 0, 1, 0) else none
  else bif Nat.beq pc 40 then some (.iload_n 3, 41, 3, 0, 0, 0, 0) else none
  else bif Nat.blt pc 43 then bif Nat.blt pc 42 then bif Nat.beq pc 41 then some (.ishl, 42, 0, 0, 0, 0, 0) else none
  else bif Nat.beq pc 42 then some (.ior, 43, 0, 0, 0, 0, 0) else none
  else bif Nat.blt pc 46 then bif Nat.beq pc 43 then some (.invokestatic 51, 46, 102, 3, 99, 0, 0) else none
  else bif Nat.beq pc 46 then some (.return_, 47, 0, 0, 0, 0, 0) else none
def rs_X2_banTurn : PMR := (0, 0, hdl [], 5)
def mi_X2_banTurn : PMI := wrapM 47 cd_X2_banTurn rs_X2_banTurn
def cd_X2_start (pc : Nat) : Option PE :=
  bif Nat.blt pc 4 then bif Nat.blt pc 1 then bif Nat.beq pc 0 then some (.aload_n 0, 1, 0, 0, 0, 0, 0) else none
  else bif Nat.beq pc 1 then some (.getfield 9, 4, 2, 4, 2, 0, 0) else none
  else bif Nat.blt pc 5 then bif Nat.beq pc 4 then some (.iload_n 1, 5, 1, 0, 0, 0, 0) else none
  else bif Nat.blt pc 8 then bif Nat.beq pc 5 then some (.invokestatic 59, 8, 101, 2, 99, 0, 0) else none
  else bif Nat.beq pc 8 then some (.ireturn, 9, 0, 0, 0, 0, 0) else none
def rs_X2_start : PMR := (1, 0, hdl [], 2)
def mi_X2_start : PMI := wrapM 9 cd_X2_start rs_X2_start
def cd_X2_end (pc : Nat) : Option PE :=
  bif Nat.blt pc 5 then bif Nat.blt pc 1 then bif Nat.beq pc 0 then some (.aload_n 0, 1, 0, 0, 0, 0, 0) else none
  else bif Nat.blt pc 4 then bif Nat.beq pc 1 then some (.getfield 9, 4, 2, 4, 2, 0, 0) else none
  else bif Nat.beq pc 4 then some (.iload_n 1, 5, 1, 0, 0, 0, 0) else none
  else bif Nat.blt pc 7 then bif Nat.blt pc 6 then bif Nat.beq pc 5 then some (.iconst 1, 6, 0, 0, 0, 1, 0) else none
  else bif Nat.beq pc 6 then some (.ixor, 7, 0, 0, 0, 0, 0) else none
  else bif Nat.blt pc 10 then bif Nat.beq pc 7 then some (.invokestatic 59, 10, 101, 2, 99, 0, 0) else none
  else bif Nat.beq pc 10 then some (.ireturn, 11, 0, 0, 0, 0, 0) else none
def rs_X2_end : PMR := (1, 0, hdl [], 2)
def mi_X2_end : PMI := wrapM 11 cd_X2_end rs_X2_end
def cd_X2_touches (pc : Nat) : Option PE :=
  bif Nat.blt pc 13 then bif Nat.blt pc 4 then bif Nat.blt pc 2 then bif Nat.blt pc 1 then bif Nat.beq pc 0 then some (.aload_n 0, 1, 0, 0, 0, 0, 0) else none
  else bif Nat.beq pc 1 then some (.iconst 2, 2, 0, 0, 0, 2, 0) else none
  else bif Nat.blt pc 3 then bif Nat.beq pc 2 then some (.iload_n 1, 3, 1, 0, 0, 0, 0) else none
  else bif Nat.beq pc 3 then some (.imul, 4, 0, 0, 0, 0, 0) else none
  else bif Nat.blt pc 8 then bif Nat.blt pc 7 then bif Nat.beq pc 4 then some (.invokevirtual 63, 7, 14, 2, 2, 0, 0) else none
  else bif Nat.beq pc 7 then some (.iload_n 2, 8, 2, 0, 0, 0, 0) else none
  else bif Nat.blt pc 11 then bif Nat.beq pc 8 then some (.if_icmp .eq 14, 11, 22, 0, 0, 0, 0) else none
  else bif Nat.blt pc 12 then bif Nat.beq pc 11 then some (.aload_n 0, 12, 0, 0, 0, 0, 0) else none
  else bif Nat.beq pc 12 then some (.iconst 2, 13, 0, 0, 0, 2, 0) else none
  else bif Nat.blt pc 19 then bif Nat.blt pc 15 then bif Nat.blt pc 14 then bif Nat.beq pc 13 then some (.iload_n 1, 14, 1, 0, 0, 0, 0) else none
  else bif Nat.beq pc 14 then some (.imul, 15, 0, 0, 0, 0, 0) else none
  else bif Nat.blt pc 18 then bif Nat.beq pc 15 then some (.invokevirtual 55, 18, 15, 2, 2, 0, 0) else none
  else bif Nat.beq pc 18 then some (.iload_n 2, 19, 2, 0, 0, 0, 0) else none
  else bif Nat.blt pc 23 then bif Nat.blt pc 22 then bif Nat.beq pc 19 then some (.if_icmp .ne 7, 22, 26, 0, 0, 0, 0) else none
  else bif Nat.beq pc 22 then some (.iconst 1, 23, 0, 0, 0, 1, 0) else none
  else bif Nat.blt pc 26 then bif Nat.beq pc 23 then some (.goto 4, 26, 27, 0, 0, 0, 0) else none
  else bif Nat.blt pc 27 then bif Nat.beq pc 26 then some (.iconst 0, 27, 0, 0, 0, 0, 0) else none
  else bif Nat.beq pc 27 then some (.ireturn, 28, 0, 0, 0, 0, 0) else none
def rs_X2_touches : PMR := (2, 0, hdl [], 3)
def mi_X2_touches : PMI := wrapM 28 cd_X2_touches rs_X2_touches
def cd_X2_allowsTurn (pc : Nat) : Option PE :=
  bif Nat.blt pc 21 then bif Nat.blt pc 7 then bif Nat.blt pc 2 then bif Nat.blt pc 1 then bif Nat.beq pc 0 then some (.aload_n 0, 1, 0, 0, 0, 0, 0) else none
  else bif Nat.beq pc 1 then some (.iload_n 1, 2, 1, 0, 0, 0, 0) else none
  else bif Nat.blt pc 5 then bif Nat.beq pc 2 then some (.invokevirtual 55, 5, 15, 2, 2, 0, 0) else none
  else bif Nat.blt pc 6 then bif Nat.beq pc 5 then some (.aload_n 0, 6, 0, 0, 0, 0, 0) else none
  else bif Nat.beq pc 6 then some (.iload_n 2, 7, 2, 0, 0, 0, 0) else none
  else bif Nat.blt pc 14 then bif Nat.blt pc 10 then bif Nat.beq pc 7 then some (.invokevirtual 63, 10, 14, 2, 2, 0, 0) else none
  else bif Nat.blt pc 13 then bif Nat.beq pc 10 then some (.if_icmp .ne 24, 13, 34, 0, 0, 0, 0) else none
  else bif Nat.beq pc 13 then some (.aload_n 0, 14, 0, 0, 0, 0, 0) else none
  else bif Nat.blt pc 17 then bif Nat.beq pc 14 then some (.getfield 21, 17, 2, 7, 2, 0, 0) else none
  else bif Nat.blt pc 18 then bif Nat.beq pc 17 then some (.iload_n 1, 18, 1, 0, 0, 0, 0) else none
  else bif Nat.beq pc 18 then some (.invokestatic 59, 21, 101, 2, 99, 0, 0) else none
  else bif Nat.blt pc 26 then bif Nat.blt pc 23 then bif Nat.blt pc 22 then bif Nat.beq pc 21 then some (.iload_n 2, 22, 2, 0, 0, 0, 0) else none
  else bif Nat.beq pc 22 then some (.iconst 2, 23, 0, 0, 0, 2, 0) else none
  else bif Nat.blt pc 24 then bif Nat.beq pc 23 then some (.idiv, 24, 0, 0, 0, 0, 0) else none
  else bif Nat.blt pc 25 then bif Nat.beq pc 24 then some (.ishr, 25, 0, 0, 0, 0, 0) else none
  else bif Nat.beq pc 25 then some (.iconst 1, 26, 0, 0, 0, 1, 0) else none
  else bif Nat.blt pc 31 then bif Nat.blt pc 27 then bif Nat.beq pc 26 then some (.iand, 27, 0, 0, 0, 0, 0) else none
  else bif Nat.blt pc 30 then bif Nat.beq pc 27 then some (.ifCond .ne 7, 30, 34, 0, 0, 0, 0) else none
  else bif Nat.beq pc 30 then some (.iconst 1, 31, 0, 0, 0, 1, 0) else none
  else bif Nat.blt pc 34 then bif Nat.beq pc 31 then some (.goto 4, 34, 35, 0, 0, 0, 0) else none
  else bif Nat.blt pc 35 then bif Nat.beq pc 34 then some (.iconst 0, 35, 0, 0, 0, 0, 0) else none
  else bif Nat.beq pc 35 then some (.ireturn, 36, 0, 0, 0, 0, 0) else none
def rs_X2_allowsTurn : PMR := (2, 0, hdl [], 3)
def mi_X2_allowsTurn : PMI := wrapM 36 cd_X2_allowsTurn rs_X2_allowsTurn
def cd_X2_oddSet (pc : Nat) : Option PE :=
  bif Nat.blt pc 28 then bif Nat.blt pc 13 then bif Nat.blt pc 4 then bif Nat.blt pc 2 then bif Nat.blt pc 1 then bif Nat.beq pc 0 then some (.iconst 0, 1, 0, 0, 0, 0, 0) else none
  else bif Nat.beq pc 1 then some (.istore_n 1, 2, 1, 0, 0, 0, 0) else none
  else bif Nat.blt pc 3 then bif Nat.beq pc 2 then some (.iconst 0, 3, 0, 0, 0, 0, 0) else none
  else bif Nat.beq pc 3 then some (.istore_n 2, 4, 2, 0, 0, 0, 0) else none
  else bif Nat.blt pc 6 then bif Nat.blt pc 5 then bif Nat.beq pc 4 then some (.iload_n 2, 5, 2, 0, 0, 0, 0) else none
  else bif Nat.beq pc 5 then some (.aload_n 0, 6, 0, 0, 0, 0, 0) else none
  else bif Nat.blt pc 9 then bif Nat.beq pc 6 then some (.getfield 37, 9, 2, 2, 0, 0, 0) else none
  else bif Nat.blt pc 12 then bif Nat.beq pc 9 then some (.if_icmp .ge 44, 12, 53, 0, 0, 0, 0) else none
  else bif Nat.beq pc 12 then some (.aload_n 0, 13, 0, 0, 0, 0, 0) else none
  else bif Nat.blt pc 23 then bif Nat.blt pc 17 then bif Nat.blt pc 16 then bif Nat.beq pc 13 then some (.getfield 24, 16, 2, 8, 2, 0, 0) else none
  else bif Nat.beq pc 16 then some (.iload_n 2, 17, 2, 0, 0, 0, 0) else none
  else bif Nat.blt pc 20 then bif Nat.beq pc 17 then some (.invokestatic 59, 20, 101, 2, 99, 0, 0) else none
  else bif Nat.beq pc 20 then some (.ifCond .le 27, 23, 47, 0, 0, 0, 0) else none
  else bif Nat.blt pc 25 then bif Nat.blt pc 24 then bif Nat.beq pc 23 then some (.iload_n 1, 24, 1, 0, 0, 0, 0) else none
  else bif Nat.beq pc 24 then some (.iconst 1, 25, 0, 0, 0, 1, 0) else none
  else bif Nat.blt pc 26 then bif Nat.beq pc 25 then some (.aload_n 0, 26, 0, 0, 0, 0, 0) else none
  else bif Nat.blt pc 27 then bif Nat.beq pc 26 then some (.iconst 2, 27, 0, 0, 0, 2, 0) else none
  else bif Nat.beq pc 27 then some (.iload_n 2, 28, 2, 0, 0, 0, 0) else none
  else bif Nat.blt pc 39 then bif Nat.blt pc 34 then bif Nat.blt pc 32 then bif Nat.blt pc 29 then bif Nat.beq pc 28 then some (.imul, 29, 0, 0, 0, 0, 0) else none
  else bif Nat.beq pc 29 then some (.invokevirtual 63, 32, 14, 2, 2, 0, 0) else none
  else bif Nat.blt pc 33 then bif Nat.beq pc 32 then some (.ishl, 33, 0, 0, 0, 0, 0) else none
  else bif Nat.beq pc 33 then some (.ixor, 34, 0, 0, 0, 0, 0) else none
  else bif Nat.blt pc 36 then bif Nat.blt pc 35 then bif Nat.beq pc 34 then some (.istore_n 1, 35, 1, 0, 0, 0, 0) else none
  else bif Nat.beq pc 35 then some (.iload_n 1, 36, 1, 0, 0, 0, 0) else none
  else bif Nat.blt pc 37 then bif Nat.beq pc 36 then some (.iconst 1, 37, 0, 0, 0, 1, 0) else none
  else bif Nat.blt pc 38 then bif Nat.beq pc 37 then some (.aload_n 0, 38, 0, 0, 0, 0, 0) else none
  else bif Nat.beq pc 38 then some (.iconst 2, 39, 0, 0, 0, 2, 0) else none
  else bif Nat.blt pc 46 then bif Nat.blt pc 41 then bif Nat.blt pc 40 then bif Nat.beq pc 39 then some (.iload_n 2, 40, 2, 0, 0, 0, 0) else none
  else bif Nat.beq pc 40 then some (.imul, 41, 0, 0, 0, 0, 0) else none
  else bif Nat.blt pc 44 then bif Nat.beq pc 41 then some (.invokevirtual 55, 44, 15, 2, 2, 0, 0) else none
  else bif Nat.blt pc 45 then bif Nat.beq pc 44 then some (.ishl, 45, 0, 0, 0, 0, 0) else none
  else bif Nat.beq pc 45 then some (.ixor, 46, 0, 0, 0, 0, 0) else none
  else bif Nat.blt pc 50 then bif Nat.blt pc 47 then bif Nat.beq pc 46 then some (.istore_n 1, 47, 1, 0, 0, 0, 0) else none
  else bif Nat.beq pc 47 then some (.iinc 2 1, 50, 2, 0, 0, 1, 0) else none
  else bif Nat.blt pc 53 then bif Nat.beq pc 50 then some (.goto (-46), 53, 4, 0, 0, 0, 0) else none
  else bif Nat.blt pc 54 then bif Nat.beq pc 53 then some (.iload_n 1, 54, 1, 0, 0, 0, 0) else none
  else bif Nat.beq pc 54 then some (.ireturn, 55, 0, 0, 0, 0, 0) else none
def rs_X2_oddSet : PMR := (1, 0, hdl [], 3)
def mi_X2_oddSet : PMI := wrapM 55 cd_X2_oddSet rs_X2_oddSet
def cd_X3_clear (pc : Nat) : Option PE :=
  bif Nat.blt pc 2 then bif Nat.blt pc 1 then bif Nat.beq pc 0 then some (.aload_n 0, 1, 0, 0, 0, 0, 0) else none
  else bif Nat.beq pc 1 then some (.iconst 0, 2, 0, 0, 0, 0, 0) else none
  else bif Nat.blt pc 5 then bif Nat.beq pc 2 then some (.putfield 21, 5, 3, 0, 0, 0, 0) else none
  else bif Nat.beq pc 5 then some (.return_, 6, 0, 0, 0, 0, 0) else none
def rs_X3_clear : PMR := (0, 0, hdl [], 1)
def mi_X3_clear : PMI := wrapM 6 cd_X3_clear rs_X3_clear
def cd_X3_copyFrom (pc : Nat) : Option PE :=
  bif Nat.blt pc 20 then bif Nat.blt pc 9 then bif Nat.blt pc 2 then bif Nat.blt pc 1 then bif Nat.beq pc 0 then some (.aload_n 0, 1, 0, 0, 0, 0, 0) else none
  else bif Nat.beq pc 1 then some (.aload_n 1, 2, 1, 0, 0, 0, 0) else none
  else bif Nat.blt pc 5 then bif Nat.beq pc 2 then some (.getfield 21, 5, 3, 0, 0, 0, 0) else none
  else bif Nat.blt pc 8 then bif Nat.beq pc 5 then some (.putfield 21, 8, 3, 0, 0, 0, 0) else none
  else bif Nat.beq pc 8 then some (.aload_n 1, 9, 1, 0, 0, 0, 0) else none
  else bif Nat.blt pc 13 then bif Nat.blt pc 12 then bif Nat.beq pc 9 then some (.getfield 9, 12, 3, 1, 2, 0, 0) else none
  else bif Nat.beq pc 12 then some (.aload_n 0, 13, 0, 0, 0, 0, 0) else none
  else bif Nat.blt pc 16 then bif Nat.beq pc 13 then some (.getfield 9, 16, 3, 1, 2, 0, 0) else none
  else bif Nat.blt pc 19 then bif Nat.beq pc 16 then some (.invokestatic 25, 19, 103, 2, 99, 0, 0) else none
  else bif Nat.beq pc 19 then some (.aload_n 1, 20, 1, 0, 0, 0, 0) else none
  else bif Nat.blt pc 31 then bif Nat.blt pc 24 then bif Nat.blt pc 23 then bif Nat.beq pc 20 then some (.getfield 15, 23, 3, 2, 2, 0, 0) else none
  else bif Nat.beq pc 23 then some (.aload_n 0, 24, 0, 0, 0, 0, 0) else none
  else bif Nat.blt pc 27 then bif Nat.beq pc 24 then some (.getfield 15, 27, 3, 2, 2, 0, 0) else none
  else bif Nat.blt pc 30 then bif Nat.beq pc 27 then some (.invokestatic 25, 30, 103, 2, 99, 0, 0) else none
  else bif Nat.beq pc 30 then some (.aload_n 1, 31, 1, 0, 0, 0, 0) else none
  else bif Nat.blt pc 35 then bif Nat.blt pc 34 then bif Nat.beq pc 31 then some (.getfield 18, 34, 3, 3, 2, 0, 0) else none
  else bif Nat.beq pc 34 then some (.aload_n 0, 35, 0, 0, 0, 0, 0) else none
  else bif Nat.blt pc 38 then bif Nat.beq pc 35 then some (.getfield 18, 38, 3, 3, 2, 0, 0) else none
  else bif Nat.blt pc 41 then bif Nat.beq pc 38 then some (.invokestatic 25, 41, 103, 2, 99, 0, 0) else none
  else bif Nat.beq pc 41 then some (.return_, 42, 0, 0, 0, 0, 0) else none
def rs_X3_copyFrom : PMR := (0, 0, hdl [], 2)
def mi_X3_copyFrom : PMI := wrapM 42 cd_X3_copyFrom rs_X3_copyFrom
def cd_X3_addTour (pc : Nat) : Option PE :=
  bif Nat.blt pc 18 then bif Nat.blt pc 9 then bif Nat.blt pc 4 then bif Nat.blt pc 1 then bif Nat.beq pc 0 then some (.aload_n 0, 1, 0, 0, 0, 0, 0) else none
  else bif Nat.beq pc 1 then some (.getfield 21, 4, 3, 0, 0, 0, 0) else none
  else bif Nat.blt pc 5 then bif Nat.beq pc 4 then some (.istore_n 2, 5, 2, 0, 0, 0, 0) else none
  else bif Nat.blt pc 6 then bif Nat.beq pc 5 then some (.aload_n 0, 6, 0, 0, 0, 0, 0) else none
  else bif Nat.beq pc 6 then some (.getfield 9, 9, 3, 1, 2, 0, 0) else none
  else bif Nat.blt pc 11 then bif Nat.blt pc 10 then bif Nat.beq pc 9 then some (.iload_n 2, 10, 2, 0, 0, 0, 0) else none
  else bif Nat.beq pc 10 then some (.iload_n 1, 11, 1, 0, 0, 0, 0) else none
  else bif Nat.blt pc 14 then bif Nat.beq pc 11 then some (.invokestatic 29, 14, 102, 3, 99, 0, 0) else none
  else bif Nat.blt pc 15 then bif Nat.beq pc 14 then some (.aload_n 0, 15, 0, 0, 0, 0, 0) else none
  else bif Nat.beq pc 15 then some (.getfield 15, 18, 3, 2, 2, 0, 0) else none
  else bif Nat.blt pc 25 then bif Nat.blt pc 20 then bif Nat.blt pc 19 then bif Nat.beq pc 18 then some (.iload_n 2, 19, 2, 0, 0, 0, 0) else none
  else bif Nat.beq pc 19 then some (.iconst 0, 20, 0, 0, 0, 0, 0) else none
  else bif Nat.blt pc 23 then bif Nat.beq pc 20 then some (.invokestatic 29, 23, 102, 3, 99, 0, 0) else none
  else bif Nat.blt pc 24 then bif Nat.beq pc 23 then some (.aload_n 0, 24, 0, 0, 0, 0, 0) else none
  else bif Nat.beq pc 24 then some (.dup, 25, 0, 0, 0, 0, 0) else none
  else bif Nat.blt pc 30 then bif Nat.blt pc 28 then bif Nat.beq pc 25 then some (.getfield 21, 28, 3, 0, 0, 0, 0) else none
  else bif Nat.blt pc 29 then bif Nat.beq pc 28 then some (.iconst 1, 29, 0, 0, 0, 1, 0) else none
  else bif Nat.beq pc 29 then some (.iadd, 30, 0, 0, 0, 0, 0) else none
  else bif Nat.blt pc 33 then bif Nat.beq pc 30 then some (.putfield 21, 33, 3, 0, 0, 0, 0) else none
  else bif Nat.blt pc 34 then bif Nat.beq pc 33 then some (.iload_n 2, 34, 2, 0, 0, 0, 0) else none
  else bif Nat.beq pc 34 then some (.ireturn, 35, 0, 0, 0, 0, 0) else none
def rs_X3_addTour : PMR := (1, 0, hdl [], 3)
def mi_X3_addTour : PMI := wrapM 35 cd_X3_addTour rs_X3_addTour
def cd_X3_arcOrDepot (pc : Nat) : Option PE :=
  bif Nat.blt pc 17 then bif Nat.blt pc 6 then bif Nat.blt pc 4 then bif Nat.blt pc 1 then bif Nat.beq pc 0 then some (.iload_n 2, 1, 2, 0, 0, 0, 0) else none
  else bif Nat.beq pc 1 then some (.ifCond .lt 15, 4, 16, 0, 0, 0, 0) else none
  else bif Nat.blt pc 5 then bif Nat.beq pc 4 then some (.iload_n 2, 5, 2, 0, 0, 0, 0) else none
  else bif Nat.beq pc 5 then some (.aload_n 0, 6, 0, 0, 0, 0, 0) else none
  else bif Nat.blt pc 10 then bif Nat.blt pc 9 then bif Nat.beq pc 6 then some (.getfield 15, 9, 3, 2, 2, 0, 0) else none
  else bif Nat.beq pc 9 then some (.iload_n 1, 10, 1, 0, 0, 0, 0) else none
  else bif Nat.blt pc 13 then bif Nat.beq pc 10 then some (.invokestatic 33, 13, 101, 2, 99, 0, 0) else none
  else bif Nat.blt pc 16 then bif Nat.beq pc 13 then some (.if_icmp .lt 5, 16, 18, 0, 0, 0, 0) else none
  else bif Nat.beq pc 16 then some (.iconst (-1), 17, 0, 0, 0, (-1), 0) else none
  else bif Nat.blt pc 25 then bif Nat.blt pc 19 then bif Nat.blt pc 18 then bif Nat.beq pc 17 then some (.ireturn, 18, 0, 0, 0, 0, 0) else none
  else bif Nat.beq pc 18 then some (.aload_n 0, 19, 0, 0, 0, 0, 0) else none
  else bif Nat.blt pc 22 then bif Nat.beq pc 19 then some (.getfield 18, 22, 3, 3, 2, 0, 0) else none
  else bif Nat.blt pc 23 then bif Nat.beq pc 22 then some (.iload_n 1, 23, 1, 0, 0, 0, 0) else none
  else bif Nat.beq pc 23 then some (.bipush 14, 25, 0, 0, 0, 14, 0) else none
  else bif Nat.blt pc 27 then bif Nat.blt pc 26 then bif Nat.beq pc 25 then some (.imul, 26, 0, 0, 0, 0, 0) else none
  else bif Nat.beq pc 26 then some (.iload_n 2, 27, 2, 0, 0, 0, 0) else none
  else bif Nat.blt pc 28 then bif Nat.beq pc 27 then some (.iadd, 28, 0, 0, 0, 0, 0) else none
  else bif Nat.blt pc 31 then bif Nat.beq pc 28 then some (.invokestatic 33, 31, 101, 2, 99, 0, 0) else none
  else bif Nat.beq pc 31 then some (.ireturn, 32, 0, 0, 0, 0, 0) else none
def rs_X3_arcOrDepot : PMR := (1, 0, hdl [], 3)
def mi_X3_arcOrDepot : PMI := wrapM 32 cd_X3_arcOrDepot rs_X3_arcOrDepot
def cd_X3_tourServing (pc : Nat) : Option PE :=
  bif Nat.blt pc 13 then bif Nat.blt pc 4 then bif Nat.blt pc 2 then bif Nat.blt pc 1 then bif Nat.beq pc 0 then some (.iconst 0, 1, 0, 0, 0, 0, 0) else none
  else bif Nat.beq pc 1 then some (.istore_n 2, 2, 2, 0, 0, 0, 0) else none
  else bif Nat.blt pc 3 then bif Nat.beq pc 2 then some (.iload_n 2, 3, 2, 0, 0, 0, 0) else none
  else bif Nat.beq pc 3 then some (.aload_n 0, 4, 0, 0, 0, 0, 0) else none
  else bif Nat.blt pc 10 then bif Nat.blt pc 7 then bif Nat.beq pc 4 then some (.getfield 21, 7, 3, 0, 0, 0, 0) else none
  else bif Nat.beq pc 7 then some (.if_icmp .ge 21, 10, 28, 0, 0, 0, 0) else none
  else bif Nat.blt pc 11 then bif Nat.beq pc 10 then some (.aload_n 0, 11, 0, 0, 0, 0, 0) else none
  else bif Nat.blt pc 12 then bif Nat.beq pc 11 then some (.iload_n 2, 12, 2, 0, 0, 0, 0) else none
  else bif Nat.beq pc 12 then some (.iload_n 1, 13, 1, 0, 0, 0, 0) else none
  else bif Nat.blt pc 21 then bif Nat.blt pc 17 then bif Nat.blt pc 16 then bif Nat.beq pc 13 then some (.invokevirtual 37, 16, 24, 3, 3, 0, 0) else none
  else bif Nat.beq pc 16 then some (.iconst (-1), 17, 0, 0, 0, (-1), 0) else none
  else bif Nat.blt pc 20 then bif Nat.beq pc 17 then some (.if_icmp .eq 5, 20, 22, 0, 0, 0, 0) else none
  else bif Nat.beq pc 20 then some (.iload_n 2, 21, 2, 0, 0, 0, 0) else none
  else bif Nat.blt pc 25 then bif Nat.blt pc 22 then bif Nat.beq pc 21 then some (.ireturn, 22, 0, 0, 0, 0, 0) else none
  else bif Nat.beq pc 22 then some (.iinc 2 1, 25, 2, 0, 0, 1, 0) else none
  else bif Nat.blt pc 28 then bif Nat.beq pc 25 then some (.goto (-23), 28, 2, 0, 0, 0, 0) else none
  else bif Nat.blt pc 29 then bif Nat.beq pc 28 then some (.iconst (-1), 29, 0, 0, 0, (-1), 0) else none
  else bif Nat.beq pc 29 then some (.ireturn, 30, 0, 0, 0, 0, 0) else none
def rs_X3_tourServing : PMR := (1, 0, hdl [], 3)
def mi_X3_tourServing : PMI := wrapM 30 cd_X3_tourServing rs_X3_tourServing
def cd_X3_positionIn (pc : Nat) : Option PE :=
  bif Nat.blt pc 25 then bif Nat.blt pc 12 then bif Nat.blt pc 5 then bif Nat.blt pc 1 then bif Nat.beq pc 0 then some (.aload_n 0, 1, 0, 0, 0, 0, 0) else none
  else bif Nat.blt pc 4 then bif Nat.beq pc 1 then some (.getfield 15, 4, 3, 2, 2, 0, 0) else none
  else bif Nat.beq pc 4 then some (.iload_n 1, 5, 1, 0, 0, 0, 0) else none
  else bif Nat.blt pc 9 then bif Nat.blt pc 8 then bif Nat.beq pc 5 then some (.invokestatic 33, 8, 101, 2, 99, 0, 0) else none
  else bif Nat.beq pc 8 then some (.istore_n 3, 9, 3, 0, 0, 0, 0) else none
  else bif Nat.blt pc 10 then bif Nat.beq pc 9 then some (.iconst 0, 10, 0, 0, 0, 0, 0) else none
  else bif Nat.beq pc 10 then some (.istore 4, 12, 4, 0, 0, 0, 0) else none
  else bif Nat.blt pc 18 then bif Nat.blt pc 14 then bif Nat.beq pc 12 then some (.iload 4, 14, 4, 0, 0, 0, 0) else none
  else bif Nat.blt pc 15 then bif Nat.beq pc 14 then some (.iload_n 3, 15, 3, 0, 0, 0, 0) else none
  else bif Nat.beq pc 15 then some (.if_icmp .ge 32, 18, 47, 0, 0, 0, 0) else none
  else bif Nat.blt pc 22 then bif Nat.blt pc 19 then bif Nat.beq pc 18 then some (.aload_n 0, 19, 0, 0, 0, 0, 0) else none
  else bif Nat.beq pc 19 then some (.getfield 18, 22, 3, 3, 2, 0, 0) else none
  else bif Nat.blt pc 23 then bif Nat.beq pc 22 then some (.iload_n 1, 23, 1, 0, 0, 0, 0) else none
  else bif Nat.beq pc 23 then some (.bipush 14, 25, 0, 0, 0, 14, 0) else none
  else bif Nat.blt pc 35 then bif Nat.blt pc 29 then bif Nat.blt pc 26 then bif Nat.beq pc 25 then some (.imul, 26, 0, 0, 0, 0, 0) else none
  else bif Nat.blt pc 28 then bif Nat.beq pc 26 then some (.iload 4, 28, 4, 0, 0, 0, 0) else none
  else bif Nat.beq pc 28 then some (.iadd, 29, 0, 0, 0, 0, 0) else none
  else bif Nat.blt pc 33 then bif Nat.blt pc 32 then bif Nat.beq pc 29 then some (.invokestatic 33, 32, 101, 2, 99, 0, 0) else none
  else bif Nat.beq pc 32 then some (.iconst 2, 33, 0, 0, 0, 2, 0) else none
  else bif Nat.blt pc 34 then bif Nat.beq pc 33 then some (.idiv, 34, 0, 0, 0, 0, 0) else none
  else bif Nat.beq pc 34 then some (.iload_n 2, 35, 2, 0, 0, 0, 0) else none
  else bif Nat.blt pc 41 then bif Nat.blt pc 38 then bif Nat.beq pc 35 then some (.if_icmp .ne 6, 38, 41, 0, 0, 0, 0) else none
  else bif Nat.blt pc 40 then bif Nat.beq pc 38 then some (.iload 4, 40, 4, 0, 0, 0, 0) else none
  else bif Nat.beq pc 40 then some (.ireturn, 41, 0, 0, 0, 0, 0) else none
  else bif Nat.blt pc 47 then bif Nat.blt pc 44 then bif Nat.beq pc 41 then some (.iinc 4 1, 44, 4, 0, 0, 1, 0) else none
  else bif Nat.beq pc 44 then some (.goto (-32), 47, 12, 0, 0, 0, 0) else none
  else bif Nat.blt pc 48 then bif Nat.beq pc 47 then some (.iconst (-1), 48, 0, 0, 0, (-1), 0) else none
  else bif Nat.beq pc 48 then some (.ireturn, 49, 0, 0, 0, 0, 0) else none
def rs_X3_positionIn : PMR := (1, 0, hdl [], 5)
def mi_X3_positionIn : PMI := wrapM 49 cd_X3_positionIn rs_X3_positionIn
def cd_X3_putIn (pc : Nat) : Option PE :=
  bif Nat.blt pc 44 then bif Nat.blt pc 22 then bif Nat.blt pc 12 then bif Nat.blt pc 5 then bif Nat.blt pc 1 then bif Nat.beq pc 0 then some (.aload_n 0, 1, 0, 0, 0, 0, 0) else none
  else bif Nat.blt pc 4 then bif Nat.beq pc 1 then some (.getfield 15, 4, 3, 2, 2, 0, 0) else none
  else bif Nat.beq pc 4 then some (.iload_n 1, 5, 1, 0, 0, 0, 0) else none
  else bif Nat.blt pc 8 then bif Nat.beq pc 5 then some (.invokestatic 33, 8, 101, 2, 99, 0, 0) else none
  else bif Nat.blt pc 10 then bif Nat.beq pc 8 then some (.istore 4, 10, 4, 0, 0, 0, 0) else none
  else bif Nat.beq pc 10 then some (.iload 4, 12, 4, 0, 0, 0, 0) else none
  else bif Nat.blt pc 18 then bif Nat.blt pc 14 then bif Nat.beq pc 12 then some (.bipush 14, 14, 0, 0, 0, 14, 0) else none
  else bif Nat.blt pc 17 then bif Nat.beq pc 14 then some (.if_icmp .lt 4, 17, 18, 0, 0, 0, 0) else none
  else bif Nat.beq pc 17 then some (.return_, 18, 0, 0, 0, 0, 0) else none
  else bif Nat.blt pc 19 then bif Nat.beq pc 18 then some (.iload_n 1, 19, 1, 0, 0, 0, 0) else none
  else bif Nat.blt pc 21 then bif Nat.beq pc 19 then some (.bipush 14, 21, 0, 0, 0, 14, 0) else none
  else bif Nat.beq pc 21 then some (.imul, 22, 0, 0, 0, 0, 0) else none
  else bif Nat.blt pc 34 then bif Nat.blt pc 28 then bif Nat.blt pc 24 then bif Nat.beq pc 22 then some (.istore 5, 24, 5, 0, 0, 0, 0) else none
  else bif Nat.blt pc 26 then bif Nat.beq pc 24 then some (.iload 4, 26, 4, 0, 0, 0, 0) else none
  else bif Nat.beq pc 26 then some (.istore 6, 28, 6, 0, 0, 0, 0) else none
  else bif Nat.blt pc 30 then bif Nat.beq pc 28 then some (.iload 6, 30, 6, 0, 0, 0, 0) else none
  else bif Nat.blt pc 31 then bif Nat.beq pc 30 then some (.iload_n 2, 31, 2, 0, 0, 0, 0) else none
  else bif Nat.beq pc 31 then some (.if_icmp .le 35, 34, 66, 0, 0, 0, 0) else none
  else bif Nat.blt pc 40 then bif Nat.blt pc 35 then bif Nat.beq pc 34 then some (.aload_n 0, 35, 0, 0, 0, 0, 0) else none
  else bif Nat.blt pc 38 then bif Nat.beq pc 35 then some (.getfield 18, 38, 3, 3, 2, 0, 0) else none
  else bif Nat.beq pc 38 then some (.iload 5, 40, 5, 0, 0, 0, 0) else none
  else bif Nat.blt pc 42 then bif Nat.beq pc 40 then some (.iload 6, 42, 6, 0, 0, 0, 0) else none
  else bif Nat.blt pc 43 then bif Nat.beq pc 42 then some (.iadd, 43, 0, 0, 0, 0, 0) else none
  else bif Nat.beq pc 43 then some (.aload_n 0, 44, 0, 0, 0, 0, 0) else none
  else bif Nat.blt pc 70 then bif Nat.blt pc 54 then bif Nat.blt pc 51 then bif Nat.blt pc 47 then bif Nat.beq pc 44 then some (.getfield 18, 47, 3, 3, 2, 0, 0) else none
  else bif Nat.blt pc 49 then bif Nat.beq pc 47 then some (.iload 5, 49, 5, 0, 0, 0, 0) else none
  else bif Nat.beq pc 49 then some (.iload 6, 51, 6, 0, 0, 0, 0) else none
  else bif Nat.blt pc 52 then bif Nat.beq pc 51 then some (.iadd, 52, 0, 0, 0, 0, 0) else none
  else bif Nat.blt pc 53 then bif Nat.beq pc 52 then some (.iconst 1, 53, 0, 0, 0, 1, 0) else none
  else bif Nat.beq pc 53 then some (.isub, 54, 0, 0, 0, 0, 0) else none
  else bif Nat.blt pc 63 then bif Nat.blt pc 57 then bif Nat.beq pc 54 then some (.invokestatic 33, 57, 101, 2, 99, 0, 0) else none
  else bif Nat.blt pc 60 then bif Nat.beq pc 57 then some (.invokestatic 29, 60, 102, 3, 99, 0, 0) else none
  else bif Nat.beq pc 60 then some (.iinc 6 (-1), 63, 6, 0, 0, (-1), 0) else none
  else bif Nat.blt pc 66 then bif Nat.beq pc 63 then some (.goto (-35), 66, 28, 0, 0, 0, 0) else none
  else bif Nat.blt pc 67 then bif Nat.beq pc 66 then some (.aload_n 0, 67, 0, 0, 0, 0, 0) else none
  else bif Nat.beq pc 67 then some (.getfield 18, 70, 3, 3, 2, 0, 0) else none
  else bif Nat.blt pc 79 then bif Nat.blt pc 74 then bif Nat.blt pc 72 then bif Nat.beq pc 70 then some (.iload 5, 72, 5, 0, 0, 0, 0) else none
  else bif Nat.blt pc 73 then bif Nat.beq pc 72 then some (.iload_n 2, 73, 2, 0, 0, 0, 0) else none
  else bif Nat.beq pc 73 then some (.iadd, 74, 0, 0, 0, 0, 0) else none
  else bif Nat.blt pc 75 then bif Nat.beq pc 74 then some (.iload_n 3, 75, 3, 0, 0, 0, 0) else none
  else bif Nat.blt pc 78 then bif Nat.beq pc 75 then some (.invokestatic 29, 78, 102, 3, 99, 0, 0) else none
  else bif Nat.beq pc 78 then some (.aload_n 0, 79, 0, 0, 0, 0, 0) else none
  else bif Nat.blt pc 85 then bif Nat.blt pc 82 then bif Nat.beq pc 79 then some (.getfield 15, 82, 3, 2, 2, 0, 0) else none
  else bif Nat.blt pc 83 then bif Nat.beq pc 82 then some (.iload_n 1, 83, 1, 0, 0, 0, 0) else none
  else bif Nat.beq pc 83 then some (.iload 4, 85, 4, 0, 0, 0, 0) else none
  else bif Nat.blt pc 87 then bif Nat.blt pc 86 then bif Nat.beq pc 85 then some (.iconst 1, 86, 0, 0, 0, 1, 0) else none
  else bif Nat.beq pc 86 then some (.iadd, 87, 0, 0, 0, 0, 0) else none
  else bif Nat.blt pc 90 then bif Nat.beq pc 87 then some (.invokestatic 29, 90, 102, 3, 99, 0, 0) else none
  else bif Nat.beq pc 90 then some (.return_, 91, 0, 0, 0, 0, 0) else none
def rs_X3_putIn : PMR := (0, 0, hdl [], 7)
def mi_X3_putIn : PMI := wrapM 91 cd_X3_putIn rs_X3_putIn
def cd_X3_takeOut (pc : Nat) : Option PE :=
  bif Nat.blt pc 35 then bif Nat.blt pc 17 then bif Nat.blt pc 9 then bif Nat.blt pc 4 then bif Nat.blt pc 1 then bif Nat.beq pc 0 then some (.aload_n 0, 1, 0, 0, 0, 0, 0) else none
  else bif Nat.beq pc 1 then some (.getfield 15, 4, 3, 2, 2, 0, 0) else none
  else bif Nat.blt pc 5 then bif Nat.beq pc 4 then some (.iload_n 1, 5, 1, 0, 0, 0, 0) else none
  else bif Nat.blt pc 8 then bif Nat.beq pc 5 then some (.invokestatic 33, 8, 101, 2, 99, 0, 0) else none
  else bif Nat.beq pc 8 then some (.istore_n 3, 9, 3, 0, 0, 0, 0) else none
  else bif Nat.blt pc 13 then bif Nat.blt pc 10 then bif Nat.beq pc 9 then some (.iload_n 3, 10, 3, 0, 0, 0, 0) else none
  else bif Nat.beq pc 10 then some (.ifCond .gt 4, 13, 14, 0, 0, 0, 0) else none
  else bif Nat.blt pc 14 then bif Nat.beq pc 13 then some (.return_, 14, 0, 0, 0, 0, 0) else none
  else bif Nat.blt pc 15 then bif Nat.beq pc 14 then some (.iload_n 1, 15, 1, 0, 0, 0, 0) else none
  else bif Nat.beq pc 15 then some (.bipush 14, 17, 0, 0, 0, 14, 0) else none
  else bif Nat.blt pc 25 then bif Nat.blt pc 20 then bif Nat.blt pc 18 then bif Nat.beq pc 17 then some (.imul, 18, 0, 0, 0, 0, 0) else none
  else bif Nat.beq pc 18 then some (.istore 4, 20, 4, 0, 0, 0, 0) else none
  else bif Nat.blt pc 21 then bif Nat.beq pc 20 then some (.iload_n 2, 21, 2, 0, 0, 0, 0) else none
  else bif Nat.blt pc 23 then bif Nat.beq pc 21 then some (.istore 5, 23, 5, 0, 0, 0, 0) else none
  else bif Nat.beq pc 23 then some (.iload 5, 25, 5, 0, 0, 0, 0) else none
  else bif Nat.blt pc 28 then bif Nat.blt pc 26 then bif Nat.beq pc 25 then some (.iload_n 3, 26, 3, 0, 0, 0, 0) else none
  else bif Nat.blt pc 27 then bif Nat.beq pc 26 then some (.iconst 1, 27, 0, 0, 0, 1, 0) else none
  else bif Nat.beq pc 27 then some (.isub, 28, 0, 0, 0, 0, 0) else none
  else bif Nat.blt pc 31 then bif Nat.beq pc 28 then some (.if_icmp .ge 35, 31, 63, 0, 0, 0, 0) else none
  else bif Nat.blt pc 32 then bif Nat.beq pc 31 then some (.aload_n 0, 32, 0, 0, 0, 0, 0) else none
  else bif Nat.beq pc 32 then some (.getfield 18, 35, 3, 3, 2, 0, 0) else none
  else bif Nat.blt pc 54 then bif Nat.blt pc 44 then bif Nat.blt pc 39 then bif Nat.blt pc 37 then bif Nat.beq pc 35 then some (.iload 4, 37, 4, 0, 0, 0, 0) else none
  else bif Nat.beq pc 37 then some (.iload 5, 39, 5, 0, 0, 0, 0) else none
  else bif Nat.blt pc 40 then bif Nat.beq pc 39 then some (.iadd, 40, 0, 0, 0, 0, 0) else none
  else bif Nat.blt pc 41 then bif Nat.beq pc 40 then some (.aload_n 0, 41, 0, 0, 0, 0, 0) else none
  else bif Nat.beq pc 41 then some (.getfield 18, 44, 3, 3, 2, 0, 0) else none
  else bif Nat.blt pc 49 then bif Nat.blt pc 46 then bif Nat.beq pc 44 then some (.iload 4, 46, 4, 0, 0, 0, 0) else none
  else bif Nat.blt pc 48 then bif Nat.beq pc 46 then some (.iload 5, 48, 5, 0, 0, 0, 0) else none
  else bif Nat.beq pc 48 then some (.iadd, 49, 0, 0, 0, 0, 0) else none
  else bif Nat.blt pc 50 then bif Nat.beq pc 49 then some (.iconst 1, 50, 0, 0, 0, 1, 0) else none
  else bif Nat.blt pc 51 then bif Nat.beq pc 50 then some (.iadd, 51, 0, 0, 0, 0, 0) else none
  else bif Nat.beq pc 51 then some (.invokestatic 33, 54, 101, 2, 99, 0, 0) else none
  else bif Nat.blt pc 67 then bif Nat.blt pc 60 then bif Nat.blt pc 57 then bif Nat.beq pc 54 then some (.invokestatic 29, 57, 102, 3, 99, 0, 0) else none
  else bif Nat.beq pc 57 then some (.iinc 5 1, 60, 5, 0, 0, 1, 0) else none
  else bif Nat.blt pc 63 then bif Nat.beq pc 60 then some (.goto (-37), 63, 23, 0, 0, 0, 0) else none
  else bif Nat.blt pc 64 then bif Nat.beq pc 63 then some (.aload_n 0, 64, 0, 0, 0, 0, 0) else none
  else bif Nat.beq pc 64 then some (.getfield 15, 67, 3, 2, 2, 0, 0) else none
  else bif Nat.blt pc 70 then bif Nat.blt pc 68 then bif Nat.beq pc 67 then some (.iload_n 1, 68, 1, 0, 0, 0, 0) else none
  else bif Nat.blt pc 69 then bif Nat.beq pc 68 then some (.iload_n 3, 69, 3, 0, 0, 0, 0) else none
  else bif Nat.beq pc 69 then some (.iconst 1, 70, 0, 0, 0, 1, 0) else none
  else bif Nat.blt pc 71 then bif Nat.beq pc 70 then some (.isub, 71, 0, 0, 0, 0, 0) else none
  else bif Nat.blt pc 74 then bif Nat.beq pc 71 then some (.invokestatic 29, 74, 102, 3, 99, 0, 0) else none
  else bif Nat.beq pc 74 then some (.return_, 75, 0, 0, 0, 0, 0) else none
def rs_X3_takeOut : PMR := (0, 0, hdl [], 6)
def mi_X3_takeOut : PMI := wrapM 75 cd_X3_takeOut rs_X3_takeOut
def cd_X3_turnRound (pc : Nat) : Option PE :=
  bif Nat.blt pc 11 then bif Nat.blt pc 5 then bif Nat.blt pc 3 then bif Nat.blt pc 1 then bif Nat.beq pc 0 then some (.iload_n 1, 1, 1, 0, 0, 0, 0) else none
  else bif Nat.beq pc 1 then some (.bipush 14, 3, 0, 0, 0, 14, 0) else none
  else bif Nat.blt pc 4 then bif Nat.beq pc 3 then some (.imul, 4, 0, 0, 0, 0, 0) else none
  else bif Nat.beq pc 4 then some (.iload_n 2, 5, 2, 0, 0, 0, 0) else none
  else bif Nat.blt pc 7 then bif Nat.blt pc 6 then bif Nat.beq pc 5 then some (.iadd, 6, 0, 0, 0, 0, 0) else none
  else bif Nat.beq pc 6 then some (.istore_n 3, 7, 3, 0, 0, 0, 0) else none
  else bif Nat.blt pc 8 then bif Nat.beq pc 7 then some (.aload_n 0, 8, 0, 0, 0, 0, 0) else none
  else bif Nat.beq pc 8 then some (.getfield 18, 11, 3, 3, 2, 0, 0) else none
  else bif Nat.blt pc 17 then bif Nat.blt pc 13 then bif Nat.blt pc 12 then bif Nat.beq pc 11 then some (.iload_n 3, 12, 3, 0, 0, 0, 0) else none
  else bif Nat.beq pc 12 then some (.aload_n 0, 13, 0, 0, 0, 0, 0) else none
  else bif Nat.blt pc 16 then bif Nat.beq pc 13 then some (.getfield 18, 16, 3, 3, 2, 0, 0) else none
  else bif Nat.beq pc 16 then some (.iload_n 3, 17, 3, 0, 0, 0, 0) else none
  else bif Nat.blt pc 21 then bif Nat.blt pc 20 then bif Nat.beq pc 17 then some (.invokestatic 33, 20, 101, 2, 99, 0, 0) else none
  else bif Nat.beq pc 20 then some (.iconst 1, 21, 0, 0, 0, 1, 0) else none
  else bif Nat.blt pc 22 then bif Nat.beq pc 21 then some (.ixor, 22, 0, 0, 0, 0, 0) else none
  else bif Nat.blt pc 25 then bif Nat.beq pc 22 then some (.invokestatic 29, 25, 102, 3, 99, 0, 0) else none
  else bif Nat.beq pc 25 then some (.return_, 26, 0, 0, 0, 0, 0) else none
def rs_X3_turnRound : PMR := (0, 0, hdl [], 4)
def mi_X3_turnRound : PMI := wrapM 26 cd_X3_turnRound rs_X3_turnRound
def cd_X4_isWaiting (pc : Nat) : Option PE :=
  bif Nat.blt pc 18 then bif Nat.blt pc 8 then bif Nat.blt pc 4 then bif Nat.blt pc 1 then bif Nat.beq pc 0 then some (.aload_n 0, 1, 0, 0, 0, 0, 0) else none
  else bif Nat.beq pc 1 then some (.getfield 12, 4, 4, 0, 2, 0, 0) else none
  else bif Nat.blt pc 7 then bif Nat.beq pc 4 then some (.getfield 32, 7, 2, 8, 2, 0, 0) else none
  else bif Nat.beq pc 7 then some (.iload_n 1, 8, 1, 0, 0, 0, 0) else none
  else bif Nat.blt pc 14 then bif Nat.blt pc 11 then bif Nat.beq pc 8 then some (.invokestatic 36, 11, 101, 2, 99, 0, 0) else none
  else bif Nat.beq pc 11 then some (.ifCond .le 19, 14, 30, 0, 0, 0, 0) else none
  else bif Nat.blt pc 15 then bif Nat.beq pc 14 then some (.aload_n 0, 15, 0, 0, 0, 0, 0) else none
  else bif Nat.beq pc 15 then some (.getfield 28, 18, 4, 2, 2, 0, 0) else none
  else bif Nat.blt pc 26 then bif Nat.blt pc 22 then bif Nat.blt pc 19 then bif Nat.beq pc 18 then some (.iload_n 1, 19, 1, 0, 0, 0, 0) else none
  else bif Nat.beq pc 19 then some (.invokevirtual 40, 22, 23, 2, 3, 0, 0) else none
  else bif Nat.blt pc 23 then bif Nat.beq pc 22 then some (.iconst (-1), 23, 0, 0, 0, (-1), 0) else none
  else bif Nat.beq pc 23 then some (.if_icmp .ne 7, 26, 30, 0, 0, 0, 0) else none
  else bif Nat.blt pc 30 then bif Nat.blt pc 27 then bif Nat.beq pc 26 then some (.iconst 1, 27, 0, 0, 0, 1, 0) else none
  else bif Nat.beq pc 27 then some (.goto 4, 30, 31, 0, 0, 0, 0) else none
  else bif Nat.blt pc 31 then bif Nat.beq pc 30 then some (.iconst 0, 31, 0, 0, 0, 0, 0) else none
  else bif Nat.beq pc 31 then some (.ireturn, 32, 0, 0, 0, 0, 0) else none
def rs_X4_isWaiting : PMR := (2, 0, hdl [], 2)
def mi_X4_isWaiting : PMI := wrapM 32 cd_X4_isWaiting rs_X4_isWaiting
def cd_X4_demandIn (pc : Nat) : Option PE :=
  bif Nat.blt pc 25 then bif Nat.blt pc 13 then bif Nat.blt pc 7 then bif Nat.blt pc 1 then bif Nat.beq pc 0 then some (.aload_n 0, 1, 0, 0, 0, 0, 0) else none
  else bif Nat.blt pc 4 then bif Nat.beq pc 1 then some (.getfield 28, 4, 4, 2, 2, 0, 0) else none
  else bif Nat.beq pc 4 then some (.getfield 44, 7, 3, 2, 2, 0, 0) else none
  else bif Nat.blt pc 11 then bif Nat.blt pc 8 then bif Nat.beq pc 7 then some (.iload_n 1, 8, 1, 0, 0, 0, 0) else none
  else bif Nat.beq pc 8 then some (.invokestatic 36, 11, 101, 2, 99, 0, 0) else none
  else bif Nat.blt pc 12 then bif Nat.beq pc 11 then some (.istore_n 2, 12, 2, 0, 0, 0, 0) else none
  else bif Nat.beq pc 12 then some (.iconst 0, 13, 0, 0, 0, 0, 0) else none
  else bif Nat.blt pc 19 then bif Nat.blt pc 15 then bif Nat.blt pc 14 then bif Nat.beq pc 13 then some (.istore_n 3, 14, 3, 0, 0, 0, 0) else none
  else bif Nat.beq pc 14 then some (.iconst 0, 15, 0, 0, 0, 0, 0) else none
  else bif Nat.blt pc 17 then bif Nat.beq pc 15 then some (.istore 4, 17, 4, 0, 0, 0, 0) else none
  else bif Nat.beq pc 17 then some (.iload 4, 19, 4, 0, 0, 0, 0) else none
  else bif Nat.blt pc 23 then bif Nat.blt pc 20 then bif Nat.beq pc 19 then some (.iload_n 2, 20, 2, 0, 0, 0, 0) else none
  else bif Nat.beq pc 20 then some (.if_icmp .ge 34, 23, 54, 0, 0, 0, 0) else none
  else bif Nat.blt pc 24 then bif Nat.beq pc 23 then some (.iload_n 3, 24, 3, 0, 0, 0, 0) else none
  else bif Nat.beq pc 24 then some (.aload_n 0, 25, 0, 0, 0, 0, 0) else none
  else bif Nat.blt pc 42 then bif Nat.blt pc 35 then bif Nat.blt pc 31 then bif Nat.blt pc 28 then bif Nat.beq pc 25 then some (.getfield 12, 28, 4, 0, 2, 0, 0) else none
  else bif Nat.beq pc 28 then some (.getfield 32, 31, 2, 8, 2, 0, 0) else none
  else bif Nat.blt pc 32 then bif Nat.beq pc 31 then some (.aload_n 0, 32, 0, 0, 0, 0, 0) else none
  else bif Nat.beq pc 32 then some (.getfield 28, 35, 4, 2, 2, 0, 0) else none
  else bif Nat.blt pc 38 then bif Nat.blt pc 36 then bif Nat.beq pc 35 then some (.iload_n 1, 36, 1, 0, 0, 0, 0) else none
  else bif Nat.beq pc 36 then some (.iload 4, 38, 4, 0, 0, 0, 0) else none
  else bif Nat.blt pc 41 then bif Nat.beq pc 38 then some (.invokevirtual 47, 41, 22, 3, 3, 0, 0) else none
  else bif Nat.beq pc 41 then some (.iconst 2, 42, 0, 0, 0, 2, 0) else none
  else bif Nat.blt pc 48 then bif Nat.blt pc 46 then bif Nat.blt pc 43 then bif Nat.beq pc 42 then some (.idiv, 43, 0, 0, 0, 0, 0) else none
  else bif Nat.beq pc 43 then some (.invokestatic 36, 46, 101, 2, 99, 0, 0) else none
  else bif Nat.blt pc 47 then bif Nat.beq pc 46 then some (.iadd, 47, 0, 0, 0, 0, 0) else none
  else bif Nat.beq pc 47 then some (.istore_n 3, 48, 3, 0, 0, 0, 0) else none
  else bif Nat.blt pc 54 then bif Nat.blt pc 51 then bif Nat.beq pc 48 then some (.iinc 4 1, 51, 4, 0, 0, 1, 0) else none
  else bif Nat.beq pc 51 then some (.goto (-34), 54, 17, 0, 0, 0, 0) else none
  else bif Nat.blt pc 55 then bif Nat.beq pc 54 then some (.iload_n 3, 55, 3, 0, 0, 0, 0) else none
  else bif Nat.beq pc 55 then some (.ireturn, 56, 0, 0, 0, 0, 0) else none
def rs_X4_demandIn : PMR := (1, 0, hdl [], 5)
def mi_X4_demandIn : PMI := wrapM 56 cd_X4_demandIn rs_X4_demandIn
def cd_X4_hasRoom (pc : Nat) : Option PE :=
  bif Nat.blt pc 16 then bif Nat.blt pc 6 then bif Nat.blt pc 2 then bif Nat.blt pc 1 then bif Nat.beq pc 0 then some (.aload_n 0, 1, 0, 0, 0, 0, 0) else none
  else bif Nat.beq pc 1 then some (.iload_n 1, 2, 1, 0, 0, 0, 0) else none
  else bif Nat.blt pc 5 then bif Nat.beq pc 2 then some (.invokevirtual 51, 5, 29, 2, 4, 0, 0) else none
  else bif Nat.beq pc 5 then some (.aload_n 0, 6, 0, 0, 0, 0, 0) else none
  else bif Nat.blt pc 12 then bif Nat.blt pc 9 then bif Nat.beq pc 6 then some (.getfield 12, 9, 4, 0, 2, 0, 0) else none
  else bif Nat.beq pc 9 then some (.getfield 32, 12, 2, 8, 2, 0, 0) else none
  else bif Nat.blt pc 13 then bif Nat.beq pc 12 then some (.iload_n 2, 13, 2, 0, 0, 0, 0) else none
  else bif Nat.beq pc 13 then some (.invokestatic 36, 16, 101, 2, 99, 0, 0) else none
  else bif Nat.blt pc 24 then bif Nat.blt pc 18 then bif Nat.blt pc 17 then bif Nat.beq pc 16 then some (.iadd, 17, 0, 0, 0, 0, 0) else none
  else bif Nat.beq pc 17 then some (.aload_n 0, 18, 0, 0, 0, 0, 0) else none
  else bif Nat.blt pc 21 then bif Nat.beq pc 18 then some (.getfield 12, 21, 4, 0, 2, 0, 0) else none
  else bif Nat.beq pc 21 then some (.getfield 54, 24, 2, 1, 0, 0, 0) else none
  else bif Nat.blt pc 28 then bif Nat.blt pc 27 then bif Nat.beq pc 24 then some (.if_icmp .gt 7, 27, 31, 0, 0, 0, 0) else none
  else bif Nat.beq pc 27 then some (.iconst 1, 28, 0, 0, 0, 1, 0) else none
  else bif Nat.blt pc 31 then bif Nat.beq pc 28 then some (.goto 4, 31, 32, 0, 0, 0, 0) else none
  else bif Nat.blt pc 32 then bif Nat.beq pc 31 then some (.iconst 0, 32, 0, 0, 0, 0, 0) else none
  else bif Nat.beq pc 32 then some (.ireturn, 33, 0, 0, 0, 0, 0) else none
def rs_X4_hasRoom : PMR := (2, 0, hdl [], 3)
def mi_X4_hasRoom : PMI := wrapM 33 cd_X4_hasRoom rs_X4_hasRoom
def cd_X4_link (pc : Nat) : Option PE :=
  bif Nat.blt pc 44 then bif Nat.blt pc 20 then bif Nat.blt pc 11 then bif Nat.blt pc 4 then bif Nat.blt pc 1 then bif Nat.beq pc 0 then some (.aload_n 0, 1, 0, 0, 0, 0, 0) else none
  else bif Nat.beq pc 1 then some (.getfield 28, 4, 4, 2, 2, 0, 0) else none
  else bif Nat.blt pc 7 then bif Nat.beq pc 4 then some (.getfield 58, 7, 3, 1, 2, 0, 0) else none
  else bif Nat.blt pc 8 then bif Nat.beq pc 7 then some (.iload_n 1, 8, 1, 0, 0, 0, 0) else none
  else bif Nat.beq pc 8 then some (.invokestatic 36, 11, 101, 2, 99, 0, 0) else none
  else bif Nat.blt pc 15 then bif Nat.blt pc 13 then bif Nat.beq pc 11 then some (.istore 4, 13, 4, 0, 0, 0, 0) else none
  else bif Nat.blt pc 14 then bif Nat.beq pc 13 then some (.iload_n 2, 14, 2, 0, 0, 0, 0) else none
  else bif Nat.beq pc 14 then some (.iconst (-1), 15, 0, 0, 0, (-1), 0) else none
  else bif Nat.blt pc 18 then bif Nat.beq pc 15 then some (.if_icmp .ne 30, 18, 45, 0, 0, 0, 0) else none
  else bif Nat.blt pc 19 then bif Nat.beq pc 18 then some (.iload_n 3, 19, 3, 0, 0, 0, 0) else none
  else bif Nat.beq pc 19 then some (.iconst (-1), 20, 0, 0, 0, (-1), 0) else none
  else bif Nat.blt pc 34 then bif Nat.blt pc 27 then bif Nat.blt pc 23 then bif Nat.beq pc 20 then some (.if_icmp .ne 7, 23, 27, 0, 0, 0, 0) else none
  else bif Nat.blt pc 24 then bif Nat.beq pc 23 then some (.iconst 0, 24, 0, 0, 0, 0, 0) else none
  else bif Nat.beq pc 24 then some (.goto 20, 27, 44, 0, 0, 0, 0) else none
  else bif Nat.blt pc 28 then bif Nat.beq pc 27 then some (.aload_n 0, 28, 0, 0, 0, 0, 0) else none
  else bif Nat.blt pc 31 then bif Nat.beq pc 28 then some (.getfield 21, 31, 4, 1, 2, 0, 0) else none
  else bif Nat.beq pc 31 then some (.getfield 61, 34, 5, 1, 2, 0, 0) else none
  else bif Nat.blt pc 39 then bif Nat.blt pc 36 then bif Nat.beq pc 34 then some (.iload 4, 36, 4, 0, 0, 0, 0) else none
  else bif Nat.blt pc 38 then bif Nat.beq pc 36 then some (.bipush 28, 38, 0, 0, 0, 28, 0) else none
  else bif Nat.beq pc 38 then some (.imul, 39, 0, 0, 0, 0, 0) else none
  else bif Nat.blt pc 40 then bif Nat.beq pc 39 then some (.iload_n 3, 40, 3, 0, 0, 0, 0) else none
  else bif Nat.blt pc 41 then bif Nat.beq pc 40 then some (.iadd, 41, 0, 0, 0, 0, 0) else none
  else bif Nat.beq pc 41 then some (.invokestatic 36, 44, 101, 2, 99, 0, 0) else none
  else bif Nat.blt pc 64 then bif Nat.blt pc 54 then bif Nat.blt pc 47 then bif Nat.blt pc 45 then bif Nat.beq pc 44 then some (.ireturn, 45, 0, 0, 0, 0, 0) else none
  else bif Nat.blt pc 46 then bif Nat.beq pc 45 then some (.iload_n 3, 46, 3, 0, 0, 0, 0) else none
  else bif Nat.beq pc 46 then some (.iconst (-1), 47, 0, 0, 0, (-1), 0) else none
  else bif Nat.blt pc 50 then bif Nat.beq pc 47 then some (.if_icmp .ne 21, 50, 68, 0, 0, 0, 0) else none
  else bif Nat.blt pc 51 then bif Nat.beq pc 50 then some (.aload_n 0, 51, 0, 0, 0, 0, 0) else none
  else bif Nat.beq pc 51 then some (.getfield 21, 54, 4, 1, 2, 0, 0) else none
  else bif Nat.blt pc 60 then bif Nat.blt pc 57 then bif Nat.beq pc 54 then some (.getfield 64, 57, 5, 2, 2, 0, 0) else none
  else bif Nat.blt pc 58 then bif Nat.beq pc 57 then some (.iload_n 2, 58, 2, 0, 0, 0, 0) else none
  else bif Nat.beq pc 58 then some (.bipush 8, 60, 0, 0, 0, 8, 0) else none
  else bif Nat.blt pc 61 then bif Nat.beq pc 60 then some (.imul, 61, 0, 0, 0, 0, 0) else none
  else bif Nat.blt pc 63 then bif Nat.beq pc 61 then some (.iload 4, 63, 4, 0, 0, 0, 0) else none
  else bif Nat.beq pc 63 then some (.iadd, 64, 0, 0, 0, 0, 0) else none
  else bif Nat.blt pc 76 then bif Nat.blt pc 69 then bif Nat.blt pc 67 then bif Nat.beq pc 64 then some (.invokestatic 36, 67, 101, 2, 99, 0, 0) else none
  else bif Nat.blt pc 68 then bif Nat.beq pc 67 then some (.ireturn, 68, 0, 0, 0, 0, 0) else none
  else bif Nat.beq pc 68 then some (.aload_n 0, 69, 0, 0, 0, 0, 0) else none
  else bif Nat.blt pc 72 then bif Nat.beq pc 69 then some (.getfield 21, 72, 4, 1, 2, 0, 0) else none
  else bif Nat.blt pc 75 then bif Nat.beq pc 72 then some (.getfield 67, 75, 5, 0, 2, 0, 0) else none
  else bif Nat.beq pc 75 then some (.iload_n 2, 76, 2, 0, 0, 0, 0) else none
  else bif Nat.blt pc 80 then bif Nat.blt pc 78 then bif Nat.beq pc 76 then some (.bipush 28, 78, 0, 0, 0, 28, 0) else none
  else bif Nat.blt pc 79 then bif Nat.beq pc 78 then some (.imul, 79, 0, 0, 0, 0, 0) else none
  else bif Nat.beq pc 79 then some (.iload_n 3, 80, 3, 0, 0, 0, 0) else none
  else bif Nat.blt pc 81 then bif Nat.beq pc 80 then some (.iadd, 81, 0, 0, 0, 0, 0) else none
  else bif Nat.blt pc 84 then bif Nat.beq pc 81 then some (.invokestatic 36, 84, 101, 2, 99, 0, 0) else none
  else bif Nat.beq pc 84 then some (.ireturn, 85, 0, 0, 0, 0, 0) else none
def rs_X4_link : PMR := (1, 0, hdl [], 5)
def mi_X4_link : PMI := wrapM 85 cd_X4_link rs_X4_link
def cd_X4_costOf (pc : Nat) : Option PE :=
  bif Nat.blt pc 40 then bif Nat.blt pc 18 then bif Nat.blt pc 11 then bif Nat.blt pc 4 then bif Nat.blt pc 1 then bif Nat.beq pc 0 then some (.aload_n 0, 1, 0, 0, 0, 0, 0) else none
  else bif Nat.beq pc 1 then some (.getfield 28, 4, 4, 2, 2, 0, 0) else none
  else bif Nat.blt pc 7 then bif Nat.beq pc 4 then some (.getfield 44, 7, 3, 2, 2, 0, 0) else none
  else bif Nat.blt pc 8 then bif Nat.beq pc 7 then some (.iload_n 1, 8, 1, 0, 0, 0, 0) else none
  else bif Nat.beq pc 8 then some (.invokestatic 36, 11, 101, 2, 99, 0, 0) else none
  else bif Nat.blt pc 14 then bif Nat.blt pc 12 then bif Nat.beq pc 11 then some (.istore_n 2, 12, 2, 0, 0, 0, 0) else none
  else bif Nat.blt pc 13 then bif Nat.beq pc 12 then some (.iconst 0, 13, 0, 0, 0, 0, 0) else none
  else bif Nat.beq pc 13 then some (.istore_n 3, 14, 3, 0, 0, 0, 0) else none
  else bif Nat.blt pc 15 then bif Nat.beq pc 14 then some (.iconst (-1), 15, 0, 0, 0, (-1), 0) else none
  else bif Nat.blt pc 17 then bif Nat.beq pc 15 then some (.istore 4, 17, 4, 0, 0, 0, 0) else none
  else bif Nat.beq pc 17 then some (.iconst 0, 18, 0, 0, 0, 0, 0) else none
  else bif Nat.blt pc 30 then bif Nat.blt pc 23 then bif Nat.blt pc 20 then bif Nat.beq pc 18 then some (.istore 5, 20, 5, 0, 0, 0, 0) else none
  else bif Nat.blt pc 22 then bif Nat.beq pc 20 then some (.iload 5, 22, 5, 0, 0, 0, 0) else none
  else bif Nat.beq pc 22 then some (.iload_n 2, 23, 2, 0, 0, 0, 0) else none
  else bif Nat.blt pc 26 then bif Nat.beq pc 23 then some (.if_icmp .ge 50, 26, 73, 0, 0, 0, 0) else none
  else bif Nat.blt pc 27 then bif Nat.beq pc 26 then some (.aload_n 0, 27, 0, 0, 0, 0, 0) else none
  else bif Nat.beq pc 27 then some (.getfield 28, 30, 4, 2, 2, 0, 0) else none
  else bif Nat.blt pc 36 then bif Nat.blt pc 31 then bif Nat.beq pc 30 then some (.iload_n 1, 31, 1, 0, 0, 0, 0) else none
  else bif Nat.blt pc 33 then bif Nat.beq pc 31 then some (.iload 5, 33, 5, 0, 0, 0, 0) else none
  else bif Nat.beq pc 33 then some (.invokevirtual 47, 36, 22, 3, 3, 0, 0) else none
  else bif Nat.blt pc 38 then bif Nat.beq pc 36 then some (.istore 6, 38, 6, 0, 0, 0, 0) else none
  else bif Nat.blt pc 39 then bif Nat.beq pc 38 then some (.iload_n 3, 39, 3, 0, 0, 0, 0) else none
  else bif Nat.beq pc 39 then some (.aload_n 0, 40, 0, 0, 0, 0, 0) else none
  else bif Nat.blt pc 63 then bif Nat.blt pc 52 then bif Nat.blt pc 45 then bif Nat.blt pc 41 then bif Nat.beq pc 40 then some (.iload_n 1, 41, 1, 0, 0, 0, 0) else none
  else bif Nat.blt pc 43 then bif Nat.beq pc 41 then some (.iload 4, 43, 4, 0, 0, 0, 0) else none
  else bif Nat.beq pc 43 then some (.iload 6, 45, 6, 0, 0, 0, 0) else none
  else bif Nat.blt pc 48 then bif Nat.beq pc 45 then some (.invokevirtual 70, 48, 31, 4, 4, 0, 0) else none
  else bif Nat.blt pc 49 then bif Nat.beq pc 48 then some (.aload_n 0, 49, 0, 0, 0, 0, 0) else none
  else bif Nat.beq pc 49 then some (.getfield 12, 52, 4, 0, 2, 0, 0) else none
  else bif Nat.blt pc 60 then bif Nat.blt pc 55 then bif Nat.beq pc 52 then some (.getfield 74, 55, 2, 6, 2, 0, 0) else none
  else bif Nat.blt pc 57 then bif Nat.beq pc 55 then some (.iload 6, 57, 6, 0, 0, 0, 0) else none
  else bif Nat.beq pc 57 then some (.invokestatic 36, 60, 101, 2, 99, 0, 0) else none
  else bif Nat.blt pc 61 then bif Nat.beq pc 60 then some (.iadd, 61, 0, 0, 0, 0, 0) else none
  else bif Nat.blt pc 62 then bif Nat.beq pc 61 then some (.iadd, 62, 0, 0, 0, 0, 0) else none
  else bif Nat.beq pc 62 then some (.istore_n 3, 63, 3, 0, 0, 0, 0) else none
  else bif Nat.blt pc 75 then bif Nat.blt pc 70 then bif Nat.blt pc 65 then bif Nat.beq pc 63 then some (.iload 6, 65, 6, 0, 0, 0, 0) else none
  else bif Nat.blt pc 67 then bif Nat.beq pc 65 then some (.istore 4, 67, 4, 0, 0, 0, 0) else none
  else bif Nat.beq pc 67 then some (.iinc 5 1, 70, 5, 0, 0, 1, 0) else none
  else bif Nat.blt pc 73 then bif Nat.beq pc 70 then some (.goto (-50), 73, 20, 0, 0, 0, 0) else none
  else bif Nat.blt pc 74 then bif Nat.beq pc 73 then some (.iload_n 3, 74, 3, 0, 0, 0, 0) else none
  else bif Nat.beq pc 74 then some (.aload_n 0, 75, 0, 0, 0, 0, 0) else none
  else bif Nat.blt pc 79 then bif Nat.blt pc 76 then bif Nat.beq pc 75 then some (.iload_n 1, 76, 1, 0, 0, 0, 0) else none
  else bif Nat.blt pc 78 then bif Nat.beq pc 76 then some (.iload 4, 78, 4, 0, 0, 0, 0) else none
  else bif Nat.beq pc 78 then some (.iconst (-1), 79, 0, 0, 0, (-1), 0) else none
  else bif Nat.blt pc 82 then bif Nat.beq pc 79 then some (.invokevirtual 70, 82, 31, 4, 4, 0, 0) else none
  else bif Nat.blt pc 83 then bif Nat.beq pc 82 then some (.iadd, 83, 0, 0, 0, 0, 0) else none
  else bif Nat.beq pc 83 then some (.ireturn, 84, 0, 0, 0, 0, 0) else none
def rs_X4_costOf : PMR := (1, 0, hdl [], 7)
def mi_X4_costOf : PMI := wrapM 84 cd_X4_costOf rs_X4_costOf
def cd_X4_increaseBy (pc : Nat) : Option PE :=
  bif Nat.blt pc 35 then bif Nat.blt pc 18 then bif Nat.blt pc 7 then bif Nat.blt pc 4 then bif Nat.blt pc 1 then bif Nat.beq pc 0 then some (.aload_n 0, 1, 0, 0, 0, 0, 0) else none
  else bif Nat.beq pc 1 then some (.getfield 28, 4, 4, 2, 2, 0, 0) else none
  else bif Nat.blt pc 5 then bif Nat.beq pc 4 then some (.iload_n 1, 5, 1, 0, 0, 0, 0) else none
  else bif Nat.blt pc 6 then bif Nat.beq pc 5 then some (.iload_n 2, 6, 2, 0, 0, 0, 0) else none
  else bif Nat.beq pc 6 then some (.iconst 1, 7, 0, 0, 0, 1, 0) else none
  else bif Nat.blt pc 13 then bif Nat.blt pc 8 then bif Nat.beq pc 7 then some (.isub, 8, 0, 0, 0, 0, 0) else none
  else bif Nat.blt pc 11 then bif Nat.beq pc 8 then some (.invokevirtual 47, 11, 22, 3, 3, 0, 0) else none
  else bif Nat.beq pc 11 then some (.istore 4, 13, 4, 0, 0, 0, 0) else none
  else bif Nat.blt pc 14 then bif Nat.beq pc 13 then some (.aload_n 0, 14, 0, 0, 0, 0, 0) else none
  else bif Nat.blt pc 17 then bif Nat.beq pc 14 then some (.getfield 28, 17, 4, 2, 2, 0, 0) else none
  else bif Nat.beq pc 17 then some (.iload_n 1, 18, 1, 0, 0, 0, 0) else none
  else bif Nat.blt pc 26 then bif Nat.blt pc 22 then bif Nat.blt pc 19 then bif Nat.beq pc 18 then some (.iload_n 2, 19, 2, 0, 0, 0, 0) else none
  else bif Nat.beq pc 19 then some (.invokevirtual 47, 22, 22, 3, 3, 0, 0) else none
  else bif Nat.blt pc 24 then bif Nat.beq pc 22 then some (.istore 5, 24, 5, 0, 0, 0, 0) else none
  else bif Nat.blt pc 25 then bif Nat.beq pc 24 then some (.aload_n 0, 25, 0, 0, 0, 0, 0) else none
  else bif Nat.beq pc 25 then some (.iload_n 1, 26, 1, 0, 0, 0, 0) else none
  else bif Nat.blt pc 32 then bif Nat.blt pc 28 then bif Nat.beq pc 26 then some (.iload 4, 28, 4, 0, 0, 0, 0) else none
  else bif Nat.blt pc 29 then bif Nat.beq pc 28 then some (.iload_n 3, 29, 3, 0, 0, 0, 0) else none
  else bif Nat.beq pc 29 then some (.invokevirtual 70, 32, 31, 4, 4, 0, 0) else none
  else bif Nat.blt pc 33 then bif Nat.beq pc 32 then some (.aload_n 0, 33, 0, 0, 0, 0, 0) else none
  else bif Nat.blt pc 34 then bif Nat.beq pc 33 then some (.iload_n 1, 34, 1, 0, 0, 0, 0) else none
  else bif Nat.beq pc 34 then some (.iload_n 3, 35, 3, 0, 0, 0, 0) else none
  else bif Nat.blt pc 56 then bif Nat.blt pc 45 then bif Nat.blt pc 40 then bif Nat.blt pc 37 then bif Nat.beq pc 35 then some (.iload 5, 37, 5, 0, 0, 0, 0) else none
  else bif Nat.beq pc 37 then some (.invokevirtual 70, 40, 31, 4, 4, 0, 0) else none
  else bif Nat.blt pc 41 then bif Nat.beq pc 40 then some (.iadd, 41, 0, 0, 0, 0, 0) else none
  else bif Nat.blt pc 43 then bif Nat.beq pc 41 then some (.istore 6, 43, 6, 0, 0, 0, 0) else none
  else bif Nat.beq pc 43 then some (.iload 6, 45, 6, 0, 0, 0, 0) else none
  else bif Nat.blt pc 52 then bif Nat.blt pc 47 then bif Nat.beq pc 45 then some (.ldc 77, 47, 0, 0, 0, 100000000, 0) else none
  else bif Nat.blt pc 50 then bif Nat.beq pc 47 then some (.if_icmp .lt 6, 50, 53, 0, 0, 0, 0) else none
  else bif Nat.beq pc 50 then some (.ldc 77, 52, 0, 0, 0, 100000000, 0) else none
  else bif Nat.blt pc 53 then bif Nat.beq pc 52 then some (.ireturn, 53, 0, 0, 0, 0, 0) else none
  else bif Nat.blt pc 55 then bif Nat.beq pc 53 then some (.iload 6, 55, 6, 0, 0, 0, 0) else none
  else bif Nat.beq pc 55 then some (.aload_n 0, 56, 0, 0, 0, 0, 0) else none
  else bif Nat.blt pc 68 then bif Nat.blt pc 63 then bif Nat.blt pc 59 then bif Nat.beq pc 56 then some (.getfield 12, 59, 4, 0, 2, 0, 0) else none
  else bif Nat.blt pc 62 then bif Nat.beq pc 59 then some (.getfield 74, 62, 2, 6, 2, 0, 0) else none
  else bif Nat.beq pc 62 then some (.iload_n 3, 63, 3, 0, 0, 0, 0) else none
  else bif Nat.blt pc 66 then bif Nat.beq pc 63 then some (.invokestatic 36, 66, 101, 2, 99, 0, 0) else none
  else bif Nat.blt pc 67 then bif Nat.beq pc 66 then some (.iadd, 67, 0, 0, 0, 0, 0) else none
  else bif Nat.beq pc 67 then some (.aload_n 0, 68, 0, 0, 0, 0, 0) else none
  else bif Nat.blt pc 73 then bif Nat.blt pc 69 then bif Nat.beq pc 68 then some (.iload_n 1, 69, 1, 0, 0, 0, 0) else none
  else bif Nat.blt pc 71 then bif Nat.beq pc 69 then some (.iload 4, 71, 4, 0, 0, 0, 0) else none
  else bif Nat.beq pc 71 then some (.iload 5, 73, 5, 0, 0, 0, 0) else none
  else bif Nat.blt pc 76 then bif Nat.beq pc 73 then some (.invokevirtual 70, 76, 31, 4, 4, 0, 0) else none
  else bif Nat.blt pc 77 then bif Nat.beq pc 76 then some (.isub, 77, 0, 0, 0, 0, 0) else none
  else bif Nat.beq pc 77 then some (.ireturn, 78, 0, 0, 0, 0, 0) else none
def rs_X4_increaseBy : PMR := (1, 0, hdl [], 7)
def mi_X4_increaseBy : PMI := wrapM 78 cd_X4_increaseBy rs_X4_increaseBy
def cd_X4_canSpare (pc : Nat) : Option PE :=
  bif Nat.blt pc 19 then bif Nat.blt pc 8 then bif Nat.blt pc 5 then bif Nat.blt pc 1 then bif Nat.beq pc 0 then some (.aload_n 0, 1, 0, 0, 0, 0, 0) else none
  else bif Nat.blt pc 4 then bif Nat.beq pc 1 then some (.getfield 28, 4, 4, 2, 2, 0, 0) else none
  else bif Nat.beq pc 4 then some (.iload_n 1, 5, 1, 0, 0, 0, 0) else none
  else bif Nat.blt pc 6 then bif Nat.beq pc 5 then some (.iload_n 2, 6, 2, 0, 0, 0, 0) else none
  else bif Nat.blt pc 7 then bif Nat.beq pc 6 then some (.iconst 1, 7, 0, 0, 0, 1, 0) else none
  else bif Nat.beq pc 7 then some (.isub, 8, 0, 0, 0, 0, 0) else none
  else bif Nat.blt pc 13 then bif Nat.blt pc 11 then bif Nat.beq pc 8 then some (.invokevirtual 47, 11, 22, 3, 3, 0, 0) else none
  else bif Nat.blt pc 12 then bif Nat.beq pc 11 then some (.istore_n 3, 12, 3, 0, 0, 0, 0) else none
  else bif Nat.beq pc 12 then some (.aload_n 0, 13, 0, 0, 0, 0, 0) else none
  else bif Nat.blt pc 17 then bif Nat.blt pc 16 then bif Nat.beq pc 13 then some (.getfield 28, 16, 4, 2, 2, 0, 0) else none
  else bif Nat.beq pc 16 then some (.iload_n 1, 17, 1, 0, 0, 0, 0) else none
  else bif Nat.blt pc 18 then bif Nat.beq pc 17 then some (.iload_n 2, 18, 2, 0, 0, 0, 0) else none
  else bif Nat.beq pc 18 then some (.iconst 1, 19, 0, 0, 0, 1, 0) else none
  else bif Nat.blt pc 30 then bif Nat.blt pc 25 then bif Nat.blt pc 20 then bif Nat.beq pc 19 then some (.iadd, 20, 0, 0, 0, 0, 0) else none
  else bif Nat.blt pc 23 then bif Nat.beq pc 20 then some (.invokevirtual 47, 23, 22, 3, 3, 0, 0) else none
  else bif Nat.beq pc 23 then some (.istore 4, 25, 4, 0, 0, 0, 0) else none
  else bif Nat.blt pc 27 then bif Nat.blt pc 26 then bif Nat.beq pc 25 then some (.aload_n 0, 26, 0, 0, 0, 0, 0) else none
  else bif Nat.beq pc 26 then some (.iload_n 1, 27, 1, 0, 0, 0, 0) else none
  else bif Nat.blt pc 28 then bif Nat.beq pc 27 then some (.iload_n 3, 28, 3, 0, 0, 0, 0) else none
  else bif Nat.beq pc 28 then some (.iload 4, 30, 4, 0, 0, 0, 0) else none
  else bif Nat.blt pc 38 then bif Nat.blt pc 33 then bif Nat.beq pc 30 then some (.invokevirtual 70, 33, 31, 4, 4, 0, 0) else none
  else bif Nat.blt pc 35 then bif Nat.beq pc 33 then some (.ldc 77, 35, 0, 0, 0, 100000000, 0) else none
  else bif Nat.beq pc 35 then some (.if_icmp .ge 7, 38, 42, 0, 0, 0, 0) else none
  else bif Nat.blt pc 42 then bif Nat.blt pc 39 then bif Nat.beq pc 38 then some (.iconst 1, 39, 0, 0, 0, 1, 0) else none
  else bif Nat.beq pc 39 then some (.goto 4, 42, 43, 0, 0, 0, 0) else none
  else bif Nat.blt pc 43 then bif Nat.beq pc 42 then some (.iconst 0, 43, 0, 0, 0, 0, 0) else none
  else bif Nat.beq pc 43 then some (.ireturn, 44, 0, 0, 0, 0, 0) else none
def rs_X4_canSpare : PMR := (2, 0, hdl [], 5)
def mi_X4_canSpare : PMI := wrapM 44 cd_X4_canSpare rs_X4_canSpare
def cd_X4_canTurn (pc : Nat) : Option PE :=
  bif Nat.blt pc 31 then bif Nat.blt pc 16 then bif Nat.blt pc 7 then bif Nat.blt pc 4 then bif Nat.blt pc 1 then bif Nat.beq pc 0 then some (.aload_n 0, 1, 0, 0, 0, 0, 0) else none
  else bif Nat.beq pc 1 then some (.getfield 28, 4, 4, 2, 2, 0, 0) else none
  else bif Nat.blt pc 5 then bif Nat.beq pc 4 then some (.iload_n 1, 5, 1, 0, 0, 0, 0) else none
  else bif Nat.blt pc 6 then bif Nat.beq pc 5 then some (.iload_n 2, 6, 2, 0, 0, 0, 0) else none
  else bif Nat.beq pc 6 then some (.iconst 1, 7, 0, 0, 0, 1, 0) else none
  else bif Nat.blt pc 11 then bif Nat.blt pc 8 then bif Nat.beq pc 7 then some (.isub, 8, 0, 0, 0, 0, 0) else none
  else bif Nat.beq pc 8 then some (.invokevirtual 47, 11, 22, 3, 3, 0, 0) else none
  else bif Nat.blt pc 12 then bif Nat.beq pc 11 then some (.istore_n 3, 12, 3, 0, 0, 0, 0) else none
  else bif Nat.blt pc 13 then bif Nat.beq pc 12 then some (.aload_n 0, 13, 0, 0, 0, 0, 0) else none
  else bif Nat.beq pc 13 then some (.getfield 28, 16, 4, 2, 2, 0, 0) else none
  else bif Nat.blt pc 23 then bif Nat.blt pc 18 then bif Nat.blt pc 17 then bif Nat.beq pc 16 then some (.iload_n 1, 17, 1, 0, 0, 0, 0) else none
  else bif Nat.beq pc 17 then some (.iload_n 2, 18, 2, 0, 0, 0, 0) else none
  else bif Nat.blt pc 19 then bif Nat.beq pc 18 then some (.iconst 1, 19, 0, 0, 0, 1, 0) else none
  else bif Nat.blt pc 20 then bif Nat.beq pc 19 then some (.iadd, 20, 0, 0, 0, 0, 0) else none
  else bif Nat.beq pc 20 then some (.invokevirtual 47, 23, 22, 3, 3, 0, 0) else none
  else bif Nat.blt pc 26 then bif Nat.blt pc 25 then bif Nat.beq pc 23 then some (.istore 4, 25, 4, 0, 0, 0, 0) else none
  else bif Nat.beq pc 25 then some (.aload_n 0, 26, 0, 0, 0, 0, 0) else none
  else bif Nat.blt pc 29 then bif Nat.beq pc 26 then some (.getfield 28, 29, 4, 2, 2, 0, 0) else none
  else bif Nat.blt pc 30 then bif Nat.beq pc 29 then some (.iload_n 1, 30, 1, 0, 0, 0, 0) else none
  else bif Nat.beq pc 30 then some (.iload_n 2, 31, 2, 0, 0, 0, 0) else none
  else bif Nat.blt pc 47 then bif Nat.blt pc 39 then bif Nat.blt pc 35 then bif Nat.blt pc 34 then bif Nat.beq pc 31 then some (.invokevirtual 47, 34, 22, 3, 3, 0, 0) else none
  else bif Nat.beq pc 34 then some (.iconst 1, 35, 0, 0, 0, 1, 0) else none
  else bif Nat.blt pc 36 then bif Nat.beq pc 35 then some (.ixor, 36, 0, 0, 0, 0, 0) else none
  else bif Nat.blt pc 38 then bif Nat.beq pc 36 then some (.istore 5, 38, 5, 0, 0, 0, 0) else none
  else bif Nat.beq pc 38 then some (.aload_n 0, 39, 0, 0, 0, 0, 0) else none
  else bif Nat.blt pc 41 then bif Nat.blt pc 40 then bif Nat.beq pc 39 then some (.iload_n 1, 40, 1, 0, 0, 0, 0) else none
  else bif Nat.beq pc 40 then some (.iload_n 3, 41, 3, 0, 0, 0, 0) else none
  else bif Nat.blt pc 43 then bif Nat.beq pc 41 then some (.iload 5, 43, 5, 0, 0, 0, 0) else none
  else bif Nat.blt pc 46 then bif Nat.beq pc 43 then some (.invokevirtual 70, 46, 31, 4, 4, 0, 0) else none
  else bif Nat.beq pc 46 then some (.aload_n 0, 47, 0, 0, 0, 0, 0) else none
  else bif Nat.blt pc 56 then bif Nat.blt pc 50 then bif Nat.blt pc 48 then bif Nat.beq pc 47 then some (.iload_n 1, 48, 1, 0, 0, 0, 0) else none
  else bif Nat.beq pc 48 then some (.iload 5, 50, 5, 0, 0, 0, 0) else none
  else bif Nat.blt pc 52 then bif Nat.beq pc 50 then some (.iload 4, 52, 4, 0, 0, 0, 0) else none
  else bif Nat.blt pc 55 then bif Nat.beq pc 52 then some (.invokevirtual 70, 55, 31, 4, 4, 0, 0) else none
  else bif Nat.beq pc 55 then some (.iadd, 56, 0, 0, 0, 0, 0) else none
  else bif Nat.blt pc 62 then bif Nat.blt pc 58 then bif Nat.beq pc 56 then some (.ldc 77, 58, 0, 0, 0, 100000000, 0) else none
  else bif Nat.blt pc 61 then bif Nat.beq pc 58 then some (.if_icmp .ge 7, 61, 65, 0, 0, 0, 0) else none
  else bif Nat.beq pc 61 then some (.iconst 1, 62, 0, 0, 0, 1, 0) else none
  else bif Nat.blt pc 65 then bif Nat.beq pc 62 then some (.goto 4, 65, 66, 0, 0, 0, 0) else none
  else bif Nat.blt pc 66 then bif Nat.beq pc 65 then some (.iconst 0, 66, 0, 0, 0, 0, 0) else none
  else bif Nat.beq pc 66 then some (.ireturn, 67, 0, 0, 0, 0, 0) else none
def rs_X4_canTurn : PMR := (2, 0, hdl [], 6)
def mi_X4_canTurn : PMI := wrapM 67 cd_X4_canTurn rs_X4_canTurn
def cd_X4_bestPlace (pc : Nat) : Option PE :=
  bif Nat.blt pc 65 then bif Nat.blt pc 31 then bif Nat.blt pc 11 then bif Nat.blt pc 5 then bif Nat.blt pc 2 then bif Nat.blt pc 1 then bif Nat.beq pc 0 then some (.iconst (-1), 1, 0, 0, 0, (-1), 0) else none
  else bif Nat.beq pc 1 then some (.istore_n 2, 2, 2, 0, 0, 0, 0) else none
  else bif Nat.blt pc 4 then bif Nat.beq pc 2 then some (.ldc 77, 4, 0, 0, 0, 100000000, 0) else none
  else bif Nat.beq pc 4 then some (.istore_n 3, 5, 3, 0, 0, 0, 0) else none
  else bif Nat.blt pc 8 then bif Nat.blt pc 6 then bif Nat.beq pc 5 then some (.iconst 0, 6, 0, 0, 0, 0, 0) else none
  else bif Nat.beq pc 6 then some (.istore 4, 8, 4, 0, 0, 0, 0) else none
  else bif Nat.blt pc 10 then bif Nat.beq pc 8 then some (.iload 4, 10, 4, 0, 0, 0, 0) else none
  else bif Nat.beq pc 10 then some (.aload_n 0, 11, 0, 0, 0, 0, 0) else none
  else bif Nat.blt pc 21 then bif Nat.blt pc 17 then bif Nat.blt pc 14 then bif Nat.beq pc 11 then some (.getfield 28, 14, 4, 2, 2, 0, 0) else none
  else bif Nat.beq pc 14 then some (.getfield 78, 17, 3, 0, 0, 0, 0) else none
  else bif Nat.blt pc 20 then bif Nat.beq pc 17 then some (.if_icmp .ge 111, 20, 128, 0, 0, 0, 0) else none
  else bif Nat.beq pc 20 then some (.aload_n 0, 21, 0, 0, 0, 0, 0) else none
  else bif Nat.blt pc 24 then bif Nat.blt pc 23 then bif Nat.beq pc 21 then some (.iload 4, 23, 4, 0, 0, 0, 0) else none
  else bif Nat.beq pc 23 then some (.iload_n 1, 24, 1, 0, 0, 0, 0) else none
  else bif Nat.blt pc 27 then bif Nat.beq pc 24 then some (.invokevirtual 81, 27, 30, 3, 4, 0, 0) else none
  else bif Nat.blt pc 30 then bif Nat.beq pc 27 then some (.ifCond .eq 20, 30, 47, 0, 0, 0, 0) else none
  else bif Nat.beq pc 30 then some (.aload_n 0, 31, 0, 0, 0, 0, 0) else none
  else bif Nat.blt pc 48 then bif Nat.blt pc 42 then bif Nat.blt pc 37 then bif Nat.blt pc 34 then bif Nat.beq pc 31 then some (.getfield 28, 34, 4, 2, 2, 0, 0) else none
  else bif Nat.beq pc 34 then some (.getfield 44, 37, 3, 2, 2, 0, 0) else none
  else bif Nat.blt pc 39 then bif Nat.beq pc 37 then some (.iload 4, 39, 4, 0, 0, 0, 0) else none
  else bif Nat.beq pc 39 then some (.invokestatic 36, 42, 101, 2, 99, 0, 0) else none
  else bif Nat.blt pc 44 then bif Nat.blt pc 43 then bif Nat.beq pc 42 then some (.iconst 1, 43, 0, 0, 0, 1, 0) else none
  else bif Nat.beq pc 43 then some (.iadd, 44, 0, 0, 0, 0, 0) else none
  else bif Nat.blt pc 47 then bif Nat.beq pc 44 then some (.goto 4, 47, 48, 0, 0, 0, 0) else none
  else bif Nat.beq pc 47 then some (.iconst 0, 48, 0, 0, 0, 0, 0) else none
  else bif Nat.blt pc 55 then bif Nat.blt pc 51 then bif Nat.blt pc 50 then bif Nat.beq pc 48 then some (.istore 5, 50, 5, 0, 0, 0, 0) else none
  else bif Nat.beq pc 50 then some (.iconst 0, 51, 0, 0, 0, 0, 0) else none
  else bif Nat.blt pc 53 then bif Nat.beq pc 51 then some (.istore 6, 53, 6, 0, 0, 0, 0) else none
  else bif Nat.beq pc 53 then some (.iload 6, 55, 6, 0, 0, 0, 0) else none
  else bif Nat.blt pc 60 then bif Nat.blt pc 57 then bif Nat.beq pc 55 then some (.iload 5, 57, 5, 0, 0, 0, 0) else none
  else bif Nat.beq pc 57 then some (.if_icmp .ge 65, 60, 122, 0, 0, 0, 0) else none
  else bif Nat.blt pc 61 then bif Nat.beq pc 60 then some (.iconst 0, 61, 0, 0, 0, 0, 0) else none
  else bif Nat.blt pc 63 then bif Nat.beq pc 61 then some (.istore 7, 63, 7, 0, 0, 0, 0) else none
  else bif Nat.beq pc 63 then some (.iload 7, 65, 7, 0, 0, 0, 0) else none
  else bif Nat.blt pc 94 then bif Nat.blt pc 77 then bif Nat.blt pc 72 then bif Nat.blt pc 69 then bif Nat.blt pc 66 then bif Nat.beq pc 65 then some (.iconst 2, 66, 0, 0, 0, 2, 0) else none
  else bif Nat.beq pc 66 then some (.if_icmp .ge 50, 69, 116, 0, 0, 0, 0) else none
  else bif Nat.blt pc 70 then bif Nat.beq pc 69 then some (.aload_n 0, 70, 0, 0, 0, 0, 0) else none
  else bif Nat.beq pc 70 then some (.iload 4, 72, 4, 0, 0, 0, 0) else none
  else bif Nat.blt pc 75 then bif Nat.blt pc 74 then bif Nat.beq pc 72 then some (.iload 6, 74, 6, 0, 0, 0, 0) else none
  else bif Nat.beq pc 74 then some (.iconst 2, 75, 0, 0, 0, 2, 0) else none
  else bif Nat.blt pc 76 then bif Nat.beq pc 75 then some (.iload_n 1, 76, 1, 0, 0, 0, 0) else none
  else bif Nat.beq pc 76 then some (.imul, 77, 0, 0, 0, 0, 0) else none
  else bif Nat.blt pc 85 then bif Nat.blt pc 80 then bif Nat.blt pc 79 then bif Nat.beq pc 77 then some (.iload 7, 79, 7, 0, 0, 0, 0) else none
  else bif Nat.beq pc 79 then some (.iadd, 80, 0, 0, 0, 0, 0) else none
  else bif Nat.blt pc 83 then bif Nat.beq pc 80 then some (.invokevirtual 85, 83, 33, 4, 4, 0, 0) else none
  else bif Nat.beq pc 83 then some (.istore 8, 85, 8, 0, 0, 0, 0) else none
  else bif Nat.blt pc 88 then bif Nat.blt pc 87 then bif Nat.beq pc 85 then some (.iload 8, 87, 8, 0, 0, 0, 0) else none
  else bif Nat.beq pc 87 then some (.iload_n 3, 88, 3, 0, 0, 0, 0) else none
  else bif Nat.blt pc 91 then bif Nat.beq pc 88 then some (.if_icmp .ge 22, 91, 110, 0, 0, 0, 0) else none
  else bif Nat.blt pc 93 then bif Nat.beq pc 91 then some (.iload 8, 93, 8, 0, 0, 0, 0) else none
  else bif Nat.beq pc 93 then some (.istore_n 3, 94, 3, 0, 0, 0, 0) else none
  else bif Nat.blt pc 109 then bif Nat.blt pc 102 then bif Nat.blt pc 99 then bif Nat.blt pc 97 then bif Nat.beq pc 94 then some (.sipush 1000, 97, 0, 0, 0, 1000, 0) else none
  else bif Nat.beq pc 97 then some (.iload 4, 99, 4, 0, 0, 0, 0) else none
  else bif Nat.blt pc 100 then bif Nat.beq pc 99 then some (.imul, 100, 0, 0, 0, 0, 0) else none
  else bif Nat.beq pc 100 then some (.bipush 10, 102, 0, 0, 0, 10, 0) else none
  else bif Nat.blt pc 105 then bif Nat.blt pc 104 then bif Nat.beq pc 102 then some (.iload 6, 104, 6, 0, 0, 0, 0) else none
  else bif Nat.beq pc 104 then some (.imul, 105, 0, 0, 0, 0, 0) else none
  else bif Nat.blt pc 106 then bif Nat.beq pc 105 then some (.iadd, 106, 0, 0, 0, 0, 0) else none
  else bif Nat.blt pc 108 then bif Nat.beq pc 106 then some (.iload 7, 108, 7, 0, 0, 0, 0) else none
  else bif Nat.beq pc 108 then some (.iadd, 109, 0, 0, 0, 0, 0) else none
  else bif Nat.blt pc 119 then bif Nat.blt pc 113 then bif Nat.blt pc 110 then bif Nat.beq pc 109 then some (.istore_n 2, 110, 2, 0, 0, 0, 0) else none
  else bif Nat.beq pc 110 then some (.iinc 7 1, 113, 7, 0, 0, 1, 0) else none
  else bif Nat.blt pc 116 then bif Nat.beq pc 113 then some (.goto (-50), 116, 63, 0, 0, 0, 0) else none
  else bif Nat.beq pc 116 then some (.iinc 6 1, 119, 6, 0, 0, 1, 0) else none
  else bif Nat.blt pc 125 then bif Nat.blt pc 122 then bif Nat.beq pc 119 then some (.goto (-66), 122, 53, 0, 0, 0, 0) else none
  else bif Nat.beq pc 122 then some (.iinc 4 1, 125, 4, 0, 0, 1, 0) else none
  else bif Nat.blt pc 128 then bif Nat.beq pc 125 then some (.goto (-117), 128, 8, 0, 0, 0, 0) else none
  else bif Nat.blt pc 129 then bif Nat.beq pc 128 then some (.iload_n 2, 129, 2, 0, 0, 0, 0) else none
  else bif Nat.beq pc 129 then some (.ireturn, 130, 0, 0, 0, 0, 0) else none
def rs_X4_bestPlace : PMR := (1, 0, hdl [], 9)
def mi_X4_bestPlace : PMI := wrapM 130 cd_X4_bestPlace rs_X4_bestPlace
def cd_X4_increaseAt (pc : Nat) : Option PE :=
  bif Nat.blt pc 14 then bif Nat.blt pc 6 then bif Nat.blt pc 2 then bif Nat.blt pc 1 then bif Nat.beq pc 0 then some (.aload_n 0, 1, 0, 0, 0, 0, 0) else none
  else bif Nat.beq pc 1 then some (.iload_n 2, 2, 2, 0, 0, 0, 0) else none
  else bif Nat.blt pc 5 then bif Nat.beq pc 2 then some (.sipush 1000, 5, 0, 0, 0, 1000, 0) else none
  else bif Nat.beq pc 5 then some (.idiv, 6, 0, 0, 0, 0, 0) else none
  else bif Nat.blt pc 10 then bif Nat.blt pc 7 then bif Nat.beq pc 6 then some (.iload_n 2, 7, 2, 0, 0, 0, 0) else none
  else bif Nat.beq pc 7 then some (.sipush 1000, 10, 0, 0, 0, 1000, 0) else none
  else bif Nat.blt pc 11 then bif Nat.beq pc 10 then some (.irem, 11, 0, 0, 0, 0, 0) else none
  else bif Nat.blt pc 13 then bif Nat.beq pc 11 then some (.bipush 10, 13, 0, 0, 0, 10, 0) else none
  else bif Nat.beq pc 13 then some (.idiv, 14, 0, 0, 0, 0, 0) else none
  else bif Nat.blt pc 18 then bif Nat.blt pc 16 then bif Nat.blt pc 15 then bif Nat.beq pc 14 then some (.iconst 2, 15, 0, 0, 0, 2, 0) else none
  else bif Nat.beq pc 15 then some (.iload_n 1, 16, 1, 0, 0, 0, 0) else none
  else bif Nat.blt pc 17 then bif Nat.beq pc 16 then some (.imul, 17, 0, 0, 0, 0, 0) else none
  else bif Nat.beq pc 17 then some (.iload_n 2, 18, 2, 0, 0, 0, 0) else none
  else bif Nat.blt pc 21 then bif Nat.blt pc 20 then bif Nat.beq pc 18 then some (.bipush 10, 20, 0, 0, 0, 10, 0) else none
  else bif Nat.beq pc 20 then some (.irem, 21, 0, 0, 0, 0, 0) else none
  else bif Nat.blt pc 22 then bif Nat.beq pc 21 then some (.iadd, 22, 0, 0, 0, 0, 0) else none
  else bif Nat.blt pc 25 then bif Nat.beq pc 22 then some (.invokevirtual 85, 25, 33, 4, 4, 0, 0) else none
  else bif Nat.beq pc 25 then some (.ireturn, 26, 0, 0, 0, 0, 0) else none
def rs_X4_increaseAt : PMR := (1, 0, hdl [], 3)
def mi_X4_increaseAt : PMI := wrapM 26 cd_X4_increaseAt rs_X4_increaseAt
def cd_X4_insertBest (pc : Nat) : Option PE :=
  bif Nat.blt pc 22 then bif Nat.blt pc 11 then bif Nat.blt pc 5 then bif Nat.blt pc 1 then bif Nat.beq pc 0 then some (.aload_n 0, 1, 0, 0, 0, 0, 0) else none
  else bif Nat.blt pc 2 then bif Nat.beq pc 1 then some (.iload_n 1, 2, 1, 0, 0, 0, 0) else none
  else bif Nat.beq pc 2 then some (.invokevirtual 88, 5, 36, 2, 4, 0, 0) else none
  else bif Nat.blt pc 7 then bif Nat.blt pc 6 then bif Nat.beq pc 5 then some (.istore_n 2, 6, 2, 0, 0, 0, 0) else none
  else bif Nat.beq pc 6 then some (.iload_n 2, 7, 2, 0, 0, 0, 0) else none
  else bif Nat.blt pc 8 then bif Nat.beq pc 7 then some (.iconst (-1), 8, 0, 0, 0, (-1), 0) else none
  else bif Nat.beq pc 8 then some (.if_icmp .ne 5, 11, 13, 0, 0, 0, 0) else none
  else bif Nat.blt pc 14 then bif Nat.blt pc 12 then bif Nat.beq pc 11 then some (.iconst 0, 12, 0, 0, 0, 0, 0) else none
  else bif Nat.blt pc 13 then bif Nat.beq pc 12 then some (.ireturn, 13, 0, 0, 0, 0, 0) else none
  else bif Nat.beq pc 13 then some (.aload_n 0, 14, 0, 0, 0, 0, 0) else none
  else bif Nat.blt pc 18 then bif Nat.blt pc 17 then bif Nat.beq pc 14 then some (.getfield 28, 17, 4, 2, 2, 0, 0) else none
  else bif Nat.beq pc 17 then some (.iload_n 2, 18, 2, 0, 0, 0, 0) else none
  else bif Nat.blt pc 21 then bif Nat.beq pc 18 then some (.sipush 1000, 21, 0, 0, 0, 1000, 0) else none
  else bif Nat.beq pc 21 then some (.idiv, 22, 0, 0, 0, 0, 0) else none
  else bif Nat.blt pc 32 then bif Nat.blt pc 27 then bif Nat.blt pc 23 then bif Nat.beq pc 22 then some (.iload_n 2, 23, 2, 0, 0, 0, 0) else none
  else bif Nat.blt pc 26 then bif Nat.beq pc 23 then some (.sipush 1000, 26, 0, 0, 0, 1000, 0) else none
  else bif Nat.beq pc 26 then some (.irem, 27, 0, 0, 0, 0, 0) else none
  else bif Nat.blt pc 30 then bif Nat.blt pc 29 then bif Nat.beq pc 27 then some (.bipush 10, 29, 0, 0, 0, 10, 0) else none
  else bif Nat.beq pc 29 then some (.idiv, 30, 0, 0, 0, 0, 0) else none
  else bif Nat.blt pc 31 then bif Nat.beq pc 30 then some (.iconst 2, 31, 0, 0, 0, 2, 0) else none
  else bif Nat.beq pc 31 then some (.iload_n 1, 32, 1, 0, 0, 0, 0) else none
  else bif Nat.blt pc 37 then bif Nat.blt pc 34 then bif Nat.blt pc 33 then bif Nat.beq pc 32 then some (.imul, 33, 0, 0, 0, 0, 0) else none
  else bif Nat.beq pc 33 then some (.iload_n 2, 34, 2, 0, 0, 0, 0) else none
  else bif Nat.blt pc 36 then bif Nat.beq pc 34 then some (.bipush 10, 36, 0, 0, 0, 10, 0) else none
  else bif Nat.beq pc 36 then some (.irem, 37, 0, 0, 0, 0, 0) else none
  else bif Nat.blt pc 41 then bif Nat.blt pc 38 then bif Nat.beq pc 37 then some (.iadd, 38, 0, 0, 0, 0, 0) else none
  else bif Nat.beq pc 38 then some (.invokevirtual 91, 41, 25, 4, 3, 0, 0) else none
  else bif Nat.blt pc 42 then bif Nat.beq pc 41 then some (.iconst 1, 42, 0, 0, 0, 1, 0) else none
  else bif Nat.beq pc 42 then some (.ireturn, 43, 0, 0, 0, 0, 0) else none
def rs_X4_insertBest : PMR := (2, 0, hdl [], 3)
def mi_X4_insertBest : PMI := wrapM 43 cd_X4_insertBest rs_X4_insertBest
def cd_X4_gainOf (pc : Nat) : Option PE :=
  bif Nat.blt pc 52 then bif Nat.blt pc 25 then bif Nat.blt pc 13 then bif Nat.blt pc 5 then bif Nat.blt pc 1 then bif Nat.beq pc 0 then some (.aload_n 0, 1, 0, 0, 0, 0, 0) else none
  else bif Nat.blt pc 4 then bif Nat.beq pc 1 then some (.getfield 28, 4, 4, 2, 2, 0, 0) else none
  else bif Nat.beq pc 4 then some (.iload_n 1, 5, 1, 0, 0, 0, 0) else none
  else bif Nat.blt pc 9 then bif Nat.blt pc 8 then bif Nat.beq pc 5 then some (.invokevirtual 40, 8, 23, 2, 3, 0, 0) else none
  else bif Nat.beq pc 8 then some (.istore_n 2, 9, 2, 0, 0, 0, 0) else none
  else bif Nat.blt pc 10 then bif Nat.beq pc 9 then some (.aload_n 0, 10, 0, 0, 0, 0, 0) else none
  else bif Nat.beq pc 10 then some (.getfield 28, 13, 4, 2, 2, 0, 0) else none
  else bif Nat.blt pc 19 then bif Nat.blt pc 15 then bif Nat.blt pc 14 then bif Nat.beq pc 13 then some (.iload_n 2, 14, 2, 0, 0, 0, 0) else none
  else bif Nat.beq pc 14 then some (.iload_n 1, 15, 1, 0, 0, 0, 0) else none
  else bif Nat.blt pc 18 then bif Nat.beq pc 15 then some (.invokevirtual 95, 18, 24, 3, 3, 0, 0) else none
  else bif Nat.beq pc 18 then some (.istore_n 3, 19, 3, 0, 0, 0, 0) else none
  else bif Nat.blt pc 21 then bif Nat.blt pc 20 then bif Nat.beq pc 19 then some (.iload_n 2, 20, 2, 0, 0, 0, 0) else none
  else bif Nat.beq pc 20 then some (.iconst (-1), 21, 0, 0, 0, (-1), 0) else none
  else bif Nat.blt pc 24 then bif Nat.beq pc 21 then some (.if_icmp .eq 12, 24, 33, 0, 0, 0, 0) else none
  else bif Nat.beq pc 24 then some (.aload_n 0, 25, 0, 0, 0, 0, 0) else none
  else bif Nat.blt pc 39 then bif Nat.blt pc 33 then bif Nat.blt pc 27 then bif Nat.blt pc 26 then bif Nat.beq pc 25 then some (.iload_n 2, 26, 2, 0, 0, 0, 0) else none
  else bif Nat.beq pc 26 then some (.iload_n 3, 27, 3, 0, 0, 0, 0) else none
  else bif Nat.blt pc 30 then bif Nat.beq pc 27 then some (.invokevirtual 98, 30, 34, 3, 4, 0, 0) else none
  else bif Nat.beq pc 30 then some (.ifCond .ne 5, 33, 35, 0, 0, 0, 0) else none
  else bif Nat.blt pc 35 then bif Nat.blt pc 34 then bif Nat.beq pc 33 then some (.iconst 0, 34, 0, 0, 0, 0, 0) else none
  else bif Nat.beq pc 34 then some (.ireturn, 35, 0, 0, 0, 0, 0) else none
  else bif Nat.blt pc 36 then bif Nat.beq pc 35 then some (.aload_n 0, 36, 0, 0, 0, 0, 0) else none
  else bif Nat.beq pc 36 then some (.getfield 28, 39, 4, 2, 2, 0, 0) else none
  else bif Nat.blt pc 46 then bif Nat.blt pc 41 then bif Nat.blt pc 40 then bif Nat.beq pc 39 then some (.iload_n 2, 40, 2, 0, 0, 0, 0) else none
  else bif Nat.beq pc 40 then some (.iload_n 3, 41, 3, 0, 0, 0, 0) else none
  else bif Nat.blt pc 44 then bif Nat.beq pc 41 then some (.invokevirtual 47, 44, 22, 3, 3, 0, 0) else none
  else bif Nat.beq pc 44 then some (.istore 4, 46, 4, 0, 0, 0, 0) else none
  else bif Nat.blt pc 50 then bif Nat.blt pc 47 then bif Nat.beq pc 46 then some (.aload_n 0, 47, 0, 0, 0, 0, 0) else none
  else bif Nat.beq pc 47 then some (.getfield 28, 50, 4, 2, 2, 0, 0) else none
  else bif Nat.blt pc 51 then bif Nat.beq pc 50 then some (.iload_n 2, 51, 2, 0, 0, 0, 0) else none
  else bif Nat.beq pc 51 then some (.iload_n 3, 52, 3, 0, 0, 0, 0) else none
  else bif Nat.blt pc 79 then bif Nat.blt pc 65 then bif Nat.blt pc 57 then bif Nat.blt pc 55 then bif Nat.beq pc 52 then some (.invokevirtual 101, 55, 26, 3, 3, 0, 0) else none
  else bif Nat.blt pc 56 then bif Nat.beq pc 55 then some (.aload_n 0, 56, 0, 0, 0, 0, 0) else none
  else bif Nat.beq pc 56 then some (.iload_n 2, 57, 2, 0, 0, 0, 0) else none
  else bif Nat.blt pc 60 then bif Nat.blt pc 58 then bif Nat.beq pc 57 then some (.iload_n 3, 58, 3, 0, 0, 0, 0) else none
  else bif Nat.beq pc 58 then some (.iload 4, 60, 4, 0, 0, 0, 0) else none
  else bif Nat.blt pc 63 then bif Nat.beq pc 60 then some (.invokevirtual 85, 63, 33, 4, 4, 0, 0) else none
  else bif Nat.beq pc 63 then some (.istore 5, 65, 5, 0, 0, 0, 0) else none
  else bif Nat.blt pc 72 then bif Nat.blt pc 67 then bif Nat.blt pc 66 then bif Nat.beq pc 65 then some (.aload_n 0, 66, 0, 0, 0, 0, 0) else none
  else bif Nat.beq pc 66 then some (.iload_n 1, 67, 1, 0, 0, 0, 0) else none
  else bif Nat.blt pc 70 then bif Nat.beq pc 67 then some (.invokevirtual 88, 70, 36, 2, 4, 0, 0) else none
  else bif Nat.beq pc 70 then some (.istore 6, 72, 6, 0, 0, 0, 0) else none
  else bif Nat.blt pc 75 then bif Nat.blt pc 74 then bif Nat.beq pc 72 then some (.iload 6, 74, 6, 0, 0, 0, 0) else none
  else bif Nat.beq pc 74 then some (.iconst (-1), 75, 0, 0, 0, (-1), 0) else none
  else bif Nat.blt pc 78 then bif Nat.beq pc 75 then some (.if_icmp .ne 7, 78, 82, 0, 0, 0, 0) else none
  else bif Nat.beq pc 78 then some (.iconst 0, 79, 0, 0, 0, 0, 0) else none
  else bif Nat.blt pc 94 then bif Nat.blt pc 86 then bif Nat.blt pc 84 then bif Nat.blt pc 82 then bif Nat.beq pc 79 then some (.goto 13, 82, 92, 0, 0, 0, 0) else none
  else bif Nat.beq pc 82 then some (.iload 5, 84, 5, 0, 0, 0, 0) else none
  else bif Nat.blt pc 85 then bif Nat.beq pc 84 then some (.aload_n 0, 85, 0, 0, 0, 0, 0) else none
  else bif Nat.beq pc 85 then some (.iload_n 1, 86, 1, 0, 0, 0, 0) else none
  else bif Nat.blt pc 91 then bif Nat.blt pc 88 then bif Nat.beq pc 86 then some (.iload 6, 88, 6, 0, 0, 0, 0) else none
  else bif Nat.beq pc 88 then some (.invokevirtual 105, 91, 37, 3, 4, 0, 0) else none
  else bif Nat.blt pc 92 then bif Nat.beq pc 91 then some (.isub, 92, 0, 0, 0, 0, 0) else none
  else bif Nat.beq pc 92 then some (.istore 7, 94, 7, 0, 0, 0, 0) else none
  else bif Nat.blt pc 100 then bif Nat.blt pc 98 then bif Nat.blt pc 95 then bif Nat.beq pc 94 then some (.aload_n 0, 95, 0, 0, 0, 0, 0) else none
  else bif Nat.beq pc 95 then some (.getfield 28, 98, 4, 2, 2, 0, 0) else none
  else bif Nat.blt pc 99 then bif Nat.beq pc 98 then some (.iload_n 2, 99, 2, 0, 0, 0, 0) else none
  else bif Nat.beq pc 99 then some (.iload_n 3, 100, 3, 0, 0, 0, 0) else none
  else bif Nat.blt pc 105 then bif Nat.blt pc 102 then bif Nat.beq pc 100 then some (.iload 4, 102, 4, 0, 0, 0, 0) else none
  else bif Nat.beq pc 102 then some (.invokevirtual 91, 105, 25, 4, 3, 0, 0) else none
  else bif Nat.blt pc 107 then bif Nat.beq pc 105 then some (.iload 7, 107, 7, 0, 0, 0, 0) else none
  else bif Nat.beq pc 107 then some (.ireturn, 108, 0, 0, 0, 0, 0) else none
def rs_X4_gainOf : PMR := (1, 0, hdl [], 8)
def mi_X4_gainOf : PMI := wrapM 108 cd_X4_gainOf rs_X4_gainOf
def cd_X4_makeBestChange (pc : Nat) : Option PE :=
  bif Nat.blt pc 38 then bif Nat.blt pc 17 then bif Nat.blt pc 5 then bif Nat.blt pc 2 then bif Nat.blt pc 1 then bif Nat.beq pc 0 then some (.iconst (-1), 1, 0, 0, 0, (-1), 0) else none
  else bif Nat.beq pc 1 then some (.istore_n 1, 2, 1, 0, 0, 0, 0) else none
  else bif Nat.blt pc 3 then bif Nat.beq pc 2 then some (.iconst 0, 3, 0, 0, 0, 0, 0) else none
  else bif Nat.blt pc 4 then bif Nat.beq pc 3 then some (.istore_n 2, 4, 2, 0, 0, 0, 0) else none
  else bif Nat.beq pc 4 then some (.iconst 0, 5, 0, 0, 0, 0, 0) else none
  else bif Nat.blt pc 8 then bif Nat.blt pc 6 then bif Nat.beq pc 5 then some (.istore_n 3, 6, 3, 0, 0, 0, 0) else none
  else bif Nat.blt pc 7 then bif Nat.beq pc 6 then some (.iload_n 3, 7, 3, 0, 0, 0, 0) else none
  else bif Nat.beq pc 7 then some (.aload_n 0, 8, 0, 0, 0, 0, 0) else none
  else bif Nat.blt pc 11 then bif Nat.beq pc 8 then some (.getfield 12, 11, 4, 0, 2, 0, 0) else none
  else bif Nat.blt pc 14 then bif Nat.beq pc 11 then some (.getfield 108, 14, 2, 2, 0, 0, 0) else none
  else bif Nat.beq pc 14 then some (.if_icmp .ge 27, 17, 41, 0, 0, 0, 0) else none
  else bif Nat.blt pc 27 then bif Nat.blt pc 22 then bif Nat.blt pc 18 then bif Nat.beq pc 17 then some (.aload_n 0, 18, 0, 0, 0, 0, 0) else none
  else bif Nat.blt pc 19 then bif Nat.beq pc 18 then some (.iload_n 3, 19, 3, 0, 0, 0, 0) else none
  else bif Nat.beq pc 19 then some (.invokevirtual 111, 22, 39, 2, 4, 0, 0) else none
  else bif Nat.blt pc 24 then bif Nat.beq pc 22 then some (.istore 4, 24, 4, 0, 0, 0, 0) else none
  else bif Nat.blt pc 26 then bif Nat.beq pc 24 then some (.iload 4, 26, 4, 0, 0, 0, 0) else none
  else bif Nat.beq pc 26 then some (.iload_n 2, 27, 2, 0, 0, 0, 0) else none
  else bif Nat.blt pc 33 then bif Nat.blt pc 30 then bif Nat.beq pc 27 then some (.if_icmp .le 8, 30, 35, 0, 0, 0, 0) else none
  else bif Nat.blt pc 32 then bif Nat.beq pc 30 then some (.iload 4, 32, 4, 0, 0, 0, 0) else none
  else bif Nat.beq pc 32 then some (.istore_n 2, 33, 2, 0, 0, 0, 0) else none
  else bif Nat.blt pc 34 then bif Nat.beq pc 33 then some (.iload_n 3, 34, 3, 0, 0, 0, 0) else none
  else bif Nat.blt pc 35 then bif Nat.beq pc 34 then some (.istore_n 1, 35, 1, 0, 0, 0, 0) else none
  else bif Nat.beq pc 35 then some (.iinc 3 1, 38, 3, 0, 0, 1, 0) else none
  else bif Nat.blt pc 60 then bif Nat.blt pc 50 then bif Nat.blt pc 43 then bif Nat.blt pc 41 then bif Nat.beq pc 38 then some (.goto (-32), 41, 6, 0, 0, 0, 0) else none
  else bif Nat.blt pc 42 then bif Nat.beq pc 41 then some (.iload_n 1, 42, 1, 0, 0, 0, 0) else none
  else bif Nat.beq pc 42 then some (.iconst (-1), 43, 0, 0, 0, (-1), 0) else none
  else bif Nat.blt pc 46 then bif Nat.beq pc 43 then some (.if_icmp .eq 35, 46, 78, 0, 0, 0, 0) else none
  else bif Nat.blt pc 47 then bif Nat.beq pc 46 then some (.aload_n 0, 47, 0, 0, 0, 0, 0) else none
  else bif Nat.beq pc 47 then some (.getfield 28, 50, 4, 2, 2, 0, 0) else none
  else bif Nat.blt pc 55 then bif Nat.blt pc 51 then bif Nat.beq pc 50 then some (.iload_n 1, 51, 1, 0, 0, 0, 0) else none
  else bif Nat.blt pc 54 then bif Nat.beq pc 51 then some (.invokevirtual 40, 54, 23, 2, 3, 0, 0) else none
  else bif Nat.beq pc 54 then some (.istore_n 3, 55, 3, 0, 0, 0, 0) else none
  else bif Nat.blt pc 56 then bif Nat.beq pc 55 then some (.aload_n 0, 56, 0, 0, 0, 0, 0) else none
  else bif Nat.blt pc 59 then bif Nat.beq pc 56 then some (.getfield 28, 59, 4, 2, 2, 0, 0) else none
  else bif Nat.beq pc 59 then some (.iload_n 3, 60, 3, 0, 0, 0, 0) else none
  else bif Nat.blt pc 72 then bif Nat.blt pc 65 then bif Nat.blt pc 61 then bif Nat.beq pc 60 then some (.aload_n 0, 61, 0, 0, 0, 0, 0) else none
  else bif Nat.blt pc 64 then bif Nat.beq pc 61 then some (.getfield 28, 64, 4, 2, 2, 0, 0) else none
  else bif Nat.beq pc 64 then some (.iload_n 3, 65, 3, 0, 0, 0, 0) else none
  else bif Nat.blt pc 66 then bif Nat.beq pc 65 then some (.iload_n 1, 66, 1, 0, 0, 0, 0) else none
  else bif Nat.blt pc 69 then bif Nat.beq pc 66 then some (.invokevirtual 95, 69, 24, 3, 3, 0, 0) else none
  else bif Nat.beq pc 69 then some (.invokevirtual 101, 72, 26, 3, 3, 0, 0) else none
  else bif Nat.blt pc 77 then bif Nat.blt pc 73 then bif Nat.beq pc 72 then some (.aload_n 0, 73, 0, 0, 0, 0, 0) else none
  else bif Nat.blt pc 74 then bif Nat.beq pc 73 then some (.iload_n 1, 74, 1, 0, 0, 0, 0) else none
  else bif Nat.beq pc 74 then some (.invokevirtual 114, 77, 38, 2, 4, 0, 0) else none
  else bif Nat.blt pc 78 then bif Nat.beq pc 77 then some (.pop, 78, 0, 0, 0, 0, 0) else none
  else bif Nat.blt pc 79 then bif Nat.beq pc 78 then some (.iload_n 2, 79, 2, 0, 0, 0, 0) else none
  else bif Nat.beq pc 79 then some (.ireturn, 80, 0, 0, 0, 0, 0) else none
def rs_X4_makeBestChange : PMR := (1, 0, hdl [], 5)
def mi_X4_makeBestChange : PMI := wrapM 80 cd_X4_makeBestChange rs_X4_makeBestChange
def cd_X5_explore (pc : Nat) : Option PE :=
  bif Nat.blt pc 62 then bif Nat.blt pc 32 then bif Nat.blt pc 14 then bif Nat.blt pc 7 then bif Nat.blt pc 2 then bif Nat.blt pc 1 then bif Nat.beq pc 0 then some (.aload_n 0, 1, 0, 0, 0, 0, 0) else none
  else bif Nat.beq pc 1 then some (.aload_n 1, 2, 1, 0, 0, 0, 0) else none
  else bif Nat.blt pc 5 then bif Nat.beq pc 2 then some (.invokevirtual 24, 5, 42, 2, 5, 0, 0) else none
  else bif Nat.blt pc 6 then bif Nat.beq pc 5 then some (.aload_n 0, 6, 0, 0, 0, 0, 0) else none
  else bif Nat.beq pc 6 then some (.aload_n 1, 7, 1, 0, 0, 0, 0) else none
  else bif Nat.blt pc 11 then bif Nat.blt pc 10 then bif Nat.beq pc 7 then some (.invokevirtual 28, 10, 43, 2, 5, 0, 0) else none
  else bif Nat.beq pc 10 then some (.iconst 0, 11, 0, 0, 0, 0, 0) else none
  else bif Nat.blt pc 12 then bif Nat.beq pc 11 then some (.istore_n 2, 12, 2, 0, 0, 0, 0) else none
  else bif Nat.blt pc 13 then bif Nat.beq pc 12 then some (.iload_n 2, 13, 2, 0, 0, 0, 0) else none
  else bif Nat.beq pc 13 then some (.iconst 2, 14, 0, 0, 0, 2, 0) else none
  else bif Nat.blt pc 23 then bif Nat.blt pc 18 then bif Nat.blt pc 15 then bif Nat.beq pc 14 then some (.aload_n 1, 15, 1, 0, 0, 0, 0) else none
  else bif Nat.beq pc 15 then some (.getfield 31, 18, 2, 2, 0, 0, 0) else none
  else bif Nat.blt pc 19 then bif Nat.beq pc 18 then some (.imul, 19, 0, 0, 0, 0, 0) else none
  else bif Nat.blt pc 22 then bif Nat.beq pc 19 then some (.if_icmp .ge 65, 22, 84, 0, 0, 0, 0) else none
  else bif Nat.beq pc 22 then some (.iconst 0, 23, 0, 0, 0, 0, 0) else none
  else bif Nat.blt pc 25 then bif Nat.blt pc 24 then bif Nat.beq pc 23 then some (.istore_n 3, 24, 3, 0, 0, 0, 0) else none
  else bif Nat.beq pc 24 then some (.iload_n 3, 25, 3, 0, 0, 0, 0) else none
  else bif Nat.blt pc 26 then bif Nat.beq pc 25 then some (.aload_n 1, 26, 1, 0, 0, 0, 0) else none
  else bif Nat.blt pc 29 then bif Nat.beq pc 26 then some (.getfield 37, 29, 2, 0, 0, 0, 0) else none
  else bif Nat.beq pc 29 then some (.if_icmp .ge 49, 32, 78, 0, 0, 0, 0) else none
  else bif Nat.blt pc 45 then bif Nat.blt pc 40 then bif Nat.blt pc 36 then bif Nat.blt pc 33 then bif Nat.beq pc 32 then some (.aload_n 0, 33, 0, 0, 0, 0, 0) else none
  else bif Nat.beq pc 33 then some (.getfield 15, 36, 5, 1, 2, 0, 0) else none
  else bif Nat.blt pc 37 then bif Nat.beq pc 36 then some (.iload_n 3, 37, 3, 0, 0, 0, 0) else none
  else bif Nat.blt pc 39 then bif Nat.beq pc 37 then some (.bipush 28, 39, 0, 0, 0, 28, 0) else none
  else bif Nat.beq pc 39 then some (.imul, 40, 0, 0, 0, 0, 0) else none
  else bif Nat.blt pc 42 then bif Nat.blt pc 41 then bif Nat.beq pc 40 then some (.iload_n 2, 41, 2, 0, 0, 0, 0) else none
  else bif Nat.beq pc 41 then some (.iadd, 42, 0, 0, 0, 0, 0) else none
  else bif Nat.blt pc 43 then bif Nat.beq pc 42 then some (.aload_n 0, 43, 0, 0, 0, 0, 0) else none
  else bif Nat.blt pc 44 then bif Nat.beq pc 43 then some (.aload_n 1, 44, 1, 0, 0, 0, 0) else none
  else bif Nat.beq pc 44 then some (.iload_n 3, 45, 3, 0, 0, 0, 0) else none
  else bif Nat.blt pc 56 then bif Nat.blt pc 49 then bif Nat.blt pc 46 then bif Nat.beq pc 45 then some (.iload_n 2, 46, 2, 0, 0, 0, 0) else none
  else bif Nat.beq pc 46 then some (.invokevirtual 40, 49, 44, 4, 5, 0, 0) else none
  else bif Nat.blt pc 52 then bif Nat.beq pc 49 then some (.invokestatic 44, 52, 102, 3, 99, 0, 0) else none
  else bif Nat.blt pc 53 then bif Nat.beq pc 52 then some (.aload_n 0, 53, 0, 0, 0, 0, 0) else none
  else bif Nat.beq pc 53 then some (.getfield 18, 56, 5, 2, 2, 0, 0) else none
  else bif Nat.blt pc 59 then bif Nat.blt pc 57 then bif Nat.beq pc 56 then some (.iload_n 2, 57, 2, 0, 0, 0, 0) else none
  else bif Nat.beq pc 57 then some (.bipush 8, 59, 0, 0, 0, 8, 0) else none
  else bif Nat.blt pc 60 then bif Nat.beq pc 59 then some (.imul, 60, 0, 0, 0, 0, 0) else none
  else bif Nat.blt pc 61 then bif Nat.beq pc 60 then some (.iload_n 3, 61, 3, 0, 0, 0, 0) else none
  else bif Nat.beq pc 61 then some (.iadd, 62, 0, 0, 0, 0, 0) else none
  else bif Nat.blt pc 98 then bif Nat.blt pc 84 then bif Nat.blt pc 69 then bif Nat.blt pc 64 then bif Nat.blt pc 63 then bif Nat.beq pc 62 then some (.aload_n 0, 63, 0, 0, 0, 0, 0) else none
  else bif Nat.beq pc 63 then some (.aload_n 1, 64, 1, 0, 0, 0, 0) else none
  else bif Nat.blt pc 65 then bif Nat.beq pc 64 then some (.iload_n 2, 65, 2, 0, 0, 0, 0) else none
  else bif Nat.blt pc 66 then bif Nat.beq pc 65 then some (.iload_n 3, 66, 3, 0, 0, 0, 0) else none
  else bif Nat.beq pc 66 then some (.invokevirtual 48, 69, 45, 4, 5, 0, 0) else none
  else bif Nat.blt pc 75 then bif Nat.blt pc 72 then bif Nat.beq pc 69 then some (.invokestatic 44, 72, 102, 3, 99, 0, 0) else none
  else bif Nat.beq pc 72 then some (.iinc 3 1, 75, 3, 0, 0, 1, 0) else none
  else bif Nat.blt pc 78 then bif Nat.beq pc 75 then some (.goto (-51), 78, 24, 0, 0, 0, 0) else none
  else bif Nat.blt pc 81 then bif Nat.beq pc 78 then some (.iinc 2 1, 81, 2, 0, 0, 1, 0) else none
  else bif Nat.beq pc 81 then some (.goto (-69), 84, 12, 0, 0, 0, 0) else none
  else bif Nat.blt pc 91 then bif Nat.blt pc 86 then bif Nat.blt pc 85 then bif Nat.beq pc 84 then some (.iconst 0, 85, 0, 0, 0, 0, 0) else none
  else bif Nat.beq pc 85 then some (.istore_n 2, 86, 2, 0, 0, 0, 0) else none
  else bif Nat.blt pc 87 then bif Nat.beq pc 86 then some (.iload_n 2, 87, 2, 0, 0, 0, 0) else none
  else bif Nat.blt pc 88 then bif Nat.beq pc 87 then some (.aload_n 1, 88, 1, 0, 0, 0, 0) else none
  else bif Nat.beq pc 88 then some (.getfield 37, 91, 2, 0, 0, 0, 0) else none
  else bif Nat.blt pc 95 then bif Nat.blt pc 94 then bif Nat.beq pc 91 then some (.if_icmp .ge 45, 94, 136, 0, 0, 0, 0) else none
  else bif Nat.beq pc 94 then some (.iconst 0, 95, 0, 0, 0, 0, 0) else none
  else bif Nat.blt pc 96 then bif Nat.beq pc 95 then some (.istore_n 3, 96, 3, 0, 0, 0, 0) else none
  else bif Nat.blt pc 97 then bif Nat.beq pc 96 then some (.iload_n 3, 97, 3, 0, 0, 0, 0) else none
  else bif Nat.beq pc 97 then some (.aload_n 1, 98, 1, 0, 0, 0, 0) else none
  else bif Nat.blt pc 115 then bif Nat.blt pc 109 then bif Nat.blt pc 104 then bif Nat.blt pc 101 then bif Nat.beq pc 98 then some (.getfield 37, 101, 2, 0, 0, 0, 0) else none
  else bif Nat.beq pc 101 then some (.if_icmp .ge 29, 104, 130, 0, 0, 0, 0) else none
  else bif Nat.blt pc 105 then bif Nat.beq pc 104 then some (.aload_n 0, 105, 0, 0, 0, 0, 0) else none
  else bif Nat.blt pc 108 then bif Nat.beq pc 105 then some (.getfield 21, 108, 5, 3, 2, 0, 0) else none
  else bif Nat.beq pc 108 then some (.iload_n 2, 109, 2, 0, 0, 0, 0) else none
  else bif Nat.blt pc 112 then bif Nat.blt pc 111 then bif Nat.beq pc 109 then some (.bipush 8, 111, 0, 0, 0, 8, 0) else none
  else bif Nat.beq pc 111 then some (.imul, 112, 0, 0, 0, 0, 0) else none
  else bif Nat.blt pc 113 then bif Nat.beq pc 112 then some (.iload_n 3, 113, 3, 0, 0, 0, 0) else none
  else bif Nat.blt pc 114 then bif Nat.beq pc 113 then some (.iadd, 114, 0, 0, 0, 0, 0) else none
  else bif Nat.beq pc 114 then some (.aload_n 0, 115, 0, 0, 0, 0, 0) else none
  else bif Nat.blt pc 124 then bif Nat.blt pc 117 then bif Nat.blt pc 116 then bif Nat.beq pc 115 then some (.aload_n 1, 116, 1, 0, 0, 0, 0) else none
  else bif Nat.beq pc 116 then some (.iload_n 2, 117, 2, 0, 0, 0, 0) else none
  else bif Nat.blt pc 118 then bif Nat.beq pc 117 then some (.iload_n 3, 118, 3, 0, 0, 0, 0) else none
  else bif Nat.blt pc 121 then bif Nat.beq pc 118 then some (.invokevirtual 51, 121, 46, 4, 5, 0, 0) else none
  else bif Nat.beq pc 121 then some (.invokestatic 44, 124, 102, 3, 99, 0, 0) else none
  else bif Nat.blt pc 130 then bif Nat.blt pc 127 then bif Nat.beq pc 124 then some (.iinc 3 1, 127, 3, 0, 0, 1, 0) else none
  else bif Nat.beq pc 127 then some (.goto (-31), 130, 96, 0, 0, 0, 0) else none
  else bif Nat.blt pc 133 then bif Nat.beq pc 130 then some (.iinc 2 1, 133, 2, 0, 0, 1, 0) else none
  else bif Nat.blt pc 136 then bif Nat.beq pc 133 then some (.goto (-47), 136, 86, 0, 0, 0, 0) else none
  else bif Nat.beq pc 136 then some (.return_, 137, 0, 0, 0, 0, 0) else none
def rs_X5_explore : PMR := (0, 0, hdl [], 4)
def mi_X5_explore : PMI := wrapM 137 cd_X5_explore rs_X5_explore
def cd_X5_markTurns (pc : Nat) : Option PE :=
  bif Nat.blt pc 28 then bif Nat.blt pc 11 then bif Nat.blt pc 6 then bif Nat.blt pc 2 then bif Nat.blt pc 1 then bif Nat.beq pc 0 then some (.iconst 2, 1, 0, 0, 0, 2, 0) else none
  else bif Nat.beq pc 1 then some (.aload_n 1, 2, 1, 0, 0, 0, 0) else none
  else bif Nat.blt pc 5 then bif Nat.beq pc 2 then some (.getfield 31, 5, 2, 2, 0, 0, 0) else none
  else bif Nat.beq pc 5 then some (.imul, 6, 0, 0, 0, 0, 0) else none
  else bif Nat.blt pc 8 then bif Nat.blt pc 7 then bif Nat.beq pc 6 then some (.istore_n 2, 7, 2, 0, 0, 0, 0) else none
  else bif Nat.beq pc 7 then some (.iconst 0, 8, 0, 0, 0, 0, 0) else none
  else bif Nat.blt pc 9 then bif Nat.beq pc 8 then some (.istore_n 3, 9, 3, 0, 0, 0, 0) else none
  else bif Nat.blt pc 10 then bif Nat.beq pc 9 then some (.iload_n 3, 10, 3, 0, 0, 0, 0) else none
  else bif Nat.beq pc 10 then some (.iload_n 2, 11, 2, 0, 0, 0, 0) else none
  else bif Nat.blt pc 19 then bif Nat.blt pc 15 then bif Nat.blt pc 14 then bif Nat.beq pc 11 then some (.if_icmp .ge 54, 14, 65, 0, 0, 0, 0) else none
  else bif Nat.beq pc 14 then some (.iconst 0, 15, 0, 0, 0, 0, 0) else none
  else bif Nat.blt pc 17 then bif Nat.beq pc 15 then some (.istore 4, 17, 4, 0, 0, 0, 0) else none
  else bif Nat.beq pc 17 then some (.iload 4, 19, 4, 0, 0, 0, 0) else none
  else bif Nat.blt pc 23 then bif Nat.blt pc 20 then bif Nat.beq pc 19 then some (.iload_n 2, 20, 2, 0, 0, 0, 0) else none
  else bif Nat.beq pc 20 then some (.if_icmp .ge 39, 23, 59, 0, 0, 0, 0) else none
  else bif Nat.blt pc 24 then bif Nat.beq pc 23 then some (.aload_n 0, 24, 0, 0, 0, 0, 0) else none
  else bif Nat.blt pc 27 then bif Nat.beq pc 24 then some (.getfield 9, 27, 5, 0, 2, 0, 0) else none
  else bif Nat.beq pc 27 then some (.iload_n 3, 28, 3, 0, 0, 0, 0) else none
  else bif Nat.blt pc 44 then bif Nat.blt pc 34 then bif Nat.blt pc 31 then bif Nat.blt pc 30 then bif Nat.beq pc 28 then some (.bipush 28, 30, 0, 0, 0, 28, 0) else none
  else bif Nat.beq pc 30 then some (.imul, 31, 0, 0, 0, 0, 0) else none
  else bif Nat.blt pc 33 then bif Nat.beq pc 31 then some (.iload 4, 33, 4, 0, 0, 0, 0) else none
  else bif Nat.beq pc 33 then some (.iadd, 34, 0, 0, 0, 0, 0) else none
  else bif Nat.blt pc 36 then bif Nat.blt pc 35 then bif Nat.beq pc 34 then some (.aload_n 1, 35, 1, 0, 0, 0, 0) else none
  else bif Nat.beq pc 35 then some (.iload_n 3, 36, 3, 0, 0, 0, 0) else none
  else bif Nat.blt pc 38 then bif Nat.beq pc 36 then some (.iload 4, 38, 4, 0, 0, 0, 0) else none
  else bif Nat.blt pc 41 then bif Nat.beq pc 38 then some (.invokevirtual 54, 41, 17, 3, 2, 0, 0) else none
  else bif Nat.beq pc 41 then some (.ifCond .eq 7, 44, 48, 0, 0, 0, 0) else none
  else bif Nat.blt pc 53 then bif Nat.blt pc 48 then bif Nat.blt pc 45 then bif Nat.beq pc 44 then some (.iconst 0, 45, 0, 0, 0, 0, 0) else none
  else bif Nat.beq pc 45 then some (.goto 5, 48, 50, 0, 0, 0, 0) else none
  else bif Nat.blt pc 50 then bif Nat.beq pc 48 then some (.ldc 58, 50, 0, 0, 0, 100000000, 0) else none
  else bif Nat.beq pc 50 then some (.invokestatic 44, 53, 102, 3, 99, 0, 0) else none
  else bif Nat.blt pc 59 then bif Nat.blt pc 56 then bif Nat.beq pc 53 then some (.iinc 4 1, 56, 4, 0, 0, 1, 0) else none
  else bif Nat.beq pc 56 then some (.goto (-39), 59, 17, 0, 0, 0, 0) else none
  else bif Nat.blt pc 62 then bif Nat.beq pc 59 then some (.iinc 3 1, 62, 3, 0, 0, 1, 0) else none
  else bif Nat.blt pc 65 then bif Nat.beq pc 62 then some (.goto (-53), 65, 9, 0, 0, 0, 0) else none
  else bif Nat.beq pc 65 then some (.return_, 66, 0, 0, 0, 0, 0) else none
def rs_X5_markTurns : PMR := (0, 0, hdl [], 5)
def mi_X5_markTurns : PMI := wrapM 66 cd_X5_markTurns rs_X5_markTurns
def cd_X5_findDeadheads (pc : Nat) : Option PE :=
  bif Nat.blt pc 65 then bif Nat.blt pc 30 then bif Nat.blt pc 11 then bif Nat.blt pc 6 then bif Nat.blt pc 2 then bif Nat.blt pc 1 then bif Nat.beq pc 0 then some (.iconst 2, 1, 0, 0, 0, 2, 0) else none
  else bif Nat.beq pc 1 then some (.aload_n 1, 2, 1, 0, 0, 0, 0) else none
  else bif Nat.blt pc 5 then bif Nat.beq pc 2 then some (.getfield 31, 5, 2, 2, 0, 0, 0) else none
  else bif Nat.beq pc 5 then some (.imul, 6, 0, 0, 0, 0, 0) else none
  else bif Nat.blt pc 8 then bif Nat.blt pc 7 then bif Nat.beq pc 6 then some (.istore_n 2, 7, 2, 0, 0, 0, 0) else none
  else bif Nat.beq pc 7 then some (.iconst 0, 8, 0, 0, 0, 0, 0) else none
  else bif Nat.blt pc 9 then bif Nat.beq pc 8 then some (.istore_n 3, 9, 3, 0, 0, 0, 0) else none
  else bif Nat.blt pc 10 then bif Nat.beq pc 9 then some (.iload_n 3, 10, 3, 0, 0, 0, 0) else none
  else bif Nat.beq pc 10 then some (.iload_n 2, 11, 2, 0, 0, 0, 0) else none
  else bif Nat.blt pc 22 then bif Nat.blt pc 15 then bif Nat.blt pc 14 then bif Nat.beq pc 11 then some (.if_icmp .ge 131, 14, 142, 0, 0, 0, 0) else none
  else bif Nat.beq pc 14 then some (.aload_n 1, 15, 1, 0, 0, 0, 0) else none
  else bif Nat.blt pc 18 then bif Nat.beq pc 15 then some (.getfield 59, 18, 2, 5, 2, 0, 0) else none
  else bif Nat.blt pc 19 then bif Nat.beq pc 18 then some (.iload_n 3, 19, 3, 0, 0, 0, 0) else none
  else bif Nat.beq pc 19 then some (.invokestatic 62, 22, 101, 2, 99, 0, 0) else none
  else bif Nat.blt pc 25 then bif Nat.blt pc 24 then bif Nat.beq pc 22 then some (.istore 4, 24, 4, 0, 0, 0, 0) else none
  else bif Nat.beq pc 24 then some (.iconst 0, 25, 0, 0, 0, 0, 0) else none
  else bif Nat.blt pc 27 then bif Nat.beq pc 25 then some (.istore 5, 27, 5, 0, 0, 0, 0) else none
  else bif Nat.blt pc 29 then bif Nat.beq pc 27 then some (.iload 5, 29, 5, 0, 0, 0, 0) else none
  else bif Nat.beq pc 29 then some (.iload_n 2, 30, 2, 0, 0, 0, 0) else none
  else bif Nat.blt pc 47 then bif Nat.blt pc 39 then bif Nat.blt pc 34 then bif Nat.blt pc 33 then bif Nat.beq pc 30 then some (.if_icmp .ge 106, 33, 136, 0, 0, 0, 0) else none
  else bif Nat.beq pc 33 then some (.aload_n 0, 34, 0, 0, 0, 0, 0) else none
  else bif Nat.blt pc 37 then bif Nat.beq pc 34 then some (.getfield 9, 37, 5, 0, 2, 0, 0) else none
  else bif Nat.beq pc 37 then some (.iload 5, 39, 5, 0, 0, 0, 0) else none
  else bif Nat.blt pc 42 then bif Nat.blt pc 41 then bif Nat.beq pc 39 then some (.bipush 28, 41, 0, 0, 0, 28, 0) else none
  else bif Nat.beq pc 41 then some (.imul, 42, 0, 0, 0, 0, 0) else none
  else bif Nat.blt pc 43 then bif Nat.beq pc 42 then some (.iload_n 3, 43, 3, 0, 0, 0, 0) else none
  else bif Nat.blt pc 44 then bif Nat.beq pc 43 then some (.iadd, 44, 0, 0, 0, 0, 0) else none
  else bif Nat.beq pc 44 then some (.invokestatic 62, 47, 101, 2, 99, 0, 0) else none
  else bif Nat.blt pc 55 then bif Nat.blt pc 50 then bif Nat.blt pc 49 then bif Nat.beq pc 47 then some (.iload 4, 49, 4, 0, 0, 0, 0) else none
  else bif Nat.beq pc 49 then some (.iadd, 50, 0, 0, 0, 0, 0) else none
  else bif Nat.blt pc 52 then bif Nat.beq pc 50 then some (.istore 6, 52, 6, 0, 0, 0, 0) else none
  else bif Nat.blt pc 53 then bif Nat.beq pc 52 then some (.iconst 0, 53, 0, 0, 0, 0, 0) else none
  else bif Nat.beq pc 53 then some (.istore 7, 55, 7, 0, 0, 0, 0) else none
  else bif Nat.blt pc 59 then bif Nat.blt pc 57 then bif Nat.beq pc 55 then some (.iload 6, 57, 6, 0, 0, 0, 0) else none
  else bif Nat.beq pc 57 then some (.ldc 58, 59, 0, 0, 0, 100000000, 0) else none
  else bif Nat.blt pc 62 then bif Nat.beq pc 59 then some (.if_icmp .ge 71, 62, 130, 0, 0, 0, 0) else none
  else bif Nat.blt pc 64 then bif Nat.beq pc 62 then some (.iload 7, 64, 7, 0, 0, 0, 0) else none
  else bif Nat.beq pc 64 then some (.iload_n 2, 65, 2, 0, 0, 0, 0) else none
  else bif Nat.blt pc 100 then bif Nat.blt pc 81 then bif Nat.blt pc 74 then bif Nat.blt pc 70 then bif Nat.blt pc 68 then bif Nat.beq pc 65 then some (.if_icmp .ge 65, 68, 130, 0, 0, 0, 0) else none
  else bif Nat.beq pc 68 then some (.iload 6, 70, 6, 0, 0, 0, 0) else none
  else bif Nat.blt pc 71 then bif Nat.beq pc 70 then some (.aload_n 0, 71, 0, 0, 0, 0, 0) else none
  else bif Nat.beq pc 71 then some (.getfield 9, 74, 5, 0, 2, 0, 0) else none
  else bif Nat.blt pc 77 then bif Nat.blt pc 75 then bif Nat.beq pc 74 then some (.iload_n 3, 75, 3, 0, 0, 0, 0) else none
  else bif Nat.beq pc 75 then some (.bipush 28, 77, 0, 0, 0, 28, 0) else none
  else bif Nat.blt pc 78 then bif Nat.beq pc 77 then some (.imul, 78, 0, 0, 0, 0, 0) else none
  else bif Nat.blt pc 80 then bif Nat.beq pc 78 then some (.iload 7, 80, 7, 0, 0, 0, 0) else none
  else bif Nat.beq pc 80 then some (.iadd, 81, 0, 0, 0, 0, 0) else none
  else bif Nat.blt pc 90 then bif Nat.blt pc 85 then bif Nat.blt pc 84 then bif Nat.beq pc 81 then some (.invokestatic 62, 84, 101, 2, 99, 0, 0) else none
  else bif Nat.beq pc 84 then some (.iadd, 85, 0, 0, 0, 0, 0) else none
  else bif Nat.blt pc 87 then bif Nat.beq pc 85 then some (.istore 8, 87, 8, 0, 0, 0, 0) else none
  else bif Nat.blt pc 89 then bif Nat.beq pc 87 then some (.iload 8, 89, 8, 0, 0, 0, 0) else none
  else bif Nat.beq pc 89 then some (.aload_n 0, 90, 0, 0, 0, 0, 0) else none
  else bif Nat.blt pc 95 then bif Nat.blt pc 93 then bif Nat.beq pc 90 then some (.getfield 9, 93, 5, 0, 2, 0, 0) else none
  else bif Nat.beq pc 93 then some (.iload 5, 95, 5, 0, 0, 0, 0) else none
  else bif Nat.blt pc 97 then bif Nat.beq pc 95 then some (.bipush 28, 97, 0, 0, 0, 28, 0) else none
  else bif Nat.blt pc 98 then bif Nat.beq pc 97 then some (.imul, 98, 0, 0, 0, 0, 0) else none
  else bif Nat.beq pc 98 then some (.iload 7, 100, 7, 0, 0, 0, 0) else none
  else bif Nat.blt pc 118 then bif Nat.blt pc 108 then bif Nat.blt pc 104 then bif Nat.blt pc 101 then bif Nat.beq pc 100 then some (.iadd, 101, 0, 0, 0, 0, 0) else none
  else bif Nat.beq pc 101 then some (.invokestatic 62, 104, 101, 2, 99, 0, 0) else none
  else bif Nat.blt pc 107 then bif Nat.beq pc 104 then some (.if_icmp .ge 20, 107, 124, 0, 0, 0, 0) else none
  else bif Nat.beq pc 107 then some (.aload_n 0, 108, 0, 0, 0, 0, 0) else none
  else bif Nat.blt pc 113 then bif Nat.blt pc 111 then bif Nat.beq pc 108 then some (.getfield 9, 111, 5, 0, 2, 0, 0) else none
  else bif Nat.beq pc 111 then some (.iload 5, 113, 5, 0, 0, 0, 0) else none
  else bif Nat.blt pc 115 then bif Nat.beq pc 113 then some (.bipush 28, 115, 0, 0, 0, 28, 0) else none
  else bif Nat.blt pc 116 then bif Nat.beq pc 115 then some (.imul, 116, 0, 0, 0, 0, 0) else none
  else bif Nat.beq pc 116 then some (.iload 7, 118, 7, 0, 0, 0, 0) else none
  else bif Nat.blt pc 130 then bif Nat.blt pc 121 then bif Nat.blt pc 119 then bif Nat.beq pc 118 then some (.iadd, 119, 0, 0, 0, 0, 0) else none
  else bif Nat.beq pc 119 then some (.iload 8, 121, 8, 0, 0, 0, 0) else none
  else bif Nat.blt pc 124 then bif Nat.beq pc 121 then some (.invokestatic 44, 124, 102, 3, 99, 0, 0) else none
  else bif Nat.blt pc 127 then bif Nat.beq pc 124 then some (.iinc 7 1, 127, 7, 0, 0, 1, 0) else none
  else bif Nat.beq pc 127 then some (.goto (-72), 130, 55, 0, 0, 0, 0) else none
  else bif Nat.blt pc 136 then bif Nat.blt pc 133 then bif Nat.beq pc 130 then some (.iinc 5 1, 133, 5, 0, 0, 1, 0) else none
  else bif Nat.beq pc 133 then some (.goto (-106), 136, 27, 0, 0, 0, 0) else none
  else bif Nat.blt pc 139 then bif Nat.beq pc 136 then some (.iinc 3 1, 139, 3, 0, 0, 1, 0) else none
  else bif Nat.blt pc 142 then bif Nat.beq pc 139 then some (.goto (-130), 142, 9, 0, 0, 0, 0) else none
  else bif Nat.beq pc 142 then some (.return_, 143, 0, 0, 0, 0, 0) else none
def rs_X5_findDeadheads : PMR := (0, 0, hdl [], 9)
def mi_X5_findDeadheads : PMI := wrapM 143 cd_X5_findDeadheads rs_X5_findDeadheads
def cd_X5_approach (pc : Nat) : Option PE :=
  bif Nat.blt pc 36 then bif Nat.blt pc 16 then bif Nat.blt pc 9 then bif Nat.blt pc 2 then bif Nat.blt pc 1 then bif Nat.beq pc 0 then some (.aload_n 1, 1, 1, 0, 0, 0, 0) else none
  else bif Nat.beq pc 1 then some (.iload_n 3, 2, 3, 0, 0, 0, 0) else none
  else bif Nat.blt pc 5 then bif Nat.beq pc 2 then some (.invokevirtual 66, 5, 14, 2, 2, 0, 0) else none
  else bif Nat.blt pc 6 then bif Nat.beq pc 5 then some (.iload_n 2, 6, 2, 0, 0, 0, 0) else none
  else bif Nat.beq pc 6 then some (.if_icmp .ne 5, 9, 11, 0, 0, 0, 0) else none
  else bif Nat.blt pc 11 then bif Nat.blt pc 10 then bif Nat.beq pc 9 then some (.iconst 0, 10, 0, 0, 0, 0, 0) else none
  else bif Nat.beq pc 10 then some (.ireturn, 11, 0, 0, 0, 0, 0) else none
  else bif Nat.blt pc 13 then bif Nat.beq pc 11 then some (.ldc 58, 13, 0, 0, 0, 100000000, 0) else none
  else bif Nat.blt pc 15 then bif Nat.beq pc 13 then some (.istore 4, 15, 4, 0, 0, 0, 0) else none
  else bif Nat.beq pc 15 then some (.iconst 0, 16, 0, 0, 0, 0, 0) else none
  else bif Nat.blt pc 25 then bif Nat.blt pc 20 then bif Nat.blt pc 18 then bif Nat.beq pc 16 then some (.istore 5, 18, 5, 0, 0, 0, 0) else none
  else bif Nat.beq pc 18 then some (.iload 5, 20, 5, 0, 0, 0, 0) else none
  else bif Nat.blt pc 21 then bif Nat.beq pc 20 then some (.iconst 2, 21, 0, 0, 0, 2, 0) else none
  else bif Nat.blt pc 22 then bif Nat.beq pc 21 then some (.aload_n 1, 22, 1, 0, 0, 0, 0) else none
  else bif Nat.beq pc 22 then some (.getfield 31, 25, 2, 2, 0, 0, 0) else none
  else bif Nat.blt pc 30 then bif Nat.blt pc 26 then bif Nat.beq pc 25 then some (.imul, 26, 0, 0, 0, 0, 0) else none
  else bif Nat.blt pc 29 then bif Nat.beq pc 26 then some (.if_icmp .ge 50, 29, 76, 0, 0, 0, 0) else none
  else bif Nat.beq pc 29 then some (.aload_n 1, 30, 1, 0, 0, 0, 0) else none
  else bif Nat.blt pc 32 then bif Nat.beq pc 30 then some (.iload 5, 32, 5, 0, 0, 0, 0) else none
  else bif Nat.blt pc 35 then bif Nat.beq pc 32 then some (.invokevirtual 66, 35, 14, 2, 2, 0, 0) else none
  else bif Nat.beq pc 35 then some (.iload_n 2, 36, 2, 0, 0, 0, 0) else none
  else bif Nat.blt pc 58 then bif Nat.blt pc 47 then bif Nat.blt pc 41 then bif Nat.blt pc 39 then bif Nat.beq pc 36 then some (.if_icmp .ne 34, 39, 70, 0, 0, 0, 0) else none
  else bif Nat.beq pc 39 then some (.iload 4, 41, 4, 0, 0, 0, 0) else none
  else bif Nat.blt pc 42 then bif Nat.beq pc 41 then some (.aload_n 1, 42, 1, 0, 0, 0, 0) else none
  else bif Nat.blt pc 45 then bif Nat.beq pc 42 then some (.getfield 59, 45, 2, 5, 2, 0, 0) else none
  else bif Nat.beq pc 45 then some (.iload 5, 47, 5, 0, 0, 0, 0) else none
  else bif Nat.blt pc 51 then bif Nat.blt pc 50 then bif Nat.beq pc 47 then some (.invokestatic 62, 50, 101, 2, 99, 0, 0) else none
  else bif Nat.beq pc 50 then some (.aload_n 0, 51, 0, 0, 0, 0, 0) else none
  else bif Nat.blt pc 54 then bif Nat.beq pc 51 then some (.getfield 9, 54, 5, 0, 2, 0, 0) else none
  else bif Nat.blt pc 56 then bif Nat.beq pc 54 then some (.iload 5, 56, 5, 0, 0, 0, 0) else none
  else bif Nat.beq pc 56 then some (.bipush 28, 58, 0, 0, 0, 28, 0) else none
  else bif Nat.blt pc 65 then bif Nat.blt pc 60 then bif Nat.blt pc 59 then bif Nat.beq pc 58 then some (.imul, 59, 0, 0, 0, 0, 0) else none
  else bif Nat.beq pc 59 then some (.iload_n 3, 60, 3, 0, 0, 0, 0) else none
  else bif Nat.blt pc 61 then bif Nat.beq pc 60 then some (.iadd, 61, 0, 0, 0, 0, 0) else none
  else bif Nat.blt pc 64 then bif Nat.beq pc 61 then some (.invokestatic 62, 64, 101, 2, 99, 0, 0) else none
  else bif Nat.beq pc 64 then some (.iadd, 65, 0, 0, 0, 0, 0) else none
  else bif Nat.blt pc 73 then bif Nat.blt pc 68 then bif Nat.beq pc 65 then some (.invokestatic 70, 68, 0, 0, 100, 0, 0) else none
  else bif Nat.blt pc 70 then bif Nat.beq pc 68 then some (.istore 4, 70, 4, 0, 0, 0, 0) else none
  else bif Nat.beq pc 70 then some (.iinc 5 1, 73, 5, 0, 0, 1, 0) else none
  else bif Nat.blt pc 76 then bif Nat.beq pc 73 then some (.goto (-55), 76, 18, 0, 0, 0, 0) else none
  else bif Nat.blt pc 78 then bif Nat.beq pc 76 then some (.iload 4, 78, 4, 0, 0, 0, 0) else none
  else bif Nat.beq pc 78 then some (.ireturn, 79, 0, 0, 0, 0, 0) else none
def rs_X5_approach : PMR := (1, 0, hdl [], 6)
def mi_X5_approach : PMI := wrapM 79 cd_X5_approach rs_X5_approach
def cd_X5_returnTo (pc : Nat) : Option PE :=
  bif Nat.blt pc 36 then bif Nat.blt pc 16 then bif Nat.blt pc 9 then bif Nat.blt pc 2 then bif Nat.blt pc 1 then bif Nat.beq pc 0 then some (.aload_n 1, 1, 1, 0, 0, 0, 0) else none
  else bif Nat.beq pc 1 then some (.iload_n 2, 2, 2, 0, 0, 0, 0) else none
  else bif Nat.blt pc 5 then bif Nat.beq pc 2 then some (.invokevirtual 76, 5, 15, 2, 2, 0, 0) else none
  else bif Nat.blt pc 6 then bif Nat.beq pc 5 then some (.iload_n 3, 6, 3, 0, 0, 0, 0) else none
  else bif Nat.beq pc 6 then some (.if_icmp .ne 5, 9, 11, 0, 0, 0, 0) else none
  else bif Nat.blt pc 11 then bif Nat.blt pc 10 then bif Nat.beq pc 9 then some (.iconst 0, 10, 0, 0, 0, 0, 0) else none
  else bif Nat.beq pc 10 then some (.ireturn, 11, 0, 0, 0, 0, 0) else none
  else bif Nat.blt pc 13 then bif Nat.beq pc 11 then some (.ldc 58, 13, 0, 0, 0, 100000000, 0) else none
  else bif Nat.blt pc 15 then bif Nat.beq pc 13 then some (.istore 4, 15, 4, 0, 0, 0, 0) else none
  else bif Nat.beq pc 15 then some (.iconst 0, 16, 0, 0, 0, 0, 0) else none
  else bif Nat.blt pc 25 then bif Nat.blt pc 20 then bif Nat.blt pc 18 then bif Nat.beq pc 16 then some (.istore 5, 18, 5, 0, 0, 0, 0) else none
  else bif Nat.beq pc 18 then some (.iload 5, 20, 5, 0, 0, 0, 0) else none
  else bif Nat.blt pc 21 then bif Nat.beq pc 20 then some (.iconst 2, 21, 0, 0, 0, 2, 0) else none
  else bif Nat.blt pc 22 then bif Nat.beq pc 21 then some (.aload_n 1, 22, 1, 0, 0, 0, 0) else none
  else bif Nat.beq pc 22 then some (.getfield 31, 25, 2, 2, 0, 0, 0) else none
  else bif Nat.blt pc 30 then bif Nat.blt pc 26 then bif Nat.beq pc 25 then some (.imul, 26, 0, 0, 0, 0, 0) else none
  else bif Nat.blt pc 29 then bif Nat.beq pc 26 then some (.if_icmp .ge 50, 29, 76, 0, 0, 0, 0) else none
  else bif Nat.beq pc 29 then some (.aload_n 1, 30, 1, 0, 0, 0, 0) else none
  else bif Nat.blt pc 32 then bif Nat.beq pc 30 then some (.iload 5, 32, 5, 0, 0, 0, 0) else none
  else bif Nat.blt pc 35 then bif Nat.beq pc 32 then some (.invokevirtual 76, 35, 15, 2, 2, 0, 0) else none
  else bif Nat.beq pc 35 then some (.iload_n 3, 36, 3, 0, 0, 0, 0) else none
  else bif Nat.blt pc 55 then bif Nat.blt pc 46 then bif Nat.blt pc 41 then bif Nat.blt pc 39 then bif Nat.beq pc 36 then some (.if_icmp .ne 34, 39, 70, 0, 0, 0, 0) else none
  else bif Nat.beq pc 39 then some (.iload 4, 41, 4, 0, 0, 0, 0) else none
  else bif Nat.blt pc 42 then bif Nat.beq pc 41 then some (.aload_n 0, 42, 0, 0, 0, 0, 0) else none
  else bif Nat.blt pc 45 then bif Nat.beq pc 42 then some (.getfield 9, 45, 5, 0, 2, 0, 0) else none
  else bif Nat.beq pc 45 then some (.iload_n 2, 46, 2, 0, 0, 0, 0) else none
  else bif Nat.blt pc 49 then bif Nat.blt pc 48 then bif Nat.beq pc 46 then some (.bipush 28, 48, 0, 0, 0, 28, 0) else none
  else bif Nat.beq pc 48 then some (.imul, 49, 0, 0, 0, 0, 0) else none
  else bif Nat.blt pc 51 then bif Nat.beq pc 49 then some (.iload 5, 51, 5, 0, 0, 0, 0) else none
  else bif Nat.blt pc 52 then bif Nat.beq pc 51 then some (.iadd, 52, 0, 0, 0, 0, 0) else none
  else bif Nat.beq pc 52 then some (.invokestatic 62, 55, 101, 2, 99, 0, 0) else none
  else bif Nat.blt pc 65 then bif Nat.blt pc 59 then bif Nat.blt pc 56 then bif Nat.beq pc 55 then some (.aload_n 1, 56, 1, 0, 0, 0, 0) else none
  else bif Nat.beq pc 56 then some (.getfield 59, 59, 2, 5, 2, 0, 0) else none
  else bif Nat.blt pc 61 then bif Nat.beq pc 59 then some (.iload 5, 61, 5, 0, 0, 0, 0) else none
  else bif Nat.blt pc 64 then bif Nat.beq pc 61 then some (.invokestatic 62, 64, 101, 2, 99, 0, 0) else none
  else bif Nat.beq pc 64 then some (.iadd, 65, 0, 0, 0, 0, 0) else none
  else bif Nat.blt pc 73 then bif Nat.blt pc 68 then bif Nat.beq pc 65 then some (.invokestatic 70, 68, 0, 0, 100, 0, 0) else none
  else bif Nat.blt pc 70 then bif Nat.beq pc 68 then some (.istore 4, 70, 4, 0, 0, 0, 0) else none
  else bif Nat.beq pc 70 then some (.iinc 5 1, 73, 5, 0, 0, 1, 0) else none
  else bif Nat.blt pc 76 then bif Nat.beq pc 73 then some (.goto (-55), 76, 18, 0, 0, 0, 0) else none
  else bif Nat.blt pc 78 then bif Nat.beq pc 76 then some (.iload 4, 78, 4, 0, 0, 0, 0) else none
  else bif Nat.beq pc 78 then some (.ireturn, 79, 0, 0, 0, 0, 0) else none
def rs_X5_returnTo : PMR := (1, 0, hdl [], 6)
def mi_X5_returnTo : PMI := wrapM 79 cd_X5_returnTo rs_X5_returnTo
def cd_X5_between (pc : Nat) : Option PE :=
  bif Nat.blt pc 35 then bif Nat.blt pc 16 then bif Nat.blt pc 7 then bif Nat.blt pc 2 then bif Nat.blt pc 1 then bif Nat.beq pc 0 then some (.iload_n 2, 1, 2, 0, 0, 0, 0) else none
  else bif Nat.beq pc 1 then some (.iload_n 3, 2, 3, 0, 0, 0, 0) else none
  else bif Nat.blt pc 5 then bif Nat.beq pc 2 then some (.if_icmp .ne 5, 5, 7, 0, 0, 0, 0) else none
  else bif Nat.blt pc 6 then bif Nat.beq pc 5 then some (.iconst 0, 6, 0, 0, 0, 0, 0) else none
  else bif Nat.beq pc 6 then some (.ireturn, 7, 0, 0, 0, 0, 0) else none
  else bif Nat.blt pc 11 then bif Nat.blt pc 9 then bif Nat.beq pc 7 then some (.ldc 58, 9, 0, 0, 0, 100000000, 0) else none
  else bif Nat.beq pc 9 then some (.istore 4, 11, 4, 0, 0, 0, 0) else none
  else bif Nat.blt pc 12 then bif Nat.beq pc 11 then some (.iconst 0, 12, 0, 0, 0, 0, 0) else none
  else bif Nat.blt pc 14 then bif Nat.beq pc 12 then some (.istore 5, 14, 5, 0, 0, 0, 0) else none
  else bif Nat.beq pc 14 then some (.iload 5, 16, 5, 0, 0, 0, 0) else none
  else bif Nat.blt pc 25 then bif Nat.blt pc 18 then bif Nat.blt pc 17 then bif Nat.beq pc 16 then some (.iconst 2, 17, 0, 0, 0, 2, 0) else none
  else bif Nat.beq pc 17 then some (.aload_n 1, 18, 1, 0, 0, 0, 0) else none
  else bif Nat.blt pc 21 then bif Nat.beq pc 18 then some (.getfield 31, 21, 2, 2, 0, 0, 0) else none
  else bif Nat.blt pc 22 then bif Nat.beq pc 21 then some (.imul, 22, 0, 0, 0, 0, 0) else none
  else bif Nat.beq pc 22 then some (.if_icmp .ge 50, 25, 72, 0, 0, 0, 0) else none
  else bif Nat.blt pc 28 then bif Nat.blt pc 26 then bif Nat.beq pc 25 then some (.aload_n 1, 26, 1, 0, 0, 0, 0) else none
  else bif Nat.beq pc 26 then some (.iload 5, 28, 5, 0, 0, 0, 0) else none
  else bif Nat.blt pc 31 then bif Nat.beq pc 28 then some (.invokevirtual 66, 31, 14, 2, 2, 0, 0) else none
  else bif Nat.blt pc 32 then bif Nat.beq pc 31 then some (.iload_n 2, 32, 2, 0, 0, 0, 0) else none
  else bif Nat.beq pc 32 then some (.if_icmp .ne 34, 35, 66, 0, 0, 0, 0) else none
  else bif Nat.blt pc 55 then bif Nat.blt pc 46 then bif Nat.blt pc 38 then bif Nat.blt pc 37 then bif Nat.beq pc 35 then some (.iload 4, 37, 4, 0, 0, 0, 0) else none
  else bif Nat.beq pc 37 then some (.aload_n 1, 38, 1, 0, 0, 0, 0) else none
  else bif Nat.blt pc 41 then bif Nat.beq pc 38 then some (.getfield 59, 41, 2, 5, 2, 0, 0) else none
  else bif Nat.blt pc 43 then bif Nat.beq pc 41 then some (.iload 5, 43, 5, 0, 0, 0, 0) else none
  else bif Nat.beq pc 43 then some (.invokestatic 62, 46, 101, 2, 99, 0, 0) else none
  else bif Nat.blt pc 50 then bif Nat.blt pc 47 then bif Nat.beq pc 46 then some (.aload_n 0, 47, 0, 0, 0, 0, 0) else none
  else bif Nat.beq pc 47 then some (.getfield 18, 50, 5, 2, 2, 0, 0) else none
  else bif Nat.blt pc 52 then bif Nat.beq pc 50 then some (.iload 5, 52, 5, 0, 0, 0, 0) else none
  else bif Nat.blt pc 54 then bif Nat.beq pc 52 then some (.bipush 8, 54, 0, 0, 0, 8, 0) else none
  else bif Nat.beq pc 54 then some (.imul, 55, 0, 0, 0, 0, 0) else none
  else bif Nat.blt pc 64 then bif Nat.blt pc 57 then bif Nat.blt pc 56 then bif Nat.beq pc 55 then some (.iload_n 3, 56, 3, 0, 0, 0, 0) else none
  else bif Nat.beq pc 56 then some (.iadd, 57, 0, 0, 0, 0, 0) else none
  else bif Nat.blt pc 60 then bif Nat.beq pc 57 then some (.invokestatic 62, 60, 101, 2, 99, 0, 0) else none
  else bif Nat.blt pc 61 then bif Nat.beq pc 60 then some (.iadd, 61, 0, 0, 0, 0, 0) else none
  else bif Nat.beq pc 61 then some (.invokestatic 70, 64, 0, 0, 100, 0, 0) else none
  else bif Nat.blt pc 69 then bif Nat.blt pc 66 then bif Nat.beq pc 64 then some (.istore 4, 66, 4, 0, 0, 0, 0) else none
  else bif Nat.beq pc 66 then some (.iinc 5 1, 69, 5, 0, 0, 1, 0) else none
  else bif Nat.blt pc 72 then bif Nat.beq pc 69 then some (.goto (-55), 72, 14, 0, 0, 0, 0) else none
  else bif Nat.blt pc 74 then bif Nat.beq pc 72 then some (.iload 4, 74, 4, 0, 0, 0, 0) else none
  else bif Nat.beq pc 74 then some (.ireturn, 75, 0, 0, 0, 0, 0) else none
def rs_X5_between : PMR := (1, 0, hdl [], 6)
def mi_X5_between : PMI := wrapM 75 cd_X5_between rs_X5_between
def cd_X5_cheapestPairs (pc : Nat) : Option PE :=
  bif Nat.blt pc 55 then bif Nat.blt pc 25 then bif Nat.blt pc 13 then bif Nat.blt pc 6 then bif Nat.blt pc 4 then bif Nat.blt pc 1 then bif Nat.beq pc 0 then some (.iload_n 1, 1, 1, 0, 0, 0, 0) else none
  else bif Nat.beq pc 1 then some (.ifCond .ne 5, 4, 6, 0, 0, 0, 0) else none
  else bif Nat.blt pc 5 then bif Nat.beq pc 4 then some (.iconst 0, 5, 0, 0, 0, 0, 0) else none
  else bif Nat.beq pc 5 then some (.ireturn, 6, 0, 0, 0, 0, 0) else none
  else bif Nat.blt pc 10 then bif Nat.blt pc 7 then bif Nat.beq pc 6 then some (.iload_n 1, 7, 1, 0, 0, 0, 0) else none
  else bif Nat.beq pc 7 then some (.invokestatic 79, 10, 48, 1, 99, 0, 0) else none
  else bif Nat.blt pc 11 then bif Nat.beq pc 10 then some (.istore_n 3, 11, 3, 0, 0, 0, 0) else none
  else bif Nat.blt pc 12 then bif Nat.beq pc 11 then some (.iload_n 1, 12, 1, 0, 0, 0, 0) else none
  else bif Nat.beq pc 12 then some (.iconst 1, 13, 0, 0, 0, 1, 0) else none
  else bif Nat.blt pc 17 then bif Nat.blt pc 15 then bif Nat.blt pc 14 then bif Nat.beq pc 13 then some (.iload_n 3, 14, 3, 0, 0, 0, 0) else none
  else bif Nat.beq pc 14 then some (.ishl, 15, 0, 0, 0, 0, 0) else none
  else bif Nat.blt pc 16 then bif Nat.beq pc 15 then some (.iconst (-1), 16, 0, 0, 0, (-1), 0) else none
  else bif Nat.beq pc 16 then some (.ixor, 17, 0, 0, 0, 0, 0) else none
  else bif Nat.blt pc 20 then bif Nat.blt pc 18 then bif Nat.beq pc 17 then some (.iand, 18, 0, 0, 0, 0, 0) else none
  else bif Nat.beq pc 18 then some (.istore 4, 20, 4, 0, 0, 0, 0) else none
  else bif Nat.blt pc 22 then bif Nat.beq pc 20 then some (.ldc 58, 22, 0, 0, 0, 100000000, 0) else none
  else bif Nat.blt pc 24 then bif Nat.beq pc 22 then some (.istore 5, 24, 5, 0, 0, 0, 0) else none
  else bif Nat.beq pc 24 then some (.iload_n 3, 25, 3, 0, 0, 0, 0) else none
  else bif Nat.blt pc 41 then bif Nat.blt pc 31 then bif Nat.blt pc 27 then bif Nat.blt pc 26 then bif Nat.beq pc 25 then some (.iconst 1, 26, 0, 0, 0, 1, 0) else none
  else bif Nat.beq pc 26 then some (.iadd, 27, 0, 0, 0, 0, 0) else none
  else bif Nat.blt pc 29 then bif Nat.beq pc 27 then some (.istore 6, 29, 6, 0, 0, 0, 0) else none
  else bif Nat.beq pc 29 then some (.iload 6, 31, 6, 0, 0, 0, 0) else none
  else bif Nat.blt pc 36 then bif Nat.blt pc 33 then bif Nat.beq pc 31 then some (.bipush 8, 33, 0, 0, 0, 8, 0) else none
  else bif Nat.beq pc 33 then some (.if_icmp .ge 81, 36, 114, 0, 0, 0, 0) else none
  else bif Nat.blt pc 37 then bif Nat.beq pc 36 then some (.iload_n 2, 37, 2, 0, 0, 0, 0) else none
  else bif Nat.blt pc 38 then bif Nat.beq pc 37 then some (.iconst 4, 38, 0, 0, 0, 4, 0) else none
  else bif Nat.beq pc 38 then some (.if_icmp .ge 76, 41, 114, 0, 0, 0, 0) else none
  else bif Nat.blt pc 47 then bif Nat.blt pc 45 then bif Nat.blt pc 43 then bif Nat.beq pc 41 then some (.iload 4, 43, 4, 0, 0, 0, 0) else none
  else bif Nat.beq pc 43 then some (.iload 6, 45, 6, 0, 0, 0, 0) else none
  else bif Nat.blt pc 46 then bif Nat.beq pc 45 then some (.ishr, 46, 0, 0, 0, 0, 0) else none
  else bif Nat.beq pc 46 then some (.iconst 1, 47, 0, 0, 0, 1, 0) else none
  else bif Nat.blt pc 51 then bif Nat.blt pc 48 then bif Nat.beq pc 47 then some (.iand, 48, 0, 0, 0, 0, 0) else none
  else bif Nat.beq pc 48 then some (.ifCond .eq 60, 51, 108, 0, 0, 0, 0) else none
  else bif Nat.blt pc 52 then bif Nat.beq pc 51 then some (.aload_n 0, 52, 0, 0, 0, 0, 0) else none
  else bif Nat.blt pc 53 then bif Nat.beq pc 52 then some (.iload_n 3, 53, 3, 0, 0, 0, 0) else none
  else bif Nat.beq pc 53 then some (.bipush 8, 55, 0, 0, 0, 8, 0) else none
  else bif Nat.blt pc 85 then bif Nat.blt pc 69 then bif Nat.blt pc 62 then bif Nat.blt pc 58 then bif Nat.blt pc 56 then bif Nat.beq pc 55 then some (.imul, 56, 0, 0, 0, 0, 0) else none
  else bif Nat.beq pc 56 then some (.iload 6, 58, 6, 0, 0, 0, 0) else none
  else bif Nat.blt pc 59 then bif Nat.beq pc 58 then some (.iadd, 59, 0, 0, 0, 0, 0) else none
  else bif Nat.beq pc 59 then some (.invokestatic 62, 62, 101, 2, 99, 0, 0) else none
  else bif Nat.blt pc 65 then bif Nat.blt pc 63 then bif Nat.beq pc 62 then some (.aload_n 0, 63, 0, 0, 0, 0, 0) else none
  else bif Nat.beq pc 63 then some (.iload 6, 65, 6, 0, 0, 0, 0) else none
  else bif Nat.blt pc 67 then bif Nat.beq pc 65 then some (.bipush 8, 67, 0, 0, 0, 8, 0) else none
  else bif Nat.blt pc 68 then bif Nat.beq pc 67 then some (.imul, 68, 0, 0, 0, 0, 0) else none
  else bif Nat.beq pc 68 then some (.iload_n 3, 69, 3, 0, 0, 0, 0) else none
  else bif Nat.blt pc 78 then bif Nat.blt pc 73 then bif Nat.blt pc 70 then bif Nat.beq pc 69 then some (.iadd, 70, 0, 0, 0, 0, 0) else none
  else bif Nat.beq pc 70 then some (.invokestatic 62, 73, 101, 2, 99, 0, 0) else none
  else bif Nat.blt pc 76 then bif Nat.beq pc 73 then some (.invokestatic 70, 76, 0, 0, 100, 0, 0) else none
  else bif Nat.beq pc 76 then some (.istore 7, 78, 7, 0, 0, 0, 0) else none
  else bif Nat.blt pc 81 then bif Nat.blt pc 79 then bif Nat.beq pc 78 then some (.aload_n 0, 79, 0, 0, 0, 0, 0) else none
  else bif Nat.beq pc 79 then some (.iload 4, 81, 4, 0, 0, 0, 0) else none
  else bif Nat.blt pc 82 then bif Nat.beq pc 81 then some (.iconst 1, 82, 0, 0, 0, 1, 0) else none
  else bif Nat.blt pc 84 then bif Nat.beq pc 82 then some (.iload 6, 84, 6, 0, 0, 0, 0) else none
  else bif Nat.beq pc 84 then some (.ishl, 85, 0, 0, 0, 0, 0) else none
  else bif Nat.blt pc 98 then bif Nat.blt pc 89 then bif Nat.blt pc 87 then bif Nat.blt pc 86 then bif Nat.beq pc 85 then some (.iconst (-1), 86, 0, 0, 0, (-1), 0) else none
  else bif Nat.beq pc 86 then some (.ixor, 87, 0, 0, 0, 0, 0) else none
  else bif Nat.blt pc 88 then bif Nat.beq pc 87 then some (.iand, 88, 0, 0, 0, 0, 0) else none
  else bif Nat.beq pc 88 then some (.iload_n 2, 89, 2, 0, 0, 0, 0) else none
  else bif Nat.blt pc 91 then bif Nat.blt pc 90 then bif Nat.beq pc 89 then some (.iconst 1, 90, 0, 0, 0, 1, 0) else none
  else bif Nat.beq pc 90 then some (.iadd, 91, 0, 0, 0, 0, 0) else none
  else bif Nat.blt pc 94 then bif Nat.beq pc 91 then some (.invokestatic 82, 94, 47, 3, 99, 0, 0) else none
  else bif Nat.blt pc 96 then bif Nat.beq pc 94 then some (.istore 8, 96, 8, 0, 0, 0, 0) else none
  else bif Nat.beq pc 96 then some (.iload 5, 98, 5, 0, 0, 0, 0) else none
  else bif Nat.blt pc 106 then bif Nat.blt pc 102 then bif Nat.blt pc 100 then bif Nat.beq pc 98 then some (.iload 7, 100, 7, 0, 0, 0, 0) else none
  else bif Nat.beq pc 100 then some (.iload 8, 102, 8, 0, 0, 0, 0) else none
  else bif Nat.blt pc 103 then bif Nat.beq pc 102 then some (.iadd, 103, 0, 0, 0, 0, 0) else none
  else bif Nat.beq pc 103 then some (.invokestatic 70, 106, 0, 0, 100, 0, 0) else none
  else bif Nat.blt pc 111 then bif Nat.blt pc 108 then bif Nat.beq pc 106 then some (.istore 5, 108, 5, 0, 0, 0, 0) else none
  else bif Nat.beq pc 108 then some (.iinc 6 1, 111, 6, 0, 0, 1, 0) else none
  else bif Nat.blt pc 114 then bif Nat.beq pc 111 then some (.goto (-82), 114, 29, 0, 0, 0, 0) else none
  else bif Nat.blt pc 116 then bif Nat.beq pc 114 then some (.iload 5, 116, 5, 0, 0, 0, 0) else none
  else bif Nat.beq pc 116 then some (.ireturn, 117, 0, 0, 0, 0, 0) else none
def rs_X5_cheapestPairs : PMR := (1, 0, hdl [], 9)
def mi_X5_cheapestPairs : PMI := wrapM 117 cd_X5_cheapestPairs rs_X5_cheapestPairs
def cd_X5_lowestIn (pc : Nat) : Option PE :=
  bif Nat.blt pc 11 then bif Nat.blt pc 5 then bif Nat.blt pc 2 then bif Nat.blt pc 1 then bif Nat.beq pc 0 then some (.iconst 0, 1, 0, 0, 0, 0, 0) else none
  else bif Nat.beq pc 1 then some (.istore_n 1, 2, 1, 0, 0, 0, 0) else none
  else bif Nat.blt pc 3 then bif Nat.beq pc 2 then some (.iload_n 1, 3, 1, 0, 0, 0, 0) else none
  else bif Nat.beq pc 3 then some (.bipush 8, 5, 0, 0, 0, 8, 0) else none
  else bif Nat.blt pc 9 then bif Nat.blt pc 8 then bif Nat.beq pc 5 then some (.if_icmp .ge 19, 8, 24, 0, 0, 0, 0) else none
  else bif Nat.beq pc 8 then some (.iload_n 0, 9, 0, 0, 0, 0, 0) else none
  else bif Nat.blt pc 10 then bif Nat.beq pc 9 then some (.iload_n 1, 10, 1, 0, 0, 0, 0) else none
  else bif Nat.beq pc 10 then some (.ishr, 11, 0, 0, 0, 0, 0) else none
  else bif Nat.blt pc 17 then bif Nat.blt pc 13 then bif Nat.blt pc 12 then bif Nat.beq pc 11 then some (.iconst 1, 12, 0, 0, 0, 1, 0) else none
  else bif Nat.beq pc 12 then some (.iand, 13, 0, 0, 0, 0, 0) else none
  else bif Nat.blt pc 16 then bif Nat.beq pc 13 then some (.ifCond .eq 5, 16, 18, 0, 0, 0, 0) else none
  else bif Nat.beq pc 16 then some (.iload_n 1, 17, 1, 0, 0, 0, 0) else none
  else bif Nat.blt pc 21 then bif Nat.blt pc 18 then bif Nat.beq pc 17 then some (.ireturn, 18, 0, 0, 0, 0, 0) else none
  else bif Nat.beq pc 18 then some (.iinc 1 1, 21, 1, 0, 0, 1, 0) else none
  else bif Nat.blt pc 24 then bif Nat.beq pc 21 then some (.goto (-19), 24, 2, 0, 0, 0, 0) else none
  else bif Nat.blt pc 25 then bif Nat.beq pc 24 then some (.iconst 0, 25, 0, 0, 0, 0, 0) else none
  else bif Nat.beq pc 25 then some (.ireturn, 26, 0, 0, 0, 0, 0) else none
def rs_X5_lowestIn : PMR := (1, 0, hdl [], 2)
def mi_X5_lowestIn : PMI := wrapM 26 cd_X5_lowestIn rs_X5_lowestIn
def cd_X6_addWord (pc : Nat) : Option PE :=
  bif Nat.blt pc 30 then bif Nat.blt pc 14 then bif Nat.blt pc 4 then bif Nat.blt pc 2 then bif Nat.beq pc 0 then some (.bipush 24, 2, 0, 0, 0, 24, 0) else none
  else bif Nat.blt pc 3 then bif Nat.beq pc 2 then some (.istore_n 2, 3, 2, 0, 0, 0, 0) else none
  else bif Nat.beq pc 3 then some (.iload_n 2, 4, 2, 0, 0, 0, 0) else none
  else bif Nat.blt pc 8 then bif Nat.blt pc 7 then bif Nat.beq pc 4 then some (.ifCond .lt 51, 7, 55, 0, 0, 0, 0) else none
  else bif Nat.beq pc 7 then some (.aload_n 0, 8, 0, 0, 0, 0, 0) else none
  else bif Nat.blt pc 11 then bif Nat.beq pc 8 then some (.getfield 29, 11, 6, 3, 0, 0, 0) else none
  else bif Nat.beq pc 11 then some (.ifCond .lt 38, 14, 49, 0, 0, 0, 0) else none
  else bif Nat.blt pc 22 then bif Nat.blt pc 18 then bif Nat.blt pc 15 then bif Nat.beq pc 14 then some (.aload_n 0, 15, 0, 0, 0, 0, 0) else none
  else bif Nat.beq pc 15 then some (.getfield 29, 18, 6, 3, 0, 0, 0) else none
  else bif Nat.blt pc 19 then bif Nat.beq pc 18 then some (.aload_n 0, 19, 0, 0, 0, 0, 0) else none
  else bif Nat.beq pc 19 then some (.getfield 9, 22, 6, 0, 2, 0, 0) else none
  else bif Nat.blt pc 26 then bif Nat.blt pc 23 then bif Nat.beq pc 22 then some (.arraylength, 23, 0, 0, 0, 0, 0) else none
  else bif Nat.beq pc 23 then some (.if_icmp .ge 26, 26, 49, 0, 0, 0, 0) else none
  else bif Nat.blt pc 27 then bif Nat.beq pc 26 then some (.aload_n 0, 27, 0, 0, 0, 0, 0) else none
  else bif Nat.beq pc 27 then some (.getfield 9, 30, 6, 0, 2, 0, 0) else none
  else bif Nat.blt pc 40 then bif Nat.blt pc 36 then bif Nat.blt pc 34 then bif Nat.blt pc 31 then bif Nat.beq pc 30 then some (.aload_n 0, 31, 0, 0, 0, 0, 0) else none
  else bif Nat.beq pc 31 then some (.getfield 29, 34, 6, 3, 0, 0, 0) else none
  else bif Nat.blt pc 35 then bif Nat.beq pc 34 then some (.iload_n 1, 35, 1, 0, 0, 0, 0) else none
  else bif Nat.beq pc 35 then some (.iload_n 2, 36, 2, 0, 0, 0, 0) else none
  else bif Nat.blt pc 38 then bif Nat.blt pc 37 then bif Nat.beq pc 36 then some (.iushr, 37, 0, 0, 0, 0, 0) else none
  else bif Nat.beq pc 37 then some (.i2b, 38, 0, 0, 0, 0, 0) else none
  else bif Nat.blt pc 39 then bif Nat.beq pc 38 then some (.bastore, 39, 0, 0, 0, 0, 0) else none
  else bif Nat.beq pc 39 then some (.aload_n 0, 40, 0, 0, 0, 0, 0) else none
  else bif Nat.blt pc 46 then bif Nat.blt pc 44 then bif Nat.blt pc 41 then bif Nat.beq pc 40 then some (.dup, 41, 0, 0, 0, 0, 0) else none
  else bif Nat.beq pc 41 then some (.getfield 29, 44, 6, 3, 0, 0, 0) else none
  else bif Nat.blt pc 45 then bif Nat.beq pc 44 then some (.iconst 1, 45, 0, 0, 0, 1, 0) else none
  else bif Nat.beq pc 45 then some (.iadd, 46, 0, 0, 0, 0, 0) else none
  else bif Nat.blt pc 52 then bif Nat.blt pc 49 then bif Nat.beq pc 46 then some (.putfield 29, 49, 6, 3, 0, 0, 0) else none
  else bif Nat.beq pc 49 then some (.iinc 2 (-8), 52, 2, 0, 0, (-8), 0) else none
  else bif Nat.blt pc 55 then bif Nat.beq pc 52 then some (.goto (-49), 55, 3, 0, 0, 0, 0) else none
  else bif Nat.beq pc 55 then some (.return_, 56, 0, 0, 0, 0, 0) else none
def rs_X6_addWord : PMR := (0, 0, hdl [], 3)
def mi_X6_addWord : PMI := wrapM 56 cd_X6_addWord rs_X6_addWord
def cd_X6_readSetup (pc : Nat) : Option PE :=
  bif Nat.blt pc 95 then bif Nat.blt pc 46 then bif Nat.blt pc 19 then bif Nat.blt pc 8 then bif Nat.blt pc 2 then bif Nat.blt pc 1 then bif Nat.beq pc 0 then some (.aload_n 0, 1, 0, 0, 0, 0, 0) else none
  else bif Nat.beq pc 1 then some (.iload_n 1, 2, 1, 0, 0, 0, 0) else none
  else bif Nat.blt pc 5 then bif Nat.beq pc 2 then some (.invokevirtual 58, 5, 51, 2, 6, 0, 0) else none
  else bif Nat.blt pc 6 then bif Nat.beq pc 5 then some (.aload_n 0, 6, 0, 0, 0, 0, 0) else none
  else bif Nat.beq pc 6 then some (.ldc 62, 8, 0, 0, 1, 0, 0) else none
  else bif Nat.blt pc 15 then bif Nat.blt pc 11 then bif Nat.beq pc 8 then some (.invokevirtual 63, 11, 62, 2, 6, 0, 0) else none
  else bif Nat.blt pc 12 then bif Nat.beq pc 11 then some (.aload_n 0, 12, 0, 0, 0, 0, 0) else none
  else bif Nat.beq pc 12 then some (.getfield 18, 15, 6, 1, 2, 0, 0) else none
  else bif Nat.blt pc 16 then bif Nat.beq pc 15 then some (.aload_n 0, 16, 0, 0, 0, 0, 0) else none
  else bif Nat.blt pc 17 then bif Nat.beq pc 16 then some (.iconst 2, 17, 0, 0, 0, 2, 0) else none
  else bif Nat.beq pc 17 then some (.bipush 8, 19, 0, 0, 0, 8, 0) else none
  else bif Nat.blt pc 31 then bif Nat.blt pc 26 then bif Nat.blt pc 22 then bif Nat.beq pc 19 then some (.invokevirtual 67, 22, 61, 3, 6, 0, 0) else none
  else bif Nat.blt pc 25 then bif Nat.beq pc 22 then some (.putfield 71, 25, 2, 0, 0, 0, 0) else none
  else bif Nat.beq pc 25 then some (.aload_n 0, 26, 0, 0, 0, 0, 0) else none
  else bif Nat.blt pc 29 then bif Nat.beq pc 26 then some (.getfield 18, 29, 6, 1, 2, 0, 0) else none
  else bif Nat.blt pc 30 then bif Nat.beq pc 29 then some (.aload_n 0, 30, 0, 0, 0, 0, 0) else none
  else bif Nat.beq pc 30 then some (.iconst 1, 31, 0, 0, 0, 1, 0) else none
  else bif Nat.blt pc 40 then bif Nat.blt pc 34 then bif Nat.beq pc 31 then some (.sipush 999, 34, 0, 0, 0, 999, 0) else none
  else bif Nat.blt pc 37 then bif Nat.beq pc 34 then some (.invokevirtual 67, 37, 61, 3, 6, 0, 0) else none
  else bif Nat.beq pc 37 then some (.putfield 74, 40, 2, 1, 0, 0, 0) else none
  else bif Nat.blt pc 41 then bif Nat.beq pc 40 then some (.aload_n 0, 41, 0, 0, 0, 0, 0) else none
  else bif Nat.blt pc 43 then bif Nat.beq pc 41 then some (.bipush 59, 43, 0, 0, 0, 59, 0) else none
  else bif Nat.beq pc 43 then some (.invokevirtual 77, 46, 63, 2, 6, 0, 0) else none
  else bif Nat.blt pc 67 then bif Nat.blt pc 53 then bif Nat.blt pc 48 then bif Nat.blt pc 47 then bif Nat.beq pc 46 then some (.iconst 0, 47, 0, 0, 0, 0, 0) else none
  else bif Nat.beq pc 47 then some (.istore_n 2, 48, 2, 0, 0, 0, 0) else none
  else bif Nat.blt pc 49 then bif Nat.beq pc 48 then some (.iload_n 2, 49, 2, 0, 0, 0, 0) else none
  else bif Nat.blt pc 50 then bif Nat.beq pc 49 then some (.aload_n 0, 50, 0, 0, 0, 0, 0) else none
  else bif Nat.beq pc 50 then some (.getfield 33, 53, 6, 4, 0, 0, 0) else none
  else bif Nat.blt pc 60 then bif Nat.blt pc 56 then bif Nat.beq pc 53 then some (.if_icmp .ge 119, 56, 172, 0, 0, 0, 0) else none
  else bif Nat.blt pc 57 then bif Nat.beq pc 56 then some (.aload_n 0, 57, 0, 0, 0, 0, 0) else none
  else bif Nat.beq pc 57 then some (.getfield 52, 60, 6, 10, 0, 0, 0) else none
  else bif Nat.blt pc 63 then bif Nat.beq pc 60 then some (.ifCond .ne 112, 63, 172, 0, 0, 0, 0) else none
  else bif Nat.blt pc 64 then bif Nat.beq pc 63 then some (.aload_n 0, 64, 0, 0, 0, 0, 0) else none
  else bif Nat.beq pc 64 then some (.getfield 42, 67, 6, 7, 0, 0, 0) else none
  else bif Nat.blt pc 82 then bif Nat.blt pc 74 then bif Nat.blt pc 70 then bif Nat.beq pc 67 then some (.sipush 258, 70, 0, 0, 0, 258, 0) else none
  else bif Nat.blt pc 73 then bif Nat.beq pc 70 then some (.if_icmp .eq 102, 73, 172, 0, 0, 0, 0) else none
  else bif Nat.beq pc 73 then some (.aload_n 0, 74, 0, 0, 0, 0, 0) else none
  else bif Nat.blt pc 76 then bif Nat.beq pc 74 then some (.ldc 81, 76, 1, 0, 1, 0, 0) else none
  else bif Nat.blt pc 79 then bif Nat.beq pc 76 then some (.invokevirtual 83, 79, 64, 2, 6, 0, 0) else none
  else bif Nat.beq pc 79 then some (.ifCond .eq 10, 82, 89, 0, 0, 0, 0) else none
  else bif Nat.blt pc 89 then bif Nat.blt pc 83 then bif Nat.beq pc 82 then some (.aload_n 0, 83, 0, 0, 0, 0, 0) else none
  else bif Nat.blt pc 86 then bif Nat.beq pc 83 then some (.invokevirtual 87, 86, 52, 1, 6, 0, 0) else none
  else bif Nat.beq pc 86 then some (.goto 74, 89, 160, 0, 0, 0, 0) else none
  else bif Nat.blt pc 90 then bif Nat.beq pc 89 then some (.aload_n 0, 90, 0, 0, 0, 0, 0) else none
  else bif Nat.blt pc 92 then bif Nat.beq pc 90 then some (.ldc 90, 92, 2, 0, 1, 0, 0) else none
  else bif Nat.beq pc 92 then some (.invokevirtual 83, 95, 64, 2, 6, 0, 0) else none
  else bif Nat.blt pc 146 then bif Nat.blt pc 121 then bif Nat.blt pc 106 then bif Nat.blt pc 99 then bif Nat.blt pc 98 then bif Nat.beq pc 95 then some (.ifCond .eq 10, 98, 105, 0, 0, 0, 0) else none
  else bif Nat.beq pc 98 then some (.aload_n 0, 99, 0, 0, 0, 0, 0) else none
  else bif Nat.blt pc 102 then bif Nat.beq pc 99 then some (.invokevirtual 92, 102, 53, 1, 6, 0, 0) else none
  else bif Nat.blt pc 105 then bif Nat.beq pc 102 then some (.goto 58, 105, 160, 0, 0, 0, 0) else none
  else bif Nat.beq pc 105 then some (.aload_n 0, 106, 0, 0, 0, 0, 0) else none
  else bif Nat.blt pc 114 then bif Nat.blt pc 108 then bif Nat.beq pc 106 then some (.ldc 95, 108, 3, 0, 1, 0, 0) else none
  else bif Nat.blt pc 111 then bif Nat.beq pc 108 then some (.invokevirtual 83, 111, 64, 2, 6, 0, 0) else none
  else bif Nat.beq pc 111 then some (.ifCond .eq 10, 114, 121, 0, 0, 0, 0) else none
  else bif Nat.blt pc 115 then bif Nat.beq pc 114 then some (.aload_n 0, 115, 0, 0, 0, 0, 0) else none
  else bif Nat.blt pc 118 then bif Nat.beq pc 115 then some (.invokevirtual 97, 118, 55, 1, 6, 0, 0) else none
  else bif Nat.beq pc 118 then some (.goto 42, 121, 160, 0, 0, 0, 0) else none
  else bif Nat.blt pc 134 then bif Nat.blt pc 127 then bif Nat.blt pc 122 then bif Nat.beq pc 121 then some (.aload_n 0, 122, 0, 0, 0, 0, 0) else none
  else bif Nat.blt pc 124 then bif Nat.beq pc 122 then some (.ldc 100, 124, 4, 0, 1, 0, 0) else none
  else bif Nat.beq pc 124 then some (.invokevirtual 83, 127, 64, 2, 6, 0, 0) else none
  else bif Nat.blt pc 130 then bif Nat.beq pc 127 then some (.ifCond .eq 27, 130, 154, 0, 0, 0, 0) else none
  else bif Nat.blt pc 131 then bif Nat.beq pc 130 then some (.aload_n 0, 131, 0, 0, 0, 0, 0) else none
  else bif Nat.beq pc 131 then some (.getfield 48, 134, 6, 9, 1, 0, 0) else none
  else bif Nat.blt pc 139 then bif Nat.blt pc 137 then bif Nat.beq pc 134 then some (.ifCond .ne 20, 137, 154, 0, 0, 0, 0) else none
  else bif Nat.blt pc 138 then bif Nat.beq pc 137 then some (.aload_n 0, 138, 0, 0, 0, 0, 0) else none
  else bif Nat.beq pc 138 then some (.iconst 1, 139, 0, 0, 0, 1, 0) else none
  else bif Nat.blt pc 142 then bif Nat.beq pc 139 then some (.putfield 48, 142, 6, 9, 1, 0, 0) else none
  else bif Nat.blt pc 143 then bif Nat.beq pc 142 then some (.aload_n 0, 143, 0, 0, 0, 0, 0) else none
  else bif Nat.beq pc 143 then some (.invokevirtual 102, 146, 65, 1, 6, 0, 0) else none
  else bif Nat.blt pc 169 then bif Nat.blt pc 155 then bif Nat.blt pc 148 then bif Nat.blt pc 147 then bif Nat.beq pc 146 then some (.aload_n 0, 147, 0, 0, 0, 0, 0) else none
  else bif Nat.beq pc 147 then some (.iconst 0, 148, 0, 0, 0, 0, 0) else none
  else bif Nat.blt pc 151 then bif Nat.beq pc 148 then some (.invokevirtual 105, 151, 56, 2, 6, 0, 0) else none
  else bif Nat.blt pc 154 then bif Nat.beq pc 151 then some (.goto 9, 154, 160, 0, 0, 0, 0) else none
  else bif Nat.beq pc 154 then some (.aload_n 0, 155, 0, 0, 0, 0, 0) else none
  else bif Nat.blt pc 161 then bif Nat.blt pc 157 then bif Nat.beq pc 155 then some (.bipush (-2), 157, 0, 0, 0, (-2), 0) else none
  else bif Nat.blt pc 160 then bif Nat.beq pc 157 then some (.invokevirtual 108, 160, 60, 2, 6, 0, 0) else none
  else bif Nat.beq pc 160 then some (.aload_n 0, 161, 0, 0, 0, 0, 0) else none
  else bif Nat.blt pc 163 then bif Nat.beq pc 161 then some (.bipush 59, 163, 0, 0, 0, 59, 0) else none
  else bif Nat.blt pc 166 then bif Nat.beq pc 163 then some (.invokevirtual 77, 166, 63, 2, 6, 0, 0) else none
  else bif Nat.beq pc 166 then some (.iinc 2 1, 169, 2, 0, 0, 1, 0) else none
  else bif Nat.blt pc 183 then bif Nat.blt pc 176 then bif Nat.blt pc 172 then bif Nat.beq pc 169 then some (.goto (-121), 172, 48, 0, 0, 0, 0) else none
  else bif Nat.blt pc 173 then bif Nat.beq pc 172 then some (.aload_n 0, 173, 0, 0, 0, 0, 0) else none
  else bif Nat.beq pc 173 then some (.getfield 52, 176, 6, 10, 0, 0, 0) else none
  else bif Nat.blt pc 179 then bif Nat.beq pc 176 then some (.ifCond .ne 14, 179, 190, 0, 0, 0, 0) else none
  else bif Nat.blt pc 180 then bif Nat.beq pc 179 then some (.aload_n 0, 180, 0, 0, 0, 0, 0) else none
  else bif Nat.beq pc 180 then some (.getfield 48, 183, 6, 9, 1, 0, 0) else none
  else bif Nat.blt pc 190 then bif Nat.blt pc 186 then bif Nat.beq pc 183 then some (.ifCond .eq 7, 186, 190, 0, 0, 0, 0) else none
  else bif Nat.blt pc 187 then bif Nat.beq pc 186 then some (.aload_n 0, 187, 0, 0, 0, 0, 0) else none
  else bif Nat.beq pc 187 then some (.invokevirtual 111, 190, 59, 1, 6, 0, 0) else none
  else bif Nat.blt pc 191 then bif Nat.beq pc 190 then some (.aload_n 0, 191, 0, 0, 0, 0, 0) else none
  else bif Nat.blt pc 194 then bif Nat.beq pc 191 then some (.getfield 52, 194, 6, 10, 0, 0, 0) else none
  else bif Nat.beq pc 194 then some (.ireturn, 195, 0, 0, 0, 0, 0) else none
def rs_X6_readSetup : PMR := (1, 0, hdl [], 3)
def mi_X6_readSetup : PMI := wrapM 195 cd_X6_readSetup rs_X6_readSetup
def cd_X6_startOver (pc : Nat) : Option PE :=
  bif Nat.blt pc 25 then bif Nat.blt pc 14 then bif Nat.blt pc 7 then bif Nat.blt pc 1 then bif Nat.beq pc 0 then some (.aload_n 0, 1, 0, 0, 0, 0, 0) else none
  else bif Nat.blt pc 4 then bif Nat.beq pc 1 then some (.getfield 18, 4, 6, 1, 2, 0, 0) else none
  else bif Nat.beq pc 4 then some (.invokevirtual 114, 7, 8, 1, 2, 0, 0) else none
  else bif Nat.blt pc 8 then bif Nat.beq pc 7 then some (.aload_n 0, 8, 0, 0, 0, 0, 0) else none
  else bif Nat.blt pc 11 then bif Nat.beq pc 8 then some (.getfield 25, 11, 6, 2, 2, 0, 0) else none
  else bif Nat.beq pc 11 then some (.invokevirtual 117, 14, 0, 1, 0, 0, 0) else none
  else bif Nat.blt pc 19 then bif Nat.blt pc 15 then bif Nat.beq pc 14 then some (.aload_n 0, 15, 0, 0, 0, 0, 0) else none
  else bif Nat.blt pc 16 then bif Nat.beq pc 15 then some (.iconst 0, 16, 0, 0, 0, 0, 0) else none
  else bif Nat.beq pc 16 then some (.putfield 29, 19, 6, 3, 0, 0, 0) else none
  else bif Nat.blt pc 21 then bif Nat.blt pc 20 then bif Nat.beq pc 19 then some (.aload_n 0, 20, 0, 0, 0, 0, 0) else none
  else bif Nat.beq pc 20 then some (.iload_n 1, 21, 1, 0, 0, 0, 0) else none
  else bif Nat.blt pc 24 then bif Nat.beq pc 21 then some (.putfield 33, 24, 6, 4, 0, 0, 0) else none
  else bif Nat.beq pc 24 then some (.aload_n 0, 25, 0, 0, 0, 0, 0) else none
  else bif Nat.blt pc 36 then bif Nat.blt pc 30 then bif Nat.blt pc 26 then bif Nat.beq pc 25 then some (.iconst 0, 26, 0, 0, 0, 0, 0) else none
  else bif Nat.blt pc 29 then bif Nat.beq pc 26 then some (.putfield 39, 29, 6, 6, 0, 0, 0) else none
  else bif Nat.beq pc 29 then some (.aload_n 0, 30, 0, 0, 0, 0, 0) else none
  else bif Nat.blt pc 34 then bif Nat.blt pc 31 then bif Nat.beq pc 30 then some (.iconst 0, 31, 0, 0, 0, 0, 0) else none
  else bif Nat.beq pc 31 then some (.putfield 48, 34, 6, 9, 1, 0, 0) else none
  else bif Nat.blt pc 35 then bif Nat.beq pc 34 then some (.aload_n 0, 35, 0, 0, 0, 0, 0) else none
  else bif Nat.beq pc 35 then some (.iconst 0, 36, 0, 0, 0, 0, 0) else none
  else bif Nat.blt pc 41 then bif Nat.blt pc 39 then bif Nat.beq pc 36 then some (.putfield 52, 39, 6, 10, 0, 0, 0) else none
  else bif Nat.blt pc 40 then bif Nat.beq pc 39 then some (.aload_n 0, 40, 0, 0, 0, 0, 0) else none
  else bif Nat.beq pc 40 then some (.iconst (-1), 41, 0, 0, 0, (-1), 0) else none
  else bif Nat.blt pc 45 then bif Nat.blt pc 44 then bif Nat.beq pc 41 then some (.putfield 55, 44, 6, 11, 0, 0, 0) else none
  else bif Nat.beq pc 44 then some (.aload_n 0, 45, 0, 0, 0, 0, 0) else none
  else bif Nat.blt pc 48 then bif Nat.beq pc 45 then some (.invokevirtual 102, 48, 65, 1, 6, 0, 0) else none
  else bif Nat.beq pc 48 then some (.return_, 49, 0, 0, 0, 0, 0) else none
def rs_X6_startOver : PMR := (0, 0, hdl [], 2)
def mi_X6_startOver : PMI := wrapM 49 cd_X6_startOver rs_X6_startOver
def cd_X6_readEdge (pc : Nat) : Option PE :=
  bif Nat.blt pc 64 then bif Nat.blt pc 32 then bif Nat.blt pc 18 then bif Nat.blt pc 9 then bif Nat.blt pc 4 then bif Nat.blt pc 1 then bif Nat.beq pc 0 then some (.aload_n 0, 1, 0, 0, 0, 0, 0) else none
  else bif Nat.beq pc 1 then some (.getfield 18, 4, 6, 1, 2, 0, 0) else none
  else bif Nat.blt pc 7 then bif Nat.beq pc 4 then some (.getfield 118, 7, 2, 2, 0, 0, 0) else none
  else bif Nat.beq pc 7 then some (.bipush 14, 9, 0, 0, 0, 14, 0) else none
  else bif Nat.blt pc 13 then bif Nat.blt pc 12 then bif Nat.beq pc 9 then some (.if_icmp .lt 9, 12, 18, 0, 0, 0, 0) else none
  else bif Nat.beq pc 12 then some (.aload_n 0, 13, 0, 0, 0, 0, 0) else none
  else bif Nat.blt pc 15 then bif Nat.beq pc 13 then some (.bipush (-4), 15, 0, 0, 0, (-4), 0) else none
  else bif Nat.beq pc 15 then some (.invokevirtual 108, 18, 60, 2, 6, 0, 0) else none
  else bif Nat.blt pc 24 then bif Nat.blt pc 22 then bif Nat.blt pc 19 then bif Nat.beq pc 18 then some (.aload_n 0, 19, 0, 0, 0, 0, 0) else none
  else bif Nat.beq pc 19 then some (.invokevirtual 102, 22, 65, 1, 6, 0, 0) else none
  else bif Nat.blt pc 23 then bif Nat.beq pc 22 then some (.aload_n 0, 23, 0, 0, 0, 0, 0) else none
  else bif Nat.beq pc 23 then some (.iconst 0, 24, 0, 0, 0, 0, 0) else none
  else bif Nat.blt pc 28 then bif Nat.blt pc 25 then bif Nat.beq pc 24 then some (.aload_n 0, 25, 0, 0, 0, 0, 0) else none
  else bif Nat.beq pc 25 then some (.getfield 18, 28, 6, 1, 2, 0, 0) else none
  else bif Nat.blt pc 31 then bif Nat.beq pc 28 then some (.getfield 71, 31, 2, 0, 0, 0, 0) else none
  else bif Nat.beq pc 31 then some (.iconst 1, 32, 0, 0, 0, 1, 0) else none
  else bif Nat.blt pc 48 then bif Nat.blt pc 38 then bif Nat.blt pc 36 then bif Nat.blt pc 33 then bif Nat.beq pc 32 then some (.isub, 33, 0, 0, 0, 0, 0) else none
  else bif Nat.beq pc 33 then some (.invokevirtual 67, 36, 61, 3, 6, 0, 0) else none
  else bif Nat.blt pc 37 then bif Nat.beq pc 36 then some (.istore_n 1, 37, 1, 0, 0, 0, 0) else none
  else bif Nat.beq pc 37 then some (.aload_n 0, 38, 0, 0, 0, 0, 0) else none
  else bif Nat.blt pc 44 then bif Nat.blt pc 41 then bif Nat.beq pc 38 then some (.getfield 42, 41, 6, 7, 0, 0, 0) else none
  else bif Nat.beq pc 41 then some (.sipush 256, 44, 0, 0, 0, 256, 0) else none
  else bif Nat.blt pc 47 then bif Nat.beq pc 44 then some (.if_icmp .ne 17, 47, 61, 0, 0, 0, 0) else none
  else bif Nat.beq pc 47 then some (.aload_n 0, 48, 0, 0, 0, 0, 0) else none
  else bif Nat.blt pc 56 then bif Nat.blt pc 52 then bif Nat.blt pc 51 then bif Nat.beq pc 48 then some (.getfield 45, 51, 6, 8, 0, 0, 0) else none
  else bif Nat.beq pc 51 then some (.iload_n 1, 52, 1, 0, 0, 0, 0) else none
  else bif Nat.blt pc 55 then bif Nat.beq pc 52 then some (.if_icmp .ne 9, 55, 61, 0, 0, 0, 0) else none
  else bif Nat.beq pc 55 then some (.aload_n 0, 56, 0, 0, 0, 0, 0) else none
  else bif Nat.blt pc 61 then bif Nat.blt pc 58 then bif Nat.beq pc 56 then some (.bipush (-3), 58, 0, 0, 0, (-3), 0) else none
  else bif Nat.beq pc 58 then some (.invokevirtual 108, 61, 60, 2, 6, 0, 0) else none
  else bif Nat.blt pc 62 then bif Nat.beq pc 61 then some (.aload_n 0, 62, 0, 0, 0, 0, 0) else none
  else bif Nat.blt pc 63 then bif Nat.beq pc 62 then some (.iconst 0, 63, 0, 0, 0, 0, 0) else none
  else bif Nat.beq pc 63 then some (.aload_n 0, 64, 0, 0, 0, 0, 0) else none
  else bif Nat.blt pc 93 then bif Nat.blt pc 78 then bif Nat.blt pc 72 then bif Nat.blt pc 70 then bif Nat.blt pc 67 then bif Nat.beq pc 64 then some (.getfield 18, 67, 6, 1, 2, 0, 0) else none
  else bif Nat.beq pc 67 then some (.getfield 71, 70, 2, 0, 0, 0, 0) else none
  else bif Nat.blt pc 71 then bif Nat.beq pc 70 then some (.iconst 1, 71, 0, 0, 0, 1, 0) else none
  else bif Nat.beq pc 71 then some (.isub, 72, 0, 0, 0, 0, 0) else none
  else bif Nat.blt pc 76 then bif Nat.blt pc 75 then bif Nat.beq pc 72 then some (.invokevirtual 67, 75, 61, 3, 6, 0, 0) else none
  else bif Nat.beq pc 75 then some (.istore_n 2, 76, 2, 0, 0, 0, 0) else none
  else bif Nat.blt pc 77 then bif Nat.beq pc 76 then some (.aload_n 0, 77, 0, 0, 0, 0, 0) else none
  else bif Nat.beq pc 77 then some (.iconst 1, 78, 0, 0, 0, 1, 0) else none
  else bif Nat.blt pc 85 then bif Nat.blt pc 83 then bif Nat.blt pc 80 then bif Nat.beq pc 78 then some (.bipush 99, 80, 0, 0, 0, 99, 0) else none
  else bif Nat.beq pc 80 then some (.invokevirtual 67, 83, 61, 3, 6, 0, 0) else none
  else bif Nat.blt pc 84 then bif Nat.beq pc 83 then some (.istore_n 3, 84, 3, 0, 0, 0, 0) else none
  else bif Nat.beq pc 84 then some (.aload_n 0, 85, 0, 0, 0, 0, 0) else none
  else bif Nat.blt pc 88 then bif Nat.blt pc 86 then bif Nat.beq pc 85 then some (.iconst 1, 86, 0, 0, 0, 1, 0) else none
  else bif Nat.beq pc 86 then some (.bipush 99, 88, 0, 0, 0, 99, 0) else none
  else bif Nat.blt pc 91 then bif Nat.beq pc 88 then some (.invokevirtual 67, 91, 61, 3, 6, 0, 0) else none
  else bif Nat.beq pc 91 then some (.istore 4, 93, 4, 0, 0, 0, 0) else none
  else bif Nat.blt pc 109 then bif Nat.blt pc 100 then bif Nat.blt pc 95 then bif Nat.blt pc 94 then bif Nat.beq pc 93 then some (.aload_n 0, 94, 0, 0, 0, 0, 0) else none
  else bif Nat.beq pc 94 then some (.iconst 0, 95, 0, 0, 0, 0, 0) else none
  else bif Nat.blt pc 97 then bif Nat.beq pc 95 then some (.bipush 99, 97, 0, 0, 0, 99, 0) else none
  else bif Nat.beq pc 97 then some (.invokevirtual 67, 100, 61, 3, 6, 0, 0) else none
  else bif Nat.blt pc 103 then bif Nat.blt pc 102 then bif Nat.beq pc 100 then some (.istore 5, 102, 5, 0, 0, 0, 0) else none
  else bif Nat.beq pc 102 then some (.aload_n 0, 103, 0, 0, 0, 0, 0) else none
  else bif Nat.blt pc 106 then bif Nat.beq pc 103 then some (.getfield 52, 106, 6, 10, 0, 0, 0) else none
  else bif Nat.beq pc 106 then some (.ifCond .ne 17, 109, 123, 0, 0, 0, 0) else none
  else bif Nat.blt pc 115 then bif Nat.blt pc 113 then bif Nat.blt pc 110 then bif Nat.beq pc 109 then some (.aload_n 0, 110, 0, 0, 0, 0, 0) else none
  else bif Nat.beq pc 110 then some (.getfield 18, 113, 6, 1, 2, 0, 0) else none
  else bif Nat.blt pc 114 then bif Nat.beq pc 113 then some (.iload_n 1, 114, 1, 0, 0, 0, 0) else none
  else bif Nat.beq pc 114 then some (.iload_n 2, 115, 2, 0, 0, 0, 0) else none
  else bif Nat.blt pc 118 then bif Nat.blt pc 116 then bif Nat.beq pc 115 then some (.iload_n 3, 116, 3, 0, 0, 0, 0) else none
  else bif Nat.beq pc 116 then some (.iload 4, 118, 4, 0, 0, 0, 0) else none
  else bif Nat.blt pc 120 then bif Nat.beq pc 118 then some (.iload 5, 120, 5, 0, 0, 0, 0) else none
  else bif Nat.blt pc 123 then bif Nat.beq pc 120 then some (.invokevirtual 121, 123, 10, 6, 2, 0, 0) else none
  else bif Nat.beq pc 123 then some (.return_, 124, 0, 0, 0, 0, 0) else none
def rs_X6_readEdge : PMR := (0, 0, hdl [], 6)
def mi_X6_readEdge : PMI := wrapM 124 cd_X6_readEdge rs_X6_readEdge
def cd_X6_readBan (pc : Nat) : Option PE :=
  bif Nat.blt pc 24 then bif Nat.blt pc 13 then bif Nat.blt pc 5 then bif Nat.blt pc 1 then bif Nat.beq pc 0 then some (.aload_n 0, 1, 0, 0, 0, 0, 0) else none
  else bif Nat.blt pc 4 then bif Nat.beq pc 1 then some (.invokevirtual 102, 4, 65, 1, 6, 0, 0) else none
  else bif Nat.beq pc 4 then some (.aload_n 0, 5, 0, 0, 0, 0, 0) else none
  else bif Nat.blt pc 7 then bif Nat.blt pc 6 then bif Nat.beq pc 5 then some (.iconst 0, 6, 0, 0, 0, 0, 0) else none
  else bif Nat.beq pc 6 then some (.aload_n 0, 7, 0, 0, 0, 0, 0) else none
  else bif Nat.blt pc 10 then bif Nat.beq pc 7 then some (.getfield 18, 10, 6, 1, 2, 0, 0) else none
  else bif Nat.beq pc 10 then some (.getfield 71, 13, 2, 0, 0, 0, 0) else none
  else bif Nat.blt pc 18 then bif Nat.blt pc 14 then bif Nat.beq pc 13 then some (.iconst 1, 14, 0, 0, 0, 1, 0) else none
  else bif Nat.blt pc 15 then bif Nat.beq pc 14 then some (.isub, 15, 0, 0, 0, 0, 0) else none
  else bif Nat.beq pc 15 then some (.invokevirtual 67, 18, 61, 3, 6, 0, 0) else none
  else bif Nat.blt pc 20 then bif Nat.blt pc 19 then bif Nat.beq pc 18 then some (.istore_n 1, 19, 1, 0, 0, 0, 0) else none
  else bif Nat.beq pc 19 then some (.aload_n 0, 20, 0, 0, 0, 0, 0) else none
  else bif Nat.blt pc 21 then bif Nat.beq pc 20 then some (.iload_n 1, 21, 1, 0, 0, 0, 0) else none
  else bif Nat.beq pc 21 then some (.invokevirtual 125, 24, 54, 2, 6, 0, 0) else none
  else bif Nat.blt pc 35 then bif Nat.blt pc 27 then bif Nat.blt pc 25 then bif Nat.beq pc 24 then some (.istore_n 2, 25, 2, 0, 0, 0, 0) else none
  else bif Nat.blt pc 26 then bif Nat.beq pc 25 then some (.aload_n 0, 26, 0, 0, 0, 0, 0) else none
  else bif Nat.beq pc 26 then some (.iload_n 1, 27, 1, 0, 0, 0, 0) else none
  else bif Nat.blt pc 31 then bif Nat.blt pc 30 then bif Nat.beq pc 27 then some (.invokevirtual 125, 30, 54, 2, 6, 0, 0) else none
  else bif Nat.beq pc 30 then some (.istore_n 3, 31, 3, 0, 0, 0, 0) else none
  else bif Nat.blt pc 32 then bif Nat.beq pc 31 then some (.aload_n 0, 32, 0, 0, 0, 0, 0) else none
  else bif Nat.beq pc 32 then some (.getfield 52, 35, 6, 10, 0, 0, 0) else none
  else bif Nat.blt pc 43 then bif Nat.blt pc 39 then bif Nat.blt pc 38 then bif Nat.beq pc 35 then some (.ifCond .ne 13, 38, 48, 0, 0, 0, 0) else none
  else bif Nat.beq pc 38 then some (.aload_n 0, 39, 0, 0, 0, 0, 0) else none
  else bif Nat.blt pc 42 then bif Nat.beq pc 39 then some (.getfield 18, 42, 6, 1, 2, 0, 0) else none
  else bif Nat.beq pc 42 then some (.iload_n 1, 43, 1, 0, 0, 0, 0) else none
  else bif Nat.blt pc 45 then bif Nat.blt pc 44 then bif Nat.beq pc 43 then some (.iload_n 2, 44, 2, 0, 0, 0, 0) else none
  else bif Nat.beq pc 44 then some (.iload_n 3, 45, 3, 0, 0, 0, 0) else none
  else bif Nat.blt pc 48 then bif Nat.beq pc 45 then some (.invokevirtual 129, 48, 13, 4, 2, 0, 0) else none
  else bif Nat.beq pc 48 then some (.return_, 49, 0, 0, 0, 0, 0) else none
def rs_X6_readBan : PMR := (0, 0, hdl [], 4)
def mi_X6_readBan : PMI := wrapM 49 cd_X6_readBan rs_X6_readBan
def cd_X6_takeEdgeAt (pc : Nat) : Option PE :=
  bif Nat.blt pc 32 then bif Nat.blt pc 15 then bif Nat.blt pc 7 then bif Nat.blt pc 1 then bif Nat.beq pc 0 then some (.aload_n 0, 1, 0, 0, 0, 0, 0) else none
  else bif Nat.blt pc 4 then bif Nat.beq pc 1 then some (.getfield 42, 4, 6, 7, 0, 0, 0) else none
  else bif Nat.beq pc 4 then some (.sipush 256, 7, 0, 0, 0, 256, 0) else none
  else bif Nat.blt pc 11 then bif Nat.blt pc 10 then bif Nat.beq pc 7 then some (.if_icmp .ne 38, 10, 45, 0, 0, 0, 0) else none
  else bif Nat.beq pc 10 then some (.aload_n 0, 11, 0, 0, 0, 0, 0) else none
  else bif Nat.blt pc 14 then bif Nat.beq pc 11 then some (.getfield 45, 14, 6, 8, 0, 0, 0) else none
  else bif Nat.beq pc 14 then some (.aload_n 0, 15, 0, 0, 0, 0, 0) else none
  else bif Nat.blt pc 24 then bif Nat.blt pc 18 then bif Nat.beq pc 15 then some (.getfield 18, 18, 6, 1, 2, 0, 0) else none
  else bif Nat.blt pc 21 then bif Nat.beq pc 18 then some (.getfield 118, 21, 2, 2, 0, 0, 0) else none
  else bif Nat.beq pc 21 then some (.if_icmp .ge 24, 24, 45, 0, 0, 0, 0) else none
  else bif Nat.blt pc 28 then bif Nat.blt pc 25 then bif Nat.beq pc 24 then some (.aload_n 0, 25, 0, 0, 0, 0, 0) else none
  else bif Nat.beq pc 25 then some (.getfield 18, 28, 6, 1, 2, 0, 0) else none
  else bif Nat.blt pc 29 then bif Nat.beq pc 28 then some (.aload_n 0, 29, 0, 0, 0, 0, 0) else none
  else bif Nat.beq pc 29 then some (.getfield 45, 32, 6, 8, 0, 0, 0) else none
  else bif Nat.blt pc 46 then bif Nat.blt pc 39 then bif Nat.blt pc 33 then bif Nat.beq pc 32 then some (.iload_n 1, 33, 1, 0, 0, 0, 0) else none
  else bif Nat.blt pc 36 then bif Nat.beq pc 33 then some (.invokevirtual 133, 36, 16, 3, 2, 0, 0) else none
  else bif Nat.beq pc 36 then some (.ifCond .ne 9, 39, 45, 0, 0, 0, 0) else none
  else bif Nat.blt pc 42 then bif Nat.blt pc 40 then bif Nat.beq pc 39 then some (.aload_n 0, 40, 0, 0, 0, 0, 0) else none
  else bif Nat.beq pc 40 then some (.bipush (-3), 42, 0, 0, 0, (-3), 0) else none
  else bif Nat.blt pc 45 then bif Nat.beq pc 42 then some (.invokevirtual 108, 45, 60, 2, 6, 0, 0) else none
  else bif Nat.beq pc 45 then some (.aload_n 0, 46, 0, 0, 0, 0, 0) else none
  else bif Nat.blt pc 54 then bif Nat.blt pc 48 then bif Nat.blt pc 47 then bif Nat.beq pc 46 then some (.iconst 0, 47, 0, 0, 0, 0, 0) else none
  else bif Nat.beq pc 47 then some (.aload_n 0, 48, 0, 0, 0, 0, 0) else none
  else bif Nat.blt pc 51 then bif Nat.beq pc 48 then some (.getfield 18, 51, 6, 1, 2, 0, 0) else none
  else bif Nat.beq pc 51 then some (.getfield 118, 54, 2, 2, 0, 0, 0) else none
  else bif Nat.blt pc 56 then bif Nat.blt pc 55 then bif Nat.beq pc 54 then some (.iconst 1, 55, 0, 0, 0, 1, 0) else none
  else bif Nat.beq pc 55 then some (.isub, 56, 0, 0, 0, 0, 0) else none
  else bif Nat.blt pc 59 then bif Nat.beq pc 56 then some (.invokevirtual 67, 59, 61, 3, 6, 0, 0) else none
  else bif Nat.beq pc 59 then some (.ireturn, 60, 0, 0, 0, 0, 0) else none
def rs_X6_takeEdgeAt : PMR := (1, 0, hdl [], 2)
def mi_X6_takeEdgeAt : PMI := wrapM 60 cd_X6_takeEdgeAt rs_X6_takeEdgeAt
def cd_X6_readDepot (pc : Nat) : Option PE :=
  bif Nat.blt pc 24 then bif Nat.blt pc 12 then bif Nat.blt pc 7 then bif Nat.blt pc 1 then bif Nat.beq pc 0 then some (.aload_n 0, 1, 0, 0, 0, 0, 0) else none
  else bif Nat.blt pc 4 then bif Nat.beq pc 1 then some (.getfield 18, 4, 6, 1, 2, 0, 0) else none
  else bif Nat.beq pc 4 then some (.getfield 137, 7, 2, 3, 0, 0, 0) else none
  else bif Nat.blt pc 8 then bif Nat.beq pc 7 then some (.iconst 3, 8, 0, 0, 0, 3, 0) else none
  else bif Nat.blt pc 11 then bif Nat.beq pc 8 then some (.if_icmp .lt 9, 11, 17, 0, 0, 0, 0) else none
  else bif Nat.beq pc 11 then some (.aload_n 0, 12, 0, 0, 0, 0, 0) else none
  else bif Nat.blt pc 18 then bif Nat.blt pc 14 then bif Nat.beq pc 12 then some (.bipush (-4), 14, 0, 0, 0, (-4), 0) else none
  else bif Nat.blt pc 17 then bif Nat.beq pc 14 then some (.invokevirtual 108, 17, 60, 2, 6, 0, 0) else none
  else bif Nat.beq pc 17 then some (.aload_n 0, 18, 0, 0, 0, 0, 0) else none
  else bif Nat.blt pc 22 then bif Nat.blt pc 21 then bif Nat.beq pc 18 then some (.invokevirtual 102, 21, 65, 1, 6, 0, 0) else none
  else bif Nat.beq pc 21 then some (.aload_n 0, 22, 0, 0, 0, 0, 0) else none
  else bif Nat.blt pc 23 then bif Nat.beq pc 22 then some (.iconst 0, 23, 0, 0, 0, 0, 0) else none
  else bif Nat.beq pc 23 then some (.aload_n 0, 24, 0, 0, 0, 0, 0) else none
  else bif Nat.blt pc 37 then bif Nat.blt pc 31 then bif Nat.blt pc 27 then bif Nat.beq pc 24 then some (.getfield 18, 27, 6, 1, 2, 0, 0) else none
  else bif Nat.blt pc 30 then bif Nat.beq pc 27 then some (.getfield 71, 30, 2, 0, 0, 0, 0) else none
  else bif Nat.beq pc 30 then some (.iconst 1, 31, 0, 0, 0, 1, 0) else none
  else bif Nat.blt pc 35 then bif Nat.blt pc 32 then bif Nat.beq pc 31 then some (.isub, 32, 0, 0, 0, 0, 0) else none
  else bif Nat.beq pc 32 then some (.invokevirtual 67, 35, 61, 3, 6, 0, 0) else none
  else bif Nat.blt pc 36 then bif Nat.beq pc 35 then some (.istore_n 1, 36, 1, 0, 0, 0, 0) else none
  else bif Nat.beq pc 36 then some (.aload_n 0, 37, 0, 0, 0, 0, 0) else none
  else bif Nat.blt pc 44 then bif Nat.blt pc 40 then bif Nat.beq pc 37 then some (.getfield 52, 40, 6, 10, 0, 0, 0) else none
  else bif Nat.blt pc 43 then bif Nat.beq pc 40 then some (.ifCond .ne 11, 43, 51, 0, 0, 0, 0) else none
  else bif Nat.beq pc 43 then some (.aload_n 0, 44, 0, 0, 0, 0, 0) else none
  else bif Nat.blt pc 48 then bif Nat.blt pc 47 then bif Nat.beq pc 44 then some (.getfield 18, 47, 6, 1, 2, 0, 0) else none
  else bif Nat.beq pc 47 then some (.iload_n 1, 48, 1, 0, 0, 0, 0) else none
  else bif Nat.blt pc 51 then bif Nat.beq pc 48 then some (.invokevirtual 140, 51, 12, 2, 2, 0, 0) else none
  else bif Nat.beq pc 51 then some (.return_, 52, 0, 0, 0, 0, 0) else none
def rs_X6_readDepot : PMR := (0, 0, hdl [], 2)
def mi_X6_readDepot : PMI := wrapM 52 cd_X6_readDepot rs_X6_readDepot
def cd_X6_readSum (pc : Nat) : Option PE :=
  bif Nat.blt pc 32 then bif Nat.blt pc 12 then bif Nat.blt pc 6 then bif Nat.blt pc 2 then bif Nat.blt pc 1 then bif Nat.beq pc 0 then some (.aload_n 0, 1, 0, 0, 0, 0, 0) else none
  else bif Nat.beq pc 1 then some (.iload_n 1, 2, 1, 0, 0, 0, 0) else none
  else bif Nat.blt pc 5 then bif Nat.beq pc 2 then some (.invokevirtual 143, 5, 57, 2, 6, 0, 0) else none
  else bif Nat.beq pc 5 then some (.iconst 0, 6, 0, 0, 0, 0, 0) else none
  else bif Nat.blt pc 8 then bif Nat.blt pc 7 then bif Nat.beq pc 6 then some (.istore_n 2, 7, 2, 0, 0, 0, 0) else none
  else bif Nat.beq pc 7 then some (.iload_n 2, 8, 2, 0, 0, 0, 0) else none
  else bif Nat.blt pc 9 then bif Nat.beq pc 8 then some (.aload_n 0, 9, 0, 0, 0, 0, 0) else none
  else bif Nat.beq pc 9 then some (.getfield 33, 12, 6, 4, 0, 0, 0) else none
  else bif Nat.blt pc 22 then bif Nat.blt pc 16 then bif Nat.blt pc 15 then bif Nat.beq pc 12 then some (.if_icmp .ge 56, 15, 68, 0, 0, 0, 0) else none
  else bif Nat.beq pc 15 then some (.aload_n 0, 16, 0, 0, 0, 0, 0) else none
  else bif Nat.blt pc 19 then bif Nat.beq pc 16 then some (.getfield 52, 19, 6, 10, 0, 0, 0) else none
  else bif Nat.beq pc 19 then some (.ifCond .ne 49, 22, 68, 0, 0, 0, 0) else none
  else bif Nat.blt pc 26 then bif Nat.blt pc 23 then bif Nat.beq pc 22 then some (.aload_n 0, 23, 0, 0, 0, 0, 0) else none
  else bif Nat.beq pc 23 then some (.getfield 42, 26, 6, 7, 0, 0, 0) else none
  else bif Nat.blt pc 28 then bif Nat.beq pc 26 then some (.bipush 43, 28, 0, 0, 0, 43, 0) else none
  else bif Nat.blt pc 31 then bif Nat.beq pc 28 then some (.if_icmp .eq 12, 31, 40, 0, 0, 0, 0) else none
  else bif Nat.beq pc 31 then some (.aload_n 0, 32, 0, 0, 0, 0, 0) else none
  else bif Nat.blt pc 50 then bif Nat.blt pc 41 then bif Nat.blt pc 37 then bif Nat.blt pc 35 then bif Nat.beq pc 32 then some (.getfield 42, 35, 6, 7, 0, 0, 0) else none
  else bif Nat.beq pc 35 then some (.bipush 45, 37, 0, 0, 0, 45, 0) else none
  else bif Nat.blt pc 40 then bif Nat.beq pc 37 then some (.if_icmp .ne 31, 40, 68, 0, 0, 0, 0) else none
  else bif Nat.beq pc 40 then some (.aload_n 0, 41, 0, 0, 0, 0, 0) else none
  else bif Nat.blt pc 45 then bif Nat.blt pc 44 then bif Nat.beq pc 41 then some (.getfield 42, 44, 6, 7, 0, 0, 0) else none
  else bif Nat.beq pc 44 then some (.istore_n 3, 45, 3, 0, 0, 0, 0) else none
  else bif Nat.blt pc 46 then bif Nat.beq pc 45 then some (.aload_n 0, 46, 0, 0, 0, 0, 0) else none
  else bif Nat.blt pc 49 then bif Nat.beq pc 46 then some (.invokevirtual 102, 49, 65, 1, 6, 0, 0) else none
  else bif Nat.beq pc 49 then some (.aload_n 0, 50, 0, 0, 0, 0, 0) else none
  else bif Nat.blt pc 58 then bif Nat.blt pc 54 then bif Nat.blt pc 51 then bif Nat.beq pc 50 then some (.iload_n 1, 51, 1, 0, 0, 0, 0) else none
  else bif Nat.beq pc 51 then some (.invokevirtual 143, 54, 57, 2, 6, 0, 0) else none
  else bif Nat.blt pc 55 then bif Nat.beq pc 54 then some (.aload_n 0, 55, 0, 0, 0, 0, 0) else none
  else bif Nat.beq pc 55 then some (.getfield 25, 58, 6, 2, 2, 0, 0) else none
  else bif Nat.blt pc 62 then bif Nat.blt pc 59 then bif Nat.beq pc 58 then some (.iload_n 3, 59, 3, 0, 0, 0, 0) else none
  else bif Nat.beq pc 59 then some (.invokevirtual 146, 62, 2, 2, 0, 0, 0) else none
  else bif Nat.blt pc 65 then bif Nat.beq pc 62 then some (.iinc 2 1, 65, 2, 0, 0, 1, 0) else none
  else bif Nat.blt pc 68 then bif Nat.beq pc 65 then some (.goto (-58), 68, 7, 0, 0, 0, 0) else none
  else bif Nat.beq pc 68 then some (.return_, 69, 0, 0, 0, 0, 0) else none
def rs_X6_readSum : PMR := (0, 0, hdl [], 4)
def mi_X6_readSum : PMI := wrapM 69 cd_X6_readSum rs_X6_readSum
def cd_X6_readTerm (pc : Nat) : Option PE :=
  bif Nat.blt pc 32 then bif Nat.blt pc 12 then bif Nat.blt pc 6 then bif Nat.blt pc 2 then bif Nat.blt pc 1 then bif Nat.beq pc 0 then some (.aload_n 0, 1, 0, 0, 0, 0, 0) else none
  else bif Nat.beq pc 1 then some (.iload_n 1, 2, 1, 0, 0, 0, 0) else none
  else bif Nat.blt pc 5 then bif Nat.beq pc 2 then some (.invokevirtual 149, 5, 58, 2, 6, 0, 0) else none
  else bif Nat.beq pc 5 then some (.iconst 0, 6, 0, 0, 0, 0, 0) else none
  else bif Nat.blt pc 8 then bif Nat.blt pc 7 then bif Nat.beq pc 6 then some (.istore_n 2, 7, 2, 0, 0, 0, 0) else none
  else bif Nat.beq pc 7 then some (.iload_n 2, 8, 2, 0, 0, 0, 0) else none
  else bif Nat.blt pc 9 then bif Nat.beq pc 8 then some (.aload_n 0, 9, 0, 0, 0, 0, 0) else none
  else bif Nat.beq pc 9 then some (.getfield 33, 12, 6, 4, 0, 0, 0) else none
  else bif Nat.blt pc 22 then bif Nat.blt pc 16 then bif Nat.blt pc 15 then bif Nat.beq pc 12 then some (.if_icmp .ge 56, 15, 68, 0, 0, 0, 0) else none
  else bif Nat.beq pc 15 then some (.aload_n 0, 16, 0, 0, 0, 0, 0) else none
  else bif Nat.blt pc 19 then bif Nat.beq pc 16 then some (.getfield 52, 19, 6, 10, 0, 0, 0) else none
  else bif Nat.beq pc 19 then some (.ifCond .ne 49, 22, 68, 0, 0, 0, 0) else none
  else bif Nat.blt pc 26 then bif Nat.blt pc 23 then bif Nat.beq pc 22 then some (.aload_n 0, 23, 0, 0, 0, 0, 0) else none
  else bif Nat.beq pc 23 then some (.getfield 42, 26, 6, 7, 0, 0, 0) else none
  else bif Nat.blt pc 28 then bif Nat.beq pc 26 then some (.bipush 42, 28, 0, 0, 0, 42, 0) else none
  else bif Nat.blt pc 31 then bif Nat.beq pc 28 then some (.if_icmp .eq 12, 31, 40, 0, 0, 0, 0) else none
  else bif Nat.beq pc 31 then some (.aload_n 0, 32, 0, 0, 0, 0, 0) else none
  else bif Nat.blt pc 50 then bif Nat.blt pc 41 then bif Nat.blt pc 37 then bif Nat.blt pc 35 then bif Nat.beq pc 32 then some (.getfield 42, 35, 6, 7, 0, 0, 0) else none
  else bif Nat.beq pc 35 then some (.bipush 47, 37, 0, 0, 0, 47, 0) else none
  else bif Nat.blt pc 40 then bif Nat.beq pc 37 then some (.if_icmp .ne 31, 40, 68, 0, 0, 0, 0) else none
  else bif Nat.beq pc 40 then some (.aload_n 0, 41, 0, 0, 0, 0, 0) else none
  else bif Nat.blt pc 45 then bif Nat.blt pc 44 then bif Nat.beq pc 41 then some (.getfield 42, 44, 6, 7, 0, 0, 0) else none
  else bif Nat.beq pc 44 then some (.istore_n 3, 45, 3, 0, 0, 0, 0) else none
  else bif Nat.blt pc 46 then bif Nat.beq pc 45 then some (.aload_n 0, 46, 0, 0, 0, 0, 0) else none
  else bif Nat.blt pc 49 then bif Nat.beq pc 46 then some (.invokevirtual 102, 49, 65, 1, 6, 0, 0) else none
  else bif Nat.beq pc 49 then some (.aload_n 0, 50, 0, 0, 0, 0, 0) else none
  else bif Nat.blt pc 58 then bif Nat.blt pc 54 then bif Nat.blt pc 51 then bif Nat.beq pc 50 then some (.iload_n 1, 51, 1, 0, 0, 0, 0) else none
  else bif Nat.beq pc 51 then some (.invokevirtual 149, 54, 58, 2, 6, 0, 0) else none
  else bif Nat.blt pc 55 then bif Nat.beq pc 54 then some (.aload_n 0, 55, 0, 0, 0, 0, 0) else none
  else bif Nat.beq pc 55 then some (.getfield 25, 58, 6, 2, 2, 0, 0) else none
  else bif Nat.blt pc 62 then bif Nat.blt pc 59 then bif Nat.beq pc 58 then some (.iload_n 3, 59, 3, 0, 0, 0, 0) else none
  else bif Nat.beq pc 59 then some (.invokevirtual 146, 62, 2, 2, 0, 0, 0) else none
  else bif Nat.blt pc 65 then bif Nat.beq pc 62 then some (.iinc 2 1, 65, 2, 0, 0, 1, 0) else none
  else bif Nat.blt pc 68 then bif Nat.beq pc 65 then some (.goto (-58), 68, 7, 0, 0, 0, 0) else none
  else bif Nat.beq pc 68 then some (.return_, 69, 0, 0, 0, 0, 0) else none
def rs_X6_readTerm : PMR := (0, 0, hdl [], 4)
def mi_X6_readTerm : PMI := wrapM 69 cd_X6_readTerm rs_X6_readTerm
def cd_X6_readFactor (pc : Nat) : Option PE :=
  bif Nat.blt pc 61 then bif Nat.blt pc 29 then bif Nat.blt pc 13 then bif Nat.blt pc 6 then bif Nat.blt pc 1 then bif Nat.beq pc 0 then some (.aload_n 0, 1, 0, 0, 0, 0, 0) else none
  else bif Nat.blt pc 3 then bif Nat.beq pc 1 then some (.ldc 152, 3, 5, 0, 1, 0, 0) else none
  else bif Nat.beq pc 3 then some (.invokevirtual 83, 6, 64, 2, 6, 0, 0) else none
  else bif Nat.blt pc 9 then bif Nat.beq pc 6 then some (.ifCond .eq 20, 9, 26, 0, 0, 0, 0) else none
  else bif Nat.blt pc 10 then bif Nat.beq pc 9 then some (.aload_n 0, 10, 0, 0, 0, 0, 0) else none
  else bif Nat.beq pc 10 then some (.getfield 25, 13, 6, 2, 2, 0, 0) else none
  else bif Nat.blt pc 20 then bif Nat.blt pc 16 then bif Nat.beq pc 13 then some (.sipush 10000, 16, 0, 0, 0, 10000, 0) else none
  else bif Nat.blt pc 19 then bif Nat.beq pc 16 then some (.invokevirtual 154, 19, 1, 2, 0, 0, 0) else none
  else bif Nat.beq pc 19 then some (.aload_n 0, 20, 0, 0, 0, 0, 0) else none
  else bif Nat.blt pc 26 then bif Nat.blt pc 23 then bif Nat.beq pc 20 then some (.invokevirtual 102, 23, 65, 1, 6, 0, 0) else none
  else bif Nat.beq pc 23 then some (.goto 87, 26, 110, 0, 0, 0, 0) else none
  else bif Nat.blt pc 27 then bif Nat.beq pc 26 then some (.aload_n 0, 27, 0, 0, 0, 0, 0) else none
  else bif Nat.beq pc 27 then some (.ldc 157, 29, 6, 0, 1, 0, 0) else none
  else bif Nat.blt pc 45 then bif Nat.blt pc 36 then bif Nat.blt pc 32 then bif Nat.beq pc 29 then some (.invokevirtual 83, 32, 64, 2, 6, 0, 0) else none
  else bif Nat.blt pc 35 then bif Nat.beq pc 32 then some (.ifCond .eq 20, 35, 52, 0, 0, 0, 0) else none
  else bif Nat.beq pc 35 then some (.aload_n 0, 36, 0, 0, 0, 0, 0) else none
  else bif Nat.blt pc 39 then bif Nat.beq pc 36 then some (.getfield 25, 39, 6, 2, 2, 0, 0) else none
  else bif Nat.blt pc 42 then bif Nat.beq pc 39 then some (.sipush 10001, 42, 0, 0, 0, 10001, 0) else none
  else bif Nat.beq pc 42 then some (.invokevirtual 154, 45, 1, 2, 0, 0, 0) else none
  else bif Nat.blt pc 52 then bif Nat.blt pc 46 then bif Nat.beq pc 45 then some (.aload_n 0, 46, 0, 0, 0, 0, 0) else none
  else bif Nat.blt pc 49 then bif Nat.beq pc 46 then some (.invokevirtual 102, 49, 65, 1, 6, 0, 0) else none
  else bif Nat.beq pc 49 then some (.goto 61, 52, 110, 0, 0, 0, 0) else none
  else bif Nat.blt pc 56 then bif Nat.blt pc 53 then bif Nat.beq pc 52 then some (.aload_n 0, 53, 0, 0, 0, 0, 0) else none
  else bif Nat.beq pc 53 then some (.getfield 42, 56, 6, 7, 0, 0, 0) else none
  else bif Nat.blt pc 58 then bif Nat.beq pc 56 then some (.bipush 40, 58, 0, 0, 0, 40, 0) else none
  else bif Nat.beq pc 58 then some (.if_icmp .eq 21, 61, 79, 0, 0, 0, 0) else none
  else bif Nat.blt pc 87 then bif Nat.blt pc 73 then bif Nat.blt pc 66 then bif Nat.blt pc 62 then bif Nat.beq pc 61 then some (.aload_n 0, 62, 0, 0, 0, 0, 0) else none
  else bif Nat.blt pc 65 then bif Nat.beq pc 62 then some (.getfield 25, 65, 6, 2, 2, 0, 0) else none
  else bif Nat.beq pc 65 then some (.aload_n 0, 66, 0, 0, 0, 0, 0) else none
  else bif Nat.blt pc 67 then bif Nat.beq pc 66 then some (.iconst 0, 67, 0, 0, 0, 0, 0) else none
  else bif Nat.blt pc 70 then bif Nat.beq pc 67 then some (.sipush 9999, 70, 0, 0, 0, 9999, 0) else none
  else bif Nat.beq pc 70 then some (.invokevirtual 67, 73, 61, 3, 6, 0, 0) else none
  else bif Nat.blt pc 80 then bif Nat.blt pc 76 then bif Nat.beq pc 73 then some (.invokevirtual 154, 76, 1, 2, 0, 0, 0) else none
  else bif Nat.blt pc 79 then bif Nat.beq pc 76 then some (.goto 34, 79, 110, 0, 0, 0, 0) else none
  else bif Nat.beq pc 79 then some (.iload_n 1, 80, 1, 0, 0, 0, 0) else none
  else bif Nat.blt pc 84 then bif Nat.blt pc 81 then bif Nat.beq pc 80 then some (.iconst 4, 81, 0, 0, 0, 4, 0) else none
  else bif Nat.beq pc 81 then some (.if_icmp .lt 12, 84, 93, 0, 0, 0, 0) else none
  else bif Nat.blt pc 85 then bif Nat.beq pc 84 then some (.aload_n 0, 85, 0, 0, 0, 0, 0) else none
  else bif Nat.beq pc 85 then some (.bipush (-5), 87, 0, 0, 0, (-5), 0) else none
  else bif Nat.blt pc 99 then bif Nat.blt pc 94 then bif Nat.blt pc 90 then bif Nat.beq pc 87 then some (.invokevirtual 108, 90, 60, 2, 6, 0, 0) else none
  else bif Nat.blt pc 93 then bif Nat.beq pc 90 then some (.goto 20, 93, 110, 0, 0, 0, 0) else none
  else bif Nat.beq pc 93 then some (.aload_n 0, 94, 0, 0, 0, 0, 0) else none
  else bif Nat.blt pc 97 then bif Nat.beq pc 94 then some (.invokevirtual 102, 97, 65, 1, 6, 0, 0) else none
  else bif Nat.blt pc 98 then bif Nat.beq pc 97 then some (.aload_n 0, 98, 0, 0, 0, 0, 0) else none
  else bif Nat.beq pc 98 then some (.iload_n 1, 99, 1, 0, 0, 0, 0) else none
  else bif Nat.blt pc 104 then bif Nat.blt pc 100 then bif Nat.beq pc 99 then some (.iconst 1, 100, 0, 0, 0, 1, 0) else none
  else bif Nat.blt pc 101 then bif Nat.beq pc 100 then some (.iadd, 101, 0, 0, 0, 0, 0) else none
  else bif Nat.beq pc 101 then some (.invokevirtual 105, 104, 56, 2, 6, 0, 0) else none
  else bif Nat.blt pc 107 then bif Nat.blt pc 105 then bif Nat.beq pc 104 then some (.aload_n 0, 105, 0, 0, 0, 0, 0) else none
  else bif Nat.beq pc 105 then some (.bipush 41, 107, 0, 0, 0, 41, 0) else none
  else bif Nat.blt pc 110 then bif Nat.beq pc 107 then some (.invokevirtual 77, 110, 63, 2, 6, 0, 0) else none
  else bif Nat.beq pc 110 then some (.return_, 111, 0, 0, 0, 0, 0) else none
def rs_X6_readFactor : PMR := (0, 0, hdl [], 2)
def mi_X6_readFactor : PMI := wrapM 111 cd_X6_readFactor rs_X6_readFactor
def cd_X6_priceServices (pc : Nat) : Option PE :=
  bif Nat.blt pc 37 then bif Nat.blt pc 15 then bif Nat.blt pc 4 then bif Nat.blt pc 2 then bif Nat.blt pc 1 then bif Nat.beq pc 0 then some (.iconst 0, 1, 0, 0, 0, 0, 0) else none
  else bif Nat.beq pc 1 then some (.istore_n 1, 2, 1, 0, 0, 0, 0) else none
  else bif Nat.blt pc 3 then bif Nat.beq pc 2 then some (.iload_n 1, 3, 1, 0, 0, 0, 0) else none
  else bif Nat.beq pc 3 then some (.iconst 2, 4, 0, 0, 0, 2, 0) else none
  else bif Nat.blt pc 8 then bif Nat.blt pc 5 then bif Nat.beq pc 4 then some (.aload_n 0, 5, 0, 0, 0, 0, 0) else none
  else bif Nat.beq pc 5 then some (.getfield 18, 8, 6, 1, 2, 0, 0) else none
  else bif Nat.blt pc 11 then bif Nat.beq pc 8 then some (.getfield 118, 11, 2, 2, 0, 0, 0) else none
  else bif Nat.blt pc 12 then bif Nat.beq pc 11 then some (.imul, 12, 0, 0, 0, 0, 0) else none
  else bif Nat.beq pc 12 then some (.if_icmp .ge 61, 15, 73, 0, 0, 0, 0) else none
  else bif Nat.blt pc 26 then bif Nat.blt pc 19 then bif Nat.blt pc 16 then bif Nat.beq pc 15 then some (.aload_n 0, 16, 0, 0, 0, 0, 0) else none
  else bif Nat.beq pc 16 then some (.getfield 25, 19, 6, 2, 2, 0, 0) else none
  else bif Nat.blt pc 20 then bif Nat.beq pc 19 then some (.aload_n 0, 20, 0, 0, 0, 0, 0) else none
  else bif Nat.blt pc 23 then bif Nat.beq pc 20 then some (.getfield 18, 23, 6, 1, 2, 0, 0) else none
  else bif Nat.beq pc 23 then some (.getfield 159, 26, 2, 5, 2, 0, 0) else none
  else bif Nat.blt pc 30 then bif Nat.blt pc 27 then bif Nat.beq pc 26 then some (.iload_n 1, 27, 1, 0, 0, 0, 0) else none
  else bif Nat.beq pc 27 then some (.invokestatic 163, 30, 101, 2, 99, 0, 0) else none
  else bif Nat.blt pc 31 then bif Nat.beq pc 30 then some (.aload_n 0, 31, 0, 0, 0, 0, 0) else none
  else bif Nat.blt pc 34 then bif Nat.beq pc 31 then some (.getfield 18, 34, 6, 1, 2, 0, 0) else none
  else bif Nat.beq pc 34 then some (.getfield 167, 37, 2, 8, 2, 0, 0) else none
  else bif Nat.blt pc 54 then bif Nat.blt pc 43 then bif Nat.blt pc 39 then bif Nat.blt pc 38 then bif Nat.beq pc 37 then some (.iload_n 1, 38, 1, 0, 0, 0, 0) else none
  else bif Nat.beq pc 38 then some (.iconst 2, 39, 0, 0, 0, 2, 0) else none
  else bif Nat.blt pc 40 then bif Nat.beq pc 39 then some (.idiv, 40, 0, 0, 0, 0, 0) else none
  else bif Nat.beq pc 40 then some (.invokestatic 163, 43, 101, 2, 99, 0, 0) else none
  else bif Nat.blt pc 47 then bif Nat.blt pc 46 then bif Nat.beq pc 43 then some (.invokevirtual 170, 46, 3, 3, 0, 0, 0) else none
  else bif Nat.beq pc 46 then some (.istore_n 2, 47, 2, 0, 0, 0, 0) else none
  else bif Nat.blt pc 48 then bif Nat.beq pc 47 then some (.aload_n 0, 48, 0, 0, 0, 0, 0) else none
  else bif Nat.blt pc 51 then bif Nat.beq pc 48 then some (.getfield 18, 51, 6, 1, 2, 0, 0) else none
  else bif Nat.beq pc 51 then some (.getfield 173, 54, 2, 6, 2, 0, 0) else none
  else bif Nat.blt pc 61 then bif Nat.blt pc 56 then bif Nat.blt pc 55 then bif Nat.beq pc 54 then some (.iload_n 1, 55, 1, 0, 0, 0, 0) else none
  else bif Nat.beq pc 55 then some (.iload_n 2, 56, 2, 0, 0, 0, 0) else none
  else bif Nat.blt pc 57 then bif Nat.beq pc 56 then some (.i2l, 57, 0, 0, 0, 0, 0) else none
  else bif Nat.blt pc 58 then bif Nat.beq pc 57 then some (.iconst 0, 58, 0, 0, 0, 0, 0) else none
  else bif Nat.beq pc 58 then some (.sipush 9999, 61, 0, 0, 0, 9999, 0) else none
  else bif Nat.blt pc 67 then bif Nat.blt pc 64 then bif Nat.beq pc 61 then some (.invokestatic 176, 64, 100, 3, 99, 0, 0) else none
  else bif Nat.beq pc 64 then some (.invokestatic 180, 67, 102, 3, 99, 0, 0) else none
  else bif Nat.blt pc 70 then bif Nat.beq pc 67 then some (.iinc 1 1, 70, 1, 0, 0, 1, 0) else none
  else bif Nat.blt pc 73 then bif Nat.beq pc 70 then some (.goto (-68), 73, 2, 0, 0, 0, 0) else none
  else bif Nat.beq pc 73 then some (.return_, 74, 0, 0, 0, 0, 0) else none
def rs_X6_priceServices : PMR := (0, 0, hdl [], 3)
def mi_X6_priceServices : PMI := wrapM 74 cd_X6_priceServices rs_X6_priceServices
def cd_X6_fail (pc : Nat) : Option PE :=
  bif Nat.blt pc 9 then bif Nat.blt pc 4 then bif Nat.blt pc 1 then bif Nat.beq pc 0 then some (.aload_n 0, 1, 0, 0, 0, 0, 0) else none
  else bif Nat.beq pc 1 then some (.getfield 52, 4, 6, 10, 0, 0, 0) else none
  else bif Nat.blt pc 7 then bif Nat.beq pc 4 then some (.ifCond .ne 16, 7, 20, 0, 0, 0, 0) else none
  else bif Nat.blt pc 8 then bif Nat.beq pc 7 then some (.aload_n 0, 8, 0, 0, 0, 0, 0) else none
  else bif Nat.beq pc 8 then some (.iload_n 1, 9, 1, 0, 0, 0, 0) else none
  else bif Nat.blt pc 14 then bif Nat.blt pc 12 then bif Nat.beq pc 9 then some (.putfield 52, 12, 6, 10, 0, 0, 0) else none
  else bif Nat.blt pc 13 then bif Nat.beq pc 12 then some (.aload_n 0, 13, 0, 0, 0, 0, 0) else none
  else bif Nat.beq pc 13 then some (.aload_n 0, 14, 0, 0, 0, 0, 0) else none
  else bif Nat.blt pc 17 then bif Nat.beq pc 14 then some (.getfield 36, 17, 6, 5, 0, 0, 0) else none
  else bif Nat.blt pc 20 then bif Nat.beq pc 17 then some (.putfield 55, 20, 6, 11, 0, 0, 0) else none
  else bif Nat.beq pc 20 then some (.return_, 21, 0, 0, 0, 0, 0) else none
def rs_X6_fail : PMR := (0, 0, hdl [], 2)
def mi_X6_fail : PMI := wrapM 21 cd_X6_fail rs_X6_fail
def cd_X6_takeNumber (pc : Nat) : Option PE :=
  bif Nat.blt pc 24 then bif Nat.blt pc 12 then bif Nat.blt pc 5 then bif Nat.blt pc 1 then bif Nat.beq pc 0 then some (.aload_n 0, 1, 0, 0, 0, 0, 0) else none
  else bif Nat.blt pc 4 then bif Nat.beq pc 1 then some (.getfield 45, 4, 6, 8, 0, 0, 0) else none
  else bif Nat.beq pc 4 then some (.istore_n 3, 5, 3, 0, 0, 0, 0) else none
  else bif Nat.blt pc 6 then bif Nat.beq pc 5 then some (.aload_n 0, 6, 0, 0, 0, 0, 0) else none
  else bif Nat.blt pc 9 then bif Nat.beq pc 6 then some (.getfield 42, 9, 6, 7, 0, 0, 0) else none
  else bif Nat.beq pc 9 then some (.sipush 256, 12, 0, 0, 0, 256, 0) else none
  else bif Nat.blt pc 18 then bif Nat.blt pc 15 then bif Nat.beq pc 12 then some (.if_icmp .eq 11, 15, 23, 0, 0, 0, 0) else none
  else bif Nat.blt pc 16 then bif Nat.beq pc 15 then some (.aload_n 0, 16, 0, 0, 0, 0, 0) else none
  else bif Nat.beq pc 16 then some (.bipush (-2), 18, 0, 0, 0, (-2), 0) else none
  else bif Nat.blt pc 22 then bif Nat.blt pc 21 then bif Nat.beq pc 18 then some (.invokevirtual 108, 21, 60, 2, 6, 0, 0) else none
  else bif Nat.beq pc 21 then some (.iload_n 1, 22, 1, 0, 0, 0, 0) else none
  else bif Nat.blt pc 23 then bif Nat.beq pc 22 then some (.ireturn, 23, 0, 0, 0, 0, 0) else none
  else bif Nat.beq pc 23 then some (.iload_n 3, 24, 3, 0, 0, 0, 0) else none
  else bif Nat.blt pc 36 then bif Nat.blt pc 29 then bif Nat.blt pc 25 then bif Nat.beq pc 24 then some (.iload_n 1, 25, 1, 0, 0, 0, 0) else none
  else bif Nat.blt pc 28 then bif Nat.beq pc 25 then some (.if_icmp .lt 8, 28, 33, 0, 0, 0, 0) else none
  else bif Nat.beq pc 28 then some (.iload_n 3, 29, 3, 0, 0, 0, 0) else none
  else bif Nat.blt pc 33 then bif Nat.blt pc 30 then bif Nat.beq pc 29 then some (.iload_n 2, 30, 2, 0, 0, 0, 0) else none
  else bif Nat.beq pc 30 then some (.if_icmp .le 11, 33, 41, 0, 0, 0, 0) else none
  else bif Nat.blt pc 34 then bif Nat.beq pc 33 then some (.aload_n 0, 34, 0, 0, 0, 0, 0) else none
  else bif Nat.beq pc 34 then some (.bipush (-3), 36, 0, 0, 0, (-3), 0) else none
  else bif Nat.blt pc 41 then bif Nat.blt pc 39 then bif Nat.beq pc 36 then some (.invokevirtual 108, 39, 60, 2, 6, 0, 0) else none
  else bif Nat.blt pc 40 then bif Nat.beq pc 39 then some (.iload_n 1, 40, 1, 0, 0, 0, 0) else none
  else bif Nat.beq pc 40 then some (.ireturn, 41, 0, 0, 0, 0, 0) else none
  else bif Nat.blt pc 45 then bif Nat.blt pc 42 then bif Nat.beq pc 41 then some (.aload_n 0, 42, 0, 0, 0, 0, 0) else none
  else bif Nat.beq pc 42 then some (.invokevirtual 102, 45, 65, 1, 6, 0, 0) else none
  else bif Nat.blt pc 46 then bif Nat.beq pc 45 then some (.iload_n 3, 46, 3, 0, 0, 0, 0) else none
  else bif Nat.beq pc 46 then some (.ireturn, 47, 0, 0, 0, 0, 0) else none
def rs_X6_takeNumber : PMR := (1, 0, hdl [], 4)
def mi_X6_takeNumber : PMI := wrapM 47 cd_X6_takeNumber rs_X6_takeNumber
def cd_X6_takeWord (pc : Nat) : Option PE :=
  bif Nat.blt pc 9 then bif Nat.blt pc 2 then bif Nat.blt pc 1 then bif Nat.beq pc 0 then some (.aload_n 0, 1, 0, 0, 0, 0, 0) else none
  else bif Nat.beq pc 1 then some (.aload_n 1, 2, 1, 0, 0, 0, 0) else none
  else bif Nat.blt pc 5 then bif Nat.beq pc 2 then some (.invokevirtual 83, 5, 64, 2, 6, 0, 0) else none
  else bif Nat.blt pc 8 then bif Nat.beq pc 5 then some (.ifCond .ne 9, 8, 14, 0, 0, 0, 0) else none
  else bif Nat.beq pc 8 then some (.aload_n 0, 9, 0, 0, 0, 0, 0) else none
  else bif Nat.blt pc 14 then bif Nat.blt pc 11 then bif Nat.beq pc 9 then some (.bipush (-2), 11, 0, 0, 0, (-2), 0) else none
  else bif Nat.beq pc 11 then some (.invokevirtual 108, 14, 60, 2, 6, 0, 0) else none
  else bif Nat.blt pc 15 then bif Nat.beq pc 14 then some (.aload_n 0, 15, 0, 0, 0, 0, 0) else none
  else bif Nat.blt pc 18 then bif Nat.beq pc 15 then some (.invokevirtual 102, 18, 65, 1, 6, 0, 0) else none
  else bif Nat.beq pc 18 then some (.return_, 19, 0, 0, 0, 0, 0) else none
def rs_X6_takeWord : PMR := (0, 0, hdl [], 2)
def mi_X6_takeWord : PMI := wrapM 19 cd_X6_takeWord rs_X6_takeWord
def cd_X6_takeSign (pc : Nat) : Option PE :=
  bif Nat.blt pc 9 then bif Nat.blt pc 4 then bif Nat.blt pc 1 then bif Nat.beq pc 0 then some (.aload_n 0, 1, 0, 0, 0, 0, 0) else none
  else bif Nat.beq pc 1 then some (.getfield 42, 4, 6, 7, 0, 0, 0) else none
  else bif Nat.blt pc 5 then bif Nat.beq pc 4 then some (.iload_n 1, 5, 1, 0, 0, 0, 0) else none
  else bif Nat.blt pc 8 then bif Nat.beq pc 5 then some (.if_icmp .eq 9, 8, 14, 0, 0, 0, 0) else none
  else bif Nat.beq pc 8 then some (.aload_n 0, 9, 0, 0, 0, 0, 0) else none
  else bif Nat.blt pc 14 then bif Nat.blt pc 11 then bif Nat.beq pc 9 then some (.bipush (-2), 11, 0, 0, 0, (-2), 0) else none
  else bif Nat.beq pc 11 then some (.invokevirtual 108, 14, 60, 2, 6, 0, 0) else none
  else bif Nat.blt pc 15 then bif Nat.beq pc 14 then some (.aload_n 0, 15, 0, 0, 0, 0, 0) else none
  else bif Nat.blt pc 18 then bif Nat.beq pc 15 then some (.invokevirtual 102, 18, 65, 1, 6, 0, 0) else none
  else bif Nat.beq pc 18 then some (.return_, 19, 0, 0, 0, 0, 0) else none
def rs_X6_takeSign : PMR := (0, 0, hdl [], 2)
def mi_X6_takeSign : PMI := wrapM 19 cd_X6_takeSign rs_X6_takeSign
def cd_X6_isWord (pc : Nat) : Option PE :=
  bif Nat.blt pc 32 then bif Nat.blt pc 19 then bif Nat.blt pc 10 then bif Nat.blt pc 4 then bif Nat.blt pc 1 then bif Nat.beq pc 0 then some (.aload_n 0, 1, 0, 0, 0, 0, 0) else none
  else bif Nat.beq pc 1 then some (.getfield 42, 4, 6, 7, 0, 0, 0) else none
  else bif Nat.blt pc 7 then bif Nat.beq pc 4 then some (.sipush 257, 7, 0, 0, 0, 257, 0) else none
  else bif Nat.beq pc 7 then some (.if_icmp .ne 19, 10, 26, 0, 0, 0, 0) else none
  else bif Nat.blt pc 14 then bif Nat.blt pc 11 then bif Nat.beq pc 10 then some (.aload_n 0, 11, 0, 0, 0, 0, 0) else none
  else bif Nat.beq pc 11 then some (.getfield 39, 14, 6, 6, 0, 0, 0) else none
  else bif Nat.blt pc 15 then bif Nat.beq pc 14 then some (.aload_n 0, 15, 0, 0, 0, 0, 0) else none
  else bif Nat.blt pc 18 then bif Nat.beq pc 15 then some (.getfield 36, 18, 6, 5, 0, 0, 0) else none
  else bif Nat.beq pc 18 then some (.isub, 19, 0, 0, 0, 0, 0) else none
  else bif Nat.blt pc 27 then bif Nat.blt pc 23 then bif Nat.blt pc 20 then bif Nat.beq pc 19 then some (.aload_n 1, 20, 1, 0, 0, 0, 0) else none
  else bif Nat.beq pc 20 then some (.invokevirtual 184, 23, 0, 0, 110, 0, 0) else none
  else bif Nat.blt pc 26 then bif Nat.beq pc 23 then some (.if_icmp .eq 5, 26, 28, 0, 0, 0, 0) else none
  else bif Nat.beq pc 26 then some (.iconst 0, 27, 0, 0, 0, 0, 0) else none
  else bif Nat.blt pc 29 then bif Nat.blt pc 28 then bif Nat.beq pc 27 then some (.ireturn, 28, 0, 0, 0, 0, 0) else none
  else bif Nat.beq pc 28 then some (.iconst 0, 29, 0, 0, 0, 0, 0) else none
  else bif Nat.blt pc 30 then bif Nat.beq pc 29 then some (.istore_n 2, 30, 2, 0, 0, 0, 0) else none
  else bif Nat.blt pc 31 then bif Nat.beq pc 30 then some (.iload_n 2, 31, 2, 0, 0, 0, 0) else none
  else bif Nat.beq pc 31 then some (.aload_n 1, 32, 1, 0, 0, 0, 0) else none
  else bif Nat.blt pc 49 then bif Nat.blt pc 40 then bif Nat.blt pc 38 then bif Nat.blt pc 35 then bif Nat.beq pc 32 then some (.invokevirtual 184, 35, 0, 0, 110, 0, 0) else none
  else bif Nat.beq pc 35 then some (.if_icmp .ge 29, 38, 64, 0, 0, 0, 0) else none
  else bif Nat.blt pc 39 then bif Nat.beq pc 38 then some (.aload_n 0, 39, 0, 0, 0, 0, 0) else none
  else bif Nat.beq pc 39 then some (.aload_n 0, 40, 0, 0, 0, 0, 0) else none
  else bif Nat.blt pc 44 then bif Nat.blt pc 43 then bif Nat.beq pc 40 then some (.getfield 36, 43, 6, 5, 0, 0, 0) else none
  else bif Nat.beq pc 43 then some (.iload_n 2, 44, 2, 0, 0, 0, 0) else none
  else bif Nat.blt pc 45 then bif Nat.beq pc 44 then some (.iadd, 45, 0, 0, 0, 0, 0) else none
  else bif Nat.blt pc 48 then bif Nat.beq pc 45 then some (.invokevirtual 189, 48, 66, 2, 6, 0, 0) else none
  else bif Nat.beq pc 48 then some (.aload_n 1, 49, 1, 0, 0, 0, 0) else none
  else bif Nat.blt pc 57 then bif Nat.blt pc 53 then bif Nat.blt pc 50 then bif Nat.beq pc 49 then some (.iload_n 2, 50, 2, 0, 0, 0, 0) else none
  else bif Nat.beq pc 50 then some (.invokevirtual 192, 53, 0, 0, 111, 0, 0) else none
  else bif Nat.blt pc 56 then bif Nat.beq pc 53 then some (.if_icmp .eq 5, 56, 58, 0, 0, 0, 0) else none
  else bif Nat.beq pc 56 then some (.iconst 0, 57, 0, 0, 0, 0, 0) else none
  else bif Nat.blt pc 61 then bif Nat.blt pc 58 then bif Nat.beq pc 57 then some (.ireturn, 58, 0, 0, 0, 0, 0) else none
  else bif Nat.beq pc 58 then some (.iinc 2 1, 61, 2, 0, 0, 1, 0) else none
  else bif Nat.blt pc 64 then bif Nat.beq pc 61 then some (.goto (-31), 64, 30, 0, 0, 0, 0) else none
  else bif Nat.blt pc 65 then bif Nat.beq pc 64 then some (.iconst 1, 65, 0, 0, 0, 1, 0) else none
  else bif Nat.beq pc 65 then some (.ireturn, 66, 0, 0, 0, 0, 0) else none
def rs_X6_isWord : PMR := (2, 0, hdl [], 3)
def mi_X6_isWord : PMI := wrapM 66 cd_X6_isWord rs_X6_isWord
def cd_X6_next (pc : Nat) : Option PE :=
  bif Nat.blt pc 128 then bif Nat.blt pc 59 then bif Nat.blt pc 32 then bif Nat.blt pc 13 then bif Nat.blt pc 5 then bif Nat.blt pc 1 then bif Nat.beq pc 0 then some (.aload_n 0, 1, 0, 0, 0, 0, 0) else none
  else bif Nat.blt pc 2 then bif Nat.beq pc 1 then some (.aload_n 0, 2, 0, 0, 0, 0, 0) else none
  else bif Nat.beq pc 2 then some (.getfield 39, 5, 6, 6, 0, 0, 0) else none
  else bif Nat.blt pc 9 then bif Nat.blt pc 8 then bif Nat.beq pc 5 then some (.putfield 36, 8, 6, 5, 0, 0, 0) else none
  else bif Nat.beq pc 8 then some (.aload_n 0, 9, 0, 0, 0, 0, 0) else none
  else bif Nat.blt pc 12 then bif Nat.beq pc 9 then some (.getfield 36, 12, 6, 5, 0, 0, 0) else none
  else bif Nat.beq pc 12 then some (.aload_n 0, 13, 0, 0, 0, 0, 0) else none
  else bif Nat.blt pc 21 then bif Nat.blt pc 19 then bif Nat.blt pc 16 then bif Nat.beq pc 13 then some (.getfield 33, 16, 6, 4, 0, 0, 0) else none
  else bif Nat.beq pc 16 then some (.if_icmp .ge 29, 19, 45, 0, 0, 0, 0) else none
  else bif Nat.blt pc 20 then bif Nat.beq pc 19 then some (.aload_n 0, 20, 0, 0, 0, 0, 0) else none
  else bif Nat.beq pc 20 then some (.aload_n 0, 21, 0, 0, 0, 0, 0) else none
  else bif Nat.blt pc 27 then bif Nat.blt pc 24 then bif Nat.beq pc 21 then some (.getfield 36, 24, 6, 5, 0, 0, 0) else none
  else bif Nat.beq pc 24 then some (.invokevirtual 189, 27, 66, 2, 6, 0, 0) else none
  else bif Nat.blt pc 29 then bif Nat.beq pc 27 then some (.bipush 32, 29, 0, 0, 0, 32, 0) else none
  else bif Nat.beq pc 29 then some (.if_icmp .ne 16, 32, 45, 0, 0, 0, 0) else none
  else bif Nat.blt pc 45 then bif Nat.blt pc 37 then bif Nat.blt pc 33 then bif Nat.beq pc 32 then some (.aload_n 0, 33, 0, 0, 0, 0, 0) else none
  else bif Nat.blt pc 34 then bif Nat.beq pc 33 then some (.dup, 34, 0, 0, 0, 0, 0) else none
  else bif Nat.beq pc 34 then some (.getfield 36, 37, 6, 5, 0, 0, 0) else none
  else bif Nat.blt pc 39 then bif Nat.blt pc 38 then bif Nat.beq pc 37 then some (.iconst 1, 38, 0, 0, 0, 1, 0) else none
  else bif Nat.beq pc 38 then some (.iadd, 39, 0, 0, 0, 0, 0) else none
  else bif Nat.blt pc 42 then bif Nat.beq pc 39 then some (.putfield 36, 42, 6, 5, 0, 0, 0) else none
  else bif Nat.beq pc 42 then some (.goto (-34), 45, 8, 0, 0, 0, 0) else none
  else bif Nat.blt pc 53 then bif Nat.blt pc 47 then bif Nat.blt pc 46 then bif Nat.beq pc 45 then some (.aload_n 0, 46, 0, 0, 0, 0, 0) else none
  else bif Nat.beq pc 46 then some (.aload_n 0, 47, 0, 0, 0, 0, 0) else none
  else bif Nat.blt pc 50 then bif Nat.beq pc 47 then some (.getfield 36, 50, 6, 5, 0, 0, 0) else none
  else bif Nat.beq pc 50 then some (.putfield 39, 53, 6, 6, 0, 0, 0) else none
  else bif Nat.blt pc 55 then bif Nat.blt pc 54 then bif Nat.beq pc 53 then some (.aload_n 0, 54, 0, 0, 0, 0, 0) else none
  else bif Nat.beq pc 54 then some (.iconst 0, 55, 0, 0, 0, 0, 0) else none
  else bif Nat.blt pc 58 then bif Nat.beq pc 55 then some (.putfield 45, 58, 6, 8, 0, 0, 0) else none
  else bif Nat.beq pc 58 then some (.aload_n 0, 59, 0, 0, 0, 0, 0) else none
  else bif Nat.blt pc 94 then bif Nat.blt pc 76 then bif Nat.blt pc 66 then bif Nat.blt pc 62 then bif Nat.beq pc 59 then some (.getfield 36, 62, 6, 5, 0, 0, 0) else none
  else bif Nat.blt pc 63 then bif Nat.beq pc 62 then some (.aload_n 0, 63, 0, 0, 0, 0, 0) else none
  else bif Nat.beq pc 63 then some (.getfield 33, 66, 6, 4, 0, 0, 0) else none
  else bif Nat.blt pc 70 then bif Nat.blt pc 69 then bif Nat.beq pc 66 then some (.if_icmp .lt 13, 69, 79, 0, 0, 0, 0) else none
  else bif Nat.beq pc 69 then some (.aload_n 0, 70, 0, 0, 0, 0, 0) else none
  else bif Nat.blt pc 73 then bif Nat.beq pc 70 then some (.sipush 258, 73, 0, 0, 0, 258, 0) else none
  else bif Nat.beq pc 73 then some (.putfield 42, 76, 6, 7, 0, 0, 0) else none
  else bif Nat.blt pc 84 then bif Nat.blt pc 80 then bif Nat.blt pc 79 then bif Nat.beq pc 76 then some (.goto 171, 79, 247, 0, 0, 0, 0) else none
  else bif Nat.beq pc 79 then some (.aload_n 0, 80, 0, 0, 0, 0, 0) else none
  else bif Nat.blt pc 81 then bif Nat.beq pc 80 then some (.aload_n 0, 81, 0, 0, 0, 0, 0) else none
  else bif Nat.beq pc 81 then some (.getfield 36, 84, 6, 5, 0, 0, 0) else none
  else bif Nat.blt pc 90 then bif Nat.blt pc 87 then bif Nat.beq pc 84 then some (.invokevirtual 189, 87, 66, 2, 6, 0, 0) else none
  else bif Nat.beq pc 87 then some (.invokestatic 196, 90, 67, 1, 99, 0, 0) else none
  else bif Nat.blt pc 93 then bif Nat.beq pc 90 then some (.ifCond .eq 76, 93, 166, 0, 0, 0, 0) else none
  else bif Nat.beq pc 93 then some (.aload_n 0, 94, 0, 0, 0, 0, 0) else none
  else bif Nat.blt pc 111 then bif Nat.blt pc 101 then bif Nat.blt pc 97 then bif Nat.beq pc 94 then some (.sipush 256, 97, 0, 0, 0, 256, 0) else none
  else bif Nat.blt pc 100 then bif Nat.beq pc 97 then some (.putfield 42, 100, 6, 7, 0, 0, 0) else none
  else bif Nat.beq pc 100 then some (.aload_n 0, 101, 0, 0, 0, 0, 0) else none
  else bif Nat.blt pc 105 then bif Nat.blt pc 104 then bif Nat.beq pc 101 then some (.getfield 39, 104, 6, 6, 0, 0, 0) else none
  else bif Nat.beq pc 104 then some (.aload_n 0, 105, 0, 0, 0, 0, 0) else none
  else bif Nat.blt pc 108 then bif Nat.beq pc 105 then some (.getfield 33, 108, 6, 4, 0, 0, 0) else none
  else bif Nat.beq pc 108 then some (.if_icmp .ge 139, 111, 247, 0, 0, 0, 0) else none
  else bif Nat.blt pc 119 then bif Nat.blt pc 113 then bif Nat.blt pc 112 then bif Nat.beq pc 111 then some (.aload_n 0, 112, 0, 0, 0, 0, 0) else none
  else bif Nat.beq pc 112 then some (.aload_n 0, 113, 0, 0, 0, 0, 0) else none
  else bif Nat.blt pc 116 then bif Nat.beq pc 113 then some (.getfield 39, 116, 6, 6, 0, 0, 0) else none
  else bif Nat.beq pc 116 then some (.invokevirtual 189, 119, 66, 2, 6, 0, 0) else none
  else bif Nat.blt pc 125 then bif Nat.blt pc 122 then bif Nat.beq pc 119 then some (.invokestatic 196, 122, 67, 1, 99, 0, 0) else none
  else bif Nat.beq pc 122 then some (.ifCond .eq 125, 125, 247, 0, 0, 0, 0) else none
  else bif Nat.blt pc 126 then bif Nat.beq pc 125 then some (.aload_n 0, 126, 0, 0, 0, 0, 0) else none
  else bif Nat.beq pc 126 then some (.ldc 200, 128, 0, 0, 0, 100000, 0) else none
  else bif Nat.blt pc 188 then bif Nat.blt pc 155 then bif Nat.blt pc 140 then bif Nat.blt pc 134 then bif Nat.blt pc 130 then bif Nat.beq pc 128 then some (.bipush 10, 130, 0, 0, 0, 10, 0) else none
  else bif Nat.blt pc 131 then bif Nat.beq pc 130 then some (.aload_n 0, 131, 0, 0, 0, 0, 0) else none
  else bif Nat.beq pc 131 then some (.getfield 45, 134, 6, 8, 0, 0, 0) else none
  else bif Nat.blt pc 136 then bif Nat.blt pc 135 then bif Nat.beq pc 134 then some (.imul, 135, 0, 0, 0, 0, 0) else none
  else bif Nat.beq pc 135 then some (.aload_n 0, 136, 0, 0, 0, 0, 0) else none
  else bif Nat.blt pc 137 then bif Nat.beq pc 136 then some (.aload_n 0, 137, 0, 0, 0, 0, 0) else none
  else bif Nat.beq pc 137 then some (.getfield 39, 140, 6, 6, 0, 0, 0) else none
  else bif Nat.blt pc 147 then bif Nat.blt pc 144 then bif Nat.blt pc 143 then bif Nat.beq pc 140 then some (.invokevirtual 189, 143, 66, 2, 6, 0, 0) else none
  else bif Nat.beq pc 143 then some (.iadd, 144, 0, 0, 0, 0, 0) else none
  else bif Nat.blt pc 146 then bif Nat.beq pc 144 then some (.bipush 48, 146, 0, 0, 0, 48, 0) else none
  else bif Nat.beq pc 146 then some (.isub, 147, 0, 0, 0, 0, 0) else none
  else bif Nat.blt pc 153 then bif Nat.blt pc 150 then bif Nat.beq pc 147 then some (.invokestatic 201, 150, 0, 0, 100, 0, 0) else none
  else bif Nat.beq pc 150 then some (.putfield 45, 153, 6, 8, 0, 0, 0) else none
  else bif Nat.blt pc 154 then bif Nat.beq pc 153 then some (.aload_n 0, 154, 0, 0, 0, 0, 0) else none
  else bif Nat.beq pc 154 then some (.dup, 155, 0, 0, 0, 0, 0) else none
  else bif Nat.blt pc 168 then bif Nat.blt pc 160 then bif Nat.blt pc 158 then bif Nat.beq pc 155 then some (.getfield 39, 158, 6, 6, 0, 0, 0) else none
  else bif Nat.blt pc 159 then bif Nat.beq pc 158 then some (.iconst 1, 159, 0, 0, 0, 1, 0) else none
  else bif Nat.beq pc 159 then some (.iadd, 160, 0, 0, 0, 0, 0) else none
  else bif Nat.blt pc 166 then bif Nat.blt pc 163 then bif Nat.beq pc 160 then some (.putfield 39, 163, 6, 6, 0, 0, 0) else none
  else bif Nat.beq pc 163 then some (.goto (-63), 166, 100, 0, 0, 0, 0) else none
  else bif Nat.blt pc 167 then bif Nat.beq pc 166 then some (.aload_n 0, 167, 0, 0, 0, 0, 0) else none
  else bif Nat.beq pc 167 then some (.aload_n 0, 168, 0, 0, 0, 0, 0) else none
  else bif Nat.blt pc 180 then bif Nat.blt pc 174 then bif Nat.blt pc 171 then bif Nat.beq pc 168 then some (.getfield 36, 171, 6, 5, 0, 0, 0) else none
  else bif Nat.beq pc 171 then some (.invokevirtual 189, 174, 66, 2, 6, 0, 0) else none
  else bif Nat.blt pc 177 then bif Nat.beq pc 174 then some (.invokestatic 206, 177, 68, 1, 99, 0, 0) else none
  else bif Nat.beq pc 177 then some (.ifCond .eq 48, 180, 225, 0, 0, 0, 0) else none
  else bif Nat.blt pc 184 then bif Nat.blt pc 181 then bif Nat.beq pc 180 then some (.aload_n 0, 181, 0, 0, 0, 0, 0) else none
  else bif Nat.beq pc 181 then some (.sipush 257, 184, 0, 0, 0, 257, 0) else none
  else bif Nat.blt pc 187 then bif Nat.beq pc 184 then some (.putfield 42, 187, 6, 7, 0, 0, 0) else none
  else bif Nat.beq pc 187 then some (.aload_n 0, 188, 0, 0, 0, 0, 0) else none
  else bif Nat.blt pc 219 then bif Nat.blt pc 203 then bif Nat.blt pc 195 then bif Nat.blt pc 191 then bif Nat.beq pc 188 then some (.getfield 39, 191, 6, 6, 0, 0, 0) else none
  else bif Nat.blt pc 192 then bif Nat.beq pc 191 then some (.aload_n 0, 192, 0, 0, 0, 0, 0) else none
  else bif Nat.beq pc 192 then some (.getfield 33, 195, 6, 4, 0, 0, 0) else none
  else bif Nat.blt pc 199 then bif Nat.blt pc 198 then bif Nat.beq pc 195 then some (.if_icmp .ge 52, 198, 247, 0, 0, 0, 0) else none
  else bif Nat.beq pc 198 then some (.aload_n 0, 199, 0, 0, 0, 0, 0) else none
  else bif Nat.blt pc 200 then bif Nat.beq pc 199 then some (.aload_n 0, 200, 0, 0, 0, 0, 0) else none
  else bif Nat.beq pc 200 then some (.getfield 39, 203, 6, 6, 0, 0, 0) else none
  else bif Nat.blt pc 213 then bif Nat.blt pc 209 then bif Nat.blt pc 206 then bif Nat.beq pc 203 then some (.invokevirtual 189, 206, 66, 2, 6, 0, 0) else none
  else bif Nat.beq pc 206 then some (.invokestatic 206, 209, 68, 1, 99, 0, 0) else none
  else bif Nat.blt pc 212 then bif Nat.beq pc 209 then some (.ifCond .eq 38, 212, 247, 0, 0, 0, 0) else none
  else bif Nat.beq pc 212 then some (.aload_n 0, 213, 0, 0, 0, 0, 0) else none
  else bif Nat.blt pc 217 then bif Nat.blt pc 214 then bif Nat.beq pc 213 then some (.dup, 214, 0, 0, 0, 0, 0) else none
  else bif Nat.beq pc 214 then some (.getfield 39, 217, 6, 6, 0, 0, 0) else none
  else bif Nat.blt pc 218 then bif Nat.beq pc 217 then some (.iconst 1, 218, 0, 0, 0, 1, 0) else none
  else bif Nat.beq pc 218 then some (.iadd, 219, 0, 0, 0, 0, 0) else none
  else bif Nat.blt pc 234 then bif Nat.blt pc 226 then bif Nat.blt pc 222 then bif Nat.beq pc 219 then some (.putfield 39, 222, 6, 6, 0, 0, 0) else none
  else bif Nat.blt pc 225 then bif Nat.beq pc 222 then some (.goto (-35), 225, 187, 0, 0, 0, 0) else none
  else bif Nat.beq pc 225 then some (.aload_n 0, 226, 0, 0, 0, 0, 0) else none
  else bif Nat.blt pc 228 then bif Nat.blt pc 227 then bif Nat.beq pc 226 then some (.aload_n 0, 227, 0, 0, 0, 0, 0) else none
  else bif Nat.beq pc 227 then some (.aload_n 0, 228, 0, 0, 0, 0, 0) else none
  else bif Nat.blt pc 231 then bif Nat.beq pc 228 then some (.getfield 36, 231, 6, 5, 0, 0, 0) else none
  else bif Nat.beq pc 231 then some (.invokevirtual 189, 234, 66, 2, 6, 0, 0) else none
  else bif Nat.blt pc 242 then bif Nat.blt pc 238 then bif Nat.blt pc 237 then bif Nat.beq pc 234 then some (.putfield 42, 237, 6, 7, 0, 0, 0) else none
  else bif Nat.beq pc 237 then some (.aload_n 0, 238, 0, 0, 0, 0, 0) else none
  else bif Nat.blt pc 239 then bif Nat.beq pc 238 then some (.dup, 239, 0, 0, 0, 0, 0) else none
  else bif Nat.beq pc 239 then some (.getfield 39, 242, 6, 6, 0, 0, 0) else none
  else bif Nat.blt pc 244 then bif Nat.blt pc 243 then bif Nat.beq pc 242 then some (.iconst 1, 243, 0, 0, 0, 1, 0) else none
  else bif Nat.beq pc 243 then some (.iadd, 244, 0, 0, 0, 0, 0) else none
  else bif Nat.blt pc 247 then bif Nat.beq pc 244 then some (.putfield 39, 247, 6, 6, 0, 0, 0) else none
  else bif Nat.beq pc 247 then some (.return_, 248, 0, 0, 0, 0, 0) else none
def rs_X6_next : PMR := (0, 0, hdl [], 1)
def mi_X6_next : PMI := wrapM 248 cd_X6_next rs_X6_next
def cd_X6_byteAt (pc : Nat) : Option PE :=
  bif Nat.blt pc 14 then bif Nat.blt pc 6 then bif Nat.blt pc 4 then bif Nat.blt pc 1 then bif Nat.beq pc 0 then some (.iload_n 1, 1, 1, 0, 0, 0, 0) else none
  else bif Nat.beq pc 1 then some (.ifCond .lt 25, 4, 26, 0, 0, 0, 0) else none
  else bif Nat.blt pc 5 then bif Nat.beq pc 4 then some (.iload_n 1, 5, 1, 0, 0, 0, 0) else none
  else bif Nat.beq pc 5 then some (.aload_n 0, 6, 0, 0, 0, 0, 0) else none
  else bif Nat.blt pc 10 then bif Nat.blt pc 9 then bif Nat.beq pc 6 then some (.getfield 9, 9, 6, 0, 2, 0, 0) else none
  else bif Nat.beq pc 9 then some (.arraylength, 10, 0, 0, 0, 0, 0) else none
  else bif Nat.blt pc 13 then bif Nat.beq pc 10 then some (.if_icmp .ge 16, 13, 26, 0, 0, 0, 0) else none
  else bif Nat.beq pc 13 then some (.aload_n 0, 14, 0, 0, 0, 0, 0) else none
  else bif Nat.blt pc 22 then bif Nat.blt pc 18 then bif Nat.blt pc 17 then bif Nat.beq pc 14 then some (.getfield 9, 17, 6, 0, 2, 0, 0) else none
  else bif Nat.beq pc 17 then some (.iload_n 1, 18, 1, 0, 0, 0, 0) else none
  else bif Nat.blt pc 19 then bif Nat.beq pc 18 then some (.baload, 19, 0, 0, 0, 0, 0) else none
  else bif Nat.beq pc 19 then some (.sipush 255, 22, 0, 0, 0, 255, 0) else none
  else bif Nat.blt pc 26 then bif Nat.blt pc 23 then bif Nat.beq pc 22 then some (.iand, 23, 0, 0, 0, 0, 0) else none
  else bif Nat.beq pc 23 then some (.goto 4, 26, 27, 0, 0, 0, 0) else none
  else bif Nat.blt pc 27 then bif Nat.beq pc 26 then some (.iconst 0, 27, 0, 0, 0, 0, 0) else none
  else bif Nat.beq pc 27 then some (.ireturn, 28, 0, 0, 0, 0, 0) else none
def rs_X6_byteAt : PMR := (1, 0, hdl [], 2)
def mi_X6_byteAt : PMI := wrapM 28 cd_X6_byteAt rs_X6_byteAt
def cd_X6_isDigit (pc : Nat) : Option PE :=
  bif Nat.blt pc 9 then bif Nat.blt pc 3 then bif Nat.blt pc 1 then bif Nat.beq pc 0 then some (.iload_n 0, 1, 0, 0, 0, 0, 0) else none
  else bif Nat.beq pc 1 then some (.bipush 48, 3, 0, 0, 0, 48, 0) else none
  else bif Nat.blt pc 6 then bif Nat.beq pc 3 then some (.if_icmp .lt 13, 6, 16, 0, 0, 0, 0) else none
  else bif Nat.blt pc 7 then bif Nat.beq pc 6 then some (.iload_n 0, 7, 0, 0, 0, 0, 0) else none
  else bif Nat.beq pc 7 then some (.bipush 57, 9, 0, 0, 0, 57, 0) else none
  else bif Nat.blt pc 13 then bif Nat.blt pc 12 then bif Nat.beq pc 9 then some (.if_icmp .gt 7, 12, 16, 0, 0, 0, 0) else none
  else bif Nat.beq pc 12 then some (.iconst 1, 13, 0, 0, 0, 1, 0) else none
  else bif Nat.blt pc 16 then bif Nat.beq pc 13 then some (.goto 4, 16, 17, 0, 0, 0, 0) else none
  else bif Nat.blt pc 17 then bif Nat.beq pc 16 then some (.iconst 0, 17, 0, 0, 0, 0, 0) else none
  else bif Nat.beq pc 17 then some (.ireturn, 18, 0, 0, 0, 0, 0) else none
def rs_X6_isDigit : PMR := (2, 0, hdl [], 1)
def mi_X6_isDigit : PMI := wrapM 18 cd_X6_isDigit rs_X6_isDigit
def cd_X6_isLetter (pc : Nat) : Option PE :=
  bif Nat.blt pc 9 then bif Nat.blt pc 3 then bif Nat.blt pc 1 then bif Nat.beq pc 0 then some (.iload_n 0, 1, 0, 0, 0, 0, 0) else none
  else bif Nat.beq pc 1 then some (.bipush 97, 3, 0, 0, 0, 97, 0) else none
  else bif Nat.blt pc 6 then bif Nat.beq pc 3 then some (.if_icmp .lt 13, 6, 16, 0, 0, 0, 0) else none
  else bif Nat.blt pc 7 then bif Nat.beq pc 6 then some (.iload_n 0, 7, 0, 0, 0, 0, 0) else none
  else bif Nat.beq pc 7 then some (.bipush 122, 9, 0, 0, 0, 122, 0) else none
  else bif Nat.blt pc 13 then bif Nat.blt pc 12 then bif Nat.beq pc 9 then some (.if_icmp .gt 7, 12, 16, 0, 0, 0, 0) else none
  else bif Nat.beq pc 12 then some (.iconst 1, 13, 0, 0, 0, 1, 0) else none
  else bif Nat.blt pc 16 then bif Nat.beq pc 13 then some (.goto 4, 16, 17, 0, 0, 0, 0) else none
  else bif Nat.blt pc 17 then bif Nat.beq pc 16 then some (.iconst 0, 17, 0, 0, 0, 0, 0) else none
  else bif Nat.beq pc 17 then some (.ireturn, 18, 0, 0, 0, 0, 0) else none
def rs_X6_isLetter : PMR := (2, 0, hdl [], 1)
def mi_X6_isLetter : PMI := wrapM 18 cd_X6_isLetter rs_X6_isLetter
def cd_X7_append (pc : Nat) : Option PE :=
  bif Nat.blt pc 31 then bif Nat.blt pc 17 then bif Nat.blt pc 9 then bif Nat.blt pc 4 then bif Nat.blt pc 1 then bif Nat.beq pc 0 then some (.aload_n 0, 1, 0, 0, 0, 0, 0) else none
  else bif Nat.beq pc 1 then some (.getfield 12, 4, 7, 0, 2, 0, 0) else none
  else bif Nat.blt pc 7 then bif Nat.beq pc 4 then some (.getfield 45, 7, 6, 3, 0, 0, 0) else none
  else bif Nat.beq pc 7 then some (.bipush 20, 9, 0, 0, 0, 20, 0) else none
  else bif Nat.blt pc 13 then bif Nat.blt pc 10 then bif Nat.beq pc 9 then some (.iadd, 10, 0, 0, 0, 0, 0) else none
  else bif Nat.beq pc 10 then some (.sipush 700, 13, 0, 0, 0, 700, 0) else none
  else bif Nat.blt pc 16 then bif Nat.beq pc 13 then some (.if_icmp .le 5, 16, 18, 0, 0, 0, 0) else none
  else bif Nat.beq pc 16 then some (.iconst (-1), 17, 0, 0, 0, (-1), 0) else none
  else bif Nat.blt pc 23 then bif Nat.blt pc 19 then bif Nat.blt pc 18 then bif Nat.beq pc 17 then some (.ireturn, 18, 0, 0, 0, 0, 0) else none
  else bif Nat.beq pc 18 then some (.aload_n 0, 19, 0, 0, 0, 0, 0) else none
  else bif Nat.blt pc 22 then bif Nat.beq pc 19 then some (.getfield 12, 22, 7, 0, 2, 0, 0) else none
  else bif Nat.beq pc 22 then some (.iload_n 1, 23, 1, 0, 0, 0, 0) else none
  else bif Nat.blt pc 27 then bif Nat.blt pc 26 then bif Nat.beq pc 23 then some (.invokevirtual 49, 26, 49, 2, 6, 0, 0) else none
  else bif Nat.beq pc 26 then some (.aload_n 0, 27, 0, 0, 0, 0, 0) else none
  else bif Nat.blt pc 30 then bif Nat.beq pc 27 then some (.getfield 12, 30, 7, 0, 2, 0, 0) else none
  else bif Nat.beq pc 30 then some (.iload_n 2, 31, 2, 0, 0, 0, 0) else none
  else bif Nat.blt pc 48 then bif Nat.blt pc 39 then bif Nat.blt pc 35 then bif Nat.blt pc 34 then bif Nat.beq pc 31 then some (.invokevirtual 49, 34, 49, 2, 6, 0, 0) else none
  else bif Nat.beq pc 34 then some (.aload_n 0, 35, 0, 0, 0, 0, 0) else none
  else bif Nat.blt pc 38 then bif Nat.beq pc 35 then some (.getfield 12, 38, 7, 0, 2, 0, 0) else none
  else bif Nat.beq pc 38 then some (.iload_n 3, 39, 3, 0, 0, 0, 0) else none
  else bif Nat.blt pc 43 then bif Nat.blt pc 42 then bif Nat.beq pc 39 then some (.invokevirtual 49, 42, 49, 2, 6, 0, 0) else none
  else bif Nat.beq pc 42 then some (.aload_n 0, 43, 0, 0, 0, 0, 0) else none
  else bif Nat.blt pc 46 then bif Nat.beq pc 43 then some (.getfield 12, 46, 7, 0, 2, 0, 0) else none
  else bif Nat.beq pc 46 then some (.iload 4, 48, 4, 0, 0, 0, 0) else none
  else bif Nat.blt pc 57 then bif Nat.blt pc 52 then bif Nat.blt pc 51 then bif Nat.beq pc 48 then some (.invokevirtual 49, 51, 49, 2, 6, 0, 0) else none
  else bif Nat.beq pc 51 then some (.aload_n 0, 52, 0, 0, 0, 0, 0) else none
  else bif Nat.blt pc 55 then bif Nat.beq pc 52 then some (.getfield 12, 55, 7, 0, 2, 0, 0) else none
  else bif Nat.beq pc 55 then some (.iload 5, 57, 5, 0, 0, 0, 0) else none
  else bif Nat.blt pc 61 then bif Nat.blt pc 60 then bif Nat.beq pc 57 then some (.invokevirtual 49, 60, 49, 2, 6, 0, 0) else none
  else bif Nat.beq pc 60 then some (.aload_n 0, 61, 0, 0, 0, 0, 0) else none
  else bif Nat.blt pc 64 then bif Nat.beq pc 61 then some (.getfield 12, 64, 7, 0, 2, 0, 0) else none
  else bif Nat.blt pc 67 then bif Nat.beq pc 64 then some (.getfield 45, 67, 6, 3, 0, 0, 0) else none
  else bif Nat.beq pc 67 then some (.ireturn, 68, 0, 0, 0, 0, 0) else none
def rs_X7_append : PMR := (1, 0, hdl [], 6)
def mi_X7_append : PMI := wrapM 68 cd_X7_append rs_X7_append
def cd_X7_load (pc : Nat) : Option PE :=
  bif Nat.blt pc 48 then bif Nat.blt pc 29 then bif Nat.blt pc 9 then bif Nat.blt pc 4 then bif Nat.blt pc 1 then bif Nat.beq pc 0 then some (.iload_n 1, 1, 1, 0, 0, 0, 0) else none
  else bif Nat.beq pc 1 then some (.ifCond .lt 14, 4, 15, 0, 0, 0, 0) else none
  else bif Nat.blt pc 5 then bif Nat.beq pc 4 then some (.iload_n 1, 5, 1, 0, 0, 0, 0) else none
  else bif Nat.blt pc 6 then bif Nat.beq pc 5 then some (.aload_n 0, 6, 0, 0, 0, 0, 0) else none
  else bif Nat.beq pc 6 then some (.getfield 12, 9, 7, 0, 2, 0, 0) else none
  else bif Nat.blt pc 15 then bif Nat.blt pc 12 then bif Nat.beq pc 9 then some (.getfield 45, 12, 6, 3, 0, 0, 0) else none
  else bif Nat.beq pc 12 then some (.if_icmp .le 13, 15, 25, 0, 0, 0, 0) else none
  else bif Nat.blt pc 25 then bif Nat.beq pc 15 then some (.new 53, 18, 0, 55, 200, 0, 0) else none
  else bif Nat.blt pc 26 then bif Nat.beq pc 25 then some (.aload_n 0, 26, 0, 0, 0, 0, 0) else none
  else bif Nat.beq pc 26 then some (.getfield 12, 29, 7, 0, 2, 0, 0) else none
  else bif Nat.blt pc 38 then bif Nat.blt pc 33 then bif Nat.blt pc 30 then bif Nat.beq pc 29 then some (.iload_n 1, 30, 1, 0, 0, 0, 0) else none
  else bif Nat.beq pc 30 then some (.invokevirtual 60, 33, 50, 2, 6, 0, 0) else none
  else bif Nat.blt pc 34 then bif Nat.beq pc 33 then some (.istore_n 2, 34, 2, 0, 0, 0, 0) else none
  else bif Nat.blt pc 35 then bif Nat.beq pc 34 then some (.iload_n 2, 35, 2, 0, 0, 0, 0) else none
  else bif Nat.beq pc 35 then some (.ifCond .eq 5, 38, 40, 0, 0, 0, 0) else none
  else bif Nat.blt pc 41 then bif Nat.blt pc 39 then bif Nat.beq pc 38 then some (.iload_n 2, 39, 2, 0, 0, 0, 0) else none
  else bif Nat.blt pc 40 then bif Nat.beq pc 39 then some (.ireturn, 40, 0, 0, 0, 0, 0) else none
  else bif Nat.beq pc 40 then some (.aload_n 0, 41, 0, 0, 0, 0, 0) else none
  else bif Nat.blt pc 44 then bif Nat.beq pc 41 then some (.getfield 41, 44, 7, 5, 2, 0, 0) else none
  else bif Nat.blt pc 45 then bif Nat.beq pc 44 then some (.aload_n 0, 45, 0, 0, 0, 0, 0) else none
  else bif Nat.beq pc 45 then some (.getfield 27, 48, 7, 2, 2, 0, 0) else none
  else bif Nat.blt pc 71 then bif Nat.blt pc 57 then bif Nat.blt pc 52 then bif Nat.blt pc 49 then bif Nat.beq pc 48 then some (.aload_n 0, 49, 0, 0, 0, 0, 0) else none
  else bif Nat.beq pc 49 then some (.getfield 37, 52, 7, 4, 2, 0, 0) else none
  else bif Nat.blt pc 53 then bif Nat.beq pc 52 then some (.iconst 1, 53, 0, 0, 0, 1, 0) else none
  else bif Nat.blt pc 56 then bif Nat.beq pc 53 then some (.invokevirtual 64, 56, 6, 4, 1, 0, 0) else none
  else bif Nat.beq pc 56 then some (.aload_n 0, 57, 0, 0, 0, 0, 0) else none
  else bif Nat.blt pc 64 then bif Nat.blt pc 60 then bif Nat.beq pc 57 then some (.getfield 27, 60, 7, 2, 2, 0, 0) else none
  else bif Nat.blt pc 61 then bif Nat.beq pc 60 then some (.aload_n 0, 61, 0, 0, 0, 0, 0) else none
  else bif Nat.beq pc 61 then some (.getfield 12, 64, 7, 0, 2, 0, 0) else none
  else bif Nat.blt pc 67 then bif Nat.beq pc 64 then some (.getfield 68, 67, 6, 1, 2, 0, 0) else none
  else bif Nat.blt pc 70 then bif Nat.beq pc 67 then some (.invokevirtual 69, 70, 9, 2, 2, 0, 0) else none
  else bif Nat.beq pc 70 then some (.aload_n 0, 71, 0, 0, 0, 0, 0) else none
  else bif Nat.blt pc 82 then bif Nat.blt pc 75 then bif Nat.blt pc 74 then bif Nat.beq pc 71 then some (.getfield 32, 74, 7, 3, 2, 0, 0) else none
  else bif Nat.beq pc 74 then some (.aload_n 0, 75, 0, 0, 0, 0, 0) else none
  else bif Nat.blt pc 78 then bif Nat.beq pc 75 then some (.getfield 27, 78, 7, 2, 2, 0, 0) else none
  else bif Nat.blt pc 81 then bif Nat.beq pc 78 then some (.invokevirtual 75, 81, 41, 2, 5, 0, 0) else none
  else bif Nat.beq pc 81 then some (.aload_n 0, 82, 0, 0, 0, 0, 0) else none
  else bif Nat.blt pc 89 then bif Nat.blt pc 85 then bif Nat.beq pc 82 then some (.getfield 37, 85, 7, 4, 2, 0, 0) else none
  else bif Nat.blt pc 88 then bif Nat.beq pc 85 then some (.invokevirtual 80, 88, 19, 1, 3, 0, 0) else none
  else bif Nat.beq pc 88 then some (.aload_n 0, 89, 0, 0, 0, 0, 0) else none
  else bif Nat.blt pc 92 then bif Nat.beq pc 89 then some (.getfield 27, 92, 7, 2, 2, 0, 0) else none
  else bif Nat.blt pc 95 then bif Nat.beq pc 92 then some (.getfield 85, 95, 2, 2, 0, 0, 0) else none
  else bif Nat.beq pc 95 then some (.ireturn, 96, 0, 0, 0, 0, 0) else none
def rs_X7_load : PMR := (1, 1, hdl [], 3)
def mi_X7_load : PMI := wrapM 96 cd_X7_load rs_X7_load
def cd_X7_errorOffset (pc : Nat) : Option PE :=
  bif Nat.blt pc 4 then bif Nat.blt pc 1 then bif Nat.beq pc 0 then some (.aload_n 0, 1, 0, 0, 0, 0, 0) else none
  else bif Nat.beq pc 1 then some (.getfield 12, 4, 7, 0, 2, 0, 0) else none
  else bif Nat.blt pc 7 then bif Nat.beq pc 4 then some (.getfield 88, 7, 6, 11, 0, 0, 0) else none
  else bif Nat.beq pc 7 then some (.ireturn, 8, 0, 0, 0, 0, 0) else none
def rs_X7_errorOffset : PMR := (1, 0, hdl [], 1)
def mi_X7_errorOffset : PMI := wrapM 8 cd_X7_errorOffset rs_X7_errorOffset
def cd_X7_nodeCount (pc : Nat) : Option PE :=
  bif Nat.blt pc 4 then bif Nat.blt pc 1 then bif Nat.beq pc 0 then some (.aload_n 0, 1, 0, 0, 0, 0, 0) else none
  else bif Nat.beq pc 1 then some (.getfield 27, 4, 7, 2, 2, 0, 0) else none
  else bif Nat.blt pc 7 then bif Nat.beq pc 4 then some (.getfield 91, 7, 2, 0, 0, 0, 0) else none
  else bif Nat.beq pc 7 then some (.ireturn, 8, 0, 0, 0, 0, 0) else none
def rs_X7_nodeCount : PMR := (1, 0, hdl [], 1)
def mi_X7_nodeCount : PMI := wrapM 8 cd_X7_nodeCount rs_X7_nodeCount
def cd_X7_edgeCount (pc : Nat) : Option PE :=
  bif Nat.blt pc 4 then bif Nat.blt pc 1 then bif Nat.beq pc 0 then some (.aload_n 0, 1, 0, 0, 0, 0, 0) else none
  else bif Nat.beq pc 1 then some (.getfield 27, 4, 7, 2, 2, 0, 0) else none
  else bif Nat.blt pc 7 then bif Nat.beq pc 4 then some (.getfield 85, 7, 2, 2, 0, 0, 0) else none
  else bif Nat.beq pc 7 then some (.ireturn, 8, 0, 0, 0, 0, 0) else none
def rs_X7_edgeCount : PMR := (1, 0, hdl [], 1)
def mi_X7_edgeCount : PMI := wrapM 8 cd_X7_edgeCount rs_X7_edgeCount
def cd_X7_depotCount (pc : Nat) : Option PE :=
  bif Nat.blt pc 4 then bif Nat.blt pc 1 then bif Nat.beq pc 0 then some (.aload_n 0, 1, 0, 0, 0, 0, 0) else none
  else bif Nat.beq pc 1 then some (.getfield 27, 4, 7, 2, 2, 0, 0) else none
  else bif Nat.blt pc 7 then bif Nat.beq pc 4 then some (.getfield 94, 7, 2, 3, 0, 0, 0) else none
  else bif Nat.beq pc 7 then some (.ireturn, 8, 0, 0, 0, 0, 0) else none
def rs_X7_depotCount : PMR := (1, 0, hdl [], 1)
def mi_X7_depotCount : PMI := wrapM 8 cd_X7_depotCount rs_X7_depotCount
def cd_X7_tourCount (pc : Nat) : Option PE :=
  bif Nat.blt pc 4 then bif Nat.blt pc 1 then bif Nat.beq pc 0 then some (.aload_n 0, 1, 0, 0, 0, 0, 0) else none
  else bif Nat.beq pc 1 then some (.getfield 37, 4, 7, 4, 2, 0, 0) else none
  else bif Nat.blt pc 7 then bif Nat.beq pc 4 then some (.getfield 97, 7, 3, 0, 0, 0, 0) else none
  else bif Nat.beq pc 7 then some (.ireturn, 8, 0, 0, 0, 0, 0) else none
def rs_X7_tourCount : PMR := (1, 0, hdl [], 1)
def mi_X7_tourCount : PMI := wrapM 8 cd_X7_tourCount rs_X7_tourCount
def cd_X7_edge (pc : Nat) : Option PE :=
  bif Nat.blt pc 71 then bif Nat.blt pc 53 then bif Nat.blt pc 41 then bif Nat.blt pc 5 then bif Nat.blt pc 1 then bif Nat.beq pc 0 then some (.aload_n 0, 1, 0, 0, 0, 0, 0) else none
  else bif Nat.blt pc 2 then bif Nat.beq pc 1 then some (.iload_n 1, 2, 1, 0, 0, 0, 0) else none
  else bif Nat.beq pc 2 then some (.invokevirtual 100, 5, 96, 2, 7, 0, 0) else none
  else bif Nat.blt pc 6 then bif Nat.beq pc 5 then some (.iload_n 2, 6, 2, 0, 0, 0, 0) else none
  else bif Nat.blt pc 40 then bif Nat.beq pc 6 then some (.tableswitch 106 0 4 #[34, 48, 64, 78, 94], 40, 112, 6, 0, 0, 0) else none
  else bif Nat.beq pc 40 then some (.aload_n 0, 41, 0, 0, 0, 0, 0) else none
  else bif Nat.blt pc 48 then bif Nat.blt pc 44 then bif Nat.beq pc 41 then some (.getfield 27, 44, 7, 2, 2, 0, 0) else none
  else bif Nat.blt pc 47 then bif Nat.beq pc 44 then some (.getfield 103, 47, 2, 4, 2, 0, 0) else none
  else bif Nat.beq pc 47 then some (.iconst 2, 48, 0, 0, 0, 2, 0) else none
  else bif Nat.blt pc 49 then bif Nat.beq pc 48 then some (.iload_n 1, 49, 1, 0, 0, 0, 0) else none
  else bif Nat.blt pc 50 then bif Nat.beq pc 49 then some (.imul, 50, 0, 0, 0, 0, 0) else none
  else bif Nat.beq pc 50 then some (.invokestatic 107, 53, 101, 2, 99, 0, 0) else none
  else bif Nat.blt pc 63 then bif Nat.blt pc 58 then bif Nat.blt pc 54 then bif Nat.beq pc 53 then some (.ireturn, 54, 0, 0, 0, 0, 0) else none
  else bif Nat.blt pc 55 then bif Nat.beq pc 54 then some (.aload_n 0, 55, 0, 0, 0, 0, 0) else none
  else bif Nat.beq pc 55 then some (.getfield 27, 58, 7, 2, 2, 0, 0) else none
  else bif Nat.blt pc 61 then bif Nat.beq pc 58 then some (.getfield 103, 61, 2, 4, 2, 0, 0) else none
  else bif Nat.blt pc 62 then bif Nat.beq pc 61 then some (.iconst 2, 62, 0, 0, 0, 2, 0) else none
  else bif Nat.beq pc 62 then some (.iload_n 1, 63, 1, 0, 0, 0, 0) else none
  else bif Nat.blt pc 66 then bif Nat.blt pc 64 then bif Nat.beq pc 63 then some (.imul, 64, 0, 0, 0, 0, 0) else none
  else bif Nat.blt pc 65 then bif Nat.beq pc 64 then some (.iconst 1, 65, 0, 0, 0, 1, 0) else none
  else bif Nat.beq pc 65 then some (.iadd, 66, 0, 0, 0, 0, 0) else none
  else bif Nat.blt pc 69 then bif Nat.beq pc 66 then some (.invokestatic 107, 69, 101, 2, 99, 0, 0) else none
  else bif Nat.blt pc 70 then bif Nat.beq pc 69 then some (.ireturn, 70, 0, 0, 0, 0, 0) else none
  else bif Nat.beq pc 70 then some (.aload_n 0, 71, 0, 0, 0, 0, 0) else none
  else bif Nat.blt pc 93 then bif Nat.blt pc 83 then bif Nat.blt pc 78 then bif Nat.blt pc 74 then bif Nat.beq pc 71 then some (.getfield 27, 74, 7, 2, 2, 0, 0) else none
  else bif Nat.blt pc 77 then bif Nat.beq pc 74 then some (.getfield 111, 77, 2, 5, 2, 0, 0) else none
  else bif Nat.beq pc 77 then some (.iconst 2, 78, 0, 0, 0, 2, 0) else none
  else bif Nat.blt pc 79 then bif Nat.beq pc 78 then some (.iload_n 1, 79, 1, 0, 0, 0, 0) else none
  else bif Nat.blt pc 80 then bif Nat.beq pc 79 then some (.imul, 80, 0, 0, 0, 0, 0) else none
  else bif Nat.beq pc 80 then some (.invokestatic 107, 83, 101, 2, 99, 0, 0) else none
  else bif Nat.blt pc 88 then bif Nat.blt pc 84 then bif Nat.beq pc 83 then some (.ireturn, 84, 0, 0, 0, 0, 0) else none
  else bif Nat.blt pc 85 then bif Nat.beq pc 84 then some (.aload_n 0, 85, 0, 0, 0, 0, 0) else none
  else bif Nat.beq pc 85 then some (.getfield 27, 88, 7, 2, 2, 0, 0) else none
  else bif Nat.blt pc 91 then bif Nat.beq pc 88 then some (.getfield 111, 91, 2, 5, 2, 0, 0) else none
  else bif Nat.blt pc 92 then bif Nat.beq pc 91 then some (.iconst 2, 92, 0, 0, 0, 2, 0) else none
  else bif Nat.beq pc 92 then some (.iload_n 1, 93, 1, 0, 0, 0, 0) else none
  else bif Nat.blt pc 101 then bif Nat.blt pc 96 then bif Nat.blt pc 94 then bif Nat.beq pc 93 then some (.imul, 94, 0, 0, 0, 0, 0) else none
  else bif Nat.blt pc 95 then bif Nat.beq pc 94 then some (.iconst 1, 95, 0, 0, 0, 1, 0) else none
  else bif Nat.beq pc 95 then some (.iadd, 96, 0, 0, 0, 0, 0) else none
  else bif Nat.blt pc 99 then bif Nat.beq pc 96 then some (.invokestatic 107, 99, 101, 2, 99, 0, 0) else none
  else bif Nat.blt pc 100 then bif Nat.beq pc 99 then some (.ireturn, 100, 0, 0, 0, 0, 0) else none
  else bif Nat.beq pc 100 then some (.aload_n 0, 101, 0, 0, 0, 0, 0) else none
  else bif Nat.blt pc 108 then bif Nat.blt pc 104 then bif Nat.beq pc 101 then some (.getfield 27, 104, 7, 2, 2, 0, 0) else none
  else bif Nat.blt pc 107 then bif Nat.beq pc 104 then some (.getfield 114, 107, 2, 8, 2, 0, 0) else none
  else bif Nat.beq pc 107 then some (.iload_n 1, 108, 1, 0, 0, 0, 0) else none
  else bif Nat.blt pc 111 then bif Nat.beq pc 108 then some (.invokestatic 107, 111, 101, 2, 99, 0, 0) else none
  else bif Nat.blt pc 112 then bif Nat.beq pc 111 then some (.ireturn, 112, 0, 0, 0, 0, 0) else none
  else bif Nat.beq pc 112 then some (.new 53, 115, 0, 117, 200, 0, 0) else none
def rs_X7_edge : PMR := (1, 2, hdl [], 3)
def mi_X7_edge : PMI := wrapM 113 cd_X7_edge rs_X7_edge
def cd_X7_deadhead (pc : Nat) : Option PE :=
  bif Nat.blt pc 14 then bif Nat.blt pc 6 then bif Nat.blt pc 2 then bif Nat.blt pc 1 then bif Nat.beq pc 0 then some (.aload_n 0, 1, 0, 0, 0, 0, 0) else none
  else bif Nat.beq pc 1 then some (.iload_n 1, 2, 1, 0, 0, 0, 0) else none
  else bif Nat.blt pc 5 then bif Nat.beq pc 2 then some (.invokevirtual 119, 5, 97, 2, 7, 0, 0) else none
  else bif Nat.beq pc 5 then some (.aload_n 0, 6, 0, 0, 0, 0, 0) else none
  else bif Nat.blt pc 10 then bif Nat.blt pc 7 then bif Nat.beq pc 6 then some (.iload_n 2, 7, 2, 0, 0, 0, 0) else none
  else bif Nat.beq pc 7 then some (.invokevirtual 119, 10, 97, 2, 7, 0, 0) else none
  else bif Nat.blt pc 11 then bif Nat.beq pc 10 then some (.aload_n 0, 11, 0, 0, 0, 0, 0) else none
  else bif Nat.beq pc 11 then some (.getfield 32, 14, 7, 3, 2, 0, 0) else none
  else bif Nat.blt pc 21 then bif Nat.blt pc 18 then bif Nat.blt pc 17 then bif Nat.beq pc 14 then some (.getfield 126, 17, 5, 0, 2, 0, 0) else none
  else bif Nat.beq pc 17 then some (.iload_n 1, 18, 1, 0, 0, 0, 0) else none
  else bif Nat.blt pc 20 then bif Nat.beq pc 18 then some (.bipush 28, 20, 0, 0, 0, 28, 0) else none
  else bif Nat.beq pc 20 then some (.imul, 21, 0, 0, 0, 0, 0) else none
  else bif Nat.blt pc 23 then bif Nat.blt pc 22 then bif Nat.beq pc 21 then some (.iload_n 2, 22, 2, 0, 0, 0, 0) else none
  else bif Nat.beq pc 22 then some (.iadd, 23, 0, 0, 0, 0, 0) else none
  else bif Nat.blt pc 26 then bif Nat.beq pc 23 then some (.invokestatic 107, 26, 101, 2, 99, 0, 0) else none
  else bif Nat.blt pc 29 then bif Nat.beq pc 26 then some (.invokestatic 129, 29, 99, 1, 99, 0, 0) else none
  else bif Nat.beq pc 29 then some (.ireturn, 30, 0, 0, 0, 0, 0) else none
def rs_X7_deadhead : PMR := (1, 2, hdl [], 3)
def mi_X7_deadhead : PMI := wrapM 30 cd_X7_deadhead rs_X7_deadhead
def cd_X7_matching (pc : Nat) : Option PE :=
  bif Nat.blt pc 11 then bif Nat.blt pc 4 then bif Nat.blt pc 1 then bif Nat.beq pc 0 then some (.aload_n 0, 1, 0, 0, 0, 0, 0) else none
  else bif Nat.beq pc 1 then some (.getfield 32, 4, 7, 3, 2, 0, 0) else none
  else bif Nat.blt pc 7 then bif Nat.beq pc 4 then some (.getfield 135, 7, 5, 3, 2, 0, 0) else none
  else bif Nat.blt pc 8 then bif Nat.beq pc 7 then some (.aload_n 0, 8, 0, 0, 0, 0, 0) else none
  else bif Nat.beq pc 8 then some (.getfield 27, 11, 7, 2, 2, 0, 0) else none
  else bif Nat.blt pc 15 then bif Nat.blt pc 14 then bif Nat.beq pc 11 then some (.invokevirtual 141, 14, 18, 1, 2, 0, 0) else none
  else bif Nat.beq pc 14 then some (.iconst 0, 15, 0, 0, 0, 0, 0) else none
  else bif Nat.blt pc 18 then bif Nat.beq pc 15 then some (.invokestatic 145, 18, 47, 3, 99, 0, 0) else none
  else bif Nat.blt pc 21 then bif Nat.beq pc 18 then some (.invokestatic 129, 21, 99, 1, 99, 0, 0) else none
  else bif Nat.beq pc 21 then some (.ireturn, 22, 0, 0, 0, 0, 0) else none
def rs_X7_matching : PMR := (1, 0, hdl [], 1)
def mi_X7_matching : PMI := wrapM 22 cd_X7_matching rs_X7_matching
def cd_X7_depotOf (pc : Nat) : Option PE :=
  bif Nat.blt pc 6 then bif Nat.blt pc 2 then bif Nat.blt pc 1 then bif Nat.beq pc 0 then some (.aload_n 0, 1, 0, 0, 0, 0, 0) else none
  else bif Nat.beq pc 1 then some (.iload_n 1, 2, 1, 0, 0, 0, 0) else none
  else bif Nat.blt pc 5 then bif Nat.beq pc 2 then some (.invokevirtual 149, 5, 98, 2, 7, 0, 0) else none
  else bif Nat.beq pc 5 then some (.aload_n 0, 6, 0, 0, 0, 0, 0) else none
  else bif Nat.blt pc 12 then bif Nat.blt pc 9 then bif Nat.beq pc 6 then some (.getfield 37, 9, 7, 4, 2, 0, 0) else none
  else bif Nat.beq pc 9 then some (.getfield 152, 12, 3, 1, 2, 0, 0) else none
  else bif Nat.blt pc 13 then bif Nat.beq pc 12 then some (.iload_n 1, 13, 1, 0, 0, 0, 0) else none
  else bif Nat.blt pc 16 then bif Nat.beq pc 13 then some (.invokestatic 107, 16, 101, 2, 99, 0, 0) else none
  else bif Nat.beq pc 16 then some (.ireturn, 17, 0, 0, 0, 0, 0) else none
def rs_X7_depotOf : PMR := (1, 1, hdl [], 2)
def mi_X7_depotOf : PMI := wrapM 17 cd_X7_depotOf rs_X7_depotOf
def cd_X7_length (pc : Nat) : Option PE :=
  bif Nat.blt pc 6 then bif Nat.blt pc 2 then bif Nat.blt pc 1 then bif Nat.beq pc 0 then some (.aload_n 0, 1, 0, 0, 0, 0, 0) else none
  else bif Nat.beq pc 1 then some (.iload_n 1, 2, 1, 0, 0, 0, 0) else none
  else bif Nat.blt pc 5 then bif Nat.beq pc 2 then some (.invokevirtual 149, 5, 98, 2, 7, 0, 0) else none
  else bif Nat.beq pc 5 then some (.aload_n 0, 6, 0, 0, 0, 0, 0) else none
  else bif Nat.blt pc 12 then bif Nat.blt pc 9 then bif Nat.beq pc 6 then some (.getfield 37, 9, 7, 4, 2, 0, 0) else none
  else bif Nat.beq pc 9 then some (.getfield 155, 12, 3, 2, 2, 0, 0) else none
  else bif Nat.blt pc 13 then bif Nat.beq pc 12 then some (.iload_n 1, 13, 1, 0, 0, 0, 0) else none
  else bif Nat.blt pc 16 then bif Nat.beq pc 13 then some (.invokestatic 107, 16, 101, 2, 99, 0, 0) else none
  else bif Nat.beq pc 16 then some (.ireturn, 17, 0, 0, 0, 0, 0) else none
def rs_X7_length : PMR := (1, 1, hdl [], 2)
def mi_X7_length : PMI := wrapM 17 cd_X7_length rs_X7_length
def cd_X7_arcAt (pc : Nat) : Option PE :=
  bif Nat.blt pc 11 then bif Nat.blt pc 5 then bif Nat.blt pc 1 then bif Nat.beq pc 0 then some (.aload_n 0, 1, 0, 0, 0, 0, 0) else none
  else bif Nat.blt pc 2 then bif Nat.beq pc 1 then some (.iload_n 1, 2, 1, 0, 0, 0, 0) else none
  else bif Nat.beq pc 2 then some (.invokevirtual 149, 5, 98, 2, 7, 0, 0) else none
  else bif Nat.blt pc 9 then bif Nat.blt pc 6 then bif Nat.beq pc 5 then some (.aload_n 0, 6, 0, 0, 0, 0, 0) else none
  else bif Nat.beq pc 6 then some (.getfield 37, 9, 7, 4, 2, 0, 0) else none
  else bif Nat.blt pc 10 then bif Nat.beq pc 9 then some (.iload_n 1, 10, 1, 0, 0, 0, 0) else none
  else bif Nat.beq pc 10 then some (.iload_n 2, 11, 2, 0, 0, 0, 0) else none
  else bif Nat.blt pc 17 then bif Nat.blt pc 15 then bif Nat.blt pc 14 then bif Nat.beq pc 11 then some (.invokevirtual 158, 14, 22, 3, 3, 0, 0) else none
  else bif Nat.beq pc 14 then some (.istore_n 3, 15, 3, 0, 0, 0, 0) else none
  else bif Nat.blt pc 16 then bif Nat.beq pc 15 then some (.iload_n 3, 16, 3, 0, 0, 0, 0) else none
  else bif Nat.beq pc 16 then some (.iconst (-1), 17, 0, 0, 0, (-1), 0) else none
  else bif Nat.blt pc 30 then bif Nat.blt pc 20 then bif Nat.beq pc 17 then some (.if_icmp .ne 13, 20, 30, 0, 0, 0, 0) else none
  else bif Nat.beq pc 20 then some (.new 162, 23, 3, 164, 200, 0, 0) else none
  else bif Nat.blt pc 31 then bif Nat.beq pc 30 then some (.iload_n 3, 31, 3, 0, 0, 0, 0) else none
  else bif Nat.beq pc 31 then some (.ireturn, 32, 0, 0, 0, 0, 0) else none
def rs_X7_arcAt : PMR := (1, 2, hdl [], 4)
def mi_X7_arcAt : PMI := wrapM 32 cd_X7_arcAt rs_X7_arcAt
def cd_X7_loadOf (pc : Nat) : Option PE :=
  bif Nat.blt pc 6 then bif Nat.blt pc 2 then bif Nat.blt pc 1 then bif Nat.beq pc 0 then some (.aload_n 0, 1, 0, 0, 0, 0, 0) else none
  else bif Nat.beq pc 1 then some (.iload_n 1, 2, 1, 0, 0, 0, 0) else none
  else bif Nat.blt pc 5 then bif Nat.beq pc 2 then some (.invokevirtual 149, 5, 98, 2, 7, 0, 0) else none
  else bif Nat.beq pc 5 then some (.aload_n 0, 6, 0, 0, 0, 0, 0) else none
  else bif Nat.blt pc 10 then bif Nat.blt pc 9 then bif Nat.beq pc 6 then some (.getfield 19, 9, 7, 1, 2, 0, 0) else none
  else bif Nat.beq pc 9 then some (.iload_n 1, 10, 1, 0, 0, 0, 0) else none
  else bif Nat.blt pc 13 then bif Nat.beq pc 10 then some (.invokevirtual 167, 13, 29, 2, 4, 0, 0) else none
  else bif Nat.beq pc 13 then some (.ireturn, 14, 0, 0, 0, 0, 0) else none
def rs_X7_loadOf : PMR := (1, 1, hdl [], 2)
def mi_X7_loadOf : PMI := wrapM 14 cd_X7_loadOf rs_X7_loadOf
def cd_X7_tourCost (pc : Nat) : Option PE :=
  bif Nat.blt pc 6 then bif Nat.blt pc 2 then bif Nat.blt pc 1 then bif Nat.beq pc 0 then some (.aload_n 0, 1, 0, 0, 0, 0, 0) else none
  else bif Nat.beq pc 1 then some (.iload_n 1, 2, 1, 0, 0, 0, 0) else none
  else bif Nat.blt pc 5 then bif Nat.beq pc 2 then some (.invokevirtual 149, 5, 98, 2, 7, 0, 0) else none
  else bif Nat.beq pc 5 then some (.aload_n 0, 6, 0, 0, 0, 0, 0) else none
  else bif Nat.blt pc 10 then bif Nat.blt pc 9 then bif Nat.beq pc 6 then some (.getfield 19, 9, 7, 1, 2, 0, 0) else none
  else bif Nat.beq pc 9 then some (.iload_n 1, 10, 1, 0, 0, 0, 0) else none
  else bif Nat.blt pc 13 then bif Nat.beq pc 10 then some (.invokevirtual 170, 13, 32, 2, 4, 0, 0) else none
  else bif Nat.beq pc 13 then some (.ireturn, 14, 0, 0, 0, 0, 0) else none
def rs_X7_tourCost : PMR := (1, 1, hdl [], 2)
def mi_X7_tourCost : PMI := wrapM 14 cd_X7_tourCost rs_X7_tourCost
def cd_X7_totalCost (pc : Nat) : Option PE :=
  bif Nat.blt pc 16 then bif Nat.blt pc 5 then bif Nat.blt pc 2 then bif Nat.blt pc 1 then bif Nat.beq pc 0 then some (.iconst 0, 1, 0, 0, 0, 0, 0) else none
  else bif Nat.beq pc 1 then some (.istore_n 1, 2, 1, 0, 0, 0, 0) else none
  else bif Nat.blt pc 3 then bif Nat.beq pc 2 then some (.iconst 0, 3, 0, 0, 0, 0, 0) else none
  else bif Nat.blt pc 4 then bif Nat.beq pc 3 then some (.istore_n 2, 4, 2, 0, 0, 0, 0) else none
  else bif Nat.beq pc 4 then some (.iload_n 2, 5, 2, 0, 0, 0, 0) else none
  else bif Nat.blt pc 9 then bif Nat.blt pc 6 then bif Nat.beq pc 5 then some (.aload_n 0, 6, 0, 0, 0, 0, 0) else none
  else bif Nat.beq pc 6 then some (.getfield 37, 9, 7, 4, 2, 0, 0) else none
  else bif Nat.blt pc 12 then bif Nat.beq pc 9 then some (.getfield 97, 12, 3, 0, 0, 0, 0) else none
  else bif Nat.blt pc 15 then bif Nat.beq pc 12 then some (.if_icmp .ge 20, 15, 32, 0, 0, 0, 0) else none
  else bif Nat.beq pc 15 then some (.iload_n 1, 16, 1, 0, 0, 0, 0) else none
  else bif Nat.blt pc 25 then bif Nat.blt pc 20 then bif Nat.blt pc 17 then bif Nat.beq pc 16 then some (.aload_n 0, 17, 0, 0, 0, 0, 0) else none
  else bif Nat.beq pc 17 then some (.getfield 19, 20, 7, 1, 2, 0, 0) else none
  else bif Nat.blt pc 21 then bif Nat.beq pc 20 then some (.iload_n 2, 21, 2, 0, 0, 0, 0) else none
  else bif Nat.blt pc 24 then bif Nat.beq pc 21 then some (.invokevirtual 170, 24, 32, 2, 4, 0, 0) else none
  else bif Nat.beq pc 24 then some (.iadd, 25, 0, 0, 0, 0, 0) else none
  else bif Nat.blt pc 29 then bif Nat.blt pc 26 then bif Nat.beq pc 25 then some (.istore_n 1, 26, 1, 0, 0, 0, 0) else none
  else bif Nat.beq pc 26 then some (.iinc 2 1, 29, 2, 0, 0, 1, 0) else none
  else bif Nat.blt pc 32 then bif Nat.beq pc 29 then some (.goto (-25), 32, 4, 0, 0, 0, 0) else none
  else bif Nat.blt pc 33 then bif Nat.beq pc 32 then some (.iload_n 1, 33, 1, 0, 0, 0, 0) else none
  else bif Nat.beq pc 33 then some (.ireturn, 34, 0, 0, 0, 0, 0) else none
def rs_X7_totalCost : PMR := (1, 0, hdl [], 3)
def mi_X7_totalCost : PMI := wrapM 34 cd_X7_totalCost rs_X7_totalCost
def cd_X7_unserved (pc : Nat) : Option PE :=
  bif Nat.blt pc 15 then bif Nat.blt pc 4 then bif Nat.blt pc 2 then bif Nat.blt pc 1 then bif Nat.beq pc 0 then some (.iconst 0, 1, 0, 0, 0, 0, 0) else none
  else bif Nat.beq pc 1 then some (.istore_n 1, 2, 1, 0, 0, 0, 0) else none
  else bif Nat.blt pc 3 then bif Nat.beq pc 2 then some (.iconst 0, 3, 0, 0, 0, 0, 0) else none
  else bif Nat.beq pc 3 then some (.istore_n 2, 4, 2, 0, 0, 0, 0) else none
  else bif Nat.blt pc 6 then bif Nat.blt pc 5 then bif Nat.beq pc 4 then some (.iload_n 2, 5, 2, 0, 0, 0, 0) else none
  else bif Nat.beq pc 5 then some (.aload_n 0, 6, 0, 0, 0, 0, 0) else none
  else bif Nat.blt pc 9 then bif Nat.beq pc 6 then some (.getfield 27, 9, 7, 2, 2, 0, 0) else none
  else bif Nat.blt pc 12 then bif Nat.beq pc 9 then some (.getfield 85, 12, 2, 2, 0, 0, 0) else none
  else bif Nat.beq pc 12 then some (.if_icmp .ge 23, 15, 35, 0, 0, 0, 0) else none
  else bif Nat.blt pc 26 then bif Nat.blt pc 19 then bif Nat.blt pc 16 then bif Nat.beq pc 15 then some (.aload_n 0, 16, 0, 0, 0, 0, 0) else none
  else bif Nat.beq pc 16 then some (.getfield 19, 19, 7, 1, 2, 0, 0) else none
  else bif Nat.blt pc 20 then bif Nat.beq pc 19 then some (.iload_n 2, 20, 2, 0, 0, 0, 0) else none
  else bif Nat.blt pc 23 then bif Nat.beq pc 20 then some (.invokevirtual 173, 23, 28, 2, 4, 0, 0) else none
  else bif Nat.beq pc 23 then some (.ifCond .eq 6, 26, 29, 0, 0, 0, 0) else none
  else bif Nat.blt pc 32 then bif Nat.blt pc 29 then bif Nat.beq pc 26 then some (.iinc 1 1, 29, 1, 0, 0, 1, 0) else none
  else bif Nat.beq pc 29 then some (.iinc 2 1, 32, 2, 0, 0, 1, 0) else none
  else bif Nat.blt pc 35 then bif Nat.beq pc 32 then some (.goto (-28), 35, 4, 0, 0, 0, 0) else none
  else bif Nat.blt pc 36 then bif Nat.beq pc 35 then some (.iload_n 1, 36, 1, 0, 0, 0, 0) else none
  else bif Nat.beq pc 36 then some (.ireturn, 37, 0, 0, 0, 0, 0) else none
def rs_X7_unserved : PMR := (1, 0, hdl [], 3)
def mi_X7_unserved : PMI := wrapM 37 cd_X7_unserved rs_X7_unserved
def cd_X7_tourOf (pc : Nat) : Option PE :=
  bif Nat.blt pc 6 then bif Nat.blt pc 2 then bif Nat.blt pc 1 then bif Nat.beq pc 0 then some (.aload_n 0, 1, 0, 0, 0, 0, 0) else none
  else bif Nat.beq pc 1 then some (.iload_n 1, 2, 1, 0, 0, 0, 0) else none
  else bif Nat.blt pc 5 then bif Nat.beq pc 2 then some (.invokevirtual 100, 5, 96, 2, 7, 0, 0) else none
  else bif Nat.beq pc 5 then some (.aload_n 0, 6, 0, 0, 0, 0, 0) else none
  else bif Nat.blt pc 10 then bif Nat.blt pc 9 then bif Nat.beq pc 6 then some (.getfield 37, 9, 7, 4, 2, 0, 0) else none
  else bif Nat.beq pc 9 then some (.iload_n 1, 10, 1, 0, 0, 0, 0) else none
  else bif Nat.blt pc 13 then bif Nat.beq pc 10 then some (.invokevirtual 177, 13, 23, 2, 3, 0, 0) else none
  else bif Nat.beq pc 13 then some (.ireturn, 14, 0, 0, 0, 0, 0) else none
def rs_X7_tourOf : PMR := (1, 1, hdl [], 2)
def mi_X7_tourOf : PMI := wrapM 14 cd_X7_tourOf rs_X7_tourOf
def cd_X7_bestInsertion (pc : Nat) : Option PE :=
  bif Nat.blt pc 13 then bif Nat.blt pc 5 then bif Nat.blt pc 1 then bif Nat.beq pc 0 then some (.aload_n 0, 1, 0, 0, 0, 0, 0) else none
  else bif Nat.blt pc 2 then bif Nat.beq pc 1 then some (.iload_n 1, 2, 1, 0, 0, 0, 0) else none
  else bif Nat.beq pc 2 then some (.invokevirtual 100, 5, 96, 2, 7, 0, 0) else none
  else bif Nat.blt pc 9 then bif Nat.blt pc 6 then bif Nat.beq pc 5 then some (.aload_n 0, 6, 0, 0, 0, 0, 0) else none
  else bif Nat.beq pc 6 then some (.getfield 19, 9, 7, 1, 2, 0, 0) else none
  else bif Nat.blt pc 10 then bif Nat.beq pc 9 then some (.iload_n 1, 10, 1, 0, 0, 0, 0) else none
  else bif Nat.beq pc 10 then some (.invokevirtual 173, 13, 28, 2, 4, 0, 0) else none
  else bif Nat.blt pc 27 then bif Nat.blt pc 16 then bif Nat.beq pc 13 then some (.ifCond .ne 13, 16, 26, 0, 0, 0, 0) else none
  else bif Nat.blt pc 26 then bif Nat.beq pc 16 then some (.new 180, 19, 2, 182, 200, 0, 0) else none
  else bif Nat.beq pc 26 then some (.aload_n 0, 27, 0, 0, 0, 0, 0) else none
  else bif Nat.blt pc 31 then bif Nat.blt pc 30 then bif Nat.beq pc 27 then some (.getfield 19, 30, 7, 1, 2, 0, 0) else none
  else bif Nat.beq pc 30 then some (.iload_n 1, 31, 1, 0, 0, 0, 0) else none
  else bif Nat.blt pc 34 then bif Nat.beq pc 31 then some (.invokevirtual 185, 34, 36, 2, 4, 0, 0) else none
  else bif Nat.beq pc 34 then some (.ireturn, 35, 0, 0, 0, 0, 0) else none
def rs_X7_bestInsertion : PMR := (1, 2, hdl [], 2)
def mi_X7_bestInsertion : PMI := wrapM 35 cd_X7_bestInsertion rs_X7_bestInsertion
def cd_X7_openTour (pc : Nat) : Option PE :=
  bif Nat.blt pc 47 then bif Nat.blt pc 15 then bif Nat.blt pc 5 then bif Nat.blt pc 1 then bif Nat.beq pc 0 then some (.iload_n 1, 1, 1, 0, 0, 0, 0) else none
  else bif Nat.blt pc 4 then bif Nat.beq pc 1 then some (.ifCond .lt 14, 4, 15, 0, 0, 0, 0) else none
  else bif Nat.beq pc 4 then some (.iload_n 1, 5, 1, 0, 0, 0, 0) else none
  else bif Nat.blt pc 9 then bif Nat.blt pc 6 then bif Nat.beq pc 5 then some (.aload_n 0, 6, 0, 0, 0, 0, 0) else none
  else bif Nat.beq pc 6 then some (.getfield 27, 9, 7, 2, 2, 0, 0) else none
  else bif Nat.blt pc 12 then bif Nat.beq pc 9 then some (.getfield 94, 12, 2, 3, 0, 0, 0) else none
  else bif Nat.beq pc 12 then some (.if_icmp .lt 13, 15, 25, 0, 0, 0, 0) else none
  else bif Nat.blt pc 32 then bif Nat.blt pc 26 then bif Nat.blt pc 25 then bif Nat.beq pc 15 then some (.new 188, 18, 1, 190, 200, 0, 0) else none
  else bif Nat.beq pc 25 then some (.aload_n 0, 26, 0, 0, 0, 0, 0) else none
  else bif Nat.blt pc 29 then bif Nat.beq pc 26 then some (.getfield 37, 29, 7, 4, 2, 0, 0) else none
  else bif Nat.beq pc 29 then some (.getfield 97, 32, 3, 0, 0, 0, 0) else none
  else bif Nat.blt pc 36 then bif Nat.blt pc 33 then bif Nat.beq pc 32 then some (.iconst 4, 33, 0, 0, 0, 4, 0) else none
  else bif Nat.beq pc 33 then some (.if_icmp .lt 13, 36, 46, 0, 0, 0, 0) else none
  else bif Nat.blt pc 46 then bif Nat.beq pc 36 then some (.new 180, 39, 2, 193, 200, 0, 0) else none
  else bif Nat.beq pc 46 then some (.aload_n 0, 47, 0, 0, 0, 0, 0) else none
  else bif Nat.blt pc 63 then bif Nat.blt pc 55 then bif Nat.blt pc 51 then bif Nat.blt pc 50 then bif Nat.beq pc 47 then some (.getfield 41, 50, 7, 5, 2, 0, 0) else none
  else bif Nat.beq pc 50 then some (.aload_n 0, 51, 0, 0, 0, 0, 0) else none
  else bif Nat.blt pc 54 then bif Nat.beq pc 51 then some (.getfield 27, 54, 7, 2, 2, 0, 0) else none
  else bif Nat.beq pc 54 then some (.aload_n 0, 55, 0, 0, 0, 0, 0) else none
  else bif Nat.blt pc 59 then bif Nat.blt pc 58 then bif Nat.beq pc 55 then some (.getfield 37, 58, 7, 4, 2, 0, 0) else none
  else bif Nat.beq pc 58 then some (.iconst 0, 59, 0, 0, 0, 0, 0) else none
  else bif Nat.blt pc 62 then bif Nat.beq pc 59 then some (.invokevirtual 64, 62, 6, 4, 1, 0, 0) else none
  else bif Nat.beq pc 62 then some (.aload_n 0, 63, 0, 0, 0, 0, 0) else none
  else bif Nat.blt pc 73 then bif Nat.blt pc 67 then bif Nat.blt pc 66 then bif Nat.beq pc 63 then some (.getfield 37, 66, 7, 4, 2, 0, 0) else none
  else bif Nat.beq pc 66 then some (.aload_n 0, 67, 0, 0, 0, 0, 0) else none
  else bif Nat.blt pc 70 then bif Nat.beq pc 67 then some (.getfield 27, 70, 7, 2, 2, 0, 0) else none
  else bif Nat.beq pc 70 then some (.getfield 195, 73, 2, 9, 2, 0, 0) else none
  else bif Nat.blt pc 77 then bif Nat.blt pc 74 then bif Nat.beq pc 73 then some (.iload_n 1, 74, 1, 0, 0, 0, 0) else none
  else bif Nat.beq pc 74 then some (.invokestatic 107, 77, 101, 2, 99, 0, 0) else none
  else bif Nat.blt pc 80 then bif Nat.beq pc 77 then some (.invokevirtual 198, 80, 21, 2, 3, 0, 0) else none
  else bif Nat.beq pc 80 then some (.ireturn, 81, 0, 0, 0, 0, 0) else none
def rs_X7_openTour : PMR := (1, 2, hdl [], 2)
def mi_X7_openTour : PMI := wrapM 81 cd_X7_openTour rs_X7_openTour
def cd_X7_insert (pc : Nat) : Option PE :=
  bif Nat.blt pc 70 then bif Nat.blt pc 36 then bif Nat.blt pc 11 then bif Nat.blt pc 5 then bif Nat.blt pc 1 then bif Nat.beq pc 0 then some (.aload_n 0, 1, 0, 0, 0, 0, 0) else none
  else bif Nat.blt pc 2 then bif Nat.beq pc 1 then some (.iload_n 1, 2, 1, 0, 0, 0, 0) else none
  else bif Nat.beq pc 2 then some (.invokevirtual 149, 5, 98, 2, 7, 0, 0) else none
  else bif Nat.blt pc 9 then bif Nat.blt pc 6 then bif Nat.beq pc 5 then some (.iload_n 2, 6, 2, 0, 0, 0, 0) else none
  else bif Nat.beq pc 6 then some (.ifCond .lt 18, 9, 24, 0, 0, 0, 0) else none
  else bif Nat.blt pc 10 then bif Nat.beq pc 9 then some (.iload_n 2, 10, 2, 0, 0, 0, 0) else none
  else bif Nat.beq pc 10 then some (.aload_n 0, 11, 0, 0, 0, 0, 0) else none
  else bif Nat.blt pc 21 then bif Nat.blt pc 17 then bif Nat.blt pc 14 then bif Nat.beq pc 11 then some (.getfield 37, 14, 7, 4, 2, 0, 0) else none
  else bif Nat.beq pc 14 then some (.getfield 155, 17, 3, 2, 2, 0, 0) else none
  else bif Nat.blt pc 18 then bif Nat.beq pc 17 then some (.iload_n 1, 18, 1, 0, 0, 0, 0) else none
  else bif Nat.beq pc 18 then some (.invokestatic 107, 21, 101, 2, 99, 0, 0) else none
  else bif Nat.blt pc 34 then bif Nat.blt pc 24 then bif Nat.beq pc 21 then some (.if_icmp .le 13, 24, 34, 0, 0, 0, 0) else none
  else bif Nat.beq pc 24 then some (.new 188, 27, 1, 164, 200, 0, 0) else none
  else bif Nat.blt pc 35 then bif Nat.beq pc 34 then some (.aload_n 0, 35, 0, 0, 0, 0, 0) else none
  else bif Nat.beq pc 35 then some (.iload_n 3, 36, 3, 0, 0, 0, 0) else none
  else bif Nat.blt pc 49 then bif Nat.blt pc 43 then bif Nat.blt pc 39 then bif Nat.beq pc 36 then some (.invokevirtual 119, 39, 97, 2, 7, 0, 0) else none
  else bif Nat.blt pc 40 then bif Nat.beq pc 39 then some (.aload_n 0, 40, 0, 0, 0, 0, 0) else none
  else bif Nat.beq pc 40 then some (.getfield 19, 43, 7, 1, 2, 0, 0) else none
  else bif Nat.blt pc 45 then bif Nat.blt pc 44 then bif Nat.beq pc 43 then some (.iload_n 3, 44, 3, 0, 0, 0, 0) else none
  else bif Nat.beq pc 44 then some (.iconst 2, 45, 0, 0, 0, 2, 0) else none
  else bif Nat.blt pc 46 then bif Nat.beq pc 45 then some (.idiv, 46, 0, 0, 0, 0, 0) else none
  else bif Nat.beq pc 46 then some (.invokevirtual 173, 49, 28, 2, 4, 0, 0) else none
  else bif Nat.blt pc 66 then bif Nat.blt pc 62 then bif Nat.blt pc 52 then bif Nat.beq pc 49 then some (.ifCond .ne 13, 52, 62, 0, 0, 0, 0) else none
  else bif Nat.beq pc 52 then some (.new 180, 55, 2, 182, 200, 0, 0) else none
  else bif Nat.blt pc 63 then bif Nat.beq pc 62 then some (.aload_n 0, 63, 0, 0, 0, 0, 0) else none
  else bif Nat.beq pc 63 then some (.getfield 19, 66, 7, 1, 2, 0, 0) else none
  else bif Nat.blt pc 68 then bif Nat.blt pc 67 then bif Nat.beq pc 66 then some (.iload_n 1, 67, 1, 0, 0, 0, 0) else none
  else bif Nat.beq pc 67 then some (.iload_n 3, 68, 3, 0, 0, 0, 0) else none
  else bif Nat.blt pc 69 then bif Nat.beq pc 68 then some (.iconst 2, 69, 0, 0, 0, 2, 0) else none
  else bif Nat.beq pc 69 then some (.idiv, 70, 0, 0, 0, 0, 0) else none
  else bif Nat.blt pc 109 then bif Nat.blt pc 83 then bif Nat.blt pc 77 then bif Nat.blt pc 73 then bif Nat.beq pc 70 then some (.invokevirtual 201, 73, 30, 3, 4, 0, 0) else none
  else bif Nat.blt pc 76 then bif Nat.beq pc 73 then some (.ifCond .eq 18, 76, 91, 0, 0, 0, 0) else none
  else bif Nat.beq pc 76 then some (.aload_n 0, 77, 0, 0, 0, 0, 0) else none
  else bif Nat.blt pc 81 then bif Nat.blt pc 80 then bif Nat.beq pc 77 then some (.getfield 19, 80, 7, 1, 2, 0, 0) else none
  else bif Nat.beq pc 80 then some (.iload_n 1, 81, 1, 0, 0, 0, 0) else none
  else bif Nat.blt pc 82 then bif Nat.beq pc 81 then some (.iload_n 2, 82, 2, 0, 0, 0, 0) else none
  else bif Nat.beq pc 82 then some (.iload_n 3, 83, 3, 0, 0, 0, 0) else none
  else bif Nat.blt pc 101 then bif Nat.blt pc 88 then bif Nat.blt pc 86 then bif Nat.beq pc 83 then some (.invokevirtual 204, 86, 33, 4, 4, 0, 0) else none
  else bif Nat.beq pc 86 then some (.ldc 208, 88, 0, 0, 0, 100000000, 0) else none
  else bif Nat.blt pc 91 then bif Nat.beq pc 88 then some (.if_icmp .lt 13, 91, 101, 0, 0, 0, 0) else none
  else bif Nat.beq pc 91 then some (.new 180, 94, 2, 209, 200, 0, 0) else none
  else bif Nat.blt pc 105 then bif Nat.blt pc 102 then bif Nat.beq pc 101 then some (.aload_n 0, 102, 0, 0, 0, 0, 0) else none
  else bif Nat.beq pc 102 then some (.getfield 41, 105, 7, 5, 2, 0, 0) else none
  else bif Nat.blt pc 106 then bif Nat.beq pc 105 then some (.aload_n 0, 106, 0, 0, 0, 0, 0) else none
  else bif Nat.beq pc 106 then some (.getfield 27, 109, 7, 2, 2, 0, 0) else none
  else bif Nat.blt pc 122 then bif Nat.blt pc 114 then bif Nat.blt pc 110 then bif Nat.beq pc 109 then some (.aload_n 0, 110, 0, 0, 0, 0, 0) else none
  else bif Nat.blt pc 113 then bif Nat.beq pc 110 then some (.getfield 37, 113, 7, 4, 2, 0, 0) else none
  else bif Nat.beq pc 113 then some (.iconst 0, 114, 0, 0, 0, 0, 0) else none
  else bif Nat.blt pc 118 then bif Nat.blt pc 117 then bif Nat.beq pc 114 then some (.invokevirtual 64, 117, 6, 4, 1, 0, 0) else none
  else bif Nat.beq pc 117 then some (.aload_n 0, 118, 0, 0, 0, 0, 0) else none
  else bif Nat.blt pc 121 then bif Nat.beq pc 118 then some (.getfield 37, 121, 7, 4, 2, 0, 0) else none
  else bif Nat.beq pc 121 then some (.iload_n 1, 122, 1, 0, 0, 0, 0) else none
  else bif Nat.blt pc 128 then bif Nat.blt pc 124 then bif Nat.blt pc 123 then bif Nat.beq pc 122 then some (.iload_n 2, 123, 2, 0, 0, 0, 0) else none
  else bif Nat.beq pc 123 then some (.iload_n 3, 124, 3, 0, 0, 0, 0) else none
  else bif Nat.blt pc 127 then bif Nat.beq pc 124 then some (.invokevirtual 211, 127, 25, 4, 3, 0, 0) else none
  else bif Nat.beq pc 127 then some (.aload_n 0, 128, 0, 0, 0, 0, 0) else none
  else bif Nat.blt pc 132 then bif Nat.blt pc 131 then bif Nat.beq pc 128 then some (.getfield 19, 131, 7, 1, 2, 0, 0) else none
  else bif Nat.beq pc 131 then some (.iload_n 1, 132, 1, 0, 0, 0, 0) else none
  else bif Nat.blt pc 135 then bif Nat.beq pc 132 then some (.invokevirtual 170, 135, 32, 2, 4, 0, 0) else none
  else bif Nat.beq pc 135 then some (.ireturn, 136, 0, 0, 0, 0, 0) else none
def rs_X7_insert : PMR := (1, 5, hdl [], 4)
def mi_X7_insert : PMI := wrapM 136 cd_X7_insert rs_X7_insert
def cd_X7_drop (pc : Nat) : Option PE :=
  bif Nat.blt pc 44 then bif Nat.blt pc 16 then bif Nat.blt pc 9 then bif Nat.blt pc 2 then bif Nat.blt pc 1 then bif Nat.beq pc 0 then some (.aload_n 0, 1, 0, 0, 0, 0, 0) else none
  else bif Nat.beq pc 1 then some (.iload_n 1, 2, 1, 0, 0, 0, 0) else none
  else bif Nat.blt pc 5 then bif Nat.beq pc 2 then some (.invokevirtual 100, 5, 96, 2, 7, 0, 0) else none
  else bif Nat.blt pc 6 then bif Nat.beq pc 5 then some (.aload_n 0, 6, 0, 0, 0, 0, 0) else none
  else bif Nat.beq pc 6 then some (.getfield 37, 9, 7, 4, 2, 0, 0) else none
  else bif Nat.blt pc 13 then bif Nat.blt pc 10 then bif Nat.beq pc 9 then some (.iload_n 1, 10, 1, 0, 0, 0, 0) else none
  else bif Nat.beq pc 10 then some (.invokevirtual 177, 13, 23, 2, 3, 0, 0) else none
  else bif Nat.blt pc 14 then bif Nat.beq pc 13 then some (.istore_n 2, 14, 2, 0, 0, 0, 0) else none
  else bif Nat.blt pc 15 then bif Nat.beq pc 14 then some (.iload_n 2, 15, 2, 0, 0, 0, 0) else none
  else bif Nat.beq pc 15 then some (.iconst (-1), 16, 0, 0, 0, (-1), 0) else none
  else bif Nat.blt pc 34 then bif Nat.blt pc 29 then bif Nat.blt pc 19 then bif Nat.beq pc 16 then some (.if_icmp .ne 13, 19, 29, 0, 0, 0, 0) else none
  else bif Nat.beq pc 19 then some (.new 180, 22, 2, 215, 200, 0, 0) else none
  else bif Nat.blt pc 30 then bif Nat.beq pc 29 then some (.aload_n 0, 30, 0, 0, 0, 0, 0) else none
  else bif Nat.blt pc 33 then bif Nat.beq pc 30 then some (.getfield 37, 33, 7, 4, 2, 0, 0) else none
  else bif Nat.beq pc 33 then some (.iload_n 2, 34, 2, 0, 0, 0, 0) else none
  else bif Nat.blt pc 39 then bif Nat.blt pc 35 then bif Nat.beq pc 34 then some (.iload_n 1, 35, 1, 0, 0, 0, 0) else none
  else bif Nat.blt pc 38 then bif Nat.beq pc 35 then some (.invokevirtual 217, 38, 24, 3, 3, 0, 0) else none
  else bif Nat.beq pc 38 then some (.istore_n 3, 39, 3, 0, 0, 0, 0) else none
  else bif Nat.blt pc 40 then bif Nat.beq pc 39 then some (.aload_n 0, 40, 0, 0, 0, 0, 0) else none
  else bif Nat.blt pc 43 then bif Nat.beq pc 40 then some (.getfield 19, 43, 7, 1, 2, 0, 0) else none
  else bif Nat.beq pc 43 then some (.iload_n 2, 44, 2, 0, 0, 0, 0) else none
  else bif Nat.blt pc 74 then bif Nat.blt pc 62 then bif Nat.blt pc 48 then bif Nat.blt pc 45 then bif Nat.beq pc 44 then some (.iload_n 3, 45, 3, 0, 0, 0, 0) else none
  else bif Nat.beq pc 45 then some (.invokevirtual 220, 48, 34, 3, 4, 0, 0) else none
  else bif Nat.blt pc 51 then bif Nat.beq pc 48 then some (.ifCond .ne 13, 51, 61, 0, 0, 0, 0) else none
  else bif Nat.blt pc 61 then bif Nat.beq pc 51 then some (.new 180, 54, 2, 223, 200, 0, 0) else none
  else bif Nat.beq pc 61 then some (.aload_n 0, 62, 0, 0, 0, 0, 0) else none
  else bif Nat.blt pc 69 then bif Nat.blt pc 65 then bif Nat.beq pc 62 then some (.getfield 41, 65, 7, 5, 2, 0, 0) else none
  else bif Nat.blt pc 66 then bif Nat.beq pc 65 then some (.aload_n 0, 66, 0, 0, 0, 0, 0) else none
  else bif Nat.beq pc 66 then some (.getfield 27, 69, 7, 2, 2, 0, 0) else none
  else bif Nat.blt pc 70 then bif Nat.beq pc 69 then some (.aload_n 0, 70, 0, 0, 0, 0, 0) else none
  else bif Nat.blt pc 73 then bif Nat.beq pc 70 then some (.getfield 37, 73, 7, 4, 2, 0, 0) else none
  else bif Nat.beq pc 73 then some (.iconst 0, 74, 0, 0, 0, 0, 0) else none
  else bif Nat.blt pc 83 then bif Nat.blt pc 78 then bif Nat.blt pc 77 then bif Nat.beq pc 74 then some (.invokevirtual 64, 77, 6, 4, 1, 0, 0) else none
  else bif Nat.beq pc 77 then some (.aload_n 0, 78, 0, 0, 0, 0, 0) else none
  else bif Nat.blt pc 81 then bif Nat.beq pc 78 then some (.getfield 37, 81, 7, 4, 2, 0, 0) else none
  else bif Nat.blt pc 82 then bif Nat.beq pc 81 then some (.iload_n 2, 82, 2, 0, 0, 0, 0) else none
  else bif Nat.beq pc 82 then some (.iload_n 3, 83, 3, 0, 0, 0, 0) else none
  else bif Nat.blt pc 90 then bif Nat.blt pc 86 then bif Nat.beq pc 83 then some (.invokevirtual 225, 86, 26, 3, 3, 0, 0) else none
  else bif Nat.blt pc 87 then bif Nat.beq pc 86 then some (.aload_n 0, 87, 0, 0, 0, 0, 0) else none
  else bif Nat.beq pc 87 then some (.getfield 19, 90, 7, 1, 2, 0, 0) else none
  else bif Nat.blt pc 91 then bif Nat.beq pc 90 then some (.iload_n 2, 91, 2, 0, 0, 0, 0) else none
  else bif Nat.blt pc 94 then bif Nat.beq pc 91 then some (.invokevirtual 170, 94, 32, 2, 4, 0, 0) else none
  else bif Nat.beq pc 94 then some (.ireturn, 95, 0, 0, 0, 0, 0) else none
def rs_X7_drop : PMR := (1, 3, hdl [], 4)
def mi_X7_drop : PMI := wrapM 95 cd_X7_drop rs_X7_drop
def cd_X7_flip (pc : Nat) : Option PE :=
  bif Nat.blt pc 44 then bif Nat.blt pc 16 then bif Nat.blt pc 9 then bif Nat.blt pc 2 then bif Nat.blt pc 1 then bif Nat.beq pc 0 then some (.aload_n 0, 1, 0, 0, 0, 0, 0) else none
  else bif Nat.beq pc 1 then some (.iload_n 1, 2, 1, 0, 0, 0, 0) else none
  else bif Nat.blt pc 5 then bif Nat.beq pc 2 then some (.invokevirtual 100, 5, 96, 2, 7, 0, 0) else none
  else bif Nat.blt pc 6 then bif Nat.beq pc 5 then some (.aload_n 0, 6, 0, 0, 0, 0, 0) else none
  else bif Nat.beq pc 6 then some (.getfield 37, 9, 7, 4, 2, 0, 0) else none
  else bif Nat.blt pc 13 then bif Nat.blt pc 10 then bif Nat.beq pc 9 then some (.iload_n 1, 10, 1, 0, 0, 0, 0) else none
  else bif Nat.beq pc 10 then some (.invokevirtual 177, 13, 23, 2, 3, 0, 0) else none
  else bif Nat.blt pc 14 then bif Nat.beq pc 13 then some (.istore_n 2, 14, 2, 0, 0, 0, 0) else none
  else bif Nat.blt pc 15 then bif Nat.beq pc 14 then some (.iload_n 2, 15, 2, 0, 0, 0, 0) else none
  else bif Nat.beq pc 15 then some (.iconst (-1), 16, 0, 0, 0, (-1), 0) else none
  else bif Nat.blt pc 34 then bif Nat.blt pc 29 then bif Nat.blt pc 19 then bif Nat.beq pc 16 then some (.if_icmp .ne 13, 19, 29, 0, 0, 0, 0) else none
  else bif Nat.beq pc 19 then some (.new 180, 22, 2, 215, 200, 0, 0) else none
  else bif Nat.blt pc 30 then bif Nat.beq pc 29 then some (.aload_n 0, 30, 0, 0, 0, 0, 0) else none
  else bif Nat.blt pc 33 then bif Nat.beq pc 30 then some (.getfield 37, 33, 7, 4, 2, 0, 0) else none
  else bif Nat.beq pc 33 then some (.iload_n 2, 34, 2, 0, 0, 0, 0) else none
  else bif Nat.blt pc 39 then bif Nat.blt pc 35 then bif Nat.beq pc 34 then some (.iload_n 1, 35, 1, 0, 0, 0, 0) else none
  else bif Nat.blt pc 38 then bif Nat.beq pc 35 then some (.invokevirtual 217, 38, 24, 3, 3, 0, 0) else none
  else bif Nat.beq pc 38 then some (.istore_n 3, 39, 3, 0, 0, 0, 0) else none
  else bif Nat.blt pc 40 then bif Nat.beq pc 39 then some (.aload_n 0, 40, 0, 0, 0, 0, 0) else none
  else bif Nat.blt pc 43 then bif Nat.beq pc 40 then some (.getfield 19, 43, 7, 1, 2, 0, 0) else none
  else bif Nat.beq pc 43 then some (.iload_n 2, 44, 2, 0, 0, 0, 0) else none
  else bif Nat.blt pc 74 then bif Nat.blt pc 62 then bif Nat.blt pc 48 then bif Nat.blt pc 45 then bif Nat.beq pc 44 then some (.iload_n 3, 45, 3, 0, 0, 0, 0) else none
  else bif Nat.beq pc 45 then some (.invokevirtual 229, 48, 35, 3, 4, 0, 0) else none
  else bif Nat.blt pc 51 then bif Nat.beq pc 48 then some (.ifCond .ne 13, 51, 61, 0, 0, 0, 0) else none
  else bif Nat.blt pc 61 then bif Nat.beq pc 51 then some (.new 180, 54, 2, 223, 200, 0, 0) else none
  else bif Nat.beq pc 61 then some (.aload_n 0, 62, 0, 0, 0, 0, 0) else none
  else bif Nat.blt pc 69 then bif Nat.blt pc 65 then bif Nat.beq pc 62 then some (.getfield 41, 65, 7, 5, 2, 0, 0) else none
  else bif Nat.blt pc 66 then bif Nat.beq pc 65 then some (.aload_n 0, 66, 0, 0, 0, 0, 0) else none
  else bif Nat.beq pc 66 then some (.getfield 27, 69, 7, 2, 2, 0, 0) else none
  else bif Nat.blt pc 70 then bif Nat.beq pc 69 then some (.aload_n 0, 70, 0, 0, 0, 0, 0) else none
  else bif Nat.blt pc 73 then bif Nat.beq pc 70 then some (.getfield 37, 73, 7, 4, 2, 0, 0) else none
  else bif Nat.beq pc 73 then some (.iconst 0, 74, 0, 0, 0, 0, 0) else none
  else bif Nat.blt pc 83 then bif Nat.blt pc 78 then bif Nat.blt pc 77 then bif Nat.beq pc 74 then some (.invokevirtual 64, 77, 6, 4, 1, 0, 0) else none
  else bif Nat.beq pc 77 then some (.aload_n 0, 78, 0, 0, 0, 0, 0) else none
  else bif Nat.blt pc 81 then bif Nat.beq pc 78 then some (.getfield 37, 81, 7, 4, 2, 0, 0) else none
  else bif Nat.blt pc 82 then bif Nat.beq pc 81 then some (.iload_n 2, 82, 2, 0, 0, 0, 0) else none
  else bif Nat.beq pc 82 then some (.iload_n 3, 83, 3, 0, 0, 0, 0) else none
  else bif Nat.blt pc 90 then bif Nat.blt pc 86 then bif Nat.beq pc 83 then some (.invokevirtual 232, 86, 27, 3, 3, 0, 0) else none
  else bif Nat.blt pc 87 then bif Nat.beq pc 86 then some (.aload_n 0, 87, 0, 0, 0, 0, 0) else none
  else bif Nat.beq pc 87 then some (.getfield 19, 90, 7, 1, 2, 0, 0) else none
  else bif Nat.blt pc 91 then bif Nat.beq pc 90 then some (.iload_n 2, 91, 2, 0, 0, 0, 0) else none
  else bif Nat.blt pc 94 then bif Nat.beq pc 91 then some (.invokevirtual 170, 94, 32, 2, 4, 0, 0) else none
  else bif Nat.beq pc 94 then some (.ireturn, 95, 0, 0, 0, 0, 0) else none
def rs_X7_flip : PMR := (1, 3, hdl [], 4)
def mi_X7_flip : PMI := wrapM 95 cd_X7_flip rs_X7_flip
def cd_X7_build (pc : Nat) : Option PE :=
  bif Nat.blt pc 28 then bif Nat.blt pc 16 then bif Nat.blt pc 8 then bif Nat.blt pc 4 then bif Nat.blt pc 1 then bif Nat.beq pc 0 then some (.aload_n 0, 1, 0, 0, 0, 0, 0) else none
  else bif Nat.beq pc 1 then some (.getfield 41, 4, 7, 5, 2, 0, 0) else none
  else bif Nat.blt pc 5 then bif Nat.beq pc 4 then some (.aload_n 0, 5, 0, 0, 0, 0, 0) else none
  else bif Nat.beq pc 5 then some (.getfield 27, 8, 7, 2, 2, 0, 0) else none
  else bif Nat.blt pc 12 then bif Nat.blt pc 9 then bif Nat.beq pc 8 then some (.aload_n 0, 9, 0, 0, 0, 0, 0) else none
  else bif Nat.beq pc 9 then some (.getfield 37, 12, 7, 4, 2, 0, 0) else none
  else bif Nat.blt pc 13 then bif Nat.beq pc 12 then some (.iconst 0, 13, 0, 0, 0, 0, 0) else none
  else bif Nat.beq pc 13 then some (.invokevirtual 64, 16, 6, 4, 1, 0, 0) else none
  else bif Nat.blt pc 20 then bif Nat.blt pc 18 then bif Nat.blt pc 17 then bif Nat.beq pc 16 then some (.iconst 0, 17, 0, 0, 0, 0, 0) else none
  else bif Nat.beq pc 17 then some (.istore_n 1, 18, 1, 0, 0, 0, 0) else none
  else bif Nat.blt pc 19 then bif Nat.beq pc 18 then some (.iconst 0, 19, 0, 0, 0, 0, 0) else none
  else bif Nat.beq pc 19 then some (.istore_n 2, 20, 2, 0, 0, 0, 0) else none
  else bif Nat.blt pc 22 then bif Nat.blt pc 21 then bif Nat.beq pc 20 then some (.iload_n 2, 21, 2, 0, 0, 0, 0) else none
  else bif Nat.beq pc 21 then some (.aload_n 0, 22, 0, 0, 0, 0, 0) else none
  else bif Nat.blt pc 25 then bif Nat.beq pc 22 then some (.getfield 27, 25, 7, 2, 2, 0, 0) else none
  else bif Nat.beq pc 25 then some (.getfield 85, 28, 2, 2, 0, 0, 0) else none
  else bif Nat.blt pc 46 then bif Nat.blt pc 36 then bif Nat.blt pc 32 then bif Nat.blt pc 31 then bif Nat.beq pc 28 then some (.if_icmp .ge 34, 31, 62, 0, 0, 0, 0) else none
  else bif Nat.beq pc 31 then some (.aload_n 0, 32, 0, 0, 0, 0, 0) else none
  else bif Nat.blt pc 35 then bif Nat.beq pc 32 then some (.getfield 19, 35, 7, 1, 2, 0, 0) else none
  else bif Nat.beq pc 35 then some (.iload_n 2, 36, 2, 0, 0, 0, 0) else none
  else bif Nat.blt pc 42 then bif Nat.blt pc 39 then bif Nat.beq pc 36 then some (.invokevirtual 173, 39, 28, 2, 4, 0, 0) else none
  else bif Nat.beq pc 39 then some (.ifCond .eq 17, 42, 56, 0, 0, 0, 0) else none
  else bif Nat.blt pc 43 then bif Nat.beq pc 42 then some (.aload_n 0, 43, 0, 0, 0, 0, 0) else none
  else bif Nat.beq pc 43 then some (.getfield 19, 46, 7, 1, 2, 0, 0) else none
  else bif Nat.blt pc 56 then bif Nat.blt pc 50 then bif Nat.blt pc 47 then bif Nat.beq pc 46 then some (.iload_n 2, 47, 2, 0, 0, 0, 0) else none
  else bif Nat.beq pc 47 then some (.invokevirtual 235, 50, 38, 2, 4, 0, 0) else none
  else bif Nat.blt pc 53 then bif Nat.beq pc 50 then some (.ifCond .eq 6, 53, 56, 0, 0, 0, 0) else none
  else bif Nat.beq pc 53 then some (.iinc 1 1, 56, 1, 0, 0, 1, 0) else none
  else bif Nat.blt pc 62 then bif Nat.blt pc 59 then bif Nat.beq pc 56 then some (.iinc 2 1, 59, 2, 0, 0, 1, 0) else none
  else bif Nat.beq pc 59 then some (.goto (-39), 62, 20, 0, 0, 0, 0) else none
  else bif Nat.blt pc 63 then bif Nat.beq pc 62 then some (.iload_n 1, 63, 1, 0, 0, 0, 0) else none
  else bif Nat.beq pc 63 then some (.ireturn, 64, 0, 0, 0, 0, 0) else none
def rs_X7_build : PMR := (1, 0, hdl [], 3)
def mi_X7_build : PMI := wrapM 64 cd_X7_build rs_X7_build
def cd_X7_improve (pc : Nat) : Option PE :=
  bif Nat.blt pc 41 then bif Nat.blt pc 25 then bif Nat.blt pc 6 then bif Nat.blt pc 2 then bif Nat.blt pc 1 then bif Nat.beq pc 0 then some (.iload_n 1, 1, 1, 0, 0, 0, 0) else none
  else bif Nat.beq pc 1 then some (.iconst 1, 2, 0, 0, 0, 1, 0) else none
  else bif Nat.blt pc 5 then bif Nat.beq pc 2 then some (.if_icmp .lt 9, 5, 11, 0, 0, 0, 0) else none
  else bif Nat.beq pc 5 then some (.iload_n 1, 6, 1, 0, 0, 0, 0) else none
  else bif Nat.blt pc 11 then bif Nat.blt pc 8 then bif Nat.beq pc 6 then some (.bipush 10, 8, 0, 0, 0, 10, 0) else none
  else bif Nat.beq pc 8 then some (.if_icmp .le 13, 11, 21, 0, 0, 0, 0) else none
  else bif Nat.blt pc 21 then bif Nat.beq pc 11 then some (.new 53, 14, 0, 238, 200, 0, 0) else none
  else bif Nat.blt pc 22 then bif Nat.beq pc 21 then some (.aload_n 0, 22, 0, 0, 0, 0, 0) else none
  else bif Nat.beq pc 22 then some (.getfield 41, 25, 7, 5, 2, 0, 0) else none
  else bif Nat.blt pc 34 then bif Nat.blt pc 29 then bif Nat.blt pc 26 then bif Nat.beq pc 25 then some (.aload_n 0, 26, 0, 0, 0, 0, 0) else none
  else bif Nat.beq pc 26 then some (.getfield 27, 29, 7, 2, 2, 0, 0) else none
  else bif Nat.blt pc 30 then bif Nat.beq pc 29 then some (.aload_n 0, 30, 0, 0, 0, 0, 0) else none
  else bif Nat.blt pc 33 then bif Nat.beq pc 30 then some (.getfield 37, 33, 7, 4, 2, 0, 0) else none
  else bif Nat.beq pc 33 then some (.iconst 0, 34, 0, 0, 0, 0, 0) else none
  else bif Nat.blt pc 38 then bif Nat.blt pc 37 then bif Nat.beq pc 34 then some (.invokevirtual 64, 37, 6, 4, 1, 0, 0) else none
  else bif Nat.beq pc 37 then some (.iconst 0, 38, 0, 0, 0, 0, 0) else none
  else bif Nat.blt pc 39 then bif Nat.beq pc 38 then some (.istore_n 2, 39, 2, 0, 0, 0, 0) else none
  else bif Nat.blt pc 40 then bif Nat.beq pc 39 then some (.iconst 1, 40, 0, 0, 0, 1, 0) else none
  else bif Nat.beq pc 40 then some (.istore_n 3, 41, 3, 0, 0, 0, 0) else none
  else bif Nat.blt pc 58 then bif Nat.blt pc 47 then bif Nat.blt pc 44 then bif Nat.blt pc 42 then bif Nat.beq pc 41 then some (.iconst 0, 42, 0, 0, 0, 0, 0) else none
  else bif Nat.beq pc 42 then some (.istore 4, 44, 4, 0, 0, 0, 0) else none
  else bif Nat.blt pc 46 then bif Nat.beq pc 44 then some (.iload 4, 46, 4, 0, 0, 0, 0) else none
  else bif Nat.beq pc 46 then some (.iload_n 1, 47, 1, 0, 0, 0, 0) else none
  else bif Nat.blt pc 51 then bif Nat.blt pc 50 then bif Nat.beq pc 47 then some (.if_icmp .ge 25, 50, 72, 0, 0, 0, 0) else none
  else bif Nat.beq pc 50 then some (.iload_n 3, 51, 3, 0, 0, 0, 0) else none
  else bif Nat.blt pc 54 then bif Nat.beq pc 51 then some (.ifCond .le 21, 54, 72, 0, 0, 0, 0) else none
  else bif Nat.blt pc 55 then bif Nat.beq pc 54 then some (.aload_n 0, 55, 0, 0, 0, 0, 0) else none
  else bif Nat.beq pc 55 then some (.getfield 19, 58, 7, 1, 2, 0, 0) else none
  else bif Nat.blt pc 65 then bif Nat.blt pc 62 then bif Nat.blt pc 61 then bif Nat.beq pc 58 then some (.invokevirtual 240, 61, 40, 1, 4, 0, 0) else none
  else bif Nat.beq pc 61 then some (.istore_n 3, 62, 3, 0, 0, 0, 0) else none
  else bif Nat.blt pc 63 then bif Nat.beq pc 62 then some (.iload_n 2, 63, 2, 0, 0, 0, 0) else none
  else bif Nat.blt pc 64 then bif Nat.beq pc 63 then some (.iload_n 3, 64, 3, 0, 0, 0, 0) else none
  else bif Nat.beq pc 64 then some (.iadd, 65, 0, 0, 0, 0, 0) else none
  else bif Nat.blt pc 69 then bif Nat.blt pc 66 then bif Nat.beq pc 65 then some (.istore_n 2, 66, 2, 0, 0, 0, 0) else none
  else bif Nat.beq pc 66 then some (.iinc 4 1, 69, 4, 0, 0, 1, 0) else none
  else bif Nat.blt pc 72 then bif Nat.beq pc 69 then some (.goto (-25), 72, 44, 0, 0, 0, 0) else none
  else bif Nat.blt pc 73 then bif Nat.beq pc 72 then some (.iload_n 2, 73, 2, 0, 0, 0, 0) else none
  else bif Nat.beq pc 73 then some (.ireturn, 74, 0, 0, 0, 0, 0) else none
def rs_X7_improve : PMR := (1, 1, hdl [], 5)
def mi_X7_improve : PMI := wrapM 74 cd_X7_improve rs_X7_improve
def cd_X7_undo (pc : Nat) : Option PE :=
  bif Nat.blt pc 21 then bif Nat.blt pc 11 then bif Nat.blt pc 4 then bif Nat.blt pc 1 then bif Nat.beq pc 0 then some (.aload_n 0, 1, 0, 0, 0, 0, 0) else none
  else bif Nat.beq pc 1 then some (.getfield 41, 4, 7, 5, 2, 0, 0) else none
  else bif Nat.blt pc 7 then bif Nat.beq pc 4 then some (.getfield 243, 7, 1, 3, 0, 0, 0) else none
  else bif Nat.blt pc 10 then bif Nat.beq pc 7 then some (.ifCond .ne 5, 10, 12, 0, 0, 0, 0) else none
  else bif Nat.beq pc 10 then some (.iconst (-1), 11, 0, 0, 0, (-1), 0) else none
  else bif Nat.blt pc 16 then bif Nat.blt pc 12 then bif Nat.beq pc 11 then some (.ireturn, 12, 0, 0, 0, 0, 0) else none
  else bif Nat.blt pc 13 then bif Nat.beq pc 12 then some (.aload_n 0, 13, 0, 0, 0, 0, 0) else none
  else bif Nat.beq pc 13 then some (.getfield 41, 16, 7, 5, 2, 0, 0) else none
  else bif Nat.blt pc 17 then bif Nat.beq pc 16 then some (.aload_n 0, 17, 0, 0, 0, 0, 0) else none
  else bif Nat.blt pc 20 then bif Nat.beq pc 17 then some (.getfield 27, 20, 7, 2, 2, 0, 0) else none
  else bif Nat.beq pc 20 then some (.aload_n 0, 21, 0, 0, 0, 0, 0) else none
  else bif Nat.blt pc 35 then bif Nat.blt pc 30 then bif Nat.blt pc 24 then bif Nat.beq pc 21 then some (.getfield 37, 24, 7, 4, 2, 0, 0) else none
  else bif Nat.blt pc 27 then bif Nat.beq pc 24 then some (.invokevirtual 246, 27, 7, 3, 1, 0, 0) else none
  else bif Nat.beq pc 27 then some (.ifCond .eq 14, 30, 41, 0, 0, 0, 0) else none
  else bif Nat.blt pc 31 then bif Nat.beq pc 30 then some (.aload_n 0, 31, 0, 0, 0, 0, 0) else none
  else bif Nat.blt pc 34 then bif Nat.beq pc 31 then some (.getfield 32, 34, 7, 3, 2, 0, 0) else none
  else bif Nat.beq pc 34 then some (.aload_n 0, 35, 0, 0, 0, 0, 0) else none
  else bif Nat.blt pc 42 then bif Nat.blt pc 38 then bif Nat.beq pc 35 then some (.getfield 27, 38, 7, 2, 2, 0, 0) else none
  else bif Nat.blt pc 41 then bif Nat.beq pc 38 then some (.invokevirtual 75, 41, 41, 2, 5, 0, 0) else none
  else bif Nat.beq pc 41 then some (.aload_n 0, 42, 0, 0, 0, 0, 0) else none
  else bif Nat.blt pc 45 then bif Nat.beq pc 42 then some (.getfield 41, 45, 7, 5, 2, 0, 0) else none
  else bif Nat.blt pc 48 then bif Nat.beq pc 45 then some (.getfield 243, 48, 1, 3, 0, 0, 0) else none
  else bif Nat.beq pc 48 then some (.ireturn, 49, 0, 0, 0, 0, 0) else none
def rs_X7_undo : PMR := (1, 0, hdl [], 1)
def mi_X7_undo : PMI := wrapM 49 cd_X7_undo rs_X7_undo
def cd_X7_checksum (pc : Nat) : Option PE :=
  bif Nat.blt pc 57 then bif Nat.blt pc 22 then bif Nat.blt pc 12 then bif Nat.blt pc 6 then bif Nat.blt pc 4 then bif Nat.blt pc 1 then bif Nat.beq pc 0 then some (.aload_n 0, 1, 0, 0, 0, 0, 0) else none
  else bif Nat.beq pc 1 then some (.invokevirtual 250, 4, 84, 1, 7, 0, 0) else none
  else bif Nat.blt pc 5 then bif Nat.beq pc 4 then some (.i2l, 5, 0, 0, 0, 0, 0) else none
  else bif Nat.beq pc 5 then some (.lstore_n 1, 6, 1, 0, 0, 0, 0) else none
  else bif Nat.blt pc 10 then bif Nat.blt pc 9 then bif Nat.beq pc 6 then some (.ldc2_w 253, 9, 0, 0, 0, 0, 31) else none
  else bif Nat.beq pc 9 then some (.lload_n 1, 10, 1, 0, 0, 0, 0) else none
  else bif Nat.blt pc 11 then bif Nat.beq pc 10 then some (.lmul, 11, 0, 0, 0, 0, 0) else none
  else bif Nat.beq pc 11 then some (.aload_n 0, 12, 0, 0, 0, 0, 0) else none
  else bif Nat.blt pc 18 then bif Nat.blt pc 16 then bif Nat.blt pc 15 then bif Nat.beq pc 12 then some (.invokevirtual 255, 15, 85, 1, 7, 0, 0) else none
  else bif Nat.beq pc 15 then some (.i2l, 16, 0, 0, 0, 0, 0) else none
  else bif Nat.blt pc 17 then bif Nat.beq pc 16 then some (.ladd, 17, 0, 0, 0, 0, 0) else none
  else bif Nat.beq pc 17 then some (.lstore_n 1, 18, 1, 0, 0, 0, 0) else none
  else bif Nat.blt pc 20 then bif Nat.blt pc 19 then bif Nat.beq pc 18 then some (.iconst 0, 19, 0, 0, 0, 0, 0) else none
  else bif Nat.beq pc 19 then some (.istore_n 3, 20, 3, 0, 0, 0, 0) else none
  else bif Nat.blt pc 21 then bif Nat.beq pc 20 then some (.iload_n 3, 21, 3, 0, 0, 0, 0) else none
  else bif Nat.beq pc 21 then some (.aload_n 0, 22, 0, 0, 0, 0, 0) else none
  else bif Nat.blt pc 42 then bif Nat.blt pc 32 then bif Nat.blt pc 28 then bif Nat.blt pc 25 then bif Nat.beq pc 22 then some (.getfield 37, 25, 7, 4, 2, 0, 0) else none
  else bif Nat.beq pc 25 then some (.getfield 97, 28, 3, 0, 0, 0, 0) else none
  else bif Nat.blt pc 31 then bif Nat.beq pc 28 then some (.if_icmp .ge 85, 31, 113, 0, 0, 0, 0) else none
  else bif Nat.beq pc 31 then some (.aload_n 0, 32, 0, 0, 0, 0, 0) else none
  else bif Nat.blt pc 38 then bif Nat.blt pc 35 then bif Nat.beq pc 32 then some (.getfield 37, 35, 7, 4, 2, 0, 0) else none
  else bif Nat.beq pc 35 then some (.getfield 155, 38, 3, 2, 2, 0, 0) else none
  else bif Nat.blt pc 39 then bif Nat.beq pc 38 then some (.iload_n 3, 39, 3, 0, 0, 0, 0) else none
  else bif Nat.beq pc 39 then some (.invokestatic 107, 42, 101, 2, 99, 0, 0) else none
  else bif Nat.blt pc 49 then bif Nat.blt pc 47 then bif Nat.blt pc 44 then bif Nat.beq pc 42 then some (.istore 4, 44, 4, 0, 0, 0, 0) else none
  else bif Nat.beq pc 44 then some (.ldc2_w 253, 47, 0, 0, 0, 0, 31) else none
  else bif Nat.blt pc 48 then bif Nat.beq pc 47 then some (.lload_n 1, 48, 1, 0, 0, 0, 0) else none
  else bif Nat.beq pc 48 then some (.lmul, 49, 0, 0, 0, 0, 0) else none
  else bif Nat.blt pc 53 then bif Nat.blt pc 50 then bif Nat.beq pc 49 then some (.aload_n 0, 50, 0, 0, 0, 0, 0) else none
  else bif Nat.beq pc 50 then some (.getfield 37, 53, 7, 4, 2, 0, 0) else none
  else bif Nat.blt pc 56 then bif Nat.beq pc 53 then some (.getfield 152, 56, 3, 1, 2, 0, 0) else none
  else bif Nat.beq pc 56 then some (.iload_n 3, 57, 3, 0, 0, 0, 0) else none
  else bif Nat.blt pc 83 then bif Nat.blt pc 70 then bif Nat.blt pc 63 then bif Nat.blt pc 61 then bif Nat.blt pc 60 then bif Nat.beq pc 57 then some (.invokestatic 107, 60, 101, 2, 99, 0, 0) else none
  else bif Nat.beq pc 60 then some (.i2l, 61, 0, 0, 0, 0, 0) else none
  else bif Nat.blt pc 62 then bif Nat.beq pc 61 then some (.ladd, 62, 0, 0, 0, 0, 0) else none
  else bif Nat.beq pc 62 then some (.lstore_n 1, 63, 1, 0, 0, 0, 0) else none
  else bif Nat.blt pc 67 then bif Nat.blt pc 66 then bif Nat.beq pc 63 then some (.ldc2_w 253, 66, 0, 0, 0, 0, 31) else none
  else bif Nat.beq pc 66 then some (.lload_n 1, 67, 1, 0, 0, 0, 0) else none
  else bif Nat.blt pc 68 then bif Nat.beq pc 67 then some (.lmul, 68, 0, 0, 0, 0, 0) else none
  else bif Nat.beq pc 68 then some (.iload 4, 70, 4, 0, 0, 0, 0) else none
  else bif Nat.blt pc 74 then bif Nat.blt pc 72 then bif Nat.blt pc 71 then bif Nat.beq pc 70 then some (.i2l, 71, 0, 0, 0, 0, 0) else none
  else bif Nat.beq pc 71 then some (.ladd, 72, 0, 0, 0, 0, 0) else none
  else bif Nat.blt pc 73 then bif Nat.beq pc 72 then some (.lstore_n 1, 73, 1, 0, 0, 0, 0) else none
  else bif Nat.beq pc 73 then some (.iconst 0, 74, 0, 0, 0, 0, 0) else none
  else bif Nat.blt pc 78 then bif Nat.blt pc 76 then bif Nat.beq pc 74 then some (.istore 5, 76, 5, 0, 0, 0, 0) else none
  else bif Nat.beq pc 76 then some (.iload 5, 78, 5, 0, 0, 0, 0) else none
  else bif Nat.blt pc 80 then bif Nat.beq pc 78 then some (.iload 4, 80, 4, 0, 0, 0, 0) else none
  else bif Nat.beq pc 80 then some (.if_icmp .ge 27, 83, 107, 0, 0, 0, 0) else none
  else bif Nat.blt pc 98 then bif Nat.blt pc 89 then bif Nat.blt pc 87 then bif Nat.blt pc 86 then bif Nat.beq pc 83 then some (.ldc2_w 253, 86, 0, 0, 0, 0, 31) else none
  else bif Nat.beq pc 86 then some (.lload_n 1, 87, 1, 0, 0, 0, 0) else none
  else bif Nat.blt pc 88 then bif Nat.beq pc 87 then some (.lmul, 88, 0, 0, 0, 0, 0) else none
  else bif Nat.beq pc 88 then some (.aload_n 0, 89, 0, 0, 0, 0, 0) else none
  else bif Nat.blt pc 93 then bif Nat.blt pc 92 then bif Nat.beq pc 89 then some (.getfield 37, 92, 7, 4, 2, 0, 0) else none
  else bif Nat.beq pc 92 then some (.iload_n 3, 93, 3, 0, 0, 0, 0) else none
  else bif Nat.blt pc 95 then bif Nat.beq pc 93 then some (.iload 5, 95, 5, 0, 0, 0, 0) else none
  else bif Nat.beq pc 95 then some (.invokevirtual 158, 98, 22, 3, 3, 0, 0) else none
  else bif Nat.blt pc 104 then bif Nat.blt pc 100 then bif Nat.blt pc 99 then bif Nat.beq pc 98 then some (.i2l, 99, 0, 0, 0, 0, 0) else none
  else bif Nat.beq pc 99 then some (.ladd, 100, 0, 0, 0, 0, 0) else none
  else bif Nat.blt pc 101 then bif Nat.beq pc 100 then some (.lstore_n 1, 101, 1, 0, 0, 0, 0) else none
  else bif Nat.beq pc 101 then some (.iinc 5 1, 104, 5, 0, 0, 1, 0) else none
  else bif Nat.blt pc 110 then bif Nat.blt pc 107 then bif Nat.beq pc 104 then some (.goto (-28), 107, 76, 0, 0, 0, 0) else none
  else bif Nat.beq pc 107 then some (.iinc 3 1, 110, 3, 0, 0, 1, 0) else none
  else bif Nat.blt pc 113 then bif Nat.beq pc 110 then some (.goto (-90), 113, 20, 0, 0, 0, 0) else none
  else bif Nat.blt pc 114 then bif Nat.beq pc 113 then some (.lload_n 1, 114, 1, 0, 0, 0, 0) else none
  else bif Nat.beq pc 114 then some (.lreturn, 115, 0, 0, 0, 0, 0) else none
def rs_X7_checksum : PMR := (3, 0, hdl [], 6)
def mi_X7_checksum : PMI := wrapM 115 cd_X7_checksum rs_X7_checksum
def cd_X7_requireEdge (pc : Nat) : Option PE :=
  bif Nat.blt pc 6 then bif Nat.blt pc 4 then bif Nat.blt pc 1 then bif Nat.beq pc 0 then some (.iload_n 1, 1, 1, 0, 0, 0, 0) else none
  else bif Nat.beq pc 1 then some (.ifCond .lt 14, 4, 15, 0, 0, 0, 0) else none
  else bif Nat.blt pc 5 then bif Nat.beq pc 4 then some (.iload_n 1, 5, 1, 0, 0, 0, 0) else none
  else bif Nat.beq pc 5 then some (.aload_n 0, 6, 0, 0, 0, 0, 0) else none
  else bif Nat.blt pc 12 then bif Nat.blt pc 9 then bif Nat.beq pc 6 then some (.getfield 27, 9, 7, 2, 2, 0, 0) else none
  else bif Nat.beq pc 9 then some (.getfield 85, 12, 2, 2, 0, 0, 0) else none
  else bif Nat.blt pc 15 then bif Nat.beq pc 12 then some (.if_icmp .lt 14, 15, 26, 0, 0, 0, 0) else none
  else bif Nat.blt pc 26 then bif Nat.beq pc 15 then some (.new 188, 18, 1, 260, 201, 0, 0) else none
  else bif Nat.beq pc 26 then some (.return_, 27, 0, 0, 0, 0, 0) else none
def rs_X7_requireEdge : PMR := (0, 1, hdl [], 2)
def mi_X7_requireEdge : PMI := wrapM 27 cd_X7_requireEdge rs_X7_requireEdge
def cd_X7_requireArc (pc : Nat) : Option PE :=
  bif Nat.blt pc 7 then bif Nat.blt pc 4 then bif Nat.blt pc 1 then bif Nat.beq pc 0 then some (.iload_n 1, 1, 1, 0, 0, 0, 0) else none
  else bif Nat.beq pc 1 then some (.ifCond .lt 16, 4, 17, 0, 0, 0, 0) else none
  else bif Nat.blt pc 5 then bif Nat.beq pc 4 then some (.iload_n 1, 5, 1, 0, 0, 0, 0) else none
  else bif Nat.blt pc 6 then bif Nat.beq pc 5 then some (.iconst 2, 6, 0, 0, 0, 2, 0) else none
  else bif Nat.beq pc 6 then some (.aload_n 0, 7, 0, 0, 0, 0, 0) else none
  else bif Nat.blt pc 14 then bif Nat.blt pc 10 then bif Nat.beq pc 7 then some (.getfield 27, 10, 7, 2, 2, 0, 0) else none
  else bif Nat.blt pc 13 then bif Nat.beq pc 10 then some (.getfield 85, 13, 2, 2, 0, 0, 0) else none
  else bif Nat.beq pc 13 then some (.imul, 14, 0, 0, 0, 0, 0) else none
  else bif Nat.blt pc 17 then bif Nat.beq pc 14 then some (.if_icmp .lt 14, 17, 28, 0, 0, 0, 0) else none
  else bif Nat.blt pc 28 then bif Nat.beq pc 17 then some (.new 188, 20, 1, 262, 201, 0, 0) else none
  else bif Nat.beq pc 28 then some (.return_, 29, 0, 0, 0, 0, 0) else none
def rs_X7_requireArc : PMR := (0, 1, hdl [], 2)
def mi_X7_requireArc : PMI := wrapM 29 cd_X7_requireArc rs_X7_requireArc
def cd_X7_requireTour (pc : Nat) : Option PE :=
  bif Nat.blt pc 6 then bif Nat.blt pc 4 then bif Nat.blt pc 1 then bif Nat.beq pc 0 then some (.iload_n 1, 1, 1, 0, 0, 0, 0) else none
  else bif Nat.beq pc 1 then some (.ifCond .lt 14, 4, 15, 0, 0, 0, 0) else none
  else bif Nat.blt pc 5 then bif Nat.beq pc 4 then some (.iload_n 1, 5, 1, 0, 0, 0, 0) else none
  else bif Nat.beq pc 5 then some (.aload_n 0, 6, 0, 0, 0, 0, 0) else none
  else bif Nat.blt pc 12 then bif Nat.blt pc 9 then bif Nat.beq pc 6 then some (.getfield 37, 9, 7, 4, 2, 0, 0) else none
  else bif Nat.beq pc 9 then some (.getfield 97, 12, 3, 0, 0, 0, 0) else none
  else bif Nat.blt pc 15 then bif Nat.beq pc 12 then some (.if_icmp .lt 14, 15, 26, 0, 0, 0, 0) else none
  else bif Nat.blt pc 26 then bif Nat.beq pc 15 then some (.new 188, 18, 1, 264, 201, 0, 0) else none
  else bif Nat.beq pc 26 then some (.return_, 27, 0, 0, 0, 0, 0) else none
def rs_X7_requireTour : PMR := (0, 1, hdl [], 2)
def mi_X7_requireTour : PMI := wrapM 27 cd_X7_requireTour rs_X7_requireTour
def cd_X7_orNone (pc : Nat) : Option PE :=
  bif Nat.blt pc 6 then bif Nat.blt pc 1 then bif Nat.beq pc 0 then some (.iload_n 0, 1, 0, 0, 0, 0, 0) else none
  else bif Nat.blt pc 3 then bif Nat.beq pc 1 then some (.ldc 208, 3, 0, 0, 0, 100000000, 0) else none
  else bif Nat.beq pc 3 then some (.if_icmp .lt 7, 6, 10, 0, 0, 0, 0) else none
  else bif Nat.blt pc 10 then bif Nat.blt pc 7 then bif Nat.beq pc 6 then some (.iconst (-1), 7, 0, 0, 0, (-1), 0) else none
  else bif Nat.beq pc 7 then some (.goto 4, 10, 11, 0, 0, 0, 0) else none
  else bif Nat.blt pc 11 then bif Nat.beq pc 10 then some (.iload_n 0, 11, 0, 0, 0, 0, 0) else none
  else bif Nat.beq pc 11 then some (.ireturn, 12, 0, 0, 0, 0, 0) else none
def rs_X7_orNone : PMR := (1, 0, hdl [], 1)
def mi_X7_orNone : PMI := wrapM 12 cd_X7_orNone rs_X7_orNone
def cd_X7_limited (pc : Nat) : Option PE :=
  bif Nat.blt pc 4 then bif Nat.blt pc 2 then bif Nat.blt pc 1 then bif Nat.beq pc 0 then some (.iload_n 2, 1, 2, 0, 0, 0, 0) else none
  else bif Nat.beq pc 1 then some (.i2l, 2, 0, 0, 0, 0, 0) else none
  else bif Nat.blt pc 3 then bif Nat.beq pc 2 then some (.iload_n 3, 3, 3, 0, 0, 0, 0) else none
  else bif Nat.beq pc 3 then some (.i2l, 4, 0, 0, 0, 0, 0) else none
  else bif Nat.blt pc 8 then bif Nat.blt pc 5 then bif Nat.beq pc 4 then some (.lload_n 0, 5, 0, 0, 0, 0, 0) else none
  else bif Nat.beq pc 5 then some (.invokestatic 266, 8, 0, 0, 102, 0, 0) else none
  else bif Nat.blt pc 11 then bif Nat.beq pc 8 then some (.invokestatic 272, 11, 0, 0, 101, 0, 0) else none
  else bif Nat.blt pc 12 then bif Nat.beq pc 11 then some (.l2i, 12, 0, 0, 0, 0, 0) else none
  else bif Nat.beq pc 12 then some (.ireturn, 13, 0, 0, 0, 0, 0) else none
def rs_X7_limited : PMR := (1, 0, hdl [], 4)
def mi_X7_limited : PMI := wrapM 13 cd_X7_limited rs_X7_limited
def cd_X7_at (pc : Nat) : Option PE :=
  bif Nat.blt pc 10 then bif Nat.blt pc 5 then bif Nat.blt pc 1 then bif Nat.beq pc 0 then some (.iload_n 1, 1, 1, 0, 0, 0, 0) else none
  else bif Nat.blt pc 4 then bif Nat.beq pc 1 then some (.ifCond .lt 15, 4, 16, 0, 0, 0, 0) else none
  else bif Nat.beq pc 4 then some (.iload_n 1, 5, 1, 0, 0, 0, 0) else none
  else bif Nat.blt pc 6 then bif Nat.beq pc 5 then some (.aload_n 0, 6, 0, 0, 0, 0, 0) else none
  else bif Nat.blt pc 7 then bif Nat.beq pc 6 then some (.arraylength, 7, 0, 0, 0, 0, 0) else none
  else bif Nat.beq pc 7 then some (.if_icmp .ge 9, 10, 16, 0, 0, 0, 0) else none
  else bif Nat.blt pc 13 then bif Nat.blt pc 11 then bif Nat.beq pc 10 then some (.aload_n 0, 11, 0, 0, 0, 0, 0) else none
  else bif Nat.blt pc 12 then bif Nat.beq pc 11 then some (.iload_n 1, 12, 1, 0, 0, 0, 0) else none
  else bif Nat.beq pc 12 then some (.iaload, 13, 0, 0, 0, 0, 0) else none
  else bif Nat.blt pc 16 then bif Nat.beq pc 13 then some (.goto 4, 16, 17, 0, 0, 0, 0) else none
  else bif Nat.blt pc 17 then bif Nat.beq pc 16 then some (.iconst 0, 17, 0, 0, 0, 0, 0) else none
  else bif Nat.beq pc 17 then some (.ireturn, 18, 0, 0, 0, 0, 0) else none
def rs_X7_at : PMR := (1, 0, hdl [], 2)
def mi_X7_at : PMI := wrapM 18 cd_X7_at rs_X7_at
def cd_X7_put (pc : Nat) : Option PE :=
  bif Nat.blt pc 7 then bif Nat.blt pc 4 then bif Nat.blt pc 1 then bif Nat.beq pc 0 then some (.iload_n 1, 1, 1, 0, 0, 0, 0) else none
  else bif Nat.beq pc 1 then some (.ifCond .lt 13, 4, 14, 0, 0, 0, 0) else none
  else bif Nat.blt pc 5 then bif Nat.beq pc 4 then some (.iload_n 1, 5, 1, 0, 0, 0, 0) else none
  else bif Nat.blt pc 6 then bif Nat.beq pc 5 then some (.aload_n 0, 6, 0, 0, 0, 0, 0) else none
  else bif Nat.beq pc 6 then some (.arraylength, 7, 0, 0, 0, 0, 0) else none
  else bif Nat.blt pc 12 then bif Nat.blt pc 10 then bif Nat.beq pc 7 then some (.if_icmp .ge 7, 10, 14, 0, 0, 0, 0) else none
  else bif Nat.blt pc 11 then bif Nat.beq pc 10 then some (.aload_n 0, 11, 0, 0, 0, 0, 0) else none
  else bif Nat.beq pc 11 then some (.iload_n 1, 12, 1, 0, 0, 0, 0) else none
  else bif Nat.blt pc 13 then bif Nat.beq pc 12 then some (.iload_n 2, 13, 2, 0, 0, 0, 0) else none
  else bif Nat.blt pc 14 then bif Nat.beq pc 13 then some (.iastore, 14, 0, 0, 0, 0, 0) else none
  else bif Nat.beq pc 14 then some (.return_, 15, 0, 0, 0, 0, 0) else none
def rs_X7_put : PMR := (0, 0, hdl [], 3)
def mi_X7_put : PMI := wrapM 15 cd_X7_put rs_X7_put
def cd_X7_copyRow (pc : Nat) : Option PE :=
  bif Nat.blt pc 5 then bif Nat.blt pc 2 then bif Nat.blt pc 1 then bif Nat.beq pc 0 then some (.aload_n 0, 1, 0, 0, 0, 0, 0) else none
  else bif Nat.beq pc 1 then some (.iconst 0, 2, 0, 0, 0, 0, 0) else none
  else bif Nat.blt pc 3 then bif Nat.beq pc 2 then some (.aload_n 1, 3, 1, 0, 0, 0, 0) else none
  else bif Nat.blt pc 4 then bif Nat.beq pc 3 then some (.iconst 0, 4, 0, 0, 0, 0, 0) else none
  else bif Nat.beq pc 4 then some (.aload_n 0, 5, 0, 0, 0, 0, 0) else none
  else bif Nat.blt pc 8 then bif Nat.blt pc 6 then bif Nat.beq pc 5 then some (.arraylength, 6, 0, 0, 0, 0, 0) else none
  else bif Nat.blt pc 7 then bif Nat.beq pc 6 then some (.aload_n 1, 7, 1, 0, 0, 0, 0) else none
  else bif Nat.beq pc 7 then some (.arraylength, 8, 0, 0, 0, 0, 0) else none
  else bif Nat.blt pc 11 then bif Nat.beq pc 8 then some (.invokestatic 275, 11, 0, 0, 100, 0, 0) else none
  else bif Nat.blt pc 14 then bif Nat.beq pc 11 then some (.invokestatic 277, 14, 0, 0, 103, 0, 0) else none
  else bif Nat.beq pc 14 then some (.return_, 15, 0, 0, 0, 0, 0) else none
def rs_X7_copyRow : PMR := (0, 0, hdl [], 2)
def mi_X7_copyRow : PMI := wrapM 15 cd_X7_copyRow rs_X7_copyRow
def cd_L_load (pc : Nat) : Option PE :=
  bif Nat.blt pc 5 then bif Nat.blt pc 1 then bif Nat.beq pc 0 then some (.aload_n 0, 1, 0, 0, 0, 0, 0) else none
  else bif Nat.blt pc 2 then bif Nat.beq pc 1 then some (.iload_n 1, 2, 1, 0, 0, 0, 0) else none
  else bif Nat.beq pc 2 then some (.invokevirtual 37, 5, 70, 2, 7, 0, 0) else none
  else bif Nat.blt pc 7 then bif Nat.blt pc 6 then bif Nat.beq pc 5 then some (.ireturn, 6, 0, 0, 0, 0, 0) else none
  else bif Nat.beq pc 6 then some (.astore_n 2, 7, 2, 0, 0, 0, 0) else none
  else bif Nat.blt pc 9 then bif Nat.beq pc 7 then some (.ldc 42, 9, 0, 0, 0, (-2000000098), 0) else none
  else bif Nat.beq pc 9 then some (.ireturn, 10, 0, 0, 0, 0, 0) else none
def rs_L_load : PMR := (1, 1, hdl [(0, 5, 0, 7, 2)], 3)
def mi_L_load : PMI := wrapM 10 cd_L_load rs_L_load
def cd_L_edge (pc : Nat) : Option PE :=
  bif Nat.blt pc 7 then bif Nat.blt pc 2 then bif Nat.blt pc 1 then bif Nat.beq pc 0 then some (.aload_n 0, 1, 0, 0, 0, 0, 0) else none
  else bif Nat.beq pc 1 then some (.iload_n 1, 2, 1, 0, 0, 0, 0) else none
  else bif Nat.blt pc 3 then bif Nat.beq pc 2 then some (.iload_n 2, 3, 2, 0, 0, 0, 0) else none
  else bif Nat.blt pc 6 then bif Nat.beq pc 3 then some (.invokevirtual 43, 6, 76, 3, 7, 0, 0) else none
  else bif Nat.beq pc 6 then some (.ireturn, 7, 0, 0, 0, 0, 0) else none
  else bif Nat.blt pc 11 then bif Nat.blt pc 8 then bif Nat.beq pc 7 then some (.astore_n 3, 8, 3, 0, 0, 0, 0) else none
  else bif Nat.blt pc 10 then bif Nat.beq pc 8 then some (.ldc 49, 10, 0, 0, 0, (-2000000097), 0) else none
  else bif Nat.beq pc 10 then some (.ireturn, 11, 0, 0, 0, 0, 0) else none
  else bif Nat.blt pc 12 then bif Nat.beq pc 11 then some (.astore_n 3, 12, 3, 0, 0, 0, 0) else none
  else bif Nat.blt pc 14 then bif Nat.beq pc 12 then some (.ldc 42, 14, 0, 0, 0, (-2000000098), 0) else none
  else bif Nat.beq pc 14 then some (.ireturn, 15, 0, 0, 0, 0, 0) else none
def rs_L_edge : PMR := (1, 2, hdl [(0, 6, 1, 8, 3), (0, 6, 0, 12, 3)], 4)
def mi_L_edge : PMI := wrapM 15 cd_L_edge rs_L_edge
def cd_L_deadhead (pc : Nat) : Option PE :=
  bif Nat.blt pc 6 then bif Nat.blt pc 2 then bif Nat.blt pc 1 then bif Nat.beq pc 0 then some (.aload_n 0, 1, 0, 0, 0, 0, 0) else none
  else bif Nat.beq pc 1 then some (.iload_n 1, 2, 1, 0, 0, 0, 0) else none
  else bif Nat.blt pc 3 then bif Nat.beq pc 2 then some (.iload_n 2, 3, 2, 0, 0, 0, 0) else none
  else bif Nat.beq pc 3 then some (.invokevirtual 54, 6, 77, 3, 7, 0, 0) else none
  else bif Nat.blt pc 8 then bif Nat.blt pc 7 then bif Nat.beq pc 6 then some (.ireturn, 7, 0, 0, 0, 0, 0) else none
  else bif Nat.beq pc 7 then some (.astore_n 3, 8, 3, 0, 0, 0, 0) else none
  else bif Nat.blt pc 10 then bif Nat.beq pc 8 then some (.ldc 49, 10, 0, 0, 0, (-2000000097), 0) else none
  else bif Nat.beq pc 10 then some (.ireturn, 11, 0, 0, 0, 0, 0) else none
def rs_L_deadhead : PMR := (1, 2, hdl [(0, 6, 1, 8, 3)], 4)
def mi_L_deadhead : PMI := wrapM 11 cd_L_deadhead rs_L_deadhead
def cd_L_depotOf (pc : Nat) : Option PE :=
  bif Nat.blt pc 5 then bif Nat.blt pc 1 then bif Nat.beq pc 0 then some (.aload_n 0, 1, 0, 0, 0, 0, 0) else none
  else bif Nat.blt pc 2 then bif Nat.beq pc 1 then some (.iload_n 1, 2, 1, 0, 0, 0, 0) else none
  else bif Nat.beq pc 2 then some (.invokevirtual 63, 5, 79, 2, 7, 0, 0) else none
  else bif Nat.blt pc 7 then bif Nat.blt pc 6 then bif Nat.beq pc 5 then some (.ireturn, 6, 0, 0, 0, 0, 0) else none
  else bif Nat.beq pc 6 then some (.astore_n 2, 7, 2, 0, 0, 0, 0) else none
  else bif Nat.blt pc 9 then bif Nat.beq pc 7 then some (.ldc 49, 9, 0, 0, 0, (-2000000097), 0) else none
  else bif Nat.beq pc 9 then some (.ireturn, 10, 0, 0, 0, 0, 0) else none
def rs_L_depotOf : PMR := (1, 1, hdl [(0, 5, 1, 7, 2)], 3)
def mi_L_depotOf : PMI := wrapM 10 cd_L_depotOf rs_L_depotOf
def cd_L_length (pc : Nat) : Option PE :=
  bif Nat.blt pc 5 then bif Nat.blt pc 1 then bif Nat.beq pc 0 then some (.aload_n 0, 1, 0, 0, 0, 0, 0) else none
  else bif Nat.blt pc 2 then bif Nat.beq pc 1 then some (.iload_n 1, 2, 1, 0, 0, 0, 0) else none
  else bif Nat.beq pc 2 then some (.invokevirtual 66, 5, 80, 2, 7, 0, 0) else none
  else bif Nat.blt pc 7 then bif Nat.blt pc 6 then bif Nat.beq pc 5 then some (.ireturn, 6, 0, 0, 0, 0, 0) else none
  else bif Nat.beq pc 6 then some (.astore_n 2, 7, 2, 0, 0, 0, 0) else none
  else bif Nat.blt pc 9 then bif Nat.beq pc 7 then some (.ldc 49, 9, 0, 0, 0, (-2000000097), 0) else none
  else bif Nat.beq pc 9 then some (.ireturn, 10, 0, 0, 0, 0, 0) else none
def rs_L_length : PMR := (1, 1, hdl [(0, 5, 1, 7, 2)], 3)
def mi_L_length : PMI := wrapM 10 cd_L_length rs_L_length
def cd_L_arcAt (pc : Nat) : Option PE :=
  bif Nat.blt pc 7 then bif Nat.blt pc 2 then bif Nat.blt pc 1 then bif Nat.beq pc 0 then some (.aload_n 0, 1, 0, 0, 0, 0, 0) else none
  else bif Nat.beq pc 1 then some (.iload_n 1, 2, 1, 0, 0, 0, 0) else none
  else bif Nat.blt pc 3 then bif Nat.beq pc 2 then some (.iload_n 2, 3, 2, 0, 0, 0, 0) else none
  else bif Nat.blt pc 6 then bif Nat.beq pc 3 then some (.invokevirtual 68, 6, 81, 3, 7, 0, 0) else none
  else bif Nat.beq pc 6 then some (.ireturn, 7, 0, 0, 0, 0, 0) else none
  else bif Nat.blt pc 11 then bif Nat.blt pc 8 then bif Nat.beq pc 7 then some (.astore_n 3, 8, 3, 0, 0, 0, 0) else none
  else bif Nat.blt pc 10 then bif Nat.beq pc 8 then some (.ldc 49, 10, 0, 0, 0, (-2000000097), 0) else none
  else bif Nat.beq pc 10 then some (.ireturn, 11, 0, 0, 0, 0, 0) else none
  else bif Nat.blt pc 12 then bif Nat.beq pc 11 then some (.astore_n 3, 12, 3, 0, 0, 0, 0) else none
  else bif Nat.blt pc 14 then bif Nat.beq pc 12 then some (.ldc 73, 14, 0, 0, 0, (-2000000100), 0) else none
  else bif Nat.beq pc 14 then some (.ireturn, 15, 0, 0, 0, 0, 0) else none
def rs_L_arcAt : PMR := (1, 2, hdl [(0, 6, 1, 8, 3), (0, 6, 3, 12, 3)], 4)
def mi_L_arcAt : PMI := wrapM 15 cd_L_arcAt rs_L_arcAt
def cd_L_loadOf (pc : Nat) : Option PE :=
  bif Nat.blt pc 5 then bif Nat.blt pc 1 then bif Nat.beq pc 0 then some (.aload_n 0, 1, 0, 0, 0, 0, 0) else none
  else bif Nat.blt pc 2 then bif Nat.beq pc 1 then some (.iload_n 1, 2, 1, 0, 0, 0, 0) else none
  else bif Nat.beq pc 2 then some (.invokevirtual 74, 5, 82, 2, 7, 0, 0) else none
  else bif Nat.blt pc 7 then bif Nat.blt pc 6 then bif Nat.beq pc 5 then some (.ireturn, 6, 0, 0, 0, 0, 0) else none
  else bif Nat.beq pc 6 then some (.astore_n 2, 7, 2, 0, 0, 0, 0) else none
  else bif Nat.blt pc 9 then bif Nat.beq pc 7 then some (.ldc 49, 9, 0, 0, 0, (-2000000097), 0) else none
  else bif Nat.beq pc 9 then some (.ireturn, 10, 0, 0, 0, 0, 0) else none
def rs_L_loadOf : PMR := (1, 1, hdl [(0, 5, 1, 7, 2)], 3)
def mi_L_loadOf : PMI := wrapM 10 cd_L_loadOf rs_L_loadOf
def cd_L_tourCost (pc : Nat) : Option PE :=
  bif Nat.blt pc 5 then bif Nat.blt pc 1 then bif Nat.beq pc 0 then some (.aload_n 0, 1, 0, 0, 0, 0, 0) else none
  else bif Nat.blt pc 2 then bif Nat.beq pc 1 then some (.iload_n 1, 2, 1, 0, 0, 0, 0) else none
  else bif Nat.beq pc 2 then some (.invokevirtual 77, 5, 83, 2, 7, 0, 0) else none
  else bif Nat.blt pc 7 then bif Nat.blt pc 6 then bif Nat.beq pc 5 then some (.ireturn, 6, 0, 0, 0, 0, 0) else none
  else bif Nat.beq pc 6 then some (.astore_n 2, 7, 2, 0, 0, 0, 0) else none
  else bif Nat.blt pc 9 then bif Nat.beq pc 7 then some (.ldc 49, 9, 0, 0, 0, (-2000000097), 0) else none
  else bif Nat.beq pc 9 then some (.ireturn, 10, 0, 0, 0, 0, 0) else none
def rs_L_tourCost : PMR := (1, 1, hdl [(0, 5, 1, 7, 2)], 3)
def mi_L_tourCost : PMI := wrapM 10 cd_L_tourCost rs_L_tourCost
def cd_L_tourOf (pc : Nat) : Option PE :=
  bif Nat.blt pc 5 then bif Nat.blt pc 1 then bif Nat.beq pc 0 then some (.aload_n 0, 1, 0, 0, 0, 0, 0) else none
  else bif Nat.blt pc 2 then bif Nat.beq pc 1 then some (.iload_n 1, 2, 1, 0, 0, 0, 0) else none
  else bif Nat.beq pc 2 then some (.invokevirtual 80, 5, 86, 2, 7, 0, 0) else none
  else bif Nat.blt pc 7 then bif Nat.blt pc 6 then bif Nat.beq pc 5 then some (.ireturn, 6, 0, 0, 0, 0, 0) else none
  else bif Nat.beq pc 6 then some (.astore_n 2, 7, 2, 0, 0, 0, 0) else none
  else bif Nat.blt pc 9 then bif Nat.beq pc 7 then some (.ldc 49, 9, 0, 0, 0, (-2000000097), 0) else none
  else bif Nat.beq pc 9 then some (.ireturn, 10, 0, 0, 0, 0, 0) else none
def rs_L_tourOf : PMR := (1, 1, hdl [(0, 5, 1, 7, 2)], 3)
def mi_L_tourOf : PMI := wrapM 10 cd_L_tourOf rs_L_tourOf
def cd_L_bestInsertion (pc : Nat) : Option PE :=
  bif Nat.blt pc 7 then bif Nat.blt pc 2 then bif Nat.blt pc 1 then bif Nat.beq pc 0 then some (.aload_n 0, 1, 0, 0, 0, 0, 0) else none
  else bif Nat.beq pc 1 then some (.iload_n 1, 2, 1, 0, 0, 0, 0) else none
  else bif Nat.blt pc 5 then bif Nat.beq pc 2 then some (.invokevirtual 83, 5, 87, 2, 7, 0, 0) else none
  else bif Nat.blt pc 6 then bif Nat.beq pc 5 then some (.ireturn, 6, 0, 0, 0, 0, 0) else none
  else bif Nat.beq pc 6 then some (.astore_n 2, 7, 2, 0, 0, 0, 0) else none
  else bif Nat.blt pc 10 then bif Nat.blt pc 9 then bif Nat.beq pc 7 then some (.ldc 49, 9, 0, 0, 0, (-2000000097), 0) else none
  else bif Nat.beq pc 9 then some (.ireturn, 10, 0, 0, 0, 0, 0) else none
  else bif Nat.blt pc 11 then bif Nat.beq pc 10 then some (.astore_n 2, 11, 2, 0, 0, 0, 0) else none
  else bif Nat.blt pc 13 then bif Nat.beq pc 11 then some (.ldc 88, 13, 0, 0, 0, (-2000000099), 0) else none
  else bif Nat.beq pc 13 then some (.ireturn, 14, 0, 0, 0, 0, 0) else none
def rs_L_bestInsertion : PMR := (1, 2, hdl [(0, 5, 1, 7, 2), (0, 5, 2, 11, 2)], 3)
def mi_L_bestInsertion : PMI := wrapM 14 cd_L_bestInsertion rs_L_bestInsertion
def cd_L_openTour (pc : Nat) : Option PE :=
  bif Nat.blt pc 7 then bif Nat.blt pc 2 then bif Nat.blt pc 1 then bif Nat.beq pc 0 then some (.aload_n 0, 1, 0, 0, 0, 0, 0) else none
  else bif Nat.beq pc 1 then some (.iload_n 1, 2, 1, 0, 0, 0, 0) else none
  else bif Nat.blt pc 5 then bif Nat.beq pc 2 then some (.invokevirtual 89, 5, 88, 2, 7, 0, 0) else none
  else bif Nat.blt pc 6 then bif Nat.beq pc 5 then some (.ireturn, 6, 0, 0, 0, 0, 0) else none
  else bif Nat.beq pc 6 then some (.astore_n 2, 7, 2, 0, 0, 0, 0) else none
  else bif Nat.blt pc 10 then bif Nat.blt pc 9 then bif Nat.beq pc 7 then some (.ldc 49, 9, 0, 0, 0, (-2000000097), 0) else none
  else bif Nat.beq pc 9 then some (.ireturn, 10, 0, 0, 0, 0, 0) else none
  else bif Nat.blt pc 11 then bif Nat.beq pc 10 then some (.astore_n 2, 11, 2, 0, 0, 0, 0) else none
  else bif Nat.blt pc 13 then bif Nat.beq pc 11 then some (.ldc 88, 13, 0, 0, 0, (-2000000099), 0) else none
  else bif Nat.beq pc 13 then some (.ireturn, 14, 0, 0, 0, 0, 0) else none
def rs_L_openTour : PMR := (1, 2, hdl [(0, 5, 1, 7, 2), (0, 5, 2, 11, 2)], 3)
def mi_L_openTour : PMI := wrapM 14 cd_L_openTour rs_L_openTour
def cd_L_insert (pc : Nat) : Option PE :=
  bif Nat.blt pc 8 then bif Nat.blt pc 3 then bif Nat.blt pc 1 then bif Nat.beq pc 0 then some (.aload_n 0, 1, 0, 0, 0, 0, 0) else none
  else bif Nat.blt pc 2 then bif Nat.beq pc 1 then some (.iload_n 1, 2, 1, 0, 0, 0, 0) else none
  else bif Nat.beq pc 2 then some (.iload_n 2, 3, 2, 0, 0, 0, 0) else none
  else bif Nat.blt pc 4 then bif Nat.beq pc 3 then some (.iload_n 3, 4, 3, 0, 0, 0, 0) else none
  else bif Nat.blt pc 7 then bif Nat.beq pc 4 then some (.invokevirtual 92, 7, 89, 4, 7, 0, 0) else none
  else bif Nat.beq pc 7 then some (.ireturn, 8, 0, 0, 0, 0, 0) else none
  else bif Nat.blt pc 13 then bif Nat.blt pc 10 then bif Nat.beq pc 8 then some (.astore 4, 10, 4, 0, 0, 0, 0) else none
  else bif Nat.blt pc 12 then bif Nat.beq pc 10 then some (.ldc 49, 12, 0, 0, 0, (-2000000097), 0) else none
  else bif Nat.beq pc 12 then some (.ireturn, 13, 0, 0, 0, 0, 0) else none
  else bif Nat.blt pc 15 then bif Nat.beq pc 13 then some (.astore 4, 15, 4, 0, 0, 0, 0) else none
  else bif Nat.blt pc 17 then bif Nat.beq pc 15 then some (.ldc 88, 17, 0, 0, 0, (-2000000099), 0) else none
  else bif Nat.beq pc 17 then some (.ireturn, 18, 0, 0, 0, 0, 0) else none
def rs_L_insert : PMR := (1, 5, hdl [(0, 7, 1, 10, 4), (0, 7, 2, 15, 4)], 5)
def mi_L_insert : PMI := wrapM 18 cd_L_insert rs_L_insert
def cd_L_drop (pc : Nat) : Option PE :=
  bif Nat.blt pc 7 then bif Nat.blt pc 2 then bif Nat.blt pc 1 then bif Nat.beq pc 0 then some (.aload_n 0, 1, 0, 0, 0, 0, 0) else none
  else bif Nat.beq pc 1 then some (.iload_n 1, 2, 1, 0, 0, 0, 0) else none
  else bif Nat.blt pc 5 then bif Nat.beq pc 2 then some (.invokevirtual 96, 5, 90, 2, 7, 0, 0) else none
  else bif Nat.blt pc 6 then bif Nat.beq pc 5 then some (.ireturn, 6, 0, 0, 0, 0, 0) else none
  else bif Nat.beq pc 6 then some (.astore_n 2, 7, 2, 0, 0, 0, 0) else none
  else bif Nat.blt pc 10 then bif Nat.blt pc 9 then bif Nat.beq pc 7 then some (.ldc 49, 9, 0, 0, 0, (-2000000097), 0) else none
  else bif Nat.beq pc 9 then some (.ireturn, 10, 0, 0, 0, 0, 0) else none
  else bif Nat.blt pc 11 then bif Nat.beq pc 10 then some (.astore_n 2, 11, 2, 0, 0, 0, 0) else none
  else bif Nat.blt pc 13 then bif Nat.beq pc 11 then some (.ldc 88, 13, 0, 0, 0, (-2000000099), 0) else none
  else bif Nat.beq pc 13 then some (.ireturn, 14, 0, 0, 0, 0, 0) else none
def rs_L_drop : PMR := (1, 3, hdl [(0, 5, 1, 7, 2), (0, 5, 2, 11, 2)], 3)
def mi_L_drop : PMI := wrapM 14 cd_L_drop rs_L_drop
def cd_L_flip (pc : Nat) : Option PE :=
  bif Nat.blt pc 7 then bif Nat.blt pc 2 then bif Nat.blt pc 1 then bif Nat.beq pc 0 then some (.aload_n 0, 1, 0, 0, 0, 0, 0) else none
  else bif Nat.beq pc 1 then some (.iload_n 1, 2, 1, 0, 0, 0, 0) else none
  else bif Nat.blt pc 5 then bif Nat.beq pc 2 then some (.invokevirtual 99, 5, 91, 2, 7, 0, 0) else none
  else bif Nat.blt pc 6 then bif Nat.beq pc 5 then some (.ireturn, 6, 0, 0, 0, 0, 0) else none
  else bif Nat.beq pc 6 then some (.astore_n 2, 7, 2, 0, 0, 0, 0) else none
  else bif Nat.blt pc 10 then bif Nat.blt pc 9 then bif Nat.beq pc 7 then some (.ldc 49, 9, 0, 0, 0, (-2000000097), 0) else none
  else bif Nat.beq pc 9 then some (.ireturn, 10, 0, 0, 0, 0, 0) else none
  else bif Nat.blt pc 11 then bif Nat.beq pc 10 then some (.astore_n 2, 11, 2, 0, 0, 0, 0) else none
  else bif Nat.blt pc 13 then bif Nat.beq pc 11 then some (.ldc 88, 13, 0, 0, 0, (-2000000099), 0) else none
  else bif Nat.beq pc 13 then some (.ireturn, 14, 0, 0, 0, 0, 0) else none
def rs_L_flip : PMR := (1, 3, hdl [(0, 5, 1, 7, 2), (0, 5, 2, 11, 2)], 3)
def mi_L_flip : PMI := wrapM 14 cd_L_flip rs_L_flip
def cd_L_improve (pc : Nat) : Option PE :=
  bif Nat.blt pc 5 then bif Nat.blt pc 1 then bif Nat.beq pc 0 then some (.aload_n 0, 1, 0, 0, 0, 0, 0) else none
  else bif Nat.blt pc 2 then bif Nat.beq pc 1 then some (.iload_n 1, 2, 1, 0, 0, 0, 0) else none
  else bif Nat.beq pc 2 then some (.invokevirtual 102, 5, 93, 2, 7, 0, 0) else none
  else bif Nat.blt pc 7 then bif Nat.blt pc 6 then bif Nat.beq pc 5 then some (.ireturn, 6, 0, 0, 0, 0, 0) else none
  else bif Nat.beq pc 6 then some (.astore_n 2, 7, 2, 0, 0, 0, 0) else none
  else bif Nat.blt pc 9 then bif Nat.beq pc 7 then some (.ldc 42, 9, 0, 0, 0, (-2000000098), 0) else none
  else bif Nat.beq pc 9 then some (.ireturn, 10, 0, 0, 0, 0, 0) else none
def rs_L_improve : PMR := (1, 1, hdl [(0, 5, 0, 7, 2)], 3)
def mi_L_improve : PMI := wrapM 10 cd_L_improve rs_L_improve
def lenOf (k : Nat) : Nat :=
  bif Nat.blt k 119 then
  bif Nat.blt k 59 then bif Nat.blt k 29 then bif Nat.blt k 14 then bif Nat.blt k 7 then bif Nat.blt k 3 then bif Nat.blt k 1 then bif Nat.beq k 0 then 6 else 0
  else bif Nat.blt k 2 then bif Nat.beq k 1 then 23 else 0
  else bif Nat.beq k 2 then 24 else 0
  else bif Nat.blt k 5 then bif Nat.blt k 4 then bif Nat.beq k 3 then 124 else 0
  else bif Nat.beq k 4 then 66 else 0
  else bif Nat.blt k 6 then bif Nat.beq k 5 then 55 else 0
  else bif Nat.beq k 6 then 81 else 0
  else bif Nat.blt k 10 then bif Nat.blt k 8 then bif Nat.beq k 7 then 81 else 0
  else bif Nat.blt k 9 then bif Nat.beq k 8 then 21 else 0
  else bif Nat.beq k 9 then 99 else 0
  else bif Nat.blt k 12 then bif Nat.blt k 11 then bif Nat.beq k 10 then 61 else 0
  else bif Nat.beq k 11 then 37 else 0
  else bif Nat.blt k 13 then bif Nat.beq k 12 then 32 else 0
  else bif Nat.beq k 13 then 47 else 0
  else bif Nat.blt k 21 then bif Nat.blt k 17 then bif Nat.blt k 15 then bif Nat.beq k 14 then 9 else 0
  else bif Nat.blt k 16 then bif Nat.beq k 15 then 11 else 0
  else bif Nat.beq k 16 then 28 else 0
  else bif Nat.blt k 19 then bif Nat.blt k 18 then bif Nat.beq k 17 then 36 else 0
  else bif Nat.beq k 18 then 55 else 0
  else bif Nat.blt k 20 then bif Nat.beq k 19 then 6 else 0
  else bif Nat.beq k 20 then 42 else 0
  else bif Nat.blt k 25 then bif Nat.blt k 23 then bif Nat.blt k 22 then bif Nat.beq k 21 then 35 else 0
  else bif Nat.beq k 22 then 32 else 0
  else bif Nat.blt k 24 then bif Nat.beq k 23 then 30 else 0
  else bif Nat.beq k 24 then 49 else 0
  else bif Nat.blt k 27 then bif Nat.blt k 26 then bif Nat.beq k 25 then 91 else 0
  else bif Nat.beq k 26 then 75 else 0
  else bif Nat.blt k 28 then bif Nat.beq k 27 then 26 else 0
  else bif Nat.beq k 28 then 32 else 0
  else bif Nat.blt k 44 then bif Nat.blt k 36 then bif Nat.blt k 32 then bif Nat.blt k 30 then bif Nat.beq k 29 then 56 else 0
  else bif Nat.blt k 31 then bif Nat.beq k 30 then 33 else 0
  else bif Nat.beq k 31 then 85 else 0
  else bif Nat.blt k 34 then bif Nat.blt k 33 then bif Nat.beq k 32 then 84 else 0
  else bif Nat.beq k 33 then 78 else 0
  else bif Nat.blt k 35 then bif Nat.beq k 34 then 44 else 0
  else bif Nat.beq k 35 then 67 else 0
  else bif Nat.blt k 40 then bif Nat.blt k 38 then bif Nat.blt k 37 then bif Nat.beq k 36 then 130 else 0
  else bif Nat.beq k 37 then 26 else 0
  else bif Nat.blt k 39 then bif Nat.beq k 38 then 43 else 0
  else bif Nat.beq k 39 then 108 else 0
  else bif Nat.blt k 42 then bif Nat.blt k 41 then bif Nat.beq k 40 then 80 else 0
  else bif Nat.beq k 41 then 137 else 0
  else bif Nat.blt k 43 then bif Nat.beq k 42 then 66 else 0
  else bif Nat.beq k 43 then 143 else 0
  else bif Nat.blt k 51 then bif Nat.blt k 47 then bif Nat.blt k 45 then bif Nat.beq k 44 then 79 else 0
  else bif Nat.blt k 46 then bif Nat.beq k 45 then 79 else 0
  else bif Nat.beq k 46 then 75 else 0
  else bif Nat.blt k 49 then bif Nat.blt k 48 then bif Nat.beq k 47 then 117 else 0
  else bif Nat.beq k 48 then 26 else 0
  else bif Nat.blt k 50 then bif Nat.beq k 49 then 56 else 0
  else bif Nat.beq k 50 then 195 else 0
  else bif Nat.blt k 55 then bif Nat.blt k 53 then bif Nat.blt k 52 then bif Nat.beq k 51 then 49 else 0
  else bif Nat.beq k 52 then 124 else 0
  else bif Nat.blt k 54 then bif Nat.beq k 53 then 49 else 0
  else bif Nat.beq k 54 then 60 else 0
  else bif Nat.blt k 57 then bif Nat.blt k 56 then bif Nat.beq k 55 then 52 else 0
  else bif Nat.beq k 56 then 69 else 0
  else bif Nat.blt k 58 then bif Nat.beq k 57 then 69 else 0
  else bif Nat.beq k 58 then 111 else 0
  else bif Nat.blt k 89 then bif Nat.blt k 74 then bif Nat.blt k 66 then bif Nat.blt k 62 then bif Nat.blt k 60 then bif Nat.beq k 59 then 74 else 0
  else bif Nat.blt k 61 then bif Nat.beq k 60 then 21 else 0
  else bif Nat.beq k 61 then 47 else 0
  else bif Nat.blt k 64 then bif Nat.blt k 63 then bif Nat.beq k 62 then 19 else 0
  else bif Nat.beq k 63 then 19 else 0
  else bif Nat.blt k 65 then bif Nat.beq k 64 then 66 else 0
  else bif Nat.beq k 65 then 248 else 0
  else bif Nat.blt k 70 then bif Nat.blt k 68 then bif Nat.blt k 67 then bif Nat.beq k 66 then 28 else 0
  else bif Nat.beq k 67 then 18 else 0
  else bif Nat.blt k 69 then bif Nat.beq k 68 then 18 else 0
  else bif Nat.beq k 69 then 68 else 0
  else bif Nat.blt k 72 then bif Nat.blt k 71 then bif Nat.beq k 70 then 96 else 0
  else bif Nat.beq k 71 then 8 else 0
  else bif Nat.blt k 73 then bif Nat.beq k 72 then 8 else 0
  else bif Nat.beq k 73 then 8 else 0
  else bif Nat.blt k 81 then bif Nat.blt k 77 then bif Nat.blt k 75 then bif Nat.beq k 74 then 8 else 0
  else bif Nat.blt k 76 then bif Nat.beq k 75 then 8 else 0
  else bif Nat.beq k 76 then 113 else 0
  else bif Nat.blt k 79 then bif Nat.blt k 78 then bif Nat.beq k 77 then 30 else 0
  else bif Nat.beq k 78 then 22 else 0
  else bif Nat.blt k 80 then bif Nat.beq k 79 then 17 else 0
  else bif Nat.beq k 80 then 17 else 0
  else bif Nat.blt k 85 then bif Nat.blt k 83 then bif Nat.blt k 82 then bif Nat.beq k 81 then 32 else 0
  else bif Nat.beq k 82 then 14 else 0
  else bif Nat.blt k 84 then bif Nat.beq k 83 then 14 else 0
  else bif Nat.beq k 84 then 34 else 0
  else bif Nat.blt k 87 then bif Nat.blt k 86 then bif Nat.beq k 85 then 37 else 0
  else bif Nat.beq k 86 then 14 else 0
  else bif Nat.blt k 88 then bif Nat.beq k 87 then 35 else 0
  else bif Nat.beq k 88 then 81 else 0
  else bif Nat.blt k 104 then bif Nat.blt k 96 then bif Nat.blt k 92 then bif Nat.blt k 90 then bif Nat.beq k 89 then 136 else 0
  else bif Nat.blt k 91 then bif Nat.beq k 90 then 95 else 0
  else bif Nat.beq k 91 then 95 else 0
  else bif Nat.blt k 94 then bif Nat.blt k 93 then bif Nat.beq k 92 then 64 else 0
  else bif Nat.beq k 93 then 74 else 0
  else bif Nat.blt k 95 then bif Nat.beq k 94 then 49 else 0
  else bif Nat.beq k 95 then 115 else 0
  else bif Nat.blt k 100 then bif Nat.blt k 98 then bif Nat.blt k 97 then bif Nat.beq k 96 then 27 else 0
  else bif Nat.beq k 97 then 29 else 0
  else bif Nat.blt k 99 then bif Nat.beq k 98 then 27 else 0
  else bif Nat.beq k 99 then 12 else 0
  else bif Nat.blt k 102 then bif Nat.blt k 101 then bif Nat.beq k 100 then 13 else 0
  else bif Nat.beq k 101 then 18 else 0
  else bif Nat.blt k 103 then bif Nat.beq k 102 then 15 else 0
  else bif Nat.beq k 103 then 15 else 0
  else bif Nat.blt k 111 then bif Nat.blt k 107 then bif Nat.blt k 105 then bif Nat.beq k 104 then 10 else 0
  else bif Nat.blt k 106 then bif Nat.beq k 105 then 15 else 0
  else bif Nat.beq k 106 then 11 else 0
  else bif Nat.blt k 109 then bif Nat.blt k 108 then bif Nat.beq k 107 then 10 else 0
  else bif Nat.beq k 108 then 10 else 0
  else bif Nat.blt k 110 then bif Nat.beq k 109 then 15 else 0
  else bif Nat.beq k 110 then 10 else 0
  else bif Nat.blt k 115 then bif Nat.blt k 113 then bif Nat.blt k 112 then bif Nat.beq k 111 then 10 else 0
  else bif Nat.beq k 112 then 10 else 0
  else bif Nat.blt k 114 then bif Nat.beq k 113 then 14 else 0
  else bif Nat.beq k 114 then 14 else 0
  else bif Nat.blt k 117 then bif Nat.blt k 116 then bif Nat.beq k 115 then 18 else 0
  else bif Nat.beq k 116 then 14 else 0
  else bif Nat.blt k 118 then bif Nat.beq k 117 then 14 else 0
  else bif Nat.beq k 118 then 10 else 0
  else 0
def cdOf (k : Nat) : Nat → Option PE :=
  bif Nat.blt k 59 then bif Nat.blt k 29 then bif Nat.blt k 14 then bif Nat.blt k 7 then bif Nat.blt k 3 then bif Nat.blt k 1 then bif Nat.beq k 0 then cd_X0_clear else (fun _ => none)
  else bif Nat.blt k 2 then bif Nat.beq k 1 then cd_X0_addOperand else (fun _ => none)
  else bif Nat.beq k 2 then cd_X0_addOperator else (fun _ => none)
  else bif Nat.blt k 5 then bif Nat.blt k 4 then bif Nat.beq k 3 then cd_X0_valueFor else (fun _ => none)
  else bif Nat.beq k 4 then cd_X0_applied else (fun _ => none)
  else bif Nat.blt k 6 then bif Nat.beq k 5 then cd_X1_isReady else (fun _ => none)
  else bif Nat.beq k 6 then cd_X1_remember else (fun _ => none)
  else bif Nat.blt k 10 then bif Nat.blt k 8 then bif Nat.beq k 7 then cd_X1_restore else (fun _ => none)
  else bif Nat.blt k 9 then bif Nat.beq k 8 then cd_X2_clear else (fun _ => none)
  else bif Nat.beq k 9 then cd_X2_copyFrom else (fun _ => none)
  else bif Nat.blt k 12 then bif Nat.blt k 11 then bif Nat.beq k 10 then cd_X2_addEdge else (fun _ => none)
  else bif Nat.beq k 11 then cd_X2_putArc else (fun _ => none)
  else bif Nat.blt k 13 then bif Nat.beq k 12 then cd_X2_addDepot else (fun _ => none)
  else bif Nat.beq k 13 then cd_X2_banTurn else (fun _ => none)
  else bif Nat.blt k 21 then bif Nat.blt k 17 then bif Nat.blt k 15 then bif Nat.beq k 14 then cd_X2_start else (fun _ => none)
  else bif Nat.blt k 16 then bif Nat.beq k 15 then cd_X2_end else (fun _ => none)
  else bif Nat.beq k 16 then cd_X2_touches else (fun _ => none)
  else bif Nat.blt k 19 then bif Nat.blt k 18 then bif Nat.beq k 17 then cd_X2_allowsTurn else (fun _ => none)
  else bif Nat.beq k 18 then cd_X2_oddSet else (fun _ => none)
  else bif Nat.blt k 20 then bif Nat.beq k 19 then cd_X3_clear else (fun _ => none)
  else bif Nat.beq k 20 then cd_X3_copyFrom else (fun _ => none)
  else bif Nat.blt k 25 then bif Nat.blt k 23 then bif Nat.blt k 22 then bif Nat.beq k 21 then cd_X3_addTour else (fun _ => none)
  else bif Nat.beq k 22 then cd_X3_arcOrDepot else (fun _ => none)
  else bif Nat.blt k 24 then bif Nat.beq k 23 then cd_X3_tourServing else (fun _ => none)
  else bif Nat.beq k 24 then cd_X3_positionIn else (fun _ => none)
  else bif Nat.blt k 27 then bif Nat.blt k 26 then bif Nat.beq k 25 then cd_X3_putIn else (fun _ => none)
  else bif Nat.beq k 26 then cd_X3_takeOut else (fun _ => none)
  else bif Nat.blt k 28 then bif Nat.beq k 27 then cd_X3_turnRound else (fun _ => none)
  else bif Nat.beq k 28 then cd_X4_isWaiting else (fun _ => none)
  else bif Nat.blt k 44 then bif Nat.blt k 36 then bif Nat.blt k 32 then bif Nat.blt k 30 then bif Nat.beq k 29 then cd_X4_demandIn else (fun _ => none)
  else bif Nat.blt k 31 then bif Nat.beq k 30 then cd_X4_hasRoom else (fun _ => none)
  else bif Nat.beq k 31 then cd_X4_link else (fun _ => none)
  else bif Nat.blt k 34 then bif Nat.blt k 33 then bif Nat.beq k 32 then cd_X4_costOf else (fun _ => none)
  else bif Nat.beq k 33 then cd_X4_increaseBy else (fun _ => none)
  else bif Nat.blt k 35 then bif Nat.beq k 34 then cd_X4_canSpare else (fun _ => none)
  else bif Nat.beq k 35 then cd_X4_canTurn else (fun _ => none)
  else bif Nat.blt k 40 then bif Nat.blt k 38 then bif Nat.blt k 37 then bif Nat.beq k 36 then cd_X4_bestPlace else (fun _ => none)
  else bif Nat.beq k 37 then cd_X4_increaseAt else (fun _ => none)
  else bif Nat.blt k 39 then bif Nat.beq k 38 then cd_X4_insertBest else (fun _ => none)
  else bif Nat.beq k 39 then cd_X4_gainOf else (fun _ => none)
  else bif Nat.blt k 42 then bif Nat.blt k 41 then bif Nat.beq k 40 then cd_X4_makeBestChange else (fun _ => none)
  else bif Nat.beq k 41 then cd_X5_explore else (fun _ => none)
  else bif Nat.blt k 43 then bif Nat.beq k 42 then cd_X5_markTurns else (fun _ => none)
  else bif Nat.beq k 43 then cd_X5_findDeadheads else (fun _ => none)
  else bif Nat.blt k 51 then bif Nat.blt k 47 then bif Nat.blt k 45 then bif Nat.beq k 44 then cd_X5_approach else (fun _ => none)
  else bif Nat.blt k 46 then bif Nat.beq k 45 then cd_X5_returnTo else (fun _ => none)
  else bif Nat.beq k 46 then cd_X5_between else (fun _ => none)
  else bif Nat.blt k 49 then bif Nat.blt k 48 then bif Nat.beq k 47 then cd_X5_cheapestPairs else (fun _ => none)
  else bif Nat.beq k 48 then cd_X5_lowestIn else (fun _ => none)
  else bif Nat.blt k 50 then bif Nat.beq k 49 then cd_X6_addWord else (fun _ => none)
  else bif Nat.beq k 50 then cd_X6_readSetup else (fun _ => none)
  else bif Nat.blt k 55 then bif Nat.blt k 53 then bif Nat.blt k 52 then bif Nat.beq k 51 then cd_X6_startOver else (fun _ => none)
  else bif Nat.beq k 52 then cd_X6_readEdge else (fun _ => none)
  else bif Nat.blt k 54 then bif Nat.beq k 53 then cd_X6_readBan else (fun _ => none)
  else bif Nat.beq k 54 then cd_X6_takeEdgeAt else (fun _ => none)
  else bif Nat.blt k 57 then bif Nat.blt k 56 then bif Nat.beq k 55 then cd_X6_readDepot else (fun _ => none)
  else bif Nat.beq k 56 then cd_X6_readSum else (fun _ => none)
  else bif Nat.blt k 58 then bif Nat.beq k 57 then cd_X6_readTerm else (fun _ => none)
  else bif Nat.beq k 58 then cd_X6_readFactor else (fun _ => none)
  else bif Nat.blt k 89 then bif Nat.blt k 74 then bif Nat.blt k 66 then bif Nat.blt k 62 then bif Nat.blt k 60 then bif Nat.beq k 59 then cd_X6_priceServices else (fun _ => none)
  else bif Nat.blt k 61 then bif Nat.beq k 60 then cd_X6_fail else (fun _ => none)
  else bif Nat.beq k 61 then cd_X6_takeNumber else (fun _ => none)
  else bif Nat.blt k 64 then bif Nat.blt k 63 then bif Nat.beq k 62 then cd_X6_takeWord else (fun _ => none)
  else bif Nat.beq k 63 then cd_X6_takeSign else (fun _ => none)
  else bif Nat.blt k 65 then bif Nat.beq k 64 then cd_X6_isWord else (fun _ => none)
  else bif Nat.beq k 65 then cd_X6_next else (fun _ => none)
  else bif Nat.blt k 70 then bif Nat.blt k 68 then bif Nat.blt k 67 then bif Nat.beq k 66 then cd_X6_byteAt else (fun _ => none)
  else bif Nat.beq k 67 then cd_X6_isDigit else (fun _ => none)
  else bif Nat.blt k 69 then bif Nat.beq k 68 then cd_X6_isLetter else (fun _ => none)
  else bif Nat.beq k 69 then cd_X7_append else (fun _ => none)
  else bif Nat.blt k 72 then bif Nat.blt k 71 then bif Nat.beq k 70 then cd_X7_load else (fun _ => none)
  else bif Nat.beq k 71 then cd_X7_errorOffset else (fun _ => none)
  else bif Nat.blt k 73 then bif Nat.beq k 72 then cd_X7_nodeCount else (fun _ => none)
  else bif Nat.beq k 73 then cd_X7_edgeCount else (fun _ => none)
  else bif Nat.blt k 81 then bif Nat.blt k 77 then bif Nat.blt k 75 then bif Nat.beq k 74 then cd_X7_depotCount else (fun _ => none)
  else bif Nat.blt k 76 then bif Nat.beq k 75 then cd_X7_tourCount else (fun _ => none)
  else bif Nat.beq k 76 then cd_X7_edge else (fun _ => none)
  else bif Nat.blt k 79 then bif Nat.blt k 78 then bif Nat.beq k 77 then cd_X7_deadhead else (fun _ => none)
  else bif Nat.beq k 78 then cd_X7_matching else (fun _ => none)
  else bif Nat.blt k 80 then bif Nat.beq k 79 then cd_X7_depotOf else (fun _ => none)
  else bif Nat.beq k 80 then cd_X7_length else (fun _ => none)
  else bif Nat.blt k 85 then bif Nat.blt k 83 then bif Nat.blt k 82 then bif Nat.beq k 81 then cd_X7_arcAt else (fun _ => none)
  else bif Nat.beq k 82 then cd_X7_loadOf else (fun _ => none)
  else bif Nat.blt k 84 then bif Nat.beq k 83 then cd_X7_tourCost else (fun _ => none)
  else bif Nat.beq k 84 then cd_X7_totalCost else (fun _ => none)
  else bif Nat.blt k 87 then bif Nat.blt k 86 then bif Nat.beq k 85 then cd_X7_unserved else (fun _ => none)
  else bif Nat.beq k 86 then cd_X7_tourOf else (fun _ => none)
  else bif Nat.blt k 88 then bif Nat.beq k 87 then cd_X7_bestInsertion else (fun _ => none)
  else bif Nat.beq k 88 then cd_X7_openTour else (fun _ => none)
  else bif Nat.blt k 104 then bif Nat.blt k 96 then bif Nat.blt k 92 then bif Nat.blt k 90 then bif Nat.beq k 89 then cd_X7_insert else (fun _ => none)
  else bif Nat.blt k 91 then bif Nat.beq k 90 then cd_X7_drop else (fun _ => none)
  else bif Nat.beq k 91 then cd_X7_flip else (fun _ => none)
  else bif Nat.blt k 94 then bif Nat.blt k 93 then bif Nat.beq k 92 then cd_X7_build else (fun _ => none)
  else bif Nat.beq k 93 then cd_X7_improve else (fun _ => none)
  else bif Nat.blt k 95 then bif Nat.beq k 94 then cd_X7_undo else (fun _ => none)
  else bif Nat.beq k 95 then cd_X7_checksum else (fun _ => none)
  else bif Nat.blt k 100 then bif Nat.blt k 98 then bif Nat.blt k 97 then bif Nat.beq k 96 then cd_X7_requireEdge else (fun _ => none)
  else bif Nat.beq k 97 then cd_X7_requireArc else (fun _ => none)
  else bif Nat.blt k 99 then bif Nat.beq k 98 then cd_X7_requireTour else (fun _ => none)
  else bif Nat.beq k 99 then cd_X7_orNone else (fun _ => none)
  else bif Nat.blt k 102 then bif Nat.blt k 101 then bif Nat.beq k 100 then cd_X7_limited else (fun _ => none)
  else bif Nat.beq k 101 then cd_X7_at else (fun _ => none)
  else bif Nat.blt k 103 then bif Nat.beq k 102 then cd_X7_put else (fun _ => none)
  else bif Nat.beq k 103 then cd_X7_copyRow else (fun _ => none)
  else bif Nat.blt k 111 then bif Nat.blt k 107 then bif Nat.blt k 105 then bif Nat.beq k 104 then cd_L_load else (fun _ => none)
  else bif Nat.blt k 106 then bif Nat.beq k 105 then cd_L_edge else (fun _ => none)
  else bif Nat.beq k 106 then cd_L_deadhead else (fun _ => none)
  else bif Nat.blt k 109 then bif Nat.blt k 108 then bif Nat.beq k 107 then cd_L_depotOf else (fun _ => none)
  else bif Nat.beq k 108 then cd_L_length else (fun _ => none)
  else bif Nat.blt k 110 then bif Nat.beq k 109 then cd_L_arcAt else (fun _ => none)
  else bif Nat.beq k 110 then cd_L_loadOf else (fun _ => none)
  else bif Nat.blt k 115 then bif Nat.blt k 113 then bif Nat.blt k 112 then bif Nat.beq k 111 then cd_L_tourCost else (fun _ => none)
  else bif Nat.beq k 112 then cd_L_tourOf else (fun _ => none)
  else bif Nat.blt k 114 then bif Nat.beq k 113 then cd_L_bestInsertion else (fun _ => none)
  else bif Nat.beq k 114 then cd_L_openTour else (fun _ => none)
  else bif Nat.blt k 117 then bif Nat.blt k 116 then bif Nat.beq k 115 then cd_L_insert else (fun _ => none)
  else bif Nat.beq k 116 then cd_L_drop else (fun _ => none)
  else bif Nat.blt k 118 then bif Nat.beq k 117 then cd_L_flip else (fun _ => none)
  else bif Nat.beq k 118 then cd_L_improve else (fun _ => none)
def mcOf (k : Nat) : Nat :=
bif Nat.blt k 97 then bif Nat.blt k 86 then bif Nat.blt k 80 then bif Nat.blt k 77 then bif Nat.blt k 76 then bif Nat.beq k 70 then 1 else 0
  else bif Nat.beq k 76 then 2 else 0
  else bif Nat.blt k 79 then bif Nat.beq k 77 then 2 else 0
  else bif Nat.beq k 79 then 1 else 0
  else bif Nat.blt k 82 then bif Nat.blt k 81 then bif Nat.beq k 80 then 1 else 0
  else bif Nat.beq k 81 then 2 else 0
  else bif Nat.blt k 83 then bif Nat.beq k 82 then 1 else 0
  else bif Nat.beq k 83 then 1 else 0
  else bif Nat.blt k 90 then bif Nat.blt k 88 then bif Nat.blt k 87 then bif Nat.beq k 86 then 1 else 0
  else bif Nat.beq k 87 then 2 else 0
  else bif Nat.blt k 89 then bif Nat.beq k 88 then 2 else 0
  else bif Nat.beq k 89 then 5 else 0
  else bif Nat.blt k 93 then bif Nat.blt k 91 then bif Nat.beq k 90 then 3 else 0
  else bif Nat.beq k 91 then 3 else 0
  else bif Nat.blt k 96 then bif Nat.beq k 93 then 1 else 0
  else bif Nat.beq k 96 then 1 else 0
  else bif Nat.blt k 110 then bif Nat.blt k 106 then bif Nat.blt k 104 then bif Nat.blt k 98 then bif Nat.beq k 97 then 1 else 0
  else bif Nat.beq k 98 then 1 else 0
  else bif Nat.blt k 105 then bif Nat.beq k 104 then 1 else 0
  else bif Nat.beq k 105 then 2 else 0
  else bif Nat.blt k 108 then bif Nat.blt k 107 then bif Nat.beq k 106 then 2 else 0
  else bif Nat.beq k 107 then 1 else 0
  else bif Nat.blt k 109 then bif Nat.beq k 108 then 1 else 0
  else bif Nat.beq k 109 then 2 else 0
  else bif Nat.blt k 114 then bif Nat.blt k 112 then bif Nat.blt k 111 then bif Nat.beq k 110 then 1 else 0
  else bif Nat.beq k 111 then 1 else 0
  else bif Nat.blt k 113 then bif Nat.beq k 112 then 1 else 0
  else bif Nat.beq k 113 then 2 else 0
  else bif Nat.blt k 116 then bif Nat.blt k 115 then bif Nat.beq k 114 then 2 else 0
  else bif Nat.beq k 115 then 5 else 0
  else bif Nat.blt k 117 then bif Nat.beq k 116 then 3 else 0
  else bif Nat.blt k 118 then bif Nat.beq k 117 then 3 else 0
  else bif Nat.beq k 118 then 1 else 0
def rtOf (k : Nat) : Nat :=
  bif Nat.blt k 59 then bif Nat.blt k 29 then bif Nat.blt k 14 then bif Nat.blt k 7 then bif Nat.blt k 3 then bif Nat.blt k 1 then bif Nat.beq k 0 then 0 else 0
  else bif Nat.blt k 2 then bif Nat.beq k 1 then 0 else 0
  else bif Nat.beq k 2 then 0 else 0
  else bif Nat.blt k 5 then bif Nat.blt k 4 then bif Nat.beq k 3 then 1 else 0
  else bif Nat.beq k 4 then 1 else 0
  else bif Nat.blt k 6 then bif Nat.beq k 5 then 2 else 0
  else bif Nat.beq k 6 then 0 else 0
  else bif Nat.blt k 10 then bif Nat.blt k 8 then bif Nat.beq k 7 then 2 else 0
  else bif Nat.blt k 9 then bif Nat.beq k 8 then 0 else 0
  else bif Nat.beq k 9 then 0 else 0
  else bif Nat.blt k 12 then bif Nat.blt k 11 then bif Nat.beq k 10 then 0 else 0
  else bif Nat.beq k 11 then 0 else 0
  else bif Nat.blt k 13 then bif Nat.beq k 12 then 0 else 0
  else bif Nat.beq k 13 then 0 else 0
  else bif Nat.blt k 21 then bif Nat.blt k 17 then bif Nat.blt k 15 then bif Nat.beq k 14 then 1 else 0
  else bif Nat.blt k 16 then bif Nat.beq k 15 then 1 else 0
  else bif Nat.beq k 16 then 2 else 0
  else bif Nat.blt k 19 then bif Nat.blt k 18 then bif Nat.beq k 17 then 2 else 0
  else bif Nat.beq k 18 then 1 else 0
  else bif Nat.blt k 20 then bif Nat.beq k 19 then 0 else 0
  else bif Nat.beq k 20 then 0 else 0
  else bif Nat.blt k 25 then bif Nat.blt k 23 then bif Nat.blt k 22 then bif Nat.beq k 21 then 1 else 0
  else bif Nat.beq k 22 then 1 else 0
  else bif Nat.blt k 24 then bif Nat.beq k 23 then 1 else 0
  else bif Nat.beq k 24 then 1 else 0
  else bif Nat.blt k 27 then bif Nat.blt k 26 then bif Nat.beq k 25 then 0 else 0
  else bif Nat.beq k 26 then 0 else 0
  else bif Nat.blt k 28 then bif Nat.beq k 27 then 0 else 0
  else bif Nat.beq k 28 then 2 else 0
  else bif Nat.blt k 44 then bif Nat.blt k 36 then bif Nat.blt k 32 then bif Nat.blt k 30 then bif Nat.beq k 29 then 1 else 0
  else bif Nat.blt k 31 then bif Nat.beq k 30 then 2 else 0
  else bif Nat.beq k 31 then 1 else 0
  else bif Nat.blt k 34 then bif Nat.blt k 33 then bif Nat.beq k 32 then 1 else 0
  else bif Nat.beq k 33 then 1 else 0
  else bif Nat.blt k 35 then bif Nat.beq k 34 then 2 else 0
  else bif Nat.beq k 35 then 2 else 0
  else bif Nat.blt k 40 then bif Nat.blt k 38 then bif Nat.blt k 37 then bif Nat.beq k 36 then 1 else 0
  else bif Nat.beq k 37 then 1 else 0
  else bif Nat.blt k 39 then bif Nat.beq k 38 then 2 else 0
  else bif Nat.beq k 39 then 1 else 0
  else bif Nat.blt k 42 then bif Nat.blt k 41 then bif Nat.beq k 40 then 1 else 0
  else bif Nat.beq k 41 then 0 else 0
  else bif Nat.blt k 43 then bif Nat.beq k 42 then 0 else 0
  else bif Nat.beq k 43 then 0 else 0
  else bif Nat.blt k 51 then bif Nat.blt k 47 then bif Nat.blt k 45 then bif Nat.beq k 44 then 1 else 0
  else bif Nat.blt k 46 then bif Nat.beq k 45 then 1 else 0
  else bif Nat.beq k 46 then 1 else 0
  else bif Nat.blt k 49 then bif Nat.blt k 48 then bif Nat.beq k 47 then 1 else 0
  else bif Nat.beq k 48 then 1 else 0
  else bif Nat.blt k 50 then bif Nat.beq k 49 then 0 else 0
  else bif Nat.beq k 50 then 1 else 0
  else bif Nat.blt k 55 then bif Nat.blt k 53 then bif Nat.blt k 52 then bif Nat.beq k 51 then 0 else 0
  else bif Nat.beq k 52 then 0 else 0
  else bif Nat.blt k 54 then bif Nat.beq k 53 then 0 else 0
  else bif Nat.beq k 54 then 1 else 0
  else bif Nat.blt k 57 then bif Nat.blt k 56 then bif Nat.beq k 55 then 0 else 0
  else bif Nat.beq k 56 then 0 else 0
  else bif Nat.blt k 58 then bif Nat.beq k 57 then 0 else 0
  else bif Nat.beq k 58 then 0 else 0
  else bif Nat.blt k 89 then bif Nat.blt k 74 then bif Nat.blt k 66 then bif Nat.blt k 62 then bif Nat.blt k 60 then bif Nat.beq k 59 then 0 else 0
  else bif Nat.blt k 61 then bif Nat.beq k 60 then 0 else 0
  else bif Nat.beq k 61 then 1 else 0
  else bif Nat.blt k 64 then bif Nat.blt k 63 then bif Nat.beq k 62 then 0 else 0
  else bif Nat.beq k 63 then 0 else 0
  else bif Nat.blt k 65 then bif Nat.beq k 64 then 2 else 0
  else bif Nat.beq k 65 then 0 else 0
  else bif Nat.blt k 70 then bif Nat.blt k 68 then bif Nat.blt k 67 then bif Nat.beq k 66 then 1 else 0
  else bif Nat.beq k 67 then 2 else 0
  else bif Nat.blt k 69 then bif Nat.beq k 68 then 2 else 0
  else bif Nat.beq k 69 then 1 else 0
  else bif Nat.blt k 72 then bif Nat.blt k 71 then bif Nat.beq k 70 then 1 else 0
  else bif Nat.beq k 71 then 1 else 0
  else bif Nat.blt k 73 then bif Nat.beq k 72 then 1 else 0
  else bif Nat.beq k 73 then 1 else 0
  else bif Nat.blt k 81 then bif Nat.blt k 77 then bif Nat.blt k 75 then bif Nat.beq k 74 then 1 else 0
  else bif Nat.blt k 76 then bif Nat.beq k 75 then 1 else 0
  else bif Nat.beq k 76 then 1 else 0
  else bif Nat.blt k 79 then bif Nat.blt k 78 then bif Nat.beq k 77 then 1 else 0
  else bif Nat.beq k 78 then 1 else 0
  else bif Nat.blt k 80 then bif Nat.beq k 79 then 1 else 0
  else bif Nat.beq k 80 then 1 else 0
  else bif Nat.blt k 85 then bif Nat.blt k 83 then bif Nat.blt k 82 then bif Nat.beq k 81 then 1 else 0
  else bif Nat.beq k 82 then 1 else 0
  else bif Nat.blt k 84 then bif Nat.beq k 83 then 1 else 0
  else bif Nat.beq k 84 then 1 else 0
  else bif Nat.blt k 87 then bif Nat.blt k 86 then bif Nat.beq k 85 then 1 else 0
  else bif Nat.beq k 86 then 1 else 0
  else bif Nat.blt k 88 then bif Nat.beq k 87 then 1 else 0
  else bif Nat.beq k 88 then 1 else 0
  else bif Nat.blt k 104 then bif Nat.blt k 96 then bif Nat.blt k 92 then bif Nat.blt k 90 then bif Nat.beq k 89 then 1 else 0
  else bif Nat.blt k 91 then bif Nat.beq k 90 then 1 else 0
  else bif Nat.beq k 91 then 1 else 0
  else bif Nat.blt k 94 then bif Nat.blt k 93 then bif Nat.beq k 92 then 1 else 0
  else bif Nat.beq k 93 then 1 else 0
  else bif Nat.blt k 95 then bif Nat.beq k 94 then 1 else 0
  else bif Nat.beq k 95 then 3 else 0
  else bif Nat.blt k 100 then bif Nat.blt k 98 then bif Nat.blt k 97 then bif Nat.beq k 96 then 0 else 0
  else bif Nat.beq k 97 then 0 else 0
  else bif Nat.blt k 99 then bif Nat.beq k 98 then 0 else 0
  else bif Nat.beq k 99 then 1 else 0
  else bif Nat.blt k 102 then bif Nat.blt k 101 then bif Nat.beq k 100 then 1 else 0
  else bif Nat.beq k 101 then 1 else 0
  else bif Nat.blt k 103 then bif Nat.beq k 102 then 0 else 0
  else bif Nat.beq k 103 then 0 else 0
  else bif Nat.blt k 111 then bif Nat.blt k 107 then bif Nat.blt k 105 then bif Nat.beq k 104 then 1 else 0
  else bif Nat.blt k 106 then bif Nat.beq k 105 then 1 else 0
  else bif Nat.beq k 106 then 1 else 0
  else bif Nat.blt k 109 then bif Nat.blt k 108 then bif Nat.beq k 107 then 1 else 0
  else bif Nat.beq k 108 then 1 else 0
  else bif Nat.blt k 110 then bif Nat.beq k 109 then 1 else 0
  else bif Nat.beq k 110 then 1 else 0
  else bif Nat.blt k 115 then bif Nat.blt k 113 then bif Nat.blt k 112 then bif Nat.beq k 111 then 1 else 0
  else bif Nat.beq k 112 then 1 else 0
  else bif Nat.blt k 114 then bif Nat.beq k 113 then 1 else 0
  else bif Nat.beq k 114 then 1 else 0
  else bif Nat.blt k 117 then bif Nat.blt k 116 then bif Nat.beq k 115 then 1 else 0
  else bif Nat.beq k 116 then 1 else 0
  else bif Nat.blt k 118 then bif Nat.beq k 117 then 1 else 0
  else bif Nat.beq k 118 then 1 else 0
def nLOf (k : Nat) : Nat :=
  bif Nat.blt k 59 then bif Nat.blt k 29 then bif Nat.blt k 14 then bif Nat.blt k 7 then bif Nat.blt k 3 then bif Nat.blt k 1 then bif Nat.beq k 0 then 1 else 0
  else bif Nat.blt k 2 then bif Nat.beq k 1 then 2 else 0
  else bif Nat.beq k 2 then 2 else 0
  else bif Nat.blt k 5 then bif Nat.blt k 4 then bif Nat.beq k 3 then 6 else 0
  else bif Nat.beq k 4 then 7 else 0
  else bif Nat.blt k 6 then bif Nat.beq k 5 then 2 else 0
  else bif Nat.beq k 6 then 4 else 0
  else bif Nat.blt k 10 then bif Nat.blt k 8 then bif Nat.beq k 7 then 4 else 0
  else bif Nat.blt k 9 then bif Nat.beq k 8 then 1 else 0
  else bif Nat.beq k 9 then 2 else 0
  else bif Nat.blt k 12 then bif Nat.blt k 11 then bif Nat.beq k 10 then 6 else 0
  else bif Nat.beq k 11 then 4 else 0
  else bif Nat.blt k 13 then bif Nat.beq k 12 then 2 else 0
  else bif Nat.beq k 13 then 5 else 0
  else bif Nat.blt k 21 then bif Nat.blt k 17 then bif Nat.blt k 15 then bif Nat.beq k 14 then 2 else 0
  else bif Nat.blt k 16 then bif Nat.beq k 15 then 2 else 0
  else bif Nat.beq k 16 then 3 else 0
  else bif Nat.blt k 19 then bif Nat.blt k 18 then bif Nat.beq k 17 then 3 else 0
  else bif Nat.beq k 18 then 3 else 0
  else bif Nat.blt k 20 then bif Nat.beq k 19 then 1 else 0
  else bif Nat.beq k 20 then 2 else 0
  else bif Nat.blt k 25 then bif Nat.blt k 23 then bif Nat.blt k 22 then bif Nat.beq k 21 then 3 else 0
  else bif Nat.beq k 22 then 3 else 0
  else bif Nat.blt k 24 then bif Nat.beq k 23 then 3 else 0
  else bif Nat.beq k 24 then 5 else 0
  else bif Nat.blt k 27 then bif Nat.blt k 26 then bif Nat.beq k 25 then 7 else 0
  else bif Nat.beq k 26 then 6 else 0
  else bif Nat.blt k 28 then bif Nat.beq k 27 then 4 else 0
  else bif Nat.beq k 28 then 2 else 0
  else bif Nat.blt k 44 then bif Nat.blt k 36 then bif Nat.blt k 32 then bif Nat.blt k 30 then bif Nat.beq k 29 then 5 else 0
  else bif Nat.blt k 31 then bif Nat.beq k 30 then 3 else 0
  else bif Nat.beq k 31 then 5 else 0
  else bif Nat.blt k 34 then bif Nat.blt k 33 then bif Nat.beq k 32 then 7 else 0
  else bif Nat.beq k 33 then 7 else 0
  else bif Nat.blt k 35 then bif Nat.beq k 34 then 5 else 0
  else bif Nat.beq k 35 then 6 else 0
  else bif Nat.blt k 40 then bif Nat.blt k 38 then bif Nat.blt k 37 then bif Nat.beq k 36 then 9 else 0
  else bif Nat.beq k 37 then 3 else 0
  else bif Nat.blt k 39 then bif Nat.beq k 38 then 3 else 0
  else bif Nat.beq k 39 then 8 else 0
  else bif Nat.blt k 42 then bif Nat.blt k 41 then bif Nat.beq k 40 then 5 else 0
  else bif Nat.beq k 41 then 4 else 0
  else bif Nat.blt k 43 then bif Nat.beq k 42 then 5 else 0
  else bif Nat.beq k 43 then 9 else 0
  else bif Nat.blt k 51 then bif Nat.blt k 47 then bif Nat.blt k 45 then bif Nat.beq k 44 then 6 else 0
  else bif Nat.blt k 46 then bif Nat.beq k 45 then 6 else 0
  else bif Nat.beq k 46 then 6 else 0
  else bif Nat.blt k 49 then bif Nat.blt k 48 then bif Nat.beq k 47 then 9 else 0
  else bif Nat.beq k 48 then 2 else 0
  else bif Nat.blt k 50 then bif Nat.beq k 49 then 3 else 0
  else bif Nat.beq k 50 then 3 else 0
  else bif Nat.blt k 55 then bif Nat.blt k 53 then bif Nat.blt k 52 then bif Nat.beq k 51 then 2 else 0
  else bif Nat.beq k 52 then 6 else 0
  else bif Nat.blt k 54 then bif Nat.beq k 53 then 4 else 0
  else bif Nat.beq k 54 then 2 else 0
  else bif Nat.blt k 57 then bif Nat.blt k 56 then bif Nat.beq k 55 then 2 else 0
  else bif Nat.beq k 56 then 4 else 0
  else bif Nat.blt k 58 then bif Nat.beq k 57 then 4 else 0
  else bif Nat.beq k 58 then 2 else 0
  else bif Nat.blt k 89 then bif Nat.blt k 74 then bif Nat.blt k 66 then bif Nat.blt k 62 then bif Nat.blt k 60 then bif Nat.beq k 59 then 3 else 0
  else bif Nat.blt k 61 then bif Nat.beq k 60 then 2 else 0
  else bif Nat.beq k 61 then 4 else 0
  else bif Nat.blt k 64 then bif Nat.blt k 63 then bif Nat.beq k 62 then 2 else 0
  else bif Nat.beq k 63 then 2 else 0
  else bif Nat.blt k 65 then bif Nat.beq k 64 then 3 else 0
  else bif Nat.beq k 65 then 1 else 0
  else bif Nat.blt k 70 then bif Nat.blt k 68 then bif Nat.blt k 67 then bif Nat.beq k 66 then 2 else 0
  else bif Nat.beq k 67 then 1 else 0
  else bif Nat.blt k 69 then bif Nat.beq k 68 then 1 else 0
  else bif Nat.beq k 69 then 6 else 0
  else bif Nat.blt k 72 then bif Nat.blt k 71 then bif Nat.beq k 70 then 3 else 0
  else bif Nat.beq k 71 then 1 else 0
  else bif Nat.blt k 73 then bif Nat.beq k 72 then 1 else 0
  else bif Nat.beq k 73 then 1 else 0
  else bif Nat.blt k 81 then bif Nat.blt k 77 then bif Nat.blt k 75 then bif Nat.beq k 74 then 1 else 0
  else bif Nat.blt k 76 then bif Nat.beq k 75 then 1 else 0
  else bif Nat.beq k 76 then 3 else 0
  else bif Nat.blt k 79 then bif Nat.blt k 78 then bif Nat.beq k 77 then 3 else 0
  else bif Nat.beq k 78 then 1 else 0
  else bif Nat.blt k 80 then bif Nat.beq k 79 then 2 else 0
  else bif Nat.beq k 80 then 2 else 0
  else bif Nat.blt k 85 then bif Nat.blt k 83 then bif Nat.blt k 82 then bif Nat.beq k 81 then 4 else 0
  else bif Nat.beq k 82 then 2 else 0
  else bif Nat.blt k 84 then bif Nat.beq k 83 then 2 else 0
  else bif Nat.beq k 84 then 3 else 0
  else bif Nat.blt k 87 then bif Nat.blt k 86 then bif Nat.beq k 85 then 3 else 0
  else bif Nat.beq k 86 then 2 else 0
  else bif Nat.blt k 88 then bif Nat.beq k 87 then 2 else 0
  else bif Nat.beq k 88 then 2 else 0
  else bif Nat.blt k 104 then bif Nat.blt k 96 then bif Nat.blt k 92 then bif Nat.blt k 90 then bif Nat.beq k 89 then 4 else 0
  else bif Nat.blt k 91 then bif Nat.beq k 90 then 4 else 0
  else bif Nat.beq k 91 then 4 else 0
  else bif Nat.blt k 94 then bif Nat.blt k 93 then bif Nat.beq k 92 then 3 else 0
  else bif Nat.beq k 93 then 5 else 0
  else bif Nat.blt k 95 then bif Nat.beq k 94 then 1 else 0
  else bif Nat.beq k 95 then 6 else 0
  else bif Nat.blt k 100 then bif Nat.blt k 98 then bif Nat.blt k 97 then bif Nat.beq k 96 then 2 else 0
  else bif Nat.beq k 97 then 2 else 0
  else bif Nat.blt k 99 then bif Nat.beq k 98 then 2 else 0
  else bif Nat.beq k 99 then 1 else 0
  else bif Nat.blt k 102 then bif Nat.blt k 101 then bif Nat.beq k 100 then 4 else 0
  else bif Nat.beq k 101 then 2 else 0
  else bif Nat.blt k 103 then bif Nat.beq k 102 then 3 else 0
  else bif Nat.beq k 103 then 2 else 0
  else bif Nat.blt k 111 then bif Nat.blt k 107 then bif Nat.blt k 105 then bif Nat.beq k 104 then 3 else 0
  else bif Nat.blt k 106 then bif Nat.beq k 105 then 4 else 0
  else bif Nat.beq k 106 then 4 else 0
  else bif Nat.blt k 109 then bif Nat.blt k 108 then bif Nat.beq k 107 then 3 else 0
  else bif Nat.beq k 108 then 3 else 0
  else bif Nat.blt k 110 then bif Nat.beq k 109 then 4 else 0
  else bif Nat.beq k 110 then 3 else 0
  else bif Nat.blt k 115 then bif Nat.blt k 113 then bif Nat.blt k 112 then bif Nat.beq k 111 then 3 else 0
  else bif Nat.beq k 112 then 3 else 0
  else bif Nat.blt k 114 then bif Nat.beq k 113 then 3 else 0
  else bif Nat.beq k 114 then 3 else 0
  else bif Nat.blt k 117 then bif Nat.blt k 116 then bif Nat.beq k 115 then 5 else 0
  else bif Nat.beq k 116 then 3 else 0
  else bif Nat.blt k 118 then bif Nat.beq k 117 then 3 else 0
  else bif Nat.beq k 118 then 3 else 0
def hdLOf (k : Nat) : List (Nat × Nat × Nat × Nat × Nat) :=
  bif Nat.blt k 111 then bif Nat.blt k 107 then bif Nat.blt k 105 then bif Nat.beq k 104 then [(0, 5, 0, 7, 2)] else []
  else bif Nat.blt k 106 then bif Nat.beq k 105 then [(0, 6, 1, 8, 3), (0, 6, 0, 12, 3)] else []
  else bif Nat.beq k 106 then [(0, 6, 1, 8, 3)] else []
  else bif Nat.blt k 109 then bif Nat.blt k 108 then bif Nat.beq k 107 then [(0, 5, 1, 7, 2)] else []
  else bif Nat.beq k 108 then [(0, 5, 1, 7, 2)] else []
  else bif Nat.blt k 110 then bif Nat.beq k 109 then [(0, 6, 1, 8, 3), (0, 6, 3, 12, 3)] else []
  else bif Nat.beq k 110 then [(0, 5, 1, 7, 2)] else []
  else bif Nat.blt k 115 then bif Nat.blt k 113 then bif Nat.blt k 112 then bif Nat.beq k 111 then [(0, 5, 1, 7, 2)] else []
  else bif Nat.beq k 112 then [(0, 5, 1, 7, 2)] else []
  else bif Nat.blt k 114 then bif Nat.beq k 113 then [(0, 5, 1, 7, 2), (0, 5, 2, 11, 2)] else []
  else bif Nat.beq k 114 then [(0, 5, 1, 7, 2), (0, 5, 2, 11, 2)] else []
  else bif Nat.blt k 117 then bif Nat.blt k 116 then bif Nat.beq k 115 then [(0, 7, 1, 10, 4), (0, 7, 2, 15, 4)] else []
  else bif Nat.beq k 116 then [(0, 5, 1, 7, 2), (0, 5, 2, 11, 2)] else []
  else bif Nat.blt k 118 then bif Nat.beq k 117 then [(0, 5, 1, 7, 2), (0, 5, 2, 11, 2)] else []
  else bif Nat.beq k 118 then [(0, 5, 0, 7, 2)] else []
def rsOf (k : Nat) : PMR := (rtOf k, mcOf k, hdl (hdLOf k), nLOf k)
def miOf (k : Nat) : PMI := wrapM (lenOf k) (cdOf k) (rsOf k)
