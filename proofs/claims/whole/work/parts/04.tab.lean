/-! THE LAYOUT OF THE THINGS, and the methods as tables of the pure machine: written by wip/whole/gentab.py out of the printed names and the listing -/
def NID : Nat := 167
def layF (i : Nat) : LO :=
  bif Nat.blt i 168 then
  bif Nat.blt i 84 then bif Nat.blt i 42 then bif Nat.blt i 21 then bif Nat.blt i 10 then bif Nat.blt i 5 then bif Nat.blt i 2 then bif Nat.blt i 1 then bif Nat.beq i 0 then (0, 7, [some 1, some 13, some 14, some 21, some 26, some 30]) else (9, 0, [])
  else bif Nat.beq i 1 then (0, 6, [some 2, some 3, some 10, none, none, none, none, none, none, none, none, none]) else (9, 0, [])
  else bif Nat.blt i 3 then bif Nat.beq i 2 then (2, 700, []) else (9, 0, [])
  else bif Nat.blt i 4 then bif Nat.beq i 3 then (0, 2, [none, none, none, none, some 4, some 5, some 6, some 7, some 8, some 9]) else (9, 0, [])
  else bif Nat.beq i 4 then (1, 28, []) else (9, 0, [])
  else bif Nat.blt i 7 then bif Nat.blt i 6 then bif Nat.beq i 5 then (1, 28, []) else (9, 0, [])
  else bif Nat.beq i 6 then (1, 28, []) else (9, 0, [])
  else bif Nat.blt i 8 then bif Nat.beq i 7 then (1, 28, []) else (9, 0, [])
  else bif Nat.blt i 9 then bif Nat.beq i 8 then (1, 14, []) else (9, 0, [])
  else bif Nat.beq i 9 then (1, 3, []) else (9, 0, [])
  else bif Nat.blt i 15 then bif Nat.blt i 12 then bif Nat.blt i 11 then bif Nat.beq i 10 then (0, 0, [some 11, some 12, none]) else (9, 0, [])
  else bif Nat.beq i 11 then (1, 700, []) else (9, 0, [])
  else bif Nat.blt i 13 then bif Nat.beq i 12 then (1, 11, []) else (9, 0, [])
  else bif Nat.blt i 14 then bif Nat.beq i 13 then (0, 4, [some 14, some 21, some 26]) else (9, 0, [])
  else bif Nat.beq i 14 then (0, 2, [none, none, none, none, some 15, some 16, some 17, some 18, some 19, some 20]) else (9, 0, [])
  else bif Nat.blt i 18 then bif Nat.blt i 16 then bif Nat.beq i 15 then (1, 28, []) else (9, 0, [])
  else bif Nat.blt i 17 then bif Nat.beq i 16 then (1, 28, []) else (9, 0, [])
  else bif Nat.beq i 17 then (1, 28, []) else (9, 0, [])
  else bif Nat.blt i 19 then bif Nat.beq i 18 then (1, 28, []) else (9, 0, [])
  else bif Nat.blt i 20 then bif Nat.beq i 19 then (1, 14, []) else (9, 0, [])
  else bif Nat.beq i 20 then (1, 3, []) else (9, 0, [])
  else bif Nat.blt i 31 then bif Nat.blt i 26 then bif Nat.blt i 23 then bif Nat.blt i 22 then bif Nat.beq i 21 then (0, 5, [some 22, some 23, some 24, some 25]) else (9, 0, [])
  else bif Nat.beq i 22 then (1, 784, []) else (9, 0, [])
  else bif Nat.blt i 24 then bif Nat.beq i 23 then (1, 224, []) else (9, 0, [])
  else bif Nat.blt i 25 then bif Nat.beq i 24 then (1, 224, []) else (9, 0, [])
  else bif Nat.beq i 25 then (1, 64, []) else (9, 0, [])
  else bif Nat.blt i 28 then bif Nat.blt i 27 then bif Nat.beq i 26 then (0, 3, [none, some 27, some 28, some 29]) else (9, 0, [])
  else bif Nat.beq i 27 then (1, 4, []) else (9, 0, [])
  else bif Nat.blt i 29 then bif Nat.beq i 28 then (1, 4, []) else (9, 0, [])
  else bif Nat.blt i 30 then bif Nat.beq i 29 then (1, 56, []) else (9, 0, [])
  else bif Nat.beq i 30 then (0, 1, [some 31, some 32, some 33, none, none]) else (9, 0, [])
  else bif Nat.blt i 36 then bif Nat.blt i 33 then bif Nat.blt i 32 then bif Nat.beq i 31 then (5, 8, [some 34, some 7]) else (9, 0, [])
  else bif Nat.beq i 32 then (5, 8, [some 90, some 4]) else (9, 0, [])
  else bif Nat.blt i 34 then bif Nat.beq i 33 then (3, 8, []) else (9, 0, [])
  else bif Nat.blt i 35 then bif Nat.beq i 34 then (0, 2, [none, none, none, none, some 35, some 36, some 37, some 38, some 39, some 40]) else (9, 0, [])
  else bif Nat.beq i 35 then (1, 28, []) else (9, 0, [])
  else bif Nat.blt i 39 then bif Nat.blt i 37 then bif Nat.beq i 36 then (1, 28, []) else (9, 0, [])
  else bif Nat.blt i 38 then bif Nat.beq i 37 then (1, 28, []) else (9, 0, [])
  else bif Nat.beq i 38 then (1, 28, []) else (9, 0, [])
  else bif Nat.blt i 40 then bif Nat.beq i 39 then (1, 14, []) else (9, 0, [])
  else bif Nat.blt i 41 then bif Nat.beq i 40 then (1, 3, []) else (9, 0, [])
  else bif Nat.beq i 41 then (0, 2, [none, none, none, none, some 42, some 43, some 44, some 45, some 46, some 47]) else (9, 0, [])
  else bif Nat.blt i 63 then bif Nat.blt i 52 then bif Nat.blt i 47 then bif Nat.blt i 44 then bif Nat.blt i 43 then bif Nat.beq i 42 then (1, 28, []) else (9, 0, [])
  else bif Nat.beq i 43 then (1, 28, []) else (9, 0, [])
  else bif Nat.blt i 45 then bif Nat.beq i 44 then (1, 28, []) else (9, 0, [])
  else bif Nat.blt i 46 then bif Nat.beq i 45 then (1, 28, []) else (9, 0, [])
  else bif Nat.beq i 46 then (1, 14, []) else (9, 0, [])
  else bif Nat.blt i 49 then bif Nat.blt i 48 then bif Nat.beq i 47 then (1, 3, []) else (9, 0, [])
  else bif Nat.beq i 48 then (0, 2, [none, none, none, none, some 49, some 50, some 51, some 52, some 53, some 54]) else (9, 0, [])
  else bif Nat.blt i 50 then bif Nat.beq i 49 then (1, 28, []) else (9, 0, [])
  else bif Nat.blt i 51 then bif Nat.beq i 50 then (1, 28, []) else (9, 0, [])
  else bif Nat.beq i 51 then (1, 28, []) else (9, 0, [])
  else bif Nat.blt i 57 then bif Nat.blt i 54 then bif Nat.blt i 53 then bif Nat.beq i 52 then (1, 28, []) else (9, 0, [])
  else bif Nat.beq i 53 then (1, 14, []) else (9, 0, [])
  else bif Nat.blt i 55 then bif Nat.beq i 54 then (1, 3, []) else (9, 0, [])
  else bif Nat.blt i 56 then bif Nat.beq i 55 then (0, 2, [none, none, none, none, some 56, some 57, some 58, some 59, some 60, some 61]) else (9, 0, [])
  else bif Nat.beq i 56 then (1, 28, []) else (9, 0, [])
  else bif Nat.blt i 60 then bif Nat.blt i 58 then bif Nat.beq i 57 then (1, 28, []) else (9, 0, [])
  else bif Nat.blt i 59 then bif Nat.beq i 58 then (1, 28, []) else (9, 0, [])
  else bif Nat.beq i 59 then (1, 28, []) else (9, 0, [])
  else bif Nat.blt i 61 then bif Nat.beq i 60 then (1, 14, []) else (9, 0, [])
  else bif Nat.blt i 62 then bif Nat.beq i 61 then (1, 3, []) else (9, 0, [])
  else bif Nat.beq i 62 then (0, 2, [none, none, none, none, some 63, some 64, some 65, some 66, some 67, some 68]) else (9, 0, [])
  else bif Nat.blt i 73 then bif Nat.blt i 68 then bif Nat.blt i 65 then bif Nat.blt i 64 then bif Nat.beq i 63 then (1, 28, []) else (9, 0, [])
  else bif Nat.beq i 64 then (1, 28, []) else (9, 0, [])
  else bif Nat.blt i 66 then bif Nat.beq i 65 then (1, 28, []) else (9, 0, [])
  else bif Nat.blt i 67 then bif Nat.beq i 66 then (1, 28, []) else (9, 0, [])
  else bif Nat.beq i 67 then (1, 14, []) else (9, 0, [])
  else bif Nat.blt i 70 then bif Nat.blt i 69 then bif Nat.beq i 68 then (1, 3, []) else (9, 0, [])
  else bif Nat.beq i 69 then (0, 2, [none, none, none, none, some 70, some 71, some 72, some 73, some 74, some 75]) else (9, 0, [])
  else bif Nat.blt i 71 then bif Nat.beq i 70 then (1, 28, []) else (9, 0, [])
  else bif Nat.blt i 72 then bif Nat.beq i 71 then (1, 28, []) else (9, 0, [])
  else bif Nat.beq i 72 then (1, 28, []) else (9, 0, [])
  else bif Nat.blt i 78 then bif Nat.blt i 75 then bif Nat.blt i 74 then bif Nat.beq i 73 then (1, 28, []) else (9, 0, [])
  else bif Nat.beq i 74 then (1, 14, []) else (9, 0, [])
  else bif Nat.blt i 76 then bif Nat.beq i 75 then (1, 3, []) else (9, 0, [])
  else bif Nat.blt i 77 then bif Nat.beq i 76 then (0, 2, [none, none, none, none, some 77, some 78, some 79, some 80, some 81, some 82]) else (9, 0, [])
  else bif Nat.beq i 77 then (1, 28, []) else (9, 0, [])
  else bif Nat.blt i 81 then bif Nat.blt i 79 then bif Nat.beq i 78 then (1, 28, []) else (9, 0, [])
  else bif Nat.blt i 80 then bif Nat.beq i 79 then (1, 28, []) else (9, 0, [])
  else bif Nat.beq i 80 then (1, 28, []) else (9, 0, [])
  else bif Nat.blt i 82 then bif Nat.beq i 81 then (1, 14, []) else (9, 0, [])
  else bif Nat.blt i 83 then bif Nat.beq i 82 then (1, 3, []) else (9, 0, [])
  else bif Nat.beq i 83 then (0, 2, [none, none, none, none, some 84, some 85, some 86, some 87, some 88, some 89]) else (9, 0, [])
  else bif Nat.blt i 126 then bif Nat.blt i 105 then bif Nat.blt i 94 then bif Nat.blt i 89 then bif Nat.blt i 86 then bif Nat.blt i 85 then bif Nat.beq i 84 then (1, 28, []) else (9, 0, [])
  else bif Nat.beq i 85 then (1, 28, []) else (9, 0, [])
  else bif Nat.blt i 87 then bif Nat.beq i 86 then (1, 28, []) else (9, 0, [])
  else bif Nat.blt i 88 then bif Nat.beq i 87 then (1, 28, []) else (9, 0, [])
  else bif Nat.beq i 88 then (1, 14, []) else (9, 0, [])
  else bif Nat.blt i 91 then bif Nat.blt i 90 then bif Nat.beq i 89 then (1, 3, []) else (9, 0, [])
  else bif Nat.beq i 90 then (0, 3, [none, some 91, some 92, some 93]) else (9, 0, [])
  else bif Nat.blt i 92 then bif Nat.beq i 91 then (1, 4, []) else (9, 0, [])
  else bif Nat.blt i 93 then bif Nat.beq i 92 then (1, 4, []) else (9, 0, [])
  else bif Nat.beq i 93 then (1, 56, []) else (9, 0, [])
  else bif Nat.blt i 99 then bif Nat.blt i 96 then bif Nat.blt i 95 then bif Nat.beq i 94 then (0, 3, [none, some 95, some 96, some 97]) else (9, 0, [])
  else bif Nat.beq i 95 then (1, 4, []) else (9, 0, [])
  else bif Nat.blt i 97 then bif Nat.beq i 96 then (1, 4, []) else (9, 0, [])
  else bif Nat.blt i 98 then bif Nat.beq i 97 then (1, 56, []) else (9, 0, [])
  else bif Nat.beq i 98 then (0, 3, [none, some 99, some 100, some 101]) else (9, 0, [])
  else bif Nat.blt i 102 then bif Nat.blt i 100 then bif Nat.beq i 99 then (1, 4, []) else (9, 0, [])
  else bif Nat.blt i 101 then bif Nat.beq i 100 then (1, 4, []) else (9, 0, [])
  else bif Nat.beq i 101 then (1, 56, []) else (9, 0, [])
  else bif Nat.blt i 103 then bif Nat.beq i 102 then (0, 3, [none, some 103, some 104, some 105]) else (9, 0, [])
  else bif Nat.blt i 104 then bif Nat.beq i 103 then (1, 4, []) else (9, 0, [])
  else bif Nat.beq i 104 then (1, 4, []) else (9, 0, [])
  else bif Nat.blt i 115 then bif Nat.blt i 110 then bif Nat.blt i 107 then bif Nat.blt i 106 then bif Nat.beq i 105 then (1, 56, []) else (9, 0, [])
  else bif Nat.beq i 106 then (0, 3, [none, some 107, some 108, some 109]) else (9, 0, [])
  else bif Nat.blt i 108 then bif Nat.beq i 107 then (1, 4, []) else (9, 0, [])
  else bif Nat.blt i 109 then bif Nat.beq i 108 then (1, 4, []) else (9, 0, [])
  else bif Nat.beq i 109 then (1, 56, []) else (9, 0, [])
  else bif Nat.blt i 112 then bif Nat.blt i 111 then bif Nat.beq i 110 then (0, 3, [none, some 111, some 112, some 113]) else (9, 0, [])
  else bif Nat.beq i 111 then (1, 4, []) else (9, 0, [])
  else bif Nat.blt i 113 then bif Nat.beq i 112 then (1, 4, []) else (9, 0, [])
  else bif Nat.blt i 114 then bif Nat.beq i 113 then (1, 56, []) else (9, 0, [])
  else bif Nat.beq i 114 then (0, 3, [none, some 115, some 116, some 117]) else (9, 0, [])
  else bif Nat.blt i 120 then bif Nat.blt i 117 then bif Nat.blt i 116 then bif Nat.beq i 115 then (1, 4, []) else (9, 0, [])
  else bif Nat.beq i 116 then (1, 4, []) else (9, 0, [])
  else bif Nat.blt i 118 then bif Nat.beq i 117 then (1, 56, []) else (9, 0, [])
  else bif Nat.blt i 119 then bif Nat.beq i 118 then (0, 3, [none, some 119, some 120, some 121]) else (9, 0, [])
  else bif Nat.beq i 119 then (1, 4, []) else (9, 0, [])
  else bif Nat.blt i 123 then bif Nat.blt i 121 then bif Nat.beq i 120 then (1, 4, []) else (9, 0, [])
  else bif Nat.blt i 122 then bif Nat.beq i 121 then (1, 56, []) else (9, 0, [])
  else bif Nat.beq i 122 then (0, 8, [none, some 123, none, none, none, none, none, none, some 124, some 125, some 126, some 127, none, none, none, none, some 136, some 165]) else (9, 0, [])
  else bif Nat.blt i 124 then bif Nat.beq i 123 then (1, 700, []) else (9, 0, [])
  else bif Nat.blt i 125 then bif Nat.beq i 124 then (1, 1556, []) else (9, 0, [])
  else bif Nat.beq i 125 then (1, 1556, []) else (9, 0, [])
  else bif Nat.blt i 147 then bif Nat.blt i 136 then bif Nat.blt i 131 then bif Nat.blt i 128 then bif Nat.blt i 127 then bif Nat.beq i 126 then (1, 1556, []) else (9, 0, [])
  else bif Nat.beq i 127 then (6, 8, [some 128, some 1]) else (9, 0, [])
  else bif Nat.blt i 129 then bif Nat.beq i 128 then (1, 1556, []) else (9, 0, [])
  else bif Nat.blt i 130 then bif Nat.beq i 129 then (1, 1556, []) else (9, 0, [])
  else bif Nat.beq i 130 then (1, 1556, []) else (9, 0, [])
  else bif Nat.blt i 133 then bif Nat.blt i 132 then bif Nat.beq i 131 then (1, 1556, []) else (9, 0, [])
  else bif Nat.beq i 132 then (1, 1556, []) else (9, 0, [])
  else bif Nat.blt i 134 then bif Nat.beq i 133 then (1, 1556, []) else (9, 0, [])
  else bif Nat.blt i 135 then bif Nat.beq i 134 then (1, 1556, []) else (9, 0, [])
  else bif Nat.beq i 135 then (1, 1556, []) else (9, 0, [])
  else bif Nat.blt i 141 then bif Nat.blt i 138 then bif Nat.blt i 137 then bif Nat.beq i 136 then (6, 28, [some 137, some 1]) else (9, 0, [])
  else bif Nat.beq i 137 then (1, 28, []) else (9, 0, [])
  else bif Nat.blt i 139 then bif Nat.beq i 138 then (1, 28, []) else (9, 0, [])
  else bif Nat.blt i 140 then bif Nat.beq i 139 then (1, 28, []) else (9, 0, [])
  else bif Nat.beq i 140 then (1, 28, []) else (9, 0, [])
  else bif Nat.blt i 144 then bif Nat.blt i 142 then bif Nat.beq i 141 then (1, 28, []) else (9, 0, [])
  else bif Nat.blt i 143 then bif Nat.beq i 142 then (1, 28, []) else (9, 0, [])
  else bif Nat.beq i 143 then (1, 28, []) else (9, 0, [])
  else bif Nat.blt i 145 then bif Nat.beq i 144 then (1, 28, []) else (9, 0, [])
  else bif Nat.blt i 146 then bif Nat.beq i 145 then (1, 28, []) else (9, 0, [])
  else bif Nat.beq i 146 then (1, 28, []) else (9, 0, [])
  else bif Nat.blt i 157 then bif Nat.blt i 152 then bif Nat.blt i 149 then bif Nat.blt i 148 then bif Nat.beq i 147 then (1, 28, []) else (9, 0, [])
  else bif Nat.beq i 148 then (1, 28, []) else (9, 0, [])
  else bif Nat.blt i 150 then bif Nat.beq i 149 then (1, 28, []) else (9, 0, [])
  else bif Nat.blt i 151 then bif Nat.beq i 150 then (1, 28, []) else (9, 0, [])
  else bif Nat.beq i 151 then (1, 28, []) else (9, 0, [])
  else bif Nat.blt i 154 then bif Nat.blt i 153 then bif Nat.beq i 152 then (1, 28, []) else (9, 0, [])
  else bif Nat.beq i 153 then (1, 28, []) else (9, 0, [])
  else bif Nat.blt i 155 then bif Nat.beq i 154 then (1, 28, []) else (9, 0, [])
  else bif Nat.blt i 156 then bif Nat.beq i 155 then (1, 28, []) else (9, 0, [])
  else bif Nat.beq i 156 then (1, 28, []) else (9, 0, [])
  else bif Nat.blt i 162 then bif Nat.blt i 159 then bif Nat.blt i 158 then bif Nat.beq i 157 then (1, 28, []) else (9, 0, [])
  else bif Nat.beq i 158 then (1, 28, []) else (9, 0, [])
  else bif Nat.blt i 160 then bif Nat.beq i 159 then (1, 28, []) else (9, 0, [])
  else bif Nat.blt i 161 then bif Nat.beq i 160 then (1, 28, []) else (9, 0, [])
  else bif Nat.beq i 161 then (1, 28, []) else (9, 0, [])
  else bif Nat.blt i 165 then bif Nat.blt i 163 then bif Nat.beq i 162 then (1, 28, []) else (9, 0, [])
  else bif Nat.blt i 164 then bif Nat.beq i 163 then (1, 28, []) else (9, 0, [])
  else bif Nat.beq i 164 then (1, 28, []) else (9, 0, [])
  else bif Nat.blt i 166 then bif Nat.beq i 165 then (4, 1300, []) else (9, 0, [])
  else bif Nat.blt i 167 then bif Nat.beq i 166 then (4, 1, []) else (9, 0, [])
  else bif Nat.beq i 167 then (7, 0, []) else (9, 0, [])
  else (9, 0, [])
def slenF (i : Nat) : Nat := [7, 4, 3, 5, 7, 4, 6].getD i 0
def schF (i k : Nat) : Int32 := ([[110, 101, 116, 119, 111, 114, 107], [101, 100, 103, 101], [98, 97, 110], [100, 101, 112, 111, 116], [115, 101, 114, 118, 105, 99, 101], [99, 111, 115, 116], [100, 101, 109, 97, 110, 100]].getD i []).getD k 0
abbrev PMR : Type := Nat × Nat × (Nat → Nat → Option (Nat × Nat)) × Nat
abbrev PMI : Type := (Nat → Option PE) × PMR
def hdl : List (Nat × Nat × Nat × Nat × Nat) → Nat → Nat → Option (Nat × Nat)
  | [], _, _ => none
  | (s0, e0, E0, nx, sl) :: t, pc, E => bif Nat.beq E 99 then some (0, 0) else bif Nat.beq E E0 && (Nat.ble s0 pc && Nat.blt pc e0) then some (nx, sl) else hdl t pc E
def wrapM (n : Nat) (cd : Nat → Option PE) (r : PMR) : PMI := (fun pc => bif Nat.blt pc n then cd pc else none, r)
def cd_X0_clear (pc : Nat) : Option PE :=
  bif Nat.blt pc 2 then bif Nat.blt pc 1 then bif Nat.beq pc 0 then some (.aload_n 0, 1, 0, 0, 0, 0, 0) else none
  else bif Nat.beq pc 1 then some (.iconst 0, 2, 0, 0, 0, 0, 0) else none
  else bif Nat.blt pc 5 then bif Nat.beq pc 2 then some (.putfield 18, 5, 0, 2, 0, 0, 0) else none
  else bif Nat.beq pc 5 then some (.return_, 6, 0, 0, 0, 0, 0) else none
def rs_X0_clear : PMR := (0, 0, hdl [], 1)
def mi_X0_clear : PMI := wrapM 6 cd_X0_clear rs_X0_clear
def cd_X0_addOperand (pc : Nat) : Option PE :=
  bif Nat.blt pc 12 then bif Nat.blt pc 5 then bif Nat.blt pc 1 then bif Nat.beq pc 0 then some (.aload_n 0, 1, 0, 0, 0, 0, 0) else none
  else bif Nat.blt pc 4 then bif Nat.beq pc 1 then some (.getfield 9, 4, 0, 0, 2, 0, 0) else none
  else bif Nat.beq pc 4 then some (.aload_n 0, 5, 0, 0, 0, 0, 0) else none
  else bif Nat.blt pc 8 then bif Nat.beq pc 5 then some (.getfield 18, 8, 0, 2, 0, 0, 0) else none
  else bif Nat.blt pc 9 then bif Nat.beq pc 8 then some (.iload_n 1, 9, 1, 0, 0, 0, 0) else none
  else bif Nat.beq pc 9 then some (.invokestatic 22, 12, 107, 3, 99, 0, 0) else none
  else bif Nat.blt pc 17 then bif Nat.blt pc 13 then bif Nat.beq pc 12 then some (.aload_n 0, 13, 0, 0, 0, 0, 0) else none
  else bif Nat.blt pc 14 then bif Nat.beq pc 13 then some (.dup, 14, 0, 0, 0, 0, 0) else none
  else bif Nat.beq pc 14 then some (.getfield 18, 17, 0, 2, 0, 0, 0) else none
  else bif Nat.blt pc 19 then bif Nat.blt pc 18 then bif Nat.beq pc 17 then some (.iconst 1, 18, 0, 0, 0, 1, 0) else none
  else bif Nat.beq pc 18 then some (.iadd, 19, 0, 0, 0, 0, 0) else none
  else bif Nat.blt pc 22 then bif Nat.beq pc 19 then some (.putfield 18, 22, 0, 2, 0, 0, 0) else none
  else bif Nat.beq pc 22 then some (.return_, 23, 0, 0, 0, 0, 0) else none
def rs_X0_addOperand : PMR := (0, 0, hdl [], 2)
def mi_X0_addOperand : PMI := wrapM 23 cd_X0_addOperand rs_X0_addOperand
def cd_X0_addOperator (pc : Nat) : Option PE :=
  bif Nat.blt pc 13 then bif Nat.blt pc 5 then bif Nat.blt pc 1 then bif Nat.beq pc 0 then some (.aload_n 0, 1, 0, 0, 0, 0, 0) else none
  else bif Nat.blt pc 4 then bif Nat.beq pc 1 then some (.getfield 9, 4, 0, 0, 2, 0, 0) else none
  else bif Nat.beq pc 4 then some (.aload_n 0, 5, 0, 0, 0, 0, 0) else none
  else bif Nat.blt pc 9 then bif Nat.blt pc 8 then bif Nat.beq pc 5 then some (.getfield 18, 8, 0, 2, 0, 0, 0) else none
  else bif Nat.beq pc 8 then some (.iload_n 1, 9, 1, 0, 0, 0, 0) else none
  else bif Nat.blt pc 10 then bif Nat.beq pc 9 then some (.ineg, 10, 0, 0, 0, 0, 0) else none
  else bif Nat.beq pc 10 then some (.invokestatic 22, 13, 107, 3, 99, 0, 0) else none
  else bif Nat.blt pc 18 then bif Nat.blt pc 14 then bif Nat.beq pc 13 then some (.aload_n 0, 14, 0, 0, 0, 0, 0) else none
  else bif Nat.blt pc 15 then bif Nat.beq pc 14 then some (.dup, 15, 0, 0, 0, 0, 0) else none
  else bif Nat.beq pc 15 then some (.getfield 18, 18, 0, 2, 0, 0, 0) else none
  else bif Nat.blt pc 20 then bif Nat.blt pc 19 then bif Nat.beq pc 18 then some (.iconst 1, 19, 0, 0, 0, 1, 0) else none
  else bif Nat.beq pc 19 then some (.iadd, 20, 0, 0, 0, 0, 0) else none
  else bif Nat.blt pc 23 then bif Nat.beq pc 20 then some (.putfield 18, 23, 0, 2, 0, 0, 0) else none
  else bif Nat.beq pc 23 then some (.return_, 24, 0, 0, 0, 0, 0) else none
def rs_X0_addOperator : PMR := (0, 0, hdl [], 2)
def mi_X0_addOperator : PMI := wrapM 24 cd_X0_addOperator rs_X0_addOperator
def cd_X0_valueFor (pc : Nat) : Option PE :=
  bif Nat.blt pc 54 then bif Nat.blt pc 30 then bif Nat.blt pc 11 then bif Nat.blt pc 3 then bif Nat.blt pc 1 then bif Nat.beq pc 0 then some (.iconst 0, 1, 0, 0, 0, 0, 0) else none
  else bif Nat.blt pc 2 then bif Nat.beq pc 1 then some (.istore_n 3, 2, 3, 0, 0, 0, 0) else none
  else bif Nat.beq pc 2 then some (.iconst 0, 3, 0, 0, 0, 0, 0) else none
  else bif Nat.blt pc 7 then bif Nat.blt pc 5 then bif Nat.beq pc 3 then some (.istore 4, 5, 4, 0, 0, 0, 0) else none
  else bif Nat.beq pc 5 then some (.iload 4, 7, 4, 0, 0, 0, 0) else none
  else bif Nat.blt pc 8 then bif Nat.beq pc 7 then some (.aload_n 0, 8, 0, 0, 0, 0, 0) else none
  else bif Nat.beq pc 8 then some (.getfield 18, 11, 0, 2, 0, 0, 0) else none
  else bif Nat.blt pc 20 then bif Nat.blt pc 15 then bif Nat.blt pc 14 then bif Nat.beq pc 11 then some (.if_icmp .ge 104, 14, 115, 0, 0, 0, 0) else none
  else bif Nat.beq pc 14 then some (.aload_n 0, 15, 0, 0, 0, 0, 0) else none
  else bif Nat.blt pc 18 then bif Nat.beq pc 15 then some (.getfield 9, 18, 0, 0, 2, 0, 0) else none
  else bif Nat.beq pc 18 then some (.iload 4, 20, 4, 0, 0, 0, 0) else none
  else bif Nat.blt pc 25 then bif Nat.blt pc 23 then bif Nat.beq pc 20 then some (.invokestatic 26, 23, 106, 2, 99, 0, 0) else none
  else bif Nat.beq pc 23 then some (.istore 5, 25, 5, 0, 0, 0, 0) else none
  else bif Nat.blt pc 27 then bif Nat.beq pc 25 then some (.iload 5, 27, 5, 0, 0, 0, 0) else none
  else bif Nat.beq pc 27 then some (.ifCond .ge 45, 30, 72, 0, 0, 0, 0) else none
  else bif Nat.blt pc 42 then bif Nat.blt pc 37 then bif Nat.blt pc 33 then bif Nat.beq pc 30 then some (.iinc 3 (-1), 33, 3, 0, 0, (-1), 0) else none
  else bif Nat.blt pc 34 then bif Nat.beq pc 33 then some (.aload_n 0, 34, 0, 0, 0, 0, 0) else none
  else bif Nat.beq pc 34 then some (.getfield 15, 37, 0, 1, 2, 0, 0) else none
  else bif Nat.blt pc 39 then bif Nat.blt pc 38 then bif Nat.beq pc 37 then some (.iload_n 3, 38, 3, 0, 0, 0, 0) else none
  else bif Nat.beq pc 38 then some (.iconst 1, 39, 0, 0, 0, 1, 0) else none
  else bif Nat.blt pc 40 then bif Nat.beq pc 39 then some (.isub, 40, 0, 0, 0, 0, 0) else none
  else bif Nat.beq pc 40 then some (.iload 5, 42, 5, 0, 0, 0, 0) else none
  else bif Nat.blt pc 48 then bif Nat.blt pc 44 then bif Nat.blt pc 43 then bif Nat.beq pc 42 then some (.ineg, 43, 0, 0, 0, 0, 0) else none
  else bif Nat.beq pc 43 then some (.aload_n 0, 44, 0, 0, 0, 0, 0) else none
  else bif Nat.blt pc 47 then bif Nat.beq pc 44 then some (.getfield 15, 47, 0, 1, 2, 0, 0) else none
  else bif Nat.beq pc 47 then some (.iload_n 3, 48, 3, 0, 0, 0, 0) else none
  else bif Nat.blt pc 50 then bif Nat.blt pc 49 then bif Nat.beq pc 48 then some (.iconst 1, 49, 0, 0, 0, 1, 0) else none
  else bif Nat.beq pc 49 then some (.isub, 50, 0, 0, 0, 0, 0) else none
  else bif Nat.blt pc 53 then bif Nat.beq pc 50 then some (.invokestatic 26, 53, 106, 2, 99, 0, 0) else none
  else bif Nat.beq pc 53 then some (.i2l, 54, 0, 0, 0, 0, 0) else none
  else bif Nat.blt pc 86 then bif Nat.blt pc 69 then bif Nat.blt pc 59 then bif Nat.blt pc 55 then bif Nat.beq pc 54 then some (.aload_n 0, 55, 0, 0, 0, 0, 0) else none
  else bif Nat.blt pc 58 then bif Nat.beq pc 55 then some (.getfield 15, 58, 0, 1, 2, 0, 0) else none
  else bif Nat.beq pc 58 then some (.iload_n 3, 59, 3, 0, 0, 0, 0) else none
  else bif Nat.blt pc 63 then bif Nat.blt pc 62 then bif Nat.beq pc 59 then some (.invokestatic 26, 62, 106, 2, 99, 0, 0) else none
  else bif Nat.beq pc 62 then some (.i2l, 63, 0, 0, 0, 0, 0) else none
  else bif Nat.blt pc 66 then bif Nat.beq pc 63 then some (.invokestatic 30, 66, 4, 3, 99, 0, 0) else none
  else bif Nat.beq pc 66 then some (.invokestatic 22, 69, 107, 3, 99, 0, 0) else none
  else bif Nat.blt pc 77 then bif Nat.blt pc 73 then bif Nat.blt pc 72 then bif Nat.beq pc 69 then some (.goto 40, 72, 109, 0, 0, 0, 0) else none
  else bif Nat.beq pc 72 then some (.aload_n 0, 73, 0, 0, 0, 0, 0) else none
  else bif Nat.blt pc 76 then bif Nat.beq pc 73 then some (.getfield 15, 76, 0, 1, 2, 0, 0) else none
  else bif Nat.beq pc 76 then some (.iload_n 3, 77, 3, 0, 0, 0, 0) else none
  else bif Nat.blt pc 82 then bif Nat.blt pc 79 then bif Nat.beq pc 77 then some (.iload 5, 79, 5, 0, 0, 0, 0) else none
  else bif Nat.beq pc 79 then some (.sipush 10000, 82, 0, 0, 0, 10000, 0) else none
  else bif Nat.blt pc 85 then bif Nat.beq pc 82 then some (.if_icmp .ne 7, 85, 89, 0, 0, 0, 0) else none
  else bif Nat.beq pc 85 then some (.iload_n 1, 86, 1, 0, 0, 0, 0) else none
  else bif Nat.blt pc 106 then bif Nat.blt pc 97 then bif Nat.blt pc 91 then bif Nat.blt pc 89 then bif Nat.beq pc 86 then some (.goto 17, 89, 103, 0, 0, 0, 0) else none
  else bif Nat.beq pc 89 then some (.iload 5, 91, 5, 0, 0, 0, 0) else none
  else bif Nat.blt pc 94 then bif Nat.beq pc 91 then some (.sipush 10001, 94, 0, 0, 0, 10001, 0) else none
  else bif Nat.beq pc 94 then some (.if_icmp .ne 7, 97, 101, 0, 0, 0, 0) else none
  else bif Nat.blt pc 101 then bif Nat.blt pc 98 then bif Nat.beq pc 97 then some (.iload_n 2, 98, 2, 0, 0, 0, 0) else none
  else bif Nat.beq pc 98 then some (.goto 5, 101, 103, 0, 0, 0, 0) else none
  else bif Nat.blt pc 103 then bif Nat.beq pc 101 then some (.iload 5, 103, 5, 0, 0, 0, 0) else none
  else bif Nat.beq pc 103 then some (.invokestatic 22, 106, 107, 3, 99, 0, 0) else none
  else bif Nat.blt pc 116 then bif Nat.blt pc 112 then bif Nat.blt pc 109 then bif Nat.beq pc 106 then some (.iinc 3 1, 109, 3, 0, 0, 1, 0) else none
  else bif Nat.beq pc 109 then some (.iinc 4 1, 112, 4, 0, 0, 1, 0) else none
  else bif Nat.blt pc 115 then bif Nat.beq pc 112 then some (.goto (-107), 115, 5, 0, 0, 0, 0) else none
  else bif Nat.beq pc 115 then some (.aload_n 0, 116, 0, 0, 0, 0, 0) else none
  else bif Nat.blt pc 120 then bif Nat.blt pc 119 then bif Nat.beq pc 116 then some (.getfield 15, 119, 0, 1, 2, 0, 0) else none
  else bif Nat.beq pc 119 then some (.iconst 0, 120, 0, 0, 0, 0, 0) else none
  else bif Nat.blt pc 123 then bif Nat.beq pc 120 then some (.invokestatic 26, 123, 106, 2, 99, 0, 0) else none
  else bif Nat.beq pc 123 then some (.ireturn, 124, 0, 0, 0, 0, 0) else none
def rs_X0_valueFor : PMR := (1, 0, hdl [], 6)
def mi_X0_valueFor : PMI := wrapM 124 cd_X0_valueFor rs_X0_valueFor
def cd_X0_applied (pc : Nat) : Option PE :=
  bif Nat.blt pc 32 then bif Nat.blt pc 14 then bif Nat.blt pc 6 then bif Nat.blt pc 3 then bif Nat.blt pc 1 then bif Nat.beq pc 0 then some (.lconst 0, 1, 0, 0, 0, 0, 0) else none
  else bif Nat.beq pc 1 then some (.lstore 5, 3, 5, 0, 0, 0, 0) else none
  else bif Nat.blt pc 4 then bif Nat.beq pc 3 then some (.iload_n 0, 4, 0, 0, 0, 0, 0) else none
  else bif Nat.beq pc 4 then some (.bipush 43, 6, 0, 0, 0, 43, 0) else none
  else bif Nat.blt pc 10 then bif Nat.blt pc 9 then bif Nat.beq pc 6 then some (.if_icmp .ne 11, 9, 17, 0, 0, 0, 0) else none
  else bif Nat.beq pc 9 then some (.lload_n 1, 10, 1, 0, 0, 0, 0) else none
  else bif Nat.blt pc 11 then bif Nat.beq pc 10 then some (.lload_n 3, 11, 3, 0, 0, 0, 0) else none
  else bif Nat.blt pc 12 then bif Nat.beq pc 11 then some (.ladd, 12, 0, 0, 0, 0, 0) else none
  else bif Nat.beq pc 12 then some (.lstore 5, 14, 5, 0, 0, 0, 0) else none
  else bif Nat.blt pc 24 then bif Nat.blt pc 18 then bif Nat.blt pc 17 then bif Nat.beq pc 14 then some (.goto 42, 17, 56, 0, 0, 0, 0) else none
  else bif Nat.beq pc 17 then some (.iload_n 0, 18, 0, 0, 0, 0, 0) else none
  else bif Nat.blt pc 20 then bif Nat.beq pc 18 then some (.bipush 45, 20, 0, 0, 0, 45, 0) else none
  else bif Nat.blt pc 23 then bif Nat.beq pc 20 then some (.if_icmp .ne 11, 23, 31, 0, 0, 0, 0) else none
  else bif Nat.beq pc 23 then some (.lload_n 1, 24, 1, 0, 0, 0, 0) else none
  else bif Nat.blt pc 26 then bif Nat.blt pc 25 then bif Nat.beq pc 24 then some (.lload_n 3, 25, 3, 0, 0, 0, 0) else none
  else bif Nat.beq pc 25 then some (.lsub, 26, 0, 0, 0, 0, 0) else none
  else bif Nat.blt pc 28 then bif Nat.beq pc 26 then some (.lstore 5, 28, 5, 0, 0, 0, 0) else none
  else bif Nat.blt pc 31 then bif Nat.beq pc 28 then some (.goto 28, 31, 56, 0, 0, 0, 0) else none
  else bif Nat.beq pc 31 then some (.iload_n 0, 32, 0, 0, 0, 0, 0) else none
  else bif Nat.blt pc 48 then bif Nat.blt pc 40 then bif Nat.blt pc 37 then bif Nat.blt pc 34 then bif Nat.beq pc 32 then some (.bipush 42, 34, 0, 0, 0, 42, 0) else none
  else bif Nat.beq pc 34 then some (.if_icmp .ne 11, 37, 45, 0, 0, 0, 0) else none
  else bif Nat.blt pc 38 then bif Nat.beq pc 37 then some (.lload_n 1, 38, 1, 0, 0, 0, 0) else none
  else bif Nat.blt pc 39 then bif Nat.beq pc 38 then some (.lload_n 3, 39, 3, 0, 0, 0, 0) else none
  else bif Nat.beq pc 39 then some (.lmul, 40, 0, 0, 0, 0, 0) else none
  else bif Nat.blt pc 45 then bif Nat.blt pc 42 then bif Nat.beq pc 40 then some (.lstore 5, 42, 5, 0, 0, 0, 0) else none
  else bif Nat.beq pc 42 then some (.goto 14, 45, 56, 0, 0, 0, 0) else none
  else bif Nat.blt pc 46 then bif Nat.beq pc 45 then some (.lload_n 3, 46, 3, 0, 0, 0, 0) else none
  else bif Nat.blt pc 47 then bif Nat.beq pc 46 then some (.lconst 0, 47, 0, 0, 0, 0, 0) else none
  else bif Nat.beq pc 47 then some (.lcmp, 48, 0, 0, 0, 0, 0) else none
  else bif Nat.blt pc 56 then bif Nat.blt pc 52 then bif Nat.blt pc 51 then bif Nat.beq pc 48 then some (.ifCond .eq 8, 51, 56, 0, 0, 0, 0) else none
  else bif Nat.beq pc 51 then some (.lload_n 1, 52, 1, 0, 0, 0, 0) else none
  else bif Nat.blt pc 53 then bif Nat.beq pc 52 then some (.lload_n 3, 53, 3, 0, 0, 0, 0) else none
  else bif Nat.blt pc 54 then bif Nat.beq pc 53 then some (.ldiv, 54, 0, 0, 0, 0, 0) else none
  else bif Nat.beq pc 54 then some (.lstore 5, 56, 5, 0, 0, 0, 0) else none
  else bif Nat.blt pc 60 then bif Nat.blt pc 58 then bif Nat.beq pc 56 then some (.lload 5, 58, 5, 0, 0, 0, 0) else none
  else bif Nat.beq pc 58 then some (.ldc 34, 60, 0, 0, 0, (-1000000), 0) else none
  else bif Nat.blt pc 62 then bif Nat.beq pc 60 then some (.ldc 35, 62, 0, 0, 0, 1000000, 0) else none
  else bif Nat.blt pc 65 then bif Nat.beq pc 62 then some (.invokestatic 36, 65, 105, 3, 99, 0, 0) else none
  else bif Nat.beq pc 65 then some (.ireturn, 66, 0, 0, 0, 0, 0) else none
def rs_X0_applied : PMR := (1, 0, hdl [], 7)
def mi_X0_applied : PMI := wrapM 66 cd_X0_applied rs_X0_applied
def cd_X1_isReady (pc : Nat) : Option PE :=
  bif Nat.blt pc 27 then bif Nat.blt pc 13 then bif Nat.blt pc 5 then bif Nat.blt pc 1 then bif Nat.beq pc 0 then some (.iload_n 1, 1, 1, 0, 0, 0, 0) else none
  else bif Nat.blt pc 4 then bif Nat.beq pc 1 then some (.ifCond .lt 52, 4, 53, 0, 0, 0, 0) else none
  else bif Nat.beq pc 4 then some (.iload_n 1, 5, 1, 0, 0, 0, 0) else none
  else bif Nat.blt pc 9 then bif Nat.blt pc 6 then bif Nat.beq pc 5 then some (.aload_n 0, 6, 0, 0, 0, 0, 0) else none
  else bif Nat.beq pc 6 then some (.getfield 11, 9, 1, 0, 2, 0, 0) else none
  else bif Nat.blt pc 10 then bif Nat.beq pc 9 then some (.arraylength, 10, 0, 0, 0, 0, 0) else none
  else bif Nat.beq pc 10 then some (.if_icmp .ge 43, 13, 53, 0, 0, 0, 0) else none
  else bif Nat.blt pc 19 then bif Nat.blt pc 15 then bif Nat.blt pc 14 then bif Nat.beq pc 13 then some (.iload_n 1, 14, 1, 0, 0, 0, 0) else none
  else bif Nat.beq pc 14 then some (.aload_n 0, 15, 0, 0, 0, 0, 0) else none
  else bif Nat.blt pc 18 then bif Nat.beq pc 15 then some (.getfield 19, 18, 1, 1, 2, 0, 0) else none
  else bif Nat.beq pc 18 then some (.arraylength, 19, 0, 0, 0, 0, 0) else none
  else bif Nat.blt pc 23 then bif Nat.blt pc 22 then bif Nat.beq pc 19 then some (.if_icmp .ge 34, 22, 53, 0, 0, 0, 0) else none
  else bif Nat.beq pc 22 then some (.iload_n 1, 23, 1, 0, 0, 0, 0) else none
  else bif Nat.blt pc 24 then bif Nat.beq pc 23 then some (.aload_n 0, 24, 0, 0, 0, 0, 0) else none
  else bif Nat.beq pc 24 then some (.getfield 23, 27, 1, 2, 2, 0, 0) else none
  else bif Nat.blt pc 41 then bif Nat.blt pc 35 then bif Nat.blt pc 31 then bif Nat.blt pc 28 then bif Nat.beq pc 27 then some (.arraylength, 28, 0, 0, 0, 0, 0) else none
  else bif Nat.beq pc 28 then some (.if_icmp .ge 25, 31, 53, 0, 0, 0, 0) else none
  else bif Nat.blt pc 32 then bif Nat.beq pc 31 then some (.aload_n 0, 32, 0, 0, 0, 0, 0) else none
  else bif Nat.beq pc 32 then some (.getfield 11, 35, 1, 0, 2, 0, 0) else none
  else bif Nat.blt pc 37 then bif Nat.blt pc 36 then bif Nat.beq pc 35 then some (.iload_n 1, 36, 1, 0, 0, 0, 0) else none
  else bif Nat.beq pc 36 then some (.aaload, 37, 0, 0, 0, 0, 0) else none
  else bif Nat.blt pc 40 then bif Nat.beq pc 37 then some (.ifnull 16, 40, 53, 0, 0, 0, 0) else none
  else bif Nat.beq pc 40 then some (.aload_n 0, 41, 0, 0, 0, 0, 0) else none
  else bif Nat.blt pc 49 then bif Nat.blt pc 45 then bif Nat.blt pc 44 then bif Nat.beq pc 41 then some (.getfield 19, 44, 1, 1, 2, 0, 0) else none
  else bif Nat.beq pc 44 then some (.iload_n 1, 45, 1, 0, 0, 0, 0) else none
  else bif Nat.blt pc 46 then bif Nat.beq pc 45 then some (.aaload, 46, 0, 0, 0, 0, 0) else none
  else bif Nat.beq pc 46 then some (.ifnull 7, 49, 53, 0, 0, 0, 0) else none
  else bif Nat.blt pc 53 then bif Nat.blt pc 50 then bif Nat.beq pc 49 then some (.iconst 1, 50, 0, 0, 0, 1, 0) else none
  else bif Nat.beq pc 50 then some (.goto 4, 53, 54, 0, 0, 0, 0) else none
  else bif Nat.blt pc 54 then bif Nat.beq pc 53 then some (.iconst 0, 54, 0, 0, 0, 0, 0) else none
  else bif Nat.beq pc 54 then some (.ireturn, 55, 0, 0, 0, 0, 0) else none
def rs_X1_isReady : PMR := (2, 0, hdl [], 2)
def mi_X1_isReady : PMI := wrapM 55 cd_X1_isReady rs_X1_isReady
def cd_X1_remember (pc : Nat) : Option PE :=
  bif Nat.blt pc 40 then bif Nat.blt pc 21 then bif Nat.blt pc 11 then bif Nat.blt pc 2 then bif Nat.blt pc 1 then bif Nat.beq pc 0 then some (.aload_n 0, 1, 0, 0, 0, 0, 0) else none
  else bif Nat.beq pc 1 then some (.aload_n 0, 2, 0, 0, 0, 0, 0) else none
  else bif Nat.blt pc 5 then bif Nat.beq pc 2 then some (.getfield 31, 5, 1, 4, 0, 0, 0) else none
  else bif Nat.blt pc 8 then bif Nat.beq pc 5 then some (.invokevirtual 36, 8, 5, 2, 1, 0, 0) else none
  else bif Nat.beq pc 8 then some (.ifCond .ne 4, 11, 12, 0, 0, 0, 0) else none
  else bif Nat.blt pc 16 then bif Nat.blt pc 12 then bif Nat.beq pc 11 then some (.return_, 12, 0, 0, 0, 0, 0) else none
  else bif Nat.blt pc 13 then bif Nat.beq pc 12 then some (.aload_n 0, 13, 0, 0, 0, 0, 0) else none
  else bif Nat.beq pc 13 then some (.getfield 23, 16, 1, 2, 2, 0, 0) else none
  else bif Nat.blt pc 17 then bif Nat.beq pc 16 then some (.aload_n 0, 17, 0, 0, 0, 0, 0) else none
  else bif Nat.blt pc 20 then bif Nat.beq pc 17 then some (.getfield 31, 20, 1, 4, 0, 0, 0) else none
  else bif Nat.beq pc 20 then some (.iload_n 3, 21, 3, 0, 0, 0, 0) else none
  else bif Nat.blt pc 30 then bif Nat.blt pc 23 then bif Nat.blt pc 22 then bif Nat.beq pc 21 then some (.bastore, 22, 0, 0, 0, 0, 0) else none
  else bif Nat.beq pc 22 then some (.iload_n 3, 23, 3, 0, 0, 0, 0) else none
  else bif Nat.blt pc 26 then bif Nat.beq pc 23 then some (.ifCond .eq 16, 26, 39, 0, 0, 0, 0) else none
  else bif Nat.blt pc 27 then bif Nat.beq pc 26 then some (.aload_n 0, 27, 0, 0, 0, 0, 0) else none
  else bif Nat.beq pc 27 then some (.getfield 11, 30, 1, 0, 2, 0, 0) else none
  else bif Nat.blt pc 35 then bif Nat.blt pc 31 then bif Nat.beq pc 30 then some (.aload_n 0, 31, 0, 0, 0, 0, 0) else none
  else bif Nat.blt pc 34 then bif Nat.beq pc 31 then some (.getfield 31, 34, 1, 4, 0, 0, 0) else none
  else bif Nat.beq pc 34 then some (.aaload, 35, 0, 0, 0, 0, 0) else none
  else bif Nat.blt pc 36 then bif Nat.beq pc 35 then some (.aload_n 1, 36, 1, 0, 0, 0, 0) else none
  else bif Nat.blt pc 39 then bif Nat.beq pc 36 then some (.invokevirtual 40, 39, 9, 2, 2, 0, 0) else none
  else bif Nat.beq pc 39 then some (.aload_n 0, 40, 0, 0, 0, 0, 0) else none
  else bif Nat.blt pc 59 then bif Nat.blt pc 49 then bif Nat.blt pc 44 then bif Nat.blt pc 43 then bif Nat.beq pc 40 then some (.getfield 19, 43, 1, 1, 2, 0, 0) else none
  else bif Nat.beq pc 43 then some (.aload_n 0, 44, 0, 0, 0, 0, 0) else none
  else bif Nat.blt pc 47 then bif Nat.beq pc 44 then some (.getfield 31, 47, 1, 4, 0, 0, 0) else none
  else bif Nat.blt pc 48 then bif Nat.beq pc 47 then some (.aaload, 48, 0, 0, 0, 0, 0) else none
  else bif Nat.beq pc 48 then some (.aload_n 2, 49, 2, 0, 0, 0, 0) else none
  else bif Nat.blt pc 54 then bif Nat.blt pc 52 then bif Nat.beq pc 49 then some (.invokevirtual 44, 52, 20, 2, 3, 0, 0) else none
  else bif Nat.blt pc 53 then bif Nat.beq pc 52 then some (.aload_n 0, 53, 0, 0, 0, 0, 0) else none
  else bif Nat.beq pc 53 then some (.aload_n 0, 54, 0, 0, 0, 0, 0) else none
  else bif Nat.blt pc 57 then bif Nat.beq pc 54 then some (.getfield 31, 57, 1, 4, 0, 0, 0) else none
  else bif Nat.blt pc 58 then bif Nat.beq pc 57 then some (.iconst 1, 58, 0, 0, 0, 1, 0) else none
  else bif Nat.beq pc 58 then some (.iadd, 59, 0, 0, 0, 0, 0) else none
  else bif Nat.blt pc 70 then bif Nat.blt pc 65 then bif Nat.blt pc 61 then bif Nat.beq pc 59 then some (.bipush 8, 61, 0, 0, 0, 8, 0) else none
  else bif Nat.blt pc 62 then bif Nat.beq pc 61 then some (.irem, 62, 0, 0, 0, 0, 0) else none
  else bif Nat.beq pc 62 then some (.putfield 31, 65, 1, 4, 0, 0, 0) else none
  else bif Nat.blt pc 66 then bif Nat.beq pc 65 then some (.aload_n 0, 66, 0, 0, 0, 0, 0) else none
  else bif Nat.blt pc 67 then bif Nat.beq pc 66 then some (.aload_n 0, 67, 0, 0, 0, 0, 0) else none
  else bif Nat.beq pc 67 then some (.getfield 27, 70, 1, 3, 0, 0, 0) else none
  else bif Nat.blt pc 74 then bif Nat.blt pc 71 then bif Nat.beq pc 70 then some (.iconst 1, 71, 0, 0, 0, 1, 0) else none
  else bif Nat.blt pc 72 then bif Nat.beq pc 71 then some (.iadd, 72, 0, 0, 0, 0, 0) else none
  else bif Nat.beq pc 72 then some (.bipush 8, 74, 0, 0, 0, 8, 0) else none
  else bif Nat.blt pc 77 then bif Nat.beq pc 74 then some (.invokestatic 47, 77, 0, 0, 100, 0, 0) else none
  else bif Nat.blt pc 80 then bif Nat.beq pc 77 then some (.putfield 27, 80, 1, 3, 0, 0, 0) else none
  else bif Nat.beq pc 80 then some (.return_, 81, 0, 0, 0, 0, 0) else none
def rs_X1_remember : PMR := (0, 0, hdl [], 4)
def mi_X1_remember : PMI := wrapM 81 cd_X1_remember rs_X1_remember
def cd_X1_restore (pc : Nat) : Option PE :=
  bif Nat.blt pc 40 then bif Nat.blt pc 20 then bif Nat.blt pc 9 then bif Nat.blt pc 6 then bif Nat.blt pc 1 then bif Nat.beq pc 0 then some (.aload_n 0, 1, 0, 0, 0, 0, 0) else none
  else bif Nat.blt pc 4 then bif Nat.beq pc 1 then some (.getfield 31, 4, 1, 4, 0, 0, 0) else none
  else bif Nat.beq pc 4 then some (.bipush 8, 6, 0, 0, 0, 8, 0) else none
  else bif Nat.blt pc 7 then bif Nat.beq pc 6 then some (.iadd, 7, 0, 0, 0, 0, 0) else none
  else bif Nat.blt pc 8 then bif Nat.beq pc 7 then some (.iconst 1, 8, 0, 0, 0, 1, 0) else none
  else bif Nat.beq pc 8 then some (.isub, 9, 0, 0, 0, 0, 0) else none
  else bif Nat.blt pc 13 then bif Nat.blt pc 11 then bif Nat.beq pc 9 then some (.bipush 8, 11, 0, 0, 0, 8, 0) else none
  else bif Nat.blt pc 12 then bif Nat.beq pc 11 then some (.irem, 12, 0, 0, 0, 0, 0) else none
  else bif Nat.beq pc 12 then some (.istore_n 3, 13, 3, 0, 0, 0, 0) else none
  else bif Nat.blt pc 14 then bif Nat.beq pc 13 then some (.aload_n 0, 14, 0, 0, 0, 0, 0) else none
  else bif Nat.blt pc 17 then bif Nat.beq pc 14 then some (.getfield 27, 17, 1, 3, 0, 0, 0) else none
  else bif Nat.beq pc 17 then some (.ifCond .le 11, 20, 28, 0, 0, 0, 0) else none
  else bif Nat.blt pc 30 then bif Nat.blt pc 25 then bif Nat.blt pc 21 then bif Nat.beq pc 20 then some (.aload_n 0, 21, 0, 0, 0, 0, 0) else none
  else bif Nat.blt pc 22 then bif Nat.beq pc 21 then some (.iload_n 3, 22, 3, 0, 0, 0, 0) else none
  else bif Nat.beq pc 22 then some (.invokevirtual 36, 25, 5, 2, 1, 0, 0) else none
  else bif Nat.blt pc 28 then bif Nat.beq pc 25 then some (.ifCond .ne 5, 28, 30, 0, 0, 0, 0) else none
  else bif Nat.blt pc 29 then bif Nat.beq pc 28 then some (.iconst 0, 29, 0, 0, 0, 0, 0) else none
  else bif Nat.beq pc 29 then some (.ireturn, 30, 0, 0, 0, 0, 0) else none
  else bif Nat.blt pc 35 then bif Nat.blt pc 31 then bif Nat.beq pc 30 then some (.aload_n 0, 31, 0, 0, 0, 0, 0) else none
  else bif Nat.blt pc 32 then bif Nat.beq pc 31 then some (.iload_n 3, 32, 3, 0, 0, 0, 0) else none
  else bif Nat.beq pc 32 then some (.putfield 31, 35, 1, 4, 0, 0, 0) else none
  else bif Nat.blt pc 36 then bif Nat.beq pc 35 then some (.aload_n 0, 36, 0, 0, 0, 0, 0) else none
  else bif Nat.blt pc 37 then bif Nat.beq pc 36 then some (.dup, 37, 0, 0, 0, 0, 0) else none
  else bif Nat.beq pc 37 then some (.getfield 27, 40, 1, 3, 0, 0, 0) else none
  else bif Nat.blt pc 60 then bif Nat.blt pc 50 then bif Nat.blt pc 45 then bif Nat.blt pc 41 then bif Nat.beq pc 40 then some (.iconst 1, 41, 0, 0, 0, 1, 0) else none
  else bif Nat.blt pc 42 then bif Nat.beq pc 41 then some (.isub, 42, 0, 0, 0, 0, 0) else none
  else bif Nat.beq pc 42 then some (.putfield 27, 45, 1, 3, 0, 0, 0) else none
  else bif Nat.blt pc 46 then bif Nat.beq pc 45 then some (.aload_n 2, 46, 2, 0, 0, 0, 0) else none
  else bif Nat.blt pc 47 then bif Nat.beq pc 46 then some (.aload_n 0, 47, 0, 0, 0, 0, 0) else none
  else bif Nat.beq pc 47 then some (.getfield 19, 50, 1, 1, 2, 0, 0) else none
  else bif Nat.blt pc 55 then bif Nat.blt pc 51 then bif Nat.beq pc 50 then some (.iload_n 3, 51, 3, 0, 0, 0, 0) else none
  else bif Nat.blt pc 52 then bif Nat.beq pc 51 then some (.aaload, 52, 0, 0, 0, 0, 0) else none
  else bif Nat.beq pc 52 then some (.invokevirtual 44, 55, 20, 2, 3, 0, 0) else none
  else bif Nat.blt pc 56 then bif Nat.beq pc 55 then some (.aload_n 0, 56, 0, 0, 0, 0, 0) else none
  else bif Nat.blt pc 59 then bif Nat.beq pc 56 then some (.getfield 23, 59, 1, 2, 2, 0, 0) else none
  else bif Nat.beq pc 59 then some (.iload_n 3, 60, 3, 0, 0, 0, 0) else none
  else bif Nat.blt pc 70 then bif Nat.blt pc 65 then bif Nat.blt pc 61 then bif Nat.beq pc 60 then some (.baload, 61, 0, 0, 0, 0, 0) else none
  else bif Nat.blt pc 64 then bif Nat.beq pc 61 then some (.ifCond .eq 13, 64, 74, 0, 0, 0, 0) else none
  else bif Nat.beq pc 64 then some (.aload_n 1, 65, 1, 0, 0, 0, 0) else none
  else bif Nat.blt pc 66 then bif Nat.beq pc 65 then some (.aload_n 0, 66, 0, 0, 0, 0, 0) else none
  else bif Nat.blt pc 69 then bif Nat.beq pc 66 then some (.getfield 11, 69, 1, 0, 2, 0, 0) else none
  else bif Nat.beq pc 69 then some (.iload_n 3, 70, 3, 0, 0, 0, 0) else none
  else bif Nat.blt pc 75 then bif Nat.blt pc 71 then bif Nat.beq pc 70 then some (.aaload, 71, 0, 0, 0, 0, 0) else none
  else bif Nat.blt pc 74 then bif Nat.beq pc 71 then some (.invokevirtual 40, 74, 9, 2, 2, 0, 0) else none
  else bif Nat.beq pc 74 then some (.aload_n 0, 75, 0, 0, 0, 0, 0) else none
  else bif Nat.blt pc 79 then bif Nat.blt pc 78 then bif Nat.beq pc 75 then some (.getfield 23, 78, 1, 2, 2, 0, 0) else none
  else bif Nat.beq pc 78 then some (.iload_n 3, 79, 3, 0, 0, 0, 0) else none
  else bif Nat.blt pc 80 then bif Nat.beq pc 79 then some (.baload, 80, 0, 0, 0, 0, 0) else none
  else bif Nat.beq pc 80 then some (.ireturn, 81, 0, 0, 0, 0, 0) else none
def rs_X1_restore : PMR := (2, 0, hdl [], 4)
def mi_X1_restore : PMI := wrapM 81 cd_X1_restore rs_X1_restore
def cd_X2_clear (pc : Nat) : Option PE :=
  bif Nat.blt pc 10 then bif Nat.blt pc 5 then bif Nat.blt pc 1 then bif Nat.beq pc 0 then some (.aload_n 0, 1, 0, 0, 0, 0, 0) else none
  else bif Nat.blt pc 2 then bif Nat.beq pc 1 then some (.iconst 0, 2, 0, 0, 0, 0, 0) else none
  else bif Nat.beq pc 2 then some (.putfield 30, 5, 2, 0, 0, 0, 0) else none
  else bif Nat.blt pc 6 then bif Nat.beq pc 5 then some (.aload_n 0, 6, 0, 0, 0, 0, 0) else none
  else bif Nat.blt pc 7 then bif Nat.beq pc 6 then some (.iconst 0, 7, 0, 0, 0, 0, 0) else none
  else bif Nat.beq pc 7 then some (.putfield 34, 10, 2, 1, 0, 0, 0) else none
  else bif Nat.blt pc 15 then bif Nat.blt pc 11 then bif Nat.beq pc 10 then some (.aload_n 0, 11, 0, 0, 0, 0, 0) else none
  else bif Nat.blt pc 12 then bif Nat.beq pc 11 then some (.iconst 0, 12, 0, 0, 0, 0, 0) else none
  else bif Nat.beq pc 12 then some (.putfield 37, 15, 2, 2, 0, 0, 0) else none
  else bif Nat.blt pc 17 then bif Nat.blt pc 16 then bif Nat.beq pc 15 then some (.aload_n 0, 16, 0, 0, 0, 0, 0) else none
  else bif Nat.beq pc 16 then some (.iconst 0, 17, 0, 0, 0, 0, 0) else none
  else bif Nat.blt pc 20 then bif Nat.beq pc 17 then some (.putfield 40, 20, 2, 3, 0, 0, 0) else none
  else bif Nat.beq pc 20 then some (.return_, 21, 0, 0, 0, 0, 0) else none
def rs_X2_clear : PMR := (0, 0, hdl [], 1)
def mi_X2_clear : PMI := wrapM 21 cd_X2_clear rs_X2_clear
def cd_X2_copyFrom (pc : Nat) : Option PE :=
  bif Nat.blt pc 47 then bif Nat.blt pc 21 then bif Nat.blt pc 9 then bif Nat.blt pc 2 then bif Nat.blt pc 1 then bif Nat.beq pc 0 then some (.aload_n 0, 1, 0, 0, 0, 0, 0) else none
  else bif Nat.beq pc 1 then some (.aload_n 1, 2, 1, 0, 0, 0, 0) else none
  else bif Nat.blt pc 5 then bif Nat.beq pc 2 then some (.getfield 30, 5, 2, 0, 0, 0, 0) else none
  else bif Nat.blt pc 8 then bif Nat.beq pc 5 then some (.putfield 30, 8, 2, 0, 0, 0, 0) else none
  else bif Nat.beq pc 8 then some (.aload_n 0, 9, 0, 0, 0, 0, 0) else none
  else bif Nat.blt pc 16 then bif Nat.blt pc 10 then bif Nat.beq pc 9 then some (.aload_n 1, 10, 1, 0, 0, 0, 0) else none
  else bif Nat.blt pc 13 then bif Nat.beq pc 10 then some (.getfield 34, 13, 2, 1, 0, 0, 0) else none
  else bif Nat.beq pc 13 then some (.putfield 34, 16, 2, 1, 0, 0, 0) else none
  else bif Nat.blt pc 17 then bif Nat.beq pc 16 then some (.aload_n 0, 17, 0, 0, 0, 0, 0) else none
  else bif Nat.blt pc 18 then bif Nat.beq pc 17 then some (.aload_n 1, 18, 1, 0, 0, 0, 0) else none
  else bif Nat.beq pc 18 then some (.getfield 37, 21, 2, 2, 0, 0, 0) else none
  else bif Nat.blt pc 33 then bif Nat.blt pc 26 then bif Nat.blt pc 24 then bif Nat.beq pc 21 then some (.putfield 37, 24, 2, 2, 0, 0, 0) else none
  else bif Nat.blt pc 25 then bif Nat.beq pc 24 then some (.aload_n 0, 25, 0, 0, 0, 0, 0) else none
  else bif Nat.beq pc 25 then some (.aload_n 1, 26, 1, 0, 0, 0, 0) else none
  else bif Nat.blt pc 29 then bif Nat.beq pc 26 then some (.getfield 40, 29, 2, 3, 0, 0, 0) else none
  else bif Nat.blt pc 32 then bif Nat.beq pc 29 then some (.putfield 40, 32, 2, 3, 0, 0, 0) else none
  else bif Nat.beq pc 32 then some (.aload_n 1, 33, 1, 0, 0, 0, 0) else none
  else bif Nat.blt pc 40 then bif Nat.blt pc 36 then bif Nat.beq pc 33 then some (.getfield 9, 36, 2, 4, 2, 0, 0) else none
  else bif Nat.blt pc 37 then bif Nat.beq pc 36 then some (.aload_n 0, 37, 0, 0, 0, 0, 0) else none
  else bif Nat.beq pc 37 then some (.getfield 9, 40, 2, 4, 2, 0, 0) else none
  else bif Nat.blt pc 43 then bif Nat.beq pc 40 then some (.invokestatic 43, 43, 108, 2, 99, 0, 0) else none
  else bif Nat.blt pc 44 then bif Nat.beq pc 43 then some (.aload_n 1, 44, 1, 0, 0, 0, 0) else none
  else bif Nat.beq pc 44 then some (.getfield 15, 47, 2, 5, 2, 0, 0) else none
  else bif Nat.blt pc 73 then bif Nat.blt pc 59 then bif Nat.blt pc 54 then bif Nat.blt pc 48 then bif Nat.beq pc 47 then some (.aload_n 0, 48, 0, 0, 0, 0, 0) else none
  else bif Nat.blt pc 51 then bif Nat.beq pc 48 then some (.getfield 15, 51, 2, 5, 2, 0, 0) else none
  else bif Nat.beq pc 51 then some (.invokestatic 43, 54, 108, 2, 99, 0, 0) else none
  else bif Nat.blt pc 55 then bif Nat.beq pc 54 then some (.aload_n 1, 55, 1, 0, 0, 0, 0) else none
  else bif Nat.blt pc 58 then bif Nat.beq pc 55 then some (.getfield 18, 58, 2, 6, 2, 0, 0) else none
  else bif Nat.beq pc 58 then some (.aload_n 0, 59, 0, 0, 0, 0, 0) else none
  else bif Nat.blt pc 66 then bif Nat.blt pc 62 then bif Nat.beq pc 59 then some (.getfield 18, 62, 2, 6, 2, 0, 0) else none
  else bif Nat.blt pc 65 then bif Nat.beq pc 62 then some (.invokestatic 43, 65, 108, 2, 99, 0, 0) else none
  else bif Nat.beq pc 65 then some (.aload_n 1, 66, 1, 0, 0, 0, 0) else none
  else bif Nat.blt pc 69 then bif Nat.beq pc 66 then some (.getfield 21, 69, 2, 7, 2, 0, 0) else none
  else bif Nat.blt pc 70 then bif Nat.beq pc 69 then some (.aload_n 0, 70, 0, 0, 0, 0, 0) else none
  else bif Nat.beq pc 70 then some (.getfield 21, 73, 2, 7, 2, 0, 0) else none
  else bif Nat.blt pc 87 then bif Nat.blt pc 80 then bif Nat.blt pc 76 then bif Nat.beq pc 73 then some (.invokestatic 43, 76, 108, 2, 99, 0, 0) else none
  else bif Nat.blt pc 77 then bif Nat.beq pc 76 then some (.aload_n 1, 77, 1, 0, 0, 0, 0) else none
  else bif Nat.beq pc 77 then some (.getfield 24, 80, 2, 8, 2, 0, 0) else none
  else bif Nat.blt pc 81 then bif Nat.beq pc 80 then some (.aload_n 0, 81, 0, 0, 0, 0, 0) else none
  else bif Nat.blt pc 84 then bif Nat.beq pc 81 then some (.getfield 24, 84, 2, 8, 2, 0, 0) else none
  else bif Nat.beq pc 84 then some (.invokestatic 43, 87, 108, 2, 99, 0, 0) else none
  else bif Nat.blt pc 92 then bif Nat.blt pc 88 then bif Nat.beq pc 87 then some (.aload_n 1, 88, 1, 0, 0, 0, 0) else none
  else bif Nat.blt pc 91 then bif Nat.beq pc 88 then some (.getfield 27, 91, 2, 9, 2, 0, 0) else none
  else bif Nat.beq pc 91 then some (.aload_n 0, 92, 0, 0, 0, 0, 0) else none
  else bif Nat.blt pc 95 then bif Nat.beq pc 92 then some (.getfield 27, 95, 2, 9, 2, 0, 0) else none
  else bif Nat.blt pc 98 then bif Nat.beq pc 95 then some (.invokestatic 43, 98, 108, 2, 99, 0, 0) else none
  else bif Nat.beq pc 98 then some (.return_, 99, 0, 0, 0, 0, 0) else none
def rs_X2_copyFrom : PMR := (0, 0, hdl [], 2)
def mi_X2_copyFrom : PMI := wrapM 99 cd_X2_copyFrom rs_X2_copyFrom
def cd_X2_addEdge (pc : Nat) : Option PE :=
  bif Nat.blt pc 29 then bif Nat.blt pc 16 then bif Nat.blt pc 9 then bif Nat.blt pc 4 then bif Nat.blt pc 1 then bif Nat.beq pc 0 then some (.aload_n 0, 1, 0, 0, 0, 0, 0) else none
  else bif Nat.beq pc 1 then some (.getfield 37, 4, 2, 2, 0, 0, 0) else none
  else bif Nat.blt pc 6 then bif Nat.beq pc 4 then some (.bipush 14, 6, 0, 0, 0, 14, 0) else none
  else bif Nat.beq pc 6 then some (.if_icmp .lt 4, 9, 10, 0, 0, 0, 0) else none
  else bif Nat.blt pc 11 then bif Nat.blt pc 10 then bif Nat.beq pc 9 then some (.return_, 10, 0, 0, 0, 0, 0) else none
  else bif Nat.beq pc 10 then some (.aload_n 0, 11, 0, 0, 0, 0, 0) else none
  else bif Nat.blt pc 12 then bif Nat.beq pc 11 then some (.iconst 2, 12, 0, 0, 0, 2, 0) else none
  else bif Nat.blt pc 13 then bif Nat.beq pc 12 then some (.aload_n 0, 13, 0, 0, 0, 0, 0) else none
  else bif Nat.beq pc 13 then some (.getfield 37, 16, 2, 2, 0, 0, 0) else none
  else bif Nat.blt pc 22 then bif Nat.blt pc 18 then bif Nat.blt pc 17 then bif Nat.beq pc 16 then some (.imul, 17, 0, 0, 0, 0, 0) else none
  else bif Nat.beq pc 17 then some (.iload_n 1, 18, 1, 0, 0, 0, 0) else none
  else bif Nat.blt pc 19 then bif Nat.beq pc 18 then some (.iload_n 3, 19, 3, 0, 0, 0, 0) else none
  else bif Nat.beq pc 19 then some (.invokevirtual 47, 22, 11, 4, 2, 0, 0) else none
  else bif Nat.blt pc 24 then bif Nat.blt pc 23 then bif Nat.beq pc 22 then some (.aload_n 0, 23, 0, 0, 0, 0, 0) else none
  else bif Nat.beq pc 23 then some (.iconst 2, 24, 0, 0, 0, 2, 0) else none
  else bif Nat.blt pc 25 then bif Nat.beq pc 24 then some (.aload_n 0, 25, 0, 0, 0, 0, 0) else none
  else bif Nat.blt pc 28 then bif Nat.beq pc 25 then some (.getfield 37, 28, 2, 2, 0, 0, 0) else none
  else bif Nat.beq pc 28 then some (.imul, 29, 0, 0, 0, 0, 0) else none
  else bif Nat.blt pc 45 then bif Nat.blt pc 34 then bif Nat.blt pc 31 then bif Nat.blt pc 30 then bif Nat.beq pc 29 then some (.iconst 1, 30, 0, 0, 0, 1, 0) else none
  else bif Nat.beq pc 30 then some (.iadd, 31, 0, 0, 0, 0, 0) else none
  else bif Nat.blt pc 32 then bif Nat.beq pc 31 then some (.iload_n 2, 32, 2, 0, 0, 0, 0) else none
  else bif Nat.beq pc 32 then some (.iload 4, 34, 4, 0, 0, 0, 0) else none
  else bif Nat.blt pc 38 then bif Nat.blt pc 37 then bif Nat.beq pc 34 then some (.invokevirtual 47, 37, 11, 4, 2, 0, 0) else none
  else bif Nat.beq pc 37 then some (.aload_n 0, 38, 0, 0, 0, 0, 0) else none
  else bif Nat.blt pc 41 then bif Nat.beq pc 38 then some (.getfield 24, 41, 2, 8, 2, 0, 0) else none
  else bif Nat.blt pc 42 then bif Nat.beq pc 41 then some (.aload_n 0, 42, 0, 0, 0, 0, 0) else none
  else bif Nat.beq pc 42 then some (.getfield 37, 45, 2, 2, 0, 0, 0) else none
  else bif Nat.blt pc 52 then bif Nat.blt pc 50 then bif Nat.blt pc 47 then bif Nat.beq pc 45 then some (.iload 5, 47, 5, 0, 0, 0, 0) else none
  else bif Nat.beq pc 47 then some (.invokestatic 51, 50, 107, 3, 99, 0, 0) else none
  else bif Nat.blt pc 51 then bif Nat.beq pc 50 then some (.aload_n 0, 51, 0, 0, 0, 0, 0) else none
  else bif Nat.beq pc 51 then some (.dup, 52, 0, 0, 0, 0, 0) else none
  else bif Nat.blt pc 56 then bif Nat.blt pc 55 then bif Nat.beq pc 52 then some (.getfield 37, 55, 2, 2, 0, 0, 0) else none
  else bif Nat.beq pc 55 then some (.iconst 1, 56, 0, 0, 0, 1, 0) else none
  else bif Nat.blt pc 57 then bif Nat.beq pc 56 then some (.iadd, 57, 0, 0, 0, 0, 0) else none
  else bif Nat.blt pc 60 then bif Nat.beq pc 57 then some (.putfield 37, 60, 2, 2, 0, 0, 0) else none
  else bif Nat.beq pc 60 then some (.return_, 61, 0, 0, 0, 0, 0) else none
def rs_X2_addEdge : PMR := (0, 0, hdl [], 6)
def mi_X2_addEdge : PMI := wrapM 61 cd_X2_addEdge rs_X2_addEdge
def cd_X2_putArc (pc : Nat) : Option PE :=
  bif Nat.blt pc 18 then bif Nat.blt pc 9 then bif Nat.blt pc 4 then bif Nat.blt pc 1 then bif Nat.beq pc 0 then some (.aload_n 0, 1, 0, 0, 0, 0, 0) else none
  else bif Nat.beq pc 1 then some (.getfield 9, 4, 2, 4, 2, 0, 0) else none
  else bif Nat.blt pc 5 then bif Nat.beq pc 4 then some (.iload_n 1, 5, 1, 0, 0, 0, 0) else none
  else bif Nat.blt pc 6 then bif Nat.beq pc 5 then some (.iload_n 2, 6, 2, 0, 0, 0, 0) else none
  else bif Nat.beq pc 6 then some (.invokestatic 51, 9, 107, 3, 99, 0, 0) else none
  else bif Nat.blt pc 13 then bif Nat.blt pc 10 then bif Nat.beq pc 9 then some (.aload_n 0, 10, 0, 0, 0, 0, 0) else none
  else bif Nat.beq pc 10 then some (.getfield 15, 13, 2, 5, 2, 0, 0) else none
  else bif Nat.blt pc 14 then bif Nat.beq pc 13 then some (.iload_n 1, 14, 1, 0, 0, 0, 0) else none
  else bif Nat.blt pc 15 then bif Nat.beq pc 14 then some (.iload_n 3, 15, 3, 0, 0, 0, 0) else none
  else bif Nat.beq pc 15 then some (.invokestatic 51, 18, 107, 3, 99, 0, 0) else none
  else bif Nat.blt pc 27 then bif Nat.blt pc 22 then bif Nat.blt pc 19 then bif Nat.beq pc 18 then some (.aload_n 0, 19, 0, 0, 0, 0, 0) else none
  else bif Nat.beq pc 19 then some (.getfield 18, 22, 2, 6, 2, 0, 0) else none
  else bif Nat.blt pc 23 then bif Nat.beq pc 22 then some (.iload_n 1, 23, 1, 0, 0, 0, 0) else none
  else bif Nat.blt pc 24 then bif Nat.beq pc 23 then some (.iload_n 3, 24, 3, 0, 0, 0, 0) else none
  else bif Nat.beq pc 24 then some (.invokestatic 51, 27, 107, 3, 99, 0, 0) else none
  else bif Nat.blt pc 32 then bif Nat.blt pc 28 then bif Nat.beq pc 27 then some (.aload_n 0, 28, 0, 0, 0, 0, 0) else none
  else bif Nat.blt pc 31 then bif Nat.beq pc 28 then some (.getfield 21, 31, 2, 7, 2, 0, 0) else none
  else bif Nat.beq pc 31 then some (.iload_n 1, 32, 1, 0, 0, 0, 0) else none
  else bif Nat.blt pc 33 then bif Nat.beq pc 32 then some (.iconst 0, 33, 0, 0, 0, 0, 0) else none
  else bif Nat.blt pc 36 then bif Nat.beq pc 33 then some (.invokestatic 51, 36, 107, 3, 99, 0, 0) else none
  else bif Nat.beq pc 36 then some (.return_, 37, 0, 0, 0, 0, 0) else none
def rs_X2_putArc : PMR := (0, 0, hdl [], 4)
def mi_X2_putArc : PMI := wrapM 37 cd_X2_putArc rs_X2_putArc
def cd_X2_addDepot (pc : Nat) : Option PE :=
  bif Nat.blt pc 17 then bif Nat.blt pc 8 then bif Nat.blt pc 4 then bif Nat.blt pc 1 then bif Nat.beq pc 0 then some (.aload_n 0, 1, 0, 0, 0, 0, 0) else none
  else bif Nat.beq pc 1 then some (.getfield 40, 4, 2, 3, 0, 0, 0) else none
  else bif Nat.blt pc 5 then bif Nat.beq pc 4 then some (.iconst 3, 5, 0, 0, 0, 3, 0) else none
  else bif Nat.beq pc 5 then some (.if_icmp .lt 4, 8, 9, 0, 0, 0, 0) else none
  else bif Nat.blt pc 10 then bif Nat.blt pc 9 then bif Nat.beq pc 8 then some (.return_, 9, 0, 0, 0, 0, 0) else none
  else bif Nat.beq pc 9 then some (.aload_n 0, 10, 0, 0, 0, 0, 0) else none
  else bif Nat.blt pc 13 then bif Nat.beq pc 10 then some (.getfield 27, 13, 2, 9, 2, 0, 0) else none
  else bif Nat.blt pc 14 then bif Nat.beq pc 13 then some (.aload_n 0, 14, 0, 0, 0, 0, 0) else none
  else bif Nat.beq pc 14 then some (.getfield 40, 17, 2, 3, 0, 0, 0) else none
  else bif Nat.blt pc 23 then bif Nat.blt pc 21 then bif Nat.blt pc 18 then bif Nat.beq pc 17 then some (.iload_n 1, 18, 1, 0, 0, 0, 0) else none
  else bif Nat.beq pc 18 then some (.invokestatic 51, 21, 107, 3, 99, 0, 0) else none
  else bif Nat.blt pc 22 then bif Nat.beq pc 21 then some (.aload_n 0, 22, 0, 0, 0, 0, 0) else none
  else bif Nat.beq pc 22 then some (.dup, 23, 0, 0, 0, 0, 0) else none
  else bif Nat.blt pc 27 then bif Nat.blt pc 26 then bif Nat.beq pc 23 then some (.getfield 40, 26, 2, 3, 0, 0, 0) else none
  else bif Nat.beq pc 26 then some (.iconst 1, 27, 0, 0, 0, 1, 0) else none
  else bif Nat.blt pc 28 then bif Nat.beq pc 27 then some (.iadd, 28, 0, 0, 0, 0, 0) else none
  else bif Nat.blt pc 31 then bif Nat.beq pc 28 then some (.putfield 40, 31, 2, 3, 0, 0, 0) else none
  else bif Nat.beq pc 31 then some (.return_, 32, 0, 0, 0, 0, 0) else none
def rs_X2_addDepot : PMR := (0, 0, hdl [], 2)
def mi_X2_addDepot : PMI := wrapM 32 cd_X2_addDepot rs_X2_addDepot
def cd_X2_banTurn (pc : Nat) : Option PE :=
  bif Nat.blt pc 21 then bif Nat.blt pc 11 then bif Nat.blt pc 3 then bif Nat.blt pc 1 then bif Nat.beq pc 0 then some (.aload_n 0, 1, 0, 0, 0, 0, 0) else none
  else bif Nat.blt pc 2 then bif Nat.beq pc 1 then some (.iconst 2, 2, 0, 0, 0, 2, 0) else none
  else bif Nat.beq pc 2 then some (.iload_n 2, 3, 2, 0, 0, 0, 0) else none
  else bif Nat.blt pc 7 then bif Nat.blt pc 4 then bif Nat.beq pc 3 then some (.imul, 4, 0, 0, 0, 0, 0) else none
  else bif Nat.beq pc 4 then some (.invokevirtual 55, 7, 15, 2, 2, 0, 0) else none
  else bif Nat.blt pc 8 then bif Nat.beq pc 7 then some (.iload_n 1, 8, 1, 0, 0, 0, 0) else none
  else bif Nat.beq pc 8 then some (.if_icmp .ne 9, 11, 17, 0, 0, 0, 0) else none
  else bif Nat.blt pc 17 then bif Nat.blt pc 13 then bif Nat.blt pc 12 then bif Nat.beq pc 11 then some (.iconst 2, 12, 0, 0, 0, 2, 0) else none
  else bif Nat.beq pc 12 then some (.iload_n 2, 13, 2, 0, 0, 0, 0) else none
  else bif Nat.blt pc 14 then bif Nat.beq pc 13 then some (.imul, 14, 0, 0, 0, 0, 0) else none
  else bif Nat.beq pc 14 then some (.goto 8, 17, 22, 0, 0, 0, 0) else none
  else bif Nat.blt pc 19 then bif Nat.blt pc 18 then bif Nat.beq pc 17 then some (.iconst 2, 18, 0, 0, 0, 2, 0) else none
  else bif Nat.beq pc 18 then some (.iload_n 2, 19, 2, 0, 0, 0, 0) else none
  else bif Nat.blt pc 20 then bif Nat.beq pc 19 then some (.imul, 20, 0, 0, 0, 0, 0) else none
  else bif Nat.beq pc 20 then some (.iconst 1, 21, 0, 0, 0, 1, 0) else none
  else bif Nat.blt pc 34 then bif Nat.blt pc 25 then bif Nat.blt pc 22 then bif Nat.beq pc 21 then some (.iadd, 22, 0, 0, 0, 0, 0) else none
  else bif Nat.blt pc 24 then bif Nat.beq pc 22 then some (.istore 4, 24, 4, 0, 0, 0, 0) else none
  else bif Nat.beq pc 24 then some (.aload_n 0, 25, 0, 0, 0, 0, 0) else none
  else bif Nat.blt pc 30 then bif Nat.blt pc 28 then bif Nat.beq pc 25 then some (.getfield 21, 28, 2, 7, 2, 0, 0) else none
  else bif Nat.beq pc 28 then some (.iload 4, 30, 4, 0, 0, 0, 0) else none
  else bif Nat.blt pc 31 then bif Nat.beq pc 30 then some (.aload_n 0, 31, 0, 0, 0, 0, 0) else none
  else bif Nat.beq pc 31 then some (.getfield 21, 34, 2, 7, 2, 0, 0) else none
  else bif Nat.blt pc 41 then bif Nat.blt pc 39 then bif Nat.blt pc 36 then bif Nat.beq pc 34 then some (.iload 4, 36, 4, 0, 0, 0, 0) else none
  else bif Nat.beq pc 36 then some (.invokestatic 59, 39, 106, 2, 99, 0, 0) else none
  else bif Nat.blt pc 40 then bif Nat.beq pc 39 then some (.iconst 1, 40, 0, 0, 0, 1, 0) else none
  else bif Nat.beq pc 40 then some (.iload_n 3, 41, 3, 0, 0, 0, 0) else none
  else bif Nat.blt pc 43 then bif Nat.blt pc 42 then bif Nat.beq pc 41 then some (.ishl, 42, 0, 0, 0, 0, 0) else none
  else bif Nat.beq pc 42 then some (.ior, 43, 0, 0, 0, 0, 0) else none
  else bif Nat.blt pc 46 then bif Nat.beq pc 43 then some (.invokestatic 51, 46, 107, 3, 99, 0, 0) else none
  else bif Nat.beq pc 46 then some (.return_, 47, 0, 0, 0, 0, 0) else none
def rs_X2_banTurn : PMR := (0, 0, hdl [], 5)
def mi_X2_banTurn : PMI := wrapM 47 cd_X2_banTurn rs_X2_banTurn
def cd_X2_start (pc : Nat) : Option PE :=
  bif Nat.blt pc 4 then bif Nat.blt pc 1 then bif Nat.beq pc 0 then some (.aload_n 0, 1, 0, 0, 0, 0, 0) else none
  else bif Nat.beq pc 1 then some (.getfield 9, 4, 2, 4, 2, 0, 0) else none
  else bif Nat.blt pc 5 then bif Nat.beq pc 4 then some (.iload_n 1, 5, 1, 0, 0, 0, 0) else none
  else bif Nat.blt pc 8 then bif Nat.beq pc 5 then some (.invokestatic 59, 8, 106, 2, 99, 0, 0) else none
  else bif Nat.beq pc 8 then some (.ireturn, 9, 0, 0, 0, 0, 0) else none
def rs_X2_start : PMR := (1, 0, hdl [], 2)
def mi_X2_start : PMI := wrapM 9 cd_X2_start rs_X2_start
def cd_X2_end (pc : Nat) : Option PE :=
  bif Nat.blt pc 5 then bif Nat.blt pc 1 then bif Nat.beq pc 0 then some (.aload_n 0, 1, 0, 0, 0, 0, 0) else none
  else bif Nat.blt pc 4 then bif Nat.beq pc 1 then some (.getfield 9, 4, 2, 4, 2, 0, 0) else none
  else bif Nat.beq pc 4 then some (.iload_n 1, 5, 1, 0, 0, 0, 0) else none
  else bif Nat.blt pc 7 then bif Nat.blt pc 6 then bif Nat.beq pc 5 then some (.iconst 1, 6, 0, 0, 0, 1, 0) else none
  else bif Nat.beq pc 6 then some (.ixor, 7, 0, 0, 0, 0, 0) else none
  else bif Nat.blt pc 10 then bif Nat.beq pc 7 then some (.invokestatic 59, 10, 106, 2, 99, 0, 0) else none
  else bif Nat.beq pc 10 then some (.ireturn, 11, 0, 0, 0, 0, 0) else none
def rs_X2_end : PMR := (1, 0, hdl [], 2)
def mi_X2_end : PMI := wrapM 11 cd_X2_end rs_X2_end
def cd_X2_touches (pc : Nat) : Option PE :=
  bif Nat.blt pc 13 then bif Nat.blt pc 4 then bif Nat.blt pc 2 then bif Nat.blt pc 1 then bif Nat.beq pc 0 then some (.aload_n 0, 1, 0, 0, 0, 0, 0) else none
  else bif Nat.beq pc 1 then some (.iconst 2, 2, 0, 0, 0, 2, 0) else none
  else bif Nat.blt pc 3 then bif Nat.beq pc 2 then some (.iload_n 1, 3, 1, 0, 0, 0, 0) else none
  else bif Nat.beq pc 3 then some (.imul, 4, 0, 0, 0, 0, 0) else none
  else bif Nat.blt pc 8 then bif Nat.blt pc 7 then bif Nat.beq pc 4 then some (.invokevirtual 63, 7, 14, 2, 2, 0, 0) else none
  else bif Nat.beq pc 7 then some (.iload_n 2, 8, 2, 0, 0, 0, 0) else none
  else bif Nat.blt pc 11 then bif Nat.beq pc 8 then some (.if_icmp .eq 14, 11, 22, 0, 0, 0, 0) else none
  else bif Nat.blt pc 12 then bif Nat.beq pc 11 then some (.aload_n 0, 12, 0, 0, 0, 0, 0) else none
  else bif Nat.beq pc 12 then some (.iconst 2, 13, 0, 0, 0, 2, 0) else none
  else bif Nat.blt pc 19 then bif Nat.blt pc 15 then bif Nat.blt pc 14 then bif Nat.beq pc 13 then some (.iload_n 1, 14, 1, 0, 0, 0, 0) else none
  else bif Nat.beq pc 14 then some (.imul, 15, 0, 0, 0, 0, 0) else none
  else bif Nat.blt pc 18 then bif Nat.beq pc 15 then some (.invokevirtual 55, 18, 15, 2, 2, 0, 0) else none
  else bif Nat.beq pc 18 then some (.iload_n 2, 19, 2, 0, 0, 0, 0) else none
  else bif Nat.blt pc 23 then bif Nat.blt pc 22 then bif Nat.beq pc 19 then some (.if_icmp .ne 7, 22, 26, 0, 0, 0, 0) else none
  else bif Nat.beq pc 22 then some (.iconst 1, 23, 0, 0, 0, 1, 0) else none
  else bif Nat.blt pc 26 then bif Nat.beq pc 23 then some (.goto 4, 26, 27, 0, 0, 0, 0) else none
  else bif Nat.blt pc 27 then bif Nat.beq pc 26 then some (.iconst 0, 27, 0, 0, 0, 0, 0) else none
  else bif Nat.beq pc 27 then some (.ireturn, 28, 0, 0, 0, 0, 0) else none
def rs_X2_touches : PMR := (2, 0, hdl [], 3)
def mi_X2_touches : PMI := wrapM 28 cd_X2_touches rs_X2_touches
def cd_X2_allowsTurn (pc : Nat) : Option PE :=
  bif Nat.blt pc 21 then bif Nat.blt pc 7 then bif Nat.blt pc 2 then bif Nat.blt pc 1 then bif Nat.beq pc 0 then some (.aload_n 0, 1, 0, 0, 0, 0, 0) else none
  else bif Nat.beq pc 1 then some (.iload_n 1, 2, 1, 0, 0, 0, 0) else none
  else bif Nat.blt pc 5 then bif Nat.beq pc 2 then some (.invokevirtual 55, 5, 15, 2, 2, 0, 0) else none
  else bif Nat.blt pc 6 then bif Nat.beq pc 5 then some (.aload_n 0, 6, 0, 0, 0, 0, 0) else none
  else bif Nat.beq pc 6 then some (.iload_n 2, 7, 2, 0, 0, 0, 0) else none
  else bif Nat.blt pc 14 then bif Nat.blt pc 10 then bif Nat.beq pc 7 then some (.invokevirtual 63, 10, 14, 2, 2, 0, 0) else none
  else bif Nat.blt pc 13 then bif Nat.beq pc 10 then some (.if_icmp .ne 24, 13, 34, 0, 0, 0, 0) else none
  else bif Nat.beq pc 13 then some (.aload_n 0, 14, 0, 0, 0, 0, 0) else none
  else bif Nat.blt pc 17 then bif Nat.beq pc 14 then some (.getfield 21, 17, 2, 7, 2, 0, 0) else none
  else bif Nat.blt pc 18 then bif Nat.beq pc 17 then some (.iload_n 1, 18, 1, 0, 0, 0, 0) else none
  else bif Nat.beq pc 18 then some (.invokestatic 59, 21, 106, 2, 99, 0, 0) else none
  else bif Nat.blt pc 26 then bif Nat.blt pc 23 then bif Nat.blt pc 22 then bif Nat.beq pc 21 then some (.iload_n 2, 22, 2, 0, 0, 0, 0) else none
  else bif Nat.beq pc 22 then some (.iconst 2, 23, 0, 0, 0, 2, 0) else none
  else bif Nat.blt pc 24 then bif Nat.beq pc 23 then some (.idiv, 24, 0, 0, 0, 0, 0) else none
  else bif Nat.blt pc 25 then bif Nat.beq pc 24 then some (.ishr, 25, 0, 0, 0, 0, 0) else none
  else bif Nat.beq pc 25 then some (.iconst 1, 26, 0, 0, 0, 1, 0) else none
  else bif Nat.blt pc 31 then bif Nat.blt pc 27 then bif Nat.beq pc 26 then some (.iand, 27, 0, 0, 0, 0, 0) else none
  else bif Nat.blt pc 30 then bif Nat.beq pc 27 then some (.ifCond .ne 7, 30, 34, 0, 0, 0, 0) else none
  else bif Nat.beq pc 30 then some (.iconst 1, 31, 0, 0, 0, 1, 0) else none
  else bif Nat.blt pc 34 then bif Nat.beq pc 31 then some (.goto 4, 34, 35, 0, 0, 0, 0) else none
  else bif Nat.blt pc 35 then bif Nat.beq pc 34 then some (.iconst 0, 35, 0, 0, 0, 0, 0) else none
  else bif Nat.beq pc 35 then some (.ireturn, 36, 0, 0, 0, 0, 0) else none
def rs_X2_allowsTurn : PMR := (2, 0, hdl [], 3)
def mi_X2_allowsTurn : PMI := wrapM 36 cd_X2_allowsTurn rs_X2_allowsTurn
def cd_X2_oddSet (pc : Nat) : Option PE :=
  bif Nat.blt pc 28 then bif Nat.blt pc 13 then bif Nat.blt pc 4 then bif Nat.blt pc 2 then bif Nat.blt pc 1 then bif Nat.beq pc 0 then some (.iconst 0, 1, 0, 0, 0, 0, 0) else none
  else bif Nat.beq pc 1 then some (.istore_n 1, 2, 1, 0, 0, 0, 0) else none
  else bif Nat.blt pc 3 then bif Nat.beq pc 2 then some (.iconst 0, 3, 0, 0, 0, 0, 0) else none
  else bif Nat.beq pc 3 then some (.istore_n 2, 4, 2, 0, 0, 0, 0) else none
  else bif Nat.blt pc 6 then bif Nat.blt pc 5 then bif Nat.beq pc 4 then some (.iload_n 2, 5, 2, 0, 0, 0, 0) else none
  else bif Nat.beq pc 5 then some (.aload_n 0, 6, 0, 0, 0, 0, 0) else none
  else bif Nat.blt pc 9 then bif Nat.beq pc 6 then some (.getfield 37, 9, 2, 2, 0, 0, 0) else none
  else bif Nat.blt pc 12 then bif Nat.beq pc 9 then some (.if_icmp .ge 44, 12, 53, 0, 0, 0, 0) else none
  else bif Nat.beq pc 12 then some (.aload_n 0, 13, 0, 0, 0, 0, 0) else none
  else bif Nat.blt pc 23 then bif Nat.blt pc 17 then bif Nat.blt pc 16 then bif Nat.beq pc 13 then some (.getfield 24, 16, 2, 8, 2, 0, 0) else none
  else bif Nat.beq pc 16 then some (.iload_n 2, 17, 2, 0, 0, 0, 0) else none
  else bif Nat.blt pc 20 then bif Nat.beq pc 17 then some (.invokestatic 59, 20, 106, 2, 99, 0, 0) else none
  else bif Nat.beq pc 20 then some (.ifCond .le 27, 23, 47, 0, 0, 0, 0) else none
  else bif Nat.blt pc 25 then bif Nat.blt pc 24 then bif Nat.beq pc 23 then some (.iload_n 1, 24, 1, 0, 0, 0, 0) else none
  else bif Nat.beq pc 24 then some (.iconst 1, 25, 0, 0, 0, 1, 0) else none
  else bif Nat.blt pc 26 then bif Nat.beq pc 25 then some (.aload_n 0, 26, 0, 0, 0, 0, 0) else none
  else bif Nat.blt pc 27 then bif Nat.beq pc 26 then some (.iconst 2, 27, 0, 0, 0, 2, 0) else none
  else bif Nat.beq pc 27 then some (.iload_n 2, 28, 2, 0, 0, 0, 0) else none
  else bif Nat.blt pc 39 then bif Nat.blt pc 34 then bif Nat.blt pc 32 then bif Nat.blt pc 29 then bif Nat.beq pc 28 then some (.imul, 29, 0, 0, 0, 0, 0) else none
  else bif Nat.beq pc 29 then some (.invokevirtual 63, 32, 14, 2, 2, 0, 0) else none
  else bif Nat.blt pc 33 then bif Nat.beq pc 32 then some (.ishl, 33, 0, 0, 0, 0, 0) else none
  else bif Nat.beq pc 33 then some (.ixor, 34, 0, 0, 0, 0, 0) else none
  else bif Nat.blt pc 36 then bif Nat.blt pc 35 then bif Nat.beq pc 34 then some (.istore_n 1, 35, 1, 0, 0, 0, 0) else none
  else bif Nat.beq pc 35 then some (.iload_n 1, 36, 1, 0, 0, 0, 0) else none
  else bif Nat.blt pc 37 then bif Nat.beq pc 36 then some (.iconst 1, 37, 0, 0, 0, 1, 0) else none
  else bif Nat.blt pc 38 then bif Nat.beq pc 37 then some (.aload_n 0, 38, 0, 0, 0, 0, 0) else none
  else bif Nat.beq pc 38 then some (.iconst 2, 39, 0, 0, 0, 2, 0) else none
  else bif Nat.blt pc 46 then bif Nat.blt pc 41 then bif Nat.blt pc 40 then bif Nat.beq pc 39 then some (.iload_n 2, 40, 2, 0, 0, 0, 0) else none
  else bif Nat.beq pc 40 then some (.imul, 41, 0, 0, 0, 0, 0) else none
  else bif Nat.blt pc 44 then bif Nat.beq pc 41 then some (.invokevirtual 55, 44, 15, 2, 2, 0, 0) else none
  else bif Nat.blt pc 45 then bif Nat.beq pc 44 then some (.ishl, 45, 0, 0, 0, 0, 0) else none
  else bif Nat.beq pc 45 then some (.ixor, 46, 0, 0, 0, 0, 0) else none
  else bif Nat.blt pc 50 then bif Nat.blt pc 47 then bif Nat.beq pc 46 then some (.istore_n 1, 47, 1, 0, 0, 0, 0) else none
  else bif Nat.beq pc 47 then some (.iinc 2 1, 50, 2, 0, 0, 1, 0) else none
  else bif Nat.blt pc 53 then bif Nat.beq pc 50 then some (.goto (-46), 53, 4, 0, 0, 0, 0) else none
  else bif Nat.blt pc 54 then bif Nat.beq pc 53 then some (.iload_n 1, 54, 1, 0, 0, 0, 0) else none
  else bif Nat.beq pc 54 then some (.ireturn, 55, 0, 0, 0, 0, 0) else none
def rs_X2_oddSet : PMR := (1, 0, hdl [], 3)
def mi_X2_oddSet : PMI := wrapM 55 cd_X2_oddSet rs_X2_oddSet
def cd_X3_clear (pc : Nat) : Option PE :=
  bif Nat.blt pc 2 then bif Nat.blt pc 1 then bif Nat.beq pc 0 then some (.aload_n 0, 1, 0, 0, 0, 0, 0) else none
  else bif Nat.beq pc 1 then some (.iconst 0, 2, 0, 0, 0, 0, 0) else none
  else bif Nat.blt pc 5 then bif Nat.beq pc 2 then some (.putfield 21, 5, 3, 0, 0, 0, 0) else none
  else bif Nat.beq pc 5 then some (.return_, 6, 0, 0, 0, 0, 0) else none
def rs_X3_clear : PMR := (0, 0, hdl [], 1)
def mi_X3_clear : PMI := wrapM 6 cd_X3_clear rs_X3_clear
def cd_X3_copyFrom (pc : Nat) : Option PE :=
  bif Nat.blt pc 20 then bif Nat.blt pc 9 then bif Nat.blt pc 2 then bif Nat.blt pc 1 then bif Nat.beq pc 0 then some (.aload_n 0, 1, 0, 0, 0, 0, 0) else none
  else bif Nat.beq pc 1 then some (.aload_n 1, 2, 1, 0, 0, 0, 0) else none
  else bif Nat.blt pc 5 then bif Nat.beq pc 2 then some (.getfield 21, 5, 3, 0, 0, 0, 0) else none
  else bif Nat.blt pc 8 then bif Nat.beq pc 5 then some (.putfield 21, 8, 3, 0, 0, 0, 0) else none
  else bif Nat.beq pc 8 then some (.aload_n 1, 9, 1, 0, 0, 0, 0) else none
  else bif Nat.blt pc 13 then bif Nat.blt pc 12 then bif Nat.beq pc 9 then some (.getfield 9, 12, 3, 1, 2, 0, 0) else none
  else bif Nat.beq pc 12 then some (.aload_n 0, 13, 0, 0, 0, 0, 0) else none
  else bif Nat.blt pc 16 then bif Nat.beq pc 13 then some (.getfield 9, 16, 3, 1, 2, 0, 0) else none
  else bif Nat.blt pc 19 then bif Nat.beq pc 16 then some (.invokestatic 25, 19, 108, 2, 99, 0, 0) else none
  else bif Nat.beq pc 19 then some (.aload_n 1, 20, 1, 0, 0, 0, 0) else none
  else bif Nat.blt pc 31 then bif Nat.blt pc 24 then bif Nat.blt pc 23 then bif Nat.beq pc 20 then some (.getfield 15, 23, 3, 2, 2, 0, 0) else none
  else bif Nat.beq pc 23 then some (.aload_n 0, 24, 0, 0, 0, 0, 0) else none
  else bif Nat.blt pc 27 then bif Nat.beq pc 24 then some (.getfield 15, 27, 3, 2, 2, 0, 0) else none
  else bif Nat.blt pc 30 then bif Nat.beq pc 27 then some (.invokestatic 25, 30, 108, 2, 99, 0, 0) else none
  else bif Nat.beq pc 30 then some (.aload_n 1, 31, 1, 0, 0, 0, 0) else none
  else bif Nat.blt pc 35 then bif Nat.blt pc 34 then bif Nat.beq pc 31 then some (.getfield 18, 34, 3, 3, 2, 0, 0) else none
  else bif Nat.beq pc 34 then some (.aload_n 0, 35, 0, 0, 0, 0, 0) else none
  else bif Nat.blt pc 38 then bif Nat.beq pc 35 then some (.getfield 18, 38, 3, 3, 2, 0, 0) else none
  else bif Nat.blt pc 41 then bif Nat.beq pc 38 then some (.invokestatic 25, 41, 108, 2, 99, 0, 0) else none
  else bif Nat.beq pc 41 then some (.return_, 42, 0, 0, 0, 0, 0) else none
def rs_X3_copyFrom : PMR := (0, 0, hdl [], 2)
def mi_X3_copyFrom : PMI := wrapM 42 cd_X3_copyFrom rs_X3_copyFrom
def cd_X3_addTour (pc : Nat) : Option PE :=
  bif Nat.blt pc 18 then bif Nat.blt pc 9 then bif Nat.blt pc 4 then bif Nat.blt pc 1 then bif Nat.beq pc 0 then some (.aload_n 0, 1, 0, 0, 0, 0, 0) else none
  else bif Nat.beq pc 1 then some (.getfield 21, 4, 3, 0, 0, 0, 0) else none
  else bif Nat.blt pc 5 then bif Nat.beq pc 4 then some (.istore_n 2, 5, 2, 0, 0, 0, 0) else none
  else bif Nat.blt pc 6 then bif Nat.beq pc 5 then some (.aload_n 0, 6, 0, 0, 0, 0, 0) else none
  else bif Nat.beq pc 6 then some (.getfield 9, 9, 3, 1, 2, 0, 0) else none
  else bif Nat.blt pc 11 then bif Nat.blt pc 10 then bif Nat.beq pc 9 then some (.iload_n 2, 10, 2, 0, 0, 0, 0) else none
  else bif Nat.beq pc 10 then some (.iload_n 1, 11, 1, 0, 0, 0, 0) else none
  else bif Nat.blt pc 14 then bif Nat.beq pc 11 then some (.invokestatic 29, 14, 107, 3, 99, 0, 0) else none
  else bif Nat.blt pc 15 then bif Nat.beq pc 14 then some (.aload_n 0, 15, 0, 0, 0, 0, 0) else none
  else bif Nat.beq pc 15 then some (.getfield 15, 18, 3, 2, 2, 0, 0) else none
  else bif Nat.blt pc 25 then bif Nat.blt pc 20 then bif Nat.blt pc 19 then bif Nat.beq pc 18 then some (.iload_n 2, 19, 2, 0, 0, 0, 0) else none
  else bif Nat.beq pc 19 then some (.iconst 0, 20, 0, 0, 0, 0, 0) else none
  else bif Nat.blt pc 23 then bif Nat.beq pc 20 then some (.invokestatic 29, 23, 107, 3, 99, 0, 0) else none
  else bif Nat.blt pc 24 then bif Nat.beq pc 23 then some (.aload_n 0, 24, 0, 0, 0, 0, 0) else none
  else bif Nat.beq pc 24 then some (.dup, 25, 0, 0, 0, 0, 0) else none
  else bif Nat.blt pc 30 then bif Nat.blt pc 28 then bif Nat.beq pc 25 then some (.getfield 21, 28, 3, 0, 0, 0, 0) else none
  else bif Nat.blt pc 29 then bif Nat.beq pc 28 then some (.iconst 1, 29, 0, 0, 0, 1, 0) else none
  else bif Nat.beq pc 29 then some (.iadd, 30, 0, 0, 0, 0, 0) else none
  else bif Nat.blt pc 33 then bif Nat.beq pc 30 then some (.putfield 21, 33, 3, 0, 0, 0, 0) else none
  else bif Nat.blt pc 34 then bif Nat.beq pc 33 then some (.iload_n 2, 34, 2, 0, 0, 0, 0) else none
  else bif Nat.beq pc 34 then some (.ireturn, 35, 0, 0, 0, 0, 0) else none
def rs_X3_addTour : PMR := (1, 0, hdl [], 3)
def mi_X3_addTour : PMI := wrapM 35 cd_X3_addTour rs_X3_addTour
def cd_X3_arcOrDepot (pc : Nat) : Option PE :=
  bif Nat.blt pc 17 then bif Nat.blt pc 6 then bif Nat.blt pc 4 then bif Nat.blt pc 1 then bif Nat.beq pc 0 then some (.iload_n 2, 1, 2, 0, 0, 0, 0) else none
  else bif Nat.beq pc 1 then some (.ifCond .lt 15, 4, 16, 0, 0, 0, 0) else none
  else bif Nat.blt pc 5 then bif Nat.beq pc 4 then some (.iload_n 2, 5, 2, 0, 0, 0, 0) else none
  else bif Nat.beq pc 5 then some (.aload_n 0, 6, 0, 0, 0, 0, 0) else none
  else bif Nat.blt pc 10 then bif Nat.blt pc 9 then bif Nat.beq pc 6 then some (.getfield 15, 9, 3, 2, 2, 0, 0) else none
  else bif Nat.beq pc 9 then some (.iload_n 1, 10, 1, 0, 0, 0, 0) else none
  else bif Nat.blt pc 13 then bif Nat.beq pc 10 then some (.invokestatic 33, 13, 106, 2, 99, 0, 0) else none
  else bif Nat.blt pc 16 then bif Nat.beq pc 13 then some (.if_icmp .lt 5, 16, 18, 0, 0, 0, 0) else none
  else bif Nat.beq pc 16 then some (.iconst (-1), 17, 0, 0, 0, (-1), 0) else none
  else bif Nat.blt pc 25 then bif Nat.blt pc 19 then bif Nat.blt pc 18 then bif Nat.beq pc 17 then some (.ireturn, 18, 0, 0, 0, 0, 0) else none
  else bif Nat.beq pc 18 then some (.aload_n 0, 19, 0, 0, 0, 0, 0) else none
  else bif Nat.blt pc 22 then bif Nat.beq pc 19 then some (.getfield 18, 22, 3, 3, 2, 0, 0) else none
  else bif Nat.blt pc 23 then bif Nat.beq pc 22 then some (.iload_n 1, 23, 1, 0, 0, 0, 0) else none
  else bif Nat.beq pc 23 then some (.bipush 14, 25, 0, 0, 0, 14, 0) else none
  else bif Nat.blt pc 27 then bif Nat.blt pc 26 then bif Nat.beq pc 25 then some (.imul, 26, 0, 0, 0, 0, 0) else none
  else bif Nat.beq pc 26 then some (.iload_n 2, 27, 2, 0, 0, 0, 0) else none
  else bif Nat.blt pc 28 then bif Nat.beq pc 27 then some (.iadd, 28, 0, 0, 0, 0, 0) else none
  else bif Nat.blt pc 31 then bif Nat.beq pc 28 then some (.invokestatic 33, 31, 106, 2, 99, 0, 0) else none
  else bif Nat.beq pc 31 then some (.ireturn, 32, 0, 0, 0, 0, 0) else none
def rs_X3_arcOrDepot : PMR := (1, 0, hdl [], 3)
def mi_X3_arcOrDepot : PMI := wrapM 32 cd_X3_arcOrDepot rs_X3_arcOrDepot
def cd_X3_tourServing (pc : Nat) : Option PE :=
  bif Nat.blt pc 13 then bif Nat.blt pc 4 then bif Nat.blt pc 2 then bif Nat.blt pc 1 then bif Nat.beq pc 0 then some (.iconst 0, 1, 0, 0, 0, 0, 0) else none
  else bif Nat.beq pc 1 then some (.istore_n 2, 2, 2, 0, 0, 0, 0) else none
  else bif Nat.blt pc 3 then bif Nat.beq pc 2 then some (.iload_n 2, 3, 2, 0, 0, 0, 0) else none
  else bif Nat.beq pc 3 then some (.aload_n 0, 4, 0, 0, 0, 0, 0) else none
  else bif Nat.blt pc 10 then bif Nat.blt pc 7 then bif Nat.beq pc 4 then some (.getfield 21, 7, 3, 0, 0, 0, 0) else none
  else bif Nat.beq pc 7 then some (.if_icmp .ge 21, 10, 28, 0, 0, 0, 0) else none
  else bif Nat.blt pc 11 then bif Nat.beq pc 10 then some (.aload_n 0, 11, 0, 0, 0, 0, 0) else none
  else bif Nat.blt pc 12 then bif Nat.beq pc 11 then some (.iload_n 2, 12, 2, 0, 0, 0, 0) else none
  else bif Nat.beq pc 12 then some (.iload_n 1, 13, 1, 0, 0, 0, 0) else none
  else bif Nat.blt pc 21 then bif Nat.blt pc 17 then bif Nat.blt pc 16 then bif Nat.beq pc 13 then some (.invokevirtual 37, 16, 24, 3, 3, 0, 0) else none
  else bif Nat.beq pc 16 then some (.iconst (-1), 17, 0, 0, 0, (-1), 0) else none
  else bif Nat.blt pc 20 then bif Nat.beq pc 17 then some (.if_icmp .eq 5, 20, 22, 0, 0, 0, 0) else none
  else bif Nat.beq pc 20 then some (.iload_n 2, 21, 2, 0, 0, 0, 0) else none
  else bif Nat.blt pc 25 then bif Nat.blt pc 22 then bif Nat.beq pc 21 then some (.ireturn, 22, 0, 0, 0, 0, 0) else none
  else bif Nat.beq pc 22 then some (.iinc 2 1, 25, 2, 0, 0, 1, 0) else none
  else bif Nat.blt pc 28 then bif Nat.beq pc 25 then some (.goto (-23), 28, 2, 0, 0, 0, 0) else none
  else bif Nat.blt pc 29 then bif Nat.beq pc 28 then some (.iconst (-1), 29, 0, 0, 0, (-1), 0) else none
  else bif Nat.beq pc 29 then some (.ireturn, 30, 0, 0, 0, 0, 0) else none
def rs_X3_tourServing : PMR := (1, 0, hdl [], 3)
def mi_X3_tourServing : PMI := wrapM 30 cd_X3_tourServing rs_X3_tourServing
def cd_X3_positionIn (pc : Nat) : Option PE :=
  bif Nat.blt pc 25 then bif Nat.blt pc 12 then bif Nat.blt pc 5 then bif Nat.blt pc 1 then bif Nat.beq pc 0 then some (.aload_n 0, 1, 0, 0, 0, 0, 0) else none
  else bif Nat.blt pc 4 then bif Nat.beq pc 1 then some (.getfield 15, 4, 3, 2, 2, 0, 0) else none
  else bif Nat.beq pc 4 then some (.iload_n 1, 5, 1, 0, 0, 0, 0) else none
  else bif Nat.blt pc 9 then bif Nat.blt pc 8 then bif Nat.beq pc 5 then some (.invokestatic 33, 8, 106, 2, 99, 0, 0) else none
  else bif Nat.beq pc 8 then some (.istore_n 3, 9, 3, 0, 0, 0, 0) else none
  else bif Nat.blt pc 10 then bif Nat.beq pc 9 then some (.iconst 0, 10, 0, 0, 0, 0, 0) else none
  else bif Nat.beq pc 10 then some (.istore 4, 12, 4, 0, 0, 0, 0) else none
  else bif Nat.blt pc 18 then bif Nat.blt pc 14 then bif Nat.beq pc 12 then some (.iload 4, 14, 4, 0, 0, 0, 0) else none
  else bif Nat.blt pc 15 then bif Nat.beq pc 14 then some (.iload_n 3, 15, 3, 0, 0, 0, 0) else none
  else bif Nat.beq pc 15 then some (.if_icmp .ge 32, 18, 47, 0, 0, 0, 0) else none
  else bif Nat.blt pc 22 then bif Nat.blt pc 19 then bif Nat.beq pc 18 then some (.aload_n 0, 19, 0, 0, 0, 0, 0) else none
  else bif Nat.beq pc 19 then some (.getfield 18, 22, 3, 3, 2, 0, 0) else none
  else bif Nat.blt pc 23 then bif Nat.beq pc 22 then some (.iload_n 1, 23, 1, 0, 0, 0, 0) else none
  else bif Nat.beq pc 23 then some (.bipush 14, 25, 0, 0, 0, 14, 0) else none
  else bif Nat.blt pc 35 then bif Nat.blt pc 29 then bif Nat.blt pc 26 then bif Nat.beq pc 25 then some (.imul, 26, 0, 0, 0, 0, 0) else none
  else bif Nat.blt pc 28 then bif Nat.beq pc 26 then some (.iload 4, 28, 4, 0, 0, 0, 0) else none
  else bif Nat.beq pc 28 then some (.iadd, 29, 0, 0, 0, 0, 0) else none
  else bif Nat.blt pc 33 then bif Nat.blt pc 32 then bif Nat.beq pc 29 then some (.invokestatic 33, 32, 106, 2, 99, 0, 0) else none
  else bif Nat.beq pc 32 then some (.iconst 2, 33, 0, 0, 0, 2, 0) else none
  else bif Nat.blt pc 34 then bif Nat.beq pc 33 then some (.idiv, 34, 0, 0, 0, 0, 0) else none
  else bif Nat.beq pc 34 then some (.iload_n 2, 35, 2, 0, 0, 0, 0) else none
  else bif Nat.blt pc 41 then bif Nat.blt pc 38 then bif Nat.beq pc 35 then some (.if_icmp .ne 6, 38, 41, 0, 0, 0, 0) else none
  else bif Nat.blt pc 40 then bif Nat.beq pc 38 then some (.iload 4, 40, 4, 0, 0, 0, 0) else none
  else bif Nat.beq pc 40 then some (.ireturn, 41, 0, 0, 0, 0, 0) else none
  else bif Nat.blt pc 47 then bif Nat.blt pc 44 then bif Nat.beq pc 41 then some (.iinc 4 1, 44, 4, 0, 0, 1, 0) else none
  else bif Nat.beq pc 44 then some (.goto (-32), 47, 12, 0, 0, 0, 0) else none
  else bif Nat.blt pc 48 then bif Nat.beq pc 47 then some (.iconst (-1), 48, 0, 0, 0, (-1), 0) else none
  else bif Nat.beq pc 48 then some (.ireturn, 49, 0, 0, 0, 0, 0) else none
def rs_X3_positionIn : PMR := (1, 0, hdl [], 5)
def mi_X3_positionIn : PMI := wrapM 49 cd_X3_positionIn rs_X3_positionIn
def cd_X3_putIn (pc : Nat) : Option PE :=
  bif Nat.blt pc 44 then bif Nat.blt pc 22 then bif Nat.blt pc 12 then bif Nat.blt pc 5 then bif Nat.blt pc 1 then bif Nat.beq pc 0 then some (.aload_n 0, 1, 0, 0, 0, 0, 0) else none
  else bif Nat.blt pc 4 then bif Nat.beq pc 1 then some (.getfield 15, 4, 3, 2, 2, 0, 0) else none
  else bif Nat.beq pc 4 then some (.iload_n 1, 5, 1, 0, 0, 0, 0) else none
  else bif Nat.blt pc 8 then bif Nat.beq pc 5 then some (.invokestatic 33, 8, 106, 2, 99, 0, 0) else none
  else bif Nat.blt pc 10 then bif Nat.beq pc 8 then some (.istore 4, 10, 4, 0, 0, 0, 0) else none
  else bif Nat.beq pc 10 then some (.iload 4, 12, 4, 0, 0, 0, 0) else none
  else bif Nat.blt pc 18 then bif Nat.blt pc 14 then bif Nat.beq pc 12 then some (.bipush 14, 14, 0, 0, 0, 14, 0) else none
  else bif Nat.blt pc 17 then bif Nat.beq pc 14 then some (.if_icmp .lt 4, 17, 18, 0, 0, 0, 0) else none
  else bif Nat.beq pc 17 then some (.return_, 18, 0, 0, 0, 0, 0) else none
  else bif Nat.blt pc 19 then bif Nat.beq pc 18 then some (.iload_n 1, 19, 1, 0, 0, 0, 0) else none
  else bif Nat.blt pc 21 then bif Nat.beq pc 19 then some (.bipush 14, 21, 0, 0, 0, 14, 0) else none
  else bif Nat.beq pc 21 then some (.imul, 22, 0, 0, 0, 0, 0) else none
  else bif Nat.blt pc 34 then bif Nat.blt pc 28 then bif Nat.blt pc 24 then bif Nat.beq pc 22 then some (.istore 5, 24, 5, 0, 0, 0, 0) else none
  else bif Nat.blt pc 26 then bif Nat.beq pc 24 then some (.iload 4, 26, 4, 0, 0, 0, 0) else none
  else bif Nat.beq pc 26 then some (.istore 6, 28, 6, 0, 0, 0, 0) else none
  else bif Nat.blt pc 30 then bif Nat.beq pc 28 then some (.iload 6, 30, 6, 0, 0, 0, 0) else none
  else bif Nat.blt pc 31 then bif Nat.beq pc 30 then some (.iload_n 2, 31, 2, 0, 0, 0, 0) else none
  else bif Nat.beq pc 31 then some (.if_icmp .le 35, 34, 66, 0, 0, 0, 0) else none
  else bif Nat.blt pc 40 then bif Nat.blt pc 35 then bif Nat.beq pc 34 then some (.aload_n 0, 35, 0, 0, 0, 0, 0) else none
  else bif Nat.blt pc 38 then bif Nat.beq pc 35 then some (.getfield 18, 38, 3, 3, 2, 0, 0) else none
  else bif Nat.beq pc 38 then some (.iload 5, 40, 5, 0, 0, 0, 0) else none
  else bif Nat.blt pc 42 then bif Nat.beq pc 40 then some (.iload 6, 42, 6, 0, 0, 0, 0) else none
  else bif Nat.blt pc 43 then bif Nat.beq pc 42 then some (.iadd, 43, 0, 0, 0, 0, 0) else none
  else bif Nat.beq pc 43 then some (.aload_n 0, 44, 0, 0, 0, 0, 0) else none
  else bif Nat.blt pc 70 then bif Nat.blt pc 54 then bif Nat.blt pc 51 then bif Nat.blt pc 47 then bif Nat.beq pc 44 then some (.getfield 18, 47, 3, 3, 2, 0, 0) else none
  else bif Nat.blt pc 49 then bif Nat.beq pc 47 then some (.iload 5, 49, 5, 0, 0, 0, 0) else none
  else bif Nat.beq pc 49 then some (.iload 6, 51, 6, 0, 0, 0, 0) else none
  else bif Nat.blt pc 52 then bif Nat.beq pc 51 then some (.iadd, 52, 0, 0, 0, 0, 0) else none
  else bif Nat.blt pc 53 then bif Nat.beq pc 52 then some (.iconst 1, 53, 0, 0, 0, 1, 0) else none
  else bif Nat.beq pc 53 then some (.isub, 54, 0, 0, 0, 0, 0) else none
  else bif Nat.blt pc 63 then bif Nat.blt pc 57 then bif Nat.beq pc 54 then some (.invokestatic 33, 57, 106, 2, 99, 0, 0) else none
  else bif Nat.blt pc 60 then bif Nat.beq pc 57 then some (.invokestatic 29, 60, 107, 3, 99, 0, 0) else none
  else bif Nat.beq pc 60 then some (.iinc 6 (-1), 63, 6, 0, 0, (-1), 0) else none
  else bif Nat.blt pc 66 then bif Nat.beq pc 63 then some (.goto (-35), 66, 28, 0, 0, 0, 0) else none
  else bif Nat.blt pc 67 then bif Nat.beq pc 66 then some (.aload_n 0, 67, 0, 0, 0, 0, 0) else none
  else bif Nat.beq pc 67 then some (.getfield 18, 70, 3, 3, 2, 0, 0) else none
  else bif Nat.blt pc 79 then bif Nat.blt pc 74 then bif Nat.blt pc 72 then bif Nat.beq pc 70 then some (.iload 5, 72, 5, 0, 0, 0, 0) else none
  else bif Nat.blt pc 73 then bif Nat.beq pc 72 then some (.iload_n 2, 73, 2, 0, 0, 0, 0) else none
  else bif Nat.beq pc 73 then some (.iadd, 74, 0, 0, 0, 0, 0) else none
  else bif Nat.blt pc 75 then bif Nat.beq pc 74 then some (.iload_n 3, 75, 3, 0, 0, 0, 0) else none
  else bif Nat.blt pc 78 then bif Nat.beq pc 75 then some (.invokestatic 29, 78, 107, 3, 99, 0, 0) else none
  else bif Nat.beq pc 78 then some (.aload_n 0, 79, 0, 0, 0, 0, 0) else none
  else bif Nat.blt pc 85 then bif Nat.blt pc 82 then bif Nat.beq pc 79 then some (.getfield 15, 82, 3, 2, 2, 0, 0) else none
  else bif Nat.blt pc 83 then bif Nat.beq pc 82 then some (.iload_n 1, 83, 1, 0, 0, 0, 0) else none
  else bif Nat.beq pc 83 then some (.iload 4, 85, 4, 0, 0, 0, 0) else none
  else bif Nat.blt pc 87 then bif Nat.blt pc 86 then bif Nat.beq pc 85 then some (.iconst 1, 86, 0, 0, 0, 1, 0) else none
  else bif Nat.beq pc 86 then some (.iadd, 87, 0, 0, 0, 0, 0) else none
  else bif Nat.blt pc 90 then bif Nat.beq pc 87 then some (.invokestatic 29, 90, 107, 3, 99, 0, 0) else none
  else bif Nat.beq pc 90 then some (.return_, 91, 0, 0, 0, 0, 0) else none
def rs_X3_putIn : PMR := (0, 0, hdl [], 7)
def mi_X3_putIn : PMI := wrapM 91 cd_X3_putIn rs_X3_putIn
def cd_X3_takeOut (pc : Nat) : Option PE :=
  bif Nat.blt pc 35 then bif Nat.blt pc 17 then bif Nat.blt pc 9 then bif Nat.blt pc 4 then bif Nat.blt pc 1 then bif Nat.beq pc 0 then some (.aload_n 0, 1, 0, 0, 0, 0, 0) else none
  else bif Nat.beq pc 1 then some (.getfield 15, 4, 3, 2, 2, 0, 0) else none
  else bif Nat.blt pc 5 then bif Nat.beq pc 4 then some (.iload_n 1, 5, 1, 0, 0, 0, 0) else none
  else bif Nat.blt pc 8 then bif Nat.beq pc 5 then some (.invokestatic 33, 8, 106, 2, 99, 0, 0) else none
  else bif Nat.beq pc 8 then some (.istore_n 3, 9, 3, 0, 0, 0, 0) else none
  else bif Nat.blt pc 13 then bif Nat.blt pc 10 then bif Nat.beq pc 9 then some (.iload_n 3, 10, 3, 0, 0, 0, 0) else none
  else bif Nat.beq pc 10 then some (.ifCond .gt 4, 13, 14, 0, 0, 0, 0) else none
  else bif Nat.blt pc 14 then bif Nat.beq pc 13 then some (.return_, 14, 0, 0, 0, 0, 0) else none
  else bif Nat.blt pc 15 then bif Nat.beq pc 14 then some (.iload_n 1, 15, 1, 0, 0, 0, 0) else none
  else bif Nat.beq pc 15 then some (.bipush 14, 17, 0, 0, 0, 14, 0) else none
  else bif Nat.blt pc 25 then bif Nat.blt pc 20 then bif Nat.blt pc 18 then bif Nat.beq pc 17 then some (.imul, 18, 0, 0, 0, 0, 0) else none
  else bif Nat.beq pc 18 then some (.istore 4, 20, 4, 0, 0, 0, 0) else none
  else bif Nat.blt pc 21 then bif Nat.beq pc 20 then some (.iload_n 2, 21, 2, 0, 0, 0, 0) else none
  else bif Nat.blt pc 23 then bif Nat.beq pc 21 then some (.istore 5, 23, 5, 0, 0, 0, 0) else none
  else bif Nat.beq pc 23 then some (.iload 5, 25, 5, 0, 0, 0, 0) else none
  else bif Nat.blt pc 28 then bif Nat.blt pc 26 then bif Nat.beq pc 25 then some (.iload_n 3, 26, 3, 0, 0, 0, 0) else none
  else bif Nat.blt pc 27 then bif Nat.beq pc 26 then some (.iconst 1, 27, 0, 0, 0, 1, 0) else none
  else bif Nat.beq pc 27 then some (.isub, 28, 0, 0, 0, 0, 0) else none
  else bif Nat.blt pc 31 then bif Nat.beq pc 28 then some (.if_icmp .ge 35, 31, 63, 0, 0, 0, 0) else none
  else bif Nat.blt pc 32 then bif Nat.beq pc 31 then some (.aload_n 0, 32, 0, 0, 0, 0, 0) else none
  else bif Nat.beq pc 32 then some (.getfield 18, 35, 3, 3, 2, 0, 0) else none
  else bif Nat.blt pc 54 then bif Nat.blt pc 44 then bif Nat.blt pc 39 then bif Nat.blt pc 37 then bif Nat.beq pc 35 then some (.iload 4, 37, 4, 0, 0, 0, 0) else none
  else bif Nat.beq pc 37 then some (.iload 5, 39, 5, 0, 0, 0, 0) else none
  else bif Nat.blt pc 40 then bif Nat.beq pc 39 then some (.iadd, 40, 0, 0, 0, 0, 0) else none
  else bif Nat.blt pc 41 then bif Nat.beq pc 40 then some (.aload_n 0, 41, 0, 0, 0, 0, 0) else none
  else bif Nat.beq pc 41 then some (.getfield 18, 44, 3, 3, 2, 0, 0) else none
  else bif Nat.blt pc 49 then bif Nat.blt pc 46 then bif Nat.beq pc 44 then some (.iload 4, 46, 4, 0, 0, 0, 0) else none
  else bif Nat.blt pc 48 then bif Nat.beq pc 46 then some (.iload 5, 48, 5, 0, 0, 0, 0) else none
  else bif Nat.beq pc 48 then some (.iadd, 49, 0, 0, 0, 0, 0) else none
  else bif Nat.blt pc 50 then bif Nat.beq pc 49 then some (.iconst 1, 50, 0, 0, 0, 1, 0) else none
  else bif Nat.blt pc 51 then bif Nat.beq pc 50 then some (.iadd, 51, 0, 0, 0, 0, 0) else none
  else bif Nat.beq pc 51 then some (.invokestatic 33, 54, 106, 2, 99, 0, 0) else none
  else bif Nat.blt pc 67 then bif Nat.blt pc 60 then bif Nat.blt pc 57 then bif Nat.beq pc 54 then some (.invokestatic 29, 57, 107, 3, 99, 0, 0) else none
  else bif Nat.beq pc 57 then some (.iinc 5 1, 60, 5, 0, 0, 1, 0) else none
  else bif Nat.blt pc 63 then bif Nat.beq pc 60 then some (.goto (-37), 63, 23, 0, 0, 0, 0) else none
  else bif Nat.blt pc 64 then bif Nat.beq pc 63 then some (.aload_n 0, 64, 0, 0, 0, 0, 0) else none
  else bif Nat.beq pc 64 then some (.getfield 15, 67, 3, 2, 2, 0, 0) else none
  else bif Nat.blt pc 70 then bif Nat.blt pc 68 then bif Nat.beq pc 67 then some (.iload_n 1, 68, 1, 0, 0, 0, 0) else none
  else bif Nat.blt pc 69 then bif Nat.beq pc 68 then some (.iload_n 3, 69, 3, 0, 0, 0, 0) else none
  else bif Nat.beq pc 69 then some (.iconst 1, 70, 0, 0, 0, 1, 0) else none
  else bif Nat.blt pc 71 then bif Nat.beq pc 70 then some (.isub, 71, 0, 0, 0, 0, 0) else none
  else bif Nat.blt pc 74 then bif Nat.beq pc 71 then some (.invokestatic 29, 74, 107, 3, 99, 0, 0) else none
  else bif Nat.beq pc 74 then some (.return_, 75, 0, 0, 0, 0, 0) else none
def rs_X3_takeOut : PMR := (0, 0, hdl [], 6)
def mi_X3_takeOut : PMI := wrapM 75 cd_X3_takeOut rs_X3_takeOut
def cd_X3_turnRound (pc : Nat) : Option PE :=
  bif Nat.blt pc 11 then bif Nat.blt pc 5 then bif Nat.blt pc 3 then bif Nat.blt pc 1 then bif Nat.beq pc 0 then some (.iload_n 1, 1, 1, 0, 0, 0, 0) else none
  else bif Nat.beq pc 1 then some (.bipush 14, 3, 0, 0, 0, 14, 0) else none
  else bif Nat.blt pc 4 then bif Nat.beq pc 3 then some (.imul, 4, 0, 0, 0, 0, 0) else none
  else bif Nat.beq pc 4 then some (.iload_n 2, 5, 2, 0, 0, 0, 0) else none
  else bif Nat.blt pc 7 then bif Nat.blt pc 6 then bif Nat.beq pc 5 then some (.iadd, 6, 0, 0, 0, 0, 0) else none
  else bif Nat.beq pc 6 then some (.istore_n 3, 7, 3, 0, 0, 0, 0) else none
  else bif Nat.blt pc 8 then bif Nat.beq pc 7 then some (.aload_n 0, 8, 0, 0, 0, 0, 0) else none
  else bif Nat.beq pc 8 then some (.getfield 18, 11, 3, 3, 2, 0, 0) else none
  else bif Nat.blt pc 17 then bif Nat.blt pc 13 then bif Nat.blt pc 12 then bif Nat.beq pc 11 then some (.iload_n 3, 12, 3, 0, 0, 0, 0) else none
  else bif Nat.beq pc 12 then some (.aload_n 0, 13, 0, 0, 0, 0, 0) else none
  else bif Nat.blt pc 16 then bif Nat.beq pc 13 then some (.getfield 18, 16, 3, 3, 2, 0, 0) else none
  else bif Nat.beq pc 16 then some (.iload_n 3, 17, 3, 0, 0, 0, 0) else none
  else bif Nat.blt pc 21 then bif Nat.blt pc 20 then bif Nat.beq pc 17 then some (.invokestatic 33, 20, 106, 2, 99, 0, 0) else none
  else bif Nat.beq pc 20 then some (.iconst 1, 21, 0, 0, 0, 1, 0) else none
  else bif Nat.blt pc 22 then bif Nat.beq pc 21 then some (.ixor, 22, 0, 0, 0, 0, 0) else none
  else bif Nat.blt pc 25 then bif Nat.beq pc 22 then some (.invokestatic 29, 25, 107, 3, 99, 0, 0) else none
  else bif Nat.beq pc 25 then some (.return_, 26, 0, 0, 0, 0, 0) else none
def rs_X3_turnRound : PMR := (0, 0, hdl [], 4)
def mi_X3_turnRound : PMI := wrapM 26 cd_X3_turnRound rs_X3_turnRound
def cd_X4_isWaiting (pc : Nat) : Option PE :=
  bif Nat.blt pc 18 then bif Nat.blt pc 8 then bif Nat.blt pc 4 then bif Nat.blt pc 1 then bif Nat.beq pc 0 then some (.aload_n 0, 1, 0, 0, 0, 0, 0) else none
  else bif Nat.beq pc 1 then some (.getfield 12, 4, 4, 0, 2, 0, 0) else none
  else bif Nat.blt pc 7 then bif Nat.beq pc 4 then some (.getfield 32, 7, 2, 8, 2, 0, 0) else none
  else bif Nat.beq pc 7 then some (.iload_n 1, 8, 1, 0, 0, 0, 0) else none
  else bif Nat.blt pc 14 then bif Nat.blt pc 11 then bif Nat.beq pc 8 then some (.invokestatic 36, 11, 106, 2, 99, 0, 0) else none
  else bif Nat.beq pc 11 then some (.ifCond .le 19, 14, 30, 0, 0, 0, 0) else none
  else bif Nat.blt pc 15 then bif Nat.beq pc 14 then some (.aload_n 0, 15, 0, 0, 0, 0, 0) else none
  else bif Nat.beq pc 15 then some (.getfield 28, 18, 4, 2, 2, 0, 0) else none
  else bif Nat.blt pc 26 then bif Nat.blt pc 22 then bif Nat.blt pc 19 then bif Nat.beq pc 18 then some (.iload_n 1, 19, 1, 0, 0, 0, 0) else none
  else bif Nat.beq pc 19 then some (.invokevirtual 40, 22, 23, 2, 3, 0, 0) else none
  else bif Nat.blt pc 23 then bif Nat.beq pc 22 then some (.iconst (-1), 23, 0, 0, 0, (-1), 0) else none
  else bif Nat.beq pc 23 then some (.if_icmp .ne 7, 26, 30, 0, 0, 0, 0) else none
  else bif Nat.blt pc 30 then bif Nat.blt pc 27 then bif Nat.beq pc 26 then some (.iconst 1, 27, 0, 0, 0, 1, 0) else none
  else bif Nat.beq pc 27 then some (.goto 4, 30, 31, 0, 0, 0, 0) else none
  else bif Nat.blt pc 31 then bif Nat.beq pc 30 then some (.iconst 0, 31, 0, 0, 0, 0, 0) else none
  else bif Nat.beq pc 31 then some (.ireturn, 32, 0, 0, 0, 0, 0) else none
def rs_X4_isWaiting : PMR := (2, 0, hdl [], 2)
def mi_X4_isWaiting : PMI := wrapM 32 cd_X4_isWaiting rs_X4_isWaiting
def cd_X4_demandIn (pc : Nat) : Option PE :=
  bif Nat.blt pc 25 then bif Nat.blt pc 13 then bif Nat.blt pc 7 then bif Nat.blt pc 1 then bif Nat.beq pc 0 then some (.aload_n 0, 1, 0, 0, 0, 0, 0) else none
  else bif Nat.blt pc 4 then bif Nat.beq pc 1 then some (.getfield 28, 4, 4, 2, 2, 0, 0) else none
  else bif Nat.beq pc 4 then some (.getfield 44, 7, 3, 2, 2, 0, 0) else none
  else bif Nat.blt pc 11 then bif Nat.blt pc 8 then bif Nat.beq pc 7 then some (.iload_n 1, 8, 1, 0, 0, 0, 0) else none
  else bif Nat.beq pc 8 then some (.invokestatic 36, 11, 106, 2, 99, 0, 0) else none
  else bif Nat.blt pc 12 then bif Nat.beq pc 11 then some (.istore_n 2, 12, 2, 0, 0, 0, 0) else none
  else bif Nat.beq pc 12 then some (.iconst 0, 13, 0, 0, 0, 0, 0) else none
  else bif Nat.blt pc 19 then bif Nat.blt pc 15 then bif Nat.blt pc 14 then bif Nat.beq pc 13 then some (.istore_n 3, 14, 3, 0, 0, 0, 0) else none
  else bif Nat.beq pc 14 then some (.iconst 0, 15, 0, 0, 0, 0, 0) else none
  else bif Nat.blt pc 17 then bif Nat.beq pc 15 then some (.istore 4, 17, 4, 0, 0, 0, 0) else none
  else bif Nat.beq pc 17 then some (.iload 4, 19, 4, 0, 0, 0, 0) else none
  else bif Nat.blt pc 23 then bif Nat.blt pc 20 then bif Nat.beq pc 19 then some (.iload_n 2, 20, 2, 0, 0, 0, 0) else none
  else bif Nat.beq pc 20 then some (.if_icmp .ge 34, 23, 54, 0, 0, 0, 0) else none
  else bif Nat.blt pc 24 then bif Nat.beq pc 23 then some (.iload_n 3, 24, 3, 0, 0, 0, 0) else none
  else bif Nat.beq pc 24 then some (.aload_n 0, 25, 0, 0, 0, 0, 0) else none
  else bif Nat.blt pc 42 then bif Nat.blt pc 35 then bif Nat.blt pc 31 then bif Nat.blt pc 28 then bif Nat.beq pc 25 then some (.getfield 12, 28, 4, 0, 2, 0, 0) else none
  else bif Nat.beq pc 28 then some (.getfield 32, 31, 2, 8, 2, 0, 0) else none
  else bif Nat.blt pc 32 then bif Nat.beq pc 31 then some (.aload_n 0, 32, 0, 0, 0, 0, 0) else none
  else bif Nat.beq pc 32 then some (.getfield 28, 35, 4, 2, 2, 0, 0) else none
  else bif Nat.blt pc 38 then bif Nat.blt pc 36 then bif Nat.beq pc 35 then some (.iload_n 1, 36, 1, 0, 0, 0, 0) else none
  else bif Nat.beq pc 36 then some (.iload 4, 38, 4, 0, 0, 0, 0) else none
  else bif Nat.blt pc 41 then bif Nat.beq pc 38 then some (.invokevirtual 47, 41, 22, 3, 3, 0, 0) else none
  else bif Nat.beq pc 41 then some (.iconst 2, 42, 0, 0, 0, 2, 0) else none
  else bif Nat.blt pc 48 then bif Nat.blt pc 46 then bif Nat.blt pc 43 then bif Nat.beq pc 42 then some (.idiv, 43, 0, 0, 0, 0, 0) else none
  else bif Nat.beq pc 43 then some (.invokestatic 36, 46, 106, 2, 99, 0, 0) else none
  else bif Nat.blt pc 47 then bif Nat.beq pc 46 then some (.iadd, 47, 0, 0, 0, 0, 0) else none
  else bif Nat.beq pc 47 then some (.istore_n 3, 48, 3, 0, 0, 0, 0) else none
  else bif Nat.blt pc 54 then bif Nat.blt pc 51 then bif Nat.beq pc 48 then some (.iinc 4 1, 51, 4, 0, 0, 1, 0) else none
  else bif Nat.beq pc 51 then some (.goto (-34), 54, 17, 0, 0, 0, 0) else none
  else bif Nat.blt pc 55 then bif Nat.beq pc 54 then some (.iload_n 3, 55, 3, 0, 0, 0, 0) else none
  else bif Nat.beq pc 55 then some (.ireturn, 56, 0, 0, 0, 0, 0) else none
def rs_X4_demandIn : PMR := (1, 0, hdl [], 5)
def mi_X4_demandIn : PMI := wrapM 56 cd_X4_demandIn rs_X4_demandIn
def cd_X4_hasRoom (pc : Nat) : Option PE :=
  bif Nat.blt pc 16 then bif Nat.blt pc 6 then bif Nat.blt pc 2 then bif Nat.blt pc 1 then bif Nat.beq pc 0 then some (.aload_n 0, 1, 0, 0, 0, 0, 0) else none
  else bif Nat.beq pc 1 then some (.iload_n 1, 2, 1, 0, 0, 0, 0) else none
  else bif Nat.blt pc 5 then bif Nat.beq pc 2 then some (.invokevirtual 51, 5, 29, 2, 4, 0, 0) else none
  else bif Nat.beq pc 5 then some (.aload_n 0, 6, 0, 0, 0, 0, 0) else none
  else bif Nat.blt pc 12 then bif Nat.blt pc 9 then bif Nat.beq pc 6 then some (.getfield 12, 9, 4, 0, 2, 0, 0) else none
  else bif Nat.beq pc 9 then some (.getfield 32, 12, 2, 8, 2, 0, 0) else none
  else bif Nat.blt pc 13 then bif Nat.beq pc 12 then some (.iload_n 2, 13, 2, 0, 0, 0, 0) else none
  else bif Nat.beq pc 13 then some (.invokestatic 36, 16, 106, 2, 99, 0, 0) else none
  else bif Nat.blt pc 24 then bif Nat.blt pc 18 then bif Nat.blt pc 17 then bif Nat.beq pc 16 then some (.iadd, 17, 0, 0, 0, 0, 0) else none
  else bif Nat.beq pc 17 then some (.aload_n 0, 18, 0, 0, 0, 0, 0) else none
  else bif Nat.blt pc 21 then bif Nat.beq pc 18 then some (.getfield 12, 21, 4, 0, 2, 0, 0) else none
  else bif Nat.beq pc 21 then some (.getfield 54, 24, 2, 1, 0, 0, 0) else none
  else bif Nat.blt pc 28 then bif Nat.blt pc 27 then bif Nat.beq pc 24 then some (.if_icmp .gt 7, 27, 31, 0, 0, 0, 0) else none
  else bif Nat.beq pc 27 then some (.iconst 1, 28, 0, 0, 0, 1, 0) else none
  else bif Nat.blt pc 31 then bif Nat.beq pc 28 then some (.goto 4, 31, 32, 0, 0, 0, 0) else none
  else bif Nat.blt pc 32 then bif Nat.beq pc 31 then some (.iconst 0, 32, 0, 0, 0, 0, 0) else none
  else bif Nat.beq pc 32 then some (.ireturn, 33, 0, 0, 0, 0, 0) else none
def rs_X4_hasRoom : PMR := (2, 0, hdl [], 3)
def mi_X4_hasRoom : PMI := wrapM 33 cd_X4_hasRoom rs_X4_hasRoom
def cd_X4_link (pc : Nat) : Option PE :=
  bif Nat.blt pc 44 then bif Nat.blt pc 20 then bif Nat.blt pc 11 then bif Nat.blt pc 4 then bif Nat.blt pc 1 then bif Nat.beq pc 0 then some (.aload_n 0, 1, 0, 0, 0, 0, 0) else none
  else bif Nat.beq pc 1 then some (.getfield 28, 4, 4, 2, 2, 0, 0) else none
  else bif Nat.blt pc 7 then bif Nat.beq pc 4 then some (.getfield 58, 7, 3, 1, 2, 0, 0) else none
  else bif Nat.blt pc 8 then bif Nat.beq pc 7 then some (.iload_n 1, 8, 1, 0, 0, 0, 0) else none
  else bif Nat.beq pc 8 then some (.invokestatic 36, 11, 106, 2, 99, 0, 0) else none
  else bif Nat.blt pc 15 then bif Nat.blt pc 13 then bif Nat.beq pc 11 then some (.istore 4, 13, 4, 0, 0, 0, 0) else none
  else bif Nat.blt pc 14 then bif Nat.beq pc 13 then some (.iload_n 2, 14, 2, 0, 0, 0, 0) else none
  else bif Nat.beq pc 14 then some (.iconst (-1), 15, 0, 0, 0, (-1), 0) else none
  else bif Nat.blt pc 18 then bif Nat.beq pc 15 then some (.if_icmp .ne 30, 18, 45, 0, 0, 0, 0) else none
  else bif Nat.blt pc 19 then bif Nat.beq pc 18 then some (.iload_n 3, 19, 3, 0, 0, 0, 0) else none
  else bif Nat.beq pc 19 then some (.iconst (-1), 20, 0, 0, 0, (-1), 0) else none
  else bif Nat.blt pc 34 then bif Nat.blt pc 27 then bif Nat.blt pc 23 then bif Nat.beq pc 20 then some (.if_icmp .ne 7, 23, 27, 0, 0, 0, 0) else none
  else bif Nat.blt pc 24 then bif Nat.beq pc 23 then some (.iconst 0, 24, 0, 0, 0, 0, 0) else none
  else bif Nat.beq pc 24 then some (.goto 20, 27, 44, 0, 0, 0, 0) else none
  else bif Nat.blt pc 28 then bif Nat.beq pc 27 then some (.aload_n 0, 28, 0, 0, 0, 0, 0) else none
  else bif Nat.blt pc 31 then bif Nat.beq pc 28 then some (.getfield 21, 31, 4, 1, 2, 0, 0) else none
  else bif Nat.beq pc 31 then some (.getfield 61, 34, 5, 1, 2, 0, 0) else none
  else bif Nat.blt pc 39 then bif Nat.blt pc 36 then bif Nat.beq pc 34 then some (.iload 4, 36, 4, 0, 0, 0, 0) else none
  else bif Nat.blt pc 38 then bif Nat.beq pc 36 then some (.bipush 28, 38, 0, 0, 0, 28, 0) else none
  else bif Nat.beq pc 38 then some (.imul, 39, 0, 0, 0, 0, 0) else none
  else bif Nat.blt pc 40 then bif Nat.beq pc 39 then some (.iload_n 3, 40, 3, 0, 0, 0, 0) else none
  else bif Nat.blt pc 41 then bif Nat.beq pc 40 then some (.iadd, 41, 0, 0, 0, 0, 0) else none
  else bif Nat.beq pc 41 then some (.invokestatic 36, 44, 106, 2, 99, 0, 0) else none
  else bif Nat.blt pc 64 then bif Nat.blt pc 54 then bif Nat.blt pc 47 then bif Nat.blt pc 45 then bif Nat.beq pc 44 then some (.ireturn, 45, 0, 0, 0, 0, 0) else none
  else bif Nat.blt pc 46 then bif Nat.beq pc 45 then some (.iload_n 3, 46, 3, 0, 0, 0, 0) else none
  else bif Nat.beq pc 46 then some (.iconst (-1), 47, 0, 0, 0, (-1), 0) else none
  else bif Nat.blt pc 50 then bif Nat.beq pc 47 then some (.if_icmp .ne 21, 50, 68, 0, 0, 0, 0) else none
  else bif Nat.blt pc 51 then bif Nat.beq pc 50 then some (.aload_n 0, 51, 0, 0, 0, 0, 0) else none
  else bif Nat.beq pc 51 then some (.getfield 21, 54, 4, 1, 2, 0, 0) else none
  else bif Nat.blt pc 60 then bif Nat.blt pc 57 then bif Nat.beq pc 54 then some (.getfield 64, 57, 5, 2, 2, 0, 0) else none
  else bif Nat.blt pc 58 then bif Nat.beq pc 57 then some (.iload_n 2, 58, 2, 0, 0, 0, 0) else none
  else bif Nat.beq pc 58 then some (.bipush 8, 60, 0, 0, 0, 8, 0) else none
  else bif Nat.blt pc 61 then bif Nat.beq pc 60 then some (.imul, 61, 0, 0, 0, 0, 0) else none
  else bif Nat.blt pc 63 then bif Nat.beq pc 61 then some (.iload 4, 63, 4, 0, 0, 0, 0) else none
  else bif Nat.beq pc 63 then some (.iadd, 64, 0, 0, 0, 0, 0) else none
  else bif Nat.blt pc 76 then bif Nat.blt pc 69 then bif Nat.blt pc 67 then bif Nat.beq pc 64 then some (.invokestatic 36, 67, 106, 2, 99, 0, 0) else none
  else bif Nat.blt pc 68 then bif Nat.beq pc 67 then some (.ireturn, 68, 0, 0, 0, 0, 0) else none
  else bif Nat.beq pc 68 then some (.aload_n 0, 69, 0, 0, 0, 0, 0) else none
  else bif Nat.blt pc 72 then bif Nat.beq pc 69 then some (.getfield 21, 72, 4, 1, 2, 0, 0) else none
  else bif Nat.blt pc 75 then bif Nat.beq pc 72 then some (.getfield 67, 75, 5, 0, 2, 0, 0) else none
  else bif Nat.beq pc 75 then some (.iload_n 2, 76, 2, 0, 0, 0, 0) else none
  else bif Nat.blt pc 80 then bif Nat.blt pc 78 then bif Nat.beq pc 76 then some (.bipush 28, 78, 0, 0, 0, 28, 0) else none
  else bif Nat.blt pc 79 then bif Nat.beq pc 78 then some (.imul, 79, 0, 0, 0, 0, 0) else none
  else bif Nat.beq pc 79 then some (.iload_n 3, 80, 3, 0, 0, 0, 0) else none
  else bif Nat.blt pc 81 then bif Nat.beq pc 80 then some (.iadd, 81, 0, 0, 0, 0, 0) else none
  else bif Nat.blt pc 84 then bif Nat.beq pc 81 then some (.invokestatic 36, 84, 106, 2, 99, 0, 0) else none
  else bif Nat.beq pc 84 then some (.ireturn, 85, 0, 0, 0, 0, 0) else none
def rs_X4_link : PMR := (1, 0, hdl [], 5)
def mi_X4_link : PMI := wrapM 85 cd_X4_link rs_X4_link
def cd_X4_costOf (pc : Nat) : Option PE :=
  bif Nat.blt pc 40 then bif Nat.blt pc 18 then bif Nat.blt pc 11 then bif Nat.blt pc 4 then bif Nat.blt pc 1 then bif Nat.beq pc 0 then some (.aload_n 0, 1, 0, 0, 0, 0, 0) else none
  else bif Nat.beq pc 1 then some (.getfield 28, 4, 4, 2, 2, 0, 0) else none
  else bif Nat.blt pc 7 then bif Nat.beq pc 4 then some (.getfield 44, 7, 3, 2, 2, 0, 0) else none
  else bif Nat.blt pc 8 then bif Nat.beq pc 7 then some (.iload_n 1, 8, 1, 0, 0, 0, 0) else none
  else bif Nat.beq pc 8 then some (.invokestatic 36, 11, 106, 2, 99, 0, 0) else none
  else bif Nat.blt pc 14 then bif Nat.blt pc 12 then bif Nat.beq pc 11 then some (.istore_n 2, 12, 2, 0, 0, 0, 0) else none
  else bif Nat.blt pc 13 then bif Nat.beq pc 12 then some (.iconst 0, 13, 0, 0, 0, 0, 0) else none
  else bif Nat.beq pc 13 then some (.istore_n 3, 14, 3, 0, 0, 0, 0) else none
  else bif Nat.blt pc 15 then bif Nat.beq pc 14 then some (.iconst (-1), 15, 0, 0, 0, (-1), 0) else none
  else bif Nat.blt pc 17 then bif Nat.beq pc 15 then some (.istore 4, 17, 4, 0, 0, 0, 0) else none
  else bif Nat.beq pc 17 then some (.iconst 0, 18, 0, 0, 0, 0, 0) else none
  else bif Nat.blt pc 30 then bif Nat.blt pc 23 then bif Nat.blt pc 20 then bif Nat.beq pc 18 then some (.istore 5, 20, 5, 0, 0, 0, 0) else none
  else bif Nat.blt pc 22 then bif Nat.beq pc 20 then some (.iload 5, 22, 5, 0, 0, 0, 0) else none
  else bif Nat.beq pc 22 then some (.iload_n 2, 23, 2, 0, 0, 0, 0) else none
  else bif Nat.blt pc 26 then bif Nat.beq pc 23 then some (.if_icmp .ge 50, 26, 73, 0, 0, 0, 0) else none
  else bif Nat.blt pc 27 then bif Nat.beq pc 26 then some (.aload_n 0, 27, 0, 0, 0, 0, 0) else none
  else bif Nat.beq pc 27 then some (.getfield 28, 30, 4, 2, 2, 0, 0) else none
  else bif Nat.blt pc 36 then bif Nat.blt pc 31 then bif Nat.beq pc 30 then some (.iload_n 1, 31, 1, 0, 0, 0, 0) else none
  else bif Nat.blt pc 33 then bif Nat.beq pc 31 then some (.iload 5, 33, 5, 0, 0, 0, 0) else none
  else bif Nat.beq pc 33 then some (.invokevirtual 47, 36, 22, 3, 3, 0, 0) else none
  else bif Nat.blt pc 38 then bif Nat.beq pc 36 then some (.istore 6, 38, 6, 0, 0, 0, 0) else none
  else bif Nat.blt pc 39 then bif Nat.beq pc 38 then some (.iload_n 3, 39, 3, 0, 0, 0, 0) else none
  else bif Nat.beq pc 39 then some (.aload_n 0, 40, 0, 0, 0, 0, 0) else none
  else bif Nat.blt pc 63 then bif Nat.blt pc 52 then bif Nat.blt pc 45 then bif Nat.blt pc 41 then bif Nat.beq pc 40 then some (.iload_n 1, 41, 1, 0, 0, 0, 0) else none
  else bif Nat.blt pc 43 then bif Nat.beq pc 41 then some (.iload 4, 43, 4, 0, 0, 0, 0) else none
  else bif Nat.beq pc 43 then some (.iload 6, 45, 6, 0, 0, 0, 0) else none
  else bif Nat.blt pc 48 then bif Nat.beq pc 45 then some (.invokevirtual 70, 48, 31, 4, 4, 0, 0) else none
  else bif Nat.blt pc 49 then bif Nat.beq pc 48 then some (.aload_n 0, 49, 0, 0, 0, 0, 0) else none
  else bif Nat.beq pc 49 then some (.getfield 12, 52, 4, 0, 2, 0, 0) else none
  else bif Nat.blt pc 60 then bif Nat.blt pc 55 then bif Nat.beq pc 52 then some (.getfield 74, 55, 2, 6, 2, 0, 0) else none
  else bif Nat.blt pc 57 then bif Nat.beq pc 55 then some (.iload 6, 57, 6, 0, 0, 0, 0) else none
  else bif Nat.beq pc 57 then some (.invokestatic 36, 60, 106, 2, 99, 0, 0) else none
  else bif Nat.blt pc 61 then bif Nat.beq pc 60 then some (.iadd, 61, 0, 0, 0, 0, 0) else none
  else bif Nat.blt pc 62 then bif Nat.beq pc 61 then some (.iadd, 62, 0, 0, 0, 0, 0) else none
  else bif Nat.beq pc 62 then some (.istore_n 3, 63, 3, 0, 0, 0, 0) else none
  else bif Nat.blt pc 75 then bif Nat.blt pc 70 then bif Nat.blt pc 65 then bif Nat.beq pc 63 then some (.iload 6, 65, 6, 0, 0, 0, 0) else none
  else bif Nat.blt pc 67 then bif Nat.beq pc 65 then some (.istore 4, 67, 4, 0, 0, 0, 0) else none
  else bif Nat.beq pc 67 then some (.iinc 5 1, 70, 5, 0, 0, 1, 0) else none
  else bif Nat.blt pc 73 then bif Nat.beq pc 70 then some (.goto (-50), 73, 20, 0, 0, 0, 0) else none
  else bif Nat.blt pc 74 then bif Nat.beq pc 73 then some (.iload_n 3, 74, 3, 0, 0, 0, 0) else none
  else bif Nat.beq pc 74 then some (.aload_n 0, 75, 0, 0, 0, 0, 0) else none
  else bif Nat.blt pc 79 then bif Nat.blt pc 76 then bif Nat.beq pc 75 then some (.iload_n 1, 76, 1, 0, 0, 0, 0) else none
  else bif Nat.blt pc 78 then bif Nat.beq pc 76 then some (.iload 4, 78, 4, 0, 0, 0, 0) else none
  else bif Nat.beq pc 78 then some (.iconst (-1), 79, 0, 0, 0, (-1), 0) else none
  else bif Nat.blt pc 82 then bif Nat.beq pc 79 then some (.invokevirtual 70, 82, 31, 4, 4, 0, 0) else none
  else bif Nat.blt pc 83 then bif Nat.beq pc 82 then some (.iadd, 83, 0, 0, 0, 0, 0) else none
  else bif Nat.beq pc 83 then some (.ireturn, 84, 0, 0, 0, 0, 0) else none
def rs_X4_costOf : PMR := (1, 0, hdl [], 7)
def mi_X4_costOf : PMI := wrapM 84 cd_X4_costOf rs_X4_costOf
def cd_X4_increaseBy (pc : Nat) : Option PE :=
  bif Nat.blt pc 35 then bif Nat.blt pc 18 then bif Nat.blt pc 7 then bif Nat.blt pc 4 then bif Nat.blt pc 1 then bif Nat.beq pc 0 then some (.aload_n 0, 1, 0, 0, 0, 0, 0) else none
  else bif Nat.beq pc 1 then some (.getfield 28, 4, 4, 2, 2, 0, 0) else none
  else bif Nat.blt pc 5 then bif Nat.beq pc 4 then some (.iload_n 1, 5, 1, 0, 0, 0, 0) else none
  else bif Nat.blt pc 6 then bif Nat.beq pc 5 then some (.iload_n 2, 6, 2, 0, 0, 0, 0) else none
  else bif Nat.beq pc 6 then some (.iconst 1, 7, 0, 0, 0, 1, 0) else none
  else bif Nat.blt pc 13 then bif Nat.blt pc 8 then bif Nat.beq pc 7 then some (.isub, 8, 0, 0, 0, 0, 0) else none
  else bif Nat.blt pc 11 then bif Nat.beq pc 8 then some (.invokevirtual 47, 11, 22, 3, 3, 0, 0) else none
  else bif Nat.beq pc 11 then some (.istore 4, 13, 4, 0, 0, 0, 0) else none
  else bif Nat.blt pc 14 then bif Nat.beq pc 13 then some (.aload_n 0, 14, 0, 0, 0, 0, 0) else none
  else bif Nat.blt pc 17 then bif Nat.beq pc 14 then some (.getfield 28, 17, 4, 2, 2, 0, 0) else none
  else bif Nat.beq pc 17 then some (.iload_n 1, 18, 1, 0, 0, 0, 0) else none
  else bif Nat.blt pc 26 then bif Nat.blt pc 22 then bif Nat.blt pc 19 then bif Nat.beq pc 18 then some (.iload_n 2, 19, 2, 0, 0, 0, 0) else none
  else bif Nat.beq pc 19 then some (.invokevirtual 47, 22, 22, 3, 3, 0, 0) else none
  else bif Nat.blt pc 24 then bif Nat.beq pc 22 then some (.istore 5, 24, 5, 0, 0, 0, 0) else none
  else bif Nat.blt pc 25 then bif Nat.beq pc 24 then some (.aload_n 0, 25, 0, 0, 0, 0, 0) else none
  else bif Nat.beq pc 25 then some (.iload_n 1, 26, 1, 0, 0, 0, 0) else none
  else bif Nat.blt pc 32 then bif Nat.blt pc 28 then bif Nat.beq pc 26 then some (.iload 4, 28, 4, 0, 0, 0, 0) else none
  else bif Nat.blt pc 29 then bif Nat.beq pc 28 then some (.iload_n 3, 29, 3, 0, 0, 0, 0) else none
  else bif Nat.beq pc 29 then some (.invokevirtual 70, 32, 31, 4, 4, 0, 0) else none
  else bif Nat.blt pc 33 then bif Nat.beq pc 32 then some (.aload_n 0, 33, 0, 0, 0, 0, 0) else none
  else bif Nat.blt pc 34 then bif Nat.beq pc 33 then some (.iload_n 1, 34, 1, 0, 0, 0, 0) else none
  else bif Nat.beq pc 34 then some (.iload_n 3, 35, 3, 0, 0, 0, 0) else none
  else bif Nat.blt pc 56 then bif Nat.blt pc 45 then bif Nat.blt pc 40 then bif Nat.blt pc 37 then bif Nat.beq pc 35 then some (.iload 5, 37, 5, 0, 0, 0, 0) else none
  else bif Nat.beq pc 37 then some (.invokevirtual 70, 40, 31, 4, 4, 0, 0) else none
  else bif Nat.blt pc 41 then bif Nat.beq pc 40 then some (.iadd, 41, 0, 0, 0, 0, 0) else none
  else bif Nat.blt pc 43 then bif Nat.beq pc 41 then some (.istore 6, 43, 6, 0, 0, 0, 0) else none
  else bif Nat.beq pc 43 then some (.iload 6, 45, 6, 0, 0, 0, 0) else none
  else bif Nat.blt pc 52 then bif Nat.blt pc 47 then bif Nat.beq pc 45 then some (.ldc 77, 47, 0, 0, 0, 100000000, 0) else none
  else bif Nat.blt pc 50 then bif Nat.beq pc 47 then some (.if_icmp .lt 6, 50, 53, 0, 0, 0, 0) else none
  else bif Nat.beq pc 50 then some (.ldc 77, 52, 0, 0, 0, 100000000, 0) else none
  else bif Nat.blt pc 53 then bif Nat.beq pc 52 then some (.ireturn, 53, 0, 0, 0, 0, 0) else none
  else bif Nat.blt pc 55 then bif Nat.beq pc 53 then some (.iload 6, 55, 6, 0, 0, 0, 0) else none
  else bif Nat.beq pc 55 then some (.aload_n 0, 56, 0, 0, 0, 0, 0) else none
  else bif Nat.blt pc 68 then bif Nat.blt pc 63 then bif Nat.blt pc 59 then bif Nat.beq pc 56 then some (.getfield 12, 59, 4, 0, 2, 0, 0) else none
  else bif Nat.blt pc 62 then bif Nat.beq pc 59 then some (.getfield 74, 62, 2, 6, 2, 0, 0) else none
  else bif Nat.beq pc 62 then some (.iload_n 3, 63, 3, 0, 0, 0, 0) else none
  else bif Nat.blt pc 66 then bif Nat.beq pc 63 then some (.invokestatic 36, 66, 106, 2, 99, 0, 0) else none
  else bif Nat.blt pc 67 then bif Nat.beq pc 66 then some (.iadd, 67, 0, 0, 0, 0, 0) else none
  else bif Nat.beq pc 67 then some (.aload_n 0, 68, 0, 0, 0, 0, 0) else none
  else bif Nat.blt pc 73 then bif Nat.blt pc 69 then bif Nat.beq pc 68 then some (.iload_n 1, 69, 1, 0, 0, 0, 0) else none
  else bif Nat.blt pc 71 then bif Nat.beq pc 69 then some (.iload 4, 71, 4, 0, 0, 0, 0) else none
  else bif Nat.beq pc 71 then some (.iload 5, 73, 5, 0, 0, 0, 0) else none
  else bif Nat.blt pc 76 then bif Nat.beq pc 73 then some (.invokevirtual 70, 76, 31, 4, 4, 0, 0) else none
  else bif Nat.blt pc 77 then bif Nat.beq pc 76 then some (.isub, 77, 0, 0, 0, 0, 0) else none
  else bif Nat.beq pc 77 then some (.ireturn, 78, 0, 0, 0, 0, 0) else none
def rs_X4_increaseBy : PMR := (1, 0, hdl [], 7)
def mi_X4_increaseBy : PMI := wrapM 78 cd_X4_increaseBy rs_X4_increaseBy
def cd_X4_canSpare (pc : Nat) : Option PE :=
  bif Nat.blt pc 19 then bif Nat.blt pc 8 then bif Nat.blt pc 5 then bif Nat.blt pc 1 then bif Nat.beq pc 0 then some (.aload_n 0, 1, 0, 0, 0, 0, 0) else none
  else bif Nat.blt pc 4 then bif Nat.beq pc 1 then some (.getfield 28, 4, 4, 2, 2, 0, 0) else none
  else bif Nat.beq pc 4 then some (.iload_n 1, 5, 1, 0, 0, 0, 0) else none
  else bif Nat.blt pc 6 then bif Nat.beq pc 5 then some (.iload_n 2, 6, 2, 0, 0, 0, 0) else none
  else bif Nat.blt pc 7 then bif Nat.beq pc 6 then some (.iconst 1, 7, 0, 0, 0, 1, 0) else none
  else bif Nat.beq pc 7 then some (.isub, 8, 0, 0, 0, 0, 0) else none
  else bif Nat.blt pc 13 then bif Nat.blt pc 11 then bif Nat.beq pc 8 then some (.invokevirtual 47, 11, 22, 3, 3, 0, 0) else none
  else bif Nat.blt pc 12 then bif Nat.beq pc 11 then some (.istore_n 3, 12, 3, 0, 0, 0, 0) else none
  else bif Nat.beq pc 12 then some (.aload_n 0, 13, 0, 0, 0, 0, 0) else none
  else bif Nat.blt pc 17 then bif Nat.blt pc 16 then bif Nat.beq pc 13 then some (.getfield 28, 16, 4, 2, 2, 0, 0) else none
  else bif Nat.beq pc 16 then some (.iload_n 1, 17, 1, 0, 0, 0, 0) else none
  else bif Nat.blt pc 18 then bif Nat.beq pc 17 then some (.iload_n 2, 18, 2, 0, 0, 0, 0) else none
  else bif Nat.beq pc 18 then some (.iconst 1, 19, 0, 0, 0, 1, 0) else none
  else bif Nat.blt pc 30 then bif Nat.blt pc 25 then bif Nat.blt pc 20 then bif Nat.beq pc 19 then some (.iadd, 20, 0, 0, 0, 0, 0) else none
  else bif Nat.blt pc 23 then bif Nat.beq pc 20 then some (.invokevirtual 47, 23, 22, 3, 3, 0, 0) else none
  else bif Nat.beq pc 23 then some (.istore 4, 25, 4, 0, 0, 0, 0) else none
  else bif Nat.blt pc 27 then bif Nat.blt pc 26 then bif Nat.beq pc 25 then some (.aload_n 0, 26, 0, 0, 0, 0, 0) else none
  else bif Nat.beq pc 26 then some (.iload_n 1, 27, 1, 0, 0, 0, 0) else none
  else bif Nat.blt pc 28 then bif Nat.beq pc 27 then some (.iload_n 3, 28, 3, 0, 0, 0, 0) else none
  else bif Nat.beq pc 28 then some (.iload 4, 30, 4, 0, 0, 0, 0) else none
  else bif Nat.blt pc 38 then bif Nat.blt pc 33 then bif Nat.beq pc 30 then some (.invokevirtual 70, 33, 31, 4, 4, 0, 0) else none
  else bif Nat.blt pc 35 then bif Nat.beq pc 33 then some (.ldc 77, 35, 0, 0, 0, 100000000, 0) else none
  else bif Nat.beq pc 35 then some (.if_icmp .ge 7, 38, 42, 0, 0, 0, 0) else none
  else bif Nat.blt pc 42 then bif Nat.blt pc 39 then bif Nat.beq pc 38 then some (.iconst 1, 39, 0, 0, 0, 1, 0) else none
  else bif Nat.beq pc 39 then some (.goto 4, 42, 43, 0, 0, 0, 0) else none
  else bif Nat.blt pc 43 then bif Nat.beq pc 42 then some (.iconst 0, 43, 0, 0, 0, 0, 0) else none
  else bif Nat.beq pc 43 then some (.ireturn, 44, 0, 0, 0, 0, 0) else none
def rs_X4_canSpare : PMR := (2, 0, hdl [], 5)
def mi_X4_canSpare : PMI := wrapM 44 cd_X4_canSpare rs_X4_canSpare
def cd_X4_canTurn (pc : Nat) : Option PE :=
  bif Nat.blt pc 31 then bif Nat.blt pc 16 then bif Nat.blt pc 7 then bif Nat.blt pc 4 then bif Nat.blt pc 1 then bif Nat.beq pc 0 then some (.aload_n 0, 1, 0, 0, 0, 0, 0) else none
  else bif Nat.beq pc 1 then some (.getfield 28, 4, 4, 2, 2, 0, 0) else none
  else bif Nat.blt pc 5 then bif Nat.beq pc 4 then some (.iload_n 1, 5, 1, 0, 0, 0, 0) else none
  else bif Nat.blt pc 6 then bif Nat.beq pc 5 then some (.iload_n 2, 6, 2, 0, 0, 0, 0) else none
  else bif Nat.beq pc 6 then some (.iconst 1, 7, 0, 0, 0, 1, 0) else none
  else bif Nat.blt pc 11 then bif Nat.blt pc 8 then bif Nat.beq pc 7 then some (.isub, 8, 0, 0, 0, 0, 0) else none
  else bif Nat.beq pc 8 then some (.invokevirtual 47, 11, 22, 3, 3, 0, 0) else none
  else bif Nat.blt pc 12 then bif Nat.beq pc 11 then some (.istore_n 3, 12, 3, 0, 0, 0, 0) else none
  else bif Nat.blt pc 13 then bif Nat.beq pc 12 then some (.aload_n 0, 13, 0, 0, 0, 0, 0) else none
  else bif Nat.beq pc 13 then some (.getfield 28, 16, 4, 2, 2, 0, 0) else none
  else bif Nat.blt pc 23 then bif Nat.blt pc 18 then bif Nat.blt pc 17 then bif Nat.beq pc 16 then some (.iload_n 1, 17, 1, 0, 0, 0, 0) else none
  else bif Nat.beq pc 17 then some (.iload_n 2, 18, 2, 0, 0, 0, 0) else none
  else bif Nat.blt pc 19 then bif Nat.beq pc 18 then some (.iconst 1, 19, 0, 0, 0, 1, 0) else none
  else bif Nat.blt pc 20 then bif Nat.beq pc 19 then some (.iadd, 20, 0, 0, 0, 0, 0) else none
  else bif Nat.beq pc 20 then some (.invokevirtual 47, 23, 22, 3, 3, 0, 0) else none
  else bif Nat.blt pc 26 then bif Nat.blt pc 25 then bif Nat.beq pc 23 then some (.istore 4, 25, 4, 0, 0, 0, 0) else none
  else bif Nat.beq pc 25 then some (.aload_n 0, 26, 0, 0, 0, 0, 0) else none
  else bif Nat.blt pc 29 then bif Nat.beq pc 26 then some (.getfield 28, 29, 4, 2, 2, 0, 0) else none
  else bif Nat.blt pc 30 then bif Nat.beq pc 29 then some (.iload_n 1, 30, 1, 0, 0, 0, 0) else none
  else bif Nat.beq pc 30 then some (.iload_n 2, 31, 2, 0, 0, 0, 0) else none
  else bif Nat.blt pc 47 then bif Nat.blt pc 39 then bif Nat.blt pc 35 then bif Nat.blt pc 34 then bif Nat.beq pc 31 then some (.invokevirtual 47, 34, 22, 3, 3, 0, 0) else none
  else bif Nat.beq pc 34 then some (.iconst 1, 35, 0, 0, 0, 1, 0) else none
  else bif Nat.blt pc 36 then bif Nat.beq pc 35 then some (.ixor, 36, 0, 0, 0, 0, 0) else none
  else bif Nat.blt pc 38 then bif Nat.beq pc 36 then some (.istore 5, 38, 5, 0, 0, 0, 0) else none
  else bif Nat.beq pc 38 then some (.aload_n 0, 39, 0, 0, 0, 0, 0) else none
  else bif Nat.blt pc 41 then bif Nat.blt pc 40 then bif Nat.beq pc 39 then some (.iload_n 1, 40, 1, 0, 0, 0, 0) else none
  else bif Nat.beq pc 40 then some (.iload_n 3, 41, 3, 0, 0, 0, 0) else none
  else bif Nat.blt pc 43 then bif Nat.beq pc 41 then some (.iload 5, 43, 5, 0, 0, 0, 0) else none
  else bif Nat.blt pc 46 then bif Nat.beq pc 43 then some (.invokevirtual 70, 46, 31, 4, 4, 0, 0) else none
  else bif Nat.beq pc 46 then some (.aload_n 0, 47, 0, 0, 0, 0, 0) else none
  else bif Nat.blt pc 56 then bif Nat.blt pc 50 then bif Nat.blt pc 48 then bif Nat.beq pc 47 then some (.iload_n 1, 48, 1, 0, 0, 0, 0) else none
  else bif Nat.beq pc 48 then some (.iload 5, 50, 5, 0, 0, 0, 0) else none
  else bif Nat.blt pc 52 then bif Nat.beq pc 50 then some (.iload 4, 52, 4, 0, 0, 0, 0) else none
  else bif Nat.blt pc 55 then bif Nat.beq pc 52 then some (.invokevirtual 70, 55, 31, 4, 4, 0, 0) else none
  else bif Nat.beq pc 55 then some (.iadd, 56, 0, 0, 0, 0, 0) else none
  else bif Nat.blt pc 62 then bif Nat.blt pc 58 then bif Nat.beq pc 56 then some (.ldc 77, 58, 0, 0, 0, 100000000, 0) else none
  else bif Nat.blt pc 61 then bif Nat.beq pc 58 then some (.if_icmp .ge 7, 61, 65, 0, 0, 0, 0) else none
  else bif Nat.beq pc 61 then some (.iconst 1, 62, 0, 0, 0, 1, 0) else none
  else bif Nat.blt pc 65 then bif Nat.beq pc 62 then some (.goto 4, 65, 66, 0, 0, 0, 0) else none
  else bif Nat.blt pc 66 then bif Nat.beq pc 65 then some (.iconst 0, 66, 0, 0, 0, 0, 0) else none
  else bif Nat.beq pc 66 then some (.ireturn, 67, 0, 0, 0, 0, 0) else none
def rs_X4_canTurn : PMR := (2, 0, hdl [], 6)
def mi_X4_canTurn : PMI := wrapM 67 cd_X4_canTurn rs_X4_canTurn
def cd_X4_bestPlace (pc : Nat) : Option PE :=
  bif Nat.blt pc 65 then bif Nat.blt pc 31 then bif Nat.blt pc 11 then bif Nat.blt pc 5 then bif Nat.blt pc 2 then bif Nat.blt pc 1 then bif Nat.beq pc 0 then some (.iconst (-1), 1, 0, 0, 0, (-1), 0) else none
  else bif Nat.beq pc 1 then some (.istore_n 2, 2, 2, 0, 0, 0, 0) else none
  else bif Nat.blt pc 4 then bif Nat.beq pc 2 then some (.ldc 77, 4, 0, 0, 0, 100000000, 0) else none
  else bif Nat.beq pc 4 then some (.istore_n 3, 5, 3, 0, 0, 0, 0) else none
  else bif Nat.blt pc 8 then bif Nat.blt pc 6 then bif Nat.beq pc 5 then some (.iconst 0, 6, 0, 0, 0, 0, 0) else none
  else bif Nat.beq pc 6 then some (.istore 4, 8, 4, 0, 0, 0, 0) else none
  else bif Nat.blt pc 10 then bif Nat.beq pc 8 then some (.iload 4, 10, 4, 0, 0, 0, 0) else none
  else bif Nat.beq pc 10 then some (.aload_n 0, 11, 0, 0, 0, 0, 0) else none
  else bif Nat.blt pc 21 then bif Nat.blt pc 17 then bif Nat.blt pc 14 then bif Nat.beq pc 11 then some (.getfield 28, 14, 4, 2, 2, 0, 0) else none
  else bif Nat.beq pc 14 then some (.getfield 78, 17, 3, 0, 0, 0, 0) else none
  else bif Nat.blt pc 20 then bif Nat.beq pc 17 then some (.if_icmp .ge 111, 20, 128, 0, 0, 0, 0) else none
  else bif Nat.beq pc 20 then some (.aload_n 0, 21, 0, 0, 0, 0, 0) else none
  else bif Nat.blt pc 24 then bif Nat.blt pc 23 then bif Nat.beq pc 21 then some (.iload 4, 23, 4, 0, 0, 0, 0) else none
  else bif Nat.beq pc 23 then some (.iload_n 1, 24, 1, 0, 0, 0, 0) else none
  else bif Nat.blt pc 27 then bif Nat.beq pc 24 then some (.invokevirtual 81, 27, 30, 3, 4, 0, 0) else none
  else bif Nat.blt pc 30 then bif Nat.beq pc 27 then some (.ifCond .eq 20, 30, 47, 0, 0, 0, 0) else none
  else bif Nat.beq pc 30 then some (.aload_n 0, 31, 0, 0, 0, 0, 0) else none
  else bif Nat.blt pc 48 then bif Nat.blt pc 42 then bif Nat.blt pc 37 then bif Nat.blt pc 34 then bif Nat.beq pc 31 then some (.getfield 28, 34, 4, 2, 2, 0, 0) else none
  else bif Nat.beq pc 34 then some (.getfield 44, 37, 3, 2, 2, 0, 0) else none
  else bif Nat.blt pc 39 then bif Nat.beq pc 37 then some (.iload 4, 39, 4, 0, 0, 0, 0) else none
  else bif Nat.beq pc 39 then some (.invokestatic 36, 42, 106, 2, 99, 0, 0) else none
  else bif Nat.blt pc 44 then bif Nat.blt pc 43 then bif Nat.beq pc 42 then some (.iconst 1, 43, 0, 0, 0, 1, 0) else none
  else bif Nat.beq pc 43 then some (.iadd, 44, 0, 0, 0, 0, 0) else none
  else bif Nat.blt pc 47 then bif Nat.beq pc 44 then some (.goto 4, 47, 48, 0, 0, 0, 0) else none
  else bif Nat.beq pc 47 then some (.iconst 0, 48, 0, 0, 0, 0, 0) else none
  else bif Nat.blt pc 55 then bif Nat.blt pc 51 then bif Nat.blt pc 50 then bif Nat.beq pc 48 then some (.istore 5, 50, 5, 0, 0, 0, 0) else none
  else bif Nat.beq pc 50 then some (.iconst 0, 51, 0, 0, 0, 0, 0) else none
  else bif Nat.blt pc 53 then bif Nat.beq pc 51 then some (.istore 6, 53, 6, 0, 0, 0, 0) else none
  else bif Nat.beq pc 53 then some (.iload 6, 55, 6, 0, 0, 0, 0) else none
  else bif Nat.blt pc 60 then bif Nat.blt pc 57 then bif Nat.beq pc 55 then some (.iload 5, 57, 5, 0, 0, 0, 0) else none
  else bif Nat.beq pc 57 then some (.if_icmp .ge 65, 60, 122, 0, 0, 0, 0) else none
  else bif Nat.blt pc 61 then bif Nat.beq pc 60 then some (.iconst 0, 61, 0, 0, 0, 0, 0) else none
  else bif Nat.blt pc 63 then bif Nat.beq pc 61 then some (.istore 7, 63, 7, 0, 0, 0, 0) else none
  else bif Nat.beq pc 63 then some (.iload 7, 65, 7, 0, 0, 0, 0) else none
  else bif Nat.blt pc 94 then bif Nat.blt pc 77 then bif Nat.blt pc 72 then bif Nat.blt pc 69 then bif Nat.blt pc 66 then bif Nat.beq pc 65 then some (.iconst 2, 66, 0, 0, 0, 2, 0) else none
  else bif Nat.beq pc 66 then some (.if_icmp .ge 50, 69, 116, 0, 0, 0, 0) else none
  else bif Nat.blt pc 70 then bif Nat.beq pc 69 then some (.aload_n 0, 70, 0, 0, 0, 0, 0) else none
  else bif Nat.beq pc 70 then some (.iload 4, 72, 4, 0, 0, 0, 0) else none
  else bif Nat.blt pc 75 then bif Nat.blt pc 74 then bif Nat.beq pc 72 then some (.iload 6, 74, 6, 0, 0, 0, 0) else none
  else bif Nat.beq pc 74 then some (.iconst 2, 75, 0, 0, 0, 2, 0) else none
  else bif Nat.blt pc 76 then bif Nat.beq pc 75 then some (.iload_n 1, 76, 1, 0, 0, 0, 0) else none
  else bif Nat.beq pc 76 then some (.imul, 77, 0, 0, 0, 0, 0) else none
  else bif Nat.blt pc 85 then bif Nat.blt pc 80 then bif Nat.blt pc 79 then bif Nat.beq pc 77 then some (.iload 7, 79, 7, 0, 0, 0, 0) else none
  else bif Nat.beq pc 79 then some (.iadd, 80, 0, 0, 0, 0, 0) else none
  else bif Nat.blt pc 83 then bif Nat.beq pc 80 then some (.invokevirtual 85, 83, 33, 4, 4, 0, 0) else none
  else bif Nat.beq pc 83 then some (.istore 8, 85, 8, 0, 0, 0, 0) else none
  else bif Nat.blt pc 88 then bif Nat.blt pc 87 then bif Nat.beq pc 85 then some (.iload 8, 87, 8, 0, 0, 0, 0) else none
  else bif Nat.beq pc 87 then some (.iload_n 3, 88, 3, 0, 0, 0, 0) else none
  else bif Nat.blt pc 91 then bif Nat.beq pc 88 then some (.if_icmp .ge 22, 91, 110, 0, 0, 0, 0) else none
  else bif Nat.blt pc 93 then bif Nat.beq pc 91 then some (.iload 8, 93, 8, 0, 0, 0, 0) else none
  else bif Nat.beq pc 93 then some (.istore_n 3, 94, 3, 0, 0, 0, 0) else none
  else bif Nat.blt pc 109 then bif Nat.blt pc 102 then bif Nat.blt pc 99 then bif Nat.blt pc 97 then bif Nat.beq pc 94 then some (.sipush 1000, 97, 0, 0, 0, 1000, 0) else none
  else bif Nat.beq pc 97 then some (.iload 4, 99, 4, 0, 0, 0, 0) else none
  else bif Nat.blt pc 100 then bif Nat.beq pc 99 then some (.imul, 100, 0, 0, 0, 0, 0) else none
  else bif Nat.beq pc 100 then some (.bipush 10, 102, 0, 0, 0, 10, 0) else none
  else bif Nat.blt pc 105 then bif Nat.blt pc 104 then bif Nat.beq pc 102 then some (.iload 6, 104, 6, 0, 0, 0, 0) else none
  else bif Nat.beq pc 104 then some (.imul, 105, 0, 0, 0, 0, 0) else none
  else bif Nat.blt pc 106 then bif Nat.beq pc 105 then some (.iadd, 106, 0, 0, 0, 0, 0) else none
  else bif Nat.blt pc 108 then bif Nat.beq pc 106 then some (.iload 7, 108, 7, 0, 0, 0, 0) else none
  else bif Nat.beq pc 108 then some (.iadd, 109, 0, 0, 0, 0, 0) else none
  else bif Nat.blt pc 119 then bif Nat.blt pc 113 then bif Nat.blt pc 110 then bif Nat.beq pc 109 then some (.istore_n 2, 110, 2, 0, 0, 0, 0) else none
  else bif Nat.beq pc 110 then some (.iinc 7 1, 113, 7, 0, 0, 1, 0) else none
  else bif Nat.blt pc 116 then bif Nat.beq pc 113 then some (.goto (-50), 116, 63, 0, 0, 0, 0) else none
  else bif Nat.beq pc 116 then some (.iinc 6 1, 119, 6, 0, 0, 1, 0) else none
  else bif Nat.blt pc 125 then bif Nat.blt pc 122 then bif Nat.beq pc 119 then some (.goto (-66), 122, 53, 0, 0, 0, 0) else none
  else bif Nat.beq pc 122 then some (.iinc 4 1, 125, 4, 0, 0, 1, 0) else none
  else bif Nat.blt pc 128 then bif Nat.beq pc 125 then some (.goto (-117), 128, 8, 0, 0, 0, 0) else none
  else bif Nat.blt pc 129 then bif Nat.beq pc 128 then some (.iload_n 2, 129, 2, 0, 0, 0, 0) else none
  else bif Nat.beq pc 129 then some (.ireturn, 130, 0, 0, 0, 0, 0) else none
def rs_X4_bestPlace : PMR := (1, 0, hdl [], 9)
def mi_X4_bestPlace : PMI := wrapM 130 cd_X4_bestPlace rs_X4_bestPlace
def cd_X4_increaseAt (pc : Nat) : Option PE :=
  bif Nat.blt pc 14 then bif Nat.blt pc 6 then bif Nat.blt pc 2 then bif Nat.blt pc 1 then bif Nat.beq pc 0 then some (.aload_n 0, 1, 0, 0, 0, 0, 0) else none
  else bif Nat.beq pc 1 then some (.iload_n 2, 2, 2, 0, 0, 0, 0) else none
  else bif Nat.blt pc 5 then bif Nat.beq pc 2 then some (.sipush 1000, 5, 0, 0, 0, 1000, 0) else none
  else bif Nat.beq pc 5 then some (.idiv, 6, 0, 0, 0, 0, 0) else none
  else bif Nat.blt pc 10 then bif Nat.blt pc 7 then bif Nat.beq pc 6 then some (.iload_n 2, 7, 2, 0, 0, 0, 0) else none
  else bif Nat.beq pc 7 then some (.sipush 1000, 10, 0, 0, 0, 1000, 0) else none
  else bif Nat.blt pc 11 then bif Nat.beq pc 10 then some (.irem, 11, 0, 0, 0, 0, 0) else none
  else bif Nat.blt pc 13 then bif Nat.beq pc 11 then some (.bipush 10, 13, 0, 0, 0, 10, 0) else none
  else bif Nat.beq pc 13 then some (.idiv, 14, 0, 0, 0, 0, 0) else none
  else bif Nat.blt pc 18 then bif Nat.blt pc 16 then bif Nat.blt pc 15 then bif Nat.beq pc 14 then some (.iconst 2, 15, 0, 0, 0, 2, 0) else none
  else bif Nat.beq pc 15 then some (.iload_n 1, 16, 1, 0, 0, 0, 0) else none
  else bif Nat.blt pc 17 then bif Nat.beq pc 16 then some (.imul, 17, 0, 0, 0, 0, 0) else none
  else bif Nat.beq pc 17 then some (.iload_n 2, 18, 2, 0, 0, 0, 0) else none
  else bif Nat.blt pc 21 then bif Nat.blt pc 20 then bif Nat.beq pc 18 then some (.bipush 10, 20, 0, 0, 0, 10, 0) else none
  else bif Nat.beq pc 20 then some (.irem, 21, 0, 0, 0, 0, 0) else none
  else bif Nat.blt pc 22 then bif Nat.beq pc 21 then some (.iadd, 22, 0, 0, 0, 0, 0) else none
  else bif Nat.blt pc 25 then bif Nat.beq pc 22 then some (.invokevirtual 85, 25, 33, 4, 4, 0, 0) else none
  else bif Nat.beq pc 25 then some (.ireturn, 26, 0, 0, 0, 0, 0) else none
def rs_X4_increaseAt : PMR := (1, 0, hdl [], 3)
def mi_X4_increaseAt : PMI := wrapM 26 cd_X4_increaseAt rs_X4_increaseAt
def cd_X4_insertBest (pc : Nat) : Option PE :=
  bif Nat.blt pc 22 then bif Nat.blt pc 11 then bif Nat.blt pc 5 then bif Nat.blt pc 1 then bif Nat.beq pc 0 then some (.aload_n 0, 1, 0, 0, 0, 0, 0) else none
  else bif Nat.blt pc 2 then bif Nat.beq pc 1 then some (.iload_n 1, 2, 1, 0, 0, 0, 0) else none
  else bif Nat.beq pc 2 then some (.invokevirtual 88, 5, 36, 2, 4, 0, 0) else none
  else bif Nat.blt pc 7 then bif Nat.blt pc 6 then bif Nat.beq pc 5 then some (.istore_n 2, 6, 2, 0, 0, 0, 0) else none
  else bif Nat.beq pc 6 then some (.iload_n 2, 7, 2, 0, 0, 0, 0) else none
  else bif Nat.blt pc 8 then bif Nat.beq pc 7 then some (.iconst (-1), 8, 0, 0, 0, (-1), 0) else none
  else bif Nat.beq pc 8 then some (.if_icmp .ne 5, 11, 13, 0, 0, 0, 0) else none
  else bif Nat.blt pc 14 then bif Nat.blt pc 12 then bif Nat.beq pc 11 then some (.iconst 0, 12, 0, 0, 0, 0, 0) else none
  else bif Nat.blt pc 13 then bif Nat.beq pc 12 then some (.ireturn, 13, 0, 0, 0, 0, 0) else none
  else bif Nat.beq pc 13 then some (.aload_n 0, 14, 0, 0, 0, 0, 0) else none
  else bif Nat.blt pc 18 then bif Nat.blt pc 17 then bif Nat.beq pc 14 then some (.getfield 28, 17, 4, 2, 2, 0, 0) else none
  else bif Nat.beq pc 17 then some (.iload_n 2, 18, 2, 0, 0, 0, 0) else none
  else bif Nat.blt pc 21 then bif Nat.beq pc 18 then some (.sipush 1000, 21, 0, 0, 0, 1000, 0) else none
  else bif Nat.beq pc 21 then some (.idiv, 22, 0, 0, 0, 0, 0) else none
  else bif Nat.blt pc 32 then bif Nat.blt pc 27 then bif Nat.blt pc 23 then bif Nat.beq pc 22 then some (.iload_n 2, 23, 2, 0, 0, 0, 0) else none
  else bif Nat.blt pc 26 then bif Nat.beq pc 23 then some (.sipush 1000, 26, 0, 0, 0, 1000, 0) else none
  else bif Nat.beq pc 26 then some (.irem, 27, 0, 0, 0, 0, 0) else none
  else bif Nat.blt pc 30 then bif Nat.blt pc 29 then bif Nat.beq pc 27 then some (.bipush 10, 29, 0, 0, 0, 10, 0) else none
  else bif Nat.beq pc 29 then some (.idiv, 30, 0, 0, 0, 0, 0) else none
  else bif Nat.blt pc 31 then bif Nat.beq pc 30 then some (.iconst 2, 31, 0, 0, 0, 2, 0) else none
  else bif Nat.beq pc 31 then some (.iload_n 1, 32, 1, 0, 0, 0, 0) else none
  else bif Nat.blt pc 37 then bif Nat.blt pc 34 then bif Nat.blt pc 33 then bif Nat.beq pc 32 then some (.imul, 33, 0, 0, 0, 0, 0) else none
  else bif Nat.beq pc 33 then some (.iload_n 2, 34, 2, 0, 0, 0, 0) else none
  else bif Nat.blt pc 36 then bif Nat.beq pc 34 then some (.bipush 10, 36, 0, 0, 0, 10, 0) else none
  else bif Nat.beq pc 36 then some (.irem, 37, 0, 0, 0, 0, 0) else none
  else bif Nat.blt pc 41 then bif Nat.blt pc 38 then bif Nat.beq pc 37 then some (.iadd, 38, 0, 0, 0, 0, 0) else none
  else bif Nat.beq pc 38 then some (.invokevirtual 91, 41, 25, 4, 3, 0, 0) else none
  else bif Nat.blt pc 42 then bif Nat.beq pc 41 then some (.iconst 1, 42, 0, 0, 0, 1, 0) else none
  else bif Nat.beq pc 42 then some (.ireturn, 43, 0, 0, 0, 0, 0) else none
def rs_X4_insertBest : PMR := (2, 0, hdl [], 3)
def mi_X4_insertBest : PMI := wrapM 43 cd_X4_insertBest rs_X4_insertBest
def cd_X4_gainOf (pc : Nat) : Option PE :=
  bif Nat.blt pc 52 then bif Nat.blt pc 25 then bif Nat.blt pc 13 then bif Nat.blt pc 5 then bif Nat.blt pc 1 then bif Nat.beq pc 0 then some (.aload_n 0, 1, 0, 0, 0, 0, 0) else none
  else bif Nat.blt pc 4 then bif Nat.beq pc 1 then some (.getfield 28, 4, 4, 2, 2, 0, 0) else none
  else bif Nat.beq pc 4 then some (.iload_n 1, 5, 1, 0, 0, 0, 0) else none
  else bif Nat.blt pc 9 then bif Nat.blt pc 8 then bif Nat.beq pc 5 then some (.invokevirtual 40, 8, 23, 2, 3, 0, 0) else none
  else bif Nat.beq pc 8 then some (.istore_n 2, 9, 2, 0, 0, 0, 0) else none
  else bif Nat.blt pc 10 then bif Nat.beq pc 9 then some (.aload_n 0, 10, 0, 0, 0, 0, 0) else none
  else bif Nat.beq pc 10 then some (.getfield 28, 13, 4, 2, 2, 0, 0) else none
  else bif Nat.blt pc 19 then bif Nat.blt pc 15 then bif Nat.blt pc 14 then bif Nat.beq pc 13 then some (.iload_n 2, 14, 2, 0, 0, 0, 0) else none
  else bif Nat.beq pc 14 then some (.iload_n 1, 15, 1, 0, 0, 0, 0) else none
  else bif Nat.blt pc 18 then bif Nat.beq pc 15 then some (.invokevirtual 95, 18, 24, 3, 3, 0, 0) else none
  else bif Nat.beq pc 18 then some (.istore_n 3, 19, 3, 0, 0, 0, 0) else none
  else bif Nat.blt pc 21 then bif Nat.blt pc 20 then bif Nat.beq pc 19 then some (.iload_n 2, 20, 2, 0, 0, 0, 0) else none
  else bif Nat.beq pc 20 then some (.iconst (-1), 21, 0, 0, 0, (-1), 0) else none
  else bif Nat.blt pc 24 then bif Nat.beq pc 21 then some (.if_icmp .eq 12, 24, 33, 0, 0, 0, 0) else none
  else bif Nat.beq pc 24 then some (.aload_n 0, 25, 0, 0, 0, 0, 0) else none
  else bif Nat.blt pc 39 then bif Nat.blt pc 33 then bif Nat.blt pc 27 then bif Nat.blt pc 26 then bif Nat.beq pc 25 then some (.iload_n 2, 26, 2, 0, 0, 0, 0) else none
  else bif Nat.beq pc 26 then some (.iload_n 3, 27, 3, 0, 0, 0, 0) else none
  else bif Nat.blt pc 30 then bif Nat.beq pc 27 then some (.invokevirtual 98, 30, 34, 3, 4, 0, 0) else none
  else bif Nat.beq pc 30 then some (.ifCond .ne 5, 33, 35, 0, 0, 0, 0) else none
  else bif Nat.blt pc 35 then bif Nat.blt pc 34 then bif Nat.beq pc 33 then some (.iconst 0, 34, 0, 0, 0, 0, 0) else none
  else bif Nat.beq pc 34 then some (.ireturn, 35, 0, 0, 0, 0, 0) else none
  else bif Nat.blt pc 36 then bif Nat.beq pc 35 then some (.aload_n 0, 36, 0, 0, 0, 0, 0) else none
  else bif Nat.beq pc 36 then some (.getfield 28, 39, 4, 2, 2, 0, 0) else none
  else bif Nat.blt pc 46 then bif Nat.blt pc 41 then bif Nat.blt pc 40 then bif Nat.beq pc 39 then some (.iload_n 2, 40, 2, 0, 0, 0, 0) else none
  else bif Nat.beq pc 40 then some (.iload_n 3, 41, 3, 0, 0, 0, 0) else none
  else bif Nat.blt pc 44 then bif Nat.beq pc 41 then some (.invokevirtual 47, 44, 22, 3, 3, 0, 0) else none
  else bif Nat.beq pc 44 then some (.istore 4, 46, 4, 0, 0, 0, 0) else none
  else bif Nat.blt pc 50 then bif Nat.blt pc 47 then bif Nat.beq pc 46 then some (.aload_n 0, 47, 0, 0, 0, 0, 0) else none
  else bif Nat.beq pc 47 then some (.getfield 28, 50, 4, 2, 2, 0, 0) else none
  else bif Nat.blt pc 51 then bif Nat.beq pc 50 then some (.iload_n 2, 51, 2, 0, 0, 0, 0) else none
  else bif Nat.beq pc 51 then some (.iload_n 3, 52, 3, 0, 0, 0, 0) else none
  else bif Nat.blt pc 79 then bif Nat.blt pc 65 then bif Nat.blt pc 57 then bif Nat.blt pc 55 then bif Nat.beq pc 52 then some (.invokevirtual 101, 55, 26, 3, 3, 0, 0) else none
  else bif Nat.blt pc 56 then bif Nat.beq pc 55 then some (.aload_n 0, 56, 0, 0, 0, 0, 0) else none
  else bif Nat.beq pc 56 then some (.iload_n 2, 57, 2, 0, 0, 0, 0) else none
  else bif Nat.blt pc 60 then bif Nat.blt pc 58 then bif Nat.beq pc 57 then some (.iload_n 3, 58, 3, 0, 0, 0, 0) else none
  else bif Nat.beq pc 58 then some (.iload 4, 60, 4, 0, 0, 0, 0) else none
  else bif Nat.blt pc 63 then bif Nat.beq pc 60 then some (.invokevirtual 85, 63, 33, 4, 4, 0, 0) else none
  else bif Nat.beq pc 63 then some (.istore 5, 65, 5, 0, 0, 0, 0) else none
  else bif Nat.blt pc 72 then bif Nat.blt pc 67 then bif Nat.blt pc 66 then bif Nat.beq pc 65 then some (.aload_n 0, 66, 0, 0, 0, 0, 0) else none
  else bif Nat.beq pc 66 then some (.iload_n 1, 67, 1, 0, 0, 0, 0) else none
  else bif Nat.blt pc 70 then bif Nat.beq pc 67 then some (.invokevirtual 88, 70, 36, 2, 4, 0, 0) else none
  else bif Nat.beq pc 70 then some (.istore 6, 72, 6, 0, 0, 0, 0) else none
  else bif Nat.blt pc 75 then bif Nat.blt pc 74 then bif Nat.beq pc 72 then some (.iload 6, 74, 6, 0, 0, 0, 0) else none
  else bif Nat.beq pc 74 then some (.iconst (-1), 75, 0, 0, 0, (-1), 0) else none
  else bif Nat.blt pc 78 then bif Nat.beq pc 75 then some (.if_icmp .ne 7, 78, 82, 0, 0, 0, 0) else none
  else bif Nat.beq pc 78 then some (.iconst 0, 79, 0, 0, 0, 0, 0) else none
  else bif Nat.blt pc 94 then bif Nat.blt pc 86 then bif Nat.blt pc 84 then bif Nat.blt pc 82 then bif Nat.beq pc 79 then some (.goto 13, 82, 92, 0, 0, 0, 0) else none
  else bif Nat.beq pc 82 then some (.iload 5, 84, 5, 0, 0, 0, 0) else none
  else bif Nat.blt pc 85 then bif Nat.beq pc 84 then some (.aload_n 0, 85, 0, 0, 0, 0, 0) else none
  else bif Nat.beq pc 85 then some (.iload_n 1, 86, 1, 0, 0, 0, 0) else none
  else bif Nat.blt pc 91 then bif Nat.blt pc 88 then bif Nat.beq pc 86 then some (.iload 6, 88, 6, 0, 0, 0, 0) else none
  else bif Nat.beq pc 88 then some (.invokevirtual 105, 91, 37, 3, 4, 0, 0) else none
  else bif Nat.blt pc 92 then bif Nat.beq pc 91 then some (.isub, 92, 0, 0, 0, 0, 0) else none
  else bif Nat.beq pc 92 then some (.istore 7, 94, 7, 0, 0, 0, 0) else none
  else bif Nat.blt pc 100 then bif Nat.blt pc 98 then bif Nat.blt pc 95 then bif Nat.beq pc 94 then some (.aload_n 0, 95, 0, 0, 0, 0, 0) else none
  else bif Nat.beq pc 95 then some (.getfield 28, 98, 4, 2, 2, 0, 0) else none
  else bif Nat.blt pc 99 then bif Nat.beq pc 98 then some (.iload_n 2, 99, 2, 0, 0, 0, 0) else none
  else bif Nat.beq pc 99 then some (.iload_n 3, 100, 3, 0, 0, 0, 0) else none
  else bif Nat.blt pc 105 then bif Nat.blt pc 102 then bif Nat.beq pc 100 then some (.iload 4, 102, 4, 0, 0, 0, 0) else none
  else bif Nat.beq pc 102 then some (.invokevirtual 91, 105, 25, 4, 3, 0, 0) else none
  else bif Nat.blt pc 107 then bif Nat.beq pc 105 then some (.iload 7, 107, 7, 0, 0, 0, 0) else none
  else bif Nat.beq pc 107 then some (.ireturn, 108, 0, 0, 0, 0, 0) else none
def rs_X4_gainOf : PMR := (1, 0, hdl [], 8)
def mi_X4_gainOf : PMI := wrapM 108 cd_X4_gainOf rs_X4_gainOf
def cd_X4_makeBestChange (pc : Nat) : Option PE :=
  bif Nat.blt pc 38 then bif Nat.blt pc 17 then bif Nat.blt pc 5 then bif Nat.blt pc 2 then bif Nat.blt pc 1 then bif Nat.beq pc 0 then some (.iconst (-1), 1, 0, 0, 0, (-1), 0) else none
  else bif Nat.beq pc 1 then some (.istore_n 1, 2, 1, 0, 0, 0, 0) else none
  else bif Nat.blt pc 3 then bif Nat.beq pc 2 then some (.iconst 0, 3, 0, 0, 0, 0, 0) else none
  else bif Nat.blt pc 4 then bif Nat.beq pc 3 then some (.istore_n 2, 4, 2, 0, 0, 0, 0) else none
  else bif Nat.beq pc 4 then some (.iconst 0, 5, 0, 0, 0, 0, 0) else none
  else bif Nat.blt pc 8 then bif Nat.blt pc 6 then bif Nat.beq pc 5 then some (.istore_n 3, 6, 3, 0, 0, 0, 0) else none
  else bif Nat.blt pc 7 then bif Nat.beq pc 6 then some (.iload_n 3, 7, 3, 0, 0, 0, 0) else none
  else bif Nat.beq pc 7 then some (.aload_n 0, 8, 0, 0, 0, 0, 0) else none
  else bif Nat.blt pc 11 then bif Nat.beq pc 8 then some (.getfield 12, 11, 4, 0, 2, 0, 0) else none
  else bif Nat.blt pc 14 then bif Nat.beq pc 11 then some (.getfield 108, 14, 2, 2, 0, 0, 0) else none
  else bif Nat.beq pc 14 then some (.if_icmp .ge 27, 17, 41, 0, 0, 0, 0) else none
  else bif Nat.blt pc 27 then bif Nat.blt pc 22 then bif Nat.blt pc 18 then bif Nat.beq pc 17 then some (.aload_n 0, 18, 0, 0, 0, 0, 0) else none
  else bif Nat.blt pc 19 then bif Nat.beq pc 18 then some (.iload_n 3, 19, 3, 0, 0, 0, 0) else none
  else bif Nat.beq pc 19 then some (.invokevirtual 111, 22, 39, 2, 4, 0, 0) else none
  else bif Nat.blt pc 24 then bif Nat.beq pc 22 then some (.istore 4, 24, 4, 0, 0, 0, 0) else none
  else bif Nat.blt pc 26 then bif Nat.beq pc 24 then some (.iload 4, 26, 4, 0, 0, 0, 0) else none
  else bif Nat.beq pc 26 then some (.iload_n 2, 27, 2, 0, 0, 0, 0) else none
  else bif Nat.blt pc 33 then bif Nat.blt pc 30 then bif Nat.beq pc 27 then some (.if_icmp .le 8, 30, 35, 0, 0, 0, 0) else none
  else bif Nat.blt pc 32 then bif Nat.beq pc 30 then some (.iload 4, 32, 4, 0, 0, 0, 0) else none
  else bif Nat.beq pc 32 then some (.istore_n 2, 33, 2, 0, 0, 0, 0) else none
  else bif Nat.blt pc 34 then bif Nat.beq pc 33 then some (.iload_n 3, 34, 3, 0, 0, 0, 0) else none
  else bif Nat.blt pc 35 then bif Nat.beq pc 34 then some (.istore_n 1, 35, 1, 0, 0, 0, 0) else none
  else bif Nat.beq pc 35 then some (.iinc 3 1, 38, 3, 0, 0, 1, 0) else none
  else bif Nat.blt pc 60 then bif Nat.blt pc 50 then bif Nat.blt pc 43 then bif Nat.blt pc 41 then bif Nat.beq pc 38 then some (.goto (-32), 41, 6, 0, 0, 0, 0) else none
  else bif Nat.blt pc 42 then bif Nat.beq pc 41 then some (.iload_n 1, 42, 1, 0, 0, 0, 0) else none
  else bif Nat.beq pc 42 then some (.iconst (-1), 43, 0, 0, 0, (-1), 0) else none
  else bif Nat.blt pc 46 then bif Nat.beq pc 43 then some (.if_icmp .eq 35, 46, 78, 0, 0, 0, 0) else none
  else bif Nat.blt pc 47 then bif Nat.beq pc 46 then some (.aload_n 0, 47, 0, 0, 0, 0, 0) else none
  else bif Nat.beq pc 47 then some (.getfield 28, 50, 4, 2, 2, 0, 0) else none
  else bif Nat.blt pc 55 then bif Nat.blt pc 51 then bif Nat.beq pc 50 then some (.iload_n 1, 51, 1, 0, 0, 0, 0) else none
  else bif Nat.blt pc 54 then bif Nat.beq pc 51 then some (.invokevirtual 40, 54, 23, 2, 3, 0, 0) else none
  else bif Nat.beq pc 54 then some (.istore_n 3, 55, 3, 0, 0, 0, 0) else none
  else bif Nat.blt pc 56 then bif Nat.beq pc 55 then some (.aload_n 0, 56, 0, 0, 0, 0, 0) else none
  else bif Nat.blt pc 59 then bif Nat.beq pc 56 then some (.getfield 28, 59, 4, 2, 2, 0, 0) else none
  else bif Nat.beq pc 59 then some (.iload_n 3, 60, 3, 0, 0, 0, 0) else none
  else bif Nat.blt pc 72 then bif Nat.blt pc 65 then bif Nat.blt pc 61 then bif Nat.beq pc 60 then some (.aload_n 0, 61, 0, 0, 0, 0, 0) else none
  else bif Nat.blt pc 64 then bif Nat.beq pc 61 then some (.getfield 28, 64, 4, 2, 2, 0, 0) else none
  else bif Nat.beq pc 64 then some (.iload_n 3, 65, 3, 0, 0, 0, 0) else none
  else bif Nat.blt pc 66 then bif Nat.beq pc 65 then some (.iload_n 1, 66, 1, 0, 0, 0, 0) else none
  else bif Nat.blt pc 69 then bif Nat.beq pc 66 then some (.invokevirtual 95, 69, 24, 3, 3, 0, 0) else none
  else bif Nat.beq pc 69 then some (.invokevirtual 101, 72, 26, 3, 3, 0, 0) else none
  else bif Nat.blt pc 77 then bif Nat.blt pc 73 then bif Nat.beq pc 72 then some (.aload_n 0, 73, 0, 0, 0, 0, 0) else none
  else bif Nat.blt pc 74 then bif Nat.beq pc 73 then some (.iload_n 1, 74, 1, 0, 0, 0, 0) else none
  else bif Nat.beq pc 74 then some (.invokevirtual 114, 77, 38, 2, 4, 0, 0) else none
  else bif Nat.blt pc 78 then bif Nat.beq pc 77 then some (.pop, 78, 0, 0, 0, 0, 0) else none
  else bif Nat.blt pc 79 then bif Nat.beq pc 78 then some (.iload_n 2, 79, 2, 0, 0, 0, 0) else none
  else bif Nat.beq pc 79 then some (.ireturn, 80, 0, 0, 0, 0, 0) else none
def rs_X4_makeBestChange : PMR := (1, 0, hdl [], 5)
def mi_X4_makeBestChange : PMI := wrapM 80 cd_X4_makeBestChange rs_X4_makeBestChange
def cd_X5_explore (pc : Nat) : Option PE :=
  bif Nat.blt pc 62 then bif Nat.blt pc 32 then bif Nat.blt pc 14 then bif Nat.blt pc 7 then bif Nat.blt pc 2 then bif Nat.blt pc 1 then bif Nat.beq pc 0 then some (.aload_n 0, 1, 0, 0, 0, 0, 0) else none
  else bif Nat.beq pc 1 then some (.aload_n 1, 2, 1, 0, 0, 0, 0) else none
  else bif Nat.blt pc 5 then bif Nat.beq pc 2 then some (.invokevirtual 24, 5, 42, 2, 5, 0, 0) else none
  else bif Nat.blt pc 6 then bif Nat.beq pc 5 then some (.aload_n 0, 6, 0, 0, 0, 0, 0) else none
  else bif Nat.beq pc 6 then some (.aload_n 1, 7, 1, 0, 0, 0, 0) else none
  else bif Nat.blt pc 11 then bif Nat.blt pc 10 then bif Nat.beq pc 7 then some (.invokevirtual 28, 10, 43, 2, 5, 0, 0) else none
  else bif Nat.beq pc 10 then some (.iconst 0, 11, 0, 0, 0, 0, 0) else none
  else bif Nat.blt pc 12 then bif Nat.beq pc 11 then some (.istore_n 2, 12, 2, 0, 0, 0, 0) else none
  else bif Nat.blt pc 13 then bif Nat.beq pc 12 then some (.iload_n 2, 13, 2, 0, 0, 0, 0) else none
  else bif Nat.beq pc 13 then some (.iconst 2, 14, 0, 0, 0, 2, 0) else none
  else bif Nat.blt pc 23 then bif Nat.blt pc 18 then bif Nat.blt pc 15 then bif Nat.beq pc 14 then some (.aload_n 1, 15, 1, 0, 0, 0, 0) else none
  else bif Nat.beq pc 15 then some (.getfield 31, 18, 2, 2, 0, 0, 0) else none
  else bif Nat.blt pc 19 then bif Nat.beq pc 18 then some (.imul, 19, 0, 0, 0, 0, 0) else none
  else bif Nat.blt pc 22 then bif Nat.beq pc 19 then some (.if_icmp .ge 65, 22, 84, 0, 0, 0, 0) else none
  else bif Nat.beq pc 22 then some (.iconst 0, 23, 0, 0, 0, 0, 0) else none
  else bif Nat.blt pc 25 then bif Nat.blt pc 24 then bif Nat.beq pc 23 then some (.istore_n 3, 24, 3, 0, 0, 0, 0) else none
  else bif Nat.beq pc 24 then some (.iload_n 3, 25, 3, 0, 0, 0, 0) else none
  else bif Nat.blt pc 26 then bif Nat.beq pc 25 then some (.aload_n 1, 26, 1, 0, 0, 0, 0) else none
  else bif Nat.blt pc 29 then bif Nat.beq pc 26 then some (.getfield 37, 29, 2, 0, 0, 0, 0) else none
  else bif Nat.beq pc 29 then some (.if_icmp .ge 49, 32, 78, 0, 0, 0, 0) else none
  else bif Nat.blt pc 45 then bif Nat.blt pc 40 then bif Nat.blt pc 36 then bif Nat.blt pc 33 then bif Nat.beq pc 32 then some (.aload_n 0, 33, 0, 0, 0, 0, 0) else none
  else bif Nat.beq pc 33 then some (.getfield 15, 36, 5, 1, 2, 0, 0) else none
  else bif Nat.blt pc 37 then bif Nat.beq pc 36 then some (.iload_n 3, 37, 3, 0, 0, 0, 0) else none
  else bif Nat.blt pc 39 then bif Nat.beq pc 37 then some (.bipush 28, 39, 0, 0, 0, 28, 0) else none
  else bif Nat.beq pc 39 then some (.imul, 40, 0, 0, 0, 0, 0) else none
  else bif Nat.blt pc 42 then bif Nat.blt pc 41 then bif Nat.beq pc 40 then some (.iload_n 2, 41, 2, 0, 0, 0, 0) else none
  else bif Nat.beq pc 41 then some (.iadd, 42, 0, 0, 0, 0, 0) else none
  else bif Nat.blt pc 43 then bif Nat.beq pc 42 then some (.aload_n 0, 43, 0, 0, 0, 0, 0) else none
  else bif Nat.blt pc 44 then bif Nat.beq pc 43 then some (.aload_n 1, 44, 1, 0, 0, 0, 0) else none
  else bif Nat.beq pc 44 then some (.iload_n 3, 45, 3, 0, 0, 0, 0) else none
  else bif Nat.blt pc 56 then bif Nat.blt pc 49 then bif Nat.blt pc 46 then bif Nat.beq pc 45 then some (.iload_n 2, 46, 2, 0, 0, 0, 0) else none
  else bif Nat.beq pc 46 then some (.invokevirtual 40, 49, 44, 4, 5, 0, 0) else none
  else bif Nat.blt pc 52 then bif Nat.beq pc 49 then some (.invokestatic 44, 52, 107, 3, 99, 0, 0) else none
  else bif Nat.blt pc 53 then bif Nat.beq pc 52 then some (.aload_n 0, 53, 0, 0, 0, 0, 0) else none
  else bif Nat.beq pc 53 then some (.getfield 18, 56, 5, 2, 2, 0, 0) else none
  else bif Nat.blt pc 59 then bif Nat.blt pc 57 then bif Nat.beq pc 56 then some (.iload_n 2, 57, 2, 0, 0, 0, 0) else none
  else bif Nat.beq pc 57 then some (.bipush 8, 59, 0, 0, 0, 8, 0) else none
  else bif Nat.blt pc 60 then bif Nat.beq pc 59 then some (.imul, 60, 0, 0, 0, 0, 0) else none
  else bif Nat.blt pc 61 then bif Nat.beq pc 60 then some (.iload_n 3, 61, 3, 0, 0, 0, 0) else none
  else bif Nat.beq pc 61 then some (.iadd, 62, 0, 0, 0, 0, 0) else none
  else bif Nat.blt pc 98 then bif Nat.blt pc 84 then bif Nat.blt pc 69 then bif Nat.blt pc 64 then bif Nat.blt pc 63 then bif Nat.beq pc 62 then some (.aload_n 0, 63, 0, 0, 0, 0, 0) else none
  else bif Nat.beq pc 63 then some (.aload_n 1, 64, 1, 0, 0, 0, 0) else none
  else bif Nat.blt pc 65 then bif Nat.beq pc 64 then some (.iload_n 2, 65, 2, 0, 0, 0, 0) else none
  else bif Nat.blt pc 66 then bif Nat.beq pc 65 then some (.iload_n 3, 66, 3, 0, 0, 0, 0) else none
  else bif Nat.beq pc 66 then some (.invokevirtual 48, 69, 45, 4, 5, 0, 0) else none
  else bif Nat.blt pc 75 then bif Nat.blt pc 72 then bif Nat.beq pc 69 then some (.invokestatic 44, 72, 107, 3, 99, 0, 0) else none
  else bif Nat.beq pc 72 then some (.iinc 3 1, 75, 3, 0, 0, 1, 0) else none
  else bif Nat.blt pc 78 then bif Nat.beq pc 75 then some (.goto (-51), 78, 24, 0, 0, 0, 0) else none
  else bif Nat.blt pc 81 then bif Nat.beq pc 78 then some (.iinc 2 1, 81, 2, 0, 0, 1, 0) else none
  else bif Nat.beq pc 81 then some (.goto (-69), 84, 12, 0, 0, 0, 0) else none
  else bif Nat.blt pc 91 then bif Nat.blt pc 86 then bif Nat.blt pc 85 then bif Nat.beq pc 84 then some (.iconst 0, 85, 0, 0, 0, 0, 0) else none
  else bif Nat.beq pc 85 then some (.istore_n 2, 86, 2, 0, 0, 0, 0) else none
  else bif Nat.blt pc 87 then bif Nat.beq pc 86 then some (.iload_n 2, 87, 2, 0, 0, 0, 0) else none
  else bif Nat.blt pc 88 then bif Nat.beq pc 87 then some (.aload_n 1, 88, 1, 0, 0, 0, 0) else none
  else bif Nat.beq pc 88 then some (.getfield 37, 91, 2, 0, 0, 0, 0) else none
  else bif Nat.blt pc 95 then bif Nat.blt pc 94 then bif Nat.beq pc 91 then some (.if_icmp .ge 45, 94, 136, 0, 0, 0, 0) else none
  else bif Nat.beq pc 94 then some (.iconst 0, 95, 0, 0, 0, 0, 0) else none
  else bif Nat.blt pc 96 then bif Nat.beq pc 95 then some (.istore_n 3, 96, 3, 0, 0, 0, 0) else none
  else bif Nat.blt pc 97 then bif Nat.beq pc 96 then some (.iload_n 3, 97, 3, 0, 0, 0, 0) else none
  else bif Nat.beq pc 97 then some (.aload_n 1, 98, 1, 0, 0, 0, 0) else none
  else bif Nat.blt pc 115 then bif Nat.blt pc 109 then bif Nat.blt pc 104 then bif Nat.blt pc 101 then bif Nat.beq pc 98 then some (.getfield 37, 101, 2, 0, 0, 0, 0) else none
  else bif Nat.beq pc 101 then some (.if_icmp .ge 29, 104, 130, 0, 0, 0, 0) else none
  else bif Nat.blt pc 105 then bif Nat.beq pc 104 then some (.aload_n 0, 105, 0, 0, 0, 0, 0) else none
  else bif Nat.blt pc 108 then bif Nat.beq pc 105 then some (.getfield 21, 108, 5, 3, 2, 0, 0) else none
  else bif Nat.beq pc 108 then some (.iload_n 2, 109, 2, 0, 0, 0, 0) else none
  else bif Nat.blt pc 112 then bif Nat.blt pc 111 then bif Nat.beq pc 109 then some (.bipush 8, 111, 0, 0, 0, 8, 0) else none
  else bif Nat.beq pc 111 then some (.imul, 112, 0, 0, 0, 0, 0) else none
  else bif Nat.blt pc 113 then bif Nat.beq pc 112 then some (.iload_n 3, 113, 3, 0, 0, 0, 0) else none
  else bif Nat.blt pc 114 then bif Nat.beq pc 113 then some (.iadd, 114, 0, 0, 0, 0, 0) else none
  else bif Nat.beq pc 114 then some (.aload_n 0, 115, 0, 0, 0, 0, 0) else none
  else bif Nat.blt pc 124 then bif Nat.blt pc 117 then bif Nat.blt pc 116 then bif Nat.beq pc 115 then some (.aload_n 1, 116, 1, 0, 0, 0, 0) else none
  else bif Nat.beq pc 116 then some (.iload_n 2, 117, 2, 0, 0, 0, 0) else none
  else bif Nat.blt pc 118 then bif Nat.beq pc 117 then some (.iload_n 3, 118, 3, 0, 0, 0, 0) else none
  else bif Nat.blt pc 121 then bif Nat.beq pc 118 then some (.invokevirtual 51, 121, 46, 4, 5, 0, 0) else none
  else bif Nat.beq pc 121 then some (.invokestatic 44, 124, 107, 3, 99, 0, 0) else none
  else bif Nat.blt pc 130 then bif Nat.blt pc 127 then bif Nat.beq pc 124 then some (.iinc 3 1, 127, 3, 0, 0, 1, 0) else none
  else bif Nat.beq pc 127 then some (.goto (-31), 130, 96, 0, 0, 0, 0) else none
  else bif Nat.blt pc 133 then bif Nat.beq pc 130 then some (.iinc 2 1, 133, 2, 0, 0, 1, 0) else none
  else bif Nat.blt pc 136 then bif Nat.beq pc 133 then some (.goto (-47), 136, 86, 0, 0, 0, 0) else none
  else bif Nat.beq pc 136 then some (.return_, 137, 0, 0, 0, 0, 0) else none
def rs_X5_explore : PMR := (0, 0, hdl [], 4)
def mi_X5_explore : PMI := wrapM 137 cd_X5_explore rs_X5_explore
def cd_X5_markTurns (pc : Nat) : Option PE :=
  bif Nat.blt pc 28 then bif Nat.blt pc 11 then bif Nat.blt pc 6 then bif Nat.blt pc 2 then bif Nat.blt pc 1 then bif Nat.beq pc 0 then some (.iconst 2, 1, 0, 0, 0, 2, 0) else none
  else bif Nat.beq pc 1 then some (.aload_n 1, 2, 1, 0, 0, 0, 0) else none
  else bif Nat.blt pc 5 then bif Nat.beq pc 2 then some (.getfield 31, 5, 2, 2, 0, 0, 0) else none
  else bif Nat.beq pc 5 then some (.imul, 6, 0, 0, 0, 0, 0) else none
  else bif Nat.blt pc 8 then bif Nat.blt pc 7 then bif Nat.beq pc 6 then some (.istore_n 2, 7, 2, 0, 0, 0, 0) else none
  else bif Nat.beq pc 7 then some (.iconst 0, 8, 0, 0, 0, 0, 0) else none
  else bif Nat.blt pc 9 then bif Nat.beq pc 8 then some (.istore_n 3, 9, 3, 0, 0, 0, 0) else none
  else bif Nat.blt pc 10 then bif Nat.beq pc 9 then some (.iload_n 3, 10, 3, 0, 0, 0, 0) else none
  else bif Nat.beq pc 10 then some (.iload_n 2, 11, 2, 0, 0, 0, 0) else none
  else bif Nat.blt pc 19 then bif Nat.blt pc 15 then bif Nat.blt pc 14 then bif Nat.beq pc 11 then some (.if_icmp .ge 54, 14, 65, 0, 0, 0, 0) else none
  else bif Nat.beq pc 14 then some (.iconst 0, 15, 0, 0, 0, 0, 0) else none
  else bif Nat.blt pc 17 then bif Nat.beq pc 15 then some (.istore 4, 17, 4, 0, 0, 0, 0) else none
  else bif Nat.beq pc 17 then some (.iload 4, 19, 4, 0, 0, 0, 0) else none
  else bif Nat.blt pc 23 then bif Nat.blt pc 20 then bif Nat.beq pc 19 then some (.iload_n 2, 20, 2, 0, 0, 0, 0) else none
  else bif Nat.beq pc 20 then some (.if_icmp .ge 39, 23, 59, 0, 0, 0, 0) else none
  else bif Nat.blt pc 24 then bif Nat.beq pc 23 then some (.aload_n 0, 24, 0, 0, 0, 0, 0) else none
  else bif Nat.blt pc 27 then bif Nat.beq pc 24 then some (.getfield 9, 27, 5, 0, 2, 0, 0) else none
  else bif Nat.beq pc 27 then some (.iload_n 3, 28, 3, 0, 0, 0, 0) else none
  else bif Nat.blt pc 44 then bif Nat.blt pc 34 then bif Nat.blt pc 31 then bif Nat.blt pc 30 then bif Nat.beq pc 28 then some (.bipush 28, 30, 0, 0, 0, 28, 0) else none
  else bif Nat.beq pc 30 then some (.imul, 31, 0, 0, 0, 0, 0) else none
  else bif Nat.blt pc 33 then bif Nat.beq pc 31 then some (.iload 4, 33, 4, 0, 0, 0, 0) else none
  else bif Nat.beq pc 33 then some (.iadd, 34, 0, 0, 0, 0, 0) else none
  else bif Nat.blt pc 36 then bif Nat.blt pc 35 then bif Nat.beq pc 34 then some (.aload_n 1, 35, 1, 0, 0, 0, 0) else none
  else bif Nat.beq pc 35 then some (.iload_n 3, 36, 3, 0, 0, 0, 0) else none
  else bif Nat.blt pc 38 then bif Nat.beq pc 36 then some (.iload 4, 38, 4, 0, 0, 0, 0) else none
  else bif Nat.blt pc 41 then bif Nat.beq pc 38 then some (.invokevirtual 54, 41, 17, 3, 2, 0, 0) else none
  else bif Nat.beq pc 41 then some (.ifCond .eq 7, 44, 48, 0, 0, 0, 0) else none
  else bif Nat.blt pc 53 then bif Nat.blt pc 48 then bif Nat.blt pc 45 then bif Nat.beq pc 44 then some (.iconst 0, 45, 0, 0, 0, 0, 0) else none
  else bif Nat.beq pc 45 then some (.goto 5, 48, 50, 0, 0, 0, 0) else none
  else bif Nat.blt pc 50 then bif Nat.beq pc 48 then some (.ldc 58, 50, 0, 0, 0, 100000000, 0) else none
  else bif Nat.beq pc 50 then some (.invokestatic 44, 53, 107, 3, 99, 0, 0) else none
  else bif Nat.blt pc 59 then bif Nat.blt pc 56 then bif Nat.beq pc 53 then some (.iinc 4 1, 56, 4, 0, 0, 1, 0) else none
  else bif Nat.beq pc 56 then some (.goto (-39), 59, 17, 0, 0, 0, 0) else none
  else bif Nat.blt pc 62 then bif Nat.beq pc 59 then some (.iinc 3 1, 62, 3, 0, 0, 1, 0) else none
  else bif Nat.blt pc 65 then bif Nat.beq pc 62 then some (.goto (-53), 65, 9, 0, 0, 0, 0) else none
  else bif Nat.beq pc 65 then some (.return_, 66, 0, 0, 0, 0, 0) else none
def rs_X5_markTurns : PMR := (0, 0, hdl [], 5)
def mi_X5_markTurns : PMI := wrapM 66 cd_X5_markTurns rs_X5_markTurns
def cd_X5_findDeadheads (pc : Nat) : Option PE :=
  bif Nat.blt pc 65 then bif Nat.blt pc 30 then bif Nat.blt pc 11 then bif Nat.blt pc 6 then bif Nat.blt pc 2 then bif Nat.blt pc 1 then bif Nat.beq pc 0 then some (.iconst 2, 1, 0, 0, 0, 2, 0) else none
  else bif Nat.beq pc 1 then some (.aload_n 1, 2, 1, 0, 0, 0, 0) else none
  else bif Nat.blt pc 5 then bif Nat.beq pc 2 then some (.getfield 31, 5, 2, 2, 0, 0, 0) else none
  else bif Nat.beq pc 5 then some (.imul, 6, 0, 0, 0, 0, 0) else none
  else bif Nat.blt pc 8 then bif Nat.blt pc 7 then bif Nat.beq pc 6 then some (.istore_n 2, 7, 2, 0, 0, 0, 0) else none
  else bif Nat.beq pc 7 then some (.iconst 0, 8, 0, 0, 0, 0, 0) else none
  else bif Nat.blt pc 9 then bif Nat.beq pc 8 then some (.istore_n 3, 9, 3, 0, 0, 0, 0) else none
  else bif Nat.blt pc 10 then bif Nat.beq pc 9 then some (.iload_n 3, 10, 3, 0, 0, 0, 0) else none
  else bif Nat.beq pc 10 then some (.iload_n 2, 11, 2, 0, 0, 0, 0) else none
  else bif Nat.blt pc 22 then bif Nat.blt pc 15 then bif Nat.blt pc 14 then bif Nat.beq pc 11 then some (.if_icmp .ge 131, 14, 142, 0, 0, 0, 0) else none
  else bif Nat.beq pc 14 then some (.aload_n 1, 15, 1, 0, 0, 0, 0) else none
  else bif Nat.blt pc 18 then bif Nat.beq pc 15 then some (.getfield 59, 18, 2, 5, 2, 0, 0) else none
  else bif Nat.blt pc 19 then bif Nat.beq pc 18 then some (.iload_n 3, 19, 3, 0, 0, 0, 0) else none
  else bif Nat.beq pc 19 then some (.invokestatic 62, 22, 106, 2, 99, 0, 0) else none
  else bif Nat.blt pc 25 then bif Nat.blt pc 24 then bif Nat.beq pc 22 then some (.istore 4, 24, 4, 0, 0, 0, 0) else none
  else bif Nat.beq pc 24 then some (.iconst 0, 25, 0, 0, 0, 0, 0) else none
  else bif Nat.blt pc 27 then bif Nat.beq pc 25 then some (.istore 5, 27, 5, 0, 0, 0, 0) else none
  else bif Nat.blt pc 29 then bif Nat.beq pc 27 then some (.iload 5, 29, 5, 0, 0, 0, 0) else none
  else bif Nat.beq pc 29 then some (.iload_n 2, 30, 2, 0, 0, 0, 0) else none
  else bif Nat.blt pc 47 then bif Nat.blt pc 39 then bif Nat.blt pc 34 then bif Nat.blt pc 33 then bif Nat.beq pc 30 then some (.if_icmp .ge 106, 33, 136, 0, 0, 0, 0) else none
  else bif Nat.beq pc 33 then some (.aload_n 0, 34, 0, 0, 0, 0, 0) else none
  else bif Nat.blt pc 37 then bif Nat.beq pc 34 then some (.getfield 9, 37, 5, 0, 2, 0, 0) else none
  else bif Nat.beq pc 37 then some (.iload 5, 39, 5, 0, 0, 0, 0) else none
  else bif Nat.blt pc 42 then bif Nat.blt pc 41 then bif Nat.beq pc 39 then some (.bipush 28, 41, 0, 0, 0, 28, 0) else none
  else bif Nat.beq pc 41 then some (.imul, 42, 0, 0, 0, 0, 0) else none
  else bif Nat.blt pc 43 then bif Nat.beq pc 42 then some (.iload_n 3, 43, 3, 0, 0, 0, 0) else none
  else bif Nat.blt pc 44 then bif Nat.beq pc 43 then some (.iadd, 44, 0, 0, 0, 0, 0) else none
  else bif Nat.beq pc 44 then some (.invokestatic 62, 47, 106, 2, 99, 0, 0) else none
  else bif Nat.blt pc 55 then bif Nat.blt pc 50 then bif Nat.blt pc 49 then bif Nat.beq pc 47 then some (.iload 4, 49, 4, 0, 0, 0, 0) else none
  else bif Nat.beq pc 49 then some (.iadd, 50, 0, 0, 0, 0, 0) else none
  else bif Nat.blt pc 52 then bif Nat.beq pc 50 then some (.istore 6, 52, 6, 0, 0, 0, 0) else none
  else bif Nat.blt pc 53 then bif Nat.beq pc 52 then some (.iconst 0, 53, 0, 0, 0, 0, 0) else none
  else bif Nat.beq pc 53 then some (.istore 7, 55, 7, 0, 0, 0, 0) else none
  else bif Nat.blt pc 59 then bif Nat.blt pc 57 then bif Nat.beq pc 55 then some (.iload 6, 57, 6, 0, 0, 0, 0) else none
  else bif Nat.beq pc 57 then some (.ldc 58, 59, 0, 0, 0, 100000000, 0) else none
  else bif Nat.blt pc 62 then bif Nat.beq pc 59 then some (.if_icmp .ge 71, 62, 130, 0, 0, 0, 0) else none
  else bif Nat.blt pc 64 then bif Nat.beq pc 62 then some (.iload 7, 64, 7, 0, 0, 0, 0) else none
  else bif Nat.beq pc 64 then some (.iload_n 2, 65, 2, 0, 0, 0, 0) else none
  else bif Nat.blt pc 100 then bif Nat.blt pc 81 then bif Nat.blt pc 74 then bif Nat.blt pc 70 then bif Nat.blt pc 68 then bif Nat.beq pc 65 then some (.if_icmp .ge 65, 68, 130, 0, 0, 0, 0) else none
  else bif Nat.beq pc 68 then some (.iload 6, 70, 6, 0, 0, 0, 0) else none
  else bif Nat.blt pc 71 then bif Nat.beq pc 70 then some (.aload_n 0, 71, 0, 0, 0, 0, 0) else none
  else bif Nat.beq pc 71 then some (.getfield 9, 74, 5, 0, 2, 0, 0) else none
  else bif Nat.blt pc 77 then bif Nat.blt pc 75 then bif Nat.beq pc 74 then some (.iload_n 3, 75, 3, 0, 0, 0, 0) else none
  else bif Nat.beq pc 75 then some (.bipush 28, 77, 0, 0, 0, 28, 0) else none
  else bif Nat.blt pc 78 then bif Nat.beq pc 77 then some (.imul, 78, 0, 0, 0, 0, 0) else none
  else bif Nat.blt pc 80 then bif Nat.beq pc 78 then some (.iload 7, 80, 7, 0, 0, 0, 0) else none
  else bif Nat.beq pc 80 then some (.iadd, 81, 0, 0, 0, 0, 0) else none
  else bif Nat.blt pc 90 then bif Nat.blt pc 85 then bif Nat.blt pc 84 then bif Nat.beq pc 81 then some (.invokestatic 62, 84, 106, 2, 99, 0, 0) else none
  else bif Nat.beq pc 84 then some (.iadd, 85, 0, 0, 0, 0, 0) else none
  else bif Nat.blt pc 87 then bif Nat.beq pc 85 then some (.istore 8, 87, 8, 0, 0, 0, 0) else none
  else bif Nat.blt pc 89 then bif Nat.beq pc 87 then some (.iload 8, 89, 8, 0, 0, 0, 0) else none
  else bif Nat.beq pc 89 then some (.aload_n 0, 90, 0, 0, 0, 0, 0) else none
  else bif Nat.blt pc 95 then bif Nat.blt pc 93 then bif Nat.beq pc 90 then some (.getfield 9, 93, 5, 0, 2, 0, 0) else none
  else bif Nat.beq pc 93 then some (.iload 5, 95, 5, 0, 0, 0, 0) else none
  else bif Nat.blt pc 97 then bif Nat.beq pc 95 then some (.bipush 28, 97, 0, 0, 0, 28, 0) else none
  else bif Nat.blt pc 98 then bif Nat.beq pc 97 then some (.imul, 98, 0, 0, 0, 0, 0) else none
  else bif Nat.beq pc 98 then some (.iload 7, 100, 7, 0, 0, 0, 0) else none
  else bif Nat.blt pc 118 then bif Nat.blt pc 108 then bif Nat.blt pc 104 then bif Nat.blt pc 101 then bif Nat.beq pc 100 then some (.iadd, 101, 0, 0, 0, 0, 0) else none
  else bif Nat.beq pc 101 then some (.invokestatic 62, 104, 106, 2, 99, 0, 0) else none
  else bif Nat.blt pc 107 then bif Nat.beq pc 104 then some (.if_icmp .ge 20, 107, 124, 0, 0, 0, 0) else none
  else bif Nat.beq pc 107 then some (.aload_n 0, 108, 0, 0, 0, 0, 0) else none
  else bif Nat.blt pc 113 then bif Nat.blt pc 111 then bif Nat.beq pc 108 then some (.getfield 9, 111, 5, 0, 2, 0, 0) else none
  else bif Nat.beq pc 111 then some (.iload 5, 113, 5, 0, 0, 0, 0) else none
  else bif Nat.blt pc 115 then bif Nat.beq pc 113 then some (.bipush 28, 115, 0, 0, 0, 28, 0) else none
  else bif Nat.blt pc 116 then bif Nat.beq pc 115 then some (.imul, 116, 0, 0, 0, 0, 0) else none
  else bif Nat.beq pc 116 then some (.iload 7, 118, 7, 0, 0, 0, 0) else none
  else bif Nat.blt pc 130 then bif Nat.blt pc 121 then bif Nat.blt pc 119 then bif Nat.beq pc 118 then some (.iadd, 119, 0, 0, 0, 0, 0) else none
  else bif Nat.beq pc 119 then some (.iload 8, 121, 8, 0, 0, 0, 0) else none
  else bif Nat.blt pc 124 then bif Nat.beq pc 121 then some (.invokestatic 44, 124, 107, 3, 99, 0, 0) else none
  else bif Nat.blt pc 127 then bif Nat.beq pc 124 then some (.iinc 7 1, 127, 7, 0, 0, 1, 0) else none
  else bif Nat.beq pc 127 then some (.goto (-72), 130, 55, 0, 0, 0, 0) else none
  else bif Nat.blt pc 136 then bif Nat.blt pc 133 then bif Nat.beq pc 130 then some (.iinc 5 1, 133, 5, 0, 0, 1, 0) else none
  else bif Nat.beq pc 133 then some (.goto (-106), 136, 27, 0, 0, 0, 0) else none
  else bif Nat.blt pc 139 then bif Nat.beq pc 136 then some (.iinc 3 1, 139, 3, 0, 0, 1, 0) else none
  else bif Nat.blt pc 142 then bif Nat.beq pc 139 then some (.goto (-130), 142, 9, 0, 0, 0, 0) else none
  else bif Nat.beq pc 142 then some (.return_, 143, 0, 0, 0, 0, 0) else none
def rs_X5_findDeadheads : PMR := (0, 0, hdl [], 9)
def mi_X5_findDeadheads : PMI := wrapM 143 cd_X5_findDeadheads rs_X5_findDeadheads
def cd_X5_approach (pc : Nat) : Option PE :=
  bif Nat.blt pc 36 then bif Nat.blt pc 16 then bif Nat.blt pc 9 then bif Nat.blt pc 2 then bif Nat.blt pc 1 then bif Nat.beq pc 0 then some (.aload_n 1, 1, 1, 0, 0, 0, 0) else none
  else bif Nat.beq pc 1 then some (.iload_n 3, 2, 3, 0, 0, 0, 0) else none
  else bif Nat.blt pc 5 then bif Nat.beq pc 2 then some (.invokevirtual 66, 5, 14, 2, 2, 0, 0) else none
  else bif Nat.blt pc 6 then bif Nat.beq pc 5 then some (.iload_n 2, 6, 2, 0, 0, 0, 0) else none
  else bif Nat.beq pc 6 then some (.if_icmp .ne 5, 9, 11, 0, 0, 0, 0) else none
  else bif Nat.blt pc 11 then bif Nat.blt pc 10 then bif Nat.beq pc 9 then some (.iconst 0, 10, 0, 0, 0, 0, 0) else none
  else bif Nat.beq pc 10 then some (.ireturn, 11, 0, 0, 0, 0, 0) else none
  else bif Nat.blt pc 13 then bif Nat.beq pc 11 then some (.ldc 58, 13, 0, 0, 0, 100000000, 0) else none
  else bif Nat.blt pc 15 then bif Nat.beq pc 13 then some (.istore 4, 15, 4, 0, 0, 0, 0) else none
  else bif Nat.beq pc 15 then some (.iconst 0, 16, 0, 0, 0, 0, 0) else none
  else bif Nat.blt pc 25 then bif Nat.blt pc 20 then bif Nat.blt pc 18 then bif Nat.beq pc 16 then some (.istore 5, 18, 5, 0, 0, 0, 0) else none
  else bif Nat.beq pc 18 then some (.iload 5, 20, 5, 0, 0, 0, 0) else none
  else bif Nat.blt pc 21 then bif Nat.beq pc 20 then some (.iconst 2, 21, 0, 0, 0, 2, 0) else none
  else bif Nat.blt pc 22 then bif Nat.beq pc 21 then some (.aload_n 1, 22, 1, 0, 0, 0, 0) else none
  else bif Nat.beq pc 22 then some (.getfield 31, 25, 2, 2, 0, 0, 0) else none
  else bif Nat.blt pc 30 then bif Nat.blt pc 26 then bif Nat.beq pc 25 then some (.imul, 26, 0, 0, 0, 0, 0) else none
  else bif Nat.blt pc 29 then bif Nat.beq pc 26 then some (.if_icmp .ge 50, 29, 76, 0, 0, 0, 0) else none
  else bif Nat.beq pc 29 then some (.aload_n 1, 30, 1, 0, 0, 0, 0) else none
  else bif Nat.blt pc 32 then bif Nat.beq pc 30 then some (.iload 5, 32, 5, 0, 0, 0, 0) else none
  else bif Nat.blt pc 35 then bif Nat.beq pc 32 then some (.invokevirtual 66, 35, 14, 2, 2, 0, 0) else none
  else bif Nat.beq pc 35 then some (.iload_n 2, 36, 2, 0, 0, 0, 0) else none
  else bif Nat.blt pc 58 then bif Nat.blt pc 47 then bif Nat.blt pc 41 then bif Nat.blt pc 39 then bif Nat.beq pc 36 then some (.if_icmp .ne 34, 39, 70, 0, 0, 0, 0) else none
  else bif Nat.beq pc 39 then some (.iload 4, 41, 4, 0, 0, 0, 0) else none
  else bif Nat.blt pc 42 then bif Nat.beq pc 41 then some (.aload_n 1, 42, 1, 0, 0, 0, 0) else none
  else bif Nat.blt pc 45 then bif Nat.beq pc 42 then some (.getfield 59, 45, 2, 5, 2, 0, 0) else none
  else bif Nat.beq pc 45 then some (.iload 5, 47, 5, 0, 0, 0, 0) else none
  else bif Nat.blt pc 51 then bif Nat.blt pc 50 then bif Nat.beq pc 47 then some (.invokestatic 62, 50, 106, 2, 99, 0, 0) else none
  else bif Nat.beq pc 50 then some (.aload_n 0, 51, 0, 0, 0, 0, 0) else none
  else bif Nat.blt pc 54 then bif Nat.beq pc 51 then some (.getfield 9, 54, 5, 0, 2, 0, 0) else none
  else bif Nat.blt pc 56 then bif Nat.beq pc 54 then some (.iload 5, 56, 5, 0, 0, 0, 0) else none
  else bif Nat.beq pc 56 then some (.bipush 28, 58, 0, 0, 0, 28, 0) else none
  else bif Nat.blt pc 65 then bif Nat.blt pc 60 then bif Nat.blt pc 59 then bif Nat.beq pc 58 then some (.imul, 59, 0, 0, 0, 0, 0) else none
  else bif Nat.beq pc 59 then some (.iload_n 3, 60, 3, 0, 0, 0, 0) else none
  else bif Nat.blt pc 61 then bif Nat.beq pc 60 then some (.iadd, 61, 0, 0, 0, 0, 0) else none
  else bif Nat.blt pc 64 then bif Nat.beq pc 61 then some (.invokestatic 62, 64, 106, 2, 99, 0, 0) else none
  else bif Nat.beq pc 64 then some (.iadd, 65, 0, 0, 0, 0, 0) else none
  else bif Nat.blt pc 73 then bif Nat.blt pc 68 then bif Nat.beq pc 65 then some (.invokestatic 70, 68, 0, 0, 100, 0, 0) else none
  else bif Nat.blt pc 70 then bif Nat.beq pc 68 then some (.istore 4, 70, 4, 0, 0, 0, 0) else none
  else bif Nat.beq pc 70 then some (.iinc 5 1, 73, 5, 0, 0, 1, 0) else none
  else bif Nat.blt pc 76 then bif Nat.beq pc 73 then some (.goto (-55), 76, 18, 0, 0, 0, 0) else none
  else bif Nat.blt pc 78 then bif Nat.beq pc 76 then some (.iload 4, 78, 4, 0, 0, 0, 0) else none
  else bif Nat.beq pc 78 then some (.ireturn, 79, 0, 0, 0, 0, 0) else none
def rs_X5_approach : PMR := (1, 0, hdl [], 6)
def mi_X5_approach : PMI := wrapM 79 cd_X5_approach rs_X5_approach
def cd_X5_returnTo (pc : Nat) : Option PE :=
  bif Nat.blt pc 36 then bif Nat.blt pc 16 then bif Nat.blt pc 9 then bif Nat.blt pc 2 then bif Nat.blt pc 1 then bif Nat.beq pc 0 then some (.aload_n 1, 1, 1, 0, 0, 0, 0) else none
  else bif Nat.beq pc 1 then some (.iload_n 2, 2, 2, 0, 0, 0, 0) else none
  else bif Nat.blt pc 5 then bif Nat.beq pc 2 then some (.invokevirtual 76, 5, 15, 2, 2, 0, 0) else none
  else bif Nat.blt pc 6 then bif Nat.beq pc 5 then some (.iload_n 3, 6, 3, 0, 0, 0, 0) else none
  else bif Nat.beq pc 6 then some (.if_icmp .ne 5, 9, 11, 0, 0, 0, 0) else none
  else bif Nat.blt pc 11 then bif Nat.blt pc 10 then bif Nat.beq pc 9 then some (.iconst 0, 10, 0, 0, 0, 0, 0) else none
  else bif Nat.beq pc 10 then some (.ireturn, 11, 0, 0, 0, 0, 0) else none
  else bif Nat.blt pc 13 then bif Nat.beq pc 11 then some (.ldc 58, 13, 0, 0, 0, 100000000, 0) else none
  else bif Nat.blt pc 15 then bif Nat.beq pc 13 then some (.istore 4, 15, 4, 0, 0, 0, 0) else none
  else bif Nat.beq pc 15 then some (.iconst 0, 16, 0, 0, 0, 0, 0) else none
  else bif Nat.blt pc 25 then bif Nat.blt pc 20 then bif Nat.blt pc 18 then bif Nat.beq pc 16 then some (.istore 5, 18, 5, 0, 0, 0, 0) else none
  else bif Nat.beq pc 18 then some (.iload 5, 20, 5, 0, 0, 0, 0) else none
  else bif Nat.blt pc 21 then bif Nat.beq pc 20 then some (.iconst 2, 21, 0, 0, 0, 2, 0) else none
  else bif Nat.blt pc 22 then bif Nat.beq pc 21 then some (.aload_n 1, 22, 1, 0, 0, 0, 0) else none
  else bif Nat.beq pc 22 then some (.getfield 31, 25, 2, 2, 0, 0, 0) else none
  else bif Nat.blt pc 30 then bif Nat.blt pc 26 then bif Nat.beq pc 25 then some (.imul, 26, 0, 0, 0, 0, 0) else none
  else bif Nat.blt pc 29 then bif Nat.beq pc 26 then some (.if_icmp .ge 50, 29, 76, 0, 0, 0, 0) else none
  else bif Nat.beq pc 29 then some (.aload_n 1, 30, 1, 0, 0, 0, 0) else none
  else bif Nat.blt pc 32 then bif Nat.beq pc 30 then some (.iload 5, 32, 5, 0, 0, 0, 0) else none
  else bif Nat.blt pc 35 then bif Nat.beq pc 32 then some (.invokevirtual 76, 35, 15, 2, 2, 0, 0) else none
  else bif Nat.beq pc 35 then some (.iload_n 3, 36, 3, 0, 0, 0, 0) else none
  else bif Nat.blt pc 55 then bif Nat.blt pc 46 then bif Nat.blt pc 41 then bif Nat.blt pc 39 then bif Nat.beq pc 36 then some (.if_icmp .ne 34, 39, 70, 0, 0, 0, 0) else none
  else bif Nat.beq pc 39 then some (.iload 4, 41, 4, 0, 0, 0, 0) else none
  else bif Nat.blt pc 42 then bif Nat.beq pc 41 then some (.aload_n 0, 42, 0, 0, 0, 0, 0) else none
  else bif Nat.blt pc 45 then bif Nat.beq pc 42 then some (.getfield 9, 45, 5, 0, 2, 0, 0) else none
  else bif Nat.beq pc 45 then some (.iload_n 2, 46, 2, 0, 0, 0, 0) else none
  else bif Nat.blt pc 49 then bif Nat.blt pc 48 then bif Nat.beq pc 46 then some (.bipush 28, 48, 0, 0, 0, 28, 0) else none
  else bif Nat.beq pc 48 then some (.imul, 49, 0, 0, 0, 0, 0) else none
  else bif Nat.blt pc 51 then bif Nat.beq pc 49 then some (.iload 5, 51, 5, 0, 0, 0, 0) else none
  else bif Nat.blt pc 52 then bif Nat.beq pc 51 then some (.iadd, 52, 0, 0, 0, 0, 0) else none
  else bif Nat.beq pc 52 then some (.invokestatic 62, 55, 106, 2, 99, 0, 0) else none
  else bif Nat.blt pc 65 then bif Nat.blt pc 59 then bif Nat.blt pc 56 then bif Nat.beq pc 55 then some (.aload_n 1, 56, 1, 0, 0, 0, 0) else none
  else bif Nat.beq pc 56 then some (.getfield 59, 59, 2, 5, 2, 0, 0) else none
  else bif Nat.blt pc 61 then bif Nat.beq pc 59 then some (.iload 5, 61, 5, 0, 0, 0, 0) else none
  else bif Nat.blt pc 64 then bif Nat.beq pc 61 then some (.invokestatic 62, 64, 106, 2, 99, 0, 0) else none
  else bif Nat.beq pc 64 then some (.iadd, 65, 0, 0, 0, 0, 0) else none
  else bif Nat.blt pc 73 then bif Nat.blt pc 68 then bif Nat.beq pc 65 then some (.invokestatic 70, 68, 0, 0, 100, 0, 0) else none
  else bif Nat.blt pc 70 then bif Nat.beq pc 68 then some (.istore 4, 70, 4, 0, 0, 0, 0) else none
  else bif Nat.beq pc 70 then some (.iinc 5 1, 73, 5, 0, 0, 1, 0) else none
  else bif Nat.blt pc 76 then bif Nat.beq pc 73 then some (.goto (-55), 76, 18, 0, 0, 0, 0) else none
  else bif Nat.blt pc 78 then bif Nat.beq pc 76 then some (.iload 4, 78, 4, 0, 0, 0, 0) else none
  else bif Nat.beq pc 78 then some (.ireturn, 79, 0, 0, 0, 0, 0) else none
def rs_X5_returnTo : PMR := (1, 0, hdl [], 6)
def mi_X5_returnTo : PMI := wrapM 79 cd_X5_returnTo rs_X5_returnTo
def cd_X5_between (pc : Nat) : Option PE :=
  bif Nat.blt pc 35 then bif Nat.blt pc 16 then bif Nat.blt pc 7 then bif Nat.blt pc 2 then bif Nat.blt pc 1 then bif Nat.beq pc 0 then some (.iload_n 2, 1, 2, 0, 0, 0, 0) else none
  else bif Nat.beq pc 1 then some (.iload_n 3, 2, 3, 0, 0, 0, 0) else none
  else bif Nat.blt pc 5 then bif Nat.beq pc 2 then some (.if_icmp .ne 5, 5, 7, 0, 0, 0, 0) else none
  else bif Nat.blt pc 6 then bif Nat.beq pc 5 then some (.iconst 0, 6, 0, 0, 0, 0, 0) else none
  else bif Nat.beq pc 6 then some (.ireturn, 7, 0, 0, 0, 0, 0) else none
  else bif Nat.blt pc 11 then bif Nat.blt pc 9 then bif Nat.beq pc 7 then some (.ldc 58, 9, 0, 0, 0, 100000000, 0) else none
  else bif Nat.beq pc 9 then some (.istore 4, 11, 4, 0, 0, 0, 0) else none
  else bif Nat.blt pc 12 then bif Nat.beq pc 11 then some (.iconst 0, 12, 0, 0, 0, 0, 0) else none
  else bif Nat.blt pc 14 then bif Nat.beq pc 12 then some (.istore 5, 14, 5, 0, 0, 0, 0) else none
  else bif Nat.beq pc 14 then some (.iload 5, 16, 5, 0, 0, 0, 0) else none
  else bif Nat.blt pc 25 then bif Nat.blt pc 18 then bif Nat.blt pc 17 then bif Nat.beq pc 16 then some (.iconst 2, 17, 0, 0, 0, 2, 0) else none
  else bif Nat.beq pc 17 then some (.aload_n 1, 18, 1, 0, 0, 0, 0) else none
  else bif Nat.blt pc 21 then bif Nat.beq pc 18 then some (.getfield 31, 21, 2, 2, 0, 0, 0) else none
  else bif Nat.blt pc 22 then bif Nat.beq pc 21 then some (.imul, 22, 0, 0, 0, 0, 0) else none
  else bif Nat.beq pc 22 then some (.if_icmp .ge 50, 25, 72, 0, 0, 0, 0) else none
  else bif Nat.blt pc 28 then bif Nat.blt pc 26 then bif Nat.beq pc 25 then some (.aload_n 1, 26, 1, 0, 0, 0, 0) else none
  else bif Nat.beq pc 26 then some (.iload 5, 28, 5, 0, 0, 0, 0) else none
  else bif Nat.blt pc 31 then bif Nat.beq pc 28 then some (.invokevirtual 66, 31, 14, 2, 2, 0, 0) else none
  else bif Nat.blt pc 32 then bif Nat.beq pc 31 then some (.iload_n 2, 32, 2, 0, 0, 0, 0) else none
  else bif Nat.beq pc 32 then some (.if_icmp .ne 34, 35, 66, 0, 0, 0, 0) else none
  else bif Nat.blt pc 55 then bif Nat.blt pc 46 then bif Nat.blt pc 38 then bif Nat.blt pc 37 then bif Nat.beq pc 35 then some (.iload 4, 37, 4, 0, 0, 0, 0) else none
  else bif Nat.beq pc 37 then some (.aload_n 1, 38, 1, 0, 0, 0, 0) else none
  else bif Nat.blt pc 41 then bif Nat.beq pc 38 then some (.getfield 59, 41, 2, 5, 2, 0, 0) else none
  else bif Nat.blt pc 43 then bif Nat.beq pc 41 then some (.iload 5, 43, 5, 0, 0, 0, 0) else none
  else bif Nat.beq pc 43 then some (.invokestatic 62, 46, 106, 2, 99, 0, 0) else none
  else bif Nat.blt pc 50 then bif Nat.blt pc 47 then bif Nat.beq pc 46 then some (.aload_n 0, 47, 0, 0, 0, 0, 0) else none
  else bif Nat.beq pc 47 then some (.getfield 18, 50, 5, 2, 2, 0, 0) else none
  else bif Nat.blt pc 52 then bif Nat.beq pc 50 then some (.iload 5, 52, 5, 0, 0, 0, 0) else none
  else bif Nat.blt pc 54 then bif Nat.beq pc 52 then some (.bipush 8, 54, 0, 0, 0, 8, 0) else none
  else bif Nat.beq pc 54 then some (.imul, 55, 0, 0, 0, 0, 0) else none
  else bif Nat.blt pc 64 then bif Nat.blt pc 57 then bif Nat.blt pc 56 then bif Nat.beq pc 55 then some (.iload_n 3, 56, 3, 0, 0, 0, 0) else none
  else bif Nat.beq pc 56 then some (.iadd, 57, 0, 0, 0, 0, 0) else none
  else bif Nat.blt pc 60 then bif Nat.beq pc 57 then some (.invokestatic 62, 60, 106, 2, 99, 0, 0) else none
  else bif Nat.blt pc 61 then bif Nat.beq pc 60 then some (.iadd, 61, 0, 0, 0, 0, 0) else none
  else bif Nat.beq pc 61 then some (.invokestatic 70, 64, 0, 0, 100, 0, 0) else none
  else bif Nat.blt pc 69 then bif Nat.blt pc 66 then bif Nat.beq pc 64 then some (.istore 4, 66, 4, 0, 0, 0, 0) else none
  else bif Nat.beq pc 66 then some (.iinc 5 1, 69, 5, 0, 0, 1, 0) else none
  else bif Nat.blt pc 72 then bif Nat.beq pc 69 then some (.goto (-55), 72, 14, 0, 0, 0, 0) else none
  else bif Nat.blt pc 74 then bif Nat.beq pc 72 then some (.iload 4, 74, 4, 0, 0, 0, 0) else none
  else bif Nat.beq pc 74 then some (.ireturn, 75, 0, 0, 0, 0, 0) else none
def rs_X5_between : PMR := (1, 0, hdl [], 6)
def mi_X5_between : PMI := wrapM 75 cd_X5_between rs_X5_between
def cd_X5_cheapestPairs (pc : Nat) : Option PE :=
  bif Nat.blt pc 55 then bif Nat.blt pc 25 then bif Nat.blt pc 13 then bif Nat.blt pc 6 then bif Nat.blt pc 4 then bif Nat.blt pc 1 then bif Nat.beq pc 0 then some (.iload_n 1, 1, 1, 0, 0, 0, 0) else none
  else bif Nat.beq pc 1 then some (.ifCond .ne 5, 4, 6, 0, 0, 0, 0) else none
  else bif Nat.blt pc 5 then bif Nat.beq pc 4 then some (.iconst 0, 5, 0, 0, 0, 0, 0) else none
  else bif Nat.beq pc 5 then some (.ireturn, 6, 0, 0, 0, 0, 0) else none
  else bif Nat.blt pc 10 then bif Nat.blt pc 7 then bif Nat.beq pc 6 then some (.iload_n 1, 7, 1, 0, 0, 0, 0) else none
  else bif Nat.beq pc 7 then some (.invokestatic 79, 10, 48, 1, 99, 0, 0) else none
  else bif Nat.blt pc 11 then bif Nat.beq pc 10 then some (.istore_n 3, 11, 3, 0, 0, 0, 0) else none
  else bif Nat.blt pc 12 then bif Nat.beq pc 11 then some (.iload_n 1, 12, 1, 0, 0, 0, 0) else none
  else bif Nat.beq pc 12 then some (.iconst 1, 13, 0, 0, 0, 1, 0) else none
  else bif Nat.blt pc 17 then bif Nat.blt pc 15 then bif Nat.blt pc 14 then bif Nat.beq pc 13 then some (.iload_n 3, 14, 3, 0, 0, 0, 0) else none
  else bif Nat.beq pc 14 then some (.ishl, 15, 0, 0, 0, 0, 0) else none
  else bif Nat.blt pc 16 then bif Nat.beq pc 15 then some (.iconst (-1), 16, 0, 0, 0, (-1), 0) else none
  else bif Nat.beq pc 16 then some (.ixor, 17, 0, 0, 0, 0, 0) else none
  else bif Nat.blt pc 20 then bif Nat.blt pc 18 then bif Nat.beq pc 17 then some (.iand, 18, 0, 0, 0, 0, 0) else none
  else bif Nat.beq pc 18 then some (.istore 4, 20, 4, 0, 0, 0, 0) else none
  else bif Nat.blt pc 22 then bif Nat.beq pc 20 then some (.ldc 58, 22, 0, 0, 0, 100000000, 0) else none
  else bif Nat.blt pc 24 then bif Nat.beq pc 22 then some (.istore 5, 24, 5, 0, 0, 0, 0) else none
  else bif Nat.beq pc 24 then some (.iload_n 3, 25, 3, 0, 0, 0, 0) else none
  else bif Nat.blt pc 41 then bif Nat.blt pc 31 then bif Nat.blt pc 27 then bif Nat.blt pc 26 then bif Nat.beq pc 25 then some (.iconst 1, 26, 0, 0, 0, 1, 0) else none
  else bif Nat.beq pc 26 then some (.iadd, 27, 0, 0, 0, 0, 0) else none
  else bif Nat.blt pc 29 then bif Nat.beq pc 27 then some (.istore 6, 29, 6, 0, 0, 0, 0) else none
  else bif Nat.beq pc 29 then some (.iload 6, 31, 6, 0, 0, 0, 0) else none
  else bif Nat.blt pc 36 then bif Nat.blt pc 33 then bif Nat.beq pc 31 then some (.bipush 8, 33, 0, 0, 0, 8, 0) else none
  else bif Nat.beq pc 33 then some (.if_icmp .ge 81, 36, 114, 0, 0, 0, 0) else none
  else bif Nat.blt pc 37 then bif Nat.beq pc 36 then some (.iload_n 2, 37, 2, 0, 0, 0, 0) else none
  else bif Nat.blt pc 38 then bif Nat.beq pc 37 then some (.iconst 4, 38, 0, 0, 0, 4, 0) else none
  else bif Nat.beq pc 38 then some (.if_icmp .ge 76, 41, 114, 0, 0, 0, 0) else none
  else bif Nat.blt pc 47 then bif Nat.blt pc 45 then bif Nat.blt pc 43 then bif Nat.beq pc 41 then some (.iload 4, 43, 4, 0, 0, 0, 0) else none
  else bif Nat.beq pc 43 then some (.iload 6, 45, 6, 0, 0, 0, 0) else none
  else bif Nat.blt pc 46 then bif Nat.beq pc 45 then some (.ishr, 46, 0, 0, 0, 0, 0) else none
  else bif Nat.beq pc 46 then some (.iconst 1, 47, 0, 0, 0, 1, 0) else none
  else bif Nat.blt pc 51 then bif Nat.blt pc 48 then bif Nat.beq pc 47 then some (.iand, 48, 0, 0, 0, 0, 0) else none
  else bif Nat.beq pc 48 then some (.ifCond .eq 60, 51, 108, 0, 0, 0, 0) else none
  else bif Nat.blt pc 52 then bif Nat.beq pc 51 then some (.aload_n 0, 52, 0, 0, 0, 0, 0) else none
  else bif Nat.blt pc 53 then bif Nat.beq pc 52 then some (.iload_n 3, 53, 3, 0, 0, 0, 0) else none
  else bif Nat.beq pc 53 then some (.bipush 8, 55, 0, 0, 0, 8, 0) else none
  else bif Nat.blt pc 85 then bif Nat.blt pc 69 then bif Nat.blt pc 62 then bif Nat.blt pc 58 then bif Nat.blt pc 56 then bif Nat.beq pc 55 then some (.imul, 56, 0, 0, 0, 0, 0) else none
  else bif Nat.beq pc 56 then some (.iload 6, 58, 6, 0, 0, 0, 0) else none
  else bif Nat.blt pc 59 then bif Nat.beq pc 58 then some (.iadd, 59, 0, 0, 0, 0, 0) else none
  else bif Nat.beq pc 59 then some (.invokestatic 62, 62, 106, 2, 99, 0, 0) else none
  else bif Nat.blt pc 65 then bif Nat.blt pc 63 then bif Nat.beq pc 62 then some (.aload_n 0, 63, 0, 0, 0, 0, 0) else none
  else bif Nat.beq pc 63 then some (.iload 6, 65, 6, 0, 0, 0, 0) else none
  else bif Nat.blt pc 67 then bif Nat.beq pc 65 then some (.bipush 8, 67, 0, 0, 0, 8, 0) else none
  else bif Nat.blt pc 68 then bif Nat.beq pc 67 then some (.imul, 68, 0, 0, 0, 0, 0) else none
  else bif Nat.beq pc 68 then some (.iload_n 3, 69, 3, 0, 0, 0, 0) else none
  else bif Nat.blt pc 78 then bif Nat.blt pc 73 then bif Nat.blt pc 70 then bif Nat.beq pc 69 then some (.iadd, 70, 0, 0, 0, 0, 0) else none
  else bif Nat.beq pc 70 then some (.invokestatic 62, 73, 106, 2, 99, 0, 0) else none
  else bif Nat.blt pc 76 then bif Nat.beq pc 73 then some (.invokestatic 70, 76, 0, 0, 100, 0, 0) else none
  else bif Nat.beq pc 76 then some (.istore 7, 78, 7, 0, 0, 0, 0) else none
  else bif Nat.blt pc 81 then bif Nat.blt pc 79 then bif Nat.beq pc 78 then some (.aload_n 0, 79, 0, 0, 0, 0, 0) else none
  else bif Nat.beq pc 79 then some (.iload 4, 81, 4, 0, 0, 0, 0) else none
  else bif Nat.blt pc 82 then bif Nat.beq pc 81 then some (.iconst 1, 82, 0, 0, 0, 1, 0) else none
  else bif Nat.blt pc 84 then bif Nat.beq pc 82 then some (.iload 6, 84, 6, 0, 0, 0, 0) else none
  else bif Nat.beq pc 84 then some (.ishl, 85, 0, 0, 0, 0, 0) else none
  else bif Nat.blt pc 98 then bif Nat.blt pc 89 then bif Nat.blt pc 87 then bif Nat.blt pc 86 then bif Nat.beq pc 85 then some (.iconst (-1), 86, 0, 0, 0, (-1), 0) else none
  else bif Nat.beq pc 86 then some (.ixor, 87, 0, 0, 0, 0, 0) else none
  else bif Nat.blt pc 88 then bif Nat.beq pc 87 then some (.iand, 88, 0, 0, 0, 0, 0) else none
  else bif Nat.beq pc 88 then some (.iload_n 2, 89, 2, 0, 0, 0, 0) else none
  else bif Nat.blt pc 91 then bif Nat.blt pc 90 then bif Nat.beq pc 89 then some (.iconst 1, 90, 0, 0, 0, 1, 0) else none
  else bif Nat.beq pc 90 then some (.iadd, 91, 0, 0, 0, 0, 0) else none
  else bif Nat.blt pc 94 then bif Nat.beq pc 91 then some (.invokestatic 82, 94, 47, 3, 99, 0, 0) else none
  else bif Nat.blt pc 96 then bif Nat.beq pc 94 then some (.istore 8, 96, 8, 0, 0, 0, 0) else none
  else bif Nat.beq pc 96 then some (.iload 5, 98, 5, 0, 0, 0, 0) else none
  else bif Nat.blt pc 106 then bif Nat.blt pc 102 then bif Nat.blt pc 100 then bif Nat.beq pc 98 then some (.iload 7, 100, 7, 0, 0, 0, 0) else none
  else bif Nat.beq pc 100 then some (.iload 8, 102, 8, 0, 0, 0, 0) else none
  else bif Nat.blt pc 103 then bif Nat.beq pc 102 then some (.iadd, 103, 0, 0, 0, 0, 0) else none
  else bif Nat.beq pc 103 then some (.invokestatic 70, 106, 0, 0, 100, 0, 0) else none
  else bif Nat.blt pc 111 then bif Nat.blt pc 108 then bif Nat.beq pc 106 then some (.istore 5, 108, 5, 0, 0, 0, 0) else none
  else bif Nat.beq pc 108 then some (.iinc 6 1, 111, 6, 0, 0, 1, 0) else none
  else bif Nat.blt pc 114 then bif Nat.beq pc 111 then some (.goto (-82), 114, 29, 0, 0, 0, 0) else none
  else bif Nat.blt pc 116 then bif Nat.beq pc 114 then some (.iload 5, 116, 5, 0, 0, 0, 0) else none
  else bif Nat.beq pc 116 then some (.ireturn, 117, 0, 0, 0, 0, 0) else none
def rs_X5_cheapestPairs : PMR := (1, 0, hdl [], 9)
def mi_X5_cheapestPairs : PMI := wrapM 117 cd_X5_cheapestPairs rs_X5_cheapestPairs
def cd_X5_lowestIn (pc : Nat) : Option PE :=
  bif Nat.blt pc 11 then bif Nat.blt pc 5 then bif Nat.blt pc 2 then bif Nat.blt pc 1 then bif Nat.beq pc 0 then some (.iconst 0, 1, 0, 0, 0, 0, 0) else none
  else bif Nat.beq pc 1 then some (.istore_n 1, 2, 1, 0, 0, 0, 0) else none
  else bif Nat.blt pc 3 then bif Nat.beq pc 2 then some (.iload_n 1, 3, 1, 0, 0, 0, 0) else none
  else bif Nat.beq pc 3 then some (.bipush 8, 5, 0, 0, 0, 8, 0) else none
  else bif Nat.blt pc 9 then bif Nat.blt pc 8 then bif Nat.beq pc 5 then some (.if_icmp .ge 19, 8, 24, 0, 0, 0, 0) else none
  else bif Nat.beq pc 8 then some (.iload_n 0, 9, 0, 0, 0, 0, 0) else none
  else bif Nat.blt pc 10 then bif Nat.beq pc 9 then some (.iload_n 1, 10, 1, 0, 0, 0, 0) else none
  else bif Nat.beq pc 10 then some (.ishr, 11, 0, 0, 0, 0, 0) else none
  else bif Nat.blt pc 17 then bif Nat.blt pc 13 then bif Nat.blt pc 12 then bif Nat.beq pc 11 then some (.iconst 1, 12, 0, 0, 0, 1, 0) else none
  else bif Nat.beq pc 12 then some (.iand, 13, 0, 0, 0, 0, 0) else none
  else bif Nat.blt pc 16 then bif Nat.beq pc 13 then some (.ifCond .eq 5, 16, 18, 0, 0, 0, 0) else none
  else bif Nat.beq pc 16 then some (.iload_n 1, 17, 1, 0, 0, 0, 0) else none
  else bif Nat.blt pc 21 then bif Nat.blt pc 18 then bif Nat.beq pc 17 then some (.ireturn, 18, 0, 0, 0, 0, 0) else none
  else bif Nat.beq pc 18 then some (.iinc 1 1, 21, 1, 0, 0, 1, 0) else none
  else bif Nat.blt pc 24 then bif Nat.beq pc 21 then some (.goto (-19), 24, 2, 0, 0, 0, 0) else none
  else bif Nat.blt pc 25 then bif Nat.beq pc 24 then some (.iconst 0, 25, 0, 0, 0, 0, 0) else none
  else bif Nat.beq pc 25 then some (.ireturn, 26, 0, 0, 0, 0, 0) else none
def rs_X5_lowestIn : PMR := (1, 0, hdl [], 2)
def mi_X5_lowestIn : PMI := wrapM 26 cd_X5_lowestIn rs_X5_lowestIn
def cd_X6_addWord (pc : Nat) : Option PE :=
  bif Nat.blt pc 30 then bif Nat.blt pc 14 then bif Nat.blt pc 4 then bif Nat.blt pc 2 then bif Nat.beq pc 0 then some (.bipush 24, 2, 0, 0, 0, 24, 0) else none
  else bif Nat.blt pc 3 then bif Nat.beq pc 2 then some (.istore_n 2, 3, 2, 0, 0, 0, 0) else none
  else bif Nat.beq pc 3 then some (.iload_n 2, 4, 2, 0, 0, 0, 0) else none
  else bif Nat.blt pc 8 then bif Nat.blt pc 7 then bif Nat.beq pc 4 then some (.ifCond .lt 51, 7, 55, 0, 0, 0, 0) else none
  else bif Nat.beq pc 7 then some (.aload_n 0, 8, 0, 0, 0, 0, 0) else none
  else bif Nat.blt pc 11 then bif Nat.beq pc 8 then some (.getfield 29, 11, 6, 3, 0, 0, 0) else none
  else bif Nat.beq pc 11 then some (.ifCond .lt 38, 14, 49, 0, 0, 0, 0) else none
  else bif Nat.blt pc 22 then bif Nat.blt pc 18 then bif Nat.blt pc 15 then bif Nat.beq pc 14 then some (.aload_n 0, 15, 0, 0, 0, 0, 0) else none
  else bif Nat.beq pc 15 then some (.getfield 29, 18, 6, 3, 0, 0, 0) else none
  else bif Nat.blt pc 19 then bif Nat.beq pc 18 then some (.aload_n 0, 19, 0, 0, 0, 0, 0) else none
  else bif Nat.beq pc 19 then some (.getfield 9, 22, 6, 0, 2, 0, 0) else none
  else bif Nat.blt pc 26 then bif Nat.blt pc 23 then bif Nat.beq pc 22 then some (.arraylength, 23, 0, 0, 0, 0, 0) else none
  else bif Nat.beq pc 23 then some (.if_icmp .ge 26, 26, 49, 0, 0, 0, 0) else none
  else bif Nat.blt pc 27 then bif Nat.beq pc 26 then some (.aload_n 0, 27, 0, 0, 0, 0, 0) else none
  else bif Nat.beq pc 27 then some (.getfield 9, 30, 6, 0, 2, 0, 0) else none
  else bif Nat.blt pc 40 then bif Nat.blt pc 36 then bif Nat.blt pc 34 then bif Nat.blt pc 31 then bif Nat.beq pc 30 then some (.aload_n 0, 31, 0, 0, 0, 0, 0) else none
  else bif Nat.beq pc 31 then some (.getfield 29, 34, 6, 3, 0, 0, 0) else none
  else bif Nat.blt pc 35 then bif Nat.beq pc 34 then some (.iload_n 1, 35, 1, 0, 0, 0, 0) else none
  else bif Nat.beq pc 35 then some (.iload_n 2, 36, 2, 0, 0, 0, 0) else none
  else bif Nat.blt pc 38 then bif Nat.blt pc 37 then bif Nat.beq pc 36 then some (.iushr, 37, 0, 0, 0, 0, 0) else none
  else bif Nat.beq pc 37 then some (.i2b, 38, 0, 0, 0, 0, 0) else none
  else bif Nat.blt pc 39 then bif Nat.beq pc 38 then some (.bastore, 39, 0, 0, 0, 0, 0) else none
  else bif Nat.beq pc 39 then some (.aload_n 0, 40, 0, 0, 0, 0, 0) else none
  else bif Nat.blt pc 46 then bif Nat.blt pc 44 then bif Nat.blt pc 41 then bif Nat.beq pc 40 then some (.dup, 41, 0, 0, 0, 0, 0) else none
  else bif Nat.beq pc 41 then some (.getfield 29, 44, 6, 3, 0, 0, 0) else none
  else bif Nat.blt pc 45 then bif Nat.beq pc 44 then some (.iconst 1, 45, 0, 0, 0, 1, 0) else none
  else bif Nat.beq pc 45 then some (.iadd, 46, 0, 0, 0, 0, 0) else none
  else bif Nat.blt pc 52 then bif Nat.blt pc 49 then bif Nat.beq pc 46 then some (.putfield 29, 49, 6, 3, 0, 0, 0) else none
  else bif Nat.beq pc 49 then some (.iinc 2 (-8), 52, 2, 0, 0, (-8), 0) else none
  else bif Nat.blt pc 55 then bif Nat.beq pc 52 then some (.goto (-49), 55, 3, 0, 0, 0, 0) else none
  else bif Nat.beq pc 55 then some (.return_, 56, 0, 0, 0, 0, 0) else none
def rs_X6_addWord : PMR := (0, 0, hdl [], 3)
def mi_X6_addWord : PMI := wrapM 56 cd_X6_addWord rs_X6_addWord
def cd_X6_readSetup (pc : Nat) : Option PE :=
  bif Nat.blt pc 95 then bif Nat.blt pc 46 then bif Nat.blt pc 19 then bif Nat.blt pc 8 then bif Nat.blt pc 2 then bif Nat.blt pc 1 then bif Nat.beq pc 0 then some (.aload_n 0, 1, 0, 0, 0, 0, 0) else none
  else bif Nat.beq pc 1 then some (.iload_n 1, 2, 1, 0, 0, 0, 0) else none
  else bif Nat.blt pc 5 then bif Nat.beq pc 2 then some (.invokevirtual 58, 5, 51, 2, 6, 0, 0) else none
  else bif Nat.blt pc 6 then bif Nat.beq pc 5 then some (.aload_n 0, 6, 0, 0, 0, 0, 0) else none
  else bif Nat.beq pc 6 then some (.ldc 62, 8, 0, 0, 1, 0, 0) else none
  else bif Nat.blt pc 15 then bif Nat.blt pc 11 then bif Nat.beq pc 8 then some (.invokevirtual 63, 11, 62, 2, 6, 0, 0) else none
  else bif Nat.blt pc 12 then bif Nat.beq pc 11 then some (.aload_n 0, 12, 0, 0, 0, 0, 0) else none
  else bif Nat.beq pc 12 then some (.getfield 18, 15, 6, 1, 2, 0, 0) else none
  else bif Nat.blt pc 16 then bif Nat.beq pc 15 then some (.aload_n 0, 16, 0, 0, 0, 0, 0) else none
  else bif Nat.blt pc 17 then bif Nat.beq pc 16 then some (.iconst 2, 17, 0, 0, 0, 2, 0) else none
  else bif Nat.beq pc 17 then some (.bipush 8, 19, 0, 0, 0, 8, 0) else none
  else bif Nat.blt pc 31 then bif Nat.blt pc 26 then bif Nat.blt pc 22 then bif Nat.beq pc 19 then some (.invokevirtual 67, 22, 61, 3, 6, 0, 0) else none
  else bif Nat.blt pc 25 then bif Nat.beq pc 22 then some (.putfield 71, 25, 2, 0, 0, 0, 0) else none
  else bif Nat.beq pc 25 then some (.aload_n 0, 26, 0, 0, 0, 0, 0) else none
  else bif Nat.blt pc 29 then bif Nat.beq pc 26 then some (.getfield 18, 29, 6, 1, 2, 0, 0) else none
  else bif Nat.blt pc 30 then bif Nat.beq pc 29 then some (.aload_n 0, 30, 0, 0, 0, 0, 0) else none
  else bif Nat.beq pc 30 then some (.iconst 1, 31, 0, 0, 0, 1, 0) else none
  else bif Nat.blt pc 40 then bif Nat.blt pc 34 then bif Nat.beq pc 31 then some (.sipush 999, 34, 0, 0, 0, 999, 0) else none
  else bif Nat.blt pc 37 then bif Nat.beq pc 34 then some (.invokevirtual 67, 37, 61, 3, 6, 0, 0) else none
  else bif Nat.beq pc 37 then some (.putfield 74, 40, 2, 1, 0, 0, 0) else none
  else bif Nat.blt pc 41 then bif Nat.beq pc 40 then some (.aload_n 0, 41, 0, 0, 0, 0, 0) else none
  else bif Nat.blt pc 43 then bif Nat.beq pc 41 then some (.bipush 59, 43, 0, 0, 0, 59, 0) else none
  else bif Nat.beq pc 43 then some (.invokevirtual 77, 46, 63, 2, 6, 0, 0) else none
  else bif Nat.blt pc 67 then bif Nat.blt pc 53 then bif Nat.blt pc 48 then bif Nat.blt pc 47 then bif Nat.beq pc 46 then some (.iconst 0, 47, 0, 0, 0, 0, 0) else none
  else bif Nat.beq pc 47 then some (.istore_n 2, 48, 2, 0, 0, 0, 0) else none
  else bif Nat.blt pc 49 then bif Nat.beq pc 48 then some (.iload_n 2, 49, 2, 0, 0, 0, 0) else none
  else bif Nat.blt pc 50 then bif Nat.beq pc 49 then some (.aload_n 0, 50, 0, 0, 0, 0, 0) else none
  else bif Nat.beq pc 50 then some (.getfield 33, 53, 6, 4, 0, 0, 0) else none
  else bif Nat.blt pc 60 then bif Nat.blt pc 56 then bif Nat.beq pc 53 then some (.if_icmp .ge 119, 56, 172, 0, 0, 0, 0) else none
  else bif Nat.blt pc 57 then bif Nat.beq pc 56 then some (.aload_n 0, 57, 0, 0, 0, 0, 0) else none
  else bif Nat.beq pc 57 then some (.getfield 52, 60, 6, 10, 0, 0, 0) else none
  else bif Nat.blt pc 63 then bif Nat.beq pc 60 then some (.ifCond .ne 112, 63, 172, 0, 0, 0, 0) else none
  else bif Nat.blt pc 64 then bif Nat.beq pc 63 then some (.aload_n 0, 64, 0, 0, 0, 0, 0) else none
  else bif Nat.beq pc 64 then some (.getfield 42, 67, 6, 7, 0, 0, 0) else none
  else bif Nat.blt pc 82 then bif Nat.blt pc 74 then bif Nat.blt pc 70 then bif Nat.beq pc 67 then some (.sipush 258, 70, 0, 0, 0, 258, 0) else none
  else bif Nat.blt pc 73 then bif Nat.beq pc 70 then some (.if_icmp .eq 102, 73, 172, 0, 0, 0, 0) else none
  else bif Nat.beq pc 73 then some (.aload_n 0, 74, 0, 0, 0, 0, 0) else none
  else bif Nat.blt pc 76 then bif Nat.beq pc 74 then some (.ldc 81, 76, 1, 0, 1, 0, 0) else none
  else bif Nat.blt pc 79 then bif Nat.beq pc 76 then some (.invokevirtual 83, 79, 64, 2, 6, 0, 0) else none
  else bif Nat.beq pc 79 then some (.ifCond .eq 10, 82, 89, 0, 0, 0, 0) else none
  else bif Nat.blt pc 89 then bif Nat.blt pc 83 then bif Nat.beq pc 82 then some (.aload_n 0, 83, 0, 0, 0, 0, 0) else none
  else bif Nat.blt pc 86 then bif Nat.beq pc 83 then some (.invokevirtual 87, 86, 52, 1, 6, 0, 0) else none
  else bif Nat.beq pc 86 then some (.goto 74, 89, 160, 0, 0, 0, 0) else none
  else bif Nat.blt pc 90 then bif Nat.beq pc 89 then some (.aload_n 0, 90, 0, 0, 0, 0, 0) else none
  else bif Nat.blt pc 92 then bif Nat.beq pc 90 then some (.ldc 90, 92, 2, 0, 1, 0, 0) else none
  else bif Nat.beq pc 92 then some (.invokevirtual 83, 95, 64, 2, 6, 0, 0) else none
  else bif Nat.blt pc 146 then bif Nat.blt pc 121 then bif Nat.blt pc 106 then bif Nat.blt pc 99 then bif Nat.blt pc 98 then bif Nat.beq pc 95 then some (.ifCond .eq 10, 98, 105, 0, 0, 0, 0) else none
  else bif Nat.beq pc 98 then some (.aload_n 0, 99, 0, 0, 0, 0, 0) else none
  else bif Nat.blt pc 102 then bif Nat.beq pc 99 then some (.invokevirtual 92, 102, 53, 1, 6, 0, 0) else none
  else bif Nat.blt pc 105 then bif Nat.beq pc 102 then some (.goto 58, 105, 160, 0, 0, 0, 0) else none
  else bif Nat.beq pc 105 then some (.aload_n 0, 106, 0, 0, 0, 0, 0) else none
  else bif Nat.blt pc 114 then bif Nat.blt pc 108 then bif Nat.beq pc 106 then some (.ldc 95, 108, 3, 0, 1, 0, 0) else none
  else bif Nat.blt pc 111 then bif Nat.beq pc 108 then some (.invokevirtual 83, 111, 64, 2, 6, 0, 0) else none
  else bif Nat.beq pc 111 then some (.ifCond .eq 10, 114, 121, 0, 0, 0, 0) else none
  else bif Nat.blt pc 115 then bif Nat.beq pc 114 then some (.aload_n 0, 115, 0, 0, 0, 0, 0) else none
  else bif Nat.blt pc 118 then bif Nat.beq pc 115 then some (.invokevirtual 97, 118, 55, 1, 6, 0, 0) else none
  else bif Nat.beq pc 118 then some (.goto 42, 121, 160, 0, 0, 0, 0) else none
  else bif Nat.blt pc 134 then bif Nat.blt pc 127 then bif Nat.blt pc 122 then bif Nat.beq pc 121 then some (.aload_n 0, 122, 0, 0, 0, 0, 0) else none
  else bif Nat.blt pc 124 then bif Nat.beq pc 122 then some (.ldc 100, 124, 4, 0, 1, 0, 0) else none
  else bif Nat.beq pc 124 then some (.invokevirtual 83, 127, 64, 2, 6, 0, 0) else none
  else bif Nat.blt pc 130 then bif Nat.beq pc 127 then some (.ifCond .eq 27, 130, 154, 0, 0, 0, 0) else none
  else bif Nat.blt pc 131 then bif Nat.beq pc 130 then some (.aload_n 0, 131, 0, 0, 0, 0, 0) else none
  else bif Nat.beq pc 131 then some (.getfield 48, 134, 6, 9, 1, 0, 0) else none
  else bif Nat.blt pc 139 then bif Nat.blt pc 137 then bif Nat.beq pc 134 then some (.ifCond .ne 20, 137, 154, 0, 0, 0, 0) else none
  else bif Nat.blt pc 138 then bif Nat.beq pc 137 then some (.aload_n 0, 138, 0, 0, 0, 0, 0) else none
  else bif Nat.beq pc 138 then some (.iconst 1, 139, 0, 0, 0, 1, 0) else none
  else bif Nat.blt pc 142 then bif Nat.beq pc 139 then some (.putfield 48, 142, 6, 9, 1, 0, 0) else none
  else bif Nat.blt pc 143 then bif Nat.beq pc 142 then some (.aload_n 0, 143, 0, 0, 0, 0, 0) else none
  else bif Nat.beq pc 143 then some (.invokevirtual 102, 146, 65, 1, 6, 0, 0) else none
  else bif Nat.blt pc 169 then bif Nat.blt pc 155 then bif Nat.blt pc 148 then bif Nat.blt pc 147 then bif Nat.beq pc 146 then some (.aload_n 0, 147, 0, 0, 0, 0, 0) else none
  else bif Nat.beq pc 147 then some (.iconst 0, 148, 0, 0, 0, 0, 0) else none
  else bif Nat.blt pc 151 then bif Nat.beq pc 148 then some (.invokevirtual 105, 151, 56, 2, 6, 0, 0) else none
  else bif Nat.blt pc 154 then bif Nat.beq pc 151 then some (.goto 9, 154, 160, 0, 0, 0, 0) else none
  else bif Nat.beq pc 154 then some (.aload_n 0, 155, 0, 0, 0, 0, 0) else none
  else bif Nat.blt pc 161 then bif Nat.blt pc 157 then bif Nat.beq pc 155 then some (.bipush (-2), 157, 0, 0, 0, (-2), 0) else none
  else bif Nat.blt pc 160 then bif Nat.beq pc 157 then some (.invokevirtual 108, 160, 60, 2, 6, 0, 0) else none
  else bif Nat.beq pc 160 then some (.aload_n 0, 161, 0, 0, 0, 0, 0) else none
  else bif Nat.blt pc 163 then bif Nat.beq pc 161 then some (.bipush 59, 163, 0, 0, 0, 59, 0) else none
  else bif Nat.blt pc 166 then bif Nat.beq pc 163 then some (.invokevirtual 77, 166, 63, 2, 6, 0, 0) else none
  else bif Nat.beq pc 166 then some (.iinc 2 1, 169, 2, 0, 0, 1, 0) else none
  else bif Nat.blt pc 183 then bif Nat.blt pc 176 then bif Nat.blt pc 172 then bif Nat.beq pc 169 then some (.goto (-121), 172, 48, 0, 0, 0, 0) else none
  else bif Nat.blt pc 173 then bif Nat.beq pc 172 then some (.aload_n 0, 173, 0, 0, 0, 0, 0) else none
  else bif Nat.beq pc 173 then some (.getfield 52, 176, 6, 10, 0, 0, 0) else none
  else bif Nat.blt pc 179 then bif Nat.beq pc 176 then some (.ifCond .ne 14, 179, 190, 0, 0, 0, 0) else none
  else bif Nat.blt pc 180 then bif Nat.beq pc 179 then some (.aload_n 0, 180, 0, 0, 0, 0, 0) else none
  else bif Nat.beq pc 180 then some (.getfield 48, 183, 6, 9, 1, 0, 0) else none
  else bif Nat.blt pc 190 then bif Nat.blt pc 186 then bif Nat.beq pc 183 then some (.ifCond .eq 7, 186, 190, 0, 0, 0, 0) else none
  else bif Nat.blt pc 187 then bif Nat.beq pc 186 then some (.aload_n 0, 187, 0, 0, 0, 0, 0) else none
  else bif Nat.beq pc 187 then some (.invokevirtual 111, 190, 59, 1, 6, 0, 0) else none
  else bif Nat.blt pc 191 then bif Nat.beq pc 190 then some (.aload_n 0, 191, 0, 0, 0, 0, 0) else none
  else bif Nat.blt pc 194 then bif Nat.beq pc 191 then some (.getfield 52, 194, 6, 10, 0, 0, 0) else none
  else bif Nat.beq pc 194 then some (.ireturn, 195, 0, 0, 0, 0, 0) else none
def rs_X6_readSetup : PMR := (1, 0, hdl [], 3)
def mi_X6_readSetup : PMI := wrapM 195 cd_X6_readSetup rs_X6_readSetup
def cd_X6_startOver (pc : Nat) : Option PE :=
  bif Nat.blt pc 25 then bif Nat.blt pc 14 then bif Nat.blt pc 7 then bif Nat.blt pc 1 then bif Nat.beq pc 0 then some (.aload_n 0, 1, 0, 0, 0, 0, 0) else none
  else bif Nat.blt pc 4 then bif Nat.beq pc 1 then some (.getfield 18, 4, 6, 1, 2, 0, 0) else none
  else bif Nat.beq pc 4 then some (.invokevirtual 114, 7, 8, 1, 2, 0, 0) else none
  else bif Nat.blt pc 8 then bif Nat.beq pc 7 then some (.aload_n 0, 8, 0, 0, 0, 0, 0) else none
  else bif Nat.blt pc 11 then bif Nat.beq pc 8 then some (.getfield 25, 11, 6, 2, 2, 0, 0) else none
  else bif Nat.beq pc 11 then some (.invokevirtual 117, 14, 0, 1, 0, 0, 0) else none
  else bif Nat.blt pc 19 then bif Nat.blt pc 15 then bif Nat.beq pc 14 then some (.aload_n 0, 15, 0, 0, 0, 0, 0) else none
  else bif Nat.blt pc 16 then bif Nat.beq pc 15 then some (.iconst 0, 16, 0, 0, 0, 0, 0) else none
  else bif Nat.beq pc 16 then some (.putfield 29, 19, 6, 3, 0, 0, 0) else none
  else bif Nat.blt pc 21 then bif Nat.blt pc 20 then bif Nat.beq pc 19 then some (.aload_n 0, 20, 0, 0, 0, 0, 0) else none
  else bif Nat.beq pc 20 then some (.iload_n 1, 21, 1, 0, 0, 0, 0) else none
  else bif Nat.blt pc 24 then bif Nat.beq pc 21 then some (.putfield 33, 24, 6, 4, 0, 0, 0) else none
  else bif Nat.beq pc 24 then some (.aload_n 0, 25, 0, 0, 0, 0, 0) else none
  else bif Nat.blt pc 36 then bif Nat.blt pc 30 then bif Nat.blt pc 26 then bif Nat.beq pc 25 then some (.iconst 0, 26, 0, 0, 0, 0, 0) else none
  else bif Nat.blt pc 29 then bif Nat.beq pc 26 then some (.putfield 39, 29, 6, 6, 0, 0, 0) else none
  else bif Nat.beq pc 29 then some (.aload_n 0, 30, 0, 0, 0, 0, 0) else none
  else bif Nat.blt pc 34 then bif Nat.blt pc 31 then bif Nat.beq pc 30 then some (.iconst 0, 31, 0, 0, 0, 0, 0) else none
  else bif Nat.beq pc 31 then some (.putfield 48, 34, 6, 9, 1, 0, 0) else none
  else bif Nat.blt pc 35 then bif Nat.beq pc 34 then some (.aload_n 0, 35, 0, 0, 0, 0, 0) else none
  else bif Nat.beq pc 35 then some (.iconst 0, 36, 0, 0, 0, 0, 0) else none
  else bif Nat.blt pc 41 then bif Nat.blt pc 39 then bif Nat.beq pc 36 then some (.putfield 52, 39, 6, 10, 0, 0, 0) else none
  else bif Nat.blt pc 40 then bif Nat.beq pc 39 then some (.aload_n 0, 40, 0, 0, 0, 0, 0) else none
  else bif Nat.beq pc 40 then some (.iconst (-1), 41, 0, 0, 0, (-1), 0) else none
  else bif Nat.blt pc 45 then bif Nat.blt pc 44 then bif Nat.beq pc 41 then some (.putfield 55, 44, 6, 11, 0, 0, 0) else none
  else bif Nat.beq pc 44 then some (.aload_n 0, 45, 0, 0, 0, 0, 0) else none
  else bif Nat.blt pc 48 then bif Nat.beq pc 45 then some (.invokevirtual 102, 48, 65, 1, 6, 0, 0) else none
  else bif Nat.beq pc 48 then some (.return_, 49, 0, 0, 0, 0, 0) else none
def rs_X6_startOver : PMR := (0, 0, hdl [], 2)
def mi_X6_startOver : PMI := wrapM 49 cd_X6_startOver rs_X6_startOver
def cd_X6_readEdge (pc : Nat) : Option PE :=
  bif Nat.blt pc 64 then bif Nat.blt pc 32 then bif Nat.blt pc 18 then bif Nat.blt pc 9 then bif Nat.blt pc 4 then bif Nat.blt pc 1 then bif Nat.beq pc 0 then some (.aload_n 0, 1, 0, 0, 0, 0, 0) else none
  else bif Nat.beq pc 1 then some (.getfield 18, 4, 6, 1, 2, 0, 0) else none
  else bif Nat.blt pc 7 then bif Nat.beq pc 4 then some (.getfield 118, 7, 2, 2, 0, 0, 0) else none
  else bif Nat.beq pc 7 then some (.bipush 14, 9, 0, 0, 0, 14, 0) else none
  else bif Nat.blt pc 13 then bif Nat.blt pc 12 then bif Nat.beq pc 9 then some (.if_icmp .lt 9, 12, 18, 0, 0, 0, 0) else none
  else bif Nat.beq pc 12 then some (.aload_n 0, 13, 0, 0, 0, 0, 0) else none
  else bif Nat.blt pc 15 then bif Nat.beq pc 13 then some (.bipush (-4), 15, 0, 0, 0, (-4), 0) else none
  else bif Nat.beq pc 15 then some (.invokevirtual 108, 18, 60, 2, 6, 0, 0) else none
  else bif Nat.blt pc 24 then bif Nat.blt pc 22 then bif Nat.blt pc 19 then bif Nat.beq pc 18 then some (.aload_n 0, 19, 0, 0, 0, 0, 0) else none
  else bif Nat.beq pc 19 then some (.invokevirtual 102, 22, 65, 1, 6, 0, 0) else none
  else bif Nat.blt pc 23 then bif Nat.beq pc 22 then some (.aload_n 0, 23, 0, 0, 0, 0, 0) else none
  else bif Nat.beq pc 23 then some (.iconst 0, 24, 0, 0, 0, 0, 0) else none
  else bif Nat.blt pc 28 then bif Nat.blt pc 25 then bif Nat.beq pc 24 then some (.aload_n 0, 25, 0, 0, 0, 0, 0) else none
  else bif Nat.beq pc 25 then some (.getfield 18, 28, 6, 1, 2, 0, 0) else none
  else bif Nat.blt pc 31 then bif Nat.beq pc 28 then some (.getfield 71, 31, 2, 0, 0, 0, 0) else none
  else bif Nat.beq pc 31 then some (.iconst 1, 32, 0, 0, 0, 1, 0) else none
  else bif Nat.blt pc 48 then bif Nat.blt pc 38 then bif Nat.blt pc 36 then bif Nat.blt pc 33 then bif Nat.beq pc 32 then some (.isub, 33, 0, 0, 0, 0, 0) else none
  else bif Nat.beq pc 33 then some (.invokevirtual 67, 36, 61, 3, 6, 0, 0) else none
  else bif Nat.blt pc 37 then bif Nat.beq pc 36 then some (.istore_n 1, 37, 1, 0, 0, 0, 0) else none
  else bif Nat.beq pc 37 then some (.aload_n 0, 38, 0, 0, 0, 0, 0) else none
  else bif Nat.blt pc 44 then bif Nat.blt pc 41 then bif Nat.beq pc 38 then some (.getfield 42, 41, 6, 7, 0, 0, 0) else none
  else bif Nat.beq pc 41 then some (.sipush 256, 44, 0, 0, 0, 256, 0) else none
  else bif Nat.blt pc 47 then bif Nat.beq pc 44 then some (.if_icmp .ne 17, 47, 61, 0, 0, 0, 0) else none
  else bif Nat.beq pc 47 then some (.aload_n 0, 48, 0, 0, 0, 0, 0) else none
  else bif Nat.blt pc 56 then bif Nat.blt pc 52 then bif Nat.blt pc 51 then bif Nat.beq pc 48 then some (.getfield 45, 51, 6, 8, 0, 0, 0) else none
  else bif Nat.beq pc 51 then some (.iload_n 1, 52, 1, 0, 0, 0, 0) else none
  else bif Nat.blt pc 55 then bif Nat.beq pc 52 then some (.if_icmp .ne 9, 55, 61, 0, 0, 0, 0) else none
  else bif Nat.beq pc 55 then some (.aload_n 0, 56, 0, 0, 0, 0, 0) else none
  else bif Nat.blt pc 61 then bif Nat.blt pc 58 then bif Nat.beq pc 56 then some (.bipush (-3), 58, 0, 0, 0, (-3), 0) else none
  else bif Nat.beq pc 58 then some (.invokevirtual 108, 61, 60, 2, 6, 0, 0) else none
  else bif Nat.blt pc 62 then bif Nat.beq pc 61 then some (.aload_n 0, 62, 0, 0, 0, 0, 0) else none
  else bif Nat.blt pc 63 then bif Nat.beq pc 62 then some (.iconst 0, 63, 0, 0, 0, 0, 0) else none
  else bif Nat.beq pc 63 then some (.aload_n 0, 64, 0, 0, 0, 0, 0) else none
  else bif Nat.blt pc 93 then bif Nat.blt pc 78 then bif Nat.blt pc 72 then bif Nat.blt pc 70 then bif Nat.blt pc 67 then bif Nat.beq pc 64 then some (.getfield 18, 67, 6, 1, 2, 0, 0) else none
  else bif Nat.beq pc 67 then some (.getfield 71, 70, 2, 0, 0, 0, 0) else none
  else bif Nat.blt pc 71 then bif Nat.beq pc 70 then some (.iconst 1, 71, 0, 0, 0, 1, 0) else none
  else bif Nat.beq pc 71 then some (.isub, 72, 0, 0, 0, 0, 0) else none
  else bif Nat.blt pc 76 then bif Nat.blt pc 75 then bif Nat.beq pc 72 then some (.invokevirtual 67, 75, 61, 3, 6, 0, 0) else none
  else bif Nat.beq pc 75 then some (.istore_n 2, 76, 2, 0, 0, 0, 0) else none
  else bif Nat.blt pc 77 then bif Nat.beq pc 76 then some (.aload_n 0, 77, 0, 0, 0, 0, 0) else none
  else bif Nat.beq pc 77 then some (.iconst 1, 78, 0, 0, 0, 1, 0) else none
  else bif Nat.blt pc 85 then bif Nat.blt pc 83 then bif Nat.blt pc 80 then bif Nat.beq pc 78 then some (.bipush 99, 80, 0, 0, 0, 99, 0) else none
  else bif Nat.beq pc 80 then some (.invokevirtual 67, 83, 61, 3, 6, 0, 0) else none
  else bif Nat.blt pc 84 then bif Nat.beq pc 83 then some (.istore_n 3, 84, 3, 0, 0, 0, 0) else none
  else bif Nat.beq pc 84 then some (.aload_n 0, 85, 0, 0, 0, 0, 0) else none
  else bif Nat.blt pc 88 then bif Nat.blt pc 86 then bif Nat.beq pc 85 then some (.iconst 1, 86, 0, 0, 0, 1, 0) else none
  else bif Nat.beq pc 86 then some (.bipush 99, 88, 0, 0, 0, 99, 0) else none
  else bif Nat.blt pc 91 then bif Nat.beq pc 88 then some (.invokevirtual 67, 91, 61, 3, 6, 0, 0) else none
  else bif Nat.beq pc 91 then some (.istore 4, 93, 4, 0, 0, 0, 0) else none
  else bif Nat.blt pc 109 then bif Nat.blt pc 100 then bif Nat.blt pc 95 then bif Nat.blt pc 94 then bif Nat.beq pc 93 then some (.aload_n 0, 94, 0, 0, 0, 0, 0) else none
  else bif Nat.beq pc 94 then some (.iconst 0, 95, 0, 0, 0, 0, 0) else none
  else bif Nat.blt pc 97 then bif Nat.beq pc 95 then some (.bipush 99, 97, 0, 0, 0, 99, 0) else none
  else bif Nat.beq pc 97 then some (.invokevirtual 67, 100, 61, 3, 6, 0, 0) else none
  else bif Nat.blt pc 103 then bif Nat.blt pc 102 then bif Nat.beq pc 100 then some (.istore 5, 102, 5, 0, 0, 0, 0) else none
  else bif Nat.beq pc 102 then some (.aload_n 0, 103, 0, 0, 0, 0, 0) else none
  else bif Nat.blt pc 106 then bif Nat.beq pc 103 then some (.getfield 52, 106, 6, 10, 0, 0, 0) else none
  else bif Nat.beq pc 106 then some (.ifCond .ne 17, 109, 123, 0, 0, 0, 0) else none
  else bif Nat.blt pc 115 then bif Nat.blt pc 113 then bif Nat.blt pc 110 then bif Nat.beq pc 109 then some (.aload_n 0, 110, 0, 0, 0, 0, 0) else none
  else bif Nat.beq pc 110 then some (.getfield 18, 113, 6, 1, 2, 0, 0) else none
  else bif Nat.blt pc 114 then bif Nat.beq pc 113 then some (.iload_n 1, 114, 1, 0, 0, 0, 0) else none
  else bif Nat.beq pc 114 then some (.iload_n 2, 115, 2, 0, 0, 0, 0) else none
  else bif Nat.blt pc 118 then bif Nat.blt pc 116 then bif Nat.beq pc 115 then some (.iload_n 3, 116, 3, 0, 0, 0, 0) else none
  else bif Nat.beq pc 116 then some (.iload 4, 118, 4, 0, 0, 0, 0) else none
  else bif Nat.blt pc 120 then bif Nat.beq pc 118 then some (.iload 5, 120, 5, 0, 0, 0, 0) else none
  else bif Nat.blt pc 123 then bif Nat.beq pc 120 then some (.invokevirtual 121, 123, 10, 6, 2, 0, 0) else none
  else bif Nat.beq pc 123 then some (.return_, 124, 0, 0, 0, 0, 0) else none
def rs_X6_readEdge : PMR := (0, 0, hdl [], 6)
def mi_X6_readEdge : PMI := wrapM 124 cd_X6_readEdge rs_X6_readEdge
def cd_X6_readBan (pc : Nat) : Option PE :=
  bif Nat.blt pc 24 then bif Nat.blt pc 13 then bif Nat.blt pc 5 then bif Nat.blt pc 1 then bif Nat.beq pc 0 then some (.aload_n 0, 1, 0, 0, 0, 0, 0) else none
  else bif Nat.blt pc 4 then bif Nat.beq pc 1 then some (.invokevirtual 102, 4, 65, 1, 6, 0, 0) else none
  else bif Nat.beq pc 4 then some (.aload_n 0, 5, 0, 0, 0, 0, 0) else none
  else bif Nat.blt pc 7 then bif Nat.blt pc 6 then bif Nat.beq pc 5 then some (.iconst 0, 6, 0, 0, 0, 0, 0) else none
  else bif Nat.beq pc 6 then some (.aload_n 0, 7, 0, 0, 0, 0, 0) else none
  else bif Nat.blt pc 10 then bif Nat.beq pc 7 then some (.getfield 18, 10, 6, 1, 2, 0, 0) else none
  else bif Nat.beq pc 10 then some (.getfield 71, 13, 2, 0, 0, 0, 0) else none
  else bif Nat.blt pc 18 then bif Nat.blt pc 14 then bif Nat.beq pc 13 then some (.iconst 1, 14, 0, 0, 0, 1, 0) else none
  else bif Nat.blt pc 15 then bif Nat.beq pc 14 then some (.isub, 15, 0, 0, 0, 0, 0) else none
  else bif Nat.beq pc 15 then some (.invokevirtual 67, 18, 61, 3, 6, 0, 0) else none
  else bif Nat.blt pc 20 then bif Nat.blt pc 19 then bif Nat.beq pc 18 then some (.istore_n 1, 19, 1, 0, 0, 0, 0) else none
  else bif Nat.beq pc 19 then some (.aload_n 0, 20, 0, 0, 0, 0, 0) else none
  else bif Nat.blt pc 21 then bif Nat.beq pc 20 then some (.iload_n 1, 21, 1, 0, 0, 0, 0) else none
  else bif Nat.beq pc 21 then some (.invokevirtual 125, 24, 54, 2, 6, 0, 0) else none
  else bif Nat.blt pc 35 then bif Nat.blt pc 27 then bif Nat.blt pc 25 then bif Nat.beq pc 24 then some (.istore_n 2, 25, 2, 0, 0, 0, 0) else none
  else bif Nat.blt pc 26 then bif Nat.beq pc 25 then some (.aload_n 0, 26, 0, 0, 0, 0, 0) else none
  else bif Nat.beq pc 26 then some (.iload_n 1, 27, 1, 0, 0, 0, 0) else none
  else bif Nat.blt pc 31 then bif Nat.blt pc 30 then bif Nat.beq pc 27 then some (.invokevirtual 125, 30, 54, 2, 6, 0, 0) else none
  else bif Nat.beq pc 30 then some (.istore_n 3, 31, 3, 0, 0, 0, 0) else none
  else bif Nat.blt pc 32 then bif Nat.beq pc 31 then some (.aload_n 0, 32, 0, 0, 0, 0, 0) else none
  else bif Nat.beq pc 32 then some (.getfield 52, 35, 6, 10, 0, 0, 0) else none
  else bif Nat.blt pc 43 then bif Nat.blt pc 39 then bif Nat.blt pc 38 then bif Nat.beq pc 35 then some (.ifCond .ne 13, 38, 48, 0, 0, 0, 0) else none
  else bif Nat.beq pc 38 then some (.aload_n 0, 39, 0, 0, 0, 0, 0) else none
  else bif Nat.blt pc 42 then bif Nat.beq pc 39 then some (.getfield 18, 42, 6, 1, 2, 0, 0) else none
  else bif Nat.beq pc 42 then some (.iload_n 1, 43, 1, 0, 0, 0, 0) else none
  else bif Nat.blt pc 45 then bif Nat.blt pc 44 then bif Nat.beq pc 43 then some (.iload_n 2, 44, 2, 0, 0, 0, 0) else none
  else bif Nat.beq pc 44 then some (.iload_n 3, 45, 3, 0, 0, 0, 0) else none
  else bif Nat.blt pc 48 then bif Nat.beq pc 45 then some (.invokevirtual 129, 48, 13, 4, 2, 0, 0) else none
  else bif Nat.beq pc 48 then some (.return_, 49, 0, 0, 0, 0, 0) else none
def rs_X6_readBan : PMR := (0, 0, hdl [], 4)
def mi_X6_readBan : PMI := wrapM 49 cd_X6_readBan rs_X6_readBan
def cd_X6_takeEdgeAt (pc : Nat) : Option PE :=
  bif Nat.blt pc 32 then bif Nat.blt pc 15 then bif Nat.blt pc 7 then bif Nat.blt pc 1 then bif Nat.beq pc 0 then some (.aload_n 0, 1, 0, 0, 0, 0, 0) else none
  else bif Nat.blt pc 4 then bif Nat.beq pc 1 then some (.getfield 42, 4, 6, 7, 0, 0, 0) else none
  else bif Nat.beq pc 4 then some (.sipush 256, 7, 0, 0, 0, 256, 0) else none
  else bif Nat.blt pc 11 then bif Nat.blt pc 10 then bif Nat.beq pc 7 then some (.if_icmp .ne 38, 10, 45, 0, 0, 0, 0) else none
  else bif Nat.beq pc 10 then some (.aload_n 0, 11, 0, 0, 0, 0, 0) else none
  else bif Nat.blt pc 14 then bif Nat.beq pc 11 then some (.getfield 45, 14, 6, 8, 0, 0, 0) else none
  else bif Nat.beq pc 14 then some (.aload_n 0, 15, 0, 0, 0, 0, 0) else none
  else bif Nat.blt pc 24 then bif Nat.blt pc 18 then bif Nat.beq pc 15 then some (.getfield 18, 18, 6, 1, 2, 0, 0) else none
  else bif Nat.blt pc 21 then bif Nat.beq pc 18 then some (.getfield 118, 21, 2, 2, 0, 0, 0) else none
  else bif Nat.beq pc 21 then some (.if_icmp .ge 24, 24, 45, 0, 0, 0, 0) else none
  else bif Nat.blt pc 28 then bif Nat.blt pc 25 then bif Nat.beq pc 24 then some (.aload_n 0, 25, 0, 0, 0, 0, 0) else none
  else bif Nat.beq pc 25 then some (.getfield 18, 28, 6, 1, 2, 0, 0) else none
  else bif Nat.blt pc 29 then bif Nat.beq pc 28 then some (.aload_n 0, 29, 0, 0, 0, 0, 0) else none
  else bif Nat.beq pc 29 then some (.getfield 45, 32, 6, 8, 0, 0, 0) else none
  else bif Nat.blt pc 46 then bif Nat.blt pc 39 then bif Nat.blt pc 33 then bif Nat.beq pc 32 then some (.iload_n 1, 33, 1, 0, 0, 0, 0) else none
  else bif Nat.blt pc 36 then bif Nat.beq pc 33 then some (.invokevirtual 133, 36, 16, 3, 2, 0, 0) else none
  else bif Nat.beq pc 36 then some (.ifCond .ne 9, 39, 45, 0, 0, 0, 0) else none
  else bif Nat.blt pc 42 then bif Nat.blt pc 40 then bif Nat.beq pc 39 then some (.aload_n 0, 40, 0, 0, 0, 0, 0) else none
  else bif Nat.beq pc 40 then some (.bipush (-3), 42, 0, 0, 0, (-3), 0) else none
  else bif Nat.blt pc 45 then bif Nat.beq pc 42 then some (.invokevirtual 108, 45, 60, 2, 6, 0, 0) else none
  else bif Nat.beq pc 45 then some (.aload_n 0, 46, 0, 0, 0, 0, 0) else none
  else bif Nat.blt pc 54 then bif Nat.blt pc 48 then bif Nat.blt pc 47 then bif Nat.beq pc 46 then some (.iconst 0, 47, 0, 0, 0, 0, 0) else none
  else bif Nat.beq pc 47 then some (.aload_n 0, 48, 0, 0, 0, 0, 0) else none
  else bif Nat.blt pc 51 then bif Nat.beq pc 48 then some (.getfield 18, 51, 6, 1, 2, 0, 0) else none
  else bif Nat.beq pc 51 then some (.getfield 118, 54, 2, 2, 0, 0, 0) else none
  else bif Nat.blt pc 56 then bif Nat.blt pc 55 then bif Nat.beq pc 54 then some (.iconst 1, 55, 0, 0, 0, 1, 0) else none
  else bif Nat.beq pc 55 then some (.isub, 56, 0, 0, 0, 0, 0) else none
  else bif Nat.blt pc 59 then bif Nat.beq pc 56 then some (.invokevirtual 67, 59, 61, 3, 6, 0, 0) else none
  else bif Nat.beq pc 59 then some (.ireturn, 60, 0, 0, 0, 0, 0) else none
def rs_X6_takeEdgeAt : PMR := (1, 0, hdl [], 2)
def mi_X6_takeEdgeAt : PMI := wrapM 60 cd_X6_takeEdgeAt rs_X6_takeEdgeAt
def cd_X6_readDepot (pc : Nat) : Option PE :=
  bif Nat.blt pc 24 then bif Nat.blt pc 12 then bif Nat.blt pc 7 then bif Nat.blt pc 1 then bif Nat.beq pc 0 then some (.aload_n 0, 1, 0, 0, 0, 0, 0) else none
  else bif Nat.blt pc 4 then bif Nat.beq pc 1 then some (.getfield 18, 4, 6, 1, 2, 0, 0) else none
  else bif Nat.beq pc 4 then some (.getfield 137, 7, 2, 3, 0, 0, 0) else none
  else bif Nat.blt pc 8 then bif Nat.beq pc 7 then some (.iconst 3, 8, 0, 0, 0, 3, 0) else none
  else bif Nat.blt pc 11 then bif Nat.beq pc 8 then some (.if_icmp .lt 9, 11, 17, 0, 0, 0, 0) else none
  else bif Nat.beq pc 11 then some (.aload_n 0, 12, 0, 0, 0, 0, 0) else none
  else bif Nat.blt pc 18 then bif Nat.blt pc 14 then bif Nat.beq pc 12 then some (.bipush (-4), 14, 0, 0, 0, (-4), 0) else none
  else bif Nat.blt pc 17 then bif Nat.beq pc 14 then some (.invokevirtual 108, 17, 60, 2, 6, 0, 0) else none
  else bif Nat.beq pc 17 then some (.aload_n 0, 18, 0, 0, 0, 0, 0) else none
  else bif Nat.blt pc 22 then bif Nat.blt pc 21 then bif Nat.beq pc 18 then some (.invokevirtual 102, 21, 65, 1, 6, 0, 0) else none
  else bif Nat.beq pc 21 then some (.aload_n 0, 22, 0, 0, 0, 0, 0) else none
  else bif Nat.blt pc 23 then bif Nat.beq pc 22 then some (.iconst 0, 23, 0, 0, 0, 0, 0) else none
  else bif Nat.beq pc 23 then some (.aload_n 0, 24, 0, 0, 0, 0, 0) else none
  else bif Nat.blt pc 37 then bif Nat.blt pc 31 then bif Nat.blt pc 27 then bif Nat.beq pc 24 then some (.getfield 18, 27, 6, 1, 2, 0, 0) else none
  else bif Nat.blt pc 30 then bif Nat.beq pc 27 then some (.getfield 71, 30, 2, 0, 0, 0, 0) else none
  else bif Nat.beq pc 30 then some (.iconst 1, 31, 0, 0, 0, 1, 0) else none
  else bif Nat.blt pc 35 then bif Nat.blt pc 32 then bif Nat.beq pc 31 then some (.isub, 32, 0, 0, 0, 0, 0) else none
  else bif Nat.beq pc 32 then some (.invokevirtual 67, 35, 61, 3, 6, 0, 0) else none
  else bif Nat.blt pc 36 then bif Nat.beq pc 35 then some (.istore_n 1, 36, 1, 0, 0, 0, 0) else none
  else bif Nat.beq pc 36 then some (.aload_n 0, 37, 0, 0, 0, 0, 0) else none
  else bif Nat.blt pc 44 then bif Nat.blt pc 40 then bif Nat.beq pc 37 then some (.getfield 52, 40, 6, 10, 0, 0, 0) else none
  else bif Nat.blt pc 43 then bif Nat.beq pc 40 then some (.ifCond .ne 11, 43, 51, 0, 0, 0, 0) else none
  else bif Nat.beq pc 43 then some (.aload_n 0, 44, 0, 0, 0, 0, 0) else none
  else bif Nat.blt pc 48 then bif Nat.blt pc 47 then bif Nat.beq pc 44 then some (.getfield 18, 47, 6, 1, 2, 0, 0) else none
  else bif Nat.beq pc 47 then some (.iload_n 1, 48, 1, 0, 0, 0, 0) else none
  else bif Nat.blt pc 51 then bif Nat.beq pc 48 then some (.invokevirtual 140, 51, 12, 2, 2, 0, 0) else none
  else bif Nat.beq pc 51 then some (.return_, 52, 0, 0, 0, 0, 0) else none
def rs_X6_readDepot : PMR := (0, 0, hdl [], 2)
def mi_X6_readDepot : PMI := wrapM 52 cd_X6_readDepot rs_X6_readDepot
def cd_X6_readSum (pc : Nat) : Option PE :=
  bif Nat.blt pc 32 then bif Nat.blt pc 12 then bif Nat.blt pc 6 then bif Nat.blt pc 2 then bif Nat.blt pc 1 then bif Nat.beq pc 0 then some (.aload_n 0, 1, 0, 0, 0, 0, 0) else none
  else bif Nat.beq pc 1 then some (.iload_n 1, 2, 1, 0, 0, 0, 0) else none
  else bif Nat.blt pc 5 then bif Nat.beq pc 2 then some (.invokevirtual 143, 5, 57, 2, 6, 0, 0) else none
  else bif Nat.beq pc 5 then some (.iconst 0, 6, 0, 0, 0, 0, 0) else none
  else bif Nat.blt pc 8 then bif Nat.blt pc 7 then bif Nat.beq pc 6 then some (.istore_n 2, 7, 2, 0, 0, 0, 0) else none
  else bif Nat.beq pc 7 then some (.iload_n 2, 8, 2, 0, 0, 0, 0) else none
  else bif Nat.blt pc 9 then bif Nat.beq pc 8 then some (.aload_n 0, 9, 0, 0, 0, 0, 0) else none
  else bif Nat.beq pc 9 then some (.getfield 33, 12, 6, 4, 0, 0, 0) else none
  else bif Nat.blt pc 22 then bif Nat.blt pc 16 then bif Nat.blt pc 15 then bif Nat.beq pc 12 then some (.if_icmp .ge 56, 15, 68, 0, 0, 0, 0) else none
  else bif Nat.beq pc 15 then some (.aload_n 0, 16, 0, 0, 0, 0, 0) else none
  else bif Nat.blt pc 19 then bif Nat.beq pc 16 then some (.getfield 52, 19, 6, 10, 0, 0, 0) else none
  else bif Nat.beq pc 19 then some (.ifCond .ne 49, 22, 68, 0, 0, 0, 0) else none
  else bif Nat.blt pc 26 then bif Nat.blt pc 23 then bif Nat.beq pc 22 then some (.aload_n 0, 23, 0, 0, 0, 0, 0) else none
  else bif Nat.beq pc 23 then some (.getfield 42, 26, 6, 7, 0, 0, 0) else none
  else bif Nat.blt pc 28 then bif Nat.beq pc 26 then some (.bipush 43, 28, 0, 0, 0, 43, 0) else none
  else bif Nat.blt pc 31 then bif Nat.beq pc 28 then some (.if_icmp .eq 12, 31, 40, 0, 0, 0, 0) else none
  else bif Nat.beq pc 31 then some (.aload_n 0, 32, 0, 0, 0, 0, 0) else none
  else bif Nat.blt pc 50 then bif Nat.blt pc 41 then bif Nat.blt pc 37 then bif Nat.blt pc 35 then bif Nat.beq pc 32 then some (.getfield 42, 35, 6, 7, 0, 0, 0) else none
  else bif Nat.beq pc 35 then some (.bipush 45, 37, 0, 0, 0, 45, 0) else none
  else bif Nat.blt pc 40 then bif Nat.beq pc 37 then some (.if_icmp .ne 31, 40, 68, 0, 0, 0, 0) else none
  else bif Nat.beq pc 40 then some (.aload_n 0, 41, 0, 0, 0, 0, 0) else none
  else bif Nat.blt pc 45 then bif Nat.blt pc 44 then bif Nat.beq pc 41 then some (.getfield 42, 44, 6, 7, 0, 0, 0) else none
  else bif Nat.beq pc 44 then some (.istore_n 3, 45, 3, 0, 0, 0, 0) else none
  else bif Nat.blt pc 46 then bif Nat.beq pc 45 then some (.aload_n 0, 46, 0, 0, 0, 0, 0) else none
  else bif Nat.blt pc 49 then bif Nat.beq pc 46 then some (.invokevirtual 102, 49, 65, 1, 6, 0, 0) else none
  else bif Nat.beq pc 49 then some (.aload_n 0, 50, 0, 0, 0, 0, 0) else none
  else bif Nat.blt pc 58 then bif Nat.blt pc 54 then bif Nat.blt pc 51 then bif Nat.beq pc 50 then some (.iload_n 1, 51, 1, 0, 0, 0, 0) else none
  else bif Nat.beq pc 51 then some (.invokevirtual 143, 54, 57, 2, 6, 0, 0) else none
  else bif Nat.blt pc 55 then bif Nat.beq pc 54 then some (.aload_n 0, 55, 0, 0, 0, 0, 0) else none
  else bif Nat.beq pc 55 then some (.getfield 25, 58, 6, 2, 2, 0, 0) else none
  else bif Nat.blt pc 62 then bif Nat.blt pc 59 then bif Nat.beq pc 58 then some (.iload_n 3, 59, 3, 0, 0, 0, 0) else none
  else bif Nat.beq pc 59 then some (.invokevirtual 146, 62, 2, 2, 0, 0, 0) else none
  else bif Nat.blt pc 65 then bif Nat.beq pc 62 then some (.iinc 2 1, 65, 2, 0, 0, 1, 0) else none
  else bif Nat.blt pc 68 then bif Nat.beq pc 65 then some (.goto (-58), 68, 7, 0, 0, 0, 0) else none
  else bif Nat.beq pc 68 then some (.return_, 69, 0, 0, 0, 0, 0) else none
def rs_X6_readSum : PMR := (0, 0, hdl [], 4)
def mi_X6_readSum : PMI := wrapM 69 cd_X6_readSum rs_X6_readSum
def cd_X6_readTerm (pc : Nat) : Option PE :=
  bif Nat.blt pc 32 then bif Nat.blt pc 12 then bif Nat.blt pc 6 then bif Nat.blt pc 2 then bif Nat.blt pc 1 then bif Nat.beq pc 0 then some (.aload_n 0, 1, 0, 0, 0, 0, 0) else none
  else bif Nat.beq pc 1 then some (.iload_n 1, 2, 1, 0, 0, 0, 0) else none
  else bif Nat.blt pc 5 then bif Nat.beq pc 2 then some (.invokevirtual 149, 5, 58, 2, 6, 0, 0) else none
  else bif Nat.beq pc 5 then some (.iconst 0, 6, 0, 0, 0, 0, 0) else none
  else bif Nat.blt pc 8 then bif Nat.blt pc 7 then bif Nat.beq pc 6 then some (.istore_n 2, 7, 2, 0, 0, 0, 0) else none
  else bif Nat.beq pc 7 then some (.iload_n 2, 8, 2, 0, 0, 0, 0) else none
  else bif Nat.blt pc 9 then bif Nat.beq pc 8 then some (.aload_n 0, 9, 0, 0, 0, 0, 0) else none
  else bif Nat.beq pc 9 then some (.getfield 33, 12, 6, 4, 0, 0, 0) else none
  else bif Nat.blt pc 22 then bif Nat.blt pc 16 then bif Nat.blt pc 15 then bif Nat.beq pc 12 then some (.if_icmp .ge 56, 15, 68, 0, 0, 0, 0) else none
  else bif Nat.beq pc 15 then some (.aload_n 0, 16, 0, 0, 0, 0, 0) else none
  else bif Nat.blt pc 19 then bif Nat.beq pc 16 then some (.getfield 52, 19, 6, 10, 0, 0, 0) else none
  else bif Nat.beq pc 19 then some (.ifCond .ne 49, 22, 68, 0, 0, 0, 0) else none
  else bif Nat.blt pc 26 then bif Nat.blt pc 23 then bif Nat.beq pc 22 then some (.aload_n 0, 23, 0, 0, 0, 0, 0) else none
  else bif Nat.beq pc 23 then some (.getfield 42, 26, 6, 7, 0, 0, 0) else none
  else bif Nat.blt pc 28 then bif Nat.beq pc 26 then some (.bipush 42, 28, 0, 0, 0, 42, 0) else none
  else bif Nat.blt pc 31 then bif Nat.beq pc 28 then some (.if_icmp .eq 12, 31, 40, 0, 0, 0, 0) else none
  else bif Nat.beq pc 31 then some (.aload_n 0, 32, 0, 0, 0, 0, 0) else none
  else bif Nat.blt pc 50 then bif Nat.blt pc 41 then bif Nat.blt pc 37 then bif Nat.blt pc 35 then bif Nat.beq pc 32 then some (.getfield 42, 35, 6, 7, 0, 0, 0) else none
  else bif Nat.beq pc 35 then some (.bipush 47, 37, 0, 0, 0, 47, 0) else none
  else bif Nat.blt pc 40 then bif Nat.beq pc 37 then some (.if_icmp .ne 31, 40, 68, 0, 0, 0, 0) else none
  else bif Nat.beq pc 40 then some (.aload_n 0, 41, 0, 0, 0, 0, 0) else none
  else bif Nat.blt pc 45 then bif Nat.blt pc 44 then bif Nat.beq pc 41 then some (.getfield 42, 44, 6, 7, 0, 0, 0) else none
  else bif Nat.beq pc 44 then some (.istore_n 3, 45, 3, 0, 0, 0, 0) else none
  else bif Nat.blt pc 46 then bif Nat.beq pc 45 then some (.aload_n 0, 46, 0, 0, 0, 0, 0) else none
  else bif Nat.blt pc 49 then bif Nat.beq pc 46 then some (.invokevirtual 102, 49, 65, 1, 6, 0, 0) else none
  else bif Nat.beq pc 49 then some (.aload_n 0, 50, 0, 0, 0, 0, 0) else none
  else bif Nat.blt pc 58 then bif Nat.blt pc 54 then bif Nat.blt pc 51 then bif Nat.beq pc 50 then some (.iload_n 1, 51, 1, 0, 0, 0, 0) else none
  else bif Nat.beq pc 51 then some (.invokevirtual 149, 54, 58, 2, 6, 0, 0) else none
  else bif Nat.blt pc 55 then bif Nat.beq pc 54 then some (.aload_n 0, 55, 0, 0, 0, 0, 0) else none
  else bif Nat.beq pc 55 then some (.getfield 25, 58, 6, 2, 2, 0, 0) else none
  else bif Nat.blt pc 62 then bif Nat.blt pc 59 then bif Nat.beq pc 58 then some (.iload_n 3, 59, 3, 0, 0, 0, 0) else none
  else bif Nat.beq pc 59 then some (.invokevirtual 146, 62, 2, 2, 0, 0, 0) else none
  else bif Nat.blt pc 65 then bif Nat.beq pc 62 then some (.iinc 2 1, 65, 2, 0, 0, 1, 0) else none
  else bif Nat.blt pc 68 then bif Nat.beq pc 65 then some (.goto (-58), 68, 7, 0, 0, 0, 0) else none
  else bif Nat.beq pc 68 then some (.return_, 69, 0, 0, 0, 0, 0) else none
def rs_X6_readTerm : PMR := (0, 0, hdl [], 4)
def mi_X6_readTerm : PMI := wrapM 69 cd_X6_readTerm rs_X6_readTerm
def cd_X6_readFactor (pc : Nat) : Option PE :=
  bif Nat.blt pc 61 then bif Nat.blt pc 29 then bif Nat.blt pc 13 then bif Nat.blt pc 6 then bif Nat.blt pc 1 then bif Nat.beq pc 0 then some (.aload_n 0, 1, 0, 0, 0, 0, 0) else none
  else bif Nat.blt pc 3 then bif Nat.beq pc 1 then some (.ldc 152, 3, 5, 0, 1, 0, 0) else none
  else bif Nat.beq pc 3 then some (.invokevirtual 83, 6, 64, 2, 6, 0, 0) else none
  else bif Nat.blt pc 9 then bif Nat.beq pc 6 then some (.ifCond .eq 20, 9, 26, 0, 0, 0, 0) else none
  else bif Nat.blt pc 10 then bif Nat.beq pc 9 then some (.aload_n 0, 10, 0, 0, 0, 0, 0) else none
  else bif Nat.beq pc 10 then some (.getfield 25, 13, 6, 2, 2, 0, 0) else none
  else bif Nat.blt pc 20 then bif Nat.blt pc 16 then bif Nat.beq pc 13 then some (.sipush 10000, 16, 0, 0, 0, 10000, 0) else none
  else bif Nat.blt pc 19 then bif Nat.beq pc 16 then some (.invokevirtual 154, 19, 1, 2, 0, 0, 0) else none
  else bif Nat.beq pc 19 then some (.aload_n 0, 20, 0, 0, 0, 0, 0) else none
  else bif Nat.blt pc 26 then bif Nat.blt pc 23 then bif Nat.beq pc 20 then some (.invokevirtual 102, 23, 65, 1, 6, 0, 0) else none
  else bif Nat.beq pc 23 then some (.goto 87, 26, 110, 0, 0, 0, 0) else none
  else bif Nat.blt pc 27 then bif Nat.beq pc 26 then some (.aload_n 0, 27, 0, 0, 0, 0, 0) else none
  else bif Nat.beq pc 27 then some (.ldc 157, 29, 6, 0, 1, 0, 0) else none
  else bif Nat.blt pc 45 then bif Nat.blt pc 36 then bif Nat.blt pc 32 then bif Nat.beq pc 29 then some (.invokevirtual 83, 32, 64, 2, 6, 0, 0) else none
  else bif Nat.blt pc 35 then bif Nat.beq pc 32 then some (.ifCond .eq 20, 35, 52, 0, 0, 0, 0) else none
  else bif Nat.beq pc 35 then some (.aload_n 0, 36, 0, 0, 0, 0, 0) else none
  else bif Nat.blt pc 39 then bif Nat.beq pc 36 then some (.getfield 25, 39, 6, 2, 2, 0, 0) else none
  else bif Nat.blt pc 42 then bif Nat.beq pc 39 then some (.sipush 10001, 42, 0, 0, 0, 10001, 0) else none
  else bif Nat.beq pc 42 then some (.invokevirtual 154, 45, 1, 2, 0, 0, 0) else none
  else bif Nat.blt pc 52 then bif Nat.blt pc 46 then bif Nat.beq pc 45 then some (.aload_n 0, 46, 0, 0, 0, 0, 0) else none
  else bif Nat.blt pc 49 then bif Nat.beq pc 46 then some (.invokevirtual 102, 49, 65, 1, 6, 0, 0) else none
  else bif Nat.beq pc 49 then some (.goto 61, 52, 110, 0, 0, 0, 0) else none
  else bif Nat.blt pc 56 then bif Nat.blt pc 53 then bif Nat.beq pc 52 then some (.aload_n 0, 53, 0, 0, 0, 0, 0) else none
  else bif Nat.beq pc 53 then some (.getfield 42, 56, 6, 7, 0, 0, 0) else none
  else bif Nat.blt pc 58 then bif Nat.beq pc 56 then some (.bipush 40, 58, 0, 0, 0, 40, 0) else none
  else bif Nat.beq pc 58 then some (.if_icmp .eq 21, 61, 79, 0, 0, 0, 0) else none
  else bif Nat.blt pc 87 then bif Nat.blt pc 73 then bif Nat.blt pc 66 then bif Nat.blt pc 62 then bif Nat.beq pc 61 then some (.aload_n 0, 62, 0, 0, 0, 0, 0) else none
  else bif Nat.blt pc 65 then bif Nat.beq pc 62 then some (.getfield 25, 65, 6, 2, 2, 0, 0) else none
  else bif Nat.beq pc 65 then some (.aload_n 0, 66, 0, 0, 0, 0, 0) else none
  else bif Nat.blt pc 67 then bif Nat.beq pc 66 then some (.iconst 0, 67, 0, 0, 0, 0, 0) else none
  else bif Nat.blt pc 70 then bif Nat.beq pc 67 then some (.sipush 9999, 70, 0, 0, 0, 9999, 0) else none
  else bif Nat.beq pc 70 then some (.invokevirtual 67, 73, 61, 3, 6, 0, 0) else none
  else bif Nat.blt pc 80 then bif Nat.blt pc 76 then bif Nat.beq pc 73 then some (.invokevirtual 154, 76, 1, 2, 0, 0, 0) else none
  else bif Nat.blt pc 79 then bif Nat.beq pc 76 then some (.goto 34, 79, 110, 0, 0, 0, 0) else none
  else bif Nat.beq pc 79 then some (.iload_n 1, 80, 1, 0, 0, 0, 0) else none
  else bif Nat.blt pc 84 then bif Nat.blt pc 81 then bif Nat.beq pc 80 then some (.iconst 4, 81, 0, 0, 0, 4, 0) else none
  else bif Nat.beq pc 81 then some (.if_icmp .lt 12, 84, 93, 0, 0, 0, 0) else none
  else bif Nat.blt pc 85 then bif Nat.beq pc 84 then some (.aload_n 0, 85, 0, 0, 0, 0, 0) else none
  else bif Nat.beq pc 85 then some (.bipush (-5), 87, 0, 0, 0, (-5), 0) else none
  else bif Nat.blt pc 99 then bif Nat.blt pc 94 then bif Nat.blt pc 90 then bif Nat.beq pc 87 then some (.invokevirtual 108, 90, 60, 2, 6, 0, 0) else none
  else bif Nat.blt pc 93 then bif Nat.beq pc 90 then some (.goto 20, 93, 110, 0, 0, 0, 0) else none
  else bif Nat.beq pc 93 then some (.aload_n 0, 94, 0, 0, 0, 0, 0) else none
  else bif Nat.blt pc 97 then bif Nat.beq pc 94 then some (.invokevirtual 102, 97, 65, 1, 6, 0, 0) else none
  else bif Nat.blt pc 98 then bif Nat.beq pc 97 then some (.aload_n 0, 98, 0, 0, 0, 0, 0) else none
  else bif Nat.beq pc 98 then some (.iload_n 1, 99, 1, 0, 0, 0, 0) else none
  else bif Nat.blt pc 104 then bif Nat.blt pc 100 then bif Nat.beq pc 99 then some (.iconst 1, 100, 0, 0, 0, 1, 0) else none
  else bif Nat.blt pc 101 then bif Nat.beq pc 100 then some (.iadd, 101, 0, 0, 0, 0, 0) else none
  else bif Nat.beq pc 101 then some (.invokevirtual 105, 104, 56, 2, 6, 0, 0) else none
  else bif Nat.blt pc 107 then bif Nat.blt pc 105 then bif Nat.beq pc 104 then some (.aload_n 0, 105, 0, 0, 0, 0, 0) else none
  else bif Nat.beq pc 105 then some (.bipush 41, 107, 0, 0, 0, 41, 0) else none
  else bif Nat.blt pc 110 then bif Nat.beq pc 107 then some (.invokevirtual 77, 110, 63, 2, 6, 0, 0) else none
  else bif Nat.beq pc 110 then some (.return_, 111, 0, 0, 0, 0, 0) else none
def rs_X6_readFactor : PMR := (0, 0, hdl [], 2)
def mi_X6_readFactor : PMI := wrapM 111 cd_X6_readFactor rs_X6_readFactor
def cd_X6_priceServices (pc : Nat) : Option PE :=
  bif Nat.blt pc 37 then bif Nat.blt pc 15 then bif Nat.blt pc 4 then bif Nat.blt pc 2 then bif Nat.blt pc 1 then bif Nat.beq pc 0 then some (.iconst 0, 1, 0, 0, 0, 0, 0) else none
  else bif Nat.beq pc 1 then some (.istore_n 1, 2, 1, 0, 0, 0, 0) else none
  else bif Nat.blt pc 3 then bif Nat.beq pc 2 then some (.iload_n 1, 3, 1, 0, 0, 0, 0) else none
  else bif Nat.beq pc 3 then some (.iconst 2, 4, 0, 0, 0, 2, 0) else none
  else bif Nat.blt pc 8 then bif Nat.blt pc 5 then bif Nat.beq pc 4 then some (.aload_n 0, 5, 0, 0, 0, 0, 0) else none
  else bif Nat.beq pc 5 then some (.getfield 18, 8, 6, 1, 2, 0, 0) else none
  else bif Nat.blt pc 11 then bif Nat.beq pc 8 then some (.getfield 118, 11, 2, 2, 0, 0, 0) else none
  else bif Nat.blt pc 12 then bif Nat.beq pc 11 then some (.imul, 12, 0, 0, 0, 0, 0) else none
  else bif Nat.beq pc 12 then some (.if_icmp .ge 61, 15, 73, 0, 0, 0, 0) else none
  else bif Nat.blt pc 26 then bif Nat.blt pc 19 then bif Nat.blt pc 16 then bif Nat.beq pc 15 then some (.aload_n 0, 16, 0, 0, 0, 0, 0) else none
  else bif Nat.beq pc 16 then some (.getfield 25, 19, 6, 2, 2, 0, 0) else none
  else bif Nat.blt pc 20 then bif Nat.beq pc 19 then some (.aload_n 0, 20, 0, 0, 0, 0, 0) else none
  else bif Nat.blt pc 23 then bif Nat.beq pc 20 then some (.getfield 18, 23, 6, 1, 2, 0, 0) else none
  else bif Nat.beq pc 23 then some (.getfield 159, 26, 2, 5, 2, 0, 0) else none
  else bif Nat.blt pc 30 then bif Nat.blt pc 27 then bif Nat.beq pc 26 then some (.iload_n 1, 27, 1, 0, 0, 0, 0) else none
  else bif Nat.beq pc 27 then some (.invokestatic 163, 30, 106, 2, 99, 0, 0) else none
  else bif Nat.blt pc 31 then bif Nat.beq pc 30 then some (.aload_n 0, 31, 0, 0, 0, 0, 0) else none
  else bif Nat.blt pc 34 then bif Nat.beq pc 31 then some (.getfield 18, 34, 6, 1, 2, 0, 0) else none
  else bif Nat.beq pc 34 then some (.getfield 167, 37, 2, 8, 2, 0, 0) else none
  else bif Nat.blt pc 54 then bif Nat.blt pc 43 then bif Nat.blt pc 39 then bif Nat.blt pc 38 then bif Nat.beq pc 37 then some (.iload_n 1, 38, 1, 0, 0, 0, 0) else none
  else bif Nat.beq pc 38 then some (.iconst 2, 39, 0, 0, 0, 2, 0) else none
  else bif Nat.blt pc 40 then bif Nat.beq pc 39 then some (.idiv, 40, 0, 0, 0, 0, 0) else none
  else bif Nat.beq pc 40 then some (.invokestatic 163, 43, 106, 2, 99, 0, 0) else none
  else bif Nat.blt pc 47 then bif Nat.blt pc 46 then bif Nat.beq pc 43 then some (.invokevirtual 170, 46, 3, 3, 0, 0, 0) else none
  else bif Nat.beq pc 46 then some (.istore_n 2, 47, 2, 0, 0, 0, 0) else none
  else bif Nat.blt pc 48 then bif Nat.beq pc 47 then some (.aload_n 0, 48, 0, 0, 0, 0, 0) else none
  else bif Nat.blt pc 51 then bif Nat.beq pc 48 then some (.getfield 18, 51, 6, 1, 2, 0, 0) else none
  else bif Nat.beq pc 51 then some (.getfield 173, 54, 2, 6, 2, 0, 0) else none
  else bif Nat.blt pc 61 then bif Nat.blt pc 56 then bif Nat.blt pc 55 then bif Nat.beq pc 54 then some (.iload_n 1, 55, 1, 0, 0, 0, 0) else none
  else bif Nat.beq pc 55 then some (.iload_n 2, 56, 2, 0, 0, 0, 0) else none
  else bif Nat.blt pc 57 then bif Nat.beq pc 56 then some (.i2l, 57, 0, 0, 0, 0, 0) else none
  else bif Nat.blt pc 58 then bif Nat.beq pc 57 then some (.iconst 0, 58, 0, 0, 0, 0, 0) else none
  else bif Nat.beq pc 58 then some (.sipush 9999, 61, 0, 0, 0, 9999, 0) else none
  else bif Nat.blt pc 67 then bif Nat.blt pc 64 then bif Nat.beq pc 61 then some (.invokestatic 176, 64, 105, 3, 99, 0, 0) else none
  else bif Nat.beq pc 64 then some (.invokestatic 180, 67, 107, 3, 99, 0, 0) else none
  else bif Nat.blt pc 70 then bif Nat.beq pc 67 then some (.iinc 1 1, 70, 1, 0, 0, 1, 0) else none
  else bif Nat.blt pc 73 then bif Nat.beq pc 70 then some (.goto (-68), 73, 2, 0, 0, 0, 0) else none
  else bif Nat.beq pc 73 then some (.return_, 74, 0, 0, 0, 0, 0) else none
def rs_X6_priceServices : PMR := (0, 0, hdl [], 3)
def mi_X6_priceServices : PMI := wrapM 74 cd_X6_priceServices rs_X6_priceServices
def cd_X6_fail (pc : Nat) : Option PE :=
  bif Nat.blt pc 9 then bif Nat.blt pc 4 then bif Nat.blt pc 1 then bif Nat.beq pc 0 then some (.aload_n 0, 1, 0, 0, 0, 0, 0) else none
  else bif Nat.beq pc 1 then some (.getfield 52, 4, 6, 10, 0, 0, 0) else none
  else bif Nat.blt pc 7 then bif Nat.beq pc 4 then some (.ifCond .ne 16, 7, 20, 0, 0, 0, 0) else none
  else bif Nat.blt pc 8 then bif Nat.beq pc 7 then some (.aload_n 0, 8, 0, 0, 0, 0, 0) else none
  else bif Nat.beq pc 8 then some (.iload_n 1, 9, 1, 0, 0, 0, 0) else none
  else bif Nat.blt pc 14 then bif Nat.blt pc 12 then bif Nat.beq pc 9 then some (.putfield 52, 12, 6, 10, 0, 0, 0) else none
  else bif Nat.blt pc 13 then bif Nat.beq pc 12 then some (.aload_n 0, 13, 0, 0, 0, 0, 0) else none
  else bif Nat.beq pc 13 then some (.aload_n 0, 14, 0, 0, 0, 0, 0) else none
  else bif Nat.blt pc 17 then bif Nat.beq pc 14 then some (.getfield 36, 17, 6, 5, 0, 0, 0) else none
  else bif Nat.blt pc 20 then bif Nat.beq pc 17 then some (.putfield 55, 20, 6, 11, 0, 0, 0) else none
  else bif Nat.beq pc 20 then some (.return_, 21, 0, 0, 0, 0, 0) else none
def rs_X6_fail : PMR := (0, 0, hdl [], 2)
def mi_X6_fail : PMI := wrapM 21 cd_X6_fail rs_X6_fail
def cd_X6_takeNumber (pc : Nat) : Option PE :=
  bif Nat.blt pc 24 then bif Nat.blt pc 12 then bif Nat.blt pc 5 then bif Nat.blt pc 1 then bif Nat.beq pc 0 then some (.aload_n 0, 1, 0, 0, 0, 0, 0) else none
  else bif Nat.blt pc 4 then bif Nat.beq pc 1 then some (.getfield 45, 4, 6, 8, 0, 0, 0) else none
  else bif Nat.beq pc 4 then some (.istore_n 3, 5, 3, 0, 0, 0, 0) else none
  else bif Nat.blt pc 6 then bif Nat.beq pc 5 then some (.aload_n 0, 6, 0, 0, 0, 0, 0) else none
  else bif Nat.blt pc 9 then bif Nat.beq pc 6 then some (.getfield 42, 9, 6, 7, 0, 0, 0) else none
  else bif Nat.beq pc 9 then some (.sipush 256, 12, 0, 0, 0, 256, 0) else none
  else bif Nat.blt pc 18 then bif Nat.blt pc 15 then bif Nat.beq pc 12 then some (.if_icmp .eq 11, 15, 23, 0, 0, 0, 0) else none
  else bif Nat.blt pc 16 then bif Nat.beq pc 15 then some (.aload_n 0, 16, 0, 0, 0, 0, 0) else none
  else bif Nat.beq pc 16 then some (.bipush (-2), 18, 0, 0, 0, (-2), 0) else none
  else bif Nat.blt pc 22 then bif Nat.blt pc 21 then bif Nat.beq pc 18 then some (.invokevirtual 108, 21, 60, 2, 6, 0, 0) else none
  else bif Nat.beq pc 21 then some (.iload_n 1, 22, 1, 0, 0, 0, 0) else none
  else bif Nat.blt pc 23 then bif Nat.beq pc 22 then some (.ireturn, 23, 0, 0, 0, 0, 0) else none
  else bif Nat.beq pc 23 then some (.iload_n 3, 24, 3, 0, 0, 0, 0) else none
  else bif Nat.blt pc 36 then bif Nat.blt pc 29 then bif Nat.blt pc 25 then bif Nat.beq pc 24 then some (.iload_n 1, 25, 1, 0, 0, 0, 0) else none
  else bif Nat.blt pc 28 then bif Nat.beq pc 25 then some (.if_icmp .lt 8, 28, 33, 0, 0, 0, 0) else none
  else bif Nat.beq pc 28 then some (.iload_n 3, 29, 3, 0, 0, 0, 0) else none
  else bif Nat.blt pc 33 then bif Nat.blt pc 30 then bif Nat.beq pc 29 then some (.iload_n 2, 30, 2, 0, 0, 0, 0) else none
  else bif Nat.beq pc 30 then some (.if_icmp .le 11, 33, 41, 0, 0, 0, 0) else none
  else bif Nat.blt pc 34 then bif Nat.beq pc 33 then some (.aload_n 0, 34, 0, 0, 0, 0, 0) else none
  else bif Nat.beq pc 34 then some (.bipush (-3), 36, 0, 0, 0, (-3), 0) else none
  else bif Nat.blt pc 41 then bif Nat.blt pc 39 then bif Nat.beq pc 36 then some (.invokevirtual 108, 39, 60, 2, 6, 0, 0) else none
  else bif Nat.blt pc 40 then bif Nat.beq pc 39 then some (.iload_n 1, 40, 1, 0, 0, 0, 0) else none
  else bif Nat.beq pc 40 then some (.ireturn, 41, 0, 0, 0, 0, 0) else none
  else bif Nat.blt pc 45 then bif Nat.blt pc 42 then bif Nat.beq pc 41 then some (.aload_n 0, 42, 0, 0, 0, 0, 0) else none
  else bif Nat.beq pc 42 then some (.invokevirtual 102, 45, 65, 1, 6, 0, 0) else none
  else bif Nat.blt pc 46 then bif Nat.beq pc 45 then some (.iload_n 3, 46, 3, 0, 0, 0, 0) else none
  else bif Nat.beq pc 46 then some (.ireturn, 47, 0, 0, 0, 0, 0) else none
def rs_X6_takeNumber : PMR := (1, 0, hdl [], 4)
def mi_X6_takeNumber : PMI := wrapM 47 cd_X6_takeNumber rs_X6_takeNumber
def cd_X6_takeWord (pc : Nat) : Option PE :=
  bif Nat.blt pc 9 then bif Nat.blt pc 2 then bif Nat.blt pc 1 then bif Nat.beq pc 0 then some (.aload_n 0, 1, 0, 0, 0, 0, 0) else none
  else bif Nat.beq pc 1 then some (.aload_n 1, 2, 1, 0, 0, 0, 0) else none
  else bif Nat.blt pc 5 then bif Nat.beq pc 2 then some (.invokevirtual 83, 5, 64, 2, 6, 0, 0) else none
  else bif Nat.blt pc 8 then bif Nat.beq pc 5 then some (.ifCond .ne 9, 8, 14, 0, 0, 0, 0) else none
  else bif Nat.beq pc 8 then some (.aload_n 0, 9, 0, 0, 0, 0, 0) else none
  else bif Nat.blt pc 14 then bif Nat.blt pc 11 then bif Nat.beq pc 9 then some (.bipush (-2), 11, 0, 0, 0, (-2), 0) else none
  else bif Nat.beq pc 11 then some (.invokevirtual 108, 14, 60, 2, 6, 0, 0) else none
  else bif Nat.blt pc 15 then bif Nat.beq pc 14 then some (.aload_n 0, 15, 0, 0, 0, 0, 0) else none
  else bif Nat.blt pc 18 then bif Nat.beq pc 15 then some (.invokevirtual 102, 18, 65, 1, 6, 0, 0) else none
  else bif Nat.beq pc 18 then some (.return_, 19, 0, 0, 0, 0, 0) else none
def rs_X6_takeWord : PMR := (0, 0, hdl [], 2)
def mi_X6_takeWord : PMI := wrapM 19 cd_X6_takeWord rs_X6_takeWord
def cd_X6_takeSign (pc : Nat) : Option PE :=
  bif Nat.blt pc 9 then bif Nat.blt pc 4 then bif Nat.blt pc 1 then bif Nat.beq pc 0 then some (.aload_n 0, 1, 0, 0, 0, 0, 0) else none
  else bif Nat.beq pc 1 then some (.getfield 42, 4, 6, 7, 0, 0, 0) else none
  else bif Nat.blt pc 5 then bif Nat.beq pc 4 then some (.iload_n 1, 5, 1, 0, 0, 0, 0) else none
  else bif Nat.blt pc 8 then bif Nat.beq pc 5 then some (.if_icmp .eq 9, 8, 14, 0, 0, 0, 0) else none
  else bif Nat.beq pc 8 then some (.aload_n 0, 9, 0, 0, 0, 0, 0) else none
  else bif Nat.blt pc 14 then bif Nat.blt pc 11 then bif Nat.beq pc 9 then some (.bipush (-2), 11, 0, 0, 0, (-2), 0) else none
  else bif Nat.beq pc 11 then some (.invokevirtual 108, 14, 60, 2, 6, 0, 0) else none
  else bif Nat.blt pc 15 then bif Nat.beq pc 14 then some (.aload_n 0, 15, 0, 0, 0, 0, 0) else none
  else bif Nat.blt pc 18 then bif Nat.beq pc 15 then some (.invokevirtual 102, 18, 65, 1, 6, 0, 0) else none
  else bif Nat.beq pc 18 then some (.return_, 19, 0, 0, 0, 0, 0) else none
def rs_X6_takeSign : PMR := (0, 0, hdl [], 2)
def mi_X6_takeSign : PMI := wrapM 19 cd_X6_takeSign rs_X6_takeSign
def cd_X6_isWord (pc : Nat) : Option PE :=
  bif Nat.blt pc 32 then bif Nat.blt pc 19 then bif Nat.blt pc 10 then bif Nat.blt pc 4 then bif Nat.blt pc 1 then bif Nat.beq pc 0 then some (.aload_n 0, 1, 0, 0, 0, 0, 0) else none
  else bif Nat.beq pc 1 then some (.getfield 42, 4, 6, 7, 0, 0, 0) else none
  else bif Nat.blt pc 7 then bif Nat.beq pc 4 then some (.sipush 257, 7, 0, 0, 0, 257, 0) else none
  else bif Nat.beq pc 7 then some (.if_icmp .ne 19, 10, 26, 0, 0, 0, 0) else none
  else bif Nat.blt pc 14 then bif Nat.blt pc 11 then bif Nat.beq pc 10 then some (.aload_n 0, 11, 0, 0, 0, 0, 0) else none
  else bif Nat.beq pc 11 then some (.getfield 39, 14, 6, 6, 0, 0, 0) else none
  else bif Nat.blt pc 15 then bif Nat.beq pc 14 then some (.aload_n 0, 15, 0, 0, 0, 0, 0) else none
  else bif Nat.blt pc 18 then bif Nat.beq pc 15 then some (.getfield 36, 18, 6, 5, 0, 0, 0) else none
  else bif Nat.beq pc 18 then some (.isub, 19, 0, 0, 0, 0, 0) else none
  else bif Nat.blt pc 27 then bif Nat.blt pc 23 then bif Nat.blt pc 20 then bif Nat.beq pc 19 then some (.aload_n 1, 20, 1, 0, 0, 0, 0) else none
  else bif Nat.beq pc 20 then some (.invokevirtual 184, 23, 0, 0, 110, 0, 0) else none
  else bif Nat.blt pc 26 then bif Nat.beq pc 23 then some (.if_icmp .eq 5, 26, 28, 0, 0, 0, 0) else none
  else bif Nat.beq pc 26 then some (.iconst 0, 27, 0, 0, 0, 0, 0) else none
  else bif Nat.blt pc 29 then bif Nat.blt pc 28 then bif Nat.beq pc 27 then some (.ireturn, 28, 0, 0, 0, 0, 0) else none
  else bif Nat.beq pc 28 then some (.iconst 0, 29, 0, 0, 0, 0, 0) else none
  else bif Nat.blt pc 30 then bif Nat.beq pc 29 then some (.istore_n 2, 30, 2, 0, 0, 0, 0) else none
  else bif Nat.blt pc 31 then bif Nat.beq pc 30 then some (.iload_n 2, 31, 2, 0, 0, 0, 0) else none
  else bif Nat.beq pc 31 then some (.aload_n 1, 32, 1, 0, 0, 0, 0) else none
  else bif Nat.blt pc 49 then bif Nat.blt pc 40 then bif Nat.blt pc 38 then bif Nat.blt pc 35 then bif Nat.beq pc 32 then some (.invokevirtual 184, 35, 0, 0, 110, 0, 0) else none
  else bif Nat.beq pc 35 then some (.if_icmp .ge 29, 38, 64, 0, 0, 0, 0) else none
  else bif Nat.blt pc 39 then bif Nat.beq pc 38 then some (.aload_n 0, 39, 0, 0, 0, 0, 0) else none
  else bif Nat.beq pc 39 then some (.aload_n 0, 40, 0, 0, 0, 0, 0) else none
  else bif Nat.blt pc 44 then bif Nat.blt pc 43 then bif Nat.beq pc 40 then some (.getfield 36, 43, 6, 5, 0, 0, 0) else none
  else bif Nat.beq pc 43 then some (.iload_n 2, 44, 2, 0, 0, 0, 0) else none
  else bif Nat.blt pc 45 then bif Nat.beq pc 44 then some (.iadd, 45, 0, 0, 0, 0, 0) else none
  else bif Nat.blt pc 48 then bif Nat.beq pc 45 then some (.invokevirtual 189, 48, 66, 2, 6, 0, 0) else none
  else bif Nat.beq pc 48 then some (.aload_n 1, 49, 1, 0, 0, 0, 0) else none
  else bif Nat.blt pc 57 then bif Nat.blt pc 53 then bif Nat.blt pc 50 then bif Nat.beq pc 49 then some (.iload_n 2, 50, 2, 0, 0, 0, 0) else none
  else bif Nat.beq pc 50 then some (.invokevirtual 192, 53, 0, 0, 111, 0, 0) else none
  else bif Nat.blt pc 56 then bif Nat.beq pc 53 then some (.if_icmp .eq 5, 56, 58, 0, 0, 0, 0) else none
  else bif Nat.beq pc 56 then some (.iconst 0, 57, 0, 0, 0, 0, 0) else none
  else bif Nat.blt pc 61 then bif Nat.blt pc 58 then bif Nat.beq pc 57 then some (.ireturn, 58, 0, 0, 0, 0, 0) else none
  else bif Nat.beq pc 58 then some (.iinc 2 1, 61, 2, 0, 0, 1, 0) else none
  else bif Nat.blt pc 64 then bif Nat.beq pc 61 then some (.goto (-31), 64, 30, 0, 0, 0, 0) else none
  else bif Nat.blt pc 65 then bif Nat.beq pc 64 then some (.iconst 1, 65, 0, 0, 0, 1, 0) else none
  else bif Nat.beq pc 65 then some (.ireturn, 66, 0, 0, 0, 0, 0) else none
def rs_X6_isWord : PMR := (2, 0, hdl [], 3)
def mi_X6_isWord : PMI := wrapM 66 cd_X6_isWord rs_X6_isWord
def cd_X6_next (pc : Nat) : Option PE :=
  bif Nat.blt pc 128 then bif Nat.blt pc 59 then bif Nat.blt pc 32 then bif Nat.blt pc 13 then bif Nat.blt pc 5 then bif Nat.blt pc 1 then bif Nat.beq pc 0 then some (.aload_n 0, 1, 0, 0, 0, 0, 0) else none
  else bif Nat.blt pc 2 then bif Nat.beq pc 1 then some (.aload_n 0, 2, 0, 0, 0, 0, 0) else none
  else bif Nat.beq pc 2 then some (.getfield 39, 5, 6, 6, 0, 0, 0) else none
  else bif Nat.blt pc 9 then bif Nat.blt pc 8 then bif Nat.beq pc 5 then some (.putfield 36, 8, 6, 5, 0, 0, 0) else none
  else bif Nat.beq pc 8 then some (.aload_n 0, 9, 0, 0, 0, 0, 0) else none
  else bif Nat.blt pc 12 then bif Nat.beq pc 9 then some (.getfield 36, 12, 6, 5, 0, 0, 0) else none
  else bif Nat.beq pc 12 then some (.aload_n 0, 13, 0, 0, 0, 0, 0) else none
  else bif Nat.blt pc 21 then bif Nat.blt pc 19 then bif Nat.blt pc 16 then bif Nat.beq pc 13 then some (.getfield 33, 16, 6, 4, 0, 0, 0) else none
  else bif Nat.beq pc 16 then some (.if_icmp .ge 29, 19, 45, 0, 0, 0, 0) else none
  else bif Nat.blt pc 20 then bif Nat.beq pc 19 then some (.aload_n 0, 20, 0, 0, 0, 0, 0) else none
  else bif Nat.beq pc 20 then some (.aload_n 0, 21, 0, 0, 0, 0, 0) else none
  else bif Nat.blt pc 27 then bif Nat.blt pc 24 then bif Nat.beq pc 21 then some (.getfield 36, 24, 6, 5, 0, 0, 0) else none
  else bif Nat.beq pc 24 then some (.invokevirtual 189, 27, 66, 2, 6, 0, 0) else none
  else bif Nat.blt pc 29 then bif Nat.beq pc 27 then some (.bipush 32, 29, 0, 0, 0, 32, 0) else none
  else bif Nat.beq pc 29 then some (.if_icmp .ne 16, 32, 45, 0, 0, 0, 0) else none
  else bif Nat.blt pc 45 then bif Nat.blt pc 37 then bif Nat.blt pc 33 then bif Nat.beq pc 32 then some (.aload_n 0, 33, 0, 0, 0, 0, 0) else none
  else bif Nat.blt pc 34 then bif Nat.beq pc 33 then some (.dup, 34, 0, 0, 0, 0, 0) else none
  else bif Nat.beq pc 34 then some (.getfield 36, 37, 6, 5, 0, 0, 0) else none
  else bif Nat.blt pc 39 then bif Nat.blt pc 38 then bif Nat.beq pc 37 then some (.iconst 1, 38, 0, 0, 0, 1, 0) else none
  else bif Nat.beq pc 38 then some (.iadd, 39, 0, 0, 0, 0, 0) else none
  else bif Nat.blt pc 42 then bif Nat.beq pc 39 then some (.putfield 36, 42, 6, 5, 0, 0, 0) else none
  else bif Nat.beq pc 42 then some (.goto (-34), 45, 8, 0, 0, 0, 0) else none
  else bif Nat.blt pc 53 then bif Nat.blt pc 47 then bif Nat.blt pc 46 then bif Nat.beq pc 45 then some (.aload_n 0, 46, 0, 0, 0, 0, 0) else none
  else bif Nat.beq pc 46 then some (.aload_n 0, 47, 0, 0, 0, 0, 0) else none
  else bif Nat.blt pc 50 then bif Nat.beq pc 47 then some (.getfield 36, 50, 6, 5, 0, 0, 0) else none
  else bif Nat.beq pc 50 then some (.putfield 39, 53, 6, 6, 0, 0, 0) else none
  else bif Nat.blt pc 55 then bif Nat.blt pc 54 then bif Nat.beq pc 53 then some (.aload_n 0, 54, 0, 0, 0, 0, 0) else none
  else bif Nat.beq pc 54 then some (.iconst 0, 55, 0, 0, 0, 0, 0) else none
  else bif Nat.blt pc 58 then bif Nat.beq pc 55 then some (.putfield 45, 58, 6, 8, 0, 0, 0) else none
  else bif Nat.beq pc 58 then some (.aload_n 0, 59, 0, 0, 0, 0, 0) else none
  else bif Nat.blt pc 94 then bif Nat.blt pc 76 then bif Nat.blt pc 66 then bif Nat.blt pc 62 then bif Nat.beq pc 59 then some (.getfield 36, 62, 6, 5, 0, 0, 0) else none
  else bif Nat.blt pc 63 then bif Nat.beq pc 62 then some (.aload_n 0, 63, 0, 0, 0, 0, 0) else none
  else bif Nat.beq pc 63 then some (.getfield 33, 66, 6, 4, 0, 0, 0) else none
  else bif Nat.blt pc 70 then bif Nat.blt pc 69 then bif Nat.beq pc 66 then some (.if_icmp .lt 13, 69, 79, 0, 0, 0, 0) else none
  else bif Nat.beq pc 69 then some (.aload_n 0, 70, 0, 0, 0, 0, 0) else none
  else bif Nat.blt pc 73 then bif Nat.beq pc 70 then some (.sipush 258, 73, 0, 0, 0, 258, 0) else none
  else bif Nat.beq pc 73 then some (.putfield 42, 76, 6, 7, 0, 0, 0) else none
  else bif Nat.blt pc 84 then bif Nat.blt pc 80 then bif Nat.blt pc 79 then bif Nat.beq pc 76 then some (.goto 171, 79, 247, 0, 0, 0, 0) else none
  else bif Nat.beq pc 79 then some (.aload_n 0, 80, 0, 0, 0, 0, 0) else none
  else bif Nat.blt pc 81 then bif Nat.beq pc 80 then some (.aload_n 0, 81, 0, 0, 0, 0, 0) else none
  else bif Nat.beq pc 81 then some (.getfield 36, 84, 6, 5, 0, 0, 0) else none
  else bif Nat.blt pc 90 then bif Nat.blt pc 87 then bif Nat.beq pc 84 then some (.invokevirtual 189, 87, 66, 2, 6, 0, 0) else none
  else bif Nat.beq pc 87 then some (.invokestatic 196, 90, 67, 1, 99, 0, 0) else none
  else bif Nat.blt pc 93 then bif Nat.beq pc 90 then some (.ifCond .eq 76, 93, 166, 0, 0, 0, 0) else none
  else bif Nat.beq pc 93 then some (.aload_n 0, 94, 0, 0, 0, 0, 0) else none
  else bif Nat.blt pc 111 then bif Nat.blt pc 101 then bif Nat.blt pc 97 then bif Nat.beq pc 94 then some (.sipush 256, 97, 0, 0, 0, 256, 0) else none
  else bif Nat.blt pc 100 then bif Nat.beq pc 97 then some (.putfield 42, 100, 6, 7, 0, 0, 0) else none
  else bif Nat.beq pc 100 then some (.aload_n 0, 101, 0, 0, 0, 0, 0) else none
  else bif Nat.blt pc 105 then bif Nat.blt pc 104 then bif Nat.beq pc 101 then some (.getfield 39, 104, 6, 6, 0, 0, 0) else none
  else bif Nat.beq pc 104 then some (.aload_n 0, 105, 0, 0, 0, 0, 0) else none
  else bif Nat.blt pc 108 then bif Nat.beq pc 105 then some (.getfield 33, 108, 6, 4, 0, 0, 0) else none
  else bif Nat.beq pc 108 then some (.if_icmp .ge 139, 111, 247, 0, 0, 0, 0) else none
  else bif Nat.blt pc 119 then bif Nat.blt pc 113 then bif Nat.blt pc 112 then bif Nat.beq pc 111 then some (.aload_n 0, 112, 0, 0, 0, 0, 0) else none
  else bif Nat.beq pc 112 then some (.aload_n 0, 113, 0, 0, 0, 0, 0) else none
  else bif Nat.blt pc 116 then bif Nat.beq pc 113 then some (.getfield 39, 116, 6, 6, 0, 0, 0) else none
  else bif Nat.beq pc 116 then some (.invokevirtual 189, 119, 66, 2, 6, 0, 0) else none
  else bif Nat.blt pc 125 then bif Nat.blt pc 122 then bif Nat.beq pc 119 then some (.invokestatic 196, 122, 67, 1, 99, 0, 0) else none
  else bif Nat.beq pc 122 then some (.ifCond .eq 125, 125, 247, 0, 0, 0, 0) else none
  else bif Nat.blt pc 126 then bif Nat.beq pc 125 then some (.aload_n 0, 126, 0, 0, 0, 0, 0) else none
  else bif Nat.beq pc 126 then some (.ldc 200, 128, 0, 0, 0, 100000, 0) else none
  else bif Nat.blt pc 188 then bif Nat.blt pc 155 then bif Nat.blt pc 140 then bif Nat.blt pc 134 then bif Nat.blt pc 130 then bif Nat.beq pc 128 then some (.bipush 10, 130, 0, 0, 0, 10, 0) else none
  else bif Nat.blt pc 131 then bif Nat.beq pc 130 then some (.aload_n 0, 131, 0, 0, 0, 0, 0) else none
  else bif Nat.beq pc 131 then some (.getfield 45, 134, 6, 8, 0, 0, 0) else none
  else bif Nat.blt pc 136 then bif Nat.blt pc 135 then bif Nat.beq pc 134 then some (.imul, 135, 0, 0, 0, 0, 0) else none
  else bif Nat.beq pc 135 then some (.aload_n 0, 136, 0, 0, 0, 0, 0) else none
  else bif Nat.blt pc 137 then bif Nat.beq pc 136 then some (.aload_n 0, 137, 0, 0, 0, 0, 0) else none
  else bif Nat.beq pc 137 then some (.getfield 39, 140, 6, 6, 0, 0, 0) else none
  else bif Nat.blt pc 147 then bif Nat.blt pc 144 then bif Nat.blt pc 143 then bif Nat.beq pc 140 then some (.invokevirtual 189, 143, 66, 2, 6, 0, 0) else none
  else bif Nat.beq pc 143 then some (.iadd, 144, 0, 0, 0, 0, 0) else none
  else bif Nat.blt pc 146 then bif Nat.beq pc 144 then some (.bipush 48, 146, 0, 0, 0, 48, 0) else none
  else bif Nat.beq pc 146 then some (.isub, 147, 0, 0, 0, 0, 0) else none
  else bif Nat.blt pc 153 then bif Nat.blt pc 150 then bif Nat.beq pc 147 then some (.invokestatic 201, 150, 0, 0, 100, 0, 0) else none
  else bif Nat.beq pc 150 then some (.putfield 45, 153, 6, 8, 0, 0, 0) else none
  else bif Nat.blt pc 154 then bif Nat.beq pc 153 then some (.aload_n 0, 154, 0, 0, 0, 0, 0) else none
  else bif Nat.beq pc 154 then some (.dup, 155, 0, 0, 0, 0, 0) else none
  else bif Nat.blt pc 168 then bif Nat.blt pc 160 then bif Nat.blt pc 158 then bif Nat.beq pc 155 then some (.getfield 39, 158, 6, 6, 0, 0, 0) else none
  else bif Nat.blt pc 159 then bif Nat.beq pc 158 then some (.iconst 1, 159, 0, 0, 0, 1, 0) else none
  else bif Nat.beq pc 159 then some (.iadd, 160, 0, 0, 0, 0, 0) else none
  else bif Nat.blt pc 166 then bif Nat.blt pc 163 then bif Nat.beq pc 160 then some (.putfield 39, 163, 6, 6, 0, 0, 0) else none
  else bif Nat.beq pc 163 then some (.goto (-63), 166, 100, 0, 0, 0, 0) else none
  else bif Nat.blt pc 167 then bif Nat.beq pc 166 then some (.aload_n 0, 167, 0, 0, 0, 0, 0) else none
  else bif Nat.beq pc 167 then some (.aload_n 0, 168, 0, 0, 0, 0, 0) else none
  else bif Nat.blt pc 180 then bif Nat.blt pc 174 then bif Nat.blt pc 171 then bif Nat.beq pc 168 then some (.getfield 36, 171, 6, 5, 0, 0, 0) else none
  else bif Nat.beq pc 171 then some (.invokevirtual 189, 174, 66, 2, 6, 0, 0) else none
  else bif Nat.blt pc 177 then bif Nat.beq pc 174 then some (.invokestatic 206, 177, 68, 1, 99, 0, 0) else none
  else bif Nat.beq pc 177 then some (.ifCond .eq 48, 180, 225, 0, 0, 0, 0) else none
  else bif Nat.blt pc 184 then bif Nat.blt pc 181 then bif Nat.beq pc 180 then some (.aload_n 0, 181, 0, 0, 0, 0, 0) else none
  else bif Nat.beq pc 181 then some (.sipush 257, 184, 0, 0, 0, 257, 0) else none
  else bif Nat.blt pc 187 then bif Nat.beq pc 184 then some (.putfield 42, 187, 6, 7, 0, 0, 0) else none
  else bif Nat.beq pc 187 then some (.aload_n 0, 188, 0, 0, 0, 0, 0) else none
  else bif Nat.blt pc 219 then bif Nat.blt pc 203 then bif Nat.blt pc 195 then bif Nat.blt pc 191 then bif Nat.beq pc 188 then some (.getfield 39, 191, 6, 6, 0, 0, 0) else none
  else bif Nat.blt pc 192 then bif Nat.beq pc 191 then some (.aload_n 0, 192, 0, 0, 0, 0, 0) else none
  else bif Nat.beq pc 192 then some (.getfield 33, 195, 6, 4, 0, 0, 0) else none
  else bif Nat.blt pc 199 then bif Nat.blt pc 198 then bif Nat.beq pc 195 then some (.if_icmp .ge 52, 198, 247, 0, 0, 0, 0) else none
  else bif Nat.beq pc 198 then some (.aload_n 0, 199, 0, 0, 0, 0, 0) else none
  else bif Nat.blt pc 200 then bif Nat.beq pc 199 then some (.aload_n 0, 200, 0, 0, 0, 0, 0) else none
  else bif Nat.beq pc 200 then some (.getfield 39, 203, 6, 6, 0, 0, 0) else none
  else bif Nat.blt pc 213 then bif Nat.blt pc 209 then bif Nat.blt pc 206 then bif Nat.beq pc 203 then some (.invokevirtual 189, 206, 66, 2, 6, 0, 0) else none
  else bif Nat.beq pc 206 then some (.invokestatic 206, 209, 68, 1, 99, 0, 0) else none
  else bif Nat.blt pc 212 then bif Nat.beq pc 209 then some (.ifCond .eq 38, 212, 247, 0, 0, 0, 0) else none
  else bif Nat.beq pc 212 then some (.aload_n 0, 213, 0, 0, 0, 0, 0) else none
  else bif Nat.blt pc 217 then bif Nat.blt pc 214 then bif Nat.beq pc 213 then some (.dup, 214, 0, 0, 0, 0, 0) else none
  else bif Nat.beq pc 214 then some (.getfield 39, 217, 6, 6, 0, 0, 0) else none
  else bif Nat.blt pc 218 then bif Nat.beq pc 217 then some (.iconst 1, 218, 0, 0, 0, 1, 0) else none
  else bif Nat.beq pc 218 then some (.iadd, 219, 0, 0, 0, 0, 0) else none
  else bif Nat.blt pc 234 then bif Nat.blt pc 226 then bif Nat.blt pc 222 then bif Nat.beq pc 219 then some (.putfield 39, 222, 6, 6, 0, 0, 0) else none
  else bif Nat.blt pc 225 then bif Nat.beq pc 222 then some (.goto (-35), 225, 187, 0, 0, 0, 0) else none
  else bif Nat.beq pc 225 then some (.aload_n 0, 226, 0, 0, 0, 0, 0) else none
  else bif Nat.blt pc 228 then bif Nat.blt pc 227 then bif Nat.beq pc 226 then some (.aload_n 0, 227, 0, 0, 0, 0, 0) else none
  else bif Nat.beq pc 227 then some (.aload_n 0, 228, 0, 0, 0, 0, 0) else none
  else bif Nat.blt pc 231 then bif Nat.beq pc 228 then some (.getfield 36, 231, 6, 5, 0, 0, 0) else none
  else bif Nat.beq pc 231 then some (.invokevirtual 189, 234, 66, 2, 6, 0, 0) else none
  else bif Nat.blt pc 242 then bif Nat.blt pc 238 then bif Nat.blt pc 237 then bif Nat.beq pc 234 then some (.putfield 42, 237, 6, 7, 0, 0, 0) else none
  else bif Nat.beq pc 237 then some (.aload_n 0, 238, 0, 0, 0, 0, 0) else none
  else bif Nat.blt pc 239 then bif Nat.beq pc 238 then some (.dup, 239, 0, 0, 0, 0, 0) else none
  else bif Nat.beq pc 239 then some (.getfield 39, 242, 6, 6, 0, 0, 0) else none
  else bif Nat.blt pc 244 then bif Nat.blt pc 243 then bif Nat.beq pc 242 then some (.iconst 1, 243, 0, 0, 0, 1, 0) else none
  else bif Nat.beq pc 243 then some (.iadd, 244, 0, 0, 0, 0, 0) else none
  else bif Nat.blt pc 247 then bif Nat.beq pc 244 then some (.putfield 39, 247, 6, 6, 0, 0, 0) else none
  else bif Nat.beq pc 247 then some (.return_, 248, 0, 0, 0, 0, 0) else none
def rs_X6_next : PMR := (0, 0, hdl [], 1)
def mi_X6_next : PMI := wrapM 248 cd_X6_next rs_X6_next
def cd_X6_byteAt (pc : Nat) : Option PE :=
  bif Nat.blt pc 14 then bif Nat.blt pc 6 then bif Nat.blt pc 4 then bif Nat.blt pc 1 then bif Nat.beq pc 0 then some (.iload_n 1, 1, 1, 0, 0, 0, 0) else none
  else bif Nat.beq pc 1 then some (.ifCond .lt 25, 4, 26, 0, 0, 0, 0) else none
  else bif Nat.blt pc 5 then bif Nat.beq pc 4 then some (.iload_n 1, 5, 1, 0, 0, 0, 0) else none
  else bif Nat.beq pc 5 then some (.aload_n 0, 6, 0, 0, 0, 0, 0) else none
  else bif Nat.blt pc 10 then bif Nat.blt pc 9 then bif Nat.beq pc 6 then some (.getfield 9, 9, 6, 0, 2, 0, 0) else none
  else bif Nat.beq pc 9 then some (.arraylength, 10, 0, 0, 0, 0, 0) else none
  else bif Nat.blt pc 13 then bif Nat.beq pc 10 then some (.if_icmp .ge 16, 13, 26, 0, 0, 0, 0) else none
  else bif Nat.beq pc 13 then some (.aload_n 0, 14, 0, 0, 0, 0, 0) else none
  else bif Nat.blt pc 22 then bif Nat.blt pc 18 then bif Nat.blt pc 17 then bif Nat.beq pc 14 then some (.getfield 9, 17, 6, 0, 2, 0, 0) else none
  else bif Nat.beq pc 17 then some (.iload_n 1, 18, 1, 0, 0, 0, 0) else none
  else bif Nat.blt pc 19 then bif Nat.beq pc 18 then some (.baload, 19, 0, 0, 0, 0, 0) else none
  else bif Nat.beq pc 19 then some (.sipush 255, 22, 0, 0, 0, 255, 0) else none
  else bif Nat.blt pc 26 then bif Nat.blt pc 23 then bif Nat.beq pc 22 then some (.iand, 23, 0, 0, 0, 0, 0) else none
  else bif Nat.beq pc 23 then some (.goto 4, 26, 27, 0, 0, 0, 0) else none
  else bif Nat.blt pc 27 then bif Nat.beq pc 26 then some (.iconst 0, 27, 0, 0, 0, 0, 0) else none
  else bif Nat.beq pc 27 then some (.ireturn, 28, 0, 0, 0, 0, 0) else none
def rs_X6_byteAt : PMR := (1, 0, hdl [], 2)
def mi_X6_byteAt : PMI := wrapM 28 cd_X6_byteAt rs_X6_byteAt
def cd_X6_isDigit (pc : Nat) : Option PE :=
  bif Nat.blt pc 9 then bif Nat.blt pc 3 then bif Nat.blt pc 1 then bif Nat.beq pc 0 then some (.iload_n 0, 1, 0, 0, 0, 0, 0) else none
  else bif Nat.beq pc 1 then some (.bipush 48, 3, 0, 0, 0, 48, 0) else none
  else bif Nat.blt pc 6 then bif Nat.beq pc 3 then some (.if_icmp .lt 13, 6, 16, 0, 0, 0, 0) else none
  else bif Nat.blt pc 7 then bif Nat.beq pc 6 then some (.iload_n 0, 7, 0, 0, 0, 0, 0) else none
  else bif Nat.beq pc 7 then some (.bipush 57, 9, 0, 0, 0, 57, 0) else none
  else bif Nat.blt pc 13 then bif Nat.blt pc 12 then bif Nat.beq pc 9 then some (.if_icmp .gt 7, 12, 16, 0, 0, 0, 0) else none
  else bif Nat.beq pc 12 then some (.iconst 1, 13, 0, 0, 0, 1, 0) else none
  else bif Nat.blt pc 16 then bif Nat.beq pc 13 then some (.goto 4, 16, 17, 0, 0, 0, 0) else none
  else bif Nat.blt pc 17 then bif Nat.beq pc 16 then some (.iconst 0, 17, 0, 0, 0, 0, 0) else none
  else bif Nat.beq pc 17 then some (.ireturn, 18, 0, 0, 0, 0, 0) else none
def rs_X6_isDigit : PMR := (2, 0, hdl [], 1)
def mi_X6_isDigit : PMI := wrapM 18 cd_X6_isDigit rs_X6_isDigit
def cd_X6_isLetter (pc : Nat) : Option PE :=
  bif Nat.blt pc 9 then bif Nat.blt pc 3 then bif Nat.blt pc 1 then bif Nat.beq pc 0 then some (.iload_n 0, 1, 0, 0, 0, 0, 0) else none
  else bif Nat.beq pc 1 then some (.bipush 97, 3, 0, 0, 0, 97, 0) else none
  else bif Nat.blt pc 6 then bif Nat.beq pc 3 then some (.if_icmp .lt 13, 6, 16, 0, 0, 0, 0) else none
  else bif Nat.blt pc 7 then bif Nat.beq pc 6 then some (.iload_n 0, 7, 0, 0, 0, 0, 0) else none
  else bif Nat.beq pc 7 then some (.bipush 122, 9, 0, 0, 0, 122, 0) else none
  else bif Nat.blt pc 13 then bif Nat.blt pc 12 then bif Nat.beq pc 9 then some (.if_icmp .gt 7, 12, 16, 0, 0, 0, 0) else none
  else bif Nat.beq pc 12 then some (.iconst 1, 13, 0, 0, 0, 1, 0) else none
  else bif Nat.blt pc 16 then bif Nat.beq pc 13 then some (.goto 4, 16, 17, 0, 0, 0, 0) else none
  else bif Nat.blt pc 17 then bif Nat.beq pc 16 then some (.iconst 0, 17, 0, 0, 0, 0, 0) else none
  else bif Nat.beq pc 17 then some (.ireturn, 18, 0, 0, 0, 0, 0) else none
def rs_X6_isLetter : PMR := (2, 0, hdl [], 1)
def mi_X6_isLetter : PMI := wrapM 18 cd_X6_isLetter rs_X6_isLetter
def cd_X7_append (pc : Nat) : Option PE :=
  bif Nat.blt pc 31 then bif Nat.blt pc 17 then bif Nat.blt pc 9 then bif Nat.blt pc 4 then bif Nat.blt pc 1 then bif Nat.beq pc 0 then some (.aload_n 0, 1, 0, 0, 0, 0, 0) else none
  else bif Nat.beq pc 1 then some (.getfield 12, 4, 7, 0, 2, 0, 0) else none
  else bif Nat.blt pc 7 then bif Nat.beq pc 4 then some (.getfield 45, 7, 6, 3, 0, 0, 0) else none
  else bif Nat.beq pc 7 then some (.bipush 20, 9, 0, 0, 0, 20, 0) else none
  else bif Nat.blt pc 13 then bif Nat.blt pc 10 then bif Nat.beq pc 9 then some (.iadd, 10, 0, 0, 0, 0, 0) else none
  else bif Nat.beq pc 10 then some (.sipush 700, 13, 0, 0, 0, 700, 0) else none
  else bif Nat.blt pc 16 then bif Nat.beq pc 13 then some (.if_icmp .le 5, 16, 18, 0, 0, 0, 0) else none
  else bif Nat.beq pc 16 then some (.iconst (-1), 17, 0, 0, 0, (-1), 0) else none
  else bif Nat.blt pc 23 then bif Nat.blt pc 19 then bif Nat.blt pc 18 then bif Nat.beq pc 17 then some (.ireturn, 18, 0, 0, 0, 0, 0) else none
  else bif Nat.beq pc 18 then some (.aload_n 0, 19, 0, 0, 0, 0, 0) else none
  else bif Nat.blt pc 22 then bif Nat.beq pc 19 then some (.getfield 12, 22, 7, 0, 2, 0, 0) else none
  else bif Nat.beq pc 22 then some (.iload_n 1, 23, 1, 0, 0, 0, 0) else none
  else bif Nat.blt pc 27 then bif Nat.blt pc 26 then bif Nat.beq pc 23 then some (.invokevirtual 49, 26, 49, 2, 6, 0, 0) else none
  else bif Nat.beq pc 26 then some (.aload_n 0, 27, 0, 0, 0, 0, 0) else none
  else bif Nat.blt pc 30 then bif Nat.beq pc 27 then some (.getfield 12, 30, 7, 0, 2, 0, 0) else none
  else bif Nat.beq pc 30 then some (.iload_n 2, 31, 2, 0, 0, 0, 0) else none
  else bif Nat.blt pc 48 then bif Nat.blt pc 39 then bif Nat.blt pc 35 then bif Nat.blt pc 34 then bif Nat.beq pc 31 then some (.invokevirtual 49, 34, 49, 2, 6, 0, 0) else none
  else bif Nat.beq pc 34 then some (.aload_n 0, 35, 0, 0, 0, 0, 0) else none
  else bif Nat.blt pc 38 then bif Nat.beq pc 35 then some (.getfield 12, 38, 7, 0, 2, 0, 0) else none
  else bif Nat.beq pc 38 then some (.iload_n 3, 39, 3, 0, 0, 0, 0) else none
  else bif Nat.blt pc 43 then bif Nat.blt pc 42 then bif Nat.beq pc 39 then some (.invokevirtual 49, 42, 49, 2, 6, 0, 0) else none
  else bif Nat.beq pc 42 then some (.aload_n 0, 43, 0, 0, 0, 0, 0) else none
  else bif Nat.blt pc 46 then bif Nat.beq pc 43 then some (.getfield 12, 46, 7, 0, 2, 0, 0) else none
  else bif Nat.beq pc 46 then some (.iload 4, 48, 4, 0, 0, 0, 0) else none
  else bif Nat.blt pc 57 then bif Nat.blt pc 52 then bif Nat.blt pc 51 then bif Nat.beq pc 48 then some (.invokevirtual 49, 51, 49, 2, 6, 0, 0) else none
  else bif Nat.beq pc 51 then some (.aload_n 0, 52, 0, 0, 0, 0, 0) else none
  else bif Nat.blt pc 55 then bif Nat.beq pc 52 then some (.getfield 12, 55, 7, 0, 2, 0, 0) else none
  else bif Nat.beq pc 55 then some (.iload 5, 57, 5, 0, 0, 0, 0) else none
  else bif Nat.blt pc 61 then bif Nat.blt pc 60 then bif Nat.beq pc 57 then some (.invokevirtual 49, 60, 49, 2, 6, 0, 0) else none
  else bif Nat.beq pc 60 then some (.aload_n 0, 61, 0, 0, 0, 0, 0) else none
  else bif Nat.blt pc 64 then bif Nat.beq pc 61 then some (.getfield 12, 64, 7, 0, 2, 0, 0) else none
  else bif Nat.blt pc 67 then bif Nat.beq pc 64 then some (.getfield 45, 67, 6, 3, 0, 0, 0) else none
  else bif Nat.beq pc 67 then some (.ireturn, 68, 0, 0, 0, 0, 0) else none
def rs_X7_append : PMR := (1, 0, hdl [], 6)
def mi_X7_append : PMI := wrapM 68 cd_X7_append rs_X7_append
def cd_X7_load (pc : Nat) : Option PE :=
  bif Nat.blt pc 48 then bif Nat.blt pc 29 then bif Nat.blt pc 9 then bif Nat.blt pc 4 then bif Nat.blt pc 1 then bif Nat.beq pc 0 then some (.iload_n 1, 1, 1, 0, 0, 0, 0) else none
  else bif Nat.beq pc 1 then some (.ifCond .lt 14, 4, 15, 0, 0, 0, 0) else none
  else bif Nat.blt pc 5 then bif Nat.beq pc 4 then some (.iload_n 1, 5, 1, 0, 0, 0, 0) else none
  else bif Nat.blt pc 6 then bif Nat.beq pc 5 then some (.aload_n 0, 6, 0, 0, 0, 0, 0) else none
  else bif Nat.beq pc 6 then some (.getfield 12, 9, 7, 0, 2, 0, 0) else none
  else bif Nat.blt pc 15 then bif Nat.blt pc 12 then bif Nat.beq pc 9 then some (.getfield 45, 12, 6, 3, 0, 0, 0) else none
  else bif Nat.beq pc 12 then some (.if_icmp .le 13, 15, 25, 0, 0, 0, 0) else none
  else bif Nat.blt pc 25 then bif Nat.beq pc 15 then some (.new 53, 18, 0, 55, 200, 0, 0) else none
  else bif Nat.blt pc 26 then bif Nat.beq pc 25 then some (.aload_n 0, 26, 0, 0, 0, 0, 0) else none
  else bif Nat.beq pc 26 then some (.getfield 12, 29, 7, 0, 2, 0, 0) else none
  else bif Nat.blt pc 38 then bif Nat.blt pc 33 then bif Nat.blt pc 30 then bif Nat.beq pc 29 then some (.iload_n 1, 30, 1, 0, 0, 0, 0) else none
  else bif Nat.beq pc 30 then some (.invokevirtual 60, 33, 50, 2, 6, 0, 0) else none
  else bif Nat.blt pc 34 then bif Nat.beq pc 33 then some (.istore_n 2, 34, 2, 0, 0, 0, 0) else none
  else bif Nat.blt pc 35 then bif Nat.beq pc 34 then some (.iload_n 2, 35, 2, 0, 0, 0, 0) else none
  else bif Nat.beq pc 35 then some (.ifCond .eq 5, 38, 40, 0, 0, 0, 0) else none
  else bif Nat.blt pc 41 then bif Nat.blt pc 39 then bif Nat.beq pc 38 then some (.iload_n 2, 39, 2, 0, 0, 0, 0) else none
  else bif Nat.blt pc 40 then bif Nat.beq pc 39 then some (.ireturn, 40, 0, 0, 0, 0, 0) else none
  else bif Nat.beq pc 40 then some (.aload_n 0, 41, 0, 0, 0, 0, 0) else none
  else bif Nat.blt pc 44 then bif Nat.beq pc 41 then some (.getfield 41, 44, 7, 5, 2, 0, 0) else none
  else bif Nat.blt pc 45 then bif Nat.beq pc 44 then some (.aload_n 0, 45, 0, 0, 0, 0, 0) else none
  else bif Nat.beq pc 45 then some (.getfield 27, 48, 7, 2, 2, 0, 0) else none
  else bif Nat.blt pc 71 then bif Nat.blt pc 57 then bif Nat.blt pc 52 then bif Nat.blt pc 49 then bif Nat.beq pc 48 then some (.aload_n 0, 49, 0, 0, 0, 0, 0) else none
  else bif Nat.beq pc 49 then some (.getfield 37, 52, 7, 4, 2, 0, 0) else none
  else bif Nat.blt pc 53 then bif Nat.beq pc 52 then some (.iconst 1, 53, 0, 0, 0, 1, 0) else none
  else bif Nat.blt pc 56 then bif Nat.beq pc 53 then some (.invokevirtual 64, 56, 6, 4, 1, 0, 0) else none
  else bif Nat.beq pc 56 then some (.aload_n 0, 57, 0, 0, 0, 0, 0) else none
  else bif Nat.blt pc 64 then bif Nat.blt pc 60 then bif Nat.beq pc 57 then some (.getfield 27, 60, 7, 2, 2, 0, 0) else none
  else bif Nat.blt pc 61 then bif Nat.beq pc 60 then some (.aload_n 0, 61, 0, 0, 0, 0, 0) else none
  else bif Nat.beq pc 61 then some (.getfield 12, 64, 7, 0, 2, 0, 0) else none
  else bif Nat.blt pc 67 then bif Nat.beq pc 64 then some (.getfield 68, 67, 6, 1, 2, 0, 0) else none
  else bif Nat.blt pc 70 then bif Nat.beq pc 67 then some (.invokevirtual 69, 70, 9, 2, 2, 0, 0) else none
  else bif Nat.beq pc 70 then some (.aload_n 0, 71, 0, 0, 0, 0, 0) else none
  else bif Nat.blt pc 82 then bif Nat.blt pc 75 then bif Nat.blt pc 74 then bif Nat.beq pc 71 then some (.getfield 32, 74, 7, 3, 2, 0, 0) else none
  else bif Nat.beq pc 74 then some (.aload_n 0, 75, 0, 0, 0, 0, 0) else none
  else bif Nat.blt pc 78 then bif Nat.beq pc 75 then some (.getfield 27, 78, 7, 2, 2, 0, 0) else none
  else bif Nat.blt pc 81 then bif Nat.beq pc 78 then some (.invokevirtual 75, 81, 41, 2, 5, 0, 0) else none
  else bif Nat.beq pc 81 then some (.aload_n 0, 82, 0, 0, 0, 0, 0) else none
  else bif Nat.blt pc 89 then bif Nat.blt pc 85 then bif Nat.beq pc 82 then some (.getfield 37, 85, 7, 4, 2, 0, 0) else none
  else bif Nat.blt pc 88 then bif Nat.beq pc 85 then some (.invokevirtual 80, 88, 19, 1, 3, 0, 0) else none
  else bif Nat.beq pc 88 then some (.aload_n 0, 89, 0, 0, 0, 0, 0) else none
  else bif Nat.blt pc 92 then bif Nat.beq pc 89 then some (.getfield 27, 92, 7, 2, 2, 0, 0) else none
  else bif Nat.blt pc 95 then bif Nat.beq pc 92 then some (.getfield 85, 95, 2, 2, 0, 0, 0) else none
  else bif Nat.beq pc 95 then some (.ireturn, 96, 0, 0, 0, 0, 0) else none
def rs_X7_load : PMR := (1, 1, hdl [], 3)
def mi_X7_load : PMI := wrapM 96 cd_X7_load rs_X7_load
def cd_X7_errorOffset (pc : Nat) : Option PE :=
  bif Nat.blt pc 4 then bif Nat.blt pc 1 then bif Nat.beq pc 0 then some (.aload_n 0, 1, 0, 0, 0, 0, 0) else none
  else bif Nat.beq pc 1 then some (.getfield 12, 4, 7, 0, 2, 0, 0) else none
  else bif Nat.blt pc 7 then bif Nat.beq pc 4 then some (.getfield 88, 7, 6, 11, 0, 0, 0) else none
  else bif Nat.beq pc 7 then some (.ireturn, 8, 0, 0, 0, 0, 0) else none
def rs_X7_errorOffset : PMR := (1, 0, hdl [], 1)
def mi_X7_errorOffset : PMI := wrapM 8 cd_X7_errorOffset rs_X7_errorOffset
def cd_X7_nodeCount (pc : Nat) : Option PE :=
  bif Nat.blt pc 4 then bif Nat.blt pc 1 then bif Nat.beq pc 0 then some (.aload_n 0, 1, 0, 0, 0, 0, 0) else none
  else bif Nat.beq pc 1 then some (.getfield 27, 4, 7, 2, 2, 0, 0) else none
  else bif Nat.blt pc 7 then bif Nat.beq pc 4 then some (.getfield 91, 7, 2, 0, 0, 0, 0) else none
  else bif Nat.beq pc 7 then some (.ireturn, 8, 0, 0, 0, 0, 0) else none
def rs_X7_nodeCount : PMR := (1, 0, hdl [], 1)
def mi_X7_nodeCount : PMI := wrapM 8 cd_X7_nodeCount rs_X7_nodeCount
def cd_X7_edgeCount (pc : Nat) : Option PE :=
  bif Nat.blt pc 4 then bif Nat.blt pc 1 then bif Nat.beq pc 0 then some (.aload_n 0, 1, 0, 0, 0, 0, 0) else none
  else bif Nat.beq pc 1 then some (.getfield 27, 4, 7, 2, 2, 0, 0) else none
  else bif Nat.blt pc 7 then bif Nat.beq pc 4 then some (.getfield 85, 7, 2, 2, 0, 0, 0) else none
  else bif Nat.beq pc 7 then some (.ireturn, 8, 0, 0, 0, 0, 0) else none
def rs_X7_edgeCount : PMR := (1, 0, hdl [], 1)
def mi_X7_edgeCount : PMI := wrapM 8 cd_X7_edgeCount rs_X7_edgeCount
def cd_X7_depotCount (pc : Nat) : Option PE :=
  bif Nat.blt pc 4 then bif Nat.blt pc 1 then bif Nat.beq pc 0 then some (.aload_n 0, 1, 0, 0, 0, 0, 0) else none
  else bif Nat.beq pc 1 then some (.getfield 27, 4, 7, 2, 2, 0, 0) else none
  else bif Nat.blt pc 7 then bif Nat.beq pc 4 then some (.getfield 94, 7, 2, 3, 0, 0, 0) else none
  else bif Nat.beq pc 7 then some (.ireturn, 8, 0, 0, 0, 0, 0) else none
def rs_X7_depotCount : PMR := (1, 0, hdl [], 1)
def mi_X7_depotCount : PMI := wrapM 8 cd_X7_depotCount rs_X7_depotCount
def cd_X7_tourCount (pc : Nat) : Option PE :=
  bif Nat.blt pc 4 then bif Nat.blt pc 1 then bif Nat.beq pc 0 then some (.aload_n 0, 1, 0, 0, 0, 0, 0) else none
  else bif Nat.beq pc 1 then some (.getfield 37, 4, 7, 4, 2, 0, 0) else none
  else bif Nat.blt pc 7 then bif Nat.beq pc 4 then some (.getfield 97, 7, 3, 0, 0, 0, 0) else none
  else bif Nat.beq pc 7 then some (.ireturn, 8, 0, 0, 0, 0, 0) else none
def rs_X7_tourCount : PMR := (1, 0, hdl [], 1)
def mi_X7_tourCount : PMI := wrapM 8 cd_X7_tourCount rs_X7_tourCount
def cd_X7_edge (pc : Nat) : Option PE :=
  bif Nat.blt pc 71 then bif Nat.blt pc 53 then bif Nat.blt pc 41 then bif Nat.blt pc 5 then bif Nat.blt pc 1 then bif Nat.beq pc 0 then some (.aload_n 0, 1, 0, 0, 0, 0, 0) else none
  else bif Nat.blt pc 2 then bif Nat.beq pc 1 then some (.iload_n 1, 2, 1, 0, 0, 0, 0) else none
  else bif Nat.beq pc 2 then some (.invokevirtual 100, 5, 101, 2, 7, 0, 0) else none
  else bif Nat.blt pc 6 then bif Nat.beq pc 5 then some (.iload_n 2, 6, 2, 0, 0, 0, 0) else none
  else bif Nat.blt pc 40 then bif Nat.beq pc 6 then some (.tableswitch 106 0 4 #[34, 48, 64, 78, 94], 40, 112, 6, 0, 0, 0) else none
  else bif Nat.beq pc 40 then some (.aload_n 0, 41, 0, 0, 0, 0, 0) else none
  else bif Nat.blt pc 48 then bif Nat.blt pc 44 then bif Nat.beq pc 41 then some (.getfield 27, 44, 7, 2, 2, 0, 0) else none
  else bif Nat.blt pc 47 then bif Nat.beq pc 44 then some (.getfield 103, 47, 2, 4, 2, 0, 0) else none
  else bif Nat.beq pc 47 then some (.iconst 2, 48, 0, 0, 0, 2, 0) else none
  else bif Nat.blt pc 49 then bif Nat.beq pc 48 then some (.iload_n 1, 49, 1, 0, 0, 0, 0) else none
  else bif Nat.blt pc 50 then bif Nat.beq pc 49 then some (.imul, 50, 0, 0, 0, 0, 0) else none
  else bif Nat.beq pc 50 then some (.invokestatic 107, 53, 106, 2, 99, 0, 0) else none
  else bif Nat.blt pc 63 then bif Nat.blt pc 58 then bif Nat.blt pc 54 then bif Nat.beq pc 53 then some (.ireturn, 54, 0, 0, 0, 0, 0) else none
  else bif Nat.blt pc 55 then bif Nat.beq pc 54 then some (.aload_n 0, 55, 0, 0, 0, 0, 0) else none
  else bif Nat.beq pc 55 then some (.getfield 27, 58, 7, 2, 2, 0, 0) else none
  else bif Nat.blt pc 61 then bif Nat.beq pc 58 then some (.getfield 103, 61, 2, 4, 2, 0, 0) else none
  else bif Nat.blt pc 62 then bif Nat.beq pc 61 then some (.iconst 2, 62, 0, 0, 0, 2, 0) else none
  else bif Nat.beq pc 62 then some (.iload_n 1, 63, 1, 0, 0, 0, 0) else none
  else bif Nat.blt pc 66 then bif Nat.blt pc 64 then bif Nat.beq pc 63 then some (.imul, 64, 0, 0, 0, 0, 0) else none
  else bif Nat.blt pc 65 then bif Nat.beq pc 64 then some (.iconst 1, 65, 0, 0, 0, 1, 0) else none
  else bif Nat.beq pc 65 then some (.iadd, 66, 0, 0, 0, 0, 0) else none
  else bif Nat.blt pc 69 then bif Nat.beq pc 66 then some (.invokestatic 107, 69, 106, 2, 99, 0, 0) else none
  else bif Nat.blt pc 70 then bif Nat.beq pc 69 then some (.ireturn, 70, 0, 0, 0, 0, 0) else none
  else bif Nat.beq pc 70 then some (.aload_n 0, 71, 0, 0, 0, 0, 0) else none
  else bif Nat.blt pc 93 then bif Nat.blt pc 83 then bif Nat.blt pc 78 then bif Nat.blt pc 74 then bif Nat.beq pc 71 then some (.getfield 27, 74, 7, 2, 2, 0, 0) else none
  else bif Nat.blt pc 77 then bif Nat.beq pc 74 then some (.getfield 111, 77, 2, 5, 2, 0, 0) else none
  else bif Nat.beq pc 77 then some (.iconst 2, 78, 0, 0, 0, 2, 0) else none
  else bif Nat.blt pc 79 then bif Nat.beq pc 78 then some (.iload_n 1, 79, 1, 0, 0, 0, 0) else none
  else bif Nat.blt pc 80 then bif Nat.beq pc 79 then some (.imul, 80, 0, 0, 0, 0, 0) else none
  else bif Nat.beq pc 80 then some (.invokestatic 107, 83, 106, 2, 99, 0, 0) else none
  else bif Nat.blt pc 88 then bif Nat.blt pc 84 then bif Nat.beq pc 83 then some (.ireturn, 84, 0, 0, 0, 0, 0) else none
  else bif Nat.blt pc 85 then bif Nat.beq pc 84 then some (.aload_n 0, 85, 0, 0, 0, 0, 0) else none
  else bif Nat.beq pc 85 then some (.getfield 27, 88, 7, 2, 2, 0, 0) else none
  else bif Nat.blt pc 91 then bif Nat.beq pc 88 then some (.getfield 111, 91, 2, 5, 2, 0, 0) else none
  else bif Nat.blt pc 92 then bif Nat.beq pc 91 then some (.iconst 2, 92, 0, 0, 0, 2, 0) else none
  else bif Nat.beq pc 92 then some (.iload_n 1, 93, 1, 0, 0, 0, 0) else none
  else bif Nat.blt pc 101 then bif Nat.blt pc 96 then bif Nat.blt pc 94 then bif Nat.beq pc 93 then some (.imul, 94, 0, 0, 0, 0, 0) else none
  else bif Nat.blt pc 95 then bif Nat.beq pc 94 then some (.iconst 1, 95, 0, 0, 0, 1, 0) else none
  else bif Nat.beq pc 95 then some (.iadd, 96, 0, 0, 0, 0, 0) else none
  else bif Nat.blt pc 99 then bif Nat.beq pc 96 then some (.invokestatic 107, 99, 106, 2, 99, 0, 0) else none
  else bif Nat.blt pc 100 then bif Nat.beq pc 99 then some (.ireturn, 100, 0, 0, 0, 0, 0) else none
  else bif Nat.beq pc 100 then some (.aload_n 0, 101, 0, 0, 0, 0, 0) else none
  else bif Nat.blt pc 108 then bif Nat.blt pc 104 then bif Nat.beq pc 101 then some (.getfield 27, 104, 7, 2, 2, 0, 0) else none
  else bif Nat.blt pc 107 then bif Nat.beq pc 104 then some (.getfield 114, 107, 2, 8, 2, 0, 0) else none
  else bif Nat.beq pc 107 then some (.iload_n 1, 108, 1, 0, 0, 0, 0) else none
  else bif Nat.blt pc 111 then bif Nat.beq pc 108 then some (.invokestatic 107, 111, 106, 2, 99, 0, 0) else none
  else bif Nat.blt pc 112 then bif Nat.beq pc 111 then some (.ireturn, 112, 0, 0, 0, 0, 0) else none
  else bif Nat.beq pc 112 then some (.new 53, 115, 0, 117, 200, 0, 0) else none
def rs_X7_edge : PMR := (1, 2, hdl [], 3)
def mi_X7_edge : PMI := wrapM 113 cd_X7_edge rs_X7_edge
def cd_X7_mayFollow (pc : Nat) : Option PE :=
  bif Nat.blt pc 10 then bif Nat.blt pc 5 then bif Nat.blt pc 1 then bif Nat.beq pc 0 then some (.aload_n 0, 1, 0, 0, 0, 0, 0) else none
  else bif Nat.blt pc 2 then bif Nat.beq pc 1 then some (.iload_n 1, 2, 1, 0, 0, 0, 0) else none
  else bif Nat.beq pc 2 then some (.invokevirtual 119, 5, 102, 2, 7, 0, 0) else none
  else bif Nat.blt pc 6 then bif Nat.beq pc 5 then some (.aload_n 0, 6, 0, 0, 0, 0, 0) else none
  else bif Nat.blt pc 7 then bif Nat.beq pc 6 then some (.iload_n 2, 7, 2, 0, 0, 0, 0) else none
  else bif Nat.beq pc 7 then some (.invokevirtual 119, 10, 102, 2, 7, 0, 0) else none
  else bif Nat.blt pc 15 then bif Nat.blt pc 11 then bif Nat.beq pc 10 then some (.aload_n 0, 11, 0, 0, 0, 0, 0) else none
  else bif Nat.blt pc 14 then bif Nat.beq pc 11 then some (.getfield 27, 14, 7, 2, 2, 0, 0) else none
  else bif Nat.beq pc 14 then some (.iload_n 1, 15, 1, 0, 0, 0, 0) else none
  else bif Nat.blt pc 16 then bif Nat.beq pc 15 then some (.iload_n 2, 16, 2, 0, 0, 0, 0) else none
  else bif Nat.blt pc 19 then bif Nat.beq pc 16 then some (.invokevirtual 122, 19, 17, 3, 2, 0, 0) else none
  else bif Nat.beq pc 19 then some (.ireturn, 20, 0, 0, 0, 0, 0) else none
def rs_X7_mayFollow : PMR := (2, 2, hdl [], 3)
def mi_X7_mayFollow : PMI := wrapM 20 cd_X7_mayFollow rs_X7_mayFollow
def cd_X7_deadhead (pc : Nat) : Option PE :=
  bif Nat.blt pc 14 then bif Nat.blt pc 6 then bif Nat.blt pc 2 then bif Nat.blt pc 1 then bif Nat.beq pc 0 then some (.aload_n 0, 1, 0, 0, 0, 0, 0) else none
  else bif Nat.beq pc 1 then some (.iload_n 1, 2, 1, 0, 0, 0, 0) else none
  else bif Nat.blt pc 5 then bif Nat.beq pc 2 then some (.invokevirtual 119, 5, 102, 2, 7, 0, 0) else none
  else bif Nat.beq pc 5 then some (.aload_n 0, 6, 0, 0, 0, 0, 0) else none
  else bif Nat.blt pc 10 then bif Nat.blt pc 7 then bif Nat.beq pc 6 then some (.iload_n 2, 7, 2, 0, 0, 0, 0) else none
  else bif Nat.beq pc 7 then some (.invokevirtual 119, 10, 102, 2, 7, 0, 0) else none
  else bif Nat.blt pc 11 then bif Nat.beq pc 10 then some (.aload_n 0, 11, 0, 0, 0, 0, 0) else none
  else bif Nat.beq pc 11 then some (.getfield 32, 14, 7, 3, 2, 0, 0) else none
  else bif Nat.blt pc 21 then bif Nat.blt pc 18 then bif Nat.blt pc 17 then bif Nat.beq pc 14 then some (.getfield 126, 17, 5, 0, 2, 0, 0) else none
  else bif Nat.beq pc 17 then some (.iload_n 1, 18, 1, 0, 0, 0, 0) else none
  else bif Nat.blt pc 20 then bif Nat.beq pc 18 then some (.bipush 28, 20, 0, 0, 0, 28, 0) else none
  else bif Nat.beq pc 20 then some (.imul, 21, 0, 0, 0, 0, 0) else none
  else bif Nat.blt pc 23 then bif Nat.blt pc 22 then bif Nat.beq pc 21 then some (.iload_n 2, 22, 2, 0, 0, 0, 0) else none
  else bif Nat.beq pc 22 then some (.iadd, 23, 0, 0, 0, 0, 0) else none
  else bif Nat.blt pc 26 then bif Nat.beq pc 23 then some (.invokestatic 107, 26, 106, 2, 99, 0, 0) else none
  else bif Nat.blt pc 29 then bif Nat.beq pc 26 then some (.invokestatic 129, 29, 104, 1, 99, 0, 0) else none
  else bif Nat.beq pc 29 then some (.ireturn, 30, 0, 0, 0, 0, 0) else none
def rs_X7_deadhead : PMR := (1, 2, hdl [], 3)
def mi_X7_deadhead : PMI := wrapM 30 cd_X7_deadhead rs_X7_deadhead
def cd_X7_distance (pc : Nat) : Option PE :=
  bif Nat.blt pc 14 then bif Nat.blt pc 6 then bif Nat.blt pc 2 then bif Nat.blt pc 1 then bif Nat.beq pc 0 then some (.aload_n 0, 1, 0, 0, 0, 0, 0) else none
  else bif Nat.beq pc 1 then some (.iload_n 1, 2, 1, 0, 0, 0, 0) else none
  else bif Nat.blt pc 5 then bif Nat.beq pc 2 then some (.invokevirtual 132, 5, 100, 2, 7, 0, 0) else none
  else bif Nat.beq pc 5 then some (.aload_n 0, 6, 0, 0, 0, 0, 0) else none
  else bif Nat.blt pc 10 then bif Nat.blt pc 7 then bif Nat.beq pc 6 then some (.iload_n 2, 7, 2, 0, 0, 0, 0) else none
  else bif Nat.beq pc 7 then some (.invokevirtual 132, 10, 100, 2, 7, 0, 0) else none
  else bif Nat.blt pc 11 then bif Nat.beq pc 10 then some (.aload_n 0, 11, 0, 0, 0, 0, 0) else none
  else bif Nat.beq pc 11 then some (.getfield 32, 14, 7, 3, 2, 0, 0) else none
  else bif Nat.blt pc 21 then bif Nat.blt pc 18 then bif Nat.blt pc 17 then bif Nat.beq pc 14 then some (.getfield 135, 17, 5, 3, 2, 0, 0) else none
  else bif Nat.beq pc 17 then some (.iload_n 1, 18, 1, 0, 0, 0, 0) else none
  else bif Nat.blt pc 20 then bif Nat.beq pc 18 then some (.bipush 8, 20, 0, 0, 0, 8, 0) else none
  else bif Nat.beq pc 20 then some (.imul, 21, 0, 0, 0, 0, 0) else none
  else bif Nat.blt pc 23 then bif Nat.blt pc 22 then bif Nat.beq pc 21 then some (.iload_n 2, 22, 2, 0, 0, 0, 0) else none
  else bif Nat.beq pc 22 then some (.iadd, 23, 0, 0, 0, 0, 0) else none
  else bif Nat.blt pc 26 then bif Nat.beq pc 23 then some (.invokestatic 107, 26, 106, 2, 99, 0, 0) else none
  else bif Nat.blt pc 29 then bif Nat.beq pc 26 then some (.invokestatic 129, 29, 104, 1, 99, 0, 0) else none
  else bif Nat.beq pc 29 then some (.ireturn, 30, 0, 0, 0, 0, 0) else none
def rs_X7_distance : PMR := (1, 2, hdl [], 3)
def mi_X7_distance : PMI := wrapM 30 cd_X7_distance rs_X7_distance
def cd_X7_serviceCost (pc : Nat) : Option PE :=
  bif Nat.blt pc 6 then bif Nat.blt pc 2 then bif Nat.blt pc 1 then bif Nat.beq pc 0 then some (.aload_n 0, 1, 0, 0, 0, 0, 0) else none
  else bif Nat.beq pc 1 then some (.iload_n 1, 2, 1, 0, 0, 0, 0) else none
  else bif Nat.blt pc 5 then bif Nat.beq pc 2 then some (.invokevirtual 119, 5, 102, 2, 7, 0, 0) else none
  else bif Nat.beq pc 5 then some (.aload_n 0, 6, 0, 0, 0, 0, 0) else none
  else bif Nat.blt pc 12 then bif Nat.blt pc 9 then bif Nat.beq pc 6 then some (.getfield 27, 9, 7, 2, 2, 0, 0) else none
  else bif Nat.beq pc 9 then some (.getfield 138, 12, 2, 6, 2, 0, 0) else none
  else bif Nat.blt pc 13 then bif Nat.beq pc 12 then some (.iload_n 1, 13, 1, 0, 0, 0, 0) else none
  else bif Nat.blt pc 16 then bif Nat.beq pc 13 then some (.invokestatic 107, 16, 106, 2, 99, 0, 0) else none
  else bif Nat.beq pc 16 then some (.ireturn, 17, 0, 0, 0, 0, 0) else none
def rs_X7_serviceCost : PMR := (1, 1, hdl [], 2)
def mi_X7_serviceCost : PMI := wrapM 17 cd_X7_serviceCost rs_X7_serviceCost
def cd_X7_oddNodes (pc : Nat) : Option PE :=
  bif Nat.blt pc 4 then bif Nat.blt pc 1 then bif Nat.beq pc 0 then some (.aload_n 0, 1, 0, 0, 0, 0, 0) else none
  else bif Nat.beq pc 1 then some (.getfield 27, 4, 7, 2, 2, 0, 0) else none
  else bif Nat.blt pc 7 then bif Nat.beq pc 4 then some (.invokevirtual 141, 7, 18, 1, 2, 0, 0) else none
  else bif Nat.beq pc 7 then some (.ireturn, 8, 0, 0, 0, 0, 0) else none
def rs_X7_oddNodes : PMR := (1, 0, hdl [], 1)
def mi_X7_oddNodes : PMI := wrapM 8 cd_X7_oddNodes rs_X7_oddNodes
def cd_X7_matching (pc : Nat) : Option PE :=
  bif Nat.blt pc 11 then bif Nat.blt pc 4 then bif Nat.blt pc 1 then bif Nat.beq pc 0 then some (.aload_n 0, 1, 0, 0, 0, 0, 0) else none
  else bif Nat.beq pc 1 then some (.getfield 32, 4, 7, 3, 2, 0, 0) else none
  else bif Nat.blt pc 7 then bif Nat.beq pc 4 then some (.getfield 135, 7, 5, 3, 2, 0, 0) else none
  else bif Nat.blt pc 8 then bif Nat.beq pc 7 then some (.aload_n 0, 8, 0, 0, 0, 0, 0) else none
  else bif Nat.beq pc 8 then some (.getfield 27, 11, 7, 2, 2, 0, 0) else none
  else bif Nat.blt pc 15 then bif Nat.blt pc 14 then bif Nat.beq pc 11 then some (.invokevirtual 141, 14, 18, 1, 2, 0, 0) else none
  else bif Nat.beq pc 14 then some (.iconst 0, 15, 0, 0, 0, 0, 0) else none
  else bif Nat.blt pc 18 then bif Nat.beq pc 15 then some (.invokestatic 145, 18, 47, 3, 99, 0, 0) else none
  else bif Nat.blt pc 21 then bif Nat.beq pc 18 then some (.invokestatic 129, 21, 104, 1, 99, 0, 0) else none
  else bif Nat.beq pc 21 then some (.ireturn, 22, 0, 0, 0, 0, 0) else none
def rs_X7_matching : PMR := (1, 0, hdl [], 1)
def mi_X7_matching : PMI := wrapM 22 cd_X7_matching rs_X7_matching
def cd_X7_depotOf (pc : Nat) : Option PE :=
  bif Nat.blt pc 6 then bif Nat.blt pc 2 then bif Nat.blt pc 1 then bif Nat.beq pc 0 then some (.aload_n 0, 1, 0, 0, 0, 0, 0) else none
  else bif Nat.beq pc 1 then some (.iload_n 1, 2, 1, 0, 0, 0, 0) else none
  else bif Nat.blt pc 5 then bif Nat.beq pc 2 then some (.invokevirtual 149, 5, 103, 2, 7, 0, 0) else none
  else bif Nat.beq pc 5 then some (.aload_n 0, 6, 0, 0, 0, 0, 0) else none
  else bif Nat.blt pc 12 then bif Nat.blt pc 9 then bif Nat.beq pc 6 then some (.getfield 37, 9, 7, 4, 2, 0, 0) else none
  else bif Nat.beq pc 9 then some (.getfield 152, 12, 3, 1, 2, 0, 0) else none
  else bif Nat.blt pc 13 then bif Nat.beq pc 12 then some (.iload_n 1, 13, 1, 0, 0, 0, 0) else none
  else bif Nat.blt pc 16 then bif Nat.beq pc 13 then some (.invokestatic 107, 16, 106, 2, 99, 0, 0) else none
  else bif Nat.beq pc 16 then some (.ireturn, 17, 0, 0, 0, 0, 0) else none
def rs_X7_depotOf : PMR := (1, 1, hdl [], 2)
def mi_X7_depotOf : PMI := wrapM 17 cd_X7_depotOf rs_X7_depotOf
def cd_X7_length (pc : Nat) : Option PE :=
  bif Nat.blt pc 6 then bif Nat.blt pc 2 then bif Nat.blt pc 1 then bif Nat.beq pc 0 then some (.aload_n 0, 1, 0, 0, 0, 0, 0) else none
  else bif Nat.beq pc 1 then some (.iload_n 1, 2, 1, 0, 0, 0, 0) else none
  else bif Nat.blt pc 5 then bif Nat.beq pc 2 then some (.invokevirtual 149, 5, 103, 2, 7, 0, 0) else none
  else bif Nat.beq pc 5 then some (.aload_n 0, 6, 0, 0, 0, 0, 0) else none
  else bif Nat.blt pc 12 then bif Nat.blt pc 9 then bif Nat.beq pc 6 then some (.getfield 37, 9, 7, 4, 2, 0, 0) else none
  else bif Nat.beq pc 9 then some (.getfield 155, 12, 3, 2, 2, 0, 0) else none
  else bif Nat.blt pc 13 then bif Nat.beq pc 12 then some (.iload_n 1, 13, 1, 0, 0, 0, 0) else none
  else bif Nat.blt pc 16 then bif Nat.beq pc 13 then some (.invokestatic 107, 16, 106, 2, 99, 0, 0) else none
  else bif Nat.beq pc 16 then some (.ireturn, 17, 0, 0, 0, 0, 0) else none
def rs_X7_length : PMR := (1, 1, hdl [], 2)
def mi_X7_length : PMI := wrapM 17 cd_X7_length rs_X7_length
def cd_X7_arcAt (pc : Nat) : Option PE :=
  bif Nat.blt pc 11 then bif Nat.blt pc 5 then bif Nat.blt pc 1 then bif Nat.beq pc 0 then some (.aload_n 0, 1, 0, 0, 0, 0, 0) else none
  else bif Nat.blt pc 2 then bif Nat.beq pc 1 then some (.iload_n 1, 2, 1, 0, 0, 0, 0) else none
  else bif Nat.beq pc 2 then some (.invokevirtual 149, 5, 103, 2, 7, 0, 0) else none
  else bif Nat.blt pc 9 then bif Nat.blt pc 6 then bif Nat.beq pc 5 then some (.aload_n 0, 6, 0, 0, 0, 0, 0) else none
  else bif Nat.beq pc 6 then some (.getfield 37, 9, 7, 4, 2, 0, 0) else none
  else bif Nat.blt pc 10 then bif Nat.beq pc 9 then some (.iload_n 1, 10, 1, 0, 0, 0, 0) else none
  else bif Nat.beq pc 10 then some (.iload_n 2, 11, 2, 0, 0, 0, 0) else none
  else bif Nat.blt pc 17 then bif Nat.blt pc 15 then bif Nat.blt pc 14 then bif Nat.beq pc 11 then some (.invokevirtual 158, 14, 22, 3, 3, 0, 0) else none
  else bif Nat.beq pc 14 then some (.istore_n 3, 15, 3, 0, 0, 0, 0) else none
  else bif Nat.blt pc 16 then bif Nat.beq pc 15 then some (.iload_n 3, 16, 3, 0, 0, 0, 0) else none
  else bif Nat.beq pc 16 then some (.iconst (-1), 17, 0, 0, 0, (-1), 0) else none
  else bif Nat.blt pc 30 then bif Nat.blt pc 20 then bif Nat.beq pc 17 then some (.if_icmp .ne 13, 20, 30, 0, 0, 0, 0) else none
  else bif Nat.beq pc 20 then some (.new 162, 23, 3, 164, 200, 0, 0) else none
  else bif Nat.blt pc 31 then bif Nat.beq pc 30 then some (.iload_n 3, 31, 3, 0, 0, 0, 0) else none
  else bif Nat.beq pc 31 then some (.ireturn, 32, 0, 0, 0, 0, 0) else none
def rs_X7_arcAt : PMR := (1, 2, hdl [], 4)
def mi_X7_arcAt : PMI := wrapM 32 cd_X7_arcAt rs_X7_arcAt
def cd_X7_loadOf (pc : Nat) : Option PE :=
  bif Nat.blt pc 6 then bif Nat.blt pc 2 then bif Nat.blt pc 1 then bif Nat.beq pc 0 then some (.aload_n 0, 1, 0, 0, 0, 0, 0) else none
  else bif Nat.beq pc 1 then some (.iload_n 1, 2, 1, 0, 0, 0, 0) else none
  else bif Nat.blt pc 5 then bif Nat.beq pc 2 then some (.invokevirtual 149, 5, 103, 2, 7, 0, 0) else none
  else bif Nat.beq pc 5 then some (.aload_n 0, 6, 0, 0, 0, 0, 0) else none
  else bif Nat.blt pc 10 then bif Nat.blt pc 9 then bif Nat.beq pc 6 then some (.getfield 19, 9, 7, 1, 2, 0, 0) else none
  else bif Nat.beq pc 9 then some (.iload_n 1, 10, 1, 0, 0, 0, 0) else none
  else bif Nat.blt pc 13 then bif Nat.beq pc 10 then some (.invokevirtual 167, 13, 29, 2, 4, 0, 0) else none
  else bif Nat.beq pc 13 then some (.ireturn, 14, 0, 0, 0, 0, 0) else none
def rs_X7_loadOf : PMR := (1, 1, hdl [], 2)
def mi_X7_loadOf : PMI := wrapM 14 cd_X7_loadOf rs_X7_loadOf
def cd_X7_tourCost (pc : Nat) : Option PE :=
  bif Nat.blt pc 6 then bif Nat.blt pc 2 then bif Nat.blt pc 1 then bif Nat.beq pc 0 then some (.aload_n 0, 1, 0, 0, 0, 0, 0) else none
  else bif Nat.beq pc 1 then some (.iload_n 1, 2, 1, 0, 0, 0, 0) else none
  else bif Nat.blt pc 5 then bif Nat.beq pc 2 then some (.invokevirtual 149, 5, 103, 2, 7, 0, 0) else none
  else bif Nat.beq pc 5 then some (.aload_n 0, 6, 0, 0, 0, 0, 0) else none
  else bif Nat.blt pc 10 then bif Nat.blt pc 9 then bif Nat.beq pc 6 then some (.getfield 19, 9, 7, 1, 2, 0, 0) else none
  else bif Nat.beq pc 9 then some (.iload_n 1, 10, 1, 0, 0, 0, 0) else none
  else bif Nat.blt pc 13 then bif Nat.beq pc 10 then some (.invokevirtual 170, 13, 32, 2, 4, 0, 0) else none
  else bif Nat.beq pc 13 then some (.ireturn, 14, 0, 0, 0, 0, 0) else none
def rs_X7_tourCost : PMR := (1, 1, hdl [], 2)
def mi_X7_tourCost : PMI := wrapM 14 cd_X7_tourCost rs_X7_tourCost
def cd_X7_totalCost (pc : Nat) : Option PE :=
  bif Nat.blt pc 16 then bif Nat.blt pc 5 then bif Nat.blt pc 2 then bif Nat.blt pc 1 then bif Nat.beq pc 0 then some (.iconst 0, 1, 0, 0, 0, 0, 0) else none
  else bif Nat.beq pc 1 then some (.istore_n 1, 2, 1, 0, 0, 0, 0) else none
  else bif Nat.blt pc 3 then bif Nat.beq pc 2 then some (.iconst 0, 3, 0, 0, 0, 0, 0) else none
  else bif Nat.blt pc 4 then bif Nat.beq pc 3 then some (.istore_n 2, 4, 2, 0, 0, 0, 0) else none
  else bif Nat.beq pc 4 then some (.iload_n 2, 5, 2, 0, 0, 0, 0) else none
  else bif Nat.blt pc 9 then bif Nat.blt pc 6 then bif Nat.beq pc 5 then some (.aload_n 0, 6, 0, 0, 0, 0, 0) else none
  else bif Nat.beq pc 6 then some (.getfield 37, 9, 7, 4, 2, 0, 0) else none
  else bif Nat.blt pc 12 then bif Nat.beq pc 9 then some (.getfield 97, 12, 3, 0, 0, 0, 0) else none
  else bif Nat.blt pc 15 then bif Nat.beq pc 12 then some (.if_icmp .ge 20, 15, 32, 0, 0, 0, 0) else none
  else bif Nat.beq pc 15 then some (.iload_n 1, 16, 1, 0, 0, 0, 0) else none
  else bif Nat.blt pc 25 then bif Nat.blt pc 20 then bif Nat.blt pc 17 then bif Nat.beq pc 16 then some (.aload_n 0, 17, 0, 0, 0, 0, 0) else none
  else bif Nat.beq pc 17 then some (.getfield 19, 20, 7, 1, 2, 0, 0) else none
  else bif Nat.blt pc 21 then bif Nat.beq pc 20 then some (.iload_n 2, 21, 2, 0, 0, 0, 0) else none
  else bif Nat.blt pc 24 then bif Nat.beq pc 21 then some (.invokevirtual 170, 24, 32, 2, 4, 0, 0) else none
  else bif Nat.beq pc 24 then some (.iadd, 25, 0, 0, 0, 0, 0) else none
  else bif Nat.blt pc 29 then bif Nat.blt pc 26 then bif Nat.beq pc 25 then some (.istore_n 1, 26, 1, 0, 0, 0, 0) else none
  else bif Nat.beq pc 26 then some (.iinc 2 1, 29, 2, 0, 0, 1, 0) else none
  else bif Nat.blt pc 32 then bif Nat.beq pc 29 then some (.goto (-25), 32, 4, 0, 0, 0, 0) else none
  else bif Nat.blt pc 33 then bif Nat.beq pc 32 then some (.iload_n 1, 33, 1, 0, 0, 0, 0) else none
  else bif Nat.beq pc 33 then some (.ireturn, 34, 0, 0, 0, 0, 0) else none
def rs_X7_totalCost : PMR := (1, 0, hdl [], 3)
def mi_X7_totalCost : PMI := wrapM 34 cd_X7_totalCost rs_X7_totalCost
def cd_X7_unserved (pc : Nat) : Option PE :=
  bif Nat.blt pc 15 then bif Nat.blt pc 4 then bif Nat.blt pc 2 then bif Nat.blt pc 1 then bif Nat.beq pc 0 then some (.iconst 0, 1, 0, 0, 0, 0, 0) else none
  else bif Nat.beq pc 1 then some (.istore_n 1, 2, 1, 0, 0, 0, 0) else none
  else bif Nat.blt pc 3 then bif Nat.beq pc 2 then some (.iconst 0, 3, 0, 0, 0, 0, 0) else none
  else bif Nat.beq pc 3 then some (.istore_n 2, 4, 2, 0, 0, 0, 0) else none
  else bif Nat.blt pc 6 then bif Nat.blt pc 5 then bif Nat.beq pc 4 then some (.iload_n 2, 5, 2, 0, 0, 0, 0) else none
  else bif Nat.beq pc 5 then some (.aload_n 0, 6, 0, 0, 0, 0, 0) else none
  else bif Nat.blt pc 9 then bif Nat.beq pc 6 then some (.getfield 27, 9, 7, 2, 2, 0, 0) else none
  else bif Nat.blt pc 12 then bif Nat.beq pc 9 then some (.getfield 85, 12, 2, 2, 0, 0, 0) else none
  else bif Nat.beq pc 12 then some (.if_icmp .ge 23, 15, 35, 0, 0, 0, 0) else none
  else bif Nat.blt pc 26 then bif Nat.blt pc 19 then bif Nat.blt pc 16 then bif Nat.beq pc 15 then some (.aload_n 0, 16, 0, 0, 0, 0, 0) else none
  else bif Nat.beq pc 16 then some (.getfield 19, 19, 7, 1, 2, 0, 0) else none
  else bif Nat.blt pc 20 then bif Nat.beq pc 19 then some (.iload_n 2, 20, 2, 0, 0, 0, 0) else none
  else bif Nat.blt pc 23 then bif Nat.beq pc 20 then some (.invokevirtual 173, 23, 28, 2, 4, 0, 0) else none
  else bif Nat.beq pc 23 then some (.ifCond .eq 6, 26, 29, 0, 0, 0, 0) else none
  else bif Nat.blt pc 32 then bif Nat.blt pc 29 then bif Nat.beq pc 26 then some (.iinc 1 1, 29, 1, 0, 0, 1, 0) else none
  else bif Nat.beq pc 29 then some (.iinc 2 1, 32, 2, 0, 0, 1, 0) else none
  else bif Nat.blt pc 35 then bif Nat.beq pc 32 then some (.goto (-28), 35, 4, 0, 0, 0, 0) else none
  else bif Nat.blt pc 36 then bif Nat.beq pc 35 then some (.iload_n 1, 36, 1, 0, 0, 0, 0) else none
  else bif Nat.beq pc 36 then some (.ireturn, 37, 0, 0, 0, 0, 0) else none
def rs_X7_unserved : PMR := (1, 0, hdl [], 3)
def mi_X7_unserved : PMI := wrapM 37 cd_X7_unserved rs_X7_unserved
def cd_X7_tourOf (pc : Nat) : Option PE :=
  bif Nat.blt pc 6 then bif Nat.blt pc 2 then bif Nat.blt pc 1 then bif Nat.beq pc 0 then some (.aload_n 0, 1, 0, 0, 0, 0, 0) else none
  else bif Nat.beq pc 1 then some (.iload_n 1, 2, 1, 0, 0, 0, 0) else none
  else bif Nat.blt pc 5 then bif Nat.beq pc 2 then some (.invokevirtual 100, 5, 101, 2, 7, 0, 0) else none
  else bif Nat.beq pc 5 then some (.aload_n 0, 6, 0, 0, 0, 0, 0) else none
  else bif Nat.blt pc 10 then bif Nat.blt pc 9 then bif Nat.beq pc 6 then some (.getfield 37, 9, 7, 4, 2, 0, 0) else none
  else bif Nat.beq pc 9 then some (.iload_n 1, 10, 1, 0, 0, 0, 0) else none
  else bif Nat.blt pc 13 then bif Nat.beq pc 10 then some (.invokevirtual 177, 13, 23, 2, 3, 0, 0) else none
  else bif Nat.beq pc 13 then some (.ireturn, 14, 0, 0, 0, 0, 0) else none
def rs_X7_tourOf : PMR := (1, 1, hdl [], 2)
def mi_X7_tourOf : PMI := wrapM 14 cd_X7_tourOf rs_X7_tourOf
def cd_X7_bestInsertion (pc : Nat) : Option PE :=
  bif Nat.blt pc 13 then bif Nat.blt pc 5 then bif Nat.blt pc 1 then bif Nat.beq pc 0 then some (.aload_n 0, 1, 0, 0, 0, 0, 0) else none
  else bif Nat.blt pc 2 then bif Nat.beq pc 1 then some (.iload_n 1, 2, 1, 0, 0, 0, 0) else none
  else bif Nat.beq pc 2 then some (.invokevirtual 100, 5, 101, 2, 7, 0, 0) else none
  else bif Nat.blt pc 9 then bif Nat.blt pc 6 then bif Nat.beq pc 5 then some (.aload_n 0, 6, 0, 0, 0, 0, 0) else none
  else bif Nat.beq pc 6 then some (.getfield 19, 9, 7, 1, 2, 0, 0) else none
  else bif Nat.blt pc 10 then bif Nat.beq pc 9 then some (.iload_n 1, 10, 1, 0, 0, 0, 0) else none
  else bif Nat.beq pc 10 then some (.invokevirtual 173, 13, 28, 2, 4, 0, 0) else none
  else bif Nat.blt pc 27 then bif Nat.blt pc 16 then bif Nat.beq pc 13 then some (.ifCond .ne 13, 16, 26, 0, 0, 0, 0) else none
  else bif Nat.blt pc 26 then bif Nat.beq pc 16 then some (.new 180, 19, 2, 182, 200, 0, 0) else none
  else bif Nat.beq pc 26 then some (.aload_n 0, 27, 0, 0, 0, 0, 0) else none
  else bif Nat.blt pc 31 then bif Nat.blt pc 30 then bif Nat.beq pc 27 then some (.getfield 19, 30, 7, 1, 2, 0, 0) else none
  else bif Nat.beq pc 30 then some (.iload_n 1, 31, 1, 0, 0, 0, 0) else none
  else bif Nat.blt pc 34 then bif Nat.beq pc 31 then some (.invokevirtual 185, 34, 36, 2, 4, 0, 0) else none
  else bif Nat.beq pc 34 then some (.ireturn, 35, 0, 0, 0, 0, 0) else none
def rs_X7_bestInsertion : PMR := (1, 2, hdl [], 2)
def mi_X7_bestInsertion : PMI := wrapM 35 cd_X7_bestInsertion rs_X7_bestInsertion
def cd_X7_openTour (pc : Nat) : Option PE :=
  bif Nat.blt pc 47 then bif Nat.blt pc 15 then bif Nat.blt pc 5 then bif Nat.blt pc 1 then bif Nat.beq pc 0 then some (.iload_n 1, 1, 1, 0, 0, 0, 0) else none
  else bif Nat.blt pc 4 then bif Nat.beq pc 1 then some (.ifCond .lt 14, 4, 15, 0, 0, 0, 0) else none
  else bif Nat.beq pc 4 then some (.iload_n 1, 5, 1, 0, 0, 0, 0) else none
  else bif Nat.blt pc 9 then bif Nat.blt pc 6 then bif Nat.beq pc 5 then some (.aload_n 0, 6, 0, 0, 0, 0, 0) else none
  else bif Nat.beq pc 6 then some (.getfield 27, 9, 7, 2, 2, 0, 0) else none
  else bif Nat.blt pc 12 then bif Nat.beq pc 9 then some (.getfield 94, 12, 2, 3, 0, 0, 0) else none
  else bif Nat.beq pc 12 then some (.if_icmp .lt 13, 15, 25, 0, 0, 0, 0) else none
  else bif Nat.blt pc 32 then bif Nat.blt pc 26 then bif Nat.blt pc 25 then bif Nat.beq pc 15 then some (.new 188, 18, 1, 190, 200, 0, 0) else none
  else bif Nat.beq pc 25 then some (.aload_n 0, 26, 0, 0, 0, 0, 0) else none
  else bif Nat.blt pc 29 then bif Nat.beq pc 26 then some (.getfield 37, 29, 7, 4, 2, 0, 0) else none
  else bif Nat.beq pc 29 then some (.getfield 97, 32, 3, 0, 0, 0, 0) else none
  else bif Nat.blt pc 36 then bif Nat.blt pc 33 then bif Nat.beq pc 32 then some (.iconst 4, 33, 0, 0, 0, 4, 0) else none
  else bif Nat.beq pc 33 then some (.if_icmp .lt 13, 36, 46, 0, 0, 0, 0) else none
  else bif Nat.blt pc 46 then bif Nat.beq pc 36 then some (.new 180, 39, 2, 193, 200, 0, 0) else none
  else bif Nat.beq pc 46 then some (.aload_n 0, 47, 0, 0, 0, 0, 0) else none
  else bif Nat.blt pc 63 then bif Nat.blt pc 55 then bif Nat.blt pc 51 then bif Nat.blt pc 50 then bif Nat.beq pc 47 then some (.getfield 41, 50, 7, 5, 2, 0, 0) else none
  else bif Nat.beq pc 50 then some (.aload_n 0, 51, 0, 0, 0, 0, 0) else none
  else bif Nat.blt pc 54 then bif Nat.beq pc 51 then some (.getfield 27, 54, 7, 2, 2, 0, 0) else none
  else bif Nat.beq pc 54 then some (.aload_n 0, 55, 0, 0, 0, 0, 0) else none
  else bif Nat.blt pc 59 then bif Nat.blt pc 58 then bif Nat.beq pc 55 then some (.getfield 37, 58, 7, 4, 2, 0, 0) else none
  else bif Nat.beq pc 58 then some (.iconst 0, 59, 0, 0, 0, 0, 0) else none
  else bif Nat.blt pc 62 then bif Nat.beq pc 59 then some (.invokevirtual 64, 62, 6, 4, 1, 0, 0) else none
  else bif Nat.beq pc 62 then some (.aload_n 0, 63, 0, 0, 0, 0, 0) else none
  else bif Nat.blt pc 73 then bif Nat.blt pc 67 then bif Nat.blt pc 66 then bif Nat.beq pc 63 then some (.getfield 37, 66, 7, 4, 2, 0, 0) else none
  else bif Nat.beq pc 66 then some (.aload_n 0, 67, 0, 0, 0, 0, 0) else none
  else bif Nat.blt pc 70 then bif Nat.beq pc 67 then some (.getfield 27, 70, 7, 2, 2, 0, 0) else none
  else bif Nat.beq pc 70 then some (.getfield 195, 73, 2, 9, 2, 0, 0) else none
  else bif Nat.blt pc 77 then bif Nat.blt pc 74 then bif Nat.beq pc 73 then some (.iload_n 1, 74, 1, 0, 0, 0, 0) else none
  else bif Nat.beq pc 74 then some (.invokestatic 107, 77, 106, 2, 99, 0, 0) else none
  else bif Nat.blt pc 80 then bif Nat.beq pc 77 then some (.invokevirtual 198, 80, 21, 2, 3, 0, 0) else none
  else bif Nat.beq pc 80 then some (.ireturn, 81, 0, 0, 0, 0, 0) else none
def rs_X7_openTour : PMR := (1, 2, hdl [], 2)
def mi_X7_openTour : PMI := wrapM 81 cd_X7_openTour rs_X7_openTour
def cd_X7_insert (pc : Nat) : Option PE :=
  bif Nat.blt pc 70 then bif Nat.blt pc 36 then bif Nat.blt pc 11 then bif Nat.blt pc 5 then bif Nat.blt pc 1 then bif Nat.beq pc 0 then some (.aload_n 0, 1, 0, 0, 0, 0, 0) else none
  else bif Nat.blt pc 2 then bif Nat.beq pc 1 then some (.iload_n 1, 2, 1, 0, 0, 0, 0) else none
  else bif Nat.beq pc 2 then some (.invokevirtual 149, 5, 103, 2, 7, 0, 0) else none
  else bif Nat.blt pc 9 then bif Nat.blt pc 6 then bif Nat.beq pc 5 then some (.iload_n 2, 6, 2, 0, 0, 0, 0) else none
  else bif Nat.beq pc 6 then some (.ifCond .lt 18, 9, 24, 0, 0, 0, 0) else none
  else bif Nat.blt pc 10 then bif Nat.beq pc 9 then some (.iload_n 2, 10, 2, 0, 0, 0, 0) else none
  else bif Nat.beq pc 10 then some (.aload_n 0, 11, 0, 0, 0, 0, 0) else none
  else bif Nat.blt pc 21 then bif Nat.blt pc 17 then bif Nat.blt pc 14 then bif Nat.beq pc 11 then some (.getfield 37, 14, 7, 4, 2, 0, 0) else none
  else bif Nat.beq pc 14 then some (.getfield 155, 17, 3, 2, 2, 0, 0) else none
  else bif Nat.blt pc 18 then bif Nat.beq pc 17 then some (.iload_n 1, 18, 1, 0, 0, 0, 0) else none
  else bif Nat.beq pc 18 then some (.invokestatic 107, 21, 106, 2, 99, 0, 0) else none
  else bif Nat.blt pc 34 then bif Nat.blt pc 24 then bif Nat.beq pc 21 then some (.if_icmp .le 13, 24, 34, 0, 0, 0, 0) else none
  else bif Nat.beq pc 24 then some (.new 188, 27, 1, 164, 200, 0, 0) else none
  else bif Nat.blt pc 35 then bif Nat.beq pc 34 then some (.aload_n 0, 35, 0, 0, 0, 0, 0) else none
  else bif Nat.beq pc 35 then some (.iload_n 3, 36, 3, 0, 0, 0, 0) else none
  else bif Nat.blt pc 49 then bif Nat.blt pc 43 then bif Nat.blt pc 39 then bif Nat.beq pc 36 then some (.invokevirtual 119, 39, 102, 2, 7, 0, 0) else none
  else bif Nat.blt pc 40 then bif Nat.beq pc 39 then some (.aload_n 0, 40, 0, 0, 0, 0, 0) else none
  else bif Nat.beq pc 40 then some (.getfield 19, 43, 7, 1, 2, 0, 0) else none
  else bif Nat.blt pc 45 then bif Nat.blt pc 44 then bif Nat.beq pc 43 then some (.iload_n 3, 44, 3, 0, 0, 0, 0) else none
  else bif Nat.beq pc 44 then some (.iconst 2, 45, 0, 0, 0, 2, 0) else none
  else bif Nat.blt pc 46 then bif Nat.beq pc 45 then some (.idiv, 46, 0, 0, 0, 0, 0) else none
  else bif Nat.beq pc 46 then some (.invokevirtual 173, 49, 28, 2, 4, 0, 0) else none
  else bif Nat.blt pc 66 then bif Nat.blt pc 62 then bif Nat.blt pc 52 then bif Nat.beq pc 49 then some (.ifCond .ne 13, 52, 62, 0, 0, 0, 0) else none
  else bif Nat.beq pc 52 then some (.new 180, 55, 2, 182, 200, 0, 0) else none
  else bif Nat.blt pc 63 then bif Nat.beq pc 62 then some (.aload_n 0, 63, 0, 0, 0, 0, 0) else none
  else bif Nat.beq pc 63 then some (.getfield 19, 66, 7, 1, 2, 0, 0) else none
  else bif Nat.blt pc 68 then bif Nat.blt pc 67 then bif Nat.beq pc 66 then some (.iload_n 1, 67, 1, 0, 0, 0, 0) else none
  else bif Nat.beq pc 67 then some (.iload_n 3, 68, 3, 0, 0, 0, 0) else none
  else bif Nat.blt pc 69 then bif Nat.beq pc 68 then some (.iconst 2, 69, 0, 0, 0, 2, 0) else none
  else bif Nat.beq pc 69 then some (.idiv, 70, 0, 0, 0, 0, 0) else none
  else bif Nat.blt pc 109 then bif Nat.blt pc 83 then bif Nat.blt pc 77 then bif Nat.blt pc 73 then bif Nat.beq pc 70 then some (.invokevirtual 201, 73, 30, 3, 4, 0, 0) else none
  else bif Nat.blt pc 76 then bif Nat.beq pc 73 then some (.ifCond .eq 18, 76, 91, 0, 0, 0, 0) else none
  else bif Nat.beq pc 76 then some (.aload_n 0, 77, 0, 0, 0, 0, 0) else none
  else bif Nat.blt pc 81 then bif Nat.blt pc 80 then bif Nat.beq pc 77 then some (.getfield 19, 80, 7, 1, 2, 0, 0) else none
  else bif Nat.beq pc 80 then some (.iload_n 1, 81, 1, 0, 0, 0, 0) else none
  else bif Nat.blt pc 82 then bif Nat.beq pc 81 then some (.iload_n 2, 82, 2, 0, 0, 0, 0) else none
  else bif Nat.beq pc 82 then some (.iload_n 3, 83, 3, 0, 0, 0, 0) else none
  else bif Nat.blt pc 101 then bif Nat.blt pc 88 then bif Nat.blt pc 86 then bif Nat.beq pc 83 then some (.invokevirtual 204, 86, 33, 4, 4, 0, 0) else none
  else bif Nat.beq pc 86 then some (.ldc 208, 88, 0, 0, 0, 100000000, 0) else none
  else bif Nat.blt pc 91 then bif Nat.beq pc 88 then some (.if_icmp .lt 13, 91, 101, 0, 0, 0, 0) else none
  else bif Nat.beq pc 91 then some (.new 180, 94, 2, 209, 200, 0, 0) else none
  else bif Nat.blt pc 105 then bif Nat.blt pc 102 then bif Nat.beq pc 101 then some (.aload_n 0, 102, 0, 0, 0, 0, 0) else none
  else bif Nat.beq pc 102 then some (.getfield 41, 105, 7, 5, 2, 0, 0) else none
  else bif Nat.blt pc 106 then bif Nat.beq pc 105 then some (.aload_n 0, 106, 0, 0, 0, 0, 0) else none
  else bif Nat.beq pc 106 then some (.getfield 27, 109, 7, 2, 2, 0, 0) else none
  else bif Nat.blt pc 122 then bif Nat.blt pc 114 then bif Nat.blt pc 110 then bif Nat.beq pc 109 then some (.aload_n 0, 110, 0, 0, 0, 0, 0) else none
  else bif Nat.blt pc 113 then bif Nat.beq pc 110 then some (.getfield 37, 113, 7, 4, 2, 0, 0) else none
  else bif Nat.beq pc 113 then some (.iconst 0, 114, 0, 0, 0, 0, 0) else none
  else bif Nat.blt pc 118 then bif Nat.blt pc 117 then bif Nat.beq pc 114 then some (.invokevirtual 64, 117, 6, 4, 1, 0, 0) else none
  else bif Nat.beq pc 117 then some (.aload_n 0, 118, 0, 0, 0, 0, 0) else none
  else bif Nat.blt pc 121 then bif Nat.beq pc 118 then some (.getfield 37, 121, 7, 4, 2, 0, 0) else none
  else bif Nat.beq pc 121 then some (.iload_n 1, 122, 1, 0, 0, 0, 0) else none
  else bif Nat.blt pc 128 then bif Nat.blt pc 124 then bif Nat.blt pc 123 then bif Nat.beq pc 122 then some (.iload_n 2, 123, 2, 0, 0, 0, 0) else none
  else bif Nat.beq pc 123 then some (.iload_n 3, 124, 3, 0, 0, 0, 0) else none
  else bif Nat.blt pc 127 then bif Nat.beq pc 124 then some (.invokevirtual 211, 127, 25, 4, 3, 0, 0) else none
  else bif Nat.beq pc 127 then some (.aload_n 0, 128, 0, 0, 0, 0, 0) else none
  else bif Nat.blt pc 132 then bif Nat.blt pc 131 then bif Nat.beq pc 128 then some (.getfield 19, 131, 7, 1, 2, 0, 0) else none
  else bif Nat.beq pc 131 then some (.iload_n 1, 132, 1, 0, 0, 0, 0) else none
  else bif Nat.blt pc 135 then bif Nat.beq pc 132 then some (.invokevirtual 170, 135, 32, 2, 4, 0, 0) else none
  else bif Nat.beq pc 135 then some (.ireturn, 136, 0, 0, 0, 0, 0) else none
def rs_X7_insert : PMR := (1, 5, hdl [], 4)
def mi_X7_insert : PMI := wrapM 136 cd_X7_insert rs_X7_insert
def cd_X7_drop (pc : Nat) : Option PE :=
  bif Nat.blt pc 44 then bif Nat.blt pc 16 then bif Nat.blt pc 9 then bif Nat.blt pc 2 then bif Nat.blt pc 1 then bif Nat.beq pc 0 then some (.aload_n 0, 1, 0, 0, 0, 0, 0) else none
  else bif Nat.beq pc 1 then some (.iload_n 1, 2, 1, 0, 0, 0, 0) else none
  else bif Nat.blt pc 5 then bif Nat.beq pc 2 then some (.invokevirtual 100, 5, 101, 2, 7, 0, 0) else none
  else bif Nat.blt pc 6 then bif Nat.beq pc 5 then some (.aload_n 0, 6, 0, 0, 0, 0, 0) else none
  else bif Nat.beq pc 6 then some (.getfield 37, 9, 7, 4, 2, 0, 0) else none
  else bif Nat.blt pc 13 then bif Nat.blt pc 10 then bif Nat.beq pc 9 then some (.iload_n 1, 10, 1, 0, 0, 0, 0) else none
  else bif Nat.beq pc 10 then some (.invokevirtual 177, 13, 23, 2, 3, 0, 0) else none
  else bif Nat.blt pc 14 then bif Nat.beq pc 13 then some (.istore_n 2, 14, 2, 0, 0, 0, 0) else none
  else bif Nat.blt pc 15 then bif Nat.beq pc 14 then some (.iload_n 2, 15, 2, 0, 0, 0, 0) else none
  else bif Nat.beq pc 15 then some (.iconst (-1), 16, 0, 0, 0, (-1), 0) else none
  else bif Nat.blt pc 34 then bif Nat.blt pc 29 then bif Nat.blt pc 19 then bif Nat.beq pc 16 then some (.if_icmp .ne 13, 19, 29, 0, 0, 0, 0) else none
  else bif Nat.beq pc 19 then some (.new 180, 22, 2, 215, 200, 0, 0) else none
  else bif Nat.blt pc 30 then bif Nat.beq pc 29 then some (.aload_n 0, 30, 0, 0, 0, 0, 0) else none
  else bif Nat.blt pc 33 then bif Nat.beq pc 30 then some (.getfield 37, 33, 7, 4, 2, 0, 0) else none
  else bif Nat.beq pc 33 then some (.iload_n 2, 34, 2, 0, 0, 0, 0) else none
  else bif Nat.blt pc 39 then bif Nat.blt pc 35 then bif Nat.beq pc 34 then some (.iload_n 1, 35, 1, 0, 0, 0, 0) else none
  else bif Nat.blt pc 38 then bif Nat.beq pc 35 then some (.invokevirtual 217, 38, 24, 3, 3, 0, 0) else none
  else bif Nat.beq pc 38 then some (.istore_n 3, 39, 3, 0, 0, 0, 0) else none
  else bif Nat.blt pc 40 then bif Nat.beq pc 39 then some (.aload_n 0, 40, 0, 0, 0, 0, 0) else none
  else bif Nat.blt pc 43 then bif Nat.beq pc 40 then some (.getfield 19, 43, 7, 1, 2, 0, 0) else none
  else bif Nat.beq pc 43 then some (.iload_n 2, 44, 2, 0, 0, 0, 0) else none
  else bif Nat.blt pc 74 then bif Nat.blt pc 62 then bif Nat.blt pc 48 then bif Nat.blt pc 45 then bif Nat.beq pc 44 then some (.iload_n 3, 45, 3, 0, 0, 0, 0) else none
  else bif Nat.beq pc 45 then some (.invokevirtual 220, 48, 34, 3, 4, 0, 0) else none
  else bif Nat.blt pc 51 then bif Nat.beq pc 48 then some (.ifCond .ne 13, 51, 61, 0, 0, 0, 0) else none
  else bif Nat.blt pc 61 then bif Nat.beq pc 51 then some (.new 180, 54, 2, 223, 200, 0, 0) else none
  else bif Nat.beq pc 61 then some (.aload_n 0, 62, 0, 0, 0, 0, 0) else none
  else bif Nat.blt pc 69 then bif Nat.blt pc 65 then bif Nat.beq pc 62 then some (.getfield 41, 65, 7, 5, 2, 0, 0) else none
  else bif Nat.blt pc 66 then bif Nat.beq pc 65 then some (.aload_n 0, 66, 0, 0, 0, 0, 0) else none
  else bif Nat.beq pc 66 then some (.getfield 27, 69, 7, 2, 2, 0, 0) else none
  else bif Nat.blt pc 70 then bif Nat.beq pc 69 then some (.aload_n 0, 70, 0, 0, 0, 0, 0) else none
  else bif Nat.blt pc 73 then bif Nat.beq pc 70 then some (.getfield 37, 73, 7, 4, 2, 0, 0) else none
  else bif Nat.beq pc 73 then some (.iconst 0, 74, 0, 0, 0, 0, 0) else none
  else bif Nat.blt pc 83 then bif Nat.blt pc 78 then bif Nat.blt pc 77 then bif Nat.beq pc 74 then some (.invokevirtual 64, 77, 6, 4, 1, 0, 0) else none
  else bif Nat.beq pc 77 then some (.aload_n 0, 78, 0, 0, 0, 0, 0) else none
  else bif Nat.blt pc 81 then bif Nat.beq pc 78 then some (.getfield 37, 81, 7, 4, 2, 0, 0) else none
  else bif Nat.blt pc 82 then bif Nat.beq pc 81 then some (.iload_n 2, 82, 2, 0, 0, 0, 0) else none
  else bif Nat.beq pc 82 then some (.iload_n 3, 83, 3, 0, 0, 0, 0) else none
  else bif Nat.blt pc 90 then bif Nat.blt pc 86 then bif Nat.beq pc 83 then some (.invokevirtual 225, 86, 26, 3, 3, 0, 0) else none
  else bif Nat.blt pc 87 then bif Nat.beq pc 86 then some (.aload_n 0, 87, 0, 0, 0, 0, 0) else none
  else bif Nat.beq pc 87 then some (.getfield 19, 90, 7, 1, 2, 0, 0) else none
  else bif Nat.blt pc 91 then bif Nat.beq pc 90 then some (.iload_n 2, 91, 2, 0, 0, 0, 0) else none
  else bif Nat.blt pc 94 then bif Nat.beq pc 91 then some (.invokevirtual 170, 94, 32, 2, 4, 0, 0) else none
  else bif Nat.beq pc 94 then some (.ireturn, 95, 0, 0, 0, 0, 0) else none
def rs_X7_drop : PMR := (1, 3, hdl [], 4)
def mi_X7_drop : PMI := wrapM 95 cd_X7_drop rs_X7_drop
def cd_X7_flip (pc : Nat) : Option PE :=
  bif Nat.blt pc 44 then bif Nat.blt pc 16 then bif Nat.blt pc 9 then bif Nat.blt pc 2 then bif Nat.blt pc 1 then bif Nat.beq pc 0 then some (.aload_n 0, 1, 0, 0, 0, 0, 0) else none
  else bif Nat.beq pc 1 then some (.iload_n 1, 2, 1, 0, 0, 0, 0) else none
  else bif Nat.blt pc 5 then bif Nat.beq pc 2 then some (.invokevirtual 100, 5, 101, 2, 7, 0, 0) else none
  else bif Nat.blt pc 6 then bif Nat.beq pc 5 then some (.aload_n 0, 6, 0, 0, 0, 0, 0) else none
  else bif Nat.beq pc 6 then some (.getfield 37, 9, 7, 4, 2, 0, 0) else none
  else bif Nat.blt pc 13 then bif Nat.blt pc 10 then bif Nat.beq pc 9 then some (.iload_n 1, 10, 1, 0, 0, 0, 0) else none
  else bif Nat.beq pc 10 then some (.invokevirtual 177, 13, 23, 2, 3, 0, 0) else none
  else bif Nat.blt pc 14 then bif Nat.beq pc 13 then some (.istore_n 2, 14, 2, 0, 0, 0, 0) else none
  else bif Nat.blt pc 15 then bif Nat.beq pc 14 then some (.iload_n 2, 15, 2, 0, 0, 0, 0) else none
  else bif Nat.beq pc 15 then some (.iconst (-1), 16, 0, 0, 0, (-1), 0) else none
  else bif Nat.blt pc 34 then bif Nat.blt pc 29 then bif Nat.blt pc 19 then bif Nat.beq pc 16 then some (.if_icmp .ne 13, 19, 29, 0, 0, 0, 0) else none
  else bif Nat.beq pc 19 then some (.new 180, 22, 2, 215, 200, 0, 0) else none
  else bif Nat.blt pc 30 then bif Nat.beq pc 29 then some (.aload_n 0, 30, 0, 0, 0, 0, 0) else none
  else bif Nat.blt pc 33 then bif Nat.beq pc 30 then some (.getfield 37, 33, 7, 4, 2, 0, 0) else none
  else bif Nat.beq pc 33 then some (.iload_n 2, 34, 2, 0, 0, 0, 0) else none
  else bif Nat.blt pc 39 then bif Nat.blt pc 35 then bif Nat.beq pc 34 then some (.iload_n 1, 35, 1, 0, 0, 0, 0) else none
  else bif Nat.blt pc 38 then bif Nat.beq pc 35 then some (.invokevirtual 217, 38, 24, 3, 3, 0, 0) else none
  else bif Nat.beq pc 38 then some (.istore_n 3, 39, 3, 0, 0, 0, 0) else none
  else bif Nat.blt pc 40 then bif Nat.beq pc 39 then some (.aload_n 0, 40, 0, 0, 0, 0, 0) else none
  else bif Nat.blt pc 43 then bif Nat.beq pc 40 then some (.getfield 19, 43, 7, 1, 2, 0, 0) else none
  else bif Nat.beq pc 43 then some (.iload_n 2, 44, 2, 0, 0, 0, 0) else none
  else bif Nat.blt pc 74 then bif Nat.blt pc 62 then bif Nat.blt pc 48 then bif Nat.blt pc 45 then bif Nat.beq pc 44 then some (.iload_n 3, 45, 3, 0, 0, 0, 0) else none
  else bif Nat.beq pc 45 then some (.invokevirtual 229, 48, 35, 3, 4, 0, 0) else none
  else bif Nat.blt pc 51 then bif Nat.beq pc 48 then some (.ifCond .ne 13, 51, 61, 0, 0, 0, 0) else none
  else bif Nat.blt pc 61 then bif Nat.beq pc 51 then some (.new 180, 54, 2, 223, 200, 0, 0) else none
  else bif Nat.beq pc 61 then some (.aload_n 0, 62, 0, 0, 0, 0, 0) else none
  else bif Nat.blt pc 69 then bif Nat.blt pc 65 then bif Nat.beq pc 62 then some (.getfield 41, 65, 7, 5, 2, 0, 0) else none
  else bif Nat.blt pc 66 then bif Nat.beq pc 65 then some (.aload_n 0, 66, 0, 0, 0, 0, 0) else none
  else bif Nat.beq pc 66 then some (.getfield 27, 69, 7, 2, 2, 0, 0) else none
  else bif Nat.blt pc 70 then bif Nat.beq pc 69 then some (.aload_n 0, 70, 0, 0, 0, 0, 0) else none
  else bif Nat.blt pc 73 then bif Nat.beq pc 70 then some (.getfield 37, 73, 7, 4, 2, 0, 0) else none
  else bif Nat.beq pc 73 then some (.iconst 0, 74, 0, 0, 0, 0, 0) else none
  else bif Nat.blt pc 83 then bif Nat.blt pc 78 then bif Nat.blt pc 77 then bif Nat.beq pc 74 then some (.invokevirtual 64, 77, 6, 4, 1, 0, 0) else none
  else bif Nat.beq pc 77 then some (.aload_n 0, 78, 0, 0, 0, 0, 0) else none
  else bif Nat.blt pc 81 then bif Nat.beq pc 78 then some (.getfield 37, 81, 7, 4, 2, 0, 0) else none
  else bif Nat.blt pc 82 then bif Nat.beq pc 81 then some (.iload_n 2, 82, 2, 0, 0, 0, 0) else none
  else bif Nat.beq pc 82 then some (.iload_n 3, 83, 3, 0, 0, 0, 0) else none
  else bif Nat.blt pc 90 then bif Nat.blt pc 86 then bif Nat.beq pc 83 then some (.invokevirtual 232, 86, 27, 3, 3, 0, 0) else none
  else bif Nat.blt pc 87 then bif Nat.beq pc 86 then some (.aload_n 0, 87, 0, 0, 0, 0, 0) else none
  else bif Nat.beq pc 87 then some (.getfield 19, 90, 7, 1, 2, 0, 0) else none
  else bif Nat.blt pc 91 then bif Nat.beq pc 90 then some (.iload_n 2, 91, 2, 0, 0, 0, 0) else none
  else bif Nat.blt pc 94 then bif Nat.beq pc 91 then some (.invokevirtual 170, 94, 32, 2, 4, 0, 0) else none
  else bif Nat.beq pc 94 then some (.ireturn, 95, 0, 0, 0, 0, 0) else none
def rs_X7_flip : PMR := (1, 3, hdl [], 4)
def mi_X7_flip : PMI := wrapM 95 cd_X7_flip rs_X7_flip
def cd_X7_build (pc : Nat) : Option PE :=
  bif Nat.blt pc 28 then bif Nat.blt pc 16 then bif Nat.blt pc 8 then bif Nat.blt pc 4 then bif Nat.blt pc 1 then bif Nat.beq pc 0 then some (.aload_n 0, 1, 0, 0, 0, 0, 0) else none
  else bif Nat.beq pc 1 then some (.getfield 41, 4, 7, 5, 2, 0, 0) else none
  else bif Nat.blt pc 5 then bif Nat.beq pc 4 then some (.aload_n 0, 5, 0, 0, 0, 0, 0) else none
  else bif Nat.beq pc 5 then some (.getfield 27, 8, 7, 2, 2, 0, 0) else none
  else bif Nat.blt pc 12 then bif Nat.blt pc 9 then bif Nat.beq pc 8 then some (.aload_n 0, 9, 0, 0, 0, 0, 0) else none
  else bif Nat.beq pc 9 then some (.getfield 37, 12, 7, 4, 2, 0, 0) else none
  else bif Nat.blt pc 13 then bif Nat.beq pc 12 then some (.iconst 0, 13, 0, 0, 0, 0, 0) else none
  else bif Nat.beq pc 13 then some (.invokevirtual 64, 16, 6, 4, 1, 0, 0) else none
  else bif Nat.blt pc 20 then bif Nat.blt pc 18 then bif Nat.blt pc 17 then bif Nat.beq pc 16 then some (.iconst 0, 17, 0, 0, 0, 0, 0) else none
  else bif Nat.beq pc 17 then some (.istore_n 1, 18, 1, 0, 0, 0, 0) else none
  else bif Nat.blt pc 19 then bif Nat.beq pc 18 then some (.iconst 0, 19, 0, 0, 0, 0, 0) else none
  else bif Nat.beq pc 19 then some (.istore_n 2, 20, 2, 0, 0, 0, 0) else none
  else bif Nat.blt pc 22 then bif Nat.blt pc 21 then bif Nat.beq pc 20 then some (.iload_n 2, 21, 2, 0, 0, 0, 0) else none
  else bif Nat.beq pc 21 then some (.aload_n 0, 22, 0, 0, 0, 0, 0) else none
  else bif Nat.blt pc 25 then bif Nat.beq pc 22 then some (.getfield 27, 25, 7, 2, 2, 0, 0) else none
  else bif Nat.beq pc 25 then some (.getfield 85, 28, 2, 2, 0, 0, 0) else none
  else bif Nat.blt pc 46 then bif Nat.blt pc 36 then bif Nat.blt pc 32 then bif Nat.blt pc 31 then bif Nat.beq pc 28 then some (.if_icmp .ge 34, 31, 62, 0, 0, 0, 0) else none
  else bif Nat.beq pc 31 then some (.aload_n 0, 32, 0, 0, 0, 0, 0) else none
  else bif Nat.blt pc 35 then bif Nat.beq pc 32 then some (.getfield 19, 35, 7, 1, 2, 0, 0) else none
  else bif Nat.beq pc 35 then some (.iload_n 2, 36, 2, 0, 0, 0, 0) else none
  else bif Nat.blt pc 42 then bif Nat.blt pc 39 then bif Nat.beq pc 36 then some (.invokevirtual 173, 39, 28, 2, 4, 0, 0) else none
  else bif Nat.beq pc 39 then some (.ifCond .eq 17, 42, 56, 0, 0, 0, 0) else none
  else bif Nat.blt pc 43 then bif Nat.beq pc 42 then some (.aload_n 0, 43, 0, 0, 0, 0, 0) else none
  else bif Nat.beq pc 43 then some (.getfield 19, 46, 7, 1, 2, 0, 0) else none
  else bif Nat.blt pc 56 then bif Nat.blt pc 50 then bif Nat.blt pc 47 then bif Nat.beq pc 46 then some (.iload_n 2, 47, 2, 0, 0, 0, 0) else none
  else bif Nat.beq pc 47 then some (.invokevirtual 235, 50, 38, 2, 4, 0, 0) else none
  else bif Nat.blt pc 53 then bif Nat.beq pc 50 then some (.ifCond .eq 6, 53, 56, 0, 0, 0, 0) else none
  else bif Nat.beq pc 53 then some (.iinc 1 1, 56, 1, 0, 0, 1, 0) else none
  else bif Nat.blt pc 62 then bif Nat.blt pc 59 then bif Nat.beq pc 56 then some (.iinc 2 1, 59, 2, 0, 0, 1, 0) else none
  else bif Nat.beq pc 59 then some (.goto (-39), 62, 20, 0, 0, 0, 0) else none
  else bif Nat.blt pc 63 then bif Nat.beq pc 62 then some (.iload_n 1, 63, 1, 0, 0, 0, 0) else none
  else bif Nat.beq pc 63 then some (.ireturn, 64, 0, 0, 0, 0, 0) else none
def rs_X7_build : PMR := (1, 0, hdl [], 3)
def mi_X7_build : PMI := wrapM 64 cd_X7_build rs_X7_build
def cd_X7_improve (pc : Nat) : Option PE :=
  bif Nat.blt pc 41 then bif Nat.blt pc 25 then bif Nat.blt pc 6 then bif Nat.blt pc 2 then bif Nat.blt pc 1 then bif Nat.beq pc 0 then some (.iload_n 1, 1, 1, 0, 0, 0, 0) else none
  else bif Nat.beq pc 1 then some (.iconst 1, 2, 0, 0, 0, 1, 0) else none
  else bif Nat.blt pc 5 then bif Nat.beq pc 2 then some (.if_icmp .lt 9, 5, 11, 0, 0, 0, 0) else none
  else bif Nat.beq pc 5 then some (.iload_n 1, 6, 1, 0, 0, 0, 0) else none
  else bif Nat.blt pc 11 then bif Nat.blt pc 8 then bif Nat.beq pc 6 then some (.bipush 10, 8, 0, 0, 0, 10, 0) else none
  else bif Nat.beq pc 8 then some (.if_icmp .le 13, 11, 21, 0, 0, 0, 0) else none
  else bif Nat.blt pc 21 then bif Nat.beq pc 11 then some (.new 53, 14, 0, 238, 200, 0, 0) else none
  else bif Nat.blt pc 22 then bif Nat.beq pc 21 then some (.aload_n 0, 22, 0, 0, 0, 0, 0) else none
  else bif Nat.beq pc 22 then some (.getfield 41, 25, 7, 5, 2, 0, 0) else none
  else bif Nat.blt pc 34 then bif Nat.blt pc 29 then bif Nat.blt pc 26 then bif Nat.beq pc 25 then some (.aload_n 0, 26, 0, 0, 0, 0, 0) else none
  else bif Nat.beq pc 26 then some (.getfield 27, 29, 7, 2, 2, 0, 0) else none
  else bif Nat.blt pc 30 then bif Nat.beq pc 29 then some (.aload_n 0, 30, 0, 0, 0, 0, 0) else none
  else bif Nat.blt pc 33 then bif Nat.beq pc 30 then some (.getfield 37, 33, 7, 4, 2, 0, 0) else none
  else bif Nat.beq pc 33 then some (.iconst 0, 34, 0, 0, 0, 0, 0) else none
  else bif Nat.blt pc 38 then bif Nat.blt pc 37 then bif Nat.beq pc 34 then some (.invokevirtual 64, 37, 6, 4, 1, 0, 0) else none
  else bif Nat.beq pc 37 then some (.iconst 0, 38, 0, 0, 0, 0, 0) else none
  else bif Nat.blt pc 39 then bif Nat.beq pc 38 then some (.istore_n 2, 39, 2, 0, 0, 0, 0) else none
  else bif Nat.blt pc 40 then bif Nat.beq pc 39 then some (.iconst 1, 40, 0, 0, 0, 1, 0) else none
  else bif Nat.beq pc 40 then some (.istore_n 3, 41, 3, 0, 0, 0, 0) else none
  else bif Nat.blt pc 58 then bif Nat.blt pc 47 then bif Nat.blt pc 44 then bif Nat.blt pc 42 then bif Nat.beq pc 41 then some (.iconst 0, 42, 0, 0, 0, 0, 0) else none
  else bif Nat.beq pc 42 then some (.istore 4, 44, 4, 0, 0, 0, 0) else none
  else bif Nat.blt pc 46 then bif Nat.beq pc 44 then some (.iload 4, 46, 4, 0, 0, 0, 0) else none
  else bif Nat.beq pc 46 then some (.iload_n 1, 47, 1, 0, 0, 0, 0) else none
  else bif Nat.blt pc 51 then bif Nat.blt pc 50 then bif Nat.beq pc 47 then some (.if_icmp .ge 25, 50, 72, 0, 0, 0, 0) else none
  else bif Nat.beq pc 50 then some (.iload_n 3, 51, 3, 0, 0, 0, 0) else none
  else bif Nat.blt pc 54 then bif Nat.beq pc 51 then some (.ifCond .le 21, 54, 72, 0, 0, 0, 0) else none
  else bif Nat.blt pc 55 then bif Nat.beq pc 54 then some (.aload_n 0, 55, 0, 0, 0, 0, 0) else none
  else bif Nat.beq pc 55 then some (.getfield 19, 58, 7, 1, 2, 0, 0) else none
  else bif Nat.blt pc 65 then bif Nat.blt pc 62 then bif Nat.blt pc 61 then bif Nat.beq pc 58 then some (.invokevirtual 240, 61, 40, 1, 4, 0, 0) else none
  else bif Nat.beq pc 61 then some (.istore_n 3, 62, 3, 0, 0, 0, 0) else none
  else bif Nat.blt pc 63 then bif Nat.beq pc 62 then some (.iload_n 2, 63, 2, 0, 0, 0, 0) else none
  else bif Nat.blt pc 64 then bif Nat.beq pc 63 then some (.iload_n 3, 64, 3, 0, 0, 0, 0) else none
  else bif Nat.beq pc 64 then some (.iadd, 65, 0, 0, 0, 0, 0) else none
  else bif Nat.blt pc 69 then bif Nat.blt pc 66 then bif Nat.beq pc 65 then some (.istore_n 2, 66, 2, 0, 0, 0, 0) else none
  else bif Nat.beq pc 66 then some (.iinc 4 1, 69, 4, 0, 0, 1, 0) else none
  else bif Nat.blt pc 72 then bif Nat.beq pc 69 then some (.goto (-25), 72, 44, 0, 0, 0, 0) else none
  else bif Nat.blt pc 73 then bif Nat.beq pc 72 then some (.iload_n 2, 73, 2, 0, 0, 0, 0) else none
  else bif Nat.beq pc 73 then some (.ireturn, 74, 0, 0, 0, 0, 0) else none
def rs_X7_improve : PMR := (1, 1, hdl [], 5)
def mi_X7_improve : PMI := wrapM 74 cd_X7_improve rs_X7_improve
def cd_X7_undo (pc : Nat) : Option PE :=
  bif Nat.blt pc 21 then bif Nat.blt pc 11 then bif Nat.blt pc 4 then bif Nat.blt pc 1 then bif Nat.beq pc 0 then some (.aload_n 0, 1, 0, 0, 0, 0, 0) else none
  else bif Nat.beq pc 1 then some (.getfield 41, 4, 7, 5, 2, 0, 0) else none
  else bif Nat.blt pc 7 then bif Nat.beq pc 4 then some (.getfield 243, 7, 1, 3, 0, 0, 0) else none
  else bif Nat.blt pc 10 then bif Nat.beq pc 7 then some (.ifCond .ne 5, 10, 12, 0, 0, 0, 0) else none
  else bif Nat.beq pc 10 then some (.iconst (-1), 11, 0, 0, 0, (-1), 0) else none
  else bif Nat.blt pc 16 then bif Nat.blt pc 12 then bif Nat.beq pc 11 then some (.ireturn, 12, 0, 0, 0, 0, 0) else none
  else bif Nat.blt pc 13 then bif Nat.beq pc 12 then some (.aload_n 0, 13, 0, 0, 0, 0, 0) else none
  else bif Nat.beq pc 13 then some (.getfield 41, 16, 7, 5, 2, 0, 0) else none
  else bif Nat.blt pc 17 then bif Nat.beq pc 16 then some (.aload_n 0, 17, 0, 0, 0, 0, 0) else none
  else bif Nat.blt pc 20 then bif Nat.beq pc 17 then some (.getfield 27, 20, 7, 2, 2, 0, 0) else none
  else bif Nat.beq pc 20 then some (.aload_n 0, 21, 0, 0, 0, 0, 0) else none
  else bif Nat.blt pc 35 then bif Nat.blt pc 30 then bif Nat.blt pc 24 then bif Nat.beq pc 21 then some (.getfield 37, 24, 7, 4, 2, 0, 0) else none
  else bif Nat.blt pc 27 then bif Nat.beq pc 24 then some (.invokevirtual 246, 27, 7, 3, 1, 0, 0) else none
  else bif Nat.beq pc 27 then some (.ifCond .eq 14, 30, 41, 0, 0, 0, 0) else none
  else bif Nat.blt pc 31 then bif Nat.beq pc 30 then some (.aload_n 0, 31, 0, 0, 0, 0, 0) else none
  else bif Nat.blt pc 34 then bif Nat.beq pc 31 then some (.getfield 32, 34, 7, 3, 2, 0, 0) else none
  else bif Nat.beq pc 34 then some (.aload_n 0, 35, 0, 0, 0, 0, 0) else none
  else bif Nat.blt pc 42 then bif Nat.blt pc 38 then bif Nat.beq pc 35 then some (.getfield 27, 38, 7, 2, 2, 0, 0) else none
  else bif Nat.blt pc 41 then bif Nat.beq pc 38 then some (.invokevirtual 75, 41, 41, 2, 5, 0, 0) else none
  else bif Nat.beq pc 41 then some (.aload_n 0, 42, 0, 0, 0, 0, 0) else none
  else bif Nat.blt pc 45 then bif Nat.beq pc 42 then some (.getfield 41, 45, 7, 5, 2, 0, 0) else none
  else bif Nat.blt pc 48 then bif Nat.beq pc 45 then some (.getfield 243, 48, 1, 3, 0, 0, 0) else none
  else bif Nat.beq pc 48 then some (.ireturn, 49, 0, 0, 0, 0, 0) else none
def rs_X7_undo : PMR := (1, 0, hdl [], 1)
def mi_X7_undo : PMI := wrapM 49 cd_X7_undo rs_X7_undo
def cd_X7_checksum (pc : Nat) : Option PE :=
  bif Nat.blt pc 57 then bif Nat.blt pc 22 then bif Nat.blt pc 12 then bif Nat.blt pc 6 then bif Nat.blt pc 4 then bif Nat.blt pc 1 then bif Nat.beq pc 0 then some (.aload_n 0, 1, 0, 0, 0, 0, 0) else none
  else bif Nat.beq pc 1 then some (.invokevirtual 250, 4, 88, 1, 7, 0, 0) else none
  else bif Nat.blt pc 5 then bif Nat.beq pc 4 then some (.i2l, 5, 0, 0, 0, 0, 0) else none
  else bif Nat.beq pc 5 then some (.lstore_n 1, 6, 1, 0, 0, 0, 0) else none
  else bif Nat.blt pc 10 then bif Nat.blt pc 9 then bif Nat.beq pc 6 then some (.ldc2_w 253, 9, 0, 0, 0, 0, 31) else none
  else bif Nat.beq pc 9 then some (.lload_n 1, 10, 1, 0, 0, 0, 0) else none
  else bif Nat.blt pc 11 then bif Nat.beq pc 10 then some (.lmul, 11, 0, 0, 0, 0, 0) else none
  else bif Nat.beq pc 11 then some (.aload_n 0, 12, 0, 0, 0, 0, 0) else none
  else bif Nat.blt pc 18 then bif Nat.blt pc 16 then bif Nat.blt pc 15 then bif Nat.beq pc 12 then some (.invokevirtual 255, 15, 89, 1, 7, 0, 0) else none
  else bif Nat.beq pc 15 then some (.i2l, 16, 0, 0, 0, 0, 0) else none
  else bif Nat.blt pc 17 then bif Nat.beq pc 16 then some (.ladd, 17, 0, 0, 0, 0, 0) else none
  else bif Nat.beq pc 17 then some (.lstore_n 1, 18, 1, 0, 0, 0, 0) else none
  else bif Nat.blt pc 20 then bif Nat.blt pc 19 then bif Nat.beq pc 18 then some (.iconst 0, 19, 0, 0, 0, 0, 0) else none
  else bif Nat.beq pc 19 then some (.istore_n 3, 20, 3, 0, 0, 0, 0) else none
  else bif Nat.blt pc 21 then bif Nat.beq pc 20 then some (.iload_n 3, 21, 3, 0, 0, 0, 0) else none
  else bif Nat.beq pc 21 then some (.aload_n 0, 22, 0, 0, 0, 0, 0) else none
  else bif Nat.blt pc 42 then bif Nat.blt pc 32 then bif Nat.blt pc 28 then bif Nat.blt pc 25 then bif Nat.beq pc 22 then some (.getfield 37, 25, 7, 4, 2, 0, 0) else none
  else bif Nat.beq pc 25 then some (.getfield 97, 28, 3, 0, 0, 0, 0) else none
  else bif Nat.blt pc 31 then bif Nat.beq pc 28 then some (.if_icmp .ge 85, 31, 113, 0, 0, 0, 0) else none
  else bif Nat.beq pc 31 then some (.aload_n 0, 32, 0, 0, 0, 0, 0) else none
  else bif Nat.blt pc 38 then bif Nat.blt pc 35 then bif Nat.beq pc 32 then some (.getfield 37, 35, 7, 4, 2, 0, 0) else none
  else bif Nat.beq pc 35 then some (.getfield 155, 38, 3, 2, 2, 0, 0) else none
  else bif Nat.blt pc 39 then bif Nat.beq pc 38 then some (.iload_n 3, 39, 3, 0, 0, 0, 0) else none
  else bif Nat.beq pc 39 then some (.invokestatic 107, 42, 106, 2, 99, 0, 0) else none
  else bif Nat.blt pc 49 then bif Nat.blt pc 47 then bif Nat.blt pc 44 then bif Nat.beq pc 42 then some (.istore 4, 44, 4, 0, 0, 0, 0) else none
  else bif Nat.beq pc 44 then some (.ldc2_w 253, 47, 0, 0, 0, 0, 31) else none
  else bif Nat.blt pc 48 then bif Nat.beq pc 47 then some (.lload_n 1, 48, 1, 0, 0, 0, 0) else none
  else bif Nat.beq pc 48 then some (.lmul, 49, 0, 0, 0, 0, 0) else none
  else bif Nat.blt pc 53 then bif Nat.blt pc 50 then bif Nat.beq pc 49 then some (.aload_n 0, 50, 0, 0, 0, 0, 0) else none
  else bif Nat.beq pc 50 then some (.getfield 37, 53, 7, 4, 2, 0, 0) else none
  else bif Nat.blt pc 56 then bif Nat.beq pc 53 then some (.getfield 152, 56, 3, 1, 2, 0, 0) else none
  else bif Nat.beq pc 56 then some (.iload_n 3, 57, 3, 0, 0, 0, 0) else none
  else bif Nat.blt pc 83 then bif Nat.blt pc 70 then bif Nat.blt pc 63 then bif Nat.blt pc 61 then bif Nat.blt pc 60 then bif Nat.beq pc 57 then some (.invokestatic 107, 60, 106, 2, 99, 0, 0) else none
  else bif Nat.beq pc 60 then some (.i2l, 61, 0, 0, 0, 0, 0) else none
  else bif Nat.blt pc 62 then bif Nat.beq pc 61 then some (.ladd, 62, 0, 0, 0, 0, 0) else none
  else bif Nat.beq pc 62 then some (.lstore_n 1, 63, 1, 0, 0, 0, 0) else none
  else bif Nat.blt pc 67 then bif Nat.blt pc 66 then bif Nat.beq pc 63 then some (.ldc2_w 253, 66, 0, 0, 0, 0, 31) else none
  else bif Nat.beq pc 66 then some (.lload_n 1, 67, 1, 0, 0, 0, 0) else none
  else bif Nat.blt pc 68 then bif Nat.beq pc 67 then some (.lmul, 68, 0, 0, 0, 0, 0) else none
  else bif Nat.beq pc 68 then some (.iload 4, 70, 4, 0, 0, 0, 0) else none
  else bif Nat.blt pc 74 then bif Nat.blt pc 72 then bif Nat.blt pc 71 then bif Nat.beq pc 70 then some (.i2l, 71, 0, 0, 0, 0, 0) else none
  else bif Nat.beq pc 71 then some (.ladd, 72, 0, 0, 0, 0, 0) else none
  else bif Nat.blt pc 73 then bif Nat.beq pc 72 then some (.lstore_n 1, 73, 1, 0, 0, 0, 0) else none
  else bif Nat.beq pc 73 then some (.iconst 0, 74, 0, 0, 0, 0, 0) else none
  else bif Nat.blt pc 78 then bif Nat.blt pc 76 then bif Nat.beq pc 74 then some (.istore 5, 76, 5, 0, 0, 0, 0) else none
  else bif Nat.beq pc 76 then some (.iload 5, 78, 5, 0, 0, 0, 0) else none
  else bif Nat.blt pc 80 then bif Nat.beq pc 78 then some (.iload 4, 80, 4, 0, 0, 0, 0) else none
  else bif Nat.beq pc 80 then some (.if_icmp .ge 27, 83, 107, 0, 0, 0, 0) else none
  else bif Nat.blt pc 98 then bif Nat.blt pc 89 then bif Nat.blt pc 87 then bif Nat.blt pc 86 then bif Nat.beq pc 83 then some (.ldc2_w 253, 86, 0, 0, 0, 0, 31) else none
  else bif Nat.beq pc 86 then some (.lload_n 1, 87, 1, 0, 0, 0, 0) else none
  else bif Nat.blt pc 88 then bif Nat.beq pc 87 then some (.lmul, 88, 0, 0, 0, 0, 0) else none
  else bif Nat.beq pc 88 then some (.aload_n 0, 89, 0, 0, 0, 0, 0) else none
  else bif Nat.blt pc 93 then bif Nat.blt pc 92 then bif Nat.beq pc 89 then some (.getfield 37, 92, 7, 4, 2, 0, 0) else none
  else bif Nat.beq pc 92 then some (.iload_n 3, 93, 3, 0, 0, 0, 0) else none
  else bif Nat.blt pc 95 then bif Nat.beq pc 93 then some (.iload 5, 95, 5, 0, 0, 0, 0) else none
  else bif Nat.beq pc 95 then some (.invokevirtual 158, 98, 22, 3, 3, 0, 0) else none
  else bif Nat.blt pc 104 then bif Nat.blt pc 100 then bif Nat.blt pc 99 then bif Nat.beq pc 98 then some (.i2l, 99, 0, 0, 0, 0, 0) else none
  else bif Nat.beq pc 99 then some (.ladd, 100, 0, 0, 0, 0, 0) else none
  else bif Nat.blt pc 101 then bif Nat.beq pc 100 then some (.lstore_n 1, 101, 1, 0, 0, 0, 0) else none
  else bif Nat.beq pc 101 then some (.iinc 5 1, 104, 5, 0, 0, 1, 0) else none
  else bif Nat.blt pc 110 then bif Nat.blt pc 107 then bif Nat.beq pc 104 then some (.goto (-28), 107, 76, 0, 0, 0, 0) else none
  else bif Nat.beq pc 107 then some (.iinc 3 1, 110, 3, 0, 0, 1, 0) else none
  else bif Nat.blt pc 113 then bif Nat.beq pc 110 then some (.goto (-90), 113, 20, 0, 0, 0, 0) else none
  else bif Nat.blt pc 114 then bif Nat.beq pc 113 then some (.lload_n 1, 114, 1, 0, 0, 0, 0) else none
  else bif Nat.beq pc 114 then some (.lreturn, 115, 0, 0, 0, 0, 0) else none
def rs_X7_checksum : PMR := (3, 0, hdl [], 6)
def mi_X7_checksum : PMI := wrapM 115 cd_X7_checksum rs_X7_checksum
def cd_X7_requireNode (pc : Nat) : Option PE :=
  bif Nat.blt pc 6 then bif Nat.blt pc 4 then bif Nat.blt pc 1 then bif Nat.beq pc 0 then some (.iload_n 1, 1, 1, 0, 0, 0, 0) else none
  else bif Nat.beq pc 1 then some (.ifCond .lt 14, 4, 15, 0, 0, 0, 0) else none
  else bif Nat.blt pc 5 then bif Nat.beq pc 4 then some (.iload_n 1, 5, 1, 0, 0, 0, 0) else none
  else bif Nat.beq pc 5 then some (.aload_n 0, 6, 0, 0, 0, 0, 0) else none
  else bif Nat.blt pc 12 then bif Nat.blt pc 9 then bif Nat.beq pc 6 then some (.getfield 27, 9, 7, 2, 2, 0, 0) else none
  else bif Nat.beq pc 9 then some (.getfield 91, 12, 2, 0, 0, 0, 0) else none
  else bif Nat.blt pc 15 then bif Nat.beq pc 12 then some (.if_icmp .lt 14, 15, 26, 0, 0, 0, 0) else none
  else bif Nat.blt pc 26 then bif Nat.beq pc 15 then some (.new 188, 18, 1, 258, 201, 0, 0) else none
  else bif Nat.beq pc 26 then some (.return_, 27, 0, 0, 0, 0, 0) else none
def rs_X7_requireNode : PMR := (0, 1, hdl [], 2)
def mi_X7_requireNode : PMI := wrapM 27 cd_X7_requireNode rs_X7_requireNode
def cd_X7_requireEdge (pc : Nat) : Option PE :=
  bif Nat.blt pc 6 then bif Nat.blt pc 4 then bif Nat.blt pc 1 then bif Nat.beq pc 0 then some (.iload_n 1, 1, 1, 0, 0, 0, 0) else none
  else bif Nat.beq pc 1 then some (.ifCond .lt 14, 4, 15, 0, 0, 0, 0) else none
  else bif Nat.blt pc 5 then bif Nat.beq pc 4 then some (.iload_n 1, 5, 1, 0, 0, 0, 0) else none
  else bif Nat.beq pc 5 then some (.aload_n 0, 6, 0, 0, 0, 0, 0) else none
  else bif Nat.blt pc 12 then bif Nat.blt pc 9 then bif Nat.beq pc 6 then some (.getfield 27, 9, 7, 2, 2, 0, 0) else none
  else bif Nat.beq pc 9 then some (.getfield 85, 12, 2, 2, 0, 0, 0) else none
  else bif Nat.blt pc 15 then bif Nat.beq pc 12 then some (.if_icmp .lt 14, 15, 26, 0, 0, 0, 0) else none
  else bif Nat.blt pc 26 then bif Nat.beq pc 15 then some (.new 188, 18, 1, 260, 201, 0, 0) else none
  else bif Nat.beq pc 26 then some (.return_, 27, 0, 0, 0, 0, 0) else none
def rs_X7_requireEdge : PMR := (0, 1, hdl [], 2)
def mi_X7_requireEdge : PMI := wrapM 27 cd_X7_requireEdge rs_X7_requireEdge
def cd_X7_requireArc (pc : Nat) : Option PE :=
  bif Nat.blt pc 7 then bif Nat.blt pc 4 then bif Nat.blt pc 1 then bif Nat.beq pc 0 then some (.iload_n 1, 1, 1, 0, 0, 0, 0) else none
  else bif Nat.beq pc 1 then some (.ifCond .lt 16, 4, 17, 0, 0, 0, 0) else none
  else bif Nat.blt pc 5 then bif Nat.beq pc 4 then some (.iload_n 1, 5, 1, 0, 0, 0, 0) else none
  else bif Nat.blt pc 6 then bif Nat.beq pc 5 then some (.iconst 2, 6, 0, 0, 0, 2, 0) else none
  else bif Nat.beq pc 6 then some (.aload_n 0, 7, 0, 0, 0, 0, 0) else none
  else bif Nat.blt pc 14 then bif Nat.blt pc 10 then bif Nat.beq pc 7 then some (.getfield 27, 10, 7, 2, 2, 0, 0) else none
  else bif Nat.blt pc 13 then bif Nat.beq pc 10 then some (.getfield 85, 13, 2, 2, 0, 0, 0) else none
  else bif Nat.beq pc 13 then some (.imul, 14, 0, 0, 0, 0, 0) else none
  else bif Nat.blt pc 17 then bif Nat.beq pc 14 then some (.if_icmp .lt 14, 17, 28, 0, 0, 0, 0) else none
  else bif Nat.blt pc 28 then bif Nat.beq pc 17 then some (.new 188, 20, 1, 262, 201, 0, 0) else none
  else bif Nat.beq pc 28 then some (.return_, 29, 0, 0, 0, 0, 0) else none
def rs_X7_requireArc : PMR := (0, 1, hdl [], 2)
def mi_X7_requireArc : PMI := wrapM 29 cd_X7_requireArc rs_X7_requireArc
def cd_X7_requireTour (pc : Nat) : Option PE :=
  bif Nat.blt pc 6 then bif Nat.blt pc 4 then bif Nat.blt pc 1 then bif Nat.beq pc 0 then some (.iload_n 1, 1, 1, 0, 0, 0, 0) else none
  else bif Nat.beq pc 1 then some (.ifCond .lt 14, 4, 15, 0, 0, 0, 0) else none
  else bif Nat.blt pc 5 then bif Nat.beq pc 4 then some (.iload_n 1, 5, 1, 0, 0, 0, 0) else none
  else bif Nat.beq pc 5 then some (.aload_n 0, 6, 0, 0, 0, 0, 0) else none
  else bif Nat.blt pc 12 then bif Nat.blt pc 9 then bif Nat.beq pc 6 then some (.getfield 37, 9, 7, 4, 2, 0, 0) else none
  else bif Nat.beq pc 9 then some (.getfield 97, 12, 3, 0, 0, 0, 0) else none
  else bif Nat.blt pc 15 then bif Nat.beq pc 12 then some (.if_icmp .lt 14, 15, 26, 0, 0, 0, 0) else none
  else bif Nat.blt pc 26 then bif Nat.beq pc 15 then some (.new 188, 18, 1, 264, 201, 0, 0) else none
  else bif Nat.beq pc 26 then some (.return_, 27, 0, 0, 0, 0, 0) else none
def rs_X7_requireTour : PMR := (0, 1, hdl [], 2)
def mi_X7_requireTour : PMI := wrapM 27 cd_X7_requireTour rs_X7_requireTour
def cd_X7_orNone (pc : Nat) : Option PE :=
  bif Nat.blt pc 6 then bif Nat.blt pc 1 then bif Nat.beq pc 0 then some (.iload_n 0, 1, 0, 0, 0, 0, 0) else none
  else bif Nat.blt pc 3 then bif Nat.beq pc 1 then some (.ldc 208, 3, 0, 0, 0, 100000000, 0) else none
  else bif Nat.beq pc 3 then some (.if_icmp .lt 7, 6, 10, 0, 0, 0, 0) else none
  else bif Nat.blt pc 10 then bif Nat.blt pc 7 then bif Nat.beq pc 6 then some (.iconst (-1), 7, 0, 0, 0, (-1), 0) else none
  else bif Nat.beq pc 7 then some (.goto 4, 10, 11, 0, 0, 0, 0) else none
  else bif Nat.blt pc 11 then bif Nat.beq pc 10 then some (.iload_n 0, 11, 0, 0, 0, 0, 0) else none
  else bif Nat.beq pc 11 then some (.ireturn, 12, 0, 0, 0, 0, 0) else none
def rs_X7_orNone : PMR := (1, 0, hdl [], 1)
def mi_X7_orNone : PMI := wrapM 12 cd_X7_orNone rs_X7_orNone
def cd_X7_limited (pc : Nat) : Option PE :=
  bif Nat.blt pc 4 then bif Nat.blt pc 2 then bif Nat.blt pc 1 then bif Nat.beq pc 0 then some (.iload_n 2, 1, 2, 0, 0, 0, 0) else none
  else bif Nat.beq pc 1 then some (.i2l, 2, 0, 0, 0, 0, 0) else none
  else bif Nat.blt pc 3 then bif Nat.beq pc 2 then some (.iload_n 3, 3, 3, 0, 0, 0, 0) else none
  else bif Nat.beq pc 3 then some (.i2l, 4, 0, 0, 0, 0, 0) else none
  else bif Nat.blt pc 8 then bif Nat.blt pc 5 then bif Nat.beq pc 4 then some (.lload_n 0, 5, 0, 0, 0, 0, 0) else none
  else bif Nat.beq pc 5 then some (.invokestatic 266, 8, 0, 0, 102, 0, 0) else none
  else bif Nat.blt pc 11 then bif Nat.beq pc 8 then some (.invokestatic 272, 11, 0, 0, 101, 0, 0) else none
  else bif Nat.blt pc 12 then bif Nat.beq pc 11 then some (.l2i, 12, 0, 0, 0, 0, 0) else none
  else bif Nat.beq pc 12 then some (.ireturn, 13, 0, 0, 0, 0, 0) else none
def rs_X7_limited : PMR := (1, 0, hdl [], 4)
def mi_X7_limited : PMI := wrapM 13 cd_X7_limited rs_X7_limited
def cd_X7_at (pc : Nat) : Option PE :=
  bif Nat.blt pc 10 then bif Nat.blt pc 5 then bif Nat.blt pc 1 then bif Nat.beq pc 0 then some (.iload_n 1, 1, 1, 0, 0, 0, 0) else none
  else bif Nat.blt pc 4 then bif Nat.beq pc 1 then some (.ifCond .lt 15, 4, 16, 0, 0, 0, 0) else none
  else bif Nat.beq pc 4 then some (.iload_n 1, 5, 1, 0, 0, 0, 0) else none
  else bif Nat.blt pc 6 then bif Nat.beq pc 5 then some (.aload_n 0, 6, 0, 0, 0, 0, 0) else none
  else bif Nat.blt pc 7 then bif Nat.beq pc 6 then some (.arraylength, 7, 0, 0, 0, 0, 0) else none
  else bif Nat.beq pc 7 then some (.if_icmp .ge 9, 10, 16, 0, 0, 0, 0) else none
  else bif Nat.blt pc 13 then bif Nat.blt pc 11 then bif Nat.beq pc 10 then some (.aload_n 0, 11, 0, 0, 0, 0, 0) else none
  else bif Nat.blt pc 12 then bif Nat.beq pc 11 then some (.iload_n 1, 12, 1, 0, 0, 0, 0) else none
  else bif Nat.beq pc 12 then some (.iaload, 13, 0, 0, 0, 0, 0) else none
  else bif Nat.blt pc 16 then bif Nat.beq pc 13 then some (.goto 4, 16, 17, 0, 0, 0, 0) else none
  else bif Nat.blt pc 17 then bif Nat.beq pc 16 then some (.iconst 0, 17, 0, 0, 0, 0, 0) else none
  else bif Nat.beq pc 17 then some (.ireturn, 18, 0, 0, 0, 0, 0) else none
def rs_X7_at : PMR := (1, 0, hdl [], 2)
def mi_X7_at : PMI := wrapM 18 cd_X7_at rs_X7_at
def cd_X7_put (pc : Nat) : Option PE :=
  bif Nat.blt pc 7 then bif Nat.blt pc 4 then bif Nat.blt pc 1 then bif Nat.beq pc 0 then some (.iload_n 1, 1, 1, 0, 0, 0, 0) else none
  else bif Nat.beq pc 1 then some (.ifCond .lt 13, 4, 14, 0, 0, 0, 0) else none
  else bif Nat.blt pc 5 then bif Nat.beq pc 4 then some (.iload_n 1, 5, 1, 0, 0, 0, 0) else none
  else bif Nat.blt pc 6 then bif Nat.beq pc 5 then some (.aload_n 0, 6, 0, 0, 0, 0, 0) else none
  else bif Nat.beq pc 6 then some (.arraylength, 7, 0, 0, 0, 0, 0) else none
  else bif Nat.blt pc 12 then bif Nat.blt pc 10 then bif Nat.beq pc 7 then some (.if_icmp .ge 7, 10, 14, 0, 0, 0, 0) else none
  else bif Nat.blt pc 11 then bif Nat.beq pc 10 then some (.aload_n 0, 11, 0, 0, 0, 0, 0) else none
  else bif Nat.beq pc 11 then some (.iload_n 1, 12, 1, 0, 0, 0, 0) else none
  else bif Nat.blt pc 13 then bif Nat.beq pc 12 then some (.iload_n 2, 13, 2, 0, 0, 0, 0) else none
  else bif Nat.blt pc 14 then bif Nat.beq pc 13 then some (.iastore, 14, 0, 0, 0, 0, 0) else none
  else bif Nat.beq pc 14 then some (.return_, 15, 0, 0, 0, 0, 0) else none
def rs_X7_put : PMR := (0, 0, hdl [], 3)
def mi_X7_put : PMI := wrapM 15 cd_X7_put rs_X7_put
def cd_X7_copyRow (pc : Nat) : Option PE :=
  bif Nat.blt pc 5 then bif Nat.blt pc 2 then bif Nat.blt pc 1 then bif Nat.beq pc 0 then some (.aload_n 0, 1, 0, 0, 0, 0, 0) else none
  else bif Nat.beq pc 1 then some (.iconst 0, 2, 0, 0, 0, 0, 0) else none
  else bif Nat.blt pc 3 then bif Nat.beq pc 2 then some (.aload_n 1, 3, 1, 0, 0, 0, 0) else none
  else bif Nat.blt pc 4 then bif Nat.beq pc 3 then some (.iconst 0, 4, 0, 0, 0, 0, 0) else none
  else bif Nat.beq pc 4 then some (.aload_n 0, 5, 0, 0, 0, 0, 0) else none
  else bif Nat.blt pc 8 then bif Nat.blt pc 6 then bif Nat.beq pc 5 then some (.arraylength, 6, 0, 0, 0, 0, 0) else none
  else bif Nat.blt pc 7 then bif Nat.beq pc 6 then some (.aload_n 1, 7, 1, 0, 0, 0, 0) else none
  else bif Nat.beq pc 7 then some (.arraylength, 8, 0, 0, 0, 0, 0) else none
  else bif Nat.blt pc 11 then bif Nat.beq pc 8 then some (.invokestatic 275, 11, 0, 0, 100, 0, 0) else none
  else bif Nat.blt pc 14 then bif Nat.beq pc 11 then some (.invokestatic 277, 14, 0, 0, 103, 0, 0) else none
  else bif Nat.beq pc 14 then some (.return_, 15, 0, 0, 0, 0, 0) else none
def rs_X7_copyRow : PMR := (0, 0, hdl [], 2)
def mi_X7_copyRow : PMI := wrapM 15 cd_X7_copyRow rs_X7_copyRow
def cd_X8_thrown (pc : Nat) : Option PE :=
  bif Nat.blt pc 1 then bif Nat.beq pc 0 then some (.aload_n 0, 1, 0, 0, 0, 0, 0) else none
  else bif Nat.blt pc 4 then bif Nat.beq pc 1 then some (.getfield 38, 4, 8, 0, 0, 0, 0) else none
  else bif Nat.beq pc 4 then some (.ireturn, 5, 0, 0, 0, 0, 0) else none
def rs_X8_thrown : PMR := (1, 0, hdl [], 1)
def mi_X8_thrown : PMI := wrapM 5 cd_X8_thrown rs_X8_thrown
def cd_X8_fails (pc : Nat) : Option PE :=
  bif Nat.blt pc 13 then bif Nat.blt pc 5 then bif Nat.blt pc 1 then bif Nat.beq pc 0 then some (.iload_n 1, 1, 1, 0, 0, 0, 0) else none
  else bif Nat.blt pc 4 then bif Nat.beq pc 1 then some (.ifCond .eq 15, 4, 16, 0, 0, 0, 0) else none
  else bif Nat.beq pc 4 then some (.aload_n 0, 5, 0, 0, 0, 0, 0) else none
  else bif Nat.blt pc 11 then bif Nat.blt pc 8 then bif Nat.beq pc 5 then some (.getfield 38, 8, 8, 0, 0, 0, 0) else none
  else bif Nat.beq pc 8 then some (.ifCond .ne 8, 11, 16, 0, 0, 0, 0) else none
  else bif Nat.blt pc 12 then bif Nat.beq pc 11 then some (.aload_n 0, 12, 0, 0, 0, 0, 0) else none
  else bif Nat.beq pc 12 then some (.iload_n 2, 13, 2, 0, 0, 0, 0) else none
  else bif Nat.blt pc 23 then bif Nat.blt pc 17 then bif Nat.blt pc 16 then bif Nat.beq pc 13 then some (.putfield 38, 16, 8, 0, 0, 0, 0) else none
  else bif Nat.beq pc 16 then some (.aload_n 0, 17, 0, 0, 0, 0, 0) else none
  else bif Nat.blt pc 20 then bif Nat.beq pc 17 then some (.getfield 38, 20, 8, 0, 0, 0, 0) else none
  else bif Nat.beq pc 20 then some (.ifCond .eq 7, 23, 27, 0, 0, 0, 0) else none
  else bif Nat.blt pc 27 then bif Nat.blt pc 24 then bif Nat.beq pc 23 then some (.iconst 1, 24, 0, 0, 0, 1, 0) else none
  else bif Nat.beq pc 24 then some (.goto 4, 27, 28, 0, 0, 0, 0) else none
  else bif Nat.blt pc 28 then bif Nat.beq pc 27 then some (.iconst 0, 28, 0, 0, 0, 0, 0) else none
  else bif Nat.beq pc 28 then some (.ireturn, 29, 0, 0, 0, 0, 0) else none
def rs_X8_fails : PMR := (2, 0, hdl [], 3)
def mi_X8_fails : PMI := wrapM 29 cd_X8_fails rs_X8_fails
def cd_X8_in (pc : Nat) : Option PE :=
  bif Nat.blt pc 7 then bif Nat.blt pc 2 then bif Nat.blt pc 1 then bif Nat.beq pc 0 then some (.iload_n 0, 1, 0, 0, 0, 0, 0) else none
  else bif Nat.beq pc 1 then some (.iload_n 1, 2, 1, 0, 0, 0, 0) else none
  else bif Nat.blt pc 5 then bif Nat.beq pc 2 then some (.if_icmp .lt 12, 5, 14, 0, 0, 0, 0) else none
  else bif Nat.blt pc 6 then bif Nat.beq pc 5 then some (.iload_n 0, 6, 0, 0, 0, 0, 0) else none
  else bif Nat.beq pc 6 then some (.iload_n 2, 7, 2, 0, 0, 0, 0) else none
  else bif Nat.blt pc 11 then bif Nat.blt pc 10 then bif Nat.beq pc 7 then some (.if_icmp .gt 7, 10, 14, 0, 0, 0, 0) else none
  else bif Nat.beq pc 10 then some (.iconst 1, 11, 0, 0, 0, 1, 0) else none
  else bif Nat.blt pc 14 then bif Nat.beq pc 11 then some (.goto 4, 14, 15, 0, 0, 0, 0) else none
  else bif Nat.blt pc 15 then bif Nat.beq pc 14 then some (.iconst 0, 15, 0, 0, 0, 0, 0) else none
  else bif Nat.beq pc 15 then some (.ireturn, 16, 0, 0, 0, 0, 0) else none
def rs_X8_in : PMR := (2, 0, hdl [], 3)
def mi_X8_in : PMI := wrapM 16 cd_X8_in rs_X8_in
def cd_X8_min (pc : Nat) : Option PE :=
  bif Nat.blt pc 5 then bif Nat.blt pc 1 then bif Nat.beq pc 0 then some (.iload_n 0, 1, 0, 0, 0, 0, 0) else none
  else bif Nat.blt pc 2 then bif Nat.beq pc 1 then some (.iload_n 1, 2, 1, 0, 0, 0, 0) else none
  else bif Nat.beq pc 2 then some (.if_icmp .ge 7, 5, 9, 0, 0, 0, 0) else none
  else bif Nat.blt pc 9 then bif Nat.blt pc 6 then bif Nat.beq pc 5 then some (.iload_n 0, 6, 0, 0, 0, 0, 0) else none
  else bif Nat.beq pc 6 then some (.goto 4, 9, 10, 0, 0, 0, 0) else none
  else bif Nat.blt pc 10 then bif Nat.beq pc 9 then some (.iload_n 1, 10, 1, 0, 0, 0, 0) else none
  else bif Nat.beq pc 10 then some (.ireturn, 11, 0, 0, 0, 0, 0) else none
def rs_X8_min : PMR := (1, 0, hdl [], 2)
def mi_X8_min : PMI := wrapM 11 cd_X8_min rs_X8_min
def cd_X8_copy (pc : Nat) : Option PE :=
  bif Nat.blt pc 11 then bif Nat.blt pc 3 then bif Nat.blt pc 1 then bif Nat.beq pc 0 then some (.iconst 0, 1, 0, 0, 0, 0, 0) else none
  else bif Nat.blt pc 2 then bif Nat.beq pc 1 then some (.istore_n 2, 2, 2, 0, 0, 0, 0) else none
  else bif Nat.beq pc 2 then some (.iload_n 2, 3, 2, 0, 0, 0, 0) else none
  else bif Nat.blt pc 9 then bif Nat.blt pc 6 then bif Nat.beq pc 3 then some (.sipush 1556, 6, 0, 0, 0, 1556, 0) else none
  else bif Nat.beq pc 6 then some (.if_icmp .ge 15, 9, 21, 0, 0, 0, 0) else none
  else bif Nat.blt pc 10 then bif Nat.beq pc 9 then some (.aload_n 1, 10, 1, 0, 0, 0, 0) else none
  else bif Nat.beq pc 10 then some (.iload_n 2, 11, 2, 0, 0, 0, 0) else none
  else bif Nat.blt pc 14 then bif Nat.blt pc 12 then bif Nat.beq pc 11 then some (.aload_n 0, 12, 0, 0, 0, 0, 0) else none
  else bif Nat.blt pc 13 then bif Nat.beq pc 12 then some (.iload_n 2, 13, 2, 0, 0, 0, 0) else none
  else bif Nat.beq pc 13 then some (.iaload, 14, 0, 0, 0, 0, 0) else none
  else bif Nat.blt pc 18 then bif Nat.blt pc 15 then bif Nat.beq pc 14 then some (.iastore, 15, 0, 0, 0, 0, 0) else none
  else bif Nat.beq pc 15 then some (.iinc 2 1, 18, 2, 0, 0, 1, 0) else none
  else bif Nat.blt pc 21 then bif Nat.beq pc 18 then some (.goto (-16), 21, 2, 0, 0, 0, 0) else none
  else bif Nat.beq pc 21 then some (.return_, 22, 0, 0, 0, 0, 0) else none
def rs_X8_copy : PMR := (0, 0, hdl [], 3)
def mi_X8_copy : PMI := wrapM 22 cd_X8_copy rs_X8_copy
def cd_X8_edge (pc : Nat) : Option PE :=
  bif Nat.blt pc 4 then bif Nat.blt pc 2 then bif Nat.beq pc 0 then some (.bipush 7, 2, 0, 0, 0, 7, 0) else none
  else bif Nat.blt pc 3 then bif Nat.beq pc 2 then some (.iconst 5, 3, 0, 0, 0, 5, 0) else none
  else bif Nat.beq pc 3 then some (.iload_n 0, 4, 0, 0, 0, 0, 0) else none
  else bif Nat.blt pc 5 then bif Nat.beq pc 4 then some (.imul, 5, 0, 0, 0, 0, 0) else none
  else bif Nat.blt pc 6 then bif Nat.beq pc 5 then some (.iadd, 6, 0, 0, 0, 0, 0) else none
  else bif Nat.beq pc 6 then some (.ireturn, 7, 0, 0, 0, 0, 0) else none
def rs_X8_edge : PMR := (1, 0, hdl [], 1)
def mi_X8_edge : PMI := wrapM 7 cd_X8_edge rs_X8_edge
def cd_X8_ban (pc : Nat) : Option PE :=
  bif Nat.blt pc 6 then bif Nat.blt pc 4 then bif Nat.blt pc 2 then bif Nat.beq pc 0 then some (.bipush 77, 2, 0, 0, 0, 77, 0) else none
  else bif Nat.beq pc 2 then some (.bipush 14, 4, 0, 0, 0, 14, 0) else none
  else bif Nat.blt pc 5 then bif Nat.beq pc 4 then some (.iload_n 0, 5, 0, 0, 0, 0, 0) else none
  else bif Nat.beq pc 5 then some (.imul, 6, 0, 0, 0, 0, 0) else none
  else bif Nat.blt pc 8 then bif Nat.blt pc 7 then bif Nat.beq pc 6 then some (.iadd, 7, 0, 0, 0, 0, 0) else none
  else bif Nat.beq pc 7 then some (.iload_n 1, 8, 1, 0, 0, 0, 0) else none
  else bif Nat.blt pc 9 then bif Nat.beq pc 8 then some (.iadd, 9, 0, 0, 0, 0, 0) else none
  else bif Nat.beq pc 9 then some (.ireturn, 10, 0, 0, 0, 0, 0) else none
def rs_X8_ban : PMR := (1, 0, hdl [], 2)
def mi_X8_ban : PMI := wrapM 10 cd_X8_ban rs_X8_ban
def cd_X8_tour (pc : Nat) : Option PE :=
  bif Nat.blt pc 6 then bif Nat.blt pc 3 then bif Nat.beq pc 0 then some (.sipush 192, 3, 0, 0, 0, 192, 0) else none
  else bif Nat.blt pc 5 then bif Nat.beq pc 3 then some (.bipush 16, 5, 0, 0, 0, 16, 0) else none
  else bif Nat.beq pc 5 then some (.iload_n 0, 6, 0, 0, 0, 0, 0) else none
  else bif Nat.blt pc 7 then bif Nat.beq pc 6 then some (.imul, 7, 0, 0, 0, 0, 0) else none
  else bif Nat.blt pc 8 then bif Nat.beq pc 7 then some (.iadd, 8, 0, 0, 0, 0, 0) else none
  else bif Nat.beq pc 8 then some (.ireturn, 9, 0, 0, 0, 0, 0) else none
def rs_X8_tour : PMR := (1, 0, hdl [], 1)
def mi_X8_tour : PMI := wrapM 9 cd_X8_tour rs_X8_tour
def cd_X8_append (pc : Nat) : Option PE :=
  bif Nat.blt pc 64 then bif Nat.blt pc 30 then bif Nat.blt pc 15 then bif Nat.blt pc 6 then bif Nat.blt pc 2 then bif Nat.blt pc 1 then bif Nat.beq pc 0 then some (.aload_n 0, 1, 0, 0, 0, 0, 0) else none
  else bif Nat.beq pc 1 then some (.iconst 0, 2, 0, 0, 0, 0, 0) else none
  else bif Nat.blt pc 5 then bif Nat.beq pc 2 then some (.putfield 38, 5, 8, 0, 0, 0, 0) else none
  else bif Nat.beq pc 5 then some (.aload_n 0, 6, 0, 0, 0, 0, 0) else none
  else bif Nat.blt pc 11 then bif Nat.blt pc 9 then bif Nat.beq pc 6 then some (.getfield 41, 9, 8, 2, 0, 0, 0) else none
  else bif Nat.beq pc 9 then some (.bipush 20, 11, 0, 0, 0, 20, 0) else none
  else bif Nat.blt pc 12 then bif Nat.beq pc 11 then some (.iadd, 12, 0, 0, 0, 0, 0) else none
  else bif Nat.beq pc 12 then some (.sipush 700, 15, 0, 0, 0, 700, 0) else none
  else bif Nat.blt pc 21 then bif Nat.blt pc 19 then bif Nat.blt pc 18 then bif Nat.beq pc 15 then some (.if_icmp .le 5, 18, 20, 0, 0, 0, 0) else none
  else bif Nat.beq pc 18 then some (.iconst (-1), 19, 0, 0, 0, (-1), 0) else none
  else bif Nat.blt pc 20 then bif Nat.beq pc 19 then some (.ireturn, 20, 0, 0, 0, 0, 0) else none
  else bif Nat.beq pc 20 then some (.iconst 0, 21, 0, 0, 0, 0, 0) else none
  else bif Nat.blt pc 25 then bif Nat.blt pc 23 then bif Nat.beq pc 21 then some (.istore 6, 23, 6, 0, 0, 0, 0) else none
  else bif Nat.beq pc 23 then some (.iload 6, 25, 6, 0, 0, 0, 0) else none
  else bif Nat.blt pc 27 then bif Nat.beq pc 25 then some (.bipush 20, 27, 0, 0, 0, 20, 0) else none
  else bif Nat.beq pc 27 then some (.if_icmp .ge 93, 30, 120, 0, 0, 0, 0) else none
  else bif Nat.blt pc 47 then bif Nat.blt pc 37 then bif Nat.blt pc 33 then bif Nat.blt pc 32 then bif Nat.beq pc 30 then some (.iload 6, 32, 6, 0, 0, 0, 0) else none
  else bif Nat.beq pc 32 then some (.iconst 4, 33, 0, 0, 0, 4, 0) else none
  else bif Nat.blt pc 36 then bif Nat.beq pc 33 then some (.if_icmp .ge 7, 36, 40, 0, 0, 0, 0) else none
  else bif Nat.beq pc 36 then some (.iload_n 1, 37, 1, 0, 0, 0, 0) else none
  else bif Nat.blt pc 42 then bif Nat.blt pc 40 then bif Nat.beq pc 37 then some (.goto 39, 40, 76, 0, 0, 0, 0) else none
  else bif Nat.beq pc 40 then some (.iload 6, 42, 6, 0, 0, 0, 0) else none
  else bif Nat.blt pc 44 then bif Nat.beq pc 42 then some (.bipush 8, 44, 0, 0, 0, 8, 0) else none
  else bif Nat.beq pc 44 then some (.if_icmp .ge 7, 47, 51, 0, 0, 0, 0) else none
  else bif Nat.blt pc 55 then bif Nat.blt pc 51 then bif Nat.blt pc 48 then bif Nat.beq pc 47 then some (.iload_n 2, 48, 2, 0, 0, 0, 0) else none
  else bif Nat.beq pc 48 then some (.goto 28, 51, 76, 0, 0, 0, 0) else none
  else bif Nat.blt pc 53 then bif Nat.beq pc 51 then some (.iload 6, 53, 6, 0, 0, 0, 0) else none
  else bif Nat.beq pc 53 then some (.bipush 12, 55, 0, 0, 0, 12, 0) else none
  else bif Nat.blt pc 59 then bif Nat.blt pc 58 then bif Nat.beq pc 55 then some (.if_icmp .ge 7, 58, 62, 0, 0, 0, 0) else none
  else bif Nat.beq pc 58 then some (.iload_n 3, 59, 3, 0, 0, 0, 0) else none
  else bif Nat.blt pc 62 then bif Nat.beq pc 59 then some (.goto 17, 62, 76, 0, 0, 0, 0) else none
  else bif Nat.beq pc 62 then some (.iload 6, 64, 6, 0, 0, 0, 0) else none
  else bif Nat.blt pc 96 then bif Nat.blt pc 82 then bif Nat.blt pc 74 then bif Nat.blt pc 69 then bif Nat.blt pc 66 then bif Nat.beq pc 64 then some (.bipush 16, 66, 0, 0, 0, 16, 0) else none
  else bif Nat.beq pc 66 then some (.if_icmp .ge 8, 69, 74, 0, 0, 0, 0) else none
  else bif Nat.blt pc 71 then bif Nat.beq pc 69 then some (.iload 4, 71, 4, 0, 0, 0, 0) else none
  else bif Nat.beq pc 71 then some (.goto 5, 74, 76, 0, 0, 0, 0) else none
  else bif Nat.blt pc 78 then bif Nat.blt pc 76 then bif Nat.beq pc 74 then some (.iload 5, 76, 5, 0, 0, 0, 0) else none
  else bif Nat.beq pc 76 then some (.istore 7, 78, 7, 0, 0, 0, 0) else none
  else bif Nat.blt pc 79 then bif Nat.beq pc 78 then some (.aload_n 0, 79, 0, 0, 0, 0, 0) else none
  else bif Nat.beq pc 79 then some (.getfield 9, 82, 8, 1, 2, 0, 0) else none
  else bif Nat.blt pc 90 then bif Nat.blt pc 86 then bif Nat.blt pc 83 then bif Nat.beq pc 82 then some (.aload_n 0, 83, 0, 0, 0, 0, 0) else none
  else bif Nat.beq pc 83 then some (.getfield 41, 86, 8, 2, 0, 0, 0) else none
  else bif Nat.blt pc 88 then bif Nat.beq pc 86 then some (.iload 7, 88, 7, 0, 0, 0, 0) else none
  else bif Nat.beq pc 88 then some (.bipush 24, 90, 0, 0, 0, 24, 0) else none
  else bif Nat.blt pc 94 then bif Nat.blt pc 92 then bif Nat.beq pc 90 then some (.bipush 8, 92, 0, 0, 0, 8, 0) else none
  else bif Nat.beq pc 92 then some (.iload 6, 94, 6, 0, 0, 0, 0) else none
  else bif Nat.blt pc 95 then bif Nat.beq pc 94 then some (.iconst 4, 95, 0, 0, 0, 4, 0) else none
  else bif Nat.beq pc 95 then some (.irem, 96, 0, 0, 0, 0, 0) else none
  else bif Nat.blt pc 106 then bif Nat.blt pc 102 then bif Nat.blt pc 98 then bif Nat.blt pc 97 then bif Nat.beq pc 96 then some (.imul, 97, 0, 0, 0, 0, 0) else none
  else bif Nat.beq pc 97 then some (.isub, 98, 0, 0, 0, 0, 0) else none
  else bif Nat.blt pc 99 then bif Nat.beq pc 98 then some (.ishr, 99, 0, 0, 0, 0, 0) else none
  else bif Nat.beq pc 99 then some (.sipush 255, 102, 0, 0, 0, 255, 0) else none
  else bif Nat.blt pc 104 then bif Nat.blt pc 103 then bif Nat.beq pc 102 then some (.iand, 103, 0, 0, 0, 0, 0) else none
  else bif Nat.beq pc 103 then some (.iastore, 104, 0, 0, 0, 0, 0) else none
  else bif Nat.blt pc 105 then bif Nat.beq pc 104 then some (.aload_n 0, 105, 0, 0, 0, 0, 0) else none
  else bif Nat.beq pc 105 then some (.dup, 106, 0, 0, 0, 0, 0) else none
  else bif Nat.blt pc 114 then bif Nat.blt pc 110 then bif Nat.blt pc 109 then bif Nat.beq pc 106 then some (.getfield 41, 109, 8, 2, 0, 0, 0) else none
  else bif Nat.beq pc 109 then some (.iconst 1, 110, 0, 0, 0, 1, 0) else none
  else bif Nat.blt pc 111 then bif Nat.beq pc 110 then some (.iadd, 111, 0, 0, 0, 0, 0) else none
  else bif Nat.beq pc 111 then some (.putfield 41, 114, 8, 2, 0, 0, 0) else none
  else bif Nat.blt pc 120 then bif Nat.blt pc 117 then bif Nat.beq pc 114 then some (.iinc 6 1, 117, 6, 0, 0, 1, 0) else none
  else bif Nat.beq pc 117 then some (.goto (-94), 120, 23, 0, 0, 0, 0) else none
  else bif Nat.blt pc 121 then bif Nat.beq pc 120 then some (.aload_n 0, 121, 0, 0, 0, 0, 0) else none
  else bif Nat.blt pc 124 then bif Nat.beq pc 121 then some (.getfield 41, 124, 8, 2, 0, 0, 0) else none
  else bif Nat.beq pc 124 then some (.ireturn, 125, 0, 0, 0, 0, 0) else none
def rs_X8_append : PMR := (1, 0, hdl [], 8)
def mi_X8_append : PMI := wrapM 125 cd_X8_append rs_X8_append
def cd_X8_byteAt (pc : Nat) : Option PE :=
  bif Nat.blt pc 9 then bif Nat.blt pc 2 then bif Nat.blt pc 1 then bif Nat.beq pc 0 then some (.iload_n 1, 1, 1, 0, 0, 0, 0) else none
  else bif Nat.beq pc 1 then some (.aload_n 0, 2, 0, 0, 0, 0, 0) else none
  else bif Nat.blt pc 5 then bif Nat.beq pc 2 then some (.getfield 44, 5, 8, 3, 0, 0, 0) else none
  else bif Nat.blt pc 8 then bif Nat.beq pc 5 then some (.if_icmp .ge 12, 8, 17, 0, 0, 0, 0) else none
  else bif Nat.beq pc 8 then some (.aload_n 0, 9, 0, 0, 0, 0, 0) else none
  else bif Nat.blt pc 14 then bif Nat.blt pc 12 then bif Nat.beq pc 9 then some (.getfield 9, 12, 8, 1, 2, 0, 0) else none
  else bif Nat.blt pc 13 then bif Nat.beq pc 12 then some (.iload_n 1, 13, 1, 0, 0, 0, 0) else none
  else bif Nat.beq pc 13 then some (.iaload, 14, 0, 0, 0, 0, 0) else none
  else bif Nat.blt pc 17 then bif Nat.beq pc 14 then some (.goto 4, 17, 18, 0, 0, 0, 0) else none
  else bif Nat.blt pc 18 then bif Nat.beq pc 17 then some (.iconst (-1), 18, 0, 0, 0, (-1), 0) else none
  else bif Nat.beq pc 18 then some (.ireturn, 19, 0, 0, 0, 0, 0) else none
def rs_X8_byteAt : PMR := (1, 0, hdl [], 2)
def mi_X8_byteAt : PMI := wrapM 19 cd_X8_byteAt rs_X8_byteAt
def cd_X8_next (pc : Nat) : Option PE :=
  bif Nat.blt pc 18 then bif Nat.blt pc 8 then bif Nat.blt pc 2 then bif Nat.blt pc 1 then bif Nat.beq pc 0 then some (.aload_n 0, 1, 0, 0, 0, 0, 0) else none
  else bif Nat.beq pc 1 then some (.aload_n 0, 2, 0, 0, 0, 0, 0) else none
  else bif Nat.blt pc 5 then bif Nat.beq pc 2 then some (.getfield 47, 5, 8, 4, 0, 0, 0) else none
  else bif Nat.beq pc 5 then some (.invokevirtual 50, 8, 118, 2, 8, 0, 0) else none
  else bif Nat.blt pc 13 then bif Nat.blt pc 10 then bif Nat.beq pc 8 then some (.bipush 32, 10, 0, 0, 0, 32, 0) else none
  else bif Nat.beq pc 10 then some (.if_icmp .ne 16, 13, 26, 0, 0, 0, 0) else none
  else bif Nat.blt pc 14 then bif Nat.beq pc 13 then some (.aload_n 0, 14, 0, 0, 0, 0, 0) else none
  else bif Nat.blt pc 15 then bif Nat.beq pc 14 then some (.dup, 15, 0, 0, 0, 0, 0) else none
  else bif Nat.beq pc 15 then some (.getfield 47, 18, 8, 4, 0, 0, 0) else none
  else bif Nat.blt pc 26 then bif Nat.blt pc 20 then bif Nat.blt pc 19 then bif Nat.beq pc 18 then some (.iconst 1, 19, 0, 0, 0, 1, 0) else none
  else bif Nat.beq pc 19 then some (.iadd, 20, 0, 0, 0, 0, 0) else none
  else bif Nat.blt pc 23 then bif Nat.beq pc 20 then some (.putfield 47, 23, 8, 4, 0, 0, 0) else none
  else bif Nat.beq pc 23 then some (.goto (-23), 26, 0, 0, 0, 0, 0) else none
  else bif Nat.blt pc 28 then bif Nat.blt pc 27 then bif Nat.beq pc 26 then some (.aload_n 0, 27, 0, 0, 0, 0, 0) else none
  else bif Nat.beq pc 27 then some (.aload_n 0, 28, 0, 0, 0, 0, 0) else none
  else bif Nat.blt pc 31 then bif Nat.beq pc 28 then some (.getfield 47, 31, 8, 4, 0, 0, 0) else none
  else bif Nat.blt pc 34 then bif Nat.beq pc 31 then some (.invokevirtual 50, 34, 118, 2, 8, 0, 0) else none
  else bif Nat.beq pc 34 then some (.ireturn, 35, 0, 0, 0, 0, 0) else none
def rs_X8_next : PMR := (1, 0, hdl [], 1)
def mi_X8_next : PMI := wrapM 35 cd_X8_next rs_X8_next
def cd_X8_isGood (pc : Nat) : Option PE :=
  bif Nat.blt pc 7 then bif Nat.blt pc 1 then bif Nat.beq pc 0 then some (.aload_n 0, 1, 0, 0, 0, 0, 0) else none
  else bif Nat.blt pc 4 then bif Nat.beq pc 1 then some (.getfield 54, 4, 8, 5, 0, 0, 0) else none
  else bif Nat.beq pc 4 then some (.ifCond .ne 7, 7, 11, 0, 0, 0, 0) else none
  else bif Nat.blt pc 11 then bif Nat.blt pc 8 then bif Nat.beq pc 7 then some (.iconst 1, 8, 0, 0, 0, 1, 0) else none
  else bif Nat.beq pc 8 then some (.goto 4, 11, 12, 0, 0, 0, 0) else none
  else bif Nat.blt pc 12 then bif Nat.beq pc 11 then some (.iconst 0, 12, 0, 0, 0, 0, 0) else none
  else bif Nat.beq pc 12 then some (.ireturn, 13, 0, 0, 0, 0, 0) else none
def rs_X8_isGood : PMR := (2, 0, hdl [], 1)
def mi_X8_isGood : PMI := wrapM 13 cd_X8_isGood rs_X8_isGood
def cd_X8_report (pc : Nat) : Option PE :=
  bif Nat.blt pc 9 then bif Nat.blt pc 4 then bif Nat.blt pc 1 then bif Nat.beq pc 0 then some (.aload_n 0, 1, 0, 0, 0, 0, 0) else none
  else bif Nat.beq pc 1 then some (.getfield 54, 4, 8, 5, 0, 0, 0) else none
  else bif Nat.blt pc 7 then bif Nat.beq pc 4 then some (.ifCond .eq 4, 7, 8, 0, 0, 0, 0) else none
  else bif Nat.blt pc 8 then bif Nat.beq pc 7 then some (.return_, 8, 0, 0, 0, 0, 0) else none
  else bif Nat.beq pc 8 then some (.aload_n 0, 9, 0, 0, 0, 0, 0) else none
  else bif Nat.blt pc 14 then bif Nat.blt pc 10 then bif Nat.beq pc 9 then some (.iload_n 1, 10, 1, 0, 0, 0, 0) else none
  else bif Nat.blt pc 13 then bif Nat.beq pc 10 then some (.putfield 54, 13, 8, 5, 0, 0, 0) else none
  else bif Nat.beq pc 13 then some (.aload_n 0, 14, 0, 0, 0, 0, 0) else none
  else bif Nat.blt pc 15 then bif Nat.beq pc 14 then some (.iload_n 2, 15, 2, 0, 0, 0, 0) else none
  else bif Nat.blt pc 18 then bif Nat.beq pc 15 then some (.putfield 57, 18, 8, 6, 0, 0, 0) else none
  else bif Nat.beq pc 18 then some (.return_, 19, 0, 0, 0, 0, 0) else none
def rs_X8_report : PMR := (0, 0, hdl [], 3)
def mi_X8_report : PMI := wrapM 19 cd_X8_report rs_X8_report
def cd_X8_isDigit (pc : Nat) : Option PE :=
  bif Nat.blt pc 3 then bif Nat.blt pc 1 then bif Nat.beq pc 0 then some (.iload_n 0, 1, 0, 0, 0, 0, 0) else none
  else bif Nat.beq pc 1 then some (.bipush 48, 3, 0, 0, 0, 48, 0) else none
  else bif Nat.blt pc 5 then bif Nat.beq pc 3 then some (.bipush 57, 5, 0, 0, 0, 57, 0) else none
  else bif Nat.blt pc 8 then bif Nat.beq pc 5 then some (.invokestatic 60, 8, 111, 3, 99, 0, 0) else none
  else bif Nat.beq pc 8 then some (.ireturn, 9, 0, 0, 0, 0, 0) else none
def rs_X8_isDigit : PMR := (2, 0, hdl [], 1)
def mi_X8_isDigit : PMI := wrapM 9 cd_X8_isDigit rs_X8_isDigit
def cd_X8_takeWord (pc : Nat) : Option PE :=
  bif Nat.blt pc 45 then bif Nat.blt pc 18 then bif Nat.blt pc 10 then bif Nat.blt pc 7 then bif Nat.blt pc 1 then bif Nat.beq pc 0 then some (.aload_n 0, 1, 0, 0, 0, 0, 0) else none
  else bif Nat.blt pc 4 then bif Nat.beq pc 1 then some (.invokevirtual 64, 4, 120, 1, 8, 0, 0) else none
  else bif Nat.beq pc 4 then some (.ifCond .ne 5, 7, 9, 0, 0, 0, 0) else none
  else bif Nat.blt pc 8 then bif Nat.beq pc 7 then some (.iconst 0, 8, 0, 0, 0, 0, 0) else none
  else bif Nat.blt pc 9 then bif Nat.beq pc 8 then some (.ireturn, 9, 0, 0, 0, 0, 0) else none
  else bif Nat.beq pc 9 then some (.aload_n 0, 10, 0, 0, 0, 0, 0) else none
  else bif Nat.blt pc 15 then bif Nat.blt pc 13 then bif Nat.beq pc 10 then some (.invokevirtual 68, 13, 119, 1, 8, 0, 0) else none
  else bif Nat.blt pc 14 then bif Nat.beq pc 13 then some (.pop, 14, 0, 0, 0, 0, 0) else none
  else bif Nat.beq pc 14 then some (.iconst 0, 15, 0, 0, 0, 0, 0) else none
  else bif Nat.blt pc 16 then bif Nat.beq pc 15 then some (.istore_n 2, 16, 2, 0, 0, 0, 0) else none
  else bif Nat.blt pc 17 then bif Nat.beq pc 16 then some (.iload_n 2, 17, 2, 0, 0, 0, 0) else none
  else bif Nat.beq pc 17 then some (.aload_n 1, 18, 1, 0, 0, 0, 0) else none
  else bif Nat.blt pc 30 then bif Nat.blt pc 25 then bif Nat.blt pc 21 then bif Nat.beq pc 18 then some (.invokevirtual 72, 21, 0, 0, 110, 0, 0) else none
  else bif Nat.blt pc 24 then bif Nat.beq pc 21 then some (.if_icmp .ge 27, 24, 48, 0, 0, 0, 0) else none
  else bif Nat.beq pc 24 then some (.aload_n 0, 25, 0, 0, 0, 0, 0) else none
  else bif Nat.blt pc 26 then bif Nat.beq pc 25 then some (.aload_n 0, 26, 0, 0, 0, 0, 0) else none
  else bif Nat.blt pc 29 then bif Nat.beq pc 26 then some (.getfield 47, 29, 8, 4, 0, 0, 0) else none
  else bif Nat.beq pc 29 then some (.iload_n 2, 30, 2, 0, 0, 0, 0) else none
  else bif Nat.blt pc 35 then bif Nat.blt pc 31 then bif Nat.beq pc 30 then some (.iadd, 31, 0, 0, 0, 0, 0) else none
  else bif Nat.blt pc 34 then bif Nat.beq pc 31 then some (.invokevirtual 50, 34, 118, 2, 8, 0, 0) else none
  else bif Nat.beq pc 34 then some (.aload_n 1, 35, 1, 0, 0, 0, 0) else none
  else bif Nat.blt pc 39 then bif Nat.blt pc 36 then bif Nat.beq pc 35 then some (.iload_n 2, 36, 2, 0, 0, 0, 0) else none
  else bif Nat.beq pc 36 then some (.invokevirtual 77, 39, 0, 0, 111, 0, 0) else none
  else bif Nat.blt pc 42 then bif Nat.beq pc 39 then some (.if_icmp .ne 9, 42, 48, 0, 0, 0, 0) else none
  else bif Nat.beq pc 42 then some (.iinc 2 1, 45, 2, 0, 0, 1, 0) else none
  else bif Nat.blt pc 68 then bif Nat.blt pc 57 then bif Nat.blt pc 50 then bif Nat.blt pc 48 then bif Nat.beq pc 45 then some (.goto (-29), 48, 16, 0, 0, 0, 0) else none
  else bif Nat.blt pc 49 then bif Nat.beq pc 48 then some (.iload_n 2, 49, 2, 0, 0, 0, 0) else none
  else bif Nat.beq pc 49 then some (.aload_n 1, 50, 1, 0, 0, 0, 0) else none
  else bif Nat.blt pc 53 then bif Nat.beq pc 50 then some (.invokevirtual 72, 53, 0, 0, 110, 0, 0) else none
  else bif Nat.blt pc 56 then bif Nat.beq pc 53 then some (.if_icmp .lt 23, 56, 76, 0, 0, 0, 0) else none
  else bif Nat.beq pc 56 then some (.aload_n 0, 57, 0, 0, 0, 0, 0) else none
  else bif Nat.blt pc 62 then bif Nat.blt pc 58 then bif Nat.beq pc 57 then some (.aload_n 0, 58, 0, 0, 0, 0, 0) else none
  else bif Nat.blt pc 61 then bif Nat.beq pc 58 then some (.getfield 47, 61, 8, 4, 0, 0, 0) else none
  else bif Nat.beq pc 61 then some (.iload_n 2, 62, 2, 0, 0, 0, 0) else none
  else bif Nat.blt pc 63 then bif Nat.beq pc 62 then some (.iadd, 63, 0, 0, 0, 0, 0) else none
  else bif Nat.blt pc 66 then bif Nat.beq pc 63 then some (.invokevirtual 50, 66, 118, 2, 8, 0, 0) else none
  else bif Nat.beq pc 66 then some (.bipush 97, 68, 0, 0, 0, 97, 0) else none
  else bif Nat.blt pc 79 then bif Nat.blt pc 76 then bif Nat.blt pc 70 then bif Nat.beq pc 68 then some (.bipush 122, 70, 0, 0, 0, 122, 0) else none
  else bif Nat.blt pc 73 then bif Nat.beq pc 70 then some (.invokestatic 60, 73, 111, 3, 99, 0, 0) else none
  else bif Nat.beq pc 73 then some (.ifCond .eq 5, 76, 78, 0, 0, 0, 0) else none
  else bif Nat.blt pc 77 then bif Nat.beq pc 76 then some (.iconst 0, 77, 0, 0, 0, 0, 0) else none
  else bif Nat.blt pc 78 then bif Nat.beq pc 77 then some (.ireturn, 78, 0, 0, 0, 0, 0) else none
  else bif Nat.beq pc 78 then some (.aload_n 0, 79, 0, 0, 0, 0, 0) else none
  else bif Nat.blt pc 84 then bif Nat.blt pc 80 then bif Nat.beq pc 79 then some (.dup, 80, 0, 0, 0, 0, 0) else none
  else bif Nat.blt pc 83 then bif Nat.beq pc 80 then some (.getfield 47, 83, 8, 4, 0, 0, 0) else none
  else bif Nat.beq pc 83 then some (.iload_n 2, 84, 2, 0, 0, 0, 0) else none
  else bif Nat.blt pc 88 then bif Nat.blt pc 85 then bif Nat.beq pc 84 then some (.iadd, 85, 0, 0, 0, 0, 0) else none
  else bif Nat.beq pc 85 then some (.putfield 47, 88, 8, 4, 0, 0, 0) else none
  else bif Nat.blt pc 89 then bif Nat.beq pc 88 then some (.iconst 1, 89, 0, 0, 0, 1, 0) else none
  else bif Nat.beq pc 89 then some (.ireturn, 90, 0, 0, 0, 0, 0) else none
def rs_X8_takeWord : PMR := (2, 0, hdl [], 3)
def mi_X8_takeWord : PMI := wrapM 90 cd_X8_takeWord rs_X8_takeWord
def cd_X8_expect (pc : Nat) : Option PE :=
  bif Nat.blt pc 18 then bif Nat.blt pc 9 then bif Nat.blt pc 4 then bif Nat.blt pc 1 then bif Nat.beq pc 0 then some (.aload_n 0, 1, 0, 0, 0, 0, 0) else none
  else bif Nat.beq pc 1 then some (.invokevirtual 64, 4, 120, 1, 8, 0, 0) else none
  else bif Nat.blt pc 7 then bif Nat.beq pc 4 then some (.ifCond .ne 4, 7, 8, 0, 0, 0, 0) else none
  else bif Nat.blt pc 8 then bif Nat.beq pc 7 then some (.return_, 8, 0, 0, 0, 0, 0) else none
  else bif Nat.beq pc 8 then some (.aload_n 0, 9, 0, 0, 0, 0, 0) else none
  else bif Nat.blt pc 13 then bif Nat.blt pc 12 then bif Nat.beq pc 9 then some (.invokevirtual 68, 12, 119, 1, 8, 0, 0) else none
  else bif Nat.beq pc 12 then some (.iload_n 1, 13, 1, 0, 0, 0, 0) else none
  else bif Nat.blt pc 16 then bif Nat.beq pc 13 then some (.if_icmp .ne 16, 16, 29, 0, 0, 0, 0) else none
  else bif Nat.blt pc 17 then bif Nat.beq pc 16 then some (.aload_n 0, 17, 0, 0, 0, 0, 0) else none
  else bif Nat.beq pc 17 then some (.dup, 18, 0, 0, 0, 0, 0) else none
  else bif Nat.blt pc 29 then bif Nat.blt pc 22 then bif Nat.blt pc 21 then bif Nat.beq pc 18 then some (.getfield 47, 21, 8, 4, 0, 0, 0) else none
  else bif Nat.beq pc 21 then some (.iconst 1, 22, 0, 0, 0, 1, 0) else none
  else bif Nat.blt pc 23 then bif Nat.beq pc 22 then some (.iadd, 23, 0, 0, 0, 0, 0) else none
  else bif Nat.blt pc 26 then bif Nat.beq pc 23 then some (.putfield 47, 26, 8, 4, 0, 0, 0) else none
  else bif Nat.beq pc 26 then some (.goto 13, 29, 39, 0, 0, 0, 0) else none
  else bif Nat.blt pc 33 then bif Nat.blt pc 30 then bif Nat.beq pc 29 then some (.aload_n 0, 30, 0, 0, 0, 0, 0) else none
  else bif Nat.blt pc 32 then bif Nat.beq pc 30 then some (.bipush (-2), 32, 0, 0, 0, (-2), 0) else none
  else bif Nat.beq pc 32 then some (.aload_n 0, 33, 0, 0, 0, 0, 0) else none
  else bif Nat.blt pc 36 then bif Nat.beq pc 33 then some (.getfield 47, 36, 8, 4, 0, 0, 0) else none
  else bif Nat.blt pc 39 then bif Nat.beq pc 36 then some (.invokevirtual 81, 39, 121, 3, 8, 0, 0) else none
  else bif Nat.beq pc 39 then some (.return_, 40, 0, 0, 0, 0, 0) else none
def rs_X8_expect : PMR := (0, 0, hdl [], 2)
def mi_X8_expect : PMI := wrapM 40 cd_X8_expect rs_X8_expect
def cd_X8_number (pc : Nat) : Option PE :=
  bif Nat.blt pc 59 then bif Nat.blt pc 30 then bif Nat.blt pc 13 then bif Nat.blt pc 7 then bif Nat.blt pc 1 then bif Nat.beq pc 0 then some (.aload_n 0, 1, 0, 0, 0, 0, 0) else none
  else bif Nat.blt pc 4 then bif Nat.beq pc 1 then some (.invokevirtual 64, 4, 120, 1, 8, 0, 0) else none
  else bif Nat.beq pc 4 then some (.ifCond .ne 5, 7, 9, 0, 0, 0, 0) else none
  else bif Nat.blt pc 9 then bif Nat.blt pc 8 then bif Nat.beq pc 7 then some (.iconst 0, 8, 0, 0, 0, 0, 0) else none
  else bif Nat.beq pc 8 then some (.ireturn, 9, 0, 0, 0, 0, 0) else none
  else bif Nat.blt pc 10 then bif Nat.beq pc 9 then some (.aload_n 0, 10, 0, 0, 0, 0, 0) else none
  else bif Nat.beq pc 10 then some (.invokevirtual 68, 13, 119, 1, 8, 0, 0) else none
  else bif Nat.blt pc 22 then bif Nat.blt pc 19 then bif Nat.blt pc 16 then bif Nat.beq pc 13 then some (.invokestatic 85, 16, 122, 1, 99, 0, 0) else none
  else bif Nat.beq pc 16 then some (.ifCond .ne 15, 19, 31, 0, 0, 0, 0) else none
  else bif Nat.blt pc 20 then bif Nat.beq pc 19 then some (.aload_n 0, 20, 0, 0, 0, 0, 0) else none
  else bif Nat.beq pc 20 then some (.bipush (-2), 22, 0, 0, 0, (-2), 0) else none
  else bif Nat.blt pc 26 then bif Nat.blt pc 23 then bif Nat.beq pc 22 then some (.aload_n 0, 23, 0, 0, 0, 0, 0) else none
  else bif Nat.beq pc 23 then some (.getfield 47, 26, 8, 4, 0, 0, 0) else none
  else bif Nat.blt pc 29 then bif Nat.beq pc 26 then some (.invokevirtual 81, 29, 121, 3, 8, 0, 0) else none
  else bif Nat.beq pc 29 then some (.iconst 0, 30, 0, 0, 0, 0, 0) else none
  else bif Nat.blt pc 41 then bif Nat.blt pc 33 then bif Nat.blt pc 31 then bif Nat.beq pc 30 then some (.ireturn, 31, 0, 0, 0, 0, 0) else none
  else bif Nat.blt pc 32 then bif Nat.beq pc 31 then some (.aload_n 0, 32, 0, 0, 0, 0, 0) else none
  else bif Nat.beq pc 32 then some (.aload_n 0, 33, 0, 0, 0, 0, 0) else none
  else bif Nat.blt pc 39 then bif Nat.blt pc 36 then bif Nat.beq pc 33 then some (.getfield 47, 36, 8, 4, 0, 0, 0) else none
  else bif Nat.beq pc 36 then some (.putfield 89, 39, 8, 13, 0, 0, 0) else none
  else bif Nat.blt pc 40 then bif Nat.beq pc 39 then some (.iconst 0, 40, 0, 0, 0, 0, 0) else none
  else bif Nat.beq pc 40 then some (.istore_n 3, 41, 3, 0, 0, 0, 0) else none
  else bif Nat.blt pc 49 then bif Nat.blt pc 43 then bif Nat.blt pc 42 then bif Nat.beq pc 41 then some (.aload_n 0, 42, 0, 0, 0, 0, 0) else none
  else bif Nat.beq pc 42 then some (.aload_n 0, 43, 0, 0, 0, 0, 0) else none
  else bif Nat.blt pc 46 then bif Nat.beq pc 43 then some (.getfield 47, 46, 8, 4, 0, 0, 0) else none
  else bif Nat.beq pc 46 then some (.invokevirtual 50, 49, 118, 2, 8, 0, 0) else none
  else bif Nat.blt pc 55 then bif Nat.blt pc 52 then bif Nat.beq pc 49 then some (.invokestatic 85, 52, 122, 1, 99, 0, 0) else none
  else bif Nat.beq pc 52 then some (.ifCond .eq 38, 55, 90, 0, 0, 0, 0) else none
  else bif Nat.blt pc 57 then bif Nat.beq pc 55 then some (.ldc 92, 57, 0, 0, 0, 1000000, 0) else none
  else bif Nat.beq pc 57 then some (.bipush 10, 59, 0, 0, 0, 10, 0) else none
  else bif Nat.blt pc 83 then bif Nat.blt pc 70 then bif Nat.blt pc 62 then bif Nat.blt pc 60 then bif Nat.beq pc 59 then some (.iload_n 3, 60, 3, 0, 0, 0, 0) else none
  else bif Nat.blt pc 61 then bif Nat.beq pc 60 then some (.imul, 61, 0, 0, 0, 0, 0) else none
  else bif Nat.beq pc 61 then some (.aload_n 0, 62, 0, 0, 0, 0, 0) else none
  else bif Nat.blt pc 66 then bif Nat.blt pc 63 then bif Nat.beq pc 62 then some (.aload_n 0, 63, 0, 0, 0, 0, 0) else none
  else bif Nat.beq pc 63 then some (.getfield 47, 66, 8, 4, 0, 0, 0) else none
  else bif Nat.blt pc 69 then bif Nat.beq pc 66 then some (.invokevirtual 50, 69, 118, 2, 8, 0, 0) else none
  else bif Nat.beq pc 69 then some (.iadd, 70, 0, 0, 0, 0, 0) else none
  else bif Nat.blt pc 77 then bif Nat.blt pc 73 then bif Nat.blt pc 72 then bif Nat.beq pc 70 then some (.bipush 48, 72, 0, 0, 0, 48, 0) else none
  else bif Nat.beq pc 72 then some (.isub, 73, 0, 0, 0, 0, 0) else none
  else bif Nat.blt pc 76 then bif Nat.beq pc 73 then some (.invokestatic 93, 76, 112, 2, 99, 0, 0) else none
  else bif Nat.beq pc 76 then some (.istore_n 3, 77, 3, 0, 0, 0, 0) else none
  else bif Nat.blt pc 79 then bif Nat.blt pc 78 then bif Nat.beq pc 77 then some (.aload_n 0, 78, 0, 0, 0, 0, 0) else none
  else bif Nat.beq pc 78 then some (.dup, 79, 0, 0, 0, 0, 0) else none
  else bif Nat.blt pc 82 then bif Nat.beq pc 79 then some (.getfield 47, 82, 8, 4, 0, 0, 0) else none
  else bif Nat.beq pc 82 then some (.iconst 1, 83, 0, 0, 0, 1, 0) else none
  else bif Nat.blt pc 96 then bif Nat.blt pc 90 then bif Nat.blt pc 84 then bif Nat.beq pc 83 then some (.iadd, 84, 0, 0, 0, 0, 0) else none
  else bif Nat.blt pc 87 then bif Nat.beq pc 84 then some (.putfield 47, 87, 8, 4, 0, 0, 0) else none
  else bif Nat.beq pc 87 then some (.goto (-46), 90, 41, 0, 0, 0, 0) else none
  else bif Nat.blt pc 92 then bif Nat.blt pc 91 then bif Nat.beq pc 90 then some (.iload_n 3, 91, 3, 0, 0, 0, 0) else none
  else bif Nat.beq pc 91 then some (.iload_n 1, 92, 1, 0, 0, 0, 0) else none
  else bif Nat.blt pc 93 then bif Nat.beq pc 92 then some (.iload_n 2, 93, 2, 0, 0, 0, 0) else none
  else bif Nat.beq pc 93 then some (.invokestatic 60, 96, 111, 3, 99, 0, 0) else none
  else bif Nat.blt pc 103 then bif Nat.blt pc 100 then bif Nat.blt pc 99 then bif Nat.beq pc 96 then some (.ifCond .ne 13, 99, 109, 0, 0, 0, 0) else none
  else bif Nat.beq pc 99 then some (.aload_n 0, 100, 0, 0, 0, 0, 0) else none
  else bif Nat.blt pc 102 then bif Nat.beq pc 100 then some (.bipush (-3), 102, 0, 0, 0, (-3), 0) else none
  else bif Nat.beq pc 102 then some (.aload_n 0, 103, 0, 0, 0, 0, 0) else none
  else bif Nat.blt pc 109 then bif Nat.blt pc 106 then bif Nat.beq pc 103 then some (.getfield 89, 106, 8, 13, 0, 0, 0) else none
  else bif Nat.beq pc 106 then some (.invokevirtual 81, 109, 121, 3, 8, 0, 0) else none
  else bif Nat.blt pc 110 then bif Nat.beq pc 109 then some (.iload_n 3, 110, 3, 0, 0, 0, 0) else none
  else bif Nat.beq pc 110 then some (.ireturn, 111, 0, 0, 0, 0, 0) else none
def rs_X8_number : PMR := (1, 0, hdl [], 4)
def mi_X8_number : PMI := wrapM 111 cd_X8_number rs_X8_number
def cd_X8_emit (pc : Nat) : Option PE :=
  bif Nat.blt pc 22 then bif Nat.blt pc 9 then bif Nat.blt pc 4 then bif Nat.blt pc 1 then bif Nat.beq pc 0 then some (.aload_n 0, 1, 0, 0, 0, 0, 0) else none
  else bif Nat.beq pc 1 then some (.invokevirtual 64, 4, 120, 1, 8, 0, 0) else none
  else bif Nat.blt pc 7 then bif Nat.beq pc 4 then some (.ifCond .ne 4, 7, 8, 0, 0, 0, 0) else none
  else bif Nat.blt pc 8 then bif Nat.beq pc 7 then some (.return_, 8, 0, 0, 0, 0, 0) else none
  else bif Nat.beq pc 8 then some (.aload_n 0, 9, 0, 0, 0, 0, 0) else none
  else bif Nat.blt pc 16 then bif Nat.blt pc 12 then bif Nat.beq pc 9 then some (.getfield 20, 12, 8, 9, 2, 0, 0) else none
  else bif Nat.blt pc 15 then bif Nat.beq pc 12 then some (.sipush 256, 15, 0, 0, 0, 256, 0) else none
  else bif Nat.beq pc 15 then some (.aload_n 0, 16, 0, 0, 0, 0, 0) else none
  else bif Nat.blt pc 19 then bif Nat.beq pc 16 then some (.getfield 20, 19, 8, 9, 2, 0, 0) else none
  else bif Nat.blt pc 21 then bif Nat.beq pc 19 then some (.bipush 6, 21, 0, 0, 0, 6, 0) else none
  else bif Nat.beq pc 21 then some (.iaload, 22, 0, 0, 0, 0, 0) else none
  else bif Nat.blt pc 31 then bif Nat.blt pc 25 then bif Nat.blt pc 23 then bif Nat.beq pc 22 then some (.iadd, 23, 0, 0, 0, 0, 0) else none
  else bif Nat.blt pc 24 then bif Nat.beq pc 23 then some (.iload_n 1, 24, 1, 0, 0, 0, 0) else none
  else bif Nat.beq pc 24 then some (.iastore, 25, 0, 0, 0, 0, 0) else none
  else bif Nat.blt pc 26 then bif Nat.beq pc 25 then some (.aload_n 0, 26, 0, 0, 0, 0, 0) else none
  else bif Nat.blt pc 29 then bif Nat.beq pc 26 then some (.getfield 20, 29, 8, 9, 2, 0, 0) else none
  else bif Nat.beq pc 29 then some (.bipush 6, 31, 0, 0, 0, 6, 0) else none
  else bif Nat.blt pc 34 then bif Nat.blt pc 32 then bif Nat.beq pc 31 then some (.dup2, 32, 0, 0, 0, 0, 0) else none
  else bif Nat.blt pc 33 then bif Nat.beq pc 32 then some (.iaload, 33, 0, 0, 0, 0, 0) else none
  else bif Nat.beq pc 33 then some (.iconst 1, 34, 0, 0, 0, 1, 0) else none
  else bif Nat.blt pc 35 then bif Nat.beq pc 34 then some (.iadd, 35, 0, 0, 0, 0, 0) else none
  else bif Nat.blt pc 36 then bif Nat.beq pc 35 then some (.iastore, 36, 0, 0, 0, 0, 0) else none
  else bif Nat.beq pc 36 then some (.return_, 37, 0, 0, 0, 0, 0) else none
def rs_X8_emit : PMR := (0, 0, hdl [], 2)
def mi_X8_emit : PMI := wrapM 37 cd_X8_emit rs_X8_emit
def cd_X8_factor (pc : Nat) : Option PE :=
  bif Nat.blt pc 74 then bif Nat.blt pc 38 then bif Nat.blt pc 19 then bif Nat.blt pc 9 then bif Nat.blt pc 4 then bif Nat.blt pc 1 then bif Nat.beq pc 0 then some (.aload_n 0, 1, 0, 0, 0, 0, 0) else none
  else bif Nat.beq pc 1 then some (.invokevirtual 64, 4, 120, 1, 8, 0, 0) else none
  else bif Nat.blt pc 7 then bif Nat.beq pc 4 then some (.ifCond .ne 4, 7, 8, 0, 0, 0, 0) else none
  else bif Nat.blt pc 8 then bif Nat.beq pc 7 then some (.return_, 8, 0, 0, 0, 0, 0) else none
  else bif Nat.beq pc 8 then some (.aload_n 0, 9, 0, 0, 0, 0, 0) else none
  else bif Nat.blt pc 13 then bif Nat.blt pc 12 then bif Nat.beq pc 9 then some (.invokevirtual 68, 12, 119, 1, 8, 0, 0) else none
  else bif Nat.beq pc 12 then some (.istore_n 1, 13, 1, 0, 0, 0, 0) else none
  else bif Nat.blt pc 14 then bif Nat.beq pc 13 then some (.iload_n 1, 14, 1, 0, 0, 0, 0) else none
  else bif Nat.blt pc 16 then bif Nat.beq pc 14 then some (.bipush 40, 16, 0, 0, 0, 40, 0) else none
  else bif Nat.beq pc 16 then some (.if_icmp .ne 62, 19, 78, 0, 0, 0, 0) else none
  else bif Nat.blt pc 28 then bif Nat.blt pc 23 then bif Nat.blt pc 20 then bif Nat.beq pc 19 then some (.aload_n 0, 20, 0, 0, 0, 0, 0) else none
  else bif Nat.beq pc 20 then some (.getfield 97, 23, 8, 14, 0, 0, 0) else none
  else bif Nat.blt pc 24 then bif Nat.beq pc 23 then some (.iconst 4, 24, 0, 0, 0, 4, 0) else none
  else bif Nat.blt pc 27 then bif Nat.beq pc 24 then some (.if_icmp .ne 13, 27, 37, 0, 0, 0, 0) else none
  else bif Nat.beq pc 27 then some (.aload_n 0, 28, 0, 0, 0, 0, 0) else none
  else bif Nat.blt pc 31 then bif Nat.blt pc 30 then bif Nat.beq pc 28 then some (.bipush (-5), 30, 0, 0, 0, (-5), 0) else none
  else bif Nat.beq pc 30 then some (.aload_n 0, 31, 0, 0, 0, 0, 0) else none
  else bif Nat.blt pc 34 then bif Nat.beq pc 31 then some (.getfield 47, 34, 8, 4, 0, 0, 0) else none
  else bif Nat.blt pc 37 then bif Nat.beq pc 34 then some (.invokevirtual 81, 37, 121, 3, 8, 0, 0) else none
  else bif Nat.beq pc 37 then some (.aload_n 0, 38, 0, 0, 0, 0, 0) else none
  else bif Nat.blt pc 54 then bif Nat.blt pc 47 then bif Nat.blt pc 42 then bif Nat.blt pc 39 then bif Nat.beq pc 38 then some (.dup, 39, 0, 0, 0, 0, 0) else none
  else bif Nat.beq pc 39 then some (.getfield 47, 42, 8, 4, 0, 0, 0) else none
  else bif Nat.blt pc 43 then bif Nat.beq pc 42 then some (.iconst 1, 43, 0, 0, 0, 1, 0) else none
  else bif Nat.blt pc 44 then bif Nat.beq pc 43 then some (.iadd, 44, 0, 0, 0, 0, 0) else none
  else bif Nat.beq pc 44 then some (.putfield 47, 47, 8, 4, 0, 0, 0) else none
  else bif Nat.blt pc 49 then bif Nat.blt pc 48 then bif Nat.beq pc 47 then some (.aload_n 0, 48, 0, 0, 0, 0, 0) else none
  else bif Nat.beq pc 48 then some (.dup, 49, 0, 0, 0, 0, 0) else none
  else bif Nat.blt pc 52 then bif Nat.beq pc 49 then some (.getfield 97, 52, 8, 14, 0, 0, 0) else none
  else bif Nat.blt pc 53 then bif Nat.beq pc 52 then some (.iconst 1, 53, 0, 0, 0, 1, 0) else none
  else bif Nat.beq pc 53 then some (.iadd, 54, 0, 0, 0, 0, 0) else none
  else bif Nat.blt pc 64 then bif Nat.blt pc 58 then bif Nat.blt pc 57 then bif Nat.beq pc 54 then some (.putfield 97, 57, 8, 14, 0, 0, 0) else none
  else bif Nat.beq pc 57 then some (.aload_n 0, 58, 0, 0, 0, 0, 0) else none
  else bif Nat.blt pc 61 then bif Nat.beq pc 58 then some (.invokevirtual 100, 61, 129, 1, 8, 0, 0) else none
  else bif Nat.blt pc 62 then bif Nat.beq pc 61 then some (.aload_n 0, 62, 0, 0, 0, 0, 0) else none
  else bif Nat.beq pc 62 then some (.bipush 41, 64, 0, 0, 0, 41, 0) else none
  else bif Nat.blt pc 69 then bif Nat.blt pc 67 then bif Nat.beq pc 64 then some (.invokevirtual 103, 67, 124, 2, 8, 0, 0) else none
  else bif Nat.blt pc 68 then bif Nat.beq pc 67 then some (.aload_n 0, 68, 0, 0, 0, 0, 0) else none
  else bif Nat.beq pc 68 then some (.dup, 69, 0, 0, 0, 0, 0) else none
  else bif Nat.blt pc 72 then bif Nat.beq pc 69 then some (.getfield 97, 72, 8, 14, 0, 0, 0) else none
  else bif Nat.blt pc 73 then bif Nat.beq pc 72 then some (.iconst 1, 73, 0, 0, 0, 1, 0) else none
  else bif Nat.beq pc 73 then some (.isub, 74, 0, 0, 0, 0, 0) else none
  else bif Nat.blt pc 116 then bif Nat.blt pc 95 then bif Nat.blt pc 85 then bif Nat.blt pc 78 then bif Nat.blt pc 77 then bif Nat.beq pc 74 then some (.putfield 97, 77, 8, 14, 0, 0, 0) else none
  else bif Nat.beq pc 77 then some (.return_, 78, 0, 0, 0, 0, 0) else none
  else bif Nat.blt pc 79 then bif Nat.beq pc 78 then some (.iload_n 1, 79, 1, 0, 0, 0, 0) else none
  else bif Nat.blt pc 82 then bif Nat.beq pc 79 then some (.invokestatic 85, 82, 122, 1, 99, 0, 0) else none
  else bif Nat.beq pc 82 then some (.ifCond .eq 7, 85, 89, 0, 0, 0, 0) else none
  else bif Nat.blt pc 89 then bif Nat.blt pc 86 then bif Nat.beq pc 85 then some (.iconst (-1), 86, 0, 0, 0, (-1), 0) else none
  else bif Nat.beq pc 86 then some (.goto 30, 89, 116, 0, 0, 0, 0) else none
  else bif Nat.blt pc 90 then bif Nat.beq pc 89 then some (.aload_n 0, 90, 0, 0, 0, 0, 0) else none
  else bif Nat.blt pc 92 then bif Nat.beq pc 90 then some (.ldc 107, 92, 5, 0, 1, 0, 0) else none
  else bif Nat.beq pc 92 then some (.invokevirtual 109, 95, 123, 2, 8, 0, 0) else none
  else bif Nat.blt pc 105 then bif Nat.blt pc 99 then bif Nat.blt pc 98 then bif Nat.beq pc 95 then some (.ifCond .eq 7, 98, 102, 0, 0, 0, 0) else none
  else bif Nat.beq pc 98 then some (.iconst 0, 99, 0, 0, 0, 0, 0) else none
  else bif Nat.blt pc 102 then bif Nat.beq pc 99 then some (.goto 17, 102, 116, 0, 0, 0, 0) else none
  else bif Nat.blt pc 103 then bif Nat.beq pc 102 then some (.aload_n 0, 103, 0, 0, 0, 0, 0) else none
  else bif Nat.beq pc 103 then some (.ldc 113, 105, 6, 0, 1, 0, 0) else none
  else bif Nat.blt pc 111 then bif Nat.blt pc 108 then bif Nat.beq pc 105 then some (.invokevirtual 109, 108, 123, 2, 8, 0, 0) else none
  else bif Nat.beq pc 108 then some (.ifCond .eq 7, 111, 115, 0, 0, 0, 0) else none
  else bif Nat.blt pc 112 then bif Nat.beq pc 111 then some (.iconst 1, 112, 0, 0, 0, 1, 0) else none
  else bif Nat.blt pc 115 then bif Nat.beq pc 112 then some (.goto 4, 115, 116, 0, 0, 0, 0) else none
  else bif Nat.beq pc 115 then some (.iconst (-1), 116, 0, 0, 0, (-1), 0) else none
  else bif Nat.blt pc 134 then bif Nat.blt pc 123 then bif Nat.blt pc 118 then bif Nat.blt pc 117 then bif Nat.beq pc 116 then some (.istore_n 2, 117, 2, 0, 0, 0, 0) else none
  else bif Nat.beq pc 117 then some (.iload_n 2, 118, 2, 0, 0, 0, 0) else none
  else bif Nat.blt pc 121 then bif Nat.beq pc 118 then some (.ifCond .ge 14, 121, 132, 0, 0, 0, 0) else none
  else bif Nat.blt pc 122 then bif Nat.beq pc 121 then some (.aload_n 0, 122, 0, 0, 0, 0, 0) else none
  else bif Nat.beq pc 122 then some (.iconst 0, 123, 0, 0, 0, 0, 0) else none
  else bif Nat.blt pc 129 then bif Nat.blt pc 126 then bif Nat.beq pc 123 then some (.sipush 9999, 126, 0, 0, 0, 9999, 0) else none
  else bif Nat.beq pc 126 then some (.invokevirtual 115, 129, 125, 3, 8, 0, 0) else none
  else bif Nat.blt pc 132 then bif Nat.beq pc 129 then some (.goto 4, 132, 133, 0, 0, 0, 0) else none
  else bif Nat.blt pc 133 then bif Nat.beq pc 132 then some (.iload_n 2, 133, 2, 0, 0, 0, 0) else none
  else bif Nat.beq pc 133 then some (.istore_n 3, 134, 3, 0, 0, 0, 0) else none
  else bif Nat.blt pc 143 then bif Nat.blt pc 136 then bif Nat.blt pc 135 then bif Nat.beq pc 134 then some (.aload_n 0, 135, 0, 0, 0, 0, 0) else none
  else bif Nat.beq pc 135 then some (.iload_n 2, 136, 2, 0, 0, 0, 0) else none
  else bif Nat.blt pc 139 then bif Nat.beq pc 136 then some (.ifCond .ge 7, 139, 143, 0, 0, 0, 0) else none
  else bif Nat.blt pc 140 then bif Nat.beq pc 139 then some (.iconst 0, 140, 0, 0, 0, 0, 0) else none
  else bif Nat.beq pc 140 then some (.goto 4, 143, 144, 0, 0, 0, 0) else none
  else bif Nat.blt pc 148 then bif Nat.blt pc 144 then bif Nat.beq pc 143 then some (.iconst 1, 144, 0, 0, 0, 1, 0) else none
  else bif Nat.blt pc 147 then bif Nat.beq pc 144 then some (.invokevirtual 118, 147, 126, 2, 8, 0, 0) else none
  else bif Nat.beq pc 147 then some (.aload_n 0, 148, 0, 0, 0, 0, 0) else none
  else bif Nat.blt pc 149 then bif Nat.beq pc 148 then some (.iload_n 3, 149, 3, 0, 0, 0, 0) else none
  else bif Nat.blt pc 152 then bif Nat.beq pc 149 then some (.invokevirtual 118, 152, 126, 2, 8, 0, 0) else none
  else bif Nat.beq pc 152 then some (.return_, 153, 0, 0, 0, 0, 0) else none
def rs_X8_factor : PMR := (0, 0, hdl [], 4)
def mi_X8_factor : PMI := wrapM 153 cd_X8_factor rs_X8_factor
def cd_X8_term (pc : Nat) : Option PE :=
  bif Nat.blt pc 42 then bif Nat.blt pc 20 then bif Nat.blt pc 8 then bif Nat.blt pc 4 then bif Nat.blt pc 1 then bif Nat.beq pc 0 then some (.aload_n 0, 1, 0, 0, 0, 0, 0) else none
  else bif Nat.beq pc 1 then some (.invokevirtual 121, 4, 127, 1, 8, 0, 0) else none
  else bif Nat.blt pc 5 then bif Nat.beq pc 4 then some (.aload_n 0, 5, 0, 0, 0, 0, 0) else none
  else bif Nat.beq pc 5 then some (.invokevirtual 64, 8, 120, 1, 8, 0, 0) else none
  else bif Nat.blt pc 12 then bif Nat.blt pc 11 then bif Nat.beq pc 8 then some (.ifCond .eq 66, 11, 74, 0, 0, 0, 0) else none
  else bif Nat.beq pc 11 then some (.aload_n 0, 12, 0, 0, 0, 0, 0) else none
  else bif Nat.blt pc 15 then bif Nat.beq pc 12 then some (.invokevirtual 68, 15, 119, 1, 8, 0, 0) else none
  else bif Nat.blt pc 17 then bif Nat.beq pc 15 then some (.bipush 42, 17, 0, 0, 0, 42, 0) else none
  else bif Nat.beq pc 17 then some (.if_icmp .eq 12, 20, 29, 0, 0, 0, 0) else none
  else bif Nat.blt pc 30 then bif Nat.blt pc 24 then bif Nat.blt pc 21 then bif Nat.beq pc 20 then some (.aload_n 0, 21, 0, 0, 0, 0, 0) else none
  else bif Nat.beq pc 21 then some (.invokevirtual 68, 24, 119, 1, 8, 0, 0) else none
  else bif Nat.blt pc 26 then bif Nat.beq pc 24 then some (.bipush 47, 26, 0, 0, 0, 47, 0) else none
  else bif Nat.blt pc 29 then bif Nat.beq pc 26 then some (.if_icmp .ne 48, 29, 74, 0, 0, 0, 0) else none
  else bif Nat.beq pc 29 then some (.aload_n 0, 30, 0, 0, 0, 0, 0) else none
  else bif Nat.blt pc 35 then bif Nat.blt pc 33 then bif Nat.beq pc 30 then some (.invokevirtual 68, 33, 119, 1, 8, 0, 0) else none
  else bif Nat.beq pc 33 then some (.bipush 42, 35, 0, 0, 0, 42, 0) else none
  else bif Nat.blt pc 38 then bif Nat.beq pc 35 then some (.if_icmp .ne 7, 38, 42, 0, 0, 0, 0) else none
  else bif Nat.blt pc 39 then bif Nat.beq pc 38 then some (.iconst 1, 39, 0, 0, 0, 1, 0) else none
  else bif Nat.beq pc 39 then some (.goto 4, 42, 43, 0, 0, 0, 0) else none
  else bif Nat.blt pc 55 then bif Nat.blt pc 46 then bif Nat.blt pc 44 then bif Nat.blt pc 43 then bif Nat.beq pc 42 then some (.iconst 0, 43, 0, 0, 0, 0, 0) else none
  else bif Nat.beq pc 43 then some (.istore_n 1, 44, 1, 0, 0, 0, 0) else none
  else bif Nat.blt pc 45 then bif Nat.beq pc 44 then some (.aload_n 0, 45, 0, 0, 0, 0, 0) else none
  else bif Nat.beq pc 45 then some (.dup, 46, 0, 0, 0, 0, 0) else none
  else bif Nat.blt pc 50 then bif Nat.blt pc 49 then bif Nat.beq pc 46 then some (.getfield 47, 49, 8, 4, 0, 0, 0) else none
  else bif Nat.beq pc 49 then some (.iconst 1, 50, 0, 0, 0, 1, 0) else none
  else bif Nat.blt pc 51 then bif Nat.beq pc 50 then some (.iadd, 51, 0, 0, 0, 0, 0) else none
  else bif Nat.blt pc 54 then bif Nat.beq pc 51 then some (.putfield 47, 54, 8, 4, 0, 0, 0) else none
  else bif Nat.beq pc 54 then some (.aload_n 0, 55, 0, 0, 0, 0, 0) else none
  else bif Nat.blt pc 64 then bif Nat.blt pc 59 then bif Nat.blt pc 58 then bif Nat.beq pc 55 then some (.invokevirtual 121, 58, 127, 1, 8, 0, 0) else none
  else bif Nat.beq pc 58 then some (.aload_n 0, 59, 0, 0, 0, 0, 0) else none
  else bif Nat.blt pc 60 then bif Nat.beq pc 59 then some (.iload_n 1, 60, 1, 0, 0, 0, 0) else none
  else bif Nat.blt pc 63 then bif Nat.beq pc 60 then some (.ifCond .eq 7, 63, 67, 0, 0, 0, 0) else none
  else bif Nat.beq pc 63 then some (.iconst 4, 64, 0, 0, 0, 4, 0) else none
  else bif Nat.blt pc 68 then bif Nat.blt pc 67 then bif Nat.beq pc 64 then some (.goto 4, 67, 68, 0, 0, 0, 0) else none
  else bif Nat.beq pc 67 then some (.iconst 5, 68, 0, 0, 0, 5, 0) else none
  else bif Nat.blt pc 71 then bif Nat.beq pc 68 then some (.invokevirtual 118, 71, 126, 2, 8, 0, 0) else none
  else bif Nat.blt pc 74 then bif Nat.beq pc 71 then some (.goto (-67), 74, 4, 0, 0, 0, 0) else none
  else bif Nat.beq pc 74 then some (.return_, 75, 0, 0, 0, 0, 0) else none
def rs_X8_term : PMR := (0, 0, hdl [], 2)
def mi_X8_term : PMI := wrapM 75 cd_X8_term rs_X8_term
def cd_X8_sum (pc : Nat) : Option PE :=
  bif Nat.blt pc 42 then bif Nat.blt pc 20 then bif Nat.blt pc 8 then bif Nat.blt pc 4 then bif Nat.blt pc 1 then bif Nat.beq pc 0 then some (.aload_n 0, 1, 0, 0, 0, 0, 0) else none
  else bif Nat.beq pc 1 then some (.invokevirtual 124, 4, 128, 1, 8, 0, 0) else none
  else bif Nat.blt pc 5 then bif Nat.beq pc 4 then some (.aload_n 0, 5, 0, 0, 0, 0, 0) else none
  else bif Nat.beq pc 5 then some (.invokevirtual 64, 8, 120, 1, 8, 0, 0) else none
  else bif Nat.blt pc 12 then bif Nat.blt pc 11 then bif Nat.beq pc 8 then some (.ifCond .eq 66, 11, 74, 0, 0, 0, 0) else none
  else bif Nat.beq pc 11 then some (.aload_n 0, 12, 0, 0, 0, 0, 0) else none
  else bif Nat.blt pc 15 then bif Nat.beq pc 12 then some (.invokevirtual 68, 15, 119, 1, 8, 0, 0) else none
  else bif Nat.blt pc 17 then bif Nat.beq pc 15 then some (.bipush 43, 17, 0, 0, 0, 43, 0) else none
  else bif Nat.beq pc 17 then some (.if_icmp .eq 12, 20, 29, 0, 0, 0, 0) else none
  else bif Nat.blt pc 30 then bif Nat.blt pc 24 then bif Nat.blt pc 21 then bif Nat.beq pc 20 then some (.aload_n 0, 21, 0, 0, 0, 0, 0) else none
  else bif Nat.beq pc 21 then some (.invokevirtual 68, 24, 119, 1, 8, 0, 0) else none
  else bif Nat.blt pc 26 then bif Nat.beq pc 24 then some (.bipush 45, 26, 0, 0, 0, 45, 0) else none
  else bif Nat.blt pc 29 then bif Nat.beq pc 26 then some (.if_icmp .ne 48, 29, 74, 0, 0, 0, 0) else none
  else bif Nat.beq pc 29 then some (.aload_n 0, 30, 0, 0, 0, 0, 0) else none
  else bif Nat.blt pc 35 then bif Nat.blt pc 33 then bif Nat.beq pc 30 then some (.invokevirtual 68, 33, 119, 1, 8, 0, 0) else none
  else bif Nat.beq pc 33 then some (.bipush 43, 35, 0, 0, 0, 43, 0) else none
  else bif Nat.blt pc 38 then bif Nat.beq pc 35 then some (.if_icmp .ne 7, 38, 42, 0, 0, 0, 0) else none
  else bif Nat.blt pc 39 then bif Nat.beq pc 38 then some (.iconst 1, 39, 0, 0, 0, 1, 0) else none
  else bif Nat.beq pc 39 then some (.goto 4, 42, 43, 0, 0, 0, 0) else none
  else bif Nat.blt pc 55 then bif Nat.blt pc 46 then bif Nat.blt pc 44 then bif Nat.blt pc 43 then bif Nat.beq pc 42 then some (.iconst 0, 43, 0, 0, 0, 0, 0) else none
  else bif Nat.beq pc 43 then some (.istore_n 1, 44, 1, 0, 0, 0, 0) else none
  else bif Nat.blt pc 45 then bif Nat.beq pc 44 then some (.aload_n 0, 45, 0, 0, 0, 0, 0) else none
  else bif Nat.beq pc 45 then some (.dup, 46, 0, 0, 0, 0, 0) else none
  else bif Nat.blt pc 50 then bif Nat.blt pc 49 then bif Nat.beq pc 46 then some (.getfield 47, 49, 8, 4, 0, 0, 0) else none
  else bif Nat.beq pc 49 then some (.iconst 1, 50, 0, 0, 0, 1, 0) else none
  else bif Nat.blt pc 51 then bif Nat.beq pc 50 then some (.iadd, 51, 0, 0, 0, 0, 0) else none
  else bif Nat.blt pc 54 then bif Nat.beq pc 51 then some (.putfield 47, 54, 8, 4, 0, 0, 0) else none
  else bif Nat.beq pc 54 then some (.aload_n 0, 55, 0, 0, 0, 0, 0) else none
  else bif Nat.blt pc 64 then bif Nat.blt pc 59 then bif Nat.blt pc 58 then bif Nat.beq pc 55 then some (.invokevirtual 124, 58, 128, 1, 8, 0, 0) else none
  else bif Nat.beq pc 58 then some (.aload_n 0, 59, 0, 0, 0, 0, 0) else none
  else bif Nat.blt pc 60 then bif Nat.beq pc 59 then some (.iload_n 1, 60, 1, 0, 0, 0, 0) else none
  else bif Nat.blt pc 63 then bif Nat.beq pc 60 then some (.ifCond .eq 7, 63, 67, 0, 0, 0, 0) else none
  else bif Nat.beq pc 63 then some (.iconst 2, 64, 0, 0, 0, 2, 0) else none
  else bif Nat.blt pc 68 then bif Nat.blt pc 67 then bif Nat.beq pc 64 then some (.goto 4, 67, 68, 0, 0, 0, 0) else none
  else bif Nat.beq pc 67 then some (.iconst 3, 68, 0, 0, 0, 3, 0) else none
  else bif Nat.blt pc 71 then bif Nat.beq pc 68 then some (.invokevirtual 118, 71, 126, 2, 8, 0, 0) else none
  else bif Nat.blt pc 74 then bif Nat.beq pc 71 then some (.goto (-67), 74, 4, 0, 0, 0, 0) else none
  else bif Nat.beq pc 74 then some (.return_, 75, 0, 0, 0, 0, 0) else none
def rs_X8_sum : PMR := (0, 0, hdl [], 2)
def mi_X8_sum : PMI := wrapM 75 cd_X8_sum rs_X8_sum
def cd_X8_once (pc : Nat) : Option PE :=
  bif Nat.blt pc 15 then bif Nat.blt pc 7 then bif Nat.blt pc 4 then bif Nat.blt pc 1 then bif Nat.beq pc 0 then some (.aload_n 0, 1, 0, 0, 0, 0, 0) else none
  else bif Nat.beq pc 1 then some (.getfield 127, 4, 8, 15, 0, 0, 0) else none
  else bif Nat.blt pc 5 then bif Nat.beq pc 4 then some (.iload_n 1, 5, 1, 0, 0, 0, 0) else none
  else bif Nat.blt pc 6 then bif Nat.beq pc 5 then some (.ishr, 6, 0, 0, 0, 0, 0) else none
  else bif Nat.beq pc 6 then some (.iconst 1, 7, 0, 0, 0, 1, 0) else none
  else bif Nat.blt pc 9 then bif Nat.blt pc 8 then bif Nat.beq pc 7 then some (.iand, 8, 0, 0, 0, 0, 0) else none
  else bif Nat.beq pc 8 then some (.iconst 1, 9, 0, 0, 0, 1, 0) else none
  else bif Nat.blt pc 12 then bif Nat.beq pc 9 then some (.if_icmp .ne 10, 12, 19, 0, 0, 0, 0) else none
  else bif Nat.blt pc 13 then bif Nat.beq pc 12 then some (.aload_n 0, 13, 0, 0, 0, 0, 0) else none
  else bif Nat.beq pc 13 then some (.bipush (-2), 15, 0, 0, 0, (-2), 0) else none
  else bif Nat.blt pc 24 then bif Nat.blt pc 19 then bif Nat.blt pc 16 then bif Nat.beq pc 15 then some (.iload_n 2, 16, 2, 0, 0, 0, 0) else none
  else bif Nat.beq pc 16 then some (.invokevirtual 81, 19, 121, 3, 8, 0, 0) else none
  else bif Nat.blt pc 20 then bif Nat.beq pc 19 then some (.aload_n 0, 20, 0, 0, 0, 0, 0) else none
  else bif Nat.blt pc 21 then bif Nat.beq pc 20 then some (.dup, 21, 0, 0, 0, 0, 0) else none
  else bif Nat.beq pc 21 then some (.getfield 127, 24, 8, 15, 0, 0, 0) else none
  else bif Nat.blt pc 27 then bif Nat.blt pc 25 then bif Nat.beq pc 24 then some (.iconst 1, 25, 0, 0, 0, 1, 0) else none
  else bif Nat.blt pc 26 then bif Nat.beq pc 25 then some (.iload_n 1, 26, 1, 0, 0, 0, 0) else none
  else bif Nat.beq pc 26 then some (.ishl, 27, 0, 0, 0, 0, 0) else none
  else bif Nat.blt pc 28 then bif Nat.beq pc 27 then some (.ior, 28, 0, 0, 0, 0, 0) else none
  else bif Nat.blt pc 31 then bif Nat.beq pc 28 then some (.putfield 127, 31, 8, 15, 0, 0, 0) else none
  else bif Nat.beq pc 31 then some (.return_, 32, 0, 0, 0, 0, 0) else none
def rs_X8_once : PMR := (0, 0, hdl [], 3)
def mi_X8_once : PMI := wrapM 32 cd_X8_once rs_X8_once
def cd_X8_readEdge (pc : Nat) : Option PE :=
  bif Nat.blt pc 88 then bif Nat.blt pc 40 then bif Nat.blt pc 21 then bif Nat.blt pc 11 then bif Nat.blt pc 5 then bif Nat.blt pc 1 then bif Nat.beq pc 0 then some (.aload_n 0, 1, 0, 0, 0, 0, 0) else none
  else bif Nat.blt pc 4 then bif Nat.beq pc 1 then some (.getfield 20, 4, 8, 9, 2, 0, 0) else none
  else bif Nat.beq pc 4 then some (.iconst 2, 5, 0, 0, 0, 2, 0) else none
  else bif Nat.blt pc 6 then bif Nat.beq pc 5 then some (.iaload, 6, 0, 0, 0, 0, 0) else none
  else bif Nat.blt pc 8 then bif Nat.beq pc 6 then some (.bipush 14, 8, 0, 0, 0, 14, 0) else none
  else bif Nat.beq pc 8 then some (.if_icmp .ne 10, 11, 18, 0, 0, 0, 0) else none
  else bif Nat.blt pc 15 then bif Nat.blt pc 12 then bif Nat.beq pc 11 then some (.aload_n 0, 12, 0, 0, 0, 0, 0) else none
  else bif Nat.blt pc 14 then bif Nat.beq pc 12 then some (.bipush (-4), 14, 0, 0, 0, (-4), 0) else none
  else bif Nat.beq pc 14 then some (.iload_n 1, 15, 1, 0, 0, 0, 0) else none
  else bif Nat.blt pc 19 then bif Nat.blt pc 18 then bif Nat.beq pc 15 then some (.invokevirtual 81, 18, 121, 3, 8, 0, 0) else none
  else bif Nat.beq pc 18 then some (.aload_n 0, 19, 0, 0, 0, 0, 0) else none
  else bif Nat.blt pc 20 then bif Nat.beq pc 19 then some (.iconst 0, 20, 0, 0, 0, 0, 0) else none
  else bif Nat.beq pc 20 then some (.aload_n 0, 21, 0, 0, 0, 0, 0) else none
  else bif Nat.blt pc 31 then bif Nat.blt pc 26 then bif Nat.blt pc 24 then bif Nat.beq pc 21 then some (.getfield 20, 24, 8, 9, 2, 0, 0) else none
  else bif Nat.blt pc 25 then bif Nat.beq pc 24 then some (.iconst 0, 25, 0, 0, 0, 0, 0) else none
  else bif Nat.beq pc 25 then some (.iaload, 26, 0, 0, 0, 0, 0) else none
  else bif Nat.blt pc 27 then bif Nat.beq pc 26 then some (.iconst 1, 27, 0, 0, 0, 1, 0) else none
  else bif Nat.blt pc 28 then bif Nat.beq pc 27 then some (.isub, 28, 0, 0, 0, 0, 0) else none
  else bif Nat.beq pc 28 then some (.invokevirtual 115, 31, 125, 3, 8, 0, 0) else none
  else bif Nat.blt pc 34 then bif Nat.blt pc 32 then bif Nat.beq pc 31 then some (.istore_n 2, 32, 2, 0, 0, 0, 0) else none
  else bif Nat.blt pc 33 then bif Nat.beq pc 32 then some (.aload_n 0, 33, 0, 0, 0, 0, 0) else none
  else bif Nat.beq pc 33 then some (.iconst 0, 34, 0, 0, 0, 0, 0) else none
  else bif Nat.blt pc 38 then bif Nat.blt pc 35 then bif Nat.beq pc 34 then some (.aload_n 0, 35, 0, 0, 0, 0, 0) else none
  else bif Nat.beq pc 35 then some (.getfield 20, 38, 8, 9, 2, 0, 0) else none
  else bif Nat.blt pc 39 then bif Nat.beq pc 38 then some (.iconst 0, 39, 0, 0, 0, 0, 0) else none
  else bif Nat.beq pc 39 then some (.iaload, 40, 0, 0, 0, 0, 0) else none
  else bif Nat.blt pc 62 then bif Nat.blt pc 48 then bif Nat.blt pc 45 then bif Nat.blt pc 41 then bif Nat.beq pc 40 then some (.iconst 1, 41, 0, 0, 0, 1, 0) else none
  else bif Nat.blt pc 42 then bif Nat.beq pc 41 then some (.isub, 42, 0, 0, 0, 0, 0) else none
  else bif Nat.beq pc 42 then some (.invokevirtual 115, 45, 125, 3, 8, 0, 0) else none
  else bif Nat.blt pc 46 then bif Nat.beq pc 45 then some (.istore_n 3, 46, 3, 0, 0, 0, 0) else none
  else bif Nat.blt pc 47 then bif Nat.beq pc 46 then some (.iload_n 2, 47, 2, 0, 0, 0, 0) else none
  else bif Nat.beq pc 47 then some (.iload_n 3, 48, 3, 0, 0, 0, 0) else none
  else bif Nat.blt pc 54 then bif Nat.blt pc 51 then bif Nat.beq pc 48 then some (.if_icmp .ne 13, 51, 61, 0, 0, 0, 0) else none
  else bif Nat.blt pc 52 then bif Nat.beq pc 51 then some (.aload_n 0, 52, 0, 0, 0, 0, 0) else none
  else bif Nat.beq pc 52 then some (.bipush (-3), 54, 0, 0, 0, (-3), 0) else none
  else bif Nat.blt pc 58 then bif Nat.blt pc 55 then bif Nat.beq pc 54 then some (.aload_n 0, 55, 0, 0, 0, 0, 0) else none
  else bif Nat.beq pc 55 then some (.getfield 89, 58, 8, 13, 0, 0, 0) else none
  else bif Nat.blt pc 61 then bif Nat.beq pc 58 then some (.invokevirtual 81, 61, 121, 3, 8, 0, 0) else none
  else bif Nat.beq pc 61 then some (.aload_n 0, 62, 0, 0, 0, 0, 0) else none
  else bif Nat.blt pc 74 then bif Nat.blt pc 68 then bif Nat.blt pc 63 then bif Nat.beq pc 62 then some (.iconst 1, 63, 0, 0, 0, 1, 0) else none
  else bif Nat.blt pc 65 then bif Nat.beq pc 63 then some (.bipush 99, 65, 0, 0, 0, 99, 0) else none
  else bif Nat.beq pc 65 then some (.invokevirtual 115, 68, 125, 3, 8, 0, 0) else none
  else bif Nat.blt pc 71 then bif Nat.blt pc 70 then bif Nat.beq pc 68 then some (.istore 4, 70, 4, 0, 0, 0, 0) else none
  else bif Nat.beq pc 70 then some (.aload_n 0, 71, 0, 0, 0, 0, 0) else none
  else bif Nat.blt pc 72 then bif Nat.beq pc 71 then some (.iconst 1, 72, 0, 0, 0, 1, 0) else none
  else bif Nat.beq pc 72 then some (.bipush 99, 74, 0, 0, 0, 99, 0) else none
  else bif Nat.blt pc 80 then bif Nat.blt pc 77 then bif Nat.beq pc 74 then some (.invokevirtual 115, 77, 125, 3, 8, 0, 0) else none
  else bif Nat.blt pc 79 then bif Nat.beq pc 77 then some (.istore 5, 79, 5, 0, 0, 0, 0) else none
  else bif Nat.beq pc 79 then some (.aload_n 0, 80, 0, 0, 0, 0, 0) else none
  else bif Nat.blt pc 83 then bif Nat.blt pc 81 then bif Nat.beq pc 80 then some (.iconst 0, 81, 0, 0, 0, 0, 0) else none
  else bif Nat.beq pc 81 then some (.bipush 99, 83, 0, 0, 0, 99, 0) else none
  else bif Nat.blt pc 86 then bif Nat.beq pc 83 then some (.invokevirtual 115, 86, 125, 3, 8, 0, 0) else none
  else bif Nat.beq pc 86 then some (.istore 6, 88, 6, 0, 0, 0, 0) else none
  else bif Nat.blt pc 133 then bif Nat.blt pc 113 then bif Nat.blt pc 100 then bif Nat.blt pc 95 then bif Nat.blt pc 89 then bif Nat.beq pc 88 then some (.aload_n 0, 89, 0, 0, 0, 0, 0) else none
  else bif Nat.blt pc 92 then bif Nat.beq pc 89 then some (.invokevirtual 64, 92, 120, 1, 8, 0, 0) else none
  else bif Nat.beq pc 92 then some (.ifCond .ne 4, 95, 96, 0, 0, 0, 0) else none
  else bif Nat.blt pc 96 then bif Nat.beq pc 95 then some (.return_, 96, 0, 0, 0, 0, 0) else none
  else bif Nat.blt pc 97 then bif Nat.beq pc 96 then some (.aload_n 0, 97, 0, 0, 0, 0, 0) else none
  else bif Nat.beq pc 97 then some (.getfield 20, 100, 8, 9, 2, 0, 0) else none
  else bif Nat.blt pc 105 then bif Nat.blt pc 101 then bif Nat.beq pc 100 then some (.iconst 2, 101, 0, 0, 0, 2, 0) else none
  else bif Nat.blt pc 102 then bif Nat.beq pc 101 then some (.iaload, 102, 0, 0, 0, 0, 0) else none
  else bif Nat.beq pc 102 then some (.invokestatic 130, 105, 114, 1, 99, 0, 0) else none
  else bif Nat.blt pc 108 then bif Nat.blt pc 107 then bif Nat.beq pc 105 then some (.istore 7, 107, 7, 0, 0, 0, 0) else none
  else bif Nat.beq pc 107 then some (.aload_n 0, 108, 0, 0, 0, 0, 0) else none
  else bif Nat.blt pc 111 then bif Nat.beq pc 108 then some (.getfield 20, 111, 8, 9, 2, 0, 0) else none
  else bif Nat.beq pc 111 then some (.iload 7, 113, 7, 0, 0, 0, 0) else none
  else bif Nat.blt pc 123 then bif Nat.blt pc 116 then bif Nat.blt pc 114 then bif Nat.beq pc 113 then some (.iload_n 2, 114, 2, 0, 0, 0, 0) else none
  else bif Nat.blt pc 115 then bif Nat.beq pc 114 then some (.iastore, 115, 0, 0, 0, 0, 0) else none
  else bif Nat.beq pc 115 then some (.aload_n 0, 116, 0, 0, 0, 0, 0) else none
  else bif Nat.blt pc 121 then bif Nat.blt pc 119 then bif Nat.beq pc 116 then some (.getfield 20, 119, 8, 9, 2, 0, 0) else none
  else bif Nat.beq pc 119 then some (.iload 7, 121, 7, 0, 0, 0, 0) else none
  else bif Nat.blt pc 122 then bif Nat.beq pc 121 then some (.iconst 1, 122, 0, 0, 0, 1, 0) else none
  else bif Nat.beq pc 122 then some (.iadd, 123, 0, 0, 0, 0, 0) else none
  else bif Nat.blt pc 126 then bif Nat.blt pc 124 then bif Nat.beq pc 123 then some (.iload_n 3, 124, 3, 0, 0, 0, 0) else none
  else bif Nat.blt pc 125 then bif Nat.beq pc 124 then some (.iastore, 125, 0, 0, 0, 0, 0) else none
  else bif Nat.beq pc 125 then some (.aload_n 0, 126, 0, 0, 0, 0, 0) else none
  else bif Nat.blt pc 131 then bif Nat.blt pc 129 then bif Nat.beq pc 126 then some (.getfield 20, 129, 8, 9, 2, 0, 0) else none
  else bif Nat.beq pc 129 then some (.iload 7, 131, 7, 0, 0, 0, 0) else none
  else bif Nat.blt pc 132 then bif Nat.beq pc 131 then some (.iconst 2, 132, 0, 0, 0, 2, 0) else none
  else bif Nat.beq pc 132 then some (.iadd, 133, 0, 0, 0, 0, 0) else none
  else bif Nat.blt pc 153 then bif Nat.blt pc 143 then bif Nat.blt pc 137 then bif Nat.blt pc 135 then bif Nat.beq pc 133 then some (.iload 4, 135, 4, 0, 0, 0, 0) else none
  else bif Nat.blt pc 136 then bif Nat.beq pc 135 then some (.iastore, 136, 0, 0, 0, 0, 0) else none
  else bif Nat.beq pc 136 then some (.aload_n 0, 137, 0, 0, 0, 0, 0) else none
  else bif Nat.blt pc 140 then bif Nat.beq pc 137 then some (.getfield 20, 140, 8, 9, 2, 0, 0) else none
  else bif Nat.blt pc 142 then bif Nat.beq pc 140 then some (.iload 7, 142, 7, 0, 0, 0, 0) else none
  else bif Nat.beq pc 142 then some (.iconst 2, 143, 0, 0, 0, 2, 0) else none
  else bif Nat.blt pc 146 then bif Nat.blt pc 144 then bif Nat.beq pc 143 then some (.iadd, 144, 0, 0, 0, 0, 0) else none
  else bif Nat.blt pc 145 then bif Nat.beq pc 144 then some (.iconst 1, 145, 0, 0, 0, 1, 0) else none
  else bif Nat.beq pc 145 then some (.iadd, 146, 0, 0, 0, 0, 0) else none
  else bif Nat.blt pc 149 then bif Nat.blt pc 148 then bif Nat.beq pc 146 then some (.iload 5, 148, 5, 0, 0, 0, 0) else none
  else bif Nat.beq pc 148 then some (.iastore, 149, 0, 0, 0, 0, 0) else none
  else bif Nat.blt pc 150 then bif Nat.beq pc 149 then some (.aload_n 0, 150, 0, 0, 0, 0, 0) else none
  else bif Nat.beq pc 150 then some (.getfield 20, 153, 8, 9, 2, 0, 0) else none
  else bif Nat.blt pc 164 then bif Nat.blt pc 157 then bif Nat.blt pc 155 then bif Nat.beq pc 153 then some (.iload 7, 155, 7, 0, 0, 0, 0) else none
  else bif Nat.blt pc 156 then bif Nat.beq pc 155 then some (.iconst 4, 156, 0, 0, 0, 4, 0) else none
  else bif Nat.beq pc 156 then some (.iadd, 157, 0, 0, 0, 0, 0) else none
  else bif Nat.blt pc 160 then bif Nat.blt pc 159 then bif Nat.beq pc 157 then some (.iload 6, 159, 6, 0, 0, 0, 0) else none
  else bif Nat.beq pc 159 then some (.iastore, 160, 0, 0, 0, 0, 0) else none
  else bif Nat.blt pc 161 then bif Nat.beq pc 160 then some (.aload_n 0, 161, 0, 0, 0, 0, 0) else none
  else bif Nat.beq pc 161 then some (.getfield 20, 164, 8, 9, 2, 0, 0) else none
  else bif Nat.blt pc 167 then bif Nat.blt pc 165 then bif Nat.beq pc 164 then some (.iconst 2, 165, 0, 0, 0, 2, 0) else none
  else bif Nat.blt pc 166 then bif Nat.beq pc 165 then some (.dup2, 166, 0, 0, 0, 0, 0) else none
  else bif Nat.beq pc 166 then some (.iaload, 167, 0, 0, 0, 0, 0) else none
  else bif Nat.blt pc 169 then bif Nat.blt pc 168 then bif Nat.beq pc 167 then some (.iconst 1, 168, 0, 0, 0, 1, 0) else none
  else bif Nat.beq pc 168 then some (.iadd, 169, 0, 0, 0, 0, 0) else none
  else bif Nat.blt pc 170 then bif Nat.beq pc 169 then some (.iastore, 170, 0, 0, 0, 0, 0) else none
  else bif Nat.beq pc 170 then some (.return_, 171, 0, 0, 0, 0, 0) else none
def rs_X8_readEdge : PMR := (0, 0, hdl [], 8)
def mi_X8_readEdge : PMI := wrapM 171 cd_X8_readEdge rs_X8_readEdge
def cd_X8_edgeAt (pc : Nat) : Option PE :=
  bif Nat.blt pc 30 then bif Nat.blt pc 13 then bif Nat.blt pc 6 then bif Nat.blt pc 2 then bif Nat.blt pc 1 then bif Nat.beq pc 0 then some (.aload_n 0, 1, 0, 0, 0, 0, 0) else none
  else bif Nat.beq pc 1 then some (.iconst 0, 2, 0, 0, 0, 0, 0) else none
  else bif Nat.blt pc 3 then bif Nat.beq pc 2 then some (.aload_n 0, 3, 0, 0, 0, 0, 0) else none
  else bif Nat.beq pc 3 then some (.getfield 20, 6, 8, 9, 2, 0, 0) else none
  else bif Nat.blt pc 8 then bif Nat.blt pc 7 then bif Nat.beq pc 6 then some (.iconst 2, 7, 0, 0, 0, 2, 0) else none
  else bif Nat.beq pc 7 then some (.iaload, 8, 0, 0, 0, 0, 0) else none
  else bif Nat.blt pc 9 then bif Nat.beq pc 8 then some (.iconst 1, 9, 0, 0, 0, 1, 0) else none
  else bif Nat.blt pc 10 then bif Nat.beq pc 9 then some (.isub, 10, 0, 0, 0, 0, 0) else none
  else bif Nat.beq pc 10 then some (.invokevirtual 115, 13, 125, 3, 8, 0, 0) else none
  else bif Nat.blt pc 21 then bif Nat.blt pc 15 then bif Nat.blt pc 14 then bif Nat.beq pc 13 then some (.istore_n 2, 14, 2, 0, 0, 0, 0) else none
  else bif Nat.beq pc 14 then some (.aload_n 0, 15, 0, 0, 0, 0, 0) else none
  else bif Nat.blt pc 18 then bif Nat.beq pc 15 then some (.invokevirtual 64, 18, 120, 1, 8, 0, 0) else none
  else bif Nat.beq pc 18 then some (.ifCond .eq 41, 21, 59, 0, 0, 0, 0) else none
  else bif Nat.blt pc 25 then bif Nat.blt pc 22 then bif Nat.beq pc 21 then some (.aload_n 0, 22, 0, 0, 0, 0, 0) else none
  else bif Nat.beq pc 22 then some (.getfield 20, 25, 8, 9, 2, 0, 0) else none
  else bif Nat.blt pc 26 then bif Nat.beq pc 25 then some (.iload_n 2, 26, 2, 0, 0, 0, 0) else none
  else bif Nat.blt pc 29 then bif Nat.beq pc 26 then some (.invokestatic 130, 29, 114, 1, 99, 0, 0) else none
  else bif Nat.beq pc 29 then some (.iaload, 30, 0, 0, 0, 0, 0) else none
  else bif Nat.blt pc 45 then bif Nat.blt pc 38 then bif Nat.blt pc 34 then bif Nat.blt pc 31 then bif Nat.beq pc 30 then some (.iload_n 1, 31, 1, 0, 0, 0, 0) else none
  else bif Nat.beq pc 31 then some (.if_icmp .eq 28, 34, 59, 0, 0, 0, 0) else none
  else bif Nat.blt pc 35 then bif Nat.beq pc 34 then some (.aload_n 0, 35, 0, 0, 0, 0, 0) else none
  else bif Nat.beq pc 35 then some (.getfield 20, 38, 8, 9, 2, 0, 0) else none
  else bif Nat.blt pc 42 then bif Nat.blt pc 39 then bif Nat.beq pc 38 then some (.iload_n 2, 39, 2, 0, 0, 0, 0) else none
  else bif Nat.beq pc 39 then some (.invokestatic 130, 42, 114, 1, 99, 0, 0) else none
  else bif Nat.blt pc 43 then bif Nat.beq pc 42 then some (.iconst 1, 43, 0, 0, 0, 1, 0) else none
  else bif Nat.blt pc 44 then bif Nat.beq pc 43 then some (.iadd, 44, 0, 0, 0, 0, 0) else none
  else bif Nat.beq pc 44 then some (.iaload, 45, 0, 0, 0, 0, 0) else none
  else bif Nat.blt pc 52 then bif Nat.blt pc 49 then bif Nat.blt pc 46 then bif Nat.beq pc 45 then some (.iload_n 1, 46, 1, 0, 0, 0, 0) else none
  else bif Nat.beq pc 46 then some (.if_icmp .eq 13, 49, 59, 0, 0, 0, 0) else none
  else bif Nat.blt pc 50 then bif Nat.beq pc 49 then some (.aload_n 0, 50, 0, 0, 0, 0, 0) else none
  else bif Nat.beq pc 50 then some (.bipush (-3), 52, 0, 0, 0, (-3), 0) else none
  else bif Nat.blt pc 56 then bif Nat.blt pc 53 then bif Nat.beq pc 52 then some (.aload_n 0, 53, 0, 0, 0, 0, 0) else none
  else bif Nat.beq pc 53 then some (.getfield 89, 56, 8, 13, 0, 0, 0) else none
  else bif Nat.blt pc 59 then bif Nat.beq pc 56 then some (.invokevirtual 81, 59, 121, 3, 8, 0, 0) else none
  else bif Nat.blt pc 60 then bif Nat.beq pc 59 then some (.iload_n 2, 60, 2, 0, 0, 0, 0) else none
  else bif Nat.beq pc 60 then some (.ireturn, 61, 0, 0, 0, 0, 0) else none
def rs_X8_edgeAt : PMR := (1, 0, hdl [], 3)
def mi_X8_edgeAt : PMI := wrapM 61 cd_X8_edgeAt rs_X8_edgeAt
def cd_X8_readBan (pc : Nat) : Option PE :=
  bif Nat.blt pc 25 then bif Nat.blt pc 10 then bif Nat.blt pc 6 then bif Nat.blt pc 2 then bif Nat.blt pc 1 then bif Nat.beq pc 0 then some (.aload_n 0, 1, 0, 0, 0, 0, 0) else none
  else bif Nat.beq pc 1 then some (.iconst 0, 2, 0, 0, 0, 0, 0) else none
  else bif Nat.blt pc 3 then bif Nat.beq pc 2 then some (.aload_n 0, 3, 0, 0, 0, 0, 0) else none
  else bif Nat.beq pc 3 then some (.getfield 20, 6, 8, 9, 2, 0, 0) else none
  else bif Nat.blt pc 8 then bif Nat.blt pc 7 then bif Nat.beq pc 6 then some (.iconst 0, 7, 0, 0, 0, 0, 0) else none
  else bif Nat.beq pc 7 then some (.iaload, 8, 0, 0, 0, 0, 0) else none
  else bif Nat.blt pc 9 then bif Nat.beq pc 8 then some (.iconst 1, 9, 0, 0, 0, 1, 0) else none
  else bif Nat.beq pc 9 then some (.isub, 10, 0, 0, 0, 0, 0) else none
  else bif Nat.blt pc 16 then bif Nat.blt pc 14 then bif Nat.blt pc 13 then bif Nat.beq pc 10 then some (.invokevirtual 115, 13, 125, 3, 8, 0, 0) else none
  else bif Nat.beq pc 13 then some (.istore_n 1, 14, 1, 0, 0, 0, 0) else none
  else bif Nat.blt pc 15 then bif Nat.beq pc 14 then some (.aload_n 0, 15, 0, 0, 0, 0, 0) else none
  else bif Nat.beq pc 15 then some (.iload_n 1, 16, 1, 0, 0, 0, 0) else none
  else bif Nat.blt pc 20 then bif Nat.blt pc 19 then bif Nat.beq pc 16 then some (.invokevirtual 133, 19, 132, 2, 8, 0, 0) else none
  else bif Nat.beq pc 19 then some (.istore_n 2, 20, 2, 0, 0, 0, 0) else none
  else bif Nat.blt pc 21 then bif Nat.beq pc 20 then some (.aload_n 0, 21, 0, 0, 0, 0, 0) else none
  else bif Nat.blt pc 22 then bif Nat.beq pc 21 then some (.iload_n 1, 22, 1, 0, 0, 0, 0) else none
  else bif Nat.beq pc 22 then some (.invokevirtual 133, 25, 132, 2, 8, 0, 0) else none
  else bif Nat.blt pc 39 then bif Nat.blt pc 33 then bif Nat.blt pc 27 then bif Nat.blt pc 26 then bif Nat.beq pc 25 then some (.istore_n 3, 26, 3, 0, 0, 0, 0) else none
  else bif Nat.beq pc 26 then some (.aload_n 0, 27, 0, 0, 0, 0, 0) else none
  else bif Nat.blt pc 30 then bif Nat.beq pc 27 then some (.invokevirtual 64, 30, 120, 1, 8, 0, 0) else none
  else bif Nat.beq pc 30 then some (.ifCond .eq 19, 33, 49, 0, 0, 0, 0) else none
  else bif Nat.blt pc 37 then bif Nat.blt pc 34 then bif Nat.beq pc 33 then some (.aload_n 0, 34, 0, 0, 0, 0, 0) else none
  else bif Nat.beq pc 34 then some (.getfield 20, 37, 8, 9, 2, 0, 0) else none
  else bif Nat.blt pc 38 then bif Nat.beq pc 37 then some (.iload_n 1, 38, 1, 0, 0, 0, 0) else none
  else bif Nat.beq pc 38 then some (.iload_n 2, 39, 2, 0, 0, 0, 0) else none
  else bif Nat.blt pc 45 then bif Nat.blt pc 43 then bif Nat.blt pc 42 then bif Nat.beq pc 39 then some (.invokestatic 136, 42, 115, 2, 99, 0, 0) else none
  else bif Nat.beq pc 42 then some (.dup2, 43, 0, 0, 0, 0, 0) else none
  else bif Nat.blt pc 44 then bif Nat.beq pc 43 then some (.iaload, 44, 0, 0, 0, 0, 0) else none
  else bif Nat.beq pc 44 then some (.iconst 1, 45, 0, 0, 0, 1, 0) else none
  else bif Nat.blt pc 47 then bif Nat.blt pc 46 then bif Nat.beq pc 45 then some (.iload_n 3, 46, 3, 0, 0, 0, 0) else none
  else bif Nat.beq pc 46 then some (.ishl, 47, 0, 0, 0, 0, 0) else none
  else bif Nat.blt pc 48 then bif Nat.beq pc 47 then some (.ior, 48, 0, 0, 0, 0, 0) else none
  else bif Nat.blt pc 49 then bif Nat.beq pc 48 then some (.iastore, 49, 0, 0, 0, 0, 0) else none
  else bif Nat.beq pc 49 then some (.return_, 50, 0, 0, 0, 0, 0) else none
def rs_X8_readBan : PMR := (0, 0, hdl [], 4)
def mi_X8_readBan : PMI := wrapM 50 cd_X8_readBan rs_X8_readBan
def cd_X8_readDepot (pc : Nat) : Option PE :=
  bif Nat.blt pc 32 then bif Nat.blt pc 17 then bif Nat.blt pc 7 then bif Nat.blt pc 4 then bif Nat.blt pc 1 then bif Nat.beq pc 0 then some (.aload_n 0, 1, 0, 0, 0, 0, 0) else none
  else bif Nat.beq pc 1 then some (.getfield 20, 4, 8, 9, 2, 0, 0) else none
  else bif Nat.blt pc 5 then bif Nat.beq pc 4 then some (.iconst 3, 5, 0, 0, 0, 3, 0) else none
  else bif Nat.blt pc 6 then bif Nat.beq pc 5 then some (.iaload, 6, 0, 0, 0, 0, 0) else none
  else bif Nat.beq pc 6 then some (.iconst 3, 7, 0, 0, 0, 3, 0) else none
  else bif Nat.blt pc 11 then bif Nat.blt pc 10 then bif Nat.beq pc 7 then some (.if_icmp .ne 10, 10, 17, 0, 0, 0, 0) else none
  else bif Nat.beq pc 10 then some (.aload_n 0, 11, 0, 0, 0, 0, 0) else none
  else bif Nat.blt pc 13 then bif Nat.beq pc 11 then some (.bipush (-4), 13, 0, 0, 0, (-4), 0) else none
  else bif Nat.blt pc 14 then bif Nat.beq pc 13 then some (.iload_n 1, 14, 1, 0, 0, 0, 0) else none
  else bif Nat.beq pc 14 then some (.invokevirtual 81, 17, 121, 3, 8, 0, 0) else none
  else bif Nat.blt pc 24 then bif Nat.blt pc 19 then bif Nat.blt pc 18 then bif Nat.beq pc 17 then some (.aload_n 0, 18, 0, 0, 0, 0, 0) else none
  else bif Nat.beq pc 18 then some (.iconst 0, 19, 0, 0, 0, 0, 0) else none
  else bif Nat.blt pc 20 then bif Nat.beq pc 19 then some (.aload_n 0, 20, 0, 0, 0, 0, 0) else none
  else bif Nat.blt pc 23 then bif Nat.beq pc 20 then some (.getfield 20, 23, 8, 9, 2, 0, 0) else none
  else bif Nat.beq pc 23 then some (.iconst 0, 24, 0, 0, 0, 0, 0) else none
  else bif Nat.blt pc 27 then bif Nat.blt pc 25 then bif Nat.beq pc 24 then some (.iaload, 25, 0, 0, 0, 0, 0) else none
  else bif Nat.blt pc 26 then bif Nat.beq pc 25 then some (.iconst 1, 26, 0, 0, 0, 1, 0) else none
  else bif Nat.beq pc 26 then some (.isub, 27, 0, 0, 0, 0, 0) else none
  else bif Nat.blt pc 30 then bif Nat.beq pc 27 then some (.invokevirtual 115, 30, 125, 3, 8, 0, 0) else none
  else bif Nat.blt pc 31 then bif Nat.beq pc 30 then some (.istore_n 2, 31, 2, 0, 0, 0, 0) else none
  else bif Nat.beq pc 31 then some (.aload_n 0, 32, 0, 0, 0, 0, 0) else none
  else bif Nat.blt pc 53 then bif Nat.blt pc 43 then bif Nat.blt pc 38 then bif Nat.blt pc 35 then bif Nat.beq pc 32 then some (.invokevirtual 64, 35, 120, 1, 8, 0, 0) else none
  else bif Nat.beq pc 35 then some (.ifCond .ne 4, 38, 39, 0, 0, 0, 0) else none
  else bif Nat.blt pc 39 then bif Nat.beq pc 38 then some (.return_, 39, 0, 0, 0, 0, 0) else none
  else bif Nat.blt pc 40 then bif Nat.beq pc 39 then some (.aload_n 0, 40, 0, 0, 0, 0, 0) else none
  else bif Nat.beq pc 40 then some (.getfield 20, 43, 8, 9, 2, 0, 0) else none
  else bif Nat.blt pc 50 then bif Nat.blt pc 46 then bif Nat.beq pc 43 then some (.sipush 189, 46, 0, 0, 0, 189, 0) else none
  else bif Nat.blt pc 47 then bif Nat.beq pc 46 then some (.aload_n 0, 47, 0, 0, 0, 0, 0) else none
  else bif Nat.beq pc 47 then some (.getfield 20, 50, 8, 9, 2, 0, 0) else none
  else bif Nat.blt pc 51 then bif Nat.beq pc 50 then some (.iconst 3, 51, 0, 0, 0, 3, 0) else none
  else bif Nat.blt pc 52 then bif Nat.beq pc 51 then some (.iaload, 52, 0, 0, 0, 0, 0) else none
  else bif Nat.beq pc 52 then some (.iadd, 53, 0, 0, 0, 0, 0) else none
  else bif Nat.blt pc 60 then bif Nat.blt pc 55 then bif Nat.blt pc 54 then bif Nat.beq pc 53 then some (.iload_n 2, 54, 2, 0, 0, 0, 0) else none
  else bif Nat.beq pc 54 then some (.iastore, 55, 0, 0, 0, 0, 0) else none
  else bif Nat.blt pc 56 then bif Nat.beq pc 55 then some (.aload_n 0, 56, 0, 0, 0, 0, 0) else none
  else bif Nat.blt pc 59 then bif Nat.beq pc 56 then some (.getfield 20, 59, 8, 9, 2, 0, 0) else none
  else bif Nat.beq pc 59 then some (.iconst 3, 60, 0, 0, 0, 3, 0) else none
  else bif Nat.blt pc 63 then bif Nat.blt pc 61 then bif Nat.beq pc 60 then some (.dup2, 61, 0, 0, 0, 0, 0) else none
  else bif Nat.blt pc 62 then bif Nat.beq pc 61 then some (.iaload, 62, 0, 0, 0, 0, 0) else none
  else bif Nat.beq pc 62 then some (.iconst 1, 63, 0, 0, 0, 1, 0) else none
  else bif Nat.blt pc 64 then bif Nat.beq pc 63 then some (.iadd, 64, 0, 0, 0, 0, 0) else none
  else bif Nat.blt pc 65 then bif Nat.beq pc 64 then some (.iastore, 65, 0, 0, 0, 0, 0) else none
  else bif Nat.beq pc 65 then some (.return_, 66, 0, 0, 0, 0, 0) else none
def rs_X8_readDepot : PMR := (0, 0, hdl [], 3)
def mi_X8_readDepot : PMI := wrapM 66 cd_X8_readDepot rs_X8_readDepot
def cd_X8_statement (pc : Nat) : Option PE :=
  bif Nat.blt pc 53 then bif Nat.blt pc 24 then bif Nat.blt pc 10 then bif Nat.blt pc 5 then bif Nat.blt pc 1 then bif Nat.beq pc 0 then some (.aload_n 0, 1, 0, 0, 0, 0, 0) else none
  else bif Nat.blt pc 4 then bif Nat.beq pc 1 then some (.invokevirtual 68, 4, 119, 1, 8, 0, 0) else none
  else bif Nat.beq pc 4 then some (.pop, 5, 0, 0, 0, 0, 0) else none
  else bif Nat.blt pc 6 then bif Nat.beq pc 5 then some (.aload_n 0, 6, 0, 0, 0, 0, 0) else none
  else bif Nat.blt pc 9 then bif Nat.beq pc 6 then some (.getfield 47, 9, 8, 4, 0, 0, 0) else none
  else bif Nat.beq pc 9 then some (.istore_n 1, 10, 1, 0, 0, 0, 0) else none
  else bif Nat.blt pc 16 then bif Nat.blt pc 11 then bif Nat.beq pc 10 then some (.aload_n 0, 11, 0, 0, 0, 0, 0) else none
  else bif Nat.blt pc 13 then bif Nat.beq pc 11 then some (.ldc 139, 13, 1, 0, 1, 0, 0) else none
  else bif Nat.beq pc 13 then some (.invokevirtual 109, 16, 123, 2, 8, 0, 0) else none
  else bif Nat.blt pc 20 then bif Nat.blt pc 19 then bif Nat.beq pc 16 then some (.ifCond .eq 11, 19, 27, 0, 0, 0, 0) else none
  else bif Nat.beq pc 19 then some (.aload_n 0, 20, 0, 0, 0, 0, 0) else none
  else bif Nat.blt pc 21 then bif Nat.beq pc 20 then some (.iload_n 1, 21, 1, 0, 0, 0, 0) else none
  else bif Nat.beq pc 21 then some (.invokevirtual 140, 24, 131, 2, 8, 0, 0) else none
  else bif Nat.blt pc 37 then bif Nat.blt pc 30 then bif Nat.blt pc 27 then bif Nat.beq pc 24 then some (.goto 72, 27, 96, 0, 0, 0, 0) else none
  else bif Nat.blt pc 28 then bif Nat.beq pc 27 then some (.aload_n 0, 28, 0, 0, 0, 0, 0) else none
  else bif Nat.beq pc 28 then some (.ldc 143, 30, 2, 0, 1, 0, 0) else none
  else bif Nat.blt pc 33 then bif Nat.beq pc 30 then some (.invokevirtual 109, 33, 123, 2, 8, 0, 0) else none
  else bif Nat.blt pc 36 then bif Nat.beq pc 33 then some (.ifCond .eq 10, 36, 43, 0, 0, 0, 0) else none
  else bif Nat.beq pc 36 then some (.aload_n 0, 37, 0, 0, 0, 0, 0) else none
  else bif Nat.blt pc 44 then bif Nat.blt pc 40 then bif Nat.beq pc 37 then some (.invokevirtual 144, 40, 133, 1, 8, 0, 0) else none
  else bif Nat.blt pc 43 then bif Nat.beq pc 40 then some (.goto 56, 43, 96, 0, 0, 0, 0) else none
  else bif Nat.beq pc 43 then some (.aload_n 0, 44, 0, 0, 0, 0, 0) else none
  else bif Nat.blt pc 49 then bif Nat.blt pc 46 then bif Nat.beq pc 44 then some (.ldc 147, 46, 3, 0, 1, 0, 0) else none
  else bif Nat.beq pc 46 then some (.invokevirtual 109, 49, 123, 2, 8, 0, 0) else none
  else bif Nat.blt pc 52 then bif Nat.beq pc 49 then some (.ifCond .eq 11, 52, 60, 0, 0, 0, 0) else none
  else bif Nat.beq pc 52 then some (.aload_n 0, 53, 0, 0, 0, 0, 0) else none
  else bif Nat.blt pc 79 then bif Nat.blt pc 66 then bif Nat.blt pc 60 then bif Nat.blt pc 54 then bif Nat.beq pc 53 then some (.iload_n 1, 54, 1, 0, 0, 0, 0) else none
  else bif Nat.blt pc 57 then bif Nat.beq pc 54 then some (.invokevirtual 149, 57, 134, 2, 8, 0, 0) else none
  else bif Nat.beq pc 57 then some (.goto 39, 60, 96, 0, 0, 0, 0) else none
  else bif Nat.blt pc 61 then bif Nat.beq pc 60 then some (.aload_n 0, 61, 0, 0, 0, 0, 0) else none
  else bif Nat.blt pc 63 then bif Nat.beq pc 61 then some (.ldc 152, 63, 4, 0, 1, 0, 0) else none
  else bif Nat.beq pc 63 then some (.invokevirtual 109, 66, 123, 2, 8, 0, 0) else none
  else bif Nat.blt pc 71 then bif Nat.blt pc 69 then bif Nat.beq pc 66 then some (.ifCond .eq 23, 69, 89, 0, 0, 0, 0) else none
  else bif Nat.blt pc 70 then bif Nat.beq pc 69 then some (.aload_n 0, 70, 0, 0, 0, 0, 0) else none
  else bif Nat.beq pc 70 then some (.iconst 0, 71, 0, 0, 0, 0, 0) else none
  else bif Nat.blt pc 75 then bif Nat.blt pc 72 then bif Nat.beq pc 71 then some (.iload_n 1, 72, 1, 0, 0, 0, 0) else none
  else bif Nat.beq pc 72 then some (.invokevirtual 154, 75, 130, 3, 8, 0, 0) else none
  else bif Nat.blt pc 76 then bif Nat.beq pc 75 then some (.aload_n 0, 76, 0, 0, 0, 0, 0) else none
  else bif Nat.beq pc 76 then some (.getfield 20, 79, 8, 9, 2, 0, 0) else none
  else bif Nat.blt pc 90 then bif Nat.blt pc 82 then bif Nat.blt pc 80 then bif Nat.beq pc 79 then some (.iconst 5, 80, 0, 0, 0, 5, 0) else none
  else bif Nat.blt pc 81 then bif Nat.beq pc 80 then some (.iconst 1, 81, 0, 0, 0, 1, 0) else none
  else bif Nat.beq pc 81 then some (.iastore, 82, 0, 0, 0, 0, 0) else none
  else bif Nat.blt pc 86 then bif Nat.blt pc 83 then bif Nat.beq pc 82 then some (.aload_n 0, 83, 0, 0, 0, 0, 0) else none
  else bif Nat.beq pc 83 then some (.invokevirtual 100, 86, 129, 1, 8, 0, 0) else none
  else bif Nat.blt pc 89 then bif Nat.beq pc 86 then some (.goto 10, 89, 96, 0, 0, 0, 0) else none
  else bif Nat.beq pc 89 then some (.aload_n 0, 90, 0, 0, 0, 0, 0) else none
  else bif Nat.blt pc 96 then bif Nat.blt pc 92 then bif Nat.beq pc 90 then some (.bipush (-2), 92, 0, 0, 0, (-2), 0) else none
  else bif Nat.blt pc 93 then bif Nat.beq pc 92 then some (.iload_n 1, 93, 1, 0, 0, 0, 0) else none
  else bif Nat.beq pc 93 then some (.invokevirtual 81, 96, 121, 3, 8, 0, 0) else none
  else bif Nat.blt pc 99 then bif Nat.blt pc 97 then bif Nat.beq pc 96 then some (.aload_n 0, 97, 0, 0, 0, 0, 0) else none
  else bif Nat.beq pc 97 then some (.bipush 59, 99, 0, 0, 0, 59, 0) else none
  else bif Nat.blt pc 102 then bif Nat.beq pc 99 then some (.invokevirtual 103, 102, 124, 2, 8, 0, 0) else none
  else bif Nat.beq pc 102 then some (.return_, 103, 0, 0, 0, 0, 0) else none
def rs_X8_statement : PMR := (0, 0, hdl [], 2)
def mi_X8_statement : PMI := wrapM 103 cd_X8_statement rs_X8_statement
def cd_X8_load (pc : Nat) : Option PE :=
  bif Nat.blt pc 99 then bif Nat.blt pc 48 then bif Nat.blt pc 24 then bif Nat.blt pc 9 then bif Nat.blt pc 5 then bif Nat.blt pc 1 then bif Nat.beq pc 0 then some (.aload_n 0, 1, 0, 0, 0, 0, 0) else none
  else bif Nat.blt pc 2 then bif Nat.beq pc 1 then some (.iconst 0, 2, 0, 0, 0, 0, 0) else none
  else bif Nat.beq pc 2 then some (.putfield 38, 5, 8, 0, 0, 0, 0) else none
  else bif Nat.blt pc 7 then bif Nat.blt pc 6 then bif Nat.beq pc 5 then some (.aload_n 0, 6, 0, 0, 0, 0, 0) else none
  else bif Nat.beq pc 6 then some (.iload_n 1, 7, 1, 0, 0, 0, 0) else none
  else bif Nat.blt pc 8 then bif Nat.beq pc 7 then some (.iconst 0, 8, 0, 0, 0, 0, 0) else none
  else bif Nat.beq pc 8 then some (.aload_n 0, 9, 0, 0, 0, 0, 0) else none
  else bif Nat.blt pc 18 then bif Nat.blt pc 12 then bif Nat.beq pc 9 then some (.getfield 41, 12, 8, 2, 0, 0, 0) else none
  else bif Nat.blt pc 15 then bif Nat.beq pc 12 then some (.invokestatic 60, 15, 111, 3, 99, 0, 0) else none
  else bif Nat.beq pc 15 then some (.ifCond .ne 7, 18, 22, 0, 0, 0, 0) else none
  else bif Nat.blt pc 22 then bif Nat.blt pc 19 then bif Nat.beq pc 18 then some (.iconst 1, 19, 0, 0, 0, 1, 0) else none
  else bif Nat.beq pc 19 then some (.goto 4, 22, 23, 0, 0, 0, 0) else none
  else bif Nat.blt pc 23 then bif Nat.beq pc 22 then some (.iconst 0, 23, 0, 0, 0, 0, 0) else none
  else bif Nat.beq pc 23 then some (.iconst 1, 24, 0, 0, 0, 1, 0) else none
  else bif Nat.blt pc 37 then bif Nat.blt pc 31 then bif Nat.blt pc 27 then bif Nat.beq pc 24 then some (.invokevirtual 157, 27, 110, 3, 8, 0, 0) else none
  else bif Nat.blt pc 30 then bif Nat.beq pc 27 then some (.ifCond .eq 5, 30, 32, 0, 0, 0, 0) else none
  else bif Nat.beq pc 30 then some (.iconst 0, 31, 0, 0, 0, 0, 0) else none
  else bif Nat.blt pc 33 then bif Nat.blt pc 32 then bif Nat.beq pc 31 then some (.ireturn, 32, 0, 0, 0, 0, 0) else none
  else bif Nat.beq pc 32 then some (.aload_n 0, 33, 0, 0, 0, 0, 0) else none
  else bif Nat.blt pc 34 then bif Nat.beq pc 33 then some (.iconst 0, 34, 0, 0, 0, 0, 0) else none
  else bif Nat.beq pc 34 then some (.putfield 41, 37, 8, 2, 0, 0, 0) else none
  else bif Nat.blt pc 42 then bif Nat.blt pc 38 then bif Nat.beq pc 37 then some (.aload_n 0, 38, 0, 0, 0, 0, 0) else none
  else bif Nat.blt pc 39 then bif Nat.beq pc 38 then some (.iload_n 1, 39, 1, 0, 0, 0, 0) else none
  else bif Nat.beq pc 39 then some (.putfield 44, 42, 8, 3, 0, 0, 0) else none
  else bif Nat.blt pc 44 then bif Nat.blt pc 43 then bif Nat.beq pc 42 then some (.aload_n 0, 43, 0, 0, 0, 0, 0) else none
  else bif Nat.beq pc 43 then some (.iconst 0, 44, 0, 0, 0, 0, 0) else none
  else bif Nat.blt pc 47 then bif Nat.beq pc 44 then some (.putfield 47, 47, 8, 4, 0, 0, 0) else none
  else bif Nat.beq pc 47 then some (.aload_n 0, 48, 0, 0, 0, 0, 0) else none
  else bif Nat.blt pc 70 then bif Nat.blt pc 59 then bif Nat.blt pc 53 then bif Nat.blt pc 49 then bif Nat.beq pc 48 then some (.iconst 0, 49, 0, 0, 0, 0, 0) else none
  else bif Nat.blt pc 52 then bif Nat.beq pc 49 then some (.putfield 54, 52, 8, 5, 0, 0, 0) else none
  else bif Nat.beq pc 52 then some (.aload_n 0, 53, 0, 0, 0, 0, 0) else none
  else bif Nat.blt pc 57 then bif Nat.blt pc 54 then bif Nat.beq pc 53 then some (.iconst (-1), 54, 0, 0, 0, (-1), 0) else none
  else bif Nat.beq pc 54 then some (.putfield 57, 57, 8, 6, 0, 0, 0) else none
  else bif Nat.blt pc 58 then bif Nat.beq pc 57 then some (.aload_n 0, 58, 0, 0, 0, 0, 0) else none
  else bif Nat.beq pc 58 then some (.iconst 0, 59, 0, 0, 0, 0, 0) else none
  else bif Nat.blt pc 64 then bif Nat.blt pc 62 then bif Nat.beq pc 59 then some (.putfield 97, 62, 8, 14, 0, 0, 0) else none
  else bif Nat.blt pc 63 then bif Nat.beq pc 62 then some (.aload_n 0, 63, 0, 0, 0, 0, 0) else none
  else bif Nat.beq pc 63 then some (.iconst 0, 64, 0, 0, 0, 0, 0) else none
  else bif Nat.blt pc 68 then bif Nat.blt pc 67 then bif Nat.beq pc 64 then some (.putfield 127, 67, 8, 15, 0, 0, 0) else none
  else bif Nat.beq pc 67 then some (.iconst 0, 68, 0, 0, 0, 0, 0) else none
  else bif Nat.blt pc 69 then bif Nat.beq pc 68 then some (.istore_n 2, 69, 2, 0, 0, 0, 0) else none
  else bif Nat.beq pc 69 then some (.iload_n 2, 70, 2, 0, 0, 0, 0) else none
  else bif Nat.blt pc 83 then bif Nat.blt pc 77 then bif Nat.blt pc 73 then bif Nat.beq pc 70 then some (.sipush 1556, 73, 0, 0, 0, 1556, 0) else none
  else bif Nat.blt pc 76 then bif Nat.beq pc 73 then some (.if_icmp .ge 16, 76, 89, 0, 0, 0, 0) else none
  else bif Nat.beq pc 76 then some (.aload_n 0, 77, 0, 0, 0, 0, 0) else none
  else bif Nat.blt pc 81 then bif Nat.blt pc 80 then bif Nat.beq pc 77 then some (.getfield 20, 80, 8, 9, 2, 0, 0) else none
  else bif Nat.beq pc 80 then some (.iload_n 2, 81, 2, 0, 0, 0, 0) else none
  else bif Nat.blt pc 82 then bif Nat.beq pc 81 then some (.iconst 0, 82, 0, 0, 0, 0, 0) else none
  else bif Nat.beq pc 82 then some (.iastore, 83, 0, 0, 0, 0, 0) else none
  else bif Nat.blt pc 90 then bif Nat.blt pc 86 then bif Nat.beq pc 83 then some (.iinc 2 1, 86, 2, 0, 0, 1, 0) else none
  else bif Nat.blt pc 89 then bif Nat.beq pc 86 then some (.goto (-17), 89, 69, 0, 0, 0, 0) else none
  else bif Nat.beq pc 89 then some (.aload_n 0, 90, 0, 0, 0, 0, 0) else none
  else bif Nat.blt pc 95 then bif Nat.blt pc 92 then bif Nat.beq pc 90 then some (.ldc 161, 92, 0, 0, 1, 0, 0) else none
  else bif Nat.beq pc 92 then some (.invokevirtual 109, 95, 123, 2, 8, 0, 0) else none
  else bif Nat.blt pc 98 then bif Nat.beq pc 95 then some (.ifCond .ne 13, 98, 108, 0, 0, 0, 0) else none
  else bif Nat.beq pc 98 then some (.aload_n 0, 99, 0, 0, 0, 0, 0) else none
  else bif Nat.blt pc 152 then bif Nat.blt pc 125 then bif Nat.blt pc 113 then bif Nat.blt pc 105 then bif Nat.blt pc 101 then bif Nat.beq pc 99 then some (.bipush (-2), 101, 0, 0, 0, (-2), 0) else none
  else bif Nat.blt pc 102 then bif Nat.beq pc 101 then some (.aload_n 0, 102, 0, 0, 0, 0, 0) else none
  else bif Nat.beq pc 102 then some (.getfield 47, 105, 8, 4, 0, 0, 0) else none
  else bif Nat.blt pc 109 then bif Nat.blt pc 108 then bif Nat.beq pc 105 then some (.invokevirtual 81, 108, 121, 3, 8, 0, 0) else none
  else bif Nat.beq pc 108 then some (.aload_n 0, 109, 0, 0, 0, 0, 0) else none
  else bif Nat.blt pc 112 then bif Nat.beq pc 109 then some (.getfield 20, 112, 8, 9, 2, 0, 0) else none
  else bif Nat.beq pc 112 then some (.iconst 0, 113, 0, 0, 0, 0, 0) else none
  else bif Nat.blt pc 117 then bif Nat.blt pc 114 then bif Nat.beq pc 113 then some (.aload_n 0, 114, 0, 0, 0, 0, 0) else none
  else bif Nat.blt pc 115 then bif Nat.beq pc 114 then some (.iconst 2, 115, 0, 0, 0, 2, 0) else none
  else bif Nat.beq pc 115 then some (.bipush 8, 117, 0, 0, 0, 8, 0) else none
  else bif Nat.blt pc 121 then bif Nat.blt pc 120 then bif Nat.beq pc 117 then some (.invokevirtual 115, 120, 125, 3, 8, 0, 0) else none
  else bif Nat.beq pc 120 then some (.iastore, 121, 0, 0, 0, 0, 0) else none
  else bif Nat.blt pc 122 then bif Nat.beq pc 121 then some (.aload_n 0, 122, 0, 0, 0, 0, 0) else none
  else bif Nat.beq pc 122 then some (.getfield 20, 125, 8, 9, 2, 0, 0) else none
  else bif Nat.blt pc 136 then bif Nat.blt pc 128 then bif Nat.blt pc 126 then bif Nat.beq pc 125 then some (.iconst 1, 126, 0, 0, 0, 1, 0) else none
  else bif Nat.blt pc 127 then bif Nat.beq pc 126 then some (.aload_n 0, 127, 0, 0, 0, 0, 0) else none
  else bif Nat.beq pc 127 then some (.iconst 1, 128, 0, 0, 0, 1, 0) else none
  else bif Nat.blt pc 134 then bif Nat.blt pc 131 then bif Nat.beq pc 128 then some (.sipush 999, 131, 0, 0, 0, 999, 0) else none
  else bif Nat.beq pc 131 then some (.invokevirtual 115, 134, 125, 3, 8, 0, 0) else none
  else bif Nat.blt pc 135 then bif Nat.beq pc 134 then some (.iastore, 135, 0, 0, 0, 0, 0) else none
  else bif Nat.beq pc 135 then some (.aload_n 0, 136, 0, 0, 0, 0, 0) else none
  else bif Nat.blt pc 142 then bif Nat.blt pc 138 then bif Nat.beq pc 136 then some (.bipush 59, 138, 0, 0, 0, 59, 0) else none
  else bif Nat.blt pc 141 then bif Nat.beq pc 138 then some (.invokevirtual 103, 141, 124, 2, 8, 0, 0) else none
  else bif Nat.beq pc 141 then some (.aload_n 0, 142, 0, 0, 0, 0, 0) else none
  else bif Nat.blt pc 148 then bif Nat.blt pc 145 then bif Nat.beq pc 142 then some (.invokevirtual 64, 145, 120, 1, 8, 0, 0) else none
  else bif Nat.beq pc 145 then some (.ifCond .eq 18, 148, 163, 0, 0, 0, 0) else none
  else bif Nat.blt pc 149 then bif Nat.beq pc 148 then some (.aload_n 0, 149, 0, 0, 0, 0, 0) else none
  else bif Nat.beq pc 149 then some (.invokevirtual 68, 152, 119, 1, 8, 0, 0) else none
  else bif Nat.blt pc 182 then bif Nat.blt pc 165 then bif Nat.blt pc 157 then bif Nat.blt pc 153 then bif Nat.beq pc 152 then some (.iconst (-1), 153, 0, 0, 0, (-1), 0) else none
  else bif Nat.blt pc 156 then bif Nat.beq pc 153 then some (.if_icmp .eq 10, 156, 163, 0, 0, 0, 0) else none
  else bif Nat.beq pc 156 then some (.aload_n 0, 157, 0, 0, 0, 0, 0) else none
  else bif Nat.blt pc 163 then bif Nat.blt pc 160 then bif Nat.beq pc 157 then some (.invokevirtual 163, 160, 135, 1, 8, 0, 0) else none
  else bif Nat.beq pc 160 then some (.goto (-19), 163, 141, 0, 0, 0, 0) else none
  else bif Nat.blt pc 164 then bif Nat.beq pc 163 then some (.aload_n 0, 164, 0, 0, 0, 0, 0) else none
  else bif Nat.beq pc 164 then some (.aload_n 0, 165, 0, 0, 0, 0, 0) else none
  else bif Nat.blt pc 172 then bif Nat.blt pc 168 then bif Nat.beq pc 165 then some (.getfield 57, 168, 8, 6, 0, 0, 0) else none
  else bif Nat.blt pc 171 then bif Nat.beq pc 168 then some (.putfield 13, 171, 8, 7, 0, 0, 0) else none
  else bif Nat.beq pc 171 then some (.aload_n 0, 172, 0, 0, 0, 0, 0) else none
  else bif Nat.blt pc 178 then bif Nat.blt pc 175 then bif Nat.beq pc 172 then some (.invokevirtual 64, 175, 120, 1, 8, 0, 0) else none
  else bif Nat.beq pc 175 then some (.ifCond .ne 8, 178, 183, 0, 0, 0, 0) else none
  else bif Nat.blt pc 179 then bif Nat.beq pc 178 then some (.aload_n 0, 179, 0, 0, 0, 0, 0) else none
  else bif Nat.beq pc 179 then some (.getfield 54, 182, 8, 5, 0, 0, 0) else none
  else bif Nat.blt pc 195 then bif Nat.blt pc 187 then bif Nat.blt pc 183 then bif Nat.beq pc 182 then some (.ireturn, 183, 0, 0, 0, 0, 0) else none
  else bif Nat.blt pc 184 then bif Nat.beq pc 183 then some (.aload_n 0, 184, 0, 0, 0, 0, 0) else none
  else bif Nat.beq pc 184 then some (.invokevirtual 166, 187, 194, 1, 8, 0, 0) else none
  else bif Nat.blt pc 191 then bif Nat.blt pc 188 then bif Nat.beq pc 187 then some (.aload_n 0, 188, 0, 0, 0, 0, 0) else none
  else bif Nat.beq pc 188 then some (.getfield 20, 191, 8, 9, 2, 0, 0) else none
  else bif Nat.blt pc 192 then bif Nat.beq pc 191 then some (.aload_n 0, 192, 0, 0, 0, 0, 0) else none
  else bif Nat.beq pc 192 then some (.getfield 17, 195, 8, 8, 2, 0, 0) else none
  else bif Nat.blt pc 203 then bif Nat.blt pc 199 then bif Nat.blt pc 198 then bif Nat.beq pc 195 then some (.invokestatic 169, 198, 113, 2, 99, 0, 0) else none
  else bif Nat.beq pc 198 then some (.aload_n 0, 199, 0, 0, 0, 0, 0) else none
  else bif Nat.blt pc 202 then bif Nat.beq pc 199 then some (.invokevirtual 173, 202, 143, 1, 8, 0, 0) else none
  else bif Nat.beq pc 202 then some (.aload_n 0, 203, 0, 0, 0, 0, 0) else none
  else bif Nat.blt pc 207 then bif Nat.blt pc 206 then bif Nat.beq pc 203 then some (.getfield 17, 206, 8, 8, 2, 0, 0) else none
  else bif Nat.beq pc 206 then some (.iconst 2, 207, 0, 0, 0, 2, 0) else none
  else bif Nat.blt pc 208 then bif Nat.beq pc 207 then some (.iaload, 208, 0, 0, 0, 0, 0) else none
  else bif Nat.beq pc 208 then some (.ireturn, 209, 0, 0, 0, 0, 0) else none
def rs_X8_load : PMR := (1, 0, hdl [], 3)
def mi_X8_load : PMI := wrapM 209 cd_X8_load rs_X8_load
def cd_X8_errorOffset (pc : Nat) : Option PE :=
  bif Nat.blt pc 5 then bif Nat.blt pc 1 then bif Nat.beq pc 0 then some (.aload_n 0, 1, 0, 0, 0, 0, 0) else none
  else bif Nat.blt pc 2 then bif Nat.beq pc 1 then some (.iconst 0, 2, 0, 0, 0, 0, 0) else none
  else bif Nat.beq pc 2 then some (.putfield 38, 5, 8, 0, 0, 0, 0) else none
  else bif Nat.blt pc 6 then bif Nat.beq pc 5 then some (.aload_n 0, 6, 0, 0, 0, 0, 0) else none
  else bif Nat.blt pc 9 then bif Nat.beq pc 6 then some (.getfield 13, 9, 8, 7, 0, 0, 0) else none
  else bif Nat.beq pc 9 then some (.ireturn, 10, 0, 0, 0, 0, 0) else none
def rs_X8_errorOffset : PMR := (1, 0, hdl [], 1)
def mi_X8_errorOffset : PMI := wrapM 10 cd_X8_errorOffset rs_X8_errorOffset
def cd_X8_arcs (pc : Nat) : Option PE :=
  bif Nat.blt pc 5 then bif Nat.blt pc 1 then bif Nat.beq pc 0 then some (.iconst 2, 1, 0, 0, 0, 2, 0) else none
  else bif Nat.blt pc 2 then bif Nat.beq pc 1 then some (.aload_n 0, 2, 0, 0, 0, 0, 0) else none
  else bif Nat.beq pc 2 then some (.getfield 17, 5, 8, 8, 2, 0, 0) else none
  else bif Nat.blt pc 7 then bif Nat.blt pc 6 then bif Nat.beq pc 5 then some (.iconst 2, 6, 0, 0, 0, 2, 0) else none
  else bif Nat.beq pc 6 then some (.iaload, 7, 0, 0, 0, 0, 0) else none
  else bif Nat.blt pc 8 then bif Nat.beq pc 7 then some (.imul, 8, 0, 0, 0, 0, 0) else none
  else bif Nat.beq pc 8 then some (.ireturn, 9, 0, 0, 0, 0, 0) else none
def rs_X8_arcs : PMR := (1, 0, hdl [], 1)
def mi_X8_arcs : PMI := wrapM 9 cd_X8_arcs rs_X8_arcs
def cd_X8_tail (pc : Nat) : Option PE :=
  bif Nat.blt pc 10 then bif Nat.blt pc 5 then bif Nat.blt pc 1 then bif Nat.beq pc 0 then some (.aload_n 0, 1, 0, 0, 0, 0, 0) else none
  else bif Nat.blt pc 4 then bif Nat.beq pc 1 then some (.getfield 17, 4, 8, 8, 2, 0, 0) else none
  else bif Nat.beq pc 4 then some (.iload_n 1, 5, 1, 0, 0, 0, 0) else none
  else bif Nat.blt pc 6 then bif Nat.beq pc 5 then some (.iconst 2, 6, 0, 0, 0, 2, 0) else none
  else bif Nat.blt pc 7 then bif Nat.beq pc 6 then some (.idiv, 7, 0, 0, 0, 0, 0) else none
  else bif Nat.beq pc 7 then some (.invokestatic 130, 10, 114, 1, 99, 0, 0) else none
  else bif Nat.blt pc 13 then bif Nat.blt pc 11 then bif Nat.beq pc 10 then some (.iload_n 1, 11, 1, 0, 0, 0, 0) else none
  else bif Nat.blt pc 12 then bif Nat.beq pc 11 then some (.iconst 2, 12, 0, 0, 0, 2, 0) else none
  else bif Nat.beq pc 12 then some (.irem, 13, 0, 0, 0, 0, 0) else none
  else bif Nat.blt pc 14 then bif Nat.beq pc 13 then some (.iadd, 14, 0, 0, 0, 0, 0) else none
  else bif Nat.blt pc 15 then bif Nat.beq pc 14 then some (.iaload, 15, 0, 0, 0, 0, 0) else none
  else bif Nat.beq pc 15 then some (.ireturn, 16, 0, 0, 0, 0, 0) else none
def rs_X8_tail : PMR := (1, 0, hdl [], 2)
def mi_X8_tail : PMI := wrapM 16 cd_X8_tail rs_X8_tail
def cd_X8_head (pc : Nat) : Option PE :=
  bif Nat.blt pc 11 then bif Nat.blt pc 5 then bif Nat.blt pc 1 then bif Nat.beq pc 0 then some (.aload_n 0, 1, 0, 0, 0, 0, 0) else none
  else bif Nat.blt pc 4 then bif Nat.beq pc 1 then some (.getfield 17, 4, 8, 8, 2, 0, 0) else none
  else bif Nat.beq pc 4 then some (.iload_n 1, 5, 1, 0, 0, 0, 0) else none
  else bif Nat.blt pc 7 then bif Nat.blt pc 6 then bif Nat.beq pc 5 then some (.iconst 2, 6, 0, 0, 0, 2, 0) else none
  else bif Nat.beq pc 6 then some (.idiv, 7, 0, 0, 0, 0, 0) else none
  else bif Nat.blt pc 10 then bif Nat.beq pc 7 then some (.invokestatic 130, 10, 114, 1, 99, 0, 0) else none
  else bif Nat.beq pc 10 then some (.iconst 1, 11, 0, 0, 0, 1, 0) else none
  else bif Nat.blt pc 14 then bif Nat.blt pc 12 then bif Nat.beq pc 11 then some (.iadd, 12, 0, 0, 0, 0, 0) else none
  else bif Nat.blt pc 13 then bif Nat.beq pc 12 then some (.iload_n 1, 13, 1, 0, 0, 0, 0) else none
  else bif Nat.beq pc 13 then some (.iconst 2, 14, 0, 0, 0, 2, 0) else none
  else bif Nat.blt pc 16 then bif Nat.blt pc 15 then bif Nat.beq pc 14 then some (.irem, 15, 0, 0, 0, 0, 0) else none
  else bif Nat.beq pc 15 then some (.isub, 16, 0, 0, 0, 0, 0) else none
  else bif Nat.blt pc 17 then bif Nat.beq pc 16 then some (.iaload, 17, 0, 0, 0, 0, 0) else none
  else bif Nat.beq pc 17 then some (.ireturn, 18, 0, 0, 0, 0, 0) else none
def rs_X8_head : PMR := (1, 0, hdl [], 2)
def mi_X8_head : PMI := wrapM 18 cd_X8_head rs_X8_head
def cd_X8_costOf (pc : Nat) : Option PE :=
  bif Nat.blt pc 11 then bif Nat.blt pc 5 then bif Nat.blt pc 1 then bif Nat.beq pc 0 then some (.aload_n 0, 1, 0, 0, 0, 0, 0) else none
  else bif Nat.blt pc 4 then bif Nat.beq pc 1 then some (.getfield 17, 4, 8, 8, 2, 0, 0) else none
  else bif Nat.beq pc 4 then some (.iload_n 1, 5, 1, 0, 0, 0, 0) else none
  else bif Nat.blt pc 7 then bif Nat.blt pc 6 then bif Nat.beq pc 5 then some (.iconst 2, 6, 0, 0, 0, 2, 0) else none
  else bif Nat.beq pc 6 then some (.idiv, 7, 0, 0, 0, 0, 0) else none
  else bif Nat.blt pc 10 then bif Nat.beq pc 7 then some (.invokestatic 130, 10, 114, 1, 99, 0, 0) else none
  else bif Nat.beq pc 10 then some (.iconst 2, 11, 0, 0, 0, 2, 0) else none
  else bif Nat.blt pc 14 then bif Nat.blt pc 12 then bif Nat.beq pc 11 then some (.iadd, 12, 0, 0, 0, 0, 0) else none
  else bif Nat.blt pc 13 then bif Nat.beq pc 12 then some (.iload_n 1, 13, 1, 0, 0, 0, 0) else none
  else bif Nat.beq pc 13 then some (.iconst 2, 14, 0, 0, 0, 2, 0) else none
  else bif Nat.blt pc 16 then bif Nat.blt pc 15 then bif Nat.beq pc 14 then some (.irem, 15, 0, 0, 0, 0, 0) else none
  else bif Nat.beq pc 15 then some (.iadd, 16, 0, 0, 0, 0, 0) else none
  else bif Nat.blt pc 17 then bif Nat.beq pc 16 then some (.iaload, 17, 0, 0, 0, 0, 0) else none
  else bif Nat.beq pc 17 then some (.ireturn, 18, 0, 0, 0, 0, 0) else none
def rs_X8_costOf : PMR := (1, 0, hdl [], 2)
def mi_X8_costOf : PMI := wrapM 18 cd_X8_costOf rs_X8_costOf
def cd_X8_follows (pc : Nat) : Option PE :=
  bif Nat.blt pc 24 then bif Nat.blt pc 13 then bif Nat.blt pc 5 then bif Nat.blt pc 1 then bif Nat.beq pc 0 then some (.aload_n 0, 1, 0, 0, 0, 0, 0) else none
  else bif Nat.blt pc 2 then bif Nat.beq pc 1 then some (.iload_n 1, 2, 1, 0, 0, 0, 0) else none
  else bif Nat.beq pc 2 then some (.invokevirtual 176, 5, 140, 2, 8, 0, 0) else none
  else bif Nat.blt pc 7 then bif Nat.blt pc 6 then bif Nat.beq pc 5 then some (.aload_n 0, 6, 0, 0, 0, 0, 0) else none
  else bif Nat.beq pc 6 then some (.iload_n 2, 7, 2, 0, 0, 0, 0) else none
  else bif Nat.blt pc 10 then bif Nat.beq pc 7 then some (.invokevirtual 179, 10, 139, 2, 8, 0, 0) else none
  else bif Nat.beq pc 10 then some (.if_icmp .ne 32, 13, 42, 0, 0, 0, 0) else none
  else bif Nat.blt pc 18 then bif Nat.blt pc 14 then bif Nat.beq pc 13 then some (.aload_n 0, 14, 0, 0, 0, 0, 0) else none
  else bif Nat.blt pc 17 then bif Nat.beq pc 14 then some (.getfield 17, 17, 8, 8, 2, 0, 0) else none
  else bif Nat.beq pc 17 then some (.aload_n 0, 18, 0, 0, 0, 0, 0) else none
  else bif Nat.blt pc 22 then bif Nat.blt pc 19 then bif Nat.beq pc 18 then some (.iload_n 1, 19, 1, 0, 0, 0, 0) else none
  else bif Nat.beq pc 19 then some (.invokevirtual 176, 22, 140, 2, 8, 0, 0) else none
  else bif Nat.blt pc 23 then bif Nat.beq pc 22 then some (.iload_n 1, 23, 1, 0, 0, 0, 0) else none
  else bif Nat.beq pc 23 then some (.iconst 2, 24, 0, 0, 0, 2, 0) else none
  else bif Nat.blt pc 33 then bif Nat.blt pc 29 then bif Nat.blt pc 25 then bif Nat.beq pc 24 then some (.idiv, 25, 0, 0, 0, 0, 0) else none
  else bif Nat.blt pc 28 then bif Nat.beq pc 25 then some (.invokestatic 136, 28, 115, 2, 99, 0, 0) else none
  else bif Nat.beq pc 28 then some (.iaload, 29, 0, 0, 0, 0, 0) else none
  else bif Nat.blt pc 31 then bif Nat.blt pc 30 then bif Nat.beq pc 29 then some (.iload_n 2, 30, 2, 0, 0, 0, 0) else none
  else bif Nat.beq pc 30 then some (.iconst 2, 31, 0, 0, 0, 2, 0) else none
  else bif Nat.blt pc 32 then bif Nat.beq pc 31 then some (.idiv, 32, 0, 0, 0, 0, 0) else none
  else bif Nat.beq pc 32 then some (.ishr, 33, 0, 0, 0, 0, 0) else none
  else bif Nat.blt pc 38 then bif Nat.blt pc 34 then bif Nat.beq pc 33 then some (.iconst 1, 34, 0, 0, 0, 1, 0) else none
  else bif Nat.blt pc 35 then bif Nat.beq pc 34 then some (.iand, 35, 0, 0, 0, 0, 0) else none
  else bif Nat.beq pc 35 then some (.ifCond .ne 7, 38, 42, 0, 0, 0, 0) else none
  else bif Nat.blt pc 42 then bif Nat.blt pc 39 then bif Nat.beq pc 38 then some (.iconst 1, 39, 0, 0, 0, 1, 0) else none
  else bif Nat.beq pc 39 then some (.goto 4, 42, 43, 0, 0, 0, 0) else none
  else bif Nat.blt pc 43 then bif Nat.beq pc 42 then some (.iconst 0, 43, 0, 0, 0, 0, 0) else none
  else bif Nat.beq pc 43 then some (.ireturn, 44, 0, 0, 0, 0, 0) else none
def rs_X8_follows : PMR := (2, 0, hdl [], 3)
def mi_X8_follows : PMI := wrapM 44 cd_X8_follows rs_X8_follows
def cd_X8_layGaps (pc : Nat) : Option PE :=
  bif Nat.blt pc 68 then bif Nat.blt pc 28 then bif Nat.blt pc 14 then bif Nat.blt pc 7 then bif Nat.blt pc 4 then bif Nat.blt pc 1 then bif Nat.beq pc 0 then some (.aload_n 0, 1, 0, 0, 0, 0, 0) else none
  else bif Nat.beq pc 1 then some (.invokevirtual 182, 4, 138, 1, 8, 0, 0) else none
  else bif Nat.blt pc 5 then bif Nat.beq pc 4 then some (.istore_n 1, 5, 1, 0, 0, 0, 0) else none
  else bif Nat.blt pc 6 then bif Nat.beq pc 5 then some (.iconst 0, 6, 0, 0, 0, 0, 0) else none
  else bif Nat.beq pc 6 then some (.istore_n 2, 7, 2, 0, 0, 0, 0) else none
  else bif Nat.blt pc 9 then bif Nat.blt pc 8 then bif Nat.beq pc 7 then some (.iload_n 2, 8, 2, 0, 0, 0, 0) else none
  else bif Nat.beq pc 8 then some (.iload_n 1, 9, 1, 0, 0, 0, 0) else none
  else bif Nat.blt pc 12 then bif Nat.beq pc 9 then some (.if_icmp .ge 45, 12, 54, 0, 0, 0, 0) else none
  else bif Nat.blt pc 13 then bif Nat.beq pc 12 then some (.iconst 0, 13, 0, 0, 0, 0, 0) else none
  else bif Nat.beq pc 13 then some (.istore_n 3, 14, 3, 0, 0, 0, 0) else none
  else bif Nat.blt pc 23 then bif Nat.blt pc 16 then bif Nat.blt pc 15 then bif Nat.beq pc 14 then some (.iload_n 3, 15, 3, 0, 0, 0, 0) else none
  else bif Nat.beq pc 15 then some (.iload_n 1, 16, 1, 0, 0, 0, 0) else none
  else bif Nat.blt pc 19 then bif Nat.beq pc 16 then some (.if_icmp .ge 32, 19, 48, 0, 0, 0, 0) else none
  else bif Nat.blt pc 20 then bif Nat.beq pc 19 then some (.aload_n 0, 20, 0, 0, 0, 0, 0) else none
  else bif Nat.beq pc 20 then some (.getfield 31, 23, 8, 16, 2, 0, 0) else none
  else bif Nat.blt pc 25 then bif Nat.blt pc 24 then bif Nat.beq pc 23 then some (.iload_n 2, 24, 2, 0, 0, 0, 0) else none
  else bif Nat.beq pc 24 then some (.aaload, 25, 0, 0, 0, 0, 0) else none
  else bif Nat.blt pc 26 then bif Nat.beq pc 25 then some (.iload_n 3, 26, 3, 0, 0, 0, 0) else none
  else bif Nat.blt pc 27 then bif Nat.beq pc 26 then some (.aload_n 0, 27, 0, 0, 0, 0, 0) else none
  else bif Nat.beq pc 27 then some (.iload_n 2, 28, 2, 0, 0, 0, 0) else none
  else bif Nat.blt pc 51 then bif Nat.blt pc 39 then bif Nat.blt pc 32 then bif Nat.blt pc 29 then bif Nat.beq pc 28 then some (.iload_n 3, 29, 3, 0, 0, 0, 0) else none
  else bif Nat.beq pc 29 then some (.invokevirtual 185, 32, 142, 3, 8, 0, 0) else none
  else bif Nat.blt pc 35 then bif Nat.beq pc 32 then some (.ifCond .eq 7, 35, 39, 0, 0, 0, 0) else none
  else bif Nat.blt pc 36 then bif Nat.beq pc 35 then some (.iconst 0, 36, 0, 0, 0, 0, 0) else none
  else bif Nat.beq pc 36 then some (.goto 5, 39, 41, 0, 0, 0, 0) else none
  else bif Nat.blt pc 42 then bif Nat.blt pc 41 then bif Nat.beq pc 39 then some (.ldc 92, 41, 0, 0, 0, 1000000, 0) else none
  else bif Nat.beq pc 41 then some (.iastore, 42, 0, 0, 0, 0, 0) else none
  else bif Nat.blt pc 45 then bif Nat.beq pc 42 then some (.iinc 3 1, 45, 3, 0, 0, 1, 0) else none
  else bif Nat.blt pc 48 then bif Nat.beq pc 45 then some (.goto (-31), 48, 14, 0, 0, 0, 0) else none
  else bif Nat.beq pc 48 then some (.iinc 2 1, 51, 2, 0, 0, 1, 0) else none
  else bif Nat.blt pc 58 then bif Nat.blt pc 55 then bif Nat.blt pc 54 then bif Nat.beq pc 51 then some (.goto (-44), 54, 7, 0, 0, 0, 0) else none
  else bif Nat.beq pc 54 then some (.iconst 0, 55, 0, 0, 0, 0, 0) else none
  else bif Nat.blt pc 56 then bif Nat.beq pc 55 then some (.istore_n 2, 56, 2, 0, 0, 0, 0) else none
  else bif Nat.blt pc 57 then bif Nat.beq pc 56 then some (.iload_n 2, 57, 2, 0, 0, 0, 0) else none
  else bif Nat.beq pc 57 then some (.iload_n 1, 58, 1, 0, 0, 0, 0) else none
  else bif Nat.blt pc 63 then bif Nat.blt pc 61 then bif Nat.beq pc 58 then some (.if_icmp .ge 82, 61, 140, 0, 0, 0, 0) else none
  else bif Nat.blt pc 62 then bif Nat.beq pc 61 then some (.iconst 0, 62, 0, 0, 0, 0, 0) else none
  else bif Nat.beq pc 62 then some (.istore_n 3, 63, 3, 0, 0, 0, 0) else none
  else bif Nat.blt pc 64 then bif Nat.beq pc 63 then some (.iload_n 3, 64, 3, 0, 0, 0, 0) else none
  else bif Nat.blt pc 65 then bif Nat.beq pc 64 then some (.iload_n 1, 65, 1, 0, 0, 0, 0) else none
  else bif Nat.beq pc 65 then some (.if_icmp .ge 69, 68, 134, 0, 0, 0, 0) else none
  else bif Nat.blt pc 101 then bif Nat.blt pc 85 then bif Nat.blt pc 77 then bif Nat.blt pc 71 then bif Nat.blt pc 69 then bif Nat.beq pc 68 then some (.iconst 0, 69, 0, 0, 0, 0, 0) else none
  else bif Nat.beq pc 69 then some (.istore 4, 71, 4, 0, 0, 0, 0) else none
  else bif Nat.blt pc 73 then bif Nat.beq pc 71 then some (.iload 4, 73, 4, 0, 0, 0, 0) else none
  else bif Nat.blt pc 74 then bif Nat.beq pc 73 then some (.iload_n 1, 74, 1, 0, 0, 0, 0) else none
  else bif Nat.beq pc 74 then some (.if_icmp .ge 54, 77, 128, 0, 0, 0, 0) else none
  else bif Nat.blt pc 81 then bif Nat.blt pc 78 then bif Nat.beq pc 77 then some (.aload_n 0, 78, 0, 0, 0, 0, 0) else none
  else bif Nat.beq pc 78 then some (.getfield 31, 81, 8, 16, 2, 0, 0) else none
  else bif Nat.blt pc 82 then bif Nat.beq pc 81 then some (.iload_n 3, 82, 3, 0, 0, 0, 0) else none
  else bif Nat.blt pc 83 then bif Nat.beq pc 82 then some (.aaload, 83, 0, 0, 0, 0, 0) else none
  else bif Nat.beq pc 83 then some (.iload 4, 85, 4, 0, 0, 0, 0) else none
  else bif Nat.blt pc 93 then bif Nat.blt pc 89 then bif Nat.blt pc 86 then bif Nat.beq pc 85 then some (.aload_n 0, 86, 0, 0, 0, 0, 0) else none
  else bif Nat.beq pc 86 then some (.getfield 31, 89, 8, 16, 2, 0, 0) else none
  else bif Nat.blt pc 90 then bif Nat.beq pc 89 then some (.iload_n 3, 90, 3, 0, 0, 0, 0) else none
  else bif Nat.blt pc 91 then bif Nat.beq pc 90 then some (.aaload, 91, 0, 0, 0, 0, 0) else none
  else bif Nat.beq pc 91 then some (.iload 4, 93, 4, 0, 0, 0, 0) else none
  else bif Nat.blt pc 98 then bif Nat.blt pc 94 then bif Nat.beq pc 93 then some (.iaload, 94, 0, 0, 0, 0, 0) else none
  else bif Nat.blt pc 95 then bif Nat.beq pc 94 then some (.aload_n 0, 95, 0, 0, 0, 0, 0) else none
  else bif Nat.beq pc 95 then some (.getfield 31, 98, 8, 16, 2, 0, 0) else none
  else bif Nat.blt pc 99 then bif Nat.beq pc 98 then some (.iload_n 3, 99, 3, 0, 0, 0, 0) else none
  else bif Nat.blt pc 100 then bif Nat.beq pc 99 then some (.aaload, 100, 0, 0, 0, 0, 0) else none
  else bif Nat.beq pc 100 then some (.iload_n 2, 101, 2, 0, 0, 0, 0) else none
  else bif Nat.blt pc 116 then bif Nat.blt pc 108 then bif Nat.blt pc 103 then bif Nat.blt pc 102 then bif Nat.beq pc 101 then some (.iaload, 102, 0, 0, 0, 0, 0) else none
  else bif Nat.beq pc 102 then some (.aload_n 0, 103, 0, 0, 0, 0, 0) else none
  else bif Nat.blt pc 104 then bif Nat.beq pc 103 then some (.iload_n 2, 104, 2, 0, 0, 0, 0) else none
  else bif Nat.blt pc 107 then bif Nat.beq pc 104 then some (.invokevirtual 189, 107, 141, 2, 8, 0, 0) else none
  else bif Nat.beq pc 107 then some (.iadd, 108, 0, 0, 0, 0, 0) else none
  else bif Nat.blt pc 112 then bif Nat.blt pc 109 then bif Nat.beq pc 108 then some (.aload_n 0, 109, 0, 0, 0, 0, 0) else none
  else bif Nat.beq pc 109 then some (.getfield 31, 112, 8, 16, 2, 0, 0) else none
  else bif Nat.blt pc 113 then bif Nat.beq pc 112 then some (.iload_n 2, 113, 2, 0, 0, 0, 0) else none
  else bif Nat.blt pc 114 then bif Nat.beq pc 113 then some (.aaload, 114, 0, 0, 0, 0, 0) else none
  else bif Nat.beq pc 114 then some (.iload 4, 116, 4, 0, 0, 0, 0) else none
  else bif Nat.blt pc 125 then bif Nat.blt pc 118 then bif Nat.blt pc 117 then bif Nat.beq pc 116 then some (.iaload, 117, 0, 0, 0, 0, 0) else none
  else bif Nat.beq pc 117 then some (.iadd, 118, 0, 0, 0, 0, 0) else none
  else bif Nat.blt pc 121 then bif Nat.beq pc 118 then some (.invokestatic 93, 121, 112, 2, 99, 0, 0) else none
  else bif Nat.blt pc 122 then bif Nat.beq pc 121 then some (.iastore, 122, 0, 0, 0, 0, 0) else none
  else bif Nat.beq pc 122 then some (.iinc 4 1, 125, 4, 0, 0, 1, 0) else none
  else bif Nat.blt pc 134 then bif Nat.blt pc 128 then bif Nat.beq pc 125 then some (.goto (-54), 128, 71, 0, 0, 0, 0) else none
  else bif Nat.blt pc 131 then bif Nat.beq pc 128 then some (.iinc 3 1, 131, 3, 0, 0, 1, 0) else none
  else bif Nat.beq pc 131 then some (.goto (-68), 134, 63, 0, 0, 0, 0) else none
  else bif Nat.blt pc 137 then bif Nat.beq pc 134 then some (.iinc 2 1, 137, 2, 0, 0, 1, 0) else none
  else bif Nat.blt pc 140 then bif Nat.beq pc 137 then some (.goto (-81), 140, 56, 0, 0, 0, 0) else none
  else bif Nat.beq pc 140 then some (.return_, 141, 0, 0, 0, 0, 0) else none
def rs_X8_layGaps : PMR := (0, 0, hdl [], 5)
def mi_X8_layGaps : PMI := wrapM 141 cd_X8_layGaps rs_X8_layGaps
def cd_X8_approach (pc : Nat) : Option PE :=
  bif Nat.blt pc 32 then bif Nat.blt pc 14 then bif Nat.blt pc 6 then bif Nat.blt pc 2 then bif Nat.blt pc 1 then bif Nat.beq pc 0 then some (.aload_n 0, 1, 0, 0, 0, 0, 0) else none
  else bif Nat.beq pc 1 then some (.iload_n 2, 2, 2, 0, 0, 0, 0) else none
  else bif Nat.blt pc 5 then bif Nat.beq pc 2 then some (.invokevirtual 179, 5, 139, 2, 8, 0, 0) else none
  else bif Nat.beq pc 5 then some (.iload_n 1, 6, 1, 0, 0, 0, 0) else none
  else bif Nat.blt pc 10 then bif Nat.blt pc 9 then bif Nat.beq pc 6 then some (.if_icmp .ne 5, 9, 11, 0, 0, 0, 0) else none
  else bif Nat.beq pc 9 then some (.iconst 0, 10, 0, 0, 0, 0, 0) else none
  else bif Nat.blt pc 11 then bif Nat.beq pc 10 then some (.ireturn, 11, 0, 0, 0, 0, 0) else none
  else bif Nat.blt pc 13 then bif Nat.beq pc 11 then some (.ldc 92, 13, 0, 0, 0, 1000000, 0) else none
  else bif Nat.beq pc 13 then some (.istore_n 3, 14, 3, 0, 0, 0, 0) else none
  else bif Nat.blt pc 20 then bif Nat.blt pc 17 then bif Nat.blt pc 15 then bif Nat.beq pc 14 then some (.iconst 0, 15, 0, 0, 0, 0, 0) else none
  else bif Nat.beq pc 15 then some (.istore 4, 17, 4, 0, 0, 0, 0) else none
  else bif Nat.blt pc 19 then bif Nat.beq pc 17 then some (.iload 4, 19, 4, 0, 0, 0, 0) else none
  else bif Nat.beq pc 19 then some (.aload_n 0, 20, 0, 0, 0, 0, 0) else none
  else bif Nat.blt pc 26 then bif Nat.blt pc 23 then bif Nat.beq pc 20 then some (.invokevirtual 182, 23, 138, 1, 8, 0, 0) else none
  else bif Nat.beq pc 23 then some (.if_icmp .ge 40, 26, 63, 0, 0, 0, 0) else none
  else bif Nat.blt pc 27 then bif Nat.beq pc 26 then some (.aload_n 0, 27, 0, 0, 0, 0, 0) else none
  else bif Nat.blt pc 29 then bif Nat.beq pc 27 then some (.iload 4, 29, 4, 0, 0, 0, 0) else none
  else bif Nat.beq pc 29 then some (.invokevirtual 179, 32, 139, 2, 8, 0, 0) else none
  else bif Nat.blt pc 49 then bif Nat.blt pc 38 then bif Nat.blt pc 36 then bif Nat.blt pc 33 then bif Nat.beq pc 32 then some (.iload_n 1, 33, 1, 0, 0, 0, 0) else none
  else bif Nat.beq pc 33 then some (.if_icmp .ne 24, 36, 57, 0, 0, 0, 0) else none
  else bif Nat.blt pc 37 then bif Nat.beq pc 36 then some (.iload_n 3, 37, 3, 0, 0, 0, 0) else none
  else bif Nat.beq pc 37 then some (.aload_n 0, 38, 0, 0, 0, 0, 0) else none
  else bif Nat.blt pc 43 then bif Nat.blt pc 40 then bif Nat.beq pc 38 then some (.iload 4, 40, 4, 0, 0, 0, 0) else none
  else bif Nat.beq pc 40 then some (.invokevirtual 189, 43, 141, 2, 8, 0, 0) else none
  else bif Nat.blt pc 44 then bif Nat.beq pc 43 then some (.aload_n 0, 44, 0, 0, 0, 0, 0) else none
  else bif Nat.blt pc 47 then bif Nat.beq pc 44 then some (.getfield 31, 47, 8, 16, 2, 0, 0) else none
  else bif Nat.beq pc 47 then some (.iload 4, 49, 4, 0, 0, 0, 0) else none
  else bif Nat.blt pc 56 then bif Nat.blt pc 51 then bif Nat.blt pc 50 then bif Nat.beq pc 49 then some (.aaload, 50, 0, 0, 0, 0, 0) else none
  else bif Nat.beq pc 50 then some (.iload_n 2, 51, 2, 0, 0, 0, 0) else none
  else bif Nat.blt pc 52 then bif Nat.beq pc 51 then some (.iaload, 52, 0, 0, 0, 0, 0) else none
  else bif Nat.blt pc 53 then bif Nat.beq pc 52 then some (.iadd, 53, 0, 0, 0, 0, 0) else none
  else bif Nat.beq pc 53 then some (.invokestatic 93, 56, 112, 2, 99, 0, 0) else none
  else bif Nat.blt pc 60 then bif Nat.blt pc 57 then bif Nat.beq pc 56 then some (.istore_n 3, 57, 3, 0, 0, 0, 0) else none
  else bif Nat.beq pc 57 then some (.iinc 4 1, 60, 4, 0, 0, 1, 0) else none
  else bif Nat.blt pc 63 then bif Nat.beq pc 60 then some (.goto (-43), 63, 17, 0, 0, 0, 0) else none
  else bif Nat.blt pc 64 then bif Nat.beq pc 63 then some (.iload_n 3, 64, 3, 0, 0, 0, 0) else none
  else bif Nat.beq pc 64 then some (.ireturn, 65, 0, 0, 0, 0, 0) else none
def rs_X8_approach : PMR := (1, 0, hdl [], 5)
def mi_X8_approach : PMI := wrapM 65 cd_X8_approach rs_X8_approach
def cd_X8_comeBack (pc : Nat) : Option PE :=
  bif Nat.blt pc 32 then bif Nat.blt pc 14 then bif Nat.blt pc 6 then bif Nat.blt pc 2 then bif Nat.blt pc 1 then bif Nat.beq pc 0 then some (.aload_n 0, 1, 0, 0, 0, 0, 0) else none
  else bif Nat.beq pc 1 then some (.iload_n 1, 2, 1, 0, 0, 0, 0) else none
  else bif Nat.blt pc 5 then bif Nat.beq pc 2 then some (.invokevirtual 176, 5, 140, 2, 8, 0, 0) else none
  else bif Nat.beq pc 5 then some (.iload_n 2, 6, 2, 0, 0, 0, 0) else none
  else bif Nat.blt pc 10 then bif Nat.blt pc 9 then bif Nat.beq pc 6 then some (.if_icmp .ne 5, 9, 11, 0, 0, 0, 0) else none
  else bif Nat.beq pc 9 then some (.iconst 0, 10, 0, 0, 0, 0, 0) else none
  else bif Nat.blt pc 11 then bif Nat.beq pc 10 then some (.ireturn, 11, 0, 0, 0, 0, 0) else none
  else bif Nat.blt pc 13 then bif Nat.beq pc 11 then some (.ldc 92, 13, 0, 0, 0, 1000000, 0) else none
  else bif Nat.beq pc 13 then some (.istore_n 3, 14, 3, 0, 0, 0, 0) else none
  else bif Nat.blt pc 20 then bif Nat.blt pc 17 then bif Nat.blt pc 15 then bif Nat.beq pc 14 then some (.iconst 0, 15, 0, 0, 0, 0, 0) else none
  else bif Nat.beq pc 15 then some (.istore 4, 17, 4, 0, 0, 0, 0) else none
  else bif Nat.blt pc 19 then bif Nat.beq pc 17 then some (.iload 4, 19, 4, 0, 0, 0, 0) else none
  else bif Nat.beq pc 19 then some (.aload_n 0, 20, 0, 0, 0, 0, 0) else none
  else bif Nat.blt pc 26 then bif Nat.blt pc 23 then bif Nat.beq pc 20 then some (.invokevirtual 182, 23, 138, 1, 8, 0, 0) else none
  else bif Nat.beq pc 23 then some (.if_icmp .ge 40, 26, 63, 0, 0, 0, 0) else none
  else bif Nat.blt pc 27 then bif Nat.beq pc 26 then some (.aload_n 0, 27, 0, 0, 0, 0, 0) else none
  else bif Nat.blt pc 29 then bif Nat.beq pc 27 then some (.iload 4, 29, 4, 0, 0, 0, 0) else none
  else bif Nat.beq pc 29 then some (.invokevirtual 176, 32, 140, 2, 8, 0, 0) else none
  else bif Nat.blt pc 46 then bif Nat.blt pc 38 then bif Nat.blt pc 36 then bif Nat.blt pc 33 then bif Nat.beq pc 32 then some (.iload_n 2, 33, 2, 0, 0, 0, 0) else none
  else bif Nat.beq pc 33 then some (.if_icmp .ne 24, 36, 57, 0, 0, 0, 0) else none
  else bif Nat.blt pc 37 then bif Nat.beq pc 36 then some (.iload_n 3, 37, 3, 0, 0, 0, 0) else none
  else bif Nat.beq pc 37 then some (.aload_n 0, 38, 0, 0, 0, 0, 0) else none
  else bif Nat.blt pc 42 then bif Nat.blt pc 41 then bif Nat.beq pc 38 then some (.getfield 31, 41, 8, 16, 2, 0, 0) else none
  else bif Nat.beq pc 41 then some (.iload_n 1, 42, 1, 0, 0, 0, 0) else none
  else bif Nat.blt pc 43 then bif Nat.beq pc 42 then some (.aaload, 43, 0, 0, 0, 0, 0) else none
  else bif Nat.blt pc 45 then bif Nat.beq pc 43 then some (.iload 4, 45, 4, 0, 0, 0, 0) else none
  else bif Nat.beq pc 45 then some (.iaload, 46, 0, 0, 0, 0, 0) else none
  else bif Nat.blt pc 56 then bif Nat.blt pc 49 then bif Nat.blt pc 47 then bif Nat.beq pc 46 then some (.aload_n 0, 47, 0, 0, 0, 0, 0) else none
  else bif Nat.beq pc 47 then some (.iload 4, 49, 4, 0, 0, 0, 0) else none
  else bif Nat.blt pc 52 then bif Nat.beq pc 49 then some (.invokevirtual 189, 52, 141, 2, 8, 0, 0) else none
  else bif Nat.blt pc 53 then bif Nat.beq pc 52 then some (.iadd, 53, 0, 0, 0, 0, 0) else none
  else bif Nat.beq pc 53 then some (.invokestatic 93, 56, 112, 2, 99, 0, 0) else none
  else bif Nat.blt pc 60 then bif Nat.blt pc 57 then bif Nat.beq pc 56 then some (.istore_n 3, 57, 3, 0, 0, 0, 0) else none
  else bif Nat.beq pc 57 then some (.iinc 4 1, 60, 4, 0, 0, 1, 0) else none
  else bif Nat.blt pc 63 then bif Nat.beq pc 60 then some (.goto (-43), 63, 17, 0, 0, 0, 0) else none
  else bif Nat.blt pc 64 then bif Nat.beq pc 63 then some (.iload_n 3, 64, 3, 0, 0, 0, 0) else none
  else bif Nat.beq pc 64 then some (.ireturn, 65, 0, 0, 0, 0, 0) else none
def rs_X8_comeBack : PMR := (1, 0, hdl [], 5)
def mi_X8_comeBack : PMI := wrapM 65 cd_X8_comeBack rs_X8_comeBack
def cd_X8_distanceOf (pc : Nat) : Option PE :=
  bif Nat.blt pc 28 then bif Nat.blt pc 11 then bif Nat.blt pc 6 then bif Nat.blt pc 2 then bif Nat.blt pc 1 then bif Nat.beq pc 0 then some (.iload_n 1, 1, 1, 0, 0, 0, 0) else none
  else bif Nat.beq pc 1 then some (.iload_n 2, 2, 2, 0, 0, 0, 0) else none
  else bif Nat.blt pc 5 then bif Nat.beq pc 2 then some (.if_icmp .ne 5, 5, 7, 0, 0, 0, 0) else none
  else bif Nat.beq pc 5 then some (.iconst 0, 6, 0, 0, 0, 0, 0) else none
  else bif Nat.blt pc 9 then bif Nat.blt pc 7 then bif Nat.beq pc 6 then some (.ireturn, 7, 0, 0, 0, 0, 0) else none
  else bif Nat.beq pc 7 then some (.ldc 92, 9, 0, 0, 0, 1000000, 0) else none
  else bif Nat.blt pc 10 then bif Nat.beq pc 9 then some (.istore_n 3, 10, 3, 0, 0, 0, 0) else none
  else bif Nat.beq pc 10 then some (.iconst 0, 11, 0, 0, 0, 0, 0) else none
  else bif Nat.blt pc 19 then bif Nat.blt pc 15 then bif Nat.blt pc 13 then bif Nat.beq pc 11 then some (.istore 4, 13, 4, 0, 0, 0, 0) else none
  else bif Nat.beq pc 13 then some (.iload 4, 15, 4, 0, 0, 0, 0) else none
  else bif Nat.blt pc 16 then bif Nat.beq pc 15 then some (.aload_n 0, 16, 0, 0, 0, 0, 0) else none
  else bif Nat.beq pc 16 then some (.invokevirtual 182, 19, 138, 1, 8, 0, 0) else none
  else bif Nat.blt pc 23 then bif Nat.blt pc 22 then bif Nat.beq pc 19 then some (.if_icmp .ge 38, 22, 57, 0, 0, 0, 0) else none
  else bif Nat.beq pc 22 then some (.aload_n 0, 23, 0, 0, 0, 0, 0) else none
  else bif Nat.blt pc 25 then bif Nat.beq pc 23 then some (.iload 4, 25, 4, 0, 0, 0, 0) else none
  else bif Nat.beq pc 25 then some (.invokevirtual 179, 28, 139, 2, 8, 0, 0) else none
  else bif Nat.blt pc 42 then bif Nat.blt pc 34 then bif Nat.blt pc 32 then bif Nat.blt pc 29 then bif Nat.beq pc 28 then some (.iload_n 1, 29, 1, 0, 0, 0, 0) else none
  else bif Nat.beq pc 29 then some (.if_icmp .ne 22, 32, 51, 0, 0, 0, 0) else none
  else bif Nat.blt pc 33 then bif Nat.beq pc 32 then some (.iload_n 3, 33, 3, 0, 0, 0, 0) else none
  else bif Nat.beq pc 33 then some (.aload_n 0, 34, 0, 0, 0, 0, 0) else none
  else bif Nat.blt pc 39 then bif Nat.blt pc 36 then bif Nat.beq pc 34 then some (.iload 4, 36, 4, 0, 0, 0, 0) else none
  else bif Nat.beq pc 36 then some (.invokevirtual 189, 39, 141, 2, 8, 0, 0) else none
  else bif Nat.blt pc 40 then bif Nat.beq pc 39 then some (.aload_n 0, 40, 0, 0, 0, 0, 0) else none
  else bif Nat.beq pc 40 then some (.iload 4, 42, 4, 0, 0, 0, 0) else none
  else bif Nat.blt pc 50 then bif Nat.blt pc 46 then bif Nat.blt pc 43 then bif Nat.beq pc 42 then some (.iload_n 2, 43, 2, 0, 0, 0, 0) else none
  else bif Nat.beq pc 43 then some (.invokevirtual 192, 46, 145, 3, 8, 0, 0) else none
  else bif Nat.blt pc 47 then bif Nat.beq pc 46 then some (.iadd, 47, 0, 0, 0, 0, 0) else none
  else bif Nat.beq pc 47 then some (.invokestatic 93, 50, 112, 2, 99, 0, 0) else none
  else bif Nat.blt pc 54 then bif Nat.blt pc 51 then bif Nat.beq pc 50 then some (.istore_n 3, 51, 3, 0, 0, 0, 0) else none
  else bif Nat.beq pc 51 then some (.iinc 4 1, 54, 4, 0, 0, 1, 0) else none
  else bif Nat.blt pc 57 then bif Nat.beq pc 54 then some (.goto (-41), 57, 13, 0, 0, 0, 0) else none
  else bif Nat.blt pc 58 then bif Nat.beq pc 57 then some (.iload_n 3, 58, 3, 0, 0, 0, 0) else none
  else bif Nat.beq pc 58 then some (.ireturn, 59, 0, 0, 0, 0, 0) else none
def rs_X8_distanceOf : PMR := (1, 0, hdl [], 5)
def mi_X8_distanceOf : PMI := wrapM 59 cd_X8_distanceOf rs_X8_distanceOf
def cd_X8_limited (pc : Nat) : Option PE :=
  bif Nat.blt pc 15 then bif Nat.blt pc 5 then bif Nat.blt pc 1 then bif Nat.beq pc 0 then some (.lload_n 0, 1, 0, 0, 0, 0, 0) else none
  else bif Nat.blt pc 4 then bif Nat.beq pc 1 then some (.ldc2_w 195, 4, 0, 0, 0, 0, 1000000) else none
  else bif Nat.beq pc 4 then some (.lcmp, 5, 0, 0, 0, 0, 0) else none
  else bif Nat.blt pc 11 then bif Nat.blt pc 8 then bif Nat.beq pc 5 then some (.ifCond .le 9, 8, 14, 0, 0, 0, 0) else none
  else bif Nat.beq pc 8 then some (.ldc2_w 195, 11, 0, 0, 0, 0, 1000000) else none
  else bif Nat.blt pc 14 then bif Nat.beq pc 11 then some (.goto 18, 14, 29, 0, 0, 0, 0) else none
  else bif Nat.beq pc 14 then some (.lload_n 0, 15, 0, 0, 0, 0, 0) else none
  else bif Nat.blt pc 22 then bif Nat.blt pc 18 then bif Nat.beq pc 15 then some (.ldc2_w 197, 18, 0, 0, 0, 0, (-1000000)) else none
  else bif Nat.blt pc 19 then bif Nat.beq pc 18 then some (.lcmp, 19, 0, 0, 0, 0, 0) else none
  else bif Nat.beq pc 19 then some (.ifCond .ge 9, 22, 28, 0, 0, 0, 0) else none
  else bif Nat.blt pc 28 then bif Nat.blt pc 25 then bif Nat.beq pc 22 then some (.ldc2_w 197, 25, 0, 0, 0, 0, (-1000000)) else none
  else bif Nat.beq pc 25 then some (.goto 4, 28, 29, 0, 0, 0, 0) else none
  else bif Nat.blt pc 29 then bif Nat.beq pc 28 then some (.lload_n 0, 29, 0, 0, 0, 0, 0) else none
  else bif Nat.beq pc 29 then some (.lreturn, 30, 0, 0, 0, 0, 0) else none
def rs_X8_limited : PMR := (3, 0, hdl [], 2)
def mi_X8_limited : PMI := wrapM 30 cd_X8_limited rs_X8_limited
def cd_X8_operate (pc : Nat) : Option PE :=
  bif Nat.blt pc 24 then bif Nat.blt pc 12 then bif Nat.blt pc 6 then bif Nat.blt pc 2 then bif Nat.blt pc 1 then bif Nat.beq pc 0 then some (.iload_n 0, 1, 0, 0, 0, 0, 0) else none
  else bif Nat.beq pc 1 then some (.iconst 5, 2, 0, 0, 0, 5, 0) else none
  else bif Nat.blt pc 5 then bif Nat.beq pc 2 then some (.if_icmp .ne 17, 5, 19, 0, 0, 0, 0) else none
  else bif Nat.beq pc 5 then some (.lload_n 3, 6, 3, 0, 0, 0, 0) else none
  else bif Nat.blt pc 8 then bif Nat.blt pc 7 then bif Nat.beq pc 6 then some (.lconst 0, 7, 0, 0, 0, 0, 0) else none
  else bif Nat.beq pc 7 then some (.lcmp, 8, 0, 0, 0, 0, 0) else none
  else bif Nat.blt pc 11 then bif Nat.beq pc 8 then some (.ifCond .ne 7, 11, 15, 0, 0, 0, 0) else none
  else bif Nat.beq pc 11 then some (.lconst 0, 12, 0, 0, 0, 0, 0) else none
  else bif Nat.blt pc 18 then bif Nat.blt pc 16 then bif Nat.blt pc 15 then bif Nat.beq pc 12 then some (.goto 6, 15, 18, 0, 0, 0, 0) else none
  else bif Nat.beq pc 15 then some (.lload_n 1, 16, 1, 0, 0, 0, 0) else none
  else bif Nat.blt pc 17 then bif Nat.beq pc 16 then some (.lload_n 3, 17, 3, 0, 0, 0, 0) else none
  else bif Nat.beq pc 17 then some (.ldiv, 18, 0, 0, 0, 0, 0) else none
  else bif Nat.blt pc 20 then bif Nat.blt pc 19 then bif Nat.beq pc 18 then some (.lreturn, 19, 0, 0, 0, 0, 0) else none
  else bif Nat.beq pc 19 then some (.iload_n 0, 20, 0, 0, 0, 0, 0) else none
  else bif Nat.blt pc 21 then bif Nat.beq pc 20 then some (.iconst 2, 21, 0, 0, 0, 2, 0) else none
  else bif Nat.beq pc 21 then some (.if_icmp .ne 9, 24, 30, 0, 0, 0, 0) else none
  else bif Nat.blt pc 36 then bif Nat.blt pc 30 then bif Nat.blt pc 26 then bif Nat.blt pc 25 then bif Nat.beq pc 24 then some (.lload_n 1, 25, 1, 0, 0, 0, 0) else none
  else bif Nat.beq pc 25 then some (.lload_n 3, 26, 3, 0, 0, 0, 0) else none
  else bif Nat.blt pc 27 then bif Nat.beq pc 26 then some (.ladd, 27, 0, 0, 0, 0, 0) else none
  else bif Nat.beq pc 27 then some (.goto 17, 30, 44, 0, 0, 0, 0) else none
  else bif Nat.blt pc 32 then bif Nat.blt pc 31 then bif Nat.beq pc 30 then some (.iload_n 0, 31, 0, 0, 0, 0, 0) else none
  else bif Nat.beq pc 31 then some (.iconst 3, 32, 0, 0, 0, 3, 0) else none
  else bif Nat.blt pc 35 then bif Nat.beq pc 32 then some (.if_icmp .ne 9, 35, 41, 0, 0, 0, 0) else none
  else bif Nat.beq pc 35 then some (.lload_n 1, 36, 1, 0, 0, 0, 0) else none
  else bif Nat.blt pc 42 then bif Nat.blt pc 38 then bif Nat.blt pc 37 then bif Nat.beq pc 36 then some (.lload_n 3, 37, 3, 0, 0, 0, 0) else none
  else bif Nat.beq pc 37 then some (.lsub, 38, 0, 0, 0, 0, 0) else none
  else bif Nat.blt pc 41 then bif Nat.beq pc 38 then some (.goto 6, 41, 44, 0, 0, 0, 0) else none
  else bif Nat.beq pc 41 then some (.lload_n 1, 42, 1, 0, 0, 0, 0) else none
  else bif Nat.blt pc 44 then bif Nat.blt pc 43 then bif Nat.beq pc 42 then some (.lload_n 3, 43, 3, 0, 0, 0, 0) else none
  else bif Nat.beq pc 43 then some (.lmul, 44, 0, 0, 0, 0, 0) else none
  else bif Nat.blt pc 47 then bif Nat.beq pc 44 then some (.invokestatic 199, 47, 147, 1, 99, 0, 0) else none
  else bif Nat.beq pc 47 then some (.lreturn, 48, 0, 0, 0, 0, 0) else none
def rs_X8_operate : PMR := (3, 0, hdl [], 5)
def mi_X8_operate : PMI := wrapM 48 cd_X8_operate rs_X8_operate
def cd_X8_serviceOf (pc : Nat) : Option PE :=
  bif Nat.blt pc 99 then bif Nat.blt pc 43 then bif Nat.blt pc 20 then bif Nat.blt pc 11 then bif Nat.blt pc 5 then bif Nat.blt pc 1 then bif Nat.beq pc 0 then some (.aload_n 0, 1, 0, 0, 0, 0, 0) else none
  else bif Nat.blt pc 4 then bif Nat.beq pc 1 then some (.getfield 17, 4, 8, 8, 2, 0, 0) else none
  else bif Nat.beq pc 4 then some (.iload_n 1, 5, 1, 0, 0, 0, 0) else none
  else bif Nat.blt pc 7 then bif Nat.blt pc 6 then bif Nat.beq pc 5 then some (.iconst 2, 6, 0, 0, 0, 2, 0) else none
  else bif Nat.beq pc 6 then some (.idiv, 7, 0, 0, 0, 0, 0) else none
  else bif Nat.blt pc 10 then bif Nat.beq pc 7 then some (.invokestatic 130, 10, 114, 1, 99, 0, 0) else none
  else bif Nat.beq pc 10 then some (.iconst 4, 11, 0, 0, 0, 4, 0) else none
  else bif Nat.blt pc 14 then bif Nat.blt pc 12 then bif Nat.beq pc 11 then some (.iadd, 12, 0, 0, 0, 0, 0) else none
  else bif Nat.blt pc 13 then bif Nat.beq pc 12 then some (.iaload, 13, 0, 0, 0, 0, 0) else none
  else bif Nat.beq pc 13 then some (.istore_n 2, 14, 2, 0, 0, 0, 0) else none
  else bif Nat.blt pc 16 then bif Nat.blt pc 15 then bif Nat.beq pc 14 then some (.iconst 0, 15, 0, 0, 0, 0, 0) else none
  else bif Nat.beq pc 15 then some (.istore_n 3, 16, 3, 0, 0, 0, 0) else none
  else bif Nat.blt pc 17 then bif Nat.beq pc 16 then some (.aload_n 0, 17, 0, 0, 0, 0, 0) else none
  else bif Nat.beq pc 17 then some (.getfield 17, 20, 8, 8, 2, 0, 0) else none
  else bif Nat.blt pc 31 then bif Nat.blt pc 25 then bif Nat.blt pc 21 then bif Nat.beq pc 20 then some (.iconst 5, 21, 0, 0, 0, 5, 0) else none
  else bif Nat.blt pc 22 then bif Nat.beq pc 21 then some (.iaload, 22, 0, 0, 0, 0, 0) else none
  else bif Nat.beq pc 22 then some (.ifCond .ne 9, 25, 31, 0, 0, 0, 0) else none
  else bif Nat.blt pc 27 then bif Nat.blt pc 26 then bif Nat.beq pc 25 then some (.aload_n 0, 26, 0, 0, 0, 0, 0) else none
  else bif Nat.beq pc 26 then some (.iload_n 1, 27, 1, 0, 0, 0, 0) else none
  else bif Nat.blt pc 30 then bif Nat.beq pc 27 then some (.invokevirtual 189, 30, 141, 2, 8, 0, 0) else none
  else bif Nat.beq pc 30 then some (.ireturn, 31, 0, 0, 0, 0, 0) else none
  else bif Nat.blt pc 36 then bif Nat.blt pc 32 then bif Nat.beq pc 31 then some (.iconst 0, 32, 0, 0, 0, 0, 0) else none
  else bif Nat.blt pc 34 then bif Nat.beq pc 32 then some (.istore 4, 34, 4, 0, 0, 0, 0) else none
  else bif Nat.beq pc 34 then some (.iload 4, 36, 4, 0, 0, 0, 0) else none
  else bif Nat.blt pc 40 then bif Nat.blt pc 37 then bif Nat.beq pc 36 then some (.aload_n 0, 37, 0, 0, 0, 0, 0) else none
  else bif Nat.beq pc 37 then some (.getfield 17, 40, 8, 8, 2, 0, 0) else none
  else bif Nat.blt pc 42 then bif Nat.beq pc 40 then some (.bipush 6, 42, 0, 0, 0, 6, 0) else none
  else bif Nat.beq pc 42 then some (.iaload, 43, 0, 0, 0, 0, 0) else none
  else bif Nat.blt pc 72 then bif Nat.blt pc 57 then bif Nat.blt pc 50 then bif Nat.blt pc 46 then bif Nat.beq pc 43 then some (.if_icmp .ge 113, 46, 156, 0, 0, 0, 0) else none
  else bif Nat.blt pc 47 then bif Nat.beq pc 46 then some (.aload_n 0, 47, 0, 0, 0, 0, 0) else none
  else bif Nat.beq pc 47 then some (.getfield 17, 50, 8, 8, 2, 0, 0) else none
  else bif Nat.blt pc 55 then bif Nat.blt pc 53 then bif Nat.beq pc 50 then some (.sipush 256, 53, 0, 0, 0, 256, 0) else none
  else bif Nat.beq pc 53 then some (.iload 4, 55, 4, 0, 0, 0, 0) else none
  else bif Nat.blt pc 56 then bif Nat.beq pc 55 then some (.iadd, 56, 0, 0, 0, 0, 0) else none
  else bif Nat.beq pc 56 then some (.iaload, 57, 0, 0, 0, 0, 0) else none
  else bif Nat.blt pc 62 then bif Nat.blt pc 59 then bif Nat.beq pc 57 then some (.istore 5, 59, 5, 0, 0, 0, 0) else none
  else bif Nat.blt pc 61 then bif Nat.beq pc 59 then some (.iload 5, 61, 5, 0, 0, 0, 0) else none
  else bif Nat.beq pc 61 then some (.iconst 1, 62, 0, 0, 0, 1, 0) else none
  else bif Nat.blt pc 68 then bif Nat.blt pc 65 then bif Nat.beq pc 62 then some (.if_icmp .gt 58, 65, 120, 0, 0, 0, 0) else none
  else bif Nat.beq pc 65 then some (.iinc 4 1, 68, 4, 0, 0, 1, 0) else none
  else bif Nat.blt pc 69 then bif Nat.beq pc 68 then some (.aload_n 0, 69, 0, 0, 0, 0, 0) else none
  else bif Nat.beq pc 69 then some (.getfield 17, 72, 8, 8, 2, 0, 0) else none
  else bif Nat.blt pc 85 then bif Nat.blt pc 78 then bif Nat.blt pc 75 then bif Nat.beq pc 72 then some (.sipush 256, 75, 0, 0, 0, 256, 0) else none
  else bif Nat.blt pc 77 then bif Nat.beq pc 75 then some (.iload 4, 77, 4, 0, 0, 0, 0) else none
  else bif Nat.beq pc 77 then some (.iadd, 78, 0, 0, 0, 0, 0) else none
  else bif Nat.blt pc 81 then bif Nat.blt pc 79 then bif Nat.beq pc 78 then some (.iaload, 79, 0, 0, 0, 0, 0) else none
  else bif Nat.beq pc 79 then some (.istore 6, 81, 6, 0, 0, 0, 0) else none
  else bif Nat.blt pc 82 then bif Nat.beq pc 81 then some (.aload_n 0, 82, 0, 0, 0, 0, 0) else none
  else bif Nat.beq pc 82 then some (.getfield 34, 85, 8, 17, 2, 0, 0) else none
  else bif Nat.blt pc 91 then bif Nat.blt pc 86 then bif Nat.beq pc 85 then some (.iload_n 3, 86, 3, 0, 0, 0, 0) else none
  else bif Nat.blt pc 88 then bif Nat.beq pc 86 then some (.iload 5, 88, 5, 0, 0, 0, 0) else none
  else bif Nat.beq pc 88 then some (.ifCond .ne 9, 91, 97, 0, 0, 0, 0) else none
  else bif Nat.blt pc 94 then bif Nat.blt pc 93 then bif Nat.beq pc 91 then some (.iload 6, 93, 6, 0, 0, 0, 0) else none
  else bif Nat.beq pc 93 then some (.i2l, 94, 0, 0, 0, 0, 0) else none
  else bif Nat.blt pc 97 then bif Nat.beq pc 94 then some (.goto 19, 97, 113, 0, 0, 0, 0) else none
  else bif Nat.beq pc 97 then some (.iload 6, 99, 6, 0, 0, 0, 0) else none
  else bif Nat.blt pc 146 then bif Nat.blt pc 127 then bif Nat.blt pc 112 then bif Nat.blt pc 104 then bif Nat.blt pc 102 then bif Nat.beq pc 99 then some (.ifCond .ne 12, 102, 111, 0, 0, 0, 0) else none
  else bif Nat.blt pc 103 then bif Nat.beq pc 102 then some (.aload_n 0, 103, 0, 0, 0, 0, 0) else none
  else bif Nat.beq pc 103 then some (.iload_n 1, 104, 1, 0, 0, 0, 0) else none
  else bif Nat.blt pc 108 then bif Nat.blt pc 107 then bif Nat.beq pc 104 then some (.invokevirtual 189, 107, 141, 2, 8, 0, 0) else none
  else bif Nat.beq pc 107 then some (.i2l, 108, 0, 0, 0, 0, 0) else none
  else bif Nat.blt pc 111 then bif Nat.beq pc 108 then some (.goto 5, 111, 113, 0, 0, 0, 0) else none
  else bif Nat.beq pc 111 then some (.iload_n 2, 112, 2, 0, 0, 0, 0) else none
  else bif Nat.blt pc 117 then bif Nat.blt pc 113 then bif Nat.beq pc 112 then some (.i2l, 113, 0, 0, 0, 0, 0) else none
  else bif Nat.blt pc 114 then bif Nat.beq pc 113 then some (.lastore, 114, 0, 0, 0, 0, 0) else none
  else bif Nat.beq pc 114 then some (.iinc 3 1, 117, 3, 0, 0, 1, 0) else none
  else bif Nat.blt pc 123 then bif Nat.blt pc 120 then bif Nat.beq pc 117 then some (.goto 33, 120, 150, 0, 0, 0, 0) else none
  else bif Nat.beq pc 120 then some (.iinc 3 (-1), 123, 3, 0, 0, (-1), 0) else none
  else bif Nat.blt pc 124 then bif Nat.beq pc 123 then some (.aload_n 0, 124, 0, 0, 0, 0, 0) else none
  else bif Nat.beq pc 124 then some (.getfield 34, 127, 8, 17, 2, 0, 0) else none
  else bif Nat.blt pc 137 then bif Nat.blt pc 130 then bif Nat.blt pc 128 then bif Nat.beq pc 127 then some (.iload_n 3, 128, 3, 0, 0, 0, 0) else none
  else bif Nat.blt pc 129 then bif Nat.beq pc 128 then some (.iconst 1, 129, 0, 0, 0, 1, 0) else none
  else bif Nat.beq pc 129 then some (.isub, 130, 0, 0, 0, 0, 0) else none
  else bif Nat.blt pc 133 then bif Nat.blt pc 132 then bif Nat.beq pc 130 then some (.iload 5, 132, 5, 0, 0, 0, 0) else none
  else bif Nat.beq pc 132 then some (.aload_n 0, 133, 0, 0, 0, 0, 0) else none
  else bif Nat.blt pc 136 then bif Nat.beq pc 133 then some (.getfield 34, 136, 8, 17, 2, 0, 0) else none
  else bif Nat.beq pc 136 then some (.iload_n 3, 137, 3, 0, 0, 0, 0) else none
  else bif Nat.blt pc 140 then bif Nat.blt pc 138 then bif Nat.beq pc 137 then some (.iconst 1, 138, 0, 0, 0, 1, 0) else none
  else bif Nat.blt pc 139 then bif Nat.beq pc 138 then some (.isub, 139, 0, 0, 0, 0, 0) else none
  else bif Nat.beq pc 139 then some (.laload, 140, 0, 0, 0, 0, 0) else none
  else bif Nat.blt pc 144 then bif Nat.blt pc 141 then bif Nat.beq pc 140 then some (.aload_n 0, 141, 0, 0, 0, 0, 0) else none
  else bif Nat.beq pc 141 then some (.getfield 34, 144, 8, 17, 2, 0, 0) else none
  else bif Nat.blt pc 145 then bif Nat.beq pc 144 then some (.iload_n 3, 145, 3, 0, 0, 0, 0) else none
  else bif Nat.beq pc 145 then some (.laload, 146, 0, 0, 0, 0, 0) else none
  else bif Nat.blt pc 172 then bif Nat.blt pc 161 then bif Nat.blt pc 153 then bif Nat.blt pc 149 then bif Nat.beq pc 146 then some (.invokestatic 203, 149, 148, 3, 99, 0, 0) else none
  else bif Nat.blt pc 150 then bif Nat.beq pc 149 then some (.lastore, 150, 0, 0, 0, 0, 0) else none
  else bif Nat.beq pc 150 then some (.iinc 4 1, 153, 4, 0, 0, 1, 0) else none
  else bif Nat.blt pc 157 then bif Nat.blt pc 156 then bif Nat.beq pc 153 then some (.goto (-119), 156, 34, 0, 0, 0, 0) else none
  else bif Nat.beq pc 156 then some (.aload_n 0, 157, 0, 0, 0, 0, 0) else none
  else bif Nat.blt pc 160 then bif Nat.beq pc 157 then some (.getfield 34, 160, 8, 17, 2, 0, 0) else none
  else bif Nat.beq pc 160 then some (.iconst 0, 161, 0, 0, 0, 0, 0) else none
  else bif Nat.blt pc 164 then bif Nat.blt pc 162 then bif Nat.beq pc 161 then some (.laload, 162, 0, 0, 0, 0, 0) else none
  else bif Nat.blt pc 163 then bif Nat.beq pc 162 then some (.lconst 0, 163, 0, 0, 0, 0, 0) else none
  else bif Nat.beq pc 163 then some (.lcmp, 164, 0, 0, 0, 0, 0) else none
  else bif Nat.blt pc 168 then bif Nat.blt pc 167 then bif Nat.beq pc 164 then some (.ifCond .ge 7, 167, 171, 0, 0, 0, 0) else none
  else bif Nat.beq pc 167 then some (.iconst 0, 168, 0, 0, 0, 0, 0) else none
  else bif Nat.blt pc 171 then bif Nat.beq pc 168 then some (.goto 29, 171, 197, 0, 0, 0, 0) else none
  else bif Nat.beq pc 171 then some (.aload_n 0, 172, 0, 0, 0, 0, 0) else none
  else bif Nat.blt pc 187 then bif Nat.blt pc 177 then bif Nat.blt pc 175 then bif Nat.beq pc 172 then some (.getfield 34, 175, 8, 17, 2, 0, 0) else none
  else bif Nat.blt pc 176 then bif Nat.beq pc 175 then some (.iconst 0, 176, 0, 0, 0, 0, 0) else none
  else bif Nat.beq pc 176 then some (.laload, 177, 0, 0, 0, 0, 0) else none
  else bif Nat.blt pc 181 then bif Nat.blt pc 180 then bif Nat.beq pc 177 then some (.ldc2_w 207, 180, 0, 0, 0, 0, 9999) else none
  else bif Nat.beq pc 180 then some (.lcmp, 181, 0, 0, 0, 0, 0) else none
  else bif Nat.blt pc 184 then bif Nat.beq pc 181 then some (.ifCond .le 9, 184, 190, 0, 0, 0, 0) else none
  else bif Nat.beq pc 184 then some (.sipush 9999, 187, 0, 0, 0, 9999, 0) else none
  else bif Nat.blt pc 194 then bif Nat.blt pc 190 then bif Nat.beq pc 187 then some (.goto 10, 190, 197, 0, 0, 0, 0) else none
  else bif Nat.blt pc 191 then bif Nat.beq pc 190 then some (.aload_n 0, 191, 0, 0, 0, 0, 0) else none
  else bif Nat.beq pc 191 then some (.getfield 34, 194, 8, 17, 2, 0, 0) else none
  else bif Nat.blt pc 196 then bif Nat.blt pc 195 then bif Nat.beq pc 194 then some (.iconst 0, 195, 0, 0, 0, 0, 0) else none
  else bif Nat.beq pc 195 then some (.laload, 196, 0, 0, 0, 0, 0) else none
  else bif Nat.blt pc 197 then bif Nat.beq pc 196 then some (.l2i, 197, 0, 0, 0, 0, 0) else none
  else bif Nat.beq pc 197 then some (.ireturn, 198, 0, 0, 0, 0, 0) else none
def rs_X8_serviceOf : PMR := (1, 0, hdl [], 7)
def mi_X8_serviceOf : PMI := wrapM 198 cd_X8_serviceOf rs_X8_serviceOf
def cd_X8_lengthOf (pc : Nat) : Option PE :=
  bif Nat.blt pc 8 then bif Nat.blt pc 4 then bif Nat.blt pc 1 then bif Nat.beq pc 0 then some (.aload_n 0, 1, 0, 0, 0, 0, 0) else none
  else bif Nat.beq pc 1 then some (.getfield 17, 4, 8, 8, 2, 0, 0) else none
  else bif Nat.blt pc 5 then bif Nat.beq pc 4 then some (.iload_n 1, 5, 1, 0, 0, 0, 0) else none
  else bif Nat.beq pc 5 then some (.invokestatic 209, 8, 116, 1, 99, 0, 0) else none
  else bif Nat.blt pc 10 then bif Nat.blt pc 9 then bif Nat.beq pc 8 then some (.iconst 1, 9, 0, 0, 0, 1, 0) else none
  else bif Nat.beq pc 9 then some (.iadd, 10, 0, 0, 0, 0, 0) else none
  else bif Nat.blt pc 11 then bif Nat.beq pc 10 then some (.iaload, 11, 0, 0, 0, 0, 0) else none
  else bif Nat.beq pc 11 then some (.ireturn, 12, 0, 0, 0, 0, 0) else none
def rs_X8_lengthOf : PMR := (1, 0, hdl [], 2)
def mi_X8_lengthOf : PMI := wrapM 12 cd_X8_lengthOf rs_X8_lengthOf
def cd_X8_arcOf (pc : Nat) : Option PE :=
  bif Nat.blt pc 9 then bif Nat.blt pc 4 then bif Nat.blt pc 1 then bif Nat.beq pc 0 then some (.aload_n 0, 1, 0, 0, 0, 0, 0) else none
  else bif Nat.beq pc 1 then some (.getfield 17, 4, 8, 8, 2, 0, 0) else none
  else bif Nat.blt pc 5 then bif Nat.beq pc 4 then some (.iload_n 1, 5, 1, 0, 0, 0, 0) else none
  else bif Nat.blt pc 8 then bif Nat.beq pc 5 then some (.invokestatic 209, 8, 116, 1, 99, 0, 0) else none
  else bif Nat.beq pc 8 then some (.iconst 2, 9, 0, 0, 0, 2, 0) else none
  else bif Nat.blt pc 11 then bif Nat.blt pc 10 then bif Nat.beq pc 9 then some (.iadd, 10, 0, 0, 0, 0, 0) else none
  else bif Nat.beq pc 10 then some (.iload_n 2, 11, 2, 0, 0, 0, 0) else none
  else bif Nat.blt pc 12 then bif Nat.beq pc 11 then some (.iadd, 12, 0, 0, 0, 0, 0) else none
  else bif Nat.blt pc 13 then bif Nat.beq pc 12 then some (.iaload, 13, 0, 0, 0, 0, 0) else none
  else bif Nat.beq pc 13 then some (.ireturn, 14, 0, 0, 0, 0, 0) else none
def rs_X8_arcOf : PMR := (1, 0, hdl [], 3)
def mi_X8_arcOf : PMI := wrapM 14 cd_X8_arcOf rs_X8_arcOf
def cd_X8_costOfTour (pc : Nat) : Option PE :=
  bif Nat.blt pc 52 then bif Nat.blt pc 25 then bif Nat.blt pc 14 then bif Nat.blt pc 6 then bif Nat.blt pc 2 then bif Nat.blt pc 1 then bif Nat.beq pc 0 then some (.aload_n 0, 1, 0, 0, 0, 0, 0) else none
  else bif Nat.beq pc 1 then some (.iload_n 1, 2, 1, 0, 0, 0, 0) else none
  else bif Nat.blt pc 5 then bif Nat.beq pc 2 then some (.invokevirtual 212, 5, 150, 2, 8, 0, 0) else none
  else bif Nat.beq pc 5 then some (.istore_n 2, 6, 2, 0, 0, 0, 0) else none
  else bif Nat.blt pc 10 then bif Nat.blt pc 7 then bif Nat.beq pc 6 then some (.aload_n 0, 7, 0, 0, 0, 0, 0) else none
  else bif Nat.beq pc 7 then some (.getfield 17, 10, 8, 8, 2, 0, 0) else none
  else bif Nat.blt pc 11 then bif Nat.beq pc 10 then some (.iload_n 1, 11, 1, 0, 0, 0, 0) else none
  else bif Nat.beq pc 11 then some (.invokestatic 209, 14, 116, 1, 99, 0, 0) else none
  else bif Nat.blt pc 20 then bif Nat.blt pc 16 then bif Nat.blt pc 15 then bif Nat.beq pc 14 then some (.iaload, 15, 0, 0, 0, 0, 0) else none
  else bif Nat.beq pc 15 then some (.istore_n 3, 16, 3, 0, 0, 0, 0) else none
  else bif Nat.blt pc 17 then bif Nat.beq pc 16 then some (.iload_n 2, 17, 2, 0, 0, 0, 0) else none
  else bif Nat.beq pc 17 then some (.ifCond .ne 5, 20, 22, 0, 0, 0, 0) else none
  else bif Nat.blt pc 22 then bif Nat.blt pc 21 then bif Nat.beq pc 20 then some (.iconst 0, 21, 0, 0, 0, 0, 0) else none
  else bif Nat.beq pc 21 then some (.ireturn, 22, 0, 0, 0, 0, 0) else none
  else bif Nat.blt pc 23 then bif Nat.beq pc 22 then some (.aload_n 0, 23, 0, 0, 0, 0, 0) else none
  else bif Nat.blt pc 24 then bif Nat.beq pc 23 then some (.iload_n 3, 24, 3, 0, 0, 0, 0) else none
  else bif Nat.beq pc 24 then some (.aload_n 0, 25, 0, 0, 0, 0, 0) else none
  else bif Nat.blt pc 37 then bif Nat.blt pc 33 then bif Nat.blt pc 27 then bif Nat.blt pc 26 then bif Nat.beq pc 25 then some (.iload_n 1, 26, 1, 0, 0, 0, 0) else none
  else bif Nat.beq pc 26 then some (.iconst 0, 27, 0, 0, 0, 0, 0) else none
  else bif Nat.blt pc 30 then bif Nat.beq pc 27 then some (.invokevirtual 215, 30, 151, 3, 8, 0, 0) else none
  else bif Nat.beq pc 30 then some (.invokevirtual 218, 33, 144, 3, 8, 0, 0) else none
  else bif Nat.blt pc 35 then bif Nat.blt pc 34 then bif Nat.beq pc 33 then some (.aload_n 0, 34, 0, 0, 0, 0, 0) else none
  else bif Nat.beq pc 34 then some (.aload_n 0, 35, 0, 0, 0, 0, 0) else none
  else bif Nat.blt pc 36 then bif Nat.beq pc 35 then some (.iload_n 1, 36, 1, 0, 0, 0, 0) else none
  else bif Nat.beq pc 36 then some (.iload_n 2, 37, 2, 0, 0, 0, 0) else none
  else bif Nat.blt pc 43 then bif Nat.blt pc 39 then bif Nat.blt pc 38 then bif Nat.beq pc 37 then some (.iconst 1, 38, 0, 0, 0, 1, 0) else none
  else bif Nat.beq pc 38 then some (.isub, 39, 0, 0, 0, 0, 0) else none
  else bif Nat.blt pc 42 then bif Nat.beq pc 39 then some (.invokevirtual 215, 42, 151, 3, 8, 0, 0) else none
  else bif Nat.beq pc 42 then some (.iload_n 3, 43, 3, 0, 0, 0, 0) else none
  else bif Nat.blt pc 47 then bif Nat.blt pc 46 then bif Nat.beq pc 43 then some (.invokevirtual 192, 46, 145, 3, 8, 0, 0) else none
  else bif Nat.beq pc 46 then some (.iadd, 47, 0, 0, 0, 0, 0) else none
  else bif Nat.blt pc 49 then bif Nat.beq pc 47 then some (.istore 4, 49, 4, 0, 0, 0, 0) else none
  else bif Nat.blt pc 50 then bif Nat.beq pc 49 then some (.iconst 0, 50, 0, 0, 0, 0, 0) else none
  else bif Nat.beq pc 50 then some (.istore 5, 52, 5, 0, 0, 0, 0) else none
  else bif Nat.blt pc 85 then bif Nat.blt pc 65 then bif Nat.blt pc 60 then bif Nat.blt pc 55 then bif Nat.blt pc 54 then bif Nat.beq pc 52 then some (.iload 5, 54, 5, 0, 0, 0, 0) else none
  else bif Nat.beq pc 54 then some (.iload_n 2, 55, 2, 0, 0, 0, 0) else none
  else bif Nat.blt pc 58 then bif Nat.beq pc 55 then some (.if_icmp .ge 57, 58, 112, 0, 0, 0, 0) else none
  else bif Nat.beq pc 58 then some (.iload 4, 60, 4, 0, 0, 0, 0) else none
  else bif Nat.blt pc 62 then bif Nat.blt pc 61 then bif Nat.beq pc 60 then some (.aload_n 0, 61, 0, 0, 0, 0, 0) else none
  else bif Nat.beq pc 61 then some (.aload_n 0, 62, 0, 0, 0, 0, 0) else none
  else bif Nat.blt pc 63 then bif Nat.beq pc 62 then some (.iload_n 1, 63, 1, 0, 0, 0, 0) else none
  else bif Nat.beq pc 63 then some (.iload 5, 65, 5, 0, 0, 0, 0) else none
  else bif Nat.blt pc 76 then bif Nat.blt pc 71 then bif Nat.blt pc 68 then bif Nat.beq pc 65 then some (.invokevirtual 215, 68, 151, 3, 8, 0, 0) else none
  else bif Nat.beq pc 68 then some (.invokevirtual 221, 71, 149, 2, 8, 0, 0) else none
  else bif Nat.blt pc 73 then bif Nat.beq pc 71 then some (.iload 5, 73, 5, 0, 0, 0, 0) else none
  else bif Nat.beq pc 73 then some (.ifCond .ne 7, 76, 80, 0, 0, 0, 0) else none
  else bif Nat.blt pc 80 then bif Nat.blt pc 77 then bif Nat.beq pc 76 then some (.iconst 0, 77, 0, 0, 0, 0, 0) else none
  else bif Nat.beq pc 77 then some (.goto 25, 80, 102, 0, 0, 0, 0) else none
  else bif Nat.blt pc 81 then bif Nat.beq pc 80 then some (.aload_n 0, 81, 0, 0, 0, 0, 0) else none
  else bif Nat.blt pc 84 then bif Nat.beq pc 81 then some (.getfield 31, 84, 8, 16, 2, 0, 0) else none
  else bif Nat.beq pc 84 then some (.aload_n 0, 85, 0, 0, 0, 0, 0) else none
  else bif Nat.blt pc 98 then bif Nat.blt pc 90 then bif Nat.blt pc 88 then bif Nat.blt pc 86 then bif Nat.beq pc 85 then some (.iload_n 1, 86, 1, 0, 0, 0, 0) else none
  else bif Nat.beq pc 86 then some (.iload 5, 88, 5, 0, 0, 0, 0) else none
  else bif Nat.blt pc 89 then bif Nat.beq pc 88 then some (.iconst 1, 89, 0, 0, 0, 1, 0) else none
  else bif Nat.beq pc 89 then some (.isub, 90, 0, 0, 0, 0, 0) else none
  else bif Nat.blt pc 94 then bif Nat.blt pc 93 then bif Nat.beq pc 90 then some (.invokevirtual 215, 93, 151, 3, 8, 0, 0) else none
  else bif Nat.beq pc 93 then some (.aaload, 94, 0, 0, 0, 0, 0) else none
  else bif Nat.blt pc 95 then bif Nat.beq pc 94 then some (.aload_n 0, 95, 0, 0, 0, 0, 0) else none
  else bif Nat.blt pc 96 then bif Nat.beq pc 95 then some (.iload_n 1, 96, 1, 0, 0, 0, 0) else none
  else bif Nat.beq pc 96 then some (.iload 5, 98, 5, 0, 0, 0, 0) else none
  else bif Nat.blt pc 104 then bif Nat.blt pc 102 then bif Nat.blt pc 101 then bif Nat.beq pc 98 then some (.invokevirtual 215, 101, 151, 3, 8, 0, 0) else none
  else bif Nat.beq pc 101 then some (.iaload, 102, 0, 0, 0, 0, 0) else none
  else bif Nat.blt pc 103 then bif Nat.beq pc 102 then some (.iadd, 103, 0, 0, 0, 0, 0) else none
  else bif Nat.beq pc 103 then some (.iadd, 104, 0, 0, 0, 0, 0) else none
  else bif Nat.blt pc 109 then bif Nat.blt pc 106 then bif Nat.beq pc 104 then some (.istore 4, 106, 4, 0, 0, 0, 0) else none
  else bif Nat.beq pc 106 then some (.iinc 5 1, 109, 5, 0, 0, 1, 0) else none
  else bif Nat.blt pc 112 then bif Nat.beq pc 109 then some (.goto (-57), 112, 52, 0, 0, 0, 0) else none
  else bif Nat.blt pc 114 then bif Nat.beq pc 112 then some (.iload 4, 114, 4, 0, 0, 0, 0) else none
  else bif Nat.beq pc 114 then some (.ireturn, 115, 0, 0, 0, 0, 0) else none
def rs_X8_costOfTour : PMR := (1, 0, hdl [], 6)
def mi_X8_costOfTour : PMI := wrapM 115 cd_X8_costOfTour rs_X8_costOfTour
def cd_X8_loadOfTour (pc : Nat) : Option PE :=
  bif Nat.blt pc 16 then bif Nat.blt pc 6 then bif Nat.blt pc 3 then bif Nat.blt pc 1 then bif Nat.beq pc 0 then some (.iconst 0, 1, 0, 0, 0, 0, 0) else none
  else bif Nat.blt pc 2 then bif Nat.beq pc 1 then some (.istore_n 2, 2, 2, 0, 0, 0, 0) else none
  else bif Nat.beq pc 2 then some (.iconst 0, 3, 0, 0, 0, 0, 0) else none
  else bif Nat.blt pc 4 then bif Nat.beq pc 3 then some (.istore_n 3, 4, 3, 0, 0, 0, 0) else none
  else bif Nat.blt pc 5 then bif Nat.beq pc 4 then some (.iload_n 3, 5, 3, 0, 0, 0, 0) else none
  else bif Nat.beq pc 5 then some (.aload_n 0, 6, 0, 0, 0, 0, 0) else none
  else bif Nat.blt pc 13 then bif Nat.blt pc 7 then bif Nat.beq pc 6 then some (.iload_n 1, 7, 1, 0, 0, 0, 0) else none
  else bif Nat.blt pc 10 then bif Nat.beq pc 7 then some (.invokevirtual 212, 10, 150, 2, 8, 0, 0) else none
  else bif Nat.beq pc 10 then some (.if_icmp .ge 24, 13, 34, 0, 0, 0, 0) else none
  else bif Nat.blt pc 14 then bif Nat.beq pc 13 then some (.iload_n 2, 14, 2, 0, 0, 0, 0) else none
  else bif Nat.blt pc 15 then bif Nat.beq pc 14 then some (.aload_n 0, 15, 0, 0, 0, 0, 0) else none
  else bif Nat.beq pc 15 then some (.aload_n 0, 16, 0, 0, 0, 0, 0) else none
  else bif Nat.blt pc 26 then bif Nat.blt pc 21 then bif Nat.blt pc 17 then bif Nat.beq pc 16 then some (.iload_n 1, 17, 1, 0, 0, 0, 0) else none
  else bif Nat.blt pc 18 then bif Nat.beq pc 17 then some (.iload_n 3, 18, 3, 0, 0, 0, 0) else none
  else bif Nat.beq pc 18 then some (.invokevirtual 215, 21, 151, 3, 8, 0, 0) else none
  else bif Nat.blt pc 22 then bif Nat.beq pc 21 then some (.iconst 2, 22, 0, 0, 0, 2, 0) else none
  else bif Nat.blt pc 23 then bif Nat.beq pc 22 then some (.idiv, 23, 0, 0, 0, 0, 0) else none
  else bif Nat.beq pc 23 then some (.invokevirtual 224, 26, 154, 2, 8, 0, 0) else none
  else bif Nat.blt pc 31 then bif Nat.blt pc 27 then bif Nat.beq pc 26 then some (.iadd, 27, 0, 0, 0, 0, 0) else none
  else bif Nat.blt pc 28 then bif Nat.beq pc 27 then some (.istore_n 2, 28, 2, 0, 0, 0, 0) else none
  else bif Nat.beq pc 28 then some (.iinc 3 1, 31, 3, 0, 0, 1, 0) else none
  else bif Nat.blt pc 34 then bif Nat.beq pc 31 then some (.goto (-27), 34, 4, 0, 0, 0, 0) else none
  else bif Nat.blt pc 35 then bif Nat.beq pc 34 then some (.iload_n 2, 35, 2, 0, 0, 0, 0) else none
  else bif Nat.beq pc 35 then some (.ireturn, 36, 0, 0, 0, 0, 0) else none
def rs_X8_loadOfTour : PMR := (1, 0, hdl [], 4)
def mi_X8_loadOfTour : PMI := wrapM 36 cd_X8_loadOfTour rs_X8_loadOfTour
def cd_X8_demandOf (pc : Nat) : Option PE :=
  bif Nat.blt pc 8 then bif Nat.blt pc 4 then bif Nat.blt pc 1 then bif Nat.beq pc 0 then some (.aload_n 0, 1, 0, 0, 0, 0, 0) else none
  else bif Nat.beq pc 1 then some (.getfield 17, 4, 8, 8, 2, 0, 0) else none
  else bif Nat.blt pc 5 then bif Nat.beq pc 4 then some (.iload_n 1, 5, 1, 0, 0, 0, 0) else none
  else bif Nat.beq pc 5 then some (.invokestatic 130, 8, 114, 1, 99, 0, 0) else none
  else bif Nat.blt pc 10 then bif Nat.blt pc 9 then bif Nat.beq pc 8 then some (.iconst 4, 9, 0, 0, 0, 4, 0) else none
  else bif Nat.beq pc 9 then some (.iadd, 10, 0, 0, 0, 0, 0) else none
  else bif Nat.blt pc 11 then bif Nat.beq pc 10 then some (.iaload, 11, 0, 0, 0, 0, 0) else none
  else bif Nat.beq pc 11 then some (.ireturn, 12, 0, 0, 0, 0, 0) else none
def rs_X8_demandOf : PMR := (1, 0, hdl [], 2)
def mi_X8_demandOf : PMI := wrapM 12 cd_X8_demandOf rs_X8_demandOf
def cd_X8_totalOf (pc : Nat) : Option PE :=
  bif Nat.blt pc 14 then bif Nat.blt pc 5 then bif Nat.blt pc 2 then bif Nat.blt pc 1 then bif Nat.beq pc 0 then some (.iconst 0, 1, 0, 0, 0, 0, 0) else none
  else bif Nat.beq pc 1 then some (.istore_n 1, 2, 1, 0, 0, 0, 0) else none
  else bif Nat.blt pc 3 then bif Nat.beq pc 2 then some (.iconst 0, 3, 0, 0, 0, 0, 0) else none
  else bif Nat.blt pc 4 then bif Nat.beq pc 3 then some (.istore_n 2, 4, 2, 0, 0, 0, 0) else none
  else bif Nat.beq pc 4 then some (.iload_n 2, 5, 2, 0, 0, 0, 0) else none
  else bif Nat.blt pc 9 then bif Nat.blt pc 6 then bif Nat.beq pc 5 then some (.aload_n 0, 6, 0, 0, 0, 0, 0) else none
  else bif Nat.beq pc 6 then some (.getfield 17, 9, 8, 8, 2, 0, 0) else none
  else bif Nat.blt pc 10 then bif Nat.beq pc 9 then some (.iconst 4, 10, 0, 0, 0, 4, 0) else none
  else bif Nat.blt pc 11 then bif Nat.beq pc 10 then some (.iaload, 11, 0, 0, 0, 0, 0) else none
  else bif Nat.beq pc 11 then some (.if_icmp .ge 17, 14, 28, 0, 0, 0, 0) else none
  else bif Nat.blt pc 21 then bif Nat.blt pc 16 then bif Nat.blt pc 15 then bif Nat.beq pc 14 then some (.iload_n 1, 15, 1, 0, 0, 0, 0) else none
  else bif Nat.beq pc 15 then some (.aload_n 0, 16, 0, 0, 0, 0, 0) else none
  else bif Nat.blt pc 17 then bif Nat.beq pc 16 then some (.iload_n 2, 17, 2, 0, 0, 0, 0) else none
  else bif Nat.blt pc 20 then bif Nat.beq pc 17 then some (.invokevirtual 227, 20, 152, 2, 8, 0, 0) else none
  else bif Nat.beq pc 20 then some (.iadd, 21, 0, 0, 0, 0, 0) else none
  else bif Nat.blt pc 25 then bif Nat.blt pc 22 then bif Nat.beq pc 21 then some (.istore_n 1, 22, 1, 0, 0, 0, 0) else none
  else bif Nat.beq pc 22 then some (.iinc 2 1, 25, 2, 0, 0, 1, 0) else none
  else bif Nat.blt pc 28 then bif Nat.beq pc 25 then some (.goto (-21), 28, 4, 0, 0, 0, 0) else none
  else bif Nat.blt pc 29 then bif Nat.beq pc 28 then some (.iload_n 1, 29, 1, 0, 0, 0, 0) else none
  else bif Nat.beq pc 29 then some (.ireturn, 30, 0, 0, 0, 0, 0) else none
def rs_X8_totalOf : PMR := (1, 0, hdl [], 3)
def mi_X8_totalOf : PMI := wrapM 30 cd_X8_totalOf rs_X8_totalOf
def cd_X8_tourWith (pc : Nat) : Option PE :=
  bif Nat.blt pc 14 then bif Nat.blt pc 7 then bif Nat.blt pc 2 then bif Nat.blt pc 1 then bif Nat.beq pc 0 then some (.iconst 0, 1, 0, 0, 0, 0, 0) else none
  else bif Nat.beq pc 1 then some (.istore_n 2, 2, 2, 0, 0, 0, 0) else none
  else bif Nat.blt pc 3 then bif Nat.beq pc 2 then some (.iload_n 2, 3, 2, 0, 0, 0, 0) else none
  else bif Nat.blt pc 4 then bif Nat.beq pc 3 then some (.aload_n 0, 4, 0, 0, 0, 0, 0) else none
  else bif Nat.beq pc 4 then some (.getfield 17, 7, 8, 8, 2, 0, 0) else none
  else bif Nat.blt pc 9 then bif Nat.blt pc 8 then bif Nat.beq pc 7 then some (.iconst 4, 8, 0, 0, 0, 4, 0) else none
  else bif Nat.beq pc 8 then some (.iaload, 9, 0, 0, 0, 0, 0) else none
  else bif Nat.blt pc 12 then bif Nat.beq pc 9 then some (.if_icmp .ge 21, 12, 30, 0, 0, 0, 0) else none
  else bif Nat.blt pc 13 then bif Nat.beq pc 12 then some (.aload_n 0, 13, 0, 0, 0, 0, 0) else none
  else bif Nat.beq pc 13 then some (.iload_n 2, 14, 2, 0, 0, 0, 0) else none
  else bif Nat.blt pc 23 then bif Nat.blt pc 18 then bif Nat.blt pc 15 then bif Nat.beq pc 14 then some (.iload_n 1, 15, 1, 0, 0, 0, 0) else none
  else bif Nat.beq pc 15 then some (.invokevirtual 230, 18, 157, 3, 8, 0, 0) else none
  else bif Nat.blt pc 19 then bif Nat.beq pc 18 then some (.iconst (-1), 19, 0, 0, 0, (-1), 0) else none
  else bif Nat.blt pc 22 then bif Nat.beq pc 19 then some (.if_icmp .eq 5, 22, 24, 0, 0, 0, 0) else none
  else bif Nat.beq pc 22 then some (.iload_n 2, 23, 2, 0, 0, 0, 0) else none
  else bif Nat.blt pc 27 then bif Nat.blt pc 24 then bif Nat.beq pc 23 then some (.ireturn, 24, 0, 0, 0, 0, 0) else none
  else bif Nat.beq pc 24 then some (.iinc 2 1, 27, 2, 0, 0, 1, 0) else none
  else bif Nat.blt pc 30 then bif Nat.beq pc 27 then some (.goto (-25), 30, 2, 0, 0, 0, 0) else none
  else bif Nat.blt pc 31 then bif Nat.beq pc 30 then some (.iconst (-1), 31, 0, 0, 0, (-1), 0) else none
  else bif Nat.beq pc 31 then some (.ireturn, 32, 0, 0, 0, 0, 0) else none
def rs_X8_tourWith : PMR := (1, 0, hdl [], 3)
def mi_X8_tourWith : PMI := wrapM 32 cd_X8_tourWith rs_X8_tourWith
def cd_X8_placeIn (pc : Nat) : Option PE :=
  bif Nat.blt pc 14 then bif Nat.blt pc 5 then bif Nat.blt pc 2 then bif Nat.blt pc 1 then bif Nat.beq pc 0 then some (.iconst 0, 1, 0, 0, 0, 0, 0) else none
  else bif Nat.beq pc 1 then some (.istore_n 3, 2, 3, 0, 0, 0, 0) else none
  else bif Nat.blt pc 3 then bif Nat.beq pc 2 then some (.iload_n 3, 3, 3, 0, 0, 0, 0) else none
  else bif Nat.blt pc 4 then bif Nat.beq pc 3 then some (.aload_n 0, 4, 0, 0, 0, 0, 0) else none
  else bif Nat.beq pc 4 then some (.iload_n 1, 5, 1, 0, 0, 0, 0) else none
  else bif Nat.blt pc 11 then bif Nat.blt pc 8 then bif Nat.beq pc 5 then some (.invokevirtual 212, 8, 150, 2, 8, 0, 0) else none
  else bif Nat.beq pc 8 then some (.if_icmp .ge 23, 11, 31, 0, 0, 0, 0) else none
  else bif Nat.blt pc 12 then bif Nat.beq pc 11 then some (.aload_n 0, 12, 0, 0, 0, 0, 0) else none
  else bif Nat.blt pc 13 then bif Nat.beq pc 12 then some (.iload_n 1, 13, 1, 0, 0, 0, 0) else none
  else bif Nat.beq pc 13 then some (.iload_n 3, 14, 3, 0, 0, 0, 0) else none
  else bif Nat.blt pc 23 then bif Nat.blt pc 18 then bif Nat.blt pc 17 then bif Nat.beq pc 14 then some (.invokevirtual 215, 17, 151, 3, 8, 0, 0) else none
  else bif Nat.beq pc 17 then some (.iconst 2, 18, 0, 0, 0, 2, 0) else none
  else bif Nat.blt pc 19 then bif Nat.beq pc 18 then some (.idiv, 19, 0, 0, 0, 0, 0) else none
  else bif Nat.blt pc 20 then bif Nat.beq pc 19 then some (.iload_n 2, 20, 2, 0, 0, 0, 0) else none
  else bif Nat.beq pc 20 then some (.if_icmp .ne 5, 23, 25, 0, 0, 0, 0) else none
  else bif Nat.blt pc 28 then bif Nat.blt pc 24 then bif Nat.beq pc 23 then some (.iload_n 3, 24, 3, 0, 0, 0, 0) else none
  else bif Nat.blt pc 25 then bif Nat.beq pc 24 then some (.ireturn, 25, 0, 0, 0, 0, 0) else none
  else bif Nat.beq pc 25 then some (.iinc 3 1, 28, 3, 0, 0, 1, 0) else none
  else bif Nat.blt pc 31 then bif Nat.beq pc 28 then some (.goto (-26), 31, 2, 0, 0, 0, 0) else none
  else bif Nat.blt pc 32 then bif Nat.beq pc 31 then some (.iconst (-1), 32, 0, 0, 0, (-1), 0) else none
  else bif Nat.beq pc 32 then some (.ireturn, 33, 0, 0, 0, 0, 0) else none
def rs_X8_placeIn : PMR := (1, 0, hdl [], 4)
def mi_X8_placeIn : PMI := wrapM 33 cd_X8_placeIn rs_X8_placeIn
def cd_X8_put (pc : Nat) : Option PE :=
  bif Nat.blt pc 40 then bif Nat.blt pc 18 then bif Nat.blt pc 8 then bif Nat.blt pc 4 then bif Nat.blt pc 1 then bif Nat.beq pc 0 then some (.iload_n 1, 1, 1, 0, 0, 0, 0) else none
  else bif Nat.beq pc 1 then some (.invokestatic 209, 4, 116, 1, 99, 0, 0) else none
  else bif Nat.blt pc 5 then bif Nat.beq pc 4 then some (.iconst 2, 5, 0, 0, 0, 2, 0) else none
  else bif Nat.blt pc 6 then bif Nat.beq pc 5 then some (.iadd, 6, 0, 0, 0, 0, 0) else none
  else bif Nat.beq pc 6 then some (.istore 4, 8, 4, 0, 0, 0, 0) else none
  else bif Nat.blt pc 12 then bif Nat.blt pc 10 then bif Nat.beq pc 8 then some (.iload 4, 10, 4, 0, 0, 0, 0) else none
  else bif Nat.blt pc 11 then bif Nat.beq pc 10 then some (.aload_n 0, 11, 0, 0, 0, 0, 0) else none
  else bif Nat.beq pc 11 then some (.iload_n 1, 12, 1, 0, 0, 0, 0) else none
  else bif Nat.blt pc 15 then bif Nat.beq pc 12 then some (.invokevirtual 212, 15, 150, 2, 8, 0, 0) else none
  else bif Nat.blt pc 16 then bif Nat.beq pc 15 then some (.iadd, 16, 0, 0, 0, 0, 0) else none
  else bif Nat.beq pc 16 then some (.istore 5, 18, 5, 0, 0, 0, 0) else none
  else bif Nat.blt pc 28 then bif Nat.blt pc 23 then bif Nat.blt pc 20 then bif Nat.beq pc 18 then some (.iload 5, 20, 5, 0, 0, 0, 0) else none
  else bif Nat.blt pc 22 then bif Nat.beq pc 20 then some (.iload 4, 22, 4, 0, 0, 0, 0) else none
  else bif Nat.beq pc 22 then some (.iload_n 2, 23, 2, 0, 0, 0, 0) else none
  else bif Nat.blt pc 24 then bif Nat.beq pc 23 then some (.iadd, 24, 0, 0, 0, 0, 0) else none
  else bif Nat.blt pc 27 then bif Nat.beq pc 24 then some (.if_icmp .le 25, 27, 49, 0, 0, 0, 0) else none
  else bif Nat.beq pc 27 then some (.aload_n 0, 28, 0, 0, 0, 0, 0) else none
  else bif Nat.blt pc 34 then bif Nat.blt pc 31 then bif Nat.beq pc 28 then some (.getfield 17, 31, 8, 8, 2, 0, 0) else none
  else bif Nat.blt pc 33 then bif Nat.beq pc 31 then some (.iload 5, 33, 5, 0, 0, 0, 0) else none
  else bif Nat.beq pc 33 then some (.aload_n 0, 34, 0, 0, 0, 0, 0) else none
  else bif Nat.blt pc 37 then bif Nat.beq pc 34 then some (.getfield 17, 37, 8, 8, 2, 0, 0) else none
  else bif Nat.blt pc 39 then bif Nat.beq pc 37 then some (.iload 5, 39, 5, 0, 0, 0, 0) else none
  else bif Nat.beq pc 39 then some (.iconst 1, 40, 0, 0, 0, 1, 0) else none
  else bif Nat.blt pc 59 then bif Nat.blt pc 50 then bif Nat.blt pc 43 then bif Nat.blt pc 41 then bif Nat.beq pc 40 then some (.isub, 41, 0, 0, 0, 0, 0) else none
  else bif Nat.blt pc 42 then bif Nat.beq pc 41 then some (.iaload, 42, 0, 0, 0, 0, 0) else none
  else bif Nat.beq pc 42 then some (.iastore, 43, 0, 0, 0, 0, 0) else none
  else bif Nat.blt pc 46 then bif Nat.beq pc 43 then some (.iinc 5 (-1), 46, 5, 0, 0, (-1), 0) else none
  else bif Nat.blt pc 49 then bif Nat.beq pc 46 then some (.goto (-28), 49, 18, 0, 0, 0, 0) else none
  else bif Nat.beq pc 49 then some (.aload_n 0, 50, 0, 0, 0, 0, 0) else none
  else bif Nat.blt pc 56 then bif Nat.blt pc 53 then bif Nat.beq pc 50 then some (.getfield 17, 53, 8, 8, 2, 0, 0) else none
  else bif Nat.blt pc 55 then bif Nat.beq pc 53 then some (.iload 4, 55, 4, 0, 0, 0, 0) else none
  else bif Nat.beq pc 55 then some (.iload_n 2, 56, 2, 0, 0, 0, 0) else none
  else bif Nat.blt pc 57 then bif Nat.beq pc 56 then some (.iadd, 57, 0, 0, 0, 0, 0) else none
  else bif Nat.blt pc 58 then bif Nat.beq pc 57 then some (.iload_n 3, 58, 3, 0, 0, 0, 0) else none
  else bif Nat.beq pc 58 then some (.iastore, 59, 0, 0, 0, 0, 0) else none
  else bif Nat.blt pc 69 then bif Nat.blt pc 64 then bif Nat.blt pc 60 then bif Nat.beq pc 59 then some (.aload_n 0, 60, 0, 0, 0, 0, 0) else none
  else bif Nat.blt pc 63 then bif Nat.beq pc 60 then some (.getfield 17, 63, 8, 8, 2, 0, 0) else none
  else bif Nat.beq pc 63 then some (.iload_n 1, 64, 1, 0, 0, 0, 0) else none
  else bif Nat.blt pc 67 then bif Nat.beq pc 64 then some (.invokestatic 209, 67, 116, 1, 99, 0, 0) else none
  else bif Nat.blt pc 68 then bif Nat.beq pc 67 then some (.iconst 1, 68, 0, 0, 0, 1, 0) else none
  else bif Nat.beq pc 68 then some (.iadd, 69, 0, 0, 0, 0, 0) else none
  else bif Nat.blt pc 72 then bif Nat.blt pc 70 then bif Nat.beq pc 69 then some (.dup2, 70, 0, 0, 0, 0, 0) else none
  else bif Nat.blt pc 71 then bif Nat.beq pc 70 then some (.iaload, 71, 0, 0, 0, 0, 0) else none
  else bif Nat.beq pc 71 then some (.iconst 1, 72, 0, 0, 0, 1, 0) else none
  else bif Nat.blt pc 73 then bif Nat.beq pc 72 then some (.iadd, 73, 0, 0, 0, 0, 0) else none
  else bif Nat.blt pc 74 then bif Nat.beq pc 73 then some (.iastore, 74, 0, 0, 0, 0, 0) else none
  else bif Nat.beq pc 74 then some (.return_, 75, 0, 0, 0, 0, 0) else none
def rs_X8_put : PMR := (0, 0, hdl [], 6)
def mi_X8_put : PMI := wrapM 75 cd_X8_put rs_X8_put
def cd_X8_take (pc : Nat) : Option PE :=
  bif Nat.blt pc 27 then bif Nat.blt pc 14 then bif Nat.blt pc 9 then bif Nat.blt pc 4 then bif Nat.blt pc 1 then bif Nat.beq pc 0 then some (.aload_n 0, 1, 0, 0, 0, 0, 0) else none
  else bif Nat.beq pc 1 then some (.getfield 17, 4, 8, 8, 2, 0, 0) else none
  else bif Nat.blt pc 5 then bif Nat.beq pc 4 then some (.iload_n 1, 5, 1, 0, 0, 0, 0) else none
  else bif Nat.blt pc 8 then bif Nat.beq pc 5 then some (.invokestatic 209, 8, 116, 1, 99, 0, 0) else none
  else bif Nat.beq pc 8 then some (.iconst 1, 9, 0, 0, 0, 1, 0) else none
  else bif Nat.blt pc 11 then bif Nat.blt pc 10 then bif Nat.beq pc 9 then some (.iadd, 10, 0, 0, 0, 0, 0) else none
  else bif Nat.beq pc 10 then some (.dup2, 11, 0, 0, 0, 0, 0) else none
  else bif Nat.blt pc 12 then bif Nat.beq pc 11 then some (.iaload, 12, 0, 0, 0, 0, 0) else none
  else bif Nat.blt pc 13 then bif Nat.beq pc 12 then some (.iconst 1, 13, 0, 0, 0, 1, 0) else none
  else bif Nat.beq pc 13 then some (.isub, 14, 0, 0, 0, 0, 0) else none
  else bif Nat.blt pc 21 then bif Nat.blt pc 16 then bif Nat.blt pc 15 then bif Nat.beq pc 14 then some (.iastore, 15, 0, 0, 0, 0, 0) else none
  else bif Nat.beq pc 15 then some (.iload_n 1, 16, 1, 0, 0, 0, 0) else none
  else bif Nat.blt pc 19 then bif Nat.beq pc 16 then some (.invokestatic 209, 19, 116, 1, 99, 0, 0) else none
  else bif Nat.blt pc 20 then bif Nat.beq pc 19 then some (.iconst 2, 20, 0, 0, 0, 2, 0) else none
  else bif Nat.beq pc 20 then some (.iadd, 21, 0, 0, 0, 0, 0) else none
  else bif Nat.blt pc 23 then bif Nat.blt pc 22 then bif Nat.beq pc 21 then some (.istore_n 3, 22, 3, 0, 0, 0, 0) else none
  else bif Nat.beq pc 22 then some (.iload_n 3, 23, 3, 0, 0, 0, 0) else none
  else bif Nat.blt pc 24 then bif Nat.beq pc 23 then some (.iload_n 2, 24, 2, 0, 0, 0, 0) else none
  else bif Nat.blt pc 25 then bif Nat.beq pc 24 then some (.iadd, 25, 0, 0, 0, 0, 0) else none
  else bif Nat.beq pc 25 then some (.istore 4, 27, 4, 0, 0, 0, 0) else none
  else bif Nat.blt pc 45 then bif Nat.blt pc 35 then bif Nat.blt pc 30 then bif Nat.blt pc 29 then bif Nat.beq pc 27 then some (.iload 4, 29, 4, 0, 0, 0, 0) else none
  else bif Nat.beq pc 29 then some (.iload_n 3, 30, 3, 0, 0, 0, 0) else none
  else bif Nat.blt pc 31 then bif Nat.beq pc 30 then some (.aload_n 0, 31, 0, 0, 0, 0, 0) else none
  else bif Nat.blt pc 32 then bif Nat.beq pc 31 then some (.iload_n 1, 32, 1, 0, 0, 0, 0) else none
  else bif Nat.beq pc 32 then some (.invokevirtual 212, 35, 150, 2, 8, 0, 0) else none
  else bif Nat.blt pc 39 then bif Nat.blt pc 36 then bif Nat.beq pc 35 then some (.iadd, 36, 0, 0, 0, 0, 0) else none
  else bif Nat.beq pc 36 then some (.if_icmp .ge 25, 39, 61, 0, 0, 0, 0) else none
  else bif Nat.blt pc 40 then bif Nat.beq pc 39 then some (.aload_n 0, 40, 0, 0, 0, 0, 0) else none
  else bif Nat.blt pc 43 then bif Nat.beq pc 40 then some (.getfield 17, 43, 8, 8, 2, 0, 0) else none
  else bif Nat.beq pc 43 then some (.iload 4, 45, 4, 0, 0, 0, 0) else none
  else bif Nat.blt pc 53 then bif Nat.blt pc 49 then bif Nat.blt pc 46 then bif Nat.beq pc 45 then some (.aload_n 0, 46, 0, 0, 0, 0, 0) else none
  else bif Nat.beq pc 46 then some (.getfield 17, 49, 8, 8, 2, 0, 0) else none
  else bif Nat.blt pc 51 then bif Nat.beq pc 49 then some (.iload 4, 51, 4, 0, 0, 0, 0) else none
  else bif Nat.blt pc 52 then bif Nat.beq pc 51 then some (.iconst 1, 52, 0, 0, 0, 1, 0) else none
  else bif Nat.beq pc 52 then some (.iadd, 53, 0, 0, 0, 0, 0) else none
  else bif Nat.blt pc 55 then bif Nat.blt pc 54 then bif Nat.beq pc 53 then some (.iaload, 54, 0, 0, 0, 0, 0) else none
  else bif Nat.beq pc 54 then some (.iastore, 55, 0, 0, 0, 0, 0) else none
  else bif Nat.blt pc 58 then bif Nat.beq pc 55 then some (.iinc 4 1, 58, 4, 0, 0, 1, 0) else none
  else bif Nat.blt pc 61 then bif Nat.beq pc 58 then some (.goto (-31), 61, 27, 0, 0, 0, 0) else none
  else bif Nat.beq pc 61 then some (.return_, 62, 0, 0, 0, 0, 0) else none
def rs_X8_take : PMR := (0, 0, hdl [], 5)
def mi_X8_take : PMI := wrapM 62 cd_X8_take rs_X8_take
def cd_X8_costWith (pc : Nat) : Option PE :=
  bif Nat.blt pc 24 then bif Nat.blt pc 9 then bif Nat.blt pc 5 then bif Nat.blt pc 1 then bif Nat.beq pc 0 then some (.aload_n 0, 1, 0, 0, 0, 0, 0) else none
  else bif Nat.blt pc 2 then bif Nat.beq pc 1 then some (.iload_n 1, 2, 1, 0, 0, 0, 0) else none
  else bif Nat.beq pc 2 then some (.invokevirtual 233, 5, 153, 2, 8, 0, 0) else none
  else bif Nat.blt pc 7 then bif Nat.blt pc 6 then bif Nat.beq pc 5 then some (.aload_n 0, 6, 0, 0, 0, 0, 0) else none
  else bif Nat.beq pc 6 then some (.iload_n 3, 7, 3, 0, 0, 0, 0) else none
  else bif Nat.blt pc 8 then bif Nat.beq pc 7 then some (.iconst 2, 8, 0, 0, 0, 2, 0) else none
  else bif Nat.beq pc 8 then some (.idiv, 9, 0, 0, 0, 0, 0) else none
  else bif Nat.blt pc 17 then bif Nat.blt pc 13 then bif Nat.blt pc 12 then bif Nat.beq pc 9 then some (.invokevirtual 224, 12, 154, 2, 8, 0, 0) else none
  else bif Nat.beq pc 12 then some (.iadd, 13, 0, 0, 0, 0, 0) else none
  else bif Nat.blt pc 14 then bif Nat.beq pc 13 then some (.aload_n 0, 14, 0, 0, 0, 0, 0) else none
  else bif Nat.beq pc 14 then some (.getfield 17, 17, 8, 8, 2, 0, 0) else none
  else bif Nat.blt pc 19 then bif Nat.blt pc 18 then bif Nat.beq pc 17 then some (.iconst 1, 18, 0, 0, 0, 1, 0) else none
  else bif Nat.beq pc 18 then some (.iaload, 19, 0, 0, 0, 0, 0) else none
  else bif Nat.blt pc 22 then bif Nat.beq pc 19 then some (.if_icmp .le 6, 22, 25, 0, 0, 0, 0) else none
  else bif Nat.beq pc 22 then some (.ldc 92, 24, 0, 0, 0, 1000000, 0) else none
  else bif Nat.blt pc 34 then bif Nat.blt pc 28 then bif Nat.blt pc 26 then bif Nat.blt pc 25 then bif Nat.beq pc 24 then some (.ireturn, 25, 0, 0, 0, 0, 0) else none
  else bif Nat.beq pc 25 then some (.aload_n 0, 26, 0, 0, 0, 0, 0) else none
  else bif Nat.blt pc 27 then bif Nat.beq pc 26 then some (.iload_n 1, 27, 1, 0, 0, 0, 0) else none
  else bif Nat.beq pc 27 then some (.iload_n 2, 28, 2, 0, 0, 0, 0) else none
  else bif Nat.blt pc 32 then bif Nat.blt pc 29 then bif Nat.beq pc 28 then some (.iload_n 3, 29, 3, 0, 0, 0, 0) else none
  else bif Nat.beq pc 29 then some (.invokevirtual 236, 32, 158, 4, 8, 0, 0) else none
  else bif Nat.blt pc 33 then bif Nat.beq pc 32 then some (.aload_n 0, 33, 0, 0, 0, 0, 0) else none
  else bif Nat.beq pc 33 then some (.iload_n 1, 34, 1, 0, 0, 0, 0) else none
  else bif Nat.blt pc 41 then bif Nat.blt pc 39 then bif Nat.blt pc 37 then bif Nat.beq pc 34 then some (.invokevirtual 227, 37, 152, 2, 8, 0, 0) else none
  else bif Nat.beq pc 37 then some (.istore 4, 39, 4, 0, 0, 0, 0) else none
  else bif Nat.blt pc 40 then bif Nat.beq pc 39 then some (.aload_n 0, 40, 0, 0, 0, 0, 0) else none
  else bif Nat.beq pc 40 then some (.iload_n 1, 41, 1, 0, 0, 0, 0) else none
  else bif Nat.blt pc 45 then bif Nat.blt pc 42 then bif Nat.beq pc 41 then some (.iload_n 2, 42, 2, 0, 0, 0, 0) else none
  else bif Nat.beq pc 42 then some (.invokevirtual 240, 45, 159, 3, 8, 0, 0) else none
  else bif Nat.blt pc 47 then bif Nat.beq pc 45 then some (.iload 4, 47, 4, 0, 0, 0, 0) else none
  else bif Nat.beq pc 47 then some (.ireturn, 48, 0, 0, 0, 0, 0) else none
def rs_X8_costWith : PMR := (1, 0, hdl [], 5)
def mi_X8_costWith : PMI := wrapM 48 cd_X8_costWith rs_X8_costWith
def cd_X8_canBeServed (pc : Nat) : Option PE :=
  bif Nat.blt pc 10 then bif Nat.blt pc 5 then bif Nat.blt pc 1 then bif Nat.beq pc 0 then some (.aload_n 0, 1, 0, 0, 0, 0, 0) else none
  else bif Nat.blt pc 2 then bif Nat.beq pc 1 then some (.iload_n 1, 2, 1, 0, 0, 0, 0) else none
  else bif Nat.beq pc 2 then some (.invokevirtual 224, 5, 154, 2, 8, 0, 0) else none
  else bif Nat.blt pc 8 then bif Nat.beq pc 5 then some (.ifCond .le 16, 8, 21, 0, 0, 0, 0) else none
  else bif Nat.blt pc 9 then bif Nat.beq pc 8 then some (.aload_n 0, 9, 0, 0, 0, 0, 0) else none
  else bif Nat.beq pc 9 then some (.iload_n 1, 10, 1, 0, 0, 0, 0) else none
  else bif Nat.blt pc 17 then bif Nat.blt pc 13 then bif Nat.beq pc 10 then some (.invokevirtual 243, 13, 156, 2, 8, 0, 0) else none
  else bif Nat.blt pc 14 then bif Nat.beq pc 13 then some (.iconst (-1), 14, 0, 0, 0, (-1), 0) else none
  else bif Nat.beq pc 14 then some (.if_icmp .ne 7, 17, 21, 0, 0, 0, 0) else none
  else bif Nat.blt pc 21 then bif Nat.blt pc 18 then bif Nat.beq pc 17 then some (.iconst 1, 18, 0, 0, 0, 1, 0) else none
  else bif Nat.beq pc 18 then some (.goto 4, 21, 22, 0, 0, 0, 0) else none
  else bif Nat.blt pc 22 then bif Nat.beq pc 21 then some (.iconst 0, 22, 0, 0, 0, 0, 0) else none
  else bif Nat.beq pc 22 then some (.ireturn, 23, 0, 0, 0, 0, 0) else none
def rs_X8_canBeServed : PMR := (2, 0, hdl [], 2)
def mi_X8_canBeServed : PMI := wrapM 23 cd_X8_canBeServed rs_X8_canBeServed
def cd_X8_findInsertion (pc : Nat) : Option PE :=
  bif Nat.blt pc 59 then bif Nat.blt pc 26 then bif Nat.blt pc 10 then bif Nat.blt pc 4 then bif Nat.blt pc 2 then bif Nat.blt pc 1 then bif Nat.beq pc 0 then some (.iconst (-1), 1, 0, 0, 0, (-1), 0) else none
  else bif Nat.beq pc 1 then some (.istore_n 2, 2, 2, 0, 0, 0, 0) else none
  else bif Nat.blt pc 3 then bif Nat.beq pc 2 then some (.iconst 0, 3, 0, 0, 0, 0, 0) else none
  else bif Nat.beq pc 3 then some (.istore_n 3, 4, 3, 0, 0, 0, 0) else none
  else bif Nat.blt pc 7 then bif Nat.blt pc 5 then bif Nat.beq pc 4 then some (.iconst 0, 5, 0, 0, 0, 0, 0) else none
  else bif Nat.beq pc 5 then some (.istore 4, 7, 4, 0, 0, 0, 0) else none
  else bif Nat.blt pc 9 then bif Nat.beq pc 7 then some (.iload 4, 9, 4, 0, 0, 0, 0) else none
  else bif Nat.beq pc 9 then some (.aload_n 0, 10, 0, 0, 0, 0, 0) else none
  else bif Nat.blt pc 18 then bif Nat.blt pc 14 then bif Nat.blt pc 13 then bif Nat.beq pc 10 then some (.getfield 17, 13, 8, 8, 2, 0, 0) else none
  else bif Nat.beq pc 13 then some (.iconst 4, 14, 0, 0, 0, 4, 0) else none
  else bif Nat.blt pc 15 then bif Nat.beq pc 14 then some (.iaload, 15, 0, 0, 0, 0, 0) else none
  else bif Nat.beq pc 15 then some (.if_icmp .ge 111, 18, 126, 0, 0, 0, 0) else none
  else bif Nat.blt pc 21 then bif Nat.blt pc 19 then bif Nat.beq pc 18 then some (.iconst 0, 19, 0, 0, 0, 0, 0) else none
  else bif Nat.beq pc 19 then some (.istore 5, 21, 5, 0, 0, 0, 0) else none
  else bif Nat.blt pc 23 then bif Nat.beq pc 21 then some (.iload 5, 23, 5, 0, 0, 0, 0) else none
  else bif Nat.blt pc 24 then bif Nat.beq pc 23 then some (.aload_n 0, 24, 0, 0, 0, 0, 0) else none
  else bif Nat.beq pc 24 then some (.iload 4, 26, 4, 0, 0, 0, 0) else none
  else bif Nat.blt pc 44 then bif Nat.blt pc 35 then bif Nat.blt pc 32 then bif Nat.blt pc 29 then bif Nat.beq pc 26 then some (.invokevirtual 212, 29, 150, 2, 8, 0, 0) else none
  else bif Nat.beq pc 29 then some (.if_icmp .gt 91, 32, 120, 0, 0, 0, 0) else none
  else bif Nat.blt pc 33 then bif Nat.beq pc 32 then some (.iconst 0, 33, 0, 0, 0, 0, 0) else none
  else bif Nat.beq pc 33 then some (.istore 6, 35, 6, 0, 0, 0, 0) else none
  else bif Nat.blt pc 38 then bif Nat.blt pc 37 then bif Nat.beq pc 35 then some (.iload 6, 37, 6, 0, 0, 0, 0) else none
  else bif Nat.beq pc 37 then some (.iconst 2, 38, 0, 0, 0, 2, 0) else none
  else bif Nat.blt pc 41 then bif Nat.beq pc 38 then some (.if_icmp .ge 76, 41, 114, 0, 0, 0, 0) else none
  else bif Nat.blt pc 42 then bif Nat.beq pc 41 then some (.aload_n 0, 42, 0, 0, 0, 0, 0) else none
  else bif Nat.beq pc 42 then some (.iload 4, 44, 4, 0, 0, 0, 0) else none
  else bif Nat.blt pc 49 then bif Nat.blt pc 47 then bif Nat.blt pc 46 then bif Nat.beq pc 44 then some (.iload 5, 46, 5, 0, 0, 0, 0) else none
  else bif Nat.beq pc 46 then some (.iconst 2, 47, 0, 0, 0, 2, 0) else none
  else bif Nat.blt pc 48 then bif Nat.beq pc 47 then some (.iload_n 1, 48, 1, 0, 0, 0, 0) else none
  else bif Nat.beq pc 48 then some (.imul, 49, 0, 0, 0, 0, 0) else none
  else bif Nat.blt pc 52 then bif Nat.blt pc 51 then bif Nat.beq pc 49 then some (.iload 6, 51, 6, 0, 0, 0, 0) else none
  else bif Nat.beq pc 51 then some (.iadd, 52, 0, 0, 0, 0, 0) else none
  else bif Nat.blt pc 55 then bif Nat.beq pc 52 then some (.invokevirtual 246, 55, 160, 4, 8, 0, 0) else none
  else bif Nat.blt pc 57 then bif Nat.beq pc 55 then some (.istore 7, 57, 7, 0, 0, 0, 0) else none
  else bif Nat.beq pc 57 then some (.iload 7, 59, 7, 0, 0, 0, 0) else none
  else bif Nat.blt pc 94 then bif Nat.blt pc 75 then bif Nat.blt pc 66 then bif Nat.blt pc 62 then bif Nat.blt pc 60 then bif Nat.beq pc 59 then some (.aload_n 0, 60, 0, 0, 0, 0, 0) else none
  else bif Nat.beq pc 60 then some (.iload 4, 62, 4, 0, 0, 0, 0) else none
  else bif Nat.blt pc 65 then bif Nat.beq pc 62 then some (.invokevirtual 227, 65, 152, 2, 8, 0, 0) else none
  else bif Nat.beq pc 65 then some (.isub, 66, 0, 0, 0, 0, 0) else none
  else bif Nat.blt pc 70 then bif Nat.blt pc 68 then bif Nat.beq pc 66 then some (.istore 8, 68, 8, 0, 0, 0, 0) else none
  else bif Nat.beq pc 68 then some (.iload 7, 70, 7, 0, 0, 0, 0) else none
  else bif Nat.blt pc 72 then bif Nat.beq pc 70 then some (.ldc 92, 72, 0, 0, 0, 1000000, 0) else none
  else bif Nat.beq pc 72 then some (.if_icmp .ge 36, 75, 108, 0, 0, 0, 0) else none
  else bif Nat.blt pc 82 then bif Nat.blt pc 77 then bif Nat.blt pc 76 then bif Nat.beq pc 75 then some (.iload_n 2, 76, 2, 0, 0, 0, 0) else none
  else bif Nat.beq pc 76 then some (.iconst (-1), 77, 0, 0, 0, (-1), 0) else none
  else bif Nat.blt pc 80 then bif Nat.beq pc 77 then some (.if_icmp .eq 12, 80, 89, 0, 0, 0, 0) else none
  else bif Nat.beq pc 80 then some (.iload 8, 82, 8, 0, 0, 0, 0) else none
  else bif Nat.blt pc 86 then bif Nat.blt pc 83 then bif Nat.beq pc 82 then some (.iload_n 3, 83, 3, 0, 0, 0, 0) else none
  else bif Nat.beq pc 83 then some (.if_icmp .lt 6, 86, 89, 0, 0, 0, 0) else none
  else bif Nat.blt pc 89 then bif Nat.beq pc 86 then some (.goto 22, 89, 108, 0, 0, 0, 0) else none
  else bif Nat.blt pc 92 then bif Nat.beq pc 89 then some (.sipush 1000, 92, 0, 0, 0, 1000, 0) else none
  else bif Nat.beq pc 92 then some (.iload 4, 94, 4, 0, 0, 0, 0) else none
  else bif Nat.blt pc 107 then bif Nat.blt pc 100 then bif Nat.blt pc 97 then bif Nat.blt pc 95 then bif Nat.beq pc 94 then some (.imul, 95, 0, 0, 0, 0, 0) else none
  else bif Nat.beq pc 95 then some (.bipush 10, 97, 0, 0, 0, 10, 0) else none
  else bif Nat.blt pc 99 then bif Nat.beq pc 97 then some (.iload 5, 99, 5, 0, 0, 0, 0) else none
  else bif Nat.beq pc 99 then some (.imul, 100, 0, 0, 0, 0, 0) else none
  else bif Nat.blt pc 103 then bif Nat.blt pc 101 then bif Nat.beq pc 100 then some (.iadd, 101, 0, 0, 0, 0, 0) else none
  else bif Nat.beq pc 101 then some (.iload 6, 103, 6, 0, 0, 0, 0) else none
  else bif Nat.blt pc 104 then bif Nat.beq pc 103 then some (.iadd, 104, 0, 0, 0, 0, 0) else none
  else bif Nat.blt pc 105 then bif Nat.beq pc 104 then some (.istore_n 2, 105, 2, 0, 0, 0, 0) else none
  else bif Nat.beq pc 105 then some (.iload 8, 107, 8, 0, 0, 0, 0) else none
  else bif Nat.blt pc 117 then bif Nat.blt pc 111 then bif Nat.blt pc 108 then bif Nat.beq pc 107 then some (.istore_n 3, 108, 3, 0, 0, 0, 0) else none
  else bif Nat.beq pc 108 then some (.iinc 6 1, 111, 6, 0, 0, 1, 0) else none
  else bif Nat.blt pc 114 then bif Nat.beq pc 111 then some (.goto (-76), 114, 35, 0, 0, 0, 0) else none
  else bif Nat.beq pc 114 then some (.iinc 5 1, 117, 5, 0, 0, 1, 0) else none
  else bif Nat.blt pc 123 then bif Nat.blt pc 120 then bif Nat.beq pc 117 then some (.goto (-96), 120, 21, 0, 0, 0, 0) else none
  else bif Nat.beq pc 120 then some (.iinc 4 1, 123, 4, 0, 0, 1, 0) else none
  else bif Nat.blt pc 126 then bif Nat.beq pc 123 then some (.goto (-116), 126, 7, 0, 0, 0, 0) else none
  else bif Nat.blt pc 127 then bif Nat.beq pc 126 then some (.iload_n 2, 127, 2, 0, 0, 0, 0) else none
  else bif Nat.beq pc 127 then some (.ireturn, 128, 0, 0, 0, 0, 0) else none
def rs_X8_findInsertion : PMR := (1, 0, hdl [], 9)
def mi_X8_findInsertion : PMI := wrapM 128 cd_X8_findInsertion rs_X8_findInsertion
def cd_X8_putBy (pc : Nat) : Option PE :=
  bif Nat.blt pc 14 then bif Nat.blt pc 6 then bif Nat.blt pc 2 then bif Nat.blt pc 1 then bif Nat.beq pc 0 then some (.aload_n 0, 1, 0, 0, 0, 0, 0) else none
  else bif Nat.beq pc 1 then some (.iload_n 1, 2, 1, 0, 0, 0, 0) else none
  else bif Nat.blt pc 5 then bif Nat.beq pc 2 then some (.sipush 1000, 5, 0, 0, 0, 1000, 0) else none
  else bif Nat.beq pc 5 then some (.idiv, 6, 0, 0, 0, 0, 0) else none
  else bif Nat.blt pc 10 then bif Nat.blt pc 7 then bif Nat.beq pc 6 then some (.iload_n 1, 7, 1, 0, 0, 0, 0) else none
  else bif Nat.beq pc 7 then some (.sipush 1000, 10, 0, 0, 0, 1000, 0) else none
  else bif Nat.blt pc 11 then bif Nat.beq pc 10 then some (.irem, 11, 0, 0, 0, 0, 0) else none
  else bif Nat.blt pc 13 then bif Nat.beq pc 11 then some (.bipush 10, 13, 0, 0, 0, 10, 0) else none
  else bif Nat.beq pc 13 then some (.idiv, 14, 0, 0, 0, 0, 0) else none
  else bif Nat.blt pc 18 then bif Nat.blt pc 16 then bif Nat.blt pc 15 then bif Nat.beq pc 14 then some (.iconst 2, 15, 0, 0, 0, 2, 0) else none
  else bif Nat.beq pc 15 then some (.iload_n 2, 16, 2, 0, 0, 0, 0) else none
  else bif Nat.blt pc 17 then bif Nat.beq pc 16 then some (.imul, 17, 0, 0, 0, 0, 0) else none
  else bif Nat.beq pc 17 then some (.iload_n 1, 18, 1, 0, 0, 0, 0) else none
  else bif Nat.blt pc 21 then bif Nat.blt pc 20 then bif Nat.beq pc 18 then some (.bipush 10, 20, 0, 0, 0, 10, 0) else none
  else bif Nat.beq pc 20 then some (.irem, 21, 0, 0, 0, 0, 0) else none
  else bif Nat.blt pc 22 then bif Nat.beq pc 21 then some (.iadd, 22, 0, 0, 0, 0, 0) else none
  else bif Nat.blt pc 25 then bif Nat.beq pc 22 then some (.invokevirtual 236, 25, 158, 4, 8, 0, 0) else none
  else bif Nat.beq pc 25 then some (.return_, 26, 0, 0, 0, 0, 0) else none
def rs_X8_putBy : PMR := (0, 0, hdl [], 3)
def mi_X8_putBy : PMI := wrapM 26 cd_X8_putBy rs_X8_putBy
def cd_X8_change (pc : Nat) : Option PE :=
  bif Nat.blt pc 32 then bif Nat.blt pc 13 then bif Nat.blt pc 6 then bif Nat.blt pc 2 then bif Nat.blt pc 1 then bif Nat.beq pc 0 then some (.aload_n 0, 1, 0, 0, 0, 0, 0) else none
  else bif Nat.beq pc 1 then some (.iload_n 1, 2, 1, 0, 0, 0, 0) else none
  else bif Nat.blt pc 5 then bif Nat.beq pc 2 then some (.invokevirtual 243, 5, 156, 2, 8, 0, 0) else none
  else bif Nat.beq pc 5 then some (.istore_n 2, 6, 2, 0, 0, 0, 0) else none
  else bif Nat.blt pc 10 then bif Nat.blt pc 7 then bif Nat.beq pc 6 then some (.aload_n 0, 7, 0, 0, 0, 0, 0) else none
  else bif Nat.beq pc 7 then some (.invokevirtual 250, 10, 155, 1, 8, 0, 0) else none
  else bif Nat.blt pc 11 then bif Nat.beq pc 10 then some (.istore_n 3, 11, 3, 0, 0, 0, 0) else none
  else bif Nat.blt pc 12 then bif Nat.beq pc 11 then some (.aload_n 0, 12, 0, 0, 0, 0, 0) else none
  else bif Nat.beq pc 12 then some (.iload_n 2, 13, 2, 0, 0, 0, 0) else none
  else bif Nat.blt pc 22 then bif Nat.blt pc 15 then bif Nat.blt pc 14 then bif Nat.beq pc 13 then some (.aload_n 0, 14, 0, 0, 0, 0, 0) else none
  else bif Nat.beq pc 14 then some (.iload_n 2, 15, 2, 0, 0, 0, 0) else none
  else bif Nat.blt pc 16 then bif Nat.beq pc 15 then some (.iload_n 1, 16, 1, 0, 0, 0, 0) else none
  else bif Nat.blt pc 19 then bif Nat.beq pc 16 then some (.invokevirtual 230, 19, 157, 3, 8, 0, 0) else none
  else bif Nat.beq pc 19 then some (.invokevirtual 240, 22, 159, 3, 8, 0, 0) else none
  else bif Nat.blt pc 24 then bif Nat.blt pc 23 then bif Nat.beq pc 22 then some (.aload_n 0, 23, 0, 0, 0, 0, 0) else none
  else bif Nat.beq pc 23 then some (.iload_n 2, 24, 2, 0, 0, 0, 0) else none
  else bif Nat.blt pc 27 then bif Nat.beq pc 24 then some (.invokevirtual 227, 27, 152, 2, 8, 0, 0) else none
  else bif Nat.blt pc 29 then bif Nat.beq pc 27 then some (.ldc 92, 29, 0, 0, 0, 1000000, 0) else none
  else bif Nat.beq pc 29 then some (.if_icmp .lt 5, 32, 34, 0, 0, 0, 0) else none
  else bif Nat.blt pc 48 then bif Nat.blt pc 39 then bif Nat.blt pc 34 then bif Nat.blt pc 33 then bif Nat.beq pc 32 then some (.iconst (-1), 33, 0, 0, 0, (-1), 0) else none
  else bif Nat.beq pc 33 then some (.ireturn, 34, 0, 0, 0, 0, 0) else none
  else bif Nat.blt pc 35 then bif Nat.beq pc 34 then some (.aload_n 0, 35, 0, 0, 0, 0, 0) else none
  else bif Nat.blt pc 36 then bif Nat.beq pc 35 then some (.iload_n 1, 36, 1, 0, 0, 0, 0) else none
  else bif Nat.beq pc 36 then some (.invokevirtual 253, 39, 162, 2, 8, 0, 0) else none
  else bif Nat.blt pc 43 then bif Nat.blt pc 41 then bif Nat.beq pc 39 then some (.istore 4, 41, 4, 0, 0, 0, 0) else none
  else bif Nat.beq pc 41 then some (.iload 4, 43, 4, 0, 0, 0, 0) else none
  else bif Nat.blt pc 44 then bif Nat.beq pc 43 then some (.iconst (-1), 44, 0, 0, 0, (-1), 0) else none
  else bif Nat.blt pc 47 then bif Nat.beq pc 44 then some (.if_icmp .ne 5, 47, 49, 0, 0, 0, 0) else none
  else bif Nat.beq pc 47 then some (.iconst (-1), 48, 0, 0, 0, (-1), 0) else none
  else bif Nat.blt pc 56 then bif Nat.blt pc 50 then bif Nat.blt pc 49 then bif Nat.beq pc 48 then some (.ireturn, 49, 0, 0, 0, 0, 0) else none
  else bif Nat.beq pc 49 then some (.aload_n 0, 50, 0, 0, 0, 0, 0) else none
  else bif Nat.blt pc 52 then bif Nat.beq pc 50 then some (.iload 4, 52, 4, 0, 0, 0, 0) else none
  else bif Nat.blt pc 53 then bif Nat.beq pc 52 then some (.iload_n 1, 53, 1, 0, 0, 0, 0) else none
  else bif Nat.beq pc 53 then some (.invokevirtual 256, 56, 163, 3, 8, 0, 0) else none
  else bif Nat.blt pc 58 then bif Nat.blt pc 57 then bif Nat.beq pc 56 then some (.iload_n 3, 57, 3, 0, 0, 0, 0) else none
  else bif Nat.beq pc 57 then some (.aload_n 0, 58, 0, 0, 0, 0, 0) else none
  else bif Nat.blt pc 61 then bif Nat.beq pc 58 then some (.invokevirtual 250, 61, 155, 1, 8, 0, 0) else none
  else bif Nat.blt pc 62 then bif Nat.beq pc 61 then some (.isub, 62, 0, 0, 0, 0, 0) else none
  else bif Nat.beq pc 62 then some (.ireturn, 63, 0, 0, 0, 0, 0) else none
def rs_X8_change : PMR := (1, 0, hdl [], 5)
def mi_X8_change : PMI := wrapM 63 cd_X8_change rs_X8_change
def cd_X8_gainOf (pc : Nat) : Option PE :=
  bif Nat.blt pc 16 then bif Nat.blt pc 8 then bif Nat.blt pc 4 then bif Nat.blt pc 1 then bif Nat.beq pc 0 then some (.aload_n 0, 1, 0, 0, 0, 0, 0) else none
  else bif Nat.beq pc 1 then some (.getfield 17, 4, 8, 8, 2, 0, 0) else none
  else bif Nat.blt pc 5 then bif Nat.beq pc 4 then some (.aload_n 0, 5, 0, 0, 0, 0, 0) else none
  else bif Nat.beq pc 5 then some (.getfield 23, 8, 8, 10, 2, 0, 0) else none
  else bif Nat.blt pc 12 then bif Nat.blt pc 11 then bif Nat.beq pc 8 then some (.invokestatic 169, 11, 113, 2, 99, 0, 0) else none
  else bif Nat.beq pc 11 then some (.aload_n 0, 12, 0, 0, 0, 0, 0) else none
  else bif Nat.blt pc 13 then bif Nat.beq pc 12 then some (.iload_n 1, 13, 1, 0, 0, 0, 0) else none
  else bif Nat.beq pc 13 then some (.invokevirtual 259, 16, 164, 2, 8, 0, 0) else none
  else bif Nat.blt pc 22 then bif Nat.blt pc 18 then bif Nat.blt pc 17 then bif Nat.beq pc 16 then some (.istore_n 2, 17, 2, 0, 0, 0, 0) else none
  else bif Nat.beq pc 17 then some (.aload_n 0, 18, 0, 0, 0, 0, 0) else none
  else bif Nat.blt pc 21 then bif Nat.beq pc 18 then some (.getfield 23, 21, 8, 10, 2, 0, 0) else none
  else bif Nat.beq pc 21 then some (.aload_n 0, 22, 0, 0, 0, 0, 0) else none
  else bif Nat.blt pc 28 then bif Nat.blt pc 25 then bif Nat.beq pc 22 then some (.getfield 17, 25, 8, 8, 2, 0, 0) else none
  else bif Nat.beq pc 25 then some (.invokestatic 169, 28, 113, 2, 99, 0, 0) else none
  else bif Nat.blt pc 29 then bif Nat.beq pc 28 then some (.iload_n 2, 29, 2, 0, 0, 0, 0) else none
  else bif Nat.beq pc 29 then some (.ireturn, 30, 0, 0, 0, 0, 0) else none
def rs_X8_gainOf : PMR := (1, 0, hdl [], 3)
def mi_X8_gainOf : PMI := wrapM 30 cd_X8_gainOf rs_X8_gainOf
def cd_X8_noEdge (pc : Nat) : Option PE :=
  bif Nat.blt pc 10 then bif Nat.blt pc 4 then bif Nat.blt pc 2 then bif Nat.blt pc 1 then bif Nat.beq pc 0 then some (.aload_n 0, 1, 0, 0, 0, 0, 0) else none
  else bif Nat.beq pc 1 then some (.iload_n 1, 2, 1, 0, 0, 0, 0) else none
  else bif Nat.blt pc 3 then bif Nat.beq pc 2 then some (.iconst 0, 3, 0, 0, 0, 0, 0) else none
  else bif Nat.beq pc 3 then some (.aload_n 0, 4, 0, 0, 0, 0, 0) else none
  else bif Nat.blt pc 8 then bif Nat.blt pc 7 then bif Nat.beq pc 4 then some (.getfield 17, 7, 8, 8, 2, 0, 0) else none
  else bif Nat.beq pc 7 then some (.iconst 2, 8, 0, 0, 0, 2, 0) else none
  else bif Nat.blt pc 9 then bif Nat.beq pc 8 then some (.iaload, 9, 0, 0, 0, 0, 0) else none
  else bif Nat.beq pc 9 then some (.iconst 1, 10, 0, 0, 0, 1, 0) else none
  else bif Nat.blt pc 18 then bif Nat.blt pc 14 then bif Nat.blt pc 11 then bif Nat.beq pc 10 then some (.isub, 11, 0, 0, 0, 0, 0) else none
  else bif Nat.beq pc 11 then some (.invokestatic 60, 14, 111, 3, 99, 0, 0) else none
  else bif Nat.blt pc 17 then bif Nat.beq pc 14 then some (.ifCond .ne 7, 17, 21, 0, 0, 0, 0) else none
  else bif Nat.beq pc 17 then some (.iconst 1, 18, 0, 0, 0, 1, 0) else none
  else bif Nat.blt pc 22 then bif Nat.blt pc 21 then bif Nat.beq pc 18 then some (.goto 4, 21, 22, 0, 0, 0, 0) else none
  else bif Nat.beq pc 21 then some (.iconst 0, 22, 0, 0, 0, 0, 0) else none
  else bif Nat.blt pc 23 then bif Nat.beq pc 22 then some (.iconst 1, 23, 0, 0, 0, 1, 0) else none
  else bif Nat.blt pc 26 then bif Nat.beq pc 23 then some (.invokevirtual 157, 26, 110, 3, 8, 0, 0) else none
  else bif Nat.beq pc 26 then some (.ireturn, 27, 0, 0, 0, 0, 0) else none
def rs_X8_noEdge : PMR := (2, 0, hdl [], 2)
def mi_X8_noEdge : PMI := wrapM 27 cd_X8_noEdge rs_X8_noEdge
def cd_X8_noArc (pc : Nat) : Option PE :=
  bif Nat.blt pc 9 then bif Nat.blt pc 3 then bif Nat.blt pc 1 then bif Nat.beq pc 0 then some (.aload_n 0, 1, 0, 0, 0, 0, 0) else none
  else bif Nat.blt pc 2 then bif Nat.beq pc 1 then some (.iload_n 1, 2, 1, 0, 0, 0, 0) else none
  else bif Nat.beq pc 2 then some (.iconst 0, 3, 0, 0, 0, 0, 0) else none
  else bif Nat.blt pc 7 then bif Nat.blt pc 4 then bif Nat.beq pc 3 then some (.aload_n 0, 4, 0, 0, 0, 0, 0) else none
  else bif Nat.beq pc 4 then some (.invokevirtual 182, 7, 138, 1, 8, 0, 0) else none
  else bif Nat.blt pc 8 then bif Nat.beq pc 7 then some (.iconst 1, 8, 0, 0, 0, 1, 0) else none
  else bif Nat.beq pc 8 then some (.isub, 9, 0, 0, 0, 0, 0) else none
  else bif Nat.blt pc 19 then bif Nat.blt pc 15 then bif Nat.blt pc 12 then bif Nat.beq pc 9 then some (.invokestatic 60, 12, 111, 3, 99, 0, 0) else none
  else bif Nat.beq pc 12 then some (.ifCond .ne 7, 15, 19, 0, 0, 0, 0) else none
  else bif Nat.blt pc 16 then bif Nat.beq pc 15 then some (.iconst 1, 16, 0, 0, 0, 1, 0) else none
  else bif Nat.beq pc 16 then some (.goto 4, 19, 20, 0, 0, 0, 0) else none
  else bif Nat.blt pc 21 then bif Nat.blt pc 20 then bif Nat.beq pc 19 then some (.iconst 0, 20, 0, 0, 0, 0, 0) else none
  else bif Nat.beq pc 20 then some (.iconst 1, 21, 0, 0, 0, 1, 0) else none
  else bif Nat.blt pc 24 then bif Nat.beq pc 21 then some (.invokevirtual 157, 24, 110, 3, 8, 0, 0) else none
  else bif Nat.beq pc 24 then some (.ireturn, 25, 0, 0, 0, 0, 0) else none
def rs_X8_noArc : PMR := (2, 0, hdl [], 2)
def mi_X8_noArc : PMI := wrapM 25 cd_X8_noArc rs_X8_noArc
def cd_X8_noNode (pc : Nat) : Option PE :=
  bif Nat.blt pc 10 then bif Nat.blt pc 4 then bif Nat.blt pc 2 then bif Nat.blt pc 1 then bif Nat.beq pc 0 then some (.aload_n 0, 1, 0, 0, 0, 0, 0) else none
  else bif Nat.beq pc 1 then some (.iload_n 1, 2, 1, 0, 0, 0, 0) else none
  else bif Nat.blt pc 3 then bif Nat.beq pc 2 then some (.iconst 0, 3, 0, 0, 0, 0, 0) else none
  else bif Nat.beq pc 3 then some (.aload_n 0, 4, 0, 0, 0, 0, 0) else none
  else bif Nat.blt pc 8 then bif Nat.blt pc 7 then bif Nat.beq pc 4 then some (.getfield 17, 7, 8, 8, 2, 0, 0) else none
  else bif Nat.beq pc 7 then some (.iconst 0, 8, 0, 0, 0, 0, 0) else none
  else bif Nat.blt pc 9 then bif Nat.beq pc 8 then some (.iaload, 9, 0, 0, 0, 0, 0) else none
  else bif Nat.beq pc 9 then some (.iconst 1, 10, 0, 0, 0, 1, 0) else none
  else bif Nat.blt pc 18 then bif Nat.blt pc 14 then bif Nat.blt pc 11 then bif Nat.beq pc 10 then some (.isub, 11, 0, 0, 0, 0, 0) else none
  else bif Nat.beq pc 11 then some (.invokestatic 60, 14, 111, 3, 99, 0, 0) else none
  else bif Nat.blt pc 17 then bif Nat.beq pc 14 then some (.ifCond .ne 7, 17, 21, 0, 0, 0, 0) else none
  else bif Nat.beq pc 17 then some (.iconst 1, 18, 0, 0, 0, 1, 0) else none
  else bif Nat.blt pc 22 then bif Nat.blt pc 21 then bif Nat.beq pc 18 then some (.goto 4, 21, 22, 0, 0, 0, 0) else none
  else bif Nat.beq pc 21 then some (.iconst 0, 22, 0, 0, 0, 0, 0) else none
  else bif Nat.blt pc 23 then bif Nat.beq pc 22 then some (.iconst 1, 23, 0, 0, 0, 1, 0) else none
  else bif Nat.blt pc 26 then bif Nat.beq pc 23 then some (.invokevirtual 157, 26, 110, 3, 8, 0, 0) else none
  else bif Nat.beq pc 26 then some (.ireturn, 27, 0, 0, 0, 0, 0) else none
def rs_X8_noNode : PMR := (2, 0, hdl [], 2)
def mi_X8_noNode : PMI := wrapM 27 cd_X8_noNode rs_X8_noNode
def cd_X8_noTour (pc : Nat) : Option PE :=
  bif Nat.blt pc 10 then bif Nat.blt pc 4 then bif Nat.blt pc 2 then bif Nat.blt pc 1 then bif Nat.beq pc 0 then some (.aload_n 0, 1, 0, 0, 0, 0, 0) else none
  else bif Nat.beq pc 1 then some (.iload_n 1, 2, 1, 0, 0, 0, 0) else none
  else bif Nat.blt pc 3 then bif Nat.beq pc 2 then some (.iconst 0, 3, 0, 0, 0, 0, 0) else none
  else bif Nat.beq pc 3 then some (.aload_n 0, 4, 0, 0, 0, 0, 0) else none
  else bif Nat.blt pc 8 then bif Nat.blt pc 7 then bif Nat.beq pc 4 then some (.getfield 17, 7, 8, 8, 2, 0, 0) else none
  else bif Nat.beq pc 7 then some (.iconst 4, 8, 0, 0, 0, 4, 0) else none
  else bif Nat.blt pc 9 then bif Nat.beq pc 8 then some (.iaload, 9, 0, 0, 0, 0, 0) else none
  else bif Nat.beq pc 9 then some (.iconst 1, 10, 0, 0, 0, 1, 0) else none
  else bif Nat.blt pc 18 then bif Nat.blt pc 14 then bif Nat.blt pc 11 then bif Nat.beq pc 10 then some (.isub, 11, 0, 0, 0, 0, 0) else none
  else bif Nat.beq pc 11 then some (.invokestatic 60, 14, 111, 3, 99, 0, 0) else none
  else bif Nat.blt pc 17 then bif Nat.beq pc 14 then some (.ifCond .ne 7, 17, 21, 0, 0, 0, 0) else none
  else bif Nat.beq pc 17 then some (.iconst 1, 18, 0, 0, 0, 1, 0) else none
  else bif Nat.blt pc 22 then bif Nat.blt pc 21 then bif Nat.beq pc 18 then some (.goto 4, 21, 22, 0, 0, 0, 0) else none
  else bif Nat.beq pc 21 then some (.iconst 0, 22, 0, 0, 0, 0, 0) else none
  else bif Nat.blt pc 23 then bif Nat.beq pc 22 then some (.iconst 1, 23, 0, 0, 0, 1, 0) else none
  else bif Nat.blt pc 26 then bif Nat.beq pc 23 then some (.invokevirtual 157, 26, 110, 3, 8, 0, 0) else none
  else bif Nat.beq pc 26 then some (.ireturn, 27, 0, 0, 0, 0, 0) else none
def rs_X8_noTour : PMR := (2, 0, hdl [], 2)
def mi_X8_noTour : PMI := wrapM 27 cd_X8_noTour rs_X8_noTour
def cd_X8_told (pc : Nat) : Option PE :=
  bif Nat.blt pc 6 then bif Nat.blt pc 1 then bif Nat.beq pc 0 then some (.iload_n 0, 1, 0, 0, 0, 0, 0) else none
  else bif Nat.blt pc 3 then bif Nat.beq pc 1 then some (.ldc 92, 3, 0, 0, 0, 1000000, 0) else none
  else bif Nat.beq pc 3 then some (.if_icmp .lt 7, 6, 10, 0, 0, 0, 0) else none
  else bif Nat.blt pc 10 then bif Nat.blt pc 7 then bif Nat.beq pc 6 then some (.iconst (-1), 7, 0, 0, 0, (-1), 0) else none
  else bif Nat.beq pc 7 then some (.goto 4, 10, 11, 0, 0, 0, 0) else none
  else bif Nat.blt pc 11 then bif Nat.beq pc 10 then some (.iload_n 0, 11, 0, 0, 0, 0, 0) else none
  else bif Nat.beq pc 11 then some (.ireturn, 12, 0, 0, 0, 0, 0) else none
def rs_X8_told : PMR := (1, 0, hdl [], 1)
def mi_X8_told : PMI := wrapM 12 cd_X8_told rs_X8_told
def cd_X8_nodeCount (pc : Nat) : Option PE :=
  bif Nat.blt pc 6 then bif Nat.blt pc 2 then bif Nat.blt pc 1 then bif Nat.beq pc 0 then some (.aload_n 0, 1, 0, 0, 0, 0, 0) else none
  else bif Nat.beq pc 1 then some (.iconst 0, 2, 0, 0, 0, 0, 0) else none
  else bif Nat.blt pc 5 then bif Nat.beq pc 2 then some (.putfield 38, 5, 8, 0, 0, 0, 0) else none
  else bif Nat.beq pc 5 then some (.aload_n 0, 6, 0, 0, 0, 0, 0) else none
  else bif Nat.blt pc 10 then bif Nat.blt pc 9 then bif Nat.beq pc 6 then some (.getfield 17, 9, 8, 8, 2, 0, 0) else none
  else bif Nat.beq pc 9 then some (.iconst 0, 10, 0, 0, 0, 0, 0) else none
  else bif Nat.blt pc 11 then bif Nat.beq pc 10 then some (.iaload, 11, 0, 0, 0, 0, 0) else none
  else bif Nat.beq pc 11 then some (.ireturn, 12, 0, 0, 0, 0, 0) else none
def rs_X8_nodeCount : PMR := (1, 0, hdl [], 1)
def mi_X8_nodeCount : PMI := wrapM 12 cd_X8_nodeCount rs_X8_nodeCount
def cd_X8_edgeCount (pc : Nat) : Option PE :=
  bif Nat.blt pc 6 then bif Nat.blt pc 2 then bif Nat.blt pc 1 then bif Nat.beq pc 0 then some (.aload_n 0, 1, 0, 0, 0, 0, 0) else none
  else bif Nat.beq pc 1 then some (.iconst 0, 2, 0, 0, 0, 0, 0) else none
  else bif Nat.blt pc 5 then bif Nat.beq pc 2 then some (.putfield 38, 5, 8, 0, 0, 0, 0) else none
  else bif Nat.beq pc 5 then some (.aload_n 0, 6, 0, 0, 0, 0, 0) else none
  else bif Nat.blt pc 10 then bif Nat.blt pc 9 then bif Nat.beq pc 6 then some (.getfield 17, 9, 8, 8, 2, 0, 0) else none
  else bif Nat.beq pc 9 then some (.iconst 2, 10, 0, 0, 0, 2, 0) else none
  else bif Nat.blt pc 11 then bif Nat.beq pc 10 then some (.iaload, 11, 0, 0, 0, 0, 0) else none
  else bif Nat.beq pc 11 then some (.ireturn, 12, 0, 0, 0, 0, 0) else none
def rs_X8_edgeCount : PMR := (1, 0, hdl [], 1)
def mi_X8_edgeCount : PMI := wrapM 12 cd_X8_edgeCount rs_X8_edgeCount
def cd_X8_depotCount (pc : Nat) : Option PE :=
  bif Nat.blt pc 6 then bif Nat.blt pc 2 then bif Nat.blt pc 1 then bif Nat.beq pc 0 then some (.aload_n 0, 1, 0, 0, 0, 0, 0) else none
  else bif Nat.beq pc 1 then some (.iconst 0, 2, 0, 0, 0, 0, 0) else none
  else bif Nat.blt pc 5 then bif Nat.beq pc 2 then some (.putfield 38, 5, 8, 0, 0, 0, 0) else none
  else bif Nat.beq pc 5 then some (.aload_n 0, 6, 0, 0, 0, 0, 0) else none
  else bif Nat.blt pc 10 then bif Nat.blt pc 9 then bif Nat.beq pc 6 then some (.getfield 17, 9, 8, 8, 2, 0, 0) else none
  else bif Nat.beq pc 9 then some (.iconst 3, 10, 0, 0, 0, 3, 0) else none
  else bif Nat.blt pc 11 then bif Nat.beq pc 10 then some (.iaload, 11, 0, 0, 0, 0, 0) else none
  else bif Nat.beq pc 11 then some (.ireturn, 12, 0, 0, 0, 0, 0) else none
def rs_X8_depotCount : PMR := (1, 0, hdl [], 1)
def mi_X8_depotCount : PMI := wrapM 12 cd_X8_depotCount rs_X8_depotCount
def cd_X8_tourCount (pc : Nat) : Option PE :=
  bif Nat.blt pc 6 then bif Nat.blt pc 2 then bif Nat.blt pc 1 then bif Nat.beq pc 0 then some (.aload_n 0, 1, 0, 0, 0, 0, 0) else none
  else bif Nat.beq pc 1 then some (.iconst 0, 2, 0, 0, 0, 0, 0) else none
  else bif Nat.blt pc 5 then bif Nat.beq pc 2 then some (.putfield 38, 5, 8, 0, 0, 0, 0) else none
  else bif Nat.beq pc 5 then some (.aload_n 0, 6, 0, 0, 0, 0, 0) else none
  else bif Nat.blt pc 10 then bif Nat.blt pc 9 then bif Nat.beq pc 6 then some (.getfield 17, 9, 8, 8, 2, 0, 0) else none
  else bif Nat.beq pc 9 then some (.iconst 4, 10, 0, 0, 0, 4, 0) else none
  else bif Nat.blt pc 11 then bif Nat.beq pc 10 then some (.iaload, 11, 0, 0, 0, 0, 0) else none
  else bif Nat.beq pc 11 then some (.ireturn, 12, 0, 0, 0, 0, 0) else none
def rs_X8_tourCount : PMR := (1, 0, hdl [], 1)
def mi_X8_tourCount : PMI := wrapM 12 cd_X8_tourCount rs_X8_tourCount
def cd_X8_edge_ (pc : Nat) : Option PE :=
  bif Nat.blt pc 24 then bif Nat.blt pc 13 then bif Nat.blt pc 5 then bif Nat.blt pc 1 then bif Nat.beq pc 0 then some (.aload_n 0, 1, 0, 0, 0, 0, 0) else none
  else bif Nat.blt pc 2 then bif Nat.beq pc 1 then some (.iconst 0, 2, 0, 0, 0, 0, 0) else none
  else bif Nat.beq pc 2 then some (.putfield 38, 5, 8, 0, 0, 0, 0) else none
  else bif Nat.blt pc 7 then bif Nat.blt pc 6 then bif Nat.beq pc 5 then some (.aload_n 0, 6, 0, 0, 0, 0, 0) else none
  else bif Nat.beq pc 6 then some (.iload_n 1, 7, 1, 0, 0, 0, 0) else none
  else bif Nat.blt pc 10 then bif Nat.beq pc 7 then some (.invokevirtual 262, 10, 166, 2, 8, 0, 0) else none
  else bif Nat.beq pc 10 then some (.ifCond .ne 25, 13, 35, 0, 0, 0, 0) else none
  else bif Nat.blt pc 16 then bif Nat.blt pc 14 then bif Nat.beq pc 13 then some (.aload_n 0, 14, 0, 0, 0, 0, 0) else none
  else bif Nat.blt pc 15 then bif Nat.beq pc 14 then some (.iload_n 2, 15, 2, 0, 0, 0, 0) else none
  else bif Nat.beq pc 15 then some (.iconst 0, 16, 0, 0, 0, 0, 0) else none
  else bif Nat.blt pc 20 then bif Nat.blt pc 17 then bif Nat.beq pc 16 then some (.iconst 4, 17, 0, 0, 0, 4, 0) else none
  else bif Nat.beq pc 17 then some (.invokestatic 60, 20, 111, 3, 99, 0, 0) else none
  else bif Nat.blt pc 23 then bif Nat.beq pc 20 then some (.ifCond .ne 7, 23, 27, 0, 0, 0, 0) else none
  else bif Nat.beq pc 23 then some (.iconst 1, 24, 0, 0, 0, 1, 0) else none
  else bif Nat.blt pc 39 then bif Nat.blt pc 29 then bif Nat.blt pc 27 then bif Nat.beq pc 24 then some (.goto 4, 27, 28, 0, 0, 0, 0) else none
  else bif Nat.blt pc 28 then bif Nat.beq pc 27 then some (.iconst 0, 28, 0, 0, 0, 0, 0) else none
  else bif Nat.beq pc 28 then some (.iconst 2, 29, 0, 0, 0, 2, 0) else none
  else bif Nat.blt pc 35 then bif Nat.blt pc 32 then bif Nat.beq pc 29 then some (.invokevirtual 157, 32, 110, 3, 8, 0, 0) else none
  else bif Nat.beq pc 32 then some (.ifCond .eq 7, 35, 39, 0, 0, 0, 0) else none
  else bif Nat.blt pc 36 then bif Nat.beq pc 35 then some (.iconst 0, 36, 0, 0, 0, 0, 0) else none
  else bif Nat.beq pc 36 then some (.goto 14, 39, 50, 0, 0, 0, 0) else none
  else bif Nat.blt pc 47 then bif Nat.blt pc 43 then bif Nat.blt pc 40 then bif Nat.beq pc 39 then some (.aload_n 0, 40, 0, 0, 0, 0, 0) else none
  else bif Nat.beq pc 40 then some (.getfield 17, 43, 8, 8, 2, 0, 0) else none
  else bif Nat.blt pc 44 then bif Nat.beq pc 43 then some (.iload_n 1, 44, 1, 0, 0, 0, 0) else none
  else bif Nat.beq pc 44 then some (.invokestatic 130, 47, 114, 1, 99, 0, 0) else none
  else bif Nat.blt pc 49 then bif Nat.blt pc 48 then bif Nat.beq pc 47 then some (.iload_n 2, 48, 2, 0, 0, 0, 0) else none
  else bif Nat.beq pc 48 then some (.iadd, 49, 0, 0, 0, 0, 0) else none
  else bif Nat.blt pc 50 then bif Nat.beq pc 49 then some (.iaload, 50, 0, 0, 0, 0, 0) else none
  else bif Nat.beq pc 50 then some (.ireturn, 51, 0, 0, 0, 0, 0) else none
def rs_X8_edge_ : PMR := (1, 0, hdl [], 3)
def mi_X8_edge_ : PMI := wrapM 51 cd_X8_edge_ rs_X8_edge_
def cd_X8_mayFollow (pc : Nat) : Option PE :=
  bif Nat.blt pc 18 then bif Nat.blt pc 7 then bif Nat.blt pc 2 then bif Nat.blt pc 1 then bif Nat.beq pc 0 then some (.aload_n 0, 1, 0, 0, 0, 0, 0) else none
  else bif Nat.beq pc 1 then some (.iconst 0, 2, 0, 0, 0, 0, 0) else none
  else bif Nat.blt pc 5 then bif Nat.beq pc 2 then some (.putfield 38, 5, 8, 0, 0, 0, 0) else none
  else bif Nat.blt pc 6 then bif Nat.beq pc 5 then some (.aload_n 0, 6, 0, 0, 0, 0, 0) else none
  else bif Nat.beq pc 6 then some (.iload_n 1, 7, 1, 0, 0, 0, 0) else none
  else bif Nat.blt pc 13 then bif Nat.blt pc 10 then bif Nat.beq pc 7 then some (.invokevirtual 265, 10, 167, 2, 8, 0, 0) else none
  else bif Nat.beq pc 10 then some (.ifCond .ne 24, 13, 34, 0, 0, 0, 0) else none
  else bif Nat.blt pc 14 then bif Nat.beq pc 13 then some (.aload_n 0, 14, 0, 0, 0, 0, 0) else none
  else bif Nat.blt pc 15 then bif Nat.beq pc 14 then some (.iload_n 2, 15, 2, 0, 0, 0, 0) else none
  else bif Nat.beq pc 15 then some (.invokevirtual 265, 18, 167, 2, 8, 0, 0) else none
  else bif Nat.blt pc 27 then bif Nat.blt pc 22 then bif Nat.blt pc 21 then bif Nat.beq pc 18 then some (.ifCond .ne 16, 21, 34, 0, 0, 0, 0) else none
  else bif Nat.beq pc 21 then some (.aload_n 0, 22, 0, 0, 0, 0, 0) else none
  else bif Nat.blt pc 23 then bif Nat.beq pc 22 then some (.iload_n 1, 23, 1, 0, 0, 0, 0) else none
  else bif Nat.blt pc 24 then bif Nat.beq pc 23 then some (.iload_n 2, 24, 2, 0, 0, 0, 0) else none
  else bif Nat.beq pc 24 then some (.invokevirtual 185, 27, 142, 3, 8, 0, 0) else none
  else bif Nat.blt pc 31 then bif Nat.blt pc 30 then bif Nat.beq pc 27 then some (.ifCond .eq 7, 30, 34, 0, 0, 0, 0) else none
  else bif Nat.beq pc 30 then some (.iconst 1, 31, 0, 0, 0, 1, 0) else none
  else bif Nat.blt pc 34 then bif Nat.beq pc 31 then some (.goto 4, 34, 35, 0, 0, 0, 0) else none
  else bif Nat.blt pc 35 then bif Nat.beq pc 34 then some (.iconst 0, 35, 0, 0, 0, 0, 0) else none
  else bif Nat.beq pc 35 then some (.ireturn, 36, 0, 0, 0, 0, 0) else none
def rs_X8_mayFollow : PMR := (2, 0, hdl [], 3)
def mi_X8_mayFollow : PMI := wrapM 36 cd_X8_mayFollow rs_X8_mayFollow
def cd_X8_deadhead (pc : Nat) : Option PE :=
  bif Nat.blt pc 18 then bif Nat.blt pc 7 then bif Nat.blt pc 2 then bif Nat.blt pc 1 then bif Nat.beq pc 0 then some (.aload_n 0, 1, 0, 0, 0, 0, 0) else none
  else bif Nat.beq pc 1 then some (.iconst 0, 2, 0, 0, 0, 0, 0) else none
  else bif Nat.blt pc 5 then bif Nat.beq pc 2 then some (.putfield 38, 5, 8, 0, 0, 0, 0) else none
  else bif Nat.blt pc 6 then bif Nat.beq pc 5 then some (.aload_n 0, 6, 0, 0, 0, 0, 0) else none
  else bif Nat.beq pc 6 then some (.iload_n 1, 7, 1, 0, 0, 0, 0) else none
  else bif Nat.blt pc 13 then bif Nat.blt pc 10 then bif Nat.beq pc 7 then some (.invokevirtual 265, 10, 167, 2, 8, 0, 0) else none
  else bif Nat.beq pc 10 then some (.ifCond .ne 11, 13, 21, 0, 0, 0, 0) else none
  else bif Nat.blt pc 14 then bif Nat.beq pc 13 then some (.aload_n 0, 14, 0, 0, 0, 0, 0) else none
  else bif Nat.blt pc 15 then bif Nat.beq pc 14 then some (.iload_n 2, 15, 2, 0, 0, 0, 0) else none
  else bif Nat.beq pc 15 then some (.invokevirtual 265, 18, 167, 2, 8, 0, 0) else none
  else bif Nat.blt pc 29 then bif Nat.blt pc 22 then bif Nat.blt pc 21 then bif Nat.beq pc 18 then some (.ifCond .eq 7, 21, 25, 0, 0, 0, 0) else none
  else bif Nat.beq pc 21 then some (.iconst 0, 22, 0, 0, 0, 0, 0) else none
  else bif Nat.blt pc 25 then bif Nat.beq pc 22 then some (.goto 14, 25, 36, 0, 0, 0, 0) else none
  else bif Nat.blt pc 26 then bif Nat.beq pc 25 then some (.aload_n 0, 26, 0, 0, 0, 0, 0) else none
  else bif Nat.beq pc 26 then some (.getfield 31, 29, 8, 16, 2, 0, 0) else none
  else bif Nat.blt pc 32 then bif Nat.blt pc 30 then bif Nat.beq pc 29 then some (.iload_n 1, 30, 1, 0, 0, 0, 0) else none
  else bif Nat.blt pc 31 then bif Nat.beq pc 30 then some (.aaload, 31, 0, 0, 0, 0, 0) else none
  else bif Nat.beq pc 31 then some (.iload_n 2, 32, 2, 0, 0, 0, 0) else none
  else bif Nat.blt pc 33 then bif Nat.beq pc 32 then some (.iaload, 33, 0, 0, 0, 0, 0) else none
  else bif Nat.blt pc 36 then bif Nat.beq pc 33 then some (.invokestatic 268, 36, 170, 1, 99, 0, 0) else none
  else bif Nat.beq pc 36 then some (.ireturn, 37, 0, 0, 0, 0, 0) else none
def rs_X8_deadhead : PMR := (1, 0, hdl [], 3)
def mi_X8_deadhead : PMI := wrapM 37 cd_X8_deadhead rs_X8_deadhead
def cd_X8_distance (pc : Nat) : Option PE :=
  bif Nat.blt pc 15 then bif Nat.blt pc 6 then bif Nat.blt pc 2 then bif Nat.blt pc 1 then bif Nat.beq pc 0 then some (.aload_n 0, 1, 0, 0, 0, 0, 0) else none
  else bif Nat.beq pc 1 then some (.iconst 0, 2, 0, 0, 0, 0, 0) else none
  else bif Nat.blt pc 5 then bif Nat.beq pc 2 then some (.putfield 38, 5, 8, 0, 0, 0, 0) else none
  else bif Nat.beq pc 5 then some (.aload_n 0, 6, 0, 0, 0, 0, 0) else none
  else bif Nat.blt pc 10 then bif Nat.blt pc 7 then bif Nat.beq pc 6 then some (.iload_n 1, 7, 1, 0, 0, 0, 0) else none
  else bif Nat.beq pc 7 then some (.invokevirtual 271, 10, 168, 2, 8, 0, 0) else none
  else bif Nat.blt pc 13 then bif Nat.beq pc 10 then some (.ifCond .ne 11, 13, 21, 0, 0, 0, 0) else none
  else bif Nat.blt pc 14 then bif Nat.beq pc 13 then some (.aload_n 0, 14, 0, 0, 0, 0, 0) else none
  else bif Nat.beq pc 14 then some (.iload_n 2, 15, 2, 0, 0, 0, 0) else none
  else bif Nat.blt pc 26 then bif Nat.blt pc 21 then bif Nat.blt pc 18 then bif Nat.beq pc 15 then some (.invokevirtual 271, 18, 168, 2, 8, 0, 0) else none
  else bif Nat.beq pc 18 then some (.ifCond .eq 7, 21, 25, 0, 0, 0, 0) else none
  else bif Nat.blt pc 22 then bif Nat.beq pc 21 then some (.iconst 0, 22, 0, 0, 0, 0, 0) else none
  else bif Nat.blt pc 25 then bif Nat.beq pc 22 then some (.goto 12, 25, 34, 0, 0, 0, 0) else none
  else bif Nat.beq pc 25 then some (.aload_n 0, 26, 0, 0, 0, 0, 0) else none
  else bif Nat.blt pc 28 then bif Nat.blt pc 27 then bif Nat.beq pc 26 then some (.iload_n 1, 27, 1, 0, 0, 0, 0) else none
  else bif Nat.beq pc 27 then some (.iload_n 2, 28, 2, 0, 0, 0, 0) else none
  else bif Nat.blt pc 31 then bif Nat.beq pc 28 then some (.invokevirtual 274, 31, 146, 3, 8, 0, 0) else none
  else bif Nat.blt pc 34 then bif Nat.beq pc 31 then some (.invokestatic 268, 34, 170, 1, 99, 0, 0) else none
  else bif Nat.beq pc 34 then some (.ireturn, 35, 0, 0, 0, 0, 0) else none
def rs_X8_distance : PMR := (1, 0, hdl [], 3)
def mi_X8_distance : PMI := wrapM 35 cd_X8_distance rs_X8_distance
def cd_X8_serviceCost (pc : Nat) : Option PE :=
  bif Nat.blt pc 10 then bif Nat.blt pc 5 then bif Nat.blt pc 1 then bif Nat.beq pc 0 then some (.aload_n 0, 1, 0, 0, 0, 0, 0) else none
  else bif Nat.blt pc 2 then bif Nat.beq pc 1 then some (.iconst 0, 2, 0, 0, 0, 0, 0) else none
  else bif Nat.beq pc 2 then some (.putfield 38, 5, 8, 0, 0, 0, 0) else none
  else bif Nat.blt pc 6 then bif Nat.beq pc 5 then some (.aload_n 0, 6, 0, 0, 0, 0, 0) else none
  else bif Nat.blt pc 7 then bif Nat.beq pc 6 then some (.iload_n 1, 7, 1, 0, 0, 0, 0) else none
  else bif Nat.beq pc 7 then some (.invokevirtual 265, 10, 167, 2, 8, 0, 0) else none
  else bif Nat.blt pc 17 then bif Nat.blt pc 13 then bif Nat.beq pc 10 then some (.ifCond .eq 7, 13, 17, 0, 0, 0, 0) else none
  else bif Nat.blt pc 14 then bif Nat.beq pc 13 then some (.iconst 0, 14, 0, 0, 0, 0, 0) else none
  else bif Nat.beq pc 14 then some (.goto 8, 17, 22, 0, 0, 0, 0) else none
  else bif Nat.blt pc 19 then bif Nat.blt pc 18 then bif Nat.beq pc 17 then some (.aload_n 0, 18, 0, 0, 0, 0, 0) else none
  else bif Nat.beq pc 18 then some (.iload_n 1, 19, 1, 0, 0, 0, 0) else none
  else bif Nat.blt pc 22 then bif Nat.beq pc 19 then some (.invokevirtual 221, 22, 149, 2, 8, 0, 0) else none
  else bif Nat.beq pc 22 then some (.ireturn, 23, 0, 0, 0, 0, 0) else none
def rs_X8_serviceCost : PMR := (1, 0, hdl [], 2)
def mi_X8_serviceCost : PMI := wrapM 23 cd_X8_serviceCost rs_X8_serviceCost
def cd_X8_oddOnes (pc : Nat) : Option PE :=
  bif Nat.blt pc 29 then bif Nat.blt pc 11 then bif Nat.blt pc 4 then bif Nat.blt pc 2 then bif Nat.blt pc 1 then bif Nat.beq pc 0 then some (.iconst 0, 1, 0, 0, 0, 0, 0) else none
  else bif Nat.beq pc 1 then some (.istore_n 1, 2, 1, 0, 0, 0, 0) else none
  else bif Nat.blt pc 3 then bif Nat.beq pc 2 then some (.iconst 0, 3, 0, 0, 0, 0, 0) else none
  else bif Nat.beq pc 3 then some (.istore_n 2, 4, 2, 0, 0, 0, 0) else none
  else bif Nat.blt pc 6 then bif Nat.blt pc 5 then bif Nat.beq pc 4 then some (.iload_n 2, 5, 2, 0, 0, 0, 0) else none
  else bif Nat.beq pc 5 then some (.aload_n 0, 6, 0, 0, 0, 0, 0) else none
  else bif Nat.blt pc 9 then bif Nat.beq pc 6 then some (.getfield 17, 9, 8, 8, 2, 0, 0) else none
  else bif Nat.blt pc 10 then bif Nat.beq pc 9 then some (.iconst 2, 10, 0, 0, 0, 2, 0) else none
  else bif Nat.beq pc 10 then some (.iaload, 11, 0, 0, 0, 0, 0) else none
  else bif Nat.blt pc 22 then bif Nat.blt pc 15 then bif Nat.blt pc 14 then bif Nat.beq pc 11 then some (.if_icmp .ge 45, 14, 56, 0, 0, 0, 0) else none
  else bif Nat.beq pc 14 then some (.aload_n 0, 15, 0, 0, 0, 0, 0) else none
  else bif Nat.blt pc 16 then bif Nat.beq pc 15 then some (.iload_n 2, 16, 2, 0, 0, 0, 0) else none
  else bif Nat.blt pc 19 then bif Nat.beq pc 16 then some (.invokevirtual 224, 19, 154, 2, 8, 0, 0) else none
  else bif Nat.beq pc 19 then some (.ifCond .le 31, 22, 50, 0, 0, 0, 0) else none
  else bif Nat.blt pc 24 then bif Nat.blt pc 23 then bif Nat.beq pc 22 then some (.iload_n 1, 23, 1, 0, 0, 0, 0) else none
  else bif Nat.beq pc 23 then some (.iconst 1, 24, 0, 0, 0, 1, 0) else none
  else bif Nat.blt pc 25 then bif Nat.beq pc 24 then some (.aload_n 0, 25, 0, 0, 0, 0, 0) else none
  else bif Nat.blt pc 28 then bif Nat.beq pc 25 then some (.getfield 17, 28, 8, 8, 2, 0, 0) else none
  else bif Nat.beq pc 28 then some (.iload_n 2, 29, 2, 0, 0, 0, 0) else none
  else bif Nat.blt pc 44 then bif Nat.blt pc 35 then bif Nat.blt pc 33 then bif Nat.blt pc 32 then bif Nat.beq pc 29 then some (.invokestatic 130, 32, 114, 1, 99, 0, 0) else none
  else bif Nat.beq pc 32 then some (.iaload, 33, 0, 0, 0, 0, 0) else none
  else bif Nat.blt pc 34 then bif Nat.beq pc 33 then some (.ishl, 34, 0, 0, 0, 0, 0) else none
  else bif Nat.beq pc 34 then some (.iconst 1, 35, 0, 0, 0, 1, 0) else none
  else bif Nat.blt pc 39 then bif Nat.blt pc 36 then bif Nat.beq pc 35 then some (.aload_n 0, 36, 0, 0, 0, 0, 0) else none
  else bif Nat.beq pc 36 then some (.getfield 17, 39, 8, 8, 2, 0, 0) else none
  else bif Nat.blt pc 40 then bif Nat.beq pc 39 then some (.iload_n 2, 40, 2, 0, 0, 0, 0) else none
  else bif Nat.blt pc 43 then bif Nat.beq pc 40 then some (.invokestatic 130, 43, 114, 1, 99, 0, 0) else none
  else bif Nat.beq pc 43 then some (.iconst 1, 44, 0, 0, 0, 1, 0) else none
  else bif Nat.blt pc 49 then bif Nat.blt pc 46 then bif Nat.blt pc 45 then bif Nat.beq pc 44 then some (.iadd, 45, 0, 0, 0, 0, 0) else none
  else bif Nat.beq pc 45 then some (.iaload, 46, 0, 0, 0, 0, 0) else none
  else bif Nat.blt pc 47 then bif Nat.beq pc 46 then some (.ishl, 47, 0, 0, 0, 0, 0) else none
  else bif Nat.blt pc 48 then bif Nat.beq pc 47 then some (.ixor, 48, 0, 0, 0, 0, 0) else none
  else bif Nat.beq pc 48 then some (.ixor, 49, 0, 0, 0, 0, 0) else none
  else bif Nat.blt pc 53 then bif Nat.blt pc 50 then bif Nat.beq pc 49 then some (.istore_n 1, 50, 1, 0, 0, 0, 0) else none
  else bif Nat.beq pc 50 then some (.iinc 2 1, 53, 2, 0, 0, 1, 0) else none
  else bif Nat.blt pc 56 then bif Nat.beq pc 53 then some (.goto (-49), 56, 4, 0, 0, 0, 0) else none
  else bif Nat.blt pc 57 then bif Nat.beq pc 56 then some (.iload_n 1, 57, 1, 0, 0, 0, 0) else none
  else bif Nat.beq pc 57 then some (.ireturn, 58, 0, 0, 0, 0, 0) else none
def rs_X8_oddOnes : PMR := (1, 0, hdl [], 3)
def mi_X8_oddOnes : PMI := wrapM 58 cd_X8_oddOnes rs_X8_oddOnes
def cd_X8_oddNodes (pc : Nat) : Option PE :=
  bif Nat.blt pc 5 then bif Nat.blt pc 1 then bif Nat.beq pc 0 then some (.aload_n 0, 1, 0, 0, 0, 0, 0) else none
  else bif Nat.blt pc 2 then bif Nat.beq pc 1 then some (.iconst 0, 2, 0, 0, 0, 0, 0) else none
  else bif Nat.beq pc 2 then some (.putfield 38, 5, 8, 0, 0, 0, 0) else none
  else bif Nat.blt pc 6 then bif Nat.beq pc 5 then some (.aload_n 0, 6, 0, 0, 0, 0, 0) else none
  else bif Nat.blt pc 9 then bif Nat.beq pc 6 then some (.invokevirtual 277, 9, 180, 1, 8, 0, 0) else none
  else bif Nat.beq pc 9 then some (.ireturn, 10, 0, 0, 0, 0, 0) else none
def rs_X8_oddNodes : PMR := (1, 0, hdl [], 1)
def mi_X8_oddNodes : PMI := wrapM 10 cd_X8_oddNodes rs_X8_oddNodes
def cd_X8_match (pc : Nat) : Option PE :=
  bif Nat.blt pc 47 then bif Nat.blt pc 22 then bif Nat.blt pc 10 then bif Nat.blt pc 5 then bif Nat.blt pc 1 then bif Nat.beq pc 0 then some (.iload_n 1, 1, 1, 0, 0, 0, 0) else none
  else bif Nat.blt pc 4 then bif Nat.beq pc 1 then some (.ifCond .ne 5, 4, 6, 0, 0, 0, 0) else none
  else bif Nat.beq pc 4 then some (.iconst 0, 5, 0, 0, 0, 0, 0) else none
  else bif Nat.blt pc 7 then bif Nat.blt pc 6 then bif Nat.beq pc 5 then some (.ireturn, 6, 0, 0, 0, 0, 0) else none
  else bif Nat.beq pc 6 then some (.iconst 0, 7, 0, 0, 0, 0, 0) else none
  else bif Nat.blt pc 8 then bif Nat.beq pc 7 then some (.istore_n 2, 8, 2, 0, 0, 0, 0) else none
  else bif Nat.beq pc 8 then some (.ldc 92, 10, 0, 0, 0, 1000000, 0) else none
  else bif Nat.blt pc 14 then bif Nat.blt pc 12 then bif Nat.blt pc 11 then bif Nat.beq pc 10 then some (.istore_n 3, 11, 3, 0, 0, 0, 0) else none
  else bif Nat.beq pc 11 then some (.iload_n 1, 12, 1, 0, 0, 0, 0) else none
  else bif Nat.blt pc 13 then bif Nat.beq pc 12 then some (.iload_n 2, 13, 2, 0, 0, 0, 0) else none
  else bif Nat.beq pc 13 then some (.ishr, 14, 0, 0, 0, 0, 0) else none
  else bif Nat.blt pc 16 then bif Nat.blt pc 15 then bif Nat.beq pc 14 then some (.iconst 1, 15, 0, 0, 0, 1, 0) else none
  else bif Nat.beq pc 15 then some (.iand, 16, 0, 0, 0, 0, 0) else none
  else bif Nat.blt pc 19 then bif Nat.beq pc 16 then some (.ifCond .ne 9, 19, 25, 0, 0, 0, 0) else none
  else bif Nat.beq pc 19 then some (.iinc 2 1, 22, 2, 0, 0, 1, 0) else none
  else bif Nat.blt pc 36 then bif Nat.blt pc 28 then bif Nat.blt pc 26 then bif Nat.blt pc 25 then bif Nat.beq pc 22 then some (.goto (-11), 25, 11, 0, 0, 0, 0) else none
  else bif Nat.beq pc 25 then some (.iload_n 2, 26, 2, 0, 0, 0, 0) else none
  else bif Nat.blt pc 27 then bif Nat.beq pc 26 then some (.iconst 1, 27, 0, 0, 0, 1, 0) else none
  else bif Nat.beq pc 27 then some (.iadd, 28, 0, 0, 0, 0, 0) else none
  else bif Nat.blt pc 32 then bif Nat.blt pc 30 then bif Nat.beq pc 28 then some (.istore 4, 30, 4, 0, 0, 0, 0) else none
  else bif Nat.beq pc 30 then some (.iload 4, 32, 4, 0, 0, 0, 0) else none
  else bif Nat.blt pc 33 then bif Nat.beq pc 32 then some (.aload_n 0, 33, 0, 0, 0, 0, 0) else none
  else bif Nat.beq pc 33 then some (.getfield 17, 36, 8, 8, 2, 0, 0) else none
  else bif Nat.blt pc 42 then bif Nat.blt pc 38 then bif Nat.blt pc 37 then bif Nat.beq pc 36 then some (.iconst 0, 37, 0, 0, 0, 0, 0) else none
  else bif Nat.beq pc 37 then some (.iaload, 38, 0, 0, 0, 0, 0) else none
  else bif Nat.blt pc 41 then bif Nat.beq pc 38 then some (.if_icmp .ge 58, 41, 96, 0, 0, 0, 0) else none
  else bif Nat.beq pc 41 then some (.iload_n 1, 42, 1, 0, 0, 0, 0) else none
  else bif Nat.blt pc 45 then bif Nat.blt pc 44 then bif Nat.beq pc 42 then some (.iload 4, 44, 4, 0, 0, 0, 0) else none
  else bif Nat.beq pc 44 then some (.ishr, 45, 0, 0, 0, 0, 0) else none
  else bif Nat.blt pc 46 then bif Nat.beq pc 45 then some (.iconst 1, 46, 0, 0, 0, 1, 0) else none
  else bif Nat.beq pc 46 then some (.iand, 47, 0, 0, 0, 0, 0) else none
  else bif Nat.blt pc 73 then bif Nat.blt pc 60 then bif Nat.blt pc 53 then bif Nat.blt pc 51 then bif Nat.blt pc 48 then bif Nat.beq pc 47 then some (.iconst 1, 48, 0, 0, 0, 1, 0) else none
  else bif Nat.beq pc 48 then some (.if_icmp .ne 42, 51, 90, 0, 0, 0, 0) else none
  else bif Nat.blt pc 52 then bif Nat.beq pc 51 then some (.iload_n 3, 52, 3, 0, 0, 0, 0) else none
  else bif Nat.beq pc 52 then some (.aload_n 0, 53, 0, 0, 0, 0, 0) else none
  else bif Nat.blt pc 56 then bif Nat.blt pc 54 then bif Nat.beq pc 53 then some (.iload_n 2, 54, 2, 0, 0, 0, 0) else none
  else bif Nat.beq pc 54 then some (.iload 4, 56, 4, 0, 0, 0, 0) else none
  else bif Nat.blt pc 59 then bif Nat.beq pc 56 then some (.invokevirtual 274, 59, 146, 3, 8, 0, 0) else none
  else bif Nat.beq pc 59 then some (.aload_n 0, 60, 0, 0, 0, 0, 0) else none
  else bif Nat.blt pc 69 then bif Nat.blt pc 63 then bif Nat.blt pc 62 then bif Nat.beq pc 60 then some (.iload 4, 62, 4, 0, 0, 0, 0) else none
  else bif Nat.beq pc 62 then some (.iload_n 2, 63, 2, 0, 0, 0, 0) else none
  else bif Nat.blt pc 66 then bif Nat.beq pc 63 then some (.invokevirtual 274, 66, 146, 3, 8, 0, 0) else none
  else bif Nat.beq pc 66 then some (.invokestatic 93, 69, 112, 2, 99, 0, 0) else none
  else bif Nat.blt pc 71 then bif Nat.blt pc 70 then bif Nat.beq pc 69 then some (.aload_n 0, 70, 0, 0, 0, 0, 0) else none
  else bif Nat.beq pc 70 then some (.iload_n 1, 71, 1, 0, 0, 0, 0) else none
  else bif Nat.blt pc 72 then bif Nat.beq pc 71 then some (.iconst 1, 72, 0, 0, 0, 1, 0) else none
  else bif Nat.beq pc 72 then some (.iload_n 2, 73, 2, 0, 0, 0, 0) else none
  else bif Nat.blt pc 82 then bif Nat.blt pc 78 then bif Nat.blt pc 75 then bif Nat.blt pc 74 then bif Nat.beq pc 73 then some (.ishl, 74, 0, 0, 0, 0, 0) else none
  else bif Nat.beq pc 74 then some (.iconst 1, 75, 0, 0, 0, 1, 0) else none
  else bif Nat.blt pc 77 then bif Nat.beq pc 75 then some (.iload 4, 77, 4, 0, 0, 0, 0) else none
  else bif Nat.beq pc 77 then some (.ishl, 78, 0, 0, 0, 0, 0) else none
  else bif Nat.blt pc 80 then bif Nat.blt pc 79 then bif Nat.beq pc 78 then some (.ior, 79, 0, 0, 0, 0, 0) else none
  else bif Nat.beq pc 79 then some (.iconst (-1), 80, 0, 0, 0, (-1), 0) else none
  else bif Nat.blt pc 81 then bif Nat.beq pc 80 then some (.ixor, 81, 0, 0, 0, 0, 0) else none
  else bif Nat.beq pc 81 then some (.iand, 82, 0, 0, 0, 0, 0) else none
  else bif Nat.blt pc 90 then bif Nat.blt pc 86 then bif Nat.blt pc 85 then bif Nat.beq pc 82 then some (.invokevirtual 280, 85, 182, 2, 8, 0, 0) else none
  else bif Nat.beq pc 85 then some (.iadd, 86, 0, 0, 0, 0, 0) else none
  else bif Nat.blt pc 89 then bif Nat.beq pc 86 then some (.invokestatic 93, 89, 112, 2, 99, 0, 0) else none
  else bif Nat.beq pc 89 then some (.istore_n 3, 90, 3, 0, 0, 0, 0) else none
  else bif Nat.blt pc 96 then bif Nat.blt pc 93 then bif Nat.beq pc 90 then some (.iinc 4 1, 93, 4, 0, 0, 1, 0) else none
  else bif Nat.beq pc 93 then some (.goto (-63), 96, 30, 0, 0, 0, 0) else none
  else bif Nat.blt pc 97 then bif Nat.beq pc 96 then some (.iload_n 3, 97, 3, 0, 0, 0, 0) else none
  else bif Nat.beq pc 97 then some (.ireturn, 98, 0, 0, 0, 0, 0) else none
def rs_X8_match : PMR := (1, 0, hdl [], 5)
def mi_X8_match : PMI := wrapM 98 cd_X8_match rs_X8_match
def cd_X8_matching (pc : Nat) : Option PE :=
  bif Nat.blt pc 6 then bif Nat.blt pc 2 then bif Nat.blt pc 1 then bif Nat.beq pc 0 then some (.aload_n 0, 1, 0, 0, 0, 0, 0) else none
  else bif Nat.beq pc 1 then some (.iconst 0, 2, 0, 0, 0, 0, 0) else none
  else bif Nat.blt pc 5 then bif Nat.beq pc 2 then some (.putfield 38, 5, 8, 0, 0, 0, 0) else none
  else bif Nat.beq pc 5 then some (.aload_n 0, 6, 0, 0, 0, 0, 0) else none
  else bif Nat.blt pc 10 then bif Nat.blt pc 7 then bif Nat.beq pc 6 then some (.aload_n 0, 7, 0, 0, 0, 0, 0) else none
  else bif Nat.beq pc 7 then some (.invokevirtual 277, 10, 180, 1, 8, 0, 0) else none
  else bif Nat.blt pc 13 then bif Nat.beq pc 10 then some (.invokevirtual 280, 13, 182, 2, 8, 0, 0) else none
  else bif Nat.blt pc 16 then bif Nat.beq pc 13 then some (.invokestatic 268, 16, 170, 1, 99, 0, 0) else none
  else bif Nat.beq pc 16 then some (.ireturn, 17, 0, 0, 0, 0, 0) else none
def rs_X8_matching : PMR := (1, 0, hdl [], 1)
def mi_X8_matching : PMI := wrapM 17 cd_X8_matching rs_X8_matching
def cd_X8_depotOf (pc : Nat) : Option PE :=
  bif Nat.blt pc 13 then bif Nat.blt pc 5 then bif Nat.blt pc 1 then bif Nat.beq pc 0 then some (.aload_n 0, 1, 0, 0, 0, 0, 0) else none
  else bif Nat.blt pc 2 then bif Nat.beq pc 1 then some (.iconst 0, 2, 0, 0, 0, 0, 0) else none
  else bif Nat.beq pc 2 then some (.putfield 38, 5, 8, 0, 0, 0, 0) else none
  else bif Nat.blt pc 7 then bif Nat.blt pc 6 then bif Nat.beq pc 5 then some (.aload_n 0, 6, 0, 0, 0, 0, 0) else none
  else bif Nat.beq pc 6 then some (.iload_n 1, 7, 1, 0, 0, 0, 0) else none
  else bif Nat.blt pc 10 then bif Nat.beq pc 7 then some (.invokevirtual 283, 10, 169, 2, 8, 0, 0) else none
  else bif Nat.beq pc 10 then some (.ifCond .eq 7, 13, 17, 0, 0, 0, 0) else none
  else bif Nat.blt pc 21 then bif Nat.blt pc 17 then bif Nat.blt pc 14 then bif Nat.beq pc 13 then some (.iconst 0, 14, 0, 0, 0, 0, 0) else none
  else bif Nat.beq pc 14 then some (.goto 12, 17, 26, 0, 0, 0, 0) else none
  else bif Nat.blt pc 18 then bif Nat.beq pc 17 then some (.aload_n 0, 18, 0, 0, 0, 0, 0) else none
  else bif Nat.beq pc 18 then some (.getfield 17, 21, 8, 8, 2, 0, 0) else none
  else bif Nat.blt pc 25 then bif Nat.blt pc 22 then bif Nat.beq pc 21 then some (.iload_n 1, 22, 1, 0, 0, 0, 0) else none
  else bif Nat.beq pc 22 then some (.invokestatic 209, 25, 116, 1, 99, 0, 0) else none
  else bif Nat.blt pc 26 then bif Nat.beq pc 25 then some (.iaload, 26, 0, 0, 0, 0, 0) else none
  else bif Nat.beq pc 26 then some (.ireturn, 27, 0, 0, 0, 0, 0) else none
def rs_X8_depotOf : PMR := (1, 0, hdl [], 2)
def mi_X8_depotOf : PMI := wrapM 27 cd_X8_depotOf rs_X8_depotOf
def cd_X8_length (pc : Nat) : Option PE :=
  bif Nat.blt pc 10 then bif Nat.blt pc 5 then bif Nat.blt pc 1 then bif Nat.beq pc 0 then some (.aload_n 0, 1, 0, 0, 0, 0, 0) else none
  else bif Nat.blt pc 2 then bif Nat.beq pc 1 then some (.iconst 0, 2, 0, 0, 0, 0, 0) else none
  else bif Nat.beq pc 2 then some (.putfield 38, 5, 8, 0, 0, 0, 0) else none
  else bif Nat.blt pc 6 then bif Nat.beq pc 5 then some (.aload_n 0, 6, 0, 0, 0, 0, 0) else none
  else bif Nat.blt pc 7 then bif Nat.beq pc 6 then some (.iload_n 1, 7, 1, 0, 0, 0, 0) else none
  else bif Nat.beq pc 7 then some (.invokevirtual 283, 10, 169, 2, 8, 0, 0) else none
  else bif Nat.blt pc 17 then bif Nat.blt pc 13 then bif Nat.beq pc 10 then some (.ifCond .eq 7, 13, 17, 0, 0, 0, 0) else none
  else bif Nat.blt pc 14 then bif Nat.beq pc 13 then some (.iconst 0, 14, 0, 0, 0, 0, 0) else none
  else bif Nat.beq pc 14 then some (.goto 8, 17, 22, 0, 0, 0, 0) else none
  else bif Nat.blt pc 19 then bif Nat.blt pc 18 then bif Nat.beq pc 17 then some (.aload_n 0, 18, 0, 0, 0, 0, 0) else none
  else bif Nat.beq pc 18 then some (.iload_n 1, 19, 1, 0, 0, 0, 0) else none
  else bif Nat.blt pc 22 then bif Nat.beq pc 19 then some (.invokevirtual 212, 22, 150, 2, 8, 0, 0) else none
  else bif Nat.beq pc 22 then some (.ireturn, 23, 0, 0, 0, 0, 0) else none
def rs_X8_length : PMR := (1, 0, hdl [], 2)
def mi_X8_length : PMI := wrapM 23 cd_X8_length rs_X8_length
def cd_X8_arcAt (pc : Nat) : Option PE :=
  bif Nat.blt pc 23 then bif Nat.blt pc 13 then bif Nat.blt pc 5 then bif Nat.blt pc 1 then bif Nat.beq pc 0 then some (.aload_n 0, 1, 0, 0, 0, 0, 0) else none
  else bif Nat.blt pc 2 then bif Nat.beq pc 1 then some (.iconst 0, 2, 0, 0, 0, 0, 0) else none
  else bif Nat.beq pc 2 then some (.putfield 38, 5, 8, 0, 0, 0, 0) else none
  else bif Nat.blt pc 7 then bif Nat.blt pc 6 then bif Nat.beq pc 5 then some (.aload_n 0, 6, 0, 0, 0, 0, 0) else none
  else bif Nat.beq pc 6 then some (.iload_n 1, 7, 1, 0, 0, 0, 0) else none
  else bif Nat.blt pc 10 then bif Nat.beq pc 7 then some (.invokevirtual 283, 10, 169, 2, 8, 0, 0) else none
  else bif Nat.beq pc 10 then some (.ifCond .ne 31, 13, 41, 0, 0, 0, 0) else none
  else bif Nat.blt pc 17 then bif Nat.blt pc 15 then bif Nat.blt pc 14 then bif Nat.beq pc 13 then some (.aload_n 0, 14, 0, 0, 0, 0, 0) else none
  else bif Nat.beq pc 14 then some (.iload_n 2, 15, 2, 0, 0, 0, 0) else none
  else bif Nat.blt pc 16 then bif Nat.beq pc 15 then some (.iconst 0, 16, 0, 0, 0, 0, 0) else none
  else bif Nat.beq pc 16 then some (.aload_n 0, 17, 0, 0, 0, 0, 0) else none
  else bif Nat.blt pc 21 then bif Nat.blt pc 18 then bif Nat.beq pc 17 then some (.iload_n 1, 18, 1, 0, 0, 0, 0) else none
  else bif Nat.beq pc 18 then some (.invokevirtual 212, 21, 150, 2, 8, 0, 0) else none
  else bif Nat.blt pc 22 then bif Nat.beq pc 21 then some (.iconst 1, 22, 0, 0, 0, 1, 0) else none
  else bif Nat.beq pc 22 then some (.isub, 23, 0, 0, 0, 0, 0) else none
  else bif Nat.blt pc 38 then bif Nat.blt pc 30 then bif Nat.blt pc 26 then bif Nat.beq pc 23 then some (.invokestatic 60, 26, 111, 3, 99, 0, 0) else none
  else bif Nat.blt pc 29 then bif Nat.beq pc 26 then some (.ifCond .ne 7, 29, 33, 0, 0, 0, 0) else none
  else bif Nat.beq pc 29 then some (.iconst 1, 30, 0, 0, 0, 1, 0) else none
  else bif Nat.blt pc 34 then bif Nat.blt pc 33 then bif Nat.beq pc 30 then some (.goto 4, 33, 34, 0, 0, 0, 0) else none
  else bif Nat.beq pc 33 then some (.iconst 0, 34, 0, 0, 0, 0, 0) else none
  else bif Nat.blt pc 35 then bif Nat.beq pc 34 then some (.iconst 2, 35, 0, 0, 0, 2, 0) else none
  else bif Nat.beq pc 35 then some (.invokevirtual 157, 38, 110, 3, 8, 0, 0) else none
  else bif Nat.blt pc 46 then bif Nat.blt pc 42 then bif Nat.blt pc 41 then bif Nat.beq pc 38 then some (.ifCond .eq 7, 41, 45, 0, 0, 0, 0) else none
  else bif Nat.beq pc 41 then some (.iconst 0, 42, 0, 0, 0, 0, 0) else none
  else bif Nat.blt pc 45 then bif Nat.beq pc 42 then some (.goto 9, 45, 51, 0, 0, 0, 0) else none
  else bif Nat.beq pc 45 then some (.aload_n 0, 46, 0, 0, 0, 0, 0) else none
  else bif Nat.blt pc 48 then bif Nat.blt pc 47 then bif Nat.beq pc 46 then some (.iload_n 1, 47, 1, 0, 0, 0, 0) else none
  else bif Nat.beq pc 47 then some (.iload_n 2, 48, 2, 0, 0, 0, 0) else none
  else bif Nat.blt pc 51 then bif Nat.beq pc 48 then some (.invokevirtual 215, 51, 151, 3, 8, 0, 0) else none
  else bif Nat.beq pc 51 then some (.ireturn, 52, 0, 0, 0, 0, 0) else none
def rs_X8_arcAt : PMR := (1, 0, hdl [], 3)
def mi_X8_arcAt : PMI := wrapM 52 cd_X8_arcAt rs_X8_arcAt
def cd_X8_loadOf (pc : Nat) : Option PE :=
  bif Nat.blt pc 10 then bif Nat.blt pc 5 then bif Nat.blt pc 1 then bif Nat.beq pc 0 then some (.aload_n 0, 1, 0, 0, 0, 0, 0) else none
  else bif Nat.blt pc 2 then bif Nat.beq pc 1 then some (.iconst 0, 2, 0, 0, 0, 0, 0) else none
  else bif Nat.beq pc 2 then some (.putfield 38, 5, 8, 0, 0, 0, 0) else none
  else bif Nat.blt pc 6 then bif Nat.beq pc 5 then some (.aload_n 0, 6, 0, 0, 0, 0, 0) else none
  else bif Nat.blt pc 7 then bif Nat.beq pc 6 then some (.iload_n 1, 7, 1, 0, 0, 0, 0) else none
  else bif Nat.beq pc 7 then some (.invokevirtual 283, 10, 169, 2, 8, 0, 0) else none
  else bif Nat.blt pc 17 then bif Nat.blt pc 13 then bif Nat.beq pc 10 then some (.ifCond .eq 7, 13, 17, 0, 0, 0, 0) else none
  else bif Nat.blt pc 14 then bif Nat.beq pc 13 then some (.iconst 0, 14, 0, 0, 0, 0, 0) else none
  else bif Nat.beq pc 14 then some (.goto 8, 17, 22, 0, 0, 0, 0) else none
  else bif Nat.blt pc 19 then bif Nat.blt pc 18 then bif Nat.beq pc 17 then some (.aload_n 0, 18, 0, 0, 0, 0, 0) else none
  else bif Nat.beq pc 18 then some (.iload_n 1, 19, 1, 0, 0, 0, 0) else none
  else bif Nat.blt pc 22 then bif Nat.beq pc 19 then some (.invokevirtual 233, 22, 153, 2, 8, 0, 0) else none
  else bif Nat.beq pc 22 then some (.ireturn, 23, 0, 0, 0, 0, 0) else none
def rs_X8_loadOf : PMR := (1, 0, hdl [], 2)
def mi_X8_loadOf : PMI := wrapM 23 cd_X8_loadOf rs_X8_loadOf
def cd_X8_tourCost (pc : Nat) : Option PE :=
  bif Nat.blt pc 10 then bif Nat.blt pc 5 then bif Nat.blt pc 1 then bif Nat.beq pc 0 then some (.aload_n 0, 1, 0, 0, 0, 0, 0) else none
  else bif Nat.blt pc 2 then bif Nat.beq pc 1 then some (.iconst 0, 2, 0, 0, 0, 0, 0) else none
  else bif Nat.beq pc 2 then some (.putfield 38, 5, 8, 0, 0, 0, 0) else none
  else bif Nat.blt pc 6 then bif Nat.beq pc 5 then some (.aload_n 0, 6, 0, 0, 0, 0, 0) else none
  else bif Nat.blt pc 7 then bif Nat.beq pc 6 then some (.iload_n 1, 7, 1, 0, 0, 0, 0) else none
  else bif Nat.beq pc 7 then some (.invokevirtual 283, 10, 169, 2, 8, 0, 0) else none
  else bif Nat.blt pc 17 then bif Nat.blt pc 13 then bif Nat.beq pc 10 then some (.ifCond .eq 7, 13, 17, 0, 0, 0, 0) else none
  else bif Nat.blt pc 14 then bif Nat.beq pc 13 then some (.iconst 0, 14, 0, 0, 0, 0, 0) else none
  else bif Nat.beq pc 14 then some (.goto 8, 17, 22, 0, 0, 0, 0) else none
  else bif Nat.blt pc 19 then bif Nat.blt pc 18 then bif Nat.beq pc 17 then some (.aload_n 0, 18, 0, 0, 0, 0, 0) else none
  else bif Nat.beq pc 18 then some (.iload_n 1, 19, 1, 0, 0, 0, 0) else none
  else bif Nat.blt pc 22 then bif Nat.beq pc 19 then some (.invokevirtual 227, 22, 152, 2, 8, 0, 0) else none
  else bif Nat.beq pc 22 then some (.ireturn, 23, 0, 0, 0, 0, 0) else none
def rs_X8_tourCost : PMR := (1, 0, hdl [], 2)
def mi_X8_tourCost : PMI := wrapM 23 cd_X8_tourCost rs_X8_tourCost
def cd_X8_totalCost (pc : Nat) : Option PE :=
  bif Nat.blt pc 5 then bif Nat.blt pc 1 then bif Nat.beq pc 0 then some (.aload_n 0, 1, 0, 0, 0, 0, 0) else none
  else bif Nat.blt pc 2 then bif Nat.beq pc 1 then some (.iconst 0, 2, 0, 0, 0, 0, 0) else none
  else bif Nat.beq pc 2 then some (.putfield 38, 5, 8, 0, 0, 0, 0) else none
  else bif Nat.blt pc 6 then bif Nat.beq pc 5 then some (.aload_n 0, 6, 0, 0, 0, 0, 0) else none
  else bif Nat.blt pc 9 then bif Nat.beq pc 6 then some (.invokevirtual 250, 9, 155, 1, 8, 0, 0) else none
  else bif Nat.beq pc 9 then some (.ireturn, 10, 0, 0, 0, 0, 0) else none
def rs_X8_totalCost : PMR := (1, 0, hdl [], 1)
def mi_X8_totalCost : PMI := wrapM 10 cd_X8_totalCost rs_X8_totalCost
def cd_X8_unservedOnes (pc : Nat) : Option PE :=
  bif Nat.blt pc 16 then bif Nat.blt pc 6 then bif Nat.blt pc 3 then bif Nat.blt pc 1 then bif Nat.beq pc 0 then some (.iconst 0, 1, 0, 0, 0, 0, 0) else none
  else bif Nat.blt pc 2 then bif Nat.beq pc 1 then some (.istore_n 1, 2, 1, 0, 0, 0, 0) else none
  else bif Nat.beq pc 2 then some (.iconst 0, 3, 0, 0, 0, 0, 0) else none
  else bif Nat.blt pc 4 then bif Nat.beq pc 3 then some (.istore_n 2, 4, 2, 0, 0, 0, 0) else none
  else bif Nat.blt pc 5 then bif Nat.beq pc 4 then some (.iload_n 2, 5, 2, 0, 0, 0, 0) else none
  else bif Nat.beq pc 5 then some (.aload_n 0, 6, 0, 0, 0, 0, 0) else none
  else bif Nat.blt pc 11 then bif Nat.blt pc 9 then bif Nat.beq pc 6 then some (.getfield 17, 9, 8, 8, 2, 0, 0) else none
  else bif Nat.blt pc 10 then bif Nat.beq pc 9 then some (.iconst 2, 10, 0, 0, 0, 2, 0) else none
  else bif Nat.beq pc 10 then some (.iaload, 11, 0, 0, 0, 0, 0) else none
  else bif Nat.blt pc 14 then bif Nat.beq pc 11 then some (.if_icmp .ge 25, 14, 36, 0, 0, 0, 0) else none
  else bif Nat.blt pc 15 then bif Nat.beq pc 14 then some (.iload_n 1, 15, 1, 0, 0, 0, 0) else none
  else bif Nat.beq pc 15 then some (.aload_n 0, 16, 0, 0, 0, 0, 0) else none
  else bif Nat.blt pc 28 then bif Nat.blt pc 23 then bif Nat.blt pc 17 then bif Nat.beq pc 16 then some (.iload_n 2, 17, 2, 0, 0, 0, 0) else none
  else bif Nat.blt pc 20 then bif Nat.beq pc 17 then some (.invokevirtual 286, 20, 161, 2, 8, 0, 0) else none
  else bif Nat.beq pc 20 then some (.ifCond .eq 7, 23, 27, 0, 0, 0, 0) else none
  else bif Nat.blt pc 24 then bif Nat.beq pc 23 then some (.iconst 1, 24, 0, 0, 0, 1, 0) else none
  else bif Nat.blt pc 27 then bif Nat.beq pc 24 then some (.goto 4, 27, 28, 0, 0, 0, 0) else none
  else bif Nat.beq pc 27 then some (.iconst 0, 28, 0, 0, 0, 0, 0) else none
  else bif Nat.blt pc 33 then bif Nat.blt pc 29 then bif Nat.beq pc 28 then some (.iadd, 29, 0, 0, 0, 0, 0) else none
  else bif Nat.blt pc 30 then bif Nat.beq pc 29 then some (.istore_n 1, 30, 1, 0, 0, 0, 0) else none
  else bif Nat.beq pc 30 then some (.iinc 2 1, 33, 2, 0, 0, 1, 0) else none
  else bif Nat.blt pc 36 then bif Nat.beq pc 33 then some (.goto (-29), 36, 4, 0, 0, 0, 0) else none
  else bif Nat.blt pc 37 then bif Nat.beq pc 36 then some (.iload_n 1, 37, 1, 0, 0, 0, 0) else none
  else bif Nat.beq pc 37 then some (.ireturn, 38, 0, 0, 0, 0, 0) else none
def rs_X8_unservedOnes : PMR := (1, 0, hdl [], 3)
def mi_X8_unservedOnes : PMI := wrapM 38 cd_X8_unservedOnes rs_X8_unservedOnes
def cd_X8_unserved (pc : Nat) : Option PE :=
  bif Nat.blt pc 5 then bif Nat.blt pc 1 then bif Nat.beq pc 0 then some (.aload_n 0, 1, 0, 0, 0, 0, 0) else none
  else bif Nat.blt pc 2 then bif Nat.beq pc 1 then some (.iconst 0, 2, 0, 0, 0, 0, 0) else none
  else bif Nat.beq pc 2 then some (.putfield 38, 5, 8, 0, 0, 0, 0) else none
  else bif Nat.blt pc 6 then bif Nat.beq pc 5 then some (.aload_n 0, 6, 0, 0, 0, 0, 0) else none
  else bif Nat.blt pc 9 then bif Nat.beq pc 6 then some (.invokevirtual 289, 9, 190, 1, 8, 0, 0) else none
  else bif Nat.beq pc 9 then some (.ireturn, 10, 0, 0, 0, 0, 0) else none
def rs_X8_unserved : PMR := (1, 0, hdl [], 1)
def mi_X8_unserved : PMI := wrapM 10 cd_X8_unserved rs_X8_unserved
def cd_X8_tourOf (pc : Nat) : Option PE :=
  bif Nat.blt pc 10 then bif Nat.blt pc 5 then bif Nat.blt pc 1 then bif Nat.beq pc 0 then some (.aload_n 0, 1, 0, 0, 0, 0, 0) else none
  else bif Nat.blt pc 2 then bif Nat.beq pc 1 then some (.iconst 0, 2, 0, 0, 0, 0, 0) else none
  else bif Nat.beq pc 2 then some (.putfield 38, 5, 8, 0, 0, 0, 0) else none
  else bif Nat.blt pc 6 then bif Nat.beq pc 5 then some (.aload_n 0, 6, 0, 0, 0, 0, 0) else none
  else bif Nat.blt pc 7 then bif Nat.beq pc 6 then some (.iload_n 1, 7, 1, 0, 0, 0, 0) else none
  else bif Nat.beq pc 7 then some (.invokevirtual 262, 10, 166, 2, 8, 0, 0) else none
  else bif Nat.blt pc 17 then bif Nat.blt pc 13 then bif Nat.beq pc 10 then some (.ifCond .eq 7, 13, 17, 0, 0, 0, 0) else none
  else bif Nat.blt pc 14 then bif Nat.beq pc 13 then some (.iconst 0, 14, 0, 0, 0, 0, 0) else none
  else bif Nat.beq pc 14 then some (.goto 8, 17, 22, 0, 0, 0, 0) else none
  else bif Nat.blt pc 19 then bif Nat.blt pc 18 then bif Nat.beq pc 17 then some (.aload_n 0, 18, 0, 0, 0, 0, 0) else none
  else bif Nat.beq pc 18 then some (.iload_n 1, 19, 1, 0, 0, 0, 0) else none
  else bif Nat.blt pc 22 then bif Nat.beq pc 19 then some (.invokevirtual 243, 22, 156, 2, 8, 0, 0) else none
  else bif Nat.beq pc 22 then some (.ireturn, 23, 0, 0, 0, 0, 0) else none
def rs_X8_tourOf : PMR := (1, 0, hdl [], 2)
def mi_X8_tourOf : PMI := wrapM 23 cd_X8_tourOf rs_X8_tourOf
def cd_X8_bestInsertion (pc : Nat) : Option PE :=
  bif Nat.blt pc 22 then bif Nat.blt pc 10 then bif Nat.blt pc 5 then bif Nat.blt pc 1 then bif Nat.beq pc 0 then some (.aload_n 0, 1, 0, 0, 0, 0, 0) else none
  else bif Nat.blt pc 2 then bif Nat.beq pc 1 then some (.iconst 0, 2, 0, 0, 0, 0, 0) else none
  else bif Nat.beq pc 2 then some (.putfield 38, 5, 8, 0, 0, 0, 0) else none
  else bif Nat.blt pc 6 then bif Nat.beq pc 5 then some (.aload_n 0, 6, 0, 0, 0, 0, 0) else none
  else bif Nat.blt pc 7 then bif Nat.beq pc 6 then some (.iload_n 1, 7, 1, 0, 0, 0, 0) else none
  else bif Nat.beq pc 7 then some (.invokevirtual 262, 10, 166, 2, 8, 0, 0) else none
  else bif Nat.blt pc 15 then bif Nat.blt pc 13 then bif Nat.beq pc 10 then some (.ifCond .ne 24, 13, 34, 0, 0, 0, 0) else none
  else bif Nat.blt pc 14 then bif Nat.beq pc 13 then some (.aload_n 0, 14, 0, 0, 0, 0, 0) else none
  else bif Nat.beq pc 14 then some (.aload_n 0, 15, 0, 0, 0, 0, 0) else none
  else bif Nat.blt pc 16 then bif Nat.beq pc 15 then some (.iload_n 1, 16, 1, 0, 0, 0, 0) else none
  else bif Nat.blt pc 19 then bif Nat.beq pc 16 then some (.invokevirtual 286, 19, 161, 2, 8, 0, 0) else none
  else bif Nat.beq pc 19 then some (.ifCond .ne 7, 22, 26, 0, 0, 0, 0) else none
  else bif Nat.blt pc 34 then bif Nat.blt pc 27 then bif Nat.blt pc 23 then bif Nat.beq pc 22 then some (.iconst 1, 23, 0, 0, 0, 1, 0) else none
  else bif Nat.blt pc 26 then bif Nat.beq pc 23 then some (.goto 4, 26, 27, 0, 0, 0, 0) else none
  else bif Nat.beq pc 26 then some (.iconst 0, 27, 0, 0, 0, 0, 0) else none
  else bif Nat.blt pc 28 then bif Nat.beq pc 27 then some (.iconst 2, 28, 0, 0, 0, 2, 0) else none
  else bif Nat.blt pc 31 then bif Nat.beq pc 28 then some (.invokevirtual 157, 31, 110, 3, 8, 0, 0) else none
  else bif Nat.beq pc 31 then some (.ifCond .eq 7, 34, 38, 0, 0, 0, 0) else none
  else bif Nat.blt pc 39 then bif Nat.blt pc 35 then bif Nat.beq pc 34 then some (.iconst 0, 35, 0, 0, 0, 0, 0) else none
  else bif Nat.blt pc 38 then bif Nat.beq pc 35 then some (.goto 8, 38, 43, 0, 0, 0, 0) else none
  else bif Nat.beq pc 38 then some (.aload_n 0, 39, 0, 0, 0, 0, 0) else none
  else bif Nat.blt pc 40 then bif Nat.beq pc 39 then some (.iload_n 1, 40, 1, 0, 0, 0, 0) else none
  else bif Nat.blt pc 43 then bif Nat.beq pc 40 then some (.invokevirtual 253, 43, 162, 2, 8, 0, 0) else none
  else bif Nat.beq pc 43 then some (.ireturn, 44, 0, 0, 0, 0, 0) else none
def rs_X8_bestInsertion : PMR := (1, 0, hdl [], 2)
def mi_X8_bestInsertion : PMI := wrapM 44 cd_X8_bestInsertion rs_X8_bestInsertion
def cd_X8_remember (pc : Nat) : Option PE :=
  bif Nat.blt pc 37 then bif Nat.blt pc 18 then bif Nat.blt pc 10 then bif Nat.blt pc 4 then bif Nat.blt pc 1 then bif Nat.beq pc 0 then some (.aload_n 0, 1, 0, 0, 0, 0, 0) else none
  else bif Nat.beq pc 1 then some (.getfield 292, 4, 8, 12, 0, 0, 0) else none
  else bif Nat.blt pc 6 then bif Nat.beq pc 4 then some (.bipush 8, 6, 0, 0, 0, 8, 0) else none
  else bif Nat.blt pc 9 then bif Nat.beq pc 6 then some (.if_icmp .ne 44, 9, 50, 0, 0, 0, 0) else none
  else bif Nat.beq pc 9 then some (.iconst 1, 10, 0, 0, 0, 1, 0) else none
  else bif Nat.blt pc 12 then bif Nat.blt pc 11 then bif Nat.beq pc 10 then some (.istore_n 1, 11, 1, 0, 0, 0, 0) else none
  else bif Nat.beq pc 11 then some (.iload_n 1, 12, 1, 0, 0, 0, 0) else none
  else bif Nat.blt pc 14 then bif Nat.beq pc 12 then some (.bipush 8, 14, 0, 0, 0, 8, 0) else none
  else bif Nat.blt pc 17 then bif Nat.beq pc 14 then some (.if_icmp .ge 26, 17, 40, 0, 0, 0, 0) else none
  else bif Nat.beq pc 17 then some (.aload_n 0, 18, 0, 0, 0, 0, 0) else none
  else bif Nat.blt pc 27 then bif Nat.blt pc 22 then bif Nat.blt pc 21 then bif Nat.beq pc 18 then some (.getfield 28, 21, 8, 11, 2, 0, 0) else none
  else bif Nat.beq pc 21 then some (.iload_n 1, 22, 1, 0, 0, 0, 0) else none
  else bif Nat.blt pc 23 then bif Nat.beq pc 22 then some (.aaload, 23, 0, 0, 0, 0, 0) else none
  else bif Nat.blt pc 24 then bif Nat.beq pc 23 then some (.aload_n 0, 24, 0, 0, 0, 0, 0) else none
  else bif Nat.beq pc 24 then some (.getfield 28, 27, 8, 11, 2, 0, 0) else none
  else bif Nat.blt pc 30 then bif Nat.blt pc 28 then bif Nat.beq pc 27 then some (.iload_n 1, 28, 1, 0, 0, 0, 0) else none
  else bif Nat.blt pc 29 then bif Nat.beq pc 28 then some (.iconst 1, 29, 0, 0, 0, 1, 0) else none
  else bif Nat.beq pc 29 then some (.isub, 30, 0, 0, 0, 0, 0) else none
  else bif Nat.blt pc 31 then bif Nat.beq pc 30 then some (.aaload, 31, 0, 0, 0, 0, 0) else none
  else bif Nat.blt pc 34 then bif Nat.beq pc 31 then some (.invokestatic 169, 34, 113, 2, 99, 0, 0) else none
  else bif Nat.beq pc 34 then some (.iinc 1 1, 37, 1, 0, 0, 1, 0) else none
  else bif Nat.blt pc 58 then bif Nat.blt pc 46 then bif Nat.blt pc 41 then bif Nat.blt pc 40 then bif Nat.beq pc 37 then some (.goto (-26), 40, 11, 0, 0, 0, 0) else none
  else bif Nat.beq pc 40 then some (.aload_n 0, 41, 0, 0, 0, 0, 0) else none
  else bif Nat.blt pc 42 then bif Nat.beq pc 41 then some (.dup, 42, 0, 0, 0, 0, 0) else none
  else bif Nat.blt pc 45 then bif Nat.beq pc 42 then some (.getfield 292, 45, 8, 12, 0, 0, 0) else none
  else bif Nat.beq pc 45 then some (.iconst 1, 46, 0, 0, 0, 1, 0) else none
  else bif Nat.blt pc 51 then bif Nat.blt pc 47 then bif Nat.beq pc 46 then some (.isub, 47, 0, 0, 0, 0, 0) else none
  else bif Nat.blt pc 50 then bif Nat.beq pc 47 then some (.putfield 292, 50, 8, 12, 0, 0, 0) else none
  else bif Nat.beq pc 50 then some (.aload_n 0, 51, 0, 0, 0, 0, 0) else none
  else bif Nat.blt pc 54 then bif Nat.beq pc 51 then some (.getfield 17, 54, 8, 8, 2, 0, 0) else none
  else bif Nat.blt pc 55 then bif Nat.beq pc 54 then some (.aload_n 0, 55, 0, 0, 0, 0, 0) else none
  else bif Nat.beq pc 55 then some (.getfield 28, 58, 8, 11, 2, 0, 0) else none
  else bif Nat.blt pc 67 then bif Nat.blt pc 62 then bif Nat.blt pc 59 then bif Nat.beq pc 58 then some (.aload_n 0, 59, 0, 0, 0, 0, 0) else none
  else bif Nat.beq pc 59 then some (.getfield 292, 62, 8, 12, 0, 0, 0) else none
  else bif Nat.blt pc 63 then bif Nat.beq pc 62 then some (.aaload, 63, 0, 0, 0, 0, 0) else none
  else bif Nat.blt pc 66 then bif Nat.beq pc 63 then some (.invokestatic 169, 66, 113, 2, 99, 0, 0) else none
  else bif Nat.beq pc 66 then some (.aload_n 0, 67, 0, 0, 0, 0, 0) else none
  else bif Nat.blt pc 72 then bif Nat.blt pc 68 then bif Nat.beq pc 67 then some (.dup, 68, 0, 0, 0, 0, 0) else none
  else bif Nat.blt pc 71 then bif Nat.beq pc 68 then some (.getfield 292, 71, 8, 12, 0, 0, 0) else none
  else bif Nat.beq pc 71 then some (.iconst 1, 72, 0, 0, 0, 1, 0) else none
  else bif Nat.blt pc 73 then bif Nat.beq pc 72 then some (.iadd, 73, 0, 0, 0, 0, 0) else none
  else bif Nat.blt pc 76 then bif Nat.beq pc 73 then some (.putfield 292, 76, 8, 12, 0, 0, 0) else none
  else bif Nat.beq pc 76 then some (.return_, 77, 0, 0, 0, 0, 0) else none
def rs_X8_remember : PMR := (0, 0, hdl [], 2)
def mi_X8_remember : PMI := wrapM 77 cd_X8_remember rs_X8_remember
def cd_X8_openTour (pc : Nat) : Option PE :=
  bif Nat.blt pc 59 then bif Nat.blt pc 27 then bif Nat.blt pc 12 then bif Nat.blt pc 6 then bif Nat.blt pc 2 then bif Nat.blt pc 1 then bif Nat.beq pc 0 then some (.aload_n 0, 1, 0, 0, 0, 0, 0) else none
  else bif Nat.beq pc 1 then some (.iconst 0, 2, 0, 0, 0, 0, 0) else none
  else bif Nat.blt pc 5 then bif Nat.beq pc 2 then some (.putfield 38, 5, 8, 0, 0, 0, 0) else none
  else bif Nat.beq pc 5 then some (.aload_n 0, 6, 0, 0, 0, 0, 0) else none
  else bif Nat.blt pc 8 then bif Nat.blt pc 7 then bif Nat.beq pc 6 then some (.iload_n 1, 7, 1, 0, 0, 0, 0) else none
  else bif Nat.beq pc 7 then some (.iconst 0, 8, 0, 0, 0, 0, 0) else none
  else bif Nat.blt pc 9 then bif Nat.beq pc 8 then some (.aload_n 0, 9, 0, 0, 0, 0, 0) else none
  else bif Nat.beq pc 9 then some (.getfield 17, 12, 8, 8, 2, 0, 0) else none
  else bif Nat.blt pc 16 then bif Nat.blt pc 14 then bif Nat.blt pc 13 then bif Nat.beq pc 12 then some (.iconst 3, 13, 0, 0, 0, 3, 0) else none
  else bif Nat.beq pc 13 then some (.iaload, 14, 0, 0, 0, 0, 0) else none
  else bif Nat.blt pc 15 then bif Nat.beq pc 14 then some (.iconst 1, 15, 0, 0, 0, 1, 0) else none
  else bif Nat.beq pc 15 then some (.isub, 16, 0, 0, 0, 0, 0) else none
  else bif Nat.blt pc 22 then bif Nat.blt pc 19 then bif Nat.beq pc 16 then some (.invokestatic 60, 19, 111, 3, 99, 0, 0) else none
  else bif Nat.beq pc 19 then some (.ifCond .ne 7, 22, 26, 0, 0, 0, 0) else none
  else bif Nat.blt pc 23 then bif Nat.beq pc 22 then some (.iconst 1, 23, 0, 0, 0, 1, 0) else none
  else bif Nat.blt pc 26 then bif Nat.beq pc 23 then some (.goto 4, 26, 27, 0, 0, 0, 0) else none
  else bif Nat.beq pc 26 then some (.iconst 0, 27, 0, 0, 0, 0, 0) else none
  else bif Nat.blt pc 42 then bif Nat.blt pc 35 then bif Nat.blt pc 31 then bif Nat.blt pc 28 then bif Nat.beq pc 27 then some (.iconst 1, 28, 0, 0, 0, 1, 0) else none
  else bif Nat.beq pc 28 then some (.invokevirtual 157, 31, 110, 3, 8, 0, 0) else none
  else bif Nat.blt pc 34 then bif Nat.beq pc 31 then some (.ifCond .ne 26, 34, 57, 0, 0, 0, 0) else none
  else bif Nat.beq pc 34 then some (.aload_n 0, 35, 0, 0, 0, 0, 0) else none
  else bif Nat.blt pc 39 then bif Nat.blt pc 36 then bif Nat.beq pc 35 then some (.aload_n 0, 36, 0, 0, 0, 0, 0) else none
  else bif Nat.beq pc 36 then some (.getfield 17, 39, 8, 8, 2, 0, 0) else none
  else bif Nat.blt pc 40 then bif Nat.beq pc 39 then some (.iconst 4, 40, 0, 0, 0, 4, 0) else none
  else bif Nat.blt pc 41 then bif Nat.beq pc 40 then some (.iaload, 41, 0, 0, 0, 0, 0) else none
  else bif Nat.beq pc 41 then some (.iconst 4, 42, 0, 0, 0, 4, 0) else none
  else bif Nat.blt pc 50 then bif Nat.blt pc 46 then bif Nat.blt pc 45 then bif Nat.beq pc 42 then some (.if_icmp .ne 7, 45, 49, 0, 0, 0, 0) else none
  else bif Nat.beq pc 45 then some (.iconst 1, 46, 0, 0, 0, 1, 0) else none
  else bif Nat.blt pc 49 then bif Nat.beq pc 46 then some (.goto 4, 49, 50, 0, 0, 0, 0) else none
  else bif Nat.beq pc 49 then some (.iconst 0, 50, 0, 0, 0, 0, 0) else none
  else bif Nat.blt pc 54 then bif Nat.blt pc 51 then bif Nat.beq pc 50 then some (.iconst 2, 51, 0, 0, 0, 2, 0) else none
  else bif Nat.beq pc 51 then some (.invokevirtual 157, 54, 110, 3, 8, 0, 0) else none
  else bif Nat.blt pc 57 then bif Nat.beq pc 54 then some (.ifCond .eq 5, 57, 59, 0, 0, 0, 0) else none
  else bif Nat.blt pc 58 then bif Nat.beq pc 57 then some (.iconst 0, 58, 0, 0, 0, 0, 0) else none
  else bif Nat.beq pc 58 then some (.ireturn, 59, 0, 0, 0, 0, 0) else none
  else bif Nat.blt pc 85 then bif Nat.blt pc 74 then bif Nat.blt pc 67 then bif Nat.blt pc 63 then bif Nat.blt pc 60 then bif Nat.beq pc 59 then some (.aload_n 0, 60, 0, 0, 0, 0, 0) else none
  else bif Nat.beq pc 60 then some (.invokevirtual 166, 63, 194, 1, 8, 0, 0) else none
  else bif Nat.blt pc 64 then bif Nat.beq pc 63 then some (.aload_n 0, 64, 0, 0, 0, 0, 0) else none
  else bif Nat.beq pc 64 then some (.getfield 17, 67, 8, 8, 2, 0, 0) else none
  else bif Nat.blt pc 69 then bif Nat.blt pc 68 then bif Nat.beq pc 67 then some (.iconst 4, 68, 0, 0, 0, 4, 0) else none
  else bif Nat.beq pc 68 then some (.iaload, 69, 0, 0, 0, 0, 0) else none
  else bif Nat.blt pc 70 then bif Nat.beq pc 69 then some (.istore_n 2, 70, 2, 0, 0, 0, 0) else none
  else bif Nat.blt pc 71 then bif Nat.beq pc 70 then some (.aload_n 0, 71, 0, 0, 0, 0, 0) else none
  else bif Nat.beq pc 71 then some (.getfield 17, 74, 8, 8, 2, 0, 0) else none
  else bif Nat.blt pc 78 then bif Nat.blt pc 76 then bif Nat.blt pc 75 then bif Nat.beq pc 74 then some (.iconst 4, 75, 0, 0, 0, 4, 0) else none
  else bif Nat.beq pc 75 then some (.dup2, 76, 0, 0, 0, 0, 0) else none
  else bif Nat.blt pc 77 then bif Nat.beq pc 76 then some (.iaload, 77, 0, 0, 0, 0, 0) else none
  else bif Nat.beq pc 77 then some (.iconst 1, 78, 0, 0, 0, 1, 0) else none
  else bif Nat.blt pc 80 then bif Nat.blt pc 79 then bif Nat.beq pc 78 then some (.iadd, 79, 0, 0, 0, 0, 0) else none
  else bif Nat.beq pc 79 then some (.iastore, 80, 0, 0, 0, 0, 0) else none
  else bif Nat.blt pc 81 then bif Nat.beq pc 80 then some (.aload_n 0, 81, 0, 0, 0, 0, 0) else none
  else bif Nat.blt pc 84 then bif Nat.beq pc 81 then some (.getfield 17, 84, 8, 8, 2, 0, 0) else none
  else bif Nat.beq pc 84 then some (.iload_n 2, 85, 2, 0, 0, 0, 0) else none
  else bif Nat.blt pc 100 then bif Nat.blt pc 95 then bif Nat.blt pc 89 then bif Nat.blt pc 88 then bif Nat.beq pc 85 then some (.invokestatic 209, 88, 116, 1, 99, 0, 0) else none
  else bif Nat.beq pc 88 then some (.aload_n 0, 89, 0, 0, 0, 0, 0) else none
  else bif Nat.blt pc 92 then bif Nat.beq pc 89 then some (.getfield 17, 92, 8, 8, 2, 0, 0) else none
  else bif Nat.beq pc 92 then some (.sipush 189, 95, 0, 0, 0, 189, 0) else none
  else bif Nat.blt pc 97 then bif Nat.blt pc 96 then bif Nat.beq pc 95 then some (.iload_n 1, 96, 1, 0, 0, 0, 0) else none
  else bif Nat.beq pc 96 then some (.iadd, 97, 0, 0, 0, 0, 0) else none
  else bif Nat.blt pc 98 then bif Nat.beq pc 97 then some (.iaload, 98, 0, 0, 0, 0, 0) else none
  else bif Nat.blt pc 99 then bif Nat.beq pc 98 then some (.iastore, 99, 0, 0, 0, 0, 0) else none
  else bif Nat.beq pc 99 then some (.aload_n 0, 100, 0, 0, 0, 0, 0) else none
  else bif Nat.blt pc 108 then bif Nat.blt pc 104 then bif Nat.blt pc 103 then bif Nat.beq pc 100 then some (.getfield 17, 103, 8, 8, 2, 0, 0) else none
  else bif Nat.beq pc 103 then some (.iload_n 2, 104, 2, 0, 0, 0, 0) else none
  else bif Nat.blt pc 107 then bif Nat.beq pc 104 then some (.invokestatic 209, 107, 116, 1, 99, 0, 0) else none
  else bif Nat.beq pc 107 then some (.iconst 1, 108, 0, 0, 0, 1, 0) else none
  else bif Nat.blt pc 110 then bif Nat.blt pc 109 then bif Nat.beq pc 108 then some (.iadd, 109, 0, 0, 0, 0, 0) else none
  else bif Nat.beq pc 109 then some (.iconst 0, 110, 0, 0, 0, 0, 0) else none
  else bif Nat.blt pc 111 then bif Nat.beq pc 110 then some (.iastore, 111, 0, 0, 0, 0, 0) else none
  else bif Nat.blt pc 112 then bif Nat.beq pc 111 then some (.iload_n 2, 112, 2, 0, 0, 0, 0) else none
  else bif Nat.beq pc 112 then some (.ireturn, 113, 0, 0, 0, 0, 0) else none
def rs_X8_openTour : PMR := (1, 0, hdl [], 3)
def mi_X8_openTour : PMI := wrapM 113 cd_X8_openTour rs_X8_openTour
def cd_X8_insert (pc : Nat) : Option PE :=
  bif Nat.blt pc 52 then bif Nat.blt pc 27 then bif Nat.blt pc 13 then bif Nat.blt pc 5 then bif Nat.blt pc 1 then bif Nat.beq pc 0 then some (.aload_n 0, 1, 0, 0, 0, 0, 0) else none
  else bif Nat.blt pc 2 then bif Nat.beq pc 1 then some (.iconst 0, 2, 0, 0, 0, 0, 0) else none
  else bif Nat.beq pc 2 then some (.putfield 38, 5, 8, 0, 0, 0, 0) else none
  else bif Nat.blt pc 7 then bif Nat.blt pc 6 then bif Nat.beq pc 5 then some (.aload_n 0, 6, 0, 0, 0, 0, 0) else none
  else bif Nat.beq pc 6 then some (.iload_n 1, 7, 1, 0, 0, 0, 0) else none
  else bif Nat.blt pc 10 then bif Nat.beq pc 7 then some (.invokevirtual 283, 10, 169, 2, 8, 0, 0) else none
  else bif Nat.beq pc 10 then some (.ifCond .ne 37, 13, 47, 0, 0, 0, 0) else none
  else bif Nat.blt pc 17 then bif Nat.blt pc 15 then bif Nat.blt pc 14 then bif Nat.beq pc 13 then some (.aload_n 0, 14, 0, 0, 0, 0, 0) else none
  else bif Nat.beq pc 14 then some (.iload_n 2, 15, 2, 0, 0, 0, 0) else none
  else bif Nat.blt pc 16 then bif Nat.beq pc 15 then some (.iconst 0, 16, 0, 0, 0, 0, 0) else none
  else bif Nat.beq pc 16 then some (.aload_n 0, 17, 0, 0, 0, 0, 0) else none
  else bif Nat.blt pc 21 then bif Nat.blt pc 18 then bif Nat.beq pc 17 then some (.iload_n 1, 18, 1, 0, 0, 0, 0) else none
  else bif Nat.beq pc 18 then some (.invokevirtual 212, 21, 150, 2, 8, 0, 0) else none
  else bif Nat.blt pc 24 then bif Nat.beq pc 21 then some (.invokestatic 60, 24, 111, 3, 99, 0, 0) else none
  else bif Nat.beq pc 24 then some (.ifCond .ne 7, 27, 31, 0, 0, 0, 0) else none
  else bif Nat.blt pc 40 then bif Nat.blt pc 32 then bif Nat.blt pc 28 then bif Nat.beq pc 27 then some (.iconst 1, 28, 0, 0, 0, 1, 0) else none
  else bif Nat.blt pc 31 then bif Nat.beq pc 28 then some (.goto 4, 31, 32, 0, 0, 0, 0) else none
  else bif Nat.beq pc 31 then some (.iconst 0, 32, 0, 0, 0, 0, 0) else none
  else bif Nat.blt pc 36 then bif Nat.blt pc 33 then bif Nat.beq pc 32 then some (.iconst 1, 33, 0, 0, 0, 1, 0) else none
  else bif Nat.beq pc 33 then some (.invokevirtual 157, 36, 110, 3, 8, 0, 0) else none
  else bif Nat.blt pc 39 then bif Nat.beq pc 36 then some (.ifCond .ne 11, 39, 47, 0, 0, 0, 0) else none
  else bif Nat.beq pc 39 then some (.aload_n 0, 40, 0, 0, 0, 0, 0) else none
  else bif Nat.blt pc 48 then bif Nat.blt pc 44 then bif Nat.blt pc 41 then bif Nat.beq pc 40 then some (.iload_n 3, 41, 3, 0, 0, 0, 0) else none
  else bif Nat.beq pc 41 then some (.invokevirtual 265, 44, 167, 2, 8, 0, 0) else none
  else bif Nat.blt pc 47 then bif Nat.beq pc 44 then some (.ifCond .eq 5, 47, 49, 0, 0, 0, 0) else none
  else bif Nat.beq pc 47 then some (.iconst 0, 48, 0, 0, 0, 0, 0) else none
  else bif Nat.blt pc 50 then bif Nat.blt pc 49 then bif Nat.beq pc 48 then some (.ireturn, 49, 0, 0, 0, 0, 0) else none
  else bif Nat.beq pc 49 then some (.aload_n 0, 50, 0, 0, 0, 0, 0) else none
  else bif Nat.blt pc 51 then bif Nat.beq pc 50 then some (.aload_n 0, 51, 0, 0, 0, 0, 0) else none
  else bif Nat.beq pc 51 then some (.iload_n 3, 52, 3, 0, 0, 0, 0) else none
  else bif Nat.blt pc 78 then bif Nat.blt pc 63 then bif Nat.blt pc 57 then bif Nat.blt pc 53 then bif Nat.beq pc 52 then some (.iconst 2, 53, 0, 0, 0, 2, 0) else none
  else bif Nat.blt pc 54 then bif Nat.beq pc 53 then some (.idiv, 54, 0, 0, 0, 0, 0) else none
  else bif Nat.beq pc 54 then some (.invokevirtual 286, 57, 161, 2, 8, 0, 0) else none
  else bif Nat.blt pc 61 then bif Nat.blt pc 60 then bif Nat.beq pc 57 then some (.ifCond .eq 15, 60, 72, 0, 0, 0, 0) else none
  else bif Nat.beq pc 60 then some (.aload_n 0, 61, 0, 0, 0, 0, 0) else none
  else bif Nat.blt pc 62 then bif Nat.beq pc 61 then some (.iload_n 1, 62, 1, 0, 0, 0, 0) else none
  else bif Nat.beq pc 62 then some (.iload_n 2, 63, 2, 0, 0, 0, 0) else none
  else bif Nat.blt pc 72 then bif Nat.blt pc 67 then bif Nat.blt pc 64 then bif Nat.beq pc 63 then some (.iload_n 3, 64, 3, 0, 0, 0, 0) else none
  else bif Nat.beq pc 64 then some (.invokevirtual 246, 67, 160, 4, 8, 0, 0) else none
  else bif Nat.blt pc 69 then bif Nat.beq pc 67 then some (.ldc 92, 69, 0, 0, 0, 1000000, 0) else none
  else bif Nat.beq pc 69 then some (.if_icmp .lt 7, 72, 76, 0, 0, 0, 0) else none
  else bif Nat.blt pc 76 then bif Nat.blt pc 73 then bif Nat.beq pc 72 then some (.iconst 1, 73, 0, 0, 0, 1, 0) else none
  else bif Nat.beq pc 73 then some (.goto 4, 76, 77, 0, 0, 0, 0) else none
  else bif Nat.blt pc 77 then bif Nat.beq pc 76 then some (.iconst 0, 77, 0, 0, 0, 0, 0) else none
  else bif Nat.beq pc 77 then some (.iconst 2, 78, 0, 0, 0, 2, 0) else none
  else bif Nat.blt pc 91 then bif Nat.blt pc 85 then bif Nat.blt pc 81 then bif Nat.beq pc 78 then some (.invokevirtual 157, 81, 110, 3, 8, 0, 0) else none
  else bif Nat.blt pc 84 then bif Nat.beq pc 81 then some (.ifCond .eq 5, 84, 86, 0, 0, 0, 0) else none
  else bif Nat.beq pc 84 then some (.iconst 0, 85, 0, 0, 0, 0, 0) else none
  else bif Nat.blt pc 87 then bif Nat.blt pc 86 then bif Nat.beq pc 85 then some (.ireturn, 86, 0, 0, 0, 0, 0) else none
  else bif Nat.beq pc 86 then some (.aload_n 0, 87, 0, 0, 0, 0, 0) else none
  else bif Nat.blt pc 90 then bif Nat.beq pc 87 then some (.invokevirtual 166, 90, 194, 1, 8, 0, 0) else none
  else bif Nat.beq pc 90 then some (.aload_n 0, 91, 0, 0, 0, 0, 0) else none
  else bif Nat.blt pc 97 then bif Nat.blt pc 93 then bif Nat.blt pc 92 then bif Nat.beq pc 91 then some (.iload_n 1, 92, 1, 0, 0, 0, 0) else none
  else bif Nat.beq pc 92 then some (.iload_n 2, 93, 2, 0, 0, 0, 0) else none
  else bif Nat.blt pc 94 then bif Nat.beq pc 93 then some (.iload_n 3, 94, 3, 0, 0, 0, 0) else none
  else bif Nat.beq pc 94 then some (.invokevirtual 236, 97, 158, 4, 8, 0, 0) else none
  else bif Nat.blt pc 99 then bif Nat.blt pc 98 then bif Nat.beq pc 97 then some (.aload_n 0, 98, 0, 0, 0, 0, 0) else none
  else bif Nat.beq pc 98 then some (.iload_n 1, 99, 1, 0, 0, 0, 0) else none
  else bif Nat.blt pc 102 then bif Nat.beq pc 99 then some (.invokevirtual 227, 102, 152, 2, 8, 0, 0) else none
  else bif Nat.beq pc 102 then some (.ireturn, 103, 0, 0, 0, 0, 0) else none
def rs_X8_insert : PMR := (1, 0, hdl [], 4)
def mi_X8_insert : PMI := wrapM 103 cd_X8_insert rs_X8_insert
def cd_X8_drop (pc : Nat) : Option PE :=
  bif Nat.blt pc 56 then bif Nat.blt pc 27 then bif Nat.blt pc 14 then bif Nat.blt pc 6 then bif Nat.blt pc 2 then bif Nat.blt pc 1 then bif Nat.beq pc 0 then some (.aload_n 0, 1, 0, 0, 0, 0, 0) else none
  else bif Nat.beq pc 1 then some (.iconst 0, 2, 0, 0, 0, 0, 0) else none
  else bif Nat.blt pc 5 then bif Nat.beq pc 2 then some (.putfield 38, 5, 8, 0, 0, 0, 0) else none
  else bif Nat.beq pc 5 then some (.aload_n 0, 6, 0, 0, 0, 0, 0) else none
  else bif Nat.blt pc 10 then bif Nat.blt pc 7 then bif Nat.beq pc 6 then some (.iload_n 1, 7, 1, 0, 0, 0, 0) else none
  else bif Nat.beq pc 7 then some (.invokevirtual 262, 10, 166, 2, 8, 0, 0) else none
  else bif Nat.blt pc 13 then bif Nat.beq pc 10 then some (.ifCond .eq 5, 13, 15, 0, 0, 0, 0) else none
  else bif Nat.beq pc 13 then some (.iconst 0, 14, 0, 0, 0, 0, 0) else none
  else bif Nat.blt pc 20 then bif Nat.blt pc 16 then bif Nat.blt pc 15 then bif Nat.beq pc 14 then some (.ireturn, 15, 0, 0, 0, 0, 0) else none
  else bif Nat.beq pc 15 then some (.aload_n 0, 16, 0, 0, 0, 0, 0) else none
  else bif Nat.blt pc 17 then bif Nat.beq pc 16 then some (.iload_n 1, 17, 1, 0, 0, 0, 0) else none
  else bif Nat.beq pc 17 then some (.invokevirtual 243, 20, 156, 2, 8, 0, 0) else none
  else bif Nat.blt pc 22 then bif Nat.blt pc 21 then bif Nat.beq pc 20 then some (.istore_n 2, 21, 2, 0, 0, 0, 0) else none
  else bif Nat.beq pc 21 then some (.aload_n 0, 22, 0, 0, 0, 0, 0) else none
  else bif Nat.blt pc 23 then bif Nat.beq pc 22 then some (.iload_n 2, 23, 2, 0, 0, 0, 0) else none
  else bif Nat.blt pc 24 then bif Nat.beq pc 23 then some (.iconst (-1), 24, 0, 0, 0, (-1), 0) else none
  else bif Nat.beq pc 24 then some (.if_icmp .ne 7, 27, 31, 0, 0, 0, 0) else none
  else bif Nat.blt pc 42 then bif Nat.blt pc 33 then bif Nat.blt pc 31 then bif Nat.blt pc 28 then bif Nat.beq pc 27 then some (.iconst 1, 28, 0, 0, 0, 1, 0) else none
  else bif Nat.beq pc 28 then some (.goto 4, 31, 32, 0, 0, 0, 0) else none
  else bif Nat.blt pc 32 then bif Nat.beq pc 31 then some (.iconst 0, 32, 0, 0, 0, 0, 0) else none
  else bif Nat.beq pc 32 then some (.iconst 2, 33, 0, 0, 0, 2, 0) else none
  else bif Nat.blt pc 39 then bif Nat.blt pc 36 then bif Nat.beq pc 33 then some (.invokevirtual 157, 36, 110, 3, 8, 0, 0) else none
  else bif Nat.beq pc 36 then some (.ifCond .eq 5, 39, 41, 0, 0, 0, 0) else none
  else bif Nat.blt pc 40 then bif Nat.beq pc 39 then some (.iconst 0, 40, 0, 0, 0, 0, 0) else none
  else bif Nat.blt pc 41 then bif Nat.beq pc 40 then some (.ireturn, 41, 0, 0, 0, 0, 0) else none
  else bif Nat.beq pc 41 then some (.aload_n 0, 42, 0, 0, 0, 0, 0) else none
  else bif Nat.blt pc 48 then bif Nat.blt pc 44 then bif Nat.blt pc 43 then bif Nat.beq pc 42 then some (.iload_n 2, 43, 2, 0, 0, 0, 0) else none
  else bif Nat.beq pc 43 then some (.iload_n 1, 44, 1, 0, 0, 0, 0) else none
  else bif Nat.blt pc 47 then bif Nat.beq pc 44 then some (.invokevirtual 230, 47, 157, 3, 8, 0, 0) else none
  else bif Nat.beq pc 47 then some (.istore_n 3, 48, 3, 0, 0, 0, 0) else none
  else bif Nat.blt pc 50 then bif Nat.blt pc 49 then bif Nat.beq pc 48 then some (.aload_n 0, 49, 0, 0, 0, 0, 0) else none
  else bif Nat.beq pc 49 then some (.iload_n 2, 50, 2, 0, 0, 0, 0) else none
  else bif Nat.blt pc 51 then bif Nat.beq pc 50 then some (.iload_n 3, 51, 3, 0, 0, 0, 0) else none
  else bif Nat.blt pc 54 then bif Nat.beq pc 51 then some (.invokevirtual 215, 54, 151, 3, 8, 0, 0) else none
  else bif Nat.beq pc 54 then some (.istore 4, 56, 4, 0, 0, 0, 0) else none
  else bif Nat.blt pc 84 then bif Nat.blt pc 69 then bif Nat.blt pc 62 then bif Nat.blt pc 58 then bif Nat.blt pc 57 then bif Nat.beq pc 56 then some (.aload_n 0, 57, 0, 0, 0, 0, 0) else none
  else bif Nat.beq pc 57 then some (.iload_n 2, 58, 2, 0, 0, 0, 0) else none
  else bif Nat.blt pc 59 then bif Nat.beq pc 58 then some (.iload_n 3, 59, 3, 0, 0, 0, 0) else none
  else bif Nat.beq pc 59 then some (.invokevirtual 240, 62, 159, 3, 8, 0, 0) else none
  else bif Nat.blt pc 64 then bif Nat.blt pc 63 then bif Nat.beq pc 62 then some (.aload_n 0, 63, 0, 0, 0, 0, 0) else none
  else bif Nat.beq pc 63 then some (.iload_n 2, 64, 2, 0, 0, 0, 0) else none
  else bif Nat.blt pc 67 then bif Nat.beq pc 64 then some (.invokevirtual 227, 67, 152, 2, 8, 0, 0) else none
  else bif Nat.beq pc 67 then some (.ldc 92, 69, 0, 0, 0, 1000000, 0) else none
  else bif Nat.blt pc 77 then bif Nat.blt pc 73 then bif Nat.blt pc 72 then bif Nat.beq pc 69 then some (.if_icmp .lt 7, 72, 76, 0, 0, 0, 0) else none
  else bif Nat.beq pc 72 then some (.iconst 1, 73, 0, 0, 0, 1, 0) else none
  else bif Nat.blt pc 76 then bif Nat.beq pc 73 then some (.goto 4, 76, 77, 0, 0, 0, 0) else none
  else bif Nat.beq pc 76 then some (.iconst 0, 77, 0, 0, 0, 0, 0) else none
  else bif Nat.blt pc 80 then bif Nat.blt pc 79 then bif Nat.beq pc 77 then some (.istore 5, 79, 5, 0, 0, 0, 0) else none
  else bif Nat.beq pc 79 then some (.aload_n 0, 80, 0, 0, 0, 0, 0) else none
  else bif Nat.blt pc 81 then bif Nat.beq pc 80 then some (.iload_n 2, 81, 2, 0, 0, 0, 0) else none
  else bif Nat.blt pc 82 then bif Nat.beq pc 81 then some (.iload_n 3, 82, 3, 0, 0, 0, 0) else none
  else bif Nat.beq pc 82 then some (.iload 4, 84, 4, 0, 0, 0, 0) else none
  else bif Nat.blt pc 100 then bif Nat.blt pc 91 then bif Nat.blt pc 88 then bif Nat.blt pc 87 then bif Nat.beq pc 84 then some (.invokevirtual 236, 87, 158, 4, 8, 0, 0) else none
  else bif Nat.beq pc 87 then some (.aload_n 0, 88, 0, 0, 0, 0, 0) else none
  else bif Nat.blt pc 90 then bif Nat.beq pc 88 then some (.iload 5, 90, 5, 0, 0, 0, 0) else none
  else bif Nat.beq pc 90 then some (.iconst 2, 91, 0, 0, 0, 2, 0) else none
  else bif Nat.blt pc 97 then bif Nat.blt pc 94 then bif Nat.beq pc 91 then some (.invokevirtual 157, 94, 110, 3, 8, 0, 0) else none
  else bif Nat.beq pc 94 then some (.ifCond .eq 5, 97, 99, 0, 0, 0, 0) else none
  else bif Nat.blt pc 98 then bif Nat.beq pc 97 then some (.iconst 0, 98, 0, 0, 0, 0, 0) else none
  else bif Nat.blt pc 99 then bif Nat.beq pc 98 then some (.ireturn, 99, 0, 0, 0, 0, 0) else none
  else bif Nat.beq pc 99 then some (.aload_n 0, 100, 0, 0, 0, 0, 0) else none
  else bif Nat.blt pc 106 then bif Nat.blt pc 104 then bif Nat.blt pc 103 then bif Nat.beq pc 100 then some (.invokevirtual 166, 103, 194, 1, 8, 0, 0) else none
  else bif Nat.beq pc 103 then some (.aload_n 0, 104, 0, 0, 0, 0, 0) else none
  else bif Nat.blt pc 105 then bif Nat.beq pc 104 then some (.iload_n 2, 105, 2, 0, 0, 0, 0) else none
  else bif Nat.beq pc 105 then some (.iload_n 3, 106, 3, 0, 0, 0, 0) else none
  else bif Nat.blt pc 110 then bif Nat.blt pc 109 then bif Nat.beq pc 106 then some (.invokevirtual 240, 109, 159, 3, 8, 0, 0) else none
  else bif Nat.beq pc 109 then some (.aload_n 0, 110, 0, 0, 0, 0, 0) else none
  else bif Nat.blt pc 111 then bif Nat.beq pc 110 then some (.iload_n 2, 111, 2, 0, 0, 0, 0) else none
  else bif Nat.blt pc 114 then bif Nat.beq pc 111 then some (.invokevirtual 227, 114, 152, 2, 8, 0, 0) else none
  else bif Nat.beq pc 114 then some (.ireturn, 115, 0, 0, 0, 0, 0) else none
def rs_X8_drop : PMR := (1, 0, hdl [], 6)
def mi_X8_drop : PMI := wrapM 115 cd_X8_drop rs_X8_drop
def cd_X8_flip (pc : Nat) : Option PE :=
  bif Nat.blt pc 62 then bif Nat.blt pc 32 then bif Nat.blt pc 16 then bif Nat.blt pc 7 then bif Nat.blt pc 2 then bif Nat.blt pc 1 then bif Nat.beq pc 0 then some (.aload_n 0, 1, 0, 0, 0, 0, 0) else none
  else bif Nat.beq pc 1 then some (.iconst 0, 2, 0, 0, 0, 0, 0) else none
  else bif Nat.blt pc 5 then bif Nat.beq pc 2 then some (.putfield 38, 5, 8, 0, 0, 0, 0) else none
  else bif Nat.blt pc 6 then bif Nat.beq pc 5 then some (.aload_n 0, 6, 0, 0, 0, 0, 0) else none
  else bif Nat.beq pc 6 then some (.iload_n 1, 7, 1, 0, 0, 0, 0) else none
  else bif Nat.blt pc 13 then bif Nat.blt pc 10 then bif Nat.beq pc 7 then some (.invokevirtual 262, 10, 166, 2, 8, 0, 0) else none
  else bif Nat.beq pc 10 then some (.ifCond .eq 5, 13, 15, 0, 0, 0, 0) else none
  else bif Nat.blt pc 14 then bif Nat.beq pc 13 then some (.iconst 0, 14, 0, 0, 0, 0, 0) else none
  else bif Nat.blt pc 15 then bif Nat.beq pc 14 then some (.ireturn, 15, 0, 0, 0, 0, 0) else none
  else bif Nat.beq pc 15 then some (.aload_n 0, 16, 0, 0, 0, 0, 0) else none
  else bif Nat.blt pc 23 then bif Nat.blt pc 20 then bif Nat.blt pc 17 then bif Nat.beq pc 16 then some (.iload_n 1, 17, 1, 0, 0, 0, 0) else none
  else bif Nat.beq pc 17 then some (.invokevirtual 243, 20, 156, 2, 8, 0, 0) else none
  else bif Nat.blt pc 21 then bif Nat.beq pc 20 then some (.istore_n 2, 21, 2, 0, 0, 0, 0) else none
  else bif Nat.blt pc 22 then bif Nat.beq pc 21 then some (.aload_n 0, 22, 0, 0, 0, 0, 0) else none
  else bif Nat.beq pc 22 then some (.iload_n 2, 23, 2, 0, 0, 0, 0) else none
  else bif Nat.blt pc 27 then bif Nat.blt pc 24 then bif Nat.beq pc 23 then some (.iconst (-1), 24, 0, 0, 0, (-1), 0) else none
  else bif Nat.beq pc 24 then some (.if_icmp .ne 7, 27, 31, 0, 0, 0, 0) else none
  else bif Nat.blt pc 28 then bif Nat.beq pc 27 then some (.iconst 1, 28, 0, 0, 0, 1, 0) else none
  else bif Nat.blt pc 31 then bif Nat.beq pc 28 then some (.goto 4, 31, 32, 0, 0, 0, 0) else none
  else bif Nat.beq pc 31 then some (.iconst 0, 32, 0, 0, 0, 0, 0) else none
  else bif Nat.blt pc 48 then bif Nat.blt pc 41 then bif Nat.blt pc 36 then bif Nat.blt pc 33 then bif Nat.beq pc 32 then some (.iconst 2, 33, 0, 0, 0, 2, 0) else none
  else bif Nat.beq pc 33 then some (.invokevirtual 157, 36, 110, 3, 8, 0, 0) else none
  else bif Nat.blt pc 39 then bif Nat.beq pc 36 then some (.ifCond .eq 5, 39, 41, 0, 0, 0, 0) else none
  else bif Nat.blt pc 40 then bif Nat.beq pc 39 then some (.iconst 0, 40, 0, 0, 0, 0, 0) else none
  else bif Nat.beq pc 40 then some (.ireturn, 41, 0, 0, 0, 0, 0) else none
  else bif Nat.blt pc 45 then bif Nat.blt pc 42 then bif Nat.beq pc 41 then some (.iload_n 2, 42, 2, 0, 0, 0, 0) else none
  else bif Nat.beq pc 42 then some (.invokestatic 209, 45, 116, 1, 99, 0, 0) else none
  else bif Nat.blt pc 46 then bif Nat.beq pc 45 then some (.iconst 2, 46, 0, 0, 0, 2, 0) else none
  else bif Nat.blt pc 47 then bif Nat.beq pc 46 then some (.iadd, 47, 0, 0, 0, 0, 0) else none
  else bif Nat.beq pc 47 then some (.aload_n 0, 48, 0, 0, 0, 0, 0) else none
  else bif Nat.blt pc 55 then bif Nat.blt pc 50 then bif Nat.blt pc 49 then bif Nat.beq pc 48 then some (.iload_n 2, 49, 2, 0, 0, 0, 0) else none
  else bif Nat.beq pc 49 then some (.iload_n 1, 50, 1, 0, 0, 0, 0) else none
  else bif Nat.blt pc 53 then bif Nat.beq pc 50 then some (.invokevirtual 230, 53, 157, 3, 8, 0, 0) else none
  else bif Nat.blt pc 54 then bif Nat.beq pc 53 then some (.iadd, 54, 0, 0, 0, 0, 0) else none
  else bif Nat.beq pc 54 then some (.istore_n 3, 55, 3, 0, 0, 0, 0) else none
  else bif Nat.blt pc 59 then bif Nat.blt pc 56 then bif Nat.beq pc 55 then some (.aload_n 0, 56, 0, 0, 0, 0, 0) else none
  else bif Nat.beq pc 56 then some (.getfield 17, 59, 8, 8, 2, 0, 0) else none
  else bif Nat.blt pc 60 then bif Nat.beq pc 59 then some (.iload_n 3, 60, 3, 0, 0, 0, 0) else none
  else bif Nat.blt pc 61 then bif Nat.beq pc 60 then some (.dup2, 61, 0, 0, 0, 0, 0) else none
  else bif Nat.beq pc 61 then some (.iaload, 62, 0, 0, 0, 0, 0) else none
  else bif Nat.blt pc 92 then bif Nat.blt pc 79 then bif Nat.blt pc 67 then bif Nat.blt pc 64 then bif Nat.blt pc 63 then bif Nat.beq pc 62 then some (.iconst 1, 63, 0, 0, 0, 1, 0) else none
  else bif Nat.beq pc 63 then some (.ixor, 64, 0, 0, 0, 0, 0) else none
  else bif Nat.blt pc 65 then bif Nat.beq pc 64 then some (.iastore, 65, 0, 0, 0, 0, 0) else none
  else bif Nat.blt pc 66 then bif Nat.beq pc 65 then some (.aload_n 0, 66, 0, 0, 0, 0, 0) else none
  else bif Nat.beq pc 66 then some (.iload_n 2, 67, 2, 0, 0, 0, 0) else none
  else bif Nat.blt pc 72 then bif Nat.blt pc 70 then bif Nat.beq pc 67 then some (.invokevirtual 227, 70, 152, 2, 8, 0, 0) else none
  else bif Nat.beq pc 70 then some (.ldc 92, 72, 0, 0, 0, 1000000, 0) else none
  else bif Nat.blt pc 75 then bif Nat.beq pc 72 then some (.if_icmp .lt 7, 75, 79, 0, 0, 0, 0) else none
  else bif Nat.blt pc 76 then bif Nat.beq pc 75 then some (.iconst 1, 76, 0, 0, 0, 1, 0) else none
  else bif Nat.beq pc 76 then some (.goto 4, 79, 80, 0, 0, 0, 0) else none
  else bif Nat.blt pc 87 then bif Nat.blt pc 82 then bif Nat.blt pc 80 then bif Nat.beq pc 79 then some (.iconst 0, 80, 0, 0, 0, 0, 0) else none
  else bif Nat.beq pc 80 then some (.istore 4, 82, 4, 0, 0, 0, 0) else none
  else bif Nat.blt pc 83 then bif Nat.beq pc 82 then some (.aload_n 0, 83, 0, 0, 0, 0, 0) else none
  else bif Nat.blt pc 86 then bif Nat.beq pc 83 then some (.getfield 17, 86, 8, 8, 2, 0, 0) else none
  else bif Nat.beq pc 86 then some (.iload_n 3, 87, 3, 0, 0, 0, 0) else none
  else bif Nat.blt pc 89 then bif Nat.blt pc 88 then bif Nat.beq pc 87 then some (.dup2, 88, 0, 0, 0, 0, 0) else none
  else bif Nat.beq pc 88 then some (.iaload, 89, 0, 0, 0, 0, 0) else none
  else bif Nat.blt pc 90 then bif Nat.beq pc 89 then some (.iconst 1, 90, 0, 0, 0, 1, 0) else none
  else bif Nat.blt pc 91 then bif Nat.beq pc 90 then some (.ixor, 91, 0, 0, 0, 0, 0) else none
  else bif Nat.beq pc 91 then some (.iastore, 92, 0, 0, 0, 0, 0) else none
  else bif Nat.blt pc 109 then bif Nat.blt pc 102 then bif Nat.blt pc 95 then bif Nat.blt pc 93 then bif Nat.beq pc 92 then some (.aload_n 0, 93, 0, 0, 0, 0, 0) else none
  else bif Nat.beq pc 93 then some (.iload 4, 95, 4, 0, 0, 0, 0) else none
  else bif Nat.blt pc 96 then bif Nat.beq pc 95 then some (.iconst 2, 96, 0, 0, 0, 2, 0) else none
  else bif Nat.blt pc 99 then bif Nat.beq pc 96 then some (.invokevirtual 157, 99, 110, 3, 8, 0, 0) else none
  else bif Nat.beq pc 99 then some (.ifCond .eq 5, 102, 104, 0, 0, 0, 0) else none
  else bif Nat.blt pc 104 then bif Nat.blt pc 103 then bif Nat.beq pc 102 then some (.iconst 0, 103, 0, 0, 0, 0, 0) else none
  else bif Nat.beq pc 103 then some (.ireturn, 104, 0, 0, 0, 0, 0) else none
  else bif Nat.blt pc 105 then bif Nat.beq pc 104 then some (.aload_n 0, 105, 0, 0, 0, 0, 0) else none
  else bif Nat.blt pc 108 then bif Nat.beq pc 105 then some (.invokevirtual 166, 108, 194, 1, 8, 0, 0) else none
  else bif Nat.beq pc 108 then some (.aload_n 0, 109, 0, 0, 0, 0, 0) else none
  else bif Nat.blt pc 116 then bif Nat.blt pc 113 then bif Nat.blt pc 112 then bif Nat.beq pc 109 then some (.getfield 17, 112, 8, 8, 2, 0, 0) else none
  else bif Nat.beq pc 112 then some (.iload_n 3, 113, 3, 0, 0, 0, 0) else none
  else bif Nat.blt pc 114 then bif Nat.beq pc 113 then some (.dup2, 114, 0, 0, 0, 0, 0) else none
  else bif Nat.blt pc 115 then bif Nat.beq pc 114 then some (.iaload, 115, 0, 0, 0, 0, 0) else none
  else bif Nat.beq pc 115 then some (.iconst 1, 116, 0, 0, 0, 1, 0) else none
  else bif Nat.blt pc 119 then bif Nat.blt pc 117 then bif Nat.beq pc 116 then some (.ixor, 117, 0, 0, 0, 0, 0) else none
  else bif Nat.blt pc 118 then bif Nat.beq pc 117 then some (.iastore, 118, 0, 0, 0, 0, 0) else none
  else bif Nat.beq pc 118 then some (.aload_n 0, 119, 0, 0, 0, 0, 0) else none
  else bif Nat.blt pc 120 then bif Nat.beq pc 119 then some (.iload_n 2, 120, 2, 0, 0, 0, 0) else none
  else bif Nat.blt pc 123 then bif Nat.beq pc 120 then some (.invokevirtual 227, 123, 152, 2, 8, 0, 0) else none
  else bif Nat.beq pc 123 then some (.ireturn, 124, 0, 0, 0, 0, 0) else none
def rs_X8_flip : PMR := (1, 0, hdl [], 5)
def mi_X8_flip : PMI := wrapM 124 cd_X8_flip rs_X8_flip
def cd_X8_build (pc : Nat) : Option PE :=
  bif Nat.blt pc 31 then bif Nat.blt pc 13 then bif Nat.blt pc 6 then bif Nat.blt pc 2 then bif Nat.blt pc 1 then bif Nat.beq pc 0 then some (.aload_n 0, 1, 0, 0, 0, 0, 0) else none
  else bif Nat.beq pc 1 then some (.iconst 0, 2, 0, 0, 0, 0, 0) else none
  else bif Nat.blt pc 5 then bif Nat.beq pc 2 then some (.putfield 38, 5, 8, 0, 0, 0, 0) else none
  else bif Nat.beq pc 5 then some (.aload_n 0, 6, 0, 0, 0, 0, 0) else none
  else bif Nat.blt pc 10 then bif Nat.blt pc 9 then bif Nat.beq pc 6 then some (.invokevirtual 166, 9, 194, 1, 8, 0, 0) else none
  else bif Nat.beq pc 9 then some (.iconst 0, 10, 0, 0, 0, 0, 0) else none
  else bif Nat.blt pc 11 then bif Nat.beq pc 10 then some (.istore_n 1, 11, 1, 0, 0, 0, 0) else none
  else bif Nat.blt pc 12 then bif Nat.beq pc 11 then some (.iconst 0, 12, 0, 0, 0, 0, 0) else none
  else bif Nat.beq pc 12 then some (.istore_n 2, 13, 2, 0, 0, 0, 0) else none
  else bif Nat.blt pc 20 then bif Nat.blt pc 15 then bif Nat.blt pc 14 then bif Nat.beq pc 13 then some (.iload_n 2, 14, 2, 0, 0, 0, 0) else none
  else bif Nat.beq pc 14 then some (.aload_n 0, 15, 0, 0, 0, 0, 0) else none
  else bif Nat.blt pc 18 then bif Nat.beq pc 15 then some (.getfield 17, 18, 8, 8, 2, 0, 0) else none
  else bif Nat.blt pc 19 then bif Nat.beq pc 18 then some (.iconst 2, 19, 0, 0, 0, 2, 0) else none
  else bif Nat.beq pc 19 then some (.iaload, 20, 0, 0, 0, 0, 0) else none
  else bif Nat.blt pc 24 then bif Nat.blt pc 23 then bif Nat.beq pc 20 then some (.if_icmp .ge 44, 23, 64, 0, 0, 0, 0) else none
  else bif Nat.beq pc 23 then some (.aload_n 0, 24, 0, 0, 0, 0, 0) else none
  else bif Nat.blt pc 25 then bif Nat.beq pc 24 then some (.iload_n 2, 25, 2, 0, 0, 0, 0) else none
  else bif Nat.blt pc 28 then bif Nat.beq pc 25 then some (.invokevirtual 286, 28, 161, 2, 8, 0, 0) else none
  else bif Nat.beq pc 28 then some (.ifCond .eq 11, 31, 39, 0, 0, 0, 0) else none
  else bif Nat.blt pc 46 then bif Nat.blt pc 39 then bif Nat.blt pc 33 then bif Nat.blt pc 32 then bif Nat.beq pc 31 then some (.aload_n 0, 32, 0, 0, 0, 0, 0) else none
  else bif Nat.beq pc 32 then some (.iload_n 2, 33, 2, 0, 0, 0, 0) else none
  else bif Nat.blt pc 36 then bif Nat.beq pc 33 then some (.invokevirtual 253, 36, 162, 2, 8, 0, 0) else none
  else bif Nat.beq pc 36 then some (.goto 4, 39, 40, 0, 0, 0, 0) else none
  else bif Nat.blt pc 41 then bif Nat.blt pc 40 then bif Nat.beq pc 39 then some (.iconst (-1), 40, 0, 0, 0, (-1), 0) else none
  else bif Nat.beq pc 40 then some (.istore_n 3, 41, 3, 0, 0, 0, 0) else none
  else bif Nat.blt pc 42 then bif Nat.beq pc 41 then some (.iload_n 3, 42, 3, 0, 0, 0, 0) else none
  else bif Nat.blt pc 43 then bif Nat.beq pc 42 then some (.iconst (-1), 43, 0, 0, 0, (-1), 0) else none
  else bif Nat.beq pc 43 then some (.if_icmp .ne 6, 46, 49, 0, 0, 0, 0) else none
  else bif Nat.blt pc 55 then bif Nat.blt pc 50 then bif Nat.blt pc 49 then bif Nat.beq pc 46 then some (.goto 12, 49, 58, 0, 0, 0, 0) else none
  else bif Nat.beq pc 49 then some (.aload_n 0, 50, 0, 0, 0, 0, 0) else none
  else bif Nat.blt pc 51 then bif Nat.beq pc 50 then some (.iload_n 3, 51, 3, 0, 0, 0, 0) else none
  else bif Nat.blt pc 52 then bif Nat.beq pc 51 then some (.iload_n 2, 52, 2, 0, 0, 0, 0) else none
  else bif Nat.beq pc 52 then some (.invokevirtual 256, 55, 163, 3, 8, 0, 0) else none
  else bif Nat.blt pc 61 then bif Nat.blt pc 58 then bif Nat.beq pc 55 then some (.iinc 1 1, 58, 1, 0, 0, 1, 0) else none
  else bif Nat.beq pc 58 then some (.iinc 2 1, 61, 2, 0, 0, 1, 0) else none
  else bif Nat.blt pc 64 then bif Nat.beq pc 61 then some (.goto (-48), 64, 13, 0, 0, 0, 0) else none
  else bif Nat.blt pc 65 then bif Nat.beq pc 64 then some (.iload_n 1, 65, 1, 0, 0, 0, 0) else none
  else bif Nat.beq pc 65 then some (.ireturn, 66, 0, 0, 0, 0, 0) else none
def rs_X8_build : PMR := (1, 0, hdl [], 4)
def mi_X8_build : PMI := wrapM 66 cd_X8_build rs_X8_build
def cd_X8_improve (pc : Nat) : Option PE :=
  bif Nat.blt pc 60 then bif Nat.blt pc 31 then bif Nat.blt pc 16 then bif Nat.blt pc 6 then bif Nat.blt pc 2 then bif Nat.blt pc 1 then bif Nat.beq pc 0 then some (.aload_n 0, 1, 0, 0, 0, 0, 0) else none
  else bif Nat.beq pc 1 then some (.iconst 0, 2, 0, 0, 0, 0, 0) else none
  else bif Nat.blt pc 5 then bif Nat.beq pc 2 then some (.putfield 38, 5, 8, 0, 0, 0, 0) else none
  else bif Nat.beq pc 5 then some (.aload_n 0, 6, 0, 0, 0, 0, 0) else none
  else bif Nat.blt pc 8 then bif Nat.blt pc 7 then bif Nat.beq pc 6 then some (.iload_n 1, 7, 1, 0, 0, 0, 0) else none
  else bif Nat.beq pc 7 then some (.iconst 1, 8, 0, 0, 0, 1, 0) else none
  else bif Nat.blt pc 10 then bif Nat.beq pc 8 then some (.bipush 10, 10, 0, 0, 0, 10, 0) else none
  else bif Nat.blt pc 13 then bif Nat.beq pc 10 then some (.invokestatic 60, 13, 111, 3, 99, 0, 0) else none
  else bif Nat.beq pc 13 then some (.ifCond .ne 7, 16, 20, 0, 0, 0, 0) else none
  else bif Nat.blt pc 22 then bif Nat.blt pc 20 then bif Nat.blt pc 17 then bif Nat.beq pc 16 then some (.iconst 1, 17, 0, 0, 0, 1, 0) else none
  else bif Nat.beq pc 17 then some (.goto 4, 20, 21, 0, 0, 0, 0) else none
  else bif Nat.blt pc 21 then bif Nat.beq pc 20 then some (.iconst 0, 21, 0, 0, 0, 0, 0) else none
  else bif Nat.beq pc 21 then some (.iconst 1, 22, 0, 0, 0, 1, 0) else none
  else bif Nat.blt pc 28 then bif Nat.blt pc 25 then bif Nat.beq pc 22 then some (.invokevirtual 157, 25, 110, 3, 8, 0, 0) else none
  else bif Nat.beq pc 25 then some (.ifCond .eq 5, 28, 30, 0, 0, 0, 0) else none
  else bif Nat.blt pc 29 then bif Nat.beq pc 28 then some (.iconst 0, 29, 0, 0, 0, 0, 0) else none
  else bif Nat.blt pc 30 then bif Nat.beq pc 29 then some (.ireturn, 30, 0, 0, 0, 0, 0) else none
  else bif Nat.beq pc 30 then some (.aload_n 0, 31, 0, 0, 0, 0, 0) else none
  else bif Nat.blt pc 44 then bif Nat.blt pc 37 then bif Nat.blt pc 35 then bif Nat.blt pc 34 then bif Nat.beq pc 31 then some (.invokevirtual 166, 34, 194, 1, 8, 0, 0) else none
  else bif Nat.beq pc 34 then some (.iconst 0, 35, 0, 0, 0, 0, 0) else none
  else bif Nat.blt pc 36 then bif Nat.beq pc 35 then some (.istore_n 2, 36, 2, 0, 0, 0, 0) else none
  else bif Nat.beq pc 36 then some (.iconst 0, 37, 0, 0, 0, 0, 0) else none
  else bif Nat.blt pc 39 then bif Nat.blt pc 38 then bif Nat.beq pc 37 then some (.istore_n 3, 38, 3, 0, 0, 0, 0) else none
  else bif Nat.beq pc 38 then some (.iload_n 3, 39, 3, 0, 0, 0, 0) else none
  else bif Nat.blt pc 40 then bif Nat.beq pc 39 then some (.iload_n 1, 40, 1, 0, 0, 0, 0) else none
  else bif Nat.blt pc 43 then bif Nat.beq pc 40 then some (.if_icmp .ge 92, 43, 132, 0, 0, 0, 0) else none
  else bif Nat.beq pc 43 then some (.iconst (-1), 44, 0, 0, 0, (-1), 0) else none
  else bif Nat.blt pc 52 then bif Nat.blt pc 47 then bif Nat.blt pc 46 then bif Nat.beq pc 44 then some (.istore 4, 46, 4, 0, 0, 0, 0) else none
  else bif Nat.beq pc 46 then some (.iconst 0, 47, 0, 0, 0, 0, 0) else none
  else bif Nat.blt pc 49 then bif Nat.beq pc 47 then some (.istore 5, 49, 5, 0, 0, 0, 0) else none
  else bif Nat.blt pc 50 then bif Nat.beq pc 49 then some (.iconst 0, 50, 0, 0, 0, 0, 0) else none
  else bif Nat.beq pc 50 then some (.istore 6, 52, 6, 0, 0, 0, 0) else none
  else bif Nat.blt pc 55 then bif Nat.blt pc 54 then bif Nat.beq pc 52 then some (.iload 6, 54, 6, 0, 0, 0, 0) else none
  else bif Nat.beq pc 54 then some (.aload_n 0, 55, 0, 0, 0, 0, 0) else none
  else bif Nat.blt pc 58 then bif Nat.beq pc 55 then some (.getfield 17, 58, 8, 8, 2, 0, 0) else none
  else bif Nat.blt pc 59 then bif Nat.beq pc 58 then some (.iconst 2, 59, 0, 0, 0, 2, 0) else none
  else bif Nat.beq pc 59 then some (.iaload, 60, 0, 0, 0, 0, 0) else none
  else bif Nat.blt pc 99 then bif Nat.blt pc 78 then bif Nat.blt pc 69 then bif Nat.blt pc 64 then bif Nat.blt pc 63 then bif Nat.beq pc 60 then some (.if_icmp .ge 49, 63, 109, 0, 0, 0, 0) else none
  else bif Nat.beq pc 63 then some (.aload_n 0, 64, 0, 0, 0, 0, 0) else none
  else bif Nat.blt pc 66 then bif Nat.beq pc 64 then some (.iload 6, 66, 6, 0, 0, 0, 0) else none
  else bif Nat.beq pc 66 then some (.invokevirtual 243, 69, 156, 2, 8, 0, 0) else none
  else bif Nat.blt pc 73 then bif Nat.blt pc 70 then bif Nat.beq pc 69 then some (.iconst (-1), 70, 0, 0, 0, (-1), 0) else none
  else bif Nat.beq pc 70 then some (.if_icmp .ne 7, 73, 77, 0, 0, 0, 0) else none
  else bif Nat.blt pc 74 then bif Nat.beq pc 73 then some (.iconst 0, 74, 0, 0, 0, 0, 0) else none
  else bif Nat.blt pc 77 then bif Nat.beq pc 74 then some (.goto 9, 77, 83, 0, 0, 0, 0) else none
  else bif Nat.beq pc 77 then some (.aload_n 0, 78, 0, 0, 0, 0, 0) else none
  else bif Nat.blt pc 87 then bif Nat.blt pc 83 then bif Nat.blt pc 80 then bif Nat.beq pc 78 then some (.iload 6, 80, 6, 0, 0, 0, 0) else none
  else bif Nat.beq pc 80 then some (.invokevirtual 295, 83, 165, 2, 8, 0, 0) else none
  else bif Nat.blt pc 85 then bif Nat.beq pc 83 then some (.istore 7, 85, 7, 0, 0, 0, 0) else none
  else bif Nat.beq pc 85 then some (.iload 7, 87, 7, 0, 0, 0, 0) else none
  else bif Nat.blt pc 92 then bif Nat.blt pc 89 then bif Nat.beq pc 87 then some (.iload 5, 89, 5, 0, 0, 0, 0) else none
  else bif Nat.beq pc 89 then some (.if_icmp .gt 6, 92, 95, 0, 0, 0, 0) else none
  else bif Nat.blt pc 95 then bif Nat.beq pc 92 then some (.goto 11, 95, 103, 0, 0, 0, 0) else none
  else bif Nat.blt pc 97 then bif Nat.beq pc 95 then some (.iload 6, 97, 6, 0, 0, 0, 0) else none
  else bif Nat.beq pc 97 then some (.istore 4, 99, 4, 0, 0, 0, 0) else none
  else bif Nat.blt pc 117 then bif Nat.blt pc 109 then bif Nat.blt pc 103 then bif Nat.blt pc 101 then bif Nat.beq pc 99 then some (.iload 7, 101, 7, 0, 0, 0, 0) else none
  else bif Nat.beq pc 101 then some (.istore 5, 103, 5, 0, 0, 0, 0) else none
  else bif Nat.blt pc 106 then bif Nat.beq pc 103 then some (.iinc 6 1, 106, 6, 0, 0, 1, 0) else none
  else bif Nat.beq pc 106 then some (.goto (-54), 109, 52, 0, 0, 0, 0) else none
  else bif Nat.blt pc 112 then bif Nat.blt pc 111 then bif Nat.beq pc 109 then some (.iload 4, 111, 4, 0, 0, 0, 0) else none
  else bif Nat.beq pc 111 then some (.iconst (-1), 112, 0, 0, 0, (-1), 0) else none
  else bif Nat.blt pc 115 then bif Nat.beq pc 112 then some (.if_icmp .ne 5, 115, 117, 0, 0, 0, 0) else none
  else bif Nat.blt pc 116 then bif Nat.beq pc 115 then some (.iload_n 2, 116, 2, 0, 0, 0, 0) else none
  else bif Nat.beq pc 116 then some (.ireturn, 117, 0, 0, 0, 0, 0) else none
  else bif Nat.blt pc 125 then bif Nat.blt pc 119 then bif Nat.blt pc 118 then bif Nat.beq pc 117 then some (.iload_n 2, 118, 2, 0, 0, 0, 0) else none
  else bif Nat.beq pc 118 then some (.aload_n 0, 119, 0, 0, 0, 0, 0) else none
  else bif Nat.blt pc 121 then bif Nat.beq pc 119 then some (.iload 4, 121, 4, 0, 0, 0, 0) else none
  else bif Nat.blt pc 124 then bif Nat.beq pc 121 then some (.invokevirtual 259, 124, 164, 2, 8, 0, 0) else none
  else bif Nat.beq pc 124 then some (.iadd, 125, 0, 0, 0, 0, 0) else none
  else bif Nat.blt pc 129 then bif Nat.blt pc 126 then bif Nat.beq pc 125 then some (.istore_n 2, 126, 2, 0, 0, 0, 0) else none
  else bif Nat.beq pc 126 then some (.iinc 3 1, 129, 3, 0, 0, 1, 0) else none
  else bif Nat.blt pc 132 then bif Nat.beq pc 129 then some (.goto (-91), 132, 38, 0, 0, 0, 0) else none
  else bif Nat.blt pc 133 then bif Nat.beq pc 132 then some (.iload_n 2, 133, 2, 0, 0, 0, 0) else none
  else bif Nat.beq pc 133 then some (.ireturn, 134, 0, 0, 0, 0, 0) else none
def rs_X8_improve : PMR := (1, 0, hdl [], 8)
def mi_X8_improve : PMI := wrapM 134 cd_X8_improve rs_X8_improve
def cd_X8_undo (pc : Nat) : Option PE :=
  bif Nat.blt pc 21 then bif Nat.blt pc 12 then bif Nat.blt pc 5 then bif Nat.blt pc 1 then bif Nat.beq pc 0 then some (.aload_n 0, 1, 0, 0, 0, 0, 0) else none
  else bif Nat.blt pc 2 then bif Nat.beq pc 1 then some (.iconst 0, 2, 0, 0, 0, 0, 0) else none
  else bif Nat.beq pc 2 then some (.putfield 38, 5, 8, 0, 0, 0, 0) else none
  else bif Nat.blt pc 6 then bif Nat.beq pc 5 then some (.aload_n 0, 6, 0, 0, 0, 0, 0) else none
  else bif Nat.blt pc 9 then bif Nat.beq pc 6 then some (.getfield 292, 9, 8, 12, 0, 0, 0) else none
  else bif Nat.beq pc 9 then some (.ifCond .ne 5, 12, 14, 0, 0, 0, 0) else none
  else bif Nat.blt pc 15 then bif Nat.blt pc 13 then bif Nat.beq pc 12 then some (.iconst (-1), 13, 0, 0, 0, (-1), 0) else none
  else bif Nat.blt pc 14 then bif Nat.beq pc 13 then some (.ireturn, 14, 0, 0, 0, 0, 0) else none
  else bif Nat.beq pc 14 then some (.aload_n 0, 15, 0, 0, 0, 0, 0) else none
  else bif Nat.blt pc 19 then bif Nat.blt pc 16 then bif Nat.beq pc 15 then some (.dup, 16, 0, 0, 0, 0, 0) else none
  else bif Nat.beq pc 16 then some (.getfield 292, 19, 8, 12, 0, 0, 0) else none
  else bif Nat.blt pc 20 then bif Nat.beq pc 19 then some (.iconst 1, 20, 0, 0, 0, 1, 0) else none
  else bif Nat.beq pc 20 then some (.isub, 21, 0, 0, 0, 0, 0) else none
  else bif Nat.blt pc 34 then bif Nat.blt pc 28 then bif Nat.blt pc 24 then bif Nat.beq pc 21 then some (.putfield 292, 24, 8, 12, 0, 0, 0) else none
  else bif Nat.blt pc 25 then bif Nat.beq pc 24 then some (.aload_n 0, 25, 0, 0, 0, 0, 0) else none
  else bif Nat.beq pc 25 then some (.getfield 28, 28, 8, 11, 2, 0, 0) else none
  else bif Nat.blt pc 32 then bif Nat.blt pc 29 then bif Nat.beq pc 28 then some (.aload_n 0, 29, 0, 0, 0, 0, 0) else none
  else bif Nat.beq pc 29 then some (.getfield 292, 32, 8, 12, 0, 0, 0) else none
  else bif Nat.blt pc 33 then bif Nat.beq pc 32 then some (.aaload, 33, 0, 0, 0, 0, 0) else none
  else bif Nat.beq pc 33 then some (.aload_n 0, 34, 0, 0, 0, 0, 0) else none
  else bif Nat.blt pc 41 then bif Nat.blt pc 37 then bif Nat.beq pc 34 then some (.getfield 17, 37, 8, 8, 2, 0, 0) else none
  else bif Nat.blt pc 40 then bif Nat.beq pc 37 then some (.invokestatic 169, 40, 113, 2, 99, 0, 0) else none
  else bif Nat.beq pc 40 then some (.aload_n 0, 41, 0, 0, 0, 0, 0) else none
  else bif Nat.blt pc 45 then bif Nat.blt pc 44 then bif Nat.beq pc 41 then some (.invokevirtual 173, 44, 143, 1, 8, 0, 0) else none
  else bif Nat.beq pc 44 then some (.aload_n 0, 45, 0, 0, 0, 0, 0) else none
  else bif Nat.blt pc 48 then bif Nat.beq pc 45 then some (.getfield 292, 48, 8, 12, 0, 0, 0) else none
  else bif Nat.beq pc 48 then some (.ireturn, 49, 0, 0, 0, 0, 0) else none
def rs_X8_undo : PMR := (1, 0, hdl [], 1)
def mi_X8_undo : PMI := wrapM 49 cd_X8_undo rs_X8_undo
def cd_X8_checksum (pc : Nat) : Option PE :=
  bif Nat.blt pc 38 then bif Nat.blt pc 20 then bif Nat.blt pc 12 then bif Nat.blt pc 5 then bif Nat.blt pc 1 then bif Nat.beq pc 0 then some (.aload_n 0, 1, 0, 0, 0, 0, 0) else none
  else bif Nat.blt pc 2 then bif Nat.beq pc 1 then some (.iconst 0, 2, 0, 0, 0, 0, 0) else none
  else bif Nat.beq pc 2 then some (.putfield 38, 5, 8, 0, 0, 0, 0) else none
  else bif Nat.blt pc 8 then bif Nat.beq pc 5 then some (.ldc2_w 298, 8, 0, 0, 0, 0, 31) else none
  else bif Nat.blt pc 9 then bif Nat.beq pc 8 then some (.aload_n 0, 9, 0, 0, 0, 0, 0) else none
  else bif Nat.beq pc 9 then some (.invokevirtual 250, 12, 155, 1, 8, 0, 0) else none
  else bif Nat.blt pc 15 then bif Nat.blt pc 13 then bif Nat.beq pc 12 then some (.i2l, 13, 0, 0, 0, 0, 0) else none
  else bif Nat.blt pc 14 then bif Nat.beq pc 13 then some (.lmul, 14, 0, 0, 0, 0, 0) else none
  else bif Nat.beq pc 14 then some (.aload_n 0, 15, 0, 0, 0, 0, 0) else none
  else bif Nat.blt pc 18 then bif Nat.beq pc 15 then some (.invokevirtual 289, 18, 190, 1, 8, 0, 0) else none
  else bif Nat.blt pc 19 then bif Nat.beq pc 18 then some (.i2l, 19, 0, 0, 0, 0, 0) else none
  else bif Nat.beq pc 19 then some (.ladd, 20, 0, 0, 0, 0, 0) else none
  else bif Nat.blt pc 28 then bif Nat.blt pc 23 then bif Nat.blt pc 21 then bif Nat.beq pc 20 then some (.lstore_n 1, 21, 1, 0, 0, 0, 0) else none
  else bif Nat.blt pc 22 then bif Nat.beq pc 21 then some (.iconst 0, 22, 0, 0, 0, 0, 0) else none
  else bif Nat.beq pc 22 then some (.istore_n 3, 23, 3, 0, 0, 0, 0) else none
  else bif Nat.blt pc 24 then bif Nat.beq pc 23 then some (.iload_n 3, 24, 3, 0, 0, 0, 0) else none
  else bif Nat.blt pc 25 then bif Nat.beq pc 24 then some (.aload_n 0, 25, 0, 0, 0, 0, 0) else none
  else bif Nat.beq pc 25 then some (.getfield 17, 28, 8, 8, 2, 0, 0) else none
  else bif Nat.blt pc 33 then bif Nat.blt pc 29 then bif Nat.beq pc 28 then some (.iconst 4, 29, 0, 0, 0, 4, 0) else none
  else bif Nat.blt pc 30 then bif Nat.beq pc 29 then some (.iaload, 30, 0, 0, 0, 0, 0) else none
  else bif Nat.beq pc 30 then some (.if_icmp .ge 50, 33, 80, 0, 0, 0, 0) else none
  else bif Nat.blt pc 34 then bif Nat.beq pc 33 then some (.iconst 0, 34, 0, 0, 0, 0, 0) else none
  else bif Nat.blt pc 36 then bif Nat.beq pc 34 then some (.istore 4, 36, 4, 0, 0, 0, 0) else none
  else bif Nat.beq pc 36 then some (.iload 4, 38, 4, 0, 0, 0, 0) else none
  else bif Nat.blt pc 58 then bif Nat.blt pc 48 then bif Nat.blt pc 41 then bif Nat.blt pc 39 then bif Nat.beq pc 38 then some (.iconst 2, 39, 0, 0, 0, 2, 0) else none
  else bif Nat.blt pc 40 then bif Nat.beq pc 39 then some (.aload_n 0, 40, 0, 0, 0, 0, 0) else none
  else bif Nat.beq pc 40 then some (.iload_n 3, 41, 3, 0, 0, 0, 0) else none
  else bif Nat.blt pc 44 then bif Nat.beq pc 41 then some (.invokevirtual 212, 44, 150, 2, 8, 0, 0) else none
  else bif Nat.blt pc 45 then bif Nat.beq pc 44 then some (.iadd, 45, 0, 0, 0, 0, 0) else none
  else bif Nat.beq pc 45 then some (.if_icmp .ge 29, 48, 74, 0, 0, 0, 0) else none
  else bif Nat.blt pc 53 then bif Nat.blt pc 51 then bif Nat.beq pc 48 then some (.ldc2_w 298, 51, 0, 0, 0, 0, 31) else none
  else bif Nat.blt pc 52 then bif Nat.beq pc 51 then some (.lload_n 1, 52, 1, 0, 0, 0, 0) else none
  else bif Nat.beq pc 52 then some (.lmul, 53, 0, 0, 0, 0, 0) else none
  else bif Nat.blt pc 54 then bif Nat.beq pc 53 then some (.aload_n 0, 54, 0, 0, 0, 0, 0) else none
  else bif Nat.blt pc 57 then bif Nat.beq pc 54 then some (.getfield 17, 57, 8, 8, 2, 0, 0) else none
  else bif Nat.beq pc 57 then some (.iload_n 3, 58, 3, 0, 0, 0, 0) else none
  else bif Nat.blt pc 67 then bif Nat.blt pc 64 then bif Nat.blt pc 61 then bif Nat.beq pc 58 then some (.invokestatic 209, 61, 116, 1, 99, 0, 0) else none
  else bif Nat.blt pc 63 then bif Nat.beq pc 61 then some (.iload 4, 63, 4, 0, 0, 0, 0) else none
  else bif Nat.beq pc 63 then some (.iadd, 64, 0, 0, 0, 0, 0) else none
  else bif Nat.blt pc 65 then bif Nat.beq pc 64 then some (.iaload, 65, 0, 0, 0, 0, 0) else none
  else bif Nat.blt pc 66 then bif Nat.beq pc 65 then some (.i2l, 66, 0, 0, 0, 0, 0) else none
  else bif Nat.beq pc 66 then some (.ladd, 67, 0, 0, 0, 0, 0) else none
  else bif Nat.blt pc 74 then bif Nat.blt pc 68 then bif Nat.beq pc 67 then some (.lstore_n 1, 68, 1, 0, 0, 0, 0) else none
  else bif Nat.blt pc 71 then bif Nat.beq pc 68 then some (.iinc 4 1, 71, 4, 0, 0, 1, 0) else none
  else bif Nat.beq pc 71 then some (.goto (-35), 74, 36, 0, 0, 0, 0) else none
  else bif Nat.blt pc 80 then bif Nat.blt pc 77 then bif Nat.beq pc 74 then some (.iinc 3 1, 77, 3, 0, 0, 1, 0) else none
  else bif Nat.beq pc 77 then some (.goto (-54), 80, 23, 0, 0, 0, 0) else none
  else bif Nat.blt pc 81 then bif Nat.beq pc 80 then some (.lload_n 1, 81, 1, 0, 0, 0, 0) else none
  else bif Nat.beq pc 81 then some (.lreturn, 82, 0, 0, 0, 0, 0) else none
def rs_X8_checksum : PMR := (3, 0, hdl [], 5)
def mi_X8_checksum : PMI := wrapM 82 cd_X8_checksum rs_X8_checksum
def cd_L_load (pc : Nat) : Option PE :=
  bif Nat.blt pc 8 then bif Nat.blt pc 3 then bif Nat.blt pc 1 then bif Nat.beq pc 0 then some (.aload_n 2, 1, 2, 0, 0, 0, 0) else none
  else bif Nat.blt pc 2 then bif Nat.beq pc 1 then some (.iconst 0, 2, 0, 0, 0, 0, 0) else none
  else bif Nat.beq pc 2 then some (.aload_n 0, 3, 0, 0, 0, 0, 0) else none
  else bif Nat.blt pc 4 then bif Nat.beq pc 3 then some (.iload_n 1, 4, 1, 0, 0, 0, 0) else none
  else bif Nat.blt pc 7 then bif Nat.beq pc 4 then some (.invokevirtual 7, 7, 70, 2, 7, 0, 0) else none
  else bif Nat.beq pc 7 then some (.i2l, 8, 0, 0, 0, 0, 0) else none
  else bif Nat.blt pc 13 then bif Nat.blt pc 9 then bif Nat.beq pc 8 then some (.lastore, 9, 0, 0, 0, 0, 0) else none
  else bif Nat.blt pc 12 then bif Nat.beq pc 9 then some (.goto 6, 12, 15, 0, 0, 0, 0) else none
  else bif Nat.beq pc 12 then some (.astore_n 3, 13, 3, 0, 0, 0, 0) else none
  else bif Nat.blt pc 15 then bif Nat.blt pc 14 then bif Nat.beq pc 13 then some (.iconst 1, 14, 0, 0, 0, 1, 0) else none
  else bif Nat.beq pc 14 then some (.ireturn, 15, 0, 0, 0, 0, 0) else none
  else bif Nat.blt pc 16 then bif Nat.beq pc 15 then some (.iconst 0, 16, 0, 0, 0, 0, 0) else none
  else bif Nat.beq pc 16 then some (.ireturn, 17, 0, 0, 0, 0, 0) else none
def rs_L_load : PMR := (1, 1, hdl [(0, 9, 0, 13, 3)], 4)
def mi_L_load : PMI := wrapM 17 cd_L_load rs_L_load
def cd_L_edge (pc : Nat) : Option PE :=
  bif Nat.blt pc 10 then bif Nat.blt pc 4 then bif Nat.blt pc 2 then bif Nat.blt pc 1 then bif Nat.beq pc 0 then some (.aload_n 3, 1, 3, 0, 0, 0, 0) else none
  else bif Nat.beq pc 1 then some (.iconst 0, 2, 0, 0, 0, 0, 0) else none
  else bif Nat.blt pc 3 then bif Nat.beq pc 2 then some (.aload_n 0, 3, 0, 0, 0, 0, 0) else none
  else bif Nat.beq pc 3 then some (.iload_n 1, 4, 1, 0, 0, 0, 0) else none
  else bif Nat.blt pc 8 then bif Nat.blt pc 5 then bif Nat.beq pc 4 then some (.iload_n 2, 5, 2, 0, 0, 0, 0) else none
  else bif Nat.beq pc 5 then some (.invokevirtual 15, 8, 76, 3, 7, 0, 0) else none
  else bif Nat.blt pc 9 then bif Nat.beq pc 8 then some (.i2l, 9, 0, 0, 0, 0, 0) else none
  else bif Nat.beq pc 9 then some (.lastore, 10, 0, 0, 0, 0, 0) else none
  else bif Nat.blt pc 17 then bif Nat.blt pc 15 then bif Nat.blt pc 13 then bif Nat.beq pc 10 then some (.goto 11, 13, 21, 0, 0, 0, 0) else none
  else bif Nat.beq pc 13 then some (.astore 4, 15, 4, 0, 0, 0, 0) else none
  else bif Nat.blt pc 16 then bif Nat.beq pc 15 then some (.iconst 1, 16, 0, 0, 0, 1, 0) else none
  else bif Nat.beq pc 16 then some (.ireturn, 17, 0, 0, 0, 0, 0) else none
  else bif Nat.blt pc 20 then bif Nat.blt pc 19 then bif Nat.beq pc 17 then some (.astore 4, 19, 4, 0, 0, 0, 0) else none
  else bif Nat.beq pc 19 then some (.iconst 2, 20, 0, 0, 0, 2, 0) else none
  else bif Nat.blt pc 21 then bif Nat.beq pc 20 then some (.ireturn, 21, 0, 0, 0, 0, 0) else none
  else bif Nat.blt pc 22 then bif Nat.beq pc 21 then some (.iconst 0, 22, 0, 0, 0, 0, 0) else none
  else bif Nat.beq pc 22 then some (.ireturn, 23, 0, 0, 0, 0, 0) else none
def rs_L_edge : PMR := (1, 2, hdl [(0, 10, 1, 15, 4), (0, 10, 0, 19, 4)], 5)
def mi_L_edge : PMI := wrapM 23 cd_L_edge rs_L_edge
def cd_L_mayFollow (pc : Nat) : Option PE :=
  bif Nat.blt pc 12 then bif Nat.blt pc 4 then bif Nat.blt pc 2 then bif Nat.blt pc 1 then bif Nat.beq pc 0 then some (.aload_n 3, 1, 3, 0, 0, 0, 0) else none
  else bif Nat.beq pc 1 then some (.iconst 0, 2, 0, 0, 0, 0, 0) else none
  else bif Nat.blt pc 3 then bif Nat.beq pc 2 then some (.aload_n 0, 3, 0, 0, 0, 0, 0) else none
  else bif Nat.beq pc 3 then some (.iload_n 1, 4, 1, 0, 0, 0, 0) else none
  else bif Nat.blt pc 8 then bif Nat.blt pc 5 then bif Nat.beq pc 4 then some (.iload_n 2, 5, 2, 0, 0, 0, 0) else none
  else bif Nat.beq pc 5 then some (.invokevirtual 21, 8, 77, 3, 7, 0, 0) else none
  else bif Nat.blt pc 11 then bif Nat.beq pc 8 then some (.ifCond .eq 7, 11, 15, 0, 0, 0, 0) else none
  else bif Nat.beq pc 11 then some (.lconst 1, 12, 0, 0, 0, 0, 1) else none
  else bif Nat.blt pc 20 then bif Nat.blt pc 16 then bif Nat.blt pc 15 then bif Nat.beq pc 12 then some (.goto 4, 15, 16, 0, 0, 0, 0) else none
  else bif Nat.beq pc 15 then some (.lconst 0, 16, 0, 0, 0, 0, 0) else none
  else bif Nat.blt pc 17 then bif Nat.beq pc 16 then some (.lastore, 17, 0, 0, 0, 0, 0) else none
  else bif Nat.beq pc 17 then some (.goto 7, 20, 24, 0, 0, 0, 0) else none
  else bif Nat.blt pc 23 then bif Nat.blt pc 22 then bif Nat.beq pc 20 then some (.astore 4, 22, 4, 0, 0, 0, 0) else none
  else bif Nat.beq pc 22 then some (.iconst 1, 23, 0, 0, 0, 1, 0) else none
  else bif Nat.blt pc 24 then bif Nat.beq pc 23 then some (.ireturn, 24, 0, 0, 0, 0, 0) else none
  else bif Nat.blt pc 25 then bif Nat.beq pc 24 then some (.iconst 0, 25, 0, 0, 0, 0, 0) else none
  else bif Nat.beq pc 25 then some (.ireturn, 26, 0, 0, 0, 0, 0) else none
def rs_L_mayFollow : PMR := (1, 2, hdl [(0, 17, 1, 22, 4)], 5)
def mi_L_mayFollow : PMI := wrapM 26 cd_L_mayFollow rs_L_mayFollow
def cd_L_deadhead (pc : Nat) : Option PE :=
  bif Nat.blt pc 9 then bif Nat.blt pc 3 then bif Nat.blt pc 1 then bif Nat.beq pc 0 then some (.aload_n 3, 1, 3, 0, 0, 0, 0) else none
  else bif Nat.blt pc 2 then bif Nat.beq pc 1 then some (.iconst 0, 2, 0, 0, 0, 0, 0) else none
  else bif Nat.beq pc 2 then some (.aload_n 0, 3, 0, 0, 0, 0, 0) else none
  else bif Nat.blt pc 5 then bif Nat.blt pc 4 then bif Nat.beq pc 3 then some (.iload_n 1, 4, 1, 0, 0, 0, 0) else none
  else bif Nat.beq pc 4 then some (.iload_n 2, 5, 2, 0, 0, 0, 0) else none
  else bif Nat.blt pc 8 then bif Nat.beq pc 5 then some (.invokevirtual 25, 8, 78, 3, 7, 0, 0) else none
  else bif Nat.beq pc 8 then some (.i2l, 9, 0, 0, 0, 0, 0) else none
  else bif Nat.blt pc 15 then bif Nat.blt pc 10 then bif Nat.beq pc 9 then some (.lastore, 10, 0, 0, 0, 0, 0) else none
  else bif Nat.blt pc 13 then bif Nat.beq pc 10 then some (.goto 7, 13, 17, 0, 0, 0, 0) else none
  else bif Nat.beq pc 13 then some (.astore 4, 15, 4, 0, 0, 0, 0) else none
  else bif Nat.blt pc 17 then bif Nat.blt pc 16 then bif Nat.beq pc 15 then some (.iconst 1, 16, 0, 0, 0, 1, 0) else none
  else bif Nat.beq pc 16 then some (.ireturn, 17, 0, 0, 0, 0, 0) else none
  else bif Nat.blt pc 18 then bif Nat.beq pc 17 then some (.iconst 0, 18, 0, 0, 0, 0, 0) else none
  else bif Nat.beq pc 18 then some (.ireturn, 19, 0, 0, 0, 0, 0) else none
def rs_L_deadhead : PMR := (1, 2, hdl [(0, 10, 1, 15, 4)], 5)
def mi_L_deadhead : PMI := wrapM 19 cd_L_deadhead rs_L_deadhead
def cd_L_distance (pc : Nat) : Option PE :=
  bif Nat.blt pc 9 then bif Nat.blt pc 3 then bif Nat.blt pc 1 then bif Nat.beq pc 0 then some (.aload_n 3, 1, 3, 0, 0, 0, 0) else none
  else bif Nat.blt pc 2 then bif Nat.beq pc 1 then some (.iconst 0, 2, 0, 0, 0, 0, 0) else none
  else bif Nat.beq pc 2 then some (.aload_n 0, 3, 0, 0, 0, 0, 0) else none
  else bif Nat.blt pc 5 then bif Nat.blt pc 4 then bif Nat.beq pc 3 then some (.iload_n 1, 4, 1, 0, 0, 0, 0) else none
  else bif Nat.beq pc 4 then some (.iload_n 2, 5, 2, 0, 0, 0, 0) else none
  else bif Nat.blt pc 8 then bif Nat.beq pc 5 then some (.invokevirtual 28, 8, 79, 3, 7, 0, 0) else none
  else bif Nat.beq pc 8 then some (.i2l, 9, 0, 0, 0, 0, 0) else none
  else bif Nat.blt pc 15 then bif Nat.blt pc 10 then bif Nat.beq pc 9 then some (.lastore, 10, 0, 0, 0, 0, 0) else none
  else bif Nat.blt pc 13 then bif Nat.beq pc 10 then some (.goto 7, 13, 17, 0, 0, 0, 0) else none
  else bif Nat.beq pc 13 then some (.astore 4, 15, 4, 0, 0, 0, 0) else none
  else bif Nat.blt pc 17 then bif Nat.blt pc 16 then bif Nat.beq pc 15 then some (.iconst 1, 16, 0, 0, 0, 1, 0) else none
  else bif Nat.beq pc 16 then some (.ireturn, 17, 0, 0, 0, 0, 0) else none
  else bif Nat.blt pc 18 then bif Nat.beq pc 17 then some (.iconst 0, 18, 0, 0, 0, 0, 0) else none
  else bif Nat.beq pc 18 then some (.ireturn, 19, 0, 0, 0, 0, 0) else none
def rs_L_distance : PMR := (1, 2, hdl [(0, 10, 1, 15, 4)], 5)
def mi_L_distance : PMI := wrapM 19 cd_L_distance rs_L_distance
def cd_L_serviceCost (pc : Nat) : Option PE :=
  bif Nat.blt pc 8 then bif Nat.blt pc 3 then bif Nat.blt pc 1 then bif Nat.beq pc 0 then some (.aload_n 2, 1, 2, 0, 0, 0, 0) else none
  else bif Nat.blt pc 2 then bif Nat.beq pc 1 then some (.iconst 0, 2, 0, 0, 0, 0, 0) else none
  else bif Nat.beq pc 2 then some (.aload_n 0, 3, 0, 0, 0, 0, 0) else none
  else bif Nat.blt pc 4 then bif Nat.beq pc 3 then some (.iload_n 1, 4, 1, 0, 0, 0, 0) else none
  else bif Nat.blt pc 7 then bif Nat.beq pc 4 then some (.invokevirtual 31, 7, 80, 2, 7, 0, 0) else none
  else bif Nat.beq pc 7 then some (.i2l, 8, 0, 0, 0, 0, 0) else none
  else bif Nat.blt pc 13 then bif Nat.blt pc 9 then bif Nat.beq pc 8 then some (.lastore, 9, 0, 0, 0, 0, 0) else none
  else bif Nat.blt pc 12 then bif Nat.beq pc 9 then some (.goto 6, 12, 15, 0, 0, 0, 0) else none
  else bif Nat.beq pc 12 then some (.astore_n 3, 13, 3, 0, 0, 0, 0) else none
  else bif Nat.blt pc 15 then bif Nat.blt pc 14 then bif Nat.beq pc 13 then some (.iconst 1, 14, 0, 0, 0, 1, 0) else none
  else bif Nat.beq pc 14 then some (.ireturn, 15, 0, 0, 0, 0, 0) else none
  else bif Nat.blt pc 16 then bif Nat.beq pc 15 then some (.iconst 0, 16, 0, 0, 0, 0, 0) else none
  else bif Nat.beq pc 16 then some (.ireturn, 17, 0, 0, 0, 0, 0) else none
def rs_L_serviceCost : PMR := (1, 1, hdl [(0, 9, 1, 13, 3)], 4)
def mi_L_serviceCost : PMI := wrapM 17 cd_L_serviceCost rs_L_serviceCost
def cd_L_depotOf (pc : Nat) : Option PE :=
  bif Nat.blt pc 8 then bif Nat.blt pc 3 then bif Nat.blt pc 1 then bif Nat.beq pc 0 then some (.aload_n 2, 1, 2, 0, 0, 0, 0) else none
  else bif Nat.blt pc 2 then bif Nat.beq pc 1 then some (.iconst 0, 2, 0, 0, 0, 0, 0) else none
  else bif Nat.beq pc 2 then some (.aload_n 0, 3, 0, 0, 0, 0, 0) else none
  else bif Nat.blt pc 4 then bif Nat.beq pc 3 then some (.iload_n 1, 4, 1, 0, 0, 0, 0) else none
  else bif Nat.blt pc 7 then bif Nat.beq pc 4 then some (.invokevirtual 34, 7, 83, 2, 7, 0, 0) else none
  else bif Nat.beq pc 7 then some (.i2l, 8, 0, 0, 0, 0, 0) else none
  else bif Nat.blt pc 13 then bif Nat.blt pc 9 then bif Nat.beq pc 8 then some (.lastore, 9, 0, 0, 0, 0, 0) else none
  else bif Nat.blt pc 12 then bif Nat.beq pc 9 then some (.goto 6, 12, 15, 0, 0, 0, 0) else none
  else bif Nat.beq pc 12 then some (.astore_n 3, 13, 3, 0, 0, 0, 0) else none
  else bif Nat.blt pc 15 then bif Nat.blt pc 14 then bif Nat.beq pc 13 then some (.iconst 1, 14, 0, 0, 0, 1, 0) else none
  else bif Nat.beq pc 14 then some (.ireturn, 15, 0, 0, 0, 0, 0) else none
  else bif Nat.blt pc 16 then bif Nat.beq pc 15 then some (.iconst 0, 16, 0, 0, 0, 0, 0) else none
  else bif Nat.beq pc 16 then some (.ireturn, 17, 0, 0, 0, 0, 0) else none
def rs_L_depotOf : PMR := (1, 1, hdl [(0, 9, 1, 13, 3)], 4)
def mi_L_depotOf : PMI := wrapM 17 cd_L_depotOf rs_L_depotOf
def cd_L_length (pc : Nat) : Option PE :=
  bif Nat.blt pc 8 then bif Nat.blt pc 3 then bif Nat.blt pc 1 then bif Nat.beq pc 0 then some (.aload_n 2, 1, 2, 0, 0, 0, 0) else none
  else bif Nat.blt pc 2 then bif Nat.beq pc 1 then some (.iconst 0, 2, 0, 0, 0, 0, 0) else none
  else bif Nat.beq pc 2 then some (.aload_n 0, 3, 0, 0, 0, 0, 0) else none
  else bif Nat.blt pc 4 then bif Nat.beq pc 3 then some (.iload_n 1, 4, 1, 0, 0, 0, 0) else none
  else bif Nat.blt pc 7 then bif Nat.beq pc 4 then some (.invokevirtual 37, 7, 84, 2, 7, 0, 0) else none
  else bif Nat.beq pc 7 then some (.i2l, 8, 0, 0, 0, 0, 0) else none
  else bif Nat.blt pc 13 then bif Nat.blt pc 9 then bif Nat.beq pc 8 then some (.lastore, 9, 0, 0, 0, 0, 0) else none
  else bif Nat.blt pc 12 then bif Nat.beq pc 9 then some (.goto 6, 12, 15, 0, 0, 0, 0) else none
  else bif Nat.beq pc 12 then some (.astore_n 3, 13, 3, 0, 0, 0, 0) else none
  else bif Nat.blt pc 15 then bif Nat.blt pc 14 then bif Nat.beq pc 13 then some (.iconst 1, 14, 0, 0, 0, 1, 0) else none
  else bif Nat.beq pc 14 then some (.ireturn, 15, 0, 0, 0, 0, 0) else none
  else bif Nat.blt pc 16 then bif Nat.beq pc 15 then some (.iconst 0, 16, 0, 0, 0, 0, 0) else none
  else bif Nat.beq pc 16 then some (.ireturn, 17, 0, 0, 0, 0, 0) else none
def rs_L_length : PMR := (1, 1, hdl [(0, 9, 1, 13, 3)], 4)
def mi_L_length : PMI := wrapM 17 cd_L_length rs_L_length
def cd_L_arcAt (pc : Nat) : Option PE :=
  bif Nat.blt pc 10 then bif Nat.blt pc 4 then bif Nat.blt pc 2 then bif Nat.blt pc 1 then bif Nat.beq pc 0 then some (.aload_n 3, 1, 3, 0, 0, 0, 0) else none
  else bif Nat.beq pc 1 then some (.iconst 0, 2, 0, 0, 0, 0, 0) else none
  else bif Nat.blt pc 3 then bif Nat.beq pc 2 then some (.aload_n 0, 3, 0, 0, 0, 0, 0) else none
  else bif Nat.beq pc 3 then some (.iload_n 1, 4, 1, 0, 0, 0, 0) else none
  else bif Nat.blt pc 8 then bif Nat.blt pc 5 then bif Nat.beq pc 4 then some (.iload_n 2, 5, 2, 0, 0, 0, 0) else none
  else bif Nat.beq pc 5 then some (.invokevirtual 40, 8, 85, 3, 7, 0, 0) else none
  else bif Nat.blt pc 9 then bif Nat.beq pc 8 then some (.i2l, 9, 0, 0, 0, 0, 0) else none
  else bif Nat.beq pc 9 then some (.lastore, 10, 0, 0, 0, 0, 0) else none
  else bif Nat.blt pc 17 then bif Nat.blt pc 15 then bif Nat.blt pc 13 then bif Nat.beq pc 10 then some (.goto 11, 13, 21, 0, 0, 0, 0) else none
  else bif Nat.beq pc 13 then some (.astore 4, 15, 4, 0, 0, 0, 0) else none
  else bif Nat.blt pc 16 then bif Nat.beq pc 15 then some (.iconst 1, 16, 0, 0, 0, 1, 0) else none
  else bif Nat.beq pc 16 then some (.ireturn, 17, 0, 0, 0, 0, 0) else none
  else bif Nat.blt pc 20 then bif Nat.blt pc 19 then bif Nat.beq pc 17 then some (.astore 4, 19, 4, 0, 0, 0, 0) else none
  else bif Nat.beq pc 19 then some (.iconst 2, 20, 0, 0, 0, 2, 0) else none
  else bif Nat.blt pc 21 then bif Nat.beq pc 20 then some (.ireturn, 21, 0, 0, 0, 0, 0) else none
  else bif Nat.blt pc 22 then bif Nat.beq pc 21 then some (.iconst 0, 22, 0, 0, 0, 0, 0) else none
  else bif Nat.beq pc 22 then some (.ireturn, 23, 0, 0, 0, 0, 0) else none
def rs_L_arcAt : PMR := (1, 2, hdl [(0, 10, 1, 15, 4), (0, 10, 3, 19, 4)], 5)
def mi_L_arcAt : PMI := wrapM 23 cd_L_arcAt rs_L_arcAt
def cd_L_loadOf (pc : Nat) : Option PE :=
  bif Nat.blt pc 8 then bif Nat.blt pc 3 then bif Nat.blt pc 1 then bif Nat.beq pc 0 then some (.aload_n 2, 1, 2, 0, 0, 0, 0) else none
  else bif Nat.blt pc 2 then bif Nat.beq pc 1 then some (.iconst 0, 2, 0, 0, 0, 0, 0) else none
  else bif Nat.beq pc 2 then some (.aload_n 0, 3, 0, 0, 0, 0, 0) else none
  else bif Nat.blt pc 4 then bif Nat.beq pc 3 then some (.iload_n 1, 4, 1, 0, 0, 0, 0) else none
  else bif Nat.blt pc 7 then bif Nat.beq pc 4 then some (.invokevirtual 45, 7, 86, 2, 7, 0, 0) else none
  else bif Nat.beq pc 7 then some (.i2l, 8, 0, 0, 0, 0, 0) else none
  else bif Nat.blt pc 13 then bif Nat.blt pc 9 then bif Nat.beq pc 8 then some (.lastore, 9, 0, 0, 0, 0, 0) else none
  else bif Nat.blt pc 12 then bif Nat.beq pc 9 then some (.goto 6, 12, 15, 0, 0, 0, 0) else none
  else bif Nat.beq pc 12 then some (.astore_n 3, 13, 3, 0, 0, 0, 0) else none
  else bif Nat.blt pc 15 then bif Nat.blt pc 14 then bif Nat.beq pc 13 then some (.iconst 1, 14, 0, 0, 0, 1, 0) else none
  else bif Nat.beq pc 14 then some (.ireturn, 15, 0, 0, 0, 0, 0) else none
  else bif Nat.blt pc 16 then bif Nat.beq pc 15 then some (.iconst 0, 16, 0, 0, 0, 0, 0) else none
  else bif Nat.beq pc 16 then some (.ireturn, 17, 0, 0, 0, 0, 0) else none
def rs_L_loadOf : PMR := (1, 1, hdl [(0, 9, 1, 13, 3)], 4)
def mi_L_loadOf : PMI := wrapM 17 cd_L_loadOf rs_L_loadOf
def cd_L_tourCost (pc : Nat) : Option PE :=
  bif Nat.blt pc 8 then bif Nat.blt pc 3 then bif Nat.blt pc 1 then bif Nat.beq pc 0 then some (.aload_n 2, 1, 2, 0, 0, 0, 0) else none
  else bif Nat.blt pc 2 then bif Nat.beq pc 1 then some (.iconst 0, 2, 0, 0, 0, 0, 0) else none
  else bif Nat.beq pc 2 then some (.aload_n 0, 3, 0, 0, 0, 0, 0) else none
  else bif Nat.blt pc 4 then bif Nat.beq pc 3 then some (.iload_n 1, 4, 1, 0, 0, 0, 0) else none
  else bif Nat.blt pc 7 then bif Nat.beq pc 4 then some (.invokevirtual 48, 7, 87, 2, 7, 0, 0) else none
  else bif Nat.beq pc 7 then some (.i2l, 8, 0, 0, 0, 0, 0) else none
  else bif Nat.blt pc 13 then bif Nat.blt pc 9 then bif Nat.beq pc 8 then some (.lastore, 9, 0, 0, 0, 0, 0) else none
  else bif Nat.blt pc 12 then bif Nat.beq pc 9 then some (.goto 6, 12, 15, 0, 0, 0, 0) else none
  else bif Nat.beq pc 12 then some (.astore_n 3, 13, 3, 0, 0, 0, 0) else none
  else bif Nat.blt pc 15 then bif Nat.blt pc 14 then bif Nat.beq pc 13 then some (.iconst 1, 14, 0, 0, 0, 1, 0) else none
  else bif Nat.beq pc 14 then some (.ireturn, 15, 0, 0, 0, 0, 0) else none
  else bif Nat.blt pc 16 then bif Nat.beq pc 15 then some (.iconst 0, 16, 0, 0, 0, 0, 0) else none
  else bif Nat.beq pc 16 then some (.ireturn, 17, 0, 0, 0, 0, 0) else none
def rs_L_tourCost : PMR := (1, 1, hdl [(0, 9, 1, 13, 3)], 4)
def mi_L_tourCost : PMI := wrapM 17 cd_L_tourCost rs_L_tourCost
def cd_L_tourOf (pc : Nat) : Option PE :=
  bif Nat.blt pc 8 then bif Nat.blt pc 3 then bif Nat.blt pc 1 then bif Nat.beq pc 0 then some (.aload_n 2, 1, 2, 0, 0, 0, 0) else none
  else bif Nat.blt pc 2 then bif Nat.beq pc 1 then some (.iconst 0, 2, 0, 0, 0, 0, 0) else none
  else bif Nat.beq pc 2 then some (.aload_n 0, 3, 0, 0, 0, 0, 0) else none
  else bif Nat.blt pc 4 then bif Nat.beq pc 3 then some (.iload_n 1, 4, 1, 0, 0, 0, 0) else none
  else bif Nat.blt pc 7 then bif Nat.beq pc 4 then some (.invokevirtual 51, 7, 90, 2, 7, 0, 0) else none
  else bif Nat.beq pc 7 then some (.i2l, 8, 0, 0, 0, 0, 0) else none
  else bif Nat.blt pc 13 then bif Nat.blt pc 9 then bif Nat.beq pc 8 then some (.lastore, 9, 0, 0, 0, 0, 0) else none
  else bif Nat.blt pc 12 then bif Nat.beq pc 9 then some (.goto 6, 12, 15, 0, 0, 0, 0) else none
  else bif Nat.beq pc 12 then some (.astore_n 3, 13, 3, 0, 0, 0, 0) else none
  else bif Nat.blt pc 15 then bif Nat.blt pc 14 then bif Nat.beq pc 13 then some (.iconst 1, 14, 0, 0, 0, 1, 0) else none
  else bif Nat.beq pc 14 then some (.ireturn, 15, 0, 0, 0, 0, 0) else none
  else bif Nat.blt pc 16 then bif Nat.beq pc 15 then some (.iconst 0, 16, 0, 0, 0, 0, 0) else none
  else bif Nat.beq pc 16 then some (.ireturn, 17, 0, 0, 0, 0, 0) else none
def rs_L_tourOf : PMR := (1, 1, hdl [(0, 9, 1, 13, 3)], 4)
def mi_L_tourOf : PMI := wrapM 17 cd_L_tourOf rs_L_tourOf
def cd_L_bestInsertion (pc : Nat) : Option PE :=
  bif Nat.blt pc 12 then bif Nat.blt pc 4 then bif Nat.blt pc 2 then bif Nat.blt pc 1 then bif Nat.beq pc 0 then some (.aload_n 2, 1, 2, 0, 0, 0, 0) else none
  else bif Nat.beq pc 1 then some (.iconst 0, 2, 0, 0, 0, 0, 0) else none
  else bif Nat.blt pc 3 then bif Nat.beq pc 2 then some (.aload_n 0, 3, 0, 0, 0, 0, 0) else none
  else bif Nat.beq pc 3 then some (.iload_n 1, 4, 1, 0, 0, 0, 0) else none
  else bif Nat.blt pc 8 then bif Nat.blt pc 7 then bif Nat.beq pc 4 then some (.invokevirtual 54, 7, 91, 2, 7, 0, 0) else none
  else bif Nat.beq pc 7 then some (.i2l, 8, 0, 0, 0, 0, 0) else none
  else bif Nat.blt pc 9 then bif Nat.beq pc 8 then some (.lastore, 9, 0, 0, 0, 0, 0) else none
  else bif Nat.beq pc 9 then some (.goto 9, 12, 18, 0, 0, 0, 0) else none
  else bif Nat.blt pc 16 then bif Nat.blt pc 14 then bif Nat.blt pc 13 then bif Nat.beq pc 12 then some (.astore_n 3, 13, 3, 0, 0, 0, 0) else none
  else bif Nat.beq pc 13 then some (.iconst 1, 14, 0, 0, 0, 1, 0) else none
  else bif Nat.blt pc 15 then bif Nat.beq pc 14 then some (.ireturn, 15, 0, 0, 0, 0, 0) else none
  else bif Nat.beq pc 15 then some (.astore_n 3, 16, 3, 0, 0, 0, 0) else none
  else bif Nat.blt pc 18 then bif Nat.blt pc 17 then bif Nat.beq pc 16 then some (.iconst 2, 17, 0, 0, 0, 2, 0) else none
  else bif Nat.beq pc 17 then some (.ireturn, 18, 0, 0, 0, 0, 0) else none
  else bif Nat.blt pc 19 then bif Nat.beq pc 18 then some (.iconst 0, 19, 0, 0, 0, 0, 0) else none
  else bif Nat.beq pc 19 then some (.ireturn, 20, 0, 0, 0, 0, 0) else none
def rs_L_bestInsertion : PMR := (1, 2, hdl [(0, 9, 1, 13, 3), (0, 9, 2, 16, 3)], 4)
def mi_L_bestInsertion : PMI := wrapM 20 cd_L_bestInsertion rs_L_bestInsertion
def cd_L_openTour (pc : Nat) : Option PE :=
  bif Nat.blt pc 12 then bif Nat.blt pc 4 then bif Nat.blt pc 2 then bif Nat.blt pc 1 then bif Nat.beq pc 0 then some (.aload_n 2, 1, 2, 0, 0, 0, 0) else none
  else bif Nat.beq pc 1 then some (.iconst 0, 2, 0, 0, 0, 0, 0) else none
  else bif Nat.blt pc 3 then bif Nat.beq pc 2 then some (.aload_n 0, 3, 0, 0, 0, 0, 0) else none
  else bif Nat.beq pc 3 then some (.iload_n 1, 4, 1, 0, 0, 0, 0) else none
  else bif Nat.blt pc 8 then bif Nat.blt pc 7 then bif Nat.beq pc 4 then some (.invokevirtual 59, 7, 92, 2, 7, 0, 0) else none
  else bif Nat.beq pc 7 then some (.i2l, 8, 0, 0, 0, 0, 0) else none
  else bif Nat.blt pc 9 then bif Nat.beq pc 8 then some (.lastore, 9, 0, 0, 0, 0, 0) else none
  else bif Nat.beq pc 9 then some (.goto 9, 12, 18, 0, 0, 0, 0) else none
  else bif Nat.blt pc 16 then bif Nat.blt pc 14 then bif Nat.blt pc 13 then bif Nat.beq pc 12 then some (.astore_n 3, 13, 3, 0, 0, 0, 0) else none
  else bif Nat.beq pc 13 then some (.iconst 1, 14, 0, 0, 0, 1, 0) else none
  else bif Nat.blt pc 15 then bif Nat.beq pc 14 then some (.ireturn, 15, 0, 0, 0, 0, 0) else none
  else bif Nat.beq pc 15 then some (.astore_n 3, 16, 3, 0, 0, 0, 0) else none
  else bif Nat.blt pc 18 then bif Nat.blt pc 17 then bif Nat.beq pc 16 then some (.iconst 2, 17, 0, 0, 0, 2, 0) else none
  else bif Nat.beq pc 17 then some (.ireturn, 18, 0, 0, 0, 0, 0) else none
  else bif Nat.blt pc 19 then bif Nat.beq pc 18 then some (.iconst 0, 19, 0, 0, 0, 0, 0) else none
  else bif Nat.beq pc 19 then some (.ireturn, 20, 0, 0, 0, 0, 0) else none
def rs_L_openTour : PMR := (1, 2, hdl [(0, 9, 1, 13, 3), (0, 9, 2, 16, 3)], 4)
def mi_L_openTour : PMI := wrapM 20 cd_L_openTour rs_L_openTour
def cd_L_insert (pc : Nat) : Option PE :=
  bif Nat.blt pc 12 then bif Nat.blt pc 5 then bif Nat.blt pc 3 then bif Nat.blt pc 2 then bif Nat.beq pc 0 then some (.aload 4, 2, 4, 0, 0, 0, 0) else none
  else bif Nat.beq pc 2 then some (.iconst 0, 3, 0, 0, 0, 0, 0) else none
  else bif Nat.blt pc 4 then bif Nat.beq pc 3 then some (.aload_n 0, 4, 0, 0, 0, 0, 0) else none
  else bif Nat.beq pc 4 then some (.iload_n 1, 5, 1, 0, 0, 0, 0) else none
  else bif Nat.blt pc 7 then bif Nat.blt pc 6 then bif Nat.beq pc 5 then some (.iload_n 2, 6, 2, 0, 0, 0, 0) else none
  else bif Nat.beq pc 6 then some (.iload_n 3, 7, 3, 0, 0, 0, 0) else none
  else bif Nat.blt pc 10 then bif Nat.beq pc 7 then some (.invokevirtual 62, 10, 93, 4, 7, 0, 0) else none
  else bif Nat.blt pc 11 then bif Nat.beq pc 10 then some (.i2l, 11, 0, 0, 0, 0, 0) else none
  else bif Nat.beq pc 11 then some (.lastore, 12, 0, 0, 0, 0, 0) else none
  else bif Nat.blt pc 19 then bif Nat.blt pc 17 then bif Nat.blt pc 15 then bif Nat.beq pc 12 then some (.goto 11, 15, 23, 0, 0, 0, 0) else none
  else bif Nat.beq pc 15 then some (.astore 5, 17, 5, 0, 0, 0, 0) else none
  else bif Nat.blt pc 18 then bif Nat.beq pc 17 then some (.iconst 1, 18, 0, 0, 0, 1, 0) else none
  else bif Nat.beq pc 18 then some (.ireturn, 19, 0, 0, 0, 0, 0) else none
  else bif Nat.blt pc 22 then bif Nat.blt pc 21 then bif Nat.beq pc 19 then some (.astore 5, 21, 5, 0, 0, 0, 0) else none
  else bif Nat.beq pc 21 then some (.iconst 2, 22, 0, 0, 0, 2, 0) else none
  else bif Nat.blt pc 23 then bif Nat.beq pc 22 then some (.ireturn, 23, 0, 0, 0, 0, 0) else none
  else bif Nat.blt pc 24 then bif Nat.beq pc 23 then some (.iconst 0, 24, 0, 0, 0, 0, 0) else none
  else bif Nat.beq pc 24 then some (.ireturn, 25, 0, 0, 0, 0, 0) else none
def rs_L_insert : PMR := (1, 5, hdl [(0, 12, 1, 17, 5), (0, 12, 2, 21, 5)], 6)
def mi_L_insert : PMI := wrapM 25 cd_L_insert rs_L_insert
def cd_L_drop (pc : Nat) : Option PE :=
  bif Nat.blt pc 12 then bif Nat.blt pc 4 then bif Nat.blt pc 2 then bif Nat.blt pc 1 then bif Nat.beq pc 0 then some (.aload_n 2, 1, 2, 0, 0, 0, 0) else none
  else bif Nat.beq pc 1 then some (.iconst 0, 2, 0, 0, 0, 0, 0) else none
  else bif Nat.blt pc 3 then bif Nat.beq pc 2 then some (.aload_n 0, 3, 0, 0, 0, 0, 0) else none
  else bif Nat.beq pc 3 then some (.iload_n 1, 4, 1, 0, 0, 0, 0) else none
  else bif Nat.blt pc 8 then bif Nat.blt pc 7 then bif Nat.beq pc 4 then some (.invokevirtual 66, 7, 94, 2, 7, 0, 0) else none
  else bif Nat.beq pc 7 then some (.i2l, 8, 0, 0, 0, 0, 0) else none
  else bif Nat.blt pc 9 then bif Nat.beq pc 8 then some (.lastore, 9, 0, 0, 0, 0, 0) else none
  else bif Nat.beq pc 9 then some (.goto 9, 12, 18, 0, 0, 0, 0) else none
  else bif Nat.blt pc 16 then bif Nat.blt pc 14 then bif Nat.blt pc 13 then bif Nat.beq pc 12 then some (.astore_n 3, 13, 3, 0, 0, 0, 0) else none
  else bif Nat.beq pc 13 then some (.iconst 1, 14, 0, 0, 0, 1, 0) else none
  else bif Nat.blt pc 15 then bif Nat.beq pc 14 then some (.ireturn, 15, 0, 0, 0, 0, 0) else none
  else bif Nat.beq pc 15 then some (.astore_n 3, 16, 3, 0, 0, 0, 0) else none
  else bif Nat.blt pc 18 then bif Nat.blt pc 17 then bif Nat.beq pc 16 then some (.iconst 2, 17, 0, 0, 0, 2, 0) else none
  else bif Nat.beq pc 17 then some (.ireturn, 18, 0, 0, 0, 0, 0) else none
  else bif Nat.blt pc 19 then bif Nat.beq pc 18 then some (.iconst 0, 19, 0, 0, 0, 0, 0) else none
  else bif Nat.beq pc 19 then some (.ireturn, 20, 0, 0, 0, 0, 0) else none
def rs_L_drop : PMR := (1, 3, hdl [(0, 9, 1, 13, 3), (0, 9, 2, 16, 3)], 4)
def mi_L_drop : PMI := wrapM 20 cd_L_drop rs_L_drop
def cd_L_flip (pc : Nat) : Option PE :=
  bif Nat.blt pc 12 then bif Nat.blt pc 4 then bif Nat.blt pc 2 then bif Nat.blt pc 1 then bif Nat.beq pc 0 then some (.aload_n 2, 1, 2, 0, 0, 0, 0) else none
  else bif Nat.beq pc 1 then some (.iconst 0, 2, 0, 0, 0, 0, 0) else none
  else bif Nat.blt pc 3 then bif Nat.beq pc 2 then some (.aload_n 0, 3, 0, 0, 0, 0, 0) else none
  else bif Nat.beq pc 3 then some (.iload_n 1, 4, 1, 0, 0, 0, 0) else none
  else bif Nat.blt pc 8 then bif Nat.blt pc 7 then bif Nat.beq pc 4 then some (.invokevirtual 69, 7, 95, 2, 7, 0, 0) else none
  else bif Nat.beq pc 7 then some (.i2l, 8, 0, 0, 0, 0, 0) else none
  else bif Nat.blt pc 9 then bif Nat.beq pc 8 then some (.lastore, 9, 0, 0, 0, 0, 0) else none
  else bif Nat.beq pc 9 then some (.goto 9, 12, 18, 0, 0, 0, 0) else none
  else bif Nat.blt pc 16 then bif Nat.blt pc 14 then bif Nat.blt pc 13 then bif Nat.beq pc 12 then some (.astore_n 3, 13, 3, 0, 0, 0, 0) else none
  else bif Nat.beq pc 13 then some (.iconst 1, 14, 0, 0, 0, 1, 0) else none
  else bif Nat.blt pc 15 then bif Nat.beq pc 14 then some (.ireturn, 15, 0, 0, 0, 0, 0) else none
  else bif Nat.beq pc 15 then some (.astore_n 3, 16, 3, 0, 0, 0, 0) else none
  else bif Nat.blt pc 18 then bif Nat.blt pc 17 then bif Nat.beq pc 16 then some (.iconst 2, 17, 0, 0, 0, 2, 0) else none
  else bif Nat.beq pc 17 then some (.ireturn, 18, 0, 0, 0, 0, 0) else none
  else bif Nat.blt pc 19 then bif Nat.beq pc 18 then some (.iconst 0, 19, 0, 0, 0, 0, 0) else none
  else bif Nat.beq pc 19 then some (.ireturn, 20, 0, 0, 0, 0, 0) else none
def rs_L_flip : PMR := (1, 3, hdl [(0, 9, 1, 13, 3), (0, 9, 2, 16, 3)], 4)
def mi_L_flip : PMI := wrapM 20 cd_L_flip rs_L_flip
def cd_L_improve (pc : Nat) : Option PE :=
  bif Nat.blt pc 8 then bif Nat.blt pc 3 then bif Nat.blt pc 1 then bif Nat.beq pc 0 then some (.aload_n 2, 1, 2, 0, 0, 0, 0) else none
  else bif Nat.blt pc 2 then bif Nat.beq pc 1 then some (.iconst 0, 2, 0, 0, 0, 0, 0) else none
  else bif Nat.beq pc 2 then some (.aload_n 0, 3, 0, 0, 0, 0, 0) else none
  else bif Nat.blt pc 4 then bif Nat.beq pc 3 then some (.iload_n 1, 4, 1, 0, 0, 0, 0) else none
  else bif Nat.blt pc 7 then bif Nat.beq pc 4 then some (.invokevirtual 72, 7, 97, 2, 7, 0, 0) else none
  else bif Nat.beq pc 7 then some (.i2l, 8, 0, 0, 0, 0, 0) else none
  else bif Nat.blt pc 13 then bif Nat.blt pc 9 then bif Nat.beq pc 8 then some (.lastore, 9, 0, 0, 0, 0, 0) else none
  else bif Nat.blt pc 12 then bif Nat.beq pc 9 then some (.goto 6, 12, 15, 0, 0, 0, 0) else none
  else bif Nat.beq pc 12 then some (.astore_n 3, 13, 3, 0, 0, 0, 0) else none
  else bif Nat.blt pc 15 then bif Nat.blt pc 14 then bif Nat.beq pc 13 then some (.iconst 1, 14, 0, 0, 0, 1, 0) else none
  else bif Nat.beq pc 14 then some (.ireturn, 15, 0, 0, 0, 0, 0) else none
  else bif Nat.blt pc 16 then bif Nat.beq pc 15 then some (.iconst 0, 16, 0, 0, 0, 0, 0) else none
  else bif Nat.beq pc 16 then some (.ireturn, 17, 0, 0, 0, 0, 0) else none
def rs_L_improve : PMR := (1, 1, hdl [(0, 9, 0, 13, 3)], 4)
def mi_L_improve : PMI := wrapM 17 cd_L_improve rs_L_improve
def cd_L_law (pc : Nat) : Option PE :=
  bif Nat.blt pc 822 then bif Nat.blt pc 474 then bif Nat.blt pc 301 then bif Nat.blt pc 222 then bif Nat.blt pc 188 then bif Nat.blt pc 30 then bif Nat.blt pc 20 then bif Nat.blt pc 15 then bif Nat.blt pc 7 then bif Nat.beq pc 3 then some (.dup, 4, 0, 0, 0, 0, 0) else none
  else bif Nat.blt pc 11 then bif Nat.beq pc 7 then some (.astore_n 1, 8, 1, 0, 0, 0, 0) else none
  else bif Nat.beq pc 11 then some (.dup, 12, 0, 0, 0, 0, 0) else none
  else bif Nat.blt pc 16 then bif Nat.beq pc 15 then some (.astore_n 2, 16, 2, 0, 0, 0, 0) else none
  else bif Nat.blt pc 19 then bif Nat.beq pc 16 then some (.iconst 1, 17, 0, 0, 0, 1, 0) else none
  else bif Nat.beq pc 19 then some (.astore_n 3, 20, 3, 0, 0, 0, 0) else none
  else bif Nat.blt pc 25 then bif Nat.blt pc 21 then bif Nat.beq pc 20 then some (.iconst 0, 21, 0, 0, 0, 0, 0) else none
  else bif Nat.blt pc 23 then bif Nat.beq pc 21 then some (.istore 4, 23, 4, 0, 0, 0, 0) else none
  else bif Nat.beq pc 23 then some (.iload 4, 25, 4, 0, 0, 0, 0) else none
  else bif Nat.blt pc 27 then bif Nat.blt pc 26 then bif Nat.beq pc 25 then some (.aload_n 0, 26, 0, 0, 0, 0, 0) else none
  else bif Nat.beq pc 26 then some (.arraylength, 27, 0, 0, 0, 0, 0) else none
  else bif Nat.blt pc 29 then bif Nat.beq pc 27 then some (.bipush 6, 29, 0, 0, 0, 6, 0) else none
  else bif Nat.beq pc 29 then some (.isub, 30, 0, 0, 0, 0, 0) else none
  else bif Nat.blt pc 180 then bif Nat.blt pc 36 then bif Nat.blt pc 33 then bif Nat.beq pc 30 then some (.if_icmp .gt 1485, 33, 1515, 0, 0, 0, 0) else none
  else bif Nat.blt pc 34 then bif Nat.beq pc 33 then some (.aload_n 0, 34, 0, 0, 0, 0, 0) else none
  else bif Nat.beq pc 34 then some (.iload 4, 36, 4, 0, 0, 0, 0) else none
  else bif Nat.blt pc 39 then bif Nat.blt pc 37 then bif Nat.beq pc 36 then some (.iaload, 37, 0, 0, 0, 0, 0) else none
  else bif Nat.beq pc 37 then some (.bipush 31, 39, 0, 0, 0, 31, 0) else none
  else bif Nat.blt pc 40 then bif Nat.beq pc 39 then some (.iand, 40, 0, 0, 0, 0, 0) else none
  else bif Nat.beq pc 40 then some (.tableswitch 1469 0 30 #[140, 213, 269, 282, 295, 308, 321, 334, 402, 477, 545, 613, 669, 682, 695, 751, 807, 875, 931, 987, 1000, 1013, 1069, 1125, 1181, 1261, 1317, 1373, 1386, 1442, 1455], 180, 1509, 40, 0, 0, 0) else none
  else bif Nat.blt pc 184 then bif Nat.blt pc 181 then bif Nat.beq pc 180 then some (.aload_n 1, 181, 1, 0, 0, 0, 0) else none
  else bif Nat.blt pc 182 then bif Nat.beq pc 181 then some (.aload_n 0, 182, 0, 0, 0, 0, 0) else none
  else bif Nat.beq pc 182 then some (.iload 4, 184, 4, 0, 0, 0, 0) else none
  else bif Nat.blt pc 186 then bif Nat.blt pc 185 then bif Nat.beq pc 184 then some (.iconst 1, 185, 0, 0, 0, 1, 0) else none
  else bif Nat.beq pc 185 then some (.iadd, 186, 0, 0, 0, 0, 0) else none
  else bif Nat.blt pc 187 then bif Nat.beq pc 186 then some (.iaload, 187, 0, 0, 0, 0, 0) else none
  else bif Nat.beq pc 187 then some (.aload_n 0, 188, 0, 0, 0, 0, 0) else none
  else bif Nat.blt pc 204 then bif Nat.blt pc 196 then bif Nat.blt pc 192 then bif Nat.blt pc 190 then bif Nat.beq pc 188 then some (.iload 4, 190, 4, 0, 0, 0, 0) else none
  else bif Nat.blt pc 191 then bif Nat.beq pc 190 then some (.iconst 2, 191, 0, 0, 0, 2, 0) else none
  else bif Nat.beq pc 191 then some (.iadd, 192, 0, 0, 0, 0, 0) else none
  else bif Nat.blt pc 193 then bif Nat.beq pc 192 then some (.iaload, 193, 0, 0, 0, 0, 0) else none
  else bif Nat.blt pc 194 then bif Nat.beq pc 193 then some (.aload_n 0, 194, 0, 0, 0, 0, 0) else none
  else bif Nat.beq pc 194 then some (.iload 4, 196, 4, 0, 0, 0, 0) else none
  else bif Nat.blt pc 199 then bif Nat.blt pc 197 then bif Nat.beq pc 196 then some (.iconst 3, 197, 0, 0, 0, 3, 0) else none
  else bif Nat.blt pc 198 then bif Nat.beq pc 197 then some (.iadd, 198, 0, 0, 0, 0, 0) else none
  else bif Nat.beq pc 198 then some (.iaload, 199, 0, 0, 0, 0, 0) else none
  else bif Nat.blt pc 202 then bif Nat.blt pc 200 then bif Nat.beq pc 199 then some (.aload_n 0, 200, 0, 0, 0, 0, 0) else none
  else bif Nat.beq pc 200 then some (.iload 4, 202, 4, 0, 0, 0, 0) else none
  else bif Nat.blt pc 203 then bif Nat.beq pc 202 then some (.iconst 4, 203, 0, 0, 0, 4, 0) else none
  else bif Nat.beq pc 203 then some (.iadd, 204, 0, 0, 0, 0, 0) else none
  else bif Nat.blt pc 214 then bif Nat.blt pc 208 then bif Nat.blt pc 205 then bif Nat.beq pc 204 then some (.iaload, 205, 0, 0, 0, 0, 0) else none
  else bif Nat.blt pc 206 then bif Nat.beq pc 205 then some (.aload_n 0, 206, 0, 0, 0, 0, 0) else none
  else bif Nat.beq pc 206 then some (.iload 4, 208, 4, 0, 0, 0, 0) else none
  else bif Nat.blt pc 210 then bif Nat.blt pc 209 then bif Nat.beq pc 208 then some (.iconst 5, 209, 0, 0, 0, 5, 0) else none
  else bif Nat.beq pc 209 then some (.iadd, 210, 0, 0, 0, 0, 0) else none
  else bif Nat.blt pc 211 then bif Nat.beq pc 210 then some (.iaload, 211, 0, 0, 0, 0, 0) else none
  else bif Nat.beq pc 211 then some (.invokevirtual 79, 214, 69, 6, 7, 0, 0) else none
  else bif Nat.blt pc 218 then bif Nat.blt pc 215 then bif Nat.beq pc 214 then some (.aload_n 2, 215, 2, 0, 0, 0, 0) else none
  else bif Nat.blt pc 216 then bif Nat.beq pc 215 then some (.aload_n 0, 216, 0, 0, 0, 0, 0) else none
  else bif Nat.beq pc 216 then some (.iload 4, 218, 4, 0, 0, 0, 0) else none
  else bif Nat.blt pc 220 then bif Nat.blt pc 219 then bif Nat.beq pc 218 then some (.iconst 1, 219, 0, 0, 0, 1, 0) else none
  else bif Nat.beq pc 219 then some (.iadd, 220, 0, 0, 0, 0, 0) else none
  else bif Nat.blt pc 221 then bif Nat.beq pc 220 then some (.iaload, 221, 0, 0, 0, 0, 0) else none
  else bif Nat.beq pc 221 then some (.aload_n 0, 222, 0, 0, 0, 0, 0) else none
  else bif Nat.blt pc 258 then bif Nat.blt pc 238 then bif Nat.blt pc 230 then bif Nat.blt pc 226 then bif Nat.blt pc 224 then bif Nat.beq pc 222 then some (.iload 4, 224, 4, 0, 0, 0, 0) else none
  else bif Nat.blt pc 225 then bif Nat.beq pc 224 then some (.iconst 2, 225, 0, 0, 0, 2, 0) else none
  else bif Nat.beq pc 225 then some (.iadd, 226, 0, 0, 0, 0, 0) else none
  else bif Nat.blt pc 227 then bif Nat.beq pc 226 then some (.iaload, 227, 0, 0, 0, 0, 0) else none
  else bif Nat.blt pc 228 then bif Nat.beq pc 227 then some (.aload_n 0, 228, 0, 0, 0, 0, 0) else none
  else bif Nat.beq pc 228 then some (.iload 4, 230, 4, 0, 0, 0, 0) else none
  else bif Nat.blt pc 233 then bif Nat.blt pc 231 then bif Nat.beq pc 230 then some (.iconst 3, 231, 0, 0, 0, 3, 0) else none
  else bif Nat.blt pc 232 then bif Nat.beq pc 231 then some (.iadd, 232, 0, 0, 0, 0, 0) else none
  else bif Nat.beq pc 232 then some (.iaload, 233, 0, 0, 0, 0, 0) else none
  else bif Nat.blt pc 236 then bif Nat.blt pc 234 then bif Nat.beq pc 233 then some (.aload_n 0, 234, 0, 0, 0, 0, 0) else none
  else bif Nat.beq pc 234 then some (.iload 4, 236, 4, 0, 0, 0, 0) else none
  else bif Nat.blt pc 237 then bif Nat.beq pc 236 then some (.iconst 4, 237, 0, 0, 0, 4, 0) else none
  else bif Nat.beq pc 237 then some (.iadd, 238, 0, 0, 0, 0, 0) else none
  else bif Nat.blt pc 248 then bif Nat.blt pc 242 then bif Nat.blt pc 239 then bif Nat.beq pc 238 then some (.iaload, 239, 0, 0, 0, 0, 0) else none
  else bif Nat.blt pc 240 then bif Nat.beq pc 239 then some (.aload_n 0, 240, 0, 0, 0, 0, 0) else none
  else bif Nat.beq pc 240 then some (.iload 4, 242, 4, 0, 0, 0, 0) else none
  else bif Nat.blt pc 244 then bif Nat.blt pc 243 then bif Nat.beq pc 242 then some (.iconst 5, 243, 0, 0, 0, 5, 0) else none
  else bif Nat.beq pc 243 then some (.iadd, 244, 0, 0, 0, 0, 0) else none
  else bif Nat.blt pc 245 then bif Nat.beq pc 244 then some (.iaload, 245, 0, 0, 0, 0, 0) else none
  else bif Nat.beq pc 245 then some (.invokevirtual 83, 248, 117, 6, 8, 0, 0) else none
  else bif Nat.blt pc 253 then bif Nat.blt pc 251 then bif Nat.beq pc 248 then some (.if_icmp .eq 1261, 251, 1509, 0, 0, 0, 0) else none
  else bif Nat.blt pc 252 then bif Nat.beq pc 251 then some (.iconst 0, 252, 0, 0, 0, 0, 0) else none
  else bif Nat.beq pc 252 then some (.ireturn, 253, 0, 0, 0, 0, 0) else none
  else bif Nat.blt pc 255 then bif Nat.blt pc 254 then bif Nat.beq pc 253 then some (.aload_n 1, 254, 1, 0, 0, 0, 0) else none
  else bif Nat.beq pc 254 then some (.aload_n 0, 255, 0, 0, 0, 0, 0) else none
  else bif Nat.blt pc 257 then bif Nat.beq pc 255 then some (.iload 4, 257, 4, 0, 0, 0, 0) else none
  else bif Nat.beq pc 257 then some (.iconst 1, 258, 0, 0, 0, 1, 0) else none
  else bif Nat.blt pc 278 then bif Nat.blt pc 267 then bif Nat.blt pc 261 then bif Nat.blt pc 259 then bif Nat.beq pc 258 then some (.iadd, 259, 0, 0, 0, 0, 0) else none
  else bif Nat.blt pc 260 then bif Nat.beq pc 259 then some (.iaload, 260, 0, 0, 0, 0, 0) else none
  else bif Nat.beq pc 260 then some (.aload_n 3, 261, 3, 0, 0, 0, 0) else none
  else bif Nat.blt pc 264 then bif Nat.beq pc 261 then some (.invokestatic 84, 264, 203, 3, 99, 0, 0) else none
  else bif Nat.blt pc 266 then bif Nat.beq pc 264 then some (.istore 5, 266, 5, 0, 0, 0, 0) else none
  else bif Nat.beq pc 266 then some (.aload_n 2, 267, 2, 0, 0, 0, 0) else none
  else bif Nat.blt pc 271 then bif Nat.blt pc 268 then bif Nat.beq pc 267 then some (.aload_n 0, 268, 0, 0, 0, 0, 0) else none
  else bif Nat.blt pc 270 then bif Nat.beq pc 268 then some (.iload 4, 270, 4, 0, 0, 0, 0) else none
  else bif Nat.beq pc 270 then some (.iconst 1, 271, 0, 0, 0, 1, 0) else none
  else bif Nat.blt pc 273 then bif Nat.blt pc 272 then bif Nat.beq pc 271 then some (.iadd, 272, 0, 0, 0, 0, 0) else none
  else bif Nat.beq pc 272 then some (.iaload, 273, 0, 0, 0, 0, 0) else none
  else bif Nat.blt pc 276 then bif Nat.beq pc 273 then some (.invokevirtual 89, 276, 136, 2, 8, 0, 0) else none
  else bif Nat.beq pc 276 then some (.istore 6, 278, 6, 0, 0, 0, 0) else none
  else bif Nat.blt pc 291 then bif Nat.blt pc 284 then bif Nat.blt pc 279 then bif Nat.beq pc 278 then some (.aload_n 2, 279, 2, 0, 0, 0, 0) else none
  else bif Nat.blt pc 282 then bif Nat.beq pc 279 then some (.invokevirtual 90, 282, 109, 1, 8, 0, 0) else none
  else bif Nat.beq pc 282 then some (.iload 5, 284, 5, 0, 0, 0, 0) else none
  else bif Nat.blt pc 288 then bif Nat.blt pc 287 then bif Nat.beq pc 284 then some (.if_icmp .eq 5, 287, 289, 0, 0, 0, 0) else none
  else bif Nat.beq pc 287 then some (.iconst 0, 288, 0, 0, 0, 0, 0) else none
  else bif Nat.blt pc 289 then bif Nat.beq pc 288 then some (.ireturn, 289, 0, 0, 0, 0, 0) else none
  else bif Nat.beq pc 289 then some (.iload 5, 291, 5, 0, 0, 0, 0) else none
  else bif Nat.blt pc 296 then bif Nat.blt pc 294 then bif Nat.beq pc 291 then some (.ifCond .ne 15, 294, 306, 0, 0, 0, 0) else none
  else bif Nat.blt pc 295 then bif Nat.beq pc 294 then some (.aload_n 3, 295, 3, 0, 0, 0, 0) else none
  else bif Nat.beq pc 295 then some (.iconst 0, 296, 0, 0, 0, 0, 0) else none
  else bif Nat.blt pc 299 then bif Nat.blt pc 297 then bif Nat.beq pc 296 then some (.laload, 297, 0, 0, 0, 0, 0) else none
  else bif Nat.beq pc 297 then some (.iload 6, 299, 6, 0, 0, 0, 0) else none
  else bif Nat.blt pc 300 then bif Nat.beq pc 299 then some (.i2l, 300, 0, 0, 0, 0, 0) else none
  else bif Nat.beq pc 300 then some (.lcmp, 301, 0, 0, 0, 0, 0) else none
  else bif Nat.blt pc 394 then bif Nat.blt pc 352 then bif Nat.blt pc 326 then bif Nat.blt pc 313 then bif Nat.blt pc 306 then bif Nat.blt pc 304 then bif Nat.beq pc 301 then some (.ifCond .eq 5, 304, 306, 0, 0, 0, 0) else none
  else bif Nat.blt pc 305 then bif Nat.beq pc 304 then some (.iconst 0, 305, 0, 0, 0, 0, 0) else none
  else bif Nat.beq pc 305 then some (.ireturn, 306, 0, 0, 0, 0, 0) else none
  else bif Nat.blt pc 309 then bif Nat.beq pc 306 then some (.goto 1203, 309, 1509, 0, 0, 0, 0) else none
  else bif Nat.blt pc 310 then bif Nat.beq pc 309 then some (.aload_n 1, 310, 1, 0, 0, 0, 0) else none
  else bif Nat.beq pc 310 then some (.invokevirtual 94, 313, 71, 1, 7, 0, 0) else none
  else bif Nat.blt pc 320 then bif Nat.blt pc 314 then bif Nat.beq pc 313 then some (.aload_n 2, 314, 2, 0, 0, 0, 0) else none
  else bif Nat.blt pc 317 then bif Nat.beq pc 314 then some (.invokevirtual 97, 317, 137, 1, 8, 0, 0) else none
  else bif Nat.beq pc 317 then some (.if_icmp .eq 1192, 320, 1509, 0, 0, 0, 0) else none
  else bif Nat.blt pc 322 then bif Nat.blt pc 321 then bif Nat.beq pc 320 then some (.iconst 0, 321, 0, 0, 0, 0, 0) else none
  else bif Nat.beq pc 321 then some (.ireturn, 322, 0, 0, 0, 0, 0) else none
  else bif Nat.blt pc 323 then bif Nat.beq pc 322 then some (.aload_n 1, 323, 1, 0, 0, 0, 0) else none
  else bif Nat.beq pc 323 then some (.invokevirtual 98, 326, 72, 1, 7, 0, 0) else none
  else bif Nat.blt pc 339 then bif Nat.blt pc 333 then bif Nat.blt pc 327 then bif Nat.beq pc 326 then some (.aload_n 2, 327, 2, 0, 0, 0, 0) else none
  else bif Nat.blt pc 330 then bif Nat.beq pc 327 then some (.invokevirtual 101, 330, 171, 1, 8, 0, 0) else none
  else bif Nat.beq pc 330 then some (.if_icmp .eq 1179, 333, 1509, 0, 0, 0, 0) else none
  else bif Nat.blt pc 335 then bif Nat.blt pc 334 then bif Nat.beq pc 333 then some (.iconst 0, 334, 0, 0, 0, 0, 0) else none
  else bif Nat.beq pc 334 then some (.ireturn, 335, 0, 0, 0, 0, 0) else none
  else bif Nat.blt pc 336 then bif Nat.beq pc 335 then some (.aload_n 1, 336, 1, 0, 0, 0, 0) else none
  else bif Nat.beq pc 336 then some (.invokevirtual 102, 339, 73, 1, 7, 0, 0) else none
  else bif Nat.blt pc 346 then bif Nat.blt pc 340 then bif Nat.beq pc 339 then some (.aload_n 2, 340, 2, 0, 0, 0, 0) else none
  else bif Nat.blt pc 343 then bif Nat.beq pc 340 then some (.invokevirtual 105, 343, 172, 1, 8, 0, 0) else none
  else bif Nat.beq pc 343 then some (.if_icmp .eq 1166, 346, 1509, 0, 0, 0, 0) else none
  else bif Nat.blt pc 348 then bif Nat.blt pc 347 then bif Nat.beq pc 346 then some (.iconst 0, 347, 0, 0, 0, 0, 0) else none
  else bif Nat.beq pc 347 then some (.ireturn, 348, 0, 0, 0, 0, 0) else none
  else bif Nat.blt pc 349 then bif Nat.beq pc 348 then some (.aload_n 1, 349, 1, 0, 0, 0, 0) else none
  else bif Nat.beq pc 349 then some (.invokevirtual 106, 352, 74, 1, 7, 0, 0) else none
  else bif Nat.blt pc 375 then bif Nat.blt pc 362 then bif Nat.blt pc 359 then bif Nat.blt pc 353 then bif Nat.beq pc 352 then some (.aload_n 2, 353, 2, 0, 0, 0, 0) else none
  else bif Nat.blt pc 356 then bif Nat.beq pc 353 then some (.invokevirtual 109, 356, 173, 1, 8, 0, 0) else none
  else bif Nat.beq pc 356 then some (.if_icmp .eq 1153, 359, 1509, 0, 0, 0, 0) else none
  else bif Nat.blt pc 360 then bif Nat.beq pc 359 then some (.iconst 0, 360, 0, 0, 0, 0, 0) else none
  else bif Nat.blt pc 361 then bif Nat.beq pc 360 then some (.ireturn, 361, 0, 0, 0, 0, 0) else none
  else bif Nat.beq pc 361 then some (.aload_n 1, 362, 1, 0, 0, 0, 0) else none
  else bif Nat.blt pc 369 then bif Nat.blt pc 365 then bif Nat.beq pc 362 then some (.invokevirtual 110, 365, 75, 1, 7, 0, 0) else none
  else bif Nat.blt pc 366 then bif Nat.beq pc 365 then some (.aload_n 2, 366, 2, 0, 0, 0, 0) else none
  else bif Nat.beq pc 366 then some (.invokevirtual 113, 369, 174, 1, 8, 0, 0) else none
  else bif Nat.blt pc 373 then bif Nat.blt pc 372 then bif Nat.beq pc 369 then some (.if_icmp .eq 1140, 372, 1509, 0, 0, 0, 0) else none
  else bif Nat.beq pc 372 then some (.iconst 0, 373, 0, 0, 0, 0, 0) else none
  else bif Nat.blt pc 374 then bif Nat.beq pc 373 then some (.ireturn, 374, 0, 0, 0, 0, 0) else none
  else bif Nat.beq pc 374 then some (.aload_n 1, 375, 1, 0, 0, 0, 0) else none
  else bif Nat.blt pc 384 then bif Nat.blt pc 379 then bif Nat.blt pc 376 then bif Nat.beq pc 375 then some (.aload_n 0, 376, 0, 0, 0, 0, 0) else none
  else bif Nat.blt pc 378 then bif Nat.beq pc 376 then some (.iload 4, 378, 4, 0, 0, 0, 0) else none
  else bif Nat.beq pc 378 then some (.iconst 1, 379, 0, 0, 0, 1, 0) else none
  else bif Nat.blt pc 381 then bif Nat.blt pc 380 then bif Nat.beq pc 379 then some (.iadd, 380, 0, 0, 0, 0, 0) else none
  else bif Nat.beq pc 380 then some (.iaload, 381, 0, 0, 0, 0, 0) else none
  else bif Nat.blt pc 382 then bif Nat.beq pc 381 then some (.aload_n 0, 382, 0, 0, 0, 0, 0) else none
  else bif Nat.beq pc 382 then some (.iload 4, 384, 4, 0, 0, 0, 0) else none
  else bif Nat.blt pc 387 then bif Nat.blt pc 385 then bif Nat.beq pc 384 then some (.iconst 2, 385, 0, 0, 0, 2, 0) else none
  else bif Nat.blt pc 386 then bif Nat.beq pc 385 then some (.iadd, 386, 0, 0, 0, 0, 0) else none
  else bif Nat.beq pc 386 then some (.iaload, 387, 0, 0, 0, 0, 0) else none
  else bif Nat.blt pc 391 then bif Nat.blt pc 388 then bif Nat.beq pc 387 then some (.aload_n 3, 388, 3, 0, 0, 0, 0) else none
  else bif Nat.beq pc 388 then some (.invokestatic 114, 391, 204, 4, 99, 0, 0) else none
  else bif Nat.blt pc 393 then bif Nat.beq pc 391 then some (.istore 5, 393, 5, 0, 0, 0, 0) else none
  else bif Nat.beq pc 393 then some (.aload_n 2, 394, 2, 0, 0, 0, 0) else none
  else bif Nat.blt pc 437 then bif Nat.blt pc 412 then bif Nat.blt pc 401 then bif Nat.blt pc 398 then bif Nat.blt pc 395 then bif Nat.beq pc 394 then some (.aload_n 0, 395, 0, 0, 0, 0, 0) else none
  else bif Nat.blt pc 397 then bif Nat.beq pc 395 then some (.iload 4, 397, 4, 0, 0, 0, 0) else none
  else bif Nat.beq pc 397 then some (.iconst 1, 398, 0, 0, 0, 1, 0) else none
  else bif Nat.blt pc 399 then bif Nat.beq pc 398 then some (.iadd, 399, 0, 0, 0, 0, 0) else none
  else bif Nat.blt pc 400 then bif Nat.beq pc 399 then some (.iaload, 400, 0, 0, 0, 0, 0) else none
  else bif Nat.beq pc 400 then some (.aload_n 0, 401, 0, 0, 0, 0, 0) else none
  else bif Nat.blt pc 405 then bif Nat.blt pc 403 then bif Nat.beq pc 401 then some (.iload 4, 403, 4, 0, 0, 0, 0) else none
  else bif Nat.blt pc 404 then bif Nat.beq pc 403 then some (.iconst 2, 404, 0, 0, 0, 2, 0) else none
  else bif Nat.beq pc 404 then some (.iadd, 405, 0, 0, 0, 0, 0) else none
  else bif Nat.blt pc 409 then bif Nat.blt pc 406 then bif Nat.beq pc 405 then some (.iaload, 406, 0, 0, 0, 0, 0) else none
  else bif Nat.beq pc 406 then some (.invokevirtual 117, 409, 175, 3, 8, 0, 0) else none
  else bif Nat.blt pc 411 then bif Nat.beq pc 409 then some (.istore 6, 411, 6, 0, 0, 0, 0) else none
  else bif Nat.beq pc 411 then some (.aload_n 2, 412, 2, 0, 0, 0, 0) else none
  else bif Nat.blt pc 427 then bif Nat.blt pc 420 then bif Nat.blt pc 415 then bif Nat.beq pc 412 then some (.invokevirtual 90, 415, 109, 1, 8, 0, 0) else none
  else bif Nat.blt pc 417 then bif Nat.beq pc 415 then some (.iload 5, 417, 5, 0, 0, 0, 0) else none
  else bif Nat.beq pc 417 then some (.if_icmp .eq 5, 420, 422, 0, 0, 0, 0) else none
  else bif Nat.blt pc 422 then bif Nat.blt pc 421 then bif Nat.beq pc 420 then some (.iconst 0, 421, 0, 0, 0, 0, 0) else none
  else bif Nat.beq pc 421 then some (.ireturn, 422, 0, 0, 0, 0, 0) else none
  else bif Nat.blt pc 424 then bif Nat.beq pc 422 then some (.iload 5, 424, 5, 0, 0, 0, 0) else none
  else bif Nat.beq pc 424 then some (.ifCond .ne 15, 427, 439, 0, 0, 0, 0) else none
  else bif Nat.blt pc 430 then bif Nat.blt pc 428 then bif Nat.beq pc 427 then some (.aload_n 3, 428, 3, 0, 0, 0, 0) else none
  else bif Nat.blt pc 429 then bif Nat.beq pc 428 then some (.iconst 0, 429, 0, 0, 0, 0, 0) else none
  else bif Nat.beq pc 429 then some (.laload, 430, 0, 0, 0, 0, 0) else none
  else bif Nat.blt pc 433 then bif Nat.blt pc 432 then bif Nat.beq pc 430 then some (.iload 6, 432, 6, 0, 0, 0, 0) else none
  else bif Nat.beq pc 432 then some (.i2l, 433, 0, 0, 0, 0, 0) else none
  else bif Nat.blt pc 434 then bif Nat.beq pc 433 then some (.lcmp, 434, 0, 0, 0, 0, 0) else none
  else bif Nat.beq pc 434 then some (.ifCond .eq 5, 437, 439, 0, 0, 0, 0) else none
  else bif Nat.blt pc 455 then bif Nat.blt pc 447 then bif Nat.blt pc 442 then bif Nat.blt pc 438 then bif Nat.beq pc 437 then some (.iconst 0, 438, 0, 0, 0, 0, 0) else none
  else bif Nat.blt pc 439 then bif Nat.beq pc 438 then some (.ireturn, 439, 0, 0, 0, 0, 0) else none
  else bif Nat.beq pc 439 then some (.goto 1070, 442, 1509, 0, 0, 0, 0) else none
  else bif Nat.blt pc 444 then bif Nat.blt pc 443 then bif Nat.beq pc 442 then some (.aload_n 1, 443, 1, 0, 0, 0, 0) else none
  else bif Nat.beq pc 443 then some (.aload_n 0, 444, 0, 0, 0, 0, 0) else none
  else bif Nat.blt pc 446 then bif Nat.beq pc 444 then some (.iload 4, 446, 4, 0, 0, 0, 0) else none
  else bif Nat.beq pc 446 then some (.iconst 1, 447, 0, 0, 0, 1, 0) else none
  else bif Nat.blt pc 450 then bif Nat.blt pc 448 then bif Nat.beq pc 447 then some (.iadd, 448, 0, 0, 0, 0, 0) else none
  else bif Nat.blt pc 449 then bif Nat.beq pc 448 then some (.iaload, 449, 0, 0, 0, 0, 0) else none
  else bif Nat.beq pc 449 then some (.aload_n 0, 450, 0, 0, 0, 0, 0) else none
  else bif Nat.blt pc 453 then bif Nat.blt pc 452 then bif Nat.beq pc 450 then some (.iload 4, 452, 4, 0, 0, 0, 0) else none
  else bif Nat.beq pc 452 then some (.iconst 2, 453, 0, 0, 0, 2, 0) else none
  else bif Nat.blt pc 454 then bif Nat.beq pc 453 then some (.iadd, 454, 0, 0, 0, 0, 0) else none
  else bif Nat.beq pc 454 then some (.iaload, 455, 0, 0, 0, 0, 0) else none
  else bif Nat.blt pc 466 then bif Nat.blt pc 461 then bif Nat.blt pc 456 then bif Nat.beq pc 455 then some (.aload_n 3, 456, 3, 0, 0, 0, 0) else none
  else bif Nat.blt pc 459 then bif Nat.beq pc 456 then some (.invokestatic 118, 459, 205, 4, 99, 0, 0) else none
  else bif Nat.beq pc 459 then some (.istore 5, 461, 5, 0, 0, 0, 0) else none
  else bif Nat.blt pc 463 then bif Nat.blt pc 462 then bif Nat.beq pc 461 then some (.aload_n 2, 462, 2, 0, 0, 0, 0) else none
  else bif Nat.beq pc 462 then some (.aload_n 0, 463, 0, 0, 0, 0, 0) else none
  else bif Nat.blt pc 465 then bif Nat.beq pc 463 then some (.iload 4, 465, 4, 0, 0, 0, 0) else none
  else bif Nat.beq pc 465 then some (.iconst 1, 466, 0, 0, 0, 1, 0) else none
  else bif Nat.blt pc 469 then bif Nat.blt pc 467 then bif Nat.beq pc 466 then some (.iadd, 467, 0, 0, 0, 0, 0) else none
  else bif Nat.blt pc 468 then bif Nat.beq pc 467 then some (.iaload, 468, 0, 0, 0, 0, 0) else none
  else bif Nat.beq pc 468 then some (.aload_n 0, 469, 0, 0, 0, 0, 0) else none
  else bif Nat.blt pc 472 then bif Nat.blt pc 471 then bif Nat.beq pc 469 then some (.iload 4, 471, 4, 0, 0, 0, 0) else none
  else bif Nat.beq pc 471 then some (.iconst 2, 472, 0, 0, 0, 2, 0) else none
  else bif Nat.blt pc 473 then bif Nat.beq pc 472 then some (.iadd, 473, 0, 0, 0, 0, 0) else none
  else bif Nat.beq pc 473 then some (.iaload, 474, 0, 0, 0, 0, 0) else none
  else bif Nat.blt pc 644 then bif Nat.blt pc 563 then bif Nat.blt pc 522 then bif Nat.blt pc 498 then bif Nat.blt pc 488 then bif Nat.blt pc 480 then bif Nat.blt pc 477 then bif Nat.beq pc 474 then some (.invokevirtual 120, 477, 176, 3, 8, 0, 0) else none
  else bif Nat.blt pc 479 then bif Nat.beq pc 477 then some (.istore 6, 479, 6, 0, 0, 0, 0) else none
  else bif Nat.beq pc 479 then some (.aload_n 2, 480, 2, 0, 0, 0, 0) else none
  else bif Nat.blt pc 483 then bif Nat.beq pc 480 then some (.invokevirtual 90, 483, 109, 1, 8, 0, 0) else none
  else bif Nat.blt pc 485 then bif Nat.beq pc 483 then some (.iload 5, 485, 5, 0, 0, 0, 0) else none
  else bif Nat.beq pc 485 then some (.if_icmp .eq 5, 488, 490, 0, 0, 0, 0) else none
  else bif Nat.blt pc 492 then bif Nat.blt pc 489 then bif Nat.beq pc 488 then some (.iconst 0, 489, 0, 0, 0, 0, 0) else none
  else bif Nat.blt pc 490 then bif Nat.beq pc 489 then some (.ireturn, 490, 0, 0, 0, 0, 0) else none
  else bif Nat.beq pc 490 then some (.iload 5, 492, 5, 0, 0, 0, 0) else none
  else bif Nat.blt pc 496 then bif Nat.blt pc 495 then bif Nat.beq pc 492 then some (.ifCond .ne 22, 495, 514, 0, 0, 0, 0) else none
  else bif Nat.beq pc 495 then some (.aload_n 3, 496, 3, 0, 0, 0, 0) else none
  else bif Nat.blt pc 497 then bif Nat.beq pc 496 then some (.iconst 0, 497, 0, 0, 0, 0, 0) else none
  else bif Nat.beq pc 497 then some (.laload, 498, 0, 0, 0, 0, 0) else none
  else bif Nat.blt pc 512 then bif Nat.blt pc 504 then bif Nat.blt pc 500 then bif Nat.beq pc 498 then some (.iload 6, 500, 6, 0, 0, 0, 0) else none
  else bif Nat.blt pc 503 then bif Nat.beq pc 500 then some (.ifCond .eq 7, 503, 507, 0, 0, 0, 0) else none
  else bif Nat.beq pc 503 then some (.lconst 1, 504, 0, 0, 0, 0, 1) else none
  else bif Nat.blt pc 508 then bif Nat.blt pc 507 then bif Nat.beq pc 504 then some (.goto 4, 507, 508, 0, 0, 0, 0) else none
  else bif Nat.beq pc 507 then some (.lconst 0, 508, 0, 0, 0, 0, 0) else none
  else bif Nat.blt pc 509 then bif Nat.beq pc 508 then some (.lcmp, 509, 0, 0, 0, 0, 0) else none
  else bif Nat.beq pc 509 then some (.ifCond .eq 5, 512, 514, 0, 0, 0, 0) else none
  else bif Nat.blt pc 517 then bif Nat.blt pc 513 then bif Nat.beq pc 512 then some (.iconst 0, 513, 0, 0, 0, 0, 0) else none
  else bif Nat.blt pc 514 then bif Nat.beq pc 513 then some (.ireturn, 514, 0, 0, 0, 0, 0) else none
  else bif Nat.beq pc 514 then some (.goto 995, 517, 1509, 0, 0, 0, 0) else none
  else bif Nat.blt pc 519 then bif Nat.blt pc 518 then bif Nat.beq pc 517 then some (.aload_n 1, 518, 1, 0, 0, 0, 0) else none
  else bif Nat.beq pc 518 then some (.aload_n 0, 519, 0, 0, 0, 0, 0) else none
  else bif Nat.blt pc 521 then bif Nat.beq pc 519 then some (.iload 4, 521, 4, 0, 0, 0, 0) else none
  else bif Nat.beq pc 521 then some (.iconst 1, 522, 0, 0, 0, 1, 0) else none
  else bif Nat.blt pc 540 then bif Nat.blt pc 529 then bif Nat.blt pc 525 then bif Nat.blt pc 523 then bif Nat.beq pc 522 then some (.iadd, 523, 0, 0, 0, 0, 0) else none
  else bif Nat.blt pc 524 then bif Nat.beq pc 523 then some (.iaload, 524, 0, 0, 0, 0, 0) else none
  else bif Nat.beq pc 524 then some (.aload_n 0, 525, 0, 0, 0, 0, 0) else none
  else bif Nat.blt pc 527 then bif Nat.beq pc 525 then some (.iload 4, 527, 4, 0, 0, 0, 0) else none
  else bif Nat.blt pc 528 then bif Nat.beq pc 527 then some (.iconst 2, 528, 0, 0, 0, 2, 0) else none
  else bif Nat.beq pc 528 then some (.iadd, 529, 0, 0, 0, 0, 0) else none
  else bif Nat.blt pc 534 then bif Nat.blt pc 530 then bif Nat.beq pc 529 then some (.iaload, 530, 0, 0, 0, 0, 0) else none
  else bif Nat.blt pc 531 then bif Nat.beq pc 530 then some (.aload_n 3, 531, 3, 0, 0, 0, 0) else none
  else bif Nat.beq pc 531 then some (.invokestatic 121, 534, 206, 4, 99, 0, 0) else none
  else bif Nat.blt pc 537 then bif Nat.blt pc 536 then bif Nat.beq pc 534 then some (.istore 5, 536, 5, 0, 0, 0, 0) else none
  else bif Nat.beq pc 536 then some (.aload_n 2, 537, 2, 0, 0, 0, 0) else none
  else bif Nat.blt pc 538 then bif Nat.beq pc 537 then some (.aload_n 0, 538, 0, 0, 0, 0, 0) else none
  else bif Nat.beq pc 538 then some (.iload 4, 540, 4, 0, 0, 0, 0) else none
  else bif Nat.blt pc 548 then bif Nat.blt pc 543 then bif Nat.blt pc 541 then bif Nat.beq pc 540 then some (.iconst 1, 541, 0, 0, 0, 1, 0) else none
  else bif Nat.blt pc 542 then bif Nat.beq pc 541 then some (.iadd, 542, 0, 0, 0, 0, 0) else none
  else bif Nat.beq pc 542 then some (.iaload, 543, 0, 0, 0, 0, 0) else none
  else bif Nat.blt pc 546 then bif Nat.blt pc 544 then bif Nat.beq pc 543 then some (.aload_n 0, 544, 0, 0, 0, 0, 0) else none
  else bif Nat.beq pc 544 then some (.iload 4, 546, 4, 0, 0, 0, 0) else none
  else bif Nat.blt pc 547 then bif Nat.beq pc 546 then some (.iconst 2, 547, 0, 0, 0, 2, 0) else none
  else bif Nat.beq pc 547 then some (.iadd, 548, 0, 0, 0, 0, 0) else none
  else bif Nat.blt pc 554 then bif Nat.blt pc 549 then bif Nat.beq pc 548 then some (.iaload, 549, 0, 0, 0, 0, 0) else none
  else bif Nat.blt pc 552 then bif Nat.beq pc 549 then some (.invokevirtual 123, 552, 177, 3, 8, 0, 0) else none
  else bif Nat.beq pc 552 then some (.istore 6, 554, 6, 0, 0, 0, 0) else none
  else bif Nat.blt pc 558 then bif Nat.blt pc 555 then bif Nat.beq pc 554 then some (.aload_n 2, 555, 2, 0, 0, 0, 0) else none
  else bif Nat.beq pc 555 then some (.invokevirtual 90, 558, 109, 1, 8, 0, 0) else none
  else bif Nat.blt pc 560 then bif Nat.beq pc 558 then some (.iload 5, 560, 5, 0, 0, 0, 0) else none
  else bif Nat.beq pc 560 then some (.if_icmp .eq 5, 563, 565, 0, 0, 0, 0) else none
  else bif Nat.blt pc 602 then bif Nat.blt pc 582 then bif Nat.blt pc 572 then bif Nat.blt pc 567 then bif Nat.blt pc 564 then bif Nat.beq pc 563 then some (.iconst 0, 564, 0, 0, 0, 0, 0) else none
  else bif Nat.blt pc 565 then bif Nat.beq pc 564 then some (.ireturn, 565, 0, 0, 0, 0, 0) else none
  else bif Nat.beq pc 565 then some (.iload 5, 567, 5, 0, 0, 0, 0) else none
  else bif Nat.blt pc 570 then bif Nat.beq pc 567 then some (.ifCond .ne 15, 570, 582, 0, 0, 0, 0) else none
  else bif Nat.blt pc 571 then bif Nat.beq pc 570 then some (.aload_n 3, 571, 3, 0, 0, 0, 0) else none
  else bif Nat.beq pc 571 then some (.iconst 0, 572, 0, 0, 0, 0, 0) else none
  else bif Nat.blt pc 576 then bif Nat.blt pc 573 then bif Nat.beq pc 572 then some (.laload, 573, 0, 0, 0, 0, 0) else none
  else bif Nat.blt pc 575 then bif Nat.beq pc 573 then some (.iload 6, 575, 6, 0, 0, 0, 0) else none
  else bif Nat.beq pc 575 then some (.i2l, 576, 0, 0, 0, 0, 0) else none
  else bif Nat.blt pc 580 then bif Nat.blt pc 577 then bif Nat.beq pc 576 then some (.lcmp, 577, 0, 0, 0, 0, 0) else none
  else bif Nat.beq pc 577 then some (.ifCond .eq 5, 580, 582, 0, 0, 0, 0) else none
  else bif Nat.blt pc 581 then bif Nat.beq pc 580 then some (.iconst 0, 581, 0, 0, 0, 0, 0) else none
  else bif Nat.beq pc 581 then some (.ireturn, 582, 0, 0, 0, 0, 0) else none
  else bif Nat.blt pc 592 then bif Nat.blt pc 587 then bif Nat.blt pc 585 then bif Nat.beq pc 582 then some (.goto 927, 585, 1509, 0, 0, 0, 0) else none
  else bif Nat.blt pc 586 then bif Nat.beq pc 585 then some (.aload_n 1, 586, 1, 0, 0, 0, 0) else none
  else bif Nat.beq pc 586 then some (.aload_n 0, 587, 0, 0, 0, 0, 0) else none
  else bif Nat.blt pc 590 then bif Nat.blt pc 589 then bif Nat.beq pc 587 then some (.iload 4, 589, 4, 0, 0, 0, 0) else none
  else bif Nat.beq pc 589 then some (.iconst 1, 590, 0, 0, 0, 1, 0) else none
  else bif Nat.blt pc 591 then bif Nat.beq pc 590 then some (.iadd, 591, 0, 0, 0, 0, 0) else none
  else bif Nat.beq pc 591 then some (.iaload, 592, 0, 0, 0, 0, 0) else none
  else bif Nat.blt pc 596 then bif Nat.blt pc 593 then bif Nat.beq pc 592 then some (.aload_n 0, 593, 0, 0, 0, 0, 0) else none
  else bif Nat.blt pc 595 then bif Nat.beq pc 593 then some (.iload 4, 595, 4, 0, 0, 0, 0) else none
  else bif Nat.beq pc 595 then some (.iconst 2, 596, 0, 0, 0, 2, 0) else none
  else bif Nat.blt pc 598 then bif Nat.blt pc 597 then bif Nat.beq pc 596 then some (.iadd, 597, 0, 0, 0, 0, 0) else none
  else bif Nat.beq pc 597 then some (.iaload, 598, 0, 0, 0, 0, 0) else none
  else bif Nat.blt pc 599 then bif Nat.beq pc 598 then some (.aload_n 3, 599, 3, 0, 0, 0, 0) else none
  else bif Nat.beq pc 599 then some (.invokestatic 124, 602, 207, 4, 99, 0, 0) else none
  else bif Nat.blt pc 620 then bif Nat.blt pc 610 then bif Nat.blt pc 606 then bif Nat.blt pc 604 then bif Nat.beq pc 602 then some (.istore 5, 604, 5, 0, 0, 0, 0) else none
  else bif Nat.blt pc 605 then bif Nat.beq pc 604 then some (.aload_n 2, 605, 2, 0, 0, 0, 0) else none
  else bif Nat.beq pc 605 then some (.aload_n 0, 606, 0, 0, 0, 0, 0) else none
  else bif Nat.blt pc 608 then bif Nat.beq pc 606 then some (.iload 4, 608, 4, 0, 0, 0, 0) else none
  else bif Nat.blt pc 609 then bif Nat.beq pc 608 then some (.iconst 1, 609, 0, 0, 0, 1, 0) else none
  else bif Nat.beq pc 609 then some (.iadd, 610, 0, 0, 0, 0, 0) else none
  else bif Nat.blt pc 614 then bif Nat.blt pc 611 then bif Nat.beq pc 610 then some (.iaload, 611, 0, 0, 0, 0, 0) else none
  else bif Nat.blt pc 612 then bif Nat.beq pc 611 then some (.aload_n 0, 612, 0, 0, 0, 0, 0) else none
  else bif Nat.beq pc 612 then some (.iload 4, 614, 4, 0, 0, 0, 0) else none
  else bif Nat.blt pc 616 then bif Nat.blt pc 615 then bif Nat.beq pc 614 then some (.iconst 2, 615, 0, 0, 0, 2, 0) else none
  else bif Nat.beq pc 615 then some (.iadd, 616, 0, 0, 0, 0, 0) else none
  else bif Nat.blt pc 617 then bif Nat.beq pc 616 then some (.iaload, 617, 0, 0, 0, 0, 0) else none
  else bif Nat.beq pc 617 then some (.invokevirtual 126, 620, 178, 3, 8, 0, 0) else none
  else bif Nat.blt pc 633 then bif Nat.blt pc 626 then bif Nat.blt pc 622 then bif Nat.beq pc 620 then some (.istore 6, 622, 6, 0, 0, 0, 0) else none
  else bif Nat.blt pc 623 then bif Nat.beq pc 622 then some (.aload_n 2, 623, 2, 0, 0, 0, 0) else none
  else bif Nat.beq pc 623 then some (.invokevirtual 90, 626, 109, 1, 8, 0, 0) else none
  else bif Nat.blt pc 631 then bif Nat.blt pc 628 then bif Nat.beq pc 626 then some (.iload 5, 628, 5, 0, 0, 0, 0) else none
  else bif Nat.beq pc 628 then some (.if_icmp .eq 5, 631, 633, 0, 0, 0, 0) else none
  else bif Nat.blt pc 632 then bif Nat.beq pc 631 then some (.iconst 0, 632, 0, 0, 0, 0, 0) else none
  else bif Nat.beq pc 632 then some (.ireturn, 633, 0, 0, 0, 0, 0) else none
  else bif Nat.blt pc 639 then bif Nat.blt pc 635 then bif Nat.beq pc 633 then some (.iload 5, 635, 5, 0, 0, 0, 0) else none
  else bif Nat.blt pc 638 then bif Nat.beq pc 635 then some (.ifCond .ne 15, 638, 650, 0, 0, 0, 0) else none
  else bif Nat.beq pc 638 then some (.aload_n 3, 639, 3, 0, 0, 0, 0) else none
  else bif Nat.blt pc 641 then bif Nat.blt pc 640 then bif Nat.beq pc 639 then some (.iconst 0, 640, 0, 0, 0, 0, 0) else none
  else bif Nat.beq pc 640 then some (.laload, 641, 0, 0, 0, 0, 0) else none
  else bif Nat.blt pc 643 then bif Nat.beq pc 641 then some (.iload 6, 643, 6, 0, 0, 0, 0) else none
  else bif Nat.beq pc 643 then some (.i2l, 644, 0, 0, 0, 0, 0) else none
  else bif Nat.blt pc 735 then bif Nat.blt pc 688 then bif Nat.blt pc 664 then bif Nat.blt pc 654 then bif Nat.blt pc 649 then bif Nat.blt pc 645 then bif Nat.beq pc 644 then some (.lcmp, 645, 0, 0, 0, 0, 0) else none
  else bif Nat.blt pc 648 then bif Nat.beq pc 645 then some (.ifCond .eq 5, 648, 650, 0, 0, 0, 0) else none
  else bif Nat.beq pc 648 then some (.iconst 0, 649, 0, 0, 0, 0, 0) else none
  else bif Nat.blt pc 650 then bif Nat.beq pc 649 then some (.ireturn, 650, 0, 0, 0, 0, 0) else none
  else bif Nat.blt pc 653 then bif Nat.beq pc 650 then some (.goto 859, 653, 1509, 0, 0, 0, 0) else none
  else bif Nat.beq pc 653 then some (.aload_n 1, 654, 1, 0, 0, 0, 0) else none
  else bif Nat.blt pc 658 then bif Nat.blt pc 655 then bif Nat.beq pc 654 then some (.aload_n 0, 655, 0, 0, 0, 0, 0) else none
  else bif Nat.blt pc 657 then bif Nat.beq pc 655 then some (.iload 4, 657, 4, 0, 0, 0, 0) else none
  else bif Nat.beq pc 657 then some (.iconst 1, 658, 0, 0, 0, 1, 0) else none
  else bif Nat.blt pc 660 then bif Nat.blt pc 659 then bif Nat.beq pc 658 then some (.iadd, 659, 0, 0, 0, 0, 0) else none
  else bif Nat.beq pc 659 then some (.iaload, 660, 0, 0, 0, 0, 0) else none
  else bif Nat.blt pc 661 then bif Nat.beq pc 660 then some (.aload_n 3, 661, 3, 0, 0, 0, 0) else none
  else bif Nat.beq pc 661 then some (.invokestatic 127, 664, 208, 3, 99, 0, 0) else none
  else bif Nat.blt pc 673 then bif Nat.blt pc 668 then bif Nat.blt pc 666 then bif Nat.beq pc 664 then some (.istore 5, 666, 5, 0, 0, 0, 0) else none
  else bif Nat.blt pc 667 then bif Nat.beq pc 666 then some (.aload_n 2, 667, 2, 0, 0, 0, 0) else none
  else bif Nat.beq pc 667 then some (.aload_n 0, 668, 0, 0, 0, 0, 0) else none
  else bif Nat.blt pc 671 then bif Nat.blt pc 670 then bif Nat.beq pc 668 then some (.iload 4, 670, 4, 0, 0, 0, 0) else none
  else bif Nat.beq pc 670 then some (.iconst 1, 671, 0, 0, 0, 1, 0) else none
  else bif Nat.blt pc 672 then bif Nat.beq pc 671 then some (.iadd, 672, 0, 0, 0, 0, 0) else none
  else bif Nat.beq pc 672 then some (.iaload, 673, 0, 0, 0, 0, 0) else none
  else bif Nat.blt pc 679 then bif Nat.blt pc 676 then bif Nat.beq pc 673 then some (.invokevirtual 129, 676, 179, 2, 8, 0, 0) else none
  else bif Nat.blt pc 678 then bif Nat.beq pc 676 then some (.istore 6, 678, 6, 0, 0, 0, 0) else none
  else bif Nat.beq pc 678 then some (.aload_n 2, 679, 2, 0, 0, 0, 0) else none
  else bif Nat.blt pc 684 then bif Nat.blt pc 682 then bif Nat.beq pc 679 then some (.invokevirtual 90, 682, 109, 1, 8, 0, 0) else none
  else bif Nat.beq pc 682 then some (.iload 5, 684, 5, 0, 0, 0, 0) else none
  else bif Nat.blt pc 687 then bif Nat.beq pc 684 then some (.if_icmp .eq 5, 687, 689, 0, 0, 0, 0) else none
  else bif Nat.beq pc 687 then some (.iconst 0, 688, 0, 0, 0, 0, 0) else none
  else bif Nat.blt pc 709 then bif Nat.blt pc 697 then bif Nat.blt pc 694 then bif Nat.blt pc 689 then bif Nat.beq pc 688 then some (.ireturn, 689, 0, 0, 0, 0, 0) else none
  else bif Nat.blt pc 691 then bif Nat.beq pc 689 then some (.iload 5, 691, 5, 0, 0, 0, 0) else none
  else bif Nat.beq pc 691 then some (.ifCond .ne 15, 694, 706, 0, 0, 0, 0) else none
  else bif Nat.blt pc 695 then bif Nat.beq pc 694 then some (.aload_n 3, 695, 3, 0, 0, 0, 0) else none
  else bif Nat.blt pc 696 then bif Nat.beq pc 695 then some (.iconst 0, 696, 0, 0, 0, 0, 0) else none
  else bif Nat.beq pc 696 then some (.laload, 697, 0, 0, 0, 0, 0) else none
  else bif Nat.blt pc 701 then bif Nat.blt pc 699 then bif Nat.beq pc 697 then some (.iload 6, 699, 6, 0, 0, 0, 0) else none
  else bif Nat.blt pc 700 then bif Nat.beq pc 699 then some (.i2l, 700, 0, 0, 0, 0, 0) else none
  else bif Nat.beq pc 700 then some (.lcmp, 701, 0, 0, 0, 0, 0) else none
  else bif Nat.blt pc 705 then bif Nat.blt pc 704 then bif Nat.beq pc 701 then some (.ifCond .eq 5, 704, 706, 0, 0, 0, 0) else none
  else bif Nat.beq pc 704 then some (.iconst 0, 705, 0, 0, 0, 0, 0) else none
  else bif Nat.blt pc 706 then bif Nat.beq pc 705 then some (.ireturn, 706, 0, 0, 0, 0, 0) else none
  else bif Nat.beq pc 706 then some (.goto 803, 709, 1509, 0, 0, 0, 0) else none
  else bif Nat.blt pc 722 then bif Nat.blt pc 714 then bif Nat.blt pc 710 then bif Nat.beq pc 709 then some (.aload_n 1, 710, 1, 0, 0, 0, 0) else none
  else bif Nat.blt pc 713 then bif Nat.beq pc 710 then some (.invokevirtual 130, 713, 81, 1, 7, 0, 0) else none
  else bif Nat.beq pc 713 then some (.aload_n 2, 714, 2, 0, 0, 0, 0) else none
  else bif Nat.blt pc 720 then bif Nat.blt pc 717 then bif Nat.beq pc 714 then some (.invokevirtual 133, 717, 181, 1, 8, 0, 0) else none
  else bif Nat.beq pc 717 then some (.if_icmp .eq 792, 720, 1509, 0, 0, 0, 0) else none
  else bif Nat.blt pc 721 then bif Nat.beq pc 720 then some (.iconst 0, 721, 0, 0, 0, 0, 0) else none
  else bif Nat.beq pc 721 then some (.ireturn, 722, 0, 0, 0, 0, 0) else none
  else bif Nat.blt pc 727 then bif Nat.blt pc 723 then bif Nat.beq pc 722 then some (.aload_n 1, 723, 1, 0, 0, 0, 0) else none
  else bif Nat.blt pc 726 then bif Nat.beq pc 723 then some (.invokevirtual 134, 726, 82, 1, 7, 0, 0) else none
  else bif Nat.beq pc 726 then some (.aload_n 2, 727, 2, 0, 0, 0, 0) else none
  else bif Nat.blt pc 733 then bif Nat.blt pc 730 then bif Nat.beq pc 727 then some (.invokevirtual 137, 730, 183, 1, 8, 0, 0) else none
  else bif Nat.beq pc 730 then some (.if_icmp .eq 779, 733, 1509, 0, 0, 0, 0) else none
  else bif Nat.blt pc 734 then bif Nat.beq pc 733 then some (.iconst 0, 734, 0, 0, 0, 0, 0) else none
  else bif Nat.beq pc 734 then some (.ireturn, 735, 0, 0, 0, 0, 0) else none
  else bif Nat.blt pc 778 then bif Nat.blt pc 753 then bif Nat.blt pc 742 then bif Nat.blt pc 739 then bif Nat.blt pc 736 then bif Nat.beq pc 735 then some (.aload_n 1, 736, 1, 0, 0, 0, 0) else none
  else bif Nat.blt pc 737 then bif Nat.beq pc 736 then some (.aload_n 0, 737, 0, 0, 0, 0, 0) else none
  else bif Nat.beq pc 737 then some (.iload 4, 739, 4, 0, 0, 0, 0) else none
  else bif Nat.blt pc 740 then bif Nat.beq pc 739 then some (.iconst 1, 740, 0, 0, 0, 1, 0) else none
  else bif Nat.blt pc 741 then bif Nat.beq pc 740 then some (.iadd, 741, 0, 0, 0, 0, 0) else none
  else bif Nat.beq pc 741 then some (.iaload, 742, 0, 0, 0, 0, 0) else none
  else bif Nat.blt pc 748 then bif Nat.blt pc 743 then bif Nat.beq pc 742 then some (.aload_n 3, 743, 3, 0, 0, 0, 0) else none
  else bif Nat.blt pc 746 then bif Nat.beq pc 743 then some (.invokestatic 138, 746, 209, 3, 99, 0, 0) else none
  else bif Nat.beq pc 746 then some (.istore 5, 748, 5, 0, 0, 0, 0) else none
  else bif Nat.blt pc 750 then bif Nat.blt pc 749 then bif Nat.beq pc 748 then some (.aload_n 2, 749, 2, 0, 0, 0, 0) else none
  else bif Nat.beq pc 749 then some (.aload_n 0, 750, 0, 0, 0, 0, 0) else none
  else bif Nat.blt pc 752 then bif Nat.beq pc 750 then some (.iload 4, 752, 4, 0, 0, 0, 0) else none
  else bif Nat.beq pc 752 then some (.iconst 1, 753, 0, 0, 0, 1, 0) else none
  else bif Nat.blt pc 766 then bif Nat.blt pc 758 then bif Nat.blt pc 754 then bif Nat.beq pc 753 then some (.iadd, 754, 0, 0, 0, 0, 0) else none
  else bif Nat.blt pc 755 then bif Nat.beq pc 754 then some (.iaload, 755, 0, 0, 0, 0, 0) else none
  else bif Nat.beq pc 755 then some (.invokevirtual 140, 758, 184, 2, 8, 0, 0) else none
  else bif Nat.blt pc 761 then bif Nat.blt pc 760 then bif Nat.beq pc 758 then some (.istore 6, 760, 6, 0, 0, 0, 0) else none
  else bif Nat.beq pc 760 then some (.aload_n 2, 761, 2, 0, 0, 0, 0) else none
  else bif Nat.blt pc 764 then bif Nat.beq pc 761 then some (.invokevirtual 90, 764, 109, 1, 8, 0, 0) else none
  else bif Nat.beq pc 764 then some (.iload 5, 766, 5, 0, 0, 0, 0) else none
  else bif Nat.blt pc 771 then bif Nat.blt pc 769 then bif Nat.beq pc 766 then some (.if_icmp .eq 5, 769, 771, 0, 0, 0, 0) else none
  else bif Nat.blt pc 770 then bif Nat.beq pc 769 then some (.iconst 0, 770, 0, 0, 0, 0, 0) else none
  else bif Nat.beq pc 770 then some (.ireturn, 771, 0, 0, 0, 0, 0) else none
  else bif Nat.blt pc 776 then bif Nat.blt pc 773 then bif Nat.beq pc 771 then some (.iload 5, 773, 5, 0, 0, 0, 0) else none
  else bif Nat.beq pc 773 then some (.ifCond .ne 15, 776, 788, 0, 0, 0, 0) else none
  else bif Nat.blt pc 777 then bif Nat.beq pc 776 then some (.aload_n 3, 777, 3, 0, 0, 0, 0) else none
  else bif Nat.beq pc 777 then some (.iconst 0, 778, 0, 0, 0, 0, 0) else none
  else bif Nat.blt pc 798 then bif Nat.blt pc 788 then bif Nat.blt pc 782 then bif Nat.blt pc 779 then bif Nat.beq pc 778 then some (.laload, 779, 0, 0, 0, 0, 0) else none
  else bif Nat.blt pc 781 then bif Nat.beq pc 779 then some (.iload 6, 781, 6, 0, 0, 0, 0) else none
  else bif Nat.beq pc 781 then some (.i2l, 782, 0, 0, 0, 0, 0) else none
  else bif Nat.blt pc 786 then bif Nat.blt pc 783 then bif Nat.beq pc 782 then some (.lcmp, 783, 0, 0, 0, 0, 0) else none
  else bif Nat.beq pc 783 then some (.ifCond .eq 5, 786, 788, 0, 0, 0, 0) else none
  else bif Nat.blt pc 787 then bif Nat.beq pc 786 then some (.iconst 0, 787, 0, 0, 0, 0, 0) else none
  else bif Nat.beq pc 787 then some (.ireturn, 788, 0, 0, 0, 0, 0) else none
  else bif Nat.blt pc 793 then bif Nat.blt pc 791 then bif Nat.beq pc 788 then some (.goto 721, 791, 1509, 0, 0, 0, 0) else none
  else bif Nat.blt pc 792 then bif Nat.beq pc 791 then some (.aload_n 1, 792, 1, 0, 0, 0, 0) else none
  else bif Nat.beq pc 792 then some (.aload_n 0, 793, 0, 0, 0, 0, 0) else none
  else bif Nat.blt pc 796 then bif Nat.blt pc 795 then bif Nat.beq pc 793 then some (.iload 4, 795, 4, 0, 0, 0, 0) else none
  else bif Nat.beq pc 795 then some (.iconst 1, 796, 0, 0, 0, 1, 0) else none
  else bif Nat.blt pc 797 then bif Nat.beq pc 796 then some (.iadd, 797, 0, 0, 0, 0, 0) else none
  else bif Nat.beq pc 797 then some (.iaload, 798, 0, 0, 0, 0, 0) else none
  else bif Nat.blt pc 809 then bif Nat.blt pc 804 then bif Nat.blt pc 799 then bif Nat.beq pc 798 then some (.aload_n 3, 799, 3, 0, 0, 0, 0) else none
  else bif Nat.blt pc 802 then bif Nat.beq pc 799 then some (.invokestatic 141, 802, 210, 3, 99, 0, 0) else none
  else bif Nat.beq pc 802 then some (.istore 5, 804, 5, 0, 0, 0, 0) else none
  else bif Nat.blt pc 806 then bif Nat.blt pc 805 then bif Nat.beq pc 804 then some (.aload_n 2, 805, 2, 0, 0, 0, 0) else none
  else bif Nat.beq pc 805 then some (.aload_n 0, 806, 0, 0, 0, 0, 0) else none
  else bif Nat.blt pc 808 then bif Nat.beq pc 806 then some (.iload 4, 808, 4, 0, 0, 0, 0) else none
  else bif Nat.beq pc 808 then some (.iconst 1, 809, 0, 0, 0, 1, 0) else none
  else bif Nat.blt pc 814 then bif Nat.blt pc 810 then bif Nat.beq pc 809 then some (.iadd, 810, 0, 0, 0, 0, 0) else none
  else bif Nat.blt pc 811 then bif Nat.beq pc 810 then some (.iaload, 811, 0, 0, 0, 0, 0) else none
  else bif Nat.beq pc 811 then some (.invokevirtual 143, 814, 185, 2, 8, 0, 0) else none
  else bif Nat.blt pc 817 then bif Nat.blt pc 816 then bif Nat.beq pc 814 then some (.istore 6, 816, 6, 0, 0, 0, 0) else none
  else bif Nat.beq pc 816 then some (.aload_n 2, 817, 2, 0, 0, 0, 0) else none
  else bif Nat.blt pc 820 then bif Nat.beq pc 817 then some (.invokevirtual 90, 820, 109, 1, 8, 0, 0) else none
  else bif Nat.beq pc 820 then some (.iload 5, 822, 5, 0, 0, 0, 0) else none
  else bif Nat.blt pc 1169 then bif Nat.blt pc 989 then bif Nat.blt pc 905 then bif Nat.blt pc 861 then bif Nat.blt pc 843 then bif Nat.blt pc 833 then bif Nat.blt pc 827 then bif Nat.blt pc 825 then bif Nat.beq pc 822 then some (.if_icmp .eq 5, 825, 827, 0, 0, 0, 0) else none
  else bif Nat.blt pc 826 then bif Nat.beq pc 825 then some (.iconst 0, 826, 0, 0, 0, 0, 0) else none
  else bif Nat.beq pc 826 then some (.ireturn, 827, 0, 0, 0, 0, 0) else none
  else bif Nat.blt pc 829 then bif Nat.beq pc 827 then some (.iload 5, 829, 5, 0, 0, 0, 0) else none
  else bif Nat.blt pc 832 then bif Nat.beq pc 829 then some (.ifCond .ne 15, 832, 844, 0, 0, 0, 0) else none
  else bif Nat.beq pc 832 then some (.aload_n 3, 833, 3, 0, 0, 0, 0) else none
  else bif Nat.blt pc 837 then bif Nat.blt pc 834 then bif Nat.beq pc 833 then some (.iconst 0, 834, 0, 0, 0, 0, 0) else none
  else bif Nat.blt pc 835 then bif Nat.beq pc 834 then some (.laload, 835, 0, 0, 0, 0, 0) else none
  else bif Nat.beq pc 835 then some (.iload 6, 837, 6, 0, 0, 0, 0) else none
  else bif Nat.blt pc 839 then bif Nat.blt pc 838 then bif Nat.beq pc 837 then some (.i2l, 838, 0, 0, 0, 0, 0) else none
  else bif Nat.beq pc 838 then some (.lcmp, 839, 0, 0, 0, 0, 0) else none
  else bif Nat.blt pc 842 then bif Nat.beq pc 839 then some (.ifCond .eq 5, 842, 844, 0, 0, 0, 0) else none
  else bif Nat.beq pc 842 then some (.iconst 0, 843, 0, 0, 0, 0, 0) else none
  else bif Nat.blt pc 853 then bif Nat.blt pc 848 then bif Nat.blt pc 844 then bif Nat.beq pc 843 then some (.ireturn, 844, 0, 0, 0, 0, 0) else none
  else bif Nat.blt pc 847 then bif Nat.beq pc 844 then some (.goto 665, 847, 1509, 0, 0, 0, 0) else none
  else bif Nat.beq pc 847 then some (.aload_n 1, 848, 1, 0, 0, 0, 0) else none
  else bif Nat.blt pc 851 then bif Nat.blt pc 849 then bif Nat.beq pc 848 then some (.aload_n 0, 849, 0, 0, 0, 0, 0) else none
  else bif Nat.beq pc 849 then some (.iload 4, 851, 4, 0, 0, 0, 0) else none
  else bif Nat.blt pc 852 then bif Nat.beq pc 851 then some (.iconst 1, 852, 0, 0, 0, 1, 0) else none
  else bif Nat.beq pc 852 then some (.iadd, 853, 0, 0, 0, 0, 0) else none
  else bif Nat.blt pc 857 then bif Nat.blt pc 854 then bif Nat.beq pc 853 then some (.iaload, 854, 0, 0, 0, 0, 0) else none
  else bif Nat.blt pc 855 then bif Nat.beq pc 854 then some (.aload_n 0, 855, 0, 0, 0, 0, 0) else none
  else bif Nat.beq pc 855 then some (.iload 4, 857, 4, 0, 0, 0, 0) else none
  else bif Nat.blt pc 859 then bif Nat.blt pc 858 then bif Nat.beq pc 857 then some (.iconst 2, 858, 0, 0, 0, 2, 0) else none
  else bif Nat.beq pc 858 then some (.iadd, 859, 0, 0, 0, 0, 0) else none
  else bif Nat.blt pc 860 then bif Nat.beq pc 859 then some (.iaload, 860, 0, 0, 0, 0, 0) else none
  else bif Nat.beq pc 860 then some (.aload_n 3, 861, 3, 0, 0, 0, 0) else none
  else bif Nat.blt pc 879 then bif Nat.blt pc 871 then bif Nat.blt pc 867 then bif Nat.blt pc 864 then bif Nat.beq pc 861 then some (.invokestatic 144, 864, 211, 4, 99, 0, 0) else none
  else bif Nat.blt pc 866 then bif Nat.beq pc 864 then some (.istore 5, 866, 5, 0, 0, 0, 0) else none
  else bif Nat.beq pc 866 then some (.aload_n 2, 867, 2, 0, 0, 0, 0) else none
  else bif Nat.blt pc 868 then bif Nat.beq pc 867 then some (.aload_n 0, 868, 0, 0, 0, 0, 0) else none
  else bif Nat.blt pc 870 then bif Nat.beq pc 868 then some (.iload 4, 870, 4, 0, 0, 0, 0) else none
  else bif Nat.beq pc 870 then some (.iconst 1, 871, 0, 0, 0, 1, 0) else none
  else bif Nat.blt pc 874 then bif Nat.blt pc 872 then bif Nat.beq pc 871 then some (.iadd, 872, 0, 0, 0, 0, 0) else none
  else bif Nat.blt pc 873 then bif Nat.beq pc 872 then some (.iaload, 873, 0, 0, 0, 0, 0) else none
  else bif Nat.beq pc 873 then some (.aload_n 0, 874, 0, 0, 0, 0, 0) else none
  else bif Nat.blt pc 877 then bif Nat.blt pc 876 then bif Nat.beq pc 874 then some (.iload 4, 876, 4, 0, 0, 0, 0) else none
  else bif Nat.beq pc 876 then some (.iconst 2, 877, 0, 0, 0, 2, 0) else none
  else bif Nat.blt pc 878 then bif Nat.beq pc 877 then some (.iadd, 878, 0, 0, 0, 0, 0) else none
  else bif Nat.beq pc 878 then some (.iaload, 879, 0, 0, 0, 0, 0) else none
  else bif Nat.blt pc 894 then bif Nat.blt pc 885 then bif Nat.blt pc 882 then bif Nat.beq pc 879 then some (.invokevirtual 146, 882, 186, 3, 8, 0, 0) else none
  else bif Nat.blt pc 884 then bif Nat.beq pc 882 then some (.istore 6, 884, 6, 0, 0, 0, 0) else none
  else bif Nat.beq pc 884 then some (.aload_n 2, 885, 2, 0, 0, 0, 0) else none
  else bif Nat.blt pc 890 then bif Nat.blt pc 888 then bif Nat.beq pc 885 then some (.invokevirtual 90, 888, 109, 1, 8, 0, 0) else none
  else bif Nat.beq pc 888 then some (.iload 5, 890, 5, 0, 0, 0, 0) else none
  else bif Nat.blt pc 893 then bif Nat.beq pc 890 then some (.if_icmp .eq 5, 893, 895, 0, 0, 0, 0) else none
  else bif Nat.beq pc 893 then some (.iconst 0, 894, 0, 0, 0, 0, 0) else none
  else bif Nat.blt pc 900 then bif Nat.blt pc 895 then bif Nat.beq pc 894 then some (.ireturn, 895, 0, 0, 0, 0, 0) else none
  else bif Nat.blt pc 897 then bif Nat.beq pc 895 then some (.iload 5, 897, 5, 0, 0, 0, 0) else none
  else bif Nat.beq pc 897 then some (.ifCond .ne 15, 900, 912, 0, 0, 0, 0) else none
  else bif Nat.blt pc 902 then bif Nat.blt pc 901 then bif Nat.beq pc 900 then some (.aload_n 3, 901, 3, 0, 0, 0, 0) else none
  else bif Nat.beq pc 901 then some (.iconst 0, 902, 0, 0, 0, 0, 0) else none
  else bif Nat.blt pc 903 then bif Nat.beq pc 902 then some (.laload, 903, 0, 0, 0, 0, 0) else none
  else bif Nat.beq pc 903 then some (.iload 6, 905, 6, 0, 0, 0, 0) else none
  else bif Nat.blt pc 949 then bif Nat.blt pc 923 then bif Nat.blt pc 915 then bif Nat.blt pc 910 then bif Nat.blt pc 906 then bif Nat.beq pc 905 then some (.i2l, 906, 0, 0, 0, 0, 0) else none
  else bif Nat.blt pc 907 then bif Nat.beq pc 906 then some (.lcmp, 907, 0, 0, 0, 0, 0) else none
  else bif Nat.beq pc 907 then some (.ifCond .eq 5, 910, 912, 0, 0, 0, 0) else none
  else bif Nat.blt pc 911 then bif Nat.beq pc 910 then some (.iconst 0, 911, 0, 0, 0, 0, 0) else none
  else bif Nat.blt pc 912 then bif Nat.beq pc 911 then some (.ireturn, 912, 0, 0, 0, 0, 0) else none
  else bif Nat.beq pc 912 then some (.goto 597, 915, 1509, 0, 0, 0, 0) else none
  else bif Nat.blt pc 919 then bif Nat.blt pc 916 then bif Nat.beq pc 915 then some (.aload_n 1, 916, 1, 0, 0, 0, 0) else none
  else bif Nat.blt pc 917 then bif Nat.beq pc 916 then some (.aload_n 0, 917, 0, 0, 0, 0, 0) else none
  else bif Nat.beq pc 917 then some (.iload 4, 919, 4, 0, 0, 0, 0) else none
  else bif Nat.blt pc 921 then bif Nat.blt pc 920 then bif Nat.beq pc 919 then some (.iconst 1, 920, 0, 0, 0, 1, 0) else none
  else bif Nat.beq pc 920 then some (.iadd, 921, 0, 0, 0, 0, 0) else none
  else bif Nat.blt pc 922 then bif Nat.beq pc 921 then some (.iaload, 922, 0, 0, 0, 0, 0) else none
  else bif Nat.beq pc 922 then some (.aload_n 3, 923, 3, 0, 0, 0, 0) else none
  else bif Nat.blt pc 934 then bif Nat.blt pc 929 then bif Nat.blt pc 926 then bif Nat.beq pc 923 then some (.invokestatic 147, 926, 212, 3, 99, 0, 0) else none
  else bif Nat.blt pc 928 then bif Nat.beq pc 926 then some (.istore 5, 928, 5, 0, 0, 0, 0) else none
  else bif Nat.beq pc 928 then some (.aload_n 2, 929, 2, 0, 0, 0, 0) else none
  else bif Nat.blt pc 932 then bif Nat.blt pc 930 then bif Nat.beq pc 929 then some (.aload_n 0, 930, 0, 0, 0, 0, 0) else none
  else bif Nat.beq pc 930 then some (.iload 4, 932, 4, 0, 0, 0, 0) else none
  else bif Nat.blt pc 933 then bif Nat.beq pc 932 then some (.iconst 1, 933, 0, 0, 0, 1, 0) else none
  else bif Nat.beq pc 933 then some (.iadd, 934, 0, 0, 0, 0, 0) else none
  else bif Nat.blt pc 940 then bif Nat.blt pc 935 then bif Nat.beq pc 934 then some (.iaload, 935, 0, 0, 0, 0, 0) else none
  else bif Nat.blt pc 938 then bif Nat.beq pc 935 then some (.invokevirtual 149, 938, 187, 2, 8, 0, 0) else none
  else bif Nat.beq pc 938 then some (.istore 6, 940, 6, 0, 0, 0, 0) else none
  else bif Nat.blt pc 944 then bif Nat.blt pc 941 then bif Nat.beq pc 940 then some (.aload_n 2, 941, 2, 0, 0, 0, 0) else none
  else bif Nat.beq pc 941 then some (.invokevirtual 90, 944, 109, 1, 8, 0, 0) else none
  else bif Nat.blt pc 946 then bif Nat.beq pc 944 then some (.iload 5, 946, 5, 0, 0, 0, 0) else none
  else bif Nat.beq pc 946 then some (.if_icmp .eq 5, 949, 951, 0, 0, 0, 0) else none
  else bif Nat.blt pc 968 then bif Nat.blt pc 958 then bif Nat.blt pc 953 then bif Nat.blt pc 950 then bif Nat.beq pc 949 then some (.iconst 0, 950, 0, 0, 0, 0, 0) else none
  else bif Nat.blt pc 951 then bif Nat.beq pc 950 then some (.ireturn, 951, 0, 0, 0, 0, 0) else none
  else bif Nat.beq pc 951 then some (.iload 5, 953, 5, 0, 0, 0, 0) else none
  else bif Nat.blt pc 956 then bif Nat.beq pc 953 then some (.ifCond .ne 15, 956, 968, 0, 0, 0, 0) else none
  else bif Nat.blt pc 957 then bif Nat.beq pc 956 then some (.aload_n 3, 957, 3, 0, 0, 0, 0) else none
  else bif Nat.beq pc 957 then some (.iconst 0, 958, 0, 0, 0, 0, 0) else none
  else bif Nat.blt pc 962 then bif Nat.blt pc 959 then bif Nat.beq pc 958 then some (.laload, 959, 0, 0, 0, 0, 0) else none
  else bif Nat.blt pc 961 then bif Nat.beq pc 959 then some (.iload 6, 961, 6, 0, 0, 0, 0) else none
  else bif Nat.beq pc 961 then some (.i2l, 962, 0, 0, 0, 0, 0) else none
  else bif Nat.blt pc 966 then bif Nat.blt pc 963 then bif Nat.beq pc 962 then some (.lcmp, 963, 0, 0, 0, 0, 0) else none
  else bif Nat.beq pc 963 then some (.ifCond .eq 5, 966, 968, 0, 0, 0, 0) else none
  else bif Nat.blt pc 967 then bif Nat.beq pc 966 then some (.iconst 0, 967, 0, 0, 0, 0, 0) else none
  else bif Nat.beq pc 967 then some (.ireturn, 968, 0, 0, 0, 0, 0) else none
  else bif Nat.blt pc 978 then bif Nat.blt pc 973 then bif Nat.blt pc 971 then bif Nat.beq pc 968 then some (.goto 541, 971, 1509, 0, 0, 0, 0) else none
  else bif Nat.blt pc 972 then bif Nat.beq pc 971 then some (.aload_n 1, 972, 1, 0, 0, 0, 0) else none
  else bif Nat.beq pc 972 then some (.aload_n 0, 973, 0, 0, 0, 0, 0) else none
  else bif Nat.blt pc 976 then bif Nat.blt pc 975 then bif Nat.beq pc 973 then some (.iload 4, 975, 4, 0, 0, 0, 0) else none
  else bif Nat.beq pc 975 then some (.iconst 1, 976, 0, 0, 0, 1, 0) else none
  else bif Nat.blt pc 977 then bif Nat.beq pc 976 then some (.iadd, 977, 0, 0, 0, 0, 0) else none
  else bif Nat.beq pc 977 then some (.iaload, 978, 0, 0, 0, 0, 0) else none
  else bif Nat.blt pc 984 then bif Nat.blt pc 979 then bif Nat.beq pc 978 then some (.aload_n 3, 979, 3, 0, 0, 0, 0) else none
  else bif Nat.blt pc 982 then bif Nat.beq pc 979 then some (.invokestatic 150, 982, 213, 3, 99, 0, 0) else none
  else bif Nat.beq pc 982 then some (.istore 5, 984, 5, 0, 0, 0, 0) else none
  else bif Nat.blt pc 986 then bif Nat.blt pc 985 then bif Nat.beq pc 984 then some (.aload_n 2, 985, 2, 0, 0, 0, 0) else none
  else bif Nat.beq pc 985 then some (.aload_n 0, 986, 0, 0, 0, 0, 0) else none
  else bif Nat.blt pc 988 then bif Nat.beq pc 986 then some (.iload 4, 988, 4, 0, 0, 0, 0) else none
  else bif Nat.beq pc 988 then some (.iconst 1, 989, 0, 0, 0, 1, 0) else none
  else bif Nat.blt pc 1079 then bif Nat.blt pc 1038 then bif Nat.blt pc 1013 then bif Nat.blt pc 1000 then bif Nat.blt pc 994 then bif Nat.blt pc 990 then bif Nat.beq pc 989 then some (.iadd, 990, 0, 0, 0, 0, 0) else none
  else bif Nat.blt pc 991 then bif Nat.beq pc 990 then some (.iaload, 991, 0, 0, 0, 0, 0) else none
  else bif Nat.beq pc 991 then some (.invokevirtual 152, 994, 188, 2, 8, 0, 0) else none
  else bif Nat.blt pc 996 then bif Nat.beq pc 994 then some (.istore 6, 996, 6, 0, 0, 0, 0) else none
  else bif Nat.blt pc 997 then bif Nat.beq pc 996 then some (.aload_n 2, 997, 2, 0, 0, 0, 0) else none
  else bif Nat.beq pc 997 then some (.invokevirtual 90, 1000, 109, 1, 8, 0, 0) else none
  else bif Nat.blt pc 1006 then bif Nat.blt pc 1002 then bif Nat.beq pc 1000 then some (.iload 5, 1002, 5, 0, 0, 0, 0) else none
  else bif Nat.blt pc 1005 then bif Nat.beq pc 1002 then some (.if_icmp .eq 5, 1005, 1007, 0, 0, 0, 0) else none
  else bif Nat.beq pc 1005 then some (.iconst 0, 1006, 0, 0, 0, 0, 0) else none
  else bif Nat.blt pc 1009 then bif Nat.blt pc 1007 then bif Nat.beq pc 1006 then some (.ireturn, 1007, 0, 0, 0, 0, 0) else none
  else bif Nat.beq pc 1007 then some (.iload 5, 1009, 5, 0, 0, 0, 0) else none
  else bif Nat.blt pc 1012 then bif Nat.beq pc 1009 then some (.ifCond .ne 15, 1012, 1024, 0, 0, 0, 0) else none
  else bif Nat.beq pc 1012 then some (.aload_n 3, 1013, 3, 0, 0, 0, 0) else none
  else bif Nat.blt pc 1023 then bif Nat.blt pc 1017 then bif Nat.blt pc 1014 then bif Nat.beq pc 1013 then some (.iconst 0, 1014, 0, 0, 0, 0, 0) else none
  else bif Nat.blt pc 1015 then bif Nat.beq pc 1014 then some (.laload, 1015, 0, 0, 0, 0, 0) else none
  else bif Nat.beq pc 1015 then some (.iload 6, 1017, 6, 0, 0, 0, 0) else none
  else bif Nat.blt pc 1019 then bif Nat.blt pc 1018 then bif Nat.beq pc 1017 then some (.i2l, 1018, 0, 0, 0, 0, 0) else none
  else bif Nat.beq pc 1018 then some (.lcmp, 1019, 0, 0, 0, 0, 0) else none
  else bif Nat.blt pc 1022 then bif Nat.beq pc 1019 then some (.ifCond .eq 5, 1022, 1024, 0, 0, 0, 0) else none
  else bif Nat.beq pc 1022 then some (.iconst 0, 1023, 0, 0, 0, 0, 0) else none
  else bif Nat.blt pc 1028 then bif Nat.blt pc 1024 then bif Nat.beq pc 1023 then some (.ireturn, 1024, 0, 0, 0, 0, 0) else none
  else bif Nat.blt pc 1027 then bif Nat.beq pc 1024 then some (.goto 485, 1027, 1509, 0, 0, 0, 0) else none
  else bif Nat.beq pc 1027 then some (.aload_n 1, 1028, 1, 0, 0, 0, 0) else none
  else bif Nat.blt pc 1032 then bif Nat.blt pc 1031 then bif Nat.beq pc 1028 then some (.invokevirtual 153, 1031, 88, 1, 7, 0, 0) else none
  else bif Nat.beq pc 1031 then some (.aload_n 2, 1032, 2, 0, 0, 0, 0) else none
  else bif Nat.blt pc 1035 then bif Nat.beq pc 1032 then some (.invokevirtual 156, 1035, 189, 1, 8, 0, 0) else none
  else bif Nat.beq pc 1035 then some (.if_icmp .eq 474, 1038, 1509, 0, 0, 0, 0) else none
  else bif Nat.blt pc 1058 then bif Nat.blt pc 1048 then bif Nat.blt pc 1041 then bif Nat.blt pc 1039 then bif Nat.beq pc 1038 then some (.iconst 0, 1039, 0, 0, 0, 0, 0) else none
  else bif Nat.blt pc 1040 then bif Nat.beq pc 1039 then some (.ireturn, 1040, 0, 0, 0, 0, 0) else none
  else bif Nat.beq pc 1040 then some (.aload_n 1, 1041, 1, 0, 0, 0, 0) else none
  else bif Nat.blt pc 1044 then bif Nat.beq pc 1041 then some (.invokevirtual 157, 1044, 89, 1, 7, 0, 0) else none
  else bif Nat.blt pc 1045 then bif Nat.beq pc 1044 then some (.aload_n 2, 1045, 2, 0, 0, 0, 0) else none
  else bif Nat.beq pc 1045 then some (.invokevirtual 160, 1048, 191, 1, 8, 0, 0) else none
  else bif Nat.blt pc 1053 then bif Nat.blt pc 1051 then bif Nat.beq pc 1048 then some (.if_icmp .eq 461, 1051, 1509, 0, 0, 0, 0) else none
  else bif Nat.blt pc 1052 then bif Nat.beq pc 1051 then some (.iconst 0, 1052, 0, 0, 0, 0, 0) else none
  else bif Nat.beq pc 1052 then some (.ireturn, 1053, 0, 0, 0, 0, 0) else none
  else bif Nat.blt pc 1055 then bif Nat.blt pc 1054 then bif Nat.beq pc 1053 then some (.aload_n 1, 1054, 1, 0, 0, 0, 0) else none
  else bif Nat.beq pc 1054 then some (.aload_n 0, 1055, 0, 0, 0, 0, 0) else none
  else bif Nat.blt pc 1057 then bif Nat.beq pc 1055 then some (.iload 4, 1057, 4, 0, 0, 0, 0) else none
  else bif Nat.beq pc 1057 then some (.iconst 1, 1058, 0, 0, 0, 1, 0) else none
  else bif Nat.blt pc 1068 then bif Nat.blt pc 1061 then bif Nat.blt pc 1059 then bif Nat.beq pc 1058 then some (.iadd, 1059, 0, 0, 0, 0, 0) else none
  else bif Nat.blt pc 1060 then bif Nat.beq pc 1059 then some (.iaload, 1060, 0, 0, 0, 0, 0) else none
  else bif Nat.beq pc 1060 then some (.aload_n 3, 1061, 3, 0, 0, 0, 0) else none
  else bif Nat.blt pc 1066 then bif Nat.blt pc 1064 then bif Nat.beq pc 1061 then some (.invokestatic 161, 1064, 214, 3, 99, 0, 0) else none
  else bif Nat.beq pc 1064 then some (.istore 5, 1066, 5, 0, 0, 0, 0) else none
  else bif Nat.blt pc 1067 then bif Nat.beq pc 1066 then some (.aload_n 2, 1067, 2, 0, 0, 0, 0) else none
  else bif Nat.beq pc 1067 then some (.aload_n 0, 1068, 0, 0, 0, 0, 0) else none
  else bif Nat.blt pc 1072 then bif Nat.blt pc 1070 then bif Nat.beq pc 1068 then some (.iload 4, 1070, 4, 0, 0, 0, 0) else none
  else bif Nat.blt pc 1071 then bif Nat.beq pc 1070 then some (.iconst 1, 1071, 0, 0, 0, 1, 0) else none
  else bif Nat.beq pc 1071 then some (.iadd, 1072, 0, 0, 0, 0, 0) else none
  else bif Nat.blt pc 1076 then bif Nat.blt pc 1073 then bif Nat.beq pc 1072 then some (.iaload, 1073, 0, 0, 0, 0, 0) else none
  else bif Nat.beq pc 1073 then some (.invokevirtual 163, 1076, 192, 2, 8, 0, 0) else none
  else bif Nat.blt pc 1078 then bif Nat.beq pc 1076 then some (.istore 6, 1078, 6, 0, 0, 0, 0) else none
  else bif Nat.beq pc 1078 then some (.aload_n 2, 1079, 2, 0, 0, 0, 0) else none
  else bif Nat.blt pc 1123 then bif Nat.blt pc 1101 then bif Nat.blt pc 1091 then bif Nat.blt pc 1087 then bif Nat.blt pc 1082 then bif Nat.beq pc 1079 then some (.invokevirtual 90, 1082, 109, 1, 8, 0, 0) else none
  else bif Nat.blt pc 1084 then bif Nat.beq pc 1082 then some (.iload 5, 1084, 5, 0, 0, 0, 0) else none
  else bif Nat.beq pc 1084 then some (.if_icmp .eq 5, 1087, 1089, 0, 0, 0, 0) else none
  else bif Nat.blt pc 1088 then bif Nat.beq pc 1087 then some (.iconst 0, 1088, 0, 0, 0, 0, 0) else none
  else bif Nat.blt pc 1089 then bif Nat.beq pc 1088 then some (.ireturn, 1089, 0, 0, 0, 0, 0) else none
  else bif Nat.beq pc 1089 then some (.iload 5, 1091, 5, 0, 0, 0, 0) else none
  else bif Nat.blt pc 1096 then bif Nat.blt pc 1094 then bif Nat.beq pc 1091 then some (.ifCond .ne 15, 1094, 1106, 0, 0, 0, 0) else none
  else bif Nat.blt pc 1095 then bif Nat.beq pc 1094 then some (.aload_n 3, 1095, 3, 0, 0, 0, 0) else none
  else bif Nat.beq pc 1095 then some (.iconst 0, 1096, 0, 0, 0, 0, 0) else none
  else bif Nat.blt pc 1099 then bif Nat.blt pc 1097 then bif Nat.beq pc 1096 then some (.laload, 1097, 0, 0, 0, 0, 0) else none
  else bif Nat.beq pc 1097 then some (.iload 6, 1099, 6, 0, 0, 0, 0) else none
  else bif Nat.blt pc 1100 then bif Nat.beq pc 1099 then some (.i2l, 1100, 0, 0, 0, 0, 0) else none
  else bif Nat.beq pc 1100 then some (.lcmp, 1101, 0, 0, 0, 0, 0) else none
  else bif Nat.blt pc 1113 then bif Nat.blt pc 1106 then bif Nat.blt pc 1104 then bif Nat.beq pc 1101 then some (.ifCond .eq 5, 1104, 1106, 0, 0, 0, 0) else none
  else bif Nat.blt pc 1105 then bif Nat.beq pc 1104 then some (.iconst 0, 1105, 0, 0, 0, 0, 0) else none
  else bif Nat.beq pc 1105 then some (.ireturn, 1106, 0, 0, 0, 0, 0) else none
  else bif Nat.blt pc 1110 then bif Nat.blt pc 1109 then bif Nat.beq pc 1106 then some (.goto 403, 1109, 1509, 0, 0, 0, 0) else none
  else bif Nat.beq pc 1109 then some (.aload_n 1, 1110, 1, 0, 0, 0, 0) else none
  else bif Nat.blt pc 1111 then bif Nat.beq pc 1110 then some (.aload_n 0, 1111, 0, 0, 0, 0, 0) else none
  else bif Nat.beq pc 1111 then some (.iload 4, 1113, 4, 0, 0, 0, 0) else none
  else bif Nat.blt pc 1116 then bif Nat.blt pc 1114 then bif Nat.beq pc 1113 then some (.iconst 1, 1114, 0, 0, 0, 1, 0) else none
  else bif Nat.blt pc 1115 then bif Nat.beq pc 1114 then some (.iadd, 1115, 0, 0, 0, 0, 0) else none
  else bif Nat.beq pc 1115 then some (.iaload, 1116, 0, 0, 0, 0, 0) else none
  else bif Nat.blt pc 1120 then bif Nat.blt pc 1117 then bif Nat.beq pc 1116 then some (.aload_n 3, 1117, 3, 0, 0, 0, 0) else none
  else bif Nat.beq pc 1117 then some (.invokestatic 164, 1120, 215, 3, 99, 0, 0) else none
  else bif Nat.blt pc 1122 then bif Nat.beq pc 1120 then some (.istore 5, 1122, 5, 0, 0, 0, 0) else none
  else bif Nat.beq pc 1122 then some (.aload_n 2, 1123, 2, 0, 0, 0, 0) else none
  else bif Nat.blt pc 1147 then bif Nat.blt pc 1134 then bif Nat.blt pc 1127 then bif Nat.blt pc 1124 then bif Nat.beq pc 1123 then some (.aload_n 0, 1124, 0, 0, 0, 0, 0) else none
  else bif Nat.blt pc 1126 then bif Nat.beq pc 1124 then some (.iload 4, 1126, 4, 0, 0, 0, 0) else none
  else bif Nat.beq pc 1126 then some (.iconst 1, 1127, 0, 0, 0, 1, 0) else none
  else bif Nat.blt pc 1129 then bif Nat.blt pc 1128 then bif Nat.beq pc 1127 then some (.iadd, 1128, 0, 0, 0, 0, 0) else none
  else bif Nat.beq pc 1128 then some (.iaload, 1129, 0, 0, 0, 0, 0) else none
  else bif Nat.blt pc 1132 then bif Nat.beq pc 1129 then some (.invokevirtual 166, 1132, 193, 2, 8, 0, 0) else none
  else bif Nat.beq pc 1132 then some (.istore 6, 1134, 6, 0, 0, 0, 0) else none
  else bif Nat.blt pc 1140 then bif Nat.blt pc 1135 then bif Nat.beq pc 1134 then some (.aload_n 2, 1135, 2, 0, 0, 0, 0) else none
  else bif Nat.blt pc 1138 then bif Nat.beq pc 1135 then some (.invokevirtual 90, 1138, 109, 1, 8, 0, 0) else none
  else bif Nat.beq pc 1138 then some (.iload 5, 1140, 5, 0, 0, 0, 0) else none
  else bif Nat.blt pc 1144 then bif Nat.blt pc 1143 then bif Nat.beq pc 1140 then some (.if_icmp .eq 5, 1143, 1145, 0, 0, 0, 0) else none
  else bif Nat.beq pc 1143 then some (.iconst 0, 1144, 0, 0, 0, 0, 0) else none
  else bif Nat.blt pc 1145 then bif Nat.beq pc 1144 then some (.ireturn, 1145, 0, 0, 0, 0, 0) else none
  else bif Nat.beq pc 1145 then some (.iload 5, 1147, 5, 0, 0, 0, 0) else none
  else bif Nat.blt pc 1157 then bif Nat.blt pc 1152 then bif Nat.blt pc 1150 then bif Nat.beq pc 1147 then some (.ifCond .ne 15, 1150, 1162, 0, 0, 0, 0) else none
  else bif Nat.blt pc 1151 then bif Nat.beq pc 1150 then some (.aload_n 3, 1151, 3, 0, 0, 0, 0) else none
  else bif Nat.beq pc 1151 then some (.iconst 0, 1152, 0, 0, 0, 0, 0) else none
  else bif Nat.blt pc 1155 then bif Nat.blt pc 1153 then bif Nat.beq pc 1152 then some (.laload, 1153, 0, 0, 0, 0, 0) else none
  else bif Nat.beq pc 1153 then some (.iload 6, 1155, 6, 0, 0, 0, 0) else none
  else bif Nat.blt pc 1156 then bif Nat.beq pc 1155 then some (.i2l, 1156, 0, 0, 0, 0, 0) else none
  else bif Nat.beq pc 1156 then some (.lcmp, 1157, 0, 0, 0, 0, 0) else none
  else bif Nat.blt pc 1162 then bif Nat.blt pc 1160 then bif Nat.beq pc 1157 then some (.ifCond .eq 5, 1160, 1162, 0, 0, 0, 0) else none
  else bif Nat.blt pc 1161 then bif Nat.beq pc 1160 then some (.iconst 0, 1161, 0, 0, 0, 0, 0) else none
  else bif Nat.beq pc 1161 then some (.ireturn, 1162, 0, 0, 0, 0, 0) else none
  else bif Nat.blt pc 1166 then bif Nat.blt pc 1165 then bif Nat.beq pc 1162 then some (.goto 347, 1165, 1509, 0, 0, 0, 0) else none
  else bif Nat.beq pc 1165 then some (.aload_n 1, 1166, 1, 0, 0, 0, 0) else none
  else bif Nat.blt pc 1167 then bif Nat.beq pc 1166 then some (.aload_n 0, 1167, 0, 0, 0, 0, 0) else none
  else bif Nat.beq pc 1167 then some (.iload 4, 1169, 4, 0, 0, 0, 0) else none
  else bif Nat.blt pc 1336 then bif Nat.blt pc 1250 then bif Nat.blt pc 1212 then bif Nat.blt pc 1188 then bif Nat.blt pc 1178 then bif Nat.blt pc 1172 then bif Nat.blt pc 1170 then bif Nat.beq pc 1169 then some (.iconst 1, 1170, 0, 0, 0, 1, 0) else none
  else bif Nat.blt pc 1171 then bif Nat.beq pc 1170 then some (.iadd, 1171, 0, 0, 0, 0, 0) else none
  else bif Nat.beq pc 1171 then some (.iaload, 1172, 0, 0, 0, 0, 0) else none
  else bif Nat.blt pc 1173 then bif Nat.beq pc 1172 then some (.aload_n 3, 1173, 3, 0, 0, 0, 0) else none
  else bif Nat.blt pc 1176 then bif Nat.beq pc 1173 then some (.invokestatic 167, 1176, 216, 3, 99, 0, 0) else none
  else bif Nat.beq pc 1176 then some (.istore 5, 1178, 5, 0, 0, 0, 0) else none
  else bif Nat.blt pc 1182 then bif Nat.blt pc 1179 then bif Nat.beq pc 1178 then some (.aload_n 2, 1179, 2, 0, 0, 0, 0) else none
  else bif Nat.blt pc 1180 then bif Nat.beq pc 1179 then some (.aload_n 0, 1180, 0, 0, 0, 0, 0) else none
  else bif Nat.beq pc 1180 then some (.iload 4, 1182, 4, 0, 0, 0, 0) else none
  else bif Nat.blt pc 1184 then bif Nat.blt pc 1183 then bif Nat.beq pc 1182 then some (.iconst 1, 1183, 0, 0, 0, 1, 0) else none
  else bif Nat.beq pc 1183 then some (.iadd, 1184, 0, 0, 0, 0, 0) else none
  else bif Nat.blt pc 1185 then bif Nat.beq pc 1184 then some (.iaload, 1185, 0, 0, 0, 0, 0) else none
  else bif Nat.beq pc 1185 then some (.invokevirtual 169, 1188, 195, 2, 8, 0, 0) else none
  else bif Nat.blt pc 1201 then bif Nat.blt pc 1194 then bif Nat.blt pc 1190 then bif Nat.beq pc 1188 then some (.istore 6, 1190, 6, 0, 0, 0, 0) else none
  else bif Nat.blt pc 1191 then bif Nat.beq pc 1190 then some (.aload_n 2, 1191, 2, 0, 0, 0, 0) else none
  else bif Nat.beq pc 1191 then some (.invokevirtual 90, 1194, 109, 1, 8, 0, 0) else none
  else bif Nat.blt pc 1199 then bif Nat.blt pc 1196 then bif Nat.beq pc 1194 then some (.iload 5, 1196, 5, 0, 0, 0, 0) else none
  else bif Nat.beq pc 1196 then some (.if_icmp .eq 5, 1199, 1201, 0, 0, 0, 0) else none
  else bif Nat.blt pc 1200 then bif Nat.beq pc 1199 then some (.iconst 0, 1200, 0, 0, 0, 0, 0) else none
  else bif Nat.beq pc 1200 then some (.ireturn, 1201, 0, 0, 0, 0, 0) else none
  else bif Nat.blt pc 1207 then bif Nat.blt pc 1203 then bif Nat.beq pc 1201 then some (.iload 5, 1203, 5, 0, 0, 0, 0) else none
  else bif Nat.blt pc 1206 then bif Nat.beq pc 1203 then some (.ifCond .ne 15, 1206, 1218, 0, 0, 0, 0) else none
  else bif Nat.beq pc 1206 then some (.aload_n 3, 1207, 3, 0, 0, 0, 0) else none
  else bif Nat.blt pc 1209 then bif Nat.blt pc 1208 then bif Nat.beq pc 1207 then some (.iconst 0, 1208, 0, 0, 0, 0, 0) else none
  else bif Nat.beq pc 1208 then some (.laload, 1209, 0, 0, 0, 0, 0) else none
  else bif Nat.blt pc 1211 then bif Nat.beq pc 1209 then some (.iload 6, 1211, 6, 0, 0, 0, 0) else none
  else bif Nat.beq pc 1211 then some (.i2l, 1212, 0, 0, 0, 0, 0) else none
  else bif Nat.blt pc 1231 then bif Nat.blt pc 1222 then bif Nat.blt pc 1217 then bif Nat.blt pc 1213 then bif Nat.beq pc 1212 then some (.lcmp, 1213, 0, 0, 0, 0, 0) else none
  else bif Nat.blt pc 1216 then bif Nat.beq pc 1213 then some (.ifCond .eq 5, 1216, 1218, 0, 0, 0, 0) else none
  else bif Nat.beq pc 1216 then some (.iconst 0, 1217, 0, 0, 0, 0, 0) else none
  else bif Nat.blt pc 1218 then bif Nat.beq pc 1217 then some (.ireturn, 1218, 0, 0, 0, 0, 0) else none
  else bif Nat.blt pc 1221 then bif Nat.beq pc 1218 then some (.goto 291, 1221, 1509, 0, 0, 0, 0) else none
  else bif Nat.beq pc 1221 then some (.aload_n 1, 1222, 1, 0, 0, 0, 0) else none
  else bif Nat.blt pc 1226 then bif Nat.blt pc 1223 then bif Nat.beq pc 1222 then some (.aload_n 0, 1223, 0, 0, 0, 0, 0) else none
  else bif Nat.blt pc 1225 then bif Nat.beq pc 1223 then some (.iload 4, 1225, 4, 0, 0, 0, 0) else none
  else bif Nat.beq pc 1225 then some (.iconst 1, 1226, 0, 0, 0, 1, 0) else none
  else bif Nat.blt pc 1228 then bif Nat.blt pc 1227 then bif Nat.beq pc 1226 then some (.iadd, 1227, 0, 0, 0, 0, 0) else none
  else bif Nat.beq pc 1227 then some (.iaload, 1228, 0, 0, 0, 0, 0) else none
  else bif Nat.blt pc 1229 then bif Nat.beq pc 1228 then some (.aload_n 0, 1229, 0, 0, 0, 0, 0) else none
  else bif Nat.beq pc 1229 then some (.iload 4, 1231, 4, 0, 0, 0, 0) else none
  else bif Nat.blt pc 1239 then bif Nat.blt pc 1234 then bif Nat.blt pc 1232 then bif Nat.beq pc 1231 then some (.iconst 2, 1232, 0, 0, 0, 2, 0) else none
  else bif Nat.blt pc 1233 then bif Nat.beq pc 1232 then some (.iadd, 1233, 0, 0, 0, 0, 0) else none
  else bif Nat.beq pc 1233 then some (.iaload, 1234, 0, 0, 0, 0, 0) else none
  else bif Nat.blt pc 1237 then bif Nat.blt pc 1235 then bif Nat.beq pc 1234 then some (.aload_n 0, 1235, 0, 0, 0, 0, 0) else none
  else bif Nat.beq pc 1235 then some (.iload 4, 1237, 4, 0, 0, 0, 0) else none
  else bif Nat.blt pc 1238 then bif Nat.beq pc 1237 then some (.iconst 3, 1238, 0, 0, 0, 3, 0) else none
  else bif Nat.beq pc 1238 then some (.iadd, 1239, 0, 0, 0, 0, 0) else none
  else bif Nat.blt pc 1244 then bif Nat.blt pc 1240 then bif Nat.beq pc 1239 then some (.iaload, 1240, 0, 0, 0, 0, 0) else none
  else bif Nat.blt pc 1241 then bif Nat.beq pc 1240 then some (.aload_n 3, 1241, 3, 0, 0, 0, 0) else none
  else bif Nat.beq pc 1241 then some (.invokestatic 170, 1244, 217, 5, 99, 0, 0) else none
  else bif Nat.blt pc 1247 then bif Nat.blt pc 1246 then bif Nat.beq pc 1244 then some (.istore 5, 1246, 5, 0, 0, 0, 0) else none
  else bif Nat.beq pc 1246 then some (.aload_n 2, 1247, 2, 0, 0, 0, 0) else none
  else bif Nat.blt pc 1248 then bif Nat.beq pc 1247 then some (.aload_n 0, 1248, 0, 0, 0, 0, 0) else none
  else bif Nat.beq pc 1248 then some (.iload 4, 1250, 4, 0, 0, 0, 0) else none
  else bif Nat.blt pc 1291 then bif Nat.blt pc 1265 then bif Nat.blt pc 1257 then bif Nat.blt pc 1253 then bif Nat.blt pc 1251 then bif Nat.beq pc 1250 then some (.iconst 1, 1251, 0, 0, 0, 1, 0) else none
  else bif Nat.blt pc 1252 then bif Nat.beq pc 1251 then some (.iadd, 1252, 0, 0, 0, 0, 0) else none
  else bif Nat.beq pc 1252 then some (.iaload, 1253, 0, 0, 0, 0, 0) else none
  else bif Nat.blt pc 1254 then bif Nat.beq pc 1253 then some (.aload_n 0, 1254, 0, 0, 0, 0, 0) else none
  else bif Nat.blt pc 1256 then bif Nat.beq pc 1254 then some (.iload 4, 1256, 4, 0, 0, 0, 0) else none
  else bif Nat.beq pc 1256 then some (.iconst 2, 1257, 0, 0, 0, 2, 0) else none
  else bif Nat.blt pc 1260 then bif Nat.blt pc 1258 then bif Nat.beq pc 1257 then some (.iadd, 1258, 0, 0, 0, 0, 0) else none
  else bif Nat.blt pc 1259 then bif Nat.beq pc 1258 then some (.iaload, 1259, 0, 0, 0, 0, 0) else none
  else bif Nat.beq pc 1259 then some (.aload_n 0, 1260, 0, 0, 0, 0, 0) else none
  else bif Nat.blt pc 1263 then bif Nat.blt pc 1262 then bif Nat.beq pc 1260 then some (.iload 4, 1262, 4, 0, 0, 0, 0) else none
  else bif Nat.beq pc 1262 then some (.iconst 3, 1263, 0, 0, 0, 3, 0) else none
  else bif Nat.blt pc 1264 then bif Nat.beq pc 1263 then some (.iadd, 1264, 0, 0, 0, 0, 0) else none
  else bif Nat.beq pc 1264 then some (.iaload, 1265, 0, 0, 0, 0, 0) else none
  else bif Nat.blt pc 1280 then bif Nat.blt pc 1271 then bif Nat.blt pc 1268 then bif Nat.beq pc 1265 then some (.invokevirtual 173, 1268, 196, 4, 8, 0, 0) else none
  else bif Nat.blt pc 1270 then bif Nat.beq pc 1268 then some (.istore 6, 1270, 6, 0, 0, 0, 0) else none
  else bif Nat.beq pc 1270 then some (.aload_n 2, 1271, 2, 0, 0, 0, 0) else none
  else bif Nat.blt pc 1276 then bif Nat.blt pc 1274 then bif Nat.beq pc 1271 then some (.invokevirtual 90, 1274, 109, 1, 8, 0, 0) else none
  else bif Nat.beq pc 1274 then some (.iload 5, 1276, 5, 0, 0, 0, 0) else none
  else bif Nat.blt pc 1279 then bif Nat.beq pc 1276 then some (.if_icmp .eq 5, 1279, 1281, 0, 0, 0, 0) else none
  else bif Nat.beq pc 1279 then some (.iconst 0, 1280, 0, 0, 0, 0, 0) else none
  else bif Nat.blt pc 1286 then bif Nat.blt pc 1281 then bif Nat.beq pc 1280 then some (.ireturn, 1281, 0, 0, 0, 0, 0) else none
  else bif Nat.blt pc 1283 then bif Nat.beq pc 1281 then some (.iload 5, 1283, 5, 0, 0, 0, 0) else none
  else bif Nat.beq pc 1283 then some (.ifCond .ne 15, 1286, 1298, 0, 0, 0, 0) else none
  else bif Nat.blt pc 1288 then bif Nat.blt pc 1287 then bif Nat.beq pc 1286 then some (.aload_n 3, 1287, 3, 0, 0, 0, 0) else none
  else bif Nat.beq pc 1287 then some (.iconst 0, 1288, 0, 0, 0, 0, 0) else none
  else bif Nat.blt pc 1289 then bif Nat.beq pc 1288 then some (.laload, 1289, 0, 0, 0, 0, 0) else none
  else bif Nat.beq pc 1289 then some (.iload 6, 1291, 6, 0, 0, 0, 0) else none
  else bif Nat.blt pc 1312 then bif Nat.blt pc 1302 then bif Nat.blt pc 1296 then bif Nat.blt pc 1292 then bif Nat.beq pc 1291 then some (.i2l, 1292, 0, 0, 0, 0, 0) else none
  else bif Nat.blt pc 1293 then bif Nat.beq pc 1292 then some (.lcmp, 1293, 0, 0, 0, 0, 0) else none
  else bif Nat.beq pc 1293 then some (.ifCond .eq 5, 1296, 1298, 0, 0, 0, 0) else none
  else bif Nat.blt pc 1298 then bif Nat.blt pc 1297 then bif Nat.beq pc 1296 then some (.iconst 0, 1297, 0, 0, 0, 0, 0) else none
  else bif Nat.beq pc 1297 then some (.ireturn, 1298, 0, 0, 0, 0, 0) else none
  else bif Nat.blt pc 1301 then bif Nat.beq pc 1298 then some (.goto 211, 1301, 1509, 0, 0, 0, 0) else none
  else bif Nat.beq pc 1301 then some (.aload_n 1, 1302, 1, 0, 0, 0, 0) else none
  else bif Nat.blt pc 1306 then bif Nat.blt pc 1303 then bif Nat.beq pc 1302 then some (.aload_n 0, 1303, 0, 0, 0, 0, 0) else none
  else bif Nat.blt pc 1305 then bif Nat.beq pc 1303 then some (.iload 4, 1305, 4, 0, 0, 0, 0) else none
  else bif Nat.beq pc 1305 then some (.iconst 1, 1306, 0, 0, 0, 1, 0) else none
  else bif Nat.blt pc 1308 then bif Nat.blt pc 1307 then bif Nat.beq pc 1306 then some (.iadd, 1307, 0, 0, 0, 0, 0) else none
  else bif Nat.beq pc 1307 then some (.iaload, 1308, 0, 0, 0, 0, 0) else none
  else bif Nat.blt pc 1309 then bif Nat.beq pc 1308 then some (.aload_n 3, 1309, 3, 0, 0, 0, 0) else none
  else bif Nat.beq pc 1309 then some (.invokestatic 174, 1312, 218, 3, 99, 0, 0) else none
  else bif Nat.blt pc 1321 then bif Nat.blt pc 1316 then bif Nat.blt pc 1314 then bif Nat.beq pc 1312 then some (.istore 5, 1314, 5, 0, 0, 0, 0) else none
  else bif Nat.blt pc 1315 then bif Nat.beq pc 1314 then some (.aload_n 2, 1315, 2, 0, 0, 0, 0) else none
  else bif Nat.beq pc 1315 then some (.aload_n 0, 1316, 0, 0, 0, 0, 0) else none
  else bif Nat.blt pc 1319 then bif Nat.blt pc 1318 then bif Nat.beq pc 1316 then some (.iload 4, 1318, 4, 0, 0, 0, 0) else none
  else bif Nat.beq pc 1318 then some (.iconst 1, 1319, 0, 0, 0, 1, 0) else none
  else bif Nat.blt pc 1320 then bif Nat.beq pc 1319 then some (.iadd, 1320, 0, 0, 0, 0, 0) else none
  else bif Nat.beq pc 1320 then some (.iaload, 1321, 0, 0, 0, 0, 0) else none
  else bif Nat.blt pc 1327 then bif Nat.blt pc 1324 then bif Nat.beq pc 1321 then some (.invokevirtual 176, 1324, 197, 2, 8, 0, 0) else none
  else bif Nat.blt pc 1326 then bif Nat.beq pc 1324 then some (.istore 6, 1326, 6, 0, 0, 0, 0) else none
  else bif Nat.beq pc 1326 then some (.aload_n 2, 1327, 2, 0, 0, 0, 0) else none
  else bif Nat.blt pc 1332 then bif Nat.blt pc 1330 then bif Nat.beq pc 1327 then some (.invokevirtual 90, 1330, 109, 1, 8, 0, 0) else none
  else bif Nat.beq pc 1330 then some (.iload 5, 1332, 5, 0, 0, 0, 0) else none
  else bif Nat.blt pc 1335 then bif Nat.beq pc 1332 then some (.if_icmp .eq 5, 1335, 1337, 0, 0, 0, 0) else none
  else bif Nat.beq pc 1335 then some (.iconst 0, 1336, 0, 0, 0, 0, 0) else none
  else bif Nat.blt pc 1425 then bif Nat.blt pc 1376 then bif Nat.blt pc 1357 then bif Nat.blt pc 1345 then bif Nat.blt pc 1342 then bif Nat.blt pc 1337 then bif Nat.beq pc 1336 then some (.ireturn, 1337, 0, 0, 0, 0, 0) else none
  else bif Nat.blt pc 1339 then bif Nat.beq pc 1337 then some (.iload 5, 1339, 5, 0, 0, 0, 0) else none
  else bif Nat.beq pc 1339 then some (.ifCond .ne 15, 1342, 1354, 0, 0, 0, 0) else none
  else bif Nat.blt pc 1343 then bif Nat.beq pc 1342 then some (.aload_n 3, 1343, 3, 0, 0, 0, 0) else none
  else bif Nat.blt pc 1344 then bif Nat.beq pc 1343 then some (.iconst 0, 1344, 0, 0, 0, 0, 0) else none
  else bif Nat.beq pc 1344 then some (.laload, 1345, 0, 0, 0, 0, 0) else none
  else bif Nat.blt pc 1349 then bif Nat.blt pc 1347 then bif Nat.beq pc 1345 then some (.iload 6, 1347, 6, 0, 0, 0, 0) else none
  else bif Nat.blt pc 1348 then bif Nat.beq pc 1347 then some (.i2l, 1348, 0, 0, 0, 0, 0) else none
  else bif Nat.beq pc 1348 then some (.lcmp, 1349, 0, 0, 0, 0, 0) else none
  else bif Nat.blt pc 1353 then bif Nat.blt pc 1352 then bif Nat.beq pc 1349 then some (.ifCond .eq 5, 1352, 1354, 0, 0, 0, 0) else none
  else bif Nat.beq pc 1352 then some (.iconst 0, 1353, 0, 0, 0, 0, 0) else none
  else bif Nat.blt pc 1354 then bif Nat.beq pc 1353 then some (.ireturn, 1354, 0, 0, 0, 0, 0) else none
  else bif Nat.beq pc 1354 then some (.goto 155, 1357, 1509, 0, 0, 0, 0) else none
  else bif Nat.blt pc 1365 then bif Nat.blt pc 1361 then bif Nat.blt pc 1358 then bif Nat.beq pc 1357 then some (.aload_n 1, 1358, 1, 0, 0, 0, 0) else none
  else bif Nat.blt pc 1359 then bif Nat.beq pc 1358 then some (.aload_n 0, 1359, 0, 0, 0, 0, 0) else none
  else bif Nat.beq pc 1359 then some (.iload 4, 1361, 4, 0, 0, 0, 0) else none
  else bif Nat.blt pc 1363 then bif Nat.blt pc 1362 then bif Nat.beq pc 1361 then some (.iconst 1, 1362, 0, 0, 0, 1, 0) else none
  else bif Nat.beq pc 1362 then some (.iadd, 1363, 0, 0, 0, 0, 0) else none
  else bif Nat.blt pc 1364 then bif Nat.beq pc 1363 then some (.iaload, 1364, 0, 0, 0, 0, 0) else none
  else bif Nat.beq pc 1364 then some (.aload_n 3, 1365, 3, 0, 0, 0, 0) else none
  else bif Nat.blt pc 1371 then bif Nat.blt pc 1368 then bif Nat.beq pc 1365 then some (.invokestatic 177, 1368, 219, 3, 99, 0, 0) else none
  else bif Nat.blt pc 1370 then bif Nat.beq pc 1368 then some (.istore 5, 1370, 5, 0, 0, 0, 0) else none
  else bif Nat.beq pc 1370 then some (.aload_n 2, 1371, 2, 0, 0, 0, 0) else none
  else bif Nat.blt pc 1374 then bif Nat.blt pc 1372 then bif Nat.beq pc 1371 then some (.aload_n 0, 1372, 0, 0, 0, 0, 0) else none
  else bif Nat.beq pc 1372 then some (.iload 4, 1374, 4, 0, 0, 0, 0) else none
  else bif Nat.blt pc 1375 then bif Nat.beq pc 1374 then some (.iconst 1, 1375, 0, 0, 0, 1, 0) else none
  else bif Nat.beq pc 1375 then some (.iadd, 1376, 0, 0, 0, 0, 0) else none
  else bif Nat.blt pc 1400 then bif Nat.blt pc 1388 then bif Nat.blt pc 1382 then bif Nat.blt pc 1377 then bif Nat.beq pc 1376 then some (.iaload, 1377, 0, 0, 0, 0, 0) else none
  else bif Nat.blt pc 1380 then bif Nat.beq pc 1377 then some (.invokevirtual 179, 1380, 198, 2, 8, 0, 0) else none
  else bif Nat.beq pc 1380 then some (.istore 6, 1382, 6, 0, 0, 0, 0) else none
  else bif Nat.blt pc 1383 then bif Nat.beq pc 1382 then some (.aload_n 2, 1383, 2, 0, 0, 0, 0) else none
  else bif Nat.blt pc 1386 then bif Nat.beq pc 1383 then some (.invokevirtual 90, 1386, 109, 1, 8, 0, 0) else none
  else bif Nat.beq pc 1386 then some (.iload 5, 1388, 5, 0, 0, 0, 0) else none
  else bif Nat.blt pc 1393 then bif Nat.blt pc 1391 then bif Nat.beq pc 1388 then some (.if_icmp .eq 5, 1391, 1393, 0, 0, 0, 0) else none
  else bif Nat.blt pc 1392 then bif Nat.beq pc 1391 then some (.iconst 0, 1392, 0, 0, 0, 0, 0) else none
  else bif Nat.beq pc 1392 then some (.ireturn, 1393, 0, 0, 0, 0, 0) else none
  else bif Nat.blt pc 1398 then bif Nat.blt pc 1395 then bif Nat.beq pc 1393 then some (.iload 5, 1395, 5, 0, 0, 0, 0) else none
  else bif Nat.beq pc 1395 then some (.ifCond .ne 15, 1398, 1410, 0, 0, 0, 0) else none
  else bif Nat.blt pc 1399 then bif Nat.beq pc 1398 then some (.aload_n 3, 1399, 3, 0, 0, 0, 0) else none
  else bif Nat.beq pc 1399 then some (.iconst 0, 1400, 0, 0, 0, 0, 0) else none
  else bif Nat.blt pc 1410 then bif Nat.blt pc 1404 then bif Nat.blt pc 1401 then bif Nat.beq pc 1400 then some (.laload, 1401, 0, 0, 0, 0, 0) else none
  else bif Nat.blt pc 1403 then bif Nat.beq pc 1401 then some (.iload 6, 1403, 6, 0, 0, 0, 0) else none
  else bif Nat.beq pc 1403 then some (.i2l, 1404, 0, 0, 0, 0, 0) else none
  else bif Nat.blt pc 1408 then bif Nat.blt pc 1405 then bif Nat.beq pc 1404 then some (.lcmp, 1405, 0, 0, 0, 0, 0) else none
  else bif Nat.beq pc 1405 then some (.ifCond .eq 5, 1408, 1410, 0, 0, 0, 0) else none
  else bif Nat.blt pc 1409 then bif Nat.beq pc 1408 then some (.iconst 0, 1409, 0, 0, 0, 0, 0) else none
  else bif Nat.beq pc 1409 then some (.ireturn, 1410, 0, 0, 0, 0, 0) else none
  else bif Nat.blt pc 1417 then bif Nat.blt pc 1413 then bif Nat.beq pc 1410 then some (.goto 99, 1413, 1509, 0, 0, 0, 0) else none
  else bif Nat.blt pc 1414 then bif Nat.beq pc 1413 then some (.aload_n 1, 1414, 1, 0, 0, 0, 0) else none
  else bif Nat.beq pc 1414 then some (.invokevirtual 180, 1417, 96, 1, 7, 0, 0) else none
  else bif Nat.blt pc 1421 then bif Nat.blt pc 1418 then bif Nat.beq pc 1417 then some (.aload_n 2, 1418, 2, 0, 0, 0, 0) else none
  else bif Nat.beq pc 1418 then some (.invokevirtual 183, 1421, 199, 1, 8, 0, 0) else none
  else bif Nat.blt pc 1424 then bif Nat.beq pc 1421 then some (.if_icmp .eq 88, 1424, 1509, 0, 0, 0, 0) else none
  else bif Nat.beq pc 1424 then some (.iconst 0, 1425, 0, 0, 0, 0, 0) else none
  else bif Nat.blt pc 1468 then bif Nat.blt pc 1443 then bif Nat.blt pc 1432 then bif Nat.blt pc 1428 then bif Nat.blt pc 1426 then bif Nat.beq pc 1425 then some (.ireturn, 1426, 0, 0, 0, 0, 0) else none
  else bif Nat.blt pc 1427 then bif Nat.beq pc 1426 then some (.aload_n 1, 1427, 1, 0, 0, 0, 0) else none
  else bif Nat.beq pc 1427 then some (.aload_n 0, 1428, 0, 0, 0, 0, 0) else none
  else bif Nat.blt pc 1430 then bif Nat.beq pc 1428 then some (.iload 4, 1430, 4, 0, 0, 0, 0) else none
  else bif Nat.blt pc 1431 then bif Nat.beq pc 1430 then some (.iconst 1, 1431, 0, 0, 0, 1, 0) else none
  else bif Nat.beq pc 1431 then some (.iadd, 1432, 0, 0, 0, 0, 0) else none
  else bif Nat.blt pc 1437 then bif Nat.blt pc 1433 then bif Nat.beq pc 1432 then some (.iaload, 1433, 0, 0, 0, 0, 0) else none
  else bif Nat.blt pc 1434 then bif Nat.beq pc 1433 then some (.aload_n 3, 1434, 3, 0, 0, 0, 0) else none
  else bif Nat.beq pc 1434 then some (.invokestatic 184, 1437, 220, 3, 99, 0, 0) else none
  else bif Nat.blt pc 1440 then bif Nat.blt pc 1439 then bif Nat.beq pc 1437 then some (.istore 5, 1439, 5, 0, 0, 0, 0) else none
  else bif Nat.beq pc 1439 then some (.aload_n 2, 1440, 2, 0, 0, 0, 0) else none
  else bif Nat.blt pc 1441 then bif Nat.beq pc 1440 then some (.aload_n 0, 1441, 0, 0, 0, 0, 0) else none
  else bif Nat.beq pc 1441 then some (.iload 4, 1443, 4, 0, 0, 0, 0) else none
  else bif Nat.blt pc 1455 then bif Nat.blt pc 1446 then bif Nat.blt pc 1444 then bif Nat.beq pc 1443 then some (.iconst 1, 1444, 0, 0, 0, 1, 0) else none
  else bif Nat.blt pc 1445 then bif Nat.beq pc 1444 then some (.iadd, 1445, 0, 0, 0, 0, 0) else none
  else bif Nat.beq pc 1445 then some (.iaload, 1446, 0, 0, 0, 0, 0) else none
  else bif Nat.blt pc 1451 then bif Nat.blt pc 1449 then bif Nat.beq pc 1446 then some (.invokevirtual 186, 1449, 200, 2, 8, 0, 0) else none
  else bif Nat.beq pc 1449 then some (.istore 6, 1451, 6, 0, 0, 0, 0) else none
  else bif Nat.blt pc 1452 then bif Nat.beq pc 1451 then some (.aload_n 2, 1452, 2, 0, 0, 0, 0) else none
  else bif Nat.beq pc 1452 then some (.invokevirtual 90, 1455, 109, 1, 8, 0, 0) else none
  else bif Nat.blt pc 1461 then bif Nat.blt pc 1457 then bif Nat.beq pc 1455 then some (.iload 5, 1457, 5, 0, 0, 0, 0) else none
  else bif Nat.blt pc 1460 then bif Nat.beq pc 1457 then some (.if_icmp .eq 5, 1460, 1462, 0, 0, 0, 0) else none
  else bif Nat.beq pc 1460 then some (.iconst 0, 1461, 0, 0, 0, 0, 0) else none
  else bif Nat.blt pc 1464 then bif Nat.blt pc 1462 then bif Nat.beq pc 1461 then some (.ireturn, 1462, 0, 0, 0, 0, 0) else none
  else bif Nat.beq pc 1462 then some (.iload 5, 1464, 5, 0, 0, 0, 0) else none
  else bif Nat.blt pc 1467 then bif Nat.beq pc 1464 then some (.ifCond .ne 15, 1467, 1479, 0, 0, 0, 0) else none
  else bif Nat.beq pc 1467 then some (.aload_n 3, 1468, 3, 0, 0, 0, 0) else none
  else bif Nat.blt pc 1493 then bif Nat.blt pc 1478 then bif Nat.blt pc 1472 then bif Nat.blt pc 1469 then bif Nat.beq pc 1468 then some (.iconst 0, 1469, 0, 0, 0, 0, 0) else none
  else bif Nat.blt pc 1470 then bif Nat.beq pc 1469 then some (.laload, 1470, 0, 0, 0, 0, 0) else none
  else bif Nat.beq pc 1470 then some (.iload 6, 1472, 6, 0, 0, 0, 0) else none
  else bif Nat.blt pc 1474 then bif Nat.blt pc 1473 then bif Nat.beq pc 1472 then some (.i2l, 1473, 0, 0, 0, 0, 0) else none
  else bif Nat.beq pc 1473 then some (.lcmp, 1474, 0, 0, 0, 0, 0) else none
  else bif Nat.blt pc 1477 then bif Nat.beq pc 1474 then some (.ifCond .eq 5, 1477, 1479, 0, 0, 0, 0) else none
  else bif Nat.beq pc 1477 then some (.iconst 0, 1478, 0, 0, 0, 0, 0) else none
  else bif Nat.blt pc 1483 then bif Nat.blt pc 1479 then bif Nat.beq pc 1478 then some (.ireturn, 1479, 0, 0, 0, 0, 0) else none
  else bif Nat.blt pc 1482 then bif Nat.beq pc 1479 then some (.goto 30, 1482, 1509, 0, 0, 0, 0) else none
  else bif Nat.beq pc 1482 then some (.aload_n 1, 1483, 1, 0, 0, 0, 0) else none
  else bif Nat.blt pc 1487 then bif Nat.blt pc 1486 then bif Nat.beq pc 1483 then some (.invokevirtual 187, 1486, 98, 1, 7, 0, 0) else none
  else bif Nat.beq pc 1486 then some (.aload_n 2, 1487, 2, 0, 0, 0, 0) else none
  else bif Nat.blt pc 1490 then bif Nat.beq pc 1487 then some (.invokevirtual 190, 1490, 201, 1, 8, 0, 0) else none
  else bif Nat.beq pc 1490 then some (.if_icmp .eq 19, 1493, 1509, 0, 0, 0, 0) else none
  else bif Nat.blt pc 1504 then bif Nat.blt pc 1496 then bif Nat.blt pc 1494 then bif Nat.beq pc 1493 then some (.iconst 0, 1494, 0, 0, 0, 0, 0) else none
  else bif Nat.blt pc 1495 then bif Nat.beq pc 1494 then some (.ireturn, 1495, 0, 0, 0, 0, 0) else none
  else bif Nat.beq pc 1495 then some (.aload_n 1, 1496, 1, 0, 0, 0, 0) else none
  else bif Nat.blt pc 1500 then bif Nat.blt pc 1499 then bif Nat.beq pc 1496 then some (.invokevirtual 191, 1499, 99, 1, 7, 0, 0) else none
  else bif Nat.beq pc 1499 then some (.aload_n 2, 1500, 2, 0, 0, 0, 0) else none
  else bif Nat.blt pc 1503 then bif Nat.beq pc 1500 then some (.invokevirtual 195, 1503, 202, 1, 8, 0, 0) else none
  else bif Nat.beq pc 1503 then some (.lcmp, 1504, 0, 0, 0, 0, 0) else none
  else bif Nat.blt pc 1509 then bif Nat.blt pc 1507 then bif Nat.beq pc 1504 then some (.ifCond .eq 5, 1507, 1509, 0, 0, 0, 0) else none
  else bif Nat.blt pc 1508 then bif Nat.beq pc 1507 then some (.iconst 0, 1508, 0, 0, 0, 0, 0) else none
  else bif Nat.beq pc 1508 then some (.ireturn, 1509, 0, 0, 0, 0, 0) else none
  else bif Nat.blt pc 1515 then bif Nat.blt pc 1512 then bif Nat.beq pc 1509 then some (.iinc 4 6, 1512, 4, 0, 0, 6, 0) else none
  else bif Nat.beq pc 1512 then some (.goto (-1489), 1515, 23, 0, 0, 0, 0) else none
  else bif Nat.blt pc 1516 then bif Nat.beq pc 1515 then some (.iconst 1, 1516, 0, 0, 0, 1, 0) else none
  else bif Nat.beq pc 1516 then some (.ireturn, 1517, 0, 0, 0, 0, 0) else none
def rs_L_law : PMR := (2, 20000, hdl [], 7)
def mi_L_law : PMI := wrapM 1517 cd_L_law rs_L_law
def lenOf (k : Nat) : Nat :=
  bif Nat.blt k 222 then
  bif Nat.blt k 111 then bif Nat.blt k 55 then bif Nat.blt k 27 then bif Nat.blt k 13 then bif Nat.blt k 6 then bif Nat.blt k 3 then bif Nat.blt k 1 then bif Nat.beq k 0 then 6 else 0
  else bif Nat.blt k 2 then bif Nat.beq k 1 then 23 else 0
  else bif Nat.beq k 2 then 24 else 0
  else bif Nat.blt k 4 then bif Nat.beq k 3 then 124 else 0
  else bif Nat.blt k 5 then bif Nat.beq k 4 then 66 else 0
  else bif Nat.beq k 5 then 55 else 0
  else bif Nat.blt k 9 then bif Nat.blt k 7 then bif Nat.beq k 6 then 81 else 0
  else bif Nat.blt k 8 then bif Nat.beq k 7 then 81 else 0
  else bif Nat.beq k 8 then 21 else 0
  else bif Nat.blt k 11 then bif Nat.blt k 10 then bif Nat.beq k 9 then 99 else 0
  else bif Nat.beq k 10 then 61 else 0
  else bif Nat.blt k 12 then bif Nat.beq k 11 then 37 else 0
  else bif Nat.beq k 12 then 32 else 0
  else bif Nat.blt k 20 then bif Nat.blt k 16 then bif Nat.blt k 14 then bif Nat.beq k 13 then 47 else 0
  else bif Nat.blt k 15 then bif Nat.beq k 14 then 9 else 0
  else bif Nat.beq k 15 then 11 else 0
  else bif Nat.blt k 18 then bif Nat.blt k 17 then bif Nat.beq k 16 then 28 else 0
  else bif Nat.beq k 17 then 36 else 0
  else bif Nat.blt k 19 then bif Nat.beq k 18 then 55 else 0
  else bif Nat.beq k 19 then 6 else 0
  else bif Nat.blt k 23 then bif Nat.blt k 21 then bif Nat.beq k 20 then 42 else 0
  else bif Nat.blt k 22 then bif Nat.beq k 21 then 35 else 0
  else bif Nat.beq k 22 then 32 else 0
  else bif Nat.blt k 25 then bif Nat.blt k 24 then bif Nat.beq k 23 then 30 else 0
  else bif Nat.beq k 24 then 49 else 0
  else bif Nat.blt k 26 then bif Nat.beq k 25 then 91 else 0
  else bif Nat.beq k 26 then 75 else 0
  else bif Nat.blt k 41 then bif Nat.blt k 34 then bif Nat.blt k 30 then bif Nat.blt k 28 then bif Nat.beq k 27 then 26 else 0
  else bif Nat.blt k 29 then bif Nat.beq k 28 then 32 else 0
  else bif Nat.beq k 29 then 56 else 0
  else bif Nat.blt k 32 then bif Nat.blt k 31 then bif Nat.beq k 30 then 33 else 0
  else bif Nat.beq k 31 then 85 else 0
  else bif Nat.blt k 33 then bif Nat.beq k 32 then 84 else 0
  else bif Nat.beq k 33 then 78 else 0
  else bif Nat.blt k 37 then bif Nat.blt k 35 then bif Nat.beq k 34 then 44 else 0
  else bif Nat.blt k 36 then bif Nat.beq k 35 then 67 else 0
  else bif Nat.beq k 36 then 130 else 0
  else bif Nat.blt k 39 then bif Nat.blt k 38 then bif Nat.beq k 37 then 26 else 0
  else bif Nat.beq k 38 then 43 else 0
  else bif Nat.blt k 40 then bif Nat.beq k 39 then 108 else 0
  else bif Nat.beq k 40 then 80 else 0
  else bif Nat.blt k 48 then bif Nat.blt k 44 then bif Nat.blt k 42 then bif Nat.beq k 41 then 137 else 0
  else bif Nat.blt k 43 then bif Nat.beq k 42 then 66 else 0
  else bif Nat.beq k 43 then 143 else 0
  else bif Nat.blt k 46 then bif Nat.blt k 45 then bif Nat.beq k 44 then 79 else 0
  else bif Nat.beq k 45 then 79 else 0
  else bif Nat.blt k 47 then bif Nat.beq k 46 then 75 else 0
  else bif Nat.beq k 47 then 117 else 0
  else bif Nat.blt k 51 then bif Nat.blt k 49 then bif Nat.beq k 48 then 26 else 0
  else bif Nat.blt k 50 then bif Nat.beq k 49 then 56 else 0
  else bif Nat.beq k 50 then 195 else 0
  else bif Nat.blt k 53 then bif Nat.blt k 52 then bif Nat.beq k 51 then 49 else 0
  else bif Nat.beq k 52 then 124 else 0
  else bif Nat.blt k 54 then bif Nat.beq k 53 then 49 else 0
  else bif Nat.beq k 54 then 60 else 0
  else bif Nat.blt k 83 then bif Nat.blt k 69 then bif Nat.blt k 62 then bif Nat.blt k 58 then bif Nat.blt k 56 then bif Nat.beq k 55 then 52 else 0
  else bif Nat.blt k 57 then bif Nat.beq k 56 then 69 else 0
  else bif Nat.beq k 57 then 69 else 0
  else bif Nat.blt k 60 then bif Nat.blt k 59 then bif Nat.beq k 58 then 111 else 0
  else bif Nat.beq k 59 then 74 else 0
  else bif Nat.blt k 61 then bif Nat.beq k 60 then 21 else 0
  else bif Nat.beq k 61 then 47 else 0
  else bif Nat.blt k 65 then bif Nat.blt k 63 then bif Nat.beq k 62 then 19 else 0
  else bif Nat.blt k 64 then bif Nat.beq k 63 then 19 else 0
  else bif Nat.beq k 64 then 66 else 0
  else bif Nat.blt k 67 then bif Nat.blt k 66 then bif Nat.beq k 65 then 248 else 0
  else bif Nat.beq k 66 then 28 else 0
  else bif Nat.blt k 68 then bif Nat.beq k 67 then 18 else 0
  else bif Nat.beq k 68 then 18 else 0
  else bif Nat.blt k 76 then bif Nat.blt k 72 then bif Nat.blt k 70 then bif Nat.beq k 69 then 68 else 0
  else bif Nat.blt k 71 then bif Nat.beq k 70 then 96 else 0
  else bif Nat.beq k 71 then 8 else 0
  else bif Nat.blt k 74 then bif Nat.blt k 73 then bif Nat.beq k 72 then 8 else 0
  else bif Nat.beq k 73 then 8 else 0
  else bif Nat.blt k 75 then bif Nat.beq k 74 then 8 else 0
  else bif Nat.beq k 75 then 8 else 0
  else bif Nat.blt k 79 then bif Nat.blt k 77 then bif Nat.beq k 76 then 113 else 0
  else bif Nat.blt k 78 then bif Nat.beq k 77 then 20 else 0
  else bif Nat.beq k 78 then 30 else 0
  else bif Nat.blt k 81 then bif Nat.blt k 80 then bif Nat.beq k 79 then 30 else 0
  else bif Nat.beq k 80 then 17 else 0
  else bif Nat.blt k 82 then bif Nat.beq k 81 then 8 else 0
  else bif Nat.beq k 82 then 22 else 0
  else bif Nat.blt k 97 then bif Nat.blt k 90 then bif Nat.blt k 86 then bif Nat.blt k 84 then bif Nat.beq k 83 then 17 else 0
  else bif Nat.blt k 85 then bif Nat.beq k 84 then 17 else 0
  else bif Nat.beq k 85 then 32 else 0
  else bif Nat.blt k 88 then bif Nat.blt k 87 then bif Nat.beq k 86 then 14 else 0
  else bif Nat.beq k 87 then 14 else 0
  else bif Nat.blt k 89 then bif Nat.beq k 88 then 34 else 0
  else bif Nat.beq k 89 then 37 else 0
  else bif Nat.blt k 93 then bif Nat.blt k 91 then bif Nat.beq k 90 then 14 else 0
  else bif Nat.blt k 92 then bif Nat.beq k 91 then 35 else 0
  else bif Nat.beq k 92 then 81 else 0
  else bif Nat.blt k 95 then bif Nat.blt k 94 then bif Nat.beq k 93 then 136 else 0
  else bif Nat.beq k 94 then 95 else 0
  else bif Nat.blt k 96 then bif Nat.beq k 95 then 95 else 0
  else bif Nat.beq k 96 then 64 else 0
  else bif Nat.blt k 104 then bif Nat.blt k 100 then bif Nat.blt k 98 then bif Nat.beq k 97 then 74 else 0
  else bif Nat.blt k 99 then bif Nat.beq k 98 then 49 else 0
  else bif Nat.beq k 99 then 115 else 0
  else bif Nat.blt k 102 then bif Nat.blt k 101 then bif Nat.beq k 100 then 27 else 0
  else bif Nat.beq k 101 then 27 else 0
  else bif Nat.blt k 103 then bif Nat.beq k 102 then 29 else 0
  else bif Nat.beq k 103 then 27 else 0
  else bif Nat.blt k 107 then bif Nat.blt k 105 then bif Nat.beq k 104 then 12 else 0
  else bif Nat.blt k 106 then bif Nat.beq k 105 then 13 else 0
  else bif Nat.beq k 106 then 18 else 0
  else bif Nat.blt k 109 then bif Nat.blt k 108 then bif Nat.beq k 107 then 15 else 0
  else bif Nat.beq k 108 then 15 else 0
  else bif Nat.blt k 110 then bif Nat.beq k 109 then 5 else 0
  else bif Nat.beq k 110 then 29 else 0
  else bif Nat.blt k 166 then bif Nat.blt k 138 then bif Nat.blt k 124 then bif Nat.blt k 117 then bif Nat.blt k 114 then bif Nat.blt k 112 then bif Nat.beq k 111 then 16 else 0
  else bif Nat.blt k 113 then bif Nat.beq k 112 then 11 else 0
  else bif Nat.beq k 113 then 22 else 0
  else bif Nat.blt k 115 then bif Nat.beq k 114 then 7 else 0
  else bif Nat.blt k 116 then bif Nat.beq k 115 then 10 else 0
  else bif Nat.beq k 116 then 9 else 0
  else bif Nat.blt k 120 then bif Nat.blt k 118 then bif Nat.beq k 117 then 125 else 0
  else bif Nat.blt k 119 then bif Nat.beq k 118 then 19 else 0
  else bif Nat.beq k 119 then 35 else 0
  else bif Nat.blt k 122 then bif Nat.blt k 121 then bif Nat.beq k 120 then 13 else 0
  else bif Nat.beq k 121 then 19 else 0
  else bif Nat.blt k 123 then bif Nat.beq k 122 then 9 else 0
  else bif Nat.beq k 123 then 90 else 0
  else bif Nat.blt k 131 then bif Nat.blt k 127 then bif Nat.blt k 125 then bif Nat.beq k 124 then 40 else 0
  else bif Nat.blt k 126 then bif Nat.beq k 125 then 111 else 0
  else bif Nat.beq k 126 then 37 else 0
  else bif Nat.blt k 129 then bif Nat.blt k 128 then bif Nat.beq k 127 then 153 else 0
  else bif Nat.beq k 128 then 75 else 0
  else bif Nat.blt k 130 then bif Nat.beq k 129 then 75 else 0
  else bif Nat.beq k 130 then 32 else 0
  else bif Nat.blt k 134 then bif Nat.blt k 132 then bif Nat.beq k 131 then 171 else 0
  else bif Nat.blt k 133 then bif Nat.beq k 132 then 61 else 0
  else bif Nat.beq k 133 then 50 else 0
  else bif Nat.blt k 136 then bif Nat.blt k 135 then bif Nat.beq k 134 then 66 else 0
  else bif Nat.beq k 135 then 103 else 0
  else bif Nat.blt k 137 then bif Nat.beq k 136 then 209 else 0
  else bif Nat.beq k 137 then 10 else 0
  else bif Nat.blt k 152 then bif Nat.blt k 145 then bif Nat.blt k 141 then bif Nat.blt k 139 then bif Nat.beq k 138 then 9 else 0
  else bif Nat.blt k 140 then bif Nat.beq k 139 then 16 else 0
  else bif Nat.beq k 140 then 18 else 0
  else bif Nat.blt k 143 then bif Nat.blt k 142 then bif Nat.beq k 141 then 18 else 0
  else bif Nat.beq k 142 then 44 else 0
  else bif Nat.blt k 144 then bif Nat.beq k 143 then 141 else 0
  else bif Nat.beq k 144 then 65 else 0
  else bif Nat.blt k 148 then bif Nat.blt k 146 then bif Nat.beq k 145 then 65 else 0
  else bif Nat.blt k 147 then bif Nat.beq k 146 then 59 else 0
  else bif Nat.beq k 147 then 30 else 0
  else bif Nat.blt k 150 then bif Nat.blt k 149 then bif Nat.beq k 148 then 48 else 0
  else bif Nat.beq k 149 then 198 else 0
  else bif Nat.blt k 151 then bif Nat.beq k 150 then 12 else 0
  else bif Nat.beq k 151 then 14 else 0
  else bif Nat.blt k 159 then bif Nat.blt k 155 then bif Nat.blt k 153 then bif Nat.beq k 152 then 115 else 0
  else bif Nat.blt k 154 then bif Nat.beq k 153 then 36 else 0
  else bif Nat.beq k 154 then 12 else 0
  else bif Nat.blt k 157 then bif Nat.blt k 156 then bif Nat.beq k 155 then 30 else 0
  else bif Nat.beq k 156 then 32 else 0
  else bif Nat.blt k 158 then bif Nat.beq k 157 then 33 else 0
  else bif Nat.beq k 158 then 75 else 0
  else bif Nat.blt k 162 then bif Nat.blt k 160 then bif Nat.beq k 159 then 62 else 0
  else bif Nat.blt k 161 then bif Nat.beq k 160 then 48 else 0
  else bif Nat.beq k 161 then 23 else 0
  else bif Nat.blt k 164 then bif Nat.blt k 163 then bif Nat.beq k 162 then 128 else 0
  else bif Nat.beq k 163 then 26 else 0
  else bif Nat.blt k 165 then bif Nat.beq k 164 then 63 else 0
  else bif Nat.beq k 165 then 30 else 0
  else bif Nat.blt k 194 then bif Nat.blt k 180 then bif Nat.blt k 173 then bif Nat.blt k 169 then bif Nat.blt k 167 then bif Nat.beq k 166 then 27 else 0
  else bif Nat.blt k 168 then bif Nat.beq k 167 then 25 else 0
  else bif Nat.beq k 168 then 27 else 0
  else bif Nat.blt k 171 then bif Nat.blt k 170 then bif Nat.beq k 169 then 27 else 0
  else bif Nat.beq k 170 then 12 else 0
  else bif Nat.blt k 172 then bif Nat.beq k 171 then 12 else 0
  else bif Nat.beq k 172 then 12 else 0
  else bif Nat.blt k 176 then bif Nat.blt k 174 then bif Nat.beq k 173 then 12 else 0
  else bif Nat.blt k 175 then bif Nat.beq k 174 then 12 else 0
  else bif Nat.beq k 175 then 51 else 0
  else bif Nat.blt k 178 then bif Nat.blt k 177 then bif Nat.beq k 176 then 36 else 0
  else bif Nat.beq k 177 then 37 else 0
  else bif Nat.blt k 179 then bif Nat.beq k 178 then 35 else 0
  else bif Nat.beq k 179 then 23 else 0
  else bif Nat.blt k 187 then bif Nat.blt k 183 then bif Nat.blt k 181 then bif Nat.beq k 180 then 58 else 0
  else bif Nat.blt k 182 then bif Nat.beq k 181 then 10 else 0
  else bif Nat.beq k 182 then 98 else 0
  else bif Nat.blt k 185 then bif Nat.blt k 184 then bif Nat.beq k 183 then 17 else 0
  else bif Nat.beq k 184 then 27 else 0
  else bif Nat.blt k 186 then bif Nat.beq k 185 then 23 else 0
  else bif Nat.beq k 186 then 52 else 0
  else bif Nat.blt k 190 then bif Nat.blt k 188 then bif Nat.beq k 187 then 23 else 0
  else bif Nat.blt k 189 then bif Nat.beq k 188 then 23 else 0
  else bif Nat.beq k 189 then 10 else 0
  else bif Nat.blt k 192 then bif Nat.blt k 191 then bif Nat.beq k 190 then 38 else 0
  else bif Nat.beq k 191 then 10 else 0
  else bif Nat.blt k 193 then bif Nat.beq k 192 then 23 else 0
  else bif Nat.beq k 193 then 44 else 0
  else bif Nat.blt k 208 then bif Nat.blt k 201 then bif Nat.blt k 197 then bif Nat.blt k 195 then bif Nat.beq k 194 then 77 else 0
  else bif Nat.blt k 196 then bif Nat.beq k 195 then 113 else 0
  else bif Nat.beq k 196 then 103 else 0
  else bif Nat.blt k 199 then bif Nat.blt k 198 then bif Nat.beq k 197 then 115 else 0
  else bif Nat.beq k 198 then 124 else 0
  else bif Nat.blt k 200 then bif Nat.beq k 199 then 66 else 0
  else bif Nat.beq k 200 then 134 else 0
  else bif Nat.blt k 204 then bif Nat.blt k 202 then bif Nat.beq k 201 then 49 else 0
  else bif Nat.blt k 203 then bif Nat.beq k 202 then 82 else 0
  else bif Nat.beq k 203 then 17 else 0
  else bif Nat.blt k 206 then bif Nat.blt k 205 then bif Nat.beq k 204 then 23 else 0
  else bif Nat.beq k 205 then 26 else 0
  else bif Nat.blt k 207 then bif Nat.beq k 206 then 19 else 0
  else bif Nat.beq k 207 then 19 else 0
  else bif Nat.blt k 215 then bif Nat.blt k 211 then bif Nat.blt k 209 then bif Nat.beq k 208 then 17 else 0
  else bif Nat.blt k 210 then bif Nat.beq k 209 then 17 else 0
  else bif Nat.beq k 210 then 17 else 0
  else bif Nat.blt k 213 then bif Nat.blt k 212 then bif Nat.beq k 211 then 23 else 0
  else bif Nat.beq k 212 then 17 else 0
  else bif Nat.blt k 214 then bif Nat.beq k 213 then 17 else 0
  else bif Nat.beq k 214 then 17 else 0
  else bif Nat.blt k 218 then bif Nat.blt k 216 then bif Nat.beq k 215 then 20 else 0
  else bif Nat.blt k 217 then bif Nat.beq k 216 then 20 else 0
  else bif Nat.beq k 217 then 25 else 0
  else bif Nat.blt k 220 then bif Nat.blt k 219 then bif Nat.beq k 218 then 20 else 0
  else bif Nat.beq k 219 then 20 else 0
  else bif Nat.blt k 221 then bif Nat.beq k 220 then 17 else 0
  else bif Nat.beq k 221 then 1517 else 0
  else 0
def cdOf (k : Nat) : Nat → Option PE :=
  bif Nat.blt k 111 then bif Nat.blt k 55 then bif Nat.blt k 27 then bif Nat.blt k 13 then bif Nat.blt k 6 then bif Nat.blt k 3 then bif Nat.blt k 1 then bif Nat.beq k 0 then cd_X0_clear else (fun _ => none)
  else bif Nat.blt k 2 then bif Nat.beq k 1 then cd_X0_addOperand else (fun _ => none)
  else bif Nat.beq k 2 then cd_X0_addOperator else (fun _ => none)
  else bif Nat.blt k 4 then bif Nat.beq k 3 then cd_X0_valueFor else (fun _ => none)
  else bif Nat.blt k 5 then bif Nat.beq k 4 then cd_X0_applied else (fun _ => none)
  else bif Nat.beq k 5 then cd_X1_isReady else (fun _ => none)
  else bif Nat.blt k 9 then bif Nat.blt k 7 then bif Nat.beq k 6 then cd_X1_remember else (fun _ => none)
  else bif Nat.blt k 8 then bif Nat.beq k 7 then cd_X1_restore else (fun _ => none)
  else bif Nat.beq k 8 then cd_X2_clear else (fun _ => none)
  else bif Nat.blt k 11 then bif Nat.blt k 10 then bif Nat.beq k 9 then cd_X2_copyFrom else (fun _ => none)
  else bif Nat.beq k 10 then cd_X2_addEdge else (fun _ => none)
  else bif Nat.blt k 12 then bif Nat.beq k 11 then cd_X2_putArc else (fun _ => none)
  else bif Nat.beq k 12 then cd_X2_addDepot else (fun _ => none)
  else bif Nat.blt k 20 then bif Nat.blt k 16 then bif Nat.blt k 14 then bif Nat.beq k 13 then cd_X2_banTurn else (fun _ => none)
  else bif Nat.blt k 15 then bif Nat.beq k 14 then cd_X2_start else (fun _ => none)
  else bif Nat.beq k 15 then cd_X2_end else (fun _ => none)
  else bif Nat.blt k 18 then bif Nat.blt k 17 then bif Nat.beq k 16 then cd_X2_touches else (fun _ => none)
  else bif Nat.beq k 17 then cd_X2_allowsTurn else (fun _ => none)
  else bif Nat.blt k 19 then bif Nat.beq k 18 then cd_X2_oddSet else (fun _ => none)
  else bif Nat.beq k 19 then cd_X3_clear else (fun _ => none)
  else bif Nat.blt k 23 then bif Nat.blt k 21 then bif Nat.beq k 20 then cd_X3_copyFrom else (fun _ => none)
  else bif Nat.blt k 22 then bif Nat.beq k 21 then cd_X3_addTour else (fun _ => none)
  else bif Nat.beq k 22 then cd_X3_arcOrDepot else (fun _ => none)
  else bif Nat.blt k 25 then bif Nat.blt k 24 then bif Nat.beq k 23 then cd_X3_tourServing else (fun _ => none)
  else bif Nat.beq k 24 then cd_X3_positionIn else (fun _ => none)
  else bif Nat.blt k 26 then bif Nat.beq k 25 then cd_X3_putIn else (fun _ => none)
  else bif Nat.beq k 26 then cd_X3_takeOut else (fun _ => none)
  else bif Nat.blt k 41 then bif Nat.blt k 34 then bif Nat.blt k 30 then bif Nat.blt k 28 then bif Nat.beq k 27 then cd_X3_turnRound else (fun _ => none)
  else bif Nat.blt k 29 then bif Nat.beq k 28 then cd_X4_isWaiting else (fun _ => none)
  else bif Nat.beq k 29 then cd_X4_demandIn else (fun _ => none)
  else bif Nat.blt k 32 then bif Nat.blt k 31 then bif Nat.beq k 30 then cd_X4_hasRoom else (fun _ => none)
  else bif Nat.beq k 31 then cd_X4_link else (fun _ => none)
  else bif Nat.blt k 33 then bif Nat.beq k 32 then cd_X4_costOf else (fun _ => none)
  else bif Nat.beq k 33 then cd_X4_increaseBy else (fun _ => none)
  else bif Nat.blt k 37 then bif Nat.blt k 35 then bif Nat.beq k 34 then cd_X4_canSpare else (fun _ => none)
  else bif Nat.blt k 36 then bif Nat.beq k 35 then cd_X4_canTurn else (fun _ => none)
  else bif Nat.beq k 36 then cd_X4_bestPlace else (fun _ => none)
  else bif Nat.blt k 39 then bif Nat.blt k 38 then bif Nat.beq k 37 then cd_X4_increaseAt else (fun _ => none)
  else bif Nat.beq k 38 then cd_X4_insertBest else (fun _ => none)
  else bif Nat.blt k 40 then bif Nat.beq k 39 then cd_X4_gainOf else (fun _ => none)
  else bif Nat.beq k 40 then cd_X4_makeBestChange else (fun _ => none)
  else bif Nat.blt k 48 then bif Nat.blt k 44 then bif Nat.blt k 42 then bif Nat.beq k 41 then cd_X5_explore else (fun _ => none)
  else bif Nat.blt k 43 then bif Nat.beq k 42 then cd_X5_markTurns else (fun _ => none)
  else bif Nat.beq k 43 then cd_X5_findDeadheads else (fun _ => none)
  else bif Nat.blt k 46 then bif Nat.blt k 45 then bif Nat.beq k 44 then cd_X5_approach else (fun _ => none)
  else bif Nat.beq k 45 then cd_X5_returnTo else (fun _ => none)
  else bif Nat.blt k 47 then bif Nat.beq k 46 then cd_X5_between else (fun _ => none)
  else bif Nat.beq k 47 then cd_X5_cheapestPairs else (fun _ => none)
  else bif Nat.blt k 51 then bif Nat.blt k 49 then bif Nat.beq k 48 then cd_X5_lowestIn else (fun _ => none)
  else bif Nat.blt k 50 then bif Nat.beq k 49 then cd_X6_addWord else (fun _ => none)
  else bif Nat.beq k 50 then cd_X6_readSetup else (fun _ => none)
  else bif Nat.blt k 53 then bif Nat.blt k 52 then bif Nat.beq k 51 then cd_X6_startOver else (fun _ => none)
  else bif Nat.beq k 52 then cd_X6_readEdge else (fun _ => none)
  else bif Nat.blt k 54 then bif Nat.beq k 53 then cd_X6_readBan else (fun _ => none)
  else bif Nat.beq k 54 then cd_X6_takeEdgeAt else (fun _ => none)
  else bif Nat.blt k 83 then bif Nat.blt k 69 then bif Nat.blt k 62 then bif Nat.blt k 58 then bif Nat.blt k 56 then bif Nat.beq k 55 then cd_X6_readDepot else (fun _ => none)
  else bif Nat.blt k 57 then bif Nat.beq k 56 then cd_X6_readSum else (fun _ => none)
  else bif Nat.beq k 57 then cd_X6_readTerm else (fun _ => none)
  else bif Nat.blt k 60 then bif Nat.blt k 59 then bif Nat.beq k 58 then cd_X6_readFactor else (fun _ => none)
  else bif Nat.beq k 59 then cd_X6_priceServices else (fun _ => none)
  else bif Nat.blt k 61 then bif Nat.beq k 60 then cd_X6_fail else (fun _ => none)
  else bif Nat.beq k 61 then cd_X6_takeNumber else (fun _ => none)
  else bif Nat.blt k 65 then bif Nat.blt k 63 then bif Nat.beq k 62 then cd_X6_takeWord else (fun _ => none)
  else bif Nat.blt k 64 then bif Nat.beq k 63 then cd_X6_takeSign else (fun _ => none)
  else bif Nat.beq k 64 then cd_X6_isWord else (fun _ => none)
  else bif Nat.blt k 67 then bif Nat.blt k 66 then bif Nat.beq k 65 then cd_X6_next else (fun _ => none)
  else bif Nat.beq k 66 then cd_X6_byteAt else (fun _ => none)
  else bif Nat.blt k 68 then bif Nat.beq k 67 then cd_X6_isDigit else (fun _ => none)
  else bif Nat.beq k 68 then cd_X6_isLetter else (fun _ => none)
  else bif Nat.blt k 76 then bif Nat.blt k 72 then bif Nat.blt k 70 then bif Nat.beq k 69 then cd_X7_append else (fun _ => none)
  else bif Nat.blt k 71 then bif Nat.beq k 70 then cd_X7_load else (fun _ => none)
  else bif Nat.beq k 71 then cd_X7_errorOffset else (fun _ => none)
  else bif Nat.blt k 74 then bif Nat.blt k 73 then bif Nat.beq k 72 then cd_X7_nodeCount else (fun _ => none)
  else bif Nat.beq k 73 then cd_X7_edgeCount else (fun _ => none)
  else bif Nat.blt k 75 then bif Nat.beq k 74 then cd_X7_depotCount else (fun _ => none)
  else bif Nat.beq k 75 then cd_X7_tourCount else (fun _ => none)
  else bif Nat.blt k 79 then bif Nat.blt k 77 then bif Nat.beq k 76 then cd_X7_edge else (fun _ => none)
  else bif Nat.blt k 78 then bif Nat.beq k 77 then cd_X7_mayFollow else (fun _ => none)
  else bif Nat.beq k 78 then cd_X7_deadhead else (fun _ => none)
  else bif Nat.blt k 81 then bif Nat.blt k 80 then bif Nat.beq k 79 then cd_X7_distance else (fun _ => none)
  else bif Nat.beq k 80 then cd_X7_serviceCost else (fun _ => none)
  else bif Nat.blt k 82 then bif Nat.beq k 81 then cd_X7_oddNodes else (fun _ => none)
  else bif Nat.beq k 82 then cd_X7_matching else (fun _ => none)
  else bif Nat.blt k 97 then bif Nat.blt k 90 then bif Nat.blt k 86 then bif Nat.blt k 84 then bif Nat.beq k 83 then cd_X7_depotOf else (fun _ => none)
  else bif Nat.blt k 85 then bif Nat.beq k 84 then cd_X7_length else (fun _ => none)
  else bif Nat.beq k 85 then cd_X7_arcAt else (fun _ => none)
  else bif Nat.blt k 88 then bif Nat.blt k 87 then bif Nat.beq k 86 then cd_X7_loadOf else (fun _ => none)
  else bif Nat.beq k 87 then cd_X7_tourCost else (fun _ => none)
  else bif Nat.blt k 89 then bif Nat.beq k 88 then cd_X7_totalCost else (fun _ => none)
  else bif Nat.beq k 89 then cd_X7_unserved else (fun _ => none)
  else bif Nat.blt k 93 then bif Nat.blt k 91 then bif Nat.beq k 90 then cd_X7_tourOf else (fun _ => none)
  else bif Nat.blt k 92 then bif Nat.beq k 91 then cd_X7_bestInsertion else (fun _ => none)
  else bif Nat.beq k 92 then cd_X7_openTour else (fun _ => none)
  else bif Nat.blt k 95 then bif Nat.blt k 94 then bif Nat.beq k 93 then cd_X7_insert else (fun _ => none)
  else bif Nat.beq k 94 then cd_X7_drop else (fun _ => none)
  else bif Nat.blt k 96 then bif Nat.beq k 95 then cd_X7_flip else (fun _ => none)
  else bif Nat.beq k 96 then cd_X7_build else (fun _ => none)
  else bif Nat.blt k 104 then bif Nat.blt k 100 then bif Nat.blt k 98 then bif Nat.beq k 97 then cd_X7_improve else (fun _ => none)
  else bif Nat.blt k 99 then bif Nat.beq k 98 then cd_X7_undo else (fun _ => none)
  else bif Nat.beq k 99 then cd_X7_checksum else (fun _ => none)
  else bif Nat.blt k 102 then bif Nat.blt k 101 then bif Nat.beq k 100 then cd_X7_requireNode else (fun _ => none)
  else bif Nat.beq k 101 then cd_X7_requireEdge else (fun _ => none)
  else bif Nat.blt k 103 then bif Nat.beq k 102 then cd_X7_requireArc else (fun _ => none)
  else bif Nat.beq k 103 then cd_X7_requireTour else (fun _ => none)
  else bif Nat.blt k 107 then bif Nat.blt k 105 then bif Nat.beq k 104 then cd_X7_orNone else (fun _ => none)
  else bif Nat.blt k 106 then bif Nat.beq k 105 then cd_X7_limited else (fun _ => none)
  else bif Nat.beq k 106 then cd_X7_at else (fun _ => none)
  else bif Nat.blt k 109 then bif Nat.blt k 108 then bif Nat.beq k 107 then cd_X7_put else (fun _ => none)
  else bif Nat.beq k 108 then cd_X7_copyRow else (fun _ => none)
  else bif Nat.blt k 110 then bif Nat.beq k 109 then cd_X8_thrown else (fun _ => none)
  else bif Nat.beq k 110 then cd_X8_fails else (fun _ => none)
  else bif Nat.blt k 166 then bif Nat.blt k 138 then bif Nat.blt k 124 then bif Nat.blt k 117 then bif Nat.blt k 114 then bif Nat.blt k 112 then bif Nat.beq k 111 then cd_X8_in else (fun _ => none)
  else bif Nat.blt k 113 then bif Nat.beq k 112 then cd_X8_min else (fun _ => none)
  else bif Nat.beq k 113 then cd_X8_copy else (fun _ => none)
  else bif Nat.blt k 115 then bif Nat.beq k 114 then cd_X8_edge else (fun _ => none)
  else bif Nat.blt k 116 then bif Nat.beq k 115 then cd_X8_ban else (fun _ => none)
  else bif Nat.beq k 116 then cd_X8_tour else (fun _ => none)
  else bif Nat.blt k 120 then bif Nat.blt k 118 then bif Nat.beq k 117 then cd_X8_append else (fun _ => none)
  else bif Nat.blt k 119 then bif Nat.beq k 118 then cd_X8_byteAt else (fun _ => none)
  else bif Nat.beq k 119 then cd_X8_next else (fun _ => none)
  else bif Nat.blt k 122 then bif Nat.blt k 121 then bif Nat.beq k 120 then cd_X8_isGood else (fun _ => none)
  else bif Nat.beq k 121 then cd_X8_report else (fun _ => none)
  else bif Nat.blt k 123 then bif Nat.beq k 122 then cd_X8_isDigit else (fun _ => none)
  else bif Nat.beq k 123 then cd_X8_takeWord else (fun _ => none)
  else bif Nat.blt k 131 then bif Nat.blt k 127 then bif Nat.blt k 125 then bif Nat.beq k 124 then cd_X8_expect else (fun _ => none)
  else bif Nat.blt k 126 then bif Nat.beq k 125 then cd_X8_number else (fun _ => none)
  else bif Nat.beq k 126 then cd_X8_emit else (fun _ => none)
  else bif Nat.blt k 129 then bif Nat.blt k 128 then bif Nat.beq k 127 then cd_X8_factor else (fun _ => none)
  else bif Nat.beq k 128 then cd_X8_term else (fun _ => none)
  else bif Nat.blt k 130 then bif Nat.beq k 129 then cd_X8_sum else (fun _ => none)
  else bif Nat.beq k 130 then cd_X8_once else (fun _ => none)
  else bif Nat.blt k 134 then bif Nat.blt k 132 then bif Nat.beq k 131 then cd_X8_readEdge else (fun _ => none)
  else bif Nat.blt k 133 then bif Nat.beq k 132 then cd_X8_edgeAt else (fun _ => none)
  else bif Nat.beq k 133 then cd_X8_readBan else (fun _ => none)
  else bif Nat.blt k 136 then bif Nat.blt k 135 then bif Nat.beq k 134 then cd_X8_readDepot else (fun _ => none)
  else bif Nat.beq k 135 then cd_X8_statement else (fun _ => none)
  else bif Nat.blt k 137 then bif Nat.beq k 136 then cd_X8_load else (fun _ => none)
  else bif Nat.beq k 137 then cd_X8_errorOffset else (fun _ => none)
  else bif Nat.blt k 152 then bif Nat.blt k 145 then bif Nat.blt k 141 then bif Nat.blt k 139 then bif Nat.beq k 138 then cd_X8_arcs else (fun _ => none)
  else bif Nat.blt k 140 then bif Nat.beq k 139 then cd_X8_tail else (fun _ => none)
  else bif Nat.beq k 140 then cd_X8_head else (fun _ => none)
  else bif Nat.blt k 143 then bif Nat.blt k 142 then bif Nat.beq k 141 then cd_X8_costOf else (fun _ => none)
  else bif Nat.beq k 142 then cd_X8_follows else (fun _ => none)
  else bif Nat.blt k 144 then bif Nat.beq k 143 then cd_X8_layGaps else (fun _ => none)
  else bif Nat.beq k 144 then cd_X8_approach else (fun _ => none)
  else bif Nat.blt k 148 then bif Nat.blt k 146 then bif Nat.beq k 145 then cd_X8_comeBack else (fun _ => none)
  else bif Nat.blt k 147 then bif Nat.beq k 146 then cd_X8_distanceOf else (fun _ => none)
  else bif Nat.beq k 147 then cd_X8_limited else (fun _ => none)
  else bif Nat.blt k 150 then bif Nat.blt k 149 then bif Nat.beq k 148 then cd_X8_operate else (fun _ => none)
  else bif Nat.beq k 149 then cd_X8_serviceOf else (fun _ => none)
  else bif Nat.blt k 151 then bif Nat.beq k 150 then cd_X8_lengthOf else (fun _ => none)
  else bif Nat.beq k 151 then cd_X8_arcOf else (fun _ => none)
  else bif Nat.blt k 159 then bif Nat.blt k 155 then bif Nat.blt k 153 then bif Nat.beq k 152 then cd_X8_costOfTour else (fun _ => none)
  else bif Nat.blt k 154 then bif Nat.beq k 153 then cd_X8_loadOfTour else (fun _ => none)
  else bif Nat.beq k 154 then cd_X8_demandOf else (fun _ => none)
  else bif Nat.blt k 157 then bif Nat.blt k 156 then bif Nat.beq k 155 then cd_X8_totalOf else (fun _ => none)
  else bif Nat.beq k 156 then cd_X8_tourWith else (fun _ => none)
  else bif Nat.blt k 158 then bif Nat.beq k 157 then cd_X8_placeIn else (fun _ => none)
  else bif Nat.beq k 158 then cd_X8_put else (fun _ => none)
  else bif Nat.blt k 162 then bif Nat.blt k 160 then bif Nat.beq k 159 then cd_X8_take else (fun _ => none)
  else bif Nat.blt k 161 then bif Nat.beq k 160 then cd_X8_costWith else (fun _ => none)
  else bif Nat.beq k 161 then cd_X8_canBeServed else (fun _ => none)
  else bif Nat.blt k 164 then bif Nat.blt k 163 then bif Nat.beq k 162 then cd_X8_findInsertion else (fun _ => none)
  else bif Nat.beq k 163 then cd_X8_putBy else (fun _ => none)
  else bif Nat.blt k 165 then bif Nat.beq k 164 then cd_X8_change else (fun _ => none)
  else bif Nat.beq k 165 then cd_X8_gainOf else (fun _ => none)
  else bif Nat.blt k 194 then bif Nat.blt k 180 then bif Nat.blt k 173 then bif Nat.blt k 169 then bif Nat.blt k 167 then bif Nat.beq k 166 then cd_X8_noEdge else (fun _ => none)
  else bif Nat.blt k 168 then bif Nat.beq k 167 then cd_X8_noArc else (fun _ => none)
  else bif Nat.beq k 168 then cd_X8_noNode else (fun _ => none)
  else bif Nat.blt k 171 then bif Nat.blt k 170 then bif Nat.beq k 169 then cd_X8_noTour else (fun _ => none)
  else bif Nat.beq k 170 then cd_X8_told else (fun _ => none)
  else bif Nat.blt k 172 then bif Nat.beq k 171 then cd_X8_nodeCount else (fun _ => none)
  else bif Nat.beq k 172 then cd_X8_edgeCount else (fun _ => none)
  else bif Nat.blt k 176 then bif Nat.blt k 174 then bif Nat.beq k 173 then cd_X8_depotCount else (fun _ => none)
  else bif Nat.blt k 175 then bif Nat.beq k 174 then cd_X8_tourCount else (fun _ => none)
  else bif Nat.beq k 175 then cd_X8_edge_ else (fun _ => none)
  else bif Nat.blt k 178 then bif Nat.blt k 177 then bif Nat.beq k 176 then cd_X8_mayFollow else (fun _ => none)
  else bif Nat.beq k 177 then cd_X8_deadhead else (fun _ => none)
  else bif Nat.blt k 179 then bif Nat.beq k 178 then cd_X8_distance else (fun _ => none)
  else bif Nat.beq k 179 then cd_X8_serviceCost else (fun _ => none)
  else bif Nat.blt k 187 then bif Nat.blt k 183 then bif Nat.blt k 181 then bif Nat.beq k 180 then cd_X8_oddOnes else (fun _ => none)
  else bif Nat.blt k 182 then bif Nat.beq k 181 then cd_X8_oddNodes else (fun _ => none)
  else bif Nat.beq k 182 then cd_X8_match else (fun _ => none)
  else bif Nat.blt k 185 then bif Nat.blt k 184 then bif Nat.beq k 183 then cd_X8_matching else (fun _ => none)
  else bif Nat.beq k 184 then cd_X8_depotOf else (fun _ => none)
  else bif Nat.blt k 186 then bif Nat.beq k 185 then cd_X8_length else (fun _ => none)
  else bif Nat.beq k 186 then cd_X8_arcAt else (fun _ => none)
  else bif Nat.blt k 190 then bif Nat.blt k 188 then bif Nat.beq k 187 then cd_X8_loadOf else (fun _ => none)
  else bif Nat.blt k 189 then bif Nat.beq k 188 then cd_X8_tourCost else (fun _ => none)
  else bif Nat.beq k 189 then cd_X8_totalCost else (fun _ => none)
  else bif Nat.blt k 192 then bif Nat.blt k 191 then bif Nat.beq k 190 then cd_X8_unservedOnes else (fun _ => none)
  else bif Nat.beq k 191 then cd_X8_unserved else (fun _ => none)
  else bif Nat.blt k 193 then bif Nat.beq k 192 then cd_X8_tourOf else (fun _ => none)
  else bif Nat.beq k 193 then cd_X8_bestInsertion else (fun _ => none)
  else bif Nat.blt k 208 then bif Nat.blt k 201 then bif Nat.blt k 197 then bif Nat.blt k 195 then bif Nat.beq k 194 then cd_X8_remember else (fun _ => none)
  else bif Nat.blt k 196 then bif Nat.beq k 195 then cd_X8_openTour else (fun _ => none)
  else bif Nat.beq k 196 then cd_X8_insert else (fun _ => none)
  else bif Nat.blt k 199 then bif Nat.blt k 198 then bif Nat.beq k 197 then cd_X8_drop else (fun _ => none)
  else bif Nat.beq k 198 then cd_X8_flip else (fun _ => none)
  else bif Nat.blt k 200 then bif Nat.beq k 199 then cd_X8_build else (fun _ => none)
  else bif Nat.beq k 200 then cd_X8_improve else (fun _ => none)
  else bif Nat.blt k 204 then bif Nat.blt k 202 then bif Nat.beq k 201 then cd_X8_undo else (fun _ => none)
  else bif Nat.blt k 203 then bif Nat.beq k 202 then cd_X8_checksum else (fun _ => none)
  else bif Nat.beq k 203 then cd_L_load else (fun _ => none)
  else bif Nat.blt k 206 then bif Nat.blt k 205 then bif Nat.beq k 204 then cd_L_edge else (fun _ => none)
  else bif Nat.beq k 205 then cd_L_mayFollow else (fun _ => none)
  else bif Nat.blt k 207 then bif Nat.beq k 206 then cd_L_deadhead else (fun _ => none)
  else bif Nat.beq k 207 then cd_L_distance else (fun _ => none)
  else bif Nat.blt k 215 then bif Nat.blt k 211 then bif Nat.blt k 209 then bif Nat.beq k 208 then cd_L_serviceCost else (fun _ => none)
  else bif Nat.blt k 210 then bif Nat.beq k 209 then cd_L_depotOf else (fun _ => none)
  else bif Nat.beq k 210 then cd_L_length else (fun _ => none)
  else bif Nat.blt k 213 then bif Nat.blt k 212 then bif Nat.beq k 211 then cd_L_arcAt else (fun _ => none)
  else bif Nat.beq k 212 then cd_L_loadOf else (fun _ => none)
  else bif Nat.blt k 214 then bif Nat.beq k 213 then cd_L_tourCost else (fun _ => none)
  else bif Nat.beq k 214 then cd_L_tourOf else (fun _ => none)
  else bif Nat.blt k 218 then bif Nat.blt k 216 then bif Nat.beq k 215 then cd_L_bestInsertion else (fun _ => none)
  else bif Nat.blt k 217 then bif Nat.beq k 216 then cd_L_openTour else (fun _ => none)
  else bif Nat.beq k 217 then cd_L_insert else (fun _ => none)
  else bif Nat.blt k 220 then bif Nat.blt k 219 then bif Nat.beq k 218 then cd_L_drop else (fun _ => none)
  else bif Nat.beq k 219 then cd_L_flip else (fun _ => none)
  else bif Nat.blt k 221 then bif Nat.beq k 220 then cd_L_improve else (fun _ => none)
  else bif Nat.beq k 221 then cd_L_law else (fun _ => none)
def mcOf (k : Nat) : Nat :=
bif Nat.blt k 102 then bif Nat.blt k 87 then bif Nat.blt k 80 then bif Nat.blt k 77 then bif Nat.blt k 76 then bif Nat.beq k 70 then 1 else 0
  else bif Nat.beq k 76 then 2 else 0
  else bif Nat.blt k 78 then bif Nat.beq k 77 then 2 else 0
  else bif Nat.blt k 79 then bif Nat.beq k 78 then 2 else 0
  else bif Nat.beq k 79 then 2 else 0
  else bif Nat.blt k 84 then bif Nat.blt k 83 then bif Nat.beq k 80 then 1 else 0
  else bif Nat.beq k 83 then 1 else 0
  else bif Nat.blt k 85 then bif Nat.beq k 84 then 1 else 0
  else bif Nat.blt k 86 then bif Nat.beq k 85 then 2 else 0
  else bif Nat.beq k 86 then 1 else 0
  else bif Nat.blt k 94 then bif Nat.blt k 91 then bif Nat.blt k 90 then bif Nat.beq k 87 then 1 else 0
  else bif Nat.beq k 90 then 1 else 0
  else bif Nat.blt k 92 then bif Nat.beq k 91 then 2 else 0
  else bif Nat.blt k 93 then bif Nat.beq k 92 then 2 else 0
  else bif Nat.beq k 93 then 5 else 0
  else bif Nat.blt k 97 then bif Nat.blt k 95 then bif Nat.beq k 94 then 3 else 0
  else bif Nat.beq k 95 then 3 else 0
  else bif Nat.blt k 100 then bif Nat.beq k 97 then 1 else 0
  else bif Nat.blt k 101 then bif Nat.beq k 100 then 1 else 0
  else bif Nat.beq k 101 then 1 else 0
  else bif Nat.blt k 211 then bif Nat.blt k 206 then bif Nat.blt k 203 then bif Nat.blt k 103 then bif Nat.beq k 102 then 1 else 0
  else bif Nat.beq k 103 then 1 else 0
  else bif Nat.blt k 204 then bif Nat.beq k 203 then 1 else 0
  else bif Nat.blt k 205 then bif Nat.beq k 204 then 2 else 0
  else bif Nat.beq k 205 then 2 else 0
  else bif Nat.blt k 208 then bif Nat.blt k 207 then bif Nat.beq k 206 then 2 else 0
  else bif Nat.beq k 207 then 2 else 0
  else bif Nat.blt k 209 then bif Nat.beq k 208 then 1 else 0
  else bif Nat.blt k 210 then bif Nat.beq k 209 then 1 else 0
  else bif Nat.beq k 210 then 1 else 0
  else bif Nat.blt k 216 then bif Nat.blt k 213 then bif Nat.blt k 212 then bif Nat.beq k 211 then 2 else 0
  else bif Nat.beq k 212 then 1 else 0
  else bif Nat.blt k 214 then bif Nat.beq k 213 then 1 else 0
  else bif Nat.blt k 215 then bif Nat.beq k 214 then 1 else 0
  else bif Nat.beq k 215 then 2 else 0
  else bif Nat.blt k 219 then bif Nat.blt k 217 then bif Nat.beq k 216 then 2 else 0
  else bif Nat.blt k 218 then bif Nat.beq k 217 then 5 else 0
  else bif Nat.beq k 218 then 3 else 0
  else bif Nat.blt k 220 then bif Nat.beq k 219 then 3 else 0
  else bif Nat.blt k 221 then bif Nat.beq k 220 then 1 else 0
  else bif Nat.beq k 221 then 20000 else 0
def rtOf (k : Nat) : Nat :=
  bif Nat.blt k 111 then bif Nat.blt k 55 then bif Nat.blt k 27 then bif Nat.blt k 13 then bif Nat.blt k 6 then bif Nat.blt k 3 then bif Nat.blt k 1 then bif Nat.beq k 0 then 0 else 0
  else bif Nat.blt k 2 then bif Nat.beq k 1 then 0 else 0
  else bif Nat.beq k 2 then 0 else 0
  else bif Nat.blt k 4 then bif Nat.beq k 3 then 1 else 0
  else bif Nat.blt k 5 then bif Nat.beq k 4 then 1 else 0
  else bif Nat.beq k 5 then 2 else 0
  else bif Nat.blt k 9 then bif Nat.blt k 7 then bif Nat.beq k 6 then 0 else 0
  else bif Nat.blt k 8 then bif Nat.beq k 7 then 2 else 0
  else bif Nat.beq k 8 then 0 else 0
  else bif Nat.blt k 11 then bif Nat.blt k 10 then bif Nat.beq k 9 then 0 else 0
  else bif Nat.beq k 10 then 0 else 0
  else bif Nat.blt k 12 then bif Nat.beq k 11 then 0 else 0
  else bif Nat.beq k 12 then 0 else 0
  else bif Nat.blt k 20 then bif Nat.blt k 16 then bif Nat.blt k 14 then bif Nat.beq k 13 then 0 else 0
  else bif Nat.blt k 15 then bif Nat.beq k 14 then 1 else 0
  else bif Nat.beq k 15 then 1 else 0
  else bif Nat.blt k 18 then bif Nat.blt k 17 then bif Nat.beq k 16 then 2 else 0
  else bif Nat.beq k 17 then 2 else 0
  else bif Nat.blt k 19 then bif Nat.beq k 18 then 1 else 0
  else bif Nat.beq k 19 then 0 else 0
  else bif Nat.blt k 23 then bif Nat.blt k 21 then bif Nat.beq k 20 then 0 else 0
  else bif Nat.blt k 22 then bif Nat.beq k 21 then 1 else 0
  else bif Nat.beq k 22 then 1 else 0
  else bif Nat.blt k 25 then bif Nat.blt k 24 then bif Nat.beq k 23 then 1 else 0
  else bif Nat.beq k 24 then 1 else 0
  else bif Nat.blt k 26 then bif Nat.beq k 25 then 0 else 0
  else bif Nat.beq k 26 then 0 else 0
  else bif Nat.blt k 41 then bif Nat.blt k 34 then bif Nat.blt k 30 then bif Nat.blt k 28 then bif Nat.beq k 27 then 0 else 0
  else bif Nat.blt k 29 then bif Nat.beq k 28 then 2 else 0
  else bif Nat.beq k 29 then 1 else 0
  else bif Nat.blt k 32 then bif Nat.blt k 31 then bif Nat.beq k 30 then 2 else 0
  else bif Nat.beq k 31 then 1 else 0
  else bif Nat.blt k 33 then bif Nat.beq k 32 then 1 else 0
  else bif Nat.beq k 33 then 1 else 0
  else bif Nat.blt k 37 then bif Nat.blt k 35 then bif Nat.beq k 34 then 2 else 0
  else bif Nat.blt k 36 then bif Nat.beq k 35 then 2 else 0
  else bif Nat.beq k 36 then 1 else 0
  else bif Nat.blt k 39 then bif Nat.blt k 38 then bif Nat.beq k 37 then 1 else 0
  else bif Nat.beq k 38 then 2 else 0
  else bif Nat.blt k 40 then bif Nat.beq k 39 then 1 else 0
  else bif Nat.beq k 40 then 1 else 0
  else bif Nat.blt k 48 then bif Nat.blt k 44 then bif Nat.blt k 42 then bif Nat.beq k 41 then 0 else 0
  else bif Nat.blt k 43 then bif Nat.beq k 42 then 0 else 0
  else bif Nat.beq k 43 then 0 else 0
  else bif Nat.blt k 46 then bif Nat.blt k 45 then bif Nat.beq k 44 then 1 else 0
  else bif Nat.beq k 45 then 1 else 0
  else bif Nat.blt k 47 then bif Nat.beq k 46 then 1 else 0
  else bif Nat.beq k 47 then 1 else 0
  else bif Nat.blt k 51 then bif Nat.blt k 49 then bif Nat.beq k 48 then 1 else 0
  else bif Nat.blt k 50 then bif Nat.beq k 49 then 0 else 0
  else bif Nat.beq k 50 then 1 else 0
  else bif Nat.blt k 53 then bif Nat.blt k 52 then bif Nat.beq k 51 then 0 else 0
  else bif Nat.beq k 52 then 0 else 0
  else bif Nat.blt k 54 then bif Nat.beq k 53 then 0 else 0
  else bif Nat.beq k 54 then 1 else 0
  else bif Nat.blt k 83 then bif Nat.blt k 69 then bif Nat.blt k 62 then bif Nat.blt k 58 then bif Nat.blt k 56 then bif Nat.beq k 55 then 0 else 0
  else bif Nat.blt k 57 then bif Nat.beq k 56 then 0 else 0
  else bif Nat.beq k 57 then 0 else 0
  else bif Nat.blt k 60 then bif Nat.blt k 59 then bif Nat.beq k 58 then 0 else 0
  else bif Nat.beq k 59 then 0 else 0
  else bif Nat.blt k 61 then bif Nat.beq k 60 then 0 else 0
  else bif Nat.beq k 61 then 1 else 0
  else bif Nat.blt k 65 then bif Nat.blt k 63 then bif Nat.beq k 62 then 0 else 0
  else bif Nat.blt k 64 then bif Nat.beq k 63 then 0 else 0
  else bif Nat.beq k 64 then 2 else 0
  else bif Nat.blt k 67 then bif Nat.blt k 66 then bif Nat.beq k 65 then 0 else 0
  else bif Nat.beq k 66 then 1 else 0
  else bif Nat.blt k 68 then bif Nat.beq k 67 then 2 else 0
  else bif Nat.beq k 68 then 2 else 0
  else bif Nat.blt k 76 then bif Nat.blt k 72 then bif Nat.blt k 70 then bif Nat.beq k 69 then 1 else 0
  else bif Nat.blt k 71 then bif Nat.beq k 70 then 1 else 0
  else bif Nat.beq k 71 then 1 else 0
  else bif Nat.blt k 74 then bif Nat.blt k 73 then bif Nat.beq k 72 then 1 else 0
  else bif Nat.beq k 73 then 1 else 0
  else bif Nat.blt k 75 then bif Nat.beq k 74 then 1 else 0
  else bif Nat.beq k 75 then 1 else 0
  else bif Nat.blt k 79 then bif Nat.blt k 77 then bif Nat.beq k 76 then 1 else 0
  else bif Nat.blt k 78 then bif Nat.beq k 77 then 2 else 0
  else bif Nat.beq k 78 then 1 else 0
  else bif Nat.blt k 81 then bif Nat.blt k 80 then bif Nat.beq k 79 then 1 else 0
  else bif Nat.beq k 80 then 1 else 0
  else bif Nat.blt k 82 then bif Nat.beq k 81 then 1 else 0
  else bif Nat.beq k 82 then 1 else 0
  else bif Nat.blt k 97 then bif Nat.blt k 90 then bif Nat.blt k 86 then bif Nat.blt k 84 then bif Nat.beq k 83 then 1 else 0
  else bif Nat.blt k 85 then bif Nat.beq k 84 then 1 else 0
  else bif Nat.beq k 85 then 1 else 0
  else bif Nat.blt k 88 then bif Nat.blt k 87 then bif Nat.beq k 86 then 1 else 0
  else bif Nat.beq k 87 then 1 else 0
  else bif Nat.blt k 89 then bif Nat.beq k 88 then 1 else 0
  else bif Nat.beq k 89 then 1 else 0
  else bif Nat.blt k 93 then bif Nat.blt k 91 then bif Nat.beq k 90 then 1 else 0
  else bif Nat.blt k 92 then bif Nat.beq k 91 then 1 else 0
  else bif Nat.beq k 92 then 1 else 0
  else bif Nat.blt k 95 then bif Nat.blt k 94 then bif Nat.beq k 93 then 1 else 0
  else bif Nat.beq k 94 then 1 else 0
  else bif Nat.blt k 96 then bif Nat.beq k 95 then 1 else 0
  else bif Nat.beq k 96 then 1 else 0
  else bif Nat.blt k 104 then bif Nat.blt k 100 then bif Nat.blt k 98 then bif Nat.beq k 97 then 1 else 0
  else bif Nat.blt k 99 then bif Nat.beq k 98 then 1 else 0
  else bif Nat.beq k 99 then 3 else 0
  else bif Nat.blt k 102 then bif Nat.blt k 101 then bif Nat.beq k 100 then 0 else 0
  else bif Nat.beq k 101 then 0 else 0
  else bif Nat.blt k 103 then bif Nat.beq k 102 then 0 else 0
  else bif Nat.beq k 103 then 0 else 0
  else bif Nat.blt k 107 then bif Nat.blt k 105 then bif Nat.beq k 104 then 1 else 0
  else bif Nat.blt k 106 then bif Nat.beq k 105 then 1 else 0
  else bif Nat.beq k 106 then 1 else 0
  else bif Nat.blt k 109 then bif Nat.blt k 108 then bif Nat.beq k 107 then 0 else 0
  else bif Nat.beq k 108 then 0 else 0
  else bif Nat.blt k 110 then bif Nat.beq k 109 then 1 else 0
  else bif Nat.beq k 110 then 2 else 0
  else bif Nat.blt k 166 then bif Nat.blt k 138 then bif Nat.blt k 124 then bif Nat.blt k 117 then bif Nat.blt k 114 then bif Nat.blt k 112 then bif Nat.beq k 111 then 2 else 0
  else bif Nat.blt k 113 then bif Nat.beq k 112 then 1 else 0
  else bif Nat.beq k 113 then 0 else 0
  else bif Nat.blt k 115 then bif Nat.beq k 114 then 1 else 0
  else bif Nat.blt k 116 then bif Nat.beq k 115 then 1 else 0
  else bif Nat.beq k 116 then 1 else 0
  else bif Nat.blt k 120 then bif Nat.blt k 118 then bif Nat.beq k 117 then 1 else 0
  else bif Nat.blt k 119 then bif Nat.beq k 118 then 1 else 0
  else bif Nat.beq k 119 then 1 else 0
  else bif Nat.blt k 122 then bif Nat.blt k 121 then bif Nat.beq k 120 then 2 else 0
  else bif Nat.beq k 121 then 0 else 0
  else bif Nat.blt k 123 then bif Nat.beq k 122 then 2 else 0
  else bif Nat.beq k 123 then 2 else 0
  else bif Nat.blt k 131 then bif Nat.blt k 127 then bif Nat.blt k 125 then bif Nat.beq k 124 then 0 else 0
  else bif Nat.blt k 126 then bif Nat.beq k 125 then 1 else 0
  else bif Nat.beq k 126 then 0 else 0
  else bif Nat.blt k 129 then bif Nat.blt k 128 then bif Nat.beq k 127 then 0 else 0
  else bif Nat.beq k 128 then 0 else 0
  else bif Nat.blt k 130 then bif Nat.beq k 129 then 0 else 0
  else bif Nat.beq k 130 then 0 else 0
  else bif Nat.blt k 134 then bif Nat.blt k 132 then bif Nat.beq k 131 then 0 else 0
  else bif Nat.blt k 133 then bif Nat.beq k 132 then 1 else 0
  else bif Nat.beq k 133 then 0 else 0
  else bif Nat.blt k 136 then bif Nat.blt k 135 then bif Nat.beq k 134 then 0 else 0
  else bif Nat.beq k 135 then 0 else 0
  else bif Nat.blt k 137 then bif Nat.beq k 136 then 1 else 0
  else bif Nat.beq k 137 then 1 else 0
  else bif Nat.blt k 152 then bif Nat.blt k 145 then bif Nat.blt k 141 then bif Nat.blt k 139 then bif Nat.beq k 138 then 1 else 0
  else bif Nat.blt k 140 then bif Nat.beq k 139 then 1 else 0
  else bif Nat.beq k 140 then 1 else 0
  else bif Nat.blt k 143 then bif Nat.blt k 142 then bif Nat.beq k 141 then 1 else 0
  else bif Nat.beq k 142 then 2 else 0
  else bif Nat.blt k 144 then bif Nat.beq k 143 then 0 else 0
  else bif Nat.beq k 144 then 1 else 0
  else bif Nat.blt k 148 then bif Nat.blt k 146 then bif Nat.beq k 145 then 1 else 0
  else bif Nat.blt k 147 then bif Nat.beq k 146 then 1 else 0
  else bif Nat.beq k 147 then 3 else 0
  else bif Nat.blt k 150 then bif Nat.blt k 149 then bif Nat.beq k 148 then 3 else 0
  else bif Nat.beq k 149 then 1 else 0
  else bif Nat.blt k 151 then bif Nat.beq k 150 then 1 else 0
  else bif Nat.beq k 151 then 1 else 0
  else bif Nat.blt k 159 then bif Nat.blt k 155 then bif Nat.blt k 153 then bif Nat.beq k 152 then 1 else 0
  else bif Nat.blt k 154 then bif Nat.beq k 153 then 1 else 0
  else bif Nat.beq k 154 then 1 else 0
  else bif Nat.blt k 157 then bif Nat.blt k 156 then bif Nat.beq k 155 then 1 else 0
  else bif Nat.beq k 156 then 1 else 0
  else bif Nat.blt k 158 then bif Nat.beq k 157 then 1 else 0
  else bif Nat.beq k 158 then 0 else 0
  else bif Nat.blt k 162 then bif Nat.blt k 160 then bif Nat.beq k 159 then 0 else 0
  else bif Nat.blt k 161 then bif Nat.beq k 160 then 1 else 0
  else bif Nat.beq k 161 then 2 else 0
  else bif Nat.blt k 164 then bif Nat.blt k 163 then bif Nat.beq k 162 then 1 else 0
  else bif Nat.beq k 163 then 0 else 0
  else bif Nat.blt k 165 then bif Nat.beq k 164 then 1 else 0
  else bif Nat.beq k 165 then 1 else 0
  else bif Nat.blt k 194 then bif Nat.blt k 180 then bif Nat.blt k 173 then bif Nat.blt k 169 then bif Nat.blt k 167 then bif Nat.beq k 166 then 2 else 0
  else bif Nat.blt k 168 then bif Nat.beq k 167 then 2 else 0
  else bif Nat.beq k 168 then 2 else 0
  else bif Nat.blt k 171 then bif Nat.blt k 170 then bif Nat.beq k 169 then 2 else 0
  else bif Nat.beq k 170 then 1 else 0
  else bif Nat.blt k 172 then bif Nat.beq k 171 then 1 else 0
  else bif Nat.beq k 172 then 1 else 0
  else bif Nat.blt k 176 then bif Nat.blt k 174 then bif Nat.beq k 173 then 1 else 0
  else bif Nat.blt k 175 then bif Nat.beq k 174 then 1 else 0
  else bif Nat.beq k 175 then 1 else 0
  else bif Nat.blt k 178 then bif Nat.blt k 177 then bif Nat.beq k 176 then 2 else 0
  else bif Nat.beq k 177 then 1 else 0
  else bif Nat.blt k 179 then bif Nat.beq k 178 then 1 else 0
  else bif Nat.beq k 179 then 1 else 0
  else bif Nat.blt k 187 then bif Nat.blt k 183 then bif Nat.blt k 181 then bif Nat.beq k 180 then 1 else 0
  else bif Nat.blt k 182 then bif Nat.beq k 181 then 1 else 0
  else bif Nat.beq k 182 then 1 else 0
  else bif Nat.blt k 185 then bif Nat.blt k 184 then bif Nat.beq k 183 then 1 else 0
  else bif Nat.beq k 184 then 1 else 0
  else bif Nat.blt k 186 then bif Nat.beq k 185 then 1 else 0
  else bif Nat.beq k 186 then 1 else 0
  else bif Nat.blt k 190 then bif Nat.blt k 188 then bif Nat.beq k 187 then 1 else 0
  else bif Nat.blt k 189 then bif Nat.beq k 188 then 1 else 0
  else bif Nat.beq k 189 then 1 else 0
  else bif Nat.blt k 192 then bif Nat.blt k 191 then bif Nat.beq k 190 then 1 else 0
  else bif Nat.beq k 191 then 1 else 0
  else bif Nat.blt k 193 then bif Nat.beq k 192 then 1 else 0
  else bif Nat.beq k 193 then 1 else 0
  else bif Nat.blt k 208 then bif Nat.blt k 201 then bif Nat.blt k 197 then bif Nat.blt k 195 then bif Nat.beq k 194 then 0 else 0
  else bif Nat.blt k 196 then bif Nat.beq k 195 then 1 else 0
  else bif Nat.beq k 196 then 1 else 0
  else bif Nat.blt k 199 then bif Nat.blt k 198 then bif Nat.beq k 197 then 1 else 0
  else bif Nat.beq k 198 then 1 else 0
  else bif Nat.blt k 200 then bif Nat.beq k 199 then 1 else 0
  else bif Nat.beq k 200 then 1 else 0
  else bif Nat.blt k 204 then bif Nat.blt k 202 then bif Nat.beq k 201 then 1 else 0
  else bif Nat.blt k 203 then bif Nat.beq k 202 then 3 else 0
  else bif Nat.beq k 203 then 1 else 0
  else bif Nat.blt k 206 then bif Nat.blt k 205 then bif Nat.beq k 204 then 1 else 0
  else bif Nat.beq k 205 then 1 else 0
  else bif Nat.blt k 207 then bif Nat.beq k 206 then 1 else 0
  else bif Nat.beq k 207 then 1 else 0
  else bif Nat.blt k 215 then bif Nat.blt k 211 then bif Nat.blt k 209 then bif Nat.beq k 208 then 1 else 0
  else bif Nat.blt k 210 then bif Nat.beq k 209 then 1 else 0
  else bif Nat.beq k 210 then 1 else 0
  else bif Nat.blt k 213 then bif Nat.blt k 212 then bif Nat.beq k 211 then 1 else 0
  else bif Nat.beq k 212 then 1 else 0
  else bif Nat.blt k 214 then bif Nat.beq k 213 then 1 else 0
  else bif Nat.beq k 214 then 1 else 0
  else bif Nat.blt k 218 then bif Nat.blt k 216 then bif Nat.beq k 215 then 1 else 0
  else bif Nat.blt k 217 then bif Nat.beq k 216 then 1 else 0
  else bif Nat.beq k 217 then 1 else 0
  else bif Nat.blt k 220 then bif Nat.blt k 219 then bif Nat.beq k 218 then 1 else 0
  else bif Nat.beq k 219 then 1 else 0
  else bif Nat.blt k 221 then bif Nat.beq k 220 then 1 else 0
  else bif Nat.beq k 221 then 2 else 0
def nLOf (k : Nat) : Nat :=
  bif Nat.blt k 111 then bif Nat.blt k 55 then bif Nat.blt k 27 then bif Nat.blt k 13 then bif Nat.blt k 6 then bif Nat.blt k 3 then bif Nat.blt k 1 then bif Nat.beq k 0 then 1 else 0
  else bif Nat.blt k 2 then bif Nat.beq k 1 then 2 else 0
  else bif Nat.beq k 2 then 2 else 0
  else bif Nat.blt k 4 then bif Nat.beq k 3 then 6 else 0
  else bif Nat.blt k 5 then bif Nat.beq k 4 then 7 else 0
  else bif Nat.beq k 5 then 2 else 0
  else bif Nat.blt k 9 then bif Nat.blt k 7 then bif Nat.beq k 6 then 4 else 0
  else bif Nat.blt k 8 then bif Nat.beq k 7 then 4 else 0
  else bif Nat.beq k 8 then 1 else 0
  else bif Nat.blt k 11 then bif Nat.blt k 10 then bif Nat.beq k 9 then 2 else 0
  else bif Nat.beq k 10 then 6 else 0
  else bif Nat.blt k 12 then bif Nat.beq k 11 then 4 else 0
  else bif Nat.beq k 12 then 2 else 0
  else bif Nat.blt k 20 then bif Nat.blt k 16 then bif Nat.blt k 14 then bif Nat.beq k 13 then 5 else 0
  else bif Nat.blt k 15 then bif Nat.beq k 14 then 2 else 0
  else bif Nat.beq k 15 then 2 else 0
  else bif Nat.blt k 18 then bif Nat.blt k 17 then bif Nat.beq k 16 then 3 else 0
  else bif Nat.beq k 17 then 3 else 0
  else bif Nat.blt k 19 then bif Nat.beq k 18 then 3 else 0
  else bif Nat.beq k 19 then 1 else 0
  else bif Nat.blt k 23 then bif Nat.blt k 21 then bif Nat.beq k 20 then 2 else 0
  else bif Nat.blt k 22 then bif Nat.beq k 21 then 3 else 0
  else bif Nat.beq k 22 then 3 else 0
  else bif Nat.blt k 25 then bif Nat.blt k 24 then bif Nat.beq k 23 then 3 else 0
  else bif Nat.beq k 24 then 5 else 0
  else bif Nat.blt k 26 then bif Nat.beq k 25 then 7 else 0
  else bif Nat.beq k 26 then 6 else 0
  else bif Nat.blt k 41 then bif Nat.blt k 34 then bif Nat.blt k 30 then bif Nat.blt k 28 then bif Nat.beq k 27 then 4 else 0
  else bif Nat.blt k 29 then bif Nat.beq k 28 then 2 else 0
  else bif Nat.beq k 29 then 5 else 0
  else bif Nat.blt k 32 then bif Nat.blt k 31 then bif Nat.beq k 30 then 3 else 0
  else bif Nat.beq k 31 then 5 else 0
  else bif Nat.blt k 33 then bif Nat.beq k 32 then 7 else 0
  else bif Nat.beq k 33 then 7 else 0
  else bif Nat.blt k 37 then bif Nat.blt k 35 then bif Nat.beq k 34 then 5 else 0
  else bif Nat.blt k 36 then bif Nat.beq k 35 then 6 else 0
  else bif Nat.beq k 36 then 9 else 0
  else bif Nat.blt k 39 then bif Nat.blt k 38 then bif Nat.beq k 37 then 3 else 0
  else bif Nat.beq k 38 then 3 else 0
  else bif Nat.blt k 40 then bif Nat.beq k 39 then 8 else 0
  else bif Nat.beq k 40 then 5 else 0
  else bif Nat.blt k 48 then bif Nat.blt k 44 then bif Nat.blt k 42 then bif Nat.beq k 41 then 4 else 0
  else bif Nat.blt k 43 then bif Nat.beq k 42 then 5 else 0
  else bif Nat.beq k 43 then 9 else 0
  else bif Nat.blt k 46 then bif Nat.blt k 45 then bif Nat.beq k 44 then 6 else 0
  else bif Nat.beq k 45 then 6 else 0
  else bif Nat.blt k 47 then bif Nat.beq k 46 then 6 else 0
  else bif Nat.beq k 47 then 9 else 0
  else bif Nat.blt k 51 then bif Nat.blt k 49 then bif Nat.beq k 48 then 2 else 0
  else bif Nat.blt k 50 then bif Nat.beq k 49 then 3 else 0
  else bif Nat.beq k 50 then 3 else 0
  else bif Nat.blt k 53 then bif Nat.blt k 52 then bif Nat.beq k 51 then 2 else 0
  else bif Nat.beq k 52 then 6 else 0
  else bif Nat.blt k 54 then bif Nat.beq k 53 then 4 else 0
  else bif Nat.beq k 54 then 2 else 0
  else bif Nat.blt k 83 then bif Nat.blt k 69 then bif Nat.blt k 62 then bif Nat.blt k 58 then bif Nat.blt k 56 then bif Nat.beq k 55 then 2 else 0
  else bif Nat.blt k 57 then bif Nat.beq k 56 then 4 else 0
  else bif Nat.beq k 57 then 4 else 0
  else bif Nat.blt k 60 then bif Nat.blt k 59 then bif Nat.beq k 58 then 2 else 0
  else bif Nat.beq k 59 then 3 else 0
  else bif Nat.blt k 61 then bif Nat.beq k 60 then 2 else 0
  else bif Nat.beq k 61 then 4 else 0
  else bif Nat.blt k 65 then bif Nat.blt k 63 then bif Nat.beq k 62 then 2 else 0
  else bif Nat.blt k 64 then bif Nat.beq k 63 then 2 else 0
  else bif Nat.beq k 64 then 3 else 0
  else bif Nat.blt k 67 then bif Nat.blt k 66 then bif Nat.beq k 65 then 1 else 0
  else bif Nat.beq k 66 then 2 else 0
  else bif Nat.blt k 68 then bif Nat.beq k 67 then 1 else 0
  else bif Nat.beq k 68 then 1 else 0
  else bif Nat.blt k 76 then bif Nat.blt k 72 then bif Nat.blt k 70 then bif Nat.beq k 69 then 6 else 0
  else bif Nat.blt k 71 then bif Nat.beq k 70 then 3 else 0
  else bif Nat.beq k 71 then 1 else 0
  else bif Nat.blt k 74 then bif Nat.blt k 73 then bif Nat.beq k 72 then 1 else 0
  else bif Nat.beq k 73 then 1 else 0
  else bif Nat.blt k 75 then bif Nat.beq k 74 then 1 else 0
  else bif Nat.beq k 75 then 1 else 0
  else bif Nat.blt k 79 then bif Nat.blt k 77 then bif Nat.beq k 76 then 3 else 0
  else bif Nat.blt k 78 then bif Nat.beq k 77 then 3 else 0
  else bif Nat.beq k 78 then 3 else 0
  else bif Nat.blt k 81 then bif Nat.blt k 80 then bif Nat.beq k 79 then 3 else 0
  else bif Nat.beq k 80 then 2 else 0
  else bif Nat.blt k 82 then bif Nat.beq k 81 then 1 else 0
  else bif Nat.beq k 82 then 1 else 0
  else bif Nat.blt k 97 then bif Nat.blt k 90 then bif Nat.blt k 86 then bif Nat.blt k 84 then bif Nat.beq k 83 then 2 else 0
  else bif Nat.blt k 85 then bif Nat.beq k 84 then 2 else 0
  else bif Nat.beq k 85 then 4 else 0
  else bif Nat.blt k 88 then bif Nat.blt k 87 then bif Nat.beq k 86 then 2 else 0
  else bif Nat.beq k 87 then 2 else 0
  else bif Nat.blt k 89 then bif Nat.beq k 88 then 3 else 0
  else bif Nat.beq k 89 then 3 else 0
  else bif Nat.blt k 93 then bif Nat.blt k 91 then bif Nat.beq k 90 then 2 else 0
  else bif Nat.blt k 92 then bif Nat.beq k 91 then 2 else 0
  else bif Nat.beq k 92 then 2 else 0
  else bif Nat.blt k 95 then bif Nat.blt k 94 then bif Nat.beq k 93 then 4 else 0
  else bif Nat.beq k 94 then 4 else 0
  else bif Nat.blt k 96 then bif Nat.beq k 95 then 4 else 0
  else bif Nat.beq k 96 then 3 else 0
  else bif Nat.blt k 104 then bif Nat.blt k 100 then bif Nat.blt k 98 then bif Nat.beq k 97 then 5 else 0
  else bif Nat.blt k 99 then bif Nat.beq k 98 then 1 else 0
  else bif Nat.beq k 99 then 6 else 0
  else bif Nat.blt k 102 then bif Nat.blt k 101 then bif Nat.beq k 100 then 2 else 0
  else bif Nat.beq k 101 then 2 else 0
  else bif Nat.blt k 103 then bif Nat.beq k 102 then 2 else 0
  else bif Nat.beq k 103 then 2 else 0
  else bif Nat.blt k 107 then bif Nat.blt k 105 then bif Nat.beq k 104 then 1 else 0
  else bif Nat.blt k 106 then bif Nat.beq k 105 then 4 else 0
  else bif Nat.beq k 106 then 2 else 0
  else bif Nat.blt k 109 then bif Nat.blt k 108 then bif Nat.beq k 107 then 3 else 0
  else bif Nat.beq k 108 then 2 else 0
  else bif Nat.blt k 110 then bif Nat.beq k 109 then 1 else 0
  else bif Nat.beq k 110 then 3 else 0
  else bif Nat.blt k 166 then bif Nat.blt k 138 then bif Nat.blt k 124 then bif Nat.blt k 117 then bif Nat.blt k 114 then bif Nat.blt k 112 then bif Nat.beq k 111 then 3 else 0
  else bif Nat.blt k 113 then bif Nat.beq k 112 then 2 else 0
  else bif Nat.beq k 113 then 3 else 0
  else bif Nat.blt k 115 then bif Nat.beq k 114 then 1 else 0
  else bif Nat.blt k 116 then bif Nat.beq k 115 then 2 else 0
  else bif Nat.beq k 116 then 1 else 0
  else bif Nat.blt k 120 then bif Nat.blt k 118 then bif Nat.beq k 117 then 8 else 0
  else bif Nat.blt k 119 then bif Nat.beq k 118 then 2 else 0
  else bif Nat.beq k 119 then 1 else 0
  else bif Nat.blt k 122 then bif Nat.blt k 121 then bif Nat.beq k 120 then 1 else 0
  else bif Nat.beq k 121 then 3 else 0
  else bif Nat.blt k 123 then bif Nat.beq k 122 then 1 else 0
  else bif Nat.beq k 123 then 3 else 0
  else bif Nat.blt k 131 then bif Nat.blt k 127 then bif Nat.blt k 125 then bif Nat.beq k 124 then 2 else 0
  else bif Nat.blt k 126 then bif Nat.beq k 125 then 4 else 0
  else bif Nat.beq k 126 then 2 else 0
  else bif Nat.blt k 129 then bif Nat.blt k 128 then bif Nat.beq k 127 then 4 else 0
  else bif Nat.beq k 128 then 2 else 0
  else bif Nat.blt k 130 then bif Nat.beq k 129 then 2 else 0
  else bif Nat.beq k 130 then 3 else 0
  else bif Nat.blt k 134 then bif Nat.blt k 132 then bif Nat.beq k 131 then 8 else 0
  else bif Nat.blt k 133 then bif Nat.beq k 132 then 3 else 0
  else bif Nat.beq k 133 then 4 else 0
  else bif Nat.blt k 136 then bif Nat.blt k 135 then bif Nat.beq k 134 then 3 else 0
  else bif Nat.beq k 135 then 2 else 0
  else bif Nat.blt k 137 then bif Nat.beq k 136 then 3 else 0
  else bif Nat.beq k 137 then 1 else 0
  else bif Nat.blt k 152 then bif Nat.blt k 145 then bif Nat.blt k 141 then bif Nat.blt k 139 then bif Nat.beq k 138 then 1 else 0
  else bif Nat.blt k 140 then bif Nat.beq k 139 then 2 else 0
  else bif Nat.beq k 140 then 2 else 0
  else bif Nat.blt k 143 then bif Nat.blt k 142 then bif Nat.beq k 141 then 2 else 0
  else bif Nat.beq k 142 then 3 else 0
  else bif Nat.blt k 144 then bif Nat.beq k 143 then 5 else 0
  else bif Nat.beq k 144 then 5 else 0
  else bif Nat.blt k 148 then bif Nat.blt k 146 then bif Nat.beq k 145 then 5 else 0
  else bif Nat.blt k 147 then bif Nat.beq k 146 then 5 else 0
  else bif Nat.beq k 147 then 2 else 0
  else bif Nat.blt k 150 then bif Nat.blt k 149 then bif Nat.beq k 148 then 5 else 0
  else bif Nat.beq k 149 then 7 else 0
  else bif Nat.blt k 151 then bif Nat.beq k 150 then 2 else 0
  else bif Nat.beq k 151 then 3 else 0
  else bif Nat.blt k 159 then bif Nat.blt k 155 then bif Nat.blt k 153 then bif Nat.beq k 152 then 6 else 0
  else bif Nat.blt k 154 then bif Nat.beq k 153 then 4 else 0
  else bif Nat.beq k 154 then 2 else 0
  else bif Nat.blt k 157 then bif Nat.blt k 156 then bif Nat.beq k 155 then 3 else 0
  else bif Nat.beq k 156 then 3 else 0
  else bif Nat.blt k 158 then bif Nat.beq k 157 then 4 else 0
  else bif Nat.beq k 158 then 6 else 0
  else bif Nat.blt k 162 then bif Nat.blt k 160 then bif Nat.beq k 159 then 5 else 0
  else bif Nat.blt k 161 then bif Nat.beq k 160 then 5 else 0
  else bif Nat.beq k 161 then 2 else 0
  else bif Nat.blt k 164 then bif Nat.blt k 163 then bif Nat.beq k 162 then 9 else 0
  else bif Nat.beq k 163 then 3 else 0
  else bif Nat.blt k 165 then bif Nat.beq k 164 then 5 else 0
  else bif Nat.beq k 165 then 3 else 0
  else bif Nat.blt k 194 then bif Nat.blt k 180 then bif Nat.blt k 173 then bif Nat.blt k 169 then bif Nat.blt k 167 then bif Nat.beq k 166 then 2 else 0
  else bif Nat.blt k 168 then bif Nat.beq k 167 then 2 else 0
  else bif Nat.beq k 168 then 2 else 0
  else bif Nat.blt k 171 then bif Nat.blt k 170 then bif Nat.beq k 169 then 2 else 0
  else bif Nat.beq k 170 then 1 else 0
  else bif Nat.blt k 172 then bif Nat.beq k 171 then 1 else 0
  else bif Nat.beq k 172 then 1 else 0
  else bif Nat.blt k 176 then bif Nat.blt k 174 then bif Nat.beq k 173 then 1 else 0
  else bif Nat.blt k 175 then bif Nat.beq k 174 then 1 else 0
  else bif Nat.beq k 175 then 3 else 0
  else bif Nat.blt k 178 then bif Nat.blt k 177 then bif Nat.beq k 176 then 3 else 0
  else bif Nat.beq k 177 then 3 else 0
  else bif Nat.blt k 179 then bif Nat.beq k 178 then 3 else 0
  else bif Nat.beq k 179 then 2 else 0
  else bif Nat.blt k 187 then bif Nat.blt k 183 then bif Nat.blt k 181 then bif Nat.beq k 180 then 3 else 0
  else bif Nat.blt k 182 then bif Nat.beq k 181 then 1 else 0
  else bif Nat.beq k 182 then 5 else 0
  else bif Nat.blt k 185 then bif Nat.blt k 184 then bif Nat.beq k 183 then 1 else 0
  else bif Nat.beq k 184 then 2 else 0
  else bif Nat.blt k 186 then bif Nat.beq k 185 then 2 else 0
  else bif Nat.beq k 186 then 3 else 0
  else bif Nat.blt k 190 then bif Nat.blt k 188 then bif Nat.beq k 187 then 2 else 0
  else bif Nat.blt k 189 then bif Nat.beq k 188 then 2 else 0
  else bif Nat.beq k 189 then 1 else 0
  else bif Nat.blt k 192 then bif Nat.blt k 191 then bif Nat.beq k 190 then 3 else 0
  else bif Nat.beq k 191 then 1 else 0
  else bif Nat.blt k 193 then bif Nat.beq k 192 then 2 else 0
  else bif Nat.beq k 193 then 2 else 0
  else bif Nat.blt k 208 then bif Nat.blt k 201 then bif Nat.blt k 197 then bif Nat.blt k 195 then bif Nat.beq k 194 then 2 else 0
  else bif Nat.blt k 196 then bif Nat.beq k 195 then 3 else 0
  else bif Nat.beq k 196 then 4 else 0
  else bif Nat.blt k 199 then bif Nat.blt k 198 then bif Nat.beq k 197 then 6 else 0
  else bif Nat.beq k 198 then 5 else 0
  else bif Nat.blt k 200 then bif Nat.beq k 199 then 4 else 0
  else bif Nat.beq k 200 then 8 else 0
  else bif Nat.blt k 204 then bif Nat.blt k 202 then bif Nat.beq k 201 then 1 else 0
  else bif Nat.blt k 203 then bif Nat.beq k 202 then 5 else 0
  else bif Nat.beq k 203 then 4 else 0
  else bif Nat.blt k 206 then bif Nat.blt k 205 then bif Nat.beq k 204 then 5 else 0
  else bif Nat.beq k 205 then 5 else 0
  else bif Nat.blt k 207 then bif Nat.beq k 206 then 5 else 0
  else bif Nat.beq k 207 then 5 else 0
  else bif Nat.blt k 215 then bif Nat.blt k 211 then bif Nat.blt k 209 then bif Nat.beq k 208 then 4 else 0
  else bif Nat.blt k 210 then bif Nat.beq k 209 then 4 else 0
  else bif Nat.beq k 210 then 4 else 0
  else bif Nat.blt k 213 then bif Nat.blt k 212 then bif Nat.beq k 211 then 5 else 0
  else bif Nat.beq k 212 then 4 else 0
  else bif Nat.blt k 214 then bif Nat.beq k 213 then 4 else 0
  else bif Nat.beq k 214 then 4 else 0
  else bif Nat.blt k 218 then bif Nat.blt k 216 then bif Nat.beq k 215 then 4 else 0
  else bif Nat.blt k 217 then bif Nat.beq k 216 then 4 else 0
  else bif Nat.beq k 217 then 6 else 0
  else bif Nat.blt k 220 then bif Nat.blt k 219 then bif Nat.beq k 218 then 4 else 0
  else bif Nat.beq k 219 then 4 else 0
  else bif Nat.blt k 221 then bif Nat.beq k 220 then 4 else 0
  else bif Nat.beq k 221 then 7 else 0
def hdLOf (k : Nat) : List (Nat × Nat × Nat × Nat × Nat) :=
  bif Nat.blt k 212 then bif Nat.blt k 207 then bif Nat.blt k 205 then bif Nat.blt k 204 then bif Nat.beq k 203 then [(0, 9, 0, 13, 3)] else []
  else bif Nat.beq k 204 then [(0, 10, 1, 15, 4), (0, 10, 0, 19, 4)] else []
  else bif Nat.blt k 206 then bif Nat.beq k 205 then [(0, 17, 1, 22, 4)] else []
  else bif Nat.beq k 206 then [(0, 10, 1, 15, 4)] else []
  else bif Nat.blt k 209 then bif Nat.blt k 208 then bif Nat.beq k 207 then [(0, 10, 1, 15, 4)] else []
  else bif Nat.beq k 208 then [(0, 9, 1, 13, 3)] else []
  else bif Nat.blt k 210 then bif Nat.beq k 209 then [(0, 9, 1, 13, 3)] else []
  else bif Nat.blt k 211 then bif Nat.beq k 210 then [(0, 9, 1, 13, 3)] else []
  else bif Nat.beq k 211 then [(0, 10, 1, 15, 4), (0, 10, 3, 19, 4)] else []
  else bif Nat.blt k 216 then bif Nat.blt k 214 then bif Nat.blt k 213 then bif Nat.beq k 212 then [(0, 9, 1, 13, 3)] else []
  else bif Nat.beq k 213 then [(0, 9, 1, 13, 3)] else []
  else bif Nat.blt k 215 then bif Nat.beq k 214 then [(0, 9, 1, 13, 3)] else []
  else bif Nat.beq k 215 then [(0, 9, 1, 13, 3), (0, 9, 2, 16, 3)] else []
  else bif Nat.blt k 218 then bif Nat.blt k 217 then bif Nat.beq k 216 then [(0, 9, 1, 13, 3), (0, 9, 2, 16, 3)] else []
  else bif Nat.beq k 217 then [(0, 12, 1, 17, 5), (0, 12, 2, 21, 5)] else []
  else bif Nat.blt k 219 then bif Nat.beq k 218 then [(0, 9, 1, 13, 3), (0, 9, 2, 16, 3)] else []
  else bif Nat.blt k 220 then bif Nat.beq k 219 then [(0, 9, 1, 13, 3), (0, 9, 2, 16, 3)] else []
  else bif Nat.beq k 220 then [(0, 9, 0, 13, 3)] else []
def rsOf (k : Nat) : PMR := (rtOf k, mcOf k, hdl (hdLOf k), nLOf k)
def miOf (k : Nat) : PMI := wrapM (lenOf k) (cdOf k) (rsOf k)
