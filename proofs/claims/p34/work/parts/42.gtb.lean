/-! THE SECOND MACHINE'S METHODS AS TABLES: written by wip/p34/gengm.py -/
def gwrap (n : Nat) (cd : Nat → Option PE) (rt nL : Nat) : gMI := (fun pc => bif Nat.blt pc n then cd pc else none, rt, nL)
def gcd_J0_charAt_5068e (pc : Nat) : Option PE :=
  bif Nat.blt pc 11 then bif Nat.blt pc 4 then bif Nat.blt pc 1 then bif Nat.beq pc 0 then some (.aload_n 0, 1, 0, 0, 0, 0, 0) else none
  else bif Nat.beq pc 1 then some (.invokevirtual 492, 4, 5, 1, 11, 0, 0) else none
  else bif Nat.blt pc 7 then bif Nat.beq pc 4 then some (.ifCond .eq 12, 7, 16, 0, 0, 0, 0) else none
  else bif Nat.blt pc 8 then bif Nat.beq pc 7 then some (.aload_n 0, 8, 0, 0, 0, 0, 0) else none
  else bif Nat.beq pc 8 then some (.getfield 9, 11, 11, 0, 2, 0, 0) else none
  else bif Nat.blt pc 16 then bif Nat.blt pc 12 then bif Nat.beq pc 11 then some (.iload_n 1, 12, 1, 0, 0, 0, 0) else none
  else bif Nat.blt pc 15 then bif Nat.beq pc 12 then some (.invokestatic 495, 15, 7, 2, 99, 0, 0) else none
  else bif Nat.beq pc 15 then some (.ireturn, 16, 0, 0, 0, 0, 0) else none
  else bif Nat.blt pc 17 then bif Nat.beq pc 16 then some (.aload_n 0, 17, 0, 0, 0, 0, 0) else none
  else bif Nat.blt pc 20 then bif Nat.beq pc 17 then some (.getfield 9, 20, 11, 0, 2, 0, 0) else none
  else bif Nat.beq pc 20 then some (.iload_n 1, 21, 1, 0, 0, 0, 0) else none
def gmi_J0_charAt_5068e : gMI := gwrap 21 gcd_J0_charAt_5068e 5 2
def gcd_J0_coder_7d493 (pc : Nat) : Option PE :=
  bif Nat.blt pc 7 then bif Nat.blt pc 3 then bif Nat.beq pc 0 then some (.getstatic 38, 3, 0, 0, 1, 1, 0) else none
  else bif Nat.blt pc 6 then bif Nat.beq pc 3 then some (.ifCond .eq 10, 6, 13, 0, 0, 0, 0) else none
  else bif Nat.beq pc 6 then some (.aload_n 0, 7, 0, 0, 0, 0, 0) else none
  else bif Nat.blt pc 13 then bif Nat.blt pc 10 then bif Nat.beq pc 7 then some (.getfield 15, 10, 11, 1, 0, 0, 0) else none
  else bif Nat.beq pc 10 then some (.goto 4, 13, 14, 0, 0, 0, 0) else none
  else bif Nat.blt pc 14 then bif Nat.beq pc 13 then some (.iconst 1, 14, 0, 0, 0, 1, 0) else none
  else bif Nat.beq pc 14 then some (.ireturn, 15, 0, 0, 0, 0, 0) else none
def gmi_J0_coder_7d493 : gMI := gwrap 15 gcd_J0_coder_7d493 6 1
def gcd_J0_getBytes_840e7 (pc : Nat) : Option PE :=
  bif Nat.blt pc 18 then bif Nat.blt pc 12 then bif Nat.blt pc 5 then bif Nat.blt pc 1 then bif Nat.beq pc 0 then some (.aload_n 0, 1, 0, 0, 0, 0, 0) else none
  else bif Nat.blt pc 4 then bif Nat.beq pc 1 then some (.invokevirtual 335, 4, 1, 1, 11, 0, 0) else none
  else bif Nat.beq pc 4 then some (.iload_n 3, 5, 3, 0, 0, 0, 0) else none
  else bif Nat.blt pc 8 then bif Nat.beq pc 5 then some (.if_icmp .ne 23, 8, 28, 0, 0, 0, 0) else none
  else bif Nat.blt pc 9 then bif Nat.beq pc 8 then some (.aload_n 0, 9, 0, 0, 0, 0, 0) else none
  else bif Nat.beq pc 9 then some (.getfield 9, 12, 11, 0, 2, 0, 0) else none
  else bif Nat.blt pc 15 then bif Nat.blt pc 13 then bif Nat.beq pc 12 then some (.iconst 0, 13, 0, 0, 0, 0, 0) else none
  else bif Nat.blt pc 14 then bif Nat.beq pc 13 then some (.aload_n 1, 14, 1, 0, 0, 0, 0) else none
  else bif Nat.beq pc 14 then some (.iload_n 2, 15, 2, 0, 0, 0, 0) else none
  else bif Nat.blt pc 16 then bif Nat.beq pc 15 then some (.iload_n 3, 16, 3, 0, 0, 0, 0) else none
  else bif Nat.blt pc 17 then bif Nat.beq pc 16 then some (.ishl, 17, 0, 0, 0, 0, 0) else none
  else bif Nat.beq pc 17 then some (.aload_n 0, 18, 0, 0, 0, 0, 0) else none
  else bif Nat.blt pc 32 then bif Nat.blt pc 25 then bif Nat.blt pc 21 then bif Nat.beq pc 18 then some (.getfield 9, 21, 11, 0, 2, 0, 0) else none
  else bif Nat.blt pc 22 then bif Nat.beq pc 21 then some (.arraylength, 22, 0, 0, 0, 0, 0) else none
  else bif Nat.beq pc 22 then some (.invokestatic 212, 25, 0, 0, 103, 0, 0) else none
  else bif Nat.blt pc 28 then bif Nat.beq pc 25 then some (.goto 18, 28, 43, 0, 0, 0, 0) else none
  else bif Nat.blt pc 29 then bif Nat.beq pc 28 then some (.aload_n 0, 29, 0, 0, 0, 0, 0) else none
  else bif Nat.beq pc 29 then some (.getfield 9, 32, 11, 0, 2, 0, 0) else none
  else bif Nat.blt pc 35 then bif Nat.blt pc 33 then bif Nat.beq pc 32 then some (.iconst 0, 33, 0, 0, 0, 0, 0) else none
  else bif Nat.blt pc 34 then bif Nat.beq pc 33 then some (.aload_n 1, 34, 1, 0, 0, 0, 0) else none
  else bif Nat.beq pc 34 then some (.iload_n 2, 35, 2, 0, 0, 0, 0) else none
  else bif Nat.blt pc 39 then bif Nat.blt pc 36 then bif Nat.beq pc 35 then some (.aload_n 0, 36, 0, 0, 0, 0, 0) else none
  else bif Nat.beq pc 36 then some (.getfield 9, 39, 11, 0, 2, 0, 0) else none
  else bif Nat.blt pc 43 then bif Nat.beq pc 39 then some (.arraylength, 40, 0, 0, 0, 0, 0) else none
  else bif Nat.beq pc 43 then some (.return_, 44, 0, 0, 0, 0, 0) else none
def gmi_J0_getBytes_840e7 : gMI := gwrap 44 gcd_J0_getBytes_840e7 0 4
def gcd_J0_init_81219 (pc : Nat) : Option PE :=
  bif Nat.blt pc 2 then bif Nat.blt pc 1 then bif Nat.beq pc 0 then some (.aload_n 0, 1, 0, 0, 0, 0, 0) else none
  else bif Nat.beq pc 1 then some (.aload_n 1, 2, 1, 0, 0, 0, 0) else none
  else bif Nat.blt pc 3 then bif Nat.beq pc 2 then some (.aconst_null, 3, 0, 0, 0, 0, 0) else none
  else bif Nat.blt pc 6 then bif Nat.beq pc 3 then some (.invokespecial 489, 6, 4, 3, 98, 0, 0) else none
  else bif Nat.beq pc 6 then some (.return_, 7, 0, 0, 0, 0, 0) else none
def gmi_J0_init_81219 : gMI := gwrap 7 gcd_J0_init_81219 0 2
def gcd_J0_init_db425 (pc : Nat) : Option PE :=
  bif Nat.blt pc 41 then bif Nat.blt pc 19 then bif Nat.blt pc 9 then bif Nat.blt pc 4 then bif Nat.blt pc 1 then bif Nat.beq pc 0 then some (.aload_n 0, 1, 0, 0, 0, 0, 0) else none
  else bif Nat.beq pc 1 then some (.invokespecial 1, 4, 0, 0, 50, 0, 0) else none
  else bif Nat.blt pc 5 then bif Nat.beq pc 4 then some (.aload_n 1, 5, 1, 0, 0, 0, 0) else none
  else bif Nat.blt pc 8 then bif Nat.beq pc 5 then some (.invokevirtual 552, 8, 16, 1, 12, 0, 0) else none
  else bif Nat.beq pc 8 then some (.astore_n 3, 9, 3, 0, 0, 0, 0) else none
  else bif Nat.blt pc 13 then bif Nat.blt pc 10 then bif Nat.beq pc 9 then some (.aload_n 1, 10, 1, 0, 0, 0, 0) else none
  else bif Nat.beq pc 10 then some (.invokevirtual 549, 13, 11, 1, 12, 0, 0) else none
  else bif Nat.blt pc 15 then bif Nat.beq pc 13 then some (.istore 4, 15, 4, 0, 0, 0, 0) else none
  else bif Nat.blt pc 16 then bif Nat.beq pc 15 then some (.aload_n 1, 16, 1, 0, 0, 0, 0) else none
  else bif Nat.beq pc 16 then some (.invokevirtual 1047, 19, 19, 1, 12, 0, 0) else none
  else bif Nat.blt pc 28 then bif Nat.blt pc 23 then bif Nat.blt pc 22 then bif Nat.beq pc 19 then some (.ifCond .eq 22, 22, 41, 0, 0, 0, 0) else none
  else bif Nat.beq pc 22 then some (.aload_n 0, 23, 0, 0, 0, 0, 0) else none
  else bif Nat.blt pc 24 then bif Nat.beq pc 23 then some (.iconst 0, 24, 0, 0, 0, 0, 0) else none
  else bif Nat.blt pc 27 then bif Nat.beq pc 24 then some (.putfield 15, 27, 11, 1, 1, 0, 0) else none
  else bif Nat.beq pc 27 then some (.aload_n 0, 28, 0, 0, 0, 0, 0) else none
  else bif Nat.blt pc 32 then bif Nat.blt pc 29 then bif Nat.beq pc 28 then some (.aload_n 3, 29, 3, 0, 0, 0, 0) else none
  else bif Nat.blt pc 30 then bif Nat.beq pc 29 then some (.iconst 0, 30, 0, 0, 0, 0, 0) else none
  else bif Nat.beq pc 30 then some (.iload 4, 32, 4, 0, 0, 0, 0) else none
  else bif Nat.blt pc 35 then bif Nat.beq pc 32 then some (.invokestatic 54, 35, 27, 3, 99, 0, 0) else none
  else bif Nat.blt pc 38 then bif Nat.beq pc 35 then some (.putfield 9, 38, 11, 0, 2, 0, 0) else none
  else bif Nat.beq pc 38 then some (.goto 59, 41, 97, 0, 0, 0, 0) else none
  else bif Nat.blt pc 80 then bif Nat.blt pc 54 then bif Nat.blt pc 47 then bif Nat.blt pc 44 then bif Nat.beq pc 41 then some (.getstatic 38, 44, 0, 0, 1, 1, 0) else none
  else bif Nat.beq pc 44 then some (.ifCond .eq 35, 47, 79, 0, 0, 0, 0) else none
  else bif Nat.blt pc 48 then bif Nat.beq pc 47 then some (.aload_n 1, 48, 1, 0, 0, 0, 0) else none
  else bif Nat.blt pc 51 then bif Nat.beq pc 48 then some (.getfield 1048, 51, 12, 2, 0, 0, 0) else none
  else bif Nat.beq pc 51 then some (.ifCond .eq 28, 54, 79, 0, 0, 0, 0) else none
  else bif Nat.blt pc 56 then bif Nat.blt pc 55 then bif Nat.beq pc 54 then some (.aload_n 0, 55, 0, 0, 0, 0, 0) else none
  else bif Nat.beq pc 55 then some (.aload_n 3, 56, 3, 0, 0, 0, 0) else none
  else bif Nat.blt pc 57 then bif Nat.beq pc 56 then some (.iconst 0, 57, 0, 0, 0, 0, 0) else none
  else bif Nat.blt pc 79 then bif Nat.beq pc 57 then some (.iload 4, 59, 4, 0, 0, 0, 0) else none
  else bif Nat.beq pc 79 then some (.aload_n 0, 80, 0, 0, 0, 0, 0) else none
  else bif Nat.blt pc 87 then bif Nat.blt pc 84 then bif Nat.blt pc 81 then bif Nat.beq pc 80 then some (.iconst 1, 81, 0, 0, 0, 1, 0) else none
  else bif Nat.beq pc 81 then some (.putfield 15, 84, 11, 1, 1, 0, 0) else none
  else bif Nat.blt pc 85 then bif Nat.beq pc 84 then some (.aload_n 0, 85, 0, 0, 0, 0, 0) else none
  else bif Nat.blt pc 86 then bif Nat.beq pc 85 then some (.aload_n 3, 86, 3, 0, 0, 0, 0) else none
  else bif Nat.beq pc 86 then some (.iconst 0, 87, 0, 0, 0, 0, 0) else none
  else bif Nat.blt pc 91 then bif Nat.blt pc 89 then bif Nat.beq pc 87 then some (.iload 4, 89, 4, 0, 0, 0, 0) else none
  else bif Nat.blt pc 90 then bif Nat.beq pc 89 then some (.iconst 1, 90, 0, 0, 0, 1, 0) else none
  else bif Nat.beq pc 90 then some (.ishl, 91, 0, 0, 0, 0, 0) else none
  else bif Nat.blt pc 94 then bif Nat.beq pc 91 then some (.invokestatic 54, 94, 27, 3, 99, 0, 0) else none
  else bif Nat.blt pc 97 then bif Nat.beq pc 94 then some (.putfield 9, 97, 11, 0, 2, 0, 0) else none
  else bif Nat.beq pc 97 then some (.return_, 98, 0, 0, 0, 0, 0) else none
def gmi_J0_init_db425 : gMI := gwrap 98 gcd_J0_init_db425 0 5
def gcd_J0_isLatin1_aae02 (pc : Nat) : Option PE :=
  bif Nat.blt pc 10 then bif Nat.blt pc 6 then bif Nat.blt pc 3 then bif Nat.beq pc 0 then some (.getstatic 38, 3, 0, 0, 1, 1, 0) else none
  else bif Nat.beq pc 3 then some (.ifCond .eq 14, 6, 17, 0, 0, 0, 0) else none
  else bif Nat.blt pc 7 then bif Nat.beq pc 6 then some (.aload_n 0, 7, 0, 0, 0, 0, 0) else none
  else bif Nat.beq pc 7 then some (.getfield 15, 10, 11, 1, 0, 0, 0) else none
  else bif Nat.blt pc 14 then bif Nat.blt pc 13 then bif Nat.beq pc 10 then some (.ifCond .ne 7, 13, 17, 0, 0, 0, 0) else none
  else bif Nat.beq pc 13 then some (.iconst 1, 14, 0, 0, 0, 1, 0) else none
  else bif Nat.blt pc 17 then bif Nat.beq pc 14 then some (.goto 4, 17, 18, 0, 0, 0, 0) else none
  else bif Nat.blt pc 18 then bif Nat.beq pc 17 then some (.iconst 0, 18, 0, 0, 0, 0, 0) else none
  else bif Nat.beq pc 18 then some (.ireturn, 19, 0, 0, 0, 0, 0) else none
def gmi_J0_isLatin1_aae02 : gMI := gwrap 19 gcd_J0_isLatin1_aae02 2 1
def gcd_J0_length_8abf5 (pc : Nat) : Option PE :=
  bif Nat.blt pc 5 then bif Nat.blt pc 1 then bif Nat.beq pc 0 then some (.aload_n 0, 1, 0, 0, 0, 0, 0) else none
  else bif Nat.blt pc 4 then bif Nat.beq pc 1 then some (.getfield 9, 4, 11, 0, 2, 0, 0) else none
  else bif Nat.beq pc 4 then some (.arraylength, 5, 0, 0, 0, 0, 0) else none
  else bif Nat.blt pc 9 then bif Nat.blt pc 6 then bif Nat.beq pc 5 then some (.aload_n 0, 6, 0, 0, 0, 0, 0) else none
  else bif Nat.beq pc 6 then some (.invokevirtual 335, 9, 1, 1, 11, 0, 0) else none
  else bif Nat.blt pc 10 then bif Nat.beq pc 9 then some (.ishr, 10, 0, 0, 0, 0, 0) else none
  else bif Nat.beq pc 10 then some (.ireturn, 11, 0, 0, 0, 0, 0) else none
def gmi_J0_length_8abf5 : gMI := gwrap 11 gcd_J0_length_8abf5 1 1
def gcd_J1_charAt_3b067 (pc : Nat) : Option PE :=
  bif Nat.blt pc 7 then bif Nat.blt pc 2 then bif Nat.blt pc 1 then bif Nat.beq pc 0 then some (.iload_n 1, 1, 1, 0, 0, 0, 0) else none
  else bif Nat.beq pc 1 then some (.aload_n 0, 2, 0, 0, 0, 0, 0) else none
  else bif Nat.blt pc 3 then bif Nat.beq pc 2 then some (.arraylength, 3, 0, 0, 0, 0, 0) else none
  else bif Nat.blt pc 6 then bif Nat.beq pc 3 then some (.invokestatic 9, 6, 0, 0, 120, 0, 0) else none
  else bif Nat.beq pc 6 then some (.aload_n 0, 7, 0, 0, 0, 0, 0) else none
  else bif Nat.blt pc 12 then bif Nat.blt pc 8 then bif Nat.beq pc 7 then some (.iload_n 1, 8, 1, 0, 0, 0, 0) else none
  else bif Nat.blt pc 9 then bif Nat.beq pc 8 then some (.baload, 9, 0, 0, 0, 0, 0) else none
  else bif Nat.beq pc 9 then some (.sipush 255, 12, 0, 0, 0, 255, 0) else none
  else bif Nat.blt pc 13 then bif Nat.beq pc 12 then some (.iand, 13, 0, 0, 0, 0, 0) else none
  else bif Nat.blt pc 14 then bif Nat.beq pc 13 then some (.i2c, 14, 0, 0, 0, 0, 0) else none
  else bif Nat.beq pc 14 then some (.ireturn, 15, 0, 0, 0, 0, 0) else none
def gmi_J1_charAt_3b067 : gMI := gwrap 15 gcd_J1_charAt_3b067 5 2
def gcd_J4_append_15ec4 (pc : Nat) : Option PE :=
  bif Nat.blt pc 5 then bif Nat.blt pc 1 then bif Nat.beq pc 0 then some (.aload_n 0, 1, 0, 0, 0, 0, 0) else none
  else bif Nat.blt pc 2 then bif Nat.beq pc 1 then some (.aload_n 1, 2, 1, 0, 0, 0, 0) else none
  else bif Nat.beq pc 2 then some (.invokespecial 29, 5, 14, 2, 97, 0, 0) else none
  else bif Nat.blt pc 6 then bif Nat.beq pc 5 then some (.pop, 6, 0, 0, 0, 0, 0) else none
  else bif Nat.blt pc 7 then bif Nat.beq pc 6 then some (.aload_n 0, 7, 0, 0, 0, 0, 0) else none
  else bif Nat.beq pc 7 then some (.areturn, 8, 0, 0, 0, 0, 0) else none
def gmi_J4_append_15ec4 : gMI := gwrap 8 gcd_J4_append_15ec4 4 2
def gcd_J4_append_bf812 (pc : Nat) : Option PE :=
  bif Nat.blt pc 5 then bif Nat.blt pc 1 then bif Nat.beq pc 0 then some (.aload_n 0, 1, 0, 0, 0, 0, 0) else none
  else bif Nat.blt pc 2 then bif Nat.beq pc 1 then some (.iload_n 1, 2, 1, 0, 0, 0, 0) else none
  else bif Nat.beq pc 2 then some (.invokespecial 53, 5, 13, 2, 97, 0, 0) else none
  else bif Nat.blt pc 6 then bif Nat.beq pc 5 then some (.pop, 6, 0, 0, 0, 0, 0) else none
  else bif Nat.blt pc 7 then bif Nat.beq pc 6 then some (.aload_n 0, 7, 0, 0, 0, 0, 0) else none
  else bif Nat.beq pc 7 then some (.areturn, 8, 0, 0, 0, 0, 0) else none
def gmi_J4_append_bf812 : gMI := gwrap 8 gcd_J4_append_bf812 4 2
def gcd_J4_init_da8c8 (pc : Nat) : Option PE :=
  bif Nat.blt pc 3 then bif Nat.blt pc 1 then bif Nat.beq pc 0 then some (.aload_n 0, 1, 0, 0, 0, 0, 0) else none
  else bif Nat.beq pc 1 then some (.bipush 16, 3, 0, 0, 0, 16, 0) else none
  else bif Nat.blt pc 6 then bif Nat.beq pc 3 then some (.invokespecial 1, 6, 18, 2, 98, 0, 0) else none
  else bif Nat.beq pc 6 then some (.return_, 7, 0, 0, 0, 0, 0) else none
def gmi_J4_init_da8c8 : gMI := gwrap 7 gcd_J4_init_da8c8 0 1
def gcd_J4_length_8abf5 (pc : Nat) : Option PE :=
  bif Nat.blt pc 1 then bif Nat.beq pc 0 then some (.aload_n 0, 1, 0, 0, 0, 0, 0) else none
  else bif Nat.blt pc 4 then bif Nat.beq pc 1 then some (.invokespecial 343, 4, 20, 1, 97, 0, 0) else none
  else bif Nat.beq pc 4 then some (.ireturn, 5, 0, 0, 0, 0, 0) else none
def gmi_J4_length_8abf5 : gMI := gwrap 5 gcd_J4_length_8abf5 1 1
def gcd_J4_toString_0e30d (pc : Nat) : Option PE :=
  bif Nat.blt pc 4 then bif Nat.blt pc 3 then bif Nat.beq pc 0 then some (.new 18, 3, 11, 0, 0, 0, 0) else none
  else bif Nat.beq pc 3 then some (.dup, 4, 0, 0, 0, 0, 0) else none
  else bif Nat.blt pc 5 then bif Nat.beq pc 4 then some (.aload_n 0, 5, 0, 0, 0, 0, 0) else none
  else bif Nat.blt pc 8 then bif Nat.beq pc 5 then some (.invokespecial 137, 8, 3, 2, 98, 0, 0) else none
  else bif Nat.beq pc 8 then some (.areturn, 9, 0, 0, 0, 0, 0) else none
def gmi_J4_toString_0e30d : gMI := gwrap 9 gcd_J4_toString_0e30d 4 1
def gcd_J5_append_c97b9 (pc : Nat) : Option PE :=
  bif Nat.blt pc 25 then bif Nat.blt pc 11 then bif Nat.blt pc 5 then bif Nat.blt pc 1 then bif Nat.beq pc 0 then some (.aload_n 0, 1, 0, 0, 0, 0, 0) else none
  else bif Nat.blt pc 4 then bif Nat.beq pc 1 then some (.getfield 79, 4, 12, 3, 0, 0, 0) else none
  else bif Nat.beq pc 4 then some (.istore_n 2, 5, 2, 0, 0, 0, 0) else none
  else bif Nat.blt pc 7 then bif Nat.blt pc 6 then bif Nat.beq pc 5 then some (.iload_n 2, 6, 2, 0, 0, 0, 0) else none
  else bif Nat.beq pc 6 then some (.iload_n 1, 7, 1, 0, 0, 0, 0) else none
  else bif Nat.blt pc 10 then bif Nat.beq pc 7 then some (.invokestatic 245, 10, 24, 1, 99, 0, 0) else none
  else bif Nat.beq pc 10 then some (.iadd, 11, 0, 0, 0, 0, 0) else none
  else bif Nat.blt pc 17 then bif Nat.blt pc 13 then bif Nat.blt pc 12 then bif Nat.beq pc 11 then some (.istore_n 3, 12, 3, 0, 0, 0, 0) else none
  else bif Nat.beq pc 12 then some (.aload_n 0, 13, 0, 0, 0, 0, 0) else none
  else bif Nat.blt pc 14 then bif Nat.beq pc 13 then some (.iload_n 3, 14, 3, 0, 0, 0, 0) else none
  else bif Nat.beq pc 14 then some (.invokevirtual 100, 17, 15, 2, 12, 0, 0) else none
  else bif Nat.blt pc 21 then bif Nat.blt pc 18 then bif Nat.beq pc 17 then some (.aload_n 0, 18, 0, 0, 0, 0, 0) else none
  else bif Nat.beq pc 18 then some (.invokevirtual 83, 21, 19, 1, 12, 0, 0) else none
  else bif Nat.blt pc 24 then bif Nat.beq pc 21 then some (.ifCond .eq 16, 24, 37, 0, 0, 0, 0) else none
  else bif Nat.beq pc 24 then some (.iload_n 1, 25, 1, 0, 0, 0, 0) else none
  else bif Nat.blt pc 39 then bif Nat.blt pc 33 then bif Nat.blt pc 27 then bif Nat.blt pc 26 then bif Nat.beq pc 25 then some (.iload_n 3, 26, 3, 0, 0, 0, 0) else none
  else bif Nat.beq pc 26 then some (.aload_n 0, 27, 0, 0, 0, 0, 0) else none
  else bif Nat.blt pc 30 then bif Nat.beq pc 27 then some (.getfield 15, 30, 12, 0, 2, 0, 0) else none
  else bif Nat.beq pc 30 then some (.invokestatic 248, 33, 23, 3, 99, 0, 0) else none
  else bif Nat.blt pc 37 then bif Nat.blt pc 34 then bif Nat.beq pc 33 then some (.pop, 34, 0, 0, 0, 0, 0) else none
  else bif Nat.beq pc 34 then some (.goto 14, 37, 48, 0, 0, 0, 0) else none
  else bif Nat.blt pc 38 then bif Nat.beq pc 37 then some (.iload_n 1, 38, 1, 0, 0, 0, 0) else none
  else bif Nat.beq pc 38 then some (.iload_n 2, 39, 2, 0, 0, 0, 0) else none
  else bif Nat.blt pc 49 then bif Nat.blt pc 41 then bif Nat.blt pc 40 then bif Nat.beq pc 39 then some (.iload_n 3, 40, 3, 0, 0, 0, 0) else none
  else bif Nat.beq pc 40 then some (.aload_n 0, 41, 0, 0, 0, 0, 0) else none
  else bif Nat.blt pc 48 then bif Nat.beq pc 41 then some (.getfield 15, 44, 12, 0, 2, 0, 0) else none
  else bif Nat.beq pc 48 then some (.aload_n 0, 49, 0, 0, 0, 0, 0) else none
  else bif Nat.blt pc 53 then bif Nat.blt pc 50 then bif Nat.beq pc 49 then some (.iload_n 3, 50, 3, 0, 0, 0, 0) else none
  else bif Nat.beq pc 50 then some (.putfield 79, 53, 12, 3, 0, 0, 0) else none
  else bif Nat.blt pc 54 then bif Nat.beq pc 53 then some (.aload_n 0, 54, 0, 0, 0, 0, 0) else none
  else bif Nat.beq pc 54 then some (.areturn, 55, 0, 0, 0, 0, 0) else none
def gmi_J5_append_c97b9 : gMI := gwrap 55 gcd_J5_append_c97b9 4 4
def gcd_J5_append_cf1ce (pc : Nat) : Option PE :=
  bif Nat.blt pc 24 then bif Nat.blt pc 14 then bif Nat.blt pc 9 then bif Nat.blt pc 1 then bif Nat.beq pc 0 then some (.aload_n 1, 1, 1, 0, 0, 0, 0) else none
  else bif Nat.blt pc 4 then bif Nat.beq pc 1 then some (.ifnonnull 8, 4, 9, 0, 0, 0, 0) else none
  else bif Nat.beq pc 4 then some (.aload_n 0, 5, 0, 0, 0, 0, 0) else none
  else bif Nat.blt pc 10 then bif Nat.beq pc 9 then some (.aload_n 1, 10, 1, 0, 0, 0, 0) else none
  else bif Nat.blt pc 13 then bif Nat.beq pc 10 then some (.invokevirtual 32, 13, 6, 1, 11, 0, 0) else none
  else bif Nat.beq pc 13 then some (.istore_n 2, 14, 2, 0, 0, 0, 0) else none
  else bif Nat.blt pc 19 then bif Nat.blt pc 15 then bif Nat.beq pc 14 then some (.aload_n 0, 15, 0, 0, 0, 0, 0) else none
  else bif Nat.blt pc 16 then bif Nat.beq pc 15 then some (.aload_n 0, 16, 0, 0, 0, 0, 0) else none
  else bif Nat.beq pc 16 then some (.getfield 79, 19, 12, 3, 0, 0, 0) else none
  else bif Nat.blt pc 20 then bif Nat.beq pc 19 then some (.iload_n 2, 20, 2, 0, 0, 0, 0) else none
  else bif Nat.blt pc 21 then bif Nat.beq pc 20 then some (.iadd, 21, 0, 0, 0, 0, 0) else none
  else bif Nat.beq pc 21 then some (.invokevirtual 100, 24, 15, 2, 12, 0, 0) else none
  else bif Nat.blt pc 34 then bif Nat.blt pc 29 then bif Nat.blt pc 25 then bif Nat.beq pc 24 then some (.aload_n 0, 25, 0, 0, 0, 0, 0) else none
  else bif Nat.blt pc 26 then bif Nat.beq pc 25 then some (.aload_n 0, 26, 0, 0, 0, 0, 0) else none
  else bif Nat.beq pc 26 then some (.getfield 79, 29, 12, 3, 0, 0, 0) else none
  else bif Nat.blt pc 30 then bif Nat.beq pc 29 then some (.aload_n 1, 30, 1, 0, 0, 0, 0) else none
  else bif Nat.blt pc 33 then bif Nat.beq pc 30 then some (.invokevirtual 208, 33, 22, 3, 12, 0, 0) else none
  else bif Nat.beq pc 33 then some (.aload_n 0, 34, 0, 0, 0, 0, 0) else none
  else bif Nat.blt pc 39 then bif Nat.blt pc 35 then bif Nat.beq pc 34 then some (.dup, 35, 0, 0, 0, 0, 0) else none
  else bif Nat.blt pc 38 then bif Nat.beq pc 35 then some (.getfield 79, 38, 12, 3, 0, 0, 0) else none
  else bif Nat.beq pc 38 then some (.iload_n 2, 39, 2, 0, 0, 0, 0) else none
  else bif Nat.blt pc 43 then bif Nat.blt pc 40 then bif Nat.beq pc 39 then some (.iadd, 40, 0, 0, 0, 0, 0) else none
  else bif Nat.beq pc 40 then some (.putfield 79, 43, 12, 3, 0, 0, 0) else none
  else bif Nat.blt pc 44 then bif Nat.beq pc 43 then some (.aload_n 0, 44, 0, 0, 0, 0, 0) else none
  else bif Nat.beq pc 44 then some (.areturn, 45, 0, 0, 0, 0, 0) else none
def gmi_J5_append_cf1ce : gMI := gwrap 45 gcd_J5_append_cf1ce 4 3
def gcd_J5_ensureCapacityInternal_d00df (pc : Nat) : Option PE :=
  bif Nat.blt pc 17 then bif Nat.blt pc 9 then bif Nat.blt pc 4 then bif Nat.blt pc 1 then bif Nat.beq pc 0 then some (.aload_n 0, 1, 0, 0, 0, 0, 0) else none
  else bif Nat.beq pc 1 then some (.getfield 15, 4, 12, 0, 2, 0, 0) else none
  else bif Nat.blt pc 5 then bif Nat.beq pc 4 then some (.arraylength, 5, 0, 0, 0, 0, 0) else none
  else bif Nat.blt pc 6 then bif Nat.beq pc 5 then some (.aload_n 0, 6, 0, 0, 0, 0, 0) else none
  else bif Nat.beq pc 6 then some (.getfield 22, 9, 12, 1, 0, 0, 0) else none
  else bif Nat.blt pc 12 then bif Nat.blt pc 10 then bif Nat.beq pc 9 then some (.ishr, 10, 0, 0, 0, 0, 0) else none
  else bif Nat.blt pc 11 then bif Nat.beq pc 10 then some (.istore_n 2, 11, 2, 0, 0, 0, 0) else none
  else bif Nat.beq pc 11 then some (.iload_n 1, 12, 1, 0, 0, 0, 0) else none
  else bif Nat.blt pc 13 then bif Nat.beq pc 12 then some (.iload_n 2, 13, 2, 0, 0, 0, 0) else none
  else bif Nat.blt pc 14 then bif Nat.beq pc 13 then some (.isub, 14, 0, 0, 0, 0, 0) else none
  else bif Nat.beq pc 14 then some (.ifCond .le 24, 17, 38, 0, 0, 0, 0) else none
  else bif Nat.blt pc 27 then bif Nat.blt pc 22 then bif Nat.blt pc 18 then bif Nat.beq pc 17 then some (.aload_n 0, 18, 0, 0, 0, 0, 0) else none
  else bif Nat.blt pc 19 then bif Nat.beq pc 18 then some (.aload_n 0, 19, 0, 0, 0, 0, 0) else none
  else bif Nat.beq pc 19 then some (.getfield 15, 22, 12, 0, 2, 0, 0) else none
  else bif Nat.blt pc 23 then bif Nat.beq pc 22 then some (.aload_n 0, 23, 0, 0, 0, 0, 0) else none
  else bif Nat.blt pc 24 then bif Nat.beq pc 23 then some (.iload_n 1, 24, 1, 0, 0, 0, 0) else none
  else bif Nat.beq pc 24 then some (.invokevirtual 104, 27, 21, 2, 12, 0, 0) else none
  else bif Nat.blt pc 32 then bif Nat.blt pc 28 then bif Nat.beq pc 27 then some (.aload_n 0, 28, 0, 0, 0, 0, 0) else none
  else bif Nat.blt pc 31 then bif Nat.beq pc 28 then some (.getfield 22, 31, 12, 1, 0, 0, 0) else none
  else bif Nat.beq pc 31 then some (.ishl, 32, 0, 0, 0, 0, 0) else none
  else bif Nat.blt pc 35 then bif Nat.beq pc 32 then some (.invokestatic 108, 35, 28, 2, 99, 0, 0) else none
  else bif Nat.blt pc 38 then bif Nat.beq pc 35 then some (.putfield 15, 38, 12, 0, 2, 0, 0) else none
  else bif Nat.beq pc 38 then some (.return_, 39, 0, 0, 0, 0, 0) else none
def gmi_J5_ensureCapacityInternal_d00df : gMI := gwrap 39 gcd_J5_ensureCapacityInternal_d00df 0 3
def gcd_J5_getValue_6d5f1 (pc : Nat) : Option PE :=
  bif Nat.blt pc 1 then bif Nat.beq pc 0 then some (.aload_n 0, 1, 0, 0, 0, 0, 0) else none
  else bif Nat.blt pc 4 then bif Nat.beq pc 1 then some (.getfield 15, 4, 12, 0, 2, 0, 0) else none
  else bif Nat.beq pc 4 then some (.areturn, 5, 0, 0, 0, 0, 0) else none
def gmi_J5_getValue_6d5f1 : gMI := gwrap 5 gcd_J5_getValue_6d5f1 4 1
def gcd_J5_inflateIfNeededFor_a7421 (pc : Nat) : Option PE :=
  bif Nat.blt pc 10 then bif Nat.blt pc 6 then bif Nat.blt pc 3 then bif Nat.beq pc 0 then some (.getstatic 18, 3, 0, 0, 1, 1, 0) else none
  else bif Nat.beq pc 3 then some (.ifCond .eq 18, 6, 21, 0, 0, 0, 0) else none
  else bif Nat.blt pc 7 then bif Nat.beq pc 6 then some (.aload_n 0, 7, 0, 0, 0, 0, 0) else none
  else bif Nat.beq pc 7 then some (.getfield 22, 10, 12, 1, 0, 0, 0) else none
  else bif Nat.blt pc 14 then bif Nat.blt pc 11 then bif Nat.beq pc 10 then some (.aload_n 1, 11, 1, 0, 0, 0, 0) else none
  else bif Nat.beq pc 11 then some (.invokevirtual 40, 14, 1, 1, 11, 0, 0) else none
  else bif Nat.blt pc 17 then bif Nat.beq pc 14 then some (.if_icmp .eq 7, 17, 21, 0, 0, 0, 0) else none
  else bif Nat.blt pc 21 then bif Nat.beq pc 17 then some (.aload_n 0, 18, 0, 0, 0, 0, 0) else none
  else bif Nat.beq pc 21 then some (.return_, 22, 0, 0, 0, 0, 0) else none
def gmi_J5_inflateIfNeededFor_a7421 : gMI := gwrap 22 gcd_J5_inflateIfNeededFor_a7421 0 2
def gcd_J5_init_d00df (pc : Nat) : Option PE :=
  bif Nat.blt pc 14 then bif Nat.blt pc 7 then bif Nat.blt pc 1 then bif Nat.beq pc 0 then some (.aload_n 0, 1, 0, 0, 0, 0, 0) else none
  else bif Nat.blt pc 4 then bif Nat.beq pc 1 then some (.invokespecial 3, 4, 0, 0, 50, 0, 0) else none
  else bif Nat.beq pc 4 then some (.getstatic 18, 7, 0, 0, 1, 1, 0) else none
  else bif Nat.blt pc 11 then bif Nat.blt pc 10 then bif Nat.beq pc 7 then some (.ifCond .eq 18, 10, 25, 0, 0, 0, 0) else none
  else bif Nat.beq pc 10 then some (.aload_n 0, 11, 0, 0, 0, 0, 0) else none
  else bif Nat.blt pc 12 then bif Nat.beq pc 11 then some (.iload_n 1, 12, 1, 0, 0, 0, 0) else none
  else bif Nat.beq pc 12 then some (.newarray .byte, 14, 0, 0, 2, 0, 0) else none
  else bif Nat.blt pc 22 then bif Nat.blt pc 18 then bif Nat.blt pc 17 then bif Nat.beq pc 14 then some (.putfield 15, 17, 12, 0, 2, 0, 0) else none
  else bif Nat.beq pc 17 then some (.aload_n 0, 18, 0, 0, 0, 0, 0) else none
  else bif Nat.blt pc 19 then bif Nat.beq pc 18 then some (.iconst 0, 19, 0, 0, 0, 0, 0) else none
  else bif Nat.beq pc 19 then some (.putfield 22, 22, 12, 1, 1, 0, 0) else none
  else bif Nat.blt pc 26 then bif Nat.blt pc 25 then bif Nat.beq pc 22 then some (.goto 16, 25, 38, 0, 0, 0, 0) else none
  else bif Nat.beq pc 25 then some (.aload_n 0, 26, 0, 0, 0, 0, 0) else none
  else bif Nat.blt pc 38 then bif Nat.beq pc 26 then some (.iload_n 1, 27, 1, 0, 0, 0, 0) else none
  else bif Nat.beq pc 38 then some (.return_, 39, 0, 0, 0, 0, 0) else none
def gmi_J5_init_d00df : gMI := gwrap 39 gcd_J5_init_d00df 0 2
def gcd_J5_isLatin1_aae02 (pc : Nat) : Option PE :=
  bif Nat.blt pc 10 then bif Nat.blt pc 6 then bif Nat.blt pc 3 then bif Nat.beq pc 0 then some (.getstatic 18, 3, 0, 0, 1, 1, 0) else none
  else bif Nat.beq pc 3 then some (.ifCond .eq 14, 6, 17, 0, 0, 0, 0) else none
  else bif Nat.blt pc 7 then bif Nat.beq pc 6 then some (.aload_n 0, 7, 0, 0, 0, 0, 0) else none
  else bif Nat.beq pc 7 then some (.getfield 22, 10, 12, 1, 0, 0, 0) else none
  else bif Nat.blt pc 14 then bif Nat.blt pc 13 then bif Nat.beq pc 10 then some (.ifCond .ne 7, 13, 17, 0, 0, 0, 0) else none
  else bif Nat.beq pc 13 then some (.iconst 1, 14, 0, 0, 0, 1, 0) else none
  else bif Nat.blt pc 17 then bif Nat.beq pc 14 then some (.goto 4, 17, 18, 0, 0, 0, 0) else none
  else bif Nat.blt pc 18 then bif Nat.beq pc 17 then some (.iconst 0, 18, 0, 0, 0, 0, 0) else none
  else bif Nat.beq pc 18 then some (.ireturn, 19, 0, 0, 0, 0, 0) else none
def gmi_J5_isLatin1_aae02 : gMI := gwrap 19 gcd_J5_isLatin1_aae02 2 1
def gcd_J5_length_8abf5 (pc : Nat) : Option PE :=
  bif Nat.blt pc 1 then bif Nat.beq pc 0 then some (.aload_n 0, 1, 0, 0, 0, 0, 0) else none
  else bif Nat.blt pc 4 then bif Nat.beq pc 1 then some (.getfield 79, 4, 12, 3, 0, 0, 0) else none
  else bif Nat.beq pc 4 then some (.ireturn, 5, 0, 0, 0, 0, 0) else none
def gmi_J5_length_8abf5 : gMI := gwrap 5 gcd_J5_length_8abf5 1 1
def gcd_J5_newCapacity_0f7a4 (pc : Nat) : Option PE :=
  bif Nat.blt pc 21 then bif Nat.blt pc 11 then bif Nat.blt pc 5 then bif Nat.blt pc 1 then bif Nat.beq pc 0 then some (.aload_n 0, 1, 0, 0, 0, 0, 0) else none
  else bif Nat.blt pc 4 then bif Nat.beq pc 1 then some (.getfield 15, 4, 12, 0, 2, 0, 0) else none
  else bif Nat.beq pc 4 then some (.arraylength, 5, 0, 0, 0, 0, 0) else none
  else bif Nat.blt pc 7 then bif Nat.blt pc 6 then bif Nat.beq pc 5 then some (.istore_n 2, 6, 2, 0, 0, 0, 0) else none
  else bif Nat.beq pc 6 then some (.iload_n 1, 7, 1, 0, 0, 0, 0) else none
  else bif Nat.blt pc 8 then bif Nat.beq pc 7 then some (.aload_n 0, 8, 0, 0, 0, 0, 0) else none
  else bif Nat.beq pc 8 then some (.getfield 22, 11, 12, 1, 0, 0, 0) else none
  else bif Nat.blt pc 15 then bif Nat.blt pc 13 then bif Nat.blt pc 12 then bif Nat.beq pc 11 then some (.ishl, 12, 0, 0, 0, 0, 0) else none
  else bif Nat.beq pc 12 then some (.istore_n 3, 13, 3, 0, 0, 0, 0) else none
  else bif Nat.blt pc 14 then bif Nat.beq pc 13 then some (.iload_n 3, 14, 3, 0, 0, 0, 0) else none
  else bif Nat.beq pc 14 then some (.iload_n 2, 15, 2, 0, 0, 0, 0) else none
  else bif Nat.blt pc 18 then bif Nat.blt pc 16 then bif Nat.beq pc 15 then some (.isub, 16, 0, 0, 0, 0, 0) else none
  else bif Nat.beq pc 16 then some (.istore 4, 18, 4, 0, 0, 0, 0) else none
  else bif Nat.blt pc 19 then bif Nat.beq pc 18 then some (.iload_n 2, 19, 2, 0, 0, 0, 0) else none
  else bif Nat.beq pc 19 then some (.iload 4, 21, 4, 0, 0, 0, 0) else none
  else bif Nat.blt pc 34 then bif Nat.blt pc 27 then bif Nat.blt pc 23 then bif Nat.blt pc 22 then bif Nat.beq pc 21 then some (.iload_n 2, 22, 2, 0, 0, 0, 0) else none
  else bif Nat.beq pc 22 then some (.iconst 2, 23, 0, 0, 0, 2, 0) else none
  else bif Nat.blt pc 24 then bif Nat.beq pc 23 then some (.aload_n 0, 24, 0, 0, 0, 0, 0) else none
  else bif Nat.beq pc 24 then some (.getfield 22, 27, 12, 1, 0, 0, 0) else none
  else bif Nat.blt pc 29 then bif Nat.blt pc 28 then bif Nat.beq pc 27 then some (.ishl, 28, 0, 0, 0, 0, 0) else none
  else bif Nat.beq pc 28 then some (.iadd, 29, 0, 0, 0, 0, 0) else none
  else bif Nat.blt pc 32 then bif Nat.beq pc 29 then some (.invokestatic 114, 32, 29, 3, 99, 0, 0) else none
  else bif Nat.beq pc 32 then some (.istore 5, 34, 5, 0, 0, 0, 0) else none
  else bif Nat.blt pc 53 then bif Nat.blt pc 38 then bif Nat.blt pc 36 then bif Nat.beq pc 34 then some (.iload 5, 36, 5, 0, 0, 0, 0) else none
  else bif Nat.beq pc 36 then some (.ldc 39, 38, 0, 0, 0, 2147483647, 0) else none
  else bif Nat.blt pc 51 then bif Nat.beq pc 38 then some (.if_icmp .ne 13, 41, 51, 0, 0, 0, 0) else none
  else bif Nat.beq pc 51 then some (.iload 5, 53, 5, 0, 0, 0, 0) else none
  else bif Nat.blt pc 57 then bif Nat.blt pc 54 then bif Nat.beq pc 53 then some (.aload_n 0, 54, 0, 0, 0, 0, 0) else none
  else bif Nat.beq pc 54 then some (.getfield 22, 57, 12, 1, 0, 0, 0) else none
  else bif Nat.blt pc 58 then bif Nat.beq pc 57 then some (.ishr, 58, 0, 0, 0, 0, 0) else none
  else bif Nat.beq pc 58 then some (.ireturn, 59, 0, 0, 0, 0, 0) else none
def gmi_J5_newCapacity_0f7a4 : gMI := gwrap 59 gcd_J5_newCapacity_0f7a4 1 6
def gcd_J5_putStringAt_47b60 (pc : Nat) : Option PE :=
  bif Nat.blt pc 7 then bif Nat.blt pc 2 then bif Nat.blt pc 1 then bif Nat.beq pc 0 then some (.aload_n 0, 1, 0, 0, 0, 0, 0) else none
  else bif Nat.beq pc 1 then some (.aload_n 2, 2, 2, 0, 0, 0, 0) else none
  else bif Nat.blt pc 5 then bif Nat.beq pc 2 then some (.invokevirtual 397, 5, 17, 2, 12, 0, 0) else none
  else bif Nat.blt pc 6 then bif Nat.beq pc 5 then some (.aload_n 2, 6, 2, 0, 0, 0, 0) else none
  else bif Nat.beq pc 6 then some (.aload_n 0, 7, 0, 0, 0, 0, 0) else none
  else bif Nat.blt pc 12 then bif Nat.blt pc 10 then bif Nat.beq pc 7 then some (.getfield 15, 10, 12, 0, 2, 0, 0) else none
  else bif Nat.blt pc 11 then bif Nat.beq pc 10 then some (.iload_n 1, 11, 1, 0, 0, 0, 0) else none
  else bif Nat.beq pc 11 then some (.aload_n 0, 12, 0, 0, 0, 0, 0) else none
  else bif Nat.blt pc 15 then bif Nat.beq pc 12 then some (.getfield 22, 15, 12, 1, 0, 0, 0) else none
  else bif Nat.blt pc 18 then bif Nat.beq pc 15 then some (.invokevirtual 399, 18, 2, 4, 11, 0, 0) else none
  else bif Nat.beq pc 18 then some (.return_, 19, 0, 0, 0, 0, 0) else none
def gmi_J5_putStringAt_47b60 : gMI := gwrap 19 gcd_J5_putStringAt_47b60 0 3
def gcd_J6_getChars_ba4f3 (pc : Nat) : Option PE :=
  bif Nat.blt pc 56 then bif Nat.blt pc 29 then bif Nat.blt pc 14 then bif Nat.blt pc 7 then bif Nat.blt pc 3 then bif Nat.blt pc 1 then bif Nat.beq pc 0 then some (.iload_n 1, 1, 1, 0, 0, 0, 0) else none
  else bif Nat.beq pc 1 then some (.istore 5, 3, 5, 0, 0, 0, 0) else none
  else bif Nat.blt pc 4 then bif Nat.beq pc 3 then some (.iload_n 0, 4, 0, 0, 0, 0, 0) else none
  else bif Nat.beq pc 4 then some (.ifCond .ge 7, 7, 11, 0, 0, 0, 0) else none
  else bif Nat.blt pc 11 then bif Nat.blt pc 8 then bif Nat.beq pc 7 then some (.iconst 1, 8, 0, 0, 0, 1, 0) else none
  else bif Nat.beq pc 8 then some (.goto 4, 11, 12, 0, 0, 0, 0) else none
  else bif Nat.blt pc 12 then bif Nat.beq pc 11 then some (.iconst 0, 12, 0, 0, 0, 0, 0) else none
  else bif Nat.beq pc 12 then some (.istore 6, 14, 6, 0, 0, 0, 0) else none
  else bif Nat.blt pc 21 then bif Nat.blt pc 19 then bif Nat.blt pc 16 then bif Nat.beq pc 14 then some (.iload 6, 16, 6, 0, 0, 0, 0) else none
  else bif Nat.beq pc 16 then some (.ifCond .ne 6, 19, 22, 0, 0, 0, 0) else none
  else bif Nat.blt pc 20 then bif Nat.beq pc 19 then some (.iload_n 0, 20, 0, 0, 0, 0, 0) else none
  else bif Nat.beq pc 20 then some (.ineg, 21, 0, 0, 0, 0, 0) else none
  else bif Nat.blt pc 23 then bif Nat.blt pc 22 then bif Nat.beq pc 21 then some (.istore_n 0, 22, 0, 0, 0, 0, 0) else none
  else bif Nat.beq pc 22 then some (.iload_n 0, 23, 0, 0, 0, 0, 0) else none
  else bif Nat.blt pc 25 then bif Nat.beq pc 23 then some (.bipush (-100), 25, 0, 0, 0, (-100), 0) else none
  else bif Nat.blt pc 28 then bif Nat.beq pc 25 then some (.if_icmp .gt 47, 28, 72, 0, 0, 0, 0) else none
  else bif Nat.beq pc 28 then some (.iload_n 0, 29, 0, 0, 0, 0, 0) else none
  else bif Nat.blt pc 41 then bif Nat.blt pc 34 then bif Nat.blt pc 32 then bif Nat.blt pc 31 then bif Nat.beq pc 29 then some (.bipush 100, 31, 0, 0, 0, 100, 0) else none
  else bif Nat.beq pc 31 then some (.idiv, 32, 0, 0, 0, 0, 0) else none
  else bif Nat.blt pc 33 then bif Nat.beq pc 32 then some (.istore_n 3, 33, 3, 0, 0, 0, 0) else none
  else bif Nat.beq pc 33 then some (.iload_n 3, 34, 3, 0, 0, 0, 0) else none
  else bif Nat.blt pc 37 then bif Nat.blt pc 36 then bif Nat.beq pc 34 then some (.bipush 100, 36, 0, 0, 0, 100, 0) else none
  else bif Nat.beq pc 36 then some (.imul, 37, 0, 0, 0, 0, 0) else none
  else bif Nat.blt pc 38 then bif Nat.beq pc 37 then some (.iload_n 0, 38, 0, 0, 0, 0, 0) else none
  else bif Nat.blt pc 39 then bif Nat.beq pc 38 then some (.isub, 39, 0, 0, 0, 0, 0) else none
  else bif Nat.beq pc 39 then some (.istore 4, 41, 4, 0, 0, 0, 0) else none
  else bif Nat.blt pc 47 then bif Nat.blt pc 43 then bif Nat.blt pc 42 then bif Nat.beq pc 41 then some (.iload_n 3, 42, 3, 0, 0, 0, 0) else none
  else bif Nat.beq pc 42 then some (.istore_n 0, 43, 0, 0, 0, 0, 0) else none
  else bif Nat.blt pc 44 then bif Nat.beq pc 43 then some (.aload_n 2, 44, 2, 0, 0, 0, 0) else none
  else bif Nat.beq pc 44 then some (.iinc 5 (-1), 47, 5, 0, 1, 1, 0) else none
  else bif Nat.blt pc 52 then bif Nat.blt pc 49 then bif Nat.beq pc 47 then some (.iload 5, 49, 5, 0, 0, 0, 0) else none
  else bif Nat.beq pc 49 then some (.getstatic 83, 52, 3, 0, 2, 0, 0) else none
  else bif Nat.blt pc 54 then bif Nat.beq pc 52 then some (.iload 4, 54, 4, 0, 0, 0, 0) else none
  else bif Nat.blt pc 55 then bif Nat.beq pc 54 then some (.baload, 55, 0, 0, 0, 0, 0) else none
  else bif Nat.beq pc 55 then some (.bastore, 56, 0, 0, 0, 0, 0) else none
  else bif Nat.blt pc 88 then bif Nat.blt pc 73 then bif Nat.blt pc 65 then bif Nat.blt pc 60 then bif Nat.blt pc 57 then bif Nat.beq pc 56 then some (.aload_n 2, 57, 2, 0, 0, 0, 0) else none
  else bif Nat.beq pc 57 then some (.iinc 5 (-1), 60, 5, 0, 1, 1, 0) else none
  else bif Nat.blt pc 62 then bif Nat.beq pc 60 then some (.iload 5, 62, 5, 0, 0, 0, 0) else none
  else bif Nat.beq pc 62 then some (.getstatic 87, 65, 4, 0, 2, 0, 0) else none
  else bif Nat.blt pc 68 then bif Nat.blt pc 67 then bif Nat.beq pc 65 then some (.iload 4, 67, 4, 0, 0, 0, 0) else none
  else bif Nat.beq pc 67 then some (.baload, 68, 0, 0, 0, 0, 0) else none
  else bif Nat.blt pc 69 then bif Nat.beq pc 68 then some (.bastore, 69, 0, 0, 0, 0, 0) else none
  else bif Nat.blt pc 72 then bif Nat.beq pc 69 then some (.goto (-47), 72, 22, 0, 0, 0, 0) else none
  else bif Nat.beq pc 72 then some (.aload_n 2, 73, 2, 0, 0, 0, 0) else none
  else bif Nat.blt pc 82 then bif Nat.blt pc 78 then bif Nat.blt pc 76 then bif Nat.beq pc 73 then some (.iinc 5 (-1), 76, 5, 0, 1, 1, 0) else none
  else bif Nat.beq pc 76 then some (.iload 5, 78, 5, 0, 0, 0, 0) else none
  else bif Nat.blt pc 81 then bif Nat.beq pc 78 then some (.getstatic 83, 81, 3, 0, 2, 0, 0) else none
  else bif Nat.beq pc 81 then some (.iload_n 0, 82, 0, 0, 0, 0, 0) else none
  else bif Nat.blt pc 84 then bif Nat.blt pc 83 then bif Nat.beq pc 82 then some (.ineg, 83, 0, 0, 0, 0, 0) else none
  else bif Nat.beq pc 83 then some (.baload, 84, 0, 0, 0, 0, 0) else none
  else bif Nat.blt pc 85 then bif Nat.beq pc 84 then some (.bastore, 85, 0, 0, 0, 0, 0) else none
  else bif Nat.blt pc 86 then bif Nat.beq pc 85 then some (.iload_n 0, 86, 0, 0, 0, 0, 0) else none
  else bif Nat.beq pc 86 then some (.bipush (-9), 88, 0, 0, 0, (-9), 0) else none
  else bif Nat.blt pc 104 then bif Nat.blt pc 97 then bif Nat.blt pc 92 then bif Nat.blt pc 91 then bif Nat.beq pc 88 then some (.if_icmp .ge 16, 91, 104, 0, 0, 0, 0) else none
  else bif Nat.beq pc 91 then some (.aload_n 2, 92, 2, 0, 0, 0, 0) else none
  else bif Nat.blt pc 95 then bif Nat.beq pc 92 then some (.iinc 5 (-1), 95, 5, 0, 1, 1, 0) else none
  else bif Nat.beq pc 95 then some (.iload 5, 97, 5, 0, 0, 0, 0) else none
  else bif Nat.blt pc 101 then bif Nat.blt pc 100 then bif Nat.beq pc 97 then some (.getstatic 87, 100, 4, 0, 2, 0, 0) else none
  else bif Nat.beq pc 100 then some (.iload_n 0, 101, 0, 0, 0, 0, 0) else none
  else bif Nat.blt pc 102 then bif Nat.beq pc 101 then some (.ineg, 102, 0, 0, 0, 0, 0) else none
  else bif Nat.blt pc 103 then bif Nat.beq pc 102 then some (.baload, 103, 0, 0, 0, 0, 0) else none
  else bif Nat.beq pc 103 then some (.bastore, 104, 0, 0, 0, 0, 0) else none
  else bif Nat.blt pc 113 then bif Nat.blt pc 109 then bif Nat.blt pc 106 then bif Nat.beq pc 104 then some (.iload 6, 106, 6, 0, 0, 0, 0) else none
  else bif Nat.beq pc 106 then some (.ifCond .eq 12, 109, 118, 0, 0, 0, 0) else none
  else bif Nat.blt pc 110 then bif Nat.beq pc 109 then some (.aload_n 2, 110, 2, 0, 0, 0, 0) else none
  else bif Nat.beq pc 110 then some (.iinc 5 (-1), 113, 5, 0, 1, 1, 0) else none
  else bif Nat.blt pc 117 then bif Nat.blt pc 115 then bif Nat.beq pc 113 then some (.iload 5, 115, 5, 0, 0, 0, 0) else none
  else bif Nat.beq pc 115 then some (.bipush 45, 117, 0, 0, 0, 45, 0) else none
  else bif Nat.blt pc 118 then bif Nat.beq pc 117 then some (.bastore, 118, 0, 0, 0, 0, 0) else none
  else bif Nat.blt pc 120 then bif Nat.beq pc 118 then some (.iload 5, 120, 5, 0, 0, 0, 0) else none
  else bif Nat.beq pc 120 then some (.ireturn, 121, 0, 0, 0, 0, 0) else none
def gmi_J6_getChars_ba4f3 : gMI := gwrap 121 gcd_J6_getChars_ba4f3 1 7
def gcd_J6_stringSize_0f7a4 (pc : Nat) : Option PE :=
  bif Nat.blt pc 22 then bif Nat.blt pc 10 then bif Nat.blt pc 6 then bif Nat.blt pc 2 then bif Nat.blt pc 1 then bif Nat.beq pc 0 then some (.iconst 1, 1, 0, 0, 0, 1, 0) else none
  else bif Nat.beq pc 1 then some (.istore_n 1, 2, 1, 0, 0, 0, 0) else none
  else bif Nat.blt pc 3 then bif Nat.beq pc 2 then some (.iload_n 0, 3, 0, 0, 0, 0, 0) else none
  else bif Nat.beq pc 3 then some (.ifCond .lt 8, 6, 11, 0, 0, 0, 0) else none
  else bif Nat.blt pc 8 then bif Nat.blt pc 7 then bif Nat.beq pc 6 then some (.iconst 0, 7, 0, 0, 0, 0, 0) else none
  else bif Nat.beq pc 7 then some (.istore_n 1, 8, 1, 0, 0, 0, 0) else none
  else bif Nat.blt pc 9 then bif Nat.beq pc 8 then some (.iload_n 0, 9, 0, 0, 0, 0, 0) else none
  else bif Nat.beq pc 9 then some (.ineg, 10, 0, 0, 0, 0, 0) else none
  else bif Nat.blt pc 15 then bif Nat.blt pc 13 then bif Nat.blt pc 11 then bif Nat.beq pc 10 then some (.istore_n 0, 11, 0, 0, 0, 0, 0) else none
  else bif Nat.beq pc 11 then some (.bipush (-10), 13, 0, 0, 0, (-10), 0) else none
  else bif Nat.blt pc 14 then bif Nat.beq pc 13 then some (.istore_n 2, 14, 2, 0, 0, 0, 0) else none
  else bif Nat.beq pc 14 then some (.iconst 1, 15, 0, 0, 0, 1, 0) else none
  else bif Nat.blt pc 17 then bif Nat.blt pc 16 then bif Nat.beq pc 15 then some (.istore_n 3, 16, 3, 0, 0, 0, 0) else none
  else bif Nat.beq pc 16 then some (.iload_n 3, 17, 3, 0, 0, 0, 0) else none
  else bif Nat.blt pc 19 then bif Nat.beq pc 17 then some (.bipush 10, 19, 0, 0, 0, 10, 0) else none
  else bif Nat.beq pc 19 then some (.if_icmp .ge 23, 22, 42, 0, 0, 0, 0) else none
  else bif Nat.blt pc 33 then bif Nat.blt pc 28 then bif Nat.blt pc 24 then bif Nat.blt pc 23 then bif Nat.beq pc 22 then some (.iload_n 0, 23, 0, 0, 0, 0, 0) else none
  else bif Nat.beq pc 23 then some (.iload_n 2, 24, 2, 0, 0, 0, 0) else none
  else bif Nat.blt pc 27 then bif Nat.beq pc 24 then some (.if_icmp .le 7, 27, 31, 0, 0, 0, 0) else none
  else bif Nat.beq pc 27 then some (.iload_n 3, 28, 3, 0, 0, 0, 0) else none
  else bif Nat.blt pc 30 then bif Nat.blt pc 29 then bif Nat.beq pc 28 then some (.iload_n 1, 29, 1, 0, 0, 0, 0) else none
  else bif Nat.beq pc 29 then some (.iadd, 30, 0, 0, 0, 0, 0) else none
  else bif Nat.blt pc 31 then bif Nat.beq pc 30 then some (.ireturn, 31, 0, 0, 0, 0, 0) else none
  else bif Nat.beq pc 31 then some (.bipush 10, 33, 0, 0, 0, 10, 0) else none
  else bif Nat.blt pc 39 then bif Nat.blt pc 35 then bif Nat.blt pc 34 then bif Nat.beq pc 33 then some (.iload_n 2, 34, 2, 0, 0, 0, 0) else none
  else bif Nat.beq pc 34 then some (.imul, 35, 0, 0, 0, 0, 0) else none
  else bif Nat.blt pc 36 then bif Nat.beq pc 35 then some (.istore_n 2, 36, 2, 0, 0, 0, 0) else none
  else bif Nat.beq pc 36 then some (.iinc 3 1, 39, 3, 0, 0, 1, 0) else none
  else bif Nat.blt pc 44 then bif Nat.blt pc 42 then bif Nat.beq pc 39 then some (.goto (-23), 42, 16, 0, 0, 0, 0) else none
  else bif Nat.beq pc 42 then some (.bipush 10, 44, 0, 0, 0, 10, 0) else none
  else bif Nat.blt pc 45 then bif Nat.beq pc 44 then some (.iload_n 1, 45, 1, 0, 0, 0, 0) else none
  else bif Nat.blt pc 46 then bif Nat.beq pc 45 then some (.iadd, 46, 0, 0, 0, 0, 0) else none
  else bif Nat.beq pc 46 then some (.ireturn, 47, 0, 0, 0, 0, 0) else none
def gmi_J6_stringSize_0f7a4 : gMI := gwrap 47 gcd_J6_stringSize_0f7a4 1 4
def gcd_J7_checkLength_df160 (pc : Nat) : Option PE :=
  bif Nat.blt pc 2 then bif Nat.blt pc 1 then bif Nat.beq pc 0 then some (.iload_n 1, 1, 1, 0, 0, 0, 0) else none
  else bif Nat.beq pc 1 then some (.iload_n 0, 2, 0, 0, 0, 0, 0) else none
  else bif Nat.blt pc 37 then bif Nat.beq pc 2 then some (.if_icmp .ge 35, 5, 37, 0, 0, 0, 0) else none
  else bif Nat.beq pc 37 then some (.return_, 38, 0, 0, 0, 0, 0) else none
def gmi_J7_checkLength_df160 : gMI := gwrap 38 gcd_J7_checkLength_df160 0 2
def gcd_J7_copyOfRangeByte_39247 (pc : Nat) : Option PE :=
  bif Nat.blt pc 15 then bif Nat.blt pc 7 then bif Nat.blt pc 2 then bif Nat.blt pc 1 then bif Nat.beq pc 0 then some (.iload_n 1, 1, 1, 0, 0, 0, 0) else none
  else bif Nat.beq pc 1 then some (.iload_n 2, 2, 2, 0, 0, 0, 0) else none
  else bif Nat.blt pc 5 then bif Nat.beq pc 2 then some (.invokestatic 343, 5, 25, 2, 99, 0, 0) else none
  else bif Nat.blt pc 6 then bif Nat.beq pc 5 then some (.iload_n 2, 6, 2, 0, 0, 0, 0) else none
  else bif Nat.beq pc 6 then some (.iload_n 1, 7, 1, 0, 0, 0, 0) else none
  else bif Nat.blt pc 10 then bif Nat.blt pc 8 then bif Nat.beq pc 7 then some (.isub, 8, 0, 0, 0, 0, 0) else none
  else bif Nat.blt pc 9 then bif Nat.beq pc 8 then some (.istore_n 3, 9, 3, 0, 0, 0, 0) else none
  else bif Nat.beq pc 9 then some (.iload_n 3, 10, 3, 0, 0, 0, 0) else none
  else bif Nat.blt pc 12 then bif Nat.beq pc 10 then some (.newarray .byte, 12, 0, 0, 2, 0, 0) else none
  else bif Nat.blt pc 14 then bif Nat.beq pc 12 then some (.astore 4, 14, 4, 0, 0, 0, 0) else none
  else bif Nat.beq pc 14 then some (.aload_n 0, 15, 0, 0, 0, 0, 0) else none
  else bif Nat.blt pc 22 then bif Nat.blt pc 19 then bif Nat.blt pc 16 then bif Nat.beq pc 15 then some (.iload_n 1, 16, 1, 0, 0, 0, 0) else none
  else bif Nat.blt pc 18 then bif Nat.beq pc 16 then some (.aload 4, 18, 4, 0, 0, 0, 0) else none
  else bif Nat.beq pc 18 then some (.iconst 0, 19, 0, 0, 0, 0, 0) else none
  else bif Nat.blt pc 20 then bif Nat.beq pc 19 then some (.aload_n 0, 20, 0, 0, 0, 0, 0) else none
  else bif Nat.blt pc 21 then bif Nat.beq pc 20 then some (.arraylength, 21, 0, 0, 0, 0, 0) else none
  else bif Nat.beq pc 21 then some (.iload_n 1, 22, 1, 0, 0, 0, 0) else none
  else bif Nat.blt pc 27 then bif Nat.blt pc 23 then bif Nat.beq pc 22 then some (.isub, 23, 0, 0, 0, 0, 0) else none
  else bif Nat.blt pc 24 then bif Nat.beq pc 23 then some (.iload_n 3, 24, 3, 0, 0, 0, 0) else none
  else bif Nat.beq pc 24 then some (.invokestatic 304, 27, 0, 0, 100, 0, 0) else none
  else bif Nat.blt pc 30 then bif Nat.beq pc 27 then some (.invokestatic 150, 30, 0, 0, 103, 0, 0) else none
  else bif Nat.blt pc 32 then bif Nat.beq pc 30 then some (.aload 4, 32, 4, 0, 0, 0, 0) else none
  else bif Nat.beq pc 32 then some (.areturn, 33, 0, 0, 0, 0, 0) else none
def gmi_J7_copyOfRangeByte_39247 : gMI := gwrap 33 gcd_J7_copyOfRangeByte_39247 4 5
def gcd_J7_copyOfRange_39247 (pc : Nat) : Option PE :=
  bif Nat.blt pc 11 then bif Nat.blt pc 5 then bif Nat.blt pc 1 then bif Nat.beq pc 0 then some (.iload_n 1, 1, 1, 0, 0, 0, 0) else none
  else bif Nat.blt pc 4 then bif Nat.beq pc 1 then some (.ifCond .ne 9, 4, 10, 0, 0, 0, 0) else none
  else bif Nat.beq pc 4 then some (.iload_n 2, 5, 2, 0, 0, 0, 0) else none
  else bif Nat.blt pc 7 then bif Nat.blt pc 6 then bif Nat.beq pc 5 then some (.aload_n 0, 6, 0, 0, 0, 0, 0) else none
  else bif Nat.beq pc 6 then some (.arraylength, 7, 0, 0, 0, 0, 0) else none
  else bif Nat.blt pc 10 then bif Nat.beq pc 7 then some (.if_icmp .eq 10, 10, 17, 0, 0, 0, 0) else none
  else bif Nat.beq pc 10 then some (.aload_n 0, 11, 0, 0, 0, 0, 0) else none
  else bif Nat.blt pc 17 then bif Nat.blt pc 13 then bif Nat.blt pc 12 then bif Nat.beq pc 11 then some (.iload_n 1, 12, 1, 0, 0, 0, 0) else none
  else bif Nat.beq pc 12 then some (.iload_n 2, 13, 2, 0, 0, 0, 0) else none
  else bif Nat.blt pc 16 then bif Nat.beq pc 13 then some (.invokestatic 339, 16, 26, 3, 99, 0, 0) else none
  else bif Nat.beq pc 16 then some (.areturn, 17, 0, 0, 0, 0, 0) else none
  else bif Nat.blt pc 21 then bif Nat.blt pc 18 then bif Nat.beq pc 17 then some (.aload_n 0, 18, 0, 0, 0, 0, 0) else none
  else bif Nat.beq pc 18 then some (.invokevirtual 310, 21, 2, 0, 130, 0, 0) else none
  else bif Nat.blt pc 24 then bif Nat.beq pc 21 then some (.checkcast 311, 24, 0, 0, 2, 0, 0) else none
  else bif Nat.beq pc 24 then some (.areturn, 25, 0, 0, 0, 0, 0) else none
def gmi_J7_copyOfRange_39247 : gMI := gwrap 25 gcd_J7_copyOfRange_39247 4 3
def gcd_J7_copyOf_9075b (pc : Nat) : Option PE :=
  bif Nat.blt pc 18 then bif Nat.blt pc 7 then bif Nat.blt pc 2 then bif Nat.blt pc 1 then bif Nat.beq pc 0 then some (.iload_n 1, 1, 1, 0, 0, 0, 0) else none
  else bif Nat.beq pc 1 then some (.aload_n 0, 2, 0, 0, 0, 0, 0) else none
  else bif Nat.blt pc 3 then bif Nat.beq pc 2 then some (.arraylength, 3, 0, 0, 0, 0, 0) else none
  else bif Nat.blt pc 6 then bif Nat.beq pc 3 then some (.if_icmp .ne 11, 6, 14, 0, 0, 0, 0) else none
  else bif Nat.beq pc 6 then some (.aload_n 0, 7, 0, 0, 0, 0, 0) else none
  else bif Nat.blt pc 14 then bif Nat.blt pc 10 then bif Nat.beq pc 7 then some (.invokevirtual 310, 10, 2, 0, 130, 0, 0) else none
  else bif Nat.blt pc 13 then bif Nat.beq pc 10 then some (.checkcast 311, 13, 0, 0, 2, 0, 0) else none
  else bif Nat.beq pc 13 then some (.areturn, 14, 0, 0, 0, 0, 0) else none
  else bif Nat.blt pc 15 then bif Nat.beq pc 14 then some (.iload_n 1, 15, 1, 0, 0, 0, 0) else none
  else bif Nat.blt pc 17 then bif Nat.beq pc 15 then some (.newarray .byte, 17, 0, 0, 2, 0, 0) else none
  else bif Nat.beq pc 17 then some (.astore_n 2, 18, 2, 0, 0, 0, 0) else none
  else bif Nat.blt pc 23 then bif Nat.blt pc 20 then bif Nat.blt pc 19 then bif Nat.beq pc 18 then some (.aload_n 0, 19, 0, 0, 0, 0, 0) else none
  else bif Nat.beq pc 19 then some (.iconst 0, 20, 0, 0, 0, 0, 0) else none
  else bif Nat.blt pc 21 then bif Nat.beq pc 20 then some (.aload_n 2, 21, 2, 0, 0, 0, 0) else none
  else bif Nat.blt pc 22 then bif Nat.beq pc 21 then some (.iconst 0, 22, 0, 0, 0, 0, 0) else none
  else bif Nat.beq pc 22 then some (.aload_n 0, 23, 0, 0, 0, 0, 0) else none
  else bif Nat.blt pc 28 then bif Nat.blt pc 24 then bif Nat.beq pc 23 then some (.arraylength, 24, 0, 0, 0, 0, 0) else none
  else bif Nat.blt pc 25 then bif Nat.beq pc 24 then some (.iload_n 1, 25, 1, 0, 0, 0, 0) else none
  else bif Nat.beq pc 25 then some (.invokestatic 304, 28, 0, 0, 100, 0, 0) else none
  else bif Nat.blt pc 31 then bif Nat.beq pc 28 then some (.invokestatic 150, 31, 0, 0, 103, 0, 0) else none
  else bif Nat.blt pc 32 then bif Nat.beq pc 31 then some (.aload_n 2, 32, 2, 0, 0, 0, 0) else none
  else bif Nat.beq pc 32 then some (.areturn, 33, 0, 0, 0, 0, 0) else none
def gmi_J7_copyOf_9075b : gMI := gwrap 33 gcd_J7_copyOf_9075b 4 3
def gcd_J8_newLength_cabcc (pc : Nat) : Option PE :=
  bif Nat.blt pc 10 then bif Nat.blt pc 6 then bif Nat.blt pc 2 then bif Nat.blt pc 1 then bif Nat.beq pc 0 then some (.iload_n 0, 1, 0, 0, 0, 0, 0) else none
  else bif Nat.beq pc 1 then some (.iload_n 1, 2, 1, 0, 0, 0, 0) else none
  else bif Nat.blt pc 3 then bif Nat.beq pc 2 then some (.iload_n 2, 3, 2, 0, 0, 0, 0) else none
  else bif Nat.beq pc 3 then some (.invokestatic 194, 6, 0, 0, 104, 0, 0) else none
  else bif Nat.blt pc 8 then bif Nat.blt pc 7 then bif Nat.beq pc 6 then some (.iadd, 7, 0, 0, 0, 0, 0) else none
  else bif Nat.beq pc 7 then some (.istore_n 3, 8, 3, 0, 0, 0, 0) else none
  else bif Nat.blt pc 9 then bif Nat.beq pc 8 then some (.iconst 0, 9, 0, 0, 0, 0, 0) else none
  else bif Nat.beq pc 9 then some (.iload_n 3, 10, 3, 0, 0, 0, 0) else none
  else bif Nat.blt pc 19 then bif Nat.blt pc 14 then bif Nat.blt pc 13 then bif Nat.beq pc 10 then some (.if_icmp .ge 11, 13, 21, 0, 0, 0, 0) else none
  else bif Nat.beq pc 13 then some (.iload_n 3, 14, 3, 0, 0, 0, 0) else none
  else bif Nat.blt pc 16 then bif Nat.beq pc 14 then some (.ldc 200, 16, 0, 0, 0, 2147483639, 0) else none
  else bif Nat.beq pc 16 then some (.if_icmp .gt 5, 19, 21, 0, 0, 0, 0) else none
  else bif Nat.blt pc 21 then bif Nat.blt pc 20 then bif Nat.beq pc 19 then some (.iload_n 3, 20, 3, 0, 0, 0, 0) else none
  else bif Nat.beq pc 20 then some (.ireturn, 21, 0, 0, 0, 0, 0) else none
  else bif Nat.blt pc 22 then bif Nat.beq pc 21 then some (.iload_n 0, 22, 0, 0, 0, 0, 0) else none
  else bif Nat.beq pc 22 then some (.iload_n 1, 23, 1, 0, 0, 0, 0) else none
def gmi_J8_newLength_cabcc : gMI := gwrap 23 gcd_J8_newLength_cabcc 1 4
def gcd_X8_init (pc : Nat) : Option PE :=
  bif Nat.blt pc 21 then bif Nat.blt pc 9 then bif Nat.blt pc 4 then bif Nat.blt pc 1 then bif Nat.beq pc 0 then some (.aload_n 0, 1, 0, 0, 0, 0, 0) else none
  else bif Nat.beq pc 1 then some (.invokespecial 3, 4, 0, 0, 50, 0, 0) else none
  else bif Nat.blt pc 5 then bif Nat.beq pc 4 then some (.aload_n 0, 5, 0, 0, 0, 0, 0) else none
  else bif Nat.blt pc 6 then bif Nat.beq pc 5 then some (.iconst 0, 6, 0, 0, 0, 0, 0) else none
  else bif Nat.beq pc 6 then some (.anewarray 9, 9, 0, 0, 6, 0, 0) else none
  else bif Nat.blt pc 14 then bif Nat.blt pc 12 then bif Nat.beq pc 9 then some (.putfield 11, 12, 8, 3, 2, 0, 0) else none
  else bif Nat.blt pc 13 then bif Nat.beq pc 12 then some (.aload_n 0, 13, 0, 0, 0, 0, 0) else none
  else bif Nat.beq pc 13 then some (.iconst 0, 14, 0, 0, 0, 0, 0) else none
  else bif Nat.blt pc 17 then bif Nat.beq pc 14 then some (.anewarray 9, 17, 0, 0, 6, 0, 0) else none
  else bif Nat.blt pc 20 then bif Nat.beq pc 17 then some (.putfield 17, 20, 8, 4, 2, 0, 0) else none
  else bif Nat.beq pc 20 then some (.aload_n 0, 21, 0, 0, 0, 0, 0) else none
  else bif Nat.blt pc 31 then bif Nat.blt pc 27 then bif Nat.blt pc 22 then bif Nat.beq pc 21 then some (.iconst 0, 22, 0, 0, 0, 0, 0) else none
  else bif Nat.blt pc 24 then bif Nat.beq pc 22 then some (.newarray .int, 24, 0, 0, 1, 0, 0) else none
  else bif Nat.beq pc 24 then some (.putfield 20, 27, 8, 5, 2, 0, 0) else none
  else bif Nat.blt pc 28 then bif Nat.beq pc 27 then some (.aload_n 0, 28, 0, 0, 0, 0, 0) else none
  else bif Nat.blt pc 29 then bif Nat.beq pc 28 then some (.iconst 0, 29, 0, 0, 0, 0, 0) else none
  else bif Nat.beq pc 29 then some (.newarray .int, 31, 0, 0, 1, 0, 0) else none
  else bif Nat.blt pc 36 then bif Nat.blt pc 34 then bif Nat.beq pc 31 then some (.putfield 23, 34, 8, 6, 2, 0, 0) else none
  else bif Nat.blt pc 35 then bif Nat.beq pc 34 then some (.aload_n 0, 35, 0, 0, 0, 0, 0) else none
  else bif Nat.beq pc 35 then some (.iconst 0, 36, 0, 0, 0, 0, 0) else none
  else bif Nat.blt pc 39 then bif Nat.beq pc 36 then some (.anewarray 9, 39, 0, 0, 6, 0, 0) else none
  else bif Nat.blt pc 42 then bif Nat.beq pc 39 then some (.putfield 26, 42, 8, 7, 2, 0, 0) else none
  else bif Nat.beq pc 42 then some (.return_, 43, 0, 0, 0, 0, 0) else none
def gmi_X8_init : gMI := gwrap 43 gcd_X8_init 0 1
def gcd_X8_copy (pc : Nat) : Option PE :=
  bif Nat.blt pc 42 then bif Nat.blt pc 21 then bif Nat.blt pc 9 then bif Nat.blt pc 4 then bif Nat.blt pc 3 then bif Nat.beq pc 0 then some (.new 12, 3, 8, 0, 0, 0, 0) else none
  else bif Nat.beq pc 3 then some (.dup, 4, 0, 0, 0, 0, 0) else none
  else bif Nat.blt pc 7 then bif Nat.beq pc 4 then some (.invokespecial 29, 7, 30, 1, 98, 0, 0) else none
  else bif Nat.blt pc 8 then bif Nat.beq pc 7 then some (.astore_n 1, 8, 1, 0, 0, 0, 0) else none
  else bif Nat.beq pc 8 then some (.aload_n 1, 9, 1, 0, 0, 0, 0) else none
  else bif Nat.blt pc 16 then bif Nat.blt pc 10 then bif Nat.beq pc 9 then some (.aload_n 0, 10, 0, 0, 0, 0, 0) else none
  else bif Nat.blt pc 13 then bif Nat.beq pc 10 then some (.getfield 30, 13, 8, 0, 0, 0, 0) else none
  else bif Nat.beq pc 13 then some (.putfield 30, 16, 8, 0, 0, 0, 0) else none
  else bif Nat.blt pc 17 then bif Nat.beq pc 16 then some (.aload_n 1, 17, 1, 0, 0, 0, 0) else none
  else bif Nat.blt pc 18 then bif Nat.beq pc 17 then some (.aload_n 0, 18, 0, 0, 0, 0, 0) else none
  else bif Nat.beq pc 18 then some (.getfield 34, 21, 8, 1, 0, 0, 0) else none
  else bif Nat.blt pc 32 then bif Nat.blt pc 25 then bif Nat.blt pc 24 then bif Nat.beq pc 21 then some (.putfield 34, 24, 8, 1, 0, 0, 0) else none
  else bif Nat.beq pc 24 then some (.aload_n 1, 25, 1, 0, 0, 0, 0) else none
  else bif Nat.blt pc 26 then bif Nat.beq pc 25 then some (.aload_n 0, 26, 0, 0, 0, 0, 0) else none
  else bif Nat.blt pc 29 then bif Nat.beq pc 26 then some (.getfield 37, 29, 8, 2, 2, 0, 0) else none
  else bif Nat.beq pc 29 then some (.putfield 37, 32, 8, 2, 2, 0, 0) else none
  else bif Nat.blt pc 37 then bif Nat.blt pc 33 then bif Nat.beq pc 32 then some (.aload_n 1, 33, 1, 0, 0, 0, 0) else none
  else bif Nat.blt pc 34 then bif Nat.beq pc 33 then some (.aload_n 0, 34, 0, 0, 0, 0, 0) else none
  else bif Nat.beq pc 34 then some (.getfield 11, 37, 8, 3, 2, 0, 0) else none
  else bif Nat.blt pc 40 then bif Nat.beq pc 37 then some (.putfield 11, 40, 8, 3, 2, 0, 0) else none
  else bif Nat.blt pc 41 then bif Nat.beq pc 40 then some (.aload_n 1, 41, 1, 0, 0, 0, 0) else none
  else bif Nat.beq pc 41 then some (.aload_n 0, 42, 0, 0, 0, 0, 0) else none
  else bif Nat.blt pc 65 then bif Nat.blt pc 53 then bif Nat.blt pc 48 then bif Nat.blt pc 45 then bif Nat.beq pc 42 then some (.getfield 17, 45, 8, 4, 2, 0, 0) else none
  else bif Nat.beq pc 45 then some (.putfield 17, 48, 8, 4, 2, 0, 0) else none
  else bif Nat.blt pc 49 then bif Nat.beq pc 48 then some (.aload_n 1, 49, 1, 0, 0, 0, 0) else none
  else bif Nat.blt pc 50 then bif Nat.beq pc 49 then some (.aload_n 0, 50, 0, 0, 0, 0, 0) else none
  else bif Nat.beq pc 50 then some (.getfield 20, 53, 8, 5, 2, 0, 0) else none
  else bif Nat.blt pc 58 then bif Nat.blt pc 56 then bif Nat.beq pc 53 then some (.putfield 20, 56, 8, 5, 2, 0, 0) else none
  else bif Nat.blt pc 57 then bif Nat.beq pc 56 then some (.aload_n 1, 57, 1, 0, 0, 0, 0) else none
  else bif Nat.beq pc 57 then some (.aload_n 0, 58, 0, 0, 0, 0, 0) else none
  else bif Nat.blt pc 61 then bif Nat.beq pc 58 then some (.getfield 23, 61, 8, 6, 2, 0, 0) else none
  else bif Nat.blt pc 64 then bif Nat.beq pc 61 then some (.putfield 23, 64, 8, 6, 2, 0, 0) else none
  else bif Nat.beq pc 64 then some (.aload_n 1, 65, 1, 0, 0, 0, 0) else none
  else bif Nat.blt pc 78 then bif Nat.blt pc 69 then bif Nat.blt pc 66 then bif Nat.beq pc 65 then some (.aload_n 0, 66, 0, 0, 0, 0, 0) else none
  else bif Nat.beq pc 66 then some (.getfield 26, 69, 8, 7, 2, 0, 0) else none
  else bif Nat.blt pc 72 then bif Nat.beq pc 69 then some (.invokevirtual 41, 72, 6, 0, 130, 0, 0) else none
  else bif Nat.blt pc 75 then bif Nat.beq pc 72 then some (.checkcast 42, 75, 0, 0, 6, 0, 0) else none
  else bif Nat.beq pc 75 then some (.putfield 26, 78, 8, 7, 2, 0, 0) else none
  else bif Nat.blt pc 83 then bif Nat.blt pc 79 then bif Nat.beq pc 78 then some (.aload_n 1, 79, 1, 0, 0, 0, 0) else none
  else bif Nat.blt pc 80 then bif Nat.beq pc 79 then some (.aload_n 0, 80, 0, 0, 0, 0, 0) else none
  else bif Nat.beq pc 80 then some (.getfield 46, 83, 8, 8, 2, 0, 0) else none
  else bif Nat.blt pc 86 then bif Nat.beq pc 83 then some (.putfield 46, 86, 8, 8, 2, 0, 0) else none
  else bif Nat.blt pc 87 then bif Nat.beq pc 86 then some (.aload_n 1, 87, 1, 0, 0, 0, 0) else none
  else bif Nat.beq pc 87 then some (.areturn, 88, 0, 0, 0, 0, 0) else none
def gmi_X8_copy : gMI := gwrap 88 gcd_X8_copy 4 2
def gcd_X8_arcs (pc : Nat) : Option PE :=
  bif Nat.blt pc 5 then bif Nat.blt pc 1 then bif Nat.beq pc 0 then some (.iconst 2, 1, 0, 0, 0, 2, 0) else none
  else bif Nat.blt pc 2 then bif Nat.beq pc 1 then some (.aload_n 0, 2, 0, 0, 0, 0, 0) else none
  else bif Nat.beq pc 2 then some (.getfield 11, 5, 8, 3, 2, 0, 0) else none
  else bif Nat.blt pc 6 then bif Nat.beq pc 5 then some (.arraylength, 6, 0, 0, 0, 0, 0) else none
  else bif Nat.blt pc 7 then bif Nat.beq pc 6 then some (.imul, 7, 0, 0, 0, 0, 0) else none
  else bif Nat.beq pc 7 then some (.ireturn, 8, 0, 0, 0, 0, 0) else none
def gmi_X8_arcs : gMI := gwrap 8 gcd_X8_arcs 1 1
def gcd_X8_from (pc : Nat) : Option PE :=
  bif Nat.blt pc 7 then bif Nat.blt pc 4 then bif Nat.blt pc 1 then bif Nat.beq pc 0 then some (.aload_n 0, 1, 0, 0, 0, 0, 0) else none
  else bif Nat.beq pc 1 then some (.getfield 11, 4, 8, 3, 2, 0, 0) else none
  else bif Nat.blt pc 5 then bif Nat.beq pc 4 then some (.iload_n 1, 5, 1, 0, 0, 0, 0) else none
  else bif Nat.blt pc 6 then bif Nat.beq pc 5 then some (.iconst 2, 6, 0, 0, 0, 2, 0) else none
  else bif Nat.beq pc 6 then some (.idiv, 7, 0, 0, 0, 0, 0) else none
  else bif Nat.blt pc 10 then bif Nat.blt pc 8 then bif Nat.beq pc 7 then some (.aaload, 8, 0, 0, 0, 0, 0) else none
  else bif Nat.blt pc 9 then bif Nat.beq pc 8 then some (.iload_n 1, 9, 1, 0, 0, 0, 0) else none
  else bif Nat.beq pc 9 then some (.iconst 2, 10, 0, 0, 0, 2, 0) else none
  else bif Nat.blt pc 11 then bif Nat.beq pc 10 then some (.irem, 11, 0, 0, 0, 0, 0) else none
  else bif Nat.blt pc 12 then bif Nat.beq pc 11 then some (.iaload, 12, 0, 0, 0, 0, 0) else none
  else bif Nat.beq pc 12 then some (.ireturn, 13, 0, 0, 0, 0, 0) else none
def gmi_X8_from : gMI := gwrap 13 gcd_X8_from 1 2
def gcd_X8_to (pc : Nat) : Option PE :=
  bif Nat.blt pc 8 then bif Nat.blt pc 5 then bif Nat.blt pc 1 then bif Nat.beq pc 0 then some (.aload_n 0, 1, 0, 0, 0, 0, 0) else none
  else bif Nat.blt pc 4 then bif Nat.beq pc 1 then some (.getfield 11, 4, 8, 3, 2, 0, 0) else none
  else bif Nat.beq pc 4 then some (.iload_n 1, 5, 1, 0, 0, 0, 0) else none
  else bif Nat.blt pc 6 then bif Nat.beq pc 5 then some (.iconst 2, 6, 0, 0, 0, 2, 0) else none
  else bif Nat.blt pc 7 then bif Nat.beq pc 6 then some (.idiv, 7, 0, 0, 0, 0, 0) else none
  else bif Nat.beq pc 7 then some (.aaload, 8, 0, 0, 0, 0, 0) else none
  else bif Nat.blt pc 11 then bif Nat.blt pc 9 then bif Nat.beq pc 8 then some (.iconst 1, 9, 0, 0, 0, 1, 0) else none
  else bif Nat.blt pc 10 then bif Nat.beq pc 9 then some (.iload_n 1, 10, 1, 0, 0, 0, 0) else none
  else bif Nat.beq pc 10 then some (.iconst 2, 11, 0, 0, 0, 2, 0) else none
  else bif Nat.blt pc 13 then bif Nat.blt pc 12 then bif Nat.beq pc 11 then some (.irem, 12, 0, 0, 0, 0, 0) else none
  else bif Nat.beq pc 12 then some (.isub, 13, 0, 0, 0, 0, 0) else none
  else bif Nat.blt pc 14 then bif Nat.beq pc 13 then some (.iaload, 14, 0, 0, 0, 0, 0) else none
  else bif Nat.beq pc 14 then some (.ireturn, 15, 0, 0, 0, 0, 0) else none
def gmi_X8_to : gMI := gwrap 15 gcd_X8_to 1 2
def gcd_X8_cost (pc : Nat) : Option PE :=
  bif Nat.blt pc 8 then bif Nat.blt pc 5 then bif Nat.blt pc 1 then bif Nat.beq pc 0 then some (.aload_n 0, 1, 0, 0, 0, 0, 0) else none
  else bif Nat.blt pc 4 then bif Nat.beq pc 1 then some (.getfield 11, 4, 8, 3, 2, 0, 0) else none
  else bif Nat.beq pc 4 then some (.iload_n 1, 5, 1, 0, 0, 0, 0) else none
  else bif Nat.blt pc 6 then bif Nat.beq pc 5 then some (.iconst 2, 6, 0, 0, 0, 2, 0) else none
  else bif Nat.blt pc 7 then bif Nat.beq pc 6 then some (.idiv, 7, 0, 0, 0, 0, 0) else none
  else bif Nat.beq pc 7 then some (.aaload, 8, 0, 0, 0, 0, 0) else none
  else bif Nat.blt pc 11 then bif Nat.blt pc 9 then bif Nat.beq pc 8 then some (.iconst 2, 9, 0, 0, 0, 2, 0) else none
  else bif Nat.blt pc 10 then bif Nat.beq pc 9 then some (.iload_n 1, 10, 1, 0, 0, 0, 0) else none
  else bif Nat.beq pc 10 then some (.iconst 2, 11, 0, 0, 0, 2, 0) else none
  else bif Nat.blt pc 13 then bif Nat.blt pc 12 then bif Nat.beq pc 11 then some (.irem, 12, 0, 0, 0, 0, 0) else none
  else bif Nat.beq pc 12 then some (.iadd, 13, 0, 0, 0, 0, 0) else none
  else bif Nat.blt pc 14 then bif Nat.beq pc 13 then some (.iaload, 14, 0, 0, 0, 0, 0) else none
  else bif Nat.beq pc 14 then some (.ireturn, 15, 0, 0, 0, 0, 0) else none
def gmi_X8_cost : gMI := gwrap 15 gcd_X8_cost 1 2
def gcd_X8_demand (pc : Nat) : Option PE :=
  bif Nat.blt pc 6 then bif Nat.blt pc 4 then bif Nat.blt pc 1 then bif Nat.beq pc 0 then some (.aload_n 0, 1, 0, 0, 0, 0, 0) else none
  else bif Nat.beq pc 1 then some (.getfield 11, 4, 8, 3, 2, 0, 0) else none
  else bif Nat.blt pc 5 then bif Nat.beq pc 4 then some (.iload_n 1, 5, 1, 0, 0, 0, 0) else none
  else bif Nat.beq pc 5 then some (.iconst 2, 6, 0, 0, 0, 2, 0) else none
  else bif Nat.blt pc 8 then bif Nat.blt pc 7 then bif Nat.beq pc 6 then some (.idiv, 7, 0, 0, 0, 0, 0) else none
  else bif Nat.beq pc 7 then some (.aaload, 8, 0, 0, 0, 0, 0) else none
  else bif Nat.blt pc 9 then bif Nat.beq pc 8 then some (.iconst 4, 9, 0, 0, 0, 4, 0) else none
  else bif Nat.blt pc 10 then bif Nat.beq pc 9 then some (.iaload, 10, 0, 0, 0, 0, 0) else none
  else bif Nat.beq pc 10 then some (.ireturn, 11, 0, 0, 0, 0, 0) else none
def gmi_X8_demand : gMI := gwrap 11 gcd_X8_demand 1 2
def gcd_X8_mayTurn (pc : Nat) : Option PE :=
  bif Nat.blt pc 42 then bif Nat.blt pc 20 then bif Nat.blt pc 10 then bif Nat.blt pc 5 then bif Nat.blt pc 1 then bif Nat.beq pc 0 then some (.aload_n 0, 1, 0, 0, 0, 0, 0) else none
  else bif Nat.blt pc 2 then bif Nat.beq pc 1 then some (.iload_n 1, 2, 1, 0, 0, 0, 0) else none
  else bif Nat.beq pc 2 then some (.invokevirtual 49, 5, 34, 2, 8, 0, 0) else none
  else bif Nat.blt pc 6 then bif Nat.beq pc 5 then some (.aload_n 0, 6, 0, 0, 0, 0, 0) else none
  else bif Nat.blt pc 7 then bif Nat.beq pc 6 then some (.iload_n 2, 7, 2, 0, 0, 0, 0) else none
  else bif Nat.beq pc 7 then some (.invokevirtual 53, 10, 33, 2, 8, 0, 0) else none
  else bif Nat.blt pc 15 then bif Nat.blt pc 13 then bif Nat.beq pc 10 then some (.if_icmp .eq 5, 13, 15, 0, 0, 0, 0) else none
  else bif Nat.blt pc 14 then bif Nat.beq pc 13 then some (.iconst 0, 14, 0, 0, 0, 0, 0) else none
  else bif Nat.beq pc 14 then some (.ireturn, 15, 0, 0, 0, 0, 0) else none
  else bif Nat.blt pc 16 then bif Nat.beq pc 15 then some (.aload_n 0, 16, 0, 0, 0, 0, 0) else none
  else bif Nat.blt pc 19 then bif Nat.beq pc 16 then some (.getfield 17, 19, 8, 4, 2, 0, 0) else none
  else bif Nat.beq pc 19 then some (.astore_n 3, 20, 3, 0, 0, 0, 0) else none
  else bif Nat.blt pc 29 then bif Nat.blt pc 24 then bif Nat.blt pc 21 then bif Nat.beq pc 20 then some (.aload_n 3, 21, 3, 0, 0, 0, 0) else none
  else bif Nat.blt pc 22 then bif Nat.beq pc 21 then some (.arraylength, 22, 0, 0, 0, 0, 0) else none
  else bif Nat.beq pc 22 then some (.istore 4, 24, 4, 0, 0, 0, 0) else none
  else bif Nat.blt pc 25 then bif Nat.beq pc 24 then some (.iconst 0, 25, 0, 0, 0, 0, 0) else none
  else bif Nat.blt pc 27 then bif Nat.beq pc 25 then some (.istore 5, 27, 5, 0, 0, 0, 0) else none
  else bif Nat.beq pc 27 then some (.iload 5, 29, 5, 0, 0, 0, 0) else none
  else bif Nat.blt pc 35 then bif Nat.blt pc 31 then bif Nat.beq pc 29 then some (.iload 4, 31, 4, 0, 0, 0, 0) else none
  else bif Nat.blt pc 34 then bif Nat.beq pc 31 then some (.if_icmp .ge 49, 34, 80, 0, 0, 0, 0) else none
  else bif Nat.beq pc 34 then some (.aload_n 3, 35, 3, 0, 0, 0, 0) else none
  else bif Nat.blt pc 38 then bif Nat.blt pc 37 then bif Nat.beq pc 35 then some (.iload 5, 37, 5, 0, 0, 0, 0) else none
  else bif Nat.beq pc 37 then some (.aaload, 38, 0, 0, 0, 0, 0) else none
  else bif Nat.blt pc 40 then bif Nat.beq pc 38 then some (.astore 6, 40, 6, 0, 0, 0, 0) else none
  else bif Nat.beq pc 40 then some (.aload 6, 42, 6, 0, 0, 0, 0) else none
  else bif Nat.blt pc 62 then bif Nat.blt pc 52 then bif Nat.blt pc 45 then bif Nat.blt pc 43 then bif Nat.beq pc 42 then some (.iconst 0, 43, 0, 0, 0, 0, 0) else none
  else bif Nat.blt pc 44 then bif Nat.beq pc 43 then some (.iaload, 44, 0, 0, 0, 0, 0) else none
  else bif Nat.beq pc 44 then some (.aload_n 0, 45, 0, 0, 0, 0, 0) else none
  else bif Nat.blt pc 46 then bif Nat.beq pc 45 then some (.iload_n 1, 46, 1, 0, 0, 0, 0) else none
  else bif Nat.blt pc 49 then bif Nat.beq pc 46 then some (.invokevirtual 49, 49, 34, 2, 8, 0, 0) else none
  else bif Nat.beq pc 49 then some (.if_icmp .ne 25, 52, 74, 0, 0, 0, 0) else none
  else bif Nat.blt pc 56 then bif Nat.blt pc 54 then bif Nat.beq pc 52 then some (.aload 6, 54, 6, 0, 0, 0, 0) else none
  else bif Nat.blt pc 55 then bif Nat.beq pc 54 then some (.iconst 1, 55, 0, 0, 0, 1, 0) else none
  else bif Nat.beq pc 55 then some (.iaload, 56, 0, 0, 0, 0, 0) else none
  else bif Nat.blt pc 58 then bif Nat.blt pc 57 then bif Nat.beq pc 56 then some (.iload_n 1, 57, 1, 0, 0, 0, 0) else none
  else bif Nat.beq pc 57 then some (.iconst 2, 58, 0, 0, 0, 2, 0) else none
  else bif Nat.blt pc 59 then bif Nat.beq pc 58 then some (.idiv, 59, 0, 0, 0, 0, 0) else none
  else bif Nat.beq pc 59 then some (.if_icmp .ne 15, 62, 74, 0, 0, 0, 0) else none
  else bif Nat.blt pc 69 then bif Nat.blt pc 66 then bif Nat.blt pc 64 then bif Nat.beq pc 62 then some (.aload 6, 64, 6, 0, 0, 0, 0) else none
  else bif Nat.blt pc 65 then bif Nat.beq pc 64 then some (.iconst 2, 65, 0, 0, 0, 2, 0) else none
  else bif Nat.beq pc 65 then some (.iaload, 66, 0, 0, 0, 0, 0) else none
  else bif Nat.blt pc 67 then bif Nat.beq pc 66 then some (.iload_n 2, 67, 2, 0, 0, 0, 0) else none
  else bif Nat.blt pc 68 then bif Nat.beq pc 67 then some (.iconst 2, 68, 0, 0, 0, 2, 0) else none
  else bif Nat.beq pc 68 then some (.idiv, 69, 0, 0, 0, 0, 0) else none
  else bif Nat.blt pc 74 then bif Nat.blt pc 72 then bif Nat.beq pc 69 then some (.if_icmp .ne 5, 72, 74, 0, 0, 0, 0) else none
  else bif Nat.blt pc 73 then bif Nat.beq pc 72 then some (.iconst 0, 73, 0, 0, 0, 0, 0) else none
  else bif Nat.beq pc 73 then some (.ireturn, 74, 0, 0, 0, 0, 0) else none
  else bif Nat.blt pc 80 then bif Nat.blt pc 77 then bif Nat.beq pc 74 then some (.iinc 5 1, 77, 5, 0, 0, 1, 0) else none
  else bif Nat.beq pc 77 then some (.goto (-50), 80, 27, 0, 0, 0, 0) else none
  else bif Nat.blt pc 81 then bif Nat.beq pc 80 then some (.iconst 1, 81, 0, 0, 0, 1, 0) else none
  else bif Nat.beq pc 81 then some (.ireturn, 82, 0, 0, 0, 0, 0) else none
def gmi_X8_mayTurn : gMI := gwrap 82 gcd_X8_mayTurn 2 7
def gcd_X8_solve (pc : Nat) : Option PE :=
  bif Nat.blt pc 92 then bif Nat.blt pc 42 then bif Nat.blt pc 22 then bif Nat.blt pc 8 then bif Nat.blt pc 5 then bif Nat.blt pc 1 then bif Nat.beq pc 0 then some (.aload_n 0, 1, 0, 0, 0, 0, 0) else none
  else bif Nat.blt pc 4 then bif Nat.beq pc 1 then some (.invokevirtual 56, 4, 32, 1, 8, 0, 0) else none
  else bif Nat.beq pc 4 then some (.istore_n 1, 5, 1, 0, 0, 0, 0) else none
  else bif Nat.blt pc 6 then bif Nat.beq pc 5 then some (.aload_n 0, 6, 0, 0, 0, 0, 0) else none
  else bif Nat.blt pc 7 then bif Nat.beq pc 6 then some (.iload_n 1, 7, 1, 0, 0, 0, 0) else none
  else bif Nat.beq pc 7 then some (.iload_n 1, 8, 1, 0, 0, 0, 0) else none
  else bif Nat.blt pc 16 then bif Nat.blt pc 12 then bif Nat.beq pc 8 then some (.multianewarray 42 2, 12, 0, 0, 6, 0, 0) else none
  else bif Nat.blt pc 15 then bif Nat.beq pc 12 then some (.putfield 46, 15, 8, 8, 2, 0, 0) else none
  else bif Nat.beq pc 15 then some (.iconst 0, 16, 0, 0, 0, 0, 0) else none
  else bif Nat.blt pc 18 then bif Nat.blt pc 17 then bif Nat.beq pc 16 then some (.istore_n 2, 17, 2, 0, 0, 0, 0) else none
  else bif Nat.beq pc 17 then some (.iload_n 2, 18, 2, 0, 0, 0, 0) else none
  else bif Nat.blt pc 19 then bif Nat.beq pc 18 then some (.iload_n 1, 19, 1, 0, 0, 0, 0) else none
  else bif Nat.beq pc 19 then some (.if_icmp .ge 173, 22, 192, 0, 0, 0, 0) else none
  else bif Nat.blt pc 33 then bif Nat.blt pc 25 then bif Nat.blt pc 23 then bif Nat.beq pc 22 then some (.iconst 0, 23, 0, 0, 0, 0, 0) else none
  else bif Nat.blt pc 24 then bif Nat.beq pc 23 then some (.istore_n 3, 24, 3, 0, 0, 0, 0) else none
  else bif Nat.beq pc 24 then some (.iload_n 3, 25, 3, 0, 0, 0, 0) else none
  else bif Nat.blt pc 29 then bif Nat.blt pc 26 then bif Nat.beq pc 25 then some (.iload_n 1, 26, 1, 0, 0, 0, 0) else none
  else bif Nat.beq pc 26 then some (.if_icmp .ge 36, 29, 62, 0, 0, 0, 0) else none
  else bif Nat.blt pc 30 then bif Nat.beq pc 29 then some (.aload_n 0, 30, 0, 0, 0, 0, 0) else none
  else bif Nat.beq pc 30 then some (.getfield 46, 33, 8, 8, 2, 0, 0) else none
  else bif Nat.blt pc 36 then bif Nat.blt pc 34 then bif Nat.beq pc 33 then some (.iload_n 2, 34, 2, 0, 0, 0, 0) else none
  else bif Nat.blt pc 35 then bif Nat.beq pc 34 then some (.aaload, 35, 0, 0, 0, 0, 0) else none
  else bif Nat.beq pc 35 then some (.iload_n 3, 36, 3, 0, 0, 0, 0) else none
  else bif Nat.blt pc 38 then bif Nat.blt pc 37 then bif Nat.beq pc 36 then some (.aload_n 0, 37, 0, 0, 0, 0, 0) else none
  else bif Nat.beq pc 37 then some (.iload_n 2, 38, 2, 0, 0, 0, 0) else none
  else bif Nat.blt pc 39 then bif Nat.beq pc 38 then some (.iload_n 3, 39, 3, 0, 0, 0, 0) else none
  else bif Nat.beq pc 39 then some (.invokevirtual 60, 42, 37, 3, 8, 0, 0) else none
  else bif Nat.blt pc 68 then bif Nat.blt pc 55 then bif Nat.blt pc 47 then bif Nat.blt pc 45 then bif Nat.beq pc 42 then some (.ifCond .eq 11, 45, 53, 0, 0, 0, 0) else none
  else bif Nat.blt pc 46 then bif Nat.beq pc 45 then some (.aload_n 0, 46, 0, 0, 0, 0, 0) else none
  else bif Nat.beq pc 46 then some (.iload_n 3, 47, 3, 0, 0, 0, 0) else none
  else bif Nat.blt pc 50 then bif Nat.beq pc 47 then some (.invokevirtual 64, 50, 35, 2, 8, 0, 0) else none
  else bif Nat.blt pc 53 then bif Nat.beq pc 50 then some (.goto 5, 53, 55, 0, 0, 0, 0) else none
  else bif Nat.beq pc 53 then some (.ldc 67, 55, 0, 0, 0, 500000, 0) else none
  else bif Nat.blt pc 62 then bif Nat.blt pc 56 then bif Nat.beq pc 55 then some (.iastore, 56, 0, 0, 0, 0, 0) else none
  else bif Nat.blt pc 59 then bif Nat.beq pc 56 then some (.iinc 3 1, 59, 3, 0, 0, 1, 0) else none
  else bif Nat.beq pc 59 then some (.goto (-35), 62, 24, 0, 0, 0, 0) else none
  else bif Nat.blt pc 64 then bif Nat.blt pc 63 then bif Nat.beq pc 62 then some (.iconst 1, 63, 0, 0, 0, 1, 0) else none
  else bif Nat.beq pc 63 then some (.istore_n 3, 64, 3, 0, 0, 0, 0) else none
  else bif Nat.blt pc 65 then bif Nat.beq pc 64 then some (.iload_n 3, 65, 3, 0, 0, 0, 0) else none
  else bif Nat.beq pc 65 then some (.ifCond .eq 121, 68, 186, 0, 0, 0, 0) else none
  else bif Nat.blt pc 79 then bif Nat.blt pc 71 then bif Nat.blt pc 69 then bif Nat.beq pc 68 then some (.iconst 0, 69, 0, 0, 0, 0, 0) else none
  else bif Nat.blt pc 70 then bif Nat.beq pc 69 then some (.istore_n 3, 70, 3, 0, 0, 0, 0) else none
  else bif Nat.beq pc 70 then some (.iconst 0, 71, 0, 0, 0, 0, 0) else none
  else bif Nat.blt pc 75 then bif Nat.blt pc 73 then bif Nat.beq pc 71 then some (.istore 4, 73, 4, 0, 0, 0, 0) else none
  else bif Nat.beq pc 73 then some (.iload 4, 75, 4, 0, 0, 0, 0) else none
  else bif Nat.blt pc 76 then bif Nat.beq pc 75 then some (.iload_n 1, 76, 1, 0, 0, 0, 0) else none
  else bif Nat.beq pc 76 then some (.if_icmp .ge 107, 79, 183, 0, 0, 0, 0) else none
  else bif Nat.blt pc 84 then bif Nat.blt pc 80 then bif Nat.beq pc 79 then some (.iconst 0, 80, 0, 0, 0, 0, 0) else none
  else bif Nat.blt pc 82 then bif Nat.beq pc 80 then some (.istore 5, 82, 5, 0, 0, 0, 0) else none
  else bif Nat.beq pc 82 then some (.iload 5, 84, 5, 0, 0, 0, 0) else none
  else bif Nat.blt pc 88 then bif Nat.blt pc 85 then bif Nat.beq pc 84 then some (.iload_n 1, 85, 1, 0, 0, 0, 0) else none
  else bif Nat.beq pc 85 then some (.if_icmp .ge 92, 88, 177, 0, 0, 0, 0) else none
  else bif Nat.blt pc 89 then bif Nat.beq pc 88 then some (.aload_n 0, 89, 0, 0, 0, 0, 0) else none
  else bif Nat.beq pc 89 then some (.getfield 46, 92, 8, 8, 2, 0, 0) else none
  else bif Nat.blt pc 138 then bif Nat.blt pc 117 then bif Nat.blt pc 102 then bif Nat.blt pc 96 then bif Nat.blt pc 93 then bif Nat.beq pc 92 then some (.iload_n 2, 93, 2, 0, 0, 0, 0) else none
  else bif Nat.blt pc 94 then bif Nat.beq pc 93 then some (.aaload, 94, 0, 0, 0, 0, 0) else none
  else bif Nat.beq pc 94 then some (.iload 4, 96, 4, 0, 0, 0, 0) else none
  else bif Nat.blt pc 97 then bif Nat.beq pc 96 then some (.iaload, 97, 0, 0, 0, 0, 0) else none
  else bif Nat.blt pc 99 then bif Nat.beq pc 97 then some (.ldc 67, 99, 0, 0, 0, 500000, 0) else none
  else bif Nat.beq pc 99 then some (.if_icmp .ge 78, 102, 177, 0, 0, 0, 0) else none
  else bif Nat.blt pc 107 then bif Nat.blt pc 103 then bif Nat.beq pc 102 then some (.aload_n 0, 103, 0, 0, 0, 0, 0) else none
  else bif Nat.blt pc 105 then bif Nat.beq pc 103 then some (.iload 4, 105, 4, 0, 0, 0, 0) else none
  else bif Nat.beq pc 105 then some (.iload 5, 107, 5, 0, 0, 0, 0) else none
  else bif Nat.blt pc 113 then bif Nat.blt pc 110 then bif Nat.beq pc 107 then some (.invokevirtual 60, 110, 37, 3, 8, 0, 0) else none
  else bif Nat.beq pc 110 then some (.ifCond .eq 61, 113, 171, 0, 0, 0, 0) else none
  else bif Nat.blt pc 114 then bif Nat.beq pc 113 then some (.aload_n 0, 114, 0, 0, 0, 0, 0) else none
  else bif Nat.beq pc 114 then some (.getfield 46, 117, 8, 8, 2, 0, 0) else none
  else bif Nat.blt pc 127 then bif Nat.blt pc 121 then bif Nat.blt pc 118 then bif Nat.beq pc 117 then some (.iload_n 2, 118, 2, 0, 0, 0, 0) else none
  else bif Nat.blt pc 119 then bif Nat.beq pc 118 then some (.aaload, 119, 0, 0, 0, 0, 0) else none
  else bif Nat.beq pc 119 then some (.iload 5, 121, 5, 0, 0, 0, 0) else none
  else bif Nat.blt pc 123 then bif Nat.blt pc 122 then bif Nat.beq pc 121 then some (.iaload, 122, 0, 0, 0, 0, 0) else none
  else bif Nat.beq pc 122 then some (.aload_n 0, 123, 0, 0, 0, 0, 0) else none
  else bif Nat.blt pc 126 then bif Nat.beq pc 123 then some (.getfield 46, 126, 8, 8, 2, 0, 0) else none
  else bif Nat.beq pc 126 then some (.iload_n 2, 127, 2, 0, 0, 0, 0) else none
  else bif Nat.blt pc 131 then bif Nat.blt pc 128 then bif Nat.beq pc 127 then some (.aaload, 128, 0, 0, 0, 0, 0) else none
  else bif Nat.blt pc 130 then bif Nat.beq pc 128 then some (.iload 4, 130, 4, 0, 0, 0, 0) else none
  else bif Nat.beq pc 130 then some (.iaload, 131, 0, 0, 0, 0, 0) else none
  else bif Nat.blt pc 134 then bif Nat.blt pc 132 then bif Nat.beq pc 131 then some (.aload_n 0, 132, 0, 0, 0, 0, 0) else none
  else bif Nat.beq pc 132 then some (.iload 5, 134, 5, 0, 0, 0, 0) else none
  else bif Nat.blt pc 137 then bif Nat.beq pc 134 then some (.invokevirtual 64, 137, 35, 2, 8, 0, 0) else none
  else bif Nat.beq pc 137 then some (.iadd, 138, 0, 0, 0, 0, 0) else none
  else bif Nat.blt pc 162 then bif Nat.blt pc 152 then bif Nat.blt pc 145 then bif Nat.blt pc 141 then bif Nat.beq pc 138 then some (.if_icmp .gt 6, 141, 144, 0, 0, 0, 0) else none
  else bif Nat.blt pc 144 then bif Nat.beq pc 141 then some (.goto 30, 144, 171, 0, 0, 0, 0) else none
  else bif Nat.beq pc 144 then some (.aload_n 0, 145, 0, 0, 0, 0, 0) else none
  else bif Nat.blt pc 149 then bif Nat.blt pc 148 then bif Nat.beq pc 145 then some (.getfield 46, 148, 8, 8, 2, 0, 0) else none
  else bif Nat.beq pc 148 then some (.iload_n 2, 149, 2, 0, 0, 0, 0) else none
  else bif Nat.blt pc 150 then bif Nat.beq pc 149 then some (.aaload, 150, 0, 0, 0, 0, 0) else none
  else bif Nat.beq pc 150 then some (.iload 5, 152, 5, 0, 0, 0, 0) else none
  else bif Nat.blt pc 157 then bif Nat.blt pc 153 then bif Nat.beq pc 152 then some (.aload_n 0, 153, 0, 0, 0, 0, 0) else none
  else bif Nat.blt pc 156 then bif Nat.beq pc 153 then some (.getfield 46, 156, 8, 8, 2, 0, 0) else none
  else bif Nat.beq pc 156 then some (.iload_n 2, 157, 2, 0, 0, 0, 0) else none
  else bif Nat.blt pc 160 then bif Nat.blt pc 158 then bif Nat.beq pc 157 then some (.aaload, 158, 0, 0, 0, 0, 0) else none
  else bif Nat.beq pc 158 then some (.iload 4, 160, 4, 0, 0, 0, 0) else none
  else bif Nat.blt pc 161 then bif Nat.beq pc 160 then some (.iaload, 161, 0, 0, 0, 0, 0) else none
  else bif Nat.beq pc 161 then some (.aload_n 0, 162, 0, 0, 0, 0, 0) else none
  else bif Nat.blt pc 174 then bif Nat.blt pc 168 then bif Nat.blt pc 164 then bif Nat.beq pc 162 then some (.iload 5, 164, 5, 0, 0, 0, 0) else none
  else bif Nat.blt pc 167 then bif Nat.beq pc 164 then some (.invokevirtual 64, 167, 35, 2, 8, 0, 0) else none
  else bif Nat.beq pc 167 then some (.iadd, 168, 0, 0, 0, 0, 0) else none
  else bif Nat.blt pc 170 then bif Nat.blt pc 169 then bif Nat.beq pc 168 then some (.iastore, 169, 0, 0, 0, 0, 0) else none
  else bif Nat.beq pc 169 then some (.iconst 1, 170, 0, 0, 0, 1, 0) else none
  else bif Nat.blt pc 171 then bif Nat.beq pc 170 then some (.istore_n 3, 171, 3, 0, 0, 0, 0) else none
  else bif Nat.beq pc 171 then some (.iinc 5 1, 174, 5, 0, 0, 1, 0) else none
  else bif Nat.blt pc 183 then bif Nat.blt pc 177 then bif Nat.beq pc 174 then some (.goto (-92), 177, 82, 0, 0, 0, 0) else none
  else bif Nat.blt pc 180 then bif Nat.beq pc 177 then some (.iinc 4 1, 180, 4, 0, 0, 1, 0) else none
  else bif Nat.beq pc 180 then some (.goto (-107), 183, 73, 0, 0, 0, 0) else none
  else bif Nat.blt pc 189 then bif Nat.blt pc 186 then bif Nat.beq pc 183 then some (.goto (-119), 186, 64, 0, 0, 0, 0) else none
  else bif Nat.beq pc 186 then some (.iinc 2 1, 189, 2, 0, 0, 1, 0) else none
  else bif Nat.blt pc 192 then bif Nat.beq pc 189 then some (.goto (-172), 192, 17, 0, 0, 0, 0) else none
  else bif Nat.beq pc 192 then some (.return_, 193, 0, 0, 0, 0, 0) else none
def gmi_X8_solve : gMI := gwrap 193 gcd_X8_solve 0 6
def gcd_X8_gap (pc : Nat) : Option PE :=
  bif Nat.blt pc 18 then bif Nat.blt pc 7 then bif Nat.blt pc 4 then bif Nat.blt pc 1 then bif Nat.beq pc 0 then some (.aload_n 0, 1, 0, 0, 0, 0, 0) else none
  else bif Nat.beq pc 1 then some (.getfield 46, 4, 8, 8, 2, 0, 0) else none
  else bif Nat.blt pc 5 then bif Nat.beq pc 4 then some (.iload_n 1, 5, 1, 0, 0, 0, 0) else none
  else bif Nat.blt pc 6 then bif Nat.beq pc 5 then some (.aaload, 6, 0, 0, 0, 0, 0) else none
  else bif Nat.beq pc 6 then some (.iload_n 2, 7, 2, 0, 0, 0, 0) else none
  else bif Nat.blt pc 10 then bif Nat.blt pc 8 then bif Nat.beq pc 7 then some (.iaload, 8, 0, 0, 0, 0, 0) else none
  else bif Nat.beq pc 8 then some (.ldc 67, 10, 0, 0, 0, 500000, 0) else none
  else bif Nat.blt pc 13 then bif Nat.beq pc 10 then some (.if_icmp .lt 8, 13, 18, 0, 0, 0, 0) else none
  else bif Nat.blt pc 15 then bif Nat.beq pc 13 then some (.ldc 67, 15, 0, 0, 0, 500000, 0) else none
  else bif Nat.beq pc 15 then some (.goto 17, 18, 32, 0, 0, 0, 0) else none
  else bif Nat.blt pc 25 then bif Nat.blt pc 22 then bif Nat.blt pc 19 then bif Nat.beq pc 18 then some (.aload_n 0, 19, 0, 0, 0, 0, 0) else none
  else bif Nat.beq pc 19 then some (.getfield 46, 22, 8, 8, 2, 0, 0) else none
  else bif Nat.blt pc 23 then bif Nat.beq pc 22 then some (.iload_n 1, 23, 1, 0, 0, 0, 0) else none
  else bif Nat.blt pc 24 then bif Nat.beq pc 23 then some (.aaload, 24, 0, 0, 0, 0, 0) else none
  else bif Nat.beq pc 24 then some (.iload_n 2, 25, 2, 0, 0, 0, 0) else none
  else bif Nat.blt pc 28 then bif Nat.blt pc 26 then bif Nat.beq pc 25 then some (.iaload, 26, 0, 0, 0, 0, 0) else none
  else bif Nat.blt pc 27 then bif Nat.beq pc 26 then some (.aload_n 0, 27, 0, 0, 0, 0, 0) else none
  else bif Nat.beq pc 27 then some (.iload_n 2, 28, 2, 0, 0, 0, 0) else none
  else bif Nat.blt pc 31 then bif Nat.beq pc 28 then some (.invokevirtual 64, 31, 35, 2, 8, 0, 0) else none
  else bif Nat.blt pc 32 then bif Nat.beq pc 31 then some (.isub, 32, 0, 0, 0, 0, 0) else none
  else bif Nat.beq pc 32 then some (.ireturn, 33, 0, 0, 0, 0, 0) else none
def gmi_X8_gap : gMI := gwrap 33 gcd_X8_gap 1 3
def gcd_X8_reach (pc : Nat) : Option PE :=
  bif Nat.blt pc 33 then bif Nat.blt pc 16 then bif Nat.blt pc 6 then bif Nat.blt pc 2 then bif Nat.blt pc 1 then bif Nat.beq pc 0 then some (.aload_n 0, 1, 0, 0, 0, 0, 0) else none
  else bif Nat.beq pc 1 then some (.iload_n 2, 2, 2, 0, 0, 0, 0) else none
  else bif Nat.blt pc 5 then bif Nat.beq pc 2 then some (.invokevirtual 53, 5, 33, 2, 8, 0, 0) else none
  else bif Nat.beq pc 5 then some (.iload_n 1, 6, 1, 0, 0, 0, 0) else none
  else bif Nat.blt pc 10 then bif Nat.blt pc 9 then bif Nat.beq pc 6 then some (.if_icmp .ne 7, 9, 13, 0, 0, 0, 0) else none
  else bif Nat.beq pc 9 then some (.iconst 0, 10, 0, 0, 0, 0, 0) else none
  else bif Nat.blt pc 13 then bif Nat.beq pc 10 then some (.goto 5, 13, 15, 0, 0, 0, 0) else none
  else bif Nat.blt pc 15 then bif Nat.beq pc 13 then some (.ldc 67, 15, 0, 0, 0, 500000, 0) else none
  else bif Nat.beq pc 15 then some (.istore_n 3, 16, 3, 0, 0, 0, 0) else none
  else bif Nat.blt pc 22 then bif Nat.blt pc 19 then bif Nat.blt pc 17 then bif Nat.beq pc 16 then some (.iconst 0, 17, 0, 0, 0, 0, 0) else none
  else bif Nat.beq pc 17 then some (.istore 4, 19, 4, 0, 0, 0, 0) else none
  else bif Nat.blt pc 21 then bif Nat.beq pc 19 then some (.iload 4, 21, 4, 0, 0, 0, 0) else none
  else bif Nat.beq pc 21 then some (.aload_n 0, 22, 0, 0, 0, 0, 0) else none
  else bif Nat.blt pc 28 then bif Nat.blt pc 25 then bif Nat.beq pc 22 then some (.invokevirtual 56, 25, 32, 1, 8, 0, 0) else none
  else bif Nat.beq pc 25 then some (.if_icmp .ge 42, 28, 67, 0, 0, 0, 0) else none
  else bif Nat.blt pc 29 then bif Nat.beq pc 28 then some (.iload_n 3, 29, 3, 0, 0, 0, 0) else none
  else bif Nat.blt pc 32 then bif Nat.beq pc 29 then some (.ifCond .le 38, 32, 67, 0, 0, 0, 0) else none
  else bif Nat.beq pc 32 then some (.aload_n 0, 33, 0, 0, 0, 0, 0) else none
  else bif Nat.blt pc 50 then bif Nat.blt pc 42 then bif Nat.blt pc 38 then bif Nat.blt pc 35 then bif Nat.beq pc 33 then some (.iload 4, 35, 4, 0, 0, 0, 0) else none
  else bif Nat.beq pc 35 then some (.invokevirtual 53, 38, 33, 2, 8, 0, 0) else none
  else bif Nat.blt pc 39 then bif Nat.beq pc 38 then some (.iload_n 1, 39, 1, 0, 0, 0, 0) else none
  else bif Nat.beq pc 39 then some (.if_icmp .ne 22, 42, 61, 0, 0, 0, 0) else none
  else bif Nat.blt pc 44 then bif Nat.blt pc 43 then bif Nat.beq pc 42 then some (.iload_n 3, 43, 3, 0, 0, 0, 0) else none
  else bif Nat.beq pc 43 then some (.aload_n 0, 44, 0, 0, 0, 0, 0) else none
  else bif Nat.blt pc 46 then bif Nat.beq pc 44 then some (.iload 4, 46, 4, 0, 0, 0, 0) else none
  else bif Nat.blt pc 49 then bif Nat.beq pc 46 then some (.invokevirtual 64, 49, 35, 2, 8, 0, 0) else none
  else bif Nat.beq pc 49 then some (.aload_n 0, 50, 0, 0, 0, 0, 0) else none
  else bif Nat.blt pc 60 then bif Nat.blt pc 53 then bif Nat.blt pc 52 then bif Nat.beq pc 50 then some (.iload 4, 52, 4, 0, 0, 0, 0) else none
  else bif Nat.beq pc 52 then some (.iload_n 2, 53, 2, 0, 0, 0, 0) else none
  else bif Nat.blt pc 56 then bif Nat.beq pc 53 then some (.invokevirtual 68, 56, 39, 3, 8, 0, 0) else none
  else bif Nat.blt pc 57 then bif Nat.beq pc 56 then some (.iadd, 57, 0, 0, 0, 0, 0) else none
  else bif Nat.beq pc 57 then some (.invokestatic 72, 60, 0, 0, 100, 0, 0) else none
  else bif Nat.blt pc 64 then bif Nat.blt pc 61 then bif Nat.beq pc 60 then some (.istore_n 3, 61, 3, 0, 0, 0, 0) else none
  else bif Nat.beq pc 61 then some (.iinc 4 1, 64, 4, 0, 0, 1, 0) else none
  else bif Nat.blt pc 67 then bif Nat.beq pc 64 then some (.goto (-45), 67, 19, 0, 0, 0, 0) else none
  else bif Nat.blt pc 68 then bif Nat.beq pc 67 then some (.iload_n 3, 68, 3, 0, 0, 0, 0) else none
  else bif Nat.beq pc 68 then some (.ireturn, 69, 0, 0, 0, 0, 0) else none
def gmi_X8_reach : gMI := gwrap 69 gcd_X8_reach 1 5
def gcd_X8_back (pc : Nat) : Option PE :=
  bif Nat.blt pc 32 then bif Nat.blt pc 15 then bif Nat.blt pc 6 then bif Nat.blt pc 2 then bif Nat.blt pc 1 then bif Nat.beq pc 0 then some (.aload_n 0, 1, 0, 0, 0, 0, 0) else none
  else bif Nat.beq pc 1 then some (.iload_n 1, 2, 1, 0, 0, 0, 0) else none
  else bif Nat.blt pc 5 then bif Nat.beq pc 2 then some (.invokevirtual 49, 5, 34, 2, 8, 0, 0) else none
  else bif Nat.beq pc 5 then some (.iload_n 2, 6, 2, 0, 0, 0, 0) else none
  else bif Nat.blt pc 10 then bif Nat.blt pc 9 then bif Nat.beq pc 6 then some (.if_icmp .ne 7, 9, 13, 0, 0, 0, 0) else none
  else bif Nat.beq pc 9 then some (.iconst 0, 10, 0, 0, 0, 0, 0) else none
  else bif Nat.blt pc 13 then bif Nat.beq pc 10 then some (.goto 5, 13, 15, 0, 0, 0, 0) else none
  else bif Nat.beq pc 13 then some (.ldc 67, 15, 0, 0, 0, 500000, 0) else none
  else bif Nat.blt pc 21 then bif Nat.blt pc 17 then bif Nat.blt pc 16 then bif Nat.beq pc 15 then some (.istore_n 3, 16, 3, 0, 0, 0, 0) else none
  else bif Nat.beq pc 16 then some (.iconst 0, 17, 0, 0, 0, 0, 0) else none
  else bif Nat.blt pc 19 then bif Nat.beq pc 17 then some (.istore 4, 19, 4, 0, 0, 0, 0) else none
  else bif Nat.beq pc 19 then some (.iload 4, 21, 4, 0, 0, 0, 0) else none
  else bif Nat.blt pc 25 then bif Nat.blt pc 22 then bif Nat.beq pc 21 then some (.aload_n 0, 22, 0, 0, 0, 0, 0) else none
  else bif Nat.beq pc 22 then some (.invokevirtual 56, 25, 32, 1, 8, 0, 0) else none
  else bif Nat.blt pc 28 then bif Nat.beq pc 25 then some (.if_icmp .ge 37, 28, 62, 0, 0, 0, 0) else none
  else bif Nat.blt pc 29 then bif Nat.beq pc 28 then some (.iload_n 3, 29, 3, 0, 0, 0, 0) else none
  else bif Nat.beq pc 29 then some (.ifCond .le 33, 32, 62, 0, 0, 0, 0) else none
  else bif Nat.blt pc 48 then bif Nat.blt pc 39 then bif Nat.blt pc 35 then bif Nat.blt pc 33 then bif Nat.beq pc 32 then some (.aload_n 0, 33, 0, 0, 0, 0, 0) else none
  else bif Nat.beq pc 33 then some (.iload 4, 35, 4, 0, 0, 0, 0) else none
  else bif Nat.blt pc 38 then bif Nat.beq pc 35 then some (.invokevirtual 49, 38, 34, 2, 8, 0, 0) else none
  else bif Nat.beq pc 38 then some (.iload_n 2, 39, 2, 0, 0, 0, 0) else none
  else bif Nat.blt pc 43 then bif Nat.blt pc 42 then bif Nat.beq pc 39 then some (.if_icmp .ne 17, 42, 56, 0, 0, 0, 0) else none
  else bif Nat.beq pc 42 then some (.iload_n 3, 43, 3, 0, 0, 0, 0) else none
  else bif Nat.blt pc 44 then bif Nat.beq pc 43 then some (.aload_n 0, 44, 0, 0, 0, 0, 0) else none
  else bif Nat.blt pc 47 then bif Nat.beq pc 44 then some (.getfield 46, 47, 8, 8, 2, 0, 0) else none
  else bif Nat.beq pc 47 then some (.iload_n 1, 48, 1, 0, 0, 0, 0) else none
  else bif Nat.blt pc 55 then bif Nat.blt pc 51 then bif Nat.blt pc 49 then bif Nat.beq pc 48 then some (.aaload, 49, 0, 0, 0, 0, 0) else none
  else bif Nat.beq pc 49 then some (.iload 4, 51, 4, 0, 0, 0, 0) else none
  else bif Nat.blt pc 52 then bif Nat.beq pc 51 then some (.iaload, 52, 0, 0, 0, 0, 0) else none
  else bif Nat.beq pc 52 then some (.invokestatic 72, 55, 0, 0, 100, 0, 0) else none
  else bif Nat.blt pc 59 then bif Nat.blt pc 56 then bif Nat.beq pc 55 then some (.istore_n 3, 56, 3, 0, 0, 0, 0) else none
  else bif Nat.beq pc 56 then some (.iinc 4 1, 59, 4, 0, 0, 1, 0) else none
  else bif Nat.blt pc 62 then bif Nat.beq pc 59 then some (.goto (-40), 62, 19, 0, 0, 0, 0) else none
  else bif Nat.blt pc 63 then bif Nat.beq pc 62 then some (.iload_n 3, 63, 3, 0, 0, 0, 0) else none
  else bif Nat.beq pc 63 then some (.ireturn, 64, 0, 0, 0, 0, 0) else none
def gmi_X8_back : gMI := gwrap 64 gcd_X8_back 1 5
def gcd_X8_work (pc : Nat) : Option PE :=
  bif Nat.blt pc 29 then bif Nat.blt pc 16 then bif Nat.blt pc 8 then bif Nat.blt pc 4 then bif Nat.blt pc 1 then bif Nat.beq pc 0 then some (.aload_n 0, 1, 0, 0, 0, 0, 0) else none
  else bif Nat.beq pc 1 then some (.getfield 37, 4, 8, 2, 2, 0, 0) else none
  else bif Nat.blt pc 7 then bif Nat.beq pc 4 then some (.ifnonnull 11, 7, 15, 0, 0, 0, 0) else none
  else bif Nat.beq pc 7 then some (.aload_n 0, 8, 0, 0, 0, 0, 0) else none
  else bif Nat.blt pc 12 then bif Nat.blt pc 9 then bif Nat.beq pc 8 then some (.iload_n 1, 9, 1, 0, 0, 0, 0) else none
  else bif Nat.beq pc 9 then some (.invokevirtual 64, 12, 35, 2, 8, 0, 0) else none
  else bif Nat.blt pc 15 then bif Nat.beq pc 12 then some (.goto 42, 15, 54, 0, 0, 0, 0) else none
  else bif Nat.beq pc 15 then some (.lconst 0, 16, 0, 0, 0, 0, 0) else none
  else bif Nat.blt pc 24 then bif Nat.blt pc 20 then bif Nat.blt pc 19 then bif Nat.beq pc 16 then some (.ldc2_w 77, 19, 0, 0, 0, 0, 9999) else none
  else bif Nat.beq pc 19 then some (.aload_n 0, 20, 0, 0, 0, 0, 0) else none
  else bif Nat.blt pc 23 then bif Nat.beq pc 20 then some (.getfield 37, 23, 8, 2, 2, 0, 0) else none
  else bif Nat.beq pc 23 then some (.iconst 2, 24, 0, 0, 0, 2, 0) else none
  else bif Nat.blt pc 27 then bif Nat.blt pc 26 then bif Nat.beq pc 24 then some (.newarray .long, 26, 0, 0, 4, 0, 0) else none
  else bif Nat.beq pc 26 then some (.dup, 27, 0, 0, 0, 0, 0) else none
  else bif Nat.blt pc 28 then bif Nat.beq pc 27 then some (.iconst 0, 28, 0, 0, 0, 0, 0) else none
  else bif Nat.beq pc 28 then some (.aload_n 0, 29, 0, 0, 0, 0, 0) else none
  else bif Nat.blt pc 39 then bif Nat.blt pc 35 then bif Nat.blt pc 33 then bif Nat.blt pc 30 then bif Nat.beq pc 29 then some (.iload_n 1, 30, 1, 0, 0, 0, 0) else none
  else bif Nat.beq pc 30 then some (.invokevirtual 64, 33, 35, 2, 8, 0, 0) else none
  else bif Nat.blt pc 34 then bif Nat.beq pc 33 then some (.i2l, 34, 0, 0, 0, 0, 0) else none
  else bif Nat.beq pc 34 then some (.lastore, 35, 0, 0, 0, 0, 0) else none
  else bif Nat.blt pc 37 then bif Nat.blt pc 36 then bif Nat.beq pc 35 then some (.dup, 36, 0, 0, 0, 0, 0) else none
  else bif Nat.beq pc 36 then some (.iconst 1, 37, 0, 0, 0, 1, 0) else none
  else bif Nat.blt pc 38 then bif Nat.beq pc 37 then some (.aload_n 0, 38, 0, 0, 0, 0, 0) else none
  else bif Nat.beq pc 38 then some (.iload_n 1, 39, 1, 0, 0, 0, 0) else none
  else bif Nat.blt pc 47 then bif Nat.blt pc 43 then bif Nat.blt pc 42 then bif Nat.beq pc 39 then some (.invokevirtual 79, 42, 36, 2, 8, 0, 0) else none
  else bif Nat.beq pc 42 then some (.i2l, 43, 0, 0, 0, 0, 0) else none
  else bif Nat.blt pc 44 then bif Nat.beq pc 43 then some (.lastore, 44, 0, 0, 0, 0, 0) else none
  else bif Nat.beq pc 44 then some (.invokevirtual 82, 47, 60, 2, 9, 0, 0) else none
  else bif Nat.blt pc 53 then bif Nat.blt pc 50 then bif Nat.beq pc 47 then some (.invokestatic 88, 50, 0, 0, 102, 0, 0) else none
  else bif Nat.beq pc 50 then some (.invokestatic 91, 53, 0, 0, 101, 0, 0) else none
  else bif Nat.blt pc 54 then bif Nat.beq pc 53 then some (.l2i, 54, 0, 0, 0, 0, 0) else none
  else bif Nat.beq pc 54 then some (.ireturn, 55, 0, 0, 0, 0, 0) else none
def gmi_X8_work : gMI := gwrap 55 gcd_X8_work 1 2
def gcd_X8_price (pc : Nat) : Option PE :=
  bif Nat.blt pc 42 then bif Nat.blt pc 18 then bif Nat.blt pc 8 then bif Nat.blt pc 3 then bif Nat.blt pc 1 then bif Nat.beq pc 0 then some (.iconst 0, 1, 0, 0, 0, 0, 0) else none
  else bif Nat.blt pc 2 then bif Nat.beq pc 1 then some (.istore_n 3, 2, 3, 0, 0, 0, 0) else none
  else bif Nat.beq pc 2 then some (.iconst 0, 3, 0, 0, 0, 0, 0) else none
  else bif Nat.blt pc 5 then bif Nat.beq pc 3 then some (.istore 4, 5, 4, 0, 0, 0, 0) else none
  else bif Nat.blt pc 7 then bif Nat.beq pc 5 then some (.iload 4, 7, 4, 0, 0, 0, 0) else none
  else bif Nat.beq pc 7 then some (.aload_n 2, 8, 2, 0, 0, 0, 0) else none
  else bif Nat.blt pc 13 then bif Nat.blt pc 9 then bif Nat.beq pc 8 then some (.arraylength, 9, 0, 0, 0, 0, 0) else none
  else bif Nat.blt pc 12 then bif Nat.beq pc 9 then some (.if_icmp .ge 51, 12, 60, 0, 0, 0, 0) else none
  else bif Nat.beq pc 12 then some (.iload_n 3, 13, 3, 0, 0, 0, 0) else none
  else bif Nat.blt pc 15 then bif Nat.blt pc 14 then bif Nat.beq pc 13 then some (.aload_n 0, 14, 0, 0, 0, 0, 0) else none
  else bif Nat.beq pc 14 then some (.aload_n 2, 15, 2, 0, 0, 0, 0) else none
  else bif Nat.blt pc 17 then bif Nat.beq pc 15 then some (.iload 4, 17, 4, 0, 0, 0, 0) else none
  else bif Nat.beq pc 17 then some (.iaload, 18, 0, 0, 0, 0, 0) else none
  else bif Nat.blt pc 30 then bif Nat.blt pc 26 then bif Nat.blt pc 21 then bif Nat.beq pc 18 then some (.invokevirtual 94, 21, 42, 2, 8, 0, 0) else none
  else bif Nat.blt pc 23 then bif Nat.beq pc 21 then some (.iload 4, 23, 4, 0, 0, 0, 0) else none
  else bif Nat.beq pc 23 then some (.ifCond .ne 14, 26, 37, 0, 0, 0, 0) else none
  else bif Nat.blt pc 28 then bif Nat.blt pc 27 then bif Nat.beq pc 26 then some (.aload_n 0, 27, 0, 0, 0, 0, 0) else none
  else bif Nat.beq pc 27 then some (.iload_n 1, 28, 1, 0, 0, 0, 0) else none
  else bif Nat.blt pc 29 then bif Nat.beq pc 28 then some (.aload_n 2, 29, 2, 0, 0, 0, 0) else none
  else bif Nat.beq pc 29 then some (.iconst 0, 30, 0, 0, 0, 0, 0) else none
  else bif Nat.blt pc 37 then bif Nat.blt pc 31 then bif Nat.beq pc 30 then some (.iaload, 31, 0, 0, 0, 0, 0) else none
  else bif Nat.blt pc 34 then bif Nat.beq pc 31 then some (.invokevirtual 97, 34, 40, 3, 8, 0, 0) else none
  else bif Nat.beq pc 34 then some (.goto 17, 37, 51, 0, 0, 0, 0) else none
  else bif Nat.blt pc 39 then bif Nat.blt pc 38 then bif Nat.beq pc 37 then some (.aload_n 0, 38, 0, 0, 0, 0, 0) else none
  else bif Nat.beq pc 38 then some (.aload_n 2, 39, 2, 0, 0, 0, 0) else none
  else bif Nat.blt pc 41 then bif Nat.beq pc 39 then some (.iload 4, 41, 4, 0, 0, 0, 0) else none
  else bif Nat.beq pc 41 then some (.iconst 1, 42, 0, 0, 0, 1, 0) else none
  else bif Nat.blt pc 65 then bif Nat.blt pc 52 then bif Nat.blt pc 45 then bif Nat.blt pc 43 then bif Nat.beq pc 42 then some (.isub, 43, 0, 0, 0, 0, 0) else none
  else bif Nat.blt pc 44 then bif Nat.beq pc 43 then some (.iaload, 44, 0, 0, 0, 0, 0) else none
  else bif Nat.beq pc 44 then some (.aload_n 2, 45, 2, 0, 0, 0, 0) else none
  else bif Nat.blt pc 48 then bif Nat.blt pc 47 then bif Nat.beq pc 45 then some (.iload 4, 47, 4, 0, 0, 0, 0) else none
  else bif Nat.beq pc 47 then some (.iaload, 48, 0, 0, 0, 0, 0) else none
  else bif Nat.blt pc 51 then bif Nat.beq pc 48 then some (.invokevirtual 68, 51, 39, 3, 8, 0, 0) else none
  else bif Nat.beq pc 51 then some (.iadd, 52, 0, 0, 0, 0, 0) else none
  else bif Nat.blt pc 57 then bif Nat.blt pc 53 then bif Nat.beq pc 52 then some (.iadd, 53, 0, 0, 0, 0, 0) else none
  else bif Nat.blt pc 54 then bif Nat.beq pc 53 then some (.istore_n 3, 54, 3, 0, 0, 0, 0) else none
  else bif Nat.beq pc 54 then some (.iinc 4 1, 57, 4, 0, 0, 1, 0) else none
  else bif Nat.blt pc 61 then bif Nat.blt pc 60 then bif Nat.beq pc 57 then some (.goto (-52), 60, 5, 0, 0, 0, 0) else none
  else bif Nat.beq pc 60 then some (.aload_n 2, 61, 2, 0, 0, 0, 0) else none
  else bif Nat.blt pc 62 then bif Nat.beq pc 61 then some (.arraylength, 62, 0, 0, 0, 0, 0) else none
  else bif Nat.beq pc 62 then some (.ifCond .ne 7, 65, 69, 0, 0, 0, 0) else none
  else bif Nat.blt pc 74 then bif Nat.blt pc 70 then bif Nat.blt pc 66 then bif Nat.beq pc 65 then some (.iconst 0, 66, 0, 0, 0, 0, 0) else none
  else bif Nat.blt pc 69 then bif Nat.beq pc 66 then some (.goto 16, 69, 82, 0, 0, 0, 0) else none
  else bif Nat.beq pc 69 then some (.iload_n 3, 70, 3, 0, 0, 0, 0) else none
  else bif Nat.blt pc 72 then bif Nat.blt pc 71 then bif Nat.beq pc 70 then some (.aload_n 0, 71, 0, 0, 0, 0, 0) else none
  else bif Nat.beq pc 71 then some (.aload_n 2, 72, 2, 0, 0, 0, 0) else none
  else bif Nat.blt pc 73 then bif Nat.beq pc 72 then some (.aload_n 2, 73, 2, 0, 0, 0, 0) else none
  else bif Nat.beq pc 73 then some (.arraylength, 74, 0, 0, 0, 0, 0) else none
  else bif Nat.blt pc 77 then bif Nat.blt pc 75 then bif Nat.beq pc 74 then some (.iconst 1, 75, 0, 0, 0, 1, 0) else none
  else bif Nat.blt pc 76 then bif Nat.beq pc 75 then some (.isub, 76, 0, 0, 0, 0, 0) else none
  else bif Nat.beq pc 76 then some (.iaload, 77, 0, 0, 0, 0, 0) else none
  else bif Nat.blt pc 81 then bif Nat.blt pc 78 then bif Nat.beq pc 77 then some (.iload_n 1, 78, 1, 0, 0, 0, 0) else none
  else bif Nat.beq pc 78 then some (.invokevirtual 100, 81, 41, 3, 8, 0, 0) else none
  else bif Nat.blt pc 82 then bif Nat.beq pc 81 then some (.iadd, 82, 0, 0, 0, 0, 0) else none
  else bif Nat.beq pc 82 then some (.ireturn, 83, 0, 0, 0, 0, 0) else none
def gmi_X8_price : gMI := gwrap 83 gcd_X8_price 1 5
def gcd_X8_price_ (pc : Nat) : Option PE :=
  bif Nat.blt pc 7 then bif Nat.blt pc 2 then bif Nat.blt pc 1 then bif Nat.beq pc 0 then some (.aload_n 0, 1, 0, 0, 0, 0, 0) else none
  else bif Nat.beq pc 1 then some (.aload_n 0, 2, 0, 0, 0, 0, 0) else none
  else bif Nat.blt pc 5 then bif Nat.beq pc 2 then some (.getfield 23, 5, 8, 6, 2, 0, 0) else none
  else bif Nat.blt pc 6 then bif Nat.beq pc 5 then some (.iload_n 1, 6, 1, 0, 0, 0, 0) else none
  else bif Nat.beq pc 6 then some (.iaload, 7, 0, 0, 0, 0, 0) else none
  else bif Nat.blt pc 12 then bif Nat.blt pc 8 then bif Nat.beq pc 7 then some (.aload_n 0, 8, 0, 0, 0, 0, 0) else none
  else bif Nat.blt pc 11 then bif Nat.beq pc 8 then some (.getfield 26, 11, 8, 7, 2, 0, 0) else none
  else bif Nat.beq pc 11 then some (.iload_n 1, 12, 1, 0, 0, 0, 0) else none
  else bif Nat.blt pc 13 then bif Nat.beq pc 12 then some (.aaload, 13, 0, 0, 0, 0, 0) else none
  else bif Nat.blt pc 16 then bif Nat.beq pc 13 then some (.invokevirtual 103, 16, 43, 3, 8, 0, 0) else none
  else bif Nat.beq pc 16 then some (.ireturn, 17, 0, 0, 0, 0, 0) else none
def gmi_X8_price_ : gMI := gwrap 17 gcd_X8_price_ 1 2
def gcd_X8_total (pc : Nat) : Option PE :=
  bif Nat.blt pc 13 then bif Nat.blt pc 4 then bif Nat.blt pc 2 then bif Nat.blt pc 1 then bif Nat.beq pc 0 then some (.iconst 0, 1, 0, 0, 0, 0, 0) else none
  else bif Nat.beq pc 1 then some (.istore_n 1, 2, 1, 0, 0, 0, 0) else none
  else bif Nat.blt pc 3 then bif Nat.beq pc 2 then some (.iconst 0, 3, 0, 0, 0, 0, 0) else none
  else bif Nat.beq pc 3 then some (.istore_n 2, 4, 2, 0, 0, 0, 0) else none
  else bif Nat.blt pc 6 then bif Nat.blt pc 5 then bif Nat.beq pc 4 then some (.iload_n 2, 5, 2, 0, 0, 0, 0) else none
  else bif Nat.beq pc 5 then some (.aload_n 0, 6, 0, 0, 0, 0, 0) else none
  else bif Nat.blt pc 9 then bif Nat.beq pc 6 then some (.getfield 26, 9, 8, 7, 2, 0, 0) else none
  else bif Nat.blt pc 10 then bif Nat.beq pc 9 then some (.arraylength, 10, 0, 0, 0, 0, 0) else none
  else bif Nat.beq pc 10 then some (.if_icmp .ge 17, 13, 27, 0, 0, 0, 0) else none
  else bif Nat.blt pc 20 then bif Nat.blt pc 15 then bif Nat.blt pc 14 then bif Nat.beq pc 13 then some (.iload_n 1, 14, 1, 0, 0, 0, 0) else none
  else bif Nat.beq pc 14 then some (.aload_n 0, 15, 0, 0, 0, 0, 0) else none
  else bif Nat.blt pc 16 then bif Nat.beq pc 15 then some (.iload_n 2, 16, 2, 0, 0, 0, 0) else none
  else bif Nat.blt pc 19 then bif Nat.beq pc 16 then some (.invokevirtual 107, 19, 44, 2, 8, 0, 0) else none
  else bif Nat.beq pc 19 then some (.iadd, 20, 0, 0, 0, 0, 0) else none
  else bif Nat.blt pc 24 then bif Nat.blt pc 21 then bif Nat.beq pc 20 then some (.istore_n 1, 21, 1, 0, 0, 0, 0) else none
  else bif Nat.beq pc 21 then some (.iinc 2 1, 24, 2, 0, 0, 1, 0) else none
  else bif Nat.blt pc 27 then bif Nat.beq pc 24 then some (.goto (-20), 27, 4, 0, 0, 0, 0) else none
  else bif Nat.blt pc 28 then bif Nat.beq pc 27 then some (.iload_n 1, 28, 1, 0, 0, 0, 0) else none
  else bif Nat.beq pc 28 then some (.ireturn, 29, 0, 0, 0, 0, 0) else none
def gmi_X8_total : gMI := gwrap 29 gcd_X8_total 1 3
def gcd_X8_load (pc : Nat) : Option PE :=
  bif Nat.blt pc 20 then bif Nat.blt pc 9 then bif Nat.blt pc 3 then bif Nat.blt pc 1 then bif Nat.beq pc 0 then some (.iconst 0, 1, 0, 0, 0, 0, 0) else none
  else bif Nat.blt pc 2 then bif Nat.beq pc 1 then some (.istore_n 2, 2, 2, 0, 0, 0, 0) else none
  else bif Nat.beq pc 2 then some (.aload_n 0, 3, 0, 0, 0, 0, 0) else none
  else bif Nat.blt pc 7 then bif Nat.blt pc 6 then bif Nat.beq pc 3 then some (.getfield 26, 6, 8, 7, 2, 0, 0) else none
  else bif Nat.beq pc 6 then some (.iload_n 1, 7, 1, 0, 0, 0, 0) else none
  else bif Nat.blt pc 8 then bif Nat.beq pc 7 then some (.aaload, 8, 0, 0, 0, 0, 0) else none
  else bif Nat.beq pc 8 then some (.astore_n 3, 9, 3, 0, 0, 0, 0) else none
  else bif Nat.blt pc 13 then bif Nat.blt pc 10 then bif Nat.beq pc 9 then some (.aload_n 3, 10, 3, 0, 0, 0, 0) else none
  else bif Nat.blt pc 11 then bif Nat.beq pc 10 then some (.arraylength, 11, 0, 0, 0, 0, 0) else none
  else bif Nat.beq pc 11 then some (.istore 4, 13, 4, 0, 0, 0, 0) else none
  else bif Nat.blt pc 16 then bif Nat.blt pc 14 then bif Nat.beq pc 13 then some (.iconst 0, 14, 0, 0, 0, 0, 0) else none
  else bif Nat.beq pc 14 then some (.istore 5, 16, 5, 0, 0, 0, 0) else none
  else bif Nat.blt pc 18 then bif Nat.beq pc 16 then some (.iload 5, 18, 5, 0, 0, 0, 0) else none
  else bif Nat.beq pc 18 then some (.iload 4, 20, 4, 0, 0, 0, 0) else none
  else bif Nat.blt pc 31 then bif Nat.blt pc 26 then bif Nat.blt pc 23 then bif Nat.beq pc 20 then some (.if_icmp .ge 24, 23, 44, 0, 0, 0, 0) else none
  else bif Nat.blt pc 24 then bif Nat.beq pc 23 then some (.aload_n 3, 24, 3, 0, 0, 0, 0) else none
  else bif Nat.beq pc 24 then some (.iload 5, 26, 5, 0, 0, 0, 0) else none
  else bif Nat.blt pc 29 then bif Nat.blt pc 27 then bif Nat.beq pc 26 then some (.iaload, 27, 0, 0, 0, 0, 0) else none
  else bif Nat.beq pc 27 then some (.istore 6, 29, 6, 0, 0, 0, 0) else none
  else bif Nat.blt pc 30 then bif Nat.beq pc 29 then some (.iload_n 2, 30, 2, 0, 0, 0, 0) else none
  else bif Nat.beq pc 30 then some (.aload_n 0, 31, 0, 0, 0, 0, 0) else none
  else bif Nat.blt pc 38 then bif Nat.blt pc 36 then bif Nat.blt pc 33 then bif Nat.beq pc 31 then some (.iload 6, 33, 6, 0, 0, 0, 0) else none
  else bif Nat.beq pc 33 then some (.invokevirtual 79, 36, 36, 2, 8, 0, 0) else none
  else bif Nat.blt pc 37 then bif Nat.beq pc 36 then some (.iadd, 37, 0, 0, 0, 0, 0) else none
  else bif Nat.beq pc 37 then some (.istore_n 2, 38, 2, 0, 0, 0, 0) else none
  else bif Nat.blt pc 44 then bif Nat.blt pc 41 then bif Nat.beq pc 38 then some (.iinc 5 1, 41, 5, 0, 0, 1, 0) else none
  else bif Nat.beq pc 41 then some (.goto (-25), 44, 16, 0, 0, 0, 0) else none
  else bif Nat.blt pc 45 then bif Nat.beq pc 44 then some (.iload_n 2, 45, 2, 0, 0, 0, 0) else none
  else bif Nat.beq pc 45 then some (.ireturn, 46, 0, 0, 0, 0, 0) else none
def gmi_X8_load : gMI := gwrap 46 gcd_X8_load 1 7
def gcd_X8_where (pc : Nat) : Option PE :=
  bif Nat.blt pc 31 then bif Nat.blt pc 14 then bif Nat.blt pc 7 then bif Nat.blt pc 2 then bif Nat.blt pc 1 then bif Nat.beq pc 0 then some (.iconst 0, 1, 0, 0, 0, 0, 0) else none
  else bif Nat.beq pc 1 then some (.istore_n 2, 2, 2, 0, 0, 0, 0) else none
  else bif Nat.blt pc 3 then bif Nat.beq pc 2 then some (.iload_n 2, 3, 2, 0, 0, 0, 0) else none
  else bif Nat.blt pc 4 then bif Nat.beq pc 3 then some (.aload_n 0, 4, 0, 0, 0, 0, 0) else none
  else bif Nat.beq pc 4 then some (.getfield 26, 7, 8, 7, 2, 0, 0) else none
  else bif Nat.blt pc 11 then bif Nat.blt pc 8 then bif Nat.beq pc 7 then some (.arraylength, 8, 0, 0, 0, 0, 0) else none
  else bif Nat.beq pc 8 then some (.if_icmp .ge 54, 11, 62, 0, 0, 0, 0) else none
  else bif Nat.blt pc 12 then bif Nat.beq pc 11 then some (.iconst 0, 12, 0, 0, 0, 0, 0) else none
  else bif Nat.blt pc 13 then bif Nat.beq pc 12 then some (.istore_n 3, 13, 3, 0, 0, 0, 0) else none
  else bif Nat.beq pc 13 then some (.iload_n 3, 14, 3, 0, 0, 0, 0) else none
  else bif Nat.blt pc 21 then bif Nat.blt pc 18 then bif Nat.blt pc 15 then bif Nat.beq pc 14 then some (.aload_n 0, 15, 0, 0, 0, 0, 0) else none
  else bif Nat.beq pc 15 then some (.getfield 26, 18, 8, 7, 2, 0, 0) else none
  else bif Nat.blt pc 19 then bif Nat.beq pc 18 then some (.iload_n 2, 19, 2, 0, 0, 0, 0) else none
  else bif Nat.blt pc 20 then bif Nat.beq pc 19 then some (.aaload, 20, 0, 0, 0, 0, 0) else none
  else bif Nat.beq pc 20 then some (.arraylength, 21, 0, 0, 0, 0, 0) else none
  else bif Nat.blt pc 28 then bif Nat.blt pc 24 then bif Nat.beq pc 21 then some (.if_icmp .ge 35, 24, 56, 0, 0, 0, 0) else none
  else bif Nat.blt pc 25 then bif Nat.beq pc 24 then some (.aload_n 0, 25, 0, 0, 0, 0, 0) else none
  else bif Nat.beq pc 25 then some (.getfield 26, 28, 8, 7, 2, 0, 0) else none
  else bif Nat.blt pc 29 then bif Nat.beq pc 28 then some (.iload_n 2, 29, 2, 0, 0, 0, 0) else none
  else bif Nat.blt pc 30 then bif Nat.beq pc 29 then some (.aaload, 30, 0, 0, 0, 0, 0) else none
  else bif Nat.beq pc 30 then some (.iload_n 3, 31, 3, 0, 0, 0, 0) else none
  else bif Nat.blt pc 45 then bif Nat.blt pc 38 then bif Nat.blt pc 33 then bif Nat.blt pc 32 then bif Nat.beq pc 31 then some (.iaload, 32, 0, 0, 0, 0, 0) else none
  else bif Nat.beq pc 32 then some (.iconst 2, 33, 0, 0, 0, 2, 0) else none
  else bif Nat.blt pc 34 then bif Nat.beq pc 33 then some (.idiv, 34, 0, 0, 0, 0, 0) else none
  else bif Nat.blt pc 35 then bif Nat.beq pc 34 then some (.iload_n 1, 35, 1, 0, 0, 0, 0) else none
  else bif Nat.beq pc 35 then some (.if_icmp .ne 15, 38, 50, 0, 0, 0, 0) else none
  else bif Nat.blt pc 42 then bif Nat.blt pc 39 then bif Nat.beq pc 38 then some (.iconst 2, 39, 0, 0, 0, 2, 0) else none
  else bif Nat.blt pc 41 then bif Nat.beq pc 39 then some (.newarray .int, 41, 0, 0, 1, 0, 0) else none
  else bif Nat.beq pc 41 then some (.dup, 42, 0, 0, 0, 0, 0) else none
  else bif Nat.blt pc 43 then bif Nat.beq pc 42 then some (.iconst 0, 43, 0, 0, 0, 0, 0) else none
  else bif Nat.blt pc 44 then bif Nat.beq pc 43 then some (.iload_n 2, 44, 2, 0, 0, 0, 0) else none
  else bif Nat.beq pc 44 then some (.iastore, 45, 0, 0, 0, 0, 0) else none
  else bif Nat.blt pc 50 then bif Nat.blt pc 47 then bif Nat.blt pc 46 then bif Nat.beq pc 45 then some (.dup, 46, 0, 0, 0, 0, 0) else none
  else bif Nat.beq pc 46 then some (.iconst 1, 47, 0, 0, 0, 1, 0) else none
  else bif Nat.blt pc 48 then bif Nat.beq pc 47 then some (.iload_n 3, 48, 3, 0, 0, 0, 0) else none
  else bif Nat.blt pc 49 then bif Nat.beq pc 48 then some (.iastore, 49, 0, 0, 0, 0, 0) else none
  else bif Nat.beq pc 49 then some (.areturn, 50, 0, 0, 0, 0, 0) else none
  else bif Nat.blt pc 59 then bif Nat.blt pc 53 then bif Nat.beq pc 50 then some (.iinc 3 1, 53, 3, 0, 0, 1, 0) else none
  else bif Nat.blt pc 56 then bif Nat.beq pc 53 then some (.goto (-40), 56, 13, 0, 0, 0, 0) else none
  else bif Nat.beq pc 56 then some (.iinc 2 1, 59, 2, 0, 0, 1, 0) else none
  else bif Nat.blt pc 62 then bif Nat.beq pc 59 then some (.goto (-57), 62, 2, 0, 0, 0, 0) else none
  else bif Nat.blt pc 63 then bif Nat.beq pc 62 then some (.aconst_null, 63, 0, 0, 0, 0, 0) else none
  else bif Nat.beq pc 63 then some (.areturn, 64, 0, 0, 0, 0, 0) else none
def gmi_X8_where : gMI := gwrap 64 gcd_X8_where 4 4
def gcd_X8_isOpen (pc : Nat) : Option PE :=
  bif Nat.blt pc 11 then bif Nat.blt pc 5 then bif Nat.blt pc 1 then bif Nat.beq pc 0 then some (.aload_n 0, 1, 0, 0, 0, 0, 0) else none
  else bif Nat.blt pc 4 then bif Nat.beq pc 1 then some (.getfield 11, 4, 8, 3, 2, 0, 0) else none
  else bif Nat.beq pc 4 then some (.iload_n 1, 5, 1, 0, 0, 0, 0) else none
  else bif Nat.blt pc 7 then bif Nat.blt pc 6 then bif Nat.beq pc 5 then some (.aaload, 6, 0, 0, 0, 0, 0) else none
  else bif Nat.beq pc 6 then some (.iconst 4, 7, 0, 0, 0, 4, 0) else none
  else bif Nat.blt pc 8 then bif Nat.beq pc 7 then some (.iaload, 8, 0, 0, 0, 0, 0) else none
  else bif Nat.beq pc 8 then some (.ifCond .le 15, 11, 23, 0, 0, 0, 0) else none
  else bif Nat.blt pc 19 then bif Nat.blt pc 13 then bif Nat.blt pc 12 then bif Nat.beq pc 11 then some (.aload_n 0, 12, 0, 0, 0, 0, 0) else none
  else bif Nat.beq pc 12 then some (.iload_n 1, 13, 1, 0, 0, 0, 0) else none
  else bif Nat.blt pc 16 then bif Nat.beq pc 13 then some (.invokevirtual 109, 16, 47, 2, 8, 0, 0) else none
  else bif Nat.beq pc 16 then some (.ifnonnull 7, 19, 23, 0, 0, 0, 0) else none
  else bif Nat.blt pc 23 then bif Nat.blt pc 20 then bif Nat.beq pc 19 then some (.iconst 1, 20, 0, 0, 0, 1, 0) else none
  else bif Nat.beq pc 20 then some (.goto 4, 23, 24, 0, 0, 0, 0) else none
  else bif Nat.blt pc 24 then bif Nat.beq pc 23 then some (.iconst 0, 24, 0, 0, 0, 0, 0) else none
  else bif Nat.beq pc 24 then some (.ireturn, 25, 0, 0, 0, 0, 0) else none
def gmi_X8_isOpen : gMI := gwrap 25 gcd_X8_isOpen 2 2
def gcd_X8_open (pc : Nat) : Option PE :=
  bif Nat.blt pc 13 then bif Nat.blt pc 4 then bif Nat.blt pc 2 then bif Nat.blt pc 1 then bif Nat.beq pc 0 then some (.iconst 0, 1, 0, 0, 0, 0, 0) else none
  else bif Nat.beq pc 1 then some (.istore_n 1, 2, 1, 0, 0, 0, 0) else none
  else bif Nat.blt pc 3 then bif Nat.beq pc 2 then some (.iconst 0, 3, 0, 0, 0, 0, 0) else none
  else bif Nat.beq pc 3 then some (.istore_n 2, 4, 2, 0, 0, 0, 0) else none
  else bif Nat.blt pc 6 then bif Nat.blt pc 5 then bif Nat.beq pc 4 then some (.iload_n 2, 5, 2, 0, 0, 0, 0) else none
  else bif Nat.beq pc 5 then some (.aload_n 0, 6, 0, 0, 0, 0, 0) else none
  else bif Nat.blt pc 9 then bif Nat.beq pc 6 then some (.getfield 11, 9, 8, 3, 2, 0, 0) else none
  else bif Nat.blt pc 10 then bif Nat.beq pc 9 then some (.arraylength, 10, 0, 0, 0, 0, 0) else none
  else bif Nat.beq pc 10 then some (.if_icmp .ge 20, 13, 30, 0, 0, 0, 0) else none
  else bif Nat.blt pc 21 then bif Nat.blt pc 15 then bif Nat.blt pc 14 then bif Nat.beq pc 13 then some (.aload_n 0, 14, 0, 0, 0, 0, 0) else none
  else bif Nat.beq pc 14 then some (.iload_n 2, 15, 2, 0, 0, 0, 0) else none
  else bif Nat.blt pc 18 then bif Nat.beq pc 15 then some (.invokevirtual 113, 18, 48, 2, 8, 0, 0) else none
  else bif Nat.beq pc 18 then some (.ifCond .eq 6, 21, 24, 0, 0, 0, 0) else none
  else bif Nat.blt pc 27 then bif Nat.blt pc 24 then bif Nat.beq pc 21 then some (.iinc 1 1, 24, 1, 0, 0, 1, 0) else none
  else bif Nat.beq pc 24 then some (.iinc 2 1, 27, 2, 0, 0, 1, 0) else none
  else bif Nat.blt pc 30 then bif Nat.beq pc 27 then some (.goto (-23), 30, 4, 0, 0, 0, 0) else none
  else bif Nat.blt pc 31 then bif Nat.beq pc 30 then some (.iload_n 1, 31, 1, 0, 0, 0, 0) else none
  else bif Nat.beq pc 31 then some (.ireturn, 32, 0, 0, 0, 0, 0) else none
def gmi_X8_open : gMI := gwrap 32 gcd_X8_open 1 3
def gcd_X8_fits (pc : Nat) : Option PE :=
  bif Nat.blt pc 24 then bif Nat.blt pc 11 then bif Nat.blt pc 5 then bif Nat.blt pc 1 then bif Nat.beq pc 0 then some (.aload_n 0, 1, 0, 0, 0, 0, 0) else none
  else bif Nat.blt pc 2 then bif Nat.beq pc 1 then some (.iload_n 1, 2, 1, 0, 0, 0, 0) else none
  else bif Nat.beq pc 2 then some (.invokevirtual 117, 5, 46, 2, 8, 0, 0) else none
  else bif Nat.blt pc 7 then bif Nat.blt pc 6 then bif Nat.beq pc 5 then some (.aload_n 0, 6, 0, 0, 0, 0, 0) else none
  else bif Nat.beq pc 6 then some (.iload_n 3, 7, 3, 0, 0, 0, 0) else none
  else bif Nat.blt pc 10 then bif Nat.beq pc 7 then some (.invokevirtual 79, 10, 36, 2, 8, 0, 0) else none
  else bif Nat.beq pc 10 then some (.iadd, 11, 0, 0, 0, 0, 0) else none
  else bif Nat.blt pc 18 then bif Nat.blt pc 12 then bif Nat.beq pc 11 then some (.aload_n 0, 12, 0, 0, 0, 0, 0) else none
  else bif Nat.blt pc 15 then bif Nat.beq pc 12 then some (.getfield 34, 15, 8, 1, 0, 0, 0) else none
  else bif Nat.beq pc 15 then some (.if_icmp .gt 33, 18, 48, 0, 0, 0, 0) else none
  else bif Nat.blt pc 20 then bif Nat.blt pc 19 then bif Nat.beq pc 18 then some (.aload_n 0, 19, 0, 0, 0, 0, 0) else none
  else bif Nat.beq pc 19 then some (.aload_n 0, 20, 0, 0, 0, 0, 0) else none
  else bif Nat.blt pc 23 then bif Nat.beq pc 20 then some (.getfield 23, 23, 8, 6, 2, 0, 0) else none
  else bif Nat.beq pc 23 then some (.iload_n 1, 24, 1, 0, 0, 0, 0) else none
  else bif Nat.blt pc 33 then bif Nat.blt pc 29 then bif Nat.blt pc 25 then bif Nat.beq pc 24 then some (.iaload, 25, 0, 0, 0, 0, 0) else none
  else bif Nat.blt pc 26 then bif Nat.beq pc 25 then some (.aload_n 0, 26, 0, 0, 0, 0, 0) else none
  else bif Nat.beq pc 26 then some (.getfield 26, 29, 8, 7, 2, 0, 0) else none
  else bif Nat.blt pc 31 then bif Nat.blt pc 30 then bif Nat.beq pc 29 then some (.iload_n 1, 30, 1, 0, 0, 0, 0) else none
  else bif Nat.beq pc 30 then some (.aaload, 31, 0, 0, 0, 0, 0) else none
  else bif Nat.blt pc 32 then bif Nat.beq pc 31 then some (.iload_n 2, 32, 2, 0, 0, 0, 0) else none
  else bif Nat.beq pc 32 then some (.iload_n 3, 33, 3, 0, 0, 0, 0) else none
  else bif Nat.blt pc 44 then bif Nat.blt pc 39 then bif Nat.blt pc 36 then bif Nat.beq pc 33 then some (.invokestatic 120, 36, 69, 3, 99, 0, 0) else none
  else bif Nat.beq pc 36 then some (.invokevirtual 103, 39, 43, 3, 8, 0, 0) else none
  else bif Nat.blt pc 41 then bif Nat.beq pc 39 then some (.ldc 67, 41, 0, 0, 0, 500000, 0) else none
  else bif Nat.beq pc 41 then some (.if_icmp .ge 7, 44, 48, 0, 0, 0, 0) else none
  else bif Nat.blt pc 48 then bif Nat.blt pc 45 then bif Nat.beq pc 44 then some (.iconst 1, 45, 0, 0, 0, 1, 0) else none
  else bif Nat.beq pc 45 then some (.goto 4, 48, 49, 0, 0, 0, 0) else none
  else bif Nat.blt pc 49 then bif Nat.beq pc 48 then some (.iconst 0, 49, 0, 0, 0, 0, 0) else none
  else bif Nat.beq pc 49 then some (.ireturn, 50, 0, 0, 0, 0, 0) else none
def gmi_X8_fits : gMI := gwrap 50 gcd_X8_fits 2 4
def gcd_X8_best (pc : Nat) : Option PE :=
  bif Nat.blt pc 70 then bif Nat.blt pc 32 then bif Nat.blt pc 15 then bif Nat.blt pc 7 then bif Nat.blt pc 2 then bif Nat.blt pc 1 then bif Nat.beq pc 0 then some (.aconst_null, 1, 0, 0, 0, 0, 0) else none
  else bif Nat.beq pc 1 then some (.astore_n 2, 2, 2, 0, 0, 0, 0) else none
  else bif Nat.blt pc 3 then bif Nat.beq pc 2 then some (.aload_n 0, 3, 0, 0, 0, 0, 0) else none
  else bif Nat.blt pc 6 then bif Nat.beq pc 3 then some (.getfield 26, 6, 8, 7, 2, 0, 0) else none
  else bif Nat.beq pc 6 then some (.arraylength, 7, 0, 0, 0, 0, 0) else none
  else bif Nat.blt pc 10 then bif Nat.blt pc 8 then bif Nat.beq pc 7 then some (.iconst 1, 8, 0, 0, 0, 1, 0) else none
  else bif Nat.blt pc 9 then bif Nat.beq pc 8 then some (.isub, 9, 0, 0, 0, 0, 0) else none
  else bif Nat.beq pc 9 then some (.istore_n 3, 10, 3, 0, 0, 0, 0) else none
  else bif Nat.blt pc 11 then bif Nat.beq pc 10 then some (.iload_n 3, 11, 3, 0, 0, 0, 0) else none
  else bif Nat.blt pc 14 then bif Nat.beq pc 11 then some (.ifCond .lt 131, 14, 142, 0, 0, 0, 0) else none
  else bif Nat.beq pc 14 then some (.aload_n 0, 15, 0, 0, 0, 0, 0) else none
  else bif Nat.blt pc 23 then bif Nat.blt pc 19 then bif Nat.blt pc 18 then bif Nat.beq pc 15 then some (.getfield 26, 18, 8, 7, 2, 0, 0) else none
  else bif Nat.beq pc 18 then some (.iload_n 3, 19, 3, 0, 0, 0, 0) else none
  else bif Nat.blt pc 20 then bif Nat.beq pc 19 then some (.aaload, 20, 0, 0, 0, 0, 0) else none
  else bif Nat.blt pc 21 then bif Nat.beq pc 20 then some (.arraylength, 21, 0, 0, 0, 0, 0) else none
  else bif Nat.beq pc 21 then some (.istore 4, 23, 4, 0, 0, 0, 0) else none
  else bif Nat.blt pc 29 then bif Nat.blt pc 25 then bif Nat.beq pc 23 then some (.iload 4, 25, 4, 0, 0, 0, 0) else none
  else bif Nat.blt pc 28 then bif Nat.beq pc 25 then some (.ifCond .lt 111, 28, 136, 0, 0, 0, 0) else none
  else bif Nat.beq pc 28 then some (.iconst 2, 29, 0, 0, 0, 2, 0) else none
  else bif Nat.blt pc 30 then bif Nat.beq pc 29 then some (.iload_n 1, 30, 1, 0, 0, 0, 0) else none
  else bif Nat.blt pc 31 then bif Nat.beq pc 30 then some (.imul, 31, 0, 0, 0, 0, 0) else none
  else bif Nat.beq pc 31 then some (.iconst 1, 32, 0, 0, 0, 1, 0) else none
  else bif Nat.blt pc 49 then bif Nat.blt pc 39 then bif Nat.blt pc 35 then bif Nat.blt pc 33 then bif Nat.beq pc 32 then some (.iadd, 33, 0, 0, 0, 0, 0) else none
  else bif Nat.beq pc 33 then some (.istore 5, 35, 5, 0, 0, 0, 0) else none
  else bif Nat.blt pc 37 then bif Nat.beq pc 35 then some (.iload 5, 37, 5, 0, 0, 0, 0) else none
  else bif Nat.blt pc 38 then bif Nat.beq pc 37 then some (.iconst 2, 38, 0, 0, 0, 2, 0) else none
  else bif Nat.beq pc 38 then some (.iload_n 1, 39, 1, 0, 0, 0, 0) else none
  else bif Nat.blt pc 44 then bif Nat.blt pc 40 then bif Nat.beq pc 39 then some (.imul, 40, 0, 0, 0, 0, 0) else none
  else bif Nat.blt pc 43 then bif Nat.beq pc 40 then some (.if_icmp .lt 90, 43, 130, 0, 0, 0, 0) else none
  else bif Nat.beq pc 43 then some (.aload_n 0, 44, 0, 0, 0, 0, 0) else none
  else bif Nat.blt pc 45 then bif Nat.beq pc 44 then some (.iload_n 3, 45, 3, 0, 0, 0, 0) else none
  else bif Nat.blt pc 47 then bif Nat.beq pc 45 then some (.iload 4, 47, 4, 0, 0, 0, 0) else none
  else bif Nat.beq pc 47 then some (.iload 5, 49, 5, 0, 0, 0, 0) else none
  else bif Nat.blt pc 60 then bif Nat.blt pc 55 then bif Nat.blt pc 52 then bif Nat.beq pc 49 then some (.invokevirtual 124, 52, 50, 4, 8, 0, 0) else none
  else bif Nat.beq pc 52 then some (.ifCond .ne 6, 55, 58, 0, 0, 0, 0) else none
  else bif Nat.blt pc 58 then bif Nat.beq pc 55 then some (.goto 69, 58, 124, 0, 0, 0, 0) else none
  else bif Nat.blt pc 59 then bif Nat.beq pc 58 then some (.aload_n 0, 59, 0, 0, 0, 0, 0) else none
  else bif Nat.beq pc 59 then some (.aload_n 0, 60, 0, 0, 0, 0, 0) else none
  else bif Nat.blt pc 65 then bif Nat.blt pc 63 then bif Nat.beq pc 60 then some (.getfield 23, 63, 8, 6, 2, 0, 0) else none
  else bif Nat.blt pc 64 then bif Nat.beq pc 63 then some (.iload_n 3, 64, 3, 0, 0, 0, 0) else none
  else bif Nat.beq pc 64 then some (.iaload, 65, 0, 0, 0, 0, 0) else none
  else bif Nat.blt pc 66 then bif Nat.beq pc 65 then some (.aload_n 0, 66, 0, 0, 0, 0, 0) else none
  else bif Nat.blt pc 69 then bif Nat.beq pc 66 then some (.getfield 26, 69, 8, 7, 2, 0, 0) else none
  else bif Nat.beq pc 69 then some (.iload_n 3, 70, 3, 0, 0, 0, 0) else none
  else bif Nat.blt pc 108 then bif Nat.blt pc 90 then bif Nat.blt pc 81 then bif Nat.blt pc 73 then bif Nat.blt pc 71 then bif Nat.beq pc 70 then some (.aaload, 71, 0, 0, 0, 0, 0) else none
  else bif Nat.beq pc 71 then some (.iload 4, 73, 4, 0, 0, 0, 0) else none
  else bif Nat.blt pc 75 then bif Nat.beq pc 73 then some (.iload 5, 75, 5, 0, 0, 0, 0) else none
  else bif Nat.blt pc 78 then bif Nat.beq pc 75 then some (.invokestatic 120, 78, 69, 3, 99, 0, 0) else none
  else bif Nat.beq pc 78 then some (.invokevirtual 103, 81, 43, 3, 8, 0, 0) else none
  else bif Nat.blt pc 86 then bif Nat.blt pc 82 then bif Nat.beq pc 81 then some (.aload_n 0, 82, 0, 0, 0, 0, 0) else none
  else bif Nat.blt pc 83 then bif Nat.beq pc 82 then some (.iload_n 3, 83, 3, 0, 0, 0, 0) else none
  else bif Nat.beq pc 83 then some (.invokevirtual 107, 86, 44, 2, 8, 0, 0) else none
  else bif Nat.blt pc 87 then bif Nat.beq pc 86 then some (.isub, 87, 0, 0, 0, 0, 0) else none
  else bif Nat.blt pc 89 then bif Nat.beq pc 87 then some (.istore 6, 89, 6, 0, 0, 0, 0) else none
  else bif Nat.beq pc 89 then some (.aload_n 2, 90, 2, 0, 0, 0, 0) else none
  else bif Nat.blt pc 98 then bif Nat.blt pc 95 then bif Nat.blt pc 93 then bif Nat.beq pc 90 then some (.ifnull 11, 93, 101, 0, 0, 0, 0) else none
  else bif Nat.beq pc 93 then some (.iload 6, 95, 6, 0, 0, 0, 0) else none
  else bif Nat.blt pc 96 then bif Nat.beq pc 95 then some (.aload_n 2, 96, 2, 0, 0, 0, 0) else none
  else bif Nat.blt pc 97 then bif Nat.beq pc 96 then some (.iconst 0, 97, 0, 0, 0, 0, 0) else none
  else bif Nat.beq pc 97 then some (.iaload, 98, 0, 0, 0, 0, 0) else none
  else bif Nat.blt pc 104 then bif Nat.blt pc 101 then bif Nat.beq pc 98 then some (.if_icmp .gt 26, 101, 124, 0, 0, 0, 0) else none
  else bif Nat.blt pc 102 then bif Nat.beq pc 101 then some (.iconst 4, 102, 0, 0, 0, 4, 0) else none
  else bif Nat.beq pc 102 then some (.newarray .int, 104, 0, 0, 1, 0, 0) else none
  else bif Nat.blt pc 105 then bif Nat.beq pc 104 then some (.dup, 105, 0, 0, 0, 0, 0) else none
  else bif Nat.blt pc 106 then bif Nat.beq pc 105 then some (.iconst 0, 106, 0, 0, 0, 0, 0) else none
  else bif Nat.beq pc 106 then some (.iload 6, 108, 6, 0, 0, 0, 0) else none
  else bif Nat.blt pc 120 then bif Nat.blt pc 113 then bif Nat.blt pc 110 then bif Nat.blt pc 109 then bif Nat.beq pc 108 then some (.iastore, 109, 0, 0, 0, 0, 0) else none
  else bif Nat.beq pc 109 then some (.dup, 110, 0, 0, 0, 0, 0) else none
  else bif Nat.blt pc 111 then bif Nat.beq pc 110 then some (.iconst 1, 111, 0, 0, 0, 1, 0) else none
  else bif Nat.blt pc 112 then bif Nat.beq pc 111 then some (.iload_n 3, 112, 3, 0, 0, 0, 0) else none
  else bif Nat.beq pc 112 then some (.iastore, 113, 0, 0, 0, 0, 0) else none
  else bif Nat.blt pc 117 then bif Nat.blt pc 114 then bif Nat.beq pc 113 then some (.dup, 114, 0, 0, 0, 0, 0) else none
  else bif Nat.blt pc 115 then bif Nat.beq pc 114 then some (.iconst 2, 115, 0, 0, 0, 2, 0) else none
  else bif Nat.beq pc 115 then some (.iload 4, 117, 4, 0, 0, 0, 0) else none
  else bif Nat.blt pc 118 then bif Nat.beq pc 117 then some (.iastore, 118, 0, 0, 0, 0, 0) else none
  else bif Nat.blt pc 119 then bif Nat.beq pc 118 then some (.dup, 119, 0, 0, 0, 0, 0) else none
  else bif Nat.beq pc 119 then some (.iconst 3, 120, 0, 0, 0, 3, 0) else none
  else bif Nat.blt pc 130 then bif Nat.blt pc 123 then bif Nat.blt pc 122 then bif Nat.beq pc 120 then some (.iload 5, 122, 5, 0, 0, 0, 0) else none
  else bif Nat.beq pc 122 then some (.iastore, 123, 0, 0, 0, 0, 0) else none
  else bif Nat.blt pc 124 then bif Nat.beq pc 123 then some (.astore_n 2, 124, 2, 0, 0, 0, 0) else none
  else bif Nat.blt pc 127 then bif Nat.beq pc 124 then some (.iinc 5 (-1), 127, 5, 0, 1, 1, 0) else none
  else bif Nat.beq pc 127 then some (.goto (-92), 130, 35, 0, 0, 0, 0) else none
  else bif Nat.blt pc 139 then bif Nat.blt pc 133 then bif Nat.beq pc 130 then some (.iinc 4 (-1), 133, 4, 0, 1, 1, 0) else none
  else bif Nat.blt pc 136 then bif Nat.beq pc 133 then some (.goto (-110), 136, 23, 0, 0, 0, 0) else none
  else bif Nat.beq pc 136 then some (.iinc 3 (-1), 139, 3, 0, 1, 1, 0) else none
  else bif Nat.blt pc 142 then bif Nat.beq pc 139 then some (.goto (-129), 142, 10, 0, 0, 0, 0) else none
  else bif Nat.blt pc 143 then bif Nat.beq pc 142 then some (.aload_n 2, 143, 2, 0, 0, 0, 0) else none
  else bif Nat.beq pc 143 then some (.areturn, 144, 0, 0, 0, 0, 0) else none
def gmi_X8_best : gMI := gwrap 144 gcd_X8_best 4 7
def gcd_X8_put (pc : Nat) : Option PE :=
  bif Nat.blt pc 14 then bif Nat.blt pc 7 then bif Nat.blt pc 4 then bif Nat.blt pc 1 then bif Nat.beq pc 0 then some (.aload_n 0, 1, 0, 0, 0, 0, 0) else none
  else bif Nat.beq pc 1 then some (.getfield 26, 4, 8, 7, 2, 0, 0) else none
  else bif Nat.blt pc 5 then bif Nat.beq pc 4 then some (.aload_n 1, 5, 1, 0, 0, 0, 0) else none
  else bif Nat.blt pc 6 then bif Nat.beq pc 5 then some (.iconst 1, 6, 0, 0, 0, 1, 0) else none
  else bif Nat.beq pc 6 then some (.iaload, 7, 0, 0, 0, 0, 0) else none
  else bif Nat.blt pc 11 then bif Nat.blt pc 8 then bif Nat.beq pc 7 then some (.aload_n 0, 8, 0, 0, 0, 0, 0) else none
  else bif Nat.beq pc 8 then some (.getfield 26, 11, 8, 7, 2, 0, 0) else none
  else bif Nat.blt pc 12 then bif Nat.beq pc 11 then some (.aload_n 1, 12, 1, 0, 0, 0, 0) else none
  else bif Nat.blt pc 13 then bif Nat.beq pc 12 then some (.iconst 1, 13, 0, 0, 0, 1, 0) else none
  else bif Nat.beq pc 13 then some (.iaload, 14, 0, 0, 0, 0, 0) else none
  else bif Nat.blt pc 19 then bif Nat.blt pc 16 then bif Nat.blt pc 15 then bif Nat.beq pc 14 then some (.aaload, 15, 0, 0, 0, 0, 0) else none
  else bif Nat.beq pc 15 then some (.aload_n 1, 16, 1, 0, 0, 0, 0) else none
  else bif Nat.blt pc 17 then bif Nat.beq pc 16 then some (.iconst 2, 17, 0, 0, 0, 2, 0) else none
  else bif Nat.blt pc 18 then bif Nat.beq pc 17 then some (.iaload, 18, 0, 0, 0, 0, 0) else none
  else bif Nat.beq pc 18 then some (.aload_n 1, 19, 1, 0, 0, 0, 0) else none
  else bif Nat.blt pc 21 then bif Nat.blt pc 20 then bif Nat.beq pc 19 then some (.iconst 3, 20, 0, 0, 0, 3, 0) else none
  else bif Nat.beq pc 20 then some (.iaload, 21, 0, 0, 0, 0, 0) else none
  else bif Nat.blt pc 24 then bif Nat.beq pc 21 then some (.invokestatic 120, 24, 69, 3, 99, 0, 0) else none
  else bif Nat.blt pc 25 then bif Nat.beq pc 24 then some (.aastore, 25, 0, 0, 0, 0, 0) else none
  else bif Nat.beq pc 25 then some (.return_, 26, 0, 0, 0, 0, 0) else none
def gmi_X8_put : gMI := gwrap 26 gcd_X8_put 0 2
def gcd_X8_build (pc : Nat) : Option PE :=
  bif Nat.blt pc 23 then bif Nat.blt pc 9 then bif Nat.blt pc 3 then bif Nat.blt pc 1 then bif Nat.beq pc 0 then some (.iconst 0, 1, 0, 0, 0, 0, 0) else none
  else bif Nat.blt pc 2 then bif Nat.beq pc 1 then some (.istore_n 1, 2, 1, 0, 0, 0, 0) else none
  else bif Nat.beq pc 2 then some (.iconst 0, 3, 0, 0, 0, 0, 0) else none
  else bif Nat.blt pc 5 then bif Nat.blt pc 4 then bif Nat.beq pc 3 then some (.istore_n 2, 4, 2, 0, 0, 0, 0) else none
  else bif Nat.beq pc 4 then some (.iload_n 2, 5, 2, 0, 0, 0, 0) else none
  else bif Nat.blt pc 6 then bif Nat.beq pc 5 then some (.aload_n 0, 6, 0, 0, 0, 0, 0) else none
  else bif Nat.beq pc 6 then some (.getfield 11, 9, 8, 3, 2, 0, 0) else none
  else bif Nat.blt pc 15 then bif Nat.blt pc 13 then bif Nat.blt pc 10 then bif Nat.beq pc 9 then some (.arraylength, 10, 0, 0, 0, 0, 0) else none
  else bif Nat.beq pc 10 then some (.if_icmp .ge 42, 13, 52, 0, 0, 0, 0) else none
  else bif Nat.blt pc 14 then bif Nat.beq pc 13 then some (.aload_n 0, 14, 0, 0, 0, 0, 0) else none
  else bif Nat.beq pc 14 then some (.iload_n 2, 15, 2, 0, 0, 0, 0) else none
  else bif Nat.blt pc 21 then bif Nat.blt pc 18 then bif Nat.beq pc 15 then some (.invokevirtual 113, 18, 48, 2, 8, 0, 0) else none
  else bif Nat.beq pc 18 then some (.ifCond .eq 11, 21, 29, 0, 0, 0, 0) else none
  else bif Nat.blt pc 22 then bif Nat.beq pc 21 then some (.aload_n 0, 22, 0, 0, 0, 0, 0) else none
  else bif Nat.beq pc 22 then some (.iload_n 2, 23, 2, 0, 0, 0, 0) else none
  else bif Nat.blt pc 38 then bif Nat.blt pc 30 then bif Nat.blt pc 26 then bif Nat.beq pc 23 then some (.invokevirtual 128, 26, 51, 2, 8, 0, 0) else none
  else bif Nat.blt pc 29 then bif Nat.beq pc 26 then some (.goto 4, 29, 30, 0, 0, 0, 0) else none
  else bif Nat.beq pc 29 then some (.aconst_null, 30, 0, 0, 0, 0, 0) else none
  else bif Nat.blt pc 32 then bif Nat.blt pc 31 then bif Nat.beq pc 30 then some (.astore_n 3, 31, 3, 0, 0, 0, 0) else none
  else bif Nat.beq pc 31 then some (.aload_n 3, 32, 3, 0, 0, 0, 0) else none
  else bif Nat.blt pc 35 then bif Nat.beq pc 32 then some (.ifnonnull 6, 35, 38, 0, 0, 0, 0) else none
  else bif Nat.beq pc 35 then some (.goto 11, 38, 46, 0, 0, 0, 0) else none
  else bif Nat.blt pc 46 then bif Nat.blt pc 40 then bif Nat.blt pc 39 then bif Nat.beq pc 38 then some (.aload_n 0, 39, 0, 0, 0, 0, 0) else none
  else bif Nat.beq pc 39 then some (.aload_n 3, 40, 3, 0, 0, 0, 0) else none
  else bif Nat.blt pc 43 then bif Nat.beq pc 40 then some (.invokevirtual 131, 43, 52, 2, 8, 0, 0) else none
  else bif Nat.beq pc 43 then some (.iinc 1 1, 46, 1, 0, 0, 1, 0) else none
  else bif Nat.blt pc 52 then bif Nat.blt pc 49 then bif Nat.beq pc 46 then some (.iinc 2 1, 49, 2, 0, 0, 1, 0) else none
  else bif Nat.beq pc 49 then some (.goto (-45), 52, 4, 0, 0, 0, 0) else none
  else bif Nat.blt pc 53 then bif Nat.beq pc 52 then some (.iload_n 1, 53, 1, 0, 0, 0, 0) else none
  else bif Nat.beq pc 53 then some (.ireturn, 54, 0, 0, 0, 0, 0) else none
def gmi_X8_build : gMI := gwrap 54 gcd_X8_build 1 4
def gcd_X8_changed (pc : Nat) : Option PE :=
  bif Nat.blt pc 32 then bif Nat.blt pc 17 then bif Nat.blt pc 7 then bif Nat.blt pc 4 then bif Nat.blt pc 1 then bif Nat.beq pc 0 then some (.aload_n 0, 1, 0, 0, 0, 0, 0) else none
  else bif Nat.beq pc 1 then some (.invokevirtual 135, 4, 31, 1, 8, 0, 0) else none
  else bif Nat.blt pc 5 then bif Nat.beq pc 4 then some (.astore_n 2, 5, 2, 0, 0, 0, 0) else none
  else bif Nat.blt pc 6 then bif Nat.beq pc 5 then some (.aload_n 0, 6, 0, 0, 0, 0, 0) else none
  else bif Nat.beq pc 6 then some (.iload_n 1, 7, 1, 0, 0, 0, 0) else none
  else bif Nat.blt pc 12 then bif Nat.blt pc 10 then bif Nat.beq pc 7 then some (.invokevirtual 109, 10, 47, 2, 8, 0, 0) else none
  else bif Nat.blt pc 11 then bif Nat.beq pc 10 then some (.astore_n 3, 11, 3, 0, 0, 0, 0) else none
  else bif Nat.beq pc 11 then some (.aload_n 2, 12, 2, 0, 0, 0, 0) else none
  else bif Nat.blt pc 15 then bif Nat.beq pc 12 then some (.getfield 26, 15, 8, 7, 2, 0, 0) else none
  else bif Nat.blt pc 16 then bif Nat.beq pc 15 then some (.aload_n 3, 16, 3, 0, 0, 0, 0) else none
  else bif Nat.beq pc 16 then some (.iconst 0, 17, 0, 0, 0, 0, 0) else none
  else bif Nat.blt pc 24 then bif Nat.blt pc 19 then bif Nat.blt pc 18 then bif Nat.beq pc 17 then some (.iaload, 18, 0, 0, 0, 0, 0) else none
  else bif Nat.beq pc 18 then some (.aload_n 0, 19, 0, 0, 0, 0, 0) else none
  else bif Nat.blt pc 22 then bif Nat.beq pc 19 then some (.getfield 26, 22, 8, 7, 2, 0, 0) else none
  else bif Nat.blt pc 23 then bif Nat.beq pc 22 then some (.aload_n 3, 23, 3, 0, 0, 0, 0) else none
  else bif Nat.beq pc 23 then some (.iconst 0, 24, 0, 0, 0, 0, 0) else none
  else bif Nat.blt pc 27 then bif Nat.blt pc 25 then bif Nat.beq pc 24 then some (.iaload, 25, 0, 0, 0, 0, 0) else none
  else bif Nat.blt pc 26 then bif Nat.beq pc 25 then some (.aaload, 26, 0, 0, 0, 0, 0) else none
  else bif Nat.beq pc 26 then some (.aload_n 3, 27, 3, 0, 0, 0, 0) else none
  else bif Nat.blt pc 28 then bif Nat.beq pc 27 then some (.iconst 1, 28, 0, 0, 0, 1, 0) else none
  else bif Nat.blt pc 29 then bif Nat.beq pc 28 then some (.iaload, 29, 0, 0, 0, 0, 0) else none
  else bif Nat.beq pc 29 then some (.invokestatic 139, 32, 70, 2, 99, 0, 0) else none
  else bif Nat.blt pc 50 then bif Nat.blt pc 37 then bif Nat.blt pc 34 then bif Nat.blt pc 33 then bif Nat.beq pc 32 then some (.aastore, 33, 0, 0, 0, 0, 0) else none
  else bif Nat.beq pc 33 then some (.aload_n 2, 34, 2, 0, 0, 0, 0) else none
  else bif Nat.blt pc 35 then bif Nat.beq pc 34 then some (.aload_n 3, 35, 3, 0, 0, 0, 0) else none
  else bif Nat.blt pc 36 then bif Nat.beq pc 35 then some (.iconst 0, 36, 0, 0, 0, 0, 0) else none
  else bif Nat.beq pc 36 then some (.iaload, 37, 0, 0, 0, 0, 0) else none
  else bif Nat.blt pc 45 then bif Nat.blt pc 40 then bif Nat.beq pc 37 then some (.invokevirtual 107, 40, 44, 2, 8, 0, 0) else none
  else bif Nat.blt pc 42 then bif Nat.beq pc 40 then some (.ldc 67, 42, 0, 0, 0, 500000, 0) else none
  else bif Nat.beq pc 42 then some (.if_icmp .ge 11, 45, 53, 0, 0, 0, 0) else none
  else bif Nat.blt pc 46 then bif Nat.beq pc 45 then some (.aload_n 2, 46, 2, 0, 0, 0, 0) else none
  else bif Nat.blt pc 47 then bif Nat.beq pc 46 then some (.iload_n 1, 47, 1, 0, 0, 0, 0) else none
  else bif Nat.beq pc 47 then some (.invokevirtual 128, 50, 51, 2, 8, 0, 0) else none
  else bif Nat.blt pc 62 then bif Nat.blt pc 56 then bif Nat.blt pc 53 then bif Nat.beq pc 50 then some (.goto 4, 53, 54, 0, 0, 0, 0) else none
  else bif Nat.blt pc 54 then bif Nat.beq pc 53 then some (.aconst_null, 54, 0, 0, 0, 0, 0) else none
  else bif Nat.beq pc 54 then some (.astore 4, 56, 4, 0, 0, 0, 0) else none
  else bif Nat.blt pc 58 then bif Nat.beq pc 56 then some (.aload 4, 58, 4, 0, 0, 0, 0) else none
  else bif Nat.blt pc 61 then bif Nat.beq pc 58 then some (.ifnonnull 5, 61, 63, 0, 0, 0, 0) else none
  else bif Nat.beq pc 61 then some (.aconst_null, 62, 0, 0, 0, 0, 0) else none
  else bif Nat.blt pc 66 then bif Nat.blt pc 63 then bif Nat.beq pc 62 then some (.areturn, 63, 0, 0, 0, 0, 0) else none
  else bif Nat.blt pc 64 then bif Nat.beq pc 63 then some (.aload_n 2, 64, 2, 0, 0, 0, 0) else none
  else bif Nat.beq pc 64 then some (.aload 4, 66, 4, 0, 0, 0, 0) else none
  else bif Nat.blt pc 69 then bif Nat.beq pc 66 then some (.invokevirtual 131, 69, 52, 2, 8, 0, 0) else none
  else bif Nat.blt pc 70 then bif Nat.beq pc 69 then some (.aload_n 2, 70, 2, 0, 0, 0, 0) else none
  else bif Nat.beq pc 70 then some (.areturn, 71, 0, 0, 0, 0, 0) else none
def gmi_X8_changed : gMI := gwrap 71 gcd_X8_changed 4 5
def gcd_X8_improve (pc : Nat) : Option PE :=
  bif Nat.blt pc 55 then bif Nat.blt pc 22 then bif Nat.blt pc 9 then bif Nat.blt pc 5 then bif Nat.blt pc 1 then bif Nat.beq pc 0 then some (.aload_n 0, 1, 0, 0, 0, 0, 0) else none
  else bif Nat.blt pc 4 then bif Nat.beq pc 1 then some (.invokevirtual 143, 4, 45, 1, 8, 0, 0) else none
  else bif Nat.beq pc 4 then some (.istore_n 2, 5, 2, 0, 0, 0, 0) else none
  else bif Nat.blt pc 7 then bif Nat.blt pc 6 then bif Nat.beq pc 5 then some (.iconst 0, 6, 0, 0, 0, 0, 0) else none
  else bif Nat.beq pc 6 then some (.istore_n 3, 7, 3, 0, 0, 0, 0) else none
  else bif Nat.blt pc 8 then bif Nat.beq pc 7 then some (.iload_n 3, 8, 3, 0, 0, 0, 0) else none
  else bif Nat.beq pc 8 then some (.iload_n 1, 9, 1, 0, 0, 0, 0) else none
  else bif Nat.blt pc 16 then bif Nat.blt pc 13 then bif Nat.blt pc 12 then bif Nat.beq pc 9 then some (.if_icmp .ge 109, 12, 118, 0, 0, 0, 0) else none
  else bif Nat.beq pc 12 then some (.aconst_null, 13, 0, 0, 0, 0, 0) else none
  else bif Nat.blt pc 15 then bif Nat.beq pc 13 then some (.astore 4, 15, 4, 0, 0, 0, 0) else none
  else bif Nat.beq pc 15 then some (.aload_n 0, 16, 0, 0, 0, 0, 0) else none
  else bif Nat.blt pc 20 then bif Nat.blt pc 19 then bif Nat.beq pc 16 then some (.getfield 11, 19, 8, 3, 2, 0, 0) else none
  else bif Nat.beq pc 19 then some (.arraylength, 20, 0, 0, 0, 0, 0) else none
  else bif Nat.blt pc 21 then bif Nat.beq pc 20 then some (.iconst 1, 21, 0, 0, 0, 1, 0) else none
  else bif Nat.beq pc 21 then some (.isub, 22, 0, 0, 0, 0, 0) else none
  else bif Nat.blt pc 38 then bif Nat.blt pc 29 then bif Nat.blt pc 24 then bif Nat.beq pc 22 then some (.istore 5, 24, 5, 0, 0, 0, 0) else none
  else bif Nat.blt pc 26 then bif Nat.beq pc 24 then some (.iload 5, 26, 5, 0, 0, 0, 0) else none
  else bif Nat.beq pc 26 then some (.ifCond .lt 57, 29, 83, 0, 0, 0, 0) else none
  else bif Nat.blt pc 32 then bif Nat.blt pc 30 then bif Nat.beq pc 29 then some (.aload_n 0, 30, 0, 0, 0, 0, 0) else none
  else bif Nat.beq pc 30 then some (.iload 5, 32, 5, 0, 0, 0, 0) else none
  else bif Nat.blt pc 35 then bif Nat.beq pc 32 then some (.invokevirtual 109, 35, 47, 2, 8, 0, 0) else none
  else bif Nat.beq pc 35 then some (.ifnonnull 7, 38, 42, 0, 0, 0, 0) else none
  else bif Nat.blt pc 45 then bif Nat.blt pc 42 then bif Nat.blt pc 39 then bif Nat.beq pc 38 then some (.aconst_null, 39, 0, 0, 0, 0, 0) else none
  else bif Nat.beq pc 39 then some (.goto 9, 42, 48, 0, 0, 0, 0) else none
  else bif Nat.blt pc 43 then bif Nat.beq pc 42 then some (.aload_n 0, 43, 0, 0, 0, 0, 0) else none
  else bif Nat.beq pc 43 then some (.iload 5, 45, 5, 0, 0, 0, 0) else none
  else bif Nat.blt pc 50 then bif Nat.blt pc 48 then bif Nat.beq pc 45 then some (.invokevirtual 146, 48, 54, 2, 8, 0, 0) else none
  else bif Nat.beq pc 48 then some (.astore 6, 50, 6, 0, 0, 0, 0) else none
  else bif Nat.blt pc 52 then bif Nat.beq pc 50 then some (.aload 6, 52, 6, 0, 0, 0, 0) else none
  else bif Nat.beq pc 52 then some (.ifnull 25, 55, 77, 0, 0, 0, 0) else none
  else bif Nat.blt pc 93 then bif Nat.blt pc 73 then bif Nat.blt pc 62 then bif Nat.blt pc 57 then bif Nat.beq pc 55 then some (.aload 4, 57, 4, 0, 0, 0, 0) else none
  else bif Nat.blt pc 60 then bif Nat.beq pc 57 then some (.ifnull 16, 60, 73, 0, 0, 0, 0) else none
  else bif Nat.beq pc 60 then some (.aload 6, 62, 6, 0, 0, 0, 0) else none
  else bif Nat.blt pc 67 then bif Nat.blt pc 65 then bif Nat.beq pc 62 then some (.invokevirtual 143, 65, 45, 1, 8, 0, 0) else none
  else bif Nat.beq pc 65 then some (.aload 4, 67, 4, 0, 0, 0, 0) else none
  else bif Nat.blt pc 70 then bif Nat.beq pc 67 then some (.invokevirtual 143, 70, 45, 1, 8, 0, 0) else none
  else bif Nat.beq pc 70 then some (.if_icmp .gt 7, 73, 77, 0, 0, 0, 0) else none
  else bif Nat.blt pc 83 then bif Nat.blt pc 77 then bif Nat.blt pc 75 then bif Nat.beq pc 73 then some (.aload 6, 75, 6, 0, 0, 0, 0) else none
  else bif Nat.beq pc 75 then some (.astore 4, 77, 4, 0, 0, 0, 0) else none
  else bif Nat.blt pc 80 then bif Nat.beq pc 77 then some (.iinc 5 (-1), 80, 5, 0, 1, 1, 0) else none
  else bif Nat.beq pc 80 then some (.goto (-56), 83, 24, 0, 0, 0, 0) else none
  else bif Nat.blt pc 88 then bif Nat.blt pc 85 then bif Nat.beq pc 83 then some (.aload 4, 85, 4, 0, 0, 0, 0) else none
  else bif Nat.beq pc 85 then some (.ifnull 33, 88, 118, 0, 0, 0, 0) else none
  else bif Nat.blt pc 90 then bif Nat.beq pc 88 then some (.aload 4, 90, 4, 0, 0, 0, 0) else none
  else bif Nat.beq pc 90 then some (.invokevirtual 143, 93, 45, 1, 8, 0, 0) else none
  else bif Nat.blt pc 109 then bif Nat.blt pc 100 then bif Nat.blt pc 94 then bif Nat.beq pc 93 then some (.aload_n 0, 94, 0, 0, 0, 0, 0) else none
  else bif Nat.blt pc 97 then bif Nat.beq pc 94 then some (.invokevirtual 143, 97, 45, 1, 8, 0, 0) else none
  else bif Nat.beq pc 97 then some (.if_icmp .lt 6, 100, 103, 0, 0, 0, 0) else none
  else bif Nat.blt pc 104 then bif Nat.blt pc 103 then bif Nat.beq pc 100 then some (.goto 18, 103, 118, 0, 0, 0, 0) else none
  else bif Nat.beq pc 103 then some (.aload_n 0, 104, 0, 0, 0, 0, 0) else none
  else bif Nat.blt pc 106 then bif Nat.beq pc 104 then some (.aload 4, 106, 4, 0, 0, 0, 0) else none
  else bif Nat.beq pc 106 then some (.getfield 26, 109, 8, 7, 2, 0, 0) else none
  else bif Nat.blt pc 119 then bif Nat.blt pc 115 then bif Nat.blt pc 112 then bif Nat.beq pc 109 then some (.putfield 26, 112, 8, 7, 2, 0, 0) else none
  else bif Nat.beq pc 112 then some (.iinc 3 1, 115, 3, 0, 0, 1, 0) else none
  else bif Nat.blt pc 118 then bif Nat.beq pc 115 then some (.goto (-108), 118, 7, 0, 0, 0, 0) else none
  else bif Nat.beq pc 118 then some (.iload_n 2, 119, 2, 0, 0, 0, 0) else none
  else bif Nat.blt pc 123 then bif Nat.blt pc 120 then bif Nat.beq pc 119 then some (.aload_n 0, 120, 0, 0, 0, 0, 0) else none
  else bif Nat.beq pc 120 then some (.invokevirtual 143, 123, 45, 1, 8, 0, 0) else none
  else bif Nat.blt pc 124 then bif Nat.beq pc 123 then some (.isub, 124, 0, 0, 0, 0, 0) else none
  else bif Nat.beq pc 124 then some (.ireturn, 125, 0, 0, 0, 0, 0) else none
def gmi_X8_improve : gMI := gwrap 125 gcd_X8_improve 1 7
def gcd_X8_sum (pc : Nat) : Option PE :=
  bif Nat.blt pc 51 then bif Nat.blt pc 24 then bif Nat.blt pc 14 then bif Nat.blt pc 8 then bif Nat.blt pc 4 then bif Nat.blt pc 3 then bif Nat.beq pc 0 then some (.ldc2_w 153, 3, 0, 0, 0, 0, 31) else none
  else bif Nat.beq pc 3 then some (.aload_n 0, 4, 0, 0, 0, 0, 0) else none
  else bif Nat.blt pc 7 then bif Nat.beq pc 4 then some (.invokevirtual 143, 7, 45, 1, 8, 0, 0) else none
  else bif Nat.beq pc 7 then some (.i2l, 8, 0, 0, 0, 0, 0) else none
  else bif Nat.blt pc 10 then bif Nat.blt pc 9 then bif Nat.beq pc 8 then some (.lmul, 9, 0, 0, 0, 0, 0) else none
  else bif Nat.beq pc 9 then some (.aload_n 0, 10, 0, 0, 0, 0, 0) else none
  else bif Nat.blt pc 13 then bif Nat.beq pc 10 then some (.invokevirtual 155, 13, 49, 1, 8, 0, 0) else none
  else bif Nat.beq pc 13 then some (.i2l, 14, 0, 0, 0, 0, 0) else none
  else bif Nat.blt pc 18 then bif Nat.blt pc 16 then bif Nat.blt pc 15 then bif Nat.beq pc 14 then some (.ladd, 15, 0, 0, 0, 0, 0) else none
  else bif Nat.beq pc 15 then some (.lstore_n 1, 16, 1, 0, 0, 0, 0) else none
  else bif Nat.blt pc 17 then bif Nat.beq pc 16 then some (.iconst 0, 17, 0, 0, 0, 0, 0) else none
  else bif Nat.beq pc 17 then some (.istore_n 3, 18, 3, 0, 0, 0, 0) else none
  else bif Nat.blt pc 20 then bif Nat.blt pc 19 then bif Nat.beq pc 18 then some (.iload_n 3, 19, 3, 0, 0, 0, 0) else none
  else bif Nat.beq pc 19 then some (.aload_n 0, 20, 0, 0, 0, 0, 0) else none
  else bif Nat.blt pc 23 then bif Nat.beq pc 20 then some (.getfield 26, 23, 8, 7, 2, 0, 0) else none
  else bif Nat.beq pc 23 then some (.arraylength, 24, 0, 0, 0, 0, 0) else none
  else bif Nat.blt pc 40 then bif Nat.blt pc 34 then bif Nat.blt pc 30 then bif Nat.blt pc 27 then bif Nat.beq pc 24 then some (.if_icmp .ge 82, 27, 106, 0, 0, 0, 0) else none
  else bif Nat.beq pc 27 then some (.ldc2_w 153, 30, 0, 0, 0, 0, 31) else none
  else bif Nat.blt pc 33 then bif Nat.beq pc 30 then some (.ldc2_w 153, 33, 0, 0, 0, 0, 31) else none
  else bif Nat.beq pc 33 then some (.lload_n 1, 34, 1, 0, 0, 0, 0) else none
  else bif Nat.blt pc 36 then bif Nat.blt pc 35 then bif Nat.beq pc 34 then some (.lmul, 35, 0, 0, 0, 0, 0) else none
  else bif Nat.beq pc 35 then some (.aload_n 0, 36, 0, 0, 0, 0, 0) else none
  else bif Nat.blt pc 39 then bif Nat.beq pc 36 then some (.getfield 23, 39, 8, 6, 2, 0, 0) else none
  else bif Nat.beq pc 39 then some (.iload_n 3, 40, 3, 0, 0, 0, 0) else none
  else bif Nat.blt pc 44 then bif Nat.blt pc 42 then bif Nat.blt pc 41 then bif Nat.beq pc 40 then some (.iaload, 41, 0, 0, 0, 0, 0) else none
  else bif Nat.beq pc 41 then some (.i2l, 42, 0, 0, 0, 0, 0) else none
  else bif Nat.blt pc 43 then bif Nat.beq pc 42 then some (.ladd, 43, 0, 0, 0, 0, 0) else none
  else bif Nat.beq pc 43 then some (.lmul, 44, 0, 0, 0, 0, 0) else none
  else bif Nat.blt pc 48 then bif Nat.blt pc 45 then bif Nat.beq pc 44 then some (.aload_n 0, 45, 0, 0, 0, 0, 0) else none
  else bif Nat.beq pc 45 then some (.getfield 26, 48, 8, 7, 2, 0, 0) else none
  else bif Nat.blt pc 49 then bif Nat.beq pc 48 then some (.iload_n 3, 49, 3, 0, 0, 0, 0) else none
  else bif Nat.blt pc 50 then bif Nat.beq pc 49 then some (.aaload, 50, 0, 0, 0, 0, 0) else none
  else bif Nat.beq pc 50 then some (.arraylength, 51, 0, 0, 0, 0, 0) else none
  else bif Nat.blt pc 77 then bif Nat.blt pc 62 then bif Nat.blt pc 55 then bif Nat.blt pc 53 then bif Nat.blt pc 52 then bif Nat.beq pc 51 then some (.i2l, 52, 0, 0, 0, 0, 0) else none
  else bif Nat.beq pc 52 then some (.ladd, 53, 0, 0, 0, 0, 0) else none
  else bif Nat.blt pc 54 then bif Nat.beq pc 53 then some (.lstore_n 1, 54, 1, 0, 0, 0, 0) else none
  else bif Nat.beq pc 54 then some (.aload_n 0, 55, 0, 0, 0, 0, 0) else none
  else bif Nat.blt pc 59 then bif Nat.blt pc 58 then bif Nat.beq pc 55 then some (.getfield 26, 58, 8, 7, 2, 0, 0) else none
  else bif Nat.beq pc 58 then some (.iload_n 3, 59, 3, 0, 0, 0, 0) else none
  else bif Nat.blt pc 60 then bif Nat.beq pc 59 then some (.aaload, 60, 0, 0, 0, 0, 0) else none
  else bif Nat.beq pc 60 then some (.astore 4, 62, 4, 0, 0, 0, 0) else none
  else bif Nat.blt pc 68 then bif Nat.blt pc 65 then bif Nat.blt pc 64 then bif Nat.beq pc 62 then some (.aload 4, 64, 4, 0, 0, 0, 0) else none
  else bif Nat.beq pc 64 then some (.arraylength, 65, 0, 0, 0, 0, 0) else none
  else bif Nat.blt pc 67 then bif Nat.beq pc 65 then some (.istore 5, 67, 5, 0, 0, 0, 0) else none
  else bif Nat.beq pc 67 then some (.iconst 0, 68, 0, 0, 0, 0, 0) else none
  else bif Nat.blt pc 72 then bif Nat.blt pc 70 then bif Nat.beq pc 68 then some (.istore 6, 70, 6, 0, 0, 0, 0) else none
  else bif Nat.beq pc 70 then some (.iload 6, 72, 6, 0, 0, 0, 0) else none
  else bif Nat.blt pc 74 then bif Nat.beq pc 72 then some (.iload 5, 74, 5, 0, 0, 0, 0) else none
  else bif Nat.beq pc 74 then some (.if_icmp .ge 26, 77, 100, 0, 0, 0, 0) else none
  else bif Nat.blt pc 91 then bif Nat.blt pc 84 then bif Nat.blt pc 81 then bif Nat.blt pc 79 then bif Nat.beq pc 77 then some (.aload 4, 79, 4, 0, 0, 0, 0) else none
  else bif Nat.beq pc 79 then some (.iload 6, 81, 6, 0, 0, 0, 0) else none
  else bif Nat.blt pc 82 then bif Nat.beq pc 81 then some (.iaload, 82, 0, 0, 0, 0, 0) else none
  else bif Nat.beq pc 82 then some (.istore 7, 84, 7, 0, 0, 0, 0) else none
  else bif Nat.blt pc 88 then bif Nat.blt pc 87 then bif Nat.beq pc 84 then some (.ldc2_w 153, 87, 0, 0, 0, 0, 31) else none
  else bif Nat.beq pc 87 then some (.lload_n 1, 88, 1, 0, 0, 0, 0) else none
  else bif Nat.blt pc 89 then bif Nat.beq pc 88 then some (.lmul, 89, 0, 0, 0, 0, 0) else none
  else bif Nat.beq pc 89 then some (.iload 7, 91, 7, 0, 0, 0, 0) else none
  else bif Nat.blt pc 97 then bif Nat.blt pc 93 then bif Nat.blt pc 92 then bif Nat.beq pc 91 then some (.i2l, 92, 0, 0, 0, 0, 0) else none
  else bif Nat.beq pc 92 then some (.ladd, 93, 0, 0, 0, 0, 0) else none
  else bif Nat.blt pc 94 then bif Nat.beq pc 93 then some (.lstore_n 1, 94, 1, 0, 0, 0, 0) else none
  else bif Nat.beq pc 94 then some (.iinc 6 1, 97, 6, 0, 0, 1, 0) else none
  else bif Nat.blt pc 103 then bif Nat.blt pc 100 then bif Nat.beq pc 97 then some (.goto (-27), 100, 70, 0, 0, 0, 0) else none
  else bif Nat.beq pc 100 then some (.iinc 3 1, 103, 3, 0, 0, 1, 0) else none
  else bif Nat.blt pc 106 then bif Nat.beq pc 103 then some (.goto (-85), 106, 18, 0, 0, 0, 0) else none
  else bif Nat.blt pc 107 then bif Nat.beq pc 106 then some (.lload_n 1, 107, 1, 0, 0, 0, 0) else none
  else bif Nat.beq pc 107 then some (.lreturn, 108, 0, 0, 0, 0, 0) else none
def gmi_X8_sum : gMI := gwrap 108 gcd_X8_sum 3 8
def gcd_X9_init (pc : Nat) : Option PE :=
  bif Nat.blt pc 1 then bif Nat.beq pc 0 then some (.aload_n 0, 1, 0, 0, 0, 0, 0) else none
  else bif Nat.blt pc 4 then bif Nat.beq pc 1 then some (.invokespecial 1, 4, 0, 0, 50, 0, 0) else none
  else bif Nat.beq pc 4 then some (.return_, 5, 0, 0, 0, 0, 0) else none
def gmi_X9_init : gMI := gwrap 5 gcd_X9_init 0 1
def gcd_X9_random (pc : Nat) : Option PE :=
  bif Nat.blt pc 54 then bif Nat.blt pc 24 then bif Nat.blt pc 10 then bif Nat.blt pc 7 then bif Nat.blt pc 3 then bif Nat.beq pc 0 then some (.new 7, 3, 9, 0, 0, 0, 0) else none
  else bif Nat.blt pc 4 then bif Nat.beq pc 3 then some (.dup, 4, 0, 0, 0, 0, 0) else none
  else bif Nat.beq pc 4 then some (.invokespecial 9, 7, 57, 1, 98, 0, 0) else none
  else bif Nat.blt pc 8 then bif Nat.beq pc 7 then some (.astore_n 2, 8, 2, 0, 0, 0, 0) else none
  else bif Nat.blt pc 9 then bif Nat.beq pc 8 then some (.aload_n 2, 9, 2, 0, 0, 0, 0) else none
  else bif Nat.beq pc 9 then some (.iload_n 1, 10, 1, 0, 0, 0, 0) else none
  else bif Nat.blt pc 15 then bif Nat.blt pc 13 then bif Nat.beq pc 10 then some (.ifCond .ne 11, 13, 21, 0, 0, 0, 0) else none
  else bif Nat.blt pc 14 then bif Nat.beq pc 13 then some (.aload_n 0, 14, 0, 0, 0, 0, 0) else none
  else bif Nat.beq pc 14 then some (.iconst 2, 15, 0, 0, 0, 2, 0) else none
  else bif Nat.blt pc 21 then bif Nat.blt pc 18 then bif Nat.beq pc 15 then some (.invokevirtual 10, 18, 62, 2, 10, 0, 0) else none
  else bif Nat.beq pc 18 then some (.goto 9, 21, 27, 0, 0, 0, 0) else none
  else bif Nat.blt pc 22 then bif Nat.beq pc 21 then some (.aload_n 0, 22, 0, 0, 0, 0, 0) else none
  else bif Nat.beq pc 22 then some (.bipush 6, 24, 0, 0, 0, 6, 0) else none
  else bif Nat.blt pc 38 then bif Nat.blt pc 31 then bif Nat.blt pc 27 then bif Nat.beq pc 24 then some (.invokevirtual 10, 27, 62, 2, 10, 0, 0) else none
  else bif Nat.blt pc 30 then bif Nat.beq pc 27 then some (.putfield 16, 30, 9, 0, 0, 0, 0) else none
  else bif Nat.beq pc 30 then some (.aload_n 2, 31, 2, 0, 0, 0, 0) else none
  else bif Nat.blt pc 32 then bif Nat.beq pc 31 then some (.aload_n 2, 32, 2, 0, 0, 0, 0) else none
  else bif Nat.blt pc 35 then bif Nat.beq pc 32 then some (.getfield 16, 35, 9, 0, 0, 0, 0) else none
  else bif Nat.beq pc 35 then some (.ifCond .ne 27, 38, 62, 0, 0, 0, 0) else none
  else bif Nat.blt pc 42 then bif Nat.blt pc 39 then bif Nat.beq pc 38 then some (.aload_n 0, 39, 0, 0, 0, 0, 0) else none
  else bif Nat.blt pc 40 then bif Nat.beq pc 39 then some (.aload_n 0, 40, 0, 0, 0, 0, 0) else none
  else bif Nat.beq pc 40 then some (.bipush 6, 42, 0, 0, 0, 6, 0) else none
  else bif Nat.blt pc 48 then bif Nat.blt pc 45 then bif Nat.beq pc 42 then some (.invokevirtual 10, 45, 62, 2, 10, 0, 0) else none
  else bif Nat.beq pc 45 then some (.ifCond .ne 9, 48, 54, 0, 0, 0, 0) else none
  else bif Nat.blt pc 51 then bif Nat.beq pc 48 then some (.sipush 10000, 51, 0, 0, 0, 10000, 0) else none
  else bif Nat.beq pc 51 then some (.goto 5, 54, 56, 0, 0, 0, 0) else none
  else bif Nat.blt pc 80 then bif Nat.blt pc 67 then bif Nat.blt pc 62 then bif Nat.blt pc 56 then bif Nat.beq pc 54 then some (.bipush 9, 56, 0, 0, 0, 9, 0) else none
  else bif Nat.blt pc 59 then bif Nat.beq pc 56 then some (.invokevirtual 10, 59, 62, 2, 10, 0, 0) else none
  else bif Nat.beq pc 59 then some (.goto 8, 62, 67, 0, 0, 0, 0) else none
  else bif Nat.blt pc 63 then bif Nat.beq pc 62 then some (.aload_n 0, 63, 0, 0, 0, 0, 0) else none
  else bif Nat.blt pc 64 then bif Nat.beq pc 63 then some (.iconst 2, 64, 0, 0, 0, 2, 0) else none
  else bif Nat.beq pc 64 then some (.invokevirtual 10, 67, 62, 2, 10, 0, 0) else none
  else bif Nat.blt pc 74 then bif Nat.blt pc 70 then bif Nat.beq pc 67 then some (.putfield 20, 70, 9, 1, 0, 0, 0) else none
  else bif Nat.blt pc 71 then bif Nat.beq pc 70 then some (.aload_n 2, 71, 2, 0, 0, 0, 0) else none
  else bif Nat.beq pc 71 then some (.getfield 16, 74, 9, 0, 0, 0, 0) else none
  else bif Nat.blt pc 78 then bif Nat.blt pc 75 then bif Nat.beq pc 74 then some (.iconst 1, 75, 0, 0, 0, 1, 0) else none
  else bif Nat.beq pc 75 then some (.if_icmp .le 25, 78, 100, 0, 0, 0, 0) else none
  else bif Nat.blt pc 79 then bif Nat.beq pc 78 then some (.aload_n 2, 79, 2, 0, 0, 0, 0) else none
  else bif Nat.beq pc 79 then some (.aload_n 0, 80, 0, 0, 0, 0, 0) else none
  else bif Nat.blt pc 91 then bif Nat.blt pc 83 then bif Nat.blt pc 81 then bif Nat.beq pc 80 then some (.iload_n 1, 81, 1, 0, 0, 0, 0) else none
  else bif Nat.blt pc 82 then bif Nat.beq pc 81 then some (.iconst 1, 82, 0, 0, 0, 1, 0) else none
  else bif Nat.beq pc 82 then some (.isub, 83, 0, 0, 0, 0, 0) else none
  else bif Nat.blt pc 89 then bif Nat.blt pc 86 then bif Nat.beq pc 83 then some (.invokestatic 23, 86, 58, 2, 99, 0, 0) else none
  else bif Nat.beq pc 86 then some (.putfield 27, 89, 9, 2, 2, 0, 0) else none
  else bif Nat.blt pc 90 then bif Nat.beq pc 89 then some (.aload_n 2, 90, 2, 0, 0, 0, 0) else none
  else bif Nat.beq pc 90 then some (.aload_n 0, 91, 0, 0, 0, 0, 0) else none
  else bif Nat.blt pc 94 then bif Nat.blt pc 92 then bif Nat.beq pc 91 then some (.iload_n 1, 92, 1, 0, 0, 0, 0) else none
  else bif Nat.blt pc 93 then bif Nat.beq pc 92 then some (.iconst 1, 93, 0, 0, 0, 1, 0) else none
  else bif Nat.beq pc 93 then some (.isub, 94, 0, 0, 0, 0, 0) else none
  else bif Nat.blt pc 100 then bif Nat.blt pc 97 then bif Nat.beq pc 94 then some (.invokestatic 23, 97, 58, 2, 99, 0, 0) else none
  else bif Nat.beq pc 97 then some (.putfield 31, 100, 9, 3, 2, 0, 0) else none
  else bif Nat.blt pc 101 then bif Nat.beq pc 100 then some (.aload_n 2, 101, 2, 0, 0, 0, 0) else none
  else bif Nat.beq pc 101 then some (.areturn, 102, 0, 0, 0, 0, 0) else none
def gmi_X9_random : gMI := gwrap 102 gcd_X9_random 4 3
def gcd_X9_text (pc : Nat) : Option PE :=
  bif Nat.blt pc 84 then bif Nat.blt pc 45 then bif Nat.blt pc 23 then bif Nat.blt pc 11 then bif Nat.blt pc 4 then bif Nat.blt pc 1 then bif Nat.beq pc 0 then some (.aload_n 0, 1, 0, 0, 0, 0, 0) else none
  else bif Nat.beq pc 1 then some (.getfield 16, 4, 9, 0, 0, 0, 0) else none
  else bif Nat.blt pc 7 then bif Nat.beq pc 4 then some (.ifCond .ne 26, 7, 30, 0, 0, 0, 0) else none
  else bif Nat.blt pc 10 then bif Nat.beq pc 7 then some (.new 34, 10, 12, 0, 0, 0, 0) else none
  else bif Nat.beq pc 10 then some (.dup, 11, 0, 0, 0, 0, 0) else none
  else bif Nat.blt pc 16 then bif Nat.blt pc 14 then bif Nat.beq pc 11 then some (.invokespecial 36, 14, 10, 1, 98, 0, 0) else none
  else bif Nat.beq pc 14 then some (.ldc 37, 16, 24, 0, 1, 0, 0) else none
  else bif Nat.blt pc 19 then bif Nat.beq pc 16 then some (.invokevirtual 39, 19, 8, 2, 12, 0, 0) else none
  else bif Nat.blt pc 20 then bif Nat.beq pc 19 then some (.aload_n 0, 20, 0, 0, 0, 0, 0) else none
  else bif Nat.beq pc 20 then some (.getfield 20, 23, 9, 1, 0, 0, 0) else none
  else bif Nat.blt pc 34 then bif Nat.blt pc 29 then bif Nat.blt pc 26 then bif Nat.beq pc 23 then some (.invokevirtual 43, 26, 9, 2, 12, 0, 0) else none
  else bif Nat.beq pc 26 then some (.invokevirtual 46, 29, 12, 1, 12, 0, 0) else none
  else bif Nat.blt pc 30 then bif Nat.beq pc 29 then some (.areturn, 30, 0, 0, 0, 0, 0) else none
  else bif Nat.blt pc 31 then bif Nat.beq pc 30 then some (.aload_n 0, 31, 0, 0, 0, 0, 0) else none
  else bif Nat.beq pc 31 then some (.getfield 16, 34, 9, 0, 0, 0, 0) else none
  else bif Nat.blt pc 38 then bif Nat.blt pc 35 then bif Nat.beq pc 34 then some (.iconst 1, 35, 0, 0, 0, 1, 0) else none
  else bif Nat.beq pc 35 then some (.if_icmp .ne 12, 38, 47, 0, 0, 0, 0) else none
  else bif Nat.blt pc 41 then bif Nat.beq pc 38 then some (.getstatic 50, 41, 1, 0, 2, 0, 0) else none
  else bif Nat.blt pc 42 then bif Nat.beq pc 41 then some (.aload_n 0, 42, 0, 0, 0, 0, 0) else none
  else bif Nat.beq pc 42 then some (.getfield 20, 45, 9, 1, 0, 0, 0) else none
  else bif Nat.blt pc 61 then bif Nat.blt pc 52 then bif Nat.blt pc 47 then bif Nat.blt pc 46 then bif Nat.beq pc 45 then some (.aaload, 46, 0, 0, 0, 0, 0) else none
  else bif Nat.beq pc 46 then some (.areturn, 47, 0, 0, 0, 0, 0) else none
  else bif Nat.blt pc 48 then bif Nat.beq pc 47 then some (.aload_n 0, 48, 0, 0, 0, 0, 0) else none
  else bif Nat.blt pc 51 then bif Nat.beq pc 48 then some (.getfield 16, 51, 9, 0, 0, 0, 0) else none
  else bif Nat.beq pc 51 then some (.iconst 4, 52, 0, 0, 0, 4, 0) else none
  else bif Nat.blt pc 56 then bif Nat.blt pc 55 then bif Nat.beq pc 52 then some (.if_icmp .ge 7, 55, 59, 0, 0, 0, 0) else none
  else bif Nat.beq pc 55 then some (.iconst 1, 56, 0, 0, 0, 1, 0) else none
  else bif Nat.blt pc 59 then bif Nat.beq pc 56 then some (.goto 4, 59, 60, 0, 0, 0, 0) else none
  else bif Nat.blt pc 60 then bif Nat.beq pc 59 then some (.iconst 2, 60, 0, 0, 0, 2, 0) else none
  else bif Nat.beq pc 60 then some (.istore_n 2, 61, 2, 0, 0, 0, 0) else none
  else bif Nat.blt pc 72 then bif Nat.blt pc 65 then bif Nat.blt pc 64 then bif Nat.beq pc 61 then some (.new 34, 64, 12, 0, 0, 0, 0) else none
  else bif Nat.beq pc 64 then some (.dup, 65, 0, 0, 0, 0, 0) else none
  else bif Nat.blt pc 68 then bif Nat.beq pc 65 then some (.invokespecial 36, 68, 10, 1, 98, 0, 0) else none
  else bif Nat.blt pc 69 then bif Nat.beq pc 68 then some (.aload_n 0, 69, 0, 0, 0, 0, 0) else none
  else bif Nat.beq pc 69 then some (.getfield 27, 72, 9, 2, 2, 0, 0) else none
  else bif Nat.blt pc 79 then bif Nat.blt pc 73 then bif Nat.beq pc 72 then some (.iload_n 2, 73, 2, 0, 0, 0, 0) else none
  else bif Nat.blt pc 76 then bif Nat.beq pc 73 then some (.invokevirtual 56, 76, 59, 2, 9, 0, 0) else none
  else bif Nat.beq pc 76 then some (.invokevirtual 39, 79, 8, 2, 12, 0, 0) else none
  else bif Nat.blt pc 80 then bif Nat.beq pc 79 then some (.aload_n 0, 80, 0, 0, 0, 0, 0) else none
  else bif Nat.blt pc 83 then bif Nat.beq pc 80 then some (.getfield 16, 83, 9, 0, 0, 0, 0) else none
  else bif Nat.beq pc 83 then some (.iconst 2, 84, 0, 0, 0, 2, 0) else none
  else bif Nat.blt pc 129 then bif Nat.blt pc 106 then bif Nat.blt pc 96 then bif Nat.blt pc 89 then bif Nat.blt pc 87 then bif Nat.beq pc 84 then some (.if_icmp .ne 8, 87, 92, 0, 0, 0, 0) else none
  else bif Nat.beq pc 87 then some (.ldc 60, 89, 30, 0, 1, 0, 0) else none
  else bif Nat.blt pc 92 then bif Nat.beq pc 89 then some (.goto 31, 92, 120, 0, 0, 0, 0) else none
  else bif Nat.blt pc 93 then bif Nat.beq pc 92 then some (.aload_n 0, 93, 0, 0, 0, 0, 0) else none
  else bif Nat.beq pc 93 then some (.getfield 16, 96, 9, 0, 0, 0, 0) else none
  else bif Nat.blt pc 100 then bif Nat.blt pc 97 then bif Nat.beq pc 96 then some (.iconst 3, 97, 0, 0, 0, 3, 0) else none
  else bif Nat.beq pc 97 then some (.if_icmp .ne 8, 100, 105, 0, 0, 0, 0) else none
  else bif Nat.blt pc 102 then bif Nat.beq pc 100 then some (.ldc 62, 102, 32, 0, 1, 0, 0) else none
  else bif Nat.blt pc 105 then bif Nat.beq pc 102 then some (.goto 18, 105, 120, 0, 0, 0, 0) else none
  else bif Nat.beq pc 105 then some (.aload_n 0, 106, 0, 0, 0, 0, 0) else none
  else bif Nat.blt pc 118 then bif Nat.blt pc 110 then bif Nat.blt pc 109 then bif Nat.beq pc 106 then some (.getfield 16, 109, 9, 0, 0, 0, 0) else none
  else bif Nat.beq pc 109 then some (.iconst 4, 110, 0, 0, 0, 4, 0) else none
  else bif Nat.blt pc 113 then bif Nat.beq pc 110 then some (.if_icmp .ne 8, 113, 118, 0, 0, 0, 0) else none
  else bif Nat.blt pc 115 then bif Nat.beq pc 113 then some (.ldc 64, 115, 34, 0, 1, 0, 0) else none
  else bif Nat.beq pc 115 then some (.goto 5, 118, 120, 0, 0, 0, 0) else none
  else bif Nat.blt pc 124 then bif Nat.blt pc 120 then bif Nat.beq pc 118 then some (.ldc 66, 120, 36, 0, 1, 0, 0) else none
  else bif Nat.blt pc 123 then bif Nat.beq pc 120 then some (.invokevirtual 39, 123, 8, 2, 12, 0, 0) else none
  else bif Nat.beq pc 123 then some (.aload_n 0, 124, 0, 0, 0, 0, 0) else none
  else bif Nat.blt pc 127 then bif Nat.beq pc 124 then some (.getfield 31, 127, 9, 3, 2, 0, 0) else none
  else bif Nat.blt pc 128 then bif Nat.beq pc 127 then some (.iload_n 2, 128, 2, 0, 0, 0, 0) else none
  else bif Nat.beq pc 128 then some (.iconst 1, 129, 0, 0, 0, 1, 0) else none
  else bif Nat.blt pc 149 then bif Nat.blt pc 140 then bif Nat.blt pc 133 then bif Nat.blt pc 130 then bif Nat.beq pc 129 then some (.iadd, 130, 0, 0, 0, 0, 0) else none
  else bif Nat.beq pc 130 then some (.invokevirtual 56, 133, 59, 2, 9, 0, 0) else none
  else bif Nat.blt pc 136 then bif Nat.beq pc 133 then some (.invokevirtual 39, 136, 8, 2, 12, 0, 0) else none
  else bif Nat.blt pc 139 then bif Nat.beq pc 136 then some (.invokevirtual 46, 139, 12, 1, 12, 0, 0) else none
  else bif Nat.beq pc 139 then some (.astore_n 3, 140, 3, 0, 0, 0, 0) else none
  else bif Nat.blt pc 142 then bif Nat.blt pc 141 then bif Nat.beq pc 140 then some (.iload_n 2, 141, 2, 0, 0, 0, 0) else none
  else bif Nat.beq pc 141 then some (.iload_n 1, 142, 1, 0, 0, 0, 0) else none
  else bif Nat.blt pc 145 then bif Nat.beq pc 142 then some (.if_icmp .ge 30, 145, 172, 0, 0, 0, 0) else none
  else bif Nat.blt pc 148 then bif Nat.beq pc 145 then some (.new 34, 148, 12, 0, 0, 0, 0) else none
  else bif Nat.beq pc 148 then some (.dup, 149, 0, 0, 0, 0, 0) else none
  else bif Nat.blt pc 161 then bif Nat.blt pc 154 then bif Nat.blt pc 152 then bif Nat.beq pc 149 then some (.invokespecial 36, 152, 10, 1, 98, 0, 0) else none
  else bif Nat.beq pc 152 then some (.ldc 68, 154, 38, 0, 1, 0, 0) else none
  else bif Nat.blt pc 157 then bif Nat.beq pc 154 then some (.invokevirtual 39, 157, 8, 2, 12, 0, 0) else none
  else bif Nat.blt pc 158 then bif Nat.beq pc 157 then some (.aload_n 3, 158, 3, 0, 0, 0, 0) else none
  else bif Nat.beq pc 158 then some (.invokevirtual 39, 161, 8, 2, 12, 0, 0) else none
  else bif Nat.blt pc 169 then bif Nat.blt pc 163 then bif Nat.beq pc 161 then some (.ldc 70, 163, 40, 0, 1, 0, 0) else none
  else bif Nat.blt pc 166 then bif Nat.beq pc 163 then some (.invokevirtual 39, 166, 8, 2, 12, 0, 0) else none
  else bif Nat.beq pc 166 then some (.invokevirtual 46, 169, 12, 1, 12, 0, 0) else none
  else bif Nat.blt pc 172 then bif Nat.beq pc 169 then some (.goto 4, 172, 173, 0, 0, 0, 0) else none
  else bif Nat.blt pc 173 then bif Nat.beq pc 172 then some (.aload_n 3, 173, 3, 0, 0, 0, 0) else none
  else bif Nat.beq pc 173 then some (.areturn, 174, 0, 0, 0, 0, 0) else none
def gmi_X9_text : gMI := gwrap 174 gcd_X9_text 4 4
def gcd_X9_value (pc : Nat) : Option PE :=
  bif Nat.blt pc 61 then bif Nat.blt pc 30 then bif Nat.blt pc 16 then bif Nat.blt pc 8 then bif Nat.blt pc 4 then bif Nat.blt pc 1 then bif Nat.beq pc 0 then some (.aload_n 0, 1, 0, 0, 0, 0, 0) else none
  else bif Nat.beq pc 1 then some (.getfield 16, 4, 9, 0, 0, 0, 0) else none
  else bif Nat.blt pc 5 then bif Nat.beq pc 4 then some (.iconst 2, 5, 0, 0, 0, 2, 0) else none
  else bif Nat.beq pc 5 then some (.if_icmp .ge 25, 8, 30, 0, 0, 0, 0) else none
  else bif Nat.blt pc 12 then bif Nat.blt pc 9 then bif Nat.beq pc 8 then some (.aload_n 0, 9, 0, 0, 0, 0, 0) else none
  else bif Nat.beq pc 9 then some (.getfield 16, 12, 9, 0, 0, 0, 0) else none
  else bif Nat.blt pc 15 then bif Nat.beq pc 12 then some (.ifCond .ne 11, 15, 23, 0, 0, 0, 0) else none
  else bif Nat.beq pc 15 then some (.aload_n 0, 16, 0, 0, 0, 0, 0) else none
  else bif Nat.blt pc 24 then bif Nat.blt pc 20 then bif Nat.blt pc 19 then bif Nat.beq pc 16 then some (.getfield 20, 19, 9, 1, 0, 0, 0) else none
  else bif Nat.beq pc 19 then some (.i2l, 20, 0, 0, 0, 0, 0) else none
  else bif Nat.blt pc 23 then bif Nat.beq pc 20 then some (.goto 9, 23, 29, 0, 0, 0, 0) else none
  else bif Nat.beq pc 23 then some (.aload_n 1, 24, 1, 0, 0, 0, 0) else none
  else bif Nat.blt pc 28 then bif Nat.blt pc 25 then bif Nat.beq pc 24 then some (.aload_n 0, 25, 0, 0, 0, 0, 0) else none
  else bif Nat.beq pc 25 then some (.getfield 20, 28, 9, 1, 0, 0, 0) else none
  else bif Nat.blt pc 29 then bif Nat.beq pc 28 then some (.laload, 29, 0, 0, 0, 0, 0) else none
  else bif Nat.beq pc 29 then some (.lreturn, 30, 0, 0, 0, 0, 0) else none
  else bif Nat.blt pc 44 then bif Nat.blt pc 38 then bif Nat.blt pc 34 then bif Nat.blt pc 31 then bif Nat.beq pc 30 then some (.aload_n 0, 31, 0, 0, 0, 0, 0) else none
  else bif Nat.beq pc 31 then some (.getfield 27, 34, 9, 2, 2, 0, 0) else none
  else bif Nat.blt pc 35 then bif Nat.beq pc 34 then some (.aload_n 1, 35, 1, 0, 0, 0, 0) else none
  else bif Nat.beq pc 35 then some (.invokevirtual 72, 38, 60, 2, 9, 0, 0) else none
  else bif Nat.blt pc 40 then bif Nat.blt pc 39 then bif Nat.beq pc 38 then some (.lstore_n 2, 39, 2, 0, 0, 0, 0) else none
  else bif Nat.beq pc 39 then some (.aload_n 0, 40, 0, 0, 0, 0, 0) else none
  else bif Nat.blt pc 43 then bif Nat.beq pc 40 then some (.getfield 31, 43, 9, 3, 2, 0, 0) else none
  else bif Nat.beq pc 43 then some (.aload_n 1, 44, 1, 0, 0, 0, 0) else none
  else bif Nat.blt pc 53 then bif Nat.blt pc 49 then bif Nat.blt pc 47 then bif Nat.beq pc 44 then some (.invokevirtual 72, 47, 60, 2, 9, 0, 0) else none
  else bif Nat.beq pc 47 then some (.lstore 4, 49, 4, 0, 0, 0, 0) else none
  else bif Nat.blt pc 50 then bif Nat.beq pc 49 then some (.aload_n 0, 50, 0, 0, 0, 0, 0) else none
  else bif Nat.beq pc 50 then some (.getfield 16, 53, 9, 0, 0, 0, 0) else none
  else bif Nat.blt pc 57 then bif Nat.blt pc 54 then bif Nat.beq pc 53 then some (.iconst 2, 54, 0, 0, 0, 2, 0) else none
  else bif Nat.beq pc 54 then some (.if_icmp .ne 10, 57, 64, 0, 0, 0, 0) else none
  else bif Nat.blt pc 58 then bif Nat.beq pc 57 then some (.lload_n 2, 58, 2, 0, 0, 0, 0) else none
  else bif Nat.blt pc 60 then bif Nat.beq pc 58 then some (.lload 4, 60, 4, 0, 0, 0, 0) else none
  else bif Nat.beq pc 60 then some (.ladd, 61, 0, 0, 0, 0, 0) else none
  else bif Nat.blt pc 91 then bif Nat.blt pc 76 then bif Nat.blt pc 69 then bif Nat.blt pc 65 then bif Nat.blt pc 64 then bif Nat.beq pc 61 then some (.goto 48, 64, 109, 0, 0, 0, 0) else none
  else bif Nat.beq pc 64 then some (.aload_n 0, 65, 0, 0, 0, 0, 0) else none
  else bif Nat.blt pc 68 then bif Nat.beq pc 65 then some (.getfield 16, 68, 9, 0, 0, 0, 0) else none
  else bif Nat.beq pc 68 then some (.iconst 3, 69, 0, 0, 0, 3, 0) else none
  else bif Nat.blt pc 73 then bif Nat.blt pc 72 then bif Nat.beq pc 69 then some (.if_icmp .ne 10, 72, 79, 0, 0, 0, 0) else none
  else bif Nat.beq pc 72 then some (.lload_n 2, 73, 2, 0, 0, 0, 0) else none
  else bif Nat.blt pc 75 then bif Nat.beq pc 73 then some (.lload 4, 75, 4, 0, 0, 0, 0) else none
  else bif Nat.beq pc 75 then some (.lsub, 76, 0, 0, 0, 0, 0) else none
  else bif Nat.blt pc 84 then bif Nat.blt pc 80 then bif Nat.blt pc 79 then bif Nat.beq pc 76 then some (.goto 33, 79, 109, 0, 0, 0, 0) else none
  else bif Nat.beq pc 79 then some (.aload_n 0, 80, 0, 0, 0, 0, 0) else none
  else bif Nat.blt pc 83 then bif Nat.beq pc 80 then some (.getfield 16, 83, 9, 0, 0, 0, 0) else none
  else bif Nat.beq pc 83 then some (.iconst 4, 84, 0, 0, 0, 4, 0) else none
  else bif Nat.blt pc 88 then bif Nat.blt pc 87 then bif Nat.beq pc 84 then some (.if_icmp .ne 10, 87, 94, 0, 0, 0, 0) else none
  else bif Nat.beq pc 87 then some (.lload_n 2, 88, 2, 0, 0, 0, 0) else none
  else bif Nat.blt pc 90 then bif Nat.beq pc 88 then some (.lload 4, 90, 4, 0, 0, 0, 0) else none
  else bif Nat.beq pc 90 then some (.lmul, 91, 0, 0, 0, 0, 0) else none
  else bif Nat.blt pc 106 then bif Nat.blt pc 98 then bif Nat.blt pc 96 then bif Nat.blt pc 94 then bif Nat.beq pc 91 then some (.goto 18, 94, 109, 0, 0, 0, 0) else none
  else bif Nat.beq pc 94 then some (.lload 4, 96, 4, 0, 0, 0, 0) else none
  else bif Nat.blt pc 97 then bif Nat.beq pc 96 then some (.lconst 0, 97, 0, 0, 0, 0, 0) else none
  else bif Nat.beq pc 97 then some (.lcmp, 98, 0, 0, 0, 0, 0) else none
  else bif Nat.blt pc 102 then bif Nat.blt pc 101 then bif Nat.beq pc 98 then some (.ifCond .ne 7, 101, 105, 0, 0, 0, 0) else none
  else bif Nat.beq pc 101 then some (.lconst 0, 102, 0, 0, 0, 0, 0) else none
  else bif Nat.blt pc 105 then bif Nat.beq pc 102 then some (.goto 7, 105, 109, 0, 0, 0, 0) else none
  else bif Nat.beq pc 105 then some (.lload_n 2, 106, 2, 0, 0, 0, 0) else none
  else bif Nat.blt pc 114 then bif Nat.blt pc 109 then bif Nat.blt pc 108 then bif Nat.beq pc 106 then some (.lload 4, 108, 4, 0, 0, 0, 0) else none
  else bif Nat.beq pc 108 then some (.ldiv, 109, 0, 0, 0, 0, 0) else none
  else bif Nat.blt pc 111 then bif Nat.beq pc 109 then some (.lstore 6, 111, 6, 0, 0, 0, 0) else none
  else bif Nat.beq pc 111 then some (.ldc2_w 76, 114, 0, 0, 0, 0, (-1000000)) else none
  else bif Nat.blt pc 119 then bif Nat.blt pc 117 then bif Nat.beq pc 114 then some (.ldc2_w 78, 117, 0, 0, 0, 0, 1000000) else none
  else bif Nat.beq pc 117 then some (.lload 6, 119, 6, 0, 0, 0, 0) else none
  else bif Nat.blt pc 122 then bif Nat.beq pc 119 then some (.invokestatic 80, 122, 0, 0, 102, 0, 0) else none
  else bif Nat.blt pc 125 then bif Nat.beq pc 122 then some (.invokestatic 86, 125, 0, 0, 101, 0, 0) else none
  else bif Nat.beq pc 125 then some (.lreturn, 126, 0, 0, 0, 0, 0) else none
def gmi_X9_value : gMI := gwrap 126 gcd_X9_value 3 8
def gcd_X10_init (pc : Nat) : Option PE :=
  bif Nat.blt pc 5 then bif Nat.blt pc 1 then bif Nat.beq pc 0 then some (.aload_n 0, 1, 0, 0, 0, 0, 0) else none
  else bif Nat.blt pc 4 then bif Nat.beq pc 1 then some (.invokespecial 1, 4, 0, 0, 50, 0, 0) else none
  else bif Nat.beq pc 4 then some (.aload_n 0, 5, 0, 0, 0, 0, 0) else none
  else bif Nat.blt pc 6 then bif Nat.beq pc 5 then some (.iload_n 1, 6, 1, 0, 0, 0, 0) else none
  else bif Nat.blt pc 9 then bif Nat.beq pc 6 then some (.putfield 7, 9, 10, 0, 0, 0, 0) else none
  else bif Nat.beq pc 9 then some (.return_, 10, 0, 0, 0, 0, 0) else none
def gmi_X10_init : gMI := gwrap 10 gcd_X10_init 0 2
def gcd_X10_below (pc : Nat) : Option PE :=
  bif Nat.blt pc 12 then bif Nat.blt pc 4 then bif Nat.blt pc 1 then bif Nat.beq pc 0 then some (.aload_n 0, 1, 0, 0, 0, 0, 0) else none
  else bif Nat.blt pc 3 then bif Nat.beq pc 1 then some (.ldc 13, 3, 0, 0, 0, 1103515245, 0) else none
  else bif Nat.beq pc 3 then some (.aload_n 0, 4, 0, 0, 0, 0, 0) else none
  else bif Nat.blt pc 8 then bif Nat.blt pc 7 then bif Nat.beq pc 4 then some (.getfield 7, 7, 10, 0, 0, 0, 0) else none
  else bif Nat.beq pc 7 then some (.imul, 8, 0, 0, 0, 0, 0) else none
  else bif Nat.blt pc 11 then bif Nat.beq pc 8 then some (.sipush 12345, 11, 0, 0, 0, 12345, 0) else none
  else bif Nat.beq pc 11 then some (.iadd, 12, 0, 0, 0, 0, 0) else none
  else bif Nat.blt pc 21 then bif Nat.blt pc 16 then bif Nat.blt pc 15 then bif Nat.beq pc 12 then some (.putfield 7, 15, 10, 0, 0, 0, 0) else none
  else bif Nat.beq pc 15 then some (.aload_n 0, 16, 0, 0, 0, 0, 0) else none
  else bif Nat.blt pc 19 then bif Nat.beq pc 16 then some (.getfield 7, 19, 10, 0, 0, 0, 0) else none
  else bif Nat.beq pc 19 then some (.bipush 16, 21, 0, 0, 0, 16, 0) else none
  else bif Nat.blt pc 23 then bif Nat.blt pc 22 then bif Nat.beq pc 21 then some (.iushr, 22, 0, 0, 0, 0, 0) else none
  else bif Nat.beq pc 22 then some (.iload_n 1, 23, 1, 0, 0, 0, 0) else none
  else bif Nat.blt pc 24 then bif Nat.beq pc 23 then some (.irem, 24, 0, 0, 0, 0, 0) else none
  else bif Nat.beq pc 24 then some (.ireturn, 25, 0, 0, 0, 0, 0) else none
def gmi_X10_below : gMI := gwrap 25 gcd_X10_below 1 2
def gcd_L_put (pc : Nat) : Option PE :=
  bif Nat.blt pc 24 then bif Nat.blt pc 11 then bif Nat.blt pc 5 then bif Nat.blt pc 2 then bif Nat.blt pc 1 then bif Nat.beq pc 0 then some (.aload_n 1, 1, 1, 0, 0, 0, 0) else none
  else bif Nat.beq pc 1 then some (.iconst 1, 2, 0, 0, 0, 1, 0) else none
  else bif Nat.blt pc 3 then bif Nat.beq pc 2 then some (.aload_n 1, 3, 1, 0, 0, 0, 0) else none
  else bif Nat.blt pc 4 then bif Nat.beq pc 3 then some (.iconst 0, 4, 0, 0, 0, 0, 0) else none
  else bif Nat.beq pc 4 then some (.iaload, 5, 0, 0, 0, 0, 0) else none
  else bif Nat.blt pc 8 then bif Nat.blt pc 7 then bif Nat.beq pc 5 then some (.bipush 20, 7, 0, 0, 0, 20, 0) else none
  else bif Nat.beq pc 7 then some (.irem, 8, 0, 0, 0, 0, 0) else none
  else bif Nat.blt pc 9 then bif Nat.beq pc 8 then some (.iconst 4, 9, 0, 0, 0, 4, 0) else none
  else bif Nat.blt pc 10 then bif Nat.beq pc 9 then some (.idiv, 10, 0, 0, 0, 0, 0) else none
  else bif Nat.beq pc 10 then some (.iadd, 11, 0, 0, 0, 0, 0) else none
  else bif Nat.blt pc 18 then bif Nat.blt pc 13 then bif Nat.blt pc 12 then bif Nat.beq pc 11 then some (.dup2, 12, 0, 0, 0, 0, 0) else none
  else bif Nat.beq pc 12 then some (.iaload, 13, 0, 0, 0, 0, 0) else none
  else bif Nat.blt pc 14 then bif Nat.beq pc 13 then some (.iload_n 2, 14, 2, 0, 0, 0, 0) else none
  else bif Nat.blt pc 16 then bif Nat.beq pc 14 then some (.bipush 24, 16, 0, 0, 0, 24, 0) else none
  else bif Nat.beq pc 16 then some (.bipush 8, 18, 0, 0, 0, 8, 0) else none
  else bif Nat.blt pc 21 then bif Nat.blt pc 19 then bif Nat.beq pc 18 then some (.aload_n 1, 19, 1, 0, 0, 0, 0) else none
  else bif Nat.blt pc 20 then bif Nat.beq pc 19 then some (.iconst 0, 20, 0, 0, 0, 0, 0) else none
  else bif Nat.beq pc 20 then some (.iaload, 21, 0, 0, 0, 0, 0) else none
  else bif Nat.blt pc 22 then bif Nat.beq pc 21 then some (.iconst 4, 22, 0, 0, 0, 4, 0) else none
  else bif Nat.blt pc 23 then bif Nat.beq pc 22 then some (.irem, 23, 0, 0, 0, 0, 0) else none
  else bif Nat.beq pc 23 then some (.imul, 24, 0, 0, 0, 0, 0) else none
  else bif Nat.blt pc 34 then bif Nat.blt pc 29 then bif Nat.blt pc 26 then bif Nat.blt pc 25 then bif Nat.beq pc 24 then some (.isub, 25, 0, 0, 0, 0, 0) else none
  else bif Nat.beq pc 25 then some (.ishl, 26, 0, 0, 0, 0, 0) else none
  else bif Nat.blt pc 27 then bif Nat.beq pc 26 then some (.ior, 27, 0, 0, 0, 0, 0) else none
  else bif Nat.blt pc 28 then bif Nat.beq pc 27 then some (.iastore, 28, 0, 0, 0, 0, 0) else none
  else bif Nat.beq pc 28 then some (.aload_n 1, 29, 1, 0, 0, 0, 0) else none
  else bif Nat.blt pc 31 then bif Nat.blt pc 30 then bif Nat.beq pc 29 then some (.iconst 0, 30, 0, 0, 0, 0, 0) else none
  else bif Nat.beq pc 30 then some (.dup2, 31, 0, 0, 0, 0, 0) else none
  else bif Nat.blt pc 32 then bif Nat.beq pc 31 then some (.iaload, 32, 0, 0, 0, 0, 0) else none
  else bif Nat.blt pc 33 then bif Nat.beq pc 32 then some (.iconst 1, 33, 0, 0, 0, 1, 0) else none
  else bif Nat.beq pc 33 then some (.iadd, 34, 0, 0, 0, 0, 0) else none
  else bif Nat.blt pc 40 then bif Nat.blt pc 36 then bif Nat.blt pc 35 then bif Nat.beq pc 34 then some (.iastore, 35, 0, 0, 0, 0, 0) else none
  else bif Nat.beq pc 35 then some (.aload_n 1, 36, 1, 0, 0, 0, 0) else none
  else bif Nat.blt pc 37 then bif Nat.beq pc 36 then some (.iconst 0, 37, 0, 0, 0, 0, 0) else none
  else bif Nat.blt pc 38 then bif Nat.beq pc 37 then some (.iaload, 38, 0, 0, 0, 0, 0) else none
  else bif Nat.beq pc 38 then some (.bipush 20, 40, 0, 0, 0, 20, 0) else none
  else bif Nat.blt pc 45 then bif Nat.blt pc 41 then bif Nat.beq pc 40 then some (.irem, 41, 0, 0, 0, 0, 0) else none
  else bif Nat.blt pc 44 then bif Nat.beq pc 41 then some (.ifCond .ne 8, 44, 49, 0, 0, 0, 0) else none
  else bif Nat.beq pc 44 then some (.aload_n 0, 45, 0, 0, 0, 0, 0) else none
  else bif Nat.blt pc 46 then bif Nat.beq pc 45 then some (.aload_n 1, 46, 1, 0, 0, 0, 0) else none
  else bif Nat.blt pc 49 then bif Nat.beq pc 46 then some (.invokestatic 7, 49, 64, 2, 99, 0, 0) else none
  else bif Nat.beq pc 49 then some (.return_, 50, 0, 0, 0, 0, 0) else none
def gmi_L_put : gMI := gwrap 50 gcd_L_put 0 3
def gcd_L_flush (pc : Nat) : Option PE :=
  bif Nat.blt pc 15 then bif Nat.blt pc 7 then bif Nat.blt pc 3 then bif Nat.blt pc 1 then bif Nat.beq pc 0 then some (.aload_n 0, 1, 0, 0, 0, 0, 0) else none
  else bif Nat.blt pc 2 then bif Nat.beq pc 1 then some (.aload_n 1, 2, 1, 0, 0, 0, 0) else none
  else bif Nat.beq pc 2 then some (.iconst 1, 3, 0, 0, 0, 1, 0) else none
  else bif Nat.blt pc 5 then bif Nat.blt pc 4 then bif Nat.beq pc 3 then some (.iaload, 4, 0, 0, 0, 0, 0) else none
  else bif Nat.beq pc 4 then some (.aload_n 1, 5, 1, 0, 0, 0, 0) else none
  else bif Nat.blt pc 6 then bif Nat.beq pc 5 then some (.iconst 2, 6, 0, 0, 0, 2, 0) else none
  else bif Nat.beq pc 6 then some (.iaload, 7, 0, 0, 0, 0, 0) else none
  else bif Nat.blt pc 11 then bif Nat.blt pc 9 then bif Nat.blt pc 8 then bif Nat.beq pc 7 then some (.aload_n 1, 8, 1, 0, 0, 0, 0) else none
  else bif Nat.beq pc 8 then some (.iconst 3, 9, 0, 0, 0, 3, 0) else none
  else bif Nat.blt pc 10 then bif Nat.beq pc 9 then some (.iaload, 10, 0, 0, 0, 0, 0) else none
  else bif Nat.beq pc 10 then some (.aload_n 1, 11, 1, 0, 0, 0, 0) else none
  else bif Nat.blt pc 13 then bif Nat.blt pc 12 then bif Nat.beq pc 11 then some (.iconst 4, 12, 0, 0, 0, 4, 0) else none
  else bif Nat.beq pc 12 then some (.iaload, 13, 0, 0, 0, 0, 0) else none
  else bif Nat.blt pc 14 then bif Nat.beq pc 13 then some (.aload_n 1, 14, 1, 0, 0, 0, 0) else none
  else bif Nat.beq pc 14 then some (.iconst 5, 15, 0, 0, 0, 5, 0) else none
  else bif Nat.blt pc 25 then bif Nat.blt pc 20 then bif Nat.blt pc 16 then bif Nat.beq pc 15 then some (.iaload, 16, 0, 0, 0, 0, 0) else none
  else bif Nat.blt pc 19 then bif Nat.beq pc 16 then some (.invokevirtual 13, 19, 69, 6, 140, 0, 0) else none
  else bif Nat.beq pc 19 then some (.pop, 20, 0, 0, 0, 0, 0) else none
  else bif Nat.blt pc 22 then bif Nat.blt pc 21 then bif Nat.beq pc 20 then some (.iconst 1, 21, 0, 0, 0, 1, 0) else none
  else bif Nat.beq pc 21 then some (.istore_n 2, 22, 2, 0, 0, 0, 0) else none
  else bif Nat.blt pc 23 then bif Nat.beq pc 22 then some (.iload_n 2, 23, 2, 0, 0, 0, 0) else none
  else bif Nat.beq pc 23 then some (.bipush 6, 25, 0, 0, 0, 6, 0) else none
  else bif Nat.blt pc 31 then bif Nat.blt pc 29 then bif Nat.blt pc 28 then bif Nat.beq pc 25 then some (.if_icmp .ge 13, 28, 38, 0, 0, 0, 0) else none
  else bif Nat.beq pc 28 then some (.aload_n 1, 29, 1, 0, 0, 0, 0) else none
  else bif Nat.blt pc 30 then bif Nat.beq pc 29 then some (.iload_n 2, 30, 2, 0, 0, 0, 0) else none
  else bif Nat.beq pc 30 then some (.iconst 0, 31, 0, 0, 0, 0, 0) else none
  else bif Nat.blt pc 35 then bif Nat.blt pc 32 then bif Nat.beq pc 31 then some (.iastore, 32, 0, 0, 0, 0, 0) else none
  else bif Nat.beq pc 32 then some (.iinc 2 1, 35, 2, 0, 0, 1, 0) else none
  else bif Nat.blt pc 38 then bif Nat.beq pc 35 then some (.goto (-13), 38, 22, 0, 0, 0, 0) else none
  else bif Nat.beq pc 38 then some (.return_, 39, 0, 0, 0, 0, 0) else none
def gmi_L_flush : gMI := gwrap 39 gcd_L_flush 0 3
def gcd_L_loadText (pc : Nat) : Option PE :=
  bif Nat.blt pc 12 then bif Nat.blt pc 4 then bif Nat.blt pc 2 then bif Nat.blt pc 1 then bif Nat.beq pc 0 then some (.aload_n 1, 1, 1, 0, 0, 0, 0) else none
  else bif Nat.beq pc 1 then some (.iconst 0, 2, 0, 0, 0, 0, 0) else none
  else bif Nat.blt pc 3 then bif Nat.beq pc 2 then some (.iaload, 3, 0, 0, 0, 0, 0) else none
  else bif Nat.beq pc 3 then some (.istore_n 2, 4, 2, 0, 0, 0, 0) else none
  else bif Nat.blt pc 7 then bif Nat.blt pc 5 then bif Nat.beq pc 4 then some (.iload_n 2, 5, 2, 0, 0, 0, 0) else none
  else bif Nat.beq pc 5 then some (.bipush 20, 7, 0, 0, 0, 20, 0) else none
  else bif Nat.blt pc 8 then bif Nat.beq pc 7 then some (.irem, 8, 0, 0, 0, 0, 0) else none
  else bif Nat.blt pc 11 then bif Nat.beq pc 8 then some (.ifCond .le 8, 11, 16, 0, 0, 0, 0) else none
  else bif Nat.beq pc 11 then some (.aload_n 0, 12, 0, 0, 0, 0, 0) else none
  else bif Nat.blt pc 19 then bif Nat.blt pc 16 then bif Nat.blt pc 13 then bif Nat.beq pc 12 then some (.aload_n 1, 13, 1, 0, 0, 0, 0) else none
  else bif Nat.beq pc 13 then some (.invokestatic 7, 16, 64, 2, 99, 0, 0) else none
  else bif Nat.blt pc 17 then bif Nat.beq pc 16 then some (.aload_n 1, 17, 1, 0, 0, 0, 0) else none
  else bif Nat.blt pc 18 then bif Nat.beq pc 17 then some (.iconst 0, 18, 0, 0, 0, 0, 0) else none
  else bif Nat.beq pc 18 then some (.iconst 0, 19, 0, 0, 0, 0, 0) else none
  else bif Nat.blt pc 21 then bif Nat.blt pc 20 then bif Nat.beq pc 19 then some (.iastore, 20, 0, 0, 0, 0, 0) else none
  else bif Nat.beq pc 20 then some (.aload_n 0, 21, 0, 0, 0, 0, 0) else none
  else bif Nat.blt pc 22 then bif Nat.beq pc 21 then some (.iload_n 2, 22, 2, 0, 0, 0, 0) else none
  else bif Nat.blt pc 25 then bif Nat.beq pc 22 then some (.invokestatic 19, 25, 104, 2, 140, 0, 0) else none
  else bif Nat.beq pc 25 then some (.ireturn, 26, 0, 0, 0, 0, 0) else none
def gmi_L_loadText : gMI := gwrap 26 gcd_L_loadText 1 3
def gcd_L_write (pc : Nat) : Option PE :=
  bif Nat.blt pc 11 then bif Nat.blt pc 3 then bif Nat.blt pc 1 then bif Nat.beq pc 0 then some (.iconst 0, 1, 0, 0, 0, 0, 0) else none
  else bif Nat.blt pc 2 then bif Nat.beq pc 1 then some (.istore_n 3, 2, 3, 0, 0, 0, 0) else none
  else bif Nat.beq pc 2 then some (.iload_n 3, 3, 3, 0, 0, 0, 0) else none
  else bif Nat.blt pc 7 then bif Nat.blt pc 4 then bif Nat.beq pc 3 then some (.aload_n 2, 4, 2, 0, 0, 0, 0) else none
  else bif Nat.beq pc 4 then some (.invokevirtual 23, 7, 6, 1, 11, 0, 0) else none
  else bif Nat.blt pc 10 then bif Nat.beq pc 7 then some (.if_icmp .ge 19, 10, 26, 0, 0, 0, 0) else none
  else bif Nat.beq pc 10 then some (.aload_n 0, 11, 0, 0, 0, 0, 0) else none
  else bif Nat.blt pc 17 then bif Nat.blt pc 13 then bif Nat.blt pc 12 then bif Nat.beq pc 11 then some (.aload_n 1, 12, 1, 0, 0, 0, 0) else none
  else bif Nat.beq pc 12 then some (.aload_n 2, 13, 2, 0, 0, 0, 0) else none
  else bif Nat.blt pc 14 then bif Nat.beq pc 13 then some (.iload_n 3, 14, 3, 0, 0, 0, 0) else none
  else bif Nat.beq pc 14 then some (.invokevirtual 29, 17, 0, 2, 11, 0, 0) else none
  else bif Nat.blt pc 23 then bif Nat.blt pc 20 then bif Nat.beq pc 17 then some (.invokestatic 33, 20, 63, 3, 99, 0, 0) else none
  else bif Nat.beq pc 20 then some (.iinc 3 1, 23, 3, 0, 0, 1, 0) else none
  else bif Nat.blt pc 26 then bif Nat.beq pc 23 then some (.goto (-21), 26, 2, 0, 0, 0, 0) else none
  else bif Nat.beq pc 26 then some (.return_, 27, 0, 0, 0, 0, 0) else none
def gmi_L_write : gMI := gwrap 27 gcd_L_write 0 4
def gcd_L_writeNumber (pc : Nat) : Option PE :=
  bif Nat.blt pc 23 then bif Nat.blt pc 10 then bif Nat.blt pc 3 then bif Nat.blt pc 1 then bif Nat.beq pc 0 then some (.iconst 1, 1, 0, 0, 0, 1, 0) else none
  else bif Nat.blt pc 2 then bif Nat.beq pc 1 then some (.istore_n 3, 2, 3, 0, 0, 0, 0) else none
  else bif Nat.beq pc 2 then some (.iload_n 3, 3, 3, 0, 0, 0, 0) else none
  else bif Nat.blt pc 6 then bif Nat.blt pc 4 then bif Nat.beq pc 3 then some (.iload_n 2, 4, 2, 0, 0, 0, 0) else none
  else bif Nat.beq pc 4 then some (.bipush 10, 6, 0, 0, 0, 10, 0) else none
  else bif Nat.blt pc 7 then bif Nat.beq pc 6 then some (.idiv, 7, 0, 0, 0, 0, 0) else none
  else bif Nat.beq pc 7 then some (.if_icmp .gt 11, 10, 18, 0, 0, 0, 0) else none
  else bif Nat.blt pc 15 then bif Nat.blt pc 13 then bif Nat.blt pc 11 then bif Nat.beq pc 10 then some (.iload_n 3, 11, 3, 0, 0, 0, 0) else none
  else bif Nat.beq pc 11 then some (.bipush 10, 13, 0, 0, 0, 10, 0) else none
  else bif Nat.blt pc 14 then bif Nat.beq pc 13 then some (.imul, 14, 0, 0, 0, 0, 0) else none
  else bif Nat.beq pc 14 then some (.istore_n 3, 15, 3, 0, 0, 0, 0) else none
  else bif Nat.blt pc 19 then bif Nat.blt pc 18 then bif Nat.beq pc 15 then some (.goto (-13), 18, 2, 0, 0, 0, 0) else none
  else bif Nat.beq pc 18 then some (.iload_n 3, 19, 3, 0, 0, 0, 0) else none
  else bif Nat.blt pc 22 then bif Nat.beq pc 19 then some (.ifCond .le 25, 22, 44, 0, 0, 0, 0) else none
  else bif Nat.beq pc 22 then some (.aload_n 0, 23, 0, 0, 0, 0, 0) else none
  else bif Nat.blt pc 32 then bif Nat.blt pc 27 then bif Nat.blt pc 24 then bif Nat.beq pc 23 then some (.aload_n 1, 24, 1, 0, 0, 0, 0) else none
  else bif Nat.blt pc 26 then bif Nat.beq pc 24 then some (.bipush 48, 26, 0, 0, 0, 48, 0) else none
  else bif Nat.beq pc 26 then some (.iload_n 2, 27, 2, 0, 0, 0, 0) else none
  else bif Nat.blt pc 29 then bif Nat.blt pc 28 then bif Nat.beq pc 27 then some (.iload_n 3, 28, 3, 0, 0, 0, 0) else none
  else bif Nat.beq pc 28 then some (.idiv, 29, 0, 0, 0, 0, 0) else none
  else bif Nat.blt pc 31 then bif Nat.beq pc 29 then some (.bipush 10, 31, 0, 0, 0, 10, 0) else none
  else bif Nat.beq pc 31 then some (.irem, 32, 0, 0, 0, 0, 0) else none
  else bif Nat.blt pc 39 then bif Nat.blt pc 36 then bif Nat.blt pc 33 then bif Nat.beq pc 32 then some (.iadd, 33, 0, 0, 0, 0, 0) else none
  else bif Nat.beq pc 33 then some (.invokestatic 33, 36, 63, 3, 99, 0, 0) else none
  else bif Nat.blt pc 37 then bif Nat.beq pc 36 then some (.iload_n 3, 37, 3, 0, 0, 0, 0) else none
  else bif Nat.beq pc 37 then some (.bipush 10, 39, 0, 0, 0, 10, 0) else none
  else bif Nat.blt pc 41 then bif Nat.blt pc 40 then bif Nat.beq pc 39 then some (.idiv, 40, 0, 0, 0, 0, 0) else none
  else bif Nat.beq pc 40 then some (.istore_n 3, 41, 3, 0, 0, 0, 0) else none
  else bif Nat.blt pc 44 then bif Nat.beq pc 41 then some (.goto (-23), 44, 18, 0, 0, 0, 0) else none
  else bif Nat.beq pc 44 then some (.return_, 45, 0, 0, 0, 0, 0) else none
def gmi_L_writeNumber : gMI := gwrap 45 gcd_L_writeNumber 0 4
def gcd_L_with (pc : Nat) : Option PE :=
  bif Nat.blt pc 17 then bif Nat.blt pc 8 then bif Nat.blt pc 3 then bif Nat.blt pc 1 then bif Nat.beq pc 0 then some (.aload_n 0, 1, 0, 0, 0, 0, 0) else none
  else bif Nat.blt pc 2 then bif Nat.beq pc 1 then some (.arraylength, 2, 0, 0, 0, 0, 0) else none
  else bif Nat.beq pc 2 then some (.iconst 1, 3, 0, 0, 0, 1, 0) else none
  else bif Nat.blt pc 4 then bif Nat.beq pc 3 then some (.iadd, 4, 0, 0, 0, 0, 0) else none
  else bif Nat.blt pc 7 then bif Nat.beq pc 4 then some (.anewarray 105, 7, 0, 0, 6, 0, 0) else none
  else bif Nat.beq pc 7 then some (.astore_n 2, 8, 2, 0, 0, 0, 0) else none
  else bif Nat.blt pc 11 then bif Nat.blt pc 9 then bif Nat.beq pc 8 then some (.iconst 0, 9, 0, 0, 0, 0, 0) else none
  else bif Nat.blt pc 10 then bif Nat.beq pc 9 then some (.istore_n 3, 10, 3, 0, 0, 0, 0) else none
  else bif Nat.beq pc 10 then some (.iload_n 3, 11, 3, 0, 0, 0, 0) else none
  else bif Nat.blt pc 13 then bif Nat.blt pc 12 then bif Nat.beq pc 11 then some (.aload_n 0, 12, 0, 0, 0, 0, 0) else none
  else bif Nat.beq pc 12 then some (.arraylength, 13, 0, 0, 0, 0, 0) else none
  else bif Nat.blt pc 16 then bif Nat.beq pc 13 then some (.if_icmp .ge 15, 16, 28, 0, 0, 0, 0) else none
  else bif Nat.beq pc 16 then some (.aload_n 2, 17, 2, 0, 0, 0, 0) else none
  else bif Nat.blt pc 28 then bif Nat.blt pc 20 then bif Nat.blt pc 18 then bif Nat.beq pc 17 then some (.iload_n 3, 18, 3, 0, 0, 0, 0) else none
  else bif Nat.blt pc 19 then bif Nat.beq pc 18 then some (.aload_n 0, 19, 0, 0, 0, 0, 0) else none
  else bif Nat.beq pc 19 then some (.iload_n 3, 20, 3, 0, 0, 0, 0) else none
  else bif Nat.blt pc 22 then bif Nat.blt pc 21 then bif Nat.beq pc 20 then some (.aaload, 21, 0, 0, 0, 0, 0) else none
  else bif Nat.beq pc 21 then some (.aastore, 22, 0, 0, 0, 0, 0) else none
  else bif Nat.blt pc 25 then bif Nat.beq pc 22 then some (.iinc 3 1, 25, 3, 0, 0, 1, 0) else none
  else bif Nat.beq pc 25 then some (.goto (-15), 28, 10, 0, 0, 0, 0) else none
  else bif Nat.blt pc 31 then bif Nat.blt pc 29 then bif Nat.beq pc 28 then some (.aload_n 2, 29, 2, 0, 0, 0, 0) else none
  else bif Nat.blt pc 30 then bif Nat.beq pc 29 then some (.aload_n 0, 30, 0, 0, 0, 0, 0) else none
  else bif Nat.beq pc 30 then some (.arraylength, 31, 0, 0, 0, 0, 0) else none
  else bif Nat.blt pc 33 then bif Nat.blt pc 32 then bif Nat.beq pc 31 then some (.aload_n 1, 32, 1, 0, 0, 0, 0) else none
  else bif Nat.beq pc 32 then some (.aastore, 33, 0, 0, 0, 0, 0) else none
  else bif Nat.blt pc 34 then bif Nat.beq pc 33 then some (.aload_n 2, 34, 2, 0, 0, 0, 0) else none
  else bif Nat.beq pc 34 then some (.areturn, 35, 0, 0, 0, 0, 0) else none
def gmi_L_with : gMI := gwrap 35 gcd_L_with 4 4
def gcd_L_inserted (pc : Nat) : Option PE :=
  bif Nat.blt pc 27 then bif Nat.blt pc 12 then bif Nat.blt pc 4 then bif Nat.blt pc 2 then bif Nat.blt pc 1 then bif Nat.beq pc 0 then some (.aload_n 0, 1, 0, 0, 0, 0, 0) else none
  else bif Nat.beq pc 1 then some (.arraylength, 2, 0, 0, 0, 0, 0) else none
  else bif Nat.blt pc 3 then bif Nat.beq pc 2 then some (.iconst 1, 3, 0, 0, 0, 1, 0) else none
  else bif Nat.beq pc 3 then some (.iadd, 4, 0, 0, 0, 0, 0) else none
  else bif Nat.blt pc 7 then bif Nat.blt pc 6 then bif Nat.beq pc 4 then some (.newarray .int, 6, 0, 0, 1, 0, 0) else none
  else bif Nat.beq pc 6 then some (.astore_n 3, 7, 3, 0, 0, 0, 0) else none
  else bif Nat.blt pc 8 then bif Nat.beq pc 7 then some (.iconst 0, 8, 0, 0, 0, 0, 0) else none
  else bif Nat.blt pc 10 then bif Nat.beq pc 8 then some (.istore 4, 10, 4, 0, 0, 0, 0) else none
  else bif Nat.beq pc 10 then some (.iload 4, 12, 4, 0, 0, 0, 0) else none
  else bif Nat.blt pc 18 then bif Nat.blt pc 14 then bif Nat.blt pc 13 then bif Nat.beq pc 12 then some (.aload_n 3, 13, 3, 0, 0, 0, 0) else none
  else bif Nat.beq pc 13 then some (.arraylength, 14, 0, 0, 0, 0, 0) else none
  else bif Nat.blt pc 17 then bif Nat.beq pc 14 then some (.if_icmp .ge 42, 17, 56, 0, 0, 0, 0) else none
  else bif Nat.beq pc 17 then some (.aload_n 3, 18, 3, 0, 0, 0, 0) else none
  else bif Nat.blt pc 22 then bif Nat.blt pc 20 then bif Nat.beq pc 18 then some (.iload 4, 20, 4, 0, 0, 0, 0) else none
  else bif Nat.beq pc 20 then some (.iload 4, 22, 4, 0, 0, 0, 0) else none
  else bif Nat.blt pc 23 then bif Nat.beq pc 22 then some (.iload_n 1, 23, 1, 0, 0, 0, 0) else none
  else bif Nat.blt pc 26 then bif Nat.beq pc 23 then some (.if_icmp .ge 10, 26, 33, 0, 0, 0, 0) else none
  else bif Nat.beq pc 26 then some (.aload_n 0, 27, 0, 0, 0, 0, 0) else none
  else bif Nat.blt pc 44 then bif Nat.blt pc 35 then bif Nat.blt pc 30 then bif Nat.blt pc 29 then bif Nat.beq pc 27 then some (.iload 4, 29, 4, 0, 0, 0, 0) else none
  else bif Nat.beq pc 29 then some (.iaload, 30, 0, 0, 0, 0, 0) else none
  else bif Nat.blt pc 33 then bif Nat.beq pc 30 then some (.goto 19, 33, 49, 0, 0, 0, 0) else none
  else bif Nat.beq pc 33 then some (.iload 4, 35, 4, 0, 0, 0, 0) else none
  else bif Nat.blt pc 39 then bif Nat.blt pc 36 then bif Nat.beq pc 35 then some (.iload_n 1, 36, 1, 0, 0, 0, 0) else none
  else bif Nat.beq pc 36 then some (.if_icmp .ne 7, 39, 43, 0, 0, 0, 0) else none
  else bif Nat.blt pc 40 then bif Nat.beq pc 39 then some (.iload_n 2, 40, 2, 0, 0, 0, 0) else none
  else bif Nat.blt pc 43 then bif Nat.beq pc 40 then some (.goto 9, 43, 49, 0, 0, 0, 0) else none
  else bif Nat.beq pc 43 then some (.aload_n 0, 44, 0, 0, 0, 0, 0) else none
  else bif Nat.blt pc 49 then bif Nat.blt pc 47 then bif Nat.blt pc 46 then bif Nat.beq pc 44 then some (.iload 4, 46, 4, 0, 0, 0, 0) else none
  else bif Nat.beq pc 46 then some (.iconst 1, 47, 0, 0, 0, 1, 0) else none
  else bif Nat.blt pc 48 then bif Nat.beq pc 47 then some (.isub, 48, 0, 0, 0, 0, 0) else none
  else bif Nat.beq pc 48 then some (.iaload, 49, 0, 0, 0, 0, 0) else none
  else bif Nat.blt pc 53 then bif Nat.blt pc 50 then bif Nat.beq pc 49 then some (.iastore, 50, 0, 0, 0, 0, 0) else none
  else bif Nat.beq pc 50 then some (.iinc 4 1, 53, 4, 0, 0, 1, 0) else none
  else bif Nat.blt pc 56 then bif Nat.beq pc 53 then some (.goto (-43), 56, 10, 0, 0, 0, 0) else none
  else bif Nat.blt pc 57 then bif Nat.beq pc 56 then some (.aload_n 3, 57, 3, 0, 0, 0, 0) else none
  else bif Nat.beq pc 57 then some (.areturn, 58, 0, 0, 0, 0, 0) else none
def gmi_L_inserted : gMI := gwrap 58 gcd_L_inserted 4 5
def gcd_L_without (pc : Nat) : Option PE :=
  bif Nat.blt pc 17 then bif Nat.blt pc 8 then bif Nat.blt pc 3 then bif Nat.blt pc 1 then bif Nat.beq pc 0 then some (.aload_n 0, 1, 0, 0, 0, 0, 0) else none
  else bif Nat.blt pc 2 then bif Nat.beq pc 1 then some (.arraylength, 2, 0, 0, 0, 0, 0) else none
  else bif Nat.beq pc 2 then some (.iconst 1, 3, 0, 0, 0, 1, 0) else none
  else bif Nat.blt pc 6 then bif Nat.blt pc 4 then bif Nat.beq pc 3 then some (.isub, 4, 0, 0, 0, 0, 0) else none
  else bif Nat.beq pc 4 then some (.newarray .int, 6, 0, 0, 1, 0, 0) else none
  else bif Nat.blt pc 7 then bif Nat.beq pc 6 then some (.astore_n 2, 7, 2, 0, 0, 0, 0) else none
  else bif Nat.beq pc 7 then some (.iconst 0, 8, 0, 0, 0, 0, 0) else none
  else bif Nat.blt pc 11 then bif Nat.blt pc 9 then bif Nat.beq pc 8 then some (.istore_n 3, 9, 3, 0, 0, 0, 0) else none
  else bif Nat.blt pc 10 then bif Nat.beq pc 9 then some (.iload_n 3, 10, 3, 0, 0, 0, 0) else none
  else bif Nat.beq pc 10 then some (.aload_n 2, 11, 2, 0, 0, 0, 0) else none
  else bif Nat.blt pc 15 then bif Nat.blt pc 12 then bif Nat.beq pc 11 then some (.arraylength, 12, 0, 0, 0, 0, 0) else none
  else bif Nat.beq pc 12 then some (.if_icmp .ge 26, 15, 38, 0, 0, 0, 0) else none
  else bif Nat.blt pc 16 then bif Nat.beq pc 15 then some (.aload_n 2, 16, 2, 0, 0, 0, 0) else none
  else bif Nat.beq pc 16 then some (.iload_n 3, 17, 3, 0, 0, 0, 0) else none
  else bif Nat.blt pc 28 then bif Nat.blt pc 20 then bif Nat.blt pc 18 then bif Nat.beq pc 17 then some (.aload_n 0, 18, 0, 0, 0, 0, 0) else none
  else bif Nat.blt pc 19 then bif Nat.beq pc 18 then some (.iload_n 3, 19, 3, 0, 0, 0, 0) else none
  else bif Nat.beq pc 19 then some (.iload_n 1, 20, 1, 0, 0, 0, 0) else none
  else bif Nat.blt pc 24 then bif Nat.blt pc 23 then bif Nat.beq pc 20 then some (.if_icmp .ge 7, 23, 27, 0, 0, 0, 0) else none
  else bif Nat.beq pc 23 then some (.iload_n 3, 24, 3, 0, 0, 0, 0) else none
  else bif Nat.blt pc 27 then bif Nat.beq pc 24 then some (.goto 6, 27, 30, 0, 0, 0, 0) else none
  else bif Nat.beq pc 27 then some (.iload_n 3, 28, 3, 0, 0, 0, 0) else none
  else bif Nat.blt pc 32 then bif Nat.blt pc 30 then bif Nat.blt pc 29 then bif Nat.beq pc 28 then some (.iconst 1, 29, 0, 0, 0, 1, 0) else none
  else bif Nat.beq pc 29 then some (.iadd, 30, 0, 0, 0, 0, 0) else none
  else bif Nat.blt pc 31 then bif Nat.beq pc 30 then some (.iaload, 31, 0, 0, 0, 0, 0) else none
  else bif Nat.beq pc 31 then some (.iastore, 32, 0, 0, 0, 0, 0) else none
  else bif Nat.blt pc 38 then bif Nat.blt pc 35 then bif Nat.beq pc 32 then some (.iinc 3 1, 35, 3, 0, 0, 1, 0) else none
  else bif Nat.beq pc 35 then some (.goto (-26), 38, 9, 0, 0, 0, 0) else none
  else bif Nat.blt pc 39 then bif Nat.beq pc 38 then some (.aload_n 2, 39, 2, 0, 0, 0, 0) else none
  else bif Nat.beq pc 39 then some (.areturn, 40, 0, 0, 0, 0, 0) else none
def gmi_L_without : gMI := gwrap 40 gcd_L_without 4 4
def gcd_L_writeNumbers (pc : Nat) : Option PE :=
  bif Nat.blt pc 28 then bif Nat.blt pc 12 then bif Nat.blt pc 6 then bif Nat.blt pc 2 then bif Nat.blt pc 1 then bif Nat.beq pc 0 then some (.aload_n 0, 1, 0, 0, 0, 0, 0) else none
  else bif Nat.beq pc 1 then some (.aload_n 1, 2, 1, 0, 0, 0, 0) else none
  else bif Nat.blt pc 3 then bif Nat.beq pc 2 then some (.aload_n 2, 3, 2, 0, 0, 0, 0) else none
  else bif Nat.beq pc 3 then some (.invokestatic 107, 6, 66, 3, 99, 0, 0) else none
  else bif Nat.blt pc 9 then bif Nat.blt pc 7 then bif Nat.beq pc 6 then some (.aload_n 3, 7, 3, 0, 0, 0, 0) else none
  else bif Nat.beq pc 7 then some (.astore 4, 9, 4, 0, 0, 0, 0) else none
  else bif Nat.blt pc 11 then bif Nat.beq pc 9 then some (.aload 4, 11, 4, 0, 0, 0, 0) else none
  else bif Nat.beq pc 11 then some (.arraylength, 12, 0, 0, 0, 0, 0) else none
  else bif Nat.blt pc 19 then bif Nat.blt pc 15 then bif Nat.blt pc 14 then bif Nat.beq pc 12 then some (.istore 5, 14, 5, 0, 0, 0, 0) else none
  else bif Nat.beq pc 14 then some (.iconst 0, 15, 0, 0, 0, 0, 0) else none
  else bif Nat.blt pc 17 then bif Nat.beq pc 15 then some (.istore 6, 17, 6, 0, 0, 0, 0) else none
  else bif Nat.beq pc 17 then some (.iload 6, 19, 6, 0, 0, 0, 0) else none
  else bif Nat.blt pc 24 then bif Nat.blt pc 21 then bif Nat.beq pc 19 then some (.iload 5, 21, 5, 0, 0, 0, 0) else none
  else bif Nat.beq pc 21 then some (.if_icmp .ge 30, 24, 51, 0, 0, 0, 0) else none
  else bif Nat.blt pc 26 then bif Nat.beq pc 24 then some (.aload 4, 26, 4, 0, 0, 0, 0) else none
  else bif Nat.beq pc 26 then some (.iload 6, 28, 6, 0, 0, 0, 0) else none
  else bif Nat.blt pc 40 then bif Nat.blt pc 33 then bif Nat.blt pc 31 then bif Nat.blt pc 29 then bif Nat.beq pc 28 then some (.iaload, 29, 0, 0, 0, 0, 0) else none
  else bif Nat.beq pc 29 then some (.istore 7, 31, 7, 0, 0, 0, 0) else none
  else bif Nat.blt pc 32 then bif Nat.beq pc 31 then some (.aload_n 0, 32, 0, 0, 0, 0, 0) else none
  else bif Nat.beq pc 32 then some (.aload_n 1, 33, 1, 0, 0, 0, 0) else none
  else bif Nat.blt pc 38 then bif Nat.blt pc 35 then bif Nat.beq pc 33 then some (.ldc 111, 35, 20, 0, 1, 0, 0) else none
  else bif Nat.beq pc 35 then some (.invokestatic 107, 38, 66, 3, 99, 0, 0) else none
  else bif Nat.blt pc 39 then bif Nat.beq pc 38 then some (.aload_n 0, 39, 0, 0, 0, 0, 0) else none
  else bif Nat.beq pc 39 then some (.aload_n 1, 40, 1, 0, 0, 0, 0) else none
  else bif Nat.blt pc 51 then bif Nat.blt pc 45 then bif Nat.blt pc 42 then bif Nat.beq pc 40 then some (.iload 7, 42, 7, 0, 0, 0, 0) else none
  else bif Nat.beq pc 42 then some (.invokestatic 113, 45, 67, 3, 99, 0, 0) else none
  else bif Nat.blt pc 48 then bif Nat.beq pc 45 then some (.iinc 6 1, 48, 6, 0, 0, 1, 0) else none
  else bif Nat.beq pc 48 then some (.goto (-31), 51, 17, 0, 0, 0, 0) else none
  else bif Nat.blt pc 53 then bif Nat.blt pc 52 then bif Nat.beq pc 51 then some (.aload_n 0, 52, 0, 0, 0, 0, 0) else none
  else bif Nat.beq pc 52 then some (.aload_n 1, 53, 1, 0, 0, 0, 0) else none
  else bif Nat.blt pc 55 then bif Nat.beq pc 53 then some (.ldc 116, 55, 22, 0, 1, 0, 0) else none
  else bif Nat.blt pc 58 then bif Nat.beq pc 55 then some (.invokestatic 107, 58, 66, 3, 99, 0, 0) else none
  else bif Nat.beq pc 58 then some (.return_, 59, 0, 0, 0, 0, 0) else none
def gmi_L_writeNumbers : gMI := gwrap 59 gcd_L_writeNumbers 0 8
def gcd_L_randomCity (pc : Nat) : Option PE :=
  bif Nat.blt pc 249 then bif Nat.blt pc 125 then bif Nat.blt pc 64 then bif Nat.blt pc 30 then bif Nat.blt pc 14 then bif Nat.blt pc 9 then bif Nat.blt pc 4 then bif Nat.blt pc 3 then bif Nat.beq pc 0 then some (.new 118, 3, 8, 0, 0, 0, 0) else none
  else bif Nat.beq pc 3 then some (.dup, 4, 0, 0, 0, 0, 0) else none
  else bif Nat.blt pc 7 then bif Nat.beq pc 4 then some (.invokespecial 120, 7, 30, 1, 98, 0, 0) else none
  else bif Nat.beq pc 7 then some (.astore 4, 9, 4, 0, 0, 0, 0) else none
  else bif Nat.blt pc 12 then bif Nat.blt pc 11 then bif Nat.beq pc 9 then some (.aload 4, 11, 4, 0, 0, 0, 0) else none
  else bif Nat.beq pc 11 then some (.iconst 2, 12, 0, 0, 0, 2, 0) else none
  else bif Nat.blt pc 13 then bif Nat.beq pc 12 then some (.aload_n 2, 13, 2, 0, 0, 0, 0) else none
  else bif Nat.beq pc 13 then some (.iconst 5, 14, 0, 0, 0, 5, 0) else none
  else bif Nat.blt pc 23 then bif Nat.blt pc 18 then bif Nat.blt pc 17 then bif Nat.beq pc 14 then some (.invokevirtual 121, 17, 62, 2, 10, 0, 0) else none
  else bif Nat.beq pc 17 then some (.iadd, 18, 0, 0, 0, 0, 0) else none
  else bif Nat.blt pc 21 then bif Nat.beq pc 18 then some (.putfield 126, 21, 8, 0, 0, 0, 0) else none
  else bif Nat.beq pc 21 then some (.aload 4, 23, 4, 0, 0, 0, 0) else none
  else bif Nat.blt pc 25 then bif Nat.blt pc 24 then bif Nat.beq pc 23 then some (.iconst 1, 24, 0, 0, 0, 1, 0) else none
  else bif Nat.beq pc 24 then some (.aload_n 2, 25, 2, 0, 0, 0, 0) else none
  else bif Nat.blt pc 26 then bif Nat.beq pc 25 then some (.aload_n 2, 26, 2, 0, 0, 0, 0) else none
  else bif Nat.blt pc 27 then bif Nat.beq pc 26 then some (.iconst 2, 27, 0, 0, 0, 2, 0) else none
  else bif Nat.beq pc 27 then some (.invokevirtual 121, 30, 62, 2, 10, 0, 0) else none
  else bif Nat.blt pc 50 then bif Nat.blt pc 42 then bif Nat.blt pc 36 then bif Nat.blt pc 33 then bif Nat.beq pc 30 then some (.ifCond .ne 9, 33, 39, 0, 0, 0, 0) else none
  else bif Nat.beq pc 33 then some (.sipush 999, 36, 0, 0, 0, 999, 0) else none
  else bif Nat.blt pc 39 then bif Nat.beq pc 36 then some (.goto 6, 39, 42, 0, 0, 0, 0) else none
  else bif Nat.beq pc 39 then some (.sipush 150, 42, 0, 0, 0, 150, 0) else none
  else bif Nat.blt pc 46 then bif Nat.blt pc 45 then bif Nat.beq pc 42 then some (.invokevirtual 121, 45, 62, 2, 10, 0, 0) else none
  else bif Nat.beq pc 45 then some (.iadd, 46, 0, 0, 0, 0, 0) else none
  else bif Nat.blt pc 49 then bif Nat.beq pc 46 then some (.putfield 130, 49, 8, 1, 0, 0, 0) else none
  else bif Nat.beq pc 49 then some (.aload_n 0, 50, 0, 0, 0, 0, 0) else none
  else bif Nat.blt pc 56 then bif Nat.blt pc 53 then bif Nat.blt pc 51 then bif Nat.beq pc 50 then some (.aload_n 1, 51, 1, 0, 0, 0, 0) else none
  else bif Nat.beq pc 51 then some (.ldc 133, 53, 10, 0, 1, 0, 0) else none
  else bif Nat.blt pc 54 then bif Nat.beq pc 53 then some (.iconst 2, 54, 0, 0, 0, 2, 0) else none
  else bif Nat.beq pc 54 then some (.newarray .int, 56, 0, 0, 1, 0, 0) else none
  else bif Nat.blt pc 58 then bif Nat.blt pc 57 then bif Nat.beq pc 56 then some (.dup, 57, 0, 0, 0, 0, 0) else none
  else bif Nat.beq pc 57 then some (.iconst 0, 58, 0, 0, 0, 0, 0) else none
  else bif Nat.blt pc 60 then bif Nat.beq pc 58 then some (.aload 4, 60, 4, 0, 0, 0, 0) else none
  else bif Nat.blt pc 63 then bif Nat.beq pc 60 then some (.getfield 126, 63, 8, 0, 0, 0, 0) else none
  else bif Nat.beq pc 63 then some (.iastore, 64, 0, 0, 0, 0, 0) else none
  else bif Nat.blt pc 95 then bif Nat.blt pc 77 then bif Nat.blt pc 71 then bif Nat.blt pc 66 then bif Nat.blt pc 65 then bif Nat.beq pc 64 then some (.dup, 65, 0, 0, 0, 0, 0) else none
  else bif Nat.beq pc 65 then some (.iconst 1, 66, 0, 0, 0, 1, 0) else none
  else bif Nat.blt pc 68 then bif Nat.beq pc 66 then some (.aload 4, 68, 4, 0, 0, 0, 0) else none
  else bif Nat.beq pc 68 then some (.getfield 130, 71, 8, 1, 0, 0, 0) else none
  else bif Nat.blt pc 75 then bif Nat.blt pc 72 then bif Nat.beq pc 71 then some (.iastore, 72, 0, 0, 0, 0, 0) else none
  else bif Nat.beq pc 72 then some (.invokestatic 135, 75, 71, 4, 99, 0, 0) else none
  else bif Nat.blt pc 76 then bif Nat.beq pc 75 then some (.iconst 1, 76, 0, 0, 0, 1, 0) else none
  else bif Nat.beq pc 76 then some (.aload_n 2, 77, 2, 0, 0, 0, 0) else none
  else bif Nat.blt pc 84 then bif Nat.blt pc 81 then bif Nat.blt pc 78 then bif Nat.beq pc 77 then some (.iload_n 3, 78, 3, 0, 0, 0, 0) else none
  else bif Nat.beq pc 78 then some (.invokevirtual 121, 81, 62, 2, 10, 0, 0) else none
  else bif Nat.blt pc 82 then bif Nat.beq pc 81 then some (.iadd, 82, 0, 0, 0, 0, 0) else none
  else bif Nat.beq pc 82 then some (.istore 5, 84, 5, 0, 0, 0, 0) else none
  else bif Nat.blt pc 89 then bif Nat.blt pc 86 then bif Nat.beq pc 84 then some (.iload 5, 86, 5, 0, 0, 0, 0) else none
  else bif Nat.beq pc 86 then some (.ifCond .le 126, 89, 212, 0, 0, 0, 0) else none
  else bif Nat.blt pc 90 then bif Nat.beq pc 89 then some (.aload_n 2, 90, 2, 0, 0, 0, 0) else none
  else bif Nat.blt pc 92 then bif Nat.beq pc 90 then some (.aload 4, 92, 4, 0, 0, 0, 0) else none
  else bif Nat.beq pc 92 then some (.getfield 126, 95, 8, 0, 0, 0, 0) else none
  else bif Nat.blt pc 110 then bif Nat.blt pc 103 then bif Nat.blt pc 100 then bif Nat.blt pc 98 then bif Nat.beq pc 95 then some (.invokevirtual 121, 98, 62, 2, 10, 0, 0) else none
  else bif Nat.beq pc 98 then some (.istore 6, 100, 6, 0, 0, 0, 0) else none
  else bif Nat.blt pc 102 then bif Nat.beq pc 100 then some (.iload 6, 102, 6, 0, 0, 0, 0) else none
  else bif Nat.beq pc 102 then some (.iconst 1, 103, 0, 0, 0, 1, 0) else none
  else bif Nat.blt pc 105 then bif Nat.blt pc 104 then bif Nat.beq pc 103 then some (.iadd, 104, 0, 0, 0, 0, 0) else none
  else bif Nat.beq pc 104 then some (.aload_n 2, 105, 2, 0, 0, 0, 0) else none
  else bif Nat.blt pc 107 then bif Nat.beq pc 105 then some (.aload 4, 107, 4, 0, 0, 0, 0) else none
  else bif Nat.beq pc 107 then some (.getfield 126, 110, 8, 0, 0, 0, 0) else none
  else bif Nat.blt pc 116 then bif Nat.blt pc 112 then bif Nat.blt pc 111 then bif Nat.beq pc 110 then some (.iconst 1, 111, 0, 0, 0, 1, 0) else none
  else bif Nat.beq pc 111 then some (.isub, 112, 0, 0, 0, 0, 0) else none
  else bif Nat.blt pc 115 then bif Nat.beq pc 112 then some (.invokevirtual 121, 115, 62, 2, 10, 0, 0) else none
  else bif Nat.beq pc 115 then some (.iadd, 116, 0, 0, 0, 0, 0) else none
  else bif Nat.blt pc 121 then bif Nat.blt pc 118 then bif Nat.beq pc 116 then some (.aload 4, 118, 4, 0, 0, 0, 0) else none
  else bif Nat.beq pc 118 then some (.getfield 126, 121, 8, 0, 0, 0, 0) else none
  else bif Nat.blt pc 122 then bif Nat.beq pc 121 then some (.irem, 122, 0, 0, 0, 0, 0) else none
  else bif Nat.blt pc 124 then bif Nat.beq pc 122 then some (.istore 7, 124, 7, 0, 0, 0, 0) else none
  else bif Nat.beq pc 124 then some (.iconst 5, 125, 0, 0, 0, 5, 0) else none
  else bif Nat.blt pc 174 then bif Nat.blt pc 148 then bif Nat.blt pc 136 then bif Nat.blt pc 131 then bif Nat.blt pc 128 then bif Nat.blt pc 127 then bif Nat.beq pc 125 then some (.newarray .int, 127, 0, 0, 1, 0, 0) else none
  else bif Nat.beq pc 127 then some (.dup, 128, 0, 0, 0, 0, 0) else none
  else bif Nat.blt pc 129 then bif Nat.beq pc 128 then some (.iconst 0, 129, 0, 0, 0, 0, 0) else none
  else bif Nat.beq pc 129 then some (.iload 6, 131, 6, 0, 0, 0, 0) else none
  else bif Nat.blt pc 133 then bif Nat.blt pc 132 then bif Nat.beq pc 131 then some (.iastore, 132, 0, 0, 0, 0, 0) else none
  else bif Nat.beq pc 132 then some (.dup, 133, 0, 0, 0, 0, 0) else none
  else bif Nat.blt pc 134 then bif Nat.beq pc 133 then some (.iconst 1, 134, 0, 0, 0, 1, 0) else none
  else bif Nat.beq pc 134 then some (.iload 7, 136, 7, 0, 0, 0, 0) else none
  else bif Nat.blt pc 140 then bif Nat.blt pc 138 then bif Nat.blt pc 137 then bif Nat.beq pc 136 then some (.iastore, 137, 0, 0, 0, 0, 0) else none
  else bif Nat.beq pc 137 then some (.dup, 138, 0, 0, 0, 0, 0) else none
  else bif Nat.blt pc 139 then bif Nat.beq pc 138 then some (.iconst 2, 139, 0, 0, 0, 2, 0) else none
  else bif Nat.beq pc 139 then some (.iconst 1, 140, 0, 0, 0, 1, 0) else none
  else bif Nat.blt pc 143 then bif Nat.blt pc 141 then bif Nat.beq pc 140 then some (.aload_n 2, 141, 2, 0, 0, 0, 0) else none
  else bif Nat.beq pc 141 then some (.bipush 99, 143, 0, 0, 0, 99, 0) else none
  else bif Nat.blt pc 146 then bif Nat.beq pc 143 then some (.invokevirtual 121, 146, 62, 2, 10, 0, 0) else none
  else bif Nat.blt pc 147 then bif Nat.beq pc 146 then some (.iadd, 147, 0, 0, 0, 0, 0) else none
  else bif Nat.beq pc 147 then some (.iastore, 148, 0, 0, 0, 0, 0) else none
  else bif Nat.blt pc 159 then bif Nat.blt pc 152 then bif Nat.blt pc 150 then bif Nat.blt pc 149 then bif Nat.beq pc 148 then some (.dup, 149, 0, 0, 0, 0, 0) else none
  else bif Nat.beq pc 149 then some (.iconst 3, 150, 0, 0, 0, 3, 0) else none
  else bif Nat.blt pc 151 then bif Nat.beq pc 150 then some (.iconst 1, 151, 0, 0, 0, 1, 0) else none
  else bif Nat.beq pc 151 then some (.aload_n 2, 152, 2, 0, 0, 0, 0) else none
  else bif Nat.blt pc 157 then bif Nat.blt pc 154 then bif Nat.beq pc 152 then some (.bipush 99, 154, 0, 0, 0, 99, 0) else none
  else bif Nat.beq pc 154 then some (.invokevirtual 121, 157, 62, 2, 10, 0, 0) else none
  else bif Nat.blt pc 158 then bif Nat.beq pc 157 then some (.iadd, 158, 0, 0, 0, 0, 0) else none
  else bif Nat.beq pc 158 then some (.iastore, 159, 0, 0, 0, 0, 0) else none
  else bif Nat.blt pc 163 then bif Nat.blt pc 161 then bif Nat.blt pc 160 then bif Nat.beq pc 159 then some (.dup, 160, 0, 0, 0, 0, 0) else none
  else bif Nat.beq pc 160 then some (.iconst 4, 161, 0, 0, 0, 4, 0) else none
  else bif Nat.blt pc 162 then bif Nat.beq pc 161 then some (.aload_n 2, 162, 2, 0, 0, 0, 0) else none
  else bif Nat.beq pc 162 then some (.iconst 4, 163, 0, 0, 0, 4, 0) else none
  else bif Nat.blt pc 169 then bif Nat.blt pc 166 then bif Nat.beq pc 163 then some (.invokevirtual 121, 166, 62, 2, 10, 0, 0) else none
  else bif Nat.beq pc 166 then some (.ifCond .ne 7, 169, 173, 0, 0, 0, 0) else none
  else bif Nat.blt pc 170 then bif Nat.beq pc 169 then some (.iconst 0, 170, 0, 0, 0, 0, 0) else none
  else bif Nat.blt pc 173 then bif Nat.beq pc 170 then some (.goto 9, 173, 179, 0, 0, 0, 0) else none
  else bif Nat.beq pc 173 then some (.aload_n 2, 174, 2, 0, 0, 0, 0) else none
  else bif Nat.blt pc 212 then bif Nat.blt pc 191 then bif Nat.blt pc 182 then bif Nat.blt pc 179 then bif Nat.blt pc 176 then bif Nat.beq pc 174 then some (.bipush 100, 176, 0, 0, 0, 100, 0) else none
  else bif Nat.beq pc 176 then some (.invokevirtual 121, 179, 62, 2, 10, 0, 0) else none
  else bif Nat.blt pc 180 then bif Nat.beq pc 179 then some (.iastore, 180, 0, 0, 0, 0, 0) else none
  else bif Nat.beq pc 180 then some (.astore 8, 182, 8, 0, 0, 0, 0) else none
  else bif Nat.blt pc 186 then bif Nat.blt pc 184 then bif Nat.beq pc 182 then some (.aload 4, 184, 4, 0, 0, 0, 0) else none
  else bif Nat.beq pc 184 then some (.aload 4, 186, 4, 0, 0, 0, 0) else none
  else bif Nat.blt pc 189 then bif Nat.beq pc 186 then some (.getfield 139, 189, 8, 3, 2, 0, 0) else none
  else bif Nat.beq pc 189 then some (.aload 8, 191, 8, 0, 0, 0, 0) else none
  else bif Nat.blt pc 199 then bif Nat.blt pc 197 then bif Nat.blt pc 194 then bif Nat.beq pc 191 then some (.invokestatic 143, 194, 68, 2, 99, 0, 0) else none
  else bif Nat.beq pc 194 then some (.putfield 139, 197, 8, 3, 2, 0, 0) else none
  else bif Nat.blt pc 198 then bif Nat.beq pc 197 then some (.aload_n 0, 198, 0, 0, 0, 0, 0) else none
  else bif Nat.beq pc 198 then some (.aload_n 1, 199, 1, 0, 0, 0, 0) else none
  else bif Nat.blt pc 203 then bif Nat.blt pc 201 then bif Nat.beq pc 199 then some (.ldc 147, 201, 12, 0, 1, 0, 0) else none
  else bif Nat.beq pc 201 then some (.aload 8, 203, 8, 0, 0, 0, 0) else none
  else bif Nat.blt pc 206 then bif Nat.beq pc 203 then some (.invokestatic 135, 206, 71, 4, 99, 0, 0) else none
  else bif Nat.blt pc 209 then bif Nat.beq pc 206 then some (.iinc 5 (-1), 209, 5, 0, 1, 1, 0) else none
  else bif Nat.beq pc 209 then some (.goto (-125), 212, 84, 0, 0, 0, 0) else none
  else bif Nat.blt pc 231 then bif Nat.blt pc 220 then bif Nat.blt pc 215 then bif Nat.blt pc 213 then bif Nat.beq pc 212 then some (.aload_n 2, 213, 2, 0, 0, 0, 0) else none
  else bif Nat.beq pc 213 then some (.bipush 9, 215, 0, 0, 0, 9, 0) else none
  else bif Nat.blt pc 218 then bif Nat.beq pc 215 then some (.invokevirtual 121, 218, 62, 2, 10, 0, 0) else none
  else bif Nat.beq pc 218 then some (.istore 5, 220, 5, 0, 0, 0, 0) else none
  else bif Nat.blt pc 225 then bif Nat.blt pc 222 then bif Nat.beq pc 220 then some (.iload 5, 222, 5, 0, 0, 0, 0) else none
  else bif Nat.beq pc 222 then some (.ifCond .le 138, 225, 360, 0, 0, 0, 0) else none
  else bif Nat.blt pc 226 then bif Nat.beq pc 225 then some (.aload_n 2, 226, 2, 0, 0, 0, 0) else none
  else bif Nat.blt pc 228 then bif Nat.beq pc 226 then some (.aload 4, 228, 4, 0, 0, 0, 0) else none
  else bif Nat.beq pc 228 then some (.getfield 139, 231, 8, 3, 2, 0, 0) else none
  else bif Nat.blt pc 238 then bif Nat.blt pc 235 then bif Nat.blt pc 232 then bif Nat.beq pc 231 then some (.arraylength, 232, 0, 0, 0, 0, 0) else none
  else bif Nat.beq pc 232 then some (.invokevirtual 121, 235, 62, 2, 10, 0, 0) else none
  else bif Nat.blt pc 237 then bif Nat.beq pc 235 then some (.istore 6, 237, 6, 0, 0, 0, 0) else none
  else bif Nat.beq pc 237 then some (.aload_n 2, 238, 2, 0, 0, 0, 0) else none
  else bif Nat.blt pc 243 then bif Nat.blt pc 240 then bif Nat.beq pc 238 then some (.aload 4, 240, 4, 0, 0, 0, 0) else none
  else bif Nat.beq pc 240 then some (.getfield 139, 243, 8, 3, 2, 0, 0) else none
  else bif Nat.blt pc 244 then bif Nat.beq pc 243 then some (.arraylength, 244, 0, 0, 0, 0, 0) else none
  else bif Nat.blt pc 247 then bif Nat.beq pc 244 then some (.invokevirtual 121, 247, 62, 2, 10, 0, 0) else none
  else bif Nat.beq pc 247 then some (.istore 7, 249, 7, 0, 0, 0, 0) else none
  else bif Nat.blt pc 366 then bif Nat.blt pc 312 then bif Nat.blt pc 280 then bif Nat.blt pc 263 then bif Nat.blt pc 257 then bif Nat.blt pc 254 then bif Nat.blt pc 251 then bif Nat.beq pc 249 then some (.aload 4, 251, 4, 0, 0, 0, 0) else none
  else bif Nat.beq pc 251 then some (.getfield 139, 254, 8, 3, 2, 0, 0) else none
  else bif Nat.blt pc 256 then bif Nat.beq pc 254 then some (.iload 6, 256, 6, 0, 0, 0, 0) else none
  else bif Nat.beq pc 256 then some (.aaload, 257, 0, 0, 0, 0, 0) else none
  else bif Nat.blt pc 259 then bif Nat.blt pc 258 then bif Nat.beq pc 257 then some (.aload_n 2, 258, 2, 0, 0, 0, 0) else none
  else bif Nat.beq pc 258 then some (.iconst 2, 259, 0, 0, 0, 2, 0) else none
  else bif Nat.blt pc 262 then bif Nat.beq pc 259 then some (.invokevirtual 121, 262, 62, 2, 10, 0, 0) else none
  else bif Nat.beq pc 262 then some (.iaload, 263, 0, 0, 0, 0, 0) else none
  else bif Nat.blt pc 272 then bif Nat.blt pc 267 then bif Nat.blt pc 265 then bif Nat.beq pc 263 then some (.istore 8, 265, 8, 0, 0, 0, 0) else none
  else bif Nat.beq pc 265 then some (.aload 4, 267, 4, 0, 0, 0, 0) else none
  else bif Nat.blt pc 270 then bif Nat.beq pc 267 then some (.getfield 139, 270, 8, 3, 2, 0, 0) else none
  else bif Nat.beq pc 270 then some (.iload 7, 272, 7, 0, 0, 0, 0) else none
  else bif Nat.blt pc 274 then bif Nat.blt pc 273 then bif Nat.beq pc 272 then some (.aaload, 273, 0, 0, 0, 0, 0) else none
  else bif Nat.beq pc 273 then some (.iconst 0, 274, 0, 0, 0, 0, 0) else none
  else bif Nat.blt pc 275 then bif Nat.beq pc 274 then some (.iaload, 275, 0, 0, 0, 0, 0) else none
  else bif Nat.blt pc 277 then bif Nat.beq pc 275 then some (.iload 8, 277, 8, 0, 0, 0, 0) else none
  else bif Nat.beq pc 277 then some (.if_icmp .eq 21, 280, 298, 0, 0, 0, 0) else none
  else bif Nat.blt pc 295 then bif Nat.blt pc 288 then bif Nat.blt pc 285 then bif Nat.blt pc 282 then bif Nat.beq pc 280 then some (.aload 4, 282, 4, 0, 0, 0, 0) else none
  else bif Nat.beq pc 282 then some (.getfield 139, 285, 8, 3, 2, 0, 0) else none
  else bif Nat.blt pc 287 then bif Nat.beq pc 285 then some (.iload 7, 287, 7, 0, 0, 0, 0) else none
  else bif Nat.beq pc 287 then some (.aaload, 288, 0, 0, 0, 0, 0) else none
  else bif Nat.blt pc 290 then bif Nat.blt pc 289 then bif Nat.beq pc 288 then some (.iconst 1, 289, 0, 0, 0, 1, 0) else none
  else bif Nat.beq pc 289 then some (.iaload, 290, 0, 0, 0, 0, 0) else none
  else bif Nat.blt pc 292 then bif Nat.beq pc 290 then some (.iload 8, 292, 8, 0, 0, 0, 0) else none
  else bif Nat.beq pc 292 then some (.if_icmp .eq 6, 295, 298, 0, 0, 0, 0) else none
  else bif Nat.blt pc 305 then bif Nat.blt pc 300 then bif Nat.blt pc 298 then bif Nat.beq pc 295 then some (.goto 59, 298, 354, 0, 0, 0, 0) else none
  else bif Nat.beq pc 298 then some (.aload 4, 300, 4, 0, 0, 0, 0) else none
  else bif Nat.blt pc 302 then bif Nat.beq pc 300 then some (.aload 4, 302, 4, 0, 0, 0, 0) else none
  else bif Nat.beq pc 302 then some (.getfield 149, 305, 8, 4, 2, 0, 0) else none
  else bif Nat.blt pc 308 then bif Nat.blt pc 306 then bif Nat.beq pc 305 then some (.iconst 3, 306, 0, 0, 0, 3, 0) else none
  else bif Nat.beq pc 306 then some (.newarray .int, 308, 0, 0, 1, 0, 0) else none
  else bif Nat.blt pc 309 then bif Nat.beq pc 308 then some (.dup, 309, 0, 0, 0, 0, 0) else none
  else bif Nat.blt pc 310 then bif Nat.beq pc 309 then some (.iconst 0, 310, 0, 0, 0, 0, 0) else none
  else bif Nat.beq pc 310 then some (.iload 8, 312, 8, 0, 0, 0, 0) else none
  else bif Nat.blt pc 337 then bif Nat.blt pc 322 then bif Nat.blt pc 317 then bif Nat.blt pc 314 then bif Nat.blt pc 313 then bif Nat.beq pc 312 then some (.iastore, 313, 0, 0, 0, 0, 0) else none
  else bif Nat.beq pc 313 then some (.dup, 314, 0, 0, 0, 0, 0) else none
  else bif Nat.blt pc 315 then bif Nat.beq pc 314 then some (.iconst 1, 315, 0, 0, 0, 1, 0) else none
  else bif Nat.beq pc 315 then some (.iload 6, 317, 6, 0, 0, 0, 0) else none
  else bif Nat.blt pc 319 then bif Nat.blt pc 318 then bif Nat.beq pc 317 then some (.iastore, 318, 0, 0, 0, 0, 0) else none
  else bif Nat.beq pc 318 then some (.dup, 319, 0, 0, 0, 0, 0) else none
  else bif Nat.blt pc 320 then bif Nat.beq pc 319 then some (.iconst 2, 320, 0, 0, 0, 2, 0) else none
  else bif Nat.beq pc 320 then some (.iload 7, 322, 7, 0, 0, 0, 0) else none
  else bif Nat.blt pc 330 then bif Nat.blt pc 326 then bif Nat.blt pc 323 then bif Nat.beq pc 322 then some (.iastore, 323, 0, 0, 0, 0, 0) else none
  else bif Nat.beq pc 323 then some (.invokestatic 143, 326, 68, 2, 99, 0, 0) else none
  else bif Nat.blt pc 329 then bif Nat.beq pc 326 then some (.putfield 149, 329, 8, 4, 2, 0, 0) else none
  else bif Nat.beq pc 329 then some (.aload_n 0, 330, 0, 0, 0, 0, 0) else none
  else bif Nat.blt pc 333 then bif Nat.blt pc 331 then bif Nat.beq pc 330 then some (.aload_n 1, 331, 1, 0, 0, 0, 0) else none
  else bif Nat.beq pc 331 then some (.ldc 152, 333, 14, 0, 1, 0, 0) else none
  else bif Nat.blt pc 334 then bif Nat.beq pc 333 then some (.iconst 3, 334, 0, 0, 0, 3, 0) else none
  else bif Nat.blt pc 336 then bif Nat.beq pc 334 then some (.newarray .int, 336, 0, 0, 1, 0, 0) else none
  else bif Nat.beq pc 336 then some (.dup, 337, 0, 0, 0, 0, 0) else none
  else bif Nat.blt pc 348 then bif Nat.blt pc 342 then bif Nat.blt pc 340 then bif Nat.blt pc 338 then bif Nat.beq pc 337 then some (.iconst 0, 338, 0, 0, 0, 0, 0) else none
  else bif Nat.beq pc 338 then some (.iload 8, 340, 8, 0, 0, 0, 0) else none
  else bif Nat.blt pc 341 then bif Nat.beq pc 340 then some (.iastore, 341, 0, 0, 0, 0, 0) else none
  else bif Nat.beq pc 341 then some (.dup, 342, 0, 0, 0, 0, 0) else none
  else bif Nat.blt pc 345 then bif Nat.blt pc 343 then bif Nat.beq pc 342 then some (.iconst 1, 343, 0, 0, 0, 1, 0) else none
  else bif Nat.beq pc 343 then some (.iload 6, 345, 6, 0, 0, 0, 0) else none
  else bif Nat.blt pc 346 then bif Nat.beq pc 345 then some (.iastore, 346, 0, 0, 0, 0, 0) else none
  else bif Nat.blt pc 347 then bif Nat.beq pc 346 then some (.dup, 347, 0, 0, 0, 0, 0) else none
  else bif Nat.beq pc 347 then some (.iconst 2, 348, 0, 0, 0, 2, 0) else none
  else bif Nat.blt pc 357 then bif Nat.blt pc 351 then bif Nat.blt pc 350 then bif Nat.beq pc 348 then some (.iload 7, 350, 7, 0, 0, 0, 0) else none
  else bif Nat.beq pc 350 then some (.iastore, 351, 0, 0, 0, 0, 0) else none
  else bif Nat.blt pc 354 then bif Nat.beq pc 351 then some (.invokestatic 135, 354, 71, 4, 99, 0, 0) else none
  else bif Nat.beq pc 354 then some (.iinc 5 (-1), 357, 5, 0, 1, 1, 0) else none
  else bif Nat.blt pc 361 then bif Nat.blt pc 360 then bif Nat.beq pc 357 then some (.goto (-137), 360, 220, 0, 0, 0, 0) else none
  else bif Nat.beq pc 360 then some (.iconst 1, 361, 0, 0, 0, 1, 0) else none
  else bif Nat.blt pc 362 then bif Nat.beq pc 361 then some (.aload_n 2, 362, 2, 0, 0, 0, 0) else none
  else bif Nat.blt pc 363 then bif Nat.beq pc 362 then some (.iconst 3, 363, 0, 0, 0, 3, 0) else none
  else bif Nat.beq pc 363 then some (.invokevirtual 121, 366, 62, 2, 10, 0, 0) else none
  else bif Nat.blt pc 435 then bif Nat.blt pc 403 then bif Nat.blt pc 383 then bif Nat.blt pc 374 then bif Nat.blt pc 369 then bif Nat.blt pc 367 then bif Nat.beq pc 366 then some (.iadd, 367, 0, 0, 0, 0, 0) else none
  else bif Nat.beq pc 367 then some (.istore 5, 369, 5, 0, 0, 0, 0) else none
  else bif Nat.blt pc 371 then bif Nat.beq pc 369 then some (.iload 5, 371, 5, 0, 0, 0, 0) else none
  else bif Nat.beq pc 371 then some (.ifCond .le 56, 374, 427, 0, 0, 0, 0) else none
  else bif Nat.blt pc 377 then bif Nat.blt pc 375 then bif Nat.beq pc 374 then some (.aload_n 2, 375, 2, 0, 0, 0, 0) else none
  else bif Nat.beq pc 375 then some (.aload 4, 377, 4, 0, 0, 0, 0) else none
  else bif Nat.blt pc 380 then bif Nat.beq pc 377 then some (.getfield 126, 380, 8, 0, 0, 0, 0) else none
  else bif Nat.beq pc 380 then some (.invokevirtual 121, 383, 62, 2, 10, 0, 0) else none
  else bif Nat.blt pc 392 then bif Nat.blt pc 387 then bif Nat.blt pc 385 then bif Nat.beq pc 383 then some (.istore 6, 385, 6, 0, 0, 0, 0) else none
  else bif Nat.beq pc 385 then some (.aload 4, 387, 4, 0, 0, 0, 0) else none
  else bif Nat.blt pc 389 then bif Nat.beq pc 387 then some (.aload 4, 389, 4, 0, 0, 0, 0) else none
  else bif Nat.beq pc 389 then some (.getfield 154, 392, 8, 5, 2, 0, 0) else none
  else bif Nat.blt pc 397 then bif Nat.blt pc 394 then bif Nat.beq pc 392 then some (.aload 4, 394, 4, 0, 0, 0, 0) else none
  else bif Nat.beq pc 394 then some (.getfield 154, 397, 8, 5, 2, 0, 0) else none
  else bif Nat.blt pc 398 then bif Nat.beq pc 397 then some (.arraylength, 398, 0, 0, 0, 0, 0) else none
  else bif Nat.blt pc 400 then bif Nat.beq pc 398 then some (.iload 6, 400, 6, 0, 0, 0, 0) else none
  else bif Nat.beq pc 400 then some (.invokestatic 157, 403, 69, 3, 99, 0, 0) else none
  else bif Nat.blt pc 415 then bif Nat.blt pc 410 then bif Nat.blt pc 407 then bif Nat.blt pc 406 then bif Nat.beq pc 403 then some (.putfield 154, 406, 8, 5, 2, 0, 0) else none
  else bif Nat.beq pc 406 then some (.aload_n 0, 407, 0, 0, 0, 0, 0) else none
  else bif Nat.blt pc 408 then bif Nat.beq pc 407 then some (.aload_n 1, 408, 1, 0, 0, 0, 0) else none
  else bif Nat.beq pc 408 then some (.ldc 161, 410, 16, 0, 1, 0, 0) else none
  else bif Nat.blt pc 413 then bif Nat.blt pc 411 then bif Nat.beq pc 410 then some (.iconst 1, 411, 0, 0, 0, 1, 0) else none
  else bif Nat.beq pc 411 then some (.newarray .int, 413, 0, 0, 1, 0, 0) else none
  else bif Nat.blt pc 414 then bif Nat.beq pc 413 then some (.dup, 414, 0, 0, 0, 0, 0) else none
  else bif Nat.beq pc 414 then some (.iconst 0, 415, 0, 0, 0, 0, 0) else none
  else bif Nat.blt pc 424 then bif Nat.blt pc 418 then bif Nat.blt pc 417 then bif Nat.beq pc 415 then some (.iload 6, 417, 6, 0, 0, 0, 0) else none
  else bif Nat.beq pc 417 then some (.iastore, 418, 0, 0, 0, 0, 0) else none
  else bif Nat.blt pc 421 then bif Nat.beq pc 418 then some (.invokestatic 135, 421, 71, 4, 99, 0, 0) else none
  else bif Nat.beq pc 421 then some (.iinc 5 (-1), 424, 5, 0, 1, 1, 0) else none
  else bif Nat.blt pc 428 then bif Nat.blt pc 427 then bif Nat.beq pc 424 then some (.goto (-55), 427, 369, 0, 0, 0, 0) else none
  else bif Nat.beq pc 427 then some (.aload_n 2, 428, 2, 0, 0, 0, 0) else none
  else bif Nat.blt pc 429 then bif Nat.beq pc 428 then some (.iconst 2, 429, 0, 0, 0, 2, 0) else none
  else bif Nat.blt pc 432 then bif Nat.beq pc 429 then some (.invokevirtual 121, 432, 62, 2, 10, 0, 0) else none
  else bif Nat.beq pc 432 then some (.ifCond .ne 45, 435, 477, 0, 0, 0, 0) else none
  else bif Nat.blt pc 467 then bif Nat.blt pc 450 then bif Nat.blt pc 440 then bif Nat.blt pc 438 then bif Nat.blt pc 437 then bif Nat.beq pc 435 then some (.aload 4, 437, 4, 0, 0, 0, 0) else none
  else bif Nat.beq pc 437 then some (.aload_n 2, 438, 2, 0, 0, 0, 0) else none
  else bif Nat.blt pc 439 then bif Nat.beq pc 438 then some (.aload_n 2, 439, 2, 0, 0, 0, 0) else none
  else bif Nat.beq pc 439 then some (.iconst 3, 440, 0, 0, 0, 3, 0) else none
  else bif Nat.blt pc 446 then bif Nat.blt pc 443 then bif Nat.beq pc 440 then some (.invokevirtual 121, 443, 62, 2, 10, 0, 0) else none
  else bif Nat.beq pc 443 then some (.invokestatic 163, 446, 58, 2, 99, 0, 0) else none
  else bif Nat.blt pc 449 then bif Nat.beq pc 446 then some (.putfield 169, 449, 8, 2, 2, 0, 0) else none
  else bif Nat.beq pc 449 then some (.aload_n 0, 450, 0, 0, 0, 0, 0) else none
  else bif Nat.blt pc 457 then bif Nat.blt pc 453 then bif Nat.blt pc 451 then bif Nat.beq pc 450 then some (.aload_n 1, 451, 1, 0, 0, 0, 0) else none
  else bif Nat.beq pc 451 then some (.ldc 173, 453, 18, 0, 1, 0, 0) else none
  else bif Nat.blt pc 456 then bif Nat.beq pc 453 then some (.invokestatic 107, 456, 66, 3, 99, 0, 0) else none
  else bif Nat.beq pc 456 then some (.aload_n 0, 457, 0, 0, 0, 0, 0) else none
  else bif Nat.blt pc 460 then bif Nat.blt pc 458 then bif Nat.beq pc 457 then some (.aload_n 1, 458, 1, 0, 0, 0, 0) else none
  else bif Nat.beq pc 458 then some (.aload 4, 460, 4, 0, 0, 0, 0) else none
  else bif Nat.blt pc 463 then bif Nat.beq pc 460 then some (.getfield 169, 463, 8, 2, 2, 0, 0) else none
  else bif Nat.blt pc 464 then bif Nat.beq pc 463 then some (.iconst 0, 464, 0, 0, 0, 0, 0) else none
  else bif Nat.beq pc 464 then some (.invokevirtual 175, 467, 59, 2, 9, 0, 0) else none
  else bif Nat.blt pc 484 then bif Nat.blt pc 474 then bif Nat.blt pc 471 then bif Nat.blt pc 470 then bif Nat.beq pc 467 then some (.invokestatic 107, 470, 66, 3, 99, 0, 0) else none
  else bif Nat.beq pc 470 then some (.aload_n 0, 471, 0, 0, 0, 0, 0) else none
  else bif Nat.blt pc 472 then bif Nat.beq pc 471 then some (.aload_n 1, 472, 1, 0, 0, 0, 0) else none
  else bif Nat.beq pc 472 then some (.ldc 116, 474, 22, 0, 1, 0, 0) else none
  else bif Nat.blt pc 479 then bif Nat.blt pc 477 then bif Nat.beq pc 474 then some (.invokestatic 107, 477, 66, 3, 99, 0, 0) else none
  else bif Nat.beq pc 477 then some (.aload 4, 479, 4, 0, 0, 0, 0) else none
  else bif Nat.blt pc 482 then bif Nat.beq pc 479 then some (.invokevirtual 179, 482, 38, 1, 8, 0, 0) else none
  else bif Nat.blt pc 483 then bif Nat.beq pc 482 then some (.aload_n 0, 483, 0, 0, 0, 0, 0) else none
  else bif Nat.beq pc 483 then some (.aload_n 1, 484, 1, 0, 0, 0, 0) else none
  else bif Nat.blt pc 493 then bif Nat.blt pc 489 then bif Nat.blt pc 487 then bif Nat.beq pc 484 then some (.invokestatic 182, 487, 65, 2, 99, 0, 0) else none
  else bif Nat.beq pc 487 then some (.aload 4, 489, 4, 0, 0, 0, 0) else none
  else bif Nat.blt pc 492 then bif Nat.beq pc 489 then some (.getfield 139, 492, 8, 3, 2, 0, 0) else none
  else bif Nat.beq pc 492 then some (.arraylength, 493, 0, 0, 0, 0, 0) else none
  else bif Nat.blt pc 498 then bif Nat.blt pc 496 then bif Nat.beq pc 493 then some (.if_icmp .ne 8, 496, 501, 0, 0, 0, 0) else none
  else bif Nat.beq pc 496 then some (.aload 4, 498, 4, 0, 0, 0, 0) else none
  else bif Nat.blt pc 501 then bif Nat.beq pc 498 then some (.goto 4, 501, 502, 0, 0, 0, 0) else none
  else bif Nat.blt pc 502 then bif Nat.beq pc 501 then some (.aconst_null, 502, 0, 0, 0, 0, 0) else none
  else bif Nat.beq pc 502 then some (.areturn, 503, 0, 0, 0, 0, 0) else none
def gmi_L_randomCity : gMI := gwrap 503 gcd_L_randomCity 4 9
def gcd_L_agrees (pc : Nat) : Option PE :=
  bif Nat.blt pc 156 then bif Nat.blt pc 85 then bif Nat.blt pc 40 then bif Nat.blt pc 20 then bif Nat.blt pc 11 then bif Nat.blt pc 4 then bif Nat.blt pc 1 then bif Nat.beq pc 0 then some (.aload_n 0, 1, 0, 0, 0, 0, 0) else none
  else bif Nat.beq pc 1 then some (.invokevirtual 186, 4, 72, 1, 140, 0, 0) else none
  else bif Nat.blt pc 5 then bif Nat.beq pc 4 then some (.aload_n 1, 5, 1, 0, 0, 0, 0) else none
  else bif Nat.blt pc 8 then bif Nat.beq pc 5 then some (.getfield 126, 8, 8, 0, 0, 0, 0) else none
  else bif Nat.beq pc 8 then some (.if_icmp .ne 77, 11, 85, 0, 0, 0, 0) else none
  else bif Nat.blt pc 15 then bif Nat.blt pc 12 then bif Nat.beq pc 11 then some (.aload_n 0, 12, 0, 0, 0, 0, 0) else none
  else bif Nat.beq pc 12 then some (.invokevirtual 189, 15, 73, 1, 140, 0, 0) else none
  else bif Nat.blt pc 16 then bif Nat.beq pc 15 then some (.aload_n 1, 16, 1, 0, 0, 0, 0) else none
  else bif Nat.blt pc 19 then bif Nat.beq pc 16 then some (.getfield 139, 19, 8, 3, 2, 0, 0) else none
  else bif Nat.beq pc 19 then some (.arraylength, 20, 0, 0, 0, 0, 0) else none
  else bif Nat.blt pc 31 then bif Nat.blt pc 24 then bif Nat.blt pc 23 then bif Nat.beq pc 20 then some (.if_icmp .ne 65, 23, 85, 0, 0, 0, 0) else none
  else bif Nat.beq pc 23 then some (.aload_n 0, 24, 0, 0, 0, 0, 0) else none
  else bif Nat.blt pc 27 then bif Nat.beq pc 24 then some (.invokevirtual 192, 27, 74, 1, 140, 0, 0) else none
  else bif Nat.blt pc 28 then bif Nat.beq pc 27 then some (.aload_n 1, 28, 1, 0, 0, 0, 0) else none
  else bif Nat.beq pc 28 then some (.getfield 154, 31, 8, 5, 2, 0, 0) else none
  else bif Nat.blt pc 35 then bif Nat.blt pc 32 then bif Nat.beq pc 31 then some (.arraylength, 32, 0, 0, 0, 0, 0) else none
  else bif Nat.beq pc 32 then some (.if_icmp .ne 53, 35, 85, 0, 0, 0, 0) else none
  else bif Nat.blt pc 36 then bif Nat.beq pc 35 then some (.aload_n 0, 36, 0, 0, 0, 0, 0) else none
  else bif Nat.blt pc 39 then bif Nat.beq pc 36 then some (.invokevirtual 195, 39, 75, 1, 140, 0, 0) else none
  else bif Nat.beq pc 39 then some (.aload_n 1, 40, 1, 0, 0, 0, 0) else none
  else bif Nat.blt pc 62 then bif Nat.blt pc 51 then bif Nat.blt pc 44 then bif Nat.blt pc 43 then bif Nat.beq pc 40 then some (.getfield 198, 43, 8, 7, 2, 0, 0) else none
  else bif Nat.beq pc 43 then some (.arraylength, 44, 0, 0, 0, 0, 0) else none
  else bif Nat.blt pc 47 then bif Nat.beq pc 44 then some (.if_icmp .ne 41, 47, 85, 0, 0, 0, 0) else none
  else bif Nat.blt pc 48 then bif Nat.beq pc 47 then some (.aload_n 0, 48, 0, 0, 0, 0, 0) else none
  else bif Nat.beq pc 48 then some (.invokevirtual 201, 51, 84, 1, 140, 0, 0) else none
  else bif Nat.blt pc 55 then bif Nat.blt pc 52 then bif Nat.beq pc 51 then some (.aload_n 1, 52, 1, 0, 0, 0, 0) else none
  else bif Nat.beq pc 52 then some (.invokevirtual 204, 55, 45, 1, 8, 0, 0) else none
  else bif Nat.blt pc 58 then bif Nat.beq pc 55 then some (.if_icmp .ne 30, 58, 85, 0, 0, 0, 0) else none
  else bif Nat.blt pc 59 then bif Nat.beq pc 58 then some (.aload_n 0, 59, 0, 0, 0, 0, 0) else none
  else bif Nat.beq pc 59 then some (.invokevirtual 207, 62, 85, 1, 140, 0, 0) else none
  else bif Nat.blt pc 73 then bif Nat.blt pc 66 then bif Nat.blt pc 63 then bif Nat.beq pc 62 then some (.aload_n 1, 63, 1, 0, 0, 0, 0) else none
  else bif Nat.beq pc 63 then some (.invokevirtual 210, 66, 49, 1, 8, 0, 0) else none
  else bif Nat.blt pc 69 then bif Nat.beq pc 66 then some (.if_icmp .ne 19, 69, 85, 0, 0, 0, 0) else none
  else bif Nat.blt pc 70 then bif Nat.beq pc 69 then some (.aload_n 0, 70, 0, 0, 0, 0, 0) else none
  else bif Nat.beq pc 70 then some (.invokevirtual 213, 73, 95, 1, 140, 0, 0) else none
  else bif Nat.blt pc 78 then bif Nat.blt pc 74 then bif Nat.beq pc 73 then some (.aload_n 1, 74, 1, 0, 0, 0, 0) else none
  else bif Nat.blt pc 77 then bif Nat.beq pc 74 then some (.invokevirtual 217, 77, 56, 1, 8, 0, 0) else none
  else bif Nat.beq pc 77 then some (.lcmp, 78, 0, 0, 0, 0, 0) else none
  else bif Nat.blt pc 81 then bif Nat.beq pc 78 then some (.ifCond .ne 7, 81, 85, 0, 0, 0, 0) else none
  else bif Nat.blt pc 82 then bif Nat.beq pc 81 then some (.iconst 1, 82, 0, 0, 0, 1, 0) else none
  else bif Nat.beq pc 82 then some (.goto 4, 85, 86, 0, 0, 0, 0) else none
  else bif Nat.blt pc 117 then bif Nat.blt pc 99 then bif Nat.blt pc 90 then bif Nat.blt pc 87 then bif Nat.blt pc 86 then bif Nat.beq pc 85 then some (.iconst 0, 86, 0, 0, 0, 0, 0) else none
  else bif Nat.beq pc 86 then some (.istore_n 2, 87, 2, 0, 0, 0, 0) else none
  else bif Nat.blt pc 88 then bif Nat.beq pc 87 then some (.iconst 0, 88, 0, 0, 0, 0, 0) else none
  else bif Nat.blt pc 89 then bif Nat.beq pc 88 then some (.istore_n 3, 89, 3, 0, 0, 0, 0) else none
  else bif Nat.beq pc 89 then some (.iload_n 3, 90, 3, 0, 0, 0, 0) else none
  else bif Nat.blt pc 94 then bif Nat.blt pc 91 then bif Nat.beq pc 90 then some (.aload_n 1, 91, 1, 0, 0, 0, 0) else none
  else bif Nat.beq pc 91 then some (.getfield 198, 94, 8, 7, 2, 0, 0) else none
  else bif Nat.blt pc 95 then bif Nat.beq pc 94 then some (.arraylength, 95, 0, 0, 0, 0, 0) else none
  else bif Nat.blt pc 98 then bif Nat.beq pc 95 then some (.if_icmp .ge 172, 98, 267, 0, 0, 0, 0) else none
  else bif Nat.beq pc 98 then some (.iload_n 2, 99, 2, 0, 0, 0, 0) else none
  else bif Nat.blt pc 108 then bif Nat.blt pc 103 then bif Nat.blt pc 102 then bif Nat.beq pc 99 then some (.ifCond .eq 168, 102, 267, 0, 0, 0, 0) else none
  else bif Nat.beq pc 102 then some (.aload_n 0, 103, 0, 0, 0, 0, 0) else none
  else bif Nat.blt pc 104 then bif Nat.beq pc 103 then some (.iload_n 3, 104, 3, 0, 0, 0, 0) else none
  else bif Nat.blt pc 107 then bif Nat.beq pc 104 then some (.invokestatic 220, 107, 107, 2, 140, 0, 0) else none
  else bif Nat.beq pc 107 then some (.aload_n 1, 108, 1, 0, 0, 0, 0) else none
  else bif Nat.blt pc 112 then bif Nat.blt pc 111 then bif Nat.beq pc 108 then some (.getfield 222, 111, 8, 6, 2, 0, 0) else none
  else bif Nat.beq pc 111 then some (.iload_n 3, 112, 3, 0, 0, 0, 0) else none
  else bif Nat.blt pc 113 then bif Nat.beq pc 112 then some (.iaload, 113, 0, 0, 0, 0, 0) else none
  else bif Nat.blt pc 116 then bif Nat.beq pc 113 then some (.if_icmp .ne 77, 116, 190, 0, 0, 0, 0) else none
  else bif Nat.beq pc 116 then some (.aload_n 0, 117, 0, 0, 0, 0, 0) else none
  else bif Nat.blt pc 133 then bif Nat.blt pc 126 then bif Nat.blt pc 121 then bif Nat.blt pc 118 then bif Nat.beq pc 117 then some (.iload_n 3, 118, 3, 0, 0, 0, 0) else none
  else bif Nat.beq pc 118 then some (.invokestatic 225, 121, 108, 2, 140, 0, 0) else none
  else bif Nat.blt pc 122 then bif Nat.beq pc 121 then some (.aload_n 1, 122, 1, 0, 0, 0, 0) else none
  else bif Nat.blt pc 125 then bif Nat.beq pc 122 then some (.getfield 198, 125, 8, 7, 2, 0, 0) else none
  else bif Nat.beq pc 125 then some (.iload_n 3, 126, 3, 0, 0, 0, 0) else none
  else bif Nat.blt pc 128 then bif Nat.blt pc 127 then bif Nat.beq pc 126 then some (.aaload, 127, 0, 0, 0, 0, 0) else none
  else bif Nat.beq pc 127 then some (.arraylength, 128, 0, 0, 0, 0, 0) else none
  else bif Nat.blt pc 131 then bif Nat.beq pc 128 then some (.if_icmp .ne 62, 131, 190, 0, 0, 0, 0) else none
  else bif Nat.blt pc 132 then bif Nat.beq pc 131 then some (.aload_n 0, 132, 0, 0, 0, 0, 0) else none
  else bif Nat.beq pc 132 then some (.iload_n 3, 133, 3, 0, 0, 0, 0) else none
  else bif Nat.blt pc 144 then bif Nat.blt pc 137 then bif Nat.blt pc 136 then bif Nat.beq pc 133 then some (.invokestatic 227, 136, 110, 2, 140, 0, 0) else none
  else bif Nat.beq pc 136 then some (.aload_n 1, 137, 1, 0, 0, 0, 0) else none
  else bif Nat.blt pc 138 then bif Nat.beq pc 137 then some (.iload_n 3, 138, 3, 0, 0, 0, 0) else none
  else bif Nat.blt pc 141 then bif Nat.beq pc 138 then some (.invokevirtual 229, 141, 46, 2, 8, 0, 0) else none
  else bif Nat.beq pc 141 then some (.if_icmp .ne 49, 144, 190, 0, 0, 0, 0) else none
  else bif Nat.blt pc 149 then bif Nat.blt pc 145 then bif Nat.beq pc 144 then some (.aload_n 0, 145, 0, 0, 0, 0, 0) else none
  else bif Nat.blt pc 146 then bif Nat.beq pc 145 then some (.iload_n 3, 146, 3, 0, 0, 0, 0) else none
  else bif Nat.beq pc 146 then some (.invokestatic 227, 149, 110, 2, 140, 0, 0) else none
  else bif Nat.blt pc 150 then bif Nat.beq pc 149 then some (.aload_n 1, 150, 1, 0, 0, 0, 0) else none
  else bif Nat.blt pc 153 then bif Nat.beq pc 150 then some (.getfield 130, 153, 8, 1, 0, 0, 0) else none
  else bif Nat.beq pc 153 then some (.if_icmp .gt 37, 156, 190, 0, 0, 0, 0) else none
  else bif Nat.blt pc 226 then bif Nat.blt pc 191 then bif Nat.blt pc 172 then bif Nat.blt pc 163 then bif Nat.blt pc 158 then bif Nat.blt pc 157 then bif Nat.beq pc 156 then some (.aload_n 0, 157, 0, 0, 0, 0, 0) else none
  else bif Nat.beq pc 157 then some (.iload_n 3, 158, 3, 0, 0, 0, 0) else none
  else bif Nat.blt pc 161 then bif Nat.beq pc 158 then some (.invokestatic 230, 161, 111, 2, 140, 0, 0) else none
  else bif Nat.blt pc 162 then bif Nat.beq pc 161 then some (.aload_n 1, 162, 1, 0, 0, 0, 0) else none
  else bif Nat.beq pc 162 then some (.iload_n 3, 163, 3, 0, 0, 0, 0) else none
  else bif Nat.blt pc 169 then bif Nat.blt pc 166 then bif Nat.beq pc 163 then some (.invokevirtual 232, 166, 44, 2, 8, 0, 0) else none
  else bif Nat.beq pc 166 then some (.if_icmp .ne 24, 169, 190, 0, 0, 0, 0) else none
  else bif Nat.blt pc 170 then bif Nat.beq pc 169 then some (.aload_n 0, 170, 0, 0, 0, 0, 0) else none
  else bif Nat.blt pc 171 then bif Nat.beq pc 170 then some (.iload_n 3, 171, 3, 0, 0, 0, 0) else none
  else bif Nat.beq pc 171 then some (.aload_n 1, 172, 1, 0, 0, 0, 0) else none
  else bif Nat.blt pc 181 then bif Nat.blt pc 176 then bif Nat.blt pc 175 then bif Nat.beq pc 172 then some (.getfield 198, 175, 8, 7, 2, 0, 0) else none
  else bif Nat.beq pc 175 then some (.iload_n 3, 176, 3, 0, 0, 0, 0) else none
  else bif Nat.blt pc 177 then bif Nat.beq pc 176 then some (.aaload, 177, 0, 0, 0, 0, 0) else none
  else bif Nat.blt pc 178 then bif Nat.beq pc 177 then some (.arraylength, 178, 0, 0, 0, 0, 0) else none
  else bif Nat.beq pc 178 then some (.invokestatic 235, 181, 109, 3, 140, 0, 0) else none
  else bif Nat.blt pc 186 then bif Nat.blt pc 183 then bif Nat.beq pc 181 then some (.ldc 73, 183, 0, 0, 0, (-2000000100), 0) else none
  else bif Nat.beq pc 183 then some (.if_icmp .ne 7, 186, 190, 0, 0, 0, 0) else none
  else bif Nat.blt pc 187 then bif Nat.beq pc 186 then some (.iconst 1, 187, 0, 0, 0, 1, 0) else none
  else bif Nat.blt pc 190 then bif Nat.beq pc 187 then some (.goto 4, 190, 191, 0, 0, 0, 0) else none
  else bif Nat.beq pc 190 then some (.iconst 0, 191, 0, 0, 0, 0, 0) else none
  else bif Nat.blt pc 207 then bif Nat.blt pc 198 then bif Nat.blt pc 193 then bif Nat.blt pc 192 then bif Nat.beq pc 191 then some (.istore_n 2, 192, 2, 0, 0, 0, 0) else none
  else bif Nat.beq pc 192 then some (.iconst 0, 193, 0, 0, 0, 0, 0) else none
  else bif Nat.blt pc 195 then bif Nat.beq pc 193 then some (.istore 4, 195, 4, 0, 0, 0, 0) else none
  else bif Nat.blt pc 197 then bif Nat.beq pc 195 then some (.iload 4, 197, 4, 0, 0, 0, 0) else none
  else bif Nat.beq pc 197 then some (.aload_n 1, 198, 1, 0, 0, 0, 0) else none
  else bif Nat.blt pc 202 then bif Nat.blt pc 201 then bif Nat.beq pc 198 then some (.getfield 198, 201, 8, 7, 2, 0, 0) else none
  else bif Nat.beq pc 201 then some (.iload_n 3, 202, 3, 0, 0, 0, 0) else none
  else bif Nat.blt pc 203 then bif Nat.beq pc 202 then some (.aaload, 203, 0, 0, 0, 0, 0) else none
  else bif Nat.blt pc 204 then bif Nat.beq pc 203 then some (.arraylength, 204, 0, 0, 0, 0, 0) else none
  else bif Nat.beq pc 204 then some (.if_icmp .ge 57, 207, 261, 0, 0, 0, 0) else none
  else bif Nat.blt pc 215 then bif Nat.blt pc 211 then bif Nat.blt pc 208 then bif Nat.beq pc 207 then some (.iload_n 2, 208, 2, 0, 0, 0, 0) else none
  else bif Nat.beq pc 208 then some (.ifCond .eq 53, 211, 261, 0, 0, 0, 0) else none
  else bif Nat.blt pc 212 then bif Nat.beq pc 211 then some (.aload_n 0, 212, 0, 0, 0, 0, 0) else none
  else bif Nat.blt pc 213 then bif Nat.beq pc 212 then some (.iload_n 3, 213, 3, 0, 0, 0, 0) else none
  else bif Nat.beq pc 213 then some (.iload 4, 215, 4, 0, 0, 0, 0) else none
  else bif Nat.blt pc 222 then bif Nat.blt pc 218 then bif Nat.beq pc 215 then some (.invokestatic 235, 218, 109, 3, 140, 0, 0) else none
  else bif Nat.blt pc 219 then bif Nat.beq pc 218 then some (.aload_n 1, 219, 1, 0, 0, 0, 0) else none
  else bif Nat.beq pc 219 then some (.getfield 198, 222, 8, 7, 2, 0, 0) else none
  else bif Nat.blt pc 223 then bif Nat.beq pc 222 then some (.iload_n 3, 223, 3, 0, 0, 0, 0) else none
  else bif Nat.blt pc 224 then bif Nat.beq pc 223 then some (.aaload, 224, 0, 0, 0, 0, 0) else none
  else bif Nat.beq pc 224 then some (.iload 4, 226, 4, 0, 0, 0, 0) else none
  else bif Nat.blt pc 264 then bif Nat.blt pc 241 then bif Nat.blt pc 235 then bif Nat.blt pc 230 then bif Nat.blt pc 227 then bif Nat.beq pc 226 then some (.iaload, 227, 0, 0, 0, 0, 0) else none
  else bif Nat.beq pc 227 then some (.if_icmp .ne 26, 230, 253, 0, 0, 0, 0) else none
  else bif Nat.blt pc 231 then bif Nat.beq pc 230 then some (.aload_n 0, 231, 0, 0, 0, 0, 0) else none
  else bif Nat.blt pc 232 then bif Nat.beq pc 231 then some (.aload_n 1, 232, 1, 0, 0, 0, 0) else none
  else bif Nat.beq pc 232 then some (.getfield 198, 235, 8, 7, 2, 0, 0) else none
  else bif Nat.blt pc 237 then bif Nat.blt pc 236 then bif Nat.beq pc 235 then some (.iload_n 3, 236, 3, 0, 0, 0, 0) else none
  else bif Nat.beq pc 236 then some (.aaload, 237, 0, 0, 0, 0, 0) else none
  else bif Nat.blt pc 239 then bif Nat.beq pc 237 then some (.iload 4, 239, 4, 0, 0, 0, 0) else none
  else bif Nat.blt pc 240 then bif Nat.beq pc 239 then some (.iaload, 240, 0, 0, 0, 0, 0) else none
  else bif Nat.beq pc 240 then some (.iconst 2, 241, 0, 0, 0, 2, 0) else none
  else bif Nat.blt pc 250 then bif Nat.blt pc 245 then bif Nat.blt pc 242 then bif Nat.beq pc 241 then some (.idiv, 242, 0, 0, 0, 0, 0) else none
  else bif Nat.beq pc 242 then some (.invokestatic 238, 245, 112, 2, 140, 0, 0) else none
  else bif Nat.blt pc 246 then bif Nat.beq pc 245 then some (.iload_n 3, 246, 3, 0, 0, 0, 0) else none
  else bif Nat.blt pc 249 then bif Nat.beq pc 246 then some (.if_icmp .ne 7, 249, 253, 0, 0, 0, 0) else none
  else bif Nat.beq pc 249 then some (.iconst 1, 250, 0, 0, 0, 1, 0) else none
  else bif Nat.blt pc 255 then bif Nat.blt pc 253 then bif Nat.beq pc 250 then some (.goto 4, 253, 254, 0, 0, 0, 0) else none
  else bif Nat.blt pc 254 then bif Nat.beq pc 253 then some (.iconst 0, 254, 0, 0, 0, 0, 0) else none
  else bif Nat.beq pc 254 then some (.istore_n 2, 255, 2, 0, 0, 0, 0) else none
  else bif Nat.blt pc 258 then bif Nat.beq pc 255 then some (.iinc 4 1, 258, 4, 0, 0, 1, 0) else none
  else bif Nat.blt pc 261 then bif Nat.beq pc 258 then some (.goto (-63), 261, 195, 0, 0, 0, 0) else none
  else bif Nat.beq pc 261 then some (.iinc 3 1, 264, 3, 0, 0, 1, 0) else none
  else bif Nat.blt pc 285 then bif Nat.blt pc 273 then bif Nat.blt pc 268 then bif Nat.blt pc 267 then bif Nat.beq pc 264 then some (.goto (-175), 267, 89, 0, 0, 0, 0) else none
  else bif Nat.beq pc 267 then some (.iload_n 2, 268, 2, 0, 0, 0, 0) else none
  else bif Nat.blt pc 271 then bif Nat.beq pc 268 then some (.ifCond .eq 35, 271, 303, 0, 0, 0, 0) else none
  else bif Nat.blt pc 272 then bif Nat.beq pc 271 then some (.aload_n 0, 272, 0, 0, 0, 0, 0) else none
  else bif Nat.beq pc 272 then some (.aload_n 1, 273, 1, 0, 0, 0, 0) else none
  else bif Nat.blt pc 277 then bif Nat.blt pc 276 then bif Nat.beq pc 273 then some (.getfield 198, 276, 8, 7, 2, 0, 0) else none
  else bif Nat.beq pc 276 then some (.arraylength, 277, 0, 0, 0, 0, 0) else none
  else bif Nat.blt pc 280 then bif Nat.beq pc 277 then some (.invokestatic 225, 280, 108, 2, 140, 0, 0) else none
  else bif Nat.blt pc 282 then bif Nat.beq pc 280 then some (.ldc 49, 282, 0, 0, 0, (-2000000097), 0) else none
  else bif Nat.beq pc 282 then some (.if_icmp .ne 21, 285, 303, 0, 0, 0, 0) else none
  else bif Nat.blt pc 294 then bif Nat.blt pc 287 then bif Nat.blt pc 286 then bif Nat.beq pc 285 then some (.aload_n 0, 286, 0, 0, 0, 0, 0) else none
  else bif Nat.beq pc 286 then some (.aload_n 1, 287, 1, 0, 0, 0, 0) else none
  else bif Nat.blt pc 290 then bif Nat.beq pc 287 then some (.getfield 139, 290, 8, 3, 2, 0, 0) else none
  else bif Nat.blt pc 291 then bif Nat.beq pc 290 then some (.arraylength, 291, 0, 0, 0, 0, 0) else none
  else bif Nat.beq pc 291 then some (.invokestatic 238, 294, 112, 2, 140, 0, 0) else none
  else bif Nat.blt pc 300 then bif Nat.blt pc 296 then bif Nat.beq pc 294 then some (.ldc 49, 296, 0, 0, 0, (-2000000097), 0) else none
  else bif Nat.blt pc 299 then bif Nat.beq pc 296 then some (.if_icmp .ne 7, 299, 303, 0, 0, 0, 0) else none
  else bif Nat.beq pc 299 then some (.iconst 1, 300, 0, 0, 0, 1, 0) else none
  else bif Nat.blt pc 303 then bif Nat.beq pc 300 then some (.goto 4, 303, 304, 0, 0, 0, 0) else none
  else bif Nat.blt pc 304 then bif Nat.beq pc 303 then some (.iconst 0, 304, 0, 0, 0, 0, 0) else none
  else bif Nat.beq pc 304 then some (.ireturn, 305, 0, 0, 0, 0, 0) else none
def gmi_L_agrees : gMI := gwrap 305 gcd_L_agrees 2 5
def gcd_L_law (pc : Nat) : Option PE :=
  bif Nat.blt pc 651 then bif Nat.blt pc 360 then bif Nat.blt pc 165 then bif Nat.blt pc 94 then bif Nat.blt pc 60 then bif Nat.blt pc 40 then bif Nat.blt pc 33 then bif Nat.blt pc 29 then bif Nat.blt pc 27 then bif Nat.beq pc 26 then some (.astore_n 3, 27, 3, 0, 0, 0, 0) else none
  else bif Nat.beq pc 27 then some (.bipush 8, 29, 0, 0, 0, 8, 0) else none
  else bif Nat.blt pc 31 then bif Nat.beq pc 29 then some (.newarray .int, 31, 0, 0, 1, 0, 0) else none
  else bif Nat.beq pc 31 then some (.astore 4, 33, 4, 0, 0, 0, 0) else none
  else bif Nat.blt pc 37 then bif Nat.blt pc 36 then bif Nat.beq pc 33 then some (.new 122, 36, 10, 0, 0, 0, 0) else none
  else bif Nat.beq pc 36 then some (.dup, 37, 0, 0, 0, 0, 0) else none
  else bif Nat.blt pc 38 then bif Nat.beq pc 37 then some (.aload_n 0, 38, 0, 0, 0, 0, 0) else none
  else bif Nat.blt pc 39 then bif Nat.beq pc 38 then some (.iload_n 2, 39, 2, 0, 0, 0, 0) else none
  else bif Nat.beq pc 39 then some (.iaload, 40, 0, 0, 7, 0, 0) else none
  else bif Nat.blt pc 49 then bif Nat.blt pc 45 then bif Nat.blt pc 43 then bif Nat.beq pc 40 then some (.invokespecial 241, 43, 61, 2, 98, 0, 0) else none
  else bif Nat.beq pc 43 then some (.astore 5, 45, 5, 0, 0, 0, 0) else none
  else bif Nat.blt pc 46 then bif Nat.beq pc 45 then some (.aload_n 3, 46, 3, 0, 0, 0, 0) else none
  else bif Nat.beq pc 46 then some (.new 118, 49, 8, 0, 0, 0, 0) else none
  else bif Nat.blt pc 53 then bif Nat.blt pc 50 then bif Nat.beq pc 49 then some (.dup, 50, 0, 0, 0, 0, 0) else none
  else bif Nat.beq pc 50 then some (.invokespecial 120, 53, 30, 1, 98, 0, 0) else none
  else bif Nat.blt pc 56 then bif Nat.beq pc 53 then some (.invokestatic 244, 56, 73, 2, 99, 0, 0) else none
  else bif Nat.blt pc 59 then bif Nat.beq pc 56 then some (.ifCond .eq 62, 59, 118, 0, 0, 0, 0) else none
  else bif Nat.beq pc 59 then some (.aload_n 3, 60, 3, 0, 0, 0, 0) else none
  else bif Nat.blt pc 77 then bif Nat.blt pc 68 then bif Nat.blt pc 64 then bif Nat.blt pc 63 then bif Nat.beq pc 60 then some (.invokevirtual 248, 63, 71, 1, 140, 0, 0) else none
  else bif Nat.beq pc 63 then some (.iconst (-1), 64, 0, 0, 0, (-1), 0) else none
  else bif Nat.blt pc 67 then bif Nat.beq pc 64 then some (.if_icmp .ne 54, 67, 118, 0, 0, 0, 0) else none
  else bif Nat.beq pc 67 then some (.aload_n 3, 68, 3, 0, 0, 0, 0) else none
  else bif Nat.blt pc 72 then bif Nat.blt pc 71 then bif Nat.beq pc 68 then some (.invokevirtual 251, 71, 94, 1, 140, 0, 0) else none
  else bif Nat.beq pc 71 then some (.iconst (-1), 72, 0, 0, 0, (-1), 0) else none
  else bif Nat.blt pc 75 then bif Nat.beq pc 72 then some (.if_icmp .ne 46, 75, 118, 0, 0, 0, 0) else none
  else bif Nat.blt pc 76 then bif Nat.beq pc 75 then some (.aload_n 3, 76, 3, 0, 0, 0, 0) else none
  else bif Nat.beq pc 76 then some (.iconst 0, 77, 0, 0, 0, 0, 0) else none
  else bif Nat.blt pc 86 then bif Nat.blt pc 82 then bif Nat.blt pc 80 then bif Nat.beq pc 77 then some (.invokestatic 254, 80, 114, 2, 140, 0, 0) else none
  else bif Nat.beq pc 80 then some (.ldc 49, 82, 0, 0, 0, (-2000000097), 0) else none
  else bif Nat.blt pc 85 then bif Nat.beq pc 82 then some (.if_icmp .ne 36, 85, 118, 0, 0, 0, 0) else none
  else bif Nat.beq pc 85 then some (.aload_n 3, 86, 3, 0, 0, 0, 0) else none
  else bif Nat.blt pc 88 then bif Nat.blt pc 87 then bif Nat.beq pc 86 then some (.iconst 0, 87, 0, 0, 0, 0, 0) else none
  else bif Nat.beq pc 87 then some (.iconst 0, 88, 0, 0, 0, 0, 0) else none
  else bif Nat.blt pc 89 then bif Nat.beq pc 88 then some (.iconst 0, 89, 0, 0, 0, 0, 0) else none
  else bif Nat.blt pc 92 then bif Nat.beq pc 89 then some (.invokestatic 256, 92, 115, 4, 140, 0, 0) else none
  else bif Nat.beq pc 92 then some (.ldc 49, 94, 0, 0, 0, (-2000000097), 0) else none
  else bif Nat.blt pc 130 then bif Nat.blt pc 114 then bif Nat.blt pc 102 then bif Nat.blt pc 98 then bif Nat.blt pc 97 then bif Nat.beq pc 94 then some (.if_icmp .ne 24, 97, 118, 0, 0, 0, 0) else none
  else bif Nat.beq pc 97 then some (.aload_n 3, 98, 3, 0, 0, 0, 0) else none
  else bif Nat.blt pc 99 then bif Nat.beq pc 98 then some (.iconst 0, 99, 0, 0, 0, 0, 0) else none
  else bif Nat.beq pc 99 then some (.invokestatic 259, 102, 118, 2, 140, 0, 0) else none
  else bif Nat.blt pc 107 then bif Nat.blt pc 104 then bif Nat.beq pc 102 then some (.ldc 42, 104, 0, 0, 0, (-2000000098), 0) else none
  else bif Nat.beq pc 104 then some (.if_icmp .ne 14, 107, 118, 0, 0, 0, 0) else none
  else bif Nat.blt pc 108 then bif Nat.beq pc 107 then some (.aload_n 3, 108, 3, 0, 0, 0, 0) else none
  else bif Nat.blt pc 111 then bif Nat.beq pc 108 then some (.invokevirtual 261, 111, 78, 1, 140, 0, 0) else none
  else bif Nat.beq pc 111 then some (.ifCond .ne 7, 114, 118, 0, 0, 0, 0) else none
  else bif Nat.blt pc 120 then bif Nat.blt pc 118 then bif Nat.blt pc 115 then bif Nat.beq pc 114 then some (.iconst 1, 115, 0, 0, 0, 1, 0) else none
  else bif Nat.beq pc 115 then some (.goto 4, 118, 119, 0, 0, 0, 0) else none
  else bif Nat.blt pc 119 then bif Nat.beq pc 118 then some (.iconst 0, 119, 0, 0, 0, 0, 0) else none
  else bif Nat.beq pc 119 then some (.istore_n 1, 120, 1, 0, 0, 0, 0) else none
  else bif Nat.blt pc 123 then bif Nat.blt pc 121 then bif Nat.beq pc 120 then some (.aload_n 3, 121, 3, 0, 0, 0, 0) else none
  else bif Nat.beq pc 121 then some (.aload 4, 123, 4, 0, 0, 0, 0) else none
  else bif Nat.blt pc 125 then bif Nat.beq pc 123 then some (.aload 5, 125, 5, 0, 0, 0, 0) else none
  else bif Nat.blt pc 127 then bif Nat.beq pc 125 then some (.bipush 8, 127, 0, 0, 0, 8, 0) else none
  else bif Nat.beq pc 127 then some (.invokestatic 264, 130, 72, 4, 99, 0, 0) else none
  else bif Nat.blt pc 146 then bif Nat.blt pc 138 then bif Nat.blt pc 134 then bif Nat.blt pc 132 then bif Nat.beq pc 130 then some (.astore 6, 132, 6, 0, 0, 0, 0) else none
  else bif Nat.beq pc 132 then some (.aload 6, 134, 6, 0, 0, 0, 0) else none
  else bif Nat.blt pc 137 then bif Nat.beq pc 134 then some (.ifnonnull 5, 137, 139, 0, 0, 0, 0) else none
  else bif Nat.beq pc 137 then some (.iconst 0, 138, 0, 0, 0, 0, 0) else none
  else bif Nat.blt pc 140 then bif Nat.blt pc 139 then bif Nat.beq pc 138 then some (.ireturn, 139, 0, 0, 0, 0, 0) else none
  else bif Nat.beq pc 139 then some (.iload_n 1, 140, 1, 0, 0, 0, 0) else none
  else bif Nat.blt pc 143 then bif Nat.beq pc 140 then some (.ifCond .eq 16, 143, 156, 0, 0, 0, 0) else none
  else bif Nat.blt pc 144 then bif Nat.beq pc 143 then some (.aload_n 3, 144, 3, 0, 0, 0, 0) else none
  else bif Nat.beq pc 144 then some (.aload 6, 146, 6, 0, 0, 0, 0) else none
  else bif Nat.blt pc 156 then bif Nat.blt pc 152 then bif Nat.blt pc 149 then bif Nat.beq pc 146 then some (.invokestatic 244, 149, 73, 2, 99, 0, 0) else none
  else bif Nat.beq pc 149 then some (.ifCond .eq 7, 152, 156, 0, 0, 0, 0) else none
  else bif Nat.blt pc 153 then bif Nat.beq pc 152 then some (.iconst 1, 153, 0, 0, 0, 1, 0) else none
  else bif Nat.beq pc 153 then some (.goto 4, 156, 157, 0, 0, 0, 0) else none
  else bif Nat.blt pc 158 then bif Nat.blt pc 157 then bif Nat.beq pc 156 then some (.iconst 0, 157, 0, 0, 0, 0, 0) else none
  else bif Nat.beq pc 157 then some (.istore_n 1, 158, 1, 0, 0, 0, 0) else none
  else bif Nat.blt pc 160 then bif Nat.beq pc 158 then some (.bipush 9, 160, 0, 0, 0, 9, 0) else none
  else bif Nat.blt pc 163 then bif Nat.beq pc 160 then some (.anewarray 118, 163, 0, 0, 41, 0, 0) else none
  else bif Nat.beq pc 163 then some (.astore 7, 165, 7, 0, 0, 0, 0) else none
  else bif Nat.blt pc 240 then bif Nat.blt pc 202 then bif Nat.blt pc 182 then bif Nat.blt pc 171 then bif Nat.blt pc 168 then bif Nat.blt pc 166 then bif Nat.beq pc 165 then some (.iconst 0, 166, 0, 0, 0, 0, 0) else none
  else bif Nat.beq pc 166 then some (.istore 8, 168, 8, 0, 0, 0, 0) else none
  else bif Nat.blt pc 169 then bif Nat.beq pc 168 then some (.iconst 0, 169, 0, 0, 0, 0, 0) else none
  else bif Nat.beq pc 169 then some (.istore 9, 171, 9, 0, 0, 0, 0) else none
  else bif Nat.blt pc 175 then bif Nat.blt pc 173 then bif Nat.beq pc 171 then some (.iload 9, 173, 9, 0, 0, 0, 0) else none
  else bif Nat.beq pc 173 then some (.bipush 35, 175, 0, 0, 0, 35, 0) else none
  else bif Nat.blt pc 178 then bif Nat.beq pc 175 then some (.if_icmp .ge 933, 178, 1108, 0, 0, 0, 0) else none
  else bif Nat.blt pc 179 then bif Nat.beq pc 178 then some (.iload_n 1, 179, 1, 0, 0, 0, 0) else none
  else bif Nat.beq pc 179 then some (.ifCond .eq 929, 182, 1108, 0, 0, 0, 0) else none
  else bif Nat.blt pc 190 then bif Nat.blt pc 187 then bif Nat.blt pc 184 then bif Nat.beq pc 182 then some (.aload 6, 184, 6, 0, 0, 0, 0) else none
  else bif Nat.beq pc 184 then some (.invokevirtual 268, 187, 31, 1, 8, 0, 0) else none
  else bif Nat.blt pc 189 then bif Nat.beq pc 187 then some (.astore 10, 189, 10, 0, 0, 0, 0) else none
  else bif Nat.beq pc 189 then some (.iconst 1, 190, 0, 0, 0, 1, 0) else none
  else bif Nat.blt pc 194 then bif Nat.blt pc 192 then bif Nat.beq pc 190 then some (.istore 11, 192, 11, 0, 0, 0, 0) else none
  else bif Nat.beq pc 192 then some (.aload 5, 194, 5, 0, 0, 0, 0) else none
  else bif Nat.blt pc 196 then bif Nat.beq pc 194 then some (.bipush 14, 196, 0, 0, 0, 14, 0) else none
  else bif Nat.blt pc 199 then bif Nat.beq pc 196 then some (.invokevirtual 121, 199, 62, 2, 10, 0, 0) else none
  else bif Nat.beq pc 199 then some (.ifCond .ne 12, 202, 211, 0, 0, 0, 0) else none
  else bif Nat.blt pc 222 then bif Nat.blt pc 211 then bif Nat.blt pc 207 then bif Nat.blt pc 204 then bif Nat.beq pc 202 then some (.aload 6, 204, 6, 0, 0, 0, 0) else none
  else bif Nat.beq pc 204 then some (.getfield 139, 207, 8, 3, 2, 0, 0) else none
  else bif Nat.blt pc 208 then bif Nat.beq pc 207 then some (.arraylength, 208, 0, 0, 0, 0, 0) else none
  else bif Nat.beq pc 208 then some (.goto 14, 211, 222, 0, 0, 0, 0) else none
  else bif Nat.blt pc 215 then bif Nat.blt pc 213 then bif Nat.beq pc 211 then some (.aload 5, 213, 5, 0, 0, 0, 0) else none
  else bif Nat.beq pc 213 then some (.aload 6, 215, 6, 0, 0, 0, 0) else none
  else bif Nat.blt pc 218 then bif Nat.beq pc 215 then some (.getfield 139, 218, 8, 3, 2, 0, 0) else none
  else bif Nat.blt pc 219 then bif Nat.beq pc 218 then some (.arraylength, 219, 0, 0, 0, 0, 0) else none
  else bif Nat.beq pc 219 then some (.invokevirtual 121, 222, 62, 2, 10, 0, 0) else none
  else bif Nat.blt pc 231 then bif Nat.blt pc 226 then bif Nat.blt pc 224 then bif Nat.beq pc 222 then some (.istore 12, 224, 12, 0, 0, 0, 0) else none
  else bif Nat.beq pc 224 then some (.iload 12, 226, 12, 0, 0, 0, 0) else none
  else bif Nat.blt pc 228 then bif Nat.beq pc 226 then some (.aload 6, 228, 6, 0, 0, 0, 0) else none
  else bif Nat.beq pc 228 then some (.getfield 139, 231, 8, 3, 2, 0, 0) else none
  else bif Nat.blt pc 235 then bif Nat.blt pc 232 then bif Nat.beq pc 231 then some (.arraylength, 232, 0, 0, 0, 0, 0) else none
  else bif Nat.beq pc 232 then some (.if_icmp .ge 7, 235, 239, 0, 0, 0, 0) else none
  else bif Nat.blt pc 236 then bif Nat.beq pc 235 then some (.iconst 1, 236, 0, 0, 0, 1, 0) else none
  else bif Nat.blt pc 239 then bif Nat.beq pc 236 then some (.goto 4, 239, 240, 0, 0, 0, 0) else none
  else bif Nat.beq pc 239 then some (.iconst 0, 240, 0, 0, 0, 0, 0) else none
  else bif Nat.blt pc 281 then bif Nat.blt pc 260 then bif Nat.blt pc 249 then bif Nat.blt pc 244 then bif Nat.blt pc 242 then bif Nat.beq pc 240 then some (.istore 13, 242, 13, 0, 0, 0, 0) else none
  else bif Nat.beq pc 242 then some (.iload 13, 244, 13, 0, 0, 0, 0) else none
  else bif Nat.blt pc 247 then bif Nat.beq pc 244 then some (.ifCond .eq 13, 247, 257, 0, 0, 0, 0) else none
  else bif Nat.beq pc 247 then some (.aload 6, 249, 6, 0, 0, 0, 0) else none
  else bif Nat.blt pc 254 then bif Nat.blt pc 251 then bif Nat.beq pc 249 then some (.iload 12, 251, 12, 0, 0, 0, 0) else none
  else bif Nat.beq pc 251 then some (.invokevirtual 272, 254, 47, 2, 8, 0, 0) else none
  else bif Nat.blt pc 257 then bif Nat.beq pc 254 then some (.goto 4, 257, 258, 0, 0, 0, 0) else none
  else bif Nat.blt pc 258 then bif Nat.beq pc 257 then some (.aconst_null, 258, 0, 0, 0, 0, 0) else none
  else bif Nat.beq pc 258 then some (.astore 14, 260, 14, 0, 0, 0, 0) else none
  else bif Nat.blt pc 270 then bif Nat.blt pc 265 then bif Nat.blt pc 262 then bif Nat.beq pc 260 then some (.iload 13, 262, 13, 0, 0, 0, 0) else none
  else bif Nat.beq pc 262 then some (.ifCond .eq 8, 265, 270, 0, 0, 0, 0) else none
  else bif Nat.blt pc 267 then bif Nat.beq pc 265 then some (.ldc 88, 267, 0, 0, 0, (-2000000099), 0) else none
  else bif Nat.beq pc 267 then some (.goto 5, 270, 272, 0, 0, 0, 0) else none
  else bif Nat.blt pc 274 then bif Nat.blt pc 272 then bif Nat.beq pc 270 then some (.ldc 49, 272, 0, 0, 0, (-2000000097), 0) else none
  else bif Nat.beq pc 272 then some (.istore 15, 274, 15, 0, 0, 0, 0) else none
  else bif Nat.blt pc 276 then bif Nat.beq pc 274 then some (.aload 5, 276, 5, 0, 0, 0, 0) else none
  else bif Nat.blt pc 278 then bif Nat.beq pc 276 then some (.bipush 12, 278, 0, 0, 0, 12, 0) else none
  else bif Nat.beq pc 278 then some (.invokevirtual 121, 281, 62, 2, 10, 0, 0) else none
  else bif Nat.blt pc 342 then bif Nat.blt pc 331 then bif Nat.blt pc 326 then bif Nat.blt pc 324 then bif Nat.beq pc 281 then some (.tableswitch 535 0 6 #[43, 43, 201, 312, 312, 438, 480], 324, 816, 281, 0, 0, 0) else none
  else bif Nat.beq pc 324 then some (.aload 5, 326, 5, 0, 0, 0, 0) else none
  else bif Nat.blt pc 328 then bif Nat.beq pc 326 then some (.aload 6, 328, 6, 0, 0, 0, 0) else none
  else bif Nat.beq pc 328 then some (.getfield 154, 331, 8, 5, 2, 0, 0) else none
  else bif Nat.blt pc 334 then bif Nat.blt pc 332 then bif Nat.beq pc 331 then some (.arraylength, 332, 0, 0, 0, 0, 0) else none
  else bif Nat.beq pc 332 then some (.aload 5, 334, 5, 0, 0, 0, 0) else none
  else bif Nat.blt pc 336 then bif Nat.beq pc 334 then some (.bipush 10, 336, 0, 0, 0, 10, 0) else none
  else bif Nat.blt pc 339 then bif Nat.beq pc 336 then some (.invokevirtual 121, 339, 62, 2, 10, 0, 0) else none
  else bif Nat.beq pc 339 then some (.ifCond .ne 7, 342, 346, 0, 0, 0, 0) else none
  else bif Nat.blt pc 348 then bif Nat.blt pc 346 then bif Nat.blt pc 343 then bif Nat.beq pc 342 then some (.iconst 1, 343, 0, 0, 0, 1, 0) else none
  else bif Nat.beq pc 343 then some (.goto 4, 346, 347, 0, 0, 0, 0) else none
  else bif Nat.blt pc 347 then bif Nat.beq pc 346 then some (.iconst 0, 347, 0, 0, 0, 0, 0) else none
  else bif Nat.beq pc 347 then some (.iadd, 348, 0, 0, 0, 0, 0) else none
  else bif Nat.blt pc 353 then bif Nat.blt pc 351 then bif Nat.beq pc 348 then some (.invokevirtual 121, 351, 62, 2, 10, 0, 0) else none
  else bif Nat.beq pc 351 then some (.istore 16, 353, 16, 0, 0, 0, 0) else none
  else bif Nat.blt pc 355 then bif Nat.beq pc 353 then some (.iload 16, 355, 16, 0, 0, 0, 0) else none
  else bif Nat.blt pc 357 then bif Nat.beq pc 355 then some (.aload 6, 357, 6, 0, 0, 0, 0) else none
  else bif Nat.beq pc 357 then some (.getfield 154, 360, 8, 5, 2, 0, 0) else none
  else bif Nat.blt pc 512 then bif Nat.blt pc 436 then bif Nat.blt pc 395 then bif Nat.blt pc 378 then bif Nat.blt pc 369 then bif Nat.blt pc 364 then bif Nat.blt pc 361 then bif Nat.beq pc 360 then some (.arraylength, 361, 0, 0, 0, 0, 0) else none
  else bif Nat.beq pc 361 then some (.if_icmp .ge 17, 364, 378, 0, 0, 0, 0) else none
  else bif Nat.blt pc 366 then bif Nat.beq pc 364 then some (.aload 6, 366, 6, 0, 0, 0, 0) else none
  else bif Nat.beq pc 366 then some (.getfield 198, 369, 8, 7, 2, 0, 0) else none
  else bif Nat.blt pc 371 then bif Nat.blt pc 370 then bif Nat.beq pc 369 then some (.arraylength, 370, 0, 0, 0, 0, 0) else none
  else bif Nat.beq pc 370 then some (.iconst 4, 371, 0, 0, 0, 4, 0) else none
  else bif Nat.blt pc 374 then bif Nat.beq pc 371 then some (.if_icmp .ge 7, 374, 378, 0, 0, 0, 0) else none
  else bif Nat.blt pc 375 then bif Nat.beq pc 374 then some (.iconst 1, 375, 0, 0, 0, 1, 0) else none
  else bif Nat.beq pc 375 then some (.goto 4, 378, 379, 0, 0, 0, 0) else none
  else bif Nat.blt pc 384 then bif Nat.blt pc 381 then bif Nat.blt pc 379 then bif Nat.beq pc 378 then some (.iconst 0, 379, 0, 0, 0, 0, 0) else none
  else bif Nat.beq pc 379 then some (.istore 11, 381, 11, 0, 0, 0, 0) else none
  else bif Nat.blt pc 382 then bif Nat.beq pc 381 then some (.aload_n 3, 382, 3, 0, 0, 0, 0) else none
  else bif Nat.beq pc 382 then some (.iload 16, 384, 16, 0, 0, 0, 0) else none
  else bif Nat.blt pc 389 then bif Nat.blt pc 387 then bif Nat.beq pc 384 then some (.invokestatic 254, 387, 114, 2, 140, 0, 0) else none
  else bif Nat.beq pc 387 then some (.iload 16, 389, 16, 0, 0, 0, 0) else none
  else bif Nat.blt pc 391 then bif Nat.beq pc 389 then some (.aload 6, 391, 6, 0, 0, 0, 0) else none
  else bif Nat.blt pc 394 then bif Nat.beq pc 391 then some (.getfield 154, 394, 8, 5, 2, 0, 0) else none
  else bif Nat.beq pc 394 then some (.arraylength, 395, 0, 0, 0, 0, 0) else none
  else bif Nat.blt pc 417 then bif Nat.blt pc 405 then bif Nat.blt pc 400 then bif Nat.blt pc 398 then bif Nat.beq pc 395 then some (.if_icmp .ne 8, 398, 403, 0, 0, 0, 0) else none
  else bif Nat.beq pc 398 then some (.ldc 49, 400, 0, 0, 0, (-2000000097), 0) else none
  else bif Nat.blt pc 403 then bif Nat.beq pc 400 then some (.goto 19, 403, 419, 0, 0, 0, 0) else none
  else bif Nat.beq pc 403 then some (.iload 11, 405, 11, 0, 0, 0, 0) else none
  else bif Nat.blt pc 410 then bif Nat.blt pc 408 then bif Nat.beq pc 405 then some (.ifCond .eq 12, 408, 417, 0, 0, 0, 0) else none
  else bif Nat.beq pc 408 then some (.aload 6, 410, 6, 0, 0, 0, 0) else none
  else bif Nat.blt pc 413 then bif Nat.beq pc 410 then some (.getfield 198, 413, 8, 7, 2, 0, 0) else none
  else bif Nat.blt pc 414 then bif Nat.beq pc 413 then some (.arraylength, 414, 0, 0, 0, 0, 0) else none
  else bif Nat.beq pc 414 then some (.goto 5, 417, 419, 0, 0, 0, 0) else none
  else bif Nat.blt pc 426 then bif Nat.blt pc 422 then bif Nat.blt pc 419 then bif Nat.beq pc 417 then some (.ldc 88, 419, 0, 0, 0, (-2000000099), 0) else none
  else bif Nat.beq pc 419 then some (.if_icmp .ne 7, 422, 426, 0, 0, 0, 0) else none
  else bif Nat.blt pc 423 then bif Nat.beq pc 422 then some (.iconst 1, 423, 0, 0, 0, 1, 0) else none
  else bif Nat.beq pc 423 then some (.goto 4, 426, 427, 0, 0, 0, 0) else none
  else bif Nat.blt pc 428 then bif Nat.blt pc 427 then bif Nat.beq pc 426 then some (.iconst 0, 427, 0, 0, 0, 0, 0) else none
  else bif Nat.beq pc 427 then some (.istore_n 1, 428, 1, 0, 0, 0, 0) else none
  else bif Nat.blt pc 430 then bif Nat.beq pc 428 then some (.iload 11, 430, 11, 0, 0, 0, 0) else none
  else bif Nat.blt pc 433 then bif Nat.beq pc 430 then some (.ifCond .ne 6, 433, 436, 0, 0, 0, 0) else none
  else bif Nat.beq pc 433 then some (.goto 609, 436, 1042, 0, 0, 0, 0) else none
  else bif Nat.blt pc 476 then bif Nat.blt pc 456 then bif Nat.blt pc 445 then bif Nat.blt pc 440 then bif Nat.blt pc 438 then bif Nat.beq pc 436 then some (.aload 6, 438, 6, 0, 0, 0, 0) else none
  else bif Nat.beq pc 438 then some (.aload 6, 440, 6, 0, 0, 0, 0) else none
  else bif Nat.blt pc 443 then bif Nat.beq pc 440 then some (.getfield 222, 443, 8, 6, 2, 0, 0) else none
  else bif Nat.beq pc 443 then some (.aload 6, 445, 6, 0, 0, 0, 0) else none
  else bif Nat.blt pc 449 then bif Nat.blt pc 448 then bif Nat.beq pc 445 then some (.getfield 222, 448, 8, 6, 2, 0, 0) else none
  else bif Nat.beq pc 448 then some (.arraylength, 449, 0, 0, 0, 0, 0) else none
  else bif Nat.blt pc 451 then bif Nat.beq pc 449 then some (.aload 6, 451, 6, 0, 0, 0, 0) else none
  else bif Nat.blt pc 454 then bif Nat.beq pc 451 then some (.getfield 154, 454, 8, 5, 2, 0, 0) else none
  else bif Nat.beq pc 454 then some (.iload 16, 456, 16, 0, 0, 0, 0) else none
  else bif Nat.blt pc 465 then bif Nat.blt pc 460 then bif Nat.blt pc 457 then bif Nat.beq pc 456 then some (.iaload, 457, 0, 0, 0, 0, 0) else none
  else bif Nat.beq pc 457 then some (.invokestatic 157, 460, 69, 3, 99, 0, 0) else none
  else bif Nat.blt pc 463 then bif Nat.beq pc 460 then some (.putfield 222, 463, 8, 6, 2, 0, 0) else none
  else bif Nat.beq pc 463 then some (.aload 6, 465, 6, 0, 0, 0, 0) else none
  else bif Nat.blt pc 470 then bif Nat.blt pc 467 then bif Nat.beq pc 465 then some (.aload 6, 467, 6, 0, 0, 0, 0) else none
  else bif Nat.beq pc 467 then some (.getfield 198, 470, 8, 7, 2, 0, 0) else none
  else bif Nat.blt pc 471 then bif Nat.beq pc 470 then some (.iconst 0, 471, 0, 0, 0, 0, 0) else none
  else bif Nat.blt pc 473 then bif Nat.beq pc 471 then some (.newarray .int, 473, 0, 0, 1, 0, 0) else none
  else bif Nat.beq pc 473 then some (.invokestatic 143, 476, 68, 2, 99, 0, 0) else none
  else bif Nat.blt pc 498 then bif Nat.blt pc 487 then bif Nat.blt pc 482 then bif Nat.blt pc 479 then bif Nat.beq pc 476 then some (.putfield 198, 479, 8, 7, 2, 0, 0) else none
  else bif Nat.beq pc 479 then some (.goto 563, 482, 1042, 0, 0, 0, 0) else none
  else bif Nat.blt pc 484 then bif Nat.beq pc 482 then some (.aload 14, 484, 14, 0, 0, 0, 0) else none
  else bif Nat.beq pc 484 then some (.ifnonnull 7, 487, 491, 0, 0, 0, 0) else none
  else bif Nat.blt pc 491 then bif Nat.blt pc 488 then bif Nat.beq pc 487 then some (.aconst_null, 488, 0, 0, 0, 0, 0) else none
  else bif Nat.beq pc 488 then some (.goto 20, 491, 508, 0, 0, 0, 0) else none
  else bif Nat.blt pc 493 then bif Nat.beq pc 491 then some (.aload 6, 493, 6, 0, 0, 0, 0) else none
  else bif Nat.blt pc 496 then bif Nat.beq pc 493 then some (.getfield 198, 496, 8, 7, 2, 0, 0) else none
  else bif Nat.beq pc 496 then some (.aload 14, 498, 14, 0, 0, 0, 0) else none
  else bif Nat.blt pc 503 then bif Nat.blt pc 500 then bif Nat.blt pc 499 then bif Nat.beq pc 498 then some (.iconst 0, 499, 0, 0, 0, 0, 0) else none
  else bif Nat.beq pc 499 then some (.iaload, 500, 0, 0, 0, 0, 0) else none
  else bif Nat.blt pc 501 then bif Nat.beq pc 500 then some (.aaload, 501, 0, 0, 0, 0, 0) else none
  else bif Nat.beq pc 501 then some (.aload 14, 503, 14, 0, 0, 0, 0) else none
  else bif Nat.blt pc 505 then bif Nat.blt pc 504 then bif Nat.beq pc 503 then some (.iconst 1, 504, 0, 0, 0, 1, 0) else none
  else bif Nat.beq pc 504 then some (.iaload, 505, 0, 0, 0, 0, 0) else none
  else bif Nat.blt pc 508 then bif Nat.beq pc 505 then some (.invokestatic 276, 508, 70, 2, 99, 0, 0) else none
  else bif Nat.blt pc 510 then bif Nat.beq pc 508 then some (.astore 17, 510, 17, 0, 0, 0, 0) else none
  else bif Nat.beq pc 510 then some (.aload 17, 512, 17, 0, 0, 0, 0) else none
  else bif Nat.blt pc 584 then bif Nat.blt pc 550 then bif Nat.blt pc 529 then bif Nat.blt pc 522 then bif Nat.blt pc 517 then bif Nat.blt pc 515 then bif Nat.beq pc 512 then some (.ifnull 30, 515, 542, 0, 0, 0, 0) else none
  else bif Nat.beq pc 515 then some (.aload 6, 517, 6, 0, 0, 0, 0) else none
  else bif Nat.blt pc 519 then bif Nat.beq pc 517 then some (.aload 6, 519, 6, 0, 0, 0, 0) else none
  else bif Nat.beq pc 519 then some (.getfield 222, 522, 8, 6, 2, 0, 0) else none
  else bif Nat.blt pc 525 then bif Nat.blt pc 524 then bif Nat.beq pc 522 then some (.aload 14, 524, 14, 0, 0, 0, 0) else none
  else bif Nat.beq pc 524 then some (.iconst 0, 525, 0, 0, 0, 0, 0) else none
  else bif Nat.blt pc 526 then bif Nat.beq pc 525 then some (.iaload, 526, 0, 0, 0, 0, 0) else none
  else bif Nat.blt pc 527 then bif Nat.beq pc 526 then some (.iaload, 527, 0, 0, 0, 0, 0) else none
  else bif Nat.beq pc 527 then some (.aload 17, 529, 17, 0, 0, 0, 0) else none
  else bif Nat.blt pc 539 then bif Nat.blt pc 535 then bif Nat.blt pc 532 then bif Nat.beq pc 529 then some (.invokevirtual 280, 532, 43, 3, 8, 0, 0) else none
  else bif Nat.beq pc 532 then some (.ldc_w 283, 535, 0, 0, 0, 500000, 0) else none
  else bif Nat.blt pc 538 then bif Nat.beq pc 535 then some (.if_icmp .ge 7, 538, 542, 0, 0, 0, 0) else none
  else bif Nat.beq pc 538 then some (.iconst 1, 539, 0, 0, 0, 1, 0) else none
  else bif Nat.blt pc 543 then bif Nat.blt pc 542 then bif Nat.beq pc 539 then some (.goto 4, 542, 543, 0, 0, 0, 0) else none
  else bif Nat.beq pc 542 then some (.iconst 0, 543, 0, 0, 0, 0, 0) else none
  else bif Nat.blt pc 545 then bif Nat.beq pc 543 then some (.istore 11, 545, 11, 0, 0, 0, 0) else none
  else bif Nat.blt pc 547 then bif Nat.beq pc 545 then some (.iload 11, 547, 11, 0, 0, 0, 0) else none
  else bif Nat.beq pc 547 then some (.ifCond .eq 26, 550, 573, 0, 0, 0, 0) else none
  else bif Nat.blt pc 566 then bif Nat.blt pc 558 then bif Nat.blt pc 555 then bif Nat.blt pc 552 then bif Nat.beq pc 550 then some (.aload 6, 552, 6, 0, 0, 0, 0) else none
  else bif Nat.beq pc 552 then some (.getfield 198, 555, 8, 7, 2, 0, 0) else none
  else bif Nat.blt pc 557 then bif Nat.beq pc 555 then some (.aload 14, 557, 14, 0, 0, 0, 0) else none
  else bif Nat.beq pc 557 then some (.iconst 0, 558, 0, 0, 0, 0, 0) else none
  else bif Nat.blt pc 561 then bif Nat.blt pc 559 then bif Nat.beq pc 558 then some (.iaload, 559, 0, 0, 0, 0, 0) else none
  else bif Nat.beq pc 559 then some (.aload 17, 561, 17, 0, 0, 0, 0) else none
  else bif Nat.blt pc 562 then bif Nat.beq pc 561 then some (.aastore, 562, 0, 0, 0, 0, 0) else none
  else bif Nat.blt pc 564 then bif Nat.beq pc 562 then some (.aload 6, 564, 6, 0, 0, 0, 0) else none
  else bif Nat.beq pc 564 then some (.aload 14, 566, 14, 0, 0, 0, 0) else none
  else bif Nat.blt pc 573 then bif Nat.blt pc 568 then bif Nat.blt pc 567 then bif Nat.beq pc 566 then some (.iconst 0, 567, 0, 0, 0, 0, 0) else none
  else bif Nat.beq pc 567 then some (.iaload, 568, 0, 0, 0, 0, 0) else none
  else bif Nat.blt pc 571 then bif Nat.beq pc 568 then some (.invokevirtual 232, 571, 44, 2, 8, 0, 0) else none
  else bif Nat.beq pc 571 then some (.istore 15, 573, 15, 0, 0, 0, 0) else none
  else bif Nat.blt pc 576 then bif Nat.blt pc 574 then bif Nat.beq pc 573 then some (.aload_n 3, 574, 3, 0, 0, 0, 0) else none
  else bif Nat.beq pc 574 then some (.iload 12, 576, 12, 0, 0, 0, 0) else none
  else bif Nat.blt pc 579 then bif Nat.beq pc 576 then some (.invokestatic 284, 579, 116, 2, 140, 0, 0) else none
  else bif Nat.blt pc 581 then bif Nat.beq pc 579 then some (.iload 15, 581, 15, 0, 0, 0, 0) else none
  else bif Nat.beq pc 581 then some (.if_icmp .ne 7, 584, 588, 0, 0, 0, 0) else none
  else bif Nat.blt pc 620 then bif Nat.blt pc 602 then bif Nat.blt pc 590 then bif Nat.blt pc 588 then bif Nat.blt pc 585 then bif Nat.beq pc 584 then some (.iconst 1, 585, 0, 0, 0, 1, 0) else none
  else bif Nat.beq pc 585 then some (.goto 4, 588, 589, 0, 0, 0, 0) else none
  else bif Nat.blt pc 589 then bif Nat.beq pc 588 then some (.iconst 0, 589, 0, 0, 0, 0, 0) else none
  else bif Nat.beq pc 589 then some (.istore_n 1, 590, 1, 0, 0, 0, 0) else none
  else bif Nat.blt pc 595 then bif Nat.blt pc 593 then bif Nat.beq pc 590 then some (.goto 452, 593, 1042, 0, 0, 0, 0) else none
  else bif Nat.beq pc 593 then some (.aload 14, 595, 14, 0, 0, 0, 0) else none
  else bif Nat.blt pc 598 then bif Nat.beq pc 595 then some (.ifnonnull 7, 598, 602, 0, 0, 0, 0) else none
  else bif Nat.blt pc 599 then bif Nat.beq pc 598 then some (.aconst_null, 599, 0, 0, 0, 0, 0) else none
  else bif Nat.beq pc 599 then some (.goto 19, 602, 618, 0, 0, 0, 0) else none
  else bif Nat.blt pc 610 then bif Nat.blt pc 607 then bif Nat.blt pc 604 then bif Nat.beq pc 602 then some (.aload 6, 604, 6, 0, 0, 0, 0) else none
  else bif Nat.beq pc 604 then some (.getfield 198, 607, 8, 7, 2, 0, 0) else none
  else bif Nat.blt pc 609 then bif Nat.beq pc 607 then some (.aload 14, 609, 14, 0, 0, 0, 0) else none
  else bif Nat.beq pc 609 then some (.iconst 0, 610, 0, 0, 0, 0, 0) else none
  else bif Nat.blt pc 612 then bif Nat.blt pc 611 then bif Nat.beq pc 610 then some (.iaload, 611, 0, 0, 0, 0, 0) else none
  else bif Nat.beq pc 611 then some (.aaload, 612, 0, 0, 0, 0, 0) else none
  else bif Nat.blt pc 615 then bif Nat.beq pc 612 then some (.invokevirtual 286, 615, 1, 0, 130, 0, 0) else none
  else bif Nat.blt pc 618 then bif Nat.beq pc 615 then some (.checkcast 105, 618, 0, 0, 1, 0, 0) else none
  else bif Nat.beq pc 618 then some (.astore 18, 620, 18, 0, 0, 0, 0) else none
  else bif Nat.blt pc 634 then bif Nat.blt pc 629 then bif Nat.blt pc 625 then bif Nat.blt pc 622 then bif Nat.beq pc 620 then some (.aload 18, 622, 18, 0, 0, 0, 0) else none
  else bif Nat.beq pc 622 then some (.ifnull 14, 625, 636, 0, 0, 0, 0) else none
  else bif Nat.blt pc 627 then bif Nat.beq pc 625 then some (.aload 18, 627, 18, 0, 0, 0, 0) else none
  else bif Nat.beq pc 627 then some (.aload 14, 629, 14, 0, 0, 0, 0) else none
  else bif Nat.blt pc 631 then bif Nat.blt pc 630 then bif Nat.beq pc 629 then some (.iconst 1, 630, 0, 0, 0, 1, 0) else none
  else bif Nat.beq pc 630 then some (.iaload, 631, 0, 0, 0, 0, 0) else none
  else bif Nat.blt pc 632 then bif Nat.beq pc 631 then some (.dup2, 632, 0, 0, 0, 0, 0) else none
  else bif Nat.blt pc 633 then bif Nat.beq pc 632 then some (.iaload, 633, 0, 0, 0, 0, 0) else none
  else bif Nat.beq pc 633 then some (.iconst 1, 634, 0, 0, 0, 1, 0) else none
  else bif Nat.blt pc 641 then bif Nat.blt pc 636 then bif Nat.blt pc 635 then bif Nat.beq pc 634 then some (.ixor, 635, 0, 0, 0, 0, 0) else none
  else bif Nat.beq pc 635 then some (.iastore, 636, 0, 0, 0, 0, 0) else none
  else bif Nat.blt pc 638 then bif Nat.beq pc 636 then some (.aload 18, 638, 18, 0, 0, 0, 0) else none
  else bif Nat.beq pc 638 then some (.ifnull 30, 641, 668, 0, 0, 0, 0) else none
  else bif Nat.blt pc 645 then bif Nat.blt pc 643 then bif Nat.beq pc 641 then some (.aload 6, 643, 6, 0, 0, 0, 0) else none
  else bif Nat.beq pc 643 then some (.aload 6, 645, 6, 0, 0, 0, 0) else none
  else bif Nat.blt pc 648 then bif Nat.beq pc 645 then some (.getfield 222, 648, 8, 6, 2, 0, 0) else none
  else bif Nat.blt pc 650 then bif Nat.beq pc 648 then some (.aload 14, 650, 14, 0, 0, 0, 0) else none
  else bif Nat.beq pc 650 then some (.iconst 0, 651, 0, 0, 0, 0, 0) else none
  else bif Nat.blt pc 941 then bif Nat.blt pc 796 then bif Nat.blt pc 721 then bif Nat.blt pc 687 then bif Nat.blt pc 669 then bif Nat.blt pc 658 then bif Nat.blt pc 653 then bif Nat.blt pc 652 then bif Nat.beq pc 651 then some (.iaload, 652, 0, 0, 0, 0, 0) else none
  else bif Nat.beq pc 652 then some (.iaload, 653, 0, 0, 0, 0, 0) else none
  else bif Nat.blt pc 655 then bif Nat.beq pc 653 then some (.aload 18, 655, 18, 0, 0, 0, 0) else none
  else bif Nat.beq pc 655 then some (.invokevirtual 280, 658, 43, 3, 8, 0, 0) else none
  else bif Nat.blt pc 664 then bif Nat.blt pc 661 then bif Nat.beq pc 658 then some (.ldc_w 283, 661, 0, 0, 0, 500000, 0) else none
  else bif Nat.beq pc 661 then some (.if_icmp .ge 7, 664, 668, 0, 0, 0, 0) else none
  else bif Nat.blt pc 665 then bif Nat.beq pc 664 then some (.iconst 1, 665, 0, 0, 0, 1, 0) else none
  else bif Nat.blt pc 668 then bif Nat.beq pc 665 then some (.goto 4, 668, 669, 0, 0, 0, 0) else none
  else bif Nat.beq pc 668 then some (.iconst 0, 669, 0, 0, 0, 0, 0) else none
  else bif Nat.blt pc 678 then bif Nat.blt pc 673 then bif Nat.blt pc 671 then bif Nat.beq pc 669 then some (.istore 11, 671, 11, 0, 0, 0, 0) else none
  else bif Nat.beq pc 671 then some (.iload 11, 673, 11, 0, 0, 0, 0) else none
  else bif Nat.blt pc 676 then bif Nat.beq pc 673 then some (.ifCond .eq 26, 676, 699, 0, 0, 0, 0) else none
  else bif Nat.beq pc 676 then some (.aload 6, 678, 6, 0, 0, 0, 0) else none
  else bif Nat.blt pc 683 then bif Nat.blt pc 681 then bif Nat.beq pc 678 then some (.getfield 198, 681, 8, 7, 2, 0, 0) else none
  else bif Nat.beq pc 681 then some (.aload 14, 683, 14, 0, 0, 0, 0) else none
  else bif Nat.blt pc 684 then bif Nat.beq pc 683 then some (.iconst 0, 684, 0, 0, 0, 0, 0) else none
  else bif Nat.blt pc 685 then bif Nat.beq pc 684 then some (.iaload, 685, 0, 0, 0, 0, 0) else none
  else bif Nat.beq pc 685 then some (.aload 18, 687, 18, 0, 0, 0, 0) else none
  else bif Nat.blt pc 702 then bif Nat.blt pc 693 then bif Nat.blt pc 690 then bif Nat.blt pc 688 then bif Nat.beq pc 687 then some (.aastore, 688, 0, 0, 0, 0, 0) else none
  else bif Nat.beq pc 688 then some (.aload 6, 690, 6, 0, 0, 0, 0) else none
  else bif Nat.blt pc 692 then bif Nat.beq pc 690 then some (.aload 14, 692, 14, 0, 0, 0, 0) else none
  else bif Nat.beq pc 692 then some (.iconst 0, 693, 0, 0, 0, 0, 0) else none
  else bif Nat.blt pc 697 then bif Nat.blt pc 694 then bif Nat.beq pc 693 then some (.iaload, 694, 0, 0, 0, 0, 0) else none
  else bif Nat.beq pc 694 then some (.invokevirtual 232, 697, 44, 2, 8, 0, 0) else none
  else bif Nat.blt pc 699 then bif Nat.beq pc 697 then some (.istore 15, 699, 15, 0, 0, 0, 0) else none
  else bif Nat.blt pc 700 then bif Nat.beq pc 699 then some (.aload_n 3, 700, 3, 0, 0, 0, 0) else none
  else bif Nat.beq pc 700 then some (.iload 12, 702, 12, 0, 0, 0, 0) else none
  else bif Nat.blt pc 711 then bif Nat.blt pc 707 then bif Nat.blt pc 705 then bif Nat.beq pc 702 then some (.invokestatic 290, 705, 117, 2, 140, 0, 0) else none
  else bif Nat.beq pc 705 then some (.iload 15, 707, 15, 0, 0, 0, 0) else none
  else bif Nat.blt pc 710 then bif Nat.beq pc 707 then some (.if_icmp .ne 7, 710, 714, 0, 0, 0, 0) else none
  else bif Nat.beq pc 710 then some (.iconst 1, 711, 0, 0, 0, 1, 0) else none
  else bif Nat.blt pc 715 then bif Nat.blt pc 714 then bif Nat.beq pc 711 then some (.goto 4, 714, 715, 0, 0, 0, 0) else none
  else bif Nat.beq pc 714 then some (.iconst 0, 715, 0, 0, 0, 0, 0) else none
  else bif Nat.blt pc 716 then bif Nat.beq pc 715 then some (.istore_n 1, 716, 1, 0, 0, 0, 0) else none
  else bif Nat.blt pc 719 then bif Nat.beq pc 716 then some (.goto 326, 719, 1042, 0, 0, 0, 0) else none
  else bif Nat.beq pc 719 then some (.aload 5, 721, 5, 0, 0, 0, 0) else none
  else bif Nat.blt pc 758 then bif Nat.blt pc 740 then bif Nat.blt pc 729 then bif Nat.blt pc 725 then bif Nat.blt pc 722 then bif Nat.beq pc 721 then some (.iconst 2, 722, 0, 0, 0, 2, 0) else none
  else bif Nat.beq pc 722 then some (.invokevirtual 121, 725, 62, 2, 10, 0, 0) else none
  else bif Nat.blt pc 728 then bif Nat.beq pc 725 then some (.ifCond .ne 7, 728, 732, 0, 0, 0, 0) else none
  else bif Nat.beq pc 728 then some (.iconst 1, 729, 0, 0, 0, 1, 0) else none
  else bif Nat.blt pc 733 then bif Nat.blt pc 732 then bif Nat.beq pc 729 then some (.goto 4, 732, 733, 0, 0, 0, 0) else none
  else bif Nat.beq pc 732 then some (.iconst 0, 733, 0, 0, 0, 0, 0) else none
  else bif Nat.blt pc 735 then bif Nat.beq pc 733 then some (.istore 11, 735, 11, 0, 0, 0, 0) else none
  else bif Nat.blt pc 737 then bif Nat.beq pc 735 then some (.iload 11, 737, 11, 0, 0, 0, 0) else none
  else bif Nat.beq pc 737 then some (.ifCond .eq 305, 740, 1042, 0, 0, 0, 0) else none
  else bif Nat.blt pc 749 then bif Nat.blt pc 744 then bif Nat.blt pc 741 then bif Nat.beq pc 740 then some (.aload_n 3, 741, 3, 0, 0, 0, 0) else none
  else bif Nat.beq pc 741 then some (.invokevirtual 292, 744, 92, 1, 140, 0, 0) else none
  else bif Nat.blt pc 746 then bif Nat.beq pc 744 then some (.aload 6, 746, 6, 0, 0, 0, 0) else none
  else bif Nat.beq pc 746 then some (.invokevirtual 295, 749, 53, 1, 8, 0, 0) else none
  else bif Nat.blt pc 753 then bif Nat.blt pc 752 then bif Nat.beq pc 749 then some (.if_icmp .ne 7, 752, 756, 0, 0, 0, 0) else none
  else bif Nat.beq pc 752 then some (.iconst 1, 753, 0, 0, 0, 1, 0) else none
  else bif Nat.blt pc 756 then bif Nat.beq pc 753 then some (.goto 4, 756, 757, 0, 0, 0, 0) else none
  else bif Nat.blt pc 757 then bif Nat.beq pc 756 then some (.iconst 0, 757, 0, 0, 0, 0, 0) else none
  else bif Nat.beq pc 757 then some (.istore_n 1, 758, 1, 0, 0, 0, 0) else none
  else bif Nat.blt pc 778 then bif Nat.blt pc 767 then bif Nat.blt pc 763 then bif Nat.blt pc 761 then bif Nat.beq pc 758 then some (.goto 284, 761, 1042, 0, 0, 0, 0) else none
  else bif Nat.beq pc 761 then some (.aload 5, 763, 5, 0, 0, 0, 0) else none
  else bif Nat.blt pc 764 then bif Nat.beq pc 763 then some (.iconst 3, 764, 0, 0, 0, 3, 0) else none
  else bif Nat.beq pc 764 then some (.invokevirtual 121, 767, 62, 2, 10, 0, 0) else none
  else bif Nat.blt pc 771 then bif Nat.blt pc 769 then bif Nat.beq pc 767 then some (.istore 19, 769, 19, 0, 0, 0, 0) else none
  else bif Nat.beq pc 769 then some (.iload 19, 771, 19, 0, 0, 0, 0) else none
  else bif Nat.blt pc 774 then bif Nat.beq pc 771 then some (.ifCond .le 7, 774, 778, 0, 0, 0, 0) else none
  else bif Nat.blt pc 775 then bif Nat.beq pc 774 then some (.iconst 1, 775, 0, 0, 0, 1, 0) else none
  else bif Nat.beq pc 775 then some (.goto 4, 778, 779, 0, 0, 0, 0) else none
  else bif Nat.blt pc 784 then bif Nat.blt pc 781 then bif Nat.blt pc 779 then bif Nat.beq pc 778 then some (.iconst 0, 779, 0, 0, 0, 0, 0) else none
  else bif Nat.beq pc 779 then some (.istore 11, 781, 11, 0, 0, 0, 0) else none
  else bif Nat.blt pc 782 then bif Nat.beq pc 781 then some (.aload_n 3, 782, 3, 0, 0, 0, 0) else none
  else bif Nat.beq pc 782 then some (.iload 19, 784, 19, 0, 0, 0, 0) else none
  else bif Nat.blt pc 789 then bif Nat.blt pc 787 then bif Nat.beq pc 784 then some (.invokestatic 259, 787, 118, 2, 140, 0, 0) else none
  else bif Nat.beq pc 787 then some (.iload 11, 789, 11, 0, 0, 0, 0) else none
  else bif Nat.blt pc 792 then bif Nat.beq pc 789 then some (.ifCond .eq 13, 792, 802, 0, 0, 0, 0) else none
  else bif Nat.blt pc 794 then bif Nat.beq pc 792 then some (.aload 6, 794, 6, 0, 0, 0, 0) else none
  else bif Nat.beq pc 794 then some (.iload 19, 796, 19, 0, 0, 0, 0) else none
  else bif Nat.blt pc 869 then bif Nat.blt pc 833 then bif Nat.blt pc 816 then bif Nat.blt pc 807 then bif Nat.blt pc 802 then bif Nat.blt pc 799 then bif Nat.beq pc 796 then some (.invokevirtual 296, 799, 55, 2, 8, 0, 0) else none
  else bif Nat.beq pc 799 then some (.goto 5, 802, 804, 0, 0, 0, 0) else none
  else bif Nat.blt pc 804 then bif Nat.beq pc 802 then some (.ldc 42, 804, 0, 0, 0, (-2000000098), 0) else none
  else bif Nat.beq pc 804 then some (.if_icmp .ne 7, 807, 811, 0, 0, 0, 0) else none
  else bif Nat.blt pc 811 then bif Nat.blt pc 808 then bif Nat.beq pc 807 then some (.iconst 1, 808, 0, 0, 0, 1, 0) else none
  else bif Nat.beq pc 808 then some (.goto 4, 811, 812, 0, 0, 0, 0) else none
  else bif Nat.blt pc 812 then bif Nat.beq pc 811 then some (.iconst 0, 812, 0, 0, 0, 0, 0) else none
  else bif Nat.blt pc 813 then bif Nat.beq pc 812 then some (.istore_n 1, 813, 1, 0, 0, 0, 0) else none
  else bif Nat.beq pc 813 then some (.goto 229, 816, 1042, 0, 0, 0, 0) else none
  else bif Nat.blt pc 824 then bif Nat.blt pc 820 then bif Nat.blt pc 818 then bif Nat.beq pc 816 then some (.aload 5, 818, 5, 0, 0, 0, 0) else none
  else bif Nat.beq pc 818 then some (.aload 6, 820, 6, 0, 0, 0, 0) else none
  else bif Nat.blt pc 823 then bif Nat.beq pc 820 then some (.getfield 198, 823, 8, 7, 2, 0, 0) else none
  else bif Nat.beq pc 823 then some (.arraylength, 824, 0, 0, 0, 0, 0) else none
  else bif Nat.blt pc 826 then bif Nat.blt pc 825 then bif Nat.beq pc 824 then some (.iconst 1, 825, 0, 0, 0, 1, 0) else none
  else bif Nat.beq pc 825 then some (.iadd, 826, 0, 0, 0, 0, 0) else none
  else bif Nat.blt pc 829 then bif Nat.beq pc 826 then some (.invokevirtual 121, 829, 62, 2, 10, 0, 0) else none
  else bif Nat.blt pc 831 then bif Nat.beq pc 829 then some (.istore 20, 831, 20, 0, 0, 0, 0) else none
  else bif Nat.beq pc 831 then some (.iload 20, 833, 20, 0, 0, 0, 0) else none
  else bif Nat.blt pc 851 then bif Nat.blt pc 842 then bif Nat.blt pc 838 then bif Nat.blt pc 835 then bif Nat.beq pc 833 then some (.aload 6, 835, 6, 0, 0, 0, 0) else none
  else bif Nat.beq pc 835 then some (.getfield 198, 838, 8, 7, 2, 0, 0) else none
  else bif Nat.blt pc 839 then bif Nat.beq pc 838 then some (.arraylength, 839, 0, 0, 0, 0, 0) else none
  else bif Nat.beq pc 839 then some (.if_icmp .ge 7, 842, 846, 0, 0, 0, 0) else none
  else bif Nat.blt pc 846 then bif Nat.blt pc 843 then bif Nat.beq pc 842 then some (.iconst 1, 843, 0, 0, 0, 1, 0) else none
  else bif Nat.beq pc 843 then some (.goto 4, 846, 847, 0, 0, 0, 0) else none
  else bif Nat.blt pc 847 then bif Nat.beq pc 846 then some (.iconst 0, 847, 0, 0, 0, 0, 0) else none
  else bif Nat.blt pc 849 then bif Nat.beq pc 847 then some (.istore 21, 849, 21, 0, 0, 0, 0) else none
  else bif Nat.beq pc 849 then some (.iload 21, 851, 21, 0, 0, 0, 0) else none
  else bif Nat.blt pc 861 then bif Nat.blt pc 856 then bif Nat.blt pc 854 then bif Nat.beq pc 851 then some (.ifCond .eq 36, 854, 887, 0, 0, 0, 0) else none
  else bif Nat.beq pc 854 then some (.aload 5, 856, 5, 0, 0, 0, 0) else none
  else bif Nat.blt pc 858 then bif Nat.beq pc 856 then some (.aload 6, 858, 6, 0, 0, 0, 0) else none
  else bif Nat.beq pc 858 then some (.getfield 198, 861, 8, 7, 2, 0, 0) else none
  else bif Nat.blt pc 864 then bif Nat.blt pc 863 then bif Nat.beq pc 861 then some (.iload 20, 863, 20, 0, 0, 0, 0) else none
  else bif Nat.beq pc 863 then some (.aaload, 864, 0, 0, 0, 0, 0) else none
  else bif Nat.blt pc 865 then bif Nat.beq pc 864 then some (.arraylength, 865, 0, 0, 0, 0, 0) else none
  else bif Nat.blt pc 867 then bif Nat.beq pc 865 then some (.aload 5, 867, 5, 0, 0, 0, 0) else none
  else bif Nat.beq pc 867 then some (.bipush 14, 869, 0, 0, 0, 14, 0) else none
  else bif Nat.blt pc 903 then bif Nat.blt pc 888 then bif Nat.blt pc 879 then bif Nat.blt pc 875 then bif Nat.blt pc 872 then bif Nat.beq pc 869 then some (.invokevirtual 121, 872, 62, 2, 10, 0, 0) else none
  else bif Nat.beq pc 872 then some (.ifCond .ne 7, 875, 879, 0, 0, 0, 0) else none
  else bif Nat.blt pc 876 then bif Nat.beq pc 875 then some (.iconst 2, 876, 0, 0, 0, 2, 0) else none
  else bif Nat.beq pc 876 then some (.goto 4, 879, 880, 0, 0, 0, 0) else none
  else bif Nat.blt pc 881 then bif Nat.blt pc 880 then bif Nat.beq pc 879 then some (.iconst 1, 880, 0, 0, 0, 1, 0) else none
  else bif Nat.beq pc 880 then some (.iadd, 881, 0, 0, 0, 0, 0) else none
  else bif Nat.blt pc 884 then bif Nat.beq pc 881 then some (.invokevirtual 121, 884, 62, 2, 10, 0, 0) else none
  else bif Nat.blt pc 887 then bif Nat.beq pc 884 then some (.goto 4, 887, 888, 0, 0, 0, 0) else none
  else bif Nat.beq pc 887 then some (.iconst 0, 888, 0, 0, 0, 0, 0) else none
  else bif Nat.blt pc 894 then bif Nat.blt pc 891 then bif Nat.blt pc 890 then bif Nat.beq pc 888 then some (.istore 22, 890, 22, 0, 0, 0, 0) else none
  else bif Nat.beq pc 890 then some (.iconst 2, 891, 0, 0, 0, 2, 0) else none
  else bif Nat.blt pc 893 then bif Nat.beq pc 891 then some (.iload 12, 893, 12, 0, 0, 0, 0) else none
  else bif Nat.beq pc 893 then some (.imul, 894, 0, 0, 0, 0, 0) else none
  else bif Nat.blt pc 897 then bif Nat.blt pc 896 then bif Nat.beq pc 894 then some (.aload 5, 896, 5, 0, 0, 0, 0) else none
  else bif Nat.beq pc 896 then some (.iconst 2, 897, 0, 0, 0, 2, 0) else none
  else bif Nat.blt pc 900 then bif Nat.beq pc 897 then some (.invokevirtual 121, 900, 62, 2, 10, 0, 0) else none
  else bif Nat.blt pc 901 then bif Nat.beq pc 900 then some (.iadd, 901, 0, 0, 0, 0, 0) else none
  else bif Nat.beq pc 901 then some (.istore 23, 903, 23, 0, 0, 0, 0) else none
  else bif Nat.blt pc 923 then bif Nat.blt pc 913 then bif Nat.blt pc 908 then bif Nat.blt pc 905 then bif Nat.beq pc 903 then some (.iload 21, 905, 21, 0, 0, 0, 0) else none
  else bif Nat.beq pc 905 then some (.ifCond .eq 26, 908, 931, 0, 0, 0, 0) else none
  else bif Nat.blt pc 910 then bif Nat.beq pc 908 then some (.iload 13, 910, 13, 0, 0, 0, 0) else none
  else bif Nat.beq pc 910 then some (.ifCond .eq 21, 913, 931, 0, 0, 0, 0) else none
  else bif Nat.blt pc 917 then bif Nat.blt pc 915 then bif Nat.beq pc 913 then some (.iload 22, 915, 22, 0, 0, 0, 0) else none
  else bif Nat.beq pc 915 then some (.aload 6, 917, 6, 0, 0, 0, 0) else none
  else bif Nat.blt pc 920 then bif Nat.beq pc 917 then some (.getfield 198, 920, 8, 7, 2, 0, 0) else none
  else bif Nat.blt pc 922 then bif Nat.beq pc 920 then some (.iload 20, 922, 20, 0, 0, 0, 0) else none
  else bif Nat.beq pc 922 then some (.aaload, 923, 0, 0, 0, 0, 0) else none
  else bif Nat.blt pc 931 then bif Nat.blt pc 927 then bif Nat.blt pc 924 then bif Nat.beq pc 923 then some (.arraylength, 924, 0, 0, 0, 0, 0) else none
  else bif Nat.beq pc 924 then some (.if_icmp .gt 7, 927, 931, 0, 0, 0, 0) else none
  else bif Nat.blt pc 928 then bif Nat.beq pc 927 then some (.iconst 1, 928, 0, 0, 0, 1, 0) else none
  else bif Nat.beq pc 928 then some (.goto 4, 931, 932, 0, 0, 0, 0) else none
  else bif Nat.blt pc 934 then bif Nat.blt pc 932 then bif Nat.beq pc 931 then some (.iconst 0, 932, 0, 0, 0, 0, 0) else none
  else bif Nat.beq pc 932 then some (.istore 24, 934, 24, 0, 0, 0, 0) else none
  else bif Nat.blt pc 936 then bif Nat.beq pc 934 then some (.iload 24, 936, 24, 0, 0, 0, 0) else none
  else bif Nat.blt pc 939 then bif Nat.beq pc 936 then some (.ifCond .eq 31, 939, 967, 0, 0, 0, 0) else none
  else bif Nat.beq pc 939 then some (.aload 6, 941, 6, 0, 0, 0, 0) else none
  else bif Nat.blt pc 1090 then bif Nat.blt pc 1021 then bif Nat.blt pc 982 then bif Nat.blt pc 963 then bif Nat.blt pc 951 then bif Nat.blt pc 946 then bif Nat.blt pc 943 then bif Nat.beq pc 941 then some (.iload 12, 943, 12, 0, 0, 0, 0) else none
  else bif Nat.beq pc 943 then some (.invokevirtual 297, 946, 48, 2, 8, 0, 0) else none
  else bif Nat.blt pc 949 then bif Nat.beq pc 946 then some (.ifCond .eq 21, 949, 967, 0, 0, 0, 0) else none
  else bif Nat.beq pc 949 then some (.aload 6, 951, 6, 0, 0, 0, 0) else none
  else bif Nat.blt pc 955 then bif Nat.blt pc 953 then bif Nat.beq pc 951 then some (.iload 20, 953, 20, 0, 0, 0, 0) else none
  else bif Nat.beq pc 953 then some (.iload 22, 955, 22, 0, 0, 0, 0) else none
  else bif Nat.blt pc 957 then bif Nat.beq pc 955 then some (.iload 23, 957, 23, 0, 0, 0, 0) else none
  else bif Nat.blt pc 960 then bif Nat.beq pc 957 then some (.invokevirtual 301, 960, 50, 4, 8, 0, 0) else none
  else bif Nat.beq pc 960 then some (.ifCond .eq 7, 963, 967, 0, 0, 0, 0) else none
  else bif Nat.blt pc 970 then bif Nat.blt pc 967 then bif Nat.blt pc 964 then bif Nat.beq pc 963 then some (.iconst 1, 964, 0, 0, 0, 1, 0) else none
  else bif Nat.beq pc 964 then some (.goto 4, 967, 968, 0, 0, 0, 0) else none
  else bif Nat.blt pc 968 then bif Nat.beq pc 967 then some (.iconst 0, 968, 0, 0, 0, 0, 0) else none
  else bif Nat.beq pc 968 then some (.istore 11, 970, 11, 0, 0, 0, 0) else none
  else bif Nat.blt pc 975 then bif Nat.blt pc 972 then bif Nat.beq pc 970 then some (.iload 24, 972, 24, 0, 0, 0, 0) else none
  else bif Nat.beq pc 972 then some (.ifCond .eq 8, 975, 980, 0, 0, 0, 0) else none
  else bif Nat.blt pc 977 then bif Nat.beq pc 975 then some (.ldc 88, 977, 0, 0, 0, (-2000000099), 0) else none
  else bif Nat.blt pc 980 then bif Nat.beq pc 977 then some (.goto 5, 980, 982, 0, 0, 0, 0) else none
  else bif Nat.beq pc 980 then some (.ldc 49, 982, 0, 0, 0, (-2000000097), 0) else none
  else bif Nat.blt pc 1003 then bif Nat.blt pc 991 then bif Nat.blt pc 986 then bif Nat.blt pc 984 then bif Nat.beq pc 982 then some (.istore 15, 984, 15, 0, 0, 0, 0) else none
  else bif Nat.beq pc 984 then some (.iload 11, 986, 11, 0, 0, 0, 0) else none
  else bif Nat.blt pc 989 then bif Nat.beq pc 986 then some (.ifCond .eq 35, 989, 1021, 0, 0, 0, 0) else none
  else bif Nat.beq pc 989 then some (.aload 6, 991, 6, 0, 0, 0, 0) else none
  else bif Nat.blt pc 996 then bif Nat.blt pc 994 then bif Nat.beq pc 991 then some (.getfield 198, 994, 8, 7, 2, 0, 0) else none
  else bif Nat.beq pc 994 then some (.iload 20, 996, 20, 0, 0, 0, 0) else none
  else bif Nat.blt pc 998 then bif Nat.beq pc 996 then some (.aload 6, 998, 6, 0, 0, 0, 0) else none
  else bif Nat.blt pc 1001 then bif Nat.beq pc 998 then some (.getfield 198, 1001, 8, 7, 2, 0, 0) else none
  else bif Nat.beq pc 1001 then some (.iload 20, 1003, 20, 0, 0, 0, 0) else none
  else bif Nat.blt pc 1011 then bif Nat.blt pc 1006 then bif Nat.blt pc 1004 then bif Nat.beq pc 1003 then some (.aaload, 1004, 0, 0, 0, 0, 0) else none
  else bif Nat.beq pc 1004 then some (.iload 22, 1006, 22, 0, 0, 0, 0) else none
  else bif Nat.blt pc 1008 then bif Nat.beq pc 1006 then some (.iload 23, 1008, 23, 0, 0, 0, 0) else none
  else bif Nat.beq pc 1008 then some (.invokestatic 157, 1011, 69, 3, 99, 0, 0) else none
  else bif Nat.blt pc 1014 then bif Nat.blt pc 1012 then bif Nat.beq pc 1011 then some (.aastore, 1012, 0, 0, 0, 0, 0) else none
  else bif Nat.beq pc 1012 then some (.aload 6, 1014, 6, 0, 0, 0, 0) else none
  else bif Nat.blt pc 1016 then bif Nat.beq pc 1014 then some (.iload 20, 1016, 20, 0, 0, 0, 0) else none
  else bif Nat.blt pc 1019 then bif Nat.beq pc 1016 then some (.invokevirtual 232, 1019, 44, 2, 8, 0, 0) else none
  else bif Nat.beq pc 1019 then some (.istore 15, 1021, 15, 0, 0, 0, 0) else none
  else bif Nat.blt pc 1058 then bif Nat.blt pc 1040 then bif Nat.blt pc 1028 then bif Nat.blt pc 1024 then bif Nat.blt pc 1022 then bif Nat.beq pc 1021 then some (.aload_n 3, 1022, 3, 0, 0, 0, 0) else none
  else bif Nat.beq pc 1022 then some (.iload 20, 1024, 20, 0, 0, 0, 0) else none
  else bif Nat.blt pc 1026 then bif Nat.beq pc 1024 then some (.iload 22, 1026, 22, 0, 0, 0, 0) else none
  else bif Nat.beq pc 1026 then some (.iload 23, 1028, 23, 0, 0, 0, 0) else none
  else bif Nat.blt pc 1033 then bif Nat.blt pc 1031 then bif Nat.beq pc 1028 then some (.invokestatic 256, 1031, 115, 4, 140, 0, 0) else none
  else bif Nat.beq pc 1031 then some (.iload 15, 1033, 15, 0, 0, 0, 0) else none
  else bif Nat.blt pc 1036 then bif Nat.beq pc 1033 then some (.if_icmp .ne 7, 1036, 1040, 0, 0, 0, 0) else none
  else bif Nat.blt pc 1037 then bif Nat.beq pc 1036 then some (.iconst 1, 1037, 0, 0, 0, 1, 0) else none
  else bif Nat.beq pc 1037 then some (.goto 4, 1040, 1041, 0, 0, 0, 0) else none
  else bif Nat.blt pc 1047 then bif Nat.blt pc 1042 then bif Nat.blt pc 1041 then bif Nat.beq pc 1040 then some (.iconst 0, 1041, 0, 0, 0, 0, 0) else none
  else bif Nat.beq pc 1041 then some (.istore_n 1, 1042, 1, 0, 0, 0, 0) else none
  else bif Nat.blt pc 1044 then bif Nat.beq pc 1042 then some (.iload 11, 1044, 11, 0, 0, 0, 0) else none
  else bif Nat.beq pc 1044 then some (.ifCond .eq 39, 1047, 1083, 0, 0, 0, 0) else none
  else bif Nat.blt pc 1051 then bif Nat.blt pc 1049 then bif Nat.beq pc 1047 then some (.bipush 8, 1049, 0, 0, 0, 8, 0) else none
  else bif Nat.beq pc 1049 then some (.istore 16, 1051, 16, 0, 0, 0, 0) else none
  else bif Nat.blt pc 1053 then bif Nat.beq pc 1051 then some (.iload 16, 1053, 16, 0, 0, 0, 0) else none
  else bif Nat.blt pc 1056 then bif Nat.beq pc 1053 then some (.ifCond .le 21, 1056, 1074, 0, 0, 0, 0) else none
  else bif Nat.beq pc 1056 then some (.aload 7, 1058, 7, 0, 0, 0, 0) else none
  else bif Nat.blt pc 1074 then bif Nat.blt pc 1065 then bif Nat.blt pc 1062 then bif Nat.blt pc 1060 then bif Nat.beq pc 1058 then some (.iload 16, 1060, 16, 0, 0, 0, 0) else none
  else bif Nat.beq pc 1060 then some (.aload 7, 1062, 7, 0, 0, 0, 0) else none
  else bif Nat.blt pc 1064 then bif Nat.beq pc 1062 then some (.iload 16, 1064, 16, 0, 0, 0, 0) else none
  else bif Nat.beq pc 1064 then some (.iconst 1, 1065, 0, 0, 0, 1, 0) else none
  else bif Nat.blt pc 1067 then bif Nat.blt pc 1066 then bif Nat.beq pc 1065 then some (.isub, 1066, 0, 0, 0, 0, 0) else none
  else bif Nat.beq pc 1066 then some (.aaload, 1067, 0, 0, 0, 0, 0) else none
  else bif Nat.blt pc 1068 then bif Nat.beq pc 1067 then some (.aastore, 1068, 0, 0, 0, 0, 0) else none
  else bif Nat.blt pc 1071 then bif Nat.beq pc 1068 then some (.iinc 16 (-1), 1071, 16, 0, 1, 1, 0) else none
  else bif Nat.beq pc 1071 then some (.goto (-20), 1074, 1051, 0, 0, 0, 0) else none
  else bif Nat.blt pc 1080 then bif Nat.blt pc 1077 then bif Nat.blt pc 1076 then bif Nat.beq pc 1074 then some (.aload 7, 1076, 7, 0, 0, 0, 0) else none
  else bif Nat.beq pc 1076 then some (.iconst 0, 1077, 0, 0, 0, 0, 0) else none
  else bif Nat.blt pc 1079 then bif Nat.beq pc 1077 then some (.aload 10, 1079, 10, 0, 0, 0, 0) else none
  else bif Nat.beq pc 1079 then some (.aastore, 1080, 0, 0, 0, 0, 0) else none
  else bif Nat.blt pc 1084 then bif Nat.blt pc 1083 then bif Nat.beq pc 1080 then some (.iinc 8 1, 1083, 8, 0, 0, 1, 0) else none
  else bif Nat.beq pc 1083 then some (.iload_n 1, 1084, 1, 0, 0, 0, 0) else none
  else bif Nat.blt pc 1087 then bif Nat.beq pc 1084 then some (.ifCond .eq 16, 1087, 1100, 0, 0, 0, 0) else none
  else bif Nat.blt pc 1088 then bif Nat.beq pc 1087 then some (.aload_n 3, 1088, 3, 0, 0, 0, 0) else none
  else bif Nat.beq pc 1088 then some (.aload 6, 1090, 6, 0, 0, 0, 0) else none
  else bif Nat.blt pc 1165 then bif Nat.blt pc 1129 then bif Nat.blt pc 1109 then bif Nat.blt pc 1100 then bif Nat.blt pc 1096 then bif Nat.blt pc 1093 then bif Nat.beq pc 1090 then some (.invokestatic 244, 1093, 73, 2, 99, 0, 0) else none
  else bif Nat.beq pc 1093 then some (.ifCond .eq 7, 1096, 1100, 0, 0, 0, 0) else none
  else bif Nat.blt pc 1097 then bif Nat.beq pc 1096 then some (.iconst 1, 1097, 0, 0, 0, 1, 0) else none
  else bif Nat.beq pc 1097 then some (.goto 4, 1100, 1101, 0, 0, 0, 0) else none
  else bif Nat.blt pc 1102 then bif Nat.blt pc 1101 then bif Nat.beq pc 1100 then some (.iconst 0, 1101, 0, 0, 0, 0, 0) else none
  else bif Nat.beq pc 1101 then some (.istore_n 1, 1102, 1, 0, 0, 0, 0) else none
  else bif Nat.blt pc 1105 then bif Nat.beq pc 1102 then some (.iinc 9 1, 1105, 9, 0, 0, 1, 0) else none
  else bif Nat.blt pc 1108 then bif Nat.beq pc 1105 then some (.goto (-934), 1108, 171, 0, 0, 0, 0) else none
  else bif Nat.beq pc 1108 then some (.iconst 0, 1109, 0, 0, 0, 0, 0) else none
  else bif Nat.blt pc 1118 then bif Nat.blt pc 1113 then bif Nat.blt pc 1111 then bif Nat.beq pc 1109 then some (.istore 9, 1111, 9, 0, 0, 0, 0) else none
  else bif Nat.beq pc 1111 then some (.iload 9, 1113, 9, 0, 0, 0, 0) else none
  else bif Nat.blt pc 1115 then bif Nat.beq pc 1113 then some (.bipush 8, 1115, 0, 0, 0, 8, 0) else none
  else bif Nat.beq pc 1115 then some (.if_icmp .ge 45, 1118, 1160, 0, 0, 0, 0) else none
  else bif Nat.blt pc 1122 then bif Nat.blt pc 1120 then bif Nat.beq pc 1118 then some (.iload 9, 1120, 9, 0, 0, 0, 0) else none
  else bif Nat.beq pc 1120 then some (.iload 8, 1122, 8, 0, 0, 0, 0) else none
  else bif Nat.blt pc 1125 then bif Nat.beq pc 1122 then some (.if_icmp .ge 38, 1125, 1160, 0, 0, 0, 0) else none
  else bif Nat.blt pc 1126 then bif Nat.beq pc 1125 then some (.iload_n 1, 1126, 1, 0, 0, 0, 0) else none
  else bif Nat.beq pc 1126 then some (.ifCond .eq 34, 1129, 1160, 0, 0, 0, 0) else none
  else bif Nat.blt pc 1148 then bif Nat.blt pc 1137 then bif Nat.blt pc 1133 then bif Nat.blt pc 1130 then bif Nat.beq pc 1129 then some (.aload_n 3, 1130, 3, 0, 0, 0, 0) else none
  else bif Nat.beq pc 1130 then some (.invokevirtual 251, 1133, 94, 1, 140, 0, 0) else none
  else bif Nat.blt pc 1136 then bif Nat.beq pc 1133 then some (.ifCond .lt 19, 1136, 1152, 0, 0, 0, 0) else none
  else bif Nat.beq pc 1136 then some (.aload_n 3, 1137, 3, 0, 0, 0, 0) else none
  else bif Nat.blt pc 1141 then bif Nat.blt pc 1139 then bif Nat.beq pc 1137 then some (.aload 7, 1139, 7, 0, 0, 0, 0) else none
  else bif Nat.beq pc 1139 then some (.iload 9, 1141, 9, 0, 0, 0, 0) else none
  else bif Nat.blt pc 1142 then bif Nat.beq pc 1141 then some (.aaload, 1142, 0, 0, 0, 0, 0) else none
  else bif Nat.blt pc 1145 then bif Nat.beq pc 1142 then some (.invokestatic 244, 1145, 73, 2, 99, 0, 0) else none
  else bif Nat.beq pc 1145 then some (.ifCond .eq 7, 1148, 1152, 0, 0, 0, 0) else none
  else bif Nat.blt pc 1154 then bif Nat.blt pc 1152 then bif Nat.blt pc 1149 then bif Nat.beq pc 1148 then some (.iconst 1, 1149, 0, 0, 0, 1, 0) else none
  else bif Nat.beq pc 1149 then some (.goto 4, 1152, 1153, 0, 0, 0, 0) else none
  else bif Nat.blt pc 1153 then bif Nat.beq pc 1152 then some (.iconst 0, 1153, 0, 0, 0, 0, 0) else none
  else bif Nat.beq pc 1153 then some (.istore_n 1, 1154, 1, 0, 0, 0, 0) else none
  else bif Nat.blt pc 1160 then bif Nat.blt pc 1157 then bif Nat.beq pc 1154 then some (.iinc 9 1, 1157, 9, 0, 0, 1, 0) else none
  else bif Nat.beq pc 1157 then some (.goto (-46), 1160, 1111, 0, 0, 0, 0) else none
  else bif Nat.blt pc 1161 then bif Nat.beq pc 1160 then some (.iload_n 1, 1161, 1, 0, 0, 0, 0) else none
  else bif Nat.blt pc 1164 then bif Nat.beq pc 1161 then some (.ifCond .eq 69, 1164, 1230, 0, 0, 0, 0) else none
  else bif Nat.beq pc 1164 then some (.aload_n 3, 1165, 3, 0, 0, 0, 0) else none
  else bif Nat.blt pc 1198 then bif Nat.blt pc 1182 then bif Nat.blt pc 1174 then bif Nat.blt pc 1169 then bif Nat.blt pc 1166 then bif Nat.beq pc 1165 then some (.iconst 1, 1166, 0, 0, 0, 1, 0) else none
  else bif Nat.beq pc 1166 then some (.invokestatic 19, 1169, 104, 2, 140, 0, 0) else none
  else bif Nat.blt pc 1171 then bif Nat.beq pc 1169 then some (.ldc 42, 1171, 0, 0, 0, (-2000000098), 0) else none
  else bif Nat.beq pc 1171 then some (.if_icmp .ne 59, 1174, 1230, 0, 0, 0, 0) else none
  else bif Nat.blt pc 1176 then bif Nat.blt pc 1175 then bif Nat.beq pc 1174 then some (.aload_n 3, 1175, 3, 0, 0, 0, 0) else none
  else bif Nat.beq pc 1175 then some (.iconst 0, 1176, 0, 0, 0, 0, 0) else none
  else bif Nat.blt pc 1177 then bif Nat.beq pc 1176 then some (.iconst 5, 1177, 0, 0, 0, 5, 0) else none
  else bif Nat.blt pc 1180 then bif Nat.beq pc 1177 then some (.invokestatic 305, 1180, 105, 3, 140, 0, 0) else none
  else bif Nat.beq pc 1180 then some (.ldc 42, 1182, 0, 0, 0, (-2000000098), 0) else none
  else bif Nat.blt pc 1188 then bif Nat.blt pc 1186 then bif Nat.blt pc 1185 then bif Nat.beq pc 1182 then some (.if_icmp .ne 48, 1185, 1230, 0, 0, 0, 0) else none
  else bif Nat.beq pc 1185 then some (.aload_n 3, 1186, 3, 0, 0, 0, 0) else none
  else bif Nat.blt pc 1187 then bif Nat.beq pc 1186 then some (.iconst (-1), 1187, 0, 0, 0, (-1), 0) else none
  else bif Nat.beq pc 1187 then some (.iconst 5, 1188, 0, 0, 0, 5, 0) else none
  else bif Nat.blt pc 1193 then bif Nat.blt pc 1191 then bif Nat.beq pc 1188 then some (.invokestatic 305, 1191, 105, 3, 140, 0, 0) else none
  else bif Nat.beq pc 1191 then some (.ldc 49, 1193, 0, 0, 0, (-2000000097), 0) else none
  else bif Nat.blt pc 1196 then bif Nat.beq pc 1193 then some (.if_icmp .ne 37, 1196, 1230, 0, 0, 0, 0) else none
  else bif Nat.blt pc 1197 then bif Nat.beq pc 1196 then some (.aload_n 3, 1197, 3, 0, 0, 0, 0) else none
  else bif Nat.beq pc 1197 then some (.iconst 0, 1198, 0, 0, 0, 0, 0) else none
  else bif Nat.blt pc 1218 then bif Nat.blt pc 1208 then bif Nat.blt pc 1203 then bif Nat.blt pc 1200 then bif Nat.beq pc 1198 then some (.aload 6, 1200, 6, 0, 0, 0, 0) else none
  else bif Nat.beq pc 1200 then some (.invokevirtual 307, 1203, 32, 1, 8, 0, 0) else none
  else bif Nat.blt pc 1206 then bif Nat.beq pc 1203 then some (.invokestatic 310, 1206, 106, 3, 140, 0, 0) else none
  else bif Nat.beq pc 1206 then some (.ldc 49, 1208, 0, 0, 0, (-2000000097), 0) else none
  else bif Nat.blt pc 1212 then bif Nat.blt pc 1211 then bif Nat.beq pc 1208 then some (.if_icmp .ne 22, 1211, 1230, 0, 0, 0, 0) else none
  else bif Nat.beq pc 1211 then some (.aload_n 3, 1212, 3, 0, 0, 0, 0) else none
  else bif Nat.blt pc 1214 then bif Nat.beq pc 1212 then some (.aload 6, 1214, 6, 0, 0, 0, 0) else none
  else bif Nat.blt pc 1217 then bif Nat.beq pc 1214 then some (.getfield 139, 1217, 8, 3, 2, 0, 0) else none
  else bif Nat.beq pc 1217 then some (.arraylength, 1218, 0, 0, 0, 0, 0) else none
  else bif Nat.blt pc 1227 then bif Nat.blt pc 1223 then bif Nat.blt pc 1221 then bif Nat.beq pc 1218 then some (.invokestatic 312, 1221, 113, 2, 140, 0, 0) else none
  else bif Nat.beq pc 1221 then some (.ldc 49, 1223, 0, 0, 0, (-2000000097), 0) else none
  else bif Nat.blt pc 1226 then bif Nat.beq pc 1223 then some (.if_icmp .ne 7, 1226, 1230, 0, 0, 0, 0) else none
  else bif Nat.beq pc 1226 then some (.iconst 1, 1227, 0, 0, 0, 1, 0) else none
  else bif Nat.blt pc 1231 then bif Nat.blt pc 1230 then bif Nat.beq pc 1227 then some (.goto 4, 1230, 1231, 0, 0, 0, 0) else none
  else bif Nat.beq pc 1230 then some (.iconst 0, 1231, 0, 0, 0, 0, 0) else none
  else bif Nat.blt pc 1232 then bif Nat.beq pc 1231 then some (.istore_n 1, 1232, 1, 0, 0, 0, 0) else none
  else bif Nat.blt pc 1235 then bif Nat.beq pc 1232 then some (.iinc 2 1, 1235, 2, 0, 0, 1, 0) else none
  else bif Nat.beq pc 1235 then some (.goto (-1231), 1238, 4, 0, 0, 0, 0) else none
def gmi_L_law : gMI := gwrap 1236 gcd_L_law 2 25
def glenOf (k : Nat) : Nat :=
  bif Nat.blt k 75 then
  bif Nat.blt k 37 then bif Nat.blt k 18 then bif Nat.blt k 9 then bif Nat.blt k 4 then bif Nat.blt k 2 then bif Nat.blt k 1 then bif Nat.beq k 0 then 21 else 0
  else bif Nat.beq k 1 then 15 else 0
  else bif Nat.blt k 3 then bif Nat.beq k 2 then 44 else 0
  else bif Nat.beq k 3 then 7 else 0
  else bif Nat.blt k 6 then bif Nat.blt k 5 then bif Nat.beq k 4 then 98 else 0
  else bif Nat.beq k 5 then 19 else 0
  else bif Nat.blt k 7 then bif Nat.beq k 6 then 11 else 0
  else bif Nat.blt k 8 then bif Nat.beq k 7 then 15 else 0
  else bif Nat.beq k 8 then 8 else 0
  else bif Nat.blt k 13 then bif Nat.blt k 11 then bif Nat.blt k 10 then bif Nat.beq k 9 then 8 else 0
  else bif Nat.beq k 10 then 7 else 0
  else bif Nat.blt k 12 then bif Nat.beq k 11 then 5 else 0
  else bif Nat.beq k 12 then 9 else 0
  else bif Nat.blt k 15 then bif Nat.blt k 14 then bif Nat.beq k 13 then 55 else 0
  else bif Nat.beq k 14 then 45 else 0
  else bif Nat.blt k 16 then bif Nat.beq k 15 then 39 else 0
  else bif Nat.blt k 17 then bif Nat.beq k 16 then 5 else 0
  else bif Nat.beq k 17 then 22 else 0
  else bif Nat.blt k 27 then bif Nat.blt k 22 then bif Nat.blt k 20 then bif Nat.blt k 19 then bif Nat.beq k 18 then 39 else 0
  else bif Nat.beq k 19 then 19 else 0
  else bif Nat.blt k 21 then bif Nat.beq k 20 then 5 else 0
  else bif Nat.beq k 21 then 59 else 0
  else bif Nat.blt k 24 then bif Nat.blt k 23 then bif Nat.beq k 22 then 19 else 0
  else bif Nat.beq k 23 then 121 else 0
  else bif Nat.blt k 25 then bif Nat.beq k 24 then 47 else 0
  else bif Nat.blt k 26 then bif Nat.beq k 25 then 38 else 0
  else bif Nat.beq k 26 then 33 else 0
  else bif Nat.blt k 32 then bif Nat.blt k 29 then bif Nat.blt k 28 then bif Nat.beq k 27 then 25 else 0
  else bif Nat.beq k 28 then 33 else 0
  else bif Nat.blt k 30 then bif Nat.beq k 29 then 23 else 0
  else bif Nat.blt k 31 then bif Nat.beq k 30 then 43 else 0
  else bif Nat.beq k 31 then 88 else 0
  else bif Nat.blt k 34 then bif Nat.blt k 33 then bif Nat.beq k 32 then 8 else 0
  else bif Nat.beq k 33 then 13 else 0
  else bif Nat.blt k 35 then bif Nat.beq k 34 then 15 else 0
  else bif Nat.blt k 36 then bif Nat.beq k 35 then 15 else 0
  else bif Nat.beq k 36 then 11 else 0
  else bif Nat.blt k 56 then bif Nat.blt k 46 then bif Nat.blt k 41 then bif Nat.blt k 39 then bif Nat.blt k 38 then bif Nat.beq k 37 then 82 else 0
  else bif Nat.beq k 38 then 193 else 0
  else bif Nat.blt k 40 then bif Nat.beq k 39 then 33 else 0
  else bif Nat.beq k 40 then 69 else 0
  else bif Nat.blt k 43 then bif Nat.blt k 42 then bif Nat.beq k 41 then 64 else 0
  else bif Nat.beq k 42 then 55 else 0
  else bif Nat.blt k 44 then bif Nat.beq k 43 then 83 else 0
  else bif Nat.blt k 45 then bif Nat.beq k 44 then 17 else 0
  else bif Nat.beq k 45 then 29 else 0
  else bif Nat.blt k 51 then bif Nat.blt k 48 then bif Nat.blt k 47 then bif Nat.beq k 46 then 46 else 0
  else bif Nat.beq k 47 then 64 else 0
  else bif Nat.blt k 49 then bif Nat.beq k 48 then 25 else 0
  else bif Nat.blt k 50 then bif Nat.beq k 49 then 32 else 0
  else bif Nat.beq k 50 then 50 else 0
  else bif Nat.blt k 53 then bif Nat.blt k 52 then bif Nat.beq k 51 then 144 else 0
  else bif Nat.beq k 52 then 26 else 0
  else bif Nat.blt k 54 then bif Nat.beq k 53 then 54 else 0
  else bif Nat.blt k 55 then bif Nat.beq k 54 then 71 else 0
  else bif Nat.beq k 55 then 125 else 0
  else bif Nat.blt k 65 then bif Nat.blt k 60 then bif Nat.blt k 58 then bif Nat.blt k 57 then bif Nat.beq k 56 then 108 else 0
  else bif Nat.beq k 57 then 5 else 0
  else bif Nat.blt k 59 then bif Nat.beq k 58 then 102 else 0
  else bif Nat.beq k 59 then 174 else 0
  else bif Nat.blt k 62 then bif Nat.blt k 61 then bif Nat.beq k 60 then 126 else 0
  else bif Nat.beq k 61 then 10 else 0
  else bif Nat.blt k 63 then bif Nat.beq k 62 then 25 else 0
  else bif Nat.blt k 64 then bif Nat.beq k 63 then 50 else 0
  else bif Nat.beq k 64 then 39 else 0
  else bif Nat.blt k 70 then bif Nat.blt k 67 then bif Nat.blt k 66 then bif Nat.beq k 65 then 26 else 0
  else bif Nat.beq k 66 then 27 else 0
  else bif Nat.blt k 68 then bif Nat.beq k 67 then 45 else 0
  else bif Nat.blt k 69 then bif Nat.beq k 68 then 35 else 0
  else bif Nat.beq k 69 then 58 else 0
  else bif Nat.blt k 72 then bif Nat.blt k 71 then bif Nat.beq k 70 then 40 else 0
  else bif Nat.beq k 71 then 59 else 0
  else bif Nat.blt k 73 then bif Nat.beq k 72 then 503 else 0
  else bif Nat.blt k 74 then bif Nat.beq k 73 then 305 else 0
  else bif Nat.beq k 74 then 1236 else 0
  else 0
def gcdOf (k : Nat) : Nat → Option PE :=
  bif Nat.blt k 37 then bif Nat.blt k 18 then bif Nat.blt k 9 then bif Nat.blt k 4 then bif Nat.blt k 2 then bif Nat.blt k 1 then bif Nat.beq k 0 then gcd_J0_charAt_5068e else (fun _ => none)
  else bif Nat.beq k 1 then gcd_J0_coder_7d493 else (fun _ => none)
  else bif Nat.blt k 3 then bif Nat.beq k 2 then gcd_J0_getBytes_840e7 else (fun _ => none)
  else bif Nat.beq k 3 then gcd_J0_init_81219 else (fun _ => none)
  else bif Nat.blt k 6 then bif Nat.blt k 5 then bif Nat.beq k 4 then gcd_J0_init_db425 else (fun _ => none)
  else bif Nat.beq k 5 then gcd_J0_isLatin1_aae02 else (fun _ => none)
  else bif Nat.blt k 7 then bif Nat.beq k 6 then gcd_J0_length_8abf5 else (fun _ => none)
  else bif Nat.blt k 8 then bif Nat.beq k 7 then gcd_J1_charAt_3b067 else (fun _ => none)
  else bif Nat.beq k 8 then gcd_J4_append_15ec4 else (fun _ => none)
  else bif Nat.blt k 13 then bif Nat.blt k 11 then bif Nat.blt k 10 then bif Nat.beq k 9 then gcd_J4_append_bf812 else (fun _ => none)
  else bif Nat.beq k 10 then gcd_J4_init_da8c8 else (fun _ => none)
  else bif Nat.blt k 12 then bif Nat.beq k 11 then gcd_J4_length_8abf5 else (fun _ => none)
  else bif Nat.beq k 12 then gcd_J4_toString_0e30d else (fun _ => none)
  else bif Nat.blt k 15 then bif Nat.blt k 14 then bif Nat.beq k 13 then gcd_J5_append_c97b9 else (fun _ => none)
  else bif Nat.beq k 14 then gcd_J5_append_cf1ce else (fun _ => none)
  else bif Nat.blt k 16 then bif Nat.beq k 15 then gcd_J5_ensureCapacityInternal_d00df else (fun _ => none)
  else bif Nat.blt k 17 then bif Nat.beq k 16 then gcd_J5_getValue_6d5f1 else (fun _ => none)
  else bif Nat.beq k 17 then gcd_J5_inflateIfNeededFor_a7421 else (fun _ => none)
  else bif Nat.blt k 27 then bif Nat.blt k 22 then bif Nat.blt k 20 then bif Nat.blt k 19 then bif Nat.beq k 18 then gcd_J5_init_d00df else (fun _ => none)
  else bif Nat.beq k 19 then gcd_J5_isLatin1_aae02 else (fun _ => none)
  else bif Nat.blt k 21 then bif Nat.beq k 20 then gcd_J5_length_8abf5 else (fun _ => none)
  else bif Nat.beq k 21 then gcd_J5_newCapacity_0f7a4 else (fun _ => none)
  else bif Nat.blt k 24 then bif Nat.blt k 23 then bif Nat.beq k 22 then gcd_J5_putStringAt_47b60 else (fun _ => none)
  else bif Nat.beq k 23 then gcd_J6_getChars_ba4f3 else (fun _ => none)
  else bif Nat.blt k 25 then bif Nat.beq k 24 then gcd_J6_stringSize_0f7a4 else (fun _ => none)
  else bif Nat.blt k 26 then bif Nat.beq k 25 then gcd_J7_checkLength_df160 else (fun _ => none)
  else bif Nat.beq k 26 then gcd_J7_copyOfRangeByte_39247 else (fun _ => none)
  else bif Nat.blt k 32 then bif Nat.blt k 29 then bif Nat.blt k 28 then bif Nat.beq k 27 then gcd_J7_copyOfRange_39247 else (fun _ => none)
  else bif Nat.beq k 28 then gcd_J7_copyOf_9075b else (fun _ => none)
  else bif Nat.blt k 30 then bif Nat.beq k 29 then gcd_J8_newLength_cabcc else (fun _ => none)
  else bif Nat.blt k 31 then bif Nat.beq k 30 then gcd_X8_init else (fun _ => none)
  else bif Nat.beq k 31 then gcd_X8_copy else (fun _ => none)
  else bif Nat.blt k 34 then bif Nat.blt k 33 then bif Nat.beq k 32 then gcd_X8_arcs else (fun _ => none)
  else bif Nat.beq k 33 then gcd_X8_from else (fun _ => none)
  else bif Nat.blt k 35 then bif Nat.beq k 34 then gcd_X8_to else (fun _ => none)
  else bif Nat.blt k 36 then bif Nat.beq k 35 then gcd_X8_cost else (fun _ => none)
  else bif Nat.beq k 36 then gcd_X8_demand else (fun _ => none)
  else bif Nat.blt k 56 then bif Nat.blt k 46 then bif Nat.blt k 41 then bif Nat.blt k 39 then bif Nat.blt k 38 then bif Nat.beq k 37 then gcd_X8_mayTurn else (fun _ => none)
  else bif Nat.beq k 38 then gcd_X8_solve else (fun _ => none)
  else bif Nat.blt k 40 then bif Nat.beq k 39 then gcd_X8_gap else (fun _ => none)
  else bif Nat.beq k 40 then gcd_X8_reach else (fun _ => none)
  else bif Nat.blt k 43 then bif Nat.blt k 42 then bif Nat.beq k 41 then gcd_X8_back else (fun _ => none)
  else bif Nat.beq k 42 then gcd_X8_work else (fun _ => none)
  else bif Nat.blt k 44 then bif Nat.beq k 43 then gcd_X8_price else (fun _ => none)
  else bif Nat.blt k 45 then bif Nat.beq k 44 then gcd_X8_price_ else (fun _ => none)
  else bif Nat.beq k 45 then gcd_X8_total else (fun _ => none)
  else bif Nat.blt k 51 then bif Nat.blt k 48 then bif Nat.blt k 47 then bif Nat.beq k 46 then gcd_X8_load else (fun _ => none)
  else bif Nat.beq k 47 then gcd_X8_where else (fun _ => none)
  else bif Nat.blt k 49 then bif Nat.beq k 48 then gcd_X8_isOpen else (fun _ => none)
  else bif Nat.blt k 50 then bif Nat.beq k 49 then gcd_X8_open else (fun _ => none)
  else bif Nat.beq k 50 then gcd_X8_fits else (fun _ => none)
  else bif Nat.blt k 53 then bif Nat.blt k 52 then bif Nat.beq k 51 then gcd_X8_best else (fun _ => none)
  else bif Nat.beq k 52 then gcd_X8_put else (fun _ => none)
  else bif Nat.blt k 54 then bif Nat.beq k 53 then gcd_X8_build else (fun _ => none)
  else bif Nat.blt k 55 then bif Nat.beq k 54 then gcd_X8_changed else (fun _ => none)
  else bif Nat.beq k 55 then gcd_X8_improve else (fun _ => none)
  else bif Nat.blt k 65 then bif Nat.blt k 60 then bif Nat.blt k 58 then bif Nat.blt k 57 then bif Nat.beq k 56 then gcd_X8_sum else (fun _ => none)
  else bif Nat.beq k 57 then gcd_X9_init else (fun _ => none)
  else bif Nat.blt k 59 then bif Nat.beq k 58 then gcd_X9_random else (fun _ => none)
  else bif Nat.beq k 59 then gcd_X9_text else (fun _ => none)
  else bif Nat.blt k 62 then bif Nat.blt k 61 then bif Nat.beq k 60 then gcd_X9_value else (fun _ => none)
  else bif Nat.beq k 61 then gcd_X10_init else (fun _ => none)
  else bif Nat.blt k 63 then bif Nat.beq k 62 then gcd_X10_below else (fun _ => none)
  else bif Nat.blt k 64 then bif Nat.beq k 63 then gcd_L_put else (fun _ => none)
  else bif Nat.beq k 64 then gcd_L_flush else (fun _ => none)
  else bif Nat.blt k 70 then bif Nat.blt k 67 then bif Nat.blt k 66 then bif Nat.beq k 65 then gcd_L_loadText else (fun _ => none)
  else bif Nat.beq k 66 then gcd_L_write else (fun _ => none)
  else bif Nat.blt k 68 then bif Nat.beq k 67 then gcd_L_writeNumber else (fun _ => none)
  else bif Nat.blt k 69 then bif Nat.beq k 68 then gcd_L_with else (fun _ => none)
  else bif Nat.beq k 69 then gcd_L_inserted else (fun _ => none)
  else bif Nat.blt k 72 then bif Nat.blt k 71 then bif Nat.beq k 70 then gcd_L_without else (fun _ => none)
  else bif Nat.beq k 71 then gcd_L_writeNumbers else (fun _ => none)
  else bif Nat.blt k 73 then bif Nat.beq k 72 then gcd_L_randomCity else (fun _ => none)
  else bif Nat.blt k 74 then bif Nat.beq k 73 then gcd_L_agrees else (fun _ => none)
  else bif Nat.beq k 74 then gcd_L_law else (fun _ => none)
def grtOf (k : Nat) : Nat :=
  bif Nat.blt k 37 then bif Nat.blt k 18 then bif Nat.blt k 9 then bif Nat.blt k 4 then bif Nat.blt k 2 then bif Nat.blt k 1 then bif Nat.beq k 0 then 5 else 0
  else bif Nat.beq k 1 then 6 else 0
  else bif Nat.blt k 3 then bif Nat.beq k 2 then 0 else 0
  else bif Nat.beq k 3 then 0 else 0
  else bif Nat.blt k 6 then bif Nat.blt k 5 then bif Nat.beq k 4 then 0 else 0
  else bif Nat.beq k 5 then 2 else 0
  else bif Nat.blt k 7 then bif Nat.beq k 6 then 1 else 0
  else bif Nat.blt k 8 then bif Nat.beq k 7 then 5 else 0
  else bif Nat.beq k 8 then 4 else 0
  else bif Nat.blt k 13 then bif Nat.blt k 11 then bif Nat.blt k 10 then bif Nat.beq k 9 then 4 else 0
  else bif Nat.beq k 10 then 0 else 0
  else bif Nat.blt k 12 then bif Nat.beq k 11 then 1 else 0
  else bif Nat.beq k 12 then 4 else 0
  else bif Nat.blt k 15 then bif Nat.blt k 14 then bif Nat.beq k 13 then 4 else 0
  else bif Nat.beq k 14 then 4 else 0
  else bif Nat.blt k 16 then bif Nat.beq k 15 then 0 else 0
  else bif Nat.blt k 17 then bif Nat.beq k 16 then 4 else 0
  else bif Nat.beq k 17 then 0 else 0
  else bif Nat.blt k 27 then bif Nat.blt k 22 then bif Nat.blt k 20 then bif Nat.blt k 19 then bif Nat.beq k 18 then 0 else 0
  else bif Nat.beq k 19 then 2 else 0
  else bif Nat.blt k 21 then bif Nat.beq k 20 then 1 else 0
  else bif Nat.beq k 21 then 1 else 0
  else bif Nat.blt k 24 then bif Nat.blt k 23 then bif Nat.beq k 22 then 0 else 0
  else bif Nat.beq k 23 then 1 else 0
  else bif Nat.blt k 25 then bif Nat.beq k 24 then 1 else 0
  else bif Nat.blt k 26 then bif Nat.beq k 25 then 0 else 0
  else bif Nat.beq k 26 then 4 else 0
  else bif Nat.blt k 32 then bif Nat.blt k 29 then bif Nat.blt k 28 then bif Nat.beq k 27 then 4 else 0
  else bif Nat.beq k 28 then 4 else 0
  else bif Nat.blt k 30 then bif Nat.beq k 29 then 1 else 0
  else bif Nat.blt k 31 then bif Nat.beq k 30 then 0 else 0
  else bif Nat.beq k 31 then 4 else 0
  else bif Nat.blt k 34 then bif Nat.blt k 33 then bif Nat.beq k 32 then 1 else 0
  else bif Nat.beq k 33 then 1 else 0
  else bif Nat.blt k 35 then bif Nat.beq k 34 then 1 else 0
  else bif Nat.blt k 36 then bif Nat.beq k 35 then 1 else 0
  else bif Nat.beq k 36 then 1 else 0
  else bif Nat.blt k 56 then bif Nat.blt k 46 then bif Nat.blt k 41 then bif Nat.blt k 39 then bif Nat.blt k 38 then bif Nat.beq k 37 then 2 else 0
  else bif Nat.beq k 38 then 0 else 0
  else bif Nat.blt k 40 then bif Nat.beq k 39 then 1 else 0
  else bif Nat.beq k 40 then 1 else 0
  else bif Nat.blt k 43 then bif Nat.blt k 42 then bif Nat.beq k 41 then 1 else 0
  else bif Nat.beq k 42 then 1 else 0
  else bif Nat.blt k 44 then bif Nat.beq k 43 then 1 else 0
  else bif Nat.blt k 45 then bif Nat.beq k 44 then 1 else 0
  else bif Nat.beq k 45 then 1 else 0
  else bif Nat.blt k 51 then bif Nat.blt k 48 then bif Nat.blt k 47 then bif Nat.beq k 46 then 1 else 0
  else bif Nat.beq k 47 then 4 else 0
  else bif Nat.blt k 49 then bif Nat.beq k 48 then 2 else 0
  else bif Nat.blt k 50 then bif Nat.beq k 49 then 1 else 0
  else bif Nat.beq k 50 then 2 else 0
  else bif Nat.blt k 53 then bif Nat.blt k 52 then bif Nat.beq k 51 then 4 else 0
  else bif Nat.beq k 52 then 0 else 0
  else bif Nat.blt k 54 then bif Nat.beq k 53 then 1 else 0
  else bif Nat.blt k 55 then bif Nat.beq k 54 then 4 else 0
  else bif Nat.beq k 55 then 1 else 0
  else bif Nat.blt k 65 then bif Nat.blt k 60 then bif Nat.blt k 58 then bif Nat.blt k 57 then bif Nat.beq k 56 then 3 else 0
  else bif Nat.beq k 57 then 0 else 0
  else bif Nat.blt k 59 then bif Nat.beq k 58 then 4 else 0
  else bif Nat.beq k 59 then 4 else 0
  else bif Nat.blt k 62 then bif Nat.blt k 61 then bif Nat.beq k 60 then 3 else 0
  else bif Nat.beq k 61 then 0 else 0
  else bif Nat.blt k 63 then bif Nat.beq k 62 then 1 else 0
  else bif Nat.blt k 64 then bif Nat.beq k 63 then 0 else 0
  else bif Nat.beq k 64 then 0 else 0
  else bif Nat.blt k 70 then bif Nat.blt k 67 then bif Nat.blt k 66 then bif Nat.beq k 65 then 1 else 0
  else bif Nat.beq k 66 then 0 else 0
  else bif Nat.blt k 68 then bif Nat.beq k 67 then 0 else 0
  else bif Nat.blt k 69 then bif Nat.beq k 68 then 4 else 0
  else bif Nat.beq k 69 then 4 else 0
  else bif Nat.blt k 72 then bif Nat.blt k 71 then bif Nat.beq k 70 then 4 else 0
  else bif Nat.beq k 71 then 0 else 0
  else bif Nat.blt k 73 then bif Nat.beq k 72 then 4 else 0
  else bif Nat.blt k 74 then bif Nat.beq k 73 then 2 else 0
  else bif Nat.beq k 74 then 2 else 0
def gnLOf (k : Nat) : Nat :=
  bif Nat.blt k 37 then bif Nat.blt k 18 then bif Nat.blt k 9 then bif Nat.blt k 4 then bif Nat.blt k 2 then bif Nat.blt k 1 then bif Nat.beq k 0 then 2 else 0
  else bif Nat.beq k 1 then 1 else 0
  else bif Nat.blt k 3 then bif Nat.beq k 2 then 4 else 0
  else bif Nat.beq k 3 then 2 else 0
  else bif Nat.blt k 6 then bif Nat.blt k 5 then bif Nat.beq k 4 then 5 else 0
  else bif Nat.beq k 5 then 1 else 0
  else bif Nat.blt k 7 then bif Nat.beq k 6 then 1 else 0
  else bif Nat.blt k 8 then bif Nat.beq k 7 then 2 else 0
  else bif Nat.beq k 8 then 2 else 0
  else bif Nat.blt k 13 then bif Nat.blt k 11 then bif Nat.blt k 10 then bif Nat.beq k 9 then 2 else 0
  else bif Nat.beq k 10 then 1 else 0
  else bif Nat.blt k 12 then bif Nat.beq k 11 then 1 else 0
  else bif Nat.beq k 12 then 1 else 0
  else bif Nat.blt k 15 then bif Nat.blt k 14 then bif Nat.beq k 13 then 4 else 0
  else bif Nat.beq k 14 then 3 else 0
  else bif Nat.blt k 16 then bif Nat.beq k 15 then 3 else 0
  else bif Nat.blt k 17 then bif Nat.beq k 16 then 1 else 0
  else bif Nat.beq k 17 then 2 else 0
  else bif Nat.blt k 27 then bif Nat.blt k 22 then bif Nat.blt k 20 then bif Nat.blt k 19 then bif Nat.beq k 18 then 2 else 0
  else bif Nat.beq k 19 then 1 else 0
  else bif Nat.blt k 21 then bif Nat.beq k 20 then 1 else 0
  else bif Nat.beq k 21 then 6 else 0
  else bif Nat.blt k 24 then bif Nat.blt k 23 then bif Nat.beq k 22 then 3 else 0
  else bif Nat.beq k 23 then 7 else 0
  else bif Nat.blt k 25 then bif Nat.beq k 24 then 4 else 0
  else bif Nat.blt k 26 then bif Nat.beq k 25 then 2 else 0
  else bif Nat.beq k 26 then 5 else 0
  else bif Nat.blt k 32 then bif Nat.blt k 29 then bif Nat.blt k 28 then bif Nat.beq k 27 then 3 else 0
  else bif Nat.beq k 28 then 3 else 0
  else bif Nat.blt k 30 then bif Nat.beq k 29 then 4 else 0
  else bif Nat.blt k 31 then bif Nat.beq k 30 then 1 else 0
  else bif Nat.beq k 31 then 2 else 0
  else bif Nat.blt k 34 then bif Nat.blt k 33 then bif Nat.beq k 32 then 1 else 0
  else bif Nat.beq k 33 then 2 else 0
  else bif Nat.blt k 35 then bif Nat.beq k 34 then 2 else 0
  else bif Nat.blt k 36 then bif Nat.beq k 35 then 2 else 0
  else bif Nat.beq k 36 then 2 else 0
  else bif Nat.blt k 56 then bif Nat.blt k 46 then bif Nat.blt k 41 then bif Nat.blt k 39 then bif Nat.blt k 38 then bif Nat.beq k 37 then 7 else 0
  else bif Nat.beq k 38 then 6 else 0
  else bif Nat.blt k 40 then bif Nat.beq k 39 then 3 else 0
  else bif Nat.beq k 40 then 5 else 0
  else bif Nat.blt k 43 then bif Nat.blt k 42 then bif Nat.beq k 41 then 5 else 0
  else bif Nat.beq k 42 then 2 else 0
  else bif Nat.blt k 44 then bif Nat.beq k 43 then 5 else 0
  else bif Nat.blt k 45 then bif Nat.beq k 44 then 2 else 0
  else bif Nat.beq k 45 then 3 else 0
  else bif Nat.blt k 51 then bif Nat.blt k 48 then bif Nat.blt k 47 then bif Nat.beq k 46 then 7 else 0
  else bif Nat.beq k 47 then 4 else 0
  else bif Nat.blt k 49 then bif Nat.beq k 48 then 2 else 0
  else bif Nat.blt k 50 then bif Nat.beq k 49 then 3 else 0
  else bif Nat.beq k 50 then 4 else 0
  else bif Nat.blt k 53 then bif Nat.blt k 52 then bif Nat.beq k 51 then 7 else 0
  else bif Nat.beq k 52 then 2 else 0
  else bif Nat.blt k 54 then bif Nat.beq k 53 then 4 else 0
  else bif Nat.blt k 55 then bif Nat.beq k 54 then 5 else 0
  else bif Nat.beq k 55 then 7 else 0
  else bif Nat.blt k 65 then bif Nat.blt k 60 then bif Nat.blt k 58 then bif Nat.blt k 57 then bif Nat.beq k 56 then 8 else 0
  else bif Nat.beq k 57 then 1 else 0
  else bif Nat.blt k 59 then bif Nat.beq k 58 then 3 else 0
  else bif Nat.beq k 59 then 4 else 0
  else bif Nat.blt k 62 then bif Nat.blt k 61 then bif Nat.beq k 60 then 8 else 0
  else bif Nat.beq k 61 then 2 else 0
  else bif Nat.blt k 63 then bif Nat.beq k 62 then 2 else 0
  else bif Nat.blt k 64 then bif Nat.beq k 63 then 3 else 0
  else bif Nat.beq k 64 then 3 else 0
  else bif Nat.blt k 70 then bif Nat.blt k 67 then bif Nat.blt k 66 then bif Nat.beq k 65 then 3 else 0
  else bif Nat.beq k 66 then 4 else 0
  else bif Nat.blt k 68 then bif Nat.beq k 67 then 4 else 0
  else bif Nat.blt k 69 then bif Nat.beq k 68 then 4 else 0
  else bif Nat.beq k 69 then 5 else 0
  else bif Nat.blt k 72 then bif Nat.blt k 71 then bif Nat.beq k 70 then 4 else 0
  else bif Nat.beq k 71 then 8 else 0
  else bif Nat.blt k 73 then bif Nat.beq k 72 then 9 else 0
  else bif Nat.blt k 74 then bif Nat.beq k 73 then 5 else 0
  else bif Nat.beq k 74 then 25 else 0
def gmiOf (k : Nat) : gMI := gwrap (glenOf k) (gcdOf k) (grtOf k) (gnLOf k)
/-- method k, called no deeper than d, comes to its answer o -/
def gEx (dX : Nat) : Nat → Nat → List gPV → gST → gPO → gST → Prop
  | 0 => fun _ _ _ _ _ => False
  | d + 1 => fun k as s o s' => Nat.ble (gcat as) (gmiOf k).2.2 = true ∧ GPW (gEx dX d) (Ex dX) (gmiOf k) (fun o1 s1 => o1 = o ∧ s1 = s') 0 (glA (gmiOf k).2.2 as) [] s
