/-! THE SECOND MACHINE: names, words, checks: written by wip/p34/gennam2.py -/
def gownN (k : Nat) : String :=
  bif Nat.blt k 5 then bif Nat.blt k 2 then bif Nat.blt k 1 then bif Nat.beq k 0 then "WindyToursLaw" else ""
  else bif Nat.beq k 1 then "WindyToursLaw$City" else ""
  else bif Nat.blt k 3 then bif Nat.beq k 2 then "WindyToursLaw$Node" else ""
  else bif Nat.blt k 4 then bif Nat.beq k 3 then "WindyToursLaw$Random" else ""
  else bif Nat.beq k 4 then "java/lang/String" else ""
  else bif Nat.blt k 8 then bif Nat.blt k 6 then bif Nat.beq k 5 then "java/lang/StringLatin1" else ""
  else bif Nat.blt k 7 then bif Nat.beq k 6 then "java/lang/StringBuilder" else ""
  else bif Nat.beq k 7 then "java/lang/AbstractStringBuilder" else ""
  else bif Nat.blt k 9 then bif Nat.beq k 8 then "java/lang/Integer" else ""
  else bif Nat.blt k 10 then bif Nat.beq k 9 then "java/util/Arrays" else ""
  else bif Nat.beq k 10 then "jdk/internal/util/ArraysSupport" else ""
def gclO (k : Nat) : Nat :=
  bif Nat.blt k 37 then bif Nat.blt k 18 then bif Nat.blt k 9 then bif Nat.blt k 4 then bif Nat.blt k 2 then bif Nat.blt k 1 then bif Nat.beq k 0 then 4 else 0
  else bif Nat.beq k 1 then 4 else 0
  else bif Nat.blt k 3 then bif Nat.beq k 2 then 4 else 0
  else bif Nat.beq k 3 then 4 else 0
  else bif Nat.blt k 6 then bif Nat.blt k 5 then bif Nat.beq k 4 then 4 else 0
  else bif Nat.beq k 5 then 4 else 0
  else bif Nat.blt k 7 then bif Nat.beq k 6 then 4 else 0
  else bif Nat.blt k 8 then bif Nat.beq k 7 then 5 else 0
  else bif Nat.beq k 8 then 6 else 0
  else bif Nat.blt k 13 then bif Nat.blt k 11 then bif Nat.blt k 10 then bif Nat.beq k 9 then 6 else 0
  else bif Nat.beq k 10 then 6 else 0
  else bif Nat.blt k 12 then bif Nat.beq k 11 then 6 else 0
  else bif Nat.beq k 12 then 6 else 0
  else bif Nat.blt k 15 then bif Nat.blt k 14 then bif Nat.beq k 13 then 7 else 0
  else bif Nat.beq k 14 then 7 else 0
  else bif Nat.blt k 16 then bif Nat.beq k 15 then 7 else 0
  else bif Nat.blt k 17 then bif Nat.beq k 16 then 7 else 0
  else bif Nat.beq k 17 then 7 else 0
  else bif Nat.blt k 27 then bif Nat.blt k 22 then bif Nat.blt k 20 then bif Nat.blt k 19 then bif Nat.beq k 18 then 7 else 0
  else bif Nat.beq k 19 then 7 else 0
  else bif Nat.blt k 21 then bif Nat.beq k 20 then 7 else 0
  else bif Nat.beq k 21 then 7 else 0
  else bif Nat.blt k 24 then bif Nat.blt k 23 then bif Nat.beq k 22 then 7 else 0
  else bif Nat.beq k 23 then 8 else 0
  else bif Nat.blt k 25 then bif Nat.beq k 24 then 8 else 0
  else bif Nat.blt k 26 then bif Nat.beq k 25 then 9 else 0
  else bif Nat.beq k 26 then 9 else 0
  else bif Nat.blt k 32 then bif Nat.blt k 29 then bif Nat.blt k 28 then bif Nat.beq k 27 then 9 else 0
  else bif Nat.beq k 28 then 9 else 0
  else bif Nat.blt k 30 then bif Nat.beq k 29 then 10 else 0
  else bif Nat.blt k 31 then bif Nat.beq k 30 then 1 else 0
  else bif Nat.beq k 31 then 1 else 0
  else bif Nat.blt k 34 then bif Nat.blt k 33 then bif Nat.beq k 32 then 1 else 0
  else bif Nat.beq k 33 then 1 else 0
  else bif Nat.blt k 35 then bif Nat.beq k 34 then 1 else 0
  else bif Nat.blt k 36 then bif Nat.beq k 35 then 1 else 0
  else bif Nat.beq k 36 then 1 else 0
  else bif Nat.blt k 56 then bif Nat.blt k 46 then bif Nat.blt k 41 then bif Nat.blt k 39 then bif Nat.blt k 38 then bif Nat.beq k 37 then 1 else 0
  else bif Nat.beq k 38 then 1 else 0
  else bif Nat.blt k 40 then bif Nat.beq k 39 then 1 else 0
  else bif Nat.beq k 40 then 1 else 0
  else bif Nat.blt k 43 then bif Nat.blt k 42 then bif Nat.beq k 41 then 1 else 0
  else bif Nat.beq k 42 then 1 else 0
  else bif Nat.blt k 44 then bif Nat.beq k 43 then 1 else 0
  else bif Nat.blt k 45 then bif Nat.beq k 44 then 1 else 0
  else bif Nat.beq k 45 then 1 else 0
  else bif Nat.blt k 51 then bif Nat.blt k 48 then bif Nat.blt k 47 then bif Nat.beq k 46 then 1 else 0
  else bif Nat.beq k 47 then 1 else 0
  else bif Nat.blt k 49 then bif Nat.beq k 48 then 1 else 0
  else bif Nat.blt k 50 then bif Nat.beq k 49 then 1 else 0
  else bif Nat.beq k 50 then 1 else 0
  else bif Nat.blt k 53 then bif Nat.blt k 52 then bif Nat.beq k 51 then 1 else 0
  else bif Nat.beq k 52 then 1 else 0
  else bif Nat.blt k 54 then bif Nat.beq k 53 then 1 else 0
  else bif Nat.blt k 55 then bif Nat.beq k 54 then 1 else 0
  else bif Nat.beq k 55 then 1 else 0
  else bif Nat.blt k 65 then bif Nat.blt k 60 then bif Nat.blt k 58 then bif Nat.blt k 57 then bif Nat.beq k 56 then 1 else 0
  else bif Nat.beq k 57 then 2 else 0
  else bif Nat.blt k 59 then bif Nat.beq k 58 then 2 else 0
  else bif Nat.beq k 59 then 2 else 0
  else bif Nat.blt k 62 then bif Nat.blt k 61 then bif Nat.beq k 60 then 2 else 0
  else bif Nat.beq k 61 then 3 else 0
  else bif Nat.blt k 63 then bif Nat.beq k 62 then 3 else 0
  else bif Nat.blt k 64 then bif Nat.beq k 63 then 0 else 0
  else bif Nat.beq k 64 then 0 else 0
  else bif Nat.blt k 70 then bif Nat.blt k 67 then bif Nat.blt k 66 then bif Nat.beq k 65 then 0 else 0
  else bif Nat.beq k 66 then 0 else 0
  else bif Nat.blt k 68 then bif Nat.beq k 67 then 0 else 0
  else bif Nat.blt k 69 then bif Nat.beq k 68 then 0 else 0
  else bif Nat.beq k 69 then 0 else 0
  else bif Nat.blt k 72 then bif Nat.blt k 71 then bif Nat.beq k 70 then 0 else 0
  else bif Nat.beq k 71 then 0 else 0
  else bif Nat.blt k 73 then bif Nat.beq k 72 then 0 else 0
  else bif Nat.blt k 74 then bif Nat.beq k 73 then 0 else 0
  else bif Nat.beq k 74 then 0 else 0
def gyO (k : Nat) : MethodName :=
  bif Nat.blt k 37 then bif Nat.blt k 18 then bif Nat.blt k 9 then bif Nat.blt k 4 then bif Nat.blt k 2 then bif Nat.blt k 1 then bif Nat.beq k 0 then ⟨"java/lang/String", "charAt", "(I)C"⟩ else ⟨"", "", ""⟩
  else bif Nat.beq k 1 then ⟨"java/lang/String", "coder", "()B"⟩ else ⟨"", "", ""⟩
  else bif Nat.blt k 3 then bif Nat.beq k 2 then ⟨"java/lang/String", "getBytes", "([BIB)V"⟩ else ⟨"", "", ""⟩
  else bif Nat.beq k 3 then ⟨"java/lang/String", "<init>", "(Ljava/lang/StringBuilder;)V"⟩ else ⟨"", "", ""⟩
  else bif Nat.blt k 6 then bif Nat.blt k 5 then bif Nat.beq k 4 then ⟨"java/lang/String", "<init>", "(Ljava/lang/AbstractStringBuilder;Ljava/lang/Void;)V"⟩ else ⟨"", "", ""⟩
  else bif Nat.beq k 5 then ⟨"java/lang/String", "isLatin1", "()Z"⟩ else ⟨"", "", ""⟩
  else bif Nat.blt k 7 then bif Nat.beq k 6 then ⟨"java/lang/String", "length", "()I"⟩ else ⟨"", "", ""⟩
  else bif Nat.blt k 8 then bif Nat.beq k 7 then ⟨"java/lang/StringLatin1", "charAt", "([BI)C"⟩ else ⟨"", "", ""⟩
  else bif Nat.beq k 8 then ⟨"java/lang/StringBuilder", "append", "(Ljava/lang/String;)Ljava/lang/StringBuilder;"⟩ else ⟨"", "", ""⟩
  else bif Nat.blt k 13 then bif Nat.blt k 11 then bif Nat.blt k 10 then bif Nat.beq k 9 then ⟨"java/lang/StringBuilder", "append", "(I)Ljava/lang/StringBuilder;"⟩ else ⟨"", "", ""⟩
  else bif Nat.beq k 10 then ⟨"java/lang/StringBuilder", "<init>", "()V"⟩ else ⟨"", "", ""⟩
  else bif Nat.blt k 12 then bif Nat.beq k 11 then ⟨"java/lang/StringBuilder", "length", "()I"⟩ else ⟨"", "", ""⟩
  else bif Nat.beq k 12 then ⟨"java/lang/StringBuilder", "toString", "()Ljava/lang/String;"⟩ else ⟨"", "", ""⟩
  else bif Nat.blt k 15 then bif Nat.blt k 14 then bif Nat.beq k 13 then ⟨"java/lang/AbstractStringBuilder", "append", "(I)Ljava/lang/AbstractStringBuilder;"⟩ else ⟨"", "", ""⟩
  else bif Nat.beq k 14 then ⟨"java/lang/AbstractStringBuilder", "append", "(Ljava/lang/String;)Ljava/lang/AbstractStringBuilder;"⟩ else ⟨"", "", ""⟩
  else bif Nat.blt k 16 then bif Nat.beq k 15 then ⟨"java/lang/AbstractStringBuilder", "ensureCapacityInternal", "(I)V"⟩ else ⟨"", "", ""⟩
  else bif Nat.blt k 17 then bif Nat.beq k 16 then ⟨"java/lang/AbstractStringBuilder", "getValue", "()[B"⟩ else ⟨"", "", ""⟩
  else bif Nat.beq k 17 then ⟨"java/lang/AbstractStringBuilder", "inflateIfNeededFor", "(Ljava/lang/String;)V"⟩ else ⟨"", "", ""⟩
  else bif Nat.blt k 27 then bif Nat.blt k 22 then bif Nat.blt k 20 then bif Nat.blt k 19 then bif Nat.beq k 18 then ⟨"java/lang/AbstractStringBuilder", "<init>", "(I)V"⟩ else ⟨"", "", ""⟩
  else bif Nat.beq k 19 then ⟨"java/lang/AbstractStringBuilder", "isLatin1", "()Z"⟩ else ⟨"", "", ""⟩
  else bif Nat.blt k 21 then bif Nat.beq k 20 then ⟨"java/lang/AbstractStringBuilder", "length", "()I"⟩ else ⟨"", "", ""⟩
  else bif Nat.beq k 21 then ⟨"java/lang/AbstractStringBuilder", "newCapacity", "(I)I"⟩ else ⟨"", "", ""⟩
  else bif Nat.blt k 24 then bif Nat.blt k 23 then bif Nat.beq k 22 then ⟨"java/lang/AbstractStringBuilder", "putStringAt", "(ILjava/lang/String;)V"⟩ else ⟨"", "", ""⟩
  else bif Nat.beq k 23 then ⟨"java/lang/Integer", "getChars", "(II[B)I"⟩ else ⟨"", "", ""⟩
  else bif Nat.blt k 25 then bif Nat.beq k 24 then ⟨"java/lang/Integer", "stringSize", "(I)I"⟩ else ⟨"", "", ""⟩
  else bif Nat.blt k 26 then bif Nat.beq k 25 then ⟨"java/util/Arrays", "checkLength", "(II)V"⟩ else ⟨"", "", ""⟩
  else bif Nat.beq k 26 then ⟨"java/util/Arrays", "copyOfRangeByte", "([BII)[B"⟩ else ⟨"", "", ""⟩
  else bif Nat.blt k 32 then bif Nat.blt k 29 then bif Nat.blt k 28 then bif Nat.beq k 27 then ⟨"java/util/Arrays", "copyOfRange", "([BII)[B"⟩ else ⟨"", "", ""⟩
  else bif Nat.beq k 28 then ⟨"java/util/Arrays", "copyOf", "([BI)[B"⟩ else ⟨"", "", ""⟩
  else bif Nat.blt k 30 then bif Nat.beq k 29 then ⟨"jdk/internal/util/ArraysSupport", "newLength", "(III)I"⟩ else ⟨"", "", ""⟩
  else bif Nat.blt k 31 then bif Nat.beq k 30 then ⟨"WindyToursLaw$City", "<init>", "()V"⟩ else ⟨"", "", ""⟩
  else bif Nat.beq k 31 then ⟨"WindyToursLaw$City", "copy", "()LWindyToursLaw$City;"⟩ else ⟨"", "", ""⟩
  else bif Nat.blt k 34 then bif Nat.blt k 33 then bif Nat.beq k 32 then ⟨"WindyToursLaw$City", "arcs", "()I"⟩ else ⟨"", "", ""⟩
  else bif Nat.beq k 33 then ⟨"WindyToursLaw$City", "from", "(I)I"⟩ else ⟨"", "", ""⟩
  else bif Nat.blt k 35 then bif Nat.beq k 34 then ⟨"WindyToursLaw$City", "to", "(I)I"⟩ else ⟨"", "", ""⟩
  else bif Nat.blt k 36 then bif Nat.beq k 35 then ⟨"WindyToursLaw$City", "cost", "(I)I"⟩ else ⟨"", "", ""⟩
  else bif Nat.beq k 36 then ⟨"WindyToursLaw$City", "demand", "(I)I"⟩ else ⟨"", "", ""⟩
  else bif Nat.blt k 56 then bif Nat.blt k 46 then bif Nat.blt k 41 then bif Nat.blt k 39 then bif Nat.blt k 38 then bif Nat.beq k 37 then ⟨"WindyToursLaw$City", "mayTurn", "(II)Z"⟩ else ⟨"", "", ""⟩
  else bif Nat.beq k 38 then ⟨"WindyToursLaw$City", "solve", "()V"⟩ else ⟨"", "", ""⟩
  else bif Nat.blt k 40 then bif Nat.beq k 39 then ⟨"WindyToursLaw$City", "gap", "(II)I"⟩ else ⟨"", "", ""⟩
  else bif Nat.beq k 40 then ⟨"WindyToursLaw$City", "reach", "(II)I"⟩ else ⟨"", "", ""⟩
  else bif Nat.blt k 43 then bif Nat.blt k 42 then bif Nat.beq k 41 then ⟨"WindyToursLaw$City", "back", "(II)I"⟩ else ⟨"", "", ""⟩
  else bif Nat.beq k 42 then ⟨"WindyToursLaw$City", "work", "(I)I"⟩ else ⟨"", "", ""⟩
  else bif Nat.blt k 44 then bif Nat.beq k 43 then ⟨"WindyToursLaw$City", "price", "(I[I)I"⟩ else ⟨"", "", ""⟩
  else bif Nat.blt k 45 then bif Nat.beq k 44 then ⟨"WindyToursLaw$City", "price", "(I)I"⟩ else ⟨"", "", ""⟩
  else bif Nat.beq k 45 then ⟨"WindyToursLaw$City", "total", "()I"⟩ else ⟨"", "", ""⟩
  else bif Nat.blt k 51 then bif Nat.blt k 48 then bif Nat.blt k 47 then bif Nat.beq k 46 then ⟨"WindyToursLaw$City", "load", "(I)I"⟩ else ⟨"", "", ""⟩
  else bif Nat.beq k 47 then ⟨"WindyToursLaw$City", "where", "(I)[I"⟩ else ⟨"", "", ""⟩
  else bif Nat.blt k 49 then bif Nat.beq k 48 then ⟨"WindyToursLaw$City", "isOpen", "(I)Z"⟩ else ⟨"", "", ""⟩
  else bif Nat.blt k 50 then bif Nat.beq k 49 then ⟨"WindyToursLaw$City", "open", "()I"⟩ else ⟨"", "", ""⟩
  else bif Nat.beq k 50 then ⟨"WindyToursLaw$City", "fits", "(III)Z"⟩ else ⟨"", "", ""⟩
  else bif Nat.blt k 53 then bif Nat.blt k 52 then bif Nat.beq k 51 then ⟨"WindyToursLaw$City", "best", "(I)[I"⟩ else ⟨"", "", ""⟩
  else bif Nat.beq k 52 then ⟨"WindyToursLaw$City", "put", "([I)V"⟩ else ⟨"", "", ""⟩
  else bif Nat.blt k 54 then bif Nat.beq k 53 then ⟨"WindyToursLaw$City", "build", "()I"⟩ else ⟨"", "", ""⟩
  else bif Nat.blt k 55 then bif Nat.beq k 54 then ⟨"WindyToursLaw$City", "changed", "(I)LWindyToursLaw$City;"⟩ else ⟨"", "", ""⟩
  else bif Nat.beq k 55 then ⟨"WindyToursLaw$City", "improve", "(I)I"⟩ else ⟨"", "", ""⟩
  else bif Nat.blt k 65 then bif Nat.blt k 60 then bif Nat.blt k 58 then bif Nat.blt k 57 then bif Nat.beq k 56 then ⟨"WindyToursLaw$City", "sum", "()J"⟩ else ⟨"", "", ""⟩
  else bif Nat.beq k 57 then ⟨"WindyToursLaw$Node", "<init>", "()V"⟩ else ⟨"", "", ""⟩
  else bif Nat.blt k 59 then bif Nat.beq k 58 then ⟨"WindyToursLaw$Node", "random", "(LWindyToursLaw$Random;I)LWindyToursLaw$Node;"⟩ else ⟨"", "", ""⟩
  else bif Nat.beq k 59 then ⟨"WindyToursLaw$Node", "text", "(I)Ljava/lang/String;"⟩ else ⟨"", "", ""⟩
  else bif Nat.blt k 62 then bif Nat.blt k 61 then bif Nat.beq k 60 then ⟨"WindyToursLaw$Node", "value", "([J)J"⟩ else ⟨"", "", ""⟩
  else bif Nat.beq k 61 then ⟨"WindyToursLaw$Random", "<init>", "(I)V"⟩ else ⟨"", "", ""⟩
  else bif Nat.blt k 63 then bif Nat.beq k 62 then ⟨"WindyToursLaw$Random", "below", "(I)I"⟩ else ⟨"", "", ""⟩
  else bif Nat.blt k 64 then bif Nat.beq k 63 then ⟨"WindyToursLaw", "put", "(LWindyTours;[II)V"⟩ else ⟨"", "", ""⟩
  else bif Nat.beq k 64 then ⟨"WindyToursLaw", "flush", "(LWindyTours;[I)V"⟩ else ⟨"", "", ""⟩
  else bif Nat.blt k 70 then bif Nat.blt k 67 then bif Nat.blt k 66 then bif Nat.beq k 65 then ⟨"WindyToursLaw", "loadText", "(LWindyTours;[I)I"⟩ else ⟨"", "", ""⟩
  else bif Nat.beq k 66 then ⟨"WindyToursLaw", "write", "(LWindyTours;[ILjava/lang/String;)V"⟩ else ⟨"", "", ""⟩
  else bif Nat.blt k 68 then bif Nat.beq k 67 then ⟨"WindyToursLaw", "writeNumber", "(LWindyTours;[II)V"⟩ else ⟨"", "", ""⟩
  else bif Nat.blt k 69 then bif Nat.beq k 68 then ⟨"WindyToursLaw", "with", "([[I[I)[[I"⟩ else ⟨"", "", ""⟩
  else bif Nat.beq k 69 then ⟨"WindyToursLaw", "inserted", "([III)[I"⟩ else ⟨"", "", ""⟩
  else bif Nat.blt k 72 then bif Nat.blt k 71 then bif Nat.beq k 70 then ⟨"WindyToursLaw", "without", "([II)[I"⟩ else ⟨"", "", ""⟩
  else bif Nat.beq k 71 then ⟨"WindyToursLaw", "writeNumbers", "(LWindyTours;[ILjava/lang/String;[I)V"⟩ else ⟨"", "", ""⟩
  else bif Nat.blt k 73 then bif Nat.beq k 72 then ⟨"WindyToursLaw", "randomCity", "(LWindyTours;[ILWindyToursLaw$Random;I)LWindyToursLaw$City;"⟩ else ⟨"", "", ""⟩
  else bif Nat.blt k 74 then bif Nat.beq k 73 then ⟨"WindyToursLaw", "agrees", "(LWindyTours;LWindyToursLaw$City;)Z"⟩ else ⟨"", "", ""⟩
  else bif Nat.beq k 74 then ⟨"WindyToursLaw", "law", "([I)Z"⟩ else ⟨"", "", ""⟩
def gccO (k : Nat) : ByteArray :=
  bif Nat.blt k 37 then bif Nat.blt k 18 then bif Nat.blt k 9 then bif Nat.blt k 4 then bif Nat.blt k 2 then bif Nat.blt k 1 then bif Nat.beq k 0 then prog_28_method_56_code else ⟨#[]⟩
  else bif Nat.beq k 1 then prog_28_method_152_code else ⟨#[]⟩
  else bif Nat.blt k 3 then bif Nat.beq k 2 then prog_28_method_147_code else ⟨#[]⟩
  else bif Nat.beq k 3 then prog_28_method_53_code else ⟨#[]⟩
  else bif Nat.blt k 6 then bif Nat.blt k 5 then bif Nat.beq k 4 then prog_28_method_150_code else ⟨#[]⟩
  else bif Nat.beq k 5 then prog_28_method_154_code else ⟨#[]⟩
  else bif Nat.blt k 7 then bif Nat.beq k 6 then prog_28_method_54_code else ⟨#[]⟩
  else bif Nat.blt k 8 then bif Nat.beq k 7 then prog_30_method_2_code else ⟨#[]⟩
  else bif Nat.beq k 8 then prog_29_method_7_code else ⟨#[]⟩
  else bif Nat.blt k 13 then bif Nat.blt k 11 then bif Nat.blt k 10 then bif Nat.beq k 9 then prog_29_method_15_code else ⟨#[]⟩
  else bif Nat.beq k 10 then prog_29_method_1_code else ⟨#[]⟩
  else bif Nat.blt k 12 then bif Nat.beq k 11 then prog_29_method_93_code else ⟨#[]⟩
  else bif Nat.beq k 12 then prog_29_method_42_code else ⟨#[]⟩
  else bif Nat.blt k 15 then bif Nat.blt k 14 then bif Nat.beq k 13 then prog_15_method_32_code else ⟨#[]⟩
  else bif Nat.beq k 14 then prog_15_method_22_code else ⟨#[]⟩
  else bif Nat.blt k 16 then bif Nat.beq k 15 then prog_15_method_9_code else ⟨#[]⟩
  else bif Nat.blt k 17 then bif Nat.beq k 16 then prog_15_method_64_code else ⟨#[]⟩
  else bif Nat.beq k 17 then prog_15_method_71_code else ⟨#[]⟩
  else bif Nat.blt k 27 then bif Nat.blt k 22 then bif Nat.blt k 20 then bif Nat.blt k 19 then bif Nat.beq k 18 then prog_15_method_2_code else ⟨#[]⟩
  else bif Nat.beq k 19 then prog_15_method_68_code else ⟨#[]⟩
  else bif Nat.blt k 21 then bif Nat.beq k 20 then prog_15_method_6_code else ⟨#[]⟩
  else bif Nat.beq k 21 then prog_15_method_10_code else ⟨#[]⟩
  else bif Nat.blt k 24 then bif Nat.blt k 23 then bif Nat.beq k 22 then prog_15_method_73_code else ⟨#[]⟩
  else bif Nat.beq k 23 then prog_24_method_12_code else ⟨#[]⟩
  else bif Nat.blt k 25 then bif Nat.beq k 24 then prog_24_method_13_code else ⟨#[]⟩
  else bif Nat.blt k 26 then bif Nat.beq k 25 then prog_36_method_131_code else ⟨#[]⟩
  else bif Nat.beq k 26 then prog_36_method_133_code else ⟨#[]⟩
  else bif Nat.blt k 32 then bif Nat.blt k 29 then bif Nat.blt k 28 then bif Nat.beq k 27 then prog_36_method_132_code else ⟨#[]⟩
  else bif Nat.beq k 28 then prog_36_method_121_code else ⟨#[]⟩
  else bif Nat.blt k 30 then bif Nat.beq k 29 then prog_38_method_27_code else ⟨#[]⟩
  else bif Nat.blt k 31 then bif Nat.beq k 30 then prog_10_method_1_code else ⟨#[]⟩
  else bif Nat.beq k 31 then prog_10_method_2_code else ⟨#[]⟩
  else bif Nat.blt k 34 then bif Nat.blt k 33 then bif Nat.beq k 32 then prog_10_method_3_code else ⟨#[]⟩
  else bif Nat.beq k 33 then prog_10_method_4_code else ⟨#[]⟩
  else bif Nat.blt k 35 then bif Nat.beq k 34 then prog_10_method_5_code else ⟨#[]⟩
  else bif Nat.blt k 36 then bif Nat.beq k 35 then prog_10_method_6_code else ⟨#[]⟩
  else bif Nat.beq k 36 then prog_10_method_7_code else ⟨#[]⟩
  else bif Nat.blt k 56 then bif Nat.blt k 46 then bif Nat.blt k 41 then bif Nat.blt k 39 then bif Nat.blt k 38 then bif Nat.beq k 37 then prog_10_method_8_code else ⟨#[]⟩
  else bif Nat.beq k 38 then prog_10_method_9_code else ⟨#[]⟩
  else bif Nat.blt k 40 then bif Nat.beq k 39 then prog_10_method_10_code else ⟨#[]⟩
  else bif Nat.beq k 40 then prog_10_method_11_code else ⟨#[]⟩
  else bif Nat.blt k 43 then bif Nat.blt k 42 then bif Nat.beq k 41 then prog_10_method_12_code else ⟨#[]⟩
  else bif Nat.beq k 42 then prog_10_method_14_code else ⟨#[]⟩
  else bif Nat.blt k 44 then bif Nat.beq k 43 then prog_10_method_15_code else ⟨#[]⟩
  else bif Nat.blt k 45 then bif Nat.beq k 44 then prog_10_method_16_code else ⟨#[]⟩
  else bif Nat.beq k 45 then prog_10_method_17_code else ⟨#[]⟩
  else bif Nat.blt k 51 then bif Nat.blt k 48 then bif Nat.blt k 47 then bif Nat.beq k 46 then prog_10_method_18_code else ⟨#[]⟩
  else bif Nat.beq k 47 then prog_10_method_19_code else ⟨#[]⟩
  else bif Nat.blt k 49 then bif Nat.beq k 48 then prog_10_method_20_code else ⟨#[]⟩
  else bif Nat.blt k 50 then bif Nat.beq k 49 then prog_10_method_21_code else ⟨#[]⟩
  else bif Nat.beq k 50 then prog_10_method_22_code else ⟨#[]⟩
  else bif Nat.blt k 53 then bif Nat.blt k 52 then bif Nat.beq k 51 then prog_10_method_23_code else ⟨#[]⟩
  else bif Nat.beq k 52 then prog_10_method_24_code else ⟨#[]⟩
  else bif Nat.blt k 54 then bif Nat.beq k 53 then prog_10_method_25_code else ⟨#[]⟩
  else bif Nat.blt k 55 then bif Nat.beq k 54 then prog_10_method_26_code else ⟨#[]⟩
  else bif Nat.beq k 55 then prog_10_method_27_code else ⟨#[]⟩
  else bif Nat.blt k 65 then bif Nat.blt k 60 then bif Nat.blt k 58 then bif Nat.blt k 57 then bif Nat.beq k 56 then prog_10_method_30_code else ⟨#[]⟩
  else bif Nat.beq k 57 then prog_11_method_1_code else ⟨#[]⟩
  else bif Nat.blt k 59 then bif Nat.beq k 58 then prog_11_method_2_code else ⟨#[]⟩
  else bif Nat.beq k 59 then prog_11_method_3_code else ⟨#[]⟩
  else bif Nat.blt k 62 then bif Nat.blt k 61 then bif Nat.beq k 60 then prog_11_method_4_code else ⟨#[]⟩
  else bif Nat.beq k 61 then prog_12_method_1_code else ⟨#[]⟩
  else bif Nat.blt k 63 then bif Nat.beq k 62 then prog_12_method_2_code else ⟨#[]⟩
  else bif Nat.blt k 64 then bif Nat.beq k 63 then method_2_code else ⟨#[]⟩
  else bif Nat.beq k 64 then method_3_code else ⟨#[]⟩
  else bif Nat.blt k 70 then bif Nat.blt k 67 then bif Nat.blt k 66 then bif Nat.beq k 65 then method_4_code else ⟨#[]⟩
  else bif Nat.beq k 66 then method_5_code else ⟨#[]⟩
  else bif Nat.blt k 68 then bif Nat.beq k 67 then method_6_code else ⟨#[]⟩
  else bif Nat.blt k 69 then bif Nat.beq k 68 then method_25_code else ⟨#[]⟩
  else bif Nat.beq k 69 then method_26_code else ⟨#[]⟩
  else bif Nat.blt k 72 then bif Nat.blt k 71 then bif Nat.beq k 70 then method_27_code else ⟨#[]⟩
  else bif Nat.beq k 71 then method_28_code else ⟨#[]⟩
  else bif Nat.blt k 73 then bif Nat.beq k 72 then method_29_code else ⟨#[]⟩
  else bif Nat.blt k 74 then bif Nat.beq k 73 then method_30_code else ⟨#[]⟩
  else bif Nat.beq k 74 then code else ⟨#[]⟩
def gretO (k : Nat) : Option FieldType :=
  bif Nat.blt k 37 then bif Nat.blt k 18 then bif Nat.blt k 9 then bif Nat.blt k 4 then bif Nat.blt k 2 then bif Nat.blt k 1 then bif Nat.beq k 0 then (some .char) else none
  else bif Nat.beq k 1 then (some .byte) else none
  else bif Nat.blt k 3 then bif Nat.beq k 2 then (none) else none
  else bif Nat.beq k 3 then (none) else none
  else bif Nat.blt k 6 then bif Nat.blt k 5 then bif Nat.beq k 4 then (none) else none
  else bif Nat.beq k 5 then (some .boolean) else none
  else bif Nat.blt k 7 then bif Nat.beq k 6 then (some .int) else none
  else bif Nat.blt k 8 then bif Nat.beq k 7 then (some .char) else none
  else bif Nat.beq k 8 then (some (.object "java/lang/StringBuilder")) else none
  else bif Nat.blt k 13 then bif Nat.blt k 11 then bif Nat.blt k 10 then bif Nat.beq k 9 then (some (.object "java/lang/StringBuilder")) else none
  else bif Nat.beq k 10 then (none) else none
  else bif Nat.blt k 12 then bif Nat.beq k 11 then (some .int) else none
  else bif Nat.beq k 12 then (some (.object "java/lang/String")) else none
  else bif Nat.blt k 15 then bif Nat.blt k 14 then bif Nat.beq k 13 then (some (.object "java/lang/AbstractStringBuilder")) else none
  else bif Nat.beq k 14 then (some (.object "java/lang/AbstractStringBuilder")) else none
  else bif Nat.blt k 16 then bif Nat.beq k 15 then (none) else none
  else bif Nat.blt k 17 then bif Nat.beq k 16 then (some (.array .byte)) else none
  else bif Nat.beq k 17 then (none) else none
  else bif Nat.blt k 27 then bif Nat.blt k 22 then bif Nat.blt k 20 then bif Nat.blt k 19 then bif Nat.beq k 18 then (none) else none
  else bif Nat.beq k 19 then (some .boolean) else none
  else bif Nat.blt k 21 then bif Nat.beq k 20 then (some .int) else none
  else bif Nat.beq k 21 then (some .int) else none
  else bif Nat.blt k 24 then bif Nat.blt k 23 then bif Nat.beq k 22 then (none) else none
  else bif Nat.beq k 23 then (some .int) else none
  else bif Nat.blt k 25 then bif Nat.beq k 24 then (some .int) else none
  else bif Nat.blt k 26 then bif Nat.beq k 25 then (none) else none
  else bif Nat.beq k 26 then (some (.array .byte)) else none
  else bif Nat.blt k 32 then bif Nat.blt k 29 then bif Nat.blt k 28 then bif Nat.beq k 27 then (some (.array .byte)) else none
  else bif Nat.beq k 28 then (some (.array .byte)) else none
  else bif Nat.blt k 30 then bif Nat.beq k 29 then (some .int) else none
  else bif Nat.blt k 31 then bif Nat.beq k 30 then (none) else none
  else bif Nat.beq k 31 then (some (.object "WindyToursLaw$City")) else none
  else bif Nat.blt k 34 then bif Nat.blt k 33 then bif Nat.beq k 32 then (some .int) else none
  else bif Nat.beq k 33 then (some .int) else none
  else bif Nat.blt k 35 then bif Nat.beq k 34 then (some .int) else none
  else bif Nat.blt k 36 then bif Nat.beq k 35 then (some .int) else none
  else bif Nat.beq k 36 then (some .int) else none
  else bif Nat.blt k 56 then bif Nat.blt k 46 then bif Nat.blt k 41 then bif Nat.blt k 39 then bif Nat.blt k 38 then bif Nat.beq k 37 then (some .boolean) else none
  else bif Nat.beq k 38 then (none) else none
  else bif Nat.blt k 40 then bif Nat.beq k 39 then (some .int) else none
  else bif Nat.beq k 40 then (some .int) else none
  else bif Nat.blt k 43 then bif Nat.blt k 42 then bif Nat.beq k 41 then (some .int) else none
  else bif Nat.beq k 42 then (some .int) else none
  else bif Nat.blt k 44 then bif Nat.beq k 43 then (some .int) else none
  else bif Nat.blt k 45 then bif Nat.beq k 44 then (some .int) else none
  else bif Nat.beq k 45 then (some .int) else none
  else bif Nat.blt k 51 then bif Nat.blt k 48 then bif Nat.blt k 47 then bif Nat.beq k 46 then (some .int) else none
  else bif Nat.beq k 47 then (some (.array .int)) else none
  else bif Nat.blt k 49 then bif Nat.beq k 48 then (some .boolean) else none
  else bif Nat.blt k 50 then bif Nat.beq k 49 then (some .int) else none
  else bif Nat.beq k 50 then (some .boolean) else none
  else bif Nat.blt k 53 then bif Nat.blt k 52 then bif Nat.beq k 51 then (some (.array .int)) else none
  else bif Nat.beq k 52 then (none) else none
  else bif Nat.blt k 54 then bif Nat.beq k 53 then (some .int) else none
  else bif Nat.blt k 55 then bif Nat.beq k 54 then (some (.object "WindyToursLaw$City")) else none
  else bif Nat.beq k 55 then (some .int) else none
  else bif Nat.blt k 65 then bif Nat.blt k 60 then bif Nat.blt k 58 then bif Nat.blt k 57 then bif Nat.beq k 56 then (some .long) else none
  else bif Nat.beq k 57 then (none) else none
  else bif Nat.blt k 59 then bif Nat.beq k 58 then (some (.object "WindyToursLaw$Node")) else none
  else bif Nat.beq k 59 then (some (.object "java/lang/String")) else none
  else bif Nat.blt k 62 then bif Nat.blt k 61 then bif Nat.beq k 60 then (some .long) else none
  else bif Nat.beq k 61 then (none) else none
  else bif Nat.blt k 63 then bif Nat.beq k 62 then (some .int) else none
  else bif Nat.blt k 64 then bif Nat.beq k 63 then (none) else none
  else bif Nat.beq k 64 then (none) else none
  else bif Nat.blt k 70 then bif Nat.blt k 67 then bif Nat.blt k 66 then bif Nat.beq k 65 then (some .int) else none
  else bif Nat.beq k 66 then (none) else none
  else bif Nat.blt k 68 then bif Nat.beq k 67 then (none) else none
  else bif Nat.blt k 69 then bif Nat.beq k 68 then (some (.array (.array .int))) else none
  else bif Nat.beq k 69 then (some (.array .int)) else none
  else bif Nat.blt k 72 then bif Nat.blt k 71 then bif Nat.beq k 70 then (some (.array .int)) else none
  else bif Nat.beq k 71 then (none) else none
  else bif Nat.blt k 73 then bif Nat.beq k 72 then (some (.object "WindyToursLaw$City")) else none
  else bif Nat.blt k 74 then bif Nat.beq k 73 then (some .boolean) else none
  else bif Nat.beq k 74 then ((some .boolean)) else none
def gnrO (k : Nat) : Nat :=
  bif Nat.blt k 37 then bif Nat.blt k 18 then bif Nat.blt k 9 then bif Nat.blt k 4 then bif Nat.blt k 2 then bif Nat.blt k 1 then bif Nat.beq k 0 then 1 else 0
  else bif Nat.beq k 1 then 0 else 0
  else bif Nat.blt k 3 then bif Nat.beq k 2 then 3 else 0
  else bif Nat.beq k 3 then 1 else 0
  else bif Nat.blt k 6 then bif Nat.blt k 5 then bif Nat.beq k 4 then 2 else 0
  else bif Nat.beq k 5 then 0 else 0
  else bif Nat.blt k 7 then bif Nat.beq k 6 then 0 else 0
  else bif Nat.blt k 8 then bif Nat.beq k 7 then 2 else 0
  else bif Nat.beq k 8 then 1 else 0
  else bif Nat.blt k 13 then bif Nat.blt k 11 then bif Nat.blt k 10 then bif Nat.beq k 9 then 1 else 0
  else bif Nat.beq k 10 then 0 else 0
  else bif Nat.blt k 12 then bif Nat.beq k 11 then 0 else 0
  else bif Nat.beq k 12 then 0 else 0
  else bif Nat.blt k 15 then bif Nat.blt k 14 then bif Nat.beq k 13 then 1 else 0
  else bif Nat.beq k 14 then 1 else 0
  else bif Nat.blt k 16 then bif Nat.beq k 15 then 1 else 0
  else bif Nat.blt k 17 then bif Nat.beq k 16 then 0 else 0
  else bif Nat.beq k 17 then 1 else 0
  else bif Nat.blt k 27 then bif Nat.blt k 22 then bif Nat.blt k 20 then bif Nat.blt k 19 then bif Nat.beq k 18 then 1 else 0
  else bif Nat.beq k 19 then 0 else 0
  else bif Nat.blt k 21 then bif Nat.beq k 20 then 0 else 0
  else bif Nat.beq k 21 then 1 else 0
  else bif Nat.blt k 24 then bif Nat.blt k 23 then bif Nat.beq k 22 then 2 else 0
  else bif Nat.beq k 23 then 3 else 0
  else bif Nat.blt k 25 then bif Nat.beq k 24 then 1 else 0
  else bif Nat.blt k 26 then bif Nat.beq k 25 then 2 else 0
  else bif Nat.beq k 26 then 3 else 0
  else bif Nat.blt k 32 then bif Nat.blt k 29 then bif Nat.blt k 28 then bif Nat.beq k 27 then 3 else 0
  else bif Nat.beq k 28 then 2 else 0
  else bif Nat.blt k 30 then bif Nat.beq k 29 then 3 else 0
  else bif Nat.blt k 31 then bif Nat.beq k 30 then 0 else 0
  else bif Nat.beq k 31 then 0 else 0
  else bif Nat.blt k 34 then bif Nat.blt k 33 then bif Nat.beq k 32 then 0 else 0
  else bif Nat.beq k 33 then 1 else 0
  else bif Nat.blt k 35 then bif Nat.beq k 34 then 1 else 0
  else bif Nat.blt k 36 then bif Nat.beq k 35 then 1 else 0
  else bif Nat.beq k 36 then 1 else 0
  else bif Nat.blt k 56 then bif Nat.blt k 46 then bif Nat.blt k 41 then bif Nat.blt k 39 then bif Nat.blt k 38 then bif Nat.beq k 37 then 2 else 0
  else bif Nat.beq k 38 then 0 else 0
  else bif Nat.blt k 40 then bif Nat.beq k 39 then 2 else 0
  else bif Nat.beq k 40 then 2 else 0
  else bif Nat.blt k 43 then bif Nat.blt k 42 then bif Nat.beq k 41 then 2 else 0
  else bif Nat.beq k 42 then 1 else 0
  else bif Nat.blt k 44 then bif Nat.beq k 43 then 2 else 0
  else bif Nat.blt k 45 then bif Nat.beq k 44 then 1 else 0
  else bif Nat.beq k 45 then 0 else 0
  else bif Nat.blt k 51 then bif Nat.blt k 48 then bif Nat.blt k 47 then bif Nat.beq k 46 then 1 else 0
  else bif Nat.beq k 47 then 1 else 0
  else bif Nat.blt k 49 then bif Nat.beq k 48 then 1 else 0
  else bif Nat.blt k 50 then bif Nat.beq k 49 then 0 else 0
  else bif Nat.beq k 50 then 3 else 0
  else bif Nat.blt k 53 then bif Nat.blt k 52 then bif Nat.beq k 51 then 1 else 0
  else bif Nat.beq k 52 then 1 else 0
  else bif Nat.blt k 54 then bif Nat.beq k 53 then 0 else 0
  else bif Nat.blt k 55 then bif Nat.beq k 54 then 1 else 0
  else bif Nat.beq k 55 then 1 else 0
  else bif Nat.blt k 65 then bif Nat.blt k 60 then bif Nat.blt k 58 then bif Nat.blt k 57 then bif Nat.beq k 56 then 0 else 0
  else bif Nat.beq k 57 then 0 else 0
  else bif Nat.blt k 59 then bif Nat.beq k 58 then 2 else 0
  else bif Nat.beq k 59 then 1 else 0
  else bif Nat.blt k 62 then bif Nat.blt k 61 then bif Nat.beq k 60 then 1 else 0
  else bif Nat.beq k 61 then 1 else 0
  else bif Nat.blt k 63 then bif Nat.beq k 62 then 1 else 0
  else bif Nat.blt k 64 then bif Nat.beq k 63 then 3 else 0
  else bif Nat.beq k 64 then 2 else 0
  else bif Nat.blt k 70 then bif Nat.blt k 67 then bif Nat.blt k 66 then bif Nat.beq k 65 then 2 else 0
  else bif Nat.beq k 66 then 3 else 0
  else bif Nat.blt k 68 then bif Nat.beq k 67 then 3 else 0
  else bif Nat.blt k 69 then bif Nat.beq k 68 then 2 else 0
  else bif Nat.beq k 69 then 3 else 0
  else bif Nat.blt k 72 then bif Nat.blt k 71 then bif Nat.beq k 70 then 2 else 0
  else bif Nat.beq k 71 then 4 else 0
  else bif Nat.blt k 73 then bif Nat.beq k 72 then 4 else 0
  else bif Nat.blt k 74 then bif Nat.beq k 73 then 2 else 0
  else bif Nat.beq k 74 then 1 else 0
def gcodP (k : Nat) : Nat × Nat :=
  bif Nat.blt k 37 then bif Nat.blt k 18 then bif Nat.blt k 9 then bif Nat.blt k 4 then bif Nat.blt k 2 then bif Nat.blt k 1 then bif Nat.beq k 0 then (4, 35) else (9, 0)
  else bif Nat.beq k 1 then (4, 29) else (9, 0)
  else bif Nat.blt k 3 then bif Nat.beq k 2 then (6, 47) else (9, 0)
  else bif Nat.beq k 3 then (6, 83) else (9, 0)
  else bif Nat.blt k 6 then bif Nat.blt k 5 then bif Nat.beq k 4 then (6, 86) else (9, 0)
  else bif Nat.beq k 5 then (4, 39) else (9, 0)
  else bif Nat.blt k 7 then bif Nat.beq k 6 then (4, 25) else (9, 0)
  else bif Nat.blt k 8 then bif Nat.beq k 7 then (4, 42) else (9, 0)
  else bif Nat.beq k 8 then (5, 198) else (9, 0)
  else bif Nat.blt k 13 then bif Nat.blt k 11 then bif Nat.blt k 10 then bif Nat.beq k 9 then (6, 53) else (9, 0)
  else bif Nat.beq k 10 then (5, 168) else (9, 0)
  else bif Nat.blt k 12 then bif Nat.beq k 11 then (6, 98) else (9, 0)
  else bif Nat.beq k 12 then (6, 78) else (9, 0)
  else bif Nat.blt k 15 then bif Nat.blt k 14 then bif Nat.beq k 13 then (6, 56) else (9, 0)
  else bif Nat.beq k 14 then (5, 201) else (9, 0)
  else bif Nat.blt k 16 then bif Nat.beq k 15 then (5, 209) else (9, 0)
  else bif Nat.blt k 17 then bif Nat.beq k 16 then (6, 92) else (9, 0)
  else bif Nat.beq k 17 then (6, 23) else (9, 0)
  else bif Nat.blt k 27 then bif Nat.blt k 22 then bif Nat.blt k 20 then bif Nat.blt k 19 then bif Nat.beq k 18 then (5, 171) else (9, 0)
  else bif Nat.beq k 19 then (5, 239) else (9, 0)
  else bif Nat.blt k 21 then bif Nat.beq k 20 then (6, 100) else (9, 0)
  else bif Nat.beq k 21 then (5, 213) else (9, 0)
  else bif Nat.blt k 24 then bif Nat.blt k 23 then bif Nat.beq k 22 then (6, 19) else (9, 0)
  else bif Nat.beq k 23 then (6, 62) else (9, 0)
  else bif Nat.blt k 25 then bif Nat.beq k 24 then (6, 59) else (9, 0)
  else bif Nat.blt k 26 then bif Nat.beq k 25 then (6, 110) else (9, 0)
  else bif Nat.beq k 26 then (6, 107) else (9, 0)
  else bif Nat.blt k 32 then bif Nat.blt k 29 then bif Nat.blt k 28 then bif Nat.beq k 27 then (6, 104) else (9, 0)
  else bif Nat.beq k 28 then (5, 227) else (9, 0)
  else bif Nat.blt k 30 then bif Nat.beq k 29 then (5, 216) else (9, 0)
  else bif Nat.blt k 31 then bif Nat.beq k 30 then (2, 201) else (9, 0)
  else bif Nat.beq k 31 then (3, 4) else (9, 0)
  else bif Nat.blt k 34 then bif Nat.blt k 33 then bif Nat.beq k 32 then (3, 17) else (9, 0)
  else bif Nat.beq k 33 then (3, 57) else (9, 0)
  else bif Nat.blt k 35 then bif Nat.beq k 34 then (3, 72) else (9, 0)
  else bif Nat.blt k 36 then bif Nat.beq k 35 then (3, 29) else (9, 0)
  else bif Nat.beq k 36 then (3, 34) else (9, 0)
  else bif Nat.blt k 55 then bif Nat.blt k 46 then bif Nat.blt k 41 then bif Nat.blt k 39 then bif Nat.blt k 38 then bif Nat.beq k 37 then (6, 156) else (9, 0)
  else bif Nat.beq k 38 then (6, 152) else (9, 0)
  else bif Nat.blt k 40 then bif Nat.beq k 39 then (3, 63) else (9, 0)
  else bif Nat.beq k 40 then (3, 53) else (9, 0)
  else bif Nat.blt k 43 then bif Nat.blt k 42 then bif Nat.beq k 41 then (3, 68) else (9, 0)
  else bif Nat.beq k 42 then (3, 25) else (9, 0)
  else bif Nat.blt k 44 then bif Nat.beq k 43 then (3, 21) else (9, 0)
  else bif Nat.blt k 45 then bif Nat.beq k 44 then (3, 77) else (9, 0)
  else bif Nat.beq k 45 then (3, 121) else (9, 0)
  else bif Nat.blt k 50 then bif Nat.blt k 48 then bif Nat.blt k 47 then bif Nat.beq k 46 then (3, 95) else (9, 0)
  else bif Nat.beq k 47 then (3, 82) else (9, 0)
  else bif Nat.blt k 49 then bif Nat.beq k 48 then (3, 86) else (9, 0)
  else bif Nat.beq k 49 then (6, 191) else (9, 0)
  else bif Nat.blt k 52 then bif Nat.blt k 51 then bif Nat.beq k 50 then (3, 91) else (9, 0)
  else bif Nat.beq k 51 then (3, 107) else (9, 0)
  else bif Nat.blt k 53 then bif Nat.beq k 52 then (3, 113) else (9, 0)
  else bif Nat.blt k 54 then bif Nat.beq k 53 then (3, 102) else (9, 0)
  else bif Nat.beq k 54 then (3, 125) else (9, 0)
  else bif Nat.blt k 64 then bif Nat.blt k 59 then bif Nat.blt k 57 then bif Nat.blt k 56 then bif Nat.beq k 55 then (3, 117) else (9, 0)
  else bif Nat.beq k 56 then (6, 203) else (9, 0)
  else bif Nat.blt k 58 then bif Nat.beq k 57 then (5, 142) else (9, 0)
  else bif Nat.beq k 58 then (5, 137) else (9, 0)
  else bif Nat.blt k 61 then bif Nat.blt k 60 then bif Nat.beq k 59 then (5, 163) else (9, 0)
  else bif Nat.beq k 60 then (3, 38) else (9, 0)
  else bif Nat.blt k 62 then bif Nat.beq k 61 then (3, 134) else (9, 0)
  else bif Nat.blt k 63 then bif Nat.beq k 62 then (3, 143) else (9, 0)
  else bif Nat.beq k 63 then (5, 115) else (9, 0)
  else bif Nat.blt k 69 then bif Nat.blt k 66 then bif Nat.blt k 65 then bif Nat.beq k 64 then (5, 118) else (9, 0)
  else bif Nat.beq k 65 then (6, 159) else (9, 0)
  else bif Nat.blt k 67 then bif Nat.beq k 66 then (5, 110) else (9, 0)
  else bif Nat.blt k 68 then bif Nat.beq k 67 then (5, 130) else (9, 0)
  else bif Nat.beq k 68 then (5, 97) else (9, 0)
  else bif Nat.blt k 71 then bif Nat.blt k 70 then bif Nat.beq k 69 then (3, 98) else (9, 0)
  else bif Nat.beq k 70 then (3, 129) else (9, 0)
  else bif Nat.blt k 72 then bif Nat.beq k 71 then (5, 107) else (9, 0)
  else bif Nat.blt k 73 then bif Nat.beq k 72 then (5, 103) else (9, 0)
  else bif Nat.beq k 73 then (6, 162) else (9, 0)
def giniP (k : Nat) : Nat × Nat :=
  bif Nat.blt k 37 then bif Nat.blt k 18 then bif Nat.blt k 9 then bif Nat.blt k 4 then bif Nat.blt k 2 then bif Nat.blt k 1 then bif Nat.beq k 0 then (1, 20) else (9, 0)
  else bif Nat.beq k 1 then (1, 20) else (9, 0)
  else bif Nat.blt k 3 then bif Nat.beq k 2 then (1, 20) else (9, 0)
  else bif Nat.beq k 3 then (1, 20) else (9, 0)
  else bif Nat.blt k 6 then bif Nat.blt k 5 then bif Nat.beq k 4 then (1, 20) else (9, 0)
  else bif Nat.beq k 5 then (1, 20) else (9, 0)
  else bif Nat.blt k 7 then bif Nat.beq k 6 then (1, 20) else (9, 0)
  else bif Nat.blt k 8 then bif Nat.beq k 7 then (1, 21) else (9, 0)
  else bif Nat.beq k 8 then (1, 26) else (9, 0)
  else bif Nat.blt k 13 then bif Nat.blt k 11 then bif Nat.blt k 10 then bif Nat.beq k 9 then (1, 26) else (9, 0)
  else bif Nat.beq k 10 then (1, 26) else (9, 0)
  else bif Nat.blt k 12 then bif Nat.beq k 11 then (1, 26) else (9, 0)
  else bif Nat.beq k 12 then (1, 26) else (9, 0)
  else bif Nat.blt k 15 then bif Nat.blt k 14 then bif Nat.beq k 13 then (1, 25) else (9, 0)
  else bif Nat.beq k 14 then (1, 25) else (9, 0)
  else bif Nat.blt k 16 then bif Nat.beq k 15 then (1, 25) else (9, 0)
  else bif Nat.blt k 17 then bif Nat.beq k 16 then (1, 25) else (9, 0)
  else bif Nat.beq k 17 then (1, 25) else (9, 0)
  else bif Nat.blt k 27 then bif Nat.blt k 22 then bif Nat.blt k 20 then bif Nat.blt k 19 then bif Nat.beq k 18 then (1, 25) else (9, 0)
  else bif Nat.beq k 19 then (1, 25) else (9, 0)
  else bif Nat.blt k 21 then bif Nat.beq k 20 then (1, 25) else (9, 0)
  else bif Nat.beq k 21 then (1, 25) else (9, 0)
  else bif Nat.blt k 24 then bif Nat.blt k 23 then bif Nat.beq k 22 then (1, 25) else (9, 0)
  else bif Nat.beq k 23 then (1, 30) else (9, 0)
  else bif Nat.blt k 25 then bif Nat.beq k 24 then (1, 30) else (9, 0)
  else bif Nat.blt k 26 then bif Nat.beq k 25 then (1, 28) else (9, 0)
  else bif Nat.beq k 26 then (1, 28) else (9, 0)
  else bif Nat.blt k 32 then bif Nat.blt k 29 then bif Nat.blt k 28 then bif Nat.beq k 27 then (1, 28) else (9, 0)
  else bif Nat.beq k 28 then (1, 28) else (9, 0)
  else bif Nat.blt k 30 then bif Nat.beq k 29 then (1, 27) else (9, 0)
  else bif Nat.blt k 31 then bif Nat.beq k 30 then (1, 10) else (9, 0)
  else bif Nat.beq k 31 then (1, 10) else (9, 0)
  else bif Nat.blt k 34 then bif Nat.blt k 33 then bif Nat.beq k 32 then (1, 10) else (9, 0)
  else bif Nat.beq k 33 then (1, 10) else (9, 0)
  else bif Nat.blt k 35 then bif Nat.beq k 34 then (1, 10) else (9, 0)
  else bif Nat.blt k 36 then bif Nat.beq k 35 then (1, 10) else (9, 0)
  else bif Nat.beq k 36 then (1, 10) else (9, 0)
  else bif Nat.blt k 56 then bif Nat.blt k 46 then bif Nat.blt k 41 then bif Nat.blt k 39 then bif Nat.blt k 38 then bif Nat.beq k 37 then (1, 10) else (9, 0)
  else bif Nat.beq k 38 then (1, 10) else (9, 0)
  else bif Nat.blt k 40 then bif Nat.beq k 39 then (1, 10) else (9, 0)
  else bif Nat.beq k 40 then (1, 10) else (9, 0)
  else bif Nat.blt k 43 then bif Nat.blt k 42 then bif Nat.beq k 41 then (1, 10) else (9, 0)
  else bif Nat.beq k 42 then (1, 10) else (9, 0)
  else bif Nat.blt k 44 then bif Nat.beq k 43 then (1, 10) else (9, 0)
  else bif Nat.blt k 45 then bif Nat.beq k 44 then (1, 10) else (9, 0)
  else bif Nat.beq k 45 then (1, 10) else (9, 0)
  else bif Nat.blt k 51 then bif Nat.blt k 48 then bif Nat.blt k 47 then bif Nat.beq k 46 then (1, 10) else (9, 0)
  else bif Nat.beq k 47 then (1, 10) else (9, 0)
  else bif Nat.blt k 49 then bif Nat.beq k 48 then (1, 10) else (9, 0)
  else bif Nat.blt k 50 then bif Nat.beq k 49 then (1, 10) else (9, 0)
  else bif Nat.beq k 50 then (1, 10) else (9, 0)
  else bif Nat.blt k 53 then bif Nat.blt k 52 then bif Nat.beq k 51 then (1, 10) else (9, 0)
  else bif Nat.beq k 52 then (1, 10) else (9, 0)
  else bif Nat.blt k 54 then bif Nat.beq k 53 then (1, 10) else (9, 0)
  else bif Nat.blt k 55 then bif Nat.beq k 54 then (1, 10) else (9, 0)
  else bif Nat.beq k 55 then (1, 10) else (9, 0)
  else bif Nat.blt k 65 then bif Nat.blt k 60 then bif Nat.blt k 58 then bif Nat.blt k 57 then bif Nat.beq k 56 then (1, 10) else (9, 0)
  else bif Nat.beq k 57 then (1, 24) else (9, 0)
  else bif Nat.blt k 59 then bif Nat.beq k 58 then (1, 24) else (9, 0)
  else bif Nat.beq k 59 then (1, 24) else (9, 0)
  else bif Nat.blt k 62 then bif Nat.blt k 61 then bif Nat.beq k 60 then (1, 24) else (9, 0)
  else bif Nat.beq k 61 then (1, 9) else (9, 0)
  else bif Nat.blt k 63 then bif Nat.beq k 62 then (1, 9) else (9, 0)
  else bif Nat.blt k 64 then bif Nat.beq k 63 then (1, 0) else (9, 0)
  else bif Nat.beq k 64 then (1, 0) else (9, 0)
  else bif Nat.blt k 70 then bif Nat.blt k 67 then bif Nat.blt k 66 then bif Nat.beq k 65 then (1, 0) else (9, 0)
  else bif Nat.beq k 66 then (1, 0) else (9, 0)
  else bif Nat.blt k 68 then bif Nat.beq k 67 then (1, 0) else (9, 0)
  else bif Nat.blt k 69 then bif Nat.beq k 68 then (1, 0) else (9, 0)
  else bif Nat.beq k 69 then (1, 0) else (9, 0)
  else bif Nat.blt k 72 then bif Nat.blt k 71 then bif Nat.beq k 70 then (1, 0) else (9, 0)
  else bif Nat.beq k 71 then (1, 0) else (9, 0)
  else bif Nat.blt k 73 then bif Nat.beq k 72 then (1, 0) else (9, 0)
  else bif Nat.blt k 74 then bif Nat.beq k 73 then (1, 0) else (9, 0)
  else bif Nat.beq k 74 then (1, 0) else (9, 0)
def ginsP (k : Nat) : Nat × Nat :=
  bif Nat.blt k 37 then bif Nat.blt k 18 then bif Nat.blt k 9 then bif Nat.blt k 4 then bif Nat.blt k 2 then bif Nat.blt k 1 then bif Nat.beq k 0 then (4, 33) else (9, 0)
  else bif Nat.beq k 1 then (4, 27) else (9, 0)
  else bif Nat.blt k 3 then bif Nat.beq k 2 then (6, 45) else (9, 0)
  else bif Nat.beq k 3 then (6, 82) else (9, 0)
  else bif Nat.blt k 6 then bif Nat.blt k 5 then bif Nat.beq k 4 then (6, 85) else (9, 0)
  else bif Nat.beq k 5 then (4, 37) else (9, 0)
  else bif Nat.blt k 7 then bif Nat.beq k 6 then (4, 23) else (9, 0)
  else bif Nat.blt k 8 then bif Nat.beq k 7 then (4, 41) else (9, 0)
  else bif Nat.beq k 8 then (5, 196) else (9, 0)
  else bif Nat.blt k 13 then bif Nat.blt k 11 then bif Nat.blt k 10 then bif Nat.beq k 9 then (6, 51) else (9, 0)
  else bif Nat.beq k 10 then (5, 167) else (9, 0)
  else bif Nat.blt k 12 then bif Nat.beq k 11 then (6, 97) else (9, 0)
  else bif Nat.beq k 12 then (6, 76) else (9, 0)
  else bif Nat.blt k 15 then bif Nat.blt k 14 then bif Nat.beq k 13 then (6, 55) else (9, 0)
  else bif Nat.beq k 14 then (5, 200) else (9, 0)
  else bif Nat.blt k 16 then bif Nat.beq k 15 then (5, 208) else (9, 0)
  else bif Nat.blt k 17 then bif Nat.beq k 16 then (6, 89) else (9, 0)
  else bif Nat.beq k 17 then (6, 22) else (9, 0)
  else bif Nat.blt k 27 then bif Nat.blt k 22 then bif Nat.blt k 20 then bif Nat.blt k 19 then bif Nat.beq k 18 then (5, 170) else (9, 0)
  else bif Nat.beq k 19 then (5, 236) else (9, 0)
  else bif Nat.blt k 21 then bif Nat.beq k 20 then (6, 94) else (9, 0)
  else bif Nat.beq k 21 then (5, 212) else (9, 0)
  else bif Nat.blt k 24 then bif Nat.blt k 23 then bif Nat.beq k 22 then (6, 18) else (9, 0)
  else bif Nat.beq k 23 then (6, 61) else (9, 0)
  else bif Nat.blt k 25 then bif Nat.beq k 24 then (6, 58) else (9, 0)
  else bif Nat.blt k 26 then bif Nat.beq k 25 then (6, 109) else (9, 0)
  else bif Nat.beq k 26 then (6, 106) else (9, 0)
  else bif Nat.blt k 32 then bif Nat.blt k 29 then bif Nat.blt k 28 then bif Nat.beq k 27 then (6, 103) else (9, 0)
  else bif Nat.beq k 28 then (5, 226) else (9, 0)
  else bif Nat.blt k 30 then bif Nat.beq k 29 then (5, 215) else (9, 0)
  else bif Nat.blt k 31 then bif Nat.beq k 30 then (2, 200) else (9, 0)
  else bif Nat.beq k 31 then (3, 2) else (9, 0)
  else bif Nat.blt k 34 then bif Nat.blt k 33 then bif Nat.beq k 32 then (3, 15) else (9, 0)
  else bif Nat.beq k 33 then (3, 55) else (9, 0)
  else bif Nat.blt k 35 then bif Nat.beq k 34 then (3, 70) else (9, 0)
  else bif Nat.blt k 36 then bif Nat.beq k 35 then (3, 27) else (9, 0)
  else bif Nat.beq k 36 then (3, 32) else (9, 0)
  else bif Nat.blt k 55 then bif Nat.blt k 46 then bif Nat.blt k 41 then bif Nat.blt k 39 then bif Nat.blt k 38 then bif Nat.beq k 37 then (6, 154) else (9, 0)
  else bif Nat.beq k 38 then (6, 150) else (9, 0)
  else bif Nat.blt k 40 then bif Nat.beq k 39 then (3, 61) else (9, 0)
  else bif Nat.beq k 40 then (3, 51) else (9, 0)
  else bif Nat.blt k 43 then bif Nat.blt k 42 then bif Nat.beq k 41 then (3, 66) else (9, 0)
  else bif Nat.beq k 42 then (3, 23) else (9, 0)
  else bif Nat.blt k 44 then bif Nat.beq k 43 then (3, 19) else (9, 0)
  else bif Nat.blt k 45 then bif Nat.beq k 44 then (3, 75) else (9, 0)
  else bif Nat.beq k 45 then (3, 119) else (9, 0)
  else bif Nat.blt k 50 then bif Nat.blt k 48 then bif Nat.blt k 47 then bif Nat.beq k 46 then (3, 93) else (9, 0)
  else bif Nat.beq k 47 then (3, 80) else (9, 0)
  else bif Nat.blt k 49 then bif Nat.beq k 48 then (3, 84) else (9, 0)
  else bif Nat.beq k 49 then (6, 189) else (9, 0)
  else bif Nat.blt k 52 then bif Nat.blt k 51 then bif Nat.beq k 50 then (3, 89) else (9, 0)
  else bif Nat.beq k 51 then (3, 105) else (9, 0)
  else bif Nat.blt k 53 then bif Nat.beq k 52 then (3, 111) else (9, 0)
  else bif Nat.blt k 54 then bif Nat.beq k 53 then (3, 100) else (9, 0)
  else bif Nat.beq k 54 then (3, 123) else (9, 0)
  else bif Nat.blt k 64 then bif Nat.blt k 59 then bif Nat.blt k 57 then bif Nat.blt k 56 then bif Nat.beq k 55 then (3, 115) else (9, 0)
  else bif Nat.beq k 56 then (6, 201) else (9, 0)
  else bif Nat.blt k 58 then bif Nat.beq k 57 then (5, 141) else (9, 0)
  else bif Nat.beq k 58 then (5, 136) else (9, 0)
  else bif Nat.blt k 61 then bif Nat.blt k 60 then bif Nat.beq k 59 then (5, 161) else (9, 0)
  else bif Nat.beq k 60 then (3, 36) else (9, 0)
  else bif Nat.blt k 62 then bif Nat.beq k 61 then (3, 133) else (9, 0)
  else bif Nat.blt k 63 then bif Nat.beq k 62 then (3, 141) else (9, 0)
  else bif Nat.beq k 63 then (5, 114) else (9, 0)
  else bif Nat.blt k 69 then bif Nat.blt k 66 then bif Nat.blt k 65 then bif Nat.beq k 64 then (5, 117) else (9, 0)
  else bif Nat.beq k 65 then (6, 158) else (9, 0)
  else bif Nat.blt k 67 then bif Nat.beq k 66 then (5, 109) else (9, 0)
  else bif Nat.blt k 68 then bif Nat.beq k 67 then (5, 129) else (9, 0)
  else bif Nat.beq k 68 then (5, 96) else (9, 0)
  else bif Nat.blt k 71 then bif Nat.blt k 70 then bif Nat.beq k 69 then (3, 97) else (9, 0)
  else bif Nat.beq k 70 then (3, 128) else (9, 0)
  else bif Nat.blt k 72 then bif Nat.beq k 71 then (5, 106) else (9, 0)
  else bif Nat.blt k 73 then bif Nat.beq k 72 then (5, 102) else (9, 0)
  else bif Nat.beq k 73 then (6, 161) else (9, 0)
def gstO (k : Nat) : Bool :=
  bif Nat.blt k 37 then bif Nat.blt k 18 then bif Nat.blt k 9 then bif Nat.blt k 4 then bif Nat.blt k 2 then bif Nat.blt k 1 then bif Nat.beq k 0 then false else false
  else bif Nat.beq k 1 then false else false
  else bif Nat.blt k 3 then bif Nat.beq k 2 then false else false
  else bif Nat.beq k 3 then false else false
  else bif Nat.blt k 6 then bif Nat.blt k 5 then bif Nat.beq k 4 then false else false
  else bif Nat.beq k 5 then false else false
  else bif Nat.blt k 7 then bif Nat.beq k 6 then false else false
  else bif Nat.blt k 8 then bif Nat.beq k 7 then true else false
  else bif Nat.beq k 8 then false else false
  else bif Nat.blt k 13 then bif Nat.blt k 11 then bif Nat.blt k 10 then bif Nat.beq k 9 then false else false
  else bif Nat.beq k 10 then false else false
  else bif Nat.blt k 12 then bif Nat.beq k 11 then false else false
  else bif Nat.beq k 12 then false else false
  else bif Nat.blt k 15 then bif Nat.blt k 14 then bif Nat.beq k 13 then false else false
  else bif Nat.beq k 14 then false else false
  else bif Nat.blt k 16 then bif Nat.beq k 15 then false else false
  else bif Nat.blt k 17 then bif Nat.beq k 16 then false else false
  else bif Nat.beq k 17 then false else false
  else bif Nat.blt k 27 then bif Nat.blt k 22 then bif Nat.blt k 20 then bif Nat.blt k 19 then bif Nat.beq k 18 then false else false
  else bif Nat.beq k 19 then false else false
  else bif Nat.blt k 21 then bif Nat.beq k 20 then false else false
  else bif Nat.beq k 21 then false else false
  else bif Nat.blt k 24 then bif Nat.blt k 23 then bif Nat.beq k 22 then false else false
  else bif Nat.beq k 23 then true else false
  else bif Nat.blt k 25 then bif Nat.beq k 24 then true else false
  else bif Nat.blt k 26 then bif Nat.beq k 25 then true else false
  else bif Nat.beq k 26 then true else false
  else bif Nat.blt k 32 then bif Nat.blt k 29 then bif Nat.blt k 28 then bif Nat.beq k 27 then true else false
  else bif Nat.beq k 28 then true else false
  else bif Nat.blt k 30 then bif Nat.beq k 29 then true else false
  else bif Nat.blt k 31 then bif Nat.beq k 30 then false else false
  else bif Nat.beq k 31 then false else false
  else bif Nat.blt k 34 then bif Nat.blt k 33 then bif Nat.beq k 32 then false else false
  else bif Nat.beq k 33 then false else false
  else bif Nat.blt k 35 then bif Nat.beq k 34 then false else false
  else bif Nat.blt k 36 then bif Nat.beq k 35 then false else false
  else bif Nat.beq k 36 then false else false
  else bif Nat.blt k 56 then bif Nat.blt k 46 then bif Nat.blt k 41 then bif Nat.blt k 39 then bif Nat.blt k 38 then bif Nat.beq k 37 then false else false
  else bif Nat.beq k 38 then false else false
  else bif Nat.blt k 40 then bif Nat.beq k 39 then false else false
  else bif Nat.beq k 40 then false else false
  else bif Nat.blt k 43 then bif Nat.blt k 42 then bif Nat.beq k 41 then false else false
  else bif Nat.beq k 42 then false else false
  else bif Nat.blt k 44 then bif Nat.beq k 43 then false else false
  else bif Nat.blt k 45 then bif Nat.beq k 44 then false else false
  else bif Nat.beq k 45 then false else false
  else bif Nat.blt k 51 then bif Nat.blt k 48 then bif Nat.blt k 47 then bif Nat.beq k 46 then false else false
  else bif Nat.beq k 47 then false else false
  else bif Nat.blt k 49 then bif Nat.beq k 48 then false else false
  else bif Nat.blt k 50 then bif Nat.beq k 49 then false else false
  else bif Nat.beq k 50 then false else false
  else bif Nat.blt k 53 then bif Nat.blt k 52 then bif Nat.beq k 51 then false else false
  else bif Nat.beq k 52 then false else false
  else bif Nat.blt k 54 then bif Nat.beq k 53 then false else false
  else bif Nat.blt k 55 then bif Nat.beq k 54 then false else false
  else bif Nat.beq k 55 then false else false
  else bif Nat.blt k 65 then bif Nat.blt k 60 then bif Nat.blt k 58 then bif Nat.blt k 57 then bif Nat.beq k 56 then false else false
  else bif Nat.beq k 57 then false else false
  else bif Nat.blt k 59 then bif Nat.beq k 58 then true else false
  else bif Nat.beq k 59 then false else false
  else bif Nat.blt k 62 then bif Nat.blt k 61 then bif Nat.beq k 60 then false else false
  else bif Nat.beq k 61 then false else false
  else bif Nat.blt k 63 then bif Nat.beq k 62 then false else false
  else bif Nat.blt k 64 then bif Nat.beq k 63 then true else false
  else bif Nat.beq k 64 then true else false
  else bif Nat.blt k 70 then bif Nat.blt k 67 then bif Nat.blt k 66 then bif Nat.beq k 65 then true else false
  else bif Nat.beq k 66 then true else false
  else bif Nat.blt k 68 then bif Nat.beq k 67 then true else false
  else bif Nat.blt k 69 then bif Nat.beq k 68 then true else false
  else bif Nat.beq k 69 then true else false
  else bif Nat.blt k 72 then bif Nat.blt k 71 then bif Nat.beq k 70 then true else false
  else bif Nat.beq k 71 then true else false
  else bif Nat.blt k 73 then bif Nat.beq k 72 then true else false
  else bif Nat.blt k 74 then bif Nat.beq k 73 then true else false
  else bif Nat.beq k 74 then true else false
def gselP (k : Nat) : Nat × Nat :=
  bif Nat.blt k 40 then bif Nat.blt k 19 then bif Nat.blt k 6 then bif Nat.blt k 2 then bif Nat.blt k 1 then bif Nat.beq k 0 then (4, 34) else (9, 0)
  else bif Nat.beq k 1 then (4, 28) else (9, 0)
  else bif Nat.blt k 5 then bif Nat.beq k 2 then (6, 46) else (9, 0)
  else bif Nat.beq k 5 then (4, 38) else (9, 0)
  else bif Nat.blt k 9 then bif Nat.blt k 8 then bif Nat.beq k 6 then (4, 24) else (9, 0)
  else bif Nat.beq k 8 then (5, 197) else (9, 0)
  else bif Nat.blt k 12 then bif Nat.beq k 9 then (6, 52) else (9, 0)
  else bif Nat.blt k 16 then bif Nat.beq k 12 then (6, 77) else (9, 0)
  else bif Nat.beq k 16 then (6, 91) else (9, 0)
  else bif Nat.blt k 35 then bif Nat.blt k 32 then bif Nat.blt k 31 then bif Nat.beq k 19 then (5, 238) else (9, 0)
  else bif Nat.beq k 31 then (3, 3) else (9, 0)
  else bif Nat.blt k 33 then bif Nat.beq k 32 then (3, 16) else (9, 0)
  else bif Nat.blt k 34 then bif Nat.beq k 33 then (3, 56) else (9, 0)
  else bif Nat.beq k 34 then (3, 71) else (9, 0)
  else bif Nat.blt k 37 then bif Nat.blt k 36 then bif Nat.beq k 35 then (3, 28) else (9, 0)
  else bif Nat.beq k 36 then (3, 33) else (9, 0)
  else bif Nat.blt k 38 then bif Nat.beq k 37 then (6, 155) else (9, 0)
  else bif Nat.blt k 39 then bif Nat.beq k 38 then (6, 151) else (9, 0)
  else bif Nat.beq k 39 then (3, 62) else (9, 0)
  else bif Nat.blt k 50 then bif Nat.blt k 45 then bif Nat.blt k 42 then bif Nat.blt k 41 then bif Nat.beq k 40 then (3, 52) else (9, 0)
  else bif Nat.beq k 41 then (3, 67) else (9, 0)
  else bif Nat.blt k 43 then bif Nat.beq k 42 then (3, 24) else (9, 0)
  else bif Nat.blt k 44 then bif Nat.beq k 43 then (3, 20) else (9, 0)
  else bif Nat.beq k 44 then (3, 76) else (9, 0)
  else bif Nat.blt k 47 then bif Nat.blt k 46 then bif Nat.beq k 45 then (3, 120) else (9, 0)
  else bif Nat.beq k 46 then (3, 94) else (9, 0)
  else bif Nat.blt k 48 then bif Nat.beq k 47 then (3, 81) else (9, 0)
  else bif Nat.blt k 49 then bif Nat.beq k 48 then (3, 85) else (9, 0)
  else bif Nat.beq k 49 then (6, 190) else (9, 0)
  else bif Nat.blt k 55 then bif Nat.blt k 52 then bif Nat.blt k 51 then bif Nat.beq k 50 then (3, 90) else (9, 0)
  else bif Nat.beq k 51 then (3, 106) else (9, 0)
  else bif Nat.blt k 53 then bif Nat.beq k 52 then (3, 112) else (9, 0)
  else bif Nat.blt k 54 then bif Nat.beq k 53 then (3, 101) else (9, 0)
  else bif Nat.beq k 54 then (3, 124) else (9, 0)
  else bif Nat.blt k 59 then bif Nat.blt k 56 then bif Nat.beq k 55 then (3, 116) else (9, 0)
  else bif Nat.beq k 56 then (6, 202) else (9, 0)
  else bif Nat.blt k 60 then bif Nat.beq k 59 then (5, 162) else (9, 0)
  else bif Nat.blt k 62 then bif Nat.beq k 60 then (3, 37) else (9, 0)
  else bif Nat.beq k 62 then (3, 142) else (9, 0)
def gsamP (k : Nat) : Nat × Nat :=
  bif Nat.blt k 17 then bif Nat.blt k 15 then bif Nat.blt k 14 then bif Nat.beq k 13 then (7, 41) else (9, 0)
  else bif Nat.beq k 14 then (7, 34) else (9, 0)
  else bif Nat.blt k 16 then bif Nat.beq k 15 then (7, 36) else (9, 0)
  else bif Nat.beq k 16 then (6, 90) else (9, 0)
  else bif Nat.blt k 20 then bif Nat.blt k 19 then bif Nat.beq k 17 then (7, 39) else (9, 0)
  else bif Nat.beq k 19 then (5, 237) else (9, 0)
  else bif Nat.blt k 21 then bif Nat.beq k 20 then (6, 95) else (9, 0)
  else bif Nat.blt k 22 then bif Nat.beq k 21 then (7, 37) else (9, 0)
  else bif Nat.beq k 22 then (7, 38) else (9, 0)
def gpP (q : Nat) : Nat × Nat :=
  bif Nat.blt q 2068 then bif Nat.blt q 229 then bif Nat.blt q 149 then bif Nat.blt q 113 then bif Nat.blt q 42 then bif Nat.blt q 23 then bif Nat.blt q 13 then bif Nat.beq q 7 then (5, 116) else (9, 0)
  else bif Nat.blt q 19 then bif Nat.beq q 13 then (5, 119) else (9, 0)
  else bif Nat.beq q 19 then (3, 145) else (9, 0)
  else bif Nat.blt q 29 then bif Nat.beq q 23 then (5, 111) else (9, 0)
  else bif Nat.blt q 33 then bif Nat.beq q 29 then (5, 112) else (9, 0)
  else bif Nat.beq q 33 then (5, 113) else (9, 0)
  else bif Nat.blt q 88 then bif Nat.blt q 49 then bif Nat.beq q 42 then (4, 173) else (9, 0)
  else bif Nat.blt q 73 then bif Nat.beq q 49 then (4, 204) else (9, 0)
  else bif Nat.beq q 73 then (7, 19) else (9, 0)
  else bif Nat.blt q 107 then bif Nat.blt q 105 then bif Nat.beq q 88 then (5, 2) else (9, 0)
  else bif Nat.beq q 105 then (5, 98) else (9, 0)
  else bif Nat.blt q 111 then bif Nat.beq q 107 then (5, 108) else (9, 0)
  else bif Nat.beq q 111 then (5, 127) else (9, 0)
  else bif Nat.blt q 126 then bif Nat.blt q 120 then bif Nat.blt q 116 then bif Nat.beq q 113 then (5, 128) else (9, 0)
  else bif Nat.blt q 118 then bif Nat.beq q 116 then (5, 131) else (9, 0)
  else bif Nat.beq q 118 then (2, 197) else (9, 0)
  else bif Nat.blt q 121 then bif Nat.beq q 120 then (2, 199) else (9, 0)
  else bif Nat.blt q 122 then bif Nat.beq q 121 then (3, 140) else (9, 0)
  else bif Nat.beq q 122 then (3, 130) else (9, 0)
  else bif Nat.blt q 135 then bif Nat.blt q 130 then bif Nat.beq q 126 then (2, 206) else (9, 0)
  else bif Nat.blt q 133 then bif Nat.beq q 130 then (2, 208) else (9, 0)
  else bif Nat.beq q 133 then (5, 104) else (9, 0)
  else bif Nat.blt q 143 then bif Nat.blt q 139 then bif Nat.beq q 135 then (5, 105) else (9, 0)
  else bif Nat.beq q 139 then (2, 212) else (9, 0)
  else bif Nat.blt q 147 then bif Nat.beq q 143 then (5, 95) else (9, 0)
  else bif Nat.beq q 147 then (5, 132) else (9, 0)
  else bif Nat.blt q 192 then bif Nat.blt q 169 then bif Nat.blt q 157 then bif Nat.blt q 152 then bif Nat.beq q 149 then (2, 214) else (9, 0)
  else bif Nat.blt q 154 then bif Nat.beq q 152 then (5, 133) else (9, 0)
  else bif Nat.beq q 154 then (2, 216) else (9, 0)
  else bif Nat.blt q 161 then bif Nat.beq q 157 then (5, 99) else (9, 0)
  else bif Nat.blt q 163 then bif Nat.beq q 161 then (5, 134) else (9, 0)
  else bif Nat.beq q 163 then (5, 135) else (9, 0)
  else bif Nat.blt q 179 then bif Nat.blt q 173 then bif Nat.beq q 169 then (2, 210) else (9, 0)
  else bif Nat.blt q 175 then bif Nat.beq q 173 then (5, 159) else (9, 0)
  else bif Nat.beq q 175 then (5, 160) else (9, 0)
  else bif Nat.blt q 186 then bif Nat.blt q 182 then bif Nat.beq q 179 then (6, 149) else (9, 0)
  else bif Nat.beq q 182 then (6, 157) else (9, 0)
  else bif Nat.blt q 189 then bif Nat.beq q 186 then (6, 163) else (9, 0)
  else bif Nat.beq q 189 then (6, 167) else (9, 0)
  else bif Nat.blt q 210 then bif Nat.blt q 201 then bif Nat.blt q 195 then bif Nat.beq q 192 then (6, 171) else (9, 0)
  else bif Nat.blt q 198 then bif Nat.beq q 195 then (6, 175) else (9, 0)
  else bif Nat.beq q 198 then (2, 220) else (9, 0)
  else bif Nat.blt q 204 then bif Nat.beq q 201 then (6, 179) else (9, 0)
  else bif Nat.blt q 207 then bif Nat.beq q 204 then (6, 183) else (9, 0)
  else bif Nat.beq q 207 then (6, 184) else (9, 0)
  else bif Nat.blt q 220 then bif Nat.blt q 213 then bif Nat.beq q 210 then (6, 188) else (9, 0)
  else bif Nat.blt q 217 then bif Nat.beq q 213 then (6, 192) else (9, 0)
  else bif Nat.beq q 217 then (6, 200) else (9, 0)
  else bif Nat.blt q 225 then bif Nat.blt q 222 then bif Nat.beq q 220 then (6, 206) else (9, 0)
  else bif Nat.beq q 222 then (2, 218) else (9, 0)
  else bif Nat.blt q 227 then bif Nat.beq q 225 then (6, 213) else (9, 0)
  else bif Nat.beq q 227 then (6, 220) else (9, 0)
  else bif Nat.blt q 301 then bif Nat.blt q 264 then bif Nat.blt q 244 then bif Nat.blt q 235 then bif Nat.blt q 230 then bif Nat.beq q 229 then (6, 228) else (9, 0)
  else bif Nat.blt q 232 then bif Nat.beq q 230 then (6, 229) else (9, 0)
  else bif Nat.beq q 232 then (3, 74) else (9, 0)
  else bif Nat.blt q 238 then bif Nat.beq q 235 then (6, 236) else (9, 0)
  else bif Nat.blt q 241 then bif Nat.beq q 238 then (7, 20) else (9, 0)
  else bif Nat.beq q 241 then (3, 132) else (9, 0)
  else bif Nat.blt q 254 then bif Nat.blt q 248 then bif Nat.beq q 244 then (6, 160) else (9, 0)
  else bif Nat.blt q 251 then bif Nat.beq q 248 then (2, 40) else (9, 0)
  else bif Nat.beq q 251 then (2, 158) else (9, 0)
  else bif Nat.blt q 259 then bif Nat.blt q 256 then bif Nat.beq q 254 then (5, 3) else (9, 0)
  else bif Nat.beq q 256 then (5, 16) else (9, 0)
  else bif Nat.blt q 261 then bif Nat.beq q 259 then (5, 71) else (9, 0)
  else bif Nat.beq q 261 then (2, 44) else (9, 0)
  else bif Nat.blt q 284 then bif Nat.blt q 276 then bif Nat.blt q 268 then bif Nat.beq q 264 then (5, 101) else (9, 0)
  else bif Nat.blt q 272 then bif Nat.beq q 268 then (3, 1) else (9, 0)
  else bif Nat.beq q 272 then (3, 79) else (9, 0)
  else bif Nat.blt q 280 then bif Nat.beq q 276 then (5, 100) else (9, 0)
  else bif Nat.blt q 283 then bif Nat.beq q 280 then (3, 18) else (9, 0)
  else bif Nat.beq q 283 then (7, 32) else (9, 0)
  else bif Nat.blt q 292 then bif Nat.blt q 286 then bif Nat.beq q 284 then (5, 37) else (9, 0)
  else bif Nat.blt q 290 then bif Nat.beq q 286 then (7, 27) else (9, 0)
  else bif Nat.beq q 290 then (5, 56) else (9, 0)
  else bif Nat.blt q 296 then bif Nat.blt q 295 then bif Nat.beq q 292 then (2, 79) else (9, 0)
  else bif Nat.beq q 295 then (3, 99) else (9, 0)
  else bif Nat.blt q 297 then bif Nat.beq q 296 then (3, 114) else (9, 0)
  else bif Nat.beq q 297 then (3, 83) else (9, 0)
  else bif Nat.blt q 2029 then bif Nat.blt q 2009 then bif Nat.blt q 310 then bif Nat.blt q 305 then bif Nat.beq q 301 then (3, 88) else (9, 0)
  else bif Nat.blt q 307 then bif Nat.beq q 305 then (4, 174) else (9, 0)
  else bif Nat.beq q 307 then (3, 14) else (9, 0)
  else bif Nat.blt q 312 then bif Nat.beq q 310 then (4, 205) else (9, 0)
  else bif Nat.blt q 2003 then bif Nat.beq q 312 then (4, 217) else (9, 0)
  else bif Nat.beq q 2003 then (2, 202) else (9, 0)
  else bif Nat.blt q 2017 then bif Nat.blt q 2011 then bif Nat.beq q 2009 then (2, 203) else (9, 0)
  else bif Nat.blt q 2012 then bif Nat.beq q 2011 then (2, 211) else (9, 0)
  else bif Nat.beq q 2012 then (3, 5) else (9, 0)
  else bif Nat.blt q 2023 then bif Nat.blt q 2020 then bif Nat.beq q 2017 then (2, 213) else (9, 0)
  else bif Nat.beq q 2020 then (2, 215) else (9, 0)
  else bif Nat.blt q 2026 then bif Nat.beq q 2023 then (2, 217) else (9, 0)
  else bif Nat.beq q 2026 then (2, 219) else (9, 0)
  else bif Nat.blt q 2046 then bif Nat.blt q 2037 then bif Nat.blt q 2030 then bif Nat.beq q 2029 then (3, 6) else (9, 0)
  else bif Nat.blt q 2034 then bif Nat.beq q 2030 then (2, 205) else (9, 0)
  else bif Nat.beq q 2034 then (2, 207) else (9, 0)
  else bif Nat.blt q 2041 then bif Nat.beq q 2037 then (2, 209) else (9, 0)
  else bif Nat.blt q 2042 then bif Nat.beq q 2041 then (3, 7) else (9, 0)
  else bif Nat.beq q 2042 then (3, 13) else (9, 0)
  else bif Nat.blt q 2056 then bif Nat.blt q 2049 then bif Nat.beq q 2046 then (2, 221) else (9, 0)
  else bif Nat.blt q 2053 then bif Nat.beq q 2049 then (3, 69) else (9, 0)
  else bif Nat.beq q 2053 then (3, 54) else (9, 0)
  else bif Nat.blt q 2064 then bif Nat.blt q 2060 then bif Nat.beq q 2056 then (3, 59) else (9, 0)
  else bif Nat.beq q 2060 then (6, 153) else (9, 0)
  else bif Nat.blt q 2067 then bif Nat.beq q 2064 then (3, 26) else (9, 0)
  else bif Nat.beq q 2067 then (3, 58) else (9, 0)
  else bif Nat.blt q 4086 then bif Nat.blt q 4007 then bif Nat.blt q 2113 then bif Nat.blt q 2091 then bif Nat.blt q 2079 then bif Nat.blt q 2072 then bif Nat.beq q 2068 then (3, 60) else (9, 0)
  else bif Nat.blt q 2077 then bif Nat.beq q 2072 then (3, 64) else (9, 0)
  else bif Nat.beq q 2077 then (3, 30) else (9, 0)
  else bif Nat.blt q 2082 then bif Nat.beq q 2079 then (3, 31) else (9, 0)
  else bif Nat.blt q 2088 then bif Nat.beq q 2082 then (3, 35) else (9, 0)
  else bif Nat.beq q 2088 then (3, 48) else (9, 0)
  else bif Nat.blt q 2100 then bif Nat.blt q 2094 then bif Nat.beq q 2091 then (3, 49) else (9, 0)
  else bif Nat.blt q 2097 then bif Nat.beq q 2094 then (3, 22) else (9, 0)
  else bif Nat.beq q 2097 then (3, 50) else (9, 0)
  else bif Nat.blt q 2107 then bif Nat.blt q 2103 then bif Nat.beq q 2100 then (3, 65) else (9, 0)
  else bif Nat.beq q 2103 then (3, 78) else (9, 0)
  else bif Nat.blt q 2109 then bif Nat.beq q 2107 then (3, 109) else (9, 0)
  else bif Nat.beq q 2109 then (3, 87) else (9, 0)
  else bif Nat.blt q 2135 then bif Nat.blt q 2124 then bif Nat.blt q 2117 then bif Nat.beq q 2113 then (3, 103) else (9, 0)
  else bif Nat.blt q 2120 then bif Nat.beq q 2117 then (3, 92) else (9, 0)
  else bif Nat.beq q 2120 then (3, 96) else (9, 0)
  else bif Nat.blt q 2128 then bif Nat.beq q 2124 then (3, 108) else (9, 0)
  else bif Nat.blt q 2131 then bif Nat.beq q 2128 then (3, 104) else (9, 0)
  else bif Nat.beq q 2131 then (3, 110) else (9, 0)
  else bif Nat.blt q 2146 then bif Nat.blt q 2139 then bif Nat.beq q 2135 then (3, 126) else (9, 0)
  else bif Nat.blt q 2143 then bif Nat.beq q 2139 then (3, 127) else (9, 0)
  else bif Nat.beq q 2143 then (3, 118) else (9, 0)
  else bif Nat.blt q 2155 then bif Nat.blt q 2153 then bif Nat.beq q 2146 then (3, 122) else (9, 0)
  else bif Nat.beq q 2153 then (6, 204) else (9, 0)
  else bif Nat.blt q 4001 then bif Nat.beq q 2155 then (6, 205) else (9, 0)
  else bif Nat.beq q 4001 then (5, 143) else (9, 0)
  else bif Nat.blt q 4046 then bif Nat.blt q 4027 then bif Nat.blt q 4016 then bif Nat.blt q 4009 then bif Nat.beq q 4007 then (5, 138) else (9, 0)
  else bif Nat.blt q 4010 then bif Nat.beq q 4009 then (5, 140) else (9, 0)
  else bif Nat.beq q 4010 then (5, 157) else (9, 0)
  else bif Nat.blt q 4020 then bif Nat.beq q 4016 then (5, 144) else (9, 0)
  else bif Nat.blt q 4023 then bif Nat.beq q 4020 then (5, 145) else (9, 0)
  else bif Nat.beq q 4023 then (5, 158) else (9, 0)
  else bif Nat.blt q 4036 then bif Nat.blt q 4031 then bif Nat.beq q 4027 then (5, 146) else (9, 0)
  else bif Nat.blt q 4034 then bif Nat.beq q 4031 then (5, 147) else (9, 0)
  else bif Nat.beq q 4034 then (5, 164) else (9, 0)
  else bif Nat.blt q 4039 then bif Nat.blt q 4037 then bif Nat.beq q 4036 then (5, 166) else (9, 0)
  else bif Nat.beq q 4037 then (5, 194) else (9, 0)
  else bif Nat.blt q 4043 then bif Nat.beq q 4039 then (5, 195) else (9, 0)
  else bif Nat.beq q 4043 then (6, 50) else (9, 0)
  else bif Nat.blt q 4066 then bif Nat.blt q 4060 then bif Nat.blt q 4050 then bif Nat.beq q 4046 then (6, 75) else (9, 0)
  else bif Nat.blt q 4056 then bif Nat.beq q 4050 then (6, 140) else (9, 0)
  else bif Nat.beq q 4056 then (6, 142) else (9, 0)
  else bif Nat.blt q 4062 then bif Nat.beq q 4060 then (6, 143) else (9, 0)
  else bif Nat.blt q 4064 then bif Nat.beq q 4062 then (6, 144) else (9, 0)
  else bif Nat.beq q 4064 then (6, 145) else (9, 0)
  else bif Nat.blt q 4072 then bif Nat.blt q 4068 then bif Nat.beq q 4066 then (6, 146) else (9, 0)
  else bif Nat.blt q 4070 then bif Nat.beq q 4068 then (6, 147) else (9, 0)
  else bif Nat.beq q 4070 then (6, 148) else (9, 0)
  else bif Nat.blt q 4078 then bif Nat.blt q 4076 then bif Nat.beq q 4072 then (3, 39) else (9, 0)
  else bif Nat.beq q 4076 then (3, 40) else (9, 0)
  else bif Nat.blt q 4080 then bif Nat.beq q 4078 then (3, 41) else (9, 0)
  else bif Nat.beq q 4080 then (3, 42) else (9, 0)
  else bif Nat.blt q 14015 then bif Nat.blt q 8495 then bif Nat.blt q 8015 then bif Nat.blt q 6013 then bif Nat.blt q 6001 then bif Nat.beq q 4086 then (3, 45) else (9, 0)
  else bif Nat.blt q 6007 then bif Nat.beq q 6001 then (3, 135) else (9, 0)
  else bif Nat.beq q 6007 then (3, 136) else (9, 0)
  else bif Nat.blt q 8001 then bif Nat.beq q 6013 then (3, 144) else (9, 0)
  else bif Nat.blt q 8009 then bif Nat.beq q 8001 then (6, 87) else (9, 0)
  else bif Nat.beq q 8009 then (6, 129) else (9, 0)
  else bif Nat.blt q 8212 then bif Nat.blt q 8038 then bif Nat.beq q 8015 then (6, 130) else (9, 0)
  else bif Nat.blt q 8054 then bif Nat.beq q 8038 then (4, 30) else (9, 0)
  else bif Nat.beq q 8054 then (6, 102) else (9, 0)
  else bif Nat.blt q 8489 then bif Nat.blt q 8335 then bif Nat.beq q 8212 then (6, 48) else (9, 0)
  else bif Nat.beq q 8335 then (4, 26) else (9, 0)
  else bif Nat.blt q 8492 then bif Nat.beq q 8489 then (6, 84) else (9, 0)
  else bif Nat.beq q 8492 then (4, 36) else (9, 0)
  else bif Nat.blt q 12001 then bif Nat.blt q 9047 then bif Nat.blt q 8549 then bif Nat.beq q 8495 then (4, 40) else (9, 0)
  else bif Nat.blt q 8552 then bif Nat.beq q 8549 then (6, 93) else (9, 0)
  else bif Nat.beq q 8552 then (6, 88) else (9, 0)
  else bif Nat.blt q 9048 then bif Nat.beq q 9047 then (6, 101) else (9, 0)
  else bif Nat.blt q 10009 then bif Nat.beq q 9048 then (5, 183) else (9, 0)
  else bif Nat.beq q 10009 then (4, 43) else (9, 0)
  else bif Nat.blt q 12053 then bif Nat.blt q 12018 then bif Nat.beq q 12001 then (5, 169) else (9, 0)
  else bif Nat.blt q 12029 then bif Nat.beq q 12018 then (6, 79) else (9, 0)
  else bif Nat.beq q 12029 then (5, 199) else (9, 0)
  else bif Nat.blt q 12343 then bif Nat.blt q 12137 then bif Nat.beq q 12053 then (6, 54) else (9, 0)
  else bif Nat.beq q 12137 then (6, 81) else (9, 0)
  else bif Nat.blt q 14003 then bif Nat.beq q 12343 then (6, 99) else (9, 0)
  else bif Nat.beq q 14003 then (5, 172) else (9, 0)
  else bif Nat.blt q 14245 then bif Nat.blt q 14079 then bif Nat.blt q 14032 then bif Nat.blt q 14018 then bif Nat.beq q 14015 then (5, 181) else (9, 0)
  else bif Nat.blt q 14022 then bif Nat.beq q 14018 then (5, 173) else (9, 0)
  else bif Nat.beq q 14022 then (5, 182) else (9, 0)
  else bif Nat.blt q 14039 then bif Nat.beq q 14032 then (6, 15) else (9, 0)
  else bif Nat.blt q 14040 then bif Nat.beq q 14039 then (5, 224) else (9, 0)
  else bif Nat.beq q 14040 then (6, 24) else (9, 0)
  else bif Nat.blt q 14104 then bif Nat.blt q 14083 then bif Nat.beq q 14079 then (5, 184) else (9, 0)
  else bif Nat.blt q 14100 then bif Nat.beq q 14083 then (5, 235) else (9, 0)
  else bif Nat.beq q 14100 then (5, 206) else (9, 0)
  else bif Nat.blt q 14114 then bif Nat.blt q 14108 then bif Nat.beq q 14104 then (5, 210) else (9, 0)
  else bif Nat.beq q 14108 then (5, 225) else (9, 0)
  else bif Nat.blt q 14208 then bif Nat.beq q 14114 then (5, 214) else (9, 0)
  else bif Nat.beq q 14208 then (6, 16) else (9, 0)
  else bif Nat.blt q 18304 then bif Nat.blt q 14399 then bif Nat.blt q 14248 then bif Nat.beq q 14245 then (6, 57) else (9, 0)
  else bif Nat.blt q 14397 then bif Nat.beq q 14248 then (6, 60) else (9, 0)
  else bif Nat.beq q 14397 then (6, 20) else (9, 0)
  else bif Nat.blt q 16087 then bif Nat.blt q 16083 then bif Nat.beq q 14399 then (6, 44) else (9, 0)
  else bif Nat.beq q 16083 then (6, 63) else (9, 0)
  else bif Nat.blt q 18150 then bif Nat.beq q 16087 then (6, 65) else (9, 0)
  else bif Nat.beq q 18150 then (5, 234) else (9, 0)
  else bif Nat.blt q 18339 then bif Nat.blt q 18310 then bif Nat.beq q 18304 then (5, 233) else (9, 0)
  else bif Nat.blt q 18311 then bif Nat.beq q 18310 then (5, 228) else (9, 0)
  else bif Nat.beq q 18311 then (5, 232) else (9, 0)
  else bif Nat.blt q 20194 then bif Nat.blt q 18343 then bif Nat.beq q 18339 then (6, 105) else (9, 0)
  else bif Nat.beq q 18343 then (6, 108) else (9, 0)
  else bif Nat.blt q 20200 then bif Nat.beq q 20194 then (5, 217) else (9, 0)
  else bif Nat.beq q 20200 then (5, 220) else (9, 0)
def gsrs (q : Nat) : Option Nat :=
  bif Nat.blt q 4037 then bif Nat.blt q 147 then bif Nat.blt q 116 then bif Nat.beq q 111 then some 5 else none
  else bif Nat.blt q 133 then bif Nat.beq q 116 then some 6 else none
  else bif Nat.beq q 133 then some 0 else none
  else bif Nat.blt q 161 then bif Nat.blt q 152 then bif Nat.beq q 147 then some 1 else none
  else bif Nat.beq q 152 then some 2 else none
  else bif Nat.blt q 173 then bif Nat.beq q 161 then some 3 else none
  else bif Nat.beq q 173 then some 4 else none
  else bif Nat.blt q 4064 then bif Nat.blt q 4060 then bif Nat.beq q 4037 then some 7 else none
  else bif Nat.blt q 4062 then bif Nat.beq q 4060 then some 10 else none
  else bif Nat.beq q 4062 then some 11 else none
  else bif Nat.blt q 4068 then bif Nat.blt q 4066 then bif Nat.beq q 4064 then some 12 else none
  else bif Nat.beq q 4066 then some 13 else none
  else bif Nat.blt q 4070 then bif Nat.beq q 4068 then some 14 else none
  else bif Nat.beq q 4070 then some 15 else none
def gsTx (j : Nat) : String := ["network", " edge", "ban", "depot", "service ", " ", ";", "", "cost", "demand", "+", " - ", "* ", "/", "(", ")"].getD j ""
def ginstP (ci : Nat) : Nat × Nat := match ci with
  | 8 => (2, 198)
  | 9 => (5, 139)
  | 10 => (3, 131)
  | 11 => (6, 80)
  | 12 => (5, 165)
  | _ => (9, 0)
def ginitP (ci : Nat) : Nat × Nat := match ci with
  | 8 => (1, 10)
  | 9 => (1, 24)
  | 10 => (1, 9)
  | 11 => (1, 20)
  | 12 => (1, 26)
  | _ => (9, 0)
def gnst (q : Nat) : Bool :=
  bif Nat.blt q 2120 then bif Nat.beq q 120 then true else false
  else bif Nat.blt q 2139 then bif Nat.beq q 2120 then true else false
  else bif Nat.beq q 2139 then true else false
def gLEN : Nat := 11
def gstP (k : Nat) : Nat × Nat :=
  bif Nat.blt k 111 then bif Nat.blt k 107 then bif Nat.blt k 105 then bif Nat.beq k 104 then (3, 146) else (9, 0)
  else bif Nat.blt k 106 then bif Nat.beq k 105 then (4, 175) else (9, 0)
  else bif Nat.beq k 106 then (4, 206) else (9, 0)
  else bif Nat.blt k 109 then bif Nat.blt k 108 then bif Nat.beq k 107 then (6, 207) else (9, 0)
  else bif Nat.beq k 108 then (6, 214) else (9, 0)
  else bif Nat.blt k 110 then bif Nat.beq k 109 then (6, 237) else (9, 0)
  else bif Nat.beq k 110 then (6, 221) else (9, 0)
  else bif Nat.blt k 115 then bif Nat.blt k 113 then bif Nat.blt k 112 then bif Nat.beq k 111 then (6, 230) else (9, 0)
  else bif Nat.beq k 112 then (7, 21) else (9, 0)
  else bif Nat.blt k 114 then bif Nat.beq k 113 then (4, 218) else (9, 0)
  else bif Nat.beq k 114 then (5, 4) else (9, 0)
  else bif Nat.blt k 117 then bif Nat.blt k 116 then bif Nat.beq k 115 then (5, 17) else (9, 0)
  else bif Nat.beq k 116 then (5, 38) else (9, 0)
  else bif Nat.blt k 118 then bif Nat.beq k 117 then (5, 57) else (9, 0)
  else bif Nat.beq k 118 then (5, 72) else (9, 0)
def gxiP (k : Nat) : Nat × Nat :=
  bif Nat.blt k 78 then bif Nat.blt k 73 then bif Nat.blt k 71 then bif Nat.beq k 69 then (5, 120) else (9, 0)
  else bif Nat.blt k 72 then bif Nat.beq k 71 then (2, 41) else (9, 0)
  else bif Nat.beq k 72 then (6, 164) else (9, 0)
  else bif Nat.blt k 74 then bif Nat.beq k 73 then (6, 168) else (9, 0)
  else bif Nat.blt k 75 then bif Nat.beq k 74 then (6, 172) else (9, 0)
  else bif Nat.beq k 75 then (6, 176) else (9, 0)
  else bif Nat.blt k 92 then bif Nat.blt k 84 then bif Nat.beq k 78 then (2, 45) else (9, 0)
  else bif Nat.blt k 85 then bif Nat.beq k 84 then (6, 180) else (9, 0)
  else bif Nat.beq k 85 then (6, 185) else (9, 0)
  else bif Nat.blt k 94 then bif Nat.beq k 92 then (2, 80) else (9, 0)
  else bif Nat.blt k 95 then bif Nat.beq k 94 then (2, 159) else (9, 0)
  else bif Nat.beq k 95 then (6, 193) else (9, 0)
def gxsP (k : Nat) : Nat × Nat :=
  bif Nat.blt k 78 then bif Nat.blt k 73 then bif Nat.blt k 71 then bif Nat.beq k 69 then (5, 121) else (9, 0)
  else bif Nat.blt k 72 then bif Nat.beq k 71 then (2, 42) else (9, 0)
  else bif Nat.beq k 72 then (6, 165) else (9, 0)
  else bif Nat.blt k 74 then bif Nat.beq k 73 then (6, 169) else (9, 0)
  else bif Nat.blt k 75 then bif Nat.beq k 74 then (6, 173) else (9, 0)
  else bif Nat.beq k 75 then (6, 177) else (9, 0)
  else bif Nat.blt k 92 then bif Nat.blt k 84 then bif Nat.beq k 78 then (2, 46) else (9, 0)
  else bif Nat.blt k 85 then bif Nat.beq k 84 then (6, 181) else (9, 0)
  else bif Nat.beq k 85 then (6, 186) else (9, 0)
  else bif Nat.blt k 94 then bif Nat.beq k 92 then (2, 81) else (9, 0)
  else bif Nat.blt k 95 then bif Nat.beq k 94 then (2, 160) else (9, 0)
  else bif Nat.beq k 95 then (6, 194) else (9, 0)
def gfY (ci : Nat) : Nat → FieldType := match ci with
  | 8 => tyX8
  | 9 => tyX9
  | 10 => tyX10
  | 11 => tyJ0
  | _ => tyJ4
def gyLen : MethodName := ⟨"java/lang/AbstractStringBuilder", "length", "()I"⟩
def gyLat : MethodName := ⟨"java/lang/AbstractStringBuilder", "isLatin1", "()Z"⟩
/-- private methods of AbstractStringBuilder, called on a StringBuilder -/
def gprv : List MethodName := [⟨"java/lang/AbstractStringBuilder", "ensureCapacityInternal", "(I)V"⟩, ⟨"java/lang/AbstractStringBuilder", "inflateIfNeededFor", "(Ljava/lang/String;)V"⟩, ⟨"java/lang/AbstractStringBuilder", "newCapacity", "(I)I"⟩, ⟨"java/lang/AbstractStringBuilder", "putStringAt", "(ILjava/lang/String;)V"⟩]
def gtb2 : List Cond := gprv.map (fun y => Cond.selects "java/lang/StringBuilder" y y) ++ lw_tbl
def glen : Instr → Nat
  | .aconst_null => 1
  | .getstatic _ => 3
  | .invokespecial _ => 3
  | .newarray _ => 2
  | .anewarray _ => 3
  | .multianewarray _ _ => 4
  | .checkcast _ => 3
  | .ifnonnull _ => 3
  | i => ilen i
def gpx : Instr → Nat
  | .getstatic x => x
  | .invokespecial x => x
  | .anewarray x => x
  | .multianewarray x _ => x
  | .checkcast x => x
  | i => pidx i
def gisT (i : Instr) : Bool := match i with
  | .tableswitch _ _ _ _ => true
  | _ => false
def gclk (t : Nat) : String := match t with
  | 1 => "[I"
  | 2 => "[B"
  | 6 => "[[I"
  | _ => ""
def cloneY (nm : String) : MethodName := ⟨nm, "clone", "()Ljava/lang/Object;"⟩
def gin (w : Cond) : Bool := decide (w ∈ lw_tbl)
/-- what a pool number and an entry say, held against the words -/
def gchI (k pc : Nat) (i : Instr) (a b t : Nat) (v : Int32) (w : Int64) : Bool :=
  match i with
  | .iconst n => decide (Int32.ofInt n = v)
  | .bipush n => decide ((Int8.ofInt n).toInt32 = v)
  | .sipush n => decide ((Int16.ofInt n).toInt32 = v)
  | .ldc x => match t with
    | 0 => atT (gpP (2000 * gclO k + x)) (.constant (gownN (gclO k)) x v)
    | 1 => decide (gsrs (2000 * gclO k + x) = some ((a - 10) / 2)) && Nat.beq a (10 + 2 * ((a - 10) / 2)) && Nat.blt ((a - 10) / 2) gKS
    | _ => false
  | .ldc_w x => atT (gpP (2000 * gclO k + x)) (.constant (gownN (gclO k)) x v)
  | .lconst n => decide (Int64.ofNat n.val = w)
  | .ldc2_w x => atT (gpP (2000 * gclO k + x)) (.constantLong (gownN (gclO k)) x w)
  | .iload_n n => Nat.beq n.val a
  | .aload_n n => Nat.beq n.val a
  | .lload_n n => Nat.beq n.val a
  | .iload j => Nat.beq j a
  | .aload j => Nat.beq j a
  | .lload j => Nat.beq j a
  | .istore_n n => Nat.beq n.val a && Nat.blt a (gmiOf k).2.2
  | .astore_n n => Nat.beq n.val a && Nat.blt a (gmiOf k).2.2
  | .lstore_n n => Nat.beq n.val a && Nat.blt (a + 1) (gmiOf k).2.2
  | .istore j => Nat.beq j a && Nat.blt a (gmiOf k).2.2
  | .astore j => Nat.beq j a && Nat.blt a (gmiOf k).2.2
  | .lstore j => Nat.beq j a && Nat.blt (a + 1) (gmiOf k).2.2
  | .iinc j n => Nat.beq j a && Nat.blt a (gmiOf k).2.2 && (match t with
    | 1 => decide (Int32.ofInt n = -v)
    | _ => decide (Int32.ofInt n = v))
  | .goto o => decide ((pc : Int) + o = (a : Int))
  | .ifCond _ o => decide ((pc : Int) + o = (a : Int))
  | .if_icmp _ o => decide ((pc : Int) + o = (a : Int))
  | .ifnull o => decide ((pc : Int) + o = (a : Int))
  | .ifnonnull o => decide ((pc : Int) + o = (a : Int))
  | .getfield x => atT (gpP (2000 * gclO k + x)) (.fieldLink (gownN (gclO k)) x (fT a b).1 (fT a b).2.1 (fT a b).2.2.1) && Nat.blt b (fN a) && Nat.blt a 13 && Nat.ble 8 a && (Nat.beq t 0 || Nat.beq t 2)
  | .putfield x => atT (gpP (2000 * gclO k + x)) (.fieldLink (gownN (gclO k)) x (fT a b).1 (fT a b).2.1 (fT a b).2.2.1) && Nat.blt b (fN a) && Nat.blt a 13 && Nat.ble 8 a && (!(fT a b).2.2.2 || (decide ((gyO k).name = "<init>") && decide ((fT a b).1 = gownN (gclO k)))) && (match t with
    | 0 => decide (gfY a b = .int)
    | 1 => decide (gfY a b = .byte)
    | 2 => (gfY a b).isReference
    | _ => false)
  | .getstatic x => match t with
    | 1 => atT (gpP (2000 * gclO k + x)) (.fieldLink (gownN (gclO k)) x "java/lang/String" "COMPACT_STRINGS" "Z") && decide (v = 1)
    | 2 => match a with
      | 1 => atT (gpP (2000 * gclO k + x)) (.fieldLinkNest (gownN (gclO k)) x "WindyToursLaw" "VARIABLES" "[Ljava/lang/String;" "WindyToursLaw")
      | 3 => atT (gpP (2000 * gclO k + x)) (.fieldLink (gownN (gclO k)) x "java/lang/Integer" "DigitOnes" "[B")
      | 4 => atT (gpP (2000 * gclO k + x)) (.fieldLink (gownN (gclO k)) x "java/lang/Integer" "DigitTens" "[B")
      | _ => false
    | _ => false
  | .new x => atT (gpP (2000 * gclO k + x)) (.classLink (gownN (gclO k)) x (fC a)) && atT (ginstP a) (.instantiable (fC a) (fN a)) && atT (ginitP a) (.initialized (fC a)) && Nat.blt a 13 && Nat.ble 8 a
  | .newarray ty => match ty with
    | .int => Nat.beq t 1
    | .byte => Nat.beq t 2
    | .long => Nat.beq t 4
    | _ => false
  | .anewarray x => match t with
    | 6 => atT (gpP (2000 * gclO k + x)) (.classLink (gownN (gclO k)) x "[I")
    | 41 => atT (gpP (2000 * gclO k + x)) (.classLink (gownN (gclO k)) x "WindyToursLaw$City")
    | _ => false
  | .multianewarray x n => Nat.beq n 2 && atT (gpP (2000 * gclO k + x)) (.classLink (gownN (gclO k)) x "[[I")
  | .checkcast x => (Nat.beq t 1 || Nat.beq t 2 || Nat.beq t 6) && atT (gpP (2000 * gclO k + x)) (.classLink (gownN (gclO k)) x (gclk t))
  | .invokevirtual x => match Nat.blt t 90 with
    | true => (match Nat.beq a gLEN with
    | true => atT (gpP (2000 * gclO k + x)) (.methodLink (gownN (gclO k)) x gyLen) && gin (.sameMethod gyLen.cls gyLen.cls gyLen.name gyLen.desc) && gin (.instanceMethod gyLen) && gin (.selects "java/lang/StringBuilder" gyLen (gyO a)) && Nat.beq t 12
    | false => (match Nat.beq (gclO a) 7 with
      | true => atT (gpP (2000 * gclO k + x)) (.methodLink (gownN (gclO k)) x (gyO a)) && atT (gsamP a) (.sameMethod (gyO a).cls (gyO a).cls (gyO a).name (gyO a).desc) && decide (Cond.selects "java/lang/StringBuilder" (gyO a) (gyO a) ∈ gtb2) && Nat.beq t 12
      | false => atT (gpP (2000 * gclO k + x)) (.methodLink (gownN (gclO k)) x (gyO a)) && atT (gselP a) (.selects (gyO a).cls (gyO a) (gyO a)) && decide (fC t = (gyO a).cls))) && atT (ginsP a) (.instanceMethod (gyO a)) && Nat.beq b (gnrO a + 1) && Nat.blt a 74 && Nat.blt t 13 && Nat.ble 8 t
    | false => match t with
      | 130 => (Nat.beq a 1 || Nat.beq a 2 || Nat.beq a 6) && atT (gpP (2000 * gclO k + x)) (.methodLink (gownN (gclO k)) x (cloneY (gclk a)))
      | 140 => atT (gpP (2000 * gclO k + x)) (.methodLink (gownN (gclO k)) x (yOf a)) && atT (gxiP a) (.instanceMethod (yOf a)) && atT (gxsP a) (.selects "WindyTours" (yOf a) (yOf a)) && Nat.beq b (nargOf a + 1) && Nat.blt a 119 && Nat.beq (clsOf a) 7
      | _ => false
  | .invokestatic x => match t with
    | 99 => (match gnst (2000 * gclO k + x) with
      | true => atT (gpP (2000 * gclO k + x)) (.methodLinkNest (gownN (gclO k)) x (gyO a) "WindyToursLaw")
      | false => atT (gpP (2000 * gclO k + x)) (.methodLink (gownN (gclO k)) x (gyO a))) && atT (ginsP a) (.static (gyO a)) && Nat.beq b (gnrO a) && Nat.blt a 74
    | 140 => atT (gpP (2000 * gclO k + x)) (.methodLink (gownN (gclO k)) x (yOf a)) && atT (gstP a) (.static (yOf a)) && Nat.beq b (nargOf a) && Nat.blt a 119 && !(hhOf a).isEmpty
    | 100 => atT (gpP (2000 * gclO k + x)) (.methodLink (gownN (gclO k)) x Lib.Math.min.name)
    | 101 => atT (gpP (2000 * gclO k + x)) (.methodLink (gownN (gclO k)) x Lib.MathLoose.max_long.x)
    | 102 => atT (gpP (2000 * gclO k + x)) (.methodLink (gownN (gclO k)) x Lib.MathLoose.min_long.x)
    | 103 => atT (gpP (2000 * gclO k + x)) (.methodLink (gownN (gclO k)) x arraycopyName)
    | 104 => atT (gpP (2000 * gclO k + x)) (.methodLink (gownN (gclO k)) x Lib.Math.max.name)
    | 120 => atT (gpP (2000 * gclO k + x)) (.methodLink (gownN (gclO k)) x jChk)
    | _ => false
  | .invokespecial x => match t with
    | 50 => atT (gpP (2000 * gclO k + x)) (.methodLink (gownN (gclO k)) x Lib.objectInit)
    | 98 => (match gnst (2000 * gclO k + x) with
      | true => atT (gpP (2000 * gclO k + x)) (.methodLinkNest (gownN (gclO k)) x (gyO a) "WindyToursLaw")
      | false => atT (gpP (2000 * gclO k + x)) (.methodLink (gownN (gclO k)) x (gyO a))) && atT (ginsP a) (.instanceMethod (gyO a)) && decide ((gyO a).name = "<init>") && Nat.beq b (gnrO a + 1) && Nat.blt a 74
    | 97 => atT (gpP (2000 * gclO k + x)) (.methodLink (gownN (gclO k)) x (gyO a)) && atT (gsamP a) (.sameMethod (gyO a).cls (gyO a).cls (gyO a).name (gyO a).desc) && gin (.superclass (gownN (gclO k)) (gyO a).cls) && atT (ginsP a) (.instanceMethod (gyO a)) && Nat.beq b (gnrO a + 1) && Nat.blt a 74
    | _ => false
  | _ => true
def gchE (k pc : Nat) (e : PE) : Bool :=
  match e with
  | (i, nx, a, b, t, v, w) => match gisT i with
    | true => (match i with
      | .tableswitch d lo hi offs => decide (decode (gccO k) pc = .ok (.tableswitch d lo hi offs, nx - pc)) && decide ((pc : Int) + d = (a : Int)) && Nat.beq b pc && offs.all (fun o => decide (0 ≤ (pc : Int) + o))
      | _ => false)
    | false => decide (decode (gccO k) pc = .ok (i, glen i)) && Nat.beq nx (pc + glen i) && (Nat.blt (gpx i) 2000 && gchI k pc i a b t v w)
def gchM (k : Nat) : Bool := (List.range (glenOf k)).all fun pc => match (gmiOf k).1 pc with
  | none => true
  | some e => gchE k pc e
def grtN (r : Option FieldType) : Nat := match r with
  | none => 0
  | some .int => 1
  | some .boolean => 2
  | some .long => 3
  | some .char => 5
  | some .byte => 6
  | some (.object _) => 4
  | some (.array _) => 4
  | _ => 9
def gcodW (k : Nat) : Cond := .code (gyO k) (gccO k) (gmiOf k).2.2 (gretO k)
def gchK (k : Nat) : Bool := atT (gcodP k) (gcodW k) && atT (giniP k) (.initialized (gyO k).cls) && decide ((gyO k).cls = gownN (gclO k)) && plainName (gyO k).cls && decide ((parseMethodDescriptor (gyO k).desc).map (fun d => d.parameters.length) = some (gnrO k)) && Nat.beq (grtN (gretO k)) (gmiOf k).2.1 && decide ((gyO k).cls ≠ "java/lang/invoke/MethodHandle") && decide ((gyO k).cls ≠ "java/lang/invoke/VarHandle") && Nat.blt (gmiOf k).2.2 10
