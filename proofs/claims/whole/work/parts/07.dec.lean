theorem dk_u1 (code : ByteArray) (p : Nat) (b : UInt8) (h : code[p]? = some b) : (ClassFile.Reader.u1 : ClassFile.Decoder Nat) code p = .ok (b.toNat, p + 1) := by
  have hp : p < code.size := by
    rcases Nat.lt_or_ge p code.size with q | q
    · exact q
    · rw [getElem?_neg code p (by omega)] at h; cases h
  have hb : code[p] = b := by rw [getElem?_pos code p hp] at h; exact Option.some.inj h
  show (if h : p < code.size then _ else _ : ClassFile.Decoder Nat) code (p) = _
  rw [dif_pos hp]
  rw [← hb]
  rfl
theorem dk_bind {α β : Type} (x : ClassFile.Decoder α) (f : α → ClassFile.Decoder β) (code : ByteArray) (p : Nat) {a : α} {q : Nat} (h : x code p = .ok (a, q)) : (x >>= f) code p = f a code q := by
  have e : (x >>= f) code p = Except.bind (x code p) (fun z => f z.1 code z.2) := rfl
  rw [e, h]
  rfl
theorem dk_dec (code : ByteArray) (pc : Nat) {i : ClassFile.Instr} {n : Nat} (h : (ClassFile.Decoder.instr pc) code pc = .ok (i, pc + n)) : decode code pc = .ok (i, n) := by
  have e : decode code pc = Except.bind ((ClassFile.Decoder.instr pc) code pc) (fun z => .ok (z.1, z.2 - pc)) := rfl
  rw [e, h]
  show Except.ok (i, pc + n - pc) = _
  rw [Nat.add_sub_cancel_left]
theorem dk_u2 (code : ByteArray) (p : Nat) (b c : UInt8) (h : code[p]? = some b) (h2 : code[p + 1]? = some c) : (ClassFile.Reader.u2 : ClassFile.Decoder Nat) code p = .ok (b.toNat * 256 + c.toNat, p + 2) := by
  refine (dk_bind _ _ code p (dk_u1 code p b h)).trans ?_
  exact (dk_bind _ _ code (p + 1) (dk_u1 code (p + 1) c h2)).trans rfl
theorem dk_s1 (code : ByteArray) (p : Nat) (b : UInt8) (h : code[p]? = some b) : (ClassFile.Reader.s1 : ClassFile.Decoder Int) code p = .ok (ClassFile.Reader.signed 8 b.toNat, p + 1) := by
  have e : (ClassFile.Reader.s1 : ClassFile.Decoder Int) code p = Except.bind ((ClassFile.Reader.u1 : ClassFile.Decoder Nat) code p) (fun z => .ok (ClassFile.Reader.signed 8 z.1, z.2)) := rfl
  rw [e, dk_u1 code p b h]
  rfl
theorem dk_s2 (code : ByteArray) (p : Nat) (b c : UInt8) (h : code[p]? = some b) (h2 : code[p + 1]? = some c) : (ClassFile.Reader.s2 : ClassFile.Decoder Int) code p = .ok (ClassFile.Reader.signed 16 (b.toNat * 256 + c.toNat), p + 2) := by
  have e : (ClassFile.Reader.s2 : ClassFile.Decoder Int) code p = Except.bind ((ClassFile.Reader.u2 : ClassFile.Decoder Nat) code p) (fun z => .ok (ClassFile.Reader.signed 16 z.1, z.2)) := rfl
  rw [e, dk_u2 code p b c h h2]
  rfl
set_option maxRecDepth 8000 in
theorem dk_1 (code : ByteArray) (pc : Nat) (h0 : code[pc]? = some 1) : decode code pc = .ok (.aconst_null, 1) := by
  refine dk_dec code pc ?_
  unfold ClassFile.Decoder.instr
  exact (dk_bind _ _ code pc (dk_u1 code pc 1 h0)).trans rfl
set_option maxRecDepth 8000 in
theorem dk_2 (code : ByteArray) (pc : Nat) (h0 : code[pc]? = some 2) : decode code pc = .ok (.iconst (-1), 1) := by
  refine dk_dec code pc ?_
  unfold ClassFile.Decoder.instr
  exact (dk_bind _ _ code pc (dk_u1 code pc 2 h0)).trans rfl
set_option maxRecDepth 8000 in
theorem dk_3 (code : ByteArray) (pc : Nat) (h0 : code[pc]? = some 3) : decode code pc = .ok (.iconst 0, 1) := by
  refine dk_dec code pc ?_
  unfold ClassFile.Decoder.instr
  exact (dk_bind _ _ code pc (dk_u1 code pc 3 h0)).trans rfl
set_option maxRecDepth 8000 in
theorem dk_4 (code : ByteArray) (pc : Nat) (h0 : code[pc]? = some 4) : decode code pc = .ok (.iconst 1, 1) := by
  refine dk_dec code pc ?_
  unfold ClassFile.Decoder.instr
  exact (dk_bind _ _ code pc (dk_u1 code pc 4 h0)).trans rfl
set_option maxRecDepth 8000 in
theorem dk_5 (code : ByteArray) (pc : Nat) (h0 : code[pc]? = some 5) : decode code pc = .ok (.iconst 2, 1) := by
  refine dk_dec code pc ?_
  unfold ClassFile.Decoder.instr
  exact (dk_bind _ _ code pc (dk_u1 code pc 5 h0)).trans rfl
set_option maxRecDepth 8000 in
theorem dk_6 (code : ByteArray) (pc : Nat) (h0 : code[pc]? = some 6) : decode code pc = .ok (.iconst 3, 1) := by
  refine dk_dec code pc ?_
  unfold ClassFile.Decoder.instr
  exact (dk_bind _ _ code pc (dk_u1 code pc 6 h0)).trans rfl
set_option maxRecDepth 8000 in
theorem dk_7 (code : ByteArray) (pc : Nat) (h0 : code[pc]? = some 7) : decode code pc = .ok (.iconst 4, 1) := by
  refine dk_dec code pc ?_
  unfold ClassFile.Decoder.instr
  exact (dk_bind _ _ code pc (dk_u1 code pc 7 h0)).trans rfl
set_option maxRecDepth 8000 in
theorem dk_8 (code : ByteArray) (pc : Nat) (h0 : code[pc]? = some 8) : decode code pc = .ok (.iconst 5, 1) := by
  refine dk_dec code pc ?_
  unfold ClassFile.Decoder.instr
  exact (dk_bind _ _ code pc (dk_u1 code pc 8 h0)).trans rfl
set_option maxRecDepth 8000 in
theorem dk_26 (code : ByteArray) (pc : Nat) (h0 : code[pc]? = some 26) : decode code pc = .ok (.iload_n 0, 1) := by
  refine dk_dec code pc ?_
  unfold ClassFile.Decoder.instr
  exact (dk_bind _ _ code pc (dk_u1 code pc 26 h0)).trans rfl
set_option maxRecDepth 8000 in
theorem dk_27 (code : ByteArray) (pc : Nat) (h0 : code[pc]? = some 27) : decode code pc = .ok (.iload_n 1, 1) := by
  refine dk_dec code pc ?_
  unfold ClassFile.Decoder.instr
  exact (dk_bind _ _ code pc (dk_u1 code pc 27 h0)).trans rfl
set_option maxRecDepth 8000 in
theorem dk_28 (code : ByteArray) (pc : Nat) (h0 : code[pc]? = some 28) : decode code pc = .ok (.iload_n 2, 1) := by
  refine dk_dec code pc ?_
  unfold ClassFile.Decoder.instr
  exact (dk_bind _ _ code pc (dk_u1 code pc 28 h0)).trans rfl
set_option maxRecDepth 8000 in
theorem dk_29 (code : ByteArray) (pc : Nat) (h0 : code[pc]? = some 29) : decode code pc = .ok (.iload_n 3, 1) := by
  refine dk_dec code pc ?_
  unfold ClassFile.Decoder.instr
  exact (dk_bind _ _ code pc (dk_u1 code pc 29 h0)).trans rfl
set_option maxRecDepth 8000 in
theorem dk_42 (code : ByteArray) (pc : Nat) (h0 : code[pc]? = some 42) : decode code pc = .ok (.aload_n 0, 1) := by
  refine dk_dec code pc ?_
  unfold ClassFile.Decoder.instr
  exact (dk_bind _ _ code pc (dk_u1 code pc 42 h0)).trans rfl
set_option maxRecDepth 8000 in
theorem dk_43 (code : ByteArray) (pc : Nat) (h0 : code[pc]? = some 43) : decode code pc = .ok (.aload_n 1, 1) := by
  refine dk_dec code pc ?_
  unfold ClassFile.Decoder.instr
  exact (dk_bind _ _ code pc (dk_u1 code pc 43 h0)).trans rfl
set_option maxRecDepth 8000 in
theorem dk_44 (code : ByteArray) (pc : Nat) (h0 : code[pc]? = some 44) : decode code pc = .ok (.aload_n 2, 1) := by
  refine dk_dec code pc ?_
  unfold ClassFile.Decoder.instr
  exact (dk_bind _ _ code pc (dk_u1 code pc 44 h0)).trans rfl
set_option maxRecDepth 8000 in
theorem dk_45 (code : ByteArray) (pc : Nat) (h0 : code[pc]? = some 45) : decode code pc = .ok (.aload_n 3, 1) := by
  refine dk_dec code pc ?_
  unfold ClassFile.Decoder.instr
  exact (dk_bind _ _ code pc (dk_u1 code pc 45 h0)).trans rfl
set_option maxRecDepth 8000 in
theorem dk_46 (code : ByteArray) (pc : Nat) (h0 : code[pc]? = some 46) : decode code pc = .ok (.iaload, 1) := by
  refine dk_dec code pc ?_
  unfold ClassFile.Decoder.instr
  exact (dk_bind _ _ code pc (dk_u1 code pc 46 h0)).trans rfl
set_option maxRecDepth 8000 in
theorem dk_50 (code : ByteArray) (pc : Nat) (h0 : code[pc]? = some 50) : decode code pc = .ok (.aaload, 1) := by
  refine dk_dec code pc ?_
  unfold ClassFile.Decoder.instr
  exact (dk_bind _ _ code pc (dk_u1 code pc 50 h0)).trans rfl
set_option maxRecDepth 8000 in
theorem dk_51 (code : ByteArray) (pc : Nat) (h0 : code[pc]? = some 51) : decode code pc = .ok (.baload, 1) := by
  refine dk_dec code pc ?_
  unfold ClassFile.Decoder.instr
  exact (dk_bind _ _ code pc (dk_u1 code pc 51 h0)).trans rfl
set_option maxRecDepth 8000 in
theorem dk_59 (code : ByteArray) (pc : Nat) (h0 : code[pc]? = some 59) : decode code pc = .ok (.istore_n 0, 1) := by
  refine dk_dec code pc ?_
  unfold ClassFile.Decoder.instr
  exact (dk_bind _ _ code pc (dk_u1 code pc 59 h0)).trans rfl
set_option maxRecDepth 8000 in
theorem dk_60 (code : ByteArray) (pc : Nat) (h0 : code[pc]? = some 60) : decode code pc = .ok (.istore_n 1, 1) := by
  refine dk_dec code pc ?_
  unfold ClassFile.Decoder.instr
  exact (dk_bind _ _ code pc (dk_u1 code pc 60 h0)).trans rfl
set_option maxRecDepth 8000 in
theorem dk_61 (code : ByteArray) (pc : Nat) (h0 : code[pc]? = some 61) : decode code pc = .ok (.istore_n 2, 1) := by
  refine dk_dec code pc ?_
  unfold ClassFile.Decoder.instr
  exact (dk_bind _ _ code pc (dk_u1 code pc 61 h0)).trans rfl
set_option maxRecDepth 8000 in
theorem dk_62 (code : ByteArray) (pc : Nat) (h0 : code[pc]? = some 62) : decode code pc = .ok (.istore_n 3, 1) := by
  refine dk_dec code pc ?_
  unfold ClassFile.Decoder.instr
  exact (dk_bind _ _ code pc (dk_u1 code pc 62 h0)).trans rfl
set_option maxRecDepth 8000 in
theorem dk_75 (code : ByteArray) (pc : Nat) (h0 : code[pc]? = some 75) : decode code pc = .ok (.astore_n 0, 1) := by
  refine dk_dec code pc ?_
  unfold ClassFile.Decoder.instr
  exact (dk_bind _ _ code pc (dk_u1 code pc 75 h0)).trans rfl
set_option maxRecDepth 8000 in
theorem dk_76 (code : ByteArray) (pc : Nat) (h0 : code[pc]? = some 76) : decode code pc = .ok (.astore_n 1, 1) := by
  refine dk_dec code pc ?_
  unfold ClassFile.Decoder.instr
  exact (dk_bind _ _ code pc (dk_u1 code pc 76 h0)).trans rfl
set_option maxRecDepth 8000 in
theorem dk_77 (code : ByteArray) (pc : Nat) (h0 : code[pc]? = some 77) : decode code pc = .ok (.astore_n 2, 1) := by
  refine dk_dec code pc ?_
  unfold ClassFile.Decoder.instr
  exact (dk_bind _ _ code pc (dk_u1 code pc 77 h0)).trans rfl
set_option maxRecDepth 8000 in
theorem dk_78 (code : ByteArray) (pc : Nat) (h0 : code[pc]? = some 78) : decode code pc = .ok (.astore_n 3, 1) := by
  refine dk_dec code pc ?_
  unfold ClassFile.Decoder.instr
  exact (dk_bind _ _ code pc (dk_u1 code pc 78 h0)).trans rfl
set_option maxRecDepth 8000 in
theorem dk_79 (code : ByteArray) (pc : Nat) (h0 : code[pc]? = some 79) : decode code pc = .ok (.iastore, 1) := by
  refine dk_dec code pc ?_
  unfold ClassFile.Decoder.instr
  exact (dk_bind _ _ code pc (dk_u1 code pc 79 h0)).trans rfl
set_option maxRecDepth 8000 in
theorem dk_83 (code : ByteArray) (pc : Nat) (h0 : code[pc]? = some 83) : decode code pc = .ok (.aastore, 1) := by
  refine dk_dec code pc ?_
  unfold ClassFile.Decoder.instr
  exact (dk_bind _ _ code pc (dk_u1 code pc 83 h0)).trans rfl
set_option maxRecDepth 8000 in
theorem dk_84 (code : ByteArray) (pc : Nat) (h0 : code[pc]? = some 84) : decode code pc = .ok (.bastore, 1) := by
  refine dk_dec code pc ?_
  unfold ClassFile.Decoder.instr
  exact (dk_bind _ _ code pc (dk_u1 code pc 84 h0)).trans rfl
set_option maxRecDepth 8000 in
theorem dk_87 (code : ByteArray) (pc : Nat) (h0 : code[pc]? = some 87) : decode code pc = .ok (.pop, 1) := by
  refine dk_dec code pc ?_
  unfold ClassFile.Decoder.instr
  exact (dk_bind _ _ code pc (dk_u1 code pc 87 h0)).trans rfl
set_option maxRecDepth 8000 in
theorem dk_89 (code : ByteArray) (pc : Nat) (h0 : code[pc]? = some 89) : decode code pc = .ok (.dup, 1) := by
  refine dk_dec code pc ?_
  unfold ClassFile.Decoder.instr
  exact (dk_bind _ _ code pc (dk_u1 code pc 89 h0)).trans rfl
set_option maxRecDepth 8000 in
theorem dk_92 (code : ByteArray) (pc : Nat) (h0 : code[pc]? = some 92) : decode code pc = .ok (.dup2, 1) := by
  refine dk_dec code pc ?_
  unfold ClassFile.Decoder.instr
  exact (dk_bind _ _ code pc (dk_u1 code pc 92 h0)).trans rfl
set_option maxRecDepth 8000 in
theorem dk_96 (code : ByteArray) (pc : Nat) (h0 : code[pc]? = some 96) : decode code pc = .ok (.iadd, 1) := by
  refine dk_dec code pc ?_
  unfold ClassFile.Decoder.instr
  exact (dk_bind _ _ code pc (dk_u1 code pc 96 h0)).trans rfl
set_option maxRecDepth 8000 in
theorem dk_100 (code : ByteArray) (pc : Nat) (h0 : code[pc]? = some 100) : decode code pc = .ok (.isub, 1) := by
  refine dk_dec code pc ?_
  unfold ClassFile.Decoder.instr
  exact (dk_bind _ _ code pc (dk_u1 code pc 100 h0)).trans rfl
set_option maxRecDepth 8000 in
theorem dk_104 (code : ByteArray) (pc : Nat) (h0 : code[pc]? = some 104) : decode code pc = .ok (.imul, 1) := by
  refine dk_dec code pc ?_
  unfold ClassFile.Decoder.instr
  exact (dk_bind _ _ code pc (dk_u1 code pc 104 h0)).trans rfl
set_option maxRecDepth 8000 in
theorem dk_108 (code : ByteArray) (pc : Nat) (h0 : code[pc]? = some 108) : decode code pc = .ok (.idiv, 1) := by
  refine dk_dec code pc ?_
  unfold ClassFile.Decoder.instr
  exact (dk_bind _ _ code pc (dk_u1 code pc 108 h0)).trans rfl
set_option maxRecDepth 8000 in
theorem dk_112 (code : ByteArray) (pc : Nat) (h0 : code[pc]? = some 112) : decode code pc = .ok (.irem, 1) := by
  refine dk_dec code pc ?_
  unfold ClassFile.Decoder.instr
  exact (dk_bind _ _ code pc (dk_u1 code pc 112 h0)).trans rfl
set_option maxRecDepth 8000 in
theorem dk_116 (code : ByteArray) (pc : Nat) (h0 : code[pc]? = some 116) : decode code pc = .ok (.ineg, 1) := by
  refine dk_dec code pc ?_
  unfold ClassFile.Decoder.instr
  exact (dk_bind _ _ code pc (dk_u1 code pc 116 h0)).trans rfl
set_option maxRecDepth 8000 in
theorem dk_120 (code : ByteArray) (pc : Nat) (h0 : code[pc]? = some 120) : decode code pc = .ok (.ishl, 1) := by
  refine dk_dec code pc ?_
  unfold ClassFile.Decoder.instr
  exact (dk_bind _ _ code pc (dk_u1 code pc 120 h0)).trans rfl
set_option maxRecDepth 8000 in
theorem dk_122 (code : ByteArray) (pc : Nat) (h0 : code[pc]? = some 122) : decode code pc = .ok (.ishr, 1) := by
  refine dk_dec code pc ?_
  unfold ClassFile.Decoder.instr
  exact (dk_bind _ _ code pc (dk_u1 code pc 122 h0)).trans rfl
set_option maxRecDepth 8000 in
theorem dk_124 (code : ByteArray) (pc : Nat) (h0 : code[pc]? = some 124) : decode code pc = .ok (.iushr, 1) := by
  refine dk_dec code pc ?_
  unfold ClassFile.Decoder.instr
  exact (dk_bind _ _ code pc (dk_u1 code pc 124 h0)).trans rfl
set_option maxRecDepth 8000 in
theorem dk_126 (code : ByteArray) (pc : Nat) (h0 : code[pc]? = some 126) : decode code pc = .ok (.iand, 1) := by
  refine dk_dec code pc ?_
  unfold ClassFile.Decoder.instr
  exact (dk_bind _ _ code pc (dk_u1 code pc 126 h0)).trans rfl
set_option maxRecDepth 8000 in
theorem dk_128 (code : ByteArray) (pc : Nat) (h0 : code[pc]? = some 128) : decode code pc = .ok (.ior, 1) := by
  refine dk_dec code pc ?_
  unfold ClassFile.Decoder.instr
  exact (dk_bind _ _ code pc (dk_u1 code pc 128 h0)).trans rfl
set_option maxRecDepth 8000 in
theorem dk_130 (code : ByteArray) (pc : Nat) (h0 : code[pc]? = some 130) : decode code pc = .ok (.ixor, 1) := by
  refine dk_dec code pc ?_
  unfold ClassFile.Decoder.instr
  exact (dk_bind _ _ code pc (dk_u1 code pc 130 h0)).trans rfl
set_option maxRecDepth 8000 in
theorem dk_145 (code : ByteArray) (pc : Nat) (h0 : code[pc]? = some 145) : decode code pc = .ok (.i2b, 1) := by
  refine dk_dec code pc ?_
  unfold ClassFile.Decoder.instr
  exact (dk_bind _ _ code pc (dk_u1 code pc 145 h0)).trans rfl
set_option maxRecDepth 8000 in
theorem dk_146 (code : ByteArray) (pc : Nat) (h0 : code[pc]? = some 146) : decode code pc = .ok (.i2c, 1) := by
  refine dk_dec code pc ?_
  unfold ClassFile.Decoder.instr
  exact (dk_bind _ _ code pc (dk_u1 code pc 146 h0)).trans rfl
set_option maxRecDepth 8000 in
theorem dk_172 (code : ByteArray) (pc : Nat) (h0 : code[pc]? = some 172) : decode code pc = .ok (.ireturn, 1) := by
  refine dk_dec code pc ?_
  unfold ClassFile.Decoder.instr
  exact (dk_bind _ _ code pc (dk_u1 code pc 172 h0)).trans rfl
set_option maxRecDepth 8000 in
theorem dk_176 (code : ByteArray) (pc : Nat) (h0 : code[pc]? = some 176) : decode code pc = .ok (.areturn, 1) := by
  refine dk_dec code pc ?_
  unfold ClassFile.Decoder.instr
  exact (dk_bind _ _ code pc (dk_u1 code pc 176 h0)).trans rfl
set_option maxRecDepth 8000 in
theorem dk_177 (code : ByteArray) (pc : Nat) (h0 : code[pc]? = some 177) : decode code pc = .ok (.return_, 1) := by
  refine dk_dec code pc ?_
  unfold ClassFile.Decoder.instr
  exact (dk_bind _ _ code pc (dk_u1 code pc 177 h0)).trans rfl
set_option maxRecDepth 8000 in
theorem dk_190 (code : ByteArray) (pc : Nat) (h0 : code[pc]? = some 190) : decode code pc = .ok (.arraylength, 1) := by
  refine dk_dec code pc ?_
  unfold ClassFile.Decoder.instr
  exact (dk_bind _ _ code pc (dk_u1 code pc 190 h0)).trans rfl
set_option maxRecDepth 8000 in
theorem dk_191 (code : ByteArray) (pc : Nat) (h0 : code[pc]? = some 191) : decode code pc = .ok (.athrow, 1) := by
  refine dk_dec code pc ?_
  unfold ClassFile.Decoder.instr
  exact (dk_bind _ _ code pc (dk_u1 code pc 191 h0)).trans rfl
set_option maxRecDepth 8000 in
theorem dk_16 (code : ByteArray) (pc : Nat) {b : UInt8} (h0 : code[pc]? = some 16) (h1 : code[pc + 1]? = some b) : decode code pc = .ok (.bipush (ClassFile.Reader.signed 8 b.toNat), 2) := by
  refine dk_dec code pc ?_
  unfold ClassFile.Decoder.instr
  refine (dk_bind _ _ code pc (dk_u1 code pc 16 h0)).trans ?_
  exact dk_bind _ _ code (pc + 1) (dk_s1 code (pc + 1) b h1)
set_option maxRecDepth 8000 in
theorem dk_18 (code : ByteArray) (pc : Nat) {b : UInt8} (h0 : code[pc]? = some 18) (h1 : code[pc + 1]? = some b) : decode code pc = .ok (.ldc b.toNat, 2) := by
  refine dk_dec code pc ?_
  unfold ClassFile.Decoder.instr
  refine (dk_bind _ _ code pc (dk_u1 code pc 18 h0)).trans ?_
  exact dk_bind _ _ code (pc + 1) (dk_u1 code (pc + 1) b h1)
set_option maxRecDepth 8000 in
theorem dk_21 (code : ByteArray) (pc : Nat) {b : UInt8} (h0 : code[pc]? = some 21) (h1 : code[pc + 1]? = some b) : decode code pc = .ok (.iload b.toNat, 2) := by
  refine dk_dec code pc ?_
  unfold ClassFile.Decoder.instr
  refine (dk_bind _ _ code pc (dk_u1 code pc 21 h0)).trans ?_
  exact dk_bind _ _ code (pc + 1) (dk_u1 code (pc + 1) b h1)
set_option maxRecDepth 8000 in
theorem dk_25 (code : ByteArray) (pc : Nat) {b : UInt8} (h0 : code[pc]? = some 25) (h1 : code[pc + 1]? = some b) : decode code pc = .ok (.aload b.toNat, 2) := by
  refine dk_dec code pc ?_
  unfold ClassFile.Decoder.instr
  refine (dk_bind _ _ code pc (dk_u1 code pc 25 h0)).trans ?_
  exact dk_bind _ _ code (pc + 1) (dk_u1 code (pc + 1) b h1)
set_option maxRecDepth 8000 in
theorem dk_54 (code : ByteArray) (pc : Nat) {b : UInt8} (h0 : code[pc]? = some 54) (h1 : code[pc + 1]? = some b) : decode code pc = .ok (.istore b.toNat, 2) := by
  refine dk_dec code pc ?_
  unfold ClassFile.Decoder.instr
  refine (dk_bind _ _ code pc (dk_u1 code pc 54 h0)).trans ?_
  exact dk_bind _ _ code (pc + 1) (dk_u1 code (pc + 1) b h1)
set_option maxRecDepth 8000 in
theorem dk_58 (code : ByteArray) (pc : Nat) {b : UInt8} (h0 : code[pc]? = some 58) (h1 : code[pc + 1]? = some b) : decode code pc = .ok (.astore b.toNat, 2) := by
  refine dk_dec code pc ?_
  unfold ClassFile.Decoder.instr
  refine (dk_bind _ _ code pc (dk_u1 code pc 58 h0)).trans ?_
  exact dk_bind _ _ code (pc + 1) (dk_u1 code (pc + 1) b h1)
set_option maxRecDepth 8000 in
theorem dk_17 (code : ByteArray) (pc : Nat) {b c : UInt8} (h0 : code[pc]? = some 17) (h1 : code[pc + 1]? = some b) (h2 : code[pc + 1 + 1]? = some c) : decode code pc = .ok (.sipush (ClassFile.Reader.signed 16 (b.toNat * 256 + c.toNat)), 3) := by
  refine dk_dec code pc ?_
  unfold ClassFile.Decoder.instr
  refine (dk_bind _ _ code pc (dk_u1 code pc 17 h0)).trans ?_
  exact dk_bind _ _ code (pc + 1) (dk_s2 code (pc + 1) b c h1 h2)
set_option maxRecDepth 8000 in
theorem dk_19 (code : ByteArray) (pc : Nat) {b c : UInt8} (h0 : code[pc]? = some 19) (h1 : code[pc + 1]? = some b) (h2 : code[pc + 1 + 1]? = some c) : decode code pc = .ok (.ldc_w ((b.toNat * 256 + c.toNat)), 3) := by
  refine dk_dec code pc ?_
  unfold ClassFile.Decoder.instr
  refine (dk_bind _ _ code pc (dk_u1 code pc 19 h0)).trans ?_
  exact dk_bind _ _ code (pc + 1) (dk_u2 code (pc + 1) b c h1 h2)
set_option maxRecDepth 8000 in
theorem dk_153 (code : ByteArray) (pc : Nat) {b c : UInt8} (h0 : code[pc]? = some 153) (h1 : code[pc + 1]? = some b) (h2 : code[pc + 1 + 1]? = some c) : decode code pc = .ok (.ifCond .eq (ClassFile.Reader.signed 16 (b.toNat * 256 + c.toNat)), 3) := by
  refine dk_dec code pc ?_
  unfold ClassFile.Decoder.instr
  refine (dk_bind _ _ code pc (dk_u1 code pc 153 h0)).trans ?_
  exact dk_bind _ _ code (pc + 1) (dk_s2 code (pc + 1) b c h1 h2)
set_option maxRecDepth 8000 in
theorem dk_154 (code : ByteArray) (pc : Nat) {b c : UInt8} (h0 : code[pc]? = some 154) (h1 : code[pc + 1]? = some b) (h2 : code[pc + 1 + 1]? = some c) : decode code pc = .ok (.ifCond .ne (ClassFile.Reader.signed 16 (b.toNat * 256 + c.toNat)), 3) := by
  refine dk_dec code pc ?_
  unfold ClassFile.Decoder.instr
  refine (dk_bind _ _ code pc (dk_u1 code pc 154 h0)).trans ?_
  exact dk_bind _ _ code (pc + 1) (dk_s2 code (pc + 1) b c h1 h2)
set_option maxRecDepth 8000 in
theorem dk_155 (code : ByteArray) (pc : Nat) {b c : UInt8} (h0 : code[pc]? = some 155) (h1 : code[pc + 1]? = some b) (h2 : code[pc + 1 + 1]? = some c) : decode code pc = .ok (.ifCond .lt (ClassFile.Reader.signed 16 (b.toNat * 256 + c.toNat)), 3) := by
  refine dk_dec code pc ?_
  unfold ClassFile.Decoder.instr
  refine (dk_bind _ _ code pc (dk_u1 code pc 155 h0)).trans ?_
  exact dk_bind _ _ code (pc + 1) (dk_s2 code (pc + 1) b c h1 h2)
set_option maxRecDepth 8000 in
theorem dk_156 (code : ByteArray) (pc : Nat) {b c : UInt8} (h0 : code[pc]? = some 156) (h1 : code[pc + 1]? = some b) (h2 : code[pc + 1 + 1]? = some c) : decode code pc = .ok (.ifCond .ge (ClassFile.Reader.signed 16 (b.toNat * 256 + c.toNat)), 3) := by
  refine dk_dec code pc ?_
  unfold ClassFile.Decoder.instr
  refine (dk_bind _ _ code pc (dk_u1 code pc 156 h0)).trans ?_
  exact dk_bind _ _ code (pc + 1) (dk_s2 code (pc + 1) b c h1 h2)
set_option maxRecDepth 8000 in
theorem dk_157 (code : ByteArray) (pc : Nat) {b c : UInt8} (h0 : code[pc]? = some 157) (h1 : code[pc + 1]? = some b) (h2 : code[pc + 1 + 1]? = some c) : decode code pc = .ok (.ifCond .gt (ClassFile.Reader.signed 16 (b.toNat * 256 + c.toNat)), 3) := by
  refine dk_dec code pc ?_
  unfold ClassFile.Decoder.instr
  refine (dk_bind _ _ code pc (dk_u1 code pc 157 h0)).trans ?_
  exact dk_bind _ _ code (pc + 1) (dk_s2 code (pc + 1) b c h1 h2)
set_option maxRecDepth 8000 in
theorem dk_158 (code : ByteArray) (pc : Nat) {b c : UInt8} (h0 : code[pc]? = some 158) (h1 : code[pc + 1]? = some b) (h2 : code[pc + 1 + 1]? = some c) : decode code pc = .ok (.ifCond .le (ClassFile.Reader.signed 16 (b.toNat * 256 + c.toNat)), 3) := by
  refine dk_dec code pc ?_
  unfold ClassFile.Decoder.instr
  refine (dk_bind _ _ code pc (dk_u1 code pc 158 h0)).trans ?_
  exact dk_bind _ _ code (pc + 1) (dk_s2 code (pc + 1) b c h1 h2)
set_option maxRecDepth 8000 in
theorem dk_159 (code : ByteArray) (pc : Nat) {b c : UInt8} (h0 : code[pc]? = some 159) (h1 : code[pc + 1]? = some b) (h2 : code[pc + 1 + 1]? = some c) : decode code pc = .ok (.if_icmp .eq (ClassFile.Reader.signed 16 (b.toNat * 256 + c.toNat)), 3) := by
  refine dk_dec code pc ?_
  unfold ClassFile.Decoder.instr
  refine (dk_bind _ _ code pc (dk_u1 code pc 159 h0)).trans ?_
  exact dk_bind _ _ code (pc + 1) (dk_s2 code (pc + 1) b c h1 h2)
set_option maxRecDepth 8000 in
theorem dk_160 (code : ByteArray) (pc : Nat) {b c : UInt8} (h0 : code[pc]? = some 160) (h1 : code[pc + 1]? = some b) (h2 : code[pc + 1 + 1]? = some c) : decode code pc = .ok (.if_icmp .ne (ClassFile.Reader.signed 16 (b.toNat * 256 + c.toNat)), 3) := by
  refine dk_dec code pc ?_
  unfold ClassFile.Decoder.instr
  refine (dk_bind _ _ code pc (dk_u1 code pc 160 h0)).trans ?_
  exact dk_bind _ _ code (pc + 1) (dk_s2 code (pc + 1) b c h1 h2)
set_option maxRecDepth 8000 in
theorem dk_161 (code : ByteArray) (pc : Nat) {b c : UInt8} (h0 : code[pc]? = some 161) (h1 : code[pc + 1]? = some b) (h2 : code[pc + 1 + 1]? = some c) : decode code pc = .ok (.if_icmp .lt (ClassFile.Reader.signed 16 (b.toNat * 256 + c.toNat)), 3) := by
  refine dk_dec code pc ?_
  unfold ClassFile.Decoder.instr
  refine (dk_bind _ _ code pc (dk_u1 code pc 161 h0)).trans ?_
  exact dk_bind _ _ code (pc + 1) (dk_s2 code (pc + 1) b c h1 h2)
set_option maxRecDepth 8000 in
theorem dk_162 (code : ByteArray) (pc : Nat) {b c : UInt8} (h0 : code[pc]? = some 162) (h1 : code[pc + 1]? = some b) (h2 : code[pc + 1 + 1]? = some c) : decode code pc = .ok (.if_icmp .ge (ClassFile.Reader.signed 16 (b.toNat * 256 + c.toNat)), 3) := by
  refine dk_dec code pc ?_
  unfold ClassFile.Decoder.instr
  refine (dk_bind _ _ code pc (dk_u1 code pc 162 h0)).trans ?_
  exact dk_bind _ _ code (pc + 1) (dk_s2 code (pc + 1) b c h1 h2)
set_option maxRecDepth 8000 in
theorem dk_163 (code : ByteArray) (pc : Nat) {b c : UInt8} (h0 : code[pc]? = some 163) (h1 : code[pc + 1]? = some b) (h2 : code[pc + 1 + 1]? = some c) : decode code pc = .ok (.if_icmp .gt (ClassFile.Reader.signed 16 (b.toNat * 256 + c.toNat)), 3) := by
  refine dk_dec code pc ?_
  unfold ClassFile.Decoder.instr
  refine (dk_bind _ _ code pc (dk_u1 code pc 163 h0)).trans ?_
  exact dk_bind _ _ code (pc + 1) (dk_s2 code (pc + 1) b c h1 h2)
set_option maxRecDepth 8000 in
theorem dk_164 (code : ByteArray) (pc : Nat) {b c : UInt8} (h0 : code[pc]? = some 164) (h1 : code[pc + 1]? = some b) (h2 : code[pc + 1 + 1]? = some c) : decode code pc = .ok (.if_icmp .le (ClassFile.Reader.signed 16 (b.toNat * 256 + c.toNat)), 3) := by
  refine dk_dec code pc ?_
  unfold ClassFile.Decoder.instr
  refine (dk_bind _ _ code pc (dk_u1 code pc 164 h0)).trans ?_
  exact dk_bind _ _ code (pc + 1) (dk_s2 code (pc + 1) b c h1 h2)
set_option maxRecDepth 8000 in
theorem dk_167 (code : ByteArray) (pc : Nat) {b c : UInt8} (h0 : code[pc]? = some 167) (h1 : code[pc + 1]? = some b) (h2 : code[pc + 1 + 1]? = some c) : decode code pc = .ok (.goto (ClassFile.Reader.signed 16 (b.toNat * 256 + c.toNat)), 3) := by
  refine dk_dec code pc ?_
  unfold ClassFile.Decoder.instr
  refine (dk_bind _ _ code pc (dk_u1 code pc 167 h0)).trans ?_
  exact dk_bind _ _ code (pc + 1) (dk_s2 code (pc + 1) b c h1 h2)
set_option maxRecDepth 8000 in
theorem dk_178 (code : ByteArray) (pc : Nat) {b c : UInt8} (h0 : code[pc]? = some 178) (h1 : code[pc + 1]? = some b) (h2 : code[pc + 1 + 1]? = some c) : decode code pc = .ok (.getstatic ((b.toNat * 256 + c.toNat)), 3) := by
  refine dk_dec code pc ?_
  unfold ClassFile.Decoder.instr
  refine (dk_bind _ _ code pc (dk_u1 code pc 178 h0)).trans ?_
  exact dk_bind _ _ code (pc + 1) (dk_u2 code (pc + 1) b c h1 h2)
set_option maxRecDepth 8000 in
theorem dk_180 (code : ByteArray) (pc : Nat) {b c : UInt8} (h0 : code[pc]? = some 180) (h1 : code[pc + 1]? = some b) (h2 : code[pc + 1 + 1]? = some c) : decode code pc = .ok (.getfield ((b.toNat * 256 + c.toNat)), 3) := by
  refine dk_dec code pc ?_
  unfold ClassFile.Decoder.instr
  refine (dk_bind _ _ code pc (dk_u1 code pc 180 h0)).trans ?_
  exact dk_bind _ _ code (pc + 1) (dk_u2 code (pc + 1) b c h1 h2)
set_option maxRecDepth 8000 in
theorem dk_181 (code : ByteArray) (pc : Nat) {b c : UInt8} (h0 : code[pc]? = some 181) (h1 : code[pc + 1]? = some b) (h2 : code[pc + 1 + 1]? = some c) : decode code pc = .ok (.putfield ((b.toNat * 256 + c.toNat)), 3) := by
  refine dk_dec code pc ?_
  unfold ClassFile.Decoder.instr
  refine (dk_bind _ _ code pc (dk_u1 code pc 181 h0)).trans ?_
  exact dk_bind _ _ code (pc + 1) (dk_u2 code (pc + 1) b c h1 h2)
set_option maxRecDepth 8000 in
theorem dk_182 (code : ByteArray) (pc : Nat) {b c : UInt8} (h0 : code[pc]? = some 182) (h1 : code[pc + 1]? = some b) (h2 : code[pc + 1 + 1]? = some c) : decode code pc = .ok (.invokevirtual ((b.toNat * 256 + c.toNat)), 3) := by
  refine dk_dec code pc ?_
  unfold ClassFile.Decoder.instr
  refine (dk_bind _ _ code pc (dk_u1 code pc 182 h0)).trans ?_
  exact dk_bind _ _ code (pc + 1) (dk_u2 code (pc + 1) b c h1 h2)
set_option maxRecDepth 8000 in
theorem dk_183 (code : ByteArray) (pc : Nat) {b c : UInt8} (h0 : code[pc]? = some 183) (h1 : code[pc + 1]? = some b) (h2 : code[pc + 1 + 1]? = some c) : decode code pc = .ok (.invokespecial ((b.toNat * 256 + c.toNat)), 3) := by
  refine dk_dec code pc ?_
  unfold ClassFile.Decoder.instr
  refine (dk_bind _ _ code pc (dk_u1 code pc 183 h0)).trans ?_
  exact dk_bind _ _ code (pc + 1) (dk_u2 code (pc + 1) b c h1 h2)
set_option maxRecDepth 8000 in
theorem dk_184 (code : ByteArray) (pc : Nat) {b c : UInt8} (h0 : code[pc]? = some 184) (h1 : code[pc + 1]? = some b) (h2 : code[pc + 1 + 1]? = some c) : decode code pc = .ok (.invokestatic ((b.toNat * 256 + c.toNat)), 3) := by
  refine dk_dec code pc ?_
  unfold ClassFile.Decoder.instr
  refine (dk_bind _ _ code pc (dk_u1 code pc 184 h0)).trans ?_
  exact dk_bind _ _ code (pc + 1) (dk_u2 code (pc + 1) b c h1 h2)
set_option maxRecDepth 8000 in
theorem dk_187 (code : ByteArray) (pc : Nat) {b c : UInt8} (h0 : code[pc]? = some 187) (h1 : code[pc + 1]? = some b) (h2 : code[pc + 1 + 1]? = some c) : decode code pc = .ok (.new ((b.toNat * 256 + c.toNat)), 3) := by
  refine dk_dec code pc ?_
  unfold ClassFile.Decoder.instr
  refine (dk_bind _ _ code pc (dk_u1 code pc 187 h0)).trans ?_
  exact dk_bind _ _ code (pc + 1) (dk_u2 code (pc + 1) b c h1 h2)
set_option maxRecDepth 8000 in
theorem dk_189 (code : ByteArray) (pc : Nat) {b c : UInt8} (h0 : code[pc]? = some 189) (h1 : code[pc + 1]? = some b) (h2 : code[pc + 1 + 1]? = some c) : decode code pc = .ok (.anewarray ((b.toNat * 256 + c.toNat)), 3) := by
  refine dk_dec code pc ?_
  unfold ClassFile.Decoder.instr
  refine (dk_bind _ _ code pc (dk_u1 code pc 189 h0)).trans ?_
  exact dk_bind _ _ code (pc + 1) (dk_u2 code (pc + 1) b c h1 h2)
set_option maxRecDepth 8000 in
theorem dk_198 (code : ByteArray) (pc : Nat) {b c : UInt8} (h0 : code[pc]? = some 198) (h1 : code[pc + 1]? = some b) (h2 : code[pc + 1 + 1]? = some c) : decode code pc = .ok (.ifnull (ClassFile.Reader.signed 16 (b.toNat * 256 + c.toNat)), 3) := by
  refine dk_dec code pc ?_
  unfold ClassFile.Decoder.instr
  refine (dk_bind _ _ code pc (dk_u1 code pc 198 h0)).trans ?_
  exact dk_bind _ _ code (pc + 1) (dk_s2 code (pc + 1) b c h1 h2)
set_option maxRecDepth 8000 in
theorem dk_199 (code : ByteArray) (pc : Nat) {b c : UInt8} (h0 : code[pc]? = some 199) (h1 : code[pc + 1]? = some b) (h2 : code[pc + 1 + 1]? = some c) : decode code pc = .ok (.ifnonnull (ClassFile.Reader.signed 16 (b.toNat * 256 + c.toNat)), 3) := by
  refine dk_dec code pc ?_
  unfold ClassFile.Decoder.instr
  refine (dk_bind _ _ code pc (dk_u1 code pc 199 h0)).trans ?_
  exact dk_bind _ _ code (pc + 1) (dk_s2 code (pc + 1) b c h1 h2)
set_option maxRecDepth 8000 in
theorem dk_132 (code : ByteArray) (pc : Nat) {b c : UInt8} (h0 : code[pc]? = some 132) (h1 : code[pc + 1]? = some b) (h2 : code[pc + 1 + 1]? = some c) : decode code pc = .ok (.iinc b.toNat (ClassFile.Reader.signed 8 c.toNat), 3) := by
  refine dk_dec code pc ?_
  unfold ClassFile.Decoder.instr
  refine (dk_bind _ _ code pc (dk_u1 code pc 132 h0)).trans ?_
  refine (dk_bind _ _ code (pc + 1) (dk_u1 code (pc + 1) b h1)).trans ?_
  exact dk_bind _ _ code (pc + 1 + 1) (dk_s1 code (pc + 1 + 1) c h2)
set_option maxRecDepth 8000 in
theorem dk_188i (code : ByteArray) (pc : Nat) (h0 : code[pc]? = some 188) (h1 : code[pc + 1]? = some 10) : decode code pc = .ok (.newarray .int, 2) := by
  refine dk_dec code pc ?_
  unfold ClassFile.Decoder.instr
  refine (dk_bind _ _ code pc (dk_u1 code pc 188 h0)).trans ?_
  show ClassFile.Decoder.newarray pc code (pc + 1) = _
  unfold ClassFile.Decoder.newarray
  exact (dk_bind _ _ code (pc + 1) (dk_u1 code (pc + 1) 10 h1)).trans rfl
set_option maxRecDepth 8000 in
theorem dk_188z (code : ByteArray) (pc : Nat) (h0 : code[pc]? = some 188) (h1 : code[pc + 1]? = some 4) : decode code pc = .ok (.newarray .boolean, 2) := by
  refine dk_dec code pc ?_
  unfold ClassFile.Decoder.instr
  refine (dk_bind _ _ code pc (dk_u1 code pc 188 h0)).trans ?_
  show ClassFile.Decoder.newarray pc code (pc + 1) = _
  unfold ClassFile.Decoder.newarray
  exact (dk_bind _ _ code (pc + 1) (dk_u1 code (pc + 1) 4 h1)).trans rfl
def dkN (op b c : Nat) : Option (ClassFile.Instr × Nat) := match op with
  | 1 => some (.aconst_null, 1)
  | 2 => some (.iconst (-1), 1)
  | 3 => some (.iconst 0, 1)
  | 4 => some (.iconst 1, 1)
  | 5 => some (.iconst 2, 1)
  | 6 => some (.iconst 3, 1)
  | 7 => some (.iconst 4, 1)
  | 8 => some (.iconst 5, 1)
  | 26 => some (.iload_n 0, 1)
  | 27 => some (.iload_n 1, 1)
  | 28 => some (.iload_n 2, 1)
  | 29 => some (.iload_n 3, 1)
  | 42 => some (.aload_n 0, 1)
  | 43 => some (.aload_n 1, 1)
  | 44 => some (.aload_n 2, 1)
  | 45 => some (.aload_n 3, 1)
  | 46 => some (.iaload, 1)
  | 50 => some (.aaload, 1)
  | 51 => some (.baload, 1)
  | 59 => some (.istore_n 0, 1)
  | 60 => some (.istore_n 1, 1)
  | 61 => some (.istore_n 2, 1)
  | 62 => some (.istore_n 3, 1)
  | 75 => some (.astore_n 0, 1)
  | 76 => some (.astore_n 1, 1)
  | 77 => some (.astore_n 2, 1)
  | 78 => some (.astore_n 3, 1)
  | 79 => some (.iastore, 1)
  | 83 => some (.aastore, 1)
  | 84 => some (.bastore, 1)
  | 87 => some (.pop, 1)
  | 89 => some (.dup, 1)
  | 92 => some (.dup2, 1)
  | 96 => some (.iadd, 1)
  | 100 => some (.isub, 1)
  | 104 => some (.imul, 1)
  | 108 => some (.idiv, 1)
  | 112 => some (.irem, 1)
  | 116 => some (.ineg, 1)
  | 120 => some (.ishl, 1)
  | 122 => some (.ishr, 1)
  | 124 => some (.iushr, 1)
  | 126 => some (.iand, 1)
  | 128 => some (.ior, 1)
  | 130 => some (.ixor, 1)
  | 145 => some (.i2b, 1)
  | 146 => some (.i2c, 1)
  | 172 => some (.ireturn, 1)
  | 176 => some (.areturn, 1)
  | 177 => some (.return_, 1)
  | 190 => some (.arraylength, 1)
  | 191 => some (.athrow, 1)
  | 16 => some (.bipush (ClassFile.Reader.signed 8 b), 2)
  | 18 => some (.ldc b, 2)
  | 21 => some (.iload b, 2)
  | 25 => some (.aload b, 2)
  | 54 => some (.istore b, 2)
  | 58 => some (.astore b, 2)
  | 17 => some (.sipush (ClassFile.Reader.signed 16 (b * 256 + c)), 3)
  | 19 => some (.ldc_w ((b * 256 + c)), 3)
  | 153 => some (.ifCond .eq (ClassFile.Reader.signed 16 (b * 256 + c)), 3)
  | 154 => some (.ifCond .ne (ClassFile.Reader.signed 16 (b * 256 + c)), 3)
  | 155 => some (.ifCond .lt (ClassFile.Reader.signed 16 (b * 256 + c)), 3)
  | 156 => some (.ifCond .ge (ClassFile.Reader.signed 16 (b * 256 + c)), 3)
  | 157 => some (.ifCond .gt (ClassFile.Reader.signed 16 (b * 256 + c)), 3)
  | 158 => some (.ifCond .le (ClassFile.Reader.signed 16 (b * 256 + c)), 3)
  | 159 => some (.if_icmp .eq (ClassFile.Reader.signed 16 (b * 256 + c)), 3)
  | 160 => some (.if_icmp .ne (ClassFile.Reader.signed 16 (b * 256 + c)), 3)
  | 161 => some (.if_icmp .lt (ClassFile.Reader.signed 16 (b * 256 + c)), 3)
  | 162 => some (.if_icmp .ge (ClassFile.Reader.signed 16 (b * 256 + c)), 3)
  | 163 => some (.if_icmp .gt (ClassFile.Reader.signed 16 (b * 256 + c)), 3)
  | 164 => some (.if_icmp .le (ClassFile.Reader.signed 16 (b * 256 + c)), 3)
  | 167 => some (.goto (ClassFile.Reader.signed 16 (b * 256 + c)), 3)
  | 178 => some (.getstatic ((b * 256 + c)), 3)
  | 180 => some (.getfield ((b * 256 + c)), 3)
  | 181 => some (.putfield ((b * 256 + c)), 3)
  | 182 => some (.invokevirtual ((b * 256 + c)), 3)
  | 183 => some (.invokespecial ((b * 256 + c)), 3)
  | 184 => some (.invokestatic ((b * 256 + c)), 3)
  | 187 => some (.new ((b * 256 + c)), 3)
  | 189 => some (.anewarray ((b * 256 + c)), 3)
  | 198 => some (.ifnull (ClassFile.Reader.signed 16 (b * 256 + c)), 3)
  | 199 => some (.ifnonnull (ClassFile.Reader.signed 16 (b * 256 + c)), 3)
  | 132 => some (.iinc b (ClassFile.Reader.signed 8 c), 3)
  | 188 => if b = 10 then some (.newarray .int, 2) else if b = 4 then some (.newarray .boolean, 2) else none
  | _ => none
def isTab : ClassFile.Instr → Bool
  | .tableswitch .. => true
  | _ => false
theorem u8_lit {b : UInt8} {n : Nat} (h : b.toNat = n) : b = UInt8.ofNat n := by
  rw [← h]
  exact (UInt8.ofNat_toNat).symm
set_option maxRecDepth 8000 in
set_option maxHeartbeats 4000000 in
theorem dkN_ok (code : ByteArray) (pc : Nat) {b0 b c : UInt8} {i : ClassFile.Instr} {n : Nat} (h0 : code[pc]? = some b0) (h1 : n ≤ 1 ∨ code[pc + 1]? = some b) (h2 : n ≤ 2 ∨ code[pc + 1 + 1]? = some c) (h : dkN b0.toNat b.toNat c.toNat = some (i, n)) : decode code pc = .ok (i, n) := by
  unfold dkN at h
  split at h
  · rename_i e; cases h; rw [u8_lit e] at h0; exact dk_1 code pc h0
  · rename_i e; cases h; rw [u8_lit e] at h0; exact dk_2 code pc h0
  · rename_i e; cases h; rw [u8_lit e] at h0; exact dk_3 code pc h0
  · rename_i e; cases h; rw [u8_lit e] at h0; exact dk_4 code pc h0
  · rename_i e; cases h; rw [u8_lit e] at h0; exact dk_5 code pc h0
  · rename_i e; cases h; rw [u8_lit e] at h0; exact dk_6 code pc h0
  · rename_i e; cases h; rw [u8_lit e] at h0; exact dk_7 code pc h0
  · rename_i e; cases h; rw [u8_lit e] at h0; exact dk_8 code pc h0
  · rename_i e; cases h; rw [u8_lit e] at h0; exact dk_26 code pc h0
  · rename_i e; cases h; rw [u8_lit e] at h0; exact dk_27 code pc h0
  · rename_i e; cases h; rw [u8_lit e] at h0; exact dk_28 code pc h0
  · rename_i e; cases h; rw [u8_lit e] at h0; exact dk_29 code pc h0
  · rename_i e; cases h; rw [u8_lit e] at h0; exact dk_42 code pc h0
  · rename_i e; cases h; rw [u8_lit e] at h0; exact dk_43 code pc h0
  · rename_i e; cases h; rw [u8_lit e] at h0; exact dk_44 code pc h0
  · rename_i e; cases h; rw [u8_lit e] at h0; exact dk_45 code pc h0
  · rename_i e; cases h; rw [u8_lit e] at h0; exact dk_46 code pc h0
  · rename_i e; cases h; rw [u8_lit e] at h0; exact dk_50 code pc h0
  · rename_i e; cases h; rw [u8_lit e] at h0; exact dk_51 code pc h0
  · rename_i e; cases h; rw [u8_lit e] at h0; exact dk_59 code pc h0
  · rename_i e; cases h; rw [u8_lit e] at h0; exact dk_60 code pc h0
  · rename_i e; cases h; rw [u8_lit e] at h0; exact dk_61 code pc h0
  · rename_i e; cases h; rw [u8_lit e] at h0; exact dk_62 code pc h0
  · rename_i e; cases h; rw [u8_lit e] at h0; exact dk_75 code pc h0
  · rename_i e; cases h; rw [u8_lit e] at h0; exact dk_76 code pc h0
  · rename_i e; cases h; rw [u8_lit e] at h0; exact dk_77 code pc h0
  · rename_i e; cases h; rw [u8_lit e] at h0; exact dk_78 code pc h0
  · rename_i e; cases h; rw [u8_lit e] at h0; exact dk_79 code pc h0
  · rename_i e; cases h; rw [u8_lit e] at h0; exact dk_83 code pc h0
  · rename_i e; cases h; rw [u8_lit e] at h0; exact dk_84 code pc h0
  · rename_i e; cases h; rw [u8_lit e] at h0; exact dk_87 code pc h0
  · rename_i e; cases h; rw [u8_lit e] at h0; exact dk_89 code pc h0
  · rename_i e; cases h; rw [u8_lit e] at h0; exact dk_92 code pc h0
  · rename_i e; cases h; rw [u8_lit e] at h0; exact dk_96 code pc h0
  · rename_i e; cases h; rw [u8_lit e] at h0; exact dk_100 code pc h0
  · rename_i e; cases h; rw [u8_lit e] at h0; exact dk_104 code pc h0
  · rename_i e; cases h; rw [u8_lit e] at h0; exact dk_108 code pc h0
  · rename_i e; cases h; rw [u8_lit e] at h0; exact dk_112 code pc h0
  · rename_i e; cases h; rw [u8_lit e] at h0; exact dk_116 code pc h0
  · rename_i e; cases h; rw [u8_lit e] at h0; exact dk_120 code pc h0
  · rename_i e; cases h; rw [u8_lit e] at h0; exact dk_122 code pc h0
  · rename_i e; cases h; rw [u8_lit e] at h0; exact dk_124 code pc h0
  · rename_i e; cases h; rw [u8_lit e] at h0; exact dk_126 code pc h0
  · rename_i e; cases h; rw [u8_lit e] at h0; exact dk_128 code pc h0
  · rename_i e; cases h; rw [u8_lit e] at h0; exact dk_130 code pc h0
  · rename_i e; cases h; rw [u8_lit e] at h0; exact dk_145 code pc h0
  · rename_i e; cases h; rw [u8_lit e] at h0; exact dk_146 code pc h0
  · rename_i e; cases h; rw [u8_lit e] at h0; exact dk_172 code pc h0
  · rename_i e; cases h; rw [u8_lit e] at h0; exact dk_176 code pc h0
  · rename_i e; cases h; rw [u8_lit e] at h0; exact dk_177 code pc h0
  · rename_i e; cases h; rw [u8_lit e] at h0; exact dk_190 code pc h0
  · rename_i e; cases h; rw [u8_lit e] at h0; exact dk_191 code pc h0
  · rename_i e; cases h; rw [u8_lit e] at h0; exact dk_16 code pc h0 (h1.resolve_left (by decide))
  · rename_i e; cases h; rw [u8_lit e] at h0; exact dk_18 code pc h0 (h1.resolve_left (by decide))
  · rename_i e; cases h; rw [u8_lit e] at h0; exact dk_21 code pc h0 (h1.resolve_left (by decide))
  · rename_i e; cases h; rw [u8_lit e] at h0; exact dk_25 code pc h0 (h1.resolve_left (by decide))
  · rename_i e; cases h; rw [u8_lit e] at h0; exact dk_54 code pc h0 (h1.resolve_left (by decide))
  · rename_i e; cases h; rw [u8_lit e] at h0; exact dk_58 code pc h0 (h1.resolve_left (by decide))
  · rename_i e; cases h; rw [u8_lit e] at h0; exact dk_17 code pc h0 (h1.resolve_left (by decide)) (h2.resolve_left (by decide))
  · rename_i e; cases h; rw [u8_lit e] at h0; exact dk_19 code pc h0 (h1.resolve_left (by decide)) (h2.resolve_left (by decide))
  · rename_i e; cases h; rw [u8_lit e] at h0; exact dk_153 code pc h0 (h1.resolve_left (by decide)) (h2.resolve_left (by decide))
  · rename_i e; cases h; rw [u8_lit e] at h0; exact dk_154 code pc h0 (h1.resolve_left (by decide)) (h2.resolve_left (by decide))
  · rename_i e; cases h; rw [u8_lit e] at h0; exact dk_155 code pc h0 (h1.resolve_left (by decide)) (h2.resolve_left (by decide))
  · rename_i e; cases h; rw [u8_lit e] at h0; exact dk_156 code pc h0 (h1.resolve_left (by decide)) (h2.resolve_left (by decide))
  · rename_i e; cases h; rw [u8_lit e] at h0; exact dk_157 code pc h0 (h1.resolve_left (by decide)) (h2.resolve_left (by decide))
  · rename_i e; cases h; rw [u8_lit e] at h0; exact dk_158 code pc h0 (h1.resolve_left (by decide)) (h2.resolve_left (by decide))
  · rename_i e; cases h; rw [u8_lit e] at h0; exact dk_159 code pc h0 (h1.resolve_left (by decide)) (h2.resolve_left (by decide))
  · rename_i e; cases h; rw [u8_lit e] at h0; exact dk_160 code pc h0 (h1.resolve_left (by decide)) (h2.resolve_left (by decide))
  · rename_i e; cases h; rw [u8_lit e] at h0; exact dk_161 code pc h0 (h1.resolve_left (by decide)) (h2.resolve_left (by decide))
  · rename_i e; cases h; rw [u8_lit e] at h0; exact dk_162 code pc h0 (h1.resolve_left (by decide)) (h2.resolve_left (by decide))
  · rename_i e; cases h; rw [u8_lit e] at h0; exact dk_163 code pc h0 (h1.resolve_left (by decide)) (h2.resolve_left (by decide))
  · rename_i e; cases h; rw [u8_lit e] at h0; exact dk_164 code pc h0 (h1.resolve_left (by decide)) (h2.resolve_left (by decide))
  · rename_i e; cases h; rw [u8_lit e] at h0; exact dk_167 code pc h0 (h1.resolve_left (by decide)) (h2.resolve_left (by decide))
  · rename_i e; cases h; rw [u8_lit e] at h0; exact dk_178 code pc h0 (h1.resolve_left (by decide)) (h2.resolve_left (by decide))
  · rename_i e; cases h; rw [u8_lit e] at h0; exact dk_180 code pc h0 (h1.resolve_left (by decide)) (h2.resolve_left (by decide))
  · rename_i e; cases h; rw [u8_lit e] at h0; exact dk_181 code pc h0 (h1.resolve_left (by decide)) (h2.resolve_left (by decide))
  · rename_i e; cases h; rw [u8_lit e] at h0; exact dk_182 code pc h0 (h1.resolve_left (by decide)) (h2.resolve_left (by decide))
  · rename_i e; cases h; rw [u8_lit e] at h0; exact dk_183 code pc h0 (h1.resolve_left (by decide)) (h2.resolve_left (by decide))
  · rename_i e; cases h; rw [u8_lit e] at h0; exact dk_184 code pc h0 (h1.resolve_left (by decide)) (h2.resolve_left (by decide))
  · rename_i e; cases h; rw [u8_lit e] at h0; exact dk_187 code pc h0 (h1.resolve_left (by decide)) (h2.resolve_left (by decide))
  · rename_i e; cases h; rw [u8_lit e] at h0; exact dk_189 code pc h0 (h1.resolve_left (by decide)) (h2.resolve_left (by decide))
  · rename_i e; cases h; rw [u8_lit e] at h0; exact dk_198 code pc h0 (h1.resolve_left (by decide)) (h2.resolve_left (by decide))
  · rename_i e; cases h; rw [u8_lit e] at h0; exact dk_199 code pc h0 (h1.resolve_left (by decide)) (h2.resolve_left (by decide))
  · rename_i e; cases h; rw [u8_lit e] at h0; exact dk_132 code pc h0 (h1.resolve_left (by decide)) (h2.resolve_left (by decide))
  · rename_i e
    split at h
    · rename_i e2
      cases h; rw [u8_lit e] at h0
      have h3 := h1.resolve_left (by decide)
      rw [u8_lit e2] at h3
      exact dk_188i code pc h0 h3
    · split at h
      · rename_i e2
        cases h; rw [u8_lit e] at h0
        have h3 := h1.resolve_left (by decide)
        rw [u8_lit e2] at h3
        exact dk_188z code pc h0 h3
      · cases h
  · cases h
/-- one walk over the bytes: what is no switch decodes as the list says -/
def chkL : List UInt8 → Nat → List (Nat × ClassFile.Instr × Nat) → Bool
  | _, _, [] => true
  | [], _, _ :: _ => false
  | b0 :: bs, pc, q :: l => decide (q.1 = pc) && (isTab q.2.1 || (decide (q.2.2 ≤ bs.length + 1) && decide (dkN b0.toNat ((bs.headD 0).toNat) ((bs.tail.headD 0).toNat) = some q.2))) && chkL ((b0 :: bs).drop q.2.2) (pc + q.2.2) l
theorem chk_go (code : ByteArray) : ∀ (l : List (Nat × ClassFile.Instr × Nat)) (bs : List UInt8) (pc : Nat), (∀ i, bs[i]? = code[pc + i]?) → chkL bs pc l = true → ∀ q ∈ l, isTab q.2.1 = false → decode code q.1 = .ok q.2
  | [], _, _, _, _, q, hq, _ => by cases hq
  | q0 :: l, [], pc, _, h, _, _, _ => by cases h
  | q0 :: l, b0 :: bs, pc, hb, h, q, hq, ht => by
    simp only [chkL, Bool.and_eq_true, Bool.or_eq_true, decide_eq_true_eq] at h
    obtain ⟨⟨h1, h2⟩, h3⟩ := h
    rcases List.mem_cons.mp hq with rfl | hq
    · rcases h2 with h2 | ⟨h2, h4⟩
      · rw [h2] at ht; cases ht
      · obtain ⟨pq, i, n⟩ := q
        subst h1
        have g0 : code[pq]? = some b0 := (hb 0).symm
        refine dkN_ok code pq g0 (b := bs.headD 0) (c := bs.tail.headD 0) ?_ ?_ h4
        · rcases Nat.lt_or_ge 1 n with q | q
          · right
            have : bs[0]? = code[pq + 1]? := hb 1
            rw [← this]
            cases bs with
            | nil => simp at h2; omega
            | cons x t => rfl
          · exact Or.inl q
        · rcases Nat.lt_or_ge 2 n with q | q
          · right
            have : bs[1]? = code[pq + 2]? := hb 2
            rw [show pq + 1 + 1 = pq + 2 from rfl, ← this]
            cases bs with
            | nil => simp at h2; omega
            | cons x t =>
              cases t with
              | nil => simp at h2; omega
              | cons y t => rfl
          · exact Or.inl q
    · refine chk_go code l ((b0 :: bs).drop q0.2.2) (pc + q0.2.2) (fun i => ?_) h3 q hq ht
      rw [List.getElem?_drop, hb, Nat.add_assoc]
theorem ba_get (code : ByteArray) (j : Nat) : code[j]? = code.data[j]? := by
  by_cases h : j < code.size
  · rw [getElem?_pos code j h, getElem?_pos code.data j h]; rfl
  · rw [getElem?_neg code j h, getElem?_neg code.data j h]
theorem chk_ok (code : ByteArray) (l : List (Nat × ClassFile.Instr × Nat)) (h : chkL code.data.toList 0 l = true) (i : Nat) {pc : Nat} {ins : ClassFile.Instr} {n : Nat} (hi : l[i]? = some (pc, ins, n)) (ht : isTab ins = false) : decode code pc = .ok (ins, n) :=
  chk_go code l code.data.toList 0 (fun j => by rw [Nat.zero_add, Array.getElem?_toList, ba_get]) h (pc, ins, n) (List.mem_of_getElem? hi) ht
