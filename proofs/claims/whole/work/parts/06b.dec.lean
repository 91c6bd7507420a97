/-! DECODING, BY THE BYTES THAT AN INSTRUCTION HAS -/
theorem ins_bind (pc : Nat) : ∃ f : Nat → Decoder Instr, Decoder.instr pc = (Reader.u1 >>= f) ∧ (∀ (cc : ByteArray) (p : Nat), f 1 cc p = Except.ok (Instr.aconst_null, p)) ∧ (∀ (cc : ByteArray) (p : Nat), f 9 cc p = Except.ok (Instr.lconst 0, p)) ∧ (∀ (cc : ByteArray) (p : Nat), f 10 cc p = Except.ok (Instr.lconst 1, p)) ∧ (∀ (cc : ByteArray) (p : Nat), f 46 cc p = Except.ok (Instr.iaload, p)) ∧ (∀ (cc : ByteArray) (p : Nat), f 47 cc p = Except.ok (Instr.laload, p)) ∧ (∀ (cc : ByteArray) (p : Nat), f 50 cc p = Except.ok (Instr.aaload, p)) ∧ (∀ (cc : ByteArray) (p : Nat), f 51 cc p = Except.ok (Instr.baload, p)) ∧ (∀ (cc : ByteArray) (p : Nat), f 79 cc p = Except.ok (Instr.iastore, p)) ∧ (∀ (cc : ByteArray) (p : Nat), f 80 cc p = Except.ok (Instr.lastore, p)) ∧ (∀ (cc : ByteArray) (p : Nat), f 83 cc p = Except.ok (Instr.aastore, p)) ∧ (∀ (cc : ByteArray) (p : Nat), f 84 cc p = Except.ok (Instr.bastore, p)) ∧ (∀ (cc : ByteArray) (p : Nat), f 87 cc p = Except.ok (Instr.pop, p)) ∧ (∀ (cc : ByteArray) (p : Nat), f 89 cc p = Except.ok (Instr.dup, p)) ∧ (∀ (cc : ByteArray) (p : Nat), f 92 cc p = Except.ok (Instr.dup2, p)) ∧ (∀ (cc : ByteArray) (p : Nat), f 96 cc p = Except.ok (Instr.iadd, p)) ∧ (∀ (cc : ByteArray) (p : Nat), f 97 cc p = Except.ok (Instr.ladd, p)) ∧ (∀ (cc : ByteArray) (p : Nat), f 100 cc p = Except.ok (Instr.isub, p)) ∧ (∀ (cc : ByteArray) (p : Nat), f 101 cc p = Except.ok (Instr.lsub, p)) ∧ (∀ (cc : ByteArray) (p : Nat), f 104 cc p = Except.ok (Instr.imul, p)) ∧ (∀ (cc : ByteArray) (p : Nat), f 105 cc p = Except.ok (Instr.lmul, p)) ∧ (∀ (cc : ByteArray) (p : Nat), f 108 cc p = Except.ok (Instr.idiv, p)) ∧ (∀ (cc : ByteArray) (p : Nat), f 109 cc p = Except.ok (Instr.ldiv, p)) ∧ (∀ (cc : ByteArray) (p : Nat), f 112 cc p = Except.ok (Instr.irem, p)) ∧ (∀ (cc : ByteArray) (p : Nat), f 113 cc p = Except.ok (Instr.lrem, p)) ∧ (∀ (cc : ByteArray) (p : Nat), f 116 cc p = Except.ok (Instr.ineg, p)) ∧ (∀ (cc : ByteArray) (p : Nat), f 120 cc p = Except.ok (Instr.ishl, p)) ∧ (∀ (cc : ByteArray) (p : Nat), f 121 cc p = Except.ok (Instr.lshl, p)) ∧ (∀ (cc : ByteArray) (p : Nat), f 122 cc p = Except.ok (Instr.ishr, p)) ∧ (∀ (cc : ByteArray) (p : Nat), f 123 cc p = Except.ok (Instr.lshr, p)) ∧ (∀ (cc : ByteArray) (p : Nat), f 124 cc p = Except.ok (Instr.iushr, p)) ∧ (∀ (cc : ByteArray) (p : Nat), f 125 cc p = Except.ok (Instr.lushr, p)) ∧ (∀ (cc : ByteArray) (p : Nat), f 126 cc p = Except.ok (Instr.iand, p)) ∧ (∀ (cc : ByteArray) (p : Nat), f 127 cc p = Except.ok (Instr.land, p)) ∧ (∀ (cc : ByteArray) (p : Nat), f 128 cc p = Except.ok (Instr.ior, p)) ∧ (∀ (cc : ByteArray) (p : Nat), f 129 cc p = Except.ok (Instr.lor, p)) ∧ (∀ (cc : ByteArray) (p : Nat), f 130 cc p = Except.ok (Instr.ixor, p)) ∧ (∀ (cc : ByteArray) (p : Nat), f 131 cc p = Except.ok (Instr.lxor, p)) ∧ (∀ (cc : ByteArray) (p : Nat), f 133 cc p = Except.ok (Instr.i2l, p)) ∧ (∀ (cc : ByteArray) (p : Nat), f 136 cc p = Except.ok (Instr.l2i, p)) ∧ (∀ (cc : ByteArray) (p : Nat), f 145 cc p = Except.ok (Instr.i2b, p)) ∧ (∀ (cc : ByteArray) (p : Nat), f 146 cc p = Except.ok (Instr.i2c, p)) ∧ (∀ (cc : ByteArray) (p : Nat), f 148 cc p = Except.ok (Instr.lcmp, p)) ∧ (∀ (cc : ByteArray) (p : Nat), f 172 cc p = Except.ok (Instr.ireturn, p)) ∧ (∀ (cc : ByteArray) (p : Nat), f 173 cc p = Except.ok (Instr.lreturn, p)) ∧ (∀ (cc : ByteArray) (p : Nat), f 176 cc p = Except.ok (Instr.areturn, p)) ∧ (∀ (cc : ByteArray) (p : Nat), f 177 cc p = Except.ok (Instr.return_, p)) ∧ (∀ (cc : ByteArray) (p : Nat), f 190 cc p = Except.ok (Instr.arraylength, p)) ∧ (∀ (cc : ByteArray) (p : Nat), f 2 cc p = Except.ok (Instr.iconst (-1), p)) ∧ (∀ (cc : ByteArray) (p : Nat), f 3 cc p = Except.ok (Instr.iconst (0), p)) ∧ (∀ (cc : ByteArray) (p : Nat), f 4 cc p = Except.ok (Instr.iconst (1), p)) ∧ (∀ (cc : ByteArray) (p : Nat), f 5 cc p = Except.ok (Instr.iconst (2), p)) ∧ (∀ (cc : ByteArray) (p : Nat), f 6 cc p = Except.ok (Instr.iconst (3), p)) ∧ (∀ (cc : ByteArray) (p : Nat), f 7 cc p = Except.ok (Instr.iconst (4), p)) ∧ (∀ (cc : ByteArray) (p : Nat), f 8 cc p = Except.ok (Instr.iconst (5), p)) ∧ (∀ (cc : ByteArray) (p : Nat), f 26 cc p = Except.ok (Instr.iload_n 0, p)) ∧ (∀ (cc : ByteArray) (p : Nat), f 27 cc p = Except.ok (Instr.iload_n 1, p)) ∧ (∀ (cc : ByteArray) (p : Nat), f 28 cc p = Except.ok (Instr.iload_n 2, p)) ∧ (∀ (cc : ByteArray) (p : Nat), f 29 cc p = Except.ok (Instr.iload_n 3, p)) ∧ (∀ (cc : ByteArray) (p : Nat), f 30 cc p = Except.ok (Instr.lload_n 0, p)) ∧ (∀ (cc : ByteArray) (p : Nat), f 31 cc p = Except.ok (Instr.lload_n 1, p)) ∧ (∀ (cc : ByteArray) (p : Nat), f 32 cc p = Except.ok (Instr.lload_n 2, p)) ∧ (∀ (cc : ByteArray) (p : Nat), f 33 cc p = Except.ok (Instr.lload_n 3, p)) ∧ (∀ (cc : ByteArray) (p : Nat), f 42 cc p = Except.ok (Instr.aload_n 0, p)) ∧ (∀ (cc : ByteArray) (p : Nat), f 43 cc p = Except.ok (Instr.aload_n 1, p)) ∧ (∀ (cc : ByteArray) (p : Nat), f 44 cc p = Except.ok (Instr.aload_n 2, p)) ∧ (∀ (cc : ByteArray) (p : Nat), f 45 cc p = Except.ok (Instr.aload_n 3, p)) ∧ (∀ (cc : ByteArray) (p : Nat), f 59 cc p = Except.ok (Instr.istore_n 0, p)) ∧ (∀ (cc : ByteArray) (p : Nat), f 60 cc p = Except.ok (Instr.istore_n 1, p)) ∧ (∀ (cc : ByteArray) (p : Nat), f 61 cc p = Except.ok (Instr.istore_n 2, p)) ∧ (∀ (cc : ByteArray) (p : Nat), f 62 cc p = Except.ok (Instr.istore_n 3, p)) ∧ (∀ (cc : ByteArray) (p : Nat), f 63 cc p = Except.ok (Instr.lstore_n 0, p)) ∧ (∀ (cc : ByteArray) (p : Nat), f 64 cc p = Except.ok (Instr.lstore_n 1, p)) ∧ (∀ (cc : ByteArray) (p : Nat), f 65 cc p = Except.ok (Instr.lstore_n 2, p)) ∧ (∀ (cc : ByteArray) (p : Nat), f 66 cc p = Except.ok (Instr.lstore_n 3, p)) ∧ (∀ (cc : ByteArray) (p : Nat), f 75 cc p = Except.ok (Instr.astore_n 0, p)) ∧ (∀ (cc : ByteArray) (p : Nat), f 76 cc p = Except.ok (Instr.astore_n 1, p)) ∧ (∀ (cc : ByteArray) (p : Nat), f 77 cc p = Except.ok (Instr.astore_n 2, p)) ∧ (∀ (cc : ByteArray) (p : Nat), f 78 cc p = Except.ok (Instr.astore_n 3, p)) ∧ (∀ (cc : ByteArray) (p : Nat), f 18 cc p = Except.bind ((Reader.u1 : Decoder Nat) cc p) (fun z => Except.ok (Instr.ldc z.1, z.2))) ∧ (∀ (cc : ByteArray) (p : Nat), f 21 cc p = Except.bind ((Reader.u1 : Decoder Nat) cc p) (fun z => Except.ok (Instr.iload z.1, z.2))) ∧ (∀ (cc : ByteArray) (p : Nat), f 22 cc p = Except.bind ((Reader.u1 : Decoder Nat) cc p) (fun z => Except.ok (Instr.lload z.1, z.2))) ∧ (∀ (cc : ByteArray) (p : Nat), f 25 cc p = Except.bind ((Reader.u1 : Decoder Nat) cc p) (fun z => Except.ok (Instr.aload z.1, z.2))) ∧ (∀ (cc : ByteArray) (p : Nat), f 54 cc p = Except.bind ((Reader.u1 : Decoder Nat) cc p) (fun z => Except.ok (Instr.istore z.1, z.2))) ∧ (∀ (cc : ByteArray) (p : Nat), f 55 cc p = Except.bind ((Reader.u1 : Decoder Nat) cc p) (fun z => Except.ok (Instr.lstore z.1, z.2))) ∧ (∀ (cc : ByteArray) (p : Nat), f 58 cc p = Except.bind ((Reader.u1 : Decoder Nat) cc p) (fun z => Except.ok (Instr.astore z.1, z.2))) ∧ (∀ (cc : ByteArray) (p : Nat), f 19 cc p = Except.bind ((Reader.u2 : Decoder Nat) cc p) (fun z => Except.ok (Instr.ldc_w z.1, z.2))) ∧ (∀ (cc : ByteArray) (p : Nat), f 20 cc p = Except.bind ((Reader.u2 : Decoder Nat) cc p) (fun z => Except.ok (Instr.ldc2_w z.1, z.2))) ∧ (∀ (cc : ByteArray) (p : Nat), f 180 cc p = Except.bind ((Reader.u2 : Decoder Nat) cc p) (fun z => Except.ok (Instr.getfield z.1, z.2))) ∧ (∀ (cc : ByteArray) (p : Nat), f 181 cc p = Except.bind ((Reader.u2 : Decoder Nat) cc p) (fun z => Except.ok (Instr.putfield z.1, z.2))) ∧ (∀ (cc : ByteArray) (p : Nat), f 182 cc p = Except.bind ((Reader.u2 : Decoder Nat) cc p) (fun z => Except.ok (Instr.invokevirtual z.1, z.2))) ∧ (∀ (cc : ByteArray) (p : Nat), f 183 cc p = Except.bind ((Reader.u2 : Decoder Nat) cc p) (fun z => Except.ok (Instr.invokespecial z.1, z.2))) ∧ (∀ (cc : ByteArray) (p : Nat), f 184 cc p = Except.bind ((Reader.u2 : Decoder Nat) cc p) (fun z => Except.ok (Instr.invokestatic z.1, z.2))) ∧ (∀ (cc : ByteArray) (p : Nat), f 187 cc p = Except.bind ((Reader.u2 : Decoder Nat) cc p) (fun z => Except.ok (Instr.new z.1, z.2))) ∧ (∀ (cc : ByteArray) (p : Nat), f 189 cc p = Except.bind ((Reader.u2 : Decoder Nat) cc p) (fun z => Except.ok (Instr.anewarray z.1, z.2))) ∧ (∀ (cc : ByteArray) (p : Nat), f 17 cc p = Except.bind ((Reader.s2 : Decoder Int) cc p) (fun z => Except.ok (Instr.sipush z.1, z.2))) ∧ (∀ (cc : ByteArray) (p : Nat), f 167 cc p = Except.bind ((Reader.s2 : Decoder Int) cc p) (fun z => Except.ok (Instr.goto z.1, z.2))) ∧ (∀ (cc : ByteArray) (p : Nat), f 198 cc p = Except.bind ((Reader.s2 : Decoder Int) cc p) (fun z => Except.ok (Instr.ifnull z.1, z.2))) ∧ (∀ (cc : ByteArray) (p : Nat), f 199 cc p = Except.bind ((Reader.s2 : Decoder Int) cc p) (fun z => Except.ok (Instr.ifnonnull z.1, z.2))) ∧ (∀ (cc : ByteArray) (p : Nat), f 153 cc p = Except.bind ((Reader.s2 : Decoder Int) cc p) (fun z => Except.ok (Instr.ifCond .eq z.1, z.2))) ∧ (∀ (cc : ByteArray) (p : Nat), f 159 cc p = Except.bind ((Reader.s2 : Decoder Int) cc p) (fun z => Except.ok (Instr.if_icmp .eq z.1, z.2))) ∧ (∀ (cc : ByteArray) (p : Nat), f 154 cc p = Except.bind ((Reader.s2 : Decoder Int) cc p) (fun z => Except.ok (Instr.ifCond .ne z.1, z.2))) ∧ (∀ (cc : ByteArray) (p : Nat), f 160 cc p = Except.bind ((Reader.s2 : Decoder Int) cc p) (fun z => Except.ok (Instr.if_icmp .ne z.1, z.2))) ∧ (∀ (cc : ByteArray) (p : Nat), f 155 cc p = Except.bind ((Reader.s2 : Decoder Int) cc p) (fun z => Except.ok (Instr.ifCond .lt z.1, z.2))) ∧ (∀ (cc : ByteArray) (p : Nat), f 161 cc p = Except.bind ((Reader.s2 : Decoder Int) cc p) (fun z => Except.ok (Instr.if_icmp .lt z.1, z.2))) ∧ (∀ (cc : ByteArray) (p : Nat), f 156 cc p = Except.bind ((Reader.s2 : Decoder Int) cc p) (fun z => Except.ok (Instr.ifCond .ge z.1, z.2))) ∧ (∀ (cc : ByteArray) (p : Nat), f 162 cc p = Except.bind ((Reader.s2 : Decoder Int) cc p) (fun z => Except.ok (Instr.if_icmp .ge z.1, z.2))) ∧ (∀ (cc : ByteArray) (p : Nat), f 157 cc p = Except.bind ((Reader.s2 : Decoder Int) cc p) (fun z => Except.ok (Instr.ifCond .gt z.1, z.2))) ∧ (∀ (cc : ByteArray) (p : Nat), f 163 cc p = Except.bind ((Reader.s2 : Decoder Int) cc p) (fun z => Except.ok (Instr.if_icmp .gt z.1, z.2))) ∧ (∀ (cc : ByteArray) (p : Nat), f 158 cc p = Except.bind ((Reader.s2 : Decoder Int) cc p) (fun z => Except.ok (Instr.ifCond .le z.1, z.2))) ∧ (∀ (cc : ByteArray) (p : Nat), f 164 cc p = Except.bind ((Reader.s2 : Decoder Int) cc p) (fun z => Except.ok (Instr.if_icmp .le z.1, z.2))) ∧ (∀ (cc : ByteArray) (p : Nat), f 16 cc p = Except.bind ((Reader.s1 : Decoder Int) cc p) (fun z => Except.ok (Instr.bipush z.1, z.2))) := by
  refine ⟨_, rfl, ?_⟩
  exact ⟨fun _ _ => rfl, fun _ _ => rfl, fun _ _ => rfl, fun _ _ => rfl, fun _ _ => rfl, fun _ _ => rfl, fun _ _ => rfl, fun _ _ => rfl, fun _ _ => rfl, fun _ _ => rfl, fun _ _ => rfl, fun _ _ => rfl, fun _ _ => rfl, fun _ _ => rfl, fun _ _ => rfl, fun _ _ => rfl, fun _ _ => rfl, fun _ _ => rfl, fun _ _ => rfl, fun _ _ => rfl, fun _ _ => rfl, fun _ _ => rfl, fun _ _ => rfl, fun _ _ => rfl, fun _ _ => rfl, fun _ _ => rfl, fun _ _ => rfl, fun _ _ => rfl, fun _ _ => rfl, fun _ _ => rfl, fun _ _ => rfl, fun _ _ => rfl, fun _ _ => rfl, fun _ _ => rfl, fun _ _ => rfl, fun _ _ => rfl, fun _ _ => rfl, fun _ _ => rfl, fun _ _ => rfl, fun _ _ => rfl, fun _ _ => rfl, fun _ _ => rfl, fun _ _ => rfl, fun _ _ => rfl, fun _ _ => rfl, fun _ _ => rfl, fun _ _ => rfl, fun _ _ => rfl, fun _ _ => rfl, fun _ _ => rfl, fun _ _ => rfl, fun _ _ => rfl, fun _ _ => rfl, fun _ _ => rfl, fun _ _ => rfl, fun _ _ => rfl, fun _ _ => rfl, fun _ _ => rfl, fun _ _ => rfl, fun _ _ => rfl, fun _ _ => rfl, fun _ _ => rfl, fun _ _ => rfl, fun _ _ => rfl, fun _ _ => rfl, fun _ _ => rfl, fun _ _ => rfl, fun _ _ => rfl, fun _ _ => rfl, fun _ _ => rfl, fun _ _ => rfl, fun _ _ => rfl, fun _ _ => rfl, fun _ _ => rfl, fun _ _ => rfl, fun _ _ => rfl, fun _ _ => rfl, fun _ _ => rfl, fun _ _ => rfl, fun _ _ => rfl, fun _ _ => rfl, fun _ _ => rfl, fun _ _ => rfl, fun _ _ => rfl, fun _ _ => rfl, fun _ _ => rfl, fun _ _ => rfl, fun _ _ => rfl, fun _ _ => rfl, fun _ _ => rfl, fun _ _ => rfl, fun _ _ => rfl, fun _ _ => rfl, fun _ _ => rfl, fun _ _ => rfl, fun _ _ => rfl, fun _ _ => rfl, fun _ _ => rfl, fun _ _ => rfl, fun _ _ => rfl, fun _ _ => rfl, fun _ _ => rfl, fun _ _ => rfl, fun _ _ => rfl, fun _ _ => rfl, fun _ _ => rfl, fun _ _ => rfl, fun _ _ => rfl, fun _ _ => rfl, fun _ _ => rfl, fun _ _ => rfl⟩
noncomputable def insF (pc : Nat) : Nat → Decoder Instr := Classical.choose (ins_bind pc)
theorem insF_eq (pc : Nat) (cc : ByteArray) (p : Nat) : Decoder.instr pc cc p = Except.bind ((Reader.u1 : Decoder Nat) cc p) (fun z => insF pc z.1 cc z.2) := by
  have h := (Classical.choose_spec (ins_bind pc)).1
  rw [h]
  rfl
theorem insF_1 (pc : Nat) (cc : ByteArray) (p : Nat) : insF pc 1 cc p = Except.ok (Instr.aconst_null, p) := (Classical.choose_spec (ins_bind pc)).2.1 cc p
theorem insF_9 (pc : Nat) (cc : ByteArray) (p : Nat) : insF pc 9 cc p = Except.ok (Instr.lconst 0, p) := (Classical.choose_spec (ins_bind pc)).2.2.1 cc p
theorem insF_10 (pc : Nat) (cc : ByteArray) (p : Nat) : insF pc 10 cc p = Except.ok (Instr.lconst 1, p) := (Classical.choose_spec (ins_bind pc)).2.2.2.1 cc p
theorem insF_46 (pc : Nat) (cc : ByteArray) (p : Nat) : insF pc 46 cc p = Except.ok (Instr.iaload, p) := (Classical.choose_spec (ins_bind pc)).2.2.2.2.1 cc p
theorem insF_47 (pc : Nat) (cc : ByteArray) (p : Nat) : insF pc 47 cc p = Except.ok (Instr.laload, p) := (Classical.choose_spec (ins_bind pc)).2.2.2.2.2.1 cc p
theorem insF_50 (pc : Nat) (cc : ByteArray) (p : Nat) : insF pc 50 cc p = Except.ok (Instr.aaload, p) := (Classical.choose_spec (ins_bind pc)).2.2.2.2.2.2.1 cc p
theorem insF_51 (pc : Nat) (cc : ByteArray) (p : Nat) : insF pc 51 cc p = Except.ok (Instr.baload, p) := (Classical.choose_spec (ins_bind pc)).2.2.2.2.2.2.2.1 cc p
theorem insF_79 (pc : Nat) (cc : ByteArray) (p : Nat) : insF pc 79 cc p = Except.ok (Instr.iastore, p) := (Classical.choose_spec (ins_bind pc)).2.2.2.2.2.2.2.2.1 cc p
theorem insF_80 (pc : Nat) (cc : ByteArray) (p : Nat) : insF pc 80 cc p = Except.ok (Instr.lastore, p) := (Classical.choose_spec (ins_bind pc)).2.2.2.2.2.2.2.2.2.1 cc p
theorem insF_83 (pc : Nat) (cc : ByteArray) (p : Nat) : insF pc 83 cc p = Except.ok (Instr.aastore, p) := (Classical.choose_spec (ins_bind pc)).2.2.2.2.2.2.2.2.2.2.1 cc p
theorem insF_84 (pc : Nat) (cc : ByteArray) (p : Nat) : insF pc 84 cc p = Except.ok (Instr.bastore, p) := (Classical.choose_spec (ins_bind pc)).2.2.2.2.2.2.2.2.2.2.2.1 cc p
theorem insF_87 (pc : Nat) (cc : ByteArray) (p : Nat) : insF pc 87 cc p = Except.ok (Instr.pop, p) := (Classical.choose_spec (ins_bind pc)).2.2.2.2.2.2.2.2.2.2.2.2.1 cc p
theorem insF_89 (pc : Nat) (cc : ByteArray) (p : Nat) : insF pc 89 cc p = Except.ok (Instr.dup, p) := (Classical.choose_spec (ins_bind pc)).2.2.2.2.2.2.2.2.2.2.2.2.2.1 cc p
theorem insF_92 (pc : Nat) (cc : ByteArray) (p : Nat) : insF pc 92 cc p = Except.ok (Instr.dup2, p) := (Classical.choose_spec (ins_bind pc)).2.2.2.2.2.2.2.2.2.2.2.2.2.2.1 cc p
theorem insF_96 (pc : Nat) (cc : ByteArray) (p : Nat) : insF pc 96 cc p = Except.ok (Instr.iadd, p) := (Classical.choose_spec (ins_bind pc)).2.2.2.2.2.2.2.2.2.2.2.2.2.2.2.1 cc p
theorem insF_97 (pc : Nat) (cc : ByteArray) (p : Nat) : insF pc 97 cc p = Except.ok (Instr.ladd, p) := (Classical.choose_spec (ins_bind pc)).2.2.2.2.2.2.2.2.2.2.2.2.2.2.2.2.1 cc p
theorem insF_100 (pc : Nat) (cc : ByteArray) (p : Nat) : insF pc 100 cc p = Except.ok (Instr.isub, p) := (Classical.choose_spec (ins_bind pc)).2.2.2.2.2.2.2.2.2.2.2.2.2.2.2.2.2.1 cc p
theorem insF_101 (pc : Nat) (cc : ByteArray) (p : Nat) : insF pc 101 cc p = Except.ok (Instr.lsub, p) := (Classical.choose_spec (ins_bind pc)).2.2.2.2.2.2.2.2.2.2.2.2.2.2.2.2.2.2.1 cc p
theorem insF_104 (pc : Nat) (cc : ByteArray) (p : Nat) : insF pc 104 cc p = Except.ok (Instr.imul, p) := (Classical.choose_spec (ins_bind pc)).2.2.2.2.2.2.2.2.2.2.2.2.2.2.2.2.2.2.2.1 cc p
theorem insF_105 (pc : Nat) (cc : ByteArray) (p : Nat) : insF pc 105 cc p = Except.ok (Instr.lmul, p) := (Classical.choose_spec (ins_bind pc)).2.2.2.2.2.2.2.2.2.2.2.2.2.2.2.2.2.2.2.2.1 cc p
theorem insF_108 (pc : Nat) (cc : ByteArray) (p : Nat) : insF pc 108 cc p = Except.ok (Instr.idiv, p) := (Classical.choose_spec (ins_bind pc)).2.2.2.2.2.2.2.2.2.2.2.2.2.2.2.2.2.2.2.2.2.1 cc p
theorem insF_109 (pc : Nat) (cc : ByteArray) (p : Nat) : insF pc 109 cc p = Except.ok (Instr.ldiv, p) := (Classical.choose_spec (ins_bind pc)).2.2.2.2.2.2.2.2.2.2.2.2.2.2.2.2.2.2.2.2.2.2.1 cc p
theorem insF_112 (pc : Nat) (cc : ByteArray) (p : Nat) : insF pc 112 cc p = Except.ok (Instr.irem, p) := (Classical.choose_spec (ins_bind pc)).2.2.2.2.2.2.2.2.2.2.2.2.2.2.2.2.2.2.2.2.2.2.2.1 cc p
theorem insF_113 (pc : Nat) (cc : ByteArray) (p : Nat) : insF pc 113 cc p = Except.ok (Instr.lrem, p) := (Classical.choose_spec (ins_bind pc)).2.2.2.2.2.2.2.2.2.2.2.2.2.2.2.2.2.2.2.2.2.2.2.2.1 cc p
theorem insF_116 (pc : Nat) (cc : ByteArray) (p : Nat) : insF pc 116 cc p = Except.ok (Instr.ineg, p) := (Classical.choose_spec (ins_bind pc)).2.2.2.2.2.2.2.2.2.2.2.2.2.2.2.2.2.2.2.2.2.2.2.2.2.1 cc p
theorem insF_120 (pc : Nat) (cc : ByteArray) (p : Nat) : insF pc 120 cc p = Except.ok (Instr.ishl, p) := (Classical.choose_spec (ins_bind pc)).2.2.2.2.2.2.2.2.2.2.2.2.2.2.2.2.2.2.2.2.2.2.2.2.2.2.1 cc p
theorem insF_121 (pc : Nat) (cc : ByteArray) (p : Nat) : insF pc 121 cc p = Except.ok (Instr.lshl, p) := (Classical.choose_spec (ins_bind pc)).2.2.2.2.2.2.2.2.2.2.2.2.2.2.2.2.2.2.2.2.2.2.2.2.2.2.2.1 cc p
theorem insF_122 (pc : Nat) (cc : ByteArray) (p : Nat) : insF pc 122 cc p = Except.ok (Instr.ishr, p) := (Classical.choose_spec (ins_bind pc)).2.2.2.2.2.2.2.2.2.2.2.2.2.2.2.2.2.2.2.2.2.2.2.2.2.2.2.2.1 cc p
theorem insF_123 (pc : Nat) (cc : ByteArray) (p : Nat) : insF pc 123 cc p = Except.ok (Instr.lshr, p) := (Classical.choose_spec (ins_bind pc)).2.2.2.2.2.2.2.2.2.2.2.2.2.2.2.2.2.2.2.2.2.2.2.2.2.2.2.2.2.1 cc p
theorem insF_124 (pc : Nat) (cc : ByteArray) (p : Nat) : insF pc 124 cc p = Except.ok (Instr.iushr, p) := (Classical.choose_spec (ins_bind pc)).2.2.2.2.2.2.2.2.2.2.2.2.2.2.2.2.2.2.2.2.2.2.2.2.2.2.2.2.2.2.1 cc p
theorem insF_125 (pc : Nat) (cc : ByteArray) (p : Nat) : insF pc 125 cc p = Except.ok (Instr.lushr, p) := (Classical.choose_spec (ins_bind pc)).2.2.2.2.2.2.2.2.2.2.2.2.2.2.2.2.2.2.2.2.2.2.2.2.2.2.2.2.2.2.2.1 cc p
theorem insF_126 (pc : Nat) (cc : ByteArray) (p : Nat) : insF pc 126 cc p = Except.ok (Instr.iand, p) := (Classical.choose_spec (ins_bind pc)).2.2.2.2.2.2.2.2.2.2.2.2.2.2.2.2.2.2.2.2.2.2.2.2.2.2.2.2.2.2.2.2.1 cc p
theorem insF_127 (pc : Nat) (cc : ByteArray) (p : Nat) : insF pc 127 cc p = Except.ok (Instr.land, p) := (Classical.choose_spec (ins_bind pc)).2.2.2.2.2.2.2.2.2.2.2.2.2.2.2.2.2.2.2.2.2.2.2.2.2.2.2.2.2.2.2.2.2.1 cc p
theorem insF_128 (pc : Nat) (cc : ByteArray) (p : Nat) : insF pc 128 cc p = Except.ok (Instr.ior, p) := (Classical.choose_spec (ins_bind pc)).2.2.2.2.2.2.2.2.2.2.2.2.2.2.2.2.2.2.2.2.2.2.2.2.2.2.2.2.2.2.2.2.2.2.1 cc p
theorem insF_129 (pc : Nat) (cc : ByteArray) (p : Nat) : insF pc 129 cc p = Except.ok (Instr.lor, p) := (Classical.choose_spec (ins_bind pc)).2.2.2.2.2.2.2.2.2.2.2.2.2.2.2.2.2.2.2.2.2.2.2.2.2.2.2.2.2.2.2.2.2.2.2.1 cc p
theorem insF_130 (pc : Nat) (cc : ByteArray) (p : Nat) : insF pc 130 cc p = Except.ok (Instr.ixor, p) := (Classical.choose_spec (ins_bind pc)).2.2.2.2.2.2.2.2.2.2.2.2.2.2.2.2.2.2.2.2.2.2.2.2.2.2.2.2.2.2.2.2.2.2.2.2.1 cc p
theorem insF_131 (pc : Nat) (cc : ByteArray) (p : Nat) : insF pc 131 cc p = Except.ok (Instr.lxor, p) := (Classical.choose_spec (ins_bind pc)).2.2.2.2.2.2.2.2.2.2.2.2.2.2.2.2.2.2.2.2.2.2.2.2.2.2.2.2.2.2.2.2.2.2.2.2.2.1 cc p
theorem insF_133 (pc : Nat) (cc : ByteArray) (p : Nat) : insF pc 133 cc p = Except.ok (Instr.i2l, p) := (Classical.choose_spec (ins_bind pc)).2.2.2.2.2.2.2.2.2.2.2.2.2.2.2.2.2.2.2.2.2.2.2.2.2.2.2.2.2.2.2.2.2.2.2.2.2.2.1 cc p
theorem insF_136 (pc : Nat) (cc : ByteArray) (p : Nat) : insF pc 136 cc p = Except.ok (Instr.l2i, p) := (Classical.choose_spec (ins_bind pc)).2.2.2.2.2.2.2.2.2.2.2.2.2.2.2.2.2.2.2.2.2.2.2.2.2.2.2.2.2.2.2.2.2.2.2.2.2.2.2.1 cc p
theorem insF_145 (pc : Nat) (cc : ByteArray) (p : Nat) : insF pc 145 cc p = Except.ok (Instr.i2b, p) := (Classical.choose_spec (ins_bind pc)).2.2.2.2.2.2.2.2.2.2.2.2.2.2.2.2.2.2.2.2.2.2.2.2.2.2.2.2.2.2.2.2.2.2.2.2.2.2.2.2.1 cc p
theorem insF_146 (pc : Nat) (cc : ByteArray) (p : Nat) : insF pc 146 cc p = Except.ok (Instr.i2c, p) := (Classical.choose_spec (ins_bind pc)).2.2.2.2.2.2.2.2.2.2.2.2.2.2.2.2.2.2.2.2.2.2.2.2.2.2.2.2.2.2.2.2.2.2.2.2.2.2.2.2.2.1 cc p
theorem insF_148 (pc : Nat) (cc : ByteArray) (p : Nat) : insF pc 148 cc p = Except.ok (Instr.lcmp, p) := (Classical.choose_spec (ins_bind pc)).2.2.2.2.2.2.2.2.2.2.2.2.2.2.2.2.2.2.2.2.2.2.2.2.2.2.2.2.2.2.2.2.2.2.2.2.2.2.2.2.2.2.1 cc p
theorem insF_172 (pc : Nat) (cc : ByteArray) (p : Nat) : insF pc 172 cc p = Except.ok (Instr.ireturn, p) := (Classical.choose_spec (ins_bind pc)).2.2.2.2.2.2.2.2.2.2.2.2.2.2.2.2.2.2.2.2.2.2.2.2.2.2.2.2.2.2.2.2.2.2.2.2.2.2.2.2.2.2.2.1 cc p
theorem insF_173 (pc : Nat) (cc : ByteArray) (p : Nat) : insF pc 173 cc p = Except.ok (Instr.lreturn, p) := (Classical.choose_spec (ins_bind pc)).2.2.2.2.2.2.2.2.2.2.2.2.2.2.2.2.2.2.2.2.2.2.2.2.2.2.2.2.2.2.2.2.2.2.2.2.2.2.2.2.2.2.2.2.1 cc p
theorem insF_176 (pc : Nat) (cc : ByteArray) (p : Nat) : insF pc 176 cc p = Except.ok (Instr.areturn, p) := (Classical.choose_spec (ins_bind pc)).2.2.2.2.2.2.2.2.2.2.2.2.2.2.2.2.2.2.2.2.2.2.2.2.2.2.2.2.2.2.2.2.2.2.2.2.2.2.2.2.2.2.2.2.2.1 cc p
theorem insF_177 (pc : Nat) (cc : ByteArray) (p : Nat) : insF pc 177 cc p = Except.ok (Instr.return_, p) := (Classical.choose_spec (ins_bind pc)).2.2.2.2.2.2.2.2.2.2.2.2.2.2.2.2.2.2.2.2.2.2.2.2.2.2.2.2.2.2.2.2.2.2.2.2.2.2.2.2.2.2.2.2.2.2.1 cc p
theorem insF_190 (pc : Nat) (cc : ByteArray) (p : Nat) : insF pc 190 cc p = Except.ok (Instr.arraylength, p) := (Classical.choose_spec (ins_bind pc)).2.2.2.2.2.2.2.2.2.2.2.2.2.2.2.2.2.2.2.2.2.2.2.2.2.2.2.2.2.2.2.2.2.2.2.2.2.2.2.2.2.2.2.2.2.2.2.1 cc p
theorem insF_2 (pc : Nat) (cc : ByteArray) (p : Nat) : insF pc 2 cc p = Except.ok (Instr.iconst (-1), p) := (Classical.choose_spec (ins_bind pc)).2.2.2.2.2.2.2.2.2.2.2.2.2.2.2.2.2.2.2.2.2.2.2.2.2.2.2.2.2.2.2.2.2.2.2.2.2.2.2.2.2.2.2.2.2.2.2.2.1 cc p
theorem insF_3 (pc : Nat) (cc : ByteArray) (p : Nat) : insF pc 3 cc p = Except.ok (Instr.iconst (0), p) := (Classical.choose_spec (ins_bind pc)).2.2.2.2.2.2.2.2.2.2.2.2.2.2.2.2.2.2.2.2.2.2.2.2.2.2.2.2.2.2.2.2.2.2.2.2.2.2.2.2.2.2.2.2.2.2.2.2.2.1 cc p
theorem insF_4 (pc : Nat) (cc : ByteArray) (p : Nat) : insF pc 4 cc p = Except.ok (Instr.iconst (1), p) := (Classical.choose_spec (ins_bind pc)).2.2.2.2.2.2.2.2.2.2.2.2.2.2.2.2.2.2.2.2.2.2.2.2.2.2.2.2.2.2.2.2.2.2.2.2.2.2.2.2.2.2.2.2.2.2.2.2.2.2.1 cc p
theorem insF_5 (pc : Nat) (cc : ByteArray) (p : Nat) : insF pc 5 cc p = Except.ok (Instr.iconst (2), p) := (Classical.choose_spec (ins_bind pc)).2.2.2.2.2.2.2.2.2.2.2.2.2.2.2.2.2.2.2.2.2.2.2.2.2.2.2.2.2.2.2.2.2.2.2.2.2.2.2.2.2.2.2.2.2.2.2.2.2.2.2.1 cc p
theorem insF_6 (pc : Nat) (cc : ByteArray) (p : Nat) : insF pc 6 cc p = Except.ok (Instr.iconst (3), p) := (Classical.choose_spec (ins_bind pc)).2.2.2.2.2.2.2.2.2.2.2.2.2.2.2.2.2.2.2.2.2.2.2.2.2.2.2.2.2.2.2.2.2.2.2.2.2.2.2.2.2.2.2.2.2.2.2.2.2.2.2.2.1 cc p
theorem insF_7 (pc : Nat) (cc : ByteArray) (p : Nat) : insF pc 7 cc p = Except.ok (Instr.iconst (4), p) := (Classical.choose_spec (ins_bind pc)).2.2.2.2.2.2.2.2.2.2.2.2.2.2.2.2.2.2.2.2.2.2.2.2.2.2.2.2.2.2.2.2.2.2.2.2.2.2.2.2.2.2.2.2.2.2.2.2.2.2.2.2.2.1 cc p
theorem insF_8 (pc : Nat) (cc : ByteArray) (p : Nat) : insF pc 8 cc p = Except.ok (Instr.iconst (5), p) := (Classical.choose_spec (ins_bind pc)).2.2.2.2.2.2.2.2.2.2.2.2.2.2.2.2.2.2.2.2.2.2.2.2.2.2.2.2.2.2.2.2.2.2.2.2.2.2.2.2.2.2.2.2.2.2.2.2.2.2.2.2.2.2.1 cc p
theorem insF_26 (pc : Nat) (cc : ByteArray) (p : Nat) : insF pc 26 cc p = Except.ok (Instr.iload_n 0, p) := (Classical.choose_spec (ins_bind pc)).2.2.2.2.2.2.2.2.2.2.2.2.2.2.2.2.2.2.2.2.2.2.2.2.2.2.2.2.2.2.2.2.2.2.2.2.2.2.2.2.2.2.2.2.2.2.2.2.2.2.2.2.2.2.2.1 cc p
theorem insF_27 (pc : Nat) (cc : ByteArray) (p : Nat) : insF pc 27 cc p = Except.ok (Instr.iload_n 1, p) := (Classical.choose_spec (ins_bind pc)).2.2.2.2.2.2.2.2.2.2.2.2.2.2.2.2.2.2.2.2.2.2.2.2.2.2.2.2.2.2.2.2.2.2.2.2.2.2.2.2.2.2.2.2.2.2.2.2.2.2.2.2.2.2.2.2.1 cc p
theorem insF_28 (pc : Nat) (cc : ByteArray) (p : Nat) : insF pc 28 cc p = Except.ok (Instr.iload_n 2, p) := (Classical.choose_spec (ins_bind pc)).2.2.2.2.2.2.2.2.2.2.2.2.2.2.2.2.2.2.2.2.2.2.2.2.2.2.2.2.2.2.2.2.2.2.2.2.2.2.2.2.2.2.2.2.2.2.2.2.2.2.2.2.2.2.2.2.2.1 cc p
theorem insF_29 (pc : Nat) (cc : ByteArray) (p : Nat) : insF pc 29 cc p = Except.ok (Instr.iload_n 3, p) := (Classical.choose_spec (ins_bind pc)).2.2.2.2.2.2.2.2.2.2.2.2.2.2.2.2.2.2.2.2.2.2.2.2.2.2.2.2.2.2.2.2.2.2.2.2.2.2.2.2.2.2.2.2.2.2.2.2.2.2.2.2.2.2.2.2.2.2.1 cc p
theorem insF_30 (pc : Nat) (cc : ByteArray) (p : Nat) : insF pc 30 cc p = Except.ok (Instr.lload_n 0, p) := (Classical.choose_spec (ins_bind pc)).2.2.2.2.2.2.2.2.2.2.2.2.2.2.2.2.2.2.2.2.2.2.2.2.2.2.2.2.2.2.2.2.2.2.2.2.2.2.2.2.2.2.2.2.2.2.2.2.2.2.2.2.2.2.2.2.2.2.2.1 cc p
theorem insF_31 (pc : Nat) (cc : ByteArray) (p : Nat) : insF pc 31 cc p = Except.ok (Instr.lload_n 1, p) := (Classical.choose_spec (ins_bind pc)).2.2.2.2.2.2.2.2.2.2.2.2.2.2.2.2.2.2.2.2.2.2.2.2.2.2.2.2.2.2.2.2.2.2.2.2.2.2.2.2.2.2.2.2.2.2.2.2.2.2.2.2.2.2.2.2.2.2.2.2.1 cc p
theorem insF_32 (pc : Nat) (cc : ByteArray) (p : Nat) : insF pc 32 cc p = Except.ok (Instr.lload_n 2, p) := (Classical.choose_spec (ins_bind pc)).2.2.2.2.2.2.2.2.2.2.2.2.2.2.2.2.2.2.2.2.2.2.2.2.2.2.2.2.2.2.2.2.2.2.2.2.2.2.2.2.2.2.2.2.2.2.2.2.2.2.2.2.2.2.2.2.2.2.2.2.2.1 cc p
theorem insF_33 (pc : Nat) (cc : ByteArray) (p : Nat) : insF pc 33 cc p = Except.ok (Instr.lload_n 3, p) := (Classical.choose_spec (ins_bind pc)).2.2.2.2.2.2.2.2.2.2.2.2.2.2.2.2.2.2.2.2.2.2.2.2.2.2.2.2.2.2.2.2.2.2.2.2.2.2.2.2.2.2.2.2.2.2.2.2.2.2.2.2.2.2.2.2.2.2.2.2.2.2.1 cc p
theorem insF_42 (pc : Nat) (cc : ByteArray) (p : Nat) : insF pc 42 cc p = Except.ok (Instr.aload_n 0, p) := (Classical.choose_spec (ins_bind pc)).2.2.2.2.2.2.2.2.2.2.2.2.2.2.2.2.2.2.2.2.2.2.2.2.2.2.2.2.2.2.2.2.2.2.2.2.2.2.2.2.2.2.2.2.2.2.2.2.2.2.2.2.2.2.2.2.2.2.2.2.2.2.2.1 cc p
theorem insF_43 (pc : Nat) (cc : ByteArray) (p : Nat) : insF pc 43 cc p = Except.ok (Instr.aload_n 1, p) := (Classical.choose_spec (ins_bind pc)).2.2.2.2.2.2.2.2.2.2.2.2.2.2.2.2.2.2.2.2.2.2.2.2.2.2.2.2.2.2.2.2.2.2.2.2.2.2.2.2.2.2.2.2.2.2.2.2.2.2.2.2.2.2.2.2.2.2.2.2.2.2.2.2.1 cc p
theorem insF_44 (pc : Nat) (cc : ByteArray) (p : Nat) : insF pc 44 cc p = Except.ok (Instr.aload_n 2, p) := (Classical.choose_spec (ins_bind pc)).2.2.2.2.2.2.2.2.2.2.2.2.2.2.2.2.2.2.2.2.2.2.2.2.2.2.2.2.2.2.2.2.2.2.2.2.2.2.2.2.2.2.2.2.2.2.2.2.2.2.2.2.2.2.2.2.2.2.2.2.2.2.2.2.2.1 cc p
theorem insF_45 (pc : Nat) (cc : ByteArray) (p : Nat) : insF pc 45 cc p = Except.ok (Instr.aload_n 3, p) := (Classical.choose_spec (ins_bind pc)).2.2.2.2.2.2.2.2.2.2.2.2.2.2.2.2.2.2.2.2.2.2.2.2.2.2.2.2.2.2.2.2.2.2.2.2.2.2.2.2.2.2.2.2.2.2.2.2.2.2.2.2.2.2.2.2.2.2.2.2.2.2.2.2.2.2.1 cc p
theorem insF_59 (pc : Nat) (cc : ByteArray) (p : Nat) : insF pc 59 cc p = Except.ok (Instr.istore_n 0, p) := (Classical.choose_spec (ins_bind pc)).2.2.2.2.2.2.2.2.2.2.2.2.2.2.2.2.2.2.2.2.2.2.2.2.2.2.2.2.2.2.2.2.2.2.2.2.2.2.2.2.2.2.2.2.2.2.2.2.2.2.2.2.2.2.2.2.2.2.2.2.2.2.2.2.2.2.2.1 cc p
theorem insF_60 (pc : Nat) (cc : ByteArray) (p : Nat) : insF pc 60 cc p = Except.ok (Instr.istore_n 1, p) := (Classical.choose_spec (ins_bind pc)).2.2.2.2.2.2.2.2.2.2.2.2.2.2.2.2.2.2.2.2.2.2.2.2.2.2.2.2.2.2.2.2.2.2.2.2.2.2.2.2.2.2.2.2.2.2.2.2.2.2.2.2.2.2.2.2.2.2.2.2.2.2.2.2.2.2.2.2.1 cc p
theorem insF_61 (pc : Nat) (cc : ByteArray) (p : Nat) : insF pc 61 cc p = Except.ok (Instr.istore_n 2, p) := (Classical.choose_spec (ins_bind pc)).2.2.2.2.2.2.2.2.2.2.2.2.2.2.2.2.2.2.2.2.2.2.2.2.2.2.2.2.2.2.2.2.2.2.2.2.2.2.2.2.2.2.2.2.2.2.2.2.2.2.2.2.2.2.2.2.2.2.2.2.2.2.2.2.2.2.2.2.2.1 cc p
theorem insF_62 (pc : Nat) (cc : ByteArray) (p : Nat) : insF pc 62 cc p = Except.ok (Instr.istore_n 3, p) := (Classical.choose_spec (ins_bind pc)).2.2.2.2.2.2.2.2.2.2.2.2.2.2.2.2.2.2.2.2.2.2.2.2.2.2.2.2.2.2.2.2.2.2.2.2.2.2.2.2.2.2.2.2.2.2.2.2.2.2.2.2.2.2.2.2.2.2.2.2.2.2.2.2.2.2.2.2.2.2.1 cc p
theorem insF_63 (pc : Nat) (cc : ByteArray) (p : Nat) : insF pc 63 cc p = Except.ok (Instr.lstore_n 0, p) := (Classical.choose_spec (ins_bind pc)).2.2.2.2.2.2.2.2.2.2.2.2.2.2.2.2.2.2.2.2.2.2.2.2.2.2.2.2.2.2.2.2.2.2.2.2.2.2.2.2.2.2.2.2.2.2.2.2.2.2.2.2.2.2.2.2.2.2.2.2.2.2.2.2.2.2.2.2.2.2.2.1 cc p
theorem insF_64 (pc : Nat) (cc : ByteArray) (p : Nat) : insF pc 64 cc p = Except.ok (Instr.lstore_n 1, p) := (Classical.choose_spec (ins_bind pc)).2.2.2.2.2.2.2.2.2.2.2.2.2.2.2.2.2.2.2.2.2.2.2.2.2.2.2.2.2.2.2.2.2.2.2.2.2.2.2.2.2.2.2.2.2.2.2.2.2.2.2.2.2.2.2.2.2.2.2.2.2.2.2.2.2.2.2.2.2.2.2.2.1 cc p
theorem insF_65 (pc : Nat) (cc : ByteArray) (p : Nat) : insF pc 65 cc p = Except.ok (Instr.lstore_n 2, p) := (Classical.choose_spec (ins_bind pc)).2.2.2.2.2.2.2.2.2.2.2.2.2.2.2.2.2.2.2.2.2.2.2.2.2.2.2.2.2.2.2.2.2.2.2.2.2.2.2.2.2.2.2.2.2.2.2.2.2.2.2.2.2.2.2.2.2.2.2.2.2.2.2.2.2.2.2.2.2.2.2.2.2.1 cc p
theorem insF_66 (pc : Nat) (cc : ByteArray) (p : Nat) : insF pc 66 cc p = Except.ok (Instr.lstore_n 3, p) := (Classical.choose_spec (ins_bind pc)).2.2.2.2.2.2.2.2.2.2.2.2.2.2.2.2.2.2.2.2.2.2.2.2.2.2.2.2.2.2.2.2.2.2.2.2.2.2.2.2.2.2.2.2.2.2.2.2.2.2.2.2.2.2.2.2.2.2.2.2.2.2.2.2.2.2.2.2.2.2.2.2.2.2.1 cc p
theorem insF_75 (pc : Nat) (cc : ByteArray) (p : Nat) : insF pc 75 cc p = Except.ok (Instr.astore_n 0, p) := (Classical.choose_spec (ins_bind pc)).2.2.2.2.2.2.2.2.2.2.2.2.2.2.2.2.2.2.2.2.2.2.2.2.2.2.2.2.2.2.2.2.2.2.2.2.2.2.2.2.2.2.2.2.2.2.2.2.2.2.2.2.2.2.2.2.2.2.2.2.2.2.2.2.2.2.2.2.2.2.2.2.2.2.2.1 cc p
theorem insF_76 (pc : Nat) (cc : ByteArray) (p : Nat) : insF pc 76 cc p = Except.ok (Instr.astore_n 1, p) := (Classical.choose_spec (ins_bind pc)).2.2.2.2.2.2.2.2.2.2.2.2.2.2.2.2.2.2.2.2.2.2.2.2.2.2.2.2.2.2.2.2.2.2.2.2.2.2.2.2.2.2.2.2.2.2.2.2.2.2.2.2.2.2.2.2.2.2.2.2.2.2.2.2.2.2.2.2.2.2.2.2.2.2.2.2.1 cc p
theorem insF_77 (pc : Nat) (cc : ByteArray) (p : Nat) : insF pc 77 cc p = Except.ok (Instr.astore_n 2, p) := (Classical.choose_spec (ins_bind pc)).2.2.2.2.2.2.2.2.2.2.2.2.2.2.2.2.2.2.2.2.2.2.2.2.2.2.2.2.2.2.2.2.2.2.2.2.2.2.2.2.2.2.2.2.2.2.2.2.2.2.2.2.2.2.2.2.2.2.2.2.2.2.2.2.2.2.2.2.2.2.2.2.2.2.2.2.2.1 cc p
theorem insF_78 (pc : Nat) (cc : ByteArray) (p : Nat) : insF pc 78 cc p = Except.ok (Instr.astore_n 3, p) := (Classical.choose_spec (ins_bind pc)).2.2.2.2.2.2.2.2.2.2.2.2.2.2.2.2.2.2.2.2.2.2.2.2.2.2.2.2.2.2.2.2.2.2.2.2.2.2.2.2.2.2.2.2.2.2.2.2.2.2.2.2.2.2.2.2.2.2.2.2.2.2.2.2.2.2.2.2.2.2.2.2.2.2.2.2.2.2.1 cc p
theorem insF_18 (pc : Nat) (cc : ByteArray) (p : Nat) : insF pc 18 cc p = Except.bind ((Reader.u1 : Decoder Nat) cc p) (fun z => Except.ok (Instr.ldc z.1, z.2)) := (Classical.choose_spec (ins_bind pc)).2.2.2.2.2.2.2.2.2.2.2.2.2.2.2.2.2.2.2.2.2.2.2.2.2.2.2.2.2.2.2.2.2.2.2.2.2.2.2.2.2.2.2.2.2.2.2.2.2.2.2.2.2.2.2.2.2.2.2.2.2.2.2.2.2.2.2.2.2.2.2.2.2.2.2.2.2.2.2.1 cc p
theorem insF_21 (pc : Nat) (cc : ByteArray) (p : Nat) : insF pc 21 cc p = Except.bind ((Reader.u1 : Decoder Nat) cc p) (fun z => Except.ok (Instr.iload z.1, z.2)) := (Classical.choose_spec (ins_bind pc)).2.2.2.2.2.2.2.2.2.2.2.2.2.2.2.2.2.2.2.2.2.2.2.2.2.2.2.2.2.2.2.2.2.2.2.2.2.2.2.2.2.2.2.2.2.2.2.2.2.2.2.2.2.2.2.2.2.2.2.2.2.2.2.2.2.2.2.2.2.2.2.2.2.2.2.2.2.2.2.2.1 cc p
theorem insF_22 (pc : Nat) (cc : ByteArray) (p : Nat) : insF pc 22 cc p = Except.bind ((Reader.u1 : Decoder Nat) cc p) (fun z => Except.ok (Instr.lload z.1, z.2)) := (Classical.choose_spec (ins_bind pc)).2.2.2.2.2.2.2.2.2.2.2.2.2.2.2.2.2.2.2.2.2.2.2.2.2.2.2.2.2.2.2.2.2.2.2.2.2.2.2.2.2.2.2.2.2.2.2.2.2.2.2.2.2.2.2.2.2.2.2.2.2.2.2.2.2.2.2.2.2.2.2.2.2.2.2.2.2.2.2.2.2.1 cc p
theorem insF_25 (pc : Nat) (cc : ByteArray) (p : Nat) : insF pc 25 cc p = Except.bind ((Reader.u1 : Decoder Nat) cc p) (fun z => Except.ok (Instr.aload z.1, z.2)) := (Classical.choose_spec (ins_bind pc)).2.2.2.2.2.2.2.2.2.2.2.2.2.2.2.2.2.2.2.2.2.2.2.2.2.2.2.2.2.2.2.2.2.2.2.2.2.2.2.2.2.2.2.2.2.2.2.2.2.2.2.2.2.2.2.2.2.2.2.2.2.2.2.2.2.2.2.2.2.2.2.2.2.2.2.2.2.2.2.2.2.2.1 cc p
theorem insF_54 (pc : Nat) (cc : ByteArray) (p : Nat) : insF pc 54 cc p = Except.bind ((Reader.u1 : Decoder Nat) cc p) (fun z => Except.ok (Instr.istore z.1, z.2)) := (Classical.choose_spec (ins_bind pc)).2.2.2.2.2.2.2.2.2.2.2.2.2.2.2.2.2.2.2.2.2.2.2.2.2.2.2.2.2.2.2.2.2.2.2.2.2.2.2.2.2.2.2.2.2.2.2.2.2.2.2.2.2.2.2.2.2.2.2.2.2.2.2.2.2.2.2.2.2.2.2.2.2.2.2.2.2.2.2.2.2.2.2.1 cc p
theorem insF_55 (pc : Nat) (cc : ByteArray) (p : Nat) : insF pc 55 cc p = Except.bind ((Reader.u1 : Decoder Nat) cc p) (fun z => Except.ok (Instr.lstore z.1, z.2)) := (Classical.choose_spec (ins_bind pc)).2.2.2.2.2.2.2.2.2.2.2.2.2.2.2.2.2.2.2.2.2.2.2.2.2.2.2.2.2.2.2.2.2.2.2.2.2.2.2.2.2.2.2.2.2.2.2.2.2.2.2.2.2.2.2.2.2.2.2.2.2.2.2.2.2.2.2.2.2.2.2.2.2.2.2.2.2.2.2.2.2.2.2.2.1 cc p
theorem insF_58 (pc : Nat) (cc : ByteArray) (p : Nat) : insF pc 58 cc p = Except.bind ((Reader.u1 : Decoder Nat) cc p) (fun z => Except.ok (Instr.astore z.1, z.2)) := (Classical.choose_spec (ins_bind pc)).2.2.2.2.2.2.2.2.2.2.2.2.2.2.2.2.2.2.2.2.2.2.2.2.2.2.2.2.2.2.2.2.2.2.2.2.2.2.2.2.2.2.2.2.2.2.2.2.2.2.2.2.2.2.2.2.2.2.2.2.2.2.2.2.2.2.2.2.2.2.2.2.2.2.2.2.2.2.2.2.2.2.2.2.2.1 cc p
theorem insF_19 (pc : Nat) (cc : ByteArray) (p : Nat) : insF pc 19 cc p = Except.bind ((Reader.u2 : Decoder Nat) cc p) (fun z => Except.ok (Instr.ldc_w z.1, z.2)) := (Classical.choose_spec (ins_bind pc)).2.2.2.2.2.2.2.2.2.2.2.2.2.2.2.2.2.2.2.2.2.2.2.2.2.2.2.2.2.2.2.2.2.2.2.2.2.2.2.2.2.2.2.2.2.2.2.2.2.2.2.2.2.2.2.2.2.2.2.2.2.2.2.2.2.2.2.2.2.2.2.2.2.2.2.2.2.2.2.2.2.2.2.2.2.2.1 cc p
theorem insF_20 (pc : Nat) (cc : ByteArray) (p : Nat) : insF pc 20 cc p = Except.bind ((Reader.u2 : Decoder Nat) cc p) (fun z => Except.ok (Instr.ldc2_w z.1, z.2)) := (Classical.choose_spec (ins_bind pc)).2.2.2.2.2.2.2.2.2.2.2.2.2.2.2.2.2.2.2.2.2.2.2.2.2.2.2.2.2.2.2.2.2.2.2.2.2.2.2.2.2.2.2.2.2.2.2.2.2.2.2.2.2.2.2.2.2.2.2.2.2.2.2.2.2.2.2.2.2.2.2.2.2.2.2.2.2.2.2.2.2.2.2.2.2.2.2.1 cc p
theorem insF_180 (pc : Nat) (cc : ByteArray) (p : Nat) : insF pc 180 cc p = Except.bind ((Reader.u2 : Decoder Nat) cc p) (fun z => Except.ok (Instr.getfield z.1, z.2)) := (Classical.choose_spec (ins_bind pc)).2.2.2.2.2.2.2.2.2.2.2.2.2.2.2.2.2.2.2.2.2.2.2.2.2.2.2.2.2.2.2.2.2.2.2.2.2.2.2.2.2.2.2.2.2.2.2.2.2.2.2.2.2.2.2.2.2.2.2.2.2.2.2.2.2.2.2.2.2.2.2.2.2.2.2.2.2.2.2.2.2.2.2.2.2.2.2.2.1 cc p
theorem insF_181 (pc : Nat) (cc : ByteArray) (p : Nat) : insF pc 181 cc p = Except.bind ((Reader.u2 : Decoder Nat) cc p) (fun z => Except.ok (Instr.putfield z.1, z.2)) := (Classical.choose_spec (ins_bind pc)).2.2.2.2.2.2.2.2.2.2.2.2.2.2.2.2.2.2.2.2.2.2.2.2.2.2.2.2.2.2.2.2.2.2.2.2.2.2.2.2.2.2.2.2.2.2.2.2.2.2.2.2.2.2.2.2.2.2.2.2.2.2.2.2.2.2.2.2.2.2.2.2.2.2.2.2.2.2.2.2.2.2.2.2.2.2.2.2.2.1 cc p
theorem insF_182 (pc : Nat) (cc : ByteArray) (p : Nat) : insF pc 182 cc p = Except.bind ((Reader.u2 : Decoder Nat) cc p) (fun z => Except.ok (Instr.invokevirtual z.1, z.2)) := (Classical.choose_spec (ins_bind pc)).2.2.2.2.2.2.2.2.2.2.2.2.2.2.2.2.2.2.2.2.2.2.2.2.2.2.2.2.2.2.2.2.2.2.2.2.2.2.2.2.2.2.2.2.2.2.2.2.2.2.2.2.2.2.2.2.2.2.2.2.2.2.2.2.2.2.2.2.2.2.2.2.2.2.2.2.2.2.2.2.2.2.2.2.2.2.2.2.2.2.1 cc p
theorem insF_183 (pc : Nat) (cc : ByteArray) (p : Nat) : insF pc 183 cc p = Except.bind ((Reader.u2 : Decoder Nat) cc p) (fun z => Except.ok (Instr.invokespecial z.1, z.2)) := (Classical.choose_spec (ins_bind pc)).2.2.2.2.2.2.2.2.2.2.2.2.2.2.2.2.2.2.2.2.2.2.2.2.2.2.2.2.2.2.2.2.2.2.2.2.2.2.2.2.2.2.2.2.2.2.2.2.2.2.2.2.2.2.2.2.2.2.2.2.2.2.2.2.2.2.2.2.2.2.2.2.2.2.2.2.2.2.2.2.2.2.2.2.2.2.2.2.2.2.2.1 cc p
theorem insF_184 (pc : Nat) (cc : ByteArray) (p : Nat) : insF pc 184 cc p = Except.bind ((Reader.u2 : Decoder Nat) cc p) (fun z => Except.ok (Instr.invokestatic z.1, z.2)) := (Classical.choose_spec (ins_bind pc)).2.2.2.2.2.2.2.2.2.2.2.2.2.2.2.2.2.2.2.2.2.2.2.2.2.2.2.2.2.2.2.2.2.2.2.2.2.2.2.2.2.2.2.2.2.2.2.2.2.2.2.2.2.2.2.2.2.2.2.2.2.2.2.2.2.2.2.2.2.2.2.2.2.2.2.2.2.2.2.2.2.2.2.2.2.2.2.2.2.2.2.2.1 cc p
theorem insF_187 (pc : Nat) (cc : ByteArray) (p : Nat) : insF pc 187 cc p = Except.bind ((Reader.u2 : Decoder Nat) cc p) (fun z => Except.ok (Instr.new z.1, z.2)) := (Classical.choose_spec (ins_bind pc)).2.2.2.2.2.2.2.2.2.2.2.2.2.2.2.2.2.2.2.2.2.2.2.2.2.2.2.2.2.2.2.2.2.2.2.2.2.2.2.2.2.2.2.2.2.2.2.2.2.2.2.2.2.2.2.2.2.2.2.2.2.2.2.2.2.2.2.2.2.2.2.2.2.2.2.2.2.2.2.2.2.2.2.2.2.2.2.2.2.2.2.2.2.1 cc p
theorem insF_189 (pc : Nat) (cc : ByteArray) (p : Nat) : insF pc 189 cc p = Except.bind ((Reader.u2 : Decoder Nat) cc p) (fun z => Except.ok (Instr.anewarray z.1, z.2)) := (Classical.choose_spec (ins_bind pc)).2.2.2.2.2.2.2.2.2.2.2.2.2.2.2.2.2.2.2.2.2.2.2.2.2.2.2.2.2.2.2.2.2.2.2.2.2.2.2.2.2.2.2.2.2.2.2.2.2.2.2.2.2.2.2.2.2.2.2.2.2.2.2.2.2.2.2.2.2.2.2.2.2.2.2.2.2.2.2.2.2.2.2.2.2.2.2.2.2.2.2.2.2.2.1 cc p
theorem insF_17 (pc : Nat) (cc : ByteArray) (p : Nat) : insF pc 17 cc p = Except.bind ((Reader.s2 : Decoder Int) cc p) (fun z => Except.ok (Instr.sipush z.1, z.2)) := (Classical.choose_spec (ins_bind pc)).2.2.2.2.2.2.2.2.2.2.2.2.2.2.2.2.2.2.2.2.2.2.2.2.2.2.2.2.2.2.2.2.2.2.2.2.2.2.2.2.2.2.2.2.2.2.2.2.2.2.2.2.2.2.2.2.2.2.2.2.2.2.2.2.2.2.2.2.2.2.2.2.2.2.2.2.2.2.2.2.2.2.2.2.2.2.2.2.2.2.2.2.2.2.2.1 cc p
theorem insF_167 (pc : Nat) (cc : ByteArray) (p : Nat) : insF pc 167 cc p = Except.bind ((Reader.s2 : Decoder Int) cc p) (fun z => Except.ok (Instr.goto z.1, z.2)) := (Classical.choose_spec (ins_bind pc)).2.2.2.2.2.2.2.2.2.2.2.2.2.2.2.2.2.2.2.2.2.2.2.2.2.2.2.2.2.2.2.2.2.2.2.2.2.2.2.2.2.2.2.2.2.2.2.2.2.2.2.2.2.2.2.2.2.2.2.2.2.2.2.2.2.2.2.2.2.2.2.2.2.2.2.2.2.2.2.2.2.2.2.2.2.2.2.2.2.2.2.2.2.2.2.2.1 cc p
theorem insF_198 (pc : Nat) (cc : ByteArray) (p : Nat) : insF pc 198 cc p = Except.bind ((Reader.s2 : Decoder Int) cc p) (fun z => Except.ok (Instr.ifnull z.1, z.2)) := (Classical.choose_spec (ins_bind pc)).2.2.2.2.2.2.2.2.2.2.2.2.2.2.2.2.2.2.2.2.2.2.2.2.2.2.2.2.2.2.2.2.2.2.2.2.2.2.2.2.2.2.2.2.2.2.2.2.2.2.2.2.2.2.2.2.2.2.2.2.2.2.2.2.2.2.2.2.2.2.2.2.2.2.2.2.2.2.2.2.2.2.2.2.2.2.2.2.2.2.2.2.2.2.2.2.2.1 cc p
theorem insF_199 (pc : Nat) (cc : ByteArray) (p : Nat) : insF pc 199 cc p = Except.bind ((Reader.s2 : Decoder Int) cc p) (fun z => Except.ok (Instr.ifnonnull z.1, z.2)) := (Classical.choose_spec (ins_bind pc)).2.2.2.2.2.2.2.2.2.2.2.2.2.2.2.2.2.2.2.2.2.2.2.2.2.2.2.2.2.2.2.2.2.2.2.2.2.2.2.2.2.2.2.2.2.2.2.2.2.2.2.2.2.2.2.2.2.2.2.2.2.2.2.2.2.2.2.2.2.2.2.2.2.2.2.2.2.2.2.2.2.2.2.2.2.2.2.2.2.2.2.2.2.2.2.2.2.2.1 cc p
theorem insF_153 (pc : Nat) (cc : ByteArray) (p : Nat) : insF pc 153 cc p = Except.bind ((Reader.s2 : Decoder Int) cc p) (fun z => Except.ok (Instr.ifCond .eq z.1, z.2)) := (Classical.choose_spec (ins_bind pc)).2.2.2.2.2.2.2.2.2.2.2.2.2.2.2.2.2.2.2.2.2.2.2.2.2.2.2.2.2.2.2.2.2.2.2.2.2.2.2.2.2.2.2.2.2.2.2.2.2.2.2.2.2.2.2.2.2.2.2.2.2.2.2.2.2.2.2.2.2.2.2.2.2.2.2.2.2.2.2.2.2.2.2.2.2.2.2.2.2.2.2.2.2.2.2.2.2.2.2.1 cc p
theorem insF_159 (pc : Nat) (cc : ByteArray) (p : Nat) : insF pc 159 cc p = Except.bind ((Reader.s2 : Decoder Int) cc p) (fun z => Except.ok (Instr.if_icmp .eq z.1, z.2)) := (Classical.choose_spec (ins_bind pc)).2.2.2.2.2.2.2.2.2.2.2.2.2.2.2.2.2.2.2.2.2.2.2.2.2.2.2.2.2.2.2.2.2.2.2.2.2.2.2.2.2.2.2.2.2.2.2.2.2.2.2.2.2.2.2.2.2.2.2.2.2.2.2.2.2.2.2.2.2.2.2.2.2.2.2.2.2.2.2.2.2.2.2.2.2.2.2.2.2.2.2.2.2.2.2.2.2.2.2.2.1 cc p
theorem insF_154 (pc : Nat) (cc : ByteArray) (p : Nat) : insF pc 154 cc p = Except.bind ((Reader.s2 : Decoder Int) cc p) (fun z => Except.ok (Instr.ifCond .ne z.1, z.2)) := (Classical.choose_spec (ins_bind pc)).2.2.2.2.2.2.2.2.2.2.2.2.2.2.2.2.2.2.2.2.2.2.2.2.2.2.2.2.2.2.2.2.2.2.2.2.2.2.2.2.2.2.2.2.2.2.2.2.2.2.2.2.2.2.2.2.2.2.2.2.2.2.2.2.2.2.2.2.2.2.2.2.2.2.2.2.2.2.2.2.2.2.2.2.2.2.2.2.2.2.2.2.2.2.2.2.2.2.2.2.2.1 cc p
theorem insF_160 (pc : Nat) (cc : ByteArray) (p : Nat) : insF pc 160 cc p = Except.bind ((Reader.s2 : Decoder Int) cc p) (fun z => Except.ok (Instr.if_icmp .ne z.1, z.2)) := (Classical.choose_spec (ins_bind pc)).2.2.2.2.2.2.2.2.2.2.2.2.2.2.2.2.2.2.2.2.2.2.2.2.2.2.2.2.2.2.2.2.2.2.2.2.2.2.2.2.2.2.2.2.2.2.2.2.2.2.2.2.2.2.2.2.2.2.2.2.2.2.2.2.2.2.2.2.2.2.2.2.2.2.2.2.2.2.2.2.2.2.2.2.2.2.2.2.2.2.2.2.2.2.2.2.2.2.2.2.2.2.1 cc p
theorem insF_155 (pc : Nat) (cc : ByteArray) (p : Nat) : insF pc 155 cc p = Except.bind ((Reader.s2 : Decoder Int) cc p) (fun z => Except.ok (Instr.ifCond .lt z.1, z.2)) := (Classical.choose_spec (ins_bind pc)).2.2.2.2.2.2.2.2.2.2.2.2.2.2.2.2.2.2.2.2.2.2.2.2.2.2.2.2.2.2.2.2.2.2.2.2.2.2.2.2.2.2.2.2.2.2.2.2.2.2.2.2.2.2.2.2.2.2.2.2.2.2.2.2.2.2.2.2.2.2.2.2.2.2.2.2.2.2.2.2.2.2.2.2.2.2.2.2.2.2.2.2.2.2.2.2.2.2.2.2.2.2.2.1 cc p
theorem insF_161 (pc : Nat) (cc : ByteArray) (p : Nat) : insF pc 161 cc p = Except.bind ((Reader.s2 : Decoder Int) cc p) (fun z => Except.ok (Instr.if_icmp .lt z.1, z.2)) := (Classical.choose_spec (ins_bind pc)).2.2.2.2.2.2.2.2.2.2.2.2.2.2.2.2.2.2.2.2.2.2.2.2.2.2.2.2.2.2.2.2.2.2.2.2.2.2.2.2.2.2.2.2.2.2.2.2.2.2.2.2.2.2.2.2.2.2.2.2.2.2.2.2.2.2.2.2.2.2.2.2.2.2.2.2.2.2.2.2.2.2.2.2.2.2.2.2.2.2.2.2.2.2.2.2.2.2.2.2.2.2.2.2.1 cc p
theorem insF_156 (pc : Nat) (cc : ByteArray) (p : Nat) : insF pc 156 cc p = Except.bind ((Reader.s2 : Decoder Int) cc p) (fun z => Except.ok (Instr.ifCond .ge z.1, z.2)) := (Classical.choose_spec (ins_bind pc)).2.2.2.2.2.2.2.2.2.2.2.2.2.2.2.2.2.2.2.2.2.2.2.2.2.2.2.2.2.2.2.2.2.2.2.2.2.2.2.2.2.2.2.2.2.2.2.2.2.2.2.2.2.2.2.2.2.2.2.2.2.2.2.2.2.2.2.2.2.2.2.2.2.2.2.2.2.2.2.2.2.2.2.2.2.2.2.2.2.2.2.2.2.2.2.2.2.2.2.2.2.2.2.2.2.1 cc p
theorem insF_162 (pc : Nat) (cc : ByteArray) (p : Nat) : insF pc 162 cc p = Except.bind ((Reader.s2 : Decoder Int) cc p) (fun z => Except.ok (Instr.if_icmp .ge z.1, z.2)) := (Classical.choose_spec (ins_bind pc)).2.2.2.2.2.2.2.2.2.2.2.2.2.2.2.2.2.2.2.2.2.2.2.2.2.2.2.2.2.2.2.2.2.2.2.2.2.2.2.2.2.2.2.2.2.2.2.2.2.2.2.2.2.2.2.2.2.2.2.2.2.2.2.2.2.2.2.2.2.2.2.2.2.2.2.2.2.2.2.2.2.2.2.2.2.2.2.2.2.2.2.2.2.2.2.2.2.2.2.2.2.2.2.2.2.2.1 cc p
theorem insF_157 (pc : Nat) (cc : ByteArray) (p : Nat) : insF pc 157 cc p = Except.bind ((Reader.s2 : Decoder Int) cc p) (fun z => Except.ok (Instr.ifCond .gt z.1, z.2)) := (Classical.choose_spec (ins_bind pc)).2.2.2.2.2.2.2.2.2.2.2.2.2.2.2.2.2.2.2.2.2.2.2.2.2.2.2.2.2.2.2.2.2.2.2.2.2.2.2.2.2.2.2.2.2.2.2.2.2.2.2.2.2.2.2.2.2.2.2.2.2.2.2.2.2.2.2.2.2.2.2.2.2.2.2.2.2.2.2.2.2.2.2.2.2.2.2.2.2.2.2.2.2.2.2.2.2.2.2.2.2.2.2.2.2.2.2.1 cc p
theorem insF_163 (pc : Nat) (cc : ByteArray) (p : Nat) : insF pc 163 cc p = Except.bind ((Reader.s2 : Decoder Int) cc p) (fun z => Except.ok (Instr.if_icmp .gt z.1, z.2)) := (Classical.choose_spec (ins_bind pc)).2.2.2.2.2.2.2.2.2.2.2.2.2.2.2.2.2.2.2.2.2.2.2.2.2.2.2.2.2.2.2.2.2.2.2.2.2.2.2.2.2.2.2.2.2.2.2.2.2.2.2.2.2.2.2.2.2.2.2.2.2.2.2.2.2.2.2.2.2.2.2.2.2.2.2.2.2.2.2.2.2.2.2.2.2.2.2.2.2.2.2.2.2.2.2.2.2.2.2.2.2.2.2.2.2.2.2.2.1 cc p
theorem insF_158 (pc : Nat) (cc : ByteArray) (p : Nat) : insF pc 158 cc p = Except.bind ((Reader.s2 : Decoder Int) cc p) (fun z => Except.ok (Instr.ifCond .le z.1, z.2)) := (Classical.choose_spec (ins_bind pc)).2.2.2.2.2.2.2.2.2.2.2.2.2.2.2.2.2.2.2.2.2.2.2.2.2.2.2.2.2.2.2.2.2.2.2.2.2.2.2.2.2.2.2.2.2.2.2.2.2.2.2.2.2.2.2.2.2.2.2.2.2.2.2.2.2.2.2.2.2.2.2.2.2.2.2.2.2.2.2.2.2.2.2.2.2.2.2.2.2.2.2.2.2.2.2.2.2.2.2.2.2.2.2.2.2.2.2.2.2.1 cc p
theorem insF_164 (pc : Nat) (cc : ByteArray) (p : Nat) : insF pc 164 cc p = Except.bind ((Reader.s2 : Decoder Int) cc p) (fun z => Except.ok (Instr.if_icmp .le z.1, z.2)) := (Classical.choose_spec (ins_bind pc)).2.2.2.2.2.2.2.2.2.2.2.2.2.2.2.2.2.2.2.2.2.2.2.2.2.2.2.2.2.2.2.2.2.2.2.2.2.2.2.2.2.2.2.2.2.2.2.2.2.2.2.2.2.2.2.2.2.2.2.2.2.2.2.2.2.2.2.2.2.2.2.2.2.2.2.2.2.2.2.2.2.2.2.2.2.2.2.2.2.2.2.2.2.2.2.2.2.2.2.2.2.2.2.2.2.2.2.2.2.2.1 cc p
theorem insF_16 (pc : Nat) (cc : ByteArray) (p : Nat) : insF pc 16 cc p = Except.bind ((Reader.s1 : Decoder Int) cc p) (fun z => Except.ok (Instr.bipush z.1, z.2)) := (Classical.choose_spec (ins_bind pc)).2.2.2.2.2.2.2.2.2.2.2.2.2.2.2.2.2.2.2.2.2.2.2.2.2.2.2.2.2.2.2.2.2.2.2.2.2.2.2.2.2.2.2.2.2.2.2.2.2.2.2.2.2.2.2.2.2.2.2.2.2.2.2.2.2.2.2.2.2.2.2.2.2.2.2.2.2.2.2.2.2.2.2.2.2.2.2.2.2.2.2.2.2.2.2.2.2.2.2.2.2.2.2.2.2.2.2.2.2.2.2 cc p
theorem u1_at {cc : ByteArray} {p : Nat} {b : UInt8} (h : cc.data.toList[p]? = some b) : (Reader.u1 : Decoder Nat) cc p = .ok (b.toNat, p + 1) := by
  have h1 : p < cc.data.toList.length := (List.getElem?_eq_some_iff.mp h).1
  have h2 : p < cc.size := by
    show p < cc.data.size
    rw [← Array.length_toList]
    exact h1
  have h3 : cc[p] = b := by
    have := (List.getElem?_eq_some_iff.mp h).2
    rw [← this]
    rfl
  show (if h : p < cc.size then _ else _ : Decoder Nat) cc p = _
  rw [dif_pos h2]
  show Except.ok (cc[p].toNat, p + 1) = _
  rw [h3]
theorem drop_at {cc : ByteArray} {p : Nat} {b : UInt8} {r : List UInt8} (h : cc.data.toList.drop p = b :: r) : cc.data.toList[p]? = some b ∧ cc.data.toList.drop (p + 1) = r := by
  refine ⟨?_, ?_⟩
  · have h5 : (cc.data.toList.drop p)[0]? = some b := by rw [h]; rfl
    simpa using h5
  · rw [← List.drop_drop (i := 1) (j := p), h]; rfl
theorem dec_step {cc : ByteArray} {pc n : Nat} {b : UInt8} {bs : List UInt8} {i : Instr} (hd : cc.data.toList.drop pc = b :: bs) (hF : insF pc b.toNat cc (pc + 1) = .ok (i, pc + n)) : decode cc pc = .ok (i, n) := by
  have h1 := insF_eq pc cc pc
  rw [u1_at (drop_at hd).1] at h1
  have h2 : Decoder.instr pc cc pc = .ok (i, pc + n) := h1.trans hF
  show Except.bind (Decoder.instr pc cc pc) _ = _
  rw [h2]
  show Except.ok (i, pc + n - pc) = _
  rw [Nat.add_sub_cancel_left]
theorem u2_at {cc : ByteArray} {p : Nat} {b c : UInt8} {r : List UInt8} (h : cc.data.toList.drop p = b :: c :: r) : (Reader.u2 : Decoder Nat) cc p = .ok (b.toNat * 256 + c.toNat, p + 2) := by
  have h1 := drop_at h
  have h2 := drop_at h1.2
  show Except.bind ((Reader.u1 : Decoder Nat) cc p) _ = _
  rw [u1_at h1.1]
  show Except.bind ((Reader.u1 : Decoder Nat) cc (p + 1)) _ = _
  rw [u1_at h2.1]
  rfl
theorem s2_at {cc : ByteArray} {p : Nat} {b c : UInt8} {r : List UInt8} (h : cc.data.toList.drop p = b :: c :: r) : (Reader.s2 : Decoder Int) cc p = .ok (Reader.signed 16 (b.toNat * 256 + c.toNat), p + 2) := by
  show Except.map _ ((Reader.u2 : Decoder Nat) cc p) = _
  rw [u2_at h]
  rfl
theorem s1_at {cc : ByteArray} {p : Nat} {b : UInt8} {r : List UInt8} (h : cc.data.toList.drop p = b :: r) : (Reader.s1 : Decoder Int) cc p = .ok (Reader.signed 8 b.toNat, p + 1) := by
  show Except.map _ ((Reader.u1 : Decoder Nat) cc p) = _
  rw [u1_at (drop_at h).1]
  rfl
theorem dec_c {cc : ByteArray} {pc op : Nat} {b : UInt8} {bs : List UInt8} {i : Instr} (hd : cc.data.toList.drop pc = b :: bs) (hb : b.toNat = op) (hF : ∀ (cc : ByteArray) (p : Nat), insF pc op cc p = .ok (i, p)) : decode cc pc = .ok (i, 1) :=
  dec_step hd (by rw [hb]; exact hF _ _)
theorem dec_u1 {cc : ByteArray} {pc op : Nat} {b c : UInt8} {bs : List UInt8} {g : Nat → Instr} (hd : cc.data.toList.drop pc = b :: c :: bs) (hb : b.toNat = op) (hF : ∀ (cc : ByteArray) (p : Nat), insF pc op cc p = Except.bind ((Reader.u1 : Decoder Nat) cc p) (fun z => Except.ok (g z.1, z.2))) : decode cc pc = .ok (g c.toNat, 2) :=
  dec_step hd (by rw [hb, hF, u1_at (drop_at (drop_at hd).2).1]; rfl)
theorem dec_u2 {cc : ByteArray} {pc op : Nat} {b c d : UInt8} {bs : List UInt8} {g : Nat → Instr} (hd : cc.data.toList.drop pc = b :: c :: d :: bs) (hb : b.toNat = op) (hF : ∀ (cc : ByteArray) (p : Nat), insF pc op cc p = Except.bind ((Reader.u2 : Decoder Nat) cc p) (fun z => Except.ok (g z.1, z.2))) : decode cc pc = .ok (g (c.toNat * 256 + d.toNat), 3) :=
  dec_step hd (by rw [hb, hF, u2_at (drop_at hd).2]; rfl)
theorem dec_s2 {cc : ByteArray} {pc op : Nat} {b c d : UInt8} {bs : List UInt8} {g : Int → Instr} (hd : cc.data.toList.drop pc = b :: c :: d :: bs) (hb : b.toNat = op) (hF : ∀ (cc : ByteArray) (p : Nat), insF pc op cc p = Except.bind ((Reader.s2 : Decoder Int) cc p) (fun z => Except.ok (g z.1, z.2))) : decode cc pc = .ok (g (Reader.signed 16 (c.toNat * 256 + d.toNat)), 3) :=
  dec_step hd (by rw [hb, hF, s2_at (drop_at hd).2]; rfl)
theorem dec_s1 {cc : ByteArray} {pc op : Nat} {b c : UInt8} {bs : List UInt8} {g : Int → Instr} (hd : cc.data.toList.drop pc = b :: c :: bs) (hb : b.toNat = op) (hF : ∀ (cc : ByteArray) (p : Nat), insF pc op cc p = Except.bind ((Reader.s1 : Decoder Int) cc p) (fun z => Except.ok (g z.1, z.2))) : decode cc pc = .ok (g (Reader.signed 8 c.toNat), 2) :=
  dec_step hd (by rw [hb, hF, s1_at (drop_at hd).2]; rfl)
/-- an instruction against the bytes; false also where it isn't told of -/
def eqb (n : Nat) (b : UInt8) : Bool := b.toNat == n
def okB (i : Instr) (bs : List UInt8) : Bool := match i with
  | .aconst_null => match bs with
    | b :: _ => eqb 1 b
    | _ => false
  | .iaload => match bs with
    | b :: _ => eqb 46 b
    | _ => false
  | .laload => match bs with
    | b :: _ => eqb 47 b
    | _ => false
  | .aaload => match bs with
    | b :: _ => eqb 50 b
    | _ => false
  | .baload => match bs with
    | b :: _ => eqb 51 b
    | _ => false
  | .iastore => match bs with
    | b :: _ => eqb 79 b
    | _ => false
  | .lastore => match bs with
    | b :: _ => eqb 80 b
    | _ => false
  | .aastore => match bs with
    | b :: _ => eqb 83 b
    | _ => false
  | .bastore => match bs with
    | b :: _ => eqb 84 b
    | _ => false
  | .pop => match bs with
    | b :: _ => eqb 87 b
    | _ => false
  | .dup => match bs with
    | b :: _ => eqb 89 b
    | _ => false
  | .dup2 => match bs with
    | b :: _ => eqb 92 b
    | _ => false
  | .iadd => match bs with
    | b :: _ => eqb 96 b
    | _ => false
  | .ladd => match bs with
    | b :: _ => eqb 97 b
    | _ => false
  | .isub => match bs with
    | b :: _ => eqb 100 b
    | _ => false
  | .lsub => match bs with
    | b :: _ => eqb 101 b
    | _ => false
  | .imul => match bs with
    | b :: _ => eqb 104 b
    | _ => false
  | .lmul => match bs with
    | b :: _ => eqb 105 b
    | _ => false
  | .idiv => match bs with
    | b :: _ => eqb 108 b
    | _ => false
  | .ldiv => match bs with
    | b :: _ => eqb 109 b
    | _ => false
  | .irem => match bs with
    | b :: _ => eqb 112 b
    | _ => false
  | .lrem => match bs with
    | b :: _ => eqb 113 b
    | _ => false
  | .ineg => match bs with
    | b :: _ => eqb 116 b
    | _ => false
  | .ishl => match bs with
    | b :: _ => eqb 120 b
    | _ => false
  | .lshl => match bs with
    | b :: _ => eqb 121 b
    | _ => false
  | .ishr => match bs with
    | b :: _ => eqb 122 b
    | _ => false
  | .lshr => match bs with
    | b :: _ => eqb 123 b
    | _ => false
  | .iushr => match bs with
    | b :: _ => eqb 124 b
    | _ => false
  | .lushr => match bs with
    | b :: _ => eqb 125 b
    | _ => false
  | .iand => match bs with
    | b :: _ => eqb 126 b
    | _ => false
  | .land => match bs with
    | b :: _ => eqb 127 b
    | _ => false
  | .ior => match bs with
    | b :: _ => eqb 128 b
    | _ => false
  | .lor => match bs with
    | b :: _ => eqb 129 b
    | _ => false
  | .ixor => match bs with
    | b :: _ => eqb 130 b
    | _ => false
  | .lxor => match bs with
    | b :: _ => eqb 131 b
    | _ => false
  | .i2l => match bs with
    | b :: _ => eqb 133 b
    | _ => false
  | .l2i => match bs with
    | b :: _ => eqb 136 b
    | _ => false
  | .i2b => match bs with
    | b :: _ => eqb 145 b
    | _ => false
  | .i2c => match bs with
    | b :: _ => eqb 146 b
    | _ => false
  | .lcmp => match bs with
    | b :: _ => eqb 148 b
    | _ => false
  | .ireturn => match bs with
    | b :: _ => eqb 172 b
    | _ => false
  | .lreturn => match bs with
    | b :: _ => eqb 173 b
    | _ => false
  | .areturn => match bs with
    | b :: _ => eqb 176 b
    | _ => false
  | .return_ => match bs with
    | b :: _ => eqb 177 b
    | _ => false
  | .arraylength => match bs with
    | b :: _ => eqb 190 b
    | _ => false
  | .lconst n => match bs with
    | b :: _ => eqb (9 + n.val) b
    | _ => false
  | .iconst n => match bs with
    | b :: _ => decide (-1 ≤ n) && decide (n ≤ 5) && decide ((b.toNat : Int) = 3 + n)
    | _ => false
  | .iload_n n => match bs with
    | b :: _ => eqb (26 + n.val) b
    | _ => false
  | .lload_n n => match bs with
    | b :: _ => eqb (30 + n.val) b
    | _ => false
  | .aload_n n => match bs with
    | b :: _ => eqb (42 + n.val) b
    | _ => false
  | .istore_n n => match bs with
    | b :: _ => eqb (59 + n.val) b
    | _ => false
  | .lstore_n n => match bs with
    | b :: _ => eqb (63 + n.val) b
    | _ => false
  | .astore_n n => match bs with
    | b :: _ => eqb (75 + n.val) b
    | _ => false
  | .ldc n => match bs with
    | b :: c :: _ => eqb 18 b && eqb n c
    | _ => false
  | .iload n => match bs with
    | b :: c :: _ => eqb 21 b && eqb n c
    | _ => false
  | .lload n => match bs with
    | b :: c :: _ => eqb 22 b && eqb n c
    | _ => false
  | .aload n => match bs with
    | b :: c :: _ => eqb 25 b && eqb n c
    | _ => false
  | .istore n => match bs with
    | b :: c :: _ => eqb 54 b && eqb n c
    | _ => false
  | .lstore n => match bs with
    | b :: c :: _ => eqb 55 b && eqb n c
    | _ => false
  | .astore n => match bs with
    | b :: c :: _ => eqb 58 b && eqb n c
    | _ => false
  | .ldc_w n => match bs with
    | b :: c :: d :: _ => eqb 19 b && decide (c.toNat * 256 + d.toNat = n)
    | _ => false
  | .ldc2_w n => match bs with
    | b :: c :: d :: _ => eqb 20 b && decide (c.toNat * 256 + d.toNat = n)
    | _ => false
  | .getfield n => match bs with
    | b :: c :: d :: _ => eqb 180 b && decide (c.toNat * 256 + d.toNat = n)
    | _ => false
  | .putfield n => match bs with
    | b :: c :: d :: _ => eqb 181 b && decide (c.toNat * 256 + d.toNat = n)
    | _ => false
  | .invokevirtual n => match bs with
    | b :: c :: d :: _ => eqb 182 b && decide (c.toNat * 256 + d.toNat = n)
    | _ => false
  | .invokespecial n => match bs with
    | b :: c :: d :: _ => eqb 183 b && decide (c.toNat * 256 + d.toNat = n)
    | _ => false
  | .invokestatic n => match bs with
    | b :: c :: d :: _ => eqb 184 b && decide (c.toNat * 256 + d.toNat = n)
    | _ => false
  | .new n => match bs with
    | b :: c :: d :: _ => eqb 187 b && decide (c.toNat * 256 + d.toNat = n)
    | _ => false
  | .anewarray n => match bs with
    | b :: c :: d :: _ => eqb 189 b && decide (c.toNat * 256 + d.toNat = n)
    | _ => false
  | .sipush n => match bs with
    | b :: c :: d :: _ => eqb 17 b && decide (Reader.signed 16 (c.toNat * 256 + d.toNat) = n)
    | _ => false
  | .goto n => match bs with
    | b :: c :: d :: _ => eqb 167 b && decide (Reader.signed 16 (c.toNat * 256 + d.toNat) = n)
    | _ => false
  | .ifnull n => match bs with
    | b :: c :: d :: _ => eqb 198 b && decide (Reader.signed 16 (c.toNat * 256 + d.toNat) = n)
    | _ => false
  | .ifnonnull n => match bs with
    | b :: c :: d :: _ => eqb 199 b && decide (Reader.signed 16 (c.toNat * 256 + d.toNat) = n)
    | _ => false
  | .bipush n => match bs with
    | b :: c :: _ => eqb 16 b && decide (Reader.signed 8 c.toNat = n)
    | _ => false
  | .ifCond .eq n => match bs with
    | b :: c :: d :: _ => eqb 153 b && decide (Reader.signed 16 (c.toNat * 256 + d.toNat) = n)
    | _ => false
  | .ifCond .ne n => match bs with
    | b :: c :: d :: _ => eqb 154 b && decide (Reader.signed 16 (c.toNat * 256 + d.toNat) = n)
    | _ => false
  | .ifCond .lt n => match bs with
    | b :: c :: d :: _ => eqb 155 b && decide (Reader.signed 16 (c.toNat * 256 + d.toNat) = n)
    | _ => false
  | .ifCond .ge n => match bs with
    | b :: c :: d :: _ => eqb 156 b && decide (Reader.signed 16 (c.toNat * 256 + d.toNat) = n)
    | _ => false
  | .ifCond .gt n => match bs with
    | b :: c :: d :: _ => eqb 157 b && decide (Reader.signed 16 (c.toNat * 256 + d.toNat) = n)
    | _ => false
  | .ifCond .le n => match bs with
    | b :: c :: d :: _ => eqb 158 b && decide (Reader.signed 16 (c.toNat * 256 + d.toNat) = n)
    | _ => false
  | .if_icmp .eq n => match bs with
    | b :: c :: d :: _ => eqb 159 b && decide (Reader.signed 16 (c.toNat * 256 + d.toNat) = n)
    | _ => false
  | .if_icmp .ne n => match bs with
    | b :: c :: d :: _ => eqb 160 b && decide (Reader.signed 16 (c.toNat * 256 + d.toNat) = n)
    | _ => false
  | .if_icmp .lt n => match bs with
    | b :: c :: d :: _ => eqb 161 b && decide (Reader.signed 16 (c.toNat * 256 + d.toNat) = n)
    | _ => false
  | .if_icmp .ge n => match bs with
    | b :: c :: d :: _ => eqb 162 b && decide (Reader.signed 16 (c.toNat * 256 + d.toNat) = n)
    | _ => false
  | .if_icmp .gt n => match bs with
    | b :: c :: d :: _ => eqb 163 b && decide (Reader.signed 16 (c.toNat * 256 + d.toNat) = n)
    | _ => false
  | .if_icmp .le n => match bs with
    | b :: c :: d :: _ => eqb 164 b && decide (Reader.signed 16 (c.toNat * 256 + d.toNat) = n)
    | _ => false
  | _ => false
def lenB (i : Instr) : Nat := match i with
  | .ldc _ => 2
  | .iload _ => 2
  | .lload _ => 2
  | .aload _ => 2
  | .istore _ => 2
  | .lstore _ => 2
  | .astore _ => 2
  | .ldc_w _ => 3
  | .ldc2_w _ => 3
  | .getfield _ => 3
  | .putfield _ => 3
  | .invokevirtual _ => 3
  | .invokespecial _ => 3
  | .invokestatic _ => 3
  | .new _ => 3
  | .anewarray _ => 3
  | .sipush _ => 3
  | .goto _ => 3
  | .ifnull _ => 3
  | .ifnonnull _ => 3
  | .bipush _ => 2
  | .ifCond _ _ => 3
  | .if_icmp _ _ => 3
  | _ => 1
theorem eqb_eq {n : Nat} {b : UInt8} (h : eqb n b = true) : b.toNat = n := by simpa [eqb] using h
theorem okB_dec {cc : ByteArray} {pc : Nat} {bs : List UInt8} {i : Instr} (hd : cc.data.toList.drop pc = bs) (h : okB i bs = true) : decode cc pc = .ok (i, lenB i) := by
  subst hd
  cases i
  case aconst_null =>
    simp only [okB] at h
    split at h
    · rename_i b r e
      exact dec_c e (eqb_eq h) (insF_1 pc)
    · cases h
  case iaload =>
    simp only [okB] at h
    split at h
    · rename_i b r e
      exact dec_c e (eqb_eq h) (insF_46 pc)
    · cases h
  case laload =>
    simp only [okB] at h
    split at h
    · rename_i b r e
      exact dec_c e (eqb_eq h) (insF_47 pc)
    · cases h
  case aaload =>
    simp only [okB] at h
    split at h
    · rename_i b r e
      exact dec_c e (eqb_eq h) (insF_50 pc)
    · cases h
  case baload =>
    simp only [okB] at h
    split at h
    · rename_i b r e
      exact dec_c e (eqb_eq h) (insF_51 pc)
    · cases h
  case iastore =>
    simp only [okB] at h
    split at h
    · rename_i b r e
      exact dec_c e (eqb_eq h) (insF_79 pc)
    · cases h
  case lastore =>
    simp only [okB] at h
    split at h
    · rename_i b r e
      exact dec_c e (eqb_eq h) (insF_80 pc)
    · cases h
  case aastore =>
    simp only [okB] at h
    split at h
    · rename_i b r e
      exact dec_c e (eqb_eq h) (insF_83 pc)
    · cases h
  case bastore =>
    simp only [okB] at h
    split at h
    · rename_i b r e
      exact dec_c e (eqb_eq h) (insF_84 pc)
    · cases h
  case pop =>
    simp only [okB] at h
    split at h
    · rename_i b r e
      exact dec_c e (eqb_eq h) (insF_87 pc)
    · cases h
  case dup =>
    simp only [okB] at h
    split at h
    · rename_i b r e
      exact dec_c e (eqb_eq h) (insF_89 pc)
    · cases h
  case dup2 =>
    simp only [okB] at h
    split at h
    · rename_i b r e
      exact dec_c e (eqb_eq h) (insF_92 pc)
    · cases h
  case iadd =>
    simp only [okB] at h
    split at h
    · rename_i b r e
      exact dec_c e (eqb_eq h) (insF_96 pc)
    · cases h
  case ladd =>
    simp only [okB] at h
    split at h
    · rename_i b r e
      exact dec_c e (eqb_eq h) (insF_97 pc)
    · cases h
  case isub =>
    simp only [okB] at h
    split at h
    · rename_i b r e
      exact dec_c e (eqb_eq h) (insF_100 pc)
    · cases h
  case lsub =>
    simp only [okB] at h
    split at h
    · rename_i b r e
      exact dec_c e (eqb_eq h) (insF_101 pc)
    · cases h
  case imul =>
    simp only [okB] at h
    split at h
    · rename_i b r e
      exact dec_c e (eqb_eq h) (insF_104 pc)
    · cases h
  case lmul =>
    simp only [okB] at h
    split at h
    · rename_i b r e
      exact dec_c e (eqb_eq h) (insF_105 pc)
    · cases h
  case idiv =>
    simp only [okB] at h
    split at h
    · rename_i b r e
      exact dec_c e (eqb_eq h) (insF_108 pc)
    · cases h
  case ldiv =>
    simp only [okB] at h
    split at h
    · rename_i b r e
      exact dec_c e (eqb_eq h) (insF_109 pc)
    · cases h
  case irem =>
    simp only [okB] at h
    split at h
    · rename_i b r e
      exact dec_c e (eqb_eq h) (insF_112 pc)
    · cases h
  case lrem =>
    simp only [okB] at h
    split at h
    · rename_i b r e
      exact dec_c e (eqb_eq h) (insF_113 pc)
    · cases h
  case ineg =>
    simp only [okB] at h
    split at h
    · rename_i b r e
      exact dec_c e (eqb_eq h) (insF_116 pc)
    · cases h
  case ishl =>
    simp only [okB] at h
    split at h
    · rename_i b r e
      exact dec_c e (eqb_eq h) (insF_120 pc)
    · cases h
  case lshl =>
    simp only [okB] at h
    split at h
    · rename_i b r e
      exact dec_c e (eqb_eq h) (insF_121 pc)
    · cases h
  case ishr =>
    simp only [okB] at h
    split at h
    · rename_i b r e
      exact dec_c e (eqb_eq h) (insF_122 pc)
    · cases h
  case lshr =>
    simp only [okB] at h
    split at h
    · rename_i b r e
      exact dec_c e (eqb_eq h) (insF_123 pc)
    · cases h
  case iushr =>
    simp only [okB] at h
    split at h
    · rename_i b r e
      exact dec_c e (eqb_eq h) (insF_124 pc)
    · cases h
  case lushr =>
    simp only [okB] at h
    split at h
    · rename_i b r e
      exact dec_c e (eqb_eq h) (insF_125 pc)
    · cases h
  case iand =>
    simp only [okB] at h
    split at h
    · rename_i b r e
      exact dec_c e (eqb_eq h) (insF_126 pc)
    · cases h
  case land =>
    simp only [okB] at h
    split at h
    · rename_i b r e
      exact dec_c e (eqb_eq h) (insF_127 pc)
    · cases h
  case ior =>
    simp only [okB] at h
    split at h
    · rename_i b r e
      exact dec_c e (eqb_eq h) (insF_128 pc)
    · cases h
  case lor =>
    simp only [okB] at h
    split at h
    · rename_i b r e
      exact dec_c e (eqb_eq h) (insF_129 pc)
    · cases h
  case ixor =>
    simp only [okB] at h
    split at h
    · rename_i b r e
      exact dec_c e (eqb_eq h) (insF_130 pc)
    · cases h
  case lxor =>
    simp only [okB] at h
    split at h
    · rename_i b r e
      exact dec_c e (eqb_eq h) (insF_131 pc)
    · cases h
  case i2l =>
    simp only [okB] at h
    split at h
    · rename_i b r e
      exact dec_c e (eqb_eq h) (insF_133 pc)
    · cases h
  case l2i =>
    simp only [okB] at h
    split at h
    · rename_i b r e
      exact dec_c e (eqb_eq h) (insF_136 pc)
    · cases h
  case i2b =>
    simp only [okB] at h
    split at h
    · rename_i b r e
      exact dec_c e (eqb_eq h) (insF_145 pc)
    · cases h
  case i2c =>
    simp only [okB] at h
    split at h
    · rename_i b r e
      exact dec_c e (eqb_eq h) (insF_146 pc)
    · cases h
  case lcmp =>
    simp only [okB] at h
    split at h
    · rename_i b r e
      exact dec_c e (eqb_eq h) (insF_148 pc)
    · cases h
  case ireturn =>
    simp only [okB] at h
    split at h
    · rename_i b r e
      exact dec_c e (eqb_eq h) (insF_172 pc)
    · cases h
  case lreturn =>
    simp only [okB] at h
    split at h
    · rename_i b r e
      exact dec_c e (eqb_eq h) (insF_173 pc)
    · cases h
  case areturn =>
    simp only [okB] at h
    split at h
    · rename_i b r e
      exact dec_c e (eqb_eq h) (insF_176 pc)
    · cases h
  case return_ =>
    simp only [okB] at h
    split at h
    · rename_i b r e
      exact dec_c e (eqb_eq h) (insF_177 pc)
    · cases h
  case arraylength =>
    simp only [okB] at h
    split at h
    · rename_i b r e
      exact dec_c e (eqb_eq h) (insF_190 pc)
    · cases h
  case lconst n =>
    simp only [okB] at h
    split at h
    · rename_i b r e
      match n, h with
      | 0, h => exact dec_c e (eqb_eq h) (insF_9 pc)
      | 1, h => exact dec_c e (eqb_eq h) (insF_10 pc)
    · cases h
  case iconst n =>
    simp only [okB] at h
    split at h
    · rename_i b r e
      simp only [Bool.and_eq_true, decide_eq_true_eq] at h
      obtain ⟨⟨h1, h2⟩, h3⟩ := h
      by_cases q0 : n = -1
      · subst q0; exact dec_c e (by omega) (insF_2 pc)
      by_cases q1 : n = 0
      · subst q1; exact dec_c e (by omega) (insF_3 pc)
      by_cases q2 : n = 1
      · subst q2; exact dec_c e (by omega) (insF_4 pc)
      by_cases q3 : n = 2
      · subst q3; exact dec_c e (by omega) (insF_5 pc)
      by_cases q4 : n = 3
      · subst q4; exact dec_c e (by omega) (insF_6 pc)
      by_cases q5 : n = 4
      · subst q5; exact dec_c e (by omega) (insF_7 pc)
      by_cases q6 : n = 5
      · subst q6; exact dec_c e (by omega) (insF_8 pc)
      omega
    · cases h
  case iload_n n =>
    simp only [okB] at h
    split at h
    · rename_i b r e
      match n, h with
      | 0, h => exact dec_c e (eqb_eq h) (insF_26 pc)
      | 1, h => exact dec_c e (eqb_eq h) (insF_27 pc)
      | 2, h => exact dec_c e (eqb_eq h) (insF_28 pc)
      | 3, h => exact dec_c e (eqb_eq h) (insF_29 pc)
    · cases h
  case lload_n n =>
    simp only [okB] at h
    split at h
    · rename_i b r e
      match n, h with
      | 0, h => exact dec_c e (eqb_eq h) (insF_30 pc)
      | 1, h => exact dec_c e (eqb_eq h) (insF_31 pc)
      | 2, h => exact dec_c e (eqb_eq h) (insF_32 pc)
      | 3, h => exact dec_c e (eqb_eq h) (insF_33 pc)
    · cases h
  case aload_n n =>
    simp only [okB] at h
    split at h
    · rename_i b r e
      match n, h with
      | 0, h => exact dec_c e (eqb_eq h) (insF_42 pc)
      | 1, h => exact dec_c e (eqb_eq h) (insF_43 pc)
      | 2, h => exact dec_c e (eqb_eq h) (insF_44 pc)
      | 3, h => exact dec_c e (eqb_eq h) (insF_45 pc)
    · cases h
  case istore_n n =>
    simp only [okB] at h
    split at h
    · rename_i b r e
      match n, h with
      | 0, h => exact dec_c e (eqb_eq h) (insF_59 pc)
      | 1, h => exact dec_c e (eqb_eq h) (insF_60 pc)
      | 2, h => exact dec_c e (eqb_eq h) (insF_61 pc)
      | 3, h => exact dec_c e (eqb_eq h) (insF_62 pc)
    · cases h
  case lstore_n n =>
    simp only [okB] at h
    split at h
    · rename_i b r e
      match n, h with
      | 0, h => exact dec_c e (eqb_eq h) (insF_63 pc)
      | 1, h => exact dec_c e (eqb_eq h) (insF_64 pc)
      | 2, h => exact dec_c e (eqb_eq h) (insF_65 pc)
      | 3, h => exact dec_c e (eqb_eq h) (insF_66 pc)
    · cases h
  case astore_n n =>
    simp only [okB] at h
    split at h
    · rename_i b r e
      match n, h with
      | 0, h => exact dec_c e (eqb_eq h) (insF_75 pc)
      | 1, h => exact dec_c e (eqb_eq h) (insF_76 pc)
      | 2, h => exact dec_c e (eqb_eq h) (insF_77 pc)
      | 3, h => exact dec_c e (eqb_eq h) (insF_78 pc)
    · cases h
  case ldc n =>
    simp only [okB] at h
    split at h
    · rename_i b c r e
      simp only [Bool.and_eq_true] at h
      rw [← eqb_eq h.2]
      exact dec_u1 e (eqb_eq h.1) (insF_18 pc)
    · cases h
  case iload n =>
    simp only [okB] at h
    split at h
    · rename_i b c r e
      simp only [Bool.and_eq_true] at h
      rw [← eqb_eq h.2]
      exact dec_u1 e (eqb_eq h.1) (insF_21 pc)
    · cases h
  case lload n =>
    simp only [okB] at h
    split at h
    · rename_i b c r e
      simp only [Bool.and_eq_true] at h
      rw [← eqb_eq h.2]
      exact dec_u1 e (eqb_eq h.1) (insF_22 pc)
    · cases h
  case aload n =>
    simp only [okB] at h
    split at h
    · rename_i b c r e
      simp only [Bool.and_eq_true] at h
      rw [← eqb_eq h.2]
      exact dec_u1 e (eqb_eq h.1) (insF_25 pc)
    · cases h
  case istore n =>
    simp only [okB] at h
    split at h
    · rename_i b c r e
      simp only [Bool.and_eq_true] at h
      rw [← eqb_eq h.2]
      exact dec_u1 e (eqb_eq h.1) (insF_54 pc)
    · cases h
  case lstore n =>
    simp only [okB] at h
    split at h
    · rename_i b c r e
      simp only [Bool.and_eq_true] at h
      rw [← eqb_eq h.2]
      exact dec_u1 e (eqb_eq h.1) (insF_55 pc)
    · cases h
  case astore n =>
    simp only [okB] at h
    split at h
    · rename_i b c r e
      simp only [Bool.and_eq_true] at h
      rw [← eqb_eq h.2]
      exact dec_u1 e (eqb_eq h.1) (insF_58 pc)
    · cases h
  case ldc_w n =>
    simp only [okB] at h
    split at h
    · rename_i b c d r e
      simp only [Bool.and_eq_true, decide_eq_true_eq] at h
      rw [← h.2]
      exact dec_u2 e (eqb_eq h.1) (insF_19 pc)
    · cases h
  case ldc2_w n =>
    simp only [okB] at h
    split at h
    · rename_i b c d r e
      simp only [Bool.and_eq_true, decide_eq_true_eq] at h
      rw [← h.2]
      exact dec_u2 e (eqb_eq h.1) (insF_20 pc)
    · cases h
  case getfield n =>
    simp only [okB] at h
    split at h
    · rename_i b c d r e
      simp only [Bool.and_eq_true, decide_eq_true_eq] at h
      rw [← h.2]
      exact dec_u2 e (eqb_eq h.1) (insF_180 pc)
    · cases h
  case putfield n =>
    simp only [okB] at h
    split at h
    · rename_i b c d r e
      simp only [Bool.and_eq_true, decide_eq_true_eq] at h
      rw [← h.2]
      exact dec_u2 e (eqb_eq h.1) (insF_181 pc)
    · cases h
  case invokevirtual n =>
    simp only [okB] at h
    split at h
    · rename_i b c d r e
      simp only [Bool.and_eq_true, decide_eq_true_eq] at h
      rw [← h.2]
      exact dec_u2 e (eqb_eq h.1) (insF_182 pc)
    · cases h
  case invokespecial n =>
    simp only [okB] at h
    split at h
    · rename_i b c d r e
      simp only [Bool.and_eq_true, decide_eq_true_eq] at h
      rw [← h.2]
      exact dec_u2 e (eqb_eq h.1) (insF_183 pc)
    · cases h
  case invokestatic n =>
    simp only [okB] at h
    split at h
    · rename_i b c d r e
      simp only [Bool.and_eq_true, decide_eq_true_eq] at h
      rw [← h.2]
      exact dec_u2 e (eqb_eq h.1) (insF_184 pc)
    · cases h
  case new n =>
    simp only [okB] at h
    split at h
    · rename_i b c d r e
      simp only [Bool.and_eq_true, decide_eq_true_eq] at h
      rw [← h.2]
      exact dec_u2 e (eqb_eq h.1) (insF_187 pc)
    · cases h
  case anewarray n =>
    simp only [okB] at h
    split at h
    · rename_i b c d r e
      simp only [Bool.and_eq_true, decide_eq_true_eq] at h
      rw [← h.2]
      exact dec_u2 e (eqb_eq h.1) (insF_189 pc)
    · cases h
  case sipush n =>
    simp only [okB] at h
    split at h
    · rename_i b c d r e
      simp only [Bool.and_eq_true, decide_eq_true_eq] at h
      rw [← h.2]
      exact dec_s2 e (eqb_eq h.1) (insF_17 pc)
    · cases h
  case goto n =>
    simp only [okB] at h
    split at h
    · rename_i b c d r e
      simp only [Bool.and_eq_true, decide_eq_true_eq] at h
      rw [← h.2]
      exact dec_s2 e (eqb_eq h.1) (insF_167 pc)
    · cases h
  case ifnull n =>
    simp only [okB] at h
    split at h
    · rename_i b c d r e
      simp only [Bool.and_eq_true, decide_eq_true_eq] at h
      rw [← h.2]
      exact dec_s2 e (eqb_eq h.1) (insF_198 pc)
    · cases h
  case ifnonnull n =>
    simp only [okB] at h
    split at h
    · rename_i b c d r e
      simp only [Bool.and_eq_true, decide_eq_true_eq] at h
      rw [← h.2]
      exact dec_s2 e (eqb_eq h.1) (insF_199 pc)
    · cases h
  case bipush n =>
    simp only [okB] at h
    split at h
    · rename_i b c r e
      simp only [Bool.and_eq_true, decide_eq_true_eq] at h
      rw [← h.2]
      exact dec_s1 e (eqb_eq h.1) (insF_16 pc)
    · cases h
  case ifCond k n =>
    cases k
    · simp only [okB] at h
      split at h
      · rename_i b c d r e
        simp only [Bool.and_eq_true, decide_eq_true_eq] at h
        rw [← h.2]
        exact dec_s2 e (eqb_eq h.1) (insF_153 pc)
      · cases h
    · simp only [okB] at h
      split at h
      · rename_i b c d r e
        simp only [Bool.and_eq_true, decide_eq_true_eq] at h
        rw [← h.2]
        exact dec_s2 e (eqb_eq h.1) (insF_154 pc)
      · cases h
    · simp only [okB] at h
      split at h
      · rename_i b c d r e
        simp only [Bool.and_eq_true, decide_eq_true_eq] at h
        rw [← h.2]
        exact dec_s2 e (eqb_eq h.1) (insF_155 pc)
      · cases h
    · simp only [okB] at h
      split at h
      · rename_i b c d r e
        simp only [Bool.and_eq_true, decide_eq_true_eq] at h
        rw [← h.2]
        exact dec_s2 e (eqb_eq h.1) (insF_156 pc)
      · cases h
    · simp only [okB] at h
      split at h
      · rename_i b c d r e
        simp only [Bool.and_eq_true, decide_eq_true_eq] at h
        rw [← h.2]
        exact dec_s2 e (eqb_eq h.1) (insF_157 pc)
      · cases h
    · simp only [okB] at h
      split at h
      · rename_i b c d r e
        simp only [Bool.and_eq_true, decide_eq_true_eq] at h
        rw [← h.2]
        exact dec_s2 e (eqb_eq h.1) (insF_158 pc)
      · cases h
  case if_icmp k n =>
    cases k
    · simp only [okB] at h
      split at h
      · rename_i b c d r e
        simp only [Bool.and_eq_true, decide_eq_true_eq] at h
        rw [← h.2]
        exact dec_s2 e (eqb_eq h.1) (insF_159 pc)
      · cases h
    · simp only [okB] at h
      split at h
      · rename_i b c d r e
        simp only [Bool.and_eq_true, decide_eq_true_eq] at h
        rw [← h.2]
        exact dec_s2 e (eqb_eq h.1) (insF_160 pc)
      · cases h
    · simp only [okB] at h
      split at h
      · rename_i b c d r e
        simp only [Bool.and_eq_true, decide_eq_true_eq] at h
        rw [← h.2]
        exact dec_s2 e (eqb_eq h.1) (insF_161 pc)
      · cases h
    · simp only [okB] at h
      split at h
      · rename_i b c d r e
        simp only [Bool.and_eq_true, decide_eq_true_eq] at h
        rw [← h.2]
        exact dec_s2 e (eqb_eq h.1) (insF_162 pc)
      · cases h
    · simp only [okB] at h
      split at h
      · rename_i b c d r e
        simp only [Bool.and_eq_true, decide_eq_true_eq] at h
        rw [← h.2]
        exact dec_s2 e (eqb_eq h.1) (insF_163 pc)
      · cases h
    · simp only [okB] at h
      split at h
      · rename_i b c d r e
        simp only [Bool.and_eq_true, decide_eq_true_eq] at h
        rw [← h.2]
        exact dec_s2 e (eqb_eq h.1) (insF_164 pc)
      · cases h
  all_goals cases h