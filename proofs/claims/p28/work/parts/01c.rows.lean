/-! DECODE, BYTE BY BYTE: an opcode is looked up once for all rows -/
theorem u1_at {c : ByteArray} {p : Nat} {a : UInt8} (h : c.data.toList[p]? = some a) : (Reader.u1 : Decoder Nat) c p = .ok (a.toNat, p + 1) := by
  obtain ⟨hp, ha⟩ := List.getElem?_eq_some_iff.mp h
  have hs : p < c.size := hp
  have e : (Reader.u1 : Decoder Nat) c p = (if h : p < c.size then Except.ok ((c[p]'h).toNat, p + 1) else Except.error (HasTruncated.truncated p)) := by
    unfold Reader.u1
    show (dite (p < c.size) (fun h => (set (p + 1) >>= fun _ => Pure.pure (c[p]'h).toNat : Decoder Nat)) (fun _ => (throw (HasTruncated.truncated p) : Decoder Nat))) c p = _
    rw [dif_pos hs, dif_pos hs]
    rfl
  rw [e, dif_pos hs]
  have e2 : c[p]'hs = a := ha
  rw [e2]
theorem dk_b {α β : Type} {r : Decoder α} {f : α → Decoder β} {c : ByteArray} {p q : Nat} {x : α} (h : r c p = .ok (x, q)) : (r >>= f) c p = f x c q := by
  simp only [bind, ReaderT.bind, StateT.bind, Except.bind, h]
theorem u2_at {c : ByteArray} {p : Nat} {a b : UInt8} (h : c.data.toList[p]? = some a) (h1 : c.data.toList[p + 1]? = some b) : (Reader.u2 : Decoder Nat) c p = .ok (a.toNat * 256 + b.toNat, p + 2) := by
  unfold Reader.u2
  rw [dk_b (u1_at h), dk_b (u1_at h1)]
  rfl
theorem s1_at {c : ByteArray} {p : Nat} {a : UInt8} (h : c.data.toList[p]? = some a) : (Reader.s1 : Decoder Int) c p = .ok (Reader.signed 8 a.toNat, p + 1) := by
  have e : (Reader.s1 : Decoder Int) = (Reader.u1 >>= fun x => Pure.pure (Reader.signed 8 x)) := rfl
  rw [e, dk_b (u1_at h)]
  rfl
theorem s2_at {c : ByteArray} {p : Nat} {a b : UInt8} (h : c.data.toList[p]? = some a) (h1 : c.data.toList[p + 1]? = some b) : (Reader.s2 : Decoder Int) c p = .ok (Reader.signed 16 (a.toNat * 256 + b.toNat), p + 2) := by
  have e : (Reader.s2 : Decoder Int) = (Reader.u2 >>= fun x => Pure.pure (Reader.signed 16 x)) := rfl
  rw [e, dk_b (u2_at h h1)]
  rfl
set_option maxRecDepth 100000 in
theorem dk_ex : ∃ G : Nat → Nat → Decoder Instr, (∀ pc : Nat, Decoder.instr pc = (Reader.u1 >>= G pc)) ∧ (∀ pc : Nat, G pc 0 = Pure.pure (Instr.nop)) ∧ (∀ pc : Nat, G pc 1 = Pure.pure (Instr.aconst_null)) ∧ (∀ pc : Nat, G pc 2 = Pure.pure (Instr.iconst (-1))) ∧ (∀ pc : Nat, G pc 3 = Pure.pure (Instr.iconst 0)) ∧ (∀ pc : Nat, G pc 4 = Pure.pure (Instr.iconst 1)) ∧ (∀ pc : Nat, G pc 5 = Pure.pure (Instr.iconst 2)) ∧ (∀ pc : Nat, G pc 6 = Pure.pure (Instr.iconst 3)) ∧ (∀ pc : Nat, G pc 7 = Pure.pure (Instr.iconst 4)) ∧ (∀ pc : Nat, G pc 8 = Pure.pure (Instr.iconst 5)) ∧ (∀ pc : Nat, G pc 9 = Pure.pure (Instr.lconst 0)) ∧ (∀ pc : Nat, G pc 10 = Pure.pure (Instr.lconst 1)) ∧ (∀ pc : Nat, G pc 11 = Pure.pure (Instr.fconst 0)) ∧ (∀ pc : Nat, G pc 12 = Pure.pure (Instr.fconst 1)) ∧ (∀ pc : Nat, G pc 13 = Pure.pure (Instr.fconst 2)) ∧ (∀ pc : Nat, G pc 14 = Pure.pure (Instr.dconst 0)) ∧ (∀ pc : Nat, G pc 15 = Pure.pure (Instr.dconst 1)) ∧ (∀ pc : Nat, G pc 16 = (Reader.s1 >>= fun x => Pure.pure (Instr.bipush x))) ∧ (∀ pc : Nat, G pc 17 = (Reader.s2 >>= fun x => Pure.pure (Instr.sipush x))) ∧ (∀ pc : Nat, G pc 18 = (Reader.u1 >>= fun x => Pure.pure (Instr.ldc x))) ∧ (∀ pc : Nat, G pc 19 = (Reader.u2 >>= fun x => Pure.pure (Instr.ldc_w x))) ∧ (∀ pc : Nat, G pc 20 = (Reader.u2 >>= fun x => Pure.pure (Instr.ldc2_w x))) ∧ (∀ pc : Nat, G pc 21 = (Reader.u1 >>= fun x => Pure.pure (Instr.iload x))) ∧ (∀ pc : Nat, G pc 22 = (Reader.u1 >>= fun x => Pure.pure (Instr.lload x))) ∧ (∀ pc : Nat, G pc 23 = (Reader.u1 >>= fun x => Pure.pure (Instr.fload x))) ∧ (∀ pc : Nat, G pc 24 = (Reader.u1 >>= fun x => Pure.pure (Instr.dload x))) ∧ (∀ pc : Nat, G pc 25 = (Reader.u1 >>= fun x => Pure.pure (Instr.aload x))) ∧ (∀ pc : Nat, G pc 26 = Pure.pure (Instr.iload_n 0)) ∧ (∀ pc : Nat, G pc 27 = Pure.pure (Instr.iload_n 1)) ∧ (∀ pc : Nat, G pc 28 = Pure.pure (Instr.iload_n 2)) ∧ (∀ pc : Nat, G pc 29 = Pure.pure (Instr.iload_n 3)) ∧ (∀ pc : Nat, G pc 30 = Pure.pure (Instr.lload_n 0)) ∧ (∀ pc : Nat, G pc 31 = Pure.pure (Instr.lload_n 1)) ∧ (∀ pc : Nat, G pc 32 = Pure.pure (Instr.lload_n 2)) ∧ (∀ pc : Nat, G pc 33 = Pure.pure (Instr.lload_n 3)) ∧ (∀ pc : Nat, G pc 34 = Pure.pure (Instr.fload_n 0)) ∧ (∀ pc : Nat, G pc 35 = Pure.pure (Instr.fload_n 1)) ∧ (∀ pc : Nat, G pc 36 = Pure.pure (Instr.fload_n 2)) ∧ (∀ pc : Nat, G pc 37 = Pure.pure (Instr.fload_n 3)) ∧ (∀ pc : Nat, G pc 38 = Pure.pure (Instr.dload_n 0)) ∧ (∀ pc : Nat, G pc 39 = Pure.pure (Instr.dload_n 1)) ∧ (∀ pc : Nat, G pc 40 = Pure.pure (Instr.dload_n 2)) ∧ (∀ pc : Nat, G pc 41 = Pure.pure (Instr.dload_n 3)) ∧ (∀ pc : Nat, G pc 42 = Pure.pure (Instr.aload_n 0)) ∧ (∀ pc : Nat, G pc 43 = Pure.pure (Instr.aload_n 1)) ∧ (∀ pc : Nat, G pc 44 = Pure.pure (Instr.aload_n 2)) ∧ (∀ pc : Nat, G pc 45 = Pure.pure (Instr.aload_n 3)) ∧ (∀ pc : Nat, G pc 46 = Pure.pure (Instr.iaload)) ∧ (∀ pc : Nat, G pc 47 = Pure.pure (Instr.laload)) ∧ (∀ pc : Nat, G pc 48 = Pure.pure (Instr.faload)) ∧ (∀ pc : Nat, G pc 49 = Pure.pure (Instr.daload)) ∧ (∀ pc : Nat, G pc 50 = Pure.pure (Instr.aaload)) ∧ (∀ pc : Nat, G pc 51 = Pure.pure (Instr.baload)) ∧ (∀ pc : Nat, G pc 52 = Pure.pure (Instr.caload)) ∧ (∀ pc : Nat, G pc 53 = Pure.pure (Instr.saload)) ∧ (∀ pc : Nat, G pc 54 = (Reader.u1 >>= fun x => Pure.pure (Instr.istore x))) ∧ (∀ pc : Nat, G pc 55 = (Reader.u1 >>= fun x => Pure.pure (Instr.lstore x))) ∧ (∀ pc : Nat, G pc 56 = (Reader.u1 >>= fun x => Pure.pure (Instr.fstore x))) ∧ (∀ pc : Nat, G pc 57 = (Reader.u1 >>= fun x => Pure.pure (Instr.dstore x))) ∧ (∀ pc : Nat, G pc 58 = (Reader.u1 >>= fun x => Pure.pure (Instr.astore x))) ∧ (∀ pc : Nat, G pc 59 = Pure.pure (Instr.istore_n 0)) ∧ (∀ pc : Nat, G pc 60 = Pure.pure (Instr.istore_n 1)) ∧ (∀ pc : Nat, G pc 61 = Pure.pure (Instr.istore_n 2)) ∧ (∀ pc : Nat, G pc 62 = Pure.pure (Instr.istore_n 3)) ∧ (∀ pc : Nat, G pc 63 = Pure.pure (Instr.lstore_n 0)) ∧ (∀ pc : Nat, G pc 64 = Pure.pure (Instr.lstore_n 1)) ∧ (∀ pc : Nat, G pc 65 = Pure.pure (Instr.lstore_n 2)) ∧ (∀ pc : Nat, G pc 66 = Pure.pure (Instr.lstore_n 3)) ∧ (∀ pc : Nat, G pc 67 = Pure.pure (Instr.fstore_n 0)) ∧ (∀ pc : Nat, G pc 68 = Pure.pure (Instr.fstore_n 1)) ∧ (∀ pc : Nat, G pc 69 = Pure.pure (Instr.fstore_n 2)) ∧ (∀ pc : Nat, G pc 70 = Pure.pure (Instr.fstore_n 3)) ∧ (∀ pc : Nat, G pc 71 = Pure.pure (Instr.dstore_n 0)) ∧ (∀ pc : Nat, G pc 72 = Pure.pure (Instr.dstore_n 1)) ∧ (∀ pc : Nat, G pc 73 = Pure.pure (Instr.dstore_n 2)) ∧ (∀ pc : Nat, G pc 74 = Pure.pure (Instr.dstore_n 3)) ∧ (∀ pc : Nat, G pc 75 = Pure.pure (Instr.astore_n 0)) ∧ (∀ pc : Nat, G pc 76 = Pure.pure (Instr.astore_n 1)) ∧ (∀ pc : Nat, G pc 77 = Pure.pure (Instr.astore_n 2)) ∧ (∀ pc : Nat, G pc 78 = Pure.pure (Instr.astore_n 3)) ∧ (∀ pc : Nat, G pc 79 = Pure.pure (Instr.iastore)) ∧ (∀ pc : Nat, G pc 80 = Pure.pure (Instr.lastore)) ∧ (∀ pc : Nat, G pc 81 = Pure.pure (Instr.fastore)) ∧ (∀ pc : Nat, G pc 82 = Pure.pure (Instr.dastore)) ∧ (∀ pc : Nat, G pc 83 = Pure.pure (Instr.aastore)) ∧ (∀ pc : Nat, G pc 84 = Pure.pure (Instr.bastore)) ∧ (∀ pc : Nat, G pc 85 = Pure.pure (Instr.castore)) ∧ (∀ pc : Nat, G pc 86 = Pure.pure (Instr.sastore)) ∧ (∀ pc : Nat, G pc 87 = Pure.pure (Instr.pop)) ∧ (∀ pc : Nat, G pc 88 = Pure.pure (Instr.pop2)) ∧ (∀ pc : Nat, G pc 89 = Pure.pure (Instr.dup)) ∧ (∀ pc : Nat, G pc 90 = Pure.pure (Instr.dup_x1)) ∧ (∀ pc : Nat, G pc 91 = Pure.pure (Instr.dup_x2)) ∧ (∀ pc : Nat, G pc 92 = Pure.pure (Instr.dup2)) ∧ (∀ pc : Nat, G pc 93 = Pure.pure (Instr.dup2_x1)) ∧ (∀ pc : Nat, G pc 94 = Pure.pure (Instr.dup2_x2)) ∧ (∀ pc : Nat, G pc 95 = Pure.pure (Instr.swap)) ∧ (∀ pc : Nat, G pc 96 = Pure.pure (Instr.iadd)) ∧ (∀ pc : Nat, G pc 97 = Pure.pure (Instr.ladd)) ∧ (∀ pc : Nat, G pc 98 = Pure.pure (Instr.fadd)) ∧ (∀ pc : Nat, G pc 99 = Pure.pure (Instr.dadd)) ∧ (∀ pc : Nat, G pc 100 = Pure.pure (Instr.isub)) ∧ (∀ pc : Nat, G pc 101 = Pure.pure (Instr.lsub)) ∧ (∀ pc : Nat, G pc 102 = Pure.pure (Instr.fsub)) ∧ (∀ pc : Nat, G pc 103 = Pure.pure (Instr.dsub)) ∧ (∀ pc : Nat, G pc 104 = Pure.pure (Instr.imul)) ∧ (∀ pc : Nat, G pc 105 = Pure.pure (Instr.lmul)) ∧ (∀ pc : Nat, G pc 106 = Pure.pure (Instr.fmul)) ∧ (∀ pc : Nat, G pc 107 = Pure.pure (Instr.dmul)) ∧ (∀ pc : Nat, G pc 108 = Pure.pure (Instr.idiv)) ∧ (∀ pc : Nat, G pc 109 = Pure.pure (Instr.ldiv)) ∧ (∀ pc : Nat, G pc 110 = Pure.pure (Instr.fdiv)) ∧ (∀ pc : Nat, G pc 111 = Pure.pure (Instr.ddiv)) ∧ (∀ pc : Nat, G pc 112 = Pure.pure (Instr.irem)) ∧ (∀ pc : Nat, G pc 113 = Pure.pure (Instr.lrem)) ∧ (∀ pc : Nat, G pc 114 = Pure.pure (Instr.frem)) ∧ (∀ pc : Nat, G pc 115 = Pure.pure (Instr.drem)) ∧ (∀ pc : Nat, G pc 116 = Pure.pure (Instr.ineg)) ∧ (∀ pc : Nat, G pc 117 = Pure.pure (Instr.lneg)) ∧ (∀ pc : Nat, G pc 118 = Pure.pure (Instr.fneg)) ∧ (∀ pc : Nat, G pc 119 = Pure.pure (Instr.dneg)) ∧ (∀ pc : Nat, G pc 120 = Pure.pure (Instr.ishl)) ∧ (∀ pc : Nat, G pc 121 = Pure.pure (Instr.lshl)) ∧ (∀ pc : Nat, G pc 122 = Pure.pure (Instr.ishr)) ∧ (∀ pc : Nat, G pc 123 = Pure.pure (Instr.lshr)) ∧ (∀ pc : Nat, G pc 124 = Pure.pure (Instr.iushr)) ∧ (∀ pc : Nat, G pc 125 = Pure.pure (Instr.lushr)) ∧ (∀ pc : Nat, G pc 126 = Pure.pure (Instr.iand)) ∧ (∀ pc : Nat, G pc 127 = Pure.pure (Instr.land)) ∧ (∀ pc : Nat, G pc 128 = Pure.pure (Instr.ior)) ∧ (∀ pc : Nat, G pc 129 = Pure.pure (Instr.lor)) ∧ (∀ pc : Nat, G pc 130 = Pure.pure (Instr.ixor)) ∧ (∀ pc : Nat, G pc 131 = Pure.pure (Instr.lxor)) ∧ (∀ pc : Nat, G pc 132 = (Reader.u1 >>= fun x => Reader.s1 >>= fun y => Pure.pure (Instr.iinc x y))) ∧ (∀ pc : Nat, G pc 133 = Pure.pure (Instr.i2l)) ∧ (∀ pc : Nat, G pc 134 = Pure.pure (Instr.i2f)) ∧ (∀ pc : Nat, G pc 135 = Pure.pure (Instr.i2d)) ∧ (∀ pc : Nat, G pc 136 = Pure.pure (Instr.l2i)) ∧ (∀ pc : Nat, G pc 137 = Pure.pure (Instr.l2f)) ∧ (∀ pc : Nat, G pc 138 = Pure.pure (Instr.l2d)) ∧ (∀ pc : Nat, G pc 139 = Pure.pure (Instr.f2i)) ∧ (∀ pc : Nat, G pc 140 = Pure.pure (Instr.f2l)) ∧ (∀ pc : Nat, G pc 141 = Pure.pure (Instr.f2d)) ∧ (∀ pc : Nat, G pc 142 = Pure.pure (Instr.d2i)) ∧ (∀ pc : Nat, G pc 143 = Pure.pure (Instr.d2l)) ∧ (∀ pc : Nat, G pc 144 = Pure.pure (Instr.d2f)) ∧ (∀ pc : Nat, G pc 145 = Pure.pure (Instr.i2b)) ∧ (∀ pc : Nat, G pc 146 = Pure.pure (Instr.i2c)) ∧ (∀ pc : Nat, G pc 147 = Pure.pure (Instr.i2s)) ∧ (∀ pc : Nat, G pc 148 = Pure.pure (Instr.lcmp)) ∧ (∀ pc : Nat, G pc 149 = Pure.pure (Instr.fcmp .l)) ∧ (∀ pc : Nat, G pc 150 = Pure.pure (Instr.fcmp .g)) ∧ (∀ pc : Nat, G pc 151 = Pure.pure (Instr.dcmp .l)) ∧ (∀ pc : Nat, G pc 152 = Pure.pure (Instr.dcmp .g)) ∧ (∀ pc : Nat, G pc 153 = (Reader.s2 >>= fun x => Pure.pure (Instr.ifCond .eq x))) ∧ (∀ pc : Nat, G pc 154 = (Reader.s2 >>= fun x => Pure.pure (Instr.ifCond .ne x))) ∧ (∀ pc : Nat, G pc 155 = (Reader.s2 >>= fun x => Pure.pure (Instr.ifCond .lt x))) ∧ (∀ pc : Nat, G pc 156 = (Reader.s2 >>= fun x => Pure.pure (Instr.ifCond .ge x))) ∧ (∀ pc : Nat, G pc 157 = (Reader.s2 >>= fun x => Pure.pure (Instr.ifCond .gt x))) ∧ (∀ pc : Nat, G pc 158 = (Reader.s2 >>= fun x => Pure.pure (Instr.ifCond .le x))) ∧ (∀ pc : Nat, G pc 159 = (Reader.s2 >>= fun x => Pure.pure (Instr.if_icmp .eq x))) ∧ (∀ pc : Nat, G pc 160 = (Reader.s2 >>= fun x => Pure.pure (Instr.if_icmp .ne x))) ∧ (∀ pc : Nat, G pc 161 = (Reader.s2 >>= fun x => Pure.pure (Instr.if_icmp .lt x))) ∧ (∀ pc : Nat, G pc 162 = (Reader.s2 >>= fun x => Pure.pure (Instr.if_icmp .ge x))) ∧ (∀ pc : Nat, G pc 163 = (Reader.s2 >>= fun x => Pure.pure (Instr.if_icmp .gt x))) ∧ (∀ pc : Nat, G pc 164 = (Reader.s2 >>= fun x => Pure.pure (Instr.if_icmp .le x))) ∧ (∀ pc : Nat, G pc 165 = (Reader.s2 >>= fun x => Pure.pure (Instr.if_acmp .eq x))) ∧ (∀ pc : Nat, G pc 166 = (Reader.s2 >>= fun x => Pure.pure (Instr.if_acmp .ne x))) ∧ (∀ pc : Nat, G pc 167 = (Reader.s2 >>= fun x => Pure.pure (Instr.goto x))) ∧ (∀ pc : Nat, G pc 168 = (Reader.s2 >>= fun x => Pure.pure (Instr.jsr x))) ∧ (∀ pc : Nat, G pc 169 = (Reader.u1 >>= fun x => Pure.pure (Instr.ret x))) ∧ (∀ pc : Nat, G pc 172 = Pure.pure (Instr.ireturn)) ∧ (∀ pc : Nat, G pc 173 = Pure.pure (Instr.lreturn)) ∧ (∀ pc : Nat, G pc 174 = Pure.pure (Instr.freturn)) ∧ (∀ pc : Nat, G pc 175 = Pure.pure (Instr.dreturn)) ∧ (∀ pc : Nat, G pc 176 = Pure.pure (Instr.areturn)) ∧ (∀ pc : Nat, G pc 177 = Pure.pure (Instr.return_)) ∧ (∀ pc : Nat, G pc 178 = (Reader.u2 >>= fun x => Pure.pure (Instr.getstatic x))) ∧ (∀ pc : Nat, G pc 179 = (Reader.u2 >>= fun x => Pure.pure (Instr.putstatic x))) ∧ (∀ pc : Nat, G pc 180 = (Reader.u2 >>= fun x => Pure.pure (Instr.getfield x))) ∧ (∀ pc : Nat, G pc 181 = (Reader.u2 >>= fun x => Pure.pure (Instr.putfield x))) ∧ (∀ pc : Nat, G pc 182 = (Reader.u2 >>= fun x => Pure.pure (Instr.invokevirtual x))) ∧ (∀ pc : Nat, G pc 183 = (Reader.u2 >>= fun x => Pure.pure (Instr.invokespecial x))) ∧ (∀ pc : Nat, G pc 184 = (Reader.u2 >>= fun x => Pure.pure (Instr.invokestatic x))) ∧ (∀ pc : Nat, G pc 187 = (Reader.u2 >>= fun x => Pure.pure (Instr.new x))) ∧ (∀ pc : Nat, G pc 189 = (Reader.u2 >>= fun x => Pure.pure (Instr.anewarray x))) ∧ (∀ pc : Nat, G pc 190 = Pure.pure (Instr.arraylength)) ∧ (∀ pc : Nat, G pc 191 = Pure.pure (Instr.athrow)) ∧ (∀ pc : Nat, G pc 192 = (Reader.u2 >>= fun x => Pure.pure (Instr.checkcast x))) ∧ (∀ pc : Nat, G pc 193 = (Reader.u2 >>= fun x => Pure.pure (Instr.instanceof x))) ∧ (∀ pc : Nat, G pc 194 = Pure.pure (Instr.monitorenter)) ∧ (∀ pc : Nat, G pc 195 = Pure.pure (Instr.monitorexit)) ∧ (∀ pc : Nat, G pc 198 = (Reader.s2 >>= fun x => Pure.pure (Instr.ifnull x))) ∧ (∀ pc : Nat, G pc 199 = (Reader.s2 >>= fun x => Pure.pure (Instr.ifnonnull x))) := ⟨_, fun _ => rfl, fun _ => rfl, fun _ => rfl, fun _ => rfl, fun _ => rfl, fun _ => rfl, fun _ => rfl, fun _ => rfl, fun _ => rfl, fun _ => rfl, fun _ => rfl, fun _ => rfl, fun _ => rfl, fun _ => rfl, fun _ => rfl, fun _ => rfl, fun _ => rfl, fun _ => rfl, fun _ => rfl, fun _ => rfl, fun _ => rfl, fun _ => rfl, fun _ => rfl, fun _ => rfl, fun _ => rfl, fun _ => rfl, fun _ => rfl, fun _ => rfl, fun _ => rfl, fun _ => rfl, fun _ => rfl, fun _ => rfl, fun _ => rfl, fun _ => rfl, fun _ => rfl, fun _ => rfl, fun _ => rfl, fun _ => rfl, fun _ => rfl, fun _ => rfl, fun _ => rfl, fun _ => rfl, fun _ => rfl, fun _ => rfl, fun _ => rfl, fun _ => rfl, fun _ => rfl, fun _ => rfl, fun _ => rfl, fun _ => rfl, fun _ => rfl, fun _ => rfl, fun _ => rfl, fun _ => rfl, fun _ => rfl, fun _ => rfl, fun _ => rfl, fun _ => rfl, fun _ => rfl, fun _ => rfl, fun _ => rfl, fun _ => rfl, fun _ => rfl, fun _ => rfl, fun _ => rfl, fun _ => rfl, fun _ => rfl, fun _ => rfl, fun _ => rfl, fun _ => rfl, fun _ => rfl, fun _ => rfl, fun _ => rfl, fun _ => rfl, fun _ => rfl, fun _ => rfl, fun _ => rfl, fun _ => rfl, fun _ => rfl, fun _ => rfl, fun _ => rfl, fun _ => rfl, fun _ => rfl, fun _ => rfl, fun _ => rfl, fun _ => rfl, fun _ => rfl, fun _ => rfl, fun _ => rfl, fun _ => rfl, fun _ => rfl, fun _ => rfl, fun _ => rfl, fun _ => rfl, fun _ => rfl, fun _ => rfl, fun _ => rfl, fun _ => rfl, fun _ => rfl, fun _ => rfl, fun _ => rfl, fun _ => rfl, fun _ => rfl, fun _ => rfl, fun _ => rfl, fun _ => rfl, fun _ => rfl, fun _ => rfl, fun _ => rfl, fun _ => rfl, fun _ => rfl, fun _ => rfl, fun _ => rfl, fun _ => rfl, fun _ => rfl, fun _ => rfl, fun _ => rfl, fun _ => rfl, fun _ => rfl, fun _ => rfl, fun _ => rfl, fun _ => rfl, fun _ => rfl, fun _ => rfl, fun _ => rfl, fun _ => rfl, fun _ => rfl, fun _ => rfl, fun _ => rfl, fun _ => rfl, fun _ => rfl, fun _ => rfl, fun _ => rfl, fun _ => rfl, fun _ => rfl, fun _ => rfl, fun _ => rfl, fun _ => rfl, fun _ => rfl, fun _ => rfl, fun _ => rfl, fun _ => rfl, fun _ => rfl, fun _ => rfl, fun _ => rfl, fun _ => rfl, fun _ => rfl, fun _ => rfl, fun _ => rfl, fun _ => rfl, fun _ => rfl, fun _ => rfl, fun _ => rfl, fun _ => rfl, fun _ => rfl, fun _ => rfl, fun _ => rfl, fun _ => rfl, fun _ => rfl, fun _ => rfl, fun _ => rfl, fun _ => rfl, fun _ => rfl, fun _ => rfl, fun _ => rfl, fun _ => rfl, fun _ => rfl, fun _ => rfl, fun _ => rfl, fun _ => rfl, fun _ => rfl, fun _ => rfl, fun _ => rfl, fun _ => rfl, fun _ => rfl, fun _ => rfl, fun _ => rfl, fun _ => rfl, fun _ => rfl, fun _ => rfl, fun _ => rfl, fun _ => rfl, fun _ => rfl, fun _ => rfl, fun _ => rfl, fun _ => rfl, fun _ => rfl, fun _ => rfl, fun _ => rfl, fun _ => rfl, fun _ => rfl, fun _ => rfl, fun _ => rfl, fun _ => rfl⟩
noncomputable def dk_G : Nat → Nat → Decoder Instr := Classical.choose dk_ex
theorem dk_0 : ∀ pc : Nat, Decoder.instr pc = (Reader.u1 >>= dk_G pc) := (Classical.choose_spec dk_ex).1
theorem dk_g0 : ∀ pc : Nat, dk_G pc 0 = Pure.pure (Instr.nop) := (Classical.choose_spec dk_ex).2.1
theorem dk_g1 : ∀ pc : Nat, dk_G pc 1 = Pure.pure (Instr.aconst_null) := (Classical.choose_spec dk_ex).2.2.1
theorem dk_g2 : ∀ pc : Nat, dk_G pc 2 = Pure.pure (Instr.iconst (-1)) := (Classical.choose_spec dk_ex).2.2.2.1
theorem dk_g3 : ∀ pc : Nat, dk_G pc 3 = Pure.pure (Instr.iconst 0) := (Classical.choose_spec dk_ex).2.2.2.2.1
theorem dk_g4 : ∀ pc : Nat, dk_G pc 4 = Pure.pure (Instr.iconst 1) := (Classical.choose_spec dk_ex).2.2.2.2.2.1
theorem dk_g5 : ∀ pc : Nat, dk_G pc 5 = Pure.pure (Instr.iconst 2) := (Classical.choose_spec dk_ex).2.2.2.2.2.2.1
theorem dk_g6 : ∀ pc : Nat, dk_G pc 6 = Pure.pure (Instr.iconst 3) := (Classical.choose_spec dk_ex).2.2.2.2.2.2.2.1
theorem dk_g7 : ∀ pc : Nat, dk_G pc 7 = Pure.pure (Instr.iconst 4) := (Classical.choose_spec dk_ex).2.2.2.2.2.2.2.2.1
theorem dk_g8 : ∀ pc : Nat, dk_G pc 8 = Pure.pure (Instr.iconst 5) := (Classical.choose_spec dk_ex).2.2.2.2.2.2.2.2.2.1
theorem dk_g9 : ∀ pc : Nat, dk_G pc 9 = Pure.pure (Instr.lconst 0) := (Classical.choose_spec dk_ex).2.2.2.2.2.2.2.2.2.2.1
theorem dk_g10 : ∀ pc : Nat, dk_G pc 10 = Pure.pure (Instr.lconst 1) := (Classical.choose_spec dk_ex).2.2.2.2.2.2.2.2.2.2.2.1
theorem dk_g11 : ∀ pc : Nat, dk_G pc 11 = Pure.pure (Instr.fconst 0) := (Classical.choose_spec dk_ex).2.2.2.2.2.2.2.2.2.2.2.2.1
theorem dk_g12 : ∀ pc : Nat, dk_G pc 12 = Pure.pure (Instr.fconst 1) := (Classical.choose_spec dk_ex).2.2.2.2.2.2.2.2.2.2.2.2.2.1
theorem dk_g13 : ∀ pc : Nat, dk_G pc 13 = Pure.pure (Instr.fconst 2) := (Classical.choose_spec dk_ex).2.2.2.2.2.2.2.2.2.2.2.2.2.2.1
theorem dk_g14 : ∀ pc : Nat, dk_G pc 14 = Pure.pure (Instr.dconst 0) := (Classical.choose_spec dk_ex).2.2.2.2.2.2.2.2.2.2.2.2.2.2.2.1
theorem dk_g15 : ∀ pc : Nat, dk_G pc 15 = Pure.pure (Instr.dconst 1) := (Classical.choose_spec dk_ex).2.2.2.2.2.2.2.2.2.2.2.2.2.2.2.2.1
theorem dk_g16 : ∀ pc : Nat, dk_G pc 16 = (Reader.s1 >>= fun x => Pure.pure (Instr.bipush x)) := (Classical.choose_spec dk_ex).2.2.2.2.2.2.2.2.2.2.2.2.2.2.2.2.2.1
theorem dk_g17 : ∀ pc : Nat, dk_G pc 17 = (Reader.s2 >>= fun x => Pure.pure (Instr.sipush x)) := (Classical.choose_spec dk_ex).2.2.2.2.2.2.2.2.2.2.2.2.2.2.2.2.2.2.1
theorem dk_g18 : ∀ pc : Nat, dk_G pc 18 = (Reader.u1 >>= fun x => Pure.pure (Instr.ldc x)) := (Classical.choose_spec dk_ex).2.2.2.2.2.2.2.2.2.2.2.2.2.2.2.2.2.2.2.1
theorem dk_g19 : ∀ pc : Nat, dk_G pc 19 = (Reader.u2 >>= fun x => Pure.pure (Instr.ldc_w x)) := (Classical.choose_spec dk_ex).2.2.2.2.2.2.2.2.2.2.2.2.2.2.2.2.2.2.2.2.1
theorem dk_g20 : ∀ pc : Nat, dk_G pc 20 = (Reader.u2 >>= fun x => Pure.pure (Instr.ldc2_w x)) := (Classical.choose_spec dk_ex).2.2.2.2.2.2.2.2.2.2.2.2.2.2.2.2.2.2.2.2.2.1
theorem dk_g21 : ∀ pc : Nat, dk_G pc 21 = (Reader.u1 >>= fun x => Pure.pure (Instr.iload x)) := (Classical.choose_spec dk_ex).2.2.2.2.2.2.2.2.2.2.2.2.2.2.2.2.2.2.2.2.2.2.1
theorem dk_g22 : ∀ pc : Nat, dk_G pc 22 = (Reader.u1 >>= fun x => Pure.pure (Instr.lload x)) := (Classical.choose_spec dk_ex).2.2.2.2.2.2.2.2.2.2.2.2.2.2.2.2.2.2.2.2.2.2.2.1
theorem dk_g23 : ∀ pc : Nat, dk_G pc 23 = (Reader.u1 >>= fun x => Pure.pure (Instr.fload x)) := (Classical.choose_spec dk_ex).2.2.2.2.2.2.2.2.2.2.2.2.2.2.2.2.2.2.2.2.2.2.2.2.1
theorem dk_g24 : ∀ pc : Nat, dk_G pc 24 = (Reader.u1 >>= fun x => Pure.pure (Instr.dload x)) := (Classical.choose_spec dk_ex).2.2.2.2.2.2.2.2.2.2.2.2.2.2.2.2.2.2.2.2.2.2.2.2.2.1
theorem dk_g25 : ∀ pc : Nat, dk_G pc 25 = (Reader.u1 >>= fun x => Pure.pure (Instr.aload x)) := (Classical.choose_spec dk_ex).2.2.2.2.2.2.2.2.2.2.2.2.2.2.2.2.2.2.2.2.2.2.2.2.2.2.1
theorem dk_g26 : ∀ pc : Nat, dk_G pc 26 = Pure.pure (Instr.iload_n 0) := (Classical.choose_spec dk_ex).2.2.2.2.2.2.2.2.2.2.2.2.2.2.2.2.2.2.2.2.2.2.2.2.2.2.2.1
theorem dk_g27 : ∀ pc : Nat, dk_G pc 27 = Pure.pure (Instr.iload_n 1) := (Classical.choose_spec dk_ex).2.2.2.2.2.2.2.2.2.2.2.2.2.2.2.2.2.2.2.2.2.2.2.2.2.2.2.2.1
theorem dk_g28 : ∀ pc : Nat, dk_G pc 28 = Pure.pure (Instr.iload_n 2) := (Classical.choose_spec dk_ex).2.2.2.2.2.2.2.2.2.2.2.2.2.2.2.2.2.2.2.2.2.2.2.2.2.2.2.2.2.1
theorem dk_g29 : ∀ pc : Nat, dk_G pc 29 = Pure.pure (Instr.iload_n 3) := (Classical.choose_spec dk_ex).2.2.2.2.2.2.2.2.2.2.2.2.2.2.2.2.2.2.2.2.2.2.2.2.2.2.2.2.2.2.1
theorem dk_g30 : ∀ pc : Nat, dk_G pc 30 = Pure.pure (Instr.lload_n 0) := (Classical.choose_spec dk_ex).2.2.2.2.2.2.2.2.2.2.2.2.2.2.2.2.2.2.2.2.2.2.2.2.2.2.2.2.2.2.2.1
theorem dk_g31 : ∀ pc : Nat, dk_G pc 31 = Pure.pure (Instr.lload_n 1) := (Classical.choose_spec dk_ex).2.2.2.2.2.2.2.2.2.2.2.2.2.2.2.2.2.2.2.2.2.2.2.2.2.2.2.2.2.2.2.2.1
theorem dk_g32 : ∀ pc : Nat, dk_G pc 32 = Pure.pure (Instr.lload_n 2) := (Classical.choose_spec dk_ex).2.2.2.2.2.2.2.2.2.2.2.2.2.2.2.2.2.2.2.2.2.2.2.2.2.2.2.2.2.2.2.2.2.1
theorem dk_g33 : ∀ pc : Nat, dk_G pc 33 = Pure.pure (Instr.lload_n 3) := (Classical.choose_spec dk_ex).2.2.2.2.2.2.2.2.2.2.2.2.2.2.2.2.2.2.2.2.2.2.2.2.2.2.2.2.2.2.2.2.2.2.1
theorem dk_g34 : ∀ pc : Nat, dk_G pc 34 = Pure.pure (Instr.fload_n 0) := (Classical.choose_spec dk_ex).2.2.2.2.2.2.2.2.2.2.2.2.2.2.2.2.2.2.2.2.2.2.2.2.2.2.2.2.2.2.2.2.2.2.2.1
theorem dk_g35 : ∀ pc : Nat, dk_G pc 35 = Pure.pure (Instr.fload_n 1) := (Classical.choose_spec dk_ex).2.2.2.2.2.2.2.2.2.2.2.2.2.2.2.2.2.2.2.2.2.2.2.2.2.2.2.2.2.2.2.2.2.2.2.2.1
theorem dk_g36 : ∀ pc : Nat, dk_G pc 36 = Pure.pure (Instr.fload_n 2) := (Classical.choose_spec dk_ex).2.2.2.2.2.2.2.2.2.2.2.2.2.2.2.2.2.2.2.2.2.2.2.2.2.2.2.2.2.2.2.2.2.2.2.2.2.1
theorem dk_g37 : ∀ pc : Nat, dk_G pc 37 = Pure.pure (Instr.fload_n 3) := (Classical.choose_spec dk_ex).2.2.2.2.2.2.2.2.2.2.2.2.2.2.2.2.2.2.2.2.2.2.2.2.2.2.2.2.2.2.2.2.2.2.2.2.2.2.1
theorem dk_g38 : ∀ pc : Nat, dk_G pc 38 = Pure.pure (Instr.dload_n 0) := (Classical.choose_spec dk_ex).2.2.2.2.2.2.2.2.2.2.2.2.2.2.2.2.2.2.2.2.2.2.2.2.2.2.2.2.2.2.2.2.2.2.2.2.2.2.2.1
theorem dk_g39 : ∀ pc : Nat, dk_G pc 39 = Pure.pure (Instr.dload_n 1) := (Classical.choose_spec dk_ex).2.2.2.2.2.2.2.2.2.2.2.2.2.2.2.2.2.2.2.2.2.2.2.2.2.2.2.2.2.2.2.2.2.2.2.2.2.2.2.2.1
theorem dk_g40 : ∀ pc : Nat, dk_G pc 40 = Pure.pure (Instr.dload_n 2) := (Classical.choose_spec dk_ex).2.2.2.2.2.2.2.2.2.2.2.2.2.2.2.2.2.2.2.2.2.2.2.2.2.2.2.2.2.2.2.2.2.2.2.2.2.2.2.2.2.1
theorem dk_g41 : ∀ pc : Nat, dk_G pc 41 = Pure.pure (Instr.dload_n 3) := (Classical.choose_spec dk_ex).2.2.2.2.2.2.2.2.2.2.2.2.2.2.2.2.2.2.2.2.2.2.2.2.2.2.2.2.2.2.2.2.2.2.2.2.2.2.2.2.2.2.1
theorem dk_g42 : ∀ pc : Nat, dk_G pc 42 = Pure.pure (Instr.aload_n 0) := (Classical.choose_spec dk_ex).2.2.2.2.2.2.2.2.2.2.2.2.2.2.2.2.2.2.2.2.2.2.2.2.2.2.2.2.2.2.2.2.2.2.2.2.2.2.2.2.2.2.2.1
theorem dk_g43 : ∀ pc : Nat, dk_G pc 43 = Pure.pure (Instr.aload_n 1) := (Classical.choose_spec dk_ex).2.2.2.2.2.2.2.2.2.2.2.2.2.2.2.2.2.2.2.2.2.2.2.2.2.2.2.2.2.2.2.2.2.2.2.2.2.2.2.2.2.2.2.2.1
theorem dk_g44 : ∀ pc : Nat, dk_G pc 44 = Pure.pure (Instr.aload_n 2) := (Classical.choose_spec dk_ex).2.2.2.2.2.2.2.2.2.2.2.2.2.2.2.2.2.2.2.2.2.2.2.2.2.2.2.2.2.2.2.2.2.2.2.2.2.2.2.2.2.2.2.2.2.1
theorem dk_g45 : ∀ pc : Nat, dk_G pc 45 = Pure.pure (Instr.aload_n 3) := (Classical.choose_spec dk_ex).2.2.2.2.2.2.2.2.2.2.2.2.2.2.2.2.2.2.2.2.2.2.2.2.2.2.2.2.2.2.2.2.2.2.2.2.2.2.2.2.2.2.2.2.2.2.1
theorem dk_g46 : ∀ pc : Nat, dk_G pc 46 = Pure.pure (Instr.iaload) := (Classical.choose_spec dk_ex).2.2.2.2.2.2.2.2.2.2.2.2.2.2.2.2.2.2.2.2.2.2.2.2.2.2.2.2.2.2.2.2.2.2.2.2.2.2.2.2.2.2.2.2.2.2.2.1
theorem dk_g47 : ∀ pc : Nat, dk_G pc 47 = Pure.pure (Instr.laload) := (Classical.choose_spec dk_ex).2.2.2.2.2.2.2.2.2.2.2.2.2.2.2.2.2.2.2.2.2.2.2.2.2.2.2.2.2.2.2.2.2.2.2.2.2.2.2.2.2.2.2.2.2.2.2.2.1
theorem dk_g48 : ∀ pc : Nat, dk_G pc 48 = Pure.pure (Instr.faload) := (Classical.choose_spec dk_ex).2.2.2.2.2.2.2.2.2.2.2.2.2.2.2.2.2.2.2.2.2.2.2.2.2.2.2.2.2.2.2.2.2.2.2.2.2.2.2.2.2.2.2.2.2.2.2.2.2.1
theorem dk_g49 : ∀ pc : Nat, dk_G pc 49 = Pure.pure (Instr.daload) := (Classical.choose_spec dk_ex).2.2.2.2.2.2.2.2.2.2.2.2.2.2.2.2.2.2.2.2.2.2.2.2.2.2.2.2.2.2.2.2.2.2.2.2.2.2.2.2.2.2.2.2.2.2.2.2.2.2.1
theorem dk_g50 : ∀ pc : Nat, dk_G pc 50 = Pure.pure (Instr.aaload) := (Classical.choose_spec dk_ex).2.2.2.2.2.2.2.2.2.2.2.2.2.2.2.2.2.2.2.2.2.2.2.2.2.2.2.2.2.2.2.2.2.2.2.2.2.2.2.2.2.2.2.2.2.2.2.2.2.2.2.1
theorem dk_g51 : ∀ pc : Nat, dk_G pc 51 = Pure.pure (Instr.baload) := (Classical.choose_spec dk_ex).2.2.2.2.2.2.2.2.2.2.2.2.2.2.2.2.2.2.2.2.2.2.2.2.2.2.2.2.2.2.2.2.2.2.2.2.2.2.2.2.2.2.2.2.2.2.2.2.2.2.2.2.1
theorem dk_g52 : ∀ pc : Nat, dk_G pc 52 = Pure.pure (Instr.caload) := (Classical.choose_spec dk_ex).2.2.2.2.2.2.2.2.2.2.2.2.2.2.2.2.2.2.2.2.2.2.2.2.2.2.2.2.2.2.2.2.2.2.2.2.2.2.2.2.2.2.2.2.2.2.2.2.2.2.2.2.2.1
theorem dk_g53 : ∀ pc : Nat, dk_G pc 53 = Pure.pure (Instr.saload) := (Classical.choose_spec dk_ex).2.2.2.2.2.2.2.2.2.2.2.2.2.2.2.2.2.2.2.2.2.2.2.2.2.2.2.2.2.2.2.2.2.2.2.2.2.2.2.2.2.2.2.2.2.2.2.2.2.2.2.2.2.2.1
theorem dk_g54 : ∀ pc : Nat, dk_G pc 54 = (Reader.u1 >>= fun x => Pure.pure (Instr.istore x)) := (Classical.choose_spec dk_ex).2.2.2.2.2.2.2.2.2.2.2.2.2.2.2.2.2.2.2.2.2.2.2.2.2.2.2.2.2.2.2.2.2.2.2.2.2.2.2.2.2.2.2.2.2.2.2.2.2.2.2.2.2.2.2.1
theorem dk_g55 : ∀ pc : Nat, dk_G pc 55 = (Reader.u1 >>= fun x => Pure.pure (Instr.lstore x)) := (Classical.choose_spec dk_ex).2.2.2.2.2.2.2.2.2.2.2.2.2.2.2.2.2.2.2.2.2.2.2.2.2.2.2.2.2.2.2.2.2.2.2.2.2.2.2.2.2.2.2.2.2.2.2.2.2.2.2.2.2.2.2.2.1
theorem dk_g56 : ∀ pc : Nat, dk_G pc 56 = (Reader.u1 >>= fun x => Pure.pure (Instr.fstore x)) := (Classical.choose_spec dk_ex).2.2.2.2.2.2.2.2.2.2.2.2.2.2.2.2.2.2.2.2.2.2.2.2.2.2.2.2.2.2.2.2.2.2.2.2.2.2.2.2.2.2.2.2.2.2.2.2.2.2.2.2.2.2.2.2.2.1
theorem dk_g57 : ∀ pc : Nat, dk_G pc 57 = (Reader.u1 >>= fun x => Pure.pure (Instr.dstore x)) := (Classical.choose_spec dk_ex).2.2.2.2.2.2.2.2.2.2.2.2.2.2.2.2.2.2.2.2.2.2.2.2.2.2.2.2.2.2.2.2.2.2.2.2.2.2.2.2.2.2.2.2.2.2.2.2.2.2.2.2.2.2.2.2.2.2.1
theorem dk_g58 : ∀ pc : Nat, dk_G pc 58 = (Reader.u1 >>= fun x => Pure.pure (Instr.astore x)) := (Classical.choose_spec dk_ex).2.2.2.2.2.2.2.2.2.2.2.2.2.2.2.2.2.2.2.2.2.2.2.2.2.2.2.2.2.2.2.2.2.2.2.2.2.2.2.2.2.2.2.2.2.2.2.2.2.2.2.2.2.2.2.2.2.2.2.1
theorem dk_g59 : ∀ pc : Nat, dk_G pc 59 = Pure.pure (Instr.istore_n 0) := (Classical.choose_spec dk_ex).2.2.2.2.2.2.2.2.2.2.2.2.2.2.2.2.2.2.2.2.2.2.2.2.2.2.2.2.2.2.2.2.2.2.2.2.2.2.2.2.2.2.2.2.2.2.2.2.2.2.2.2.2.2.2.2.2.2.2.2.1
theorem dk_g60 : ∀ pc : Nat, dk_G pc 60 = Pure.pure (Instr.istore_n 1) := (Classical.choose_spec dk_ex).2.2.2.2.2.2.2.2.2.2.2.2.2.2.2.2.2.2.2.2.2.2.2.2.2.2.2.2.2.2.2.2.2.2.2.2.2.2.2.2.2.2.2.2.2.2.2.2.2.2.2.2.2.2.2.2.2.2.2.2.2.1
theorem dk_g61 : ∀ pc : Nat, dk_G pc 61 = Pure.pure (Instr.istore_n 2) := (Classical.choose_spec dk_ex).2.2.2.2.2.2.2.2.2.2.2.2.2.2.2.2.2.2.2.2.2.2.2.2.2.2.2.2.2.2.2.2.2.2.2.2.2.2.2.2.2.2.2.2.2.2.2.2.2.2.2.2.2.2.2.2.2.2.2.2.2.2.1
theorem dk_g62 : ∀ pc : Nat, dk_G pc 62 = Pure.pure (Instr.istore_n 3) := (Classical.choose_spec dk_ex).2.2.2.2.2.2.2.2.2.2.2.2.2.2.2.2.2.2.2.2.2.2.2.2.2.2.2.2.2.2.2.2.2.2.2.2.2.2.2.2.2.2.2.2.2.2.2.2.2.2.2.2.2.2.2.2.2.2.2.2.2.2.2.1
theorem dk_g63 : ∀ pc : Nat, dk_G pc 63 = Pure.pure (Instr.lstore_n 0) := (Classical.choose_spec dk_ex).2.2.2.2.2.2.2.2.2.2.2.2.2.2.2.2.2.2.2.2.2.2.2.2.2.2.2.2.2.2.2.2.2.2.2.2.2.2.2.2.2.2.2.2.2.2.2.2.2.2.2.2.2.2.2.2.2.2.2.2.2.2.2.2.1
theorem dk_g64 : ∀ pc : Nat, dk_G pc 64 = Pure.pure (Instr.lstore_n 1) := (Classical.choose_spec dk_ex).2.2.2.2.2.2.2.2.2.2.2.2.2.2.2.2.2.2.2.2.2.2.2.2.2.2.2.2.2.2.2.2.2.2.2.2.2.2.2.2.2.2.2.2.2.2.2.2.2.2.2.2.2.2.2.2.2.2.2.2.2.2.2.2.2.1
theorem dk_g65 : ∀ pc : Nat, dk_G pc 65 = Pure.pure (Instr.lstore_n 2) := (Classical.choose_spec dk_ex).2.2.2.2.2.2.2.2.2.2.2.2.2.2.2.2.2.2.2.2.2.2.2.2.2.2.2.2.2.2.2.2.2.2.2.2.2.2.2.2.2.2.2.2.2.2.2.2.2.2.2.2.2.2.2.2.2.2.2.2.2.2.2.2.2.2.1
theorem dk_g66 : ∀ pc : Nat, dk_G pc 66 = Pure.pure (Instr.lstore_n 3) := (Classical.choose_spec dk_ex).2.2.2.2.2.2.2.2.2.2.2.2.2.2.2.2.2.2.2.2.2.2.2.2.2.2.2.2.2.2.2.2.2.2.2.2.2.2.2.2.2.2.2.2.2.2.2.2.2.2.2.2.2.2.2.2.2.2.2.2.2.2.2.2.2.2.2.1
theorem dk_g67 : ∀ pc : Nat, dk_G pc 67 = Pure.pure (Instr.fstore_n 0) := (Classical.choose_spec dk_ex).2.2.2.2.2.2.2.2.2.2.2.2.2.2.2.2.2.2.2.2.2.2.2.2.2.2.2.2.2.2.2.2.2.2.2.2.2.2.2.2.2.2.2.2.2.2.2.2.2.2.2.2.2.2.2.2.2.2.2.2.2.2.2.2.2.2.2.2.1
theorem dk_g68 : ∀ pc : Nat, dk_G pc 68 = Pure.pure (Instr.fstore_n 1) := (Classical.choose_spec dk_ex).2.2.2.2.2.2.2.2.2.2.2.2.2.2.2.2.2.2.2.2.2.2.2.2.2.2.2.2.2.2.2.2.2.2.2.2.2.2.2.2.2.2.2.2.2.2.2.2.2.2.2.2.2.2.2.2.2.2.2.2.2.2.2.2.2.2.2.2.2.1
theorem dk_g69 : ∀ pc : Nat, dk_G pc 69 = Pure.pure (Instr.fstore_n 2) := (Classical.choose_spec dk_ex).2.2.2.2.2.2.2.2.2.2.2.2.2.2.2.2.2.2.2.2.2.2.2.2.2.2.2.2.2.2.2.2.2.2.2.2.2.2.2.2.2.2.2.2.2.2.2.2.2.2.2.2.2.2.2.2.2.2.2.2.2.2.2.2.2.2.2.2.2.2.1
theorem dk_g70 : ∀ pc : Nat, dk_G pc 70 = Pure.pure (Instr.fstore_n 3) := (Classical.choose_spec dk_ex).2.2.2.2.2.2.2.2.2.2.2.2.2.2.2.2.2.2.2.2.2.2.2.2.2.2.2.2.2.2.2.2.2.2.2.2.2.2.2.2.2.2.2.2.2.2.2.2.2.2.2.2.2.2.2.2.2.2.2.2.2.2.2.2.2.2.2.2.2.2.2.1
theorem dk_g71 : ∀ pc : Nat, dk_G pc 71 = Pure.pure (Instr.dstore_n 0) := (Classical.choose_spec dk_ex).2.2.2.2.2.2.2.2.2.2.2.2.2.2.2.2.2.2.2.2.2.2.2.2.2.2.2.2.2.2.2.2.2.2.2.2.2.2.2.2.2.2.2.2.2.2.2.2.2.2.2.2.2.2.2.2.2.2.2.2.2.2.2.2.2.2.2.2.2.2.2.2.1
theorem dk_g72 : ∀ pc : Nat, dk_G pc 72 = Pure.pure (Instr.dstore_n 1) := (Classical.choose_spec dk_ex).2.2.2.2.2.2.2.2.2.2.2.2.2.2.2.2.2.2.2.2.2.2.2.2.2.2.2.2.2.2.2.2.2.2.2.2.2.2.2.2.2.2.2.2.2.2.2.2.2.2.2.2.2.2.2.2.2.2.2.2.2.2.2.2.2.2.2.2.2.2.2.2.2.1
theorem dk_g73 : ∀ pc : Nat, dk_G pc 73 = Pure.pure (Instr.dstore_n 2) := (Classical.choose_spec dk_ex).2.2.2.2.2.2.2.2.2.2.2.2.2.2.2.2.2.2.2.2.2.2.2.2.2.2.2.2.2.2.2.2.2.2.2.2.2.2.2.2.2.2.2.2.2.2.2.2.2.2.2.2.2.2.2.2.2.2.2.2.2.2.2.2.2.2.2.2.2.2.2.2.2.2.1
theorem dk_g74 : ∀ pc : Nat, dk_G pc 74 = Pure.pure (Instr.dstore_n 3) := (Classical.choose_spec dk_ex).2.2.2.2.2.2.2.2.2.2.2.2.2.2.2.2.2.2.2.2.2.2.2.2.2.2.2.2.2.2.2.2.2.2.2.2.2.2.2.2.2.2.2.2.2.2.2.2.2.2.2.2.2.2.2.2.2.2.2.2.2.2.2.2.2.2.2.2.2.2.2.2.2.2.2.1
theorem dk_g75 : ∀ pc : Nat, dk_G pc 75 = Pure.pure (Instr.astore_n 0) := (Classical.choose_spec dk_ex).2.2.2.2.2.2.2.2.2.2.2.2.2.2.2.2.2.2.2.2.2.2.2.2.2.2.2.2.2.2.2.2.2.2.2.2.2.2.2.2.2.2.2.2.2.2.2.2.2.2.2.2.2.2.2.2.2.2.2.2.2.2.2.2.2.2.2.2.2.2.2.2.2.2.2.2.1
theorem dk_g76 : ∀ pc : Nat, dk_G pc 76 = Pure.pure (Instr.astore_n 1) := (Classical.choose_spec dk_ex).2.2.2.2.2.2.2.2.2.2.2.2.2.2.2.2.2.2.2.2.2.2.2.2.2.2.2.2.2.2.2.2.2.2.2.2.2.2.2.2.2.2.2.2.2.2.2.2.2.2.2.2.2.2.2.2.2.2.2.2.2.2.2.2.2.2.2.2.2.2.2.2.2.2.2.2.2.1
theorem dk_g77 : ∀ pc : Nat, dk_G pc 77 = Pure.pure (Instr.astore_n 2) := (Classical.choose_spec dk_ex).2.2.2.2.2.2.2.2.2.2.2.2.2.2.2.2.2.2.2.2.2.2.2.2.2.2.2.2.2.2.2.2.2.2.2.2.2.2.2.2.2.2.2.2.2.2.2.2.2.2.2.2.2.2.2.2.2.2.2.2.2.2.2.2.2.2.2.2.2.2.2.2.2.2.2.2.2.2.1
theorem dk_g78 : ∀ pc : Nat, dk_G pc 78 = Pure.pure (Instr.astore_n 3) := (Classical.choose_spec dk_ex).2.2.2.2.2.2.2.2.2.2.2.2.2.2.2.2.2.2.2.2.2.2.2.2.2.2.2.2.2.2.2.2.2.2.2.2.2.2.2.2.2.2.2.2.2.2.2.2.2.2.2.2.2.2.2.2.2.2.2.2.2.2.2.2.2.2.2.2.2.2.2.2.2.2.2.2.2.2.2.1
theorem dk_g79 : ∀ pc : Nat, dk_G pc 79 = Pure.pure (Instr.iastore) := (Classical.choose_spec dk_ex).2.2.2.2.2.2.2.2.2.2.2.2.2.2.2.2.2.2.2.2.2.2.2.2.2.2.2.2.2.2.2.2.2.2.2.2.2.2.2.2.2.2.2.2.2.2.2.2.2.2.2.2.2.2.2.2.2.2.2.2.2.2.2.2.2.2.2.2.2.2.2.2.2.2.2.2.2.2.2.2.1
theorem dk_g80 : ∀ pc : Nat, dk_G pc 80 = Pure.pure (Instr.lastore) := (Classical.choose_spec dk_ex).2.2.2.2.2.2.2.2.2.2.2.2.2.2.2.2.2.2.2.2.2.2.2.2.2.2.2.2.2.2.2.2.2.2.2.2.2.2.2.2.2.2.2.2.2.2.2.2.2.2.2.2.2.2.2.2.2.2.2.2.2.2.2.2.2.2.2.2.2.2.2.2.2.2.2.2.2.2.2.2.2.1
theorem dk_g81 : ∀ pc : Nat, dk_G pc 81 = Pure.pure (Instr.fastore) := (Classical.choose_spec dk_ex).2.2.2.2.2.2.2.2.2.2.2.2.2.2.2.2.2.2.2.2.2.2.2.2.2.2.2.2.2.2.2.2.2.2.2.2.2.2.2.2.2.2.2.2.2.2.2.2.2.2.2.2.2.2.2.2.2.2.2.2.2.2.2.2.2.2.2.2.2.2.2.2.2.2.2.2.2.2.2.2.2.2.1
theorem dk_g82 : ∀ pc : Nat, dk_G pc 82 = Pure.pure (Instr.dastore) := (Classical.choose_spec dk_ex).2.2.2.2.2.2.2.2.2.2.2.2.2.2.2.2.2.2.2.2.2.2.2.2.2.2.2.2.2.2.2.2.2.2.2.2.2.2.2.2.2.2.2.2.2.2.2.2.2.2.2.2.2.2.2.2.2.2.2.2.2.2.2.2.2.2.2.2.2.2.2.2.2.2.2.2.2.2.2.2.2.2.2.1
theorem dk_g83 : ∀ pc : Nat, dk_G pc 83 = Pure.pure (Instr.aastore) := (Classical.choose_spec dk_ex).2.2.2.2.2.2.2.2.2.2.2.2.2.2.2.2.2.2.2.2.2.2.2.2.2.2.2.2.2.2.2.2.2.2.2.2.2.2.2.2.2.2.2.2.2.2.2.2.2.2.2.2.2.2.2.2.2.2.2.2.2.2.2.2.2.2.2.2.2.2.2.2.2.2.2.2.2.2.2.2.2.2.2.2.1
theorem dk_g84 : ∀ pc : Nat, dk_G pc 84 = Pure.pure (Instr.bastore) := (Classical.choose_spec dk_ex).2.2.2.2.2.2.2.2.2.2.2.2.2.2.2.2.2.2.2.2.2.2.2.2.2.2.2.2.2.2.2.2.2.2.2.2.2.2.2.2.2.2.2.2.2.2.2.2.2.2.2.2.2.2.2.2.2.2.2.2.2.2.2.2.2.2.2.2.2.2.2.2.2.2.2.2.2.2.2.2.2.2.2.2.2.1
theorem dk_g85 : ∀ pc : Nat, dk_G pc 85 = Pure.pure (Instr.castore) := (Classical.choose_spec dk_ex).2.2.2.2.2.2.2.2.2.2.2.2.2.2.2.2.2.2.2.2.2.2.2.2.2.2.2.2.2.2.2.2.2.2.2.2.2.2.2.2.2.2.2.2.2.2.2.2.2.2.2.2.2.2.2.2.2.2.2.2.2.2.2.2.2.2.2.2.2.2.2.2.2.2.2.2.2.2.2.2.2.2.2.2.2.2.1
theorem dk_g86 : ∀ pc : Nat, dk_G pc 86 = Pure.pure (Instr.sastore) := (Classical.choose_spec dk_ex).2.2.2.2.2.2.2.2.2.2.2.2.2.2.2.2.2.2.2.2.2.2.2.2.2.2.2.2.2.2.2.2.2.2.2.2.2.2.2.2.2.2.2.2.2.2.2.2.2.2.2.2.2.2.2.2.2.2.2.2.2.2.2.2.2.2.2.2.2.2.2.2.2.2.2.2.2.2.2.2.2.2.2.2.2.2.2.1
theorem dk_g87 : ∀ pc : Nat, dk_G pc 87 = Pure.pure (Instr.pop) := (Classical.choose_spec dk_ex).2.2.2.2.2.2.2.2.2.2.2.2.2.2.2.2.2.2.2.2.2.2.2.2.2.2.2.2.2.2.2.2.2.2.2.2.2.2.2.2.2.2.2.2.2.2.2.2.2.2.2.2.2.2.2.2.2.2.2.2.2.2.2.2.2.2.2.2.2.2.2.2.2.2.2.2.2.2.2.2.2.2.2.2.2.2.2.2.1
theorem dk_g88 : ∀ pc : Nat, dk_G pc 88 = Pure.pure (Instr.pop2) := (Classical.choose_spec dk_ex).2.2.2.2.2.2.2.2.2.2.2.2.2.2.2.2.2.2.2.2.2.2.2.2.2.2.2.2.2.2.2.2.2.2.2.2.2.2.2.2.2.2.2.2.2.2.2.2.2.2.2.2.2.2.2.2.2.2.2.2.2.2.2.2.2.2.2.2.2.2.2.2.2.2.2.2.2.2.2.2.2.2.2.2.2.2.2.2.2.1
theorem dk_g89 : ∀ pc : Nat, dk_G pc 89 = Pure.pure (Instr.dup) := (Classical.choose_spec dk_ex).2.2.2.2.2.2.2.2.2.2.2.2.2.2.2.2.2.2.2.2.2.2.2.2.2.2.2.2.2.2.2.2.2.2.2.2.2.2.2.2.2.2.2.2.2.2.2.2.2.2.2.2.2.2.2.2.2.2.2.2.2.2.2.2.2.2.2.2.2.2.2.2.2.2.2.2.2.2.2.2.2.2.2.2.2.2.2.2.2.2.1
theorem dk_g90 : ∀ pc : Nat, dk_G pc 90 = Pure.pure (Instr.dup_x1) := (Classical.choose_spec dk_ex).2.2.2.2.2.2.2.2.2.2.2.2.2.2.2.2.2.2.2.2.2.2.2.2.2.2.2.2.2.2.2.2.2.2.2.2.2.2.2.2.2.2.2.2.2.2.2.2.2.2.2.2.2.2.2.2.2.2.2.2.2.2.2.2.2.2.2.2.2.2.2.2.2.2.2.2.2.2.2.2.2.2.2.2.2.2.2.2.2.2.2.1
theorem dk_g91 : ∀ pc : Nat, dk_G pc 91 = Pure.pure (Instr.dup_x2) := (Classical.choose_spec dk_ex).2.2.2.2.2.2.2.2.2.2.2.2.2.2.2.2.2.2.2.2.2.2.2.2.2.2.2.2.2.2.2.2.2.2.2.2.2.2.2.2.2.2.2.2.2.2.2.2.2.2.2.2.2.2.2.2.2.2.2.2.2.2.2.2.2.2.2.2.2.2.2.2.2.2.2.2.2.2.2.2.2.2.2.2.2.2.2.2.2.2.2.2.1
theorem dk_g92 : ∀ pc : Nat, dk_G pc 92 = Pure.pure (Instr.dup2) := (Classical.choose_spec dk_ex).2.2.2.2.2.2.2.2.2.2.2.2.2.2.2.2.2.2.2.2.2.2.2.2.2.2.2.2.2.2.2.2.2.2.2.2.2.2.2.2.2.2.2.2.2.2.2.2.2.2.2.2.2.2.2.2.2.2.2.2.2.2.2.2.2.2.2.2.2.2.2.2.2.2.2.2.2.2.2.2.2.2.2.2.2.2.2.2.2.2.2.2.2.1
theorem dk_g93 : ∀ pc : Nat, dk_G pc 93 = Pure.pure (Instr.dup2_x1) := (Classical.choose_spec dk_ex).2.2.2.2.2.2.2.2.2.2.2.2.2.2.2.2.2.2.2.2.2.2.2.2.2.2.2.2.2.2.2.2.2.2.2.2.2.2.2.2.2.2.2.2.2.2.2.2.2.2.2.2.2.2.2.2.2.2.2.2.2.2.2.2.2.2.2.2.2.2.2.2.2.2.2.2.2.2.2.2.2.2.2.2.2.2.2.2.2.2.2.2.2.2.1
theorem dk_g94 : ∀ pc : Nat, dk_G pc 94 = Pure.pure (Instr.dup2_x2) := (Classical.choose_spec dk_ex).2.2.2.2.2.2.2.2.2.2.2.2.2.2.2.2.2.2.2.2.2.2.2.2.2.2.2.2.2.2.2.2.2.2.2.2.2.2.2.2.2.2.2.2.2.2.2.2.2.2.2.2.2.2.2.2.2.2.2.2.2.2.2.2.2.2.2.2.2.2.2.2.2.2.2.2.2.2.2.2.2.2.2.2.2.2.2.2.2.2.2.2.2.2.2.1
theorem dk_g95 : ∀ pc : Nat, dk_G pc 95 = Pure.pure (Instr.swap) := (Classical.choose_spec dk_ex).2.2.2.2.2.2.2.2.2.2.2.2.2.2.2.2.2.2.2.2.2.2.2.2.2.2.2.2.2.2.2.2.2.2.2.2.2.2.2.2.2.2.2.2.2.2.2.2.2.2.2.2.2.2.2.2.2.2.2.2.2.2.2.2.2.2.2.2.2.2.2.2.2.2.2.2.2.2.2.2.2.2.2.2.2.2.2.2.2.2.2.2.2.2.2.2.1
theorem dk_g96 : ∀ pc : Nat, dk_G pc 96 = Pure.pure (Instr.iadd) := (Classical.choose_spec dk_ex).2.2.2.2.2.2.2.2.2.2.2.2.2.2.2.2.2.2.2.2.2.2.2.2.2.2.2.2.2.2.2.2.2.2.2.2.2.2.2.2.2.2.2.2.2.2.2.2.2.2.2.2.2.2.2.2.2.2.2.2.2.2.2.2.2.2.2.2.2.2.2.2.2.2.2.2.2.2.2.2.2.2.2.2.2.2.2.2.2.2.2.2.2.2.2.2.2.1
theorem dk_g97 : ∀ pc : Nat, dk_G pc 97 = Pure.pure (Instr.ladd) := (Classical.choose_spec dk_ex).2.2.2.2.2.2.2.2.2.2.2.2.2.2.2.2.2.2.2.2.2.2.2.2.2.2.2.2.2.2.2.2.2.2.2.2.2.2.2.2.2.2.2.2.2.2.2.2.2.2.2.2.2.2.2.2.2.2.2.2.2.2.2.2.2.2.2.2.2.2.2.2.2.2.2.2.2.2.2.2.2.2.2.2.2.2.2.2.2.2.2.2.2.2.2.2.2.2.1
theorem dk_g98 : ∀ pc : Nat, dk_G pc 98 = Pure.pure (Instr.fadd) := (Classical.choose_spec dk_ex).2.2.2.2.2.2.2.2.2.2.2.2.2.2.2.2.2.2.2.2.2.2.2.2.2.2.2.2.2.2.2.2.2.2.2.2.2.2.2.2.2.2.2.2.2.2.2.2.2.2.2.2.2.2.2.2.2.2.2.2.2.2.2.2.2.2.2.2.2.2.2.2.2.2.2.2.2.2.2.2.2.2.2.2.2.2.2.2.2.2.2.2.2.2.2.2.2.2.2.1
theorem dk_g99 : ∀ pc : Nat, dk_G pc 99 = Pure.pure (Instr.dadd) := (Classical.choose_spec dk_ex).2.2.2.2.2.2.2.2.2.2.2.2.2.2.2.2.2.2.2.2.2.2.2.2.2.2.2.2.2.2.2.2.2.2.2.2.2.2.2.2.2.2.2.2.2.2.2.2.2.2.2.2.2.2.2.2.2.2.2.2.2.2.2.2.2.2.2.2.2.2.2.2.2.2.2.2.2.2.2.2.2.2.2.2.2.2.2.2.2.2.2.2.2.2.2.2.2.2.2.2.1
theorem dk_g100 : ∀ pc : Nat, dk_G pc 100 = Pure.pure (Instr.isub) := (Classical.choose_spec dk_ex).2.2.2.2.2.2.2.2.2.2.2.2.2.2.2.2.2.2.2.2.2.2.2.2.2.2.2.2.2.2.2.2.2.2.2.2.2.2.2.2.2.2.2.2.2.2.2.2.2.2.2.2.2.2.2.2.2.2.2.2.2.2.2.2.2.2.2.2.2.2.2.2.2.2.2.2.2.2.2.2.2.2.2.2.2.2.2.2.2.2.2.2.2.2.2.2.2.2.2.2.2.1
theorem dk_g101 : ∀ pc : Nat, dk_G pc 101 = Pure.pure (Instr.lsub) := (Classical.choose_spec dk_ex).2.2.2.2.2.2.2.2.2.2.2.2.2.2.2.2.2.2.2.2.2.2.2.2.2.2.2.2.2.2.2.2.2.2.2.2.2.2.2.2.2.2.2.2.2.2.2.2.2.2.2.2.2.2.2.2.2.2.2.2.2.2.2.2.2.2.2.2.2.2.2.2.2.2.2.2.2.2.2.2.2.2.2.2.2.2.2.2.2.2.2.2.2.2.2.2.2.2.2.2.2.2.1
theorem dk_g102 : ∀ pc : Nat, dk_G pc 102 = Pure.pure (Instr.fsub) := (Classical.choose_spec dk_ex).2.2.2.2.2.2.2.2.2.2.2.2.2.2.2.2.2.2.2.2.2.2.2.2.2.2.2.2.2.2.2.2.2.2.2.2.2.2.2.2.2.2.2.2.2.2.2.2.2.2.2.2.2.2.2.2.2.2.2.2.2.2.2.2.2.2.2.2.2.2.2.2.2.2.2.2.2.2.2.2.2.2.2.2.2.2.2.2.2.2.2.2.2.2.2.2.2.2.2.2.2.2.2.1
theorem dk_g103 : ∀ pc : Nat, dk_G pc 103 = Pure.pure (Instr.dsub) := (Classical.choose_spec dk_ex).2.2.2.2.2.2.2.2.2.2.2.2.2.2.2.2.2.2.2.2.2.2.2.2.2.2.2.2.2.2.2.2.2.2.2.2.2.2.2.2.2.2.2.2.2.2.2.2.2.2.2.2.2.2.2.2.2.2.2.2.2.2.2.2.2.2.2.2.2.2.2.2.2.2.2.2.2.2.2.2.2.2.2.2.2.2.2.2.2.2.2.2.2.2.2.2.2.2.2.2.2.2.2.2.1
theorem dk_g104 : ∀ pc : Nat, dk_G pc 104 = Pure.pure (Instr.imul) := (Classical.choose_spec dk_ex).2.2.2.2.2.2.2.2.2.2.2.2.2.2.2.2.2.2.2.2.2.2.2.2.2.2.2.2.2.2.2.2.2.2.2.2.2.2.2.2.2.2.2.2.2.2.2.2.2.2.2.2.2.2.2.2.2.2.2.2.2.2.2.2.2.2.2.2.2.2.2.2.2.2.2.2.2.2.2.2.2.2.2.2.2.2.2.2.2.2.2.2.2.2.2.2.2.2.2.2.2.2.2.2.2.1
theorem dk_g105 : ∀ pc : Nat, dk_G pc 105 = Pure.pure (Instr.lmul) := (Classical.choose_spec dk_ex).2.2.2.2.2.2.2.2.2.2.2.2.2.2.2.2.2.2.2.2.2.2.2.2.2.2.2.2.2.2.2.2.2.2.2.2.2.2.2.2.2.2.2.2.2.2.2.2.2.2.2.2.2.2.2.2.2.2.2.2.2.2.2.2.2.2.2.2.2.2.2.2.2.2.2.2.2.2.2.2.2.2.2.2.2.2.2.2.2.2.2.2.2.2.2.2.2.2.2.2.2.2.2.2.2.2.1
theorem dk_g106 : ∀ pc : Nat, dk_G pc 106 = Pure.pure (Instr.fmul) := (Classical.choose_spec dk_ex).2.2.2.2.2.2.2.2.2.2.2.2.2.2.2.2.2.2.2.2.2.2.2.2.2.2.2.2.2.2.2.2.2.2.2.2.2.2.2.2.2.2.2.2.2.2.2.2.2.2.2.2.2.2.2.2.2.2.2.2.2.2.2.2.2.2.2.2.2.2.2.2.2.2.2.2.2.2.2.2.2.2.2.2.2.2.2.2.2.2.2.2.2.2.2.2.2.2.2.2.2.2.2.2.2.2.2.1
theorem dk_g107 : ∀ pc : Nat, dk_G pc 107 = Pure.pure (Instr.dmul) := (Classical.choose_spec dk_ex).2.2.2.2.2.2.2.2.2.2.2.2.2.2.2.2.2.2.2.2.2.2.2.2.2.2.2.2.2.2.2.2.2.2.2.2.2.2.2.2.2.2.2.2.2.2.2.2.2.2.2.2.2.2.2.2.2.2.2.2.2.2.2.2.2.2.2.2.2.2.2.2.2.2.2.2.2.2.2.2.2.2.2.2.2.2.2.2.2.2.2.2.2.2.2.2.2.2.2.2.2.2.2.2.2.2.2.2.1
theorem dk_g108 : ∀ pc : Nat, dk_G pc 108 = Pure.pure (Instr.idiv) := (Classical.choose_spec dk_ex).2.2.2.2.2.2.2.2.2.2.2.2.2.2.2.2.2.2.2.2.2.2.2.2.2.2.2.2.2.2.2.2.2.2.2.2.2.2.2.2.2.2.2.2.2.2.2.2.2.2.2.2.2.2.2.2.2.2.2.2.2.2.2.2.2.2.2.2.2.2.2.2.2.2.2.2.2.2.2.2.2.2.2.2.2.2.2.2.2.2.2.2.2.2.2.2.2.2.2.2.2.2.2.2.2.2.2.2.2.1
theorem dk_g109 : ∀ pc : Nat, dk_G pc 109 = Pure.pure (Instr.ldiv) := (Classical.choose_spec dk_ex).2.2.2.2.2.2.2.2.2.2.2.2.2.2.2.2.2.2.2.2.2.2.2.2.2.2.2.2.2.2.2.2.2.2.2.2.2.2.2.2.2.2.2.2.2.2.2.2.2.2.2.2.2.2.2.2.2.2.2.2.2.2.2.2.2.2.2.2.2.2.2.2.2.2.2.2.2.2.2.2.2.2.2.2.2.2.2.2.2.2.2.2.2.2.2.2.2.2.2.2.2.2.2.2.2.2.2.2.2.2.1
theorem dk_g110 : ∀ pc : Nat, dk_G pc 110 = Pure.pure (Instr.fdiv) := (Classical.choose_spec dk_ex).2.2.2.2.2.2.2.2.2.2.2.2.2.2.2.2.2.2.2.2.2.2.2.2.2.2.2.2.2.2.2.2.2.2.2.2.2.2.2.2.2.2.2.2.2.2.2.2.2.2.2.2.2.2.2.2.2.2.2.2.2.2.2.2.2.2.2.2.2.2.2.2.2.2.2.2.2.2.2.2.2.2.2.2.2.2.2.2.2.2.2.2.2.2.2.2.2.2.2.2.2.2.2.2.2.2.2.2.2.2.2.1
theorem dk_g111 : ∀ pc : Nat, dk_G pc 111 = Pure.pure (Instr.ddiv) := (Classical.choose_spec dk_ex).2.2.2.2.2.2.2.2.2.2.2.2.2.2.2.2.2.2.2.2.2.2.2.2.2.2.2.2.2.2.2.2.2.2.2.2.2.2.2.2.2.2.2.2.2.2.2.2.2.2.2.2.2.2.2.2.2.2.2.2.2.2.2.2.2.2.2.2.2.2.2.2.2.2.2.2.2.2.2.2.2.2.2.2.2.2.2.2.2.2.2.2.2.2.2.2.2.2.2.2.2.2.2.2.2.2.2.2.2.2.2.2.1
theorem dk_g112 : ∀ pc : Nat, dk_G pc 112 = Pure.pure (Instr.irem) := (Classical.choose_spec dk_ex).2.2.2.2.2.2.2.2.2.2.2.2.2.2.2.2.2.2.2.2.2.2.2.2.2.2.2.2.2.2.2.2.2.2.2.2.2.2.2.2.2.2.2.2.2.2.2.2.2.2.2.2.2.2.2.2.2.2.2.2.2.2.2.2.2.2.2.2.2.2.2.2.2.2.2.2.2.2.2.2.2.2.2.2.2.2.2.2.2.2.2.2.2.2.2.2.2.2.2.2.2.2.2.2.2.2.2.2.2.2.2.2.2.1
theorem dk_g113 : ∀ pc : Nat, dk_G pc 113 = Pure.pure (Instr.lrem) := (Classical.choose_spec dk_ex).2.2.2.2.2.2.2.2.2.2.2.2.2.2.2.2.2.2.2.2.2.2.2.2.2.2.2.2.2.2.2.2.2.2.2.2.2.2.2.2.2.2.2.2.2.2.2.2.2.2.2.2.2.2.2.2.2.2.2.2.2.2.2.2.2.2.2.2.2.2.2.2.2.2.2.2.2.2.2.2.2.2.2.2.2.2.2.2.2.2.2.2.2.2.2.2.2.2.2.2.2.2.2.2.2.2.2.2.2.2.2.2.2.2.1
theorem dk_g114 : ∀ pc : Nat, dk_G pc 114 = Pure.pure (Instr.frem) := (Classical.choose_spec dk_ex).2.2.2.2.2.2.2.2.2.2.2.2.2.2.2.2.2.2.2.2.2.2.2.2.2.2.2.2.2.2.2.2.2.2.2.2.2.2.2.2.2.2.2.2.2.2.2.2.2.2.2.2.2.2.2.2.2.2.2.2.2.2.2.2.2.2.2.2.2.2.2.2.2.2.2.2.2.2.2.2.2.2.2.2.2.2.2.2.2.2.2.2.2.2.2.2.2.2.2.2.2.2.2.2.2.2.2.2.2.2.2.2.2.2.2.1
theorem dk_g115 : ∀ pc : Nat, dk_G pc 115 = Pure.pure (Instr.drem) := (Classical.choose_spec dk_ex).2.2.2.2.2.2.2.2.2.2.2.2.2.2.2.2.2.2.2.2.2.2.2.2.2.2.2.2.2.2.2.2.2.2.2.2.2.2.2.2.2.2.2.2.2.2.2.2.2.2.2.2.2.2.2.2.2.2.2.2.2.2.2.2.2.2.2.2.2.2.2.2.2.2.2.2.2.2.2.2.2.2.2.2.2.2.2.2.2.2.2.2.2.2.2.2.2.2.2.2.2.2.2.2.2.2.2.2.2.2.2.2.2.2.2.2.1
theorem dk_g116 : ∀ pc : Nat, dk_G pc 116 = Pure.pure (Instr.ineg) := (Classical.choose_spec dk_ex).2.2.2.2.2.2.2.2.2.2.2.2.2.2.2.2.2.2.2.2.2.2.2.2.2.2.2.2.2.2.2.2.2.2.2.2.2.2.2.2.2.2.2.2.2.2.2.2.2.2.2.2.2.2.2.2.2.2.2.2.2.2.2.2.2.2.2.2.2.2.2.2.2.2.2.2.2.2.2.2.2.2.2.2.2.2.2.2.2.2.2.2.2.2.2.2.2.2.2.2.2.2.2.2.2.2.2.2.2.2.2.2.2.2.2.2.2.1
theorem dk_g117 : ∀ pc : Nat, dk_G pc 117 = Pure.pure (Instr.lneg) := (Classical.choose_spec dk_ex).2.2.2.2.2.2.2.2.2.2.2.2.2.2.2.2.2.2.2.2.2.2.2.2.2.2.2.2.2.2.2.2.2.2.2.2.2.2.2.2.2.2.2.2.2.2.2.2.2.2.2.2.2.2.2.2.2.2.2.2.2.2.2.2.2.2.2.2.2.2.2.2.2.2.2.2.2.2.2.2.2.2.2.2.2.2.2.2.2.2.2.2.2.2.2.2.2.2.2.2.2.2.2.2.2.2.2.2.2.2.2.2.2.2.2.2.2.2.1
theorem dk_g118 : ∀ pc : Nat, dk_G pc 118 = Pure.pure (Instr.fneg) := (Classical.choose_spec dk_ex).2.2.2.2.2.2.2.2.2.2.2.2.2.2.2.2.2.2.2.2.2.2.2.2.2.2.2.2.2.2.2.2.2.2.2.2.2.2.2.2.2.2.2.2.2.2.2.2.2.2.2.2.2.2.2.2.2.2.2.2.2.2.2.2.2.2.2.2.2.2.2.2.2.2.2.2.2.2.2.2.2.2.2.2.2.2.2.2.2.2.2.2.2.2.2.2.2.2.2.2.2.2.2.2.2.2.2.2.2.2.2.2.2.2.2.2.2.2.2.1
theorem dk_g119 : ∀ pc : Nat, dk_G pc 119 = Pure.pure (Instr.dneg) := (Classical.choose_spec dk_ex).2.2.2.2.2.2.2.2.2.2.2.2.2.2.2.2.2.2.2.2.2.2.2.2.2.2.2.2.2.2.2.2.2.2.2.2.2.2.2.2.2.2.2.2.2.2.2.2.2.2.2.2.2.2.2.2.2.2.2.2.2.2.2.2.2.2.2.2.2.2.2.2.2.2.2.2.2.2.2.2.2.2.2.2.2.2.2.2.2.2.2.2.2.2.2.2.2.2.2.2.2.2.2.2.2.2.2.2.2.2.2.2.2.2.2.2.2.2.2.2.1
theorem dk_g120 : ∀ pc : Nat, dk_G pc 120 = Pure.pure (Instr.ishl) := (Classical.choose_spec dk_ex).2.2.2.2.2.2.2.2.2.2.2.2.2.2.2.2.2.2.2.2.2.2.2.2.2.2.2.2.2.2.2.2.2.2.2.2.2.2.2.2.2.2.2.2.2.2.2.2.2.2.2.2.2.2.2.2.2.2.2.2.2.2.2.2.2.2.2.2.2.2.2.2.2.2.2.2.2.2.2.2.2.2.2.2.2.2.2.2.2.2.2.2.2.2.2.2.2.2.2.2.2.2.2.2.2.2.2.2.2.2.2.2.2.2.2.2.2.2.2.2.2.1
theorem dk_g121 : ∀ pc : Nat, dk_G pc 121 = Pure.pure (Instr.lshl) := (Classical.choose_spec dk_ex).2.2.2.2.2.2.2.2.2.2.2.2.2.2.2.2.2.2.2.2.2.2.2.2.2.2.2.2.2.2.2.2.2.2.2.2.2.2.2.2.2.2.2.2.2.2.2.2.2.2.2.2.2.2.2.2.2.2.2.2.2.2.2.2.2.2.2.2.2.2.2.2.2.2.2.2.2.2.2.2.2.2.2.2.2.2.2.2.2.2.2.2.2.2.2.2.2.2.2.2.2.2.2.2.2.2.2.2.2.2.2.2.2.2.2.2.2.2.2.2.2.2.1
theorem dk_g122 : ∀ pc : Nat, dk_G pc 122 = Pure.pure (Instr.ishr) := (Classical.choose_spec dk_ex).2.2.2.2.2.2.2.2.2.2.2.2.2.2.2.2.2.2.2.2.2.2.2.2.2.2.2.2.2.2.2.2.2.2.2.2.2.2.2.2.2.2.2.2.2.2.2.2.2.2.2.2.2.2.2.2.2.2.2.2.2.2.2.2.2.2.2.2.2.2.2.2.2.2.2.2.2.2.2.2.2.2.2.2.2.2.2.2.2.2.2.2.2.2.2.2.2.2.2.2.2.2.2.2.2.2.2.2.2.2.2.2.2.2.2.2.2.2.2.2.2.2.2.1
theorem dk_g123 : ∀ pc : Nat, dk_G pc 123 = Pure.pure (Instr.lshr) := (Classical.choose_spec dk_ex).2.2.2.2.2.2.2.2.2.2.2.2.2.2.2.2.2.2.2.2.2.2.2.2.2.2.2.2.2.2.2.2.2.2.2.2.2.2.2.2.2.2.2.2.2.2.2.2.2.2.2.2.2.2.2.2.2.2.2.2.2.2.2.2.2.2.2.2.2.2.2.2.2.2.2.2.2.2.2.2.2.2.2.2.2.2.2.2.2.2.2.2.2.2.2.2.2.2.2.2.2.2.2.2.2.2.2.2.2.2.2.2.2.2.2.2.2.2.2.2.2.2.2.2.1
theorem dk_g124 : ∀ pc : Nat, dk_G pc 124 = Pure.pure (Instr.iushr) := (Classical.choose_spec dk_ex).2.2.2.2.2.2.2.2.2.2.2.2.2.2.2.2.2.2.2.2.2.2.2.2.2.2.2.2.2.2.2.2.2.2.2.2.2.2.2.2.2.2.2.2.2.2.2.2.2.2.2.2.2.2.2.2.2.2.2.2.2.2.2.2.2.2.2.2.2.2.2.2.2.2.2.2.2.2.2.2.2.2.2.2.2.2.2.2.2.2.2.2.2.2.2.2.2.2.2.2.2.2.2.2.2.2.2.2.2.2.2.2.2.2.2.2.2.2.2.2.2.2.2.2.2.1
theorem dk_g125 : ∀ pc : Nat, dk_G pc 125 = Pure.pure (Instr.lushr) := (Classical.choose_spec dk_ex).2.2.2.2.2.2.2.2.2.2.2.2.2.2.2.2.2.2.2.2.2.2.2.2.2.2.2.2.2.2.2.2.2.2.2.2.2.2.2.2.2.2.2.2.2.2.2.2.2.2.2.2.2.2.2.2.2.2.2.2.2.2.2.2.2.2.2.2.2.2.2.2.2.2.2.2.2.2.2.2.2.2.2.2.2.2.2.2.2.2.2.2.2.2.2.2.2.2.2.2.2.2.2.2.2.2.2.2.2.2.2.2.2.2.2.2.2.2.2.2.2.2.2.2.2.2.1
theorem dk_g126 : ∀ pc : Nat, dk_G pc 126 = Pure.pure (Instr.iand) := (Classical.choose_spec dk_ex).2.2.2.2.2.2.2.2.2.2.2.2.2.2.2.2.2.2.2.2.2.2.2.2.2.2.2.2.2.2.2.2.2.2.2.2.2.2.2.2.2.2.2.2.2.2.2.2.2.2.2.2.2.2.2.2.2.2.2.2.2.2.2.2.2.2.2.2.2.2.2.2.2.2.2.2.2.2.2.2.2.2.2.2.2.2.2.2.2.2.2.2.2.2.2.2.2.2.2.2.2.2.2.2.2.2.2.2.2.2.2.2.2.2.2.2.2.2.2.2.2.2.2.2.2.2.2.1
theorem dk_g127 : ∀ pc : Nat, dk_G pc 127 = Pure.pure (Instr.land) := (Classical.choose_spec dk_ex).2.2.2.2.2.2.2.2.2.2.2.2.2.2.2.2.2.2.2.2.2.2.2.2.2.2.2.2.2.2.2.2.2.2.2.2.2.2.2.2.2.2.2.2.2.2.2.2.2.2.2.2.2.2.2.2.2.2.2.2.2.2.2.2.2.2.2.2.2.2.2.2.2.2.2.2.2.2.2.2.2.2.2.2.2.2.2.2.2.2.2.2.2.2.2.2.2.2.2.2.2.2.2.2.2.2.2.2.2.2.2.2.2.2.2.2.2.2.2.2.2.2.2.2.2.2.2.2.1
theorem dk_g128 : ∀ pc : Nat, dk_G pc 128 = Pure.pure (Instr.ior) := (Classical.choose_spec dk_ex).2.2.2.2.2.2.2.2.2.2.2.2.2.2.2.2.2.2.2.2.2.2.2.2.2.2.2.2.2.2.2.2.2.2.2.2.2.2.2.2.2.2.2.2.2.2.2.2.2.2.2.2.2.2.2.2.2.2.2.2.2.2.2.2.2.2.2.2.2.2.2.2.2.2.2.2.2.2.2.2.2.2.2.2.2.2.2.2.2.2.2.2.2.2.2.2.2.2.2.2.2.2.2.2.2.2.2.2.2.2.2.2.2.2.2.2.2.2.2.2.2.2.2.2.2.2.2.2.2.1
theorem dk_g129 : ∀ pc : Nat, dk_G pc 129 = Pure.pure (Instr.lor) := (Classical.choose_spec dk_ex).2.2.2.2.2.2.2.2.2.2.2.2.2.2.2.2.2.2.2.2.2.2.2.2.2.2.2.2.2.2.2.2.2.2.2.2.2.2.2.2.2.2.2.2.2.2.2.2.2.2.2.2.2.2.2.2.2.2.2.2.2.2.2.2.2.2.2.2.2.2.2.2.2.2.2.2.2.2.2.2.2.2.2.2.2.2.2.2.2.2.2.2.2.2.2.2.2.2.2.2.2.2.2.2.2.2.2.2.2.2.2.2.2.2.2.2.2.2.2.2.2.2.2.2.2.2.2.2.2.2.1
theorem dk_g130 : ∀ pc : Nat, dk_G pc 130 = Pure.pure (Instr.ixor) := (Classical.choose_spec dk_ex).2.2.2.2.2.2.2.2.2.2.2.2.2.2.2.2.2.2.2.2.2.2.2.2.2.2.2.2.2.2.2.2.2.2.2.2.2.2.2.2.2.2.2.2.2.2.2.2.2.2.2.2.2.2.2.2.2.2.2.2.2.2.2.2.2.2.2.2.2.2.2.2.2.2.2.2.2.2.2.2.2.2.2.2.2.2.2.2.2.2.2.2.2.2.2.2.2.2.2.2.2.2.2.2.2.2.2.2.2.2.2.2.2.2.2.2.2.2.2.2.2.2.2.2.2.2.2.2.2.2.2.1
theorem dk_g131 : ∀ pc : Nat, dk_G pc 131 = Pure.pure (Instr.lxor) := (Classical.choose_spec dk_ex).2.2.2.2.2.2.2.2.2.2.2.2.2.2.2.2.2.2.2.2.2.2.2.2.2.2.2.2.2.2.2.2.2.2.2.2.2.2.2.2.2.2.2.2.2.2.2.2.2.2.2.2.2.2.2.2.2.2.2.2.2.2.2.2.2.2.2.2.2.2.2.2.2.2.2.2.2.2.2.2.2.2.2.2.2.2.2.2.2.2.2.2.2.2.2.2.2.2.2.2.2.2.2.2.2.2.2.2.2.2.2.2.2.2.2.2.2.2.2.2.2.2.2.2.2.2.2.2.2.2.2.2.1
theorem dk_g132 : ∀ pc : Nat, dk_G pc 132 = (Reader.u1 >>= fun x => Reader.s1 >>= fun y => Pure.pure (Instr.iinc x y)) := (Classical.choose_spec dk_ex).2.2.2.2.2.2.2.2.2.2.2.2.2.2.2.2.2.2.2.2.2.2.2.2.2.2.2.2.2.2.2.2.2.2.2.2.2.2.2.2.2.2.2.2.2.2.2.2.2.2.2.2.2.2.2.2.2.2.2.2.2.2.2.2.2.2.2.2.2.2.2.2.2.2.2.2.2.2.2.2.2.2.2.2.2.2.2.2.2.2.2.2.2.2.2.2.2.2.2.2.2.2.2.2.2.2.2.2.2.2.2.2.2.2.2.2.2.2.2.2.2.2.2.2.2.2.2.2.2.2.2.2.2.1
theorem dk_g133 : ∀ pc : Nat, dk_G pc 133 = Pure.pure (Instr.i2l) := (Classical.choose_spec dk_ex).2.2.2.2.2.2.2.2.2.2.2.2.2.2.2.2.2.2.2.2.2.2.2.2.2.2.2.2.2.2.2.2.2.2.2.2.2.2.2.2.2.2.2.2.2.2.2.2.2.2.2.2.2.2.2.2.2.2.2.2.2.2.2.2.2.2.2.2.2.2.2.2.2.2.2.2.2.2.2.2.2.2.2.2.2.2.2.2.2.2.2.2.2.2.2.2.2.2.2.2.2.2.2.2.2.2.2.2.2.2.2.2.2.2.2.2.2.2.2.2.2.2.2.2.2.2.2.2.2.2.2.2.2.2.1
theorem dk_g134 : ∀ pc : Nat, dk_G pc 134 = Pure.pure (Instr.i2f) := (Classical.choose_spec dk_ex).2.2.2.2.2.2.2.2.2.2.2.2.2.2.2.2.2.2.2.2.2.2.2.2.2.2.2.2.2.2.2.2.2.2.2.2.2.2.2.2.2.2.2.2.2.2.2.2.2.2.2.2.2.2.2.2.2.2.2.2.2.2.2.2.2.2.2.2.2.2.2.2.2.2.2.2.2.2.2.2.2.2.2.2.2.2.2.2.2.2.2.2.2.2.2.2.2.2.2.2.2.2.2.2.2.2.2.2.2.2.2.2.2.2.2.2.2.2.2.2.2.2.2.2.2.2.2.2.2.2.2.2.2.2.2.1
theorem dk_g135 : ∀ pc : Nat, dk_G pc 135 = Pure.pure (Instr.i2d) := (Classical.choose_spec dk_ex).2.2.2.2.2.2.2.2.2.2.2.2.2.2.2.2.2.2.2.2.2.2.2.2.2.2.2.2.2.2.2.2.2.2.2.2.2.2.2.2.2.2.2.2.2.2.2.2.2.2.2.2.2.2.2.2.2.2.2.2.2.2.2.2.2.2.2.2.2.2.2.2.2.2.2.2.2.2.2.2.2.2.2.2.2.2.2.2.2.2.2.2.2.2.2.2.2.2.2.2.2.2.2.2.2.2.2.2.2.2.2.2.2.2.2.2.2.2.2.2.2.2.2.2.2.2.2.2.2.2.2.2.2.2.2.2.1
theorem dk_g136 : ∀ pc : Nat, dk_G pc 136 = Pure.pure (Instr.l2i) := (Classical.choose_spec dk_ex).2.2.2.2.2.2.2.2.2.2.2.2.2.2.2.2.2.2.2.2.2.2.2.2.2.2.2.2.2.2.2.2.2.2.2.2.2.2.2.2.2.2.2.2.2.2.2.2.2.2.2.2.2.2.2.2.2.2.2.2.2.2.2.2.2.2.2.2.2.2.2.2.2.2.2.2.2.2.2.2.2.2.2.2.2.2.2.2.2.2.2.2.2.2.2.2.2.2.2.2.2.2.2.2.2.2.2.2.2.2.2.2.2.2.2.2.2.2.2.2.2.2.2.2.2.2.2.2.2.2.2.2.2.2.2.2.2.1
theorem dk_g137 : ∀ pc : Nat, dk_G pc 137 = Pure.pure (Instr.l2f) := (Classical.choose_spec dk_ex).2.2.2.2.2.2.2.2.2.2.2.2.2.2.2.2.2.2.2.2.2.2.2.2.2.2.2.2.2.2.2.2.2.2.2.2.2.2.2.2.2.2.2.2.2.2.2.2.2.2.2.2.2.2.2.2.2.2.2.2.2.2.2.2.2.2.2.2.2.2.2.2.2.2.2.2.2.2.2.2.2.2.2.2.2.2.2.2.2.2.2.2.2.2.2.2.2.2.2.2.2.2.2.2.2.2.2.2.2.2.2.2.2.2.2.2.2.2.2.2.2.2.2.2.2.2.2.2.2.2.2.2.2.2.2.2.2.2.1
theorem dk_g138 : ∀ pc : Nat, dk_G pc 138 = Pure.pure (Instr.l2d) := (Classical.choose_spec dk_ex).2.2.2.2.2.2.2.2.2.2.2.2.2.2.2.2.2.2.2.2.2.2.2.2.2.2.2.2.2.2.2.2.2.2.2.2.2.2.2.2.2.2.2.2.2.2.2.2.2.2.2.2.2.2.2.2.2.2.2.2.2.2.2.2.2.2.2.2.2.2.2.2.2.2.2.2.2.2.2.2.2.2.2.2.2.2.2.2.2.2.2.2.2.2.2.2.2.2.2.2.2.2.2.2.2.2.2.2.2.2.2.2.2.2.2.2.2.2.2.2.2.2.2.2.2.2.2.2.2.2.2.2.2.2.2.2.2.2.2.1
theorem dk_g139 : ∀ pc : Nat, dk_G pc 139 = Pure.pure (Instr.f2i) := (Classical.choose_spec dk_ex).2.2.2.2.2.2.2.2.2.2.2.2.2.2.2.2.2.2.2.2.2.2.2.2.2.2.2.2.2.2.2.2.2.2.2.2.2.2.2.2.2.2.2.2.2.2.2.2.2.2.2.2.2.2.2.2.2.2.2.2.2.2.2.2.2.2.2.2.2.2.2.2.2.2.2.2.2.2.2.2.2.2.2.2.2.2.2.2.2.2.2.2.2.2.2.2.2.2.2.2.2.2.2.2.2.2.2.2.2.2.2.2.2.2.2.2.2.2.2.2.2.2.2.2.2.2.2.2.2.2.2.2.2.2.2.2.2.2.2.2.1
theorem dk_g140 : ∀ pc : Nat, dk_G pc 140 = Pure.pure (Instr.f2l) := (Classical.choose_spec dk_ex).2.2.2.2.2.2.2.2.2.2.2.2.2.2.2.2.2.2.2.2.2.2.2.2.2.2.2.2.2.2.2.2.2.2.2.2.2.2.2.2.2.2.2.2.2.2.2.2.2.2.2.2.2.2.2.2.2.2.2.2.2.2.2.2.2.2.2.2.2.2.2.2.2.2.2.2.2.2.2.2.2.2.2.2.2.2.2.2.2.2.2.2.2.2.2.2.2.2.2.2.2.2.2.2.2.2.2.2.2.2.2.2.2.2.2.2.2.2.2.2.2.2.2.2.2.2.2.2.2.2.2.2.2.2.2.2.2.2.2.2.2.1
theorem dk_g141 : ∀ pc : Nat, dk_G pc 141 = Pure.pure (Instr.f2d) := (Classical.choose_spec dk_ex).2.2.2.2.2.2.2.2.2.2.2.2.2.2.2.2.2.2.2.2.2.2.2.2.2.2.2.2.2.2.2.2.2.2.2.2.2.2.2.2.2.2.2.2.2.2.2.2.2.2.2.2.2.2.2.2.2.2.2.2.2.2.2.2.2.2.2.2.2.2.2.2.2.2.2.2.2.2.2.2.2.2.2.2.2.2.2.2.2.2.2.2.2.2.2.2.2.2.2.2.2.2.2.2.2.2.2.2.2.2.2.2.2.2.2.2.2.2.2.2.2.2.2.2.2.2.2.2.2.2.2.2.2.2.2.2.2.2.2.2.2.2.1
theorem dk_g142 : ∀ pc : Nat, dk_G pc 142 = Pure.pure (Instr.d2i) := (Classical.choose_spec dk_ex).2.2.2.2.2.2.2.2.2.2.2.2.2.2.2.2.2.2.2.2.2.2.2.2.2.2.2.2.2.2.2.2.2.2.2.2.2.2.2.2.2.2.2.2.2.2.2.2.2.2.2.2.2.2.2.2.2.2.2.2.2.2.2.2.2.2.2.2.2.2.2.2.2.2.2.2.2.2.2.2.2.2.2.2.2.2.2.2.2.2.2.2.2.2.2.2.2.2.2.2.2.2.2.2.2.2.2.2.2.2.2.2.2.2.2.2.2.2.2.2.2.2.2.2.2.2.2.2.2.2.2.2.2.2.2.2.2.2.2.2.2.2.2.1
theorem dk_g143 : ∀ pc : Nat, dk_G pc 143 = Pure.pure (Instr.d2l) := (Classical.choose_spec dk_ex).2.2.2.2.2.2.2.2.2.2.2.2.2.2.2.2.2.2.2.2.2.2.2.2.2.2.2.2.2.2.2.2.2.2.2.2.2.2.2.2.2.2.2.2.2.2.2.2.2.2.2.2.2.2.2.2.2.2.2.2.2.2.2.2.2.2.2.2.2.2.2.2.2.2.2.2.2.2.2.2.2.2.2.2.2.2.2.2.2.2.2.2.2.2.2.2.2.2.2.2.2.2.2.2.2.2.2.2.2.2.2.2.2.2.2.2.2.2.2.2.2.2.2.2.2.2.2.2.2.2.2.2.2.2.2.2.2.2.2.2.2.2.2.2.1
theorem dk_g144 : ∀ pc : Nat, dk_G pc 144 = Pure.pure (Instr.d2f) := (Classical.choose_spec dk_ex).2.2.2.2.2.2.2.2.2.2.2.2.2.2.2.2.2.2.2.2.2.2.2.2.2.2.2.2.2.2.2.2.2.2.2.2.2.2.2.2.2.2.2.2.2.2.2.2.2.2.2.2.2.2.2.2.2.2.2.2.2.2.2.2.2.2.2.2.2.2.2.2.2.2.2.2.2.2.2.2.2.2.2.2.2.2.2.2.2.2.2.2.2.2.2.2.2.2.2.2.2.2.2.2.2.2.2.2.2.2.2.2.2.2.2.2.2.2.2.2.2.2.2.2.2.2.2.2.2.2.2.2.2.2.2.2.2.2.2.2.2.2.2.2.2.1
theorem dk_g145 : ∀ pc : Nat, dk_G pc 145 = Pure.pure (Instr.i2b) := (Classical.choose_spec dk_ex).2.2.2.2.2.2.2.2.2.2.2.2.2.2.2.2.2.2.2.2.2.2.2.2.2.2.2.2.2.2.2.2.2.2.2.2.2.2.2.2.2.2.2.2.2.2.2.2.2.2.2.2.2.2.2.2.2.2.2.2.2.2.2.2.2.2.2.2.2.2.2.2.2.2.2.2.2.2.2.2.2.2.2.2.2.2.2.2.2.2.2.2.2.2.2.2.2.2.2.2.2.2.2.2.2.2.2.2.2.2.2.2.2.2.2.2.2.2.2.2.2.2.2.2.2.2.2.2.2.2.2.2.2.2.2.2.2.2.2.2.2.2.2.2.2.2.1
theorem dk_g146 : ∀ pc : Nat, dk_G pc 146 = Pure.pure (Instr.i2c) := (Classical.choose_spec dk_ex).2.2.2.2.2.2.2.2.2.2.2.2.2.2.2.2.2.2.2.2.2.2.2.2.2.2.2.2.2.2.2.2.2.2.2.2.2.2.2.2.2.2.2.2.2.2.2.2.2.2.2.2.2.2.2.2.2.2.2.2.2.2.2.2.2.2.2.2.2.2.2.2.2.2.2.2.2.2.2.2.2.2.2.2.2.2.2.2.2.2.2.2.2.2.2.2.2.2.2.2.2.2.2.2.2.2.2.2.2.2.2.2.2.2.2.2.2.2.2.2.2.2.2.2.2.2.2.2.2.2.2.2.2.2.2.2.2.2.2.2.2.2.2.2.2.2.2.1
theorem dk_g147 : ∀ pc : Nat, dk_G pc 147 = Pure.pure (Instr.i2s) := (Classical.choose_spec dk_ex).2.2.2.2.2.2.2.2.2.2.2.2.2.2.2.2.2.2.2.2.2.2.2.2.2.2.2.2.2.2.2.2.2.2.2.2.2.2.2.2.2.2.2.2.2.2.2.2.2.2.2.2.2.2.2.2.2.2.2.2.2.2.2.2.2.2.2.2.2.2.2.2.2.2.2.2.2.2.2.2.2.2.2.2.2.2.2.2.2.2.2.2.2.2.2.2.2.2.2.2.2.2.2.2.2.2.2.2.2.2.2.2.2.2.2.2.2.2.2.2.2.2.2.2.2.2.2.2.2.2.2.2.2.2.2.2.2.2.2.2.2.2.2.2.2.2.2.2.1
theorem dk_g148 : ∀ pc : Nat, dk_G pc 148 = Pure.pure (Instr.lcmp) := (Classical.choose_spec dk_ex).2.2.2.2.2.2.2.2.2.2.2.2.2.2.2.2.2.2.2.2.2.2.2.2.2.2.2.2.2.2.2.2.2.2.2.2.2.2.2.2.2.2.2.2.2.2.2.2.2.2.2.2.2.2.2.2.2.2.2.2.2.2.2.2.2.2.2.2.2.2.2.2.2.2.2.2.2.2.2.2.2.2.2.2.2.2.2.2.2.2.2.2.2.2.2.2.2.2.2.2.2.2.2.2.2.2.2.2.2.2.2.2.2.2.2.2.2.2.2.2.2.2.2.2.2.2.2.2.2.2.2.2.2.2.2.2.2.2.2.2.2.2.2.2.2.2.2.2.2.1
theorem dk_g149 : ∀ pc : Nat, dk_G pc 149 = Pure.pure (Instr.fcmp .l) := (Classical.choose_spec dk_ex).2.2.2.2.2.2.2.2.2.2.2.2.2.2.2.2.2.2.2.2.2.2.2.2.2.2.2.2.2.2.2.2.2.2.2.2.2.2.2.2.2.2.2.2.2.2.2.2.2.2.2.2.2.2.2.2.2.2.2.2.2.2.2.2.2.2.2.2.2.2.2.2.2.2.2.2.2.2.2.2.2.2.2.2.2.2.2.2.2.2.2.2.2.2.2.2.2.2.2.2.2.2.2.2.2.2.2.2.2.2.2.2.2.2.2.2.2.2.2.2.2.2.2.2.2.2.2.2.2.2.2.2.2.2.2.2.2.2.2.2.2.2.2.2.2.2.2.2.2.2.1
theorem dk_g150 : ∀ pc : Nat, dk_G pc 150 = Pure.pure (Instr.fcmp .g) := (Classical.choose_spec dk_ex).2.2.2.2.2.2.2.2.2.2.2.2.2.2.2.2.2.2.2.2.2.2.2.2.2.2.2.2.2.2.2.2.2.2.2.2.2.2.2.2.2.2.2.2.2.2.2.2.2.2.2.2.2.2.2.2.2.2.2.2.2.2.2.2.2.2.2.2.2.2.2.2.2.2.2.2.2.2.2.2.2.2.2.2.2.2.2.2.2.2.2.2.2.2.2.2.2.2.2.2.2.2.2.2.2.2.2.2.2.2.2.2.2.2.2.2.2.2.2.2.2.2.2.2.2.2.2.2.2.2.2.2.2.2.2.2.2.2.2.2.2.2.2.2.2.2.2.2.2.2.2.1
theorem dk_g151 : ∀ pc : Nat, dk_G pc 151 = Pure.pure (Instr.dcmp .l) := (Classical.choose_spec dk_ex).2.2.2.2.2.2.2.2.2.2.2.2.2.2.2.2.2.2.2.2.2.2.2.2.2.2.2.2.2.2.2.2.2.2.2.2.2.2.2.2.2.2.2.2.2.2.2.2.2.2.2.2.2.2.2.2.2.2.2.2.2.2.2.2.2.2.2.2.2.2.2.2.2.2.2.2.2.2.2.2.2.2.2.2.2.2.2.2.2.2.2.2.2.2.2.2.2.2.2.2.2.2.2.2.2.2.2.2.2.2.2.2.2.2.2.2.2.2.2.2.2.2.2.2.2.2.2.2.2.2.2.2.2.2.2.2.2.2.2.2.2.2.2.2.2.2.2.2.2.2.2.2.1
theorem dk_g152 : ∀ pc : Nat, dk_G pc 152 = Pure.pure (Instr.dcmp .g) := (Classical.choose_spec dk_ex).2.2.2.2.2.2.2.2.2.2.2.2.2.2.2.2.2.2.2.2.2.2.2.2.2.2.2.2.2.2.2.2.2.2.2.2.2.2.2.2.2.2.2.2.2.2.2.2.2.2.2.2.2.2.2.2.2.2.2.2.2.2.2.2.2.2.2.2.2.2.2.2.2.2.2.2.2.2.2.2.2.2.2.2.2.2.2.2.2.2.2.2.2.2.2.2.2.2.2.2.2.2.2.2.2.2.2.2.2.2.2.2.2.2.2.2.2.2.2.2.2.2.2.2.2.2.2.2.2.2.2.2.2.2.2.2.2.2.2.2.2.2.2.2.2.2.2.2.2.2.2.2.2.1
theorem dk_g153 : ∀ pc : Nat, dk_G pc 153 = (Reader.s2 >>= fun x => Pure.pure (Instr.ifCond .eq x)) := (Classical.choose_spec dk_ex).2.2.2.2.2.2.2.2.2.2.2.2.2.2.2.2.2.2.2.2.2.2.2.2.2.2.2.2.2.2.2.2.2.2.2.2.2.2.2.2.2.2.2.2.2.2.2.2.2.2.2.2.2.2.2.2.2.2.2.2.2.2.2.2.2.2.2.2.2.2.2.2.2.2.2.2.2.2.2.2.2.2.2.2.2.2.2.2.2.2.2.2.2.2.2.2.2.2.2.2.2.2.2.2.2.2.2.2.2.2.2.2.2.2.2.2.2.2.2.2.2.2.2.2.2.2.2.2.2.2.2.2.2.2.2.2.2.2.2.2.2.2.2.2.2.2.2.2.2.2.2.2.2.2.1
theorem dk_g154 : ∀ pc : Nat, dk_G pc 154 = (Reader.s2 >>= fun x => Pure.pure (Instr.ifCond .ne x)) := (Classical.choose_spec dk_ex).2.2.2.2.2.2.2.2.2.2.2.2.2.2.2.2.2.2.2.2.2.2.2.2.2.2.2.2.2.2.2.2.2.2.2.2.2.2.2.2.2.2.2.2.2.2.2.2.2.2.2.2.2.2.2.2.2.2.2.2.2.2.2.2.2.2.2.2.2.2.2.2.2.2.2.2.2.2.2.2.2.2.2.2.2.2.2.2.2.2.2.2.2.2.2.2.2.2.2.2.2.2.2.2.2.2.2.2.2.2.2.2.2.2.2.2.2.2.2.2.2.2.2.2.2.2.2.2.2.2.2.2.2.2.2.2.2.2.2.2.2.2.2.2.2.2.2.2.2.2.2.2.2.2.2.1
theorem dk_g155 : ∀ pc : Nat, dk_G pc 155 = (Reader.s2 >>= fun x => Pure.pure (Instr.ifCond .lt x)) := (Classical.choose_spec dk_ex).2.2.2.2.2.2.2.2.2.2.2.2.2.2.2.2.2.2.2.2.2.2.2.2.2.2.2.2.2.2.2.2.2.2.2.2.2.2.2.2.2.2.2.2.2.2.2.2.2.2.2.2.2.2.2.2.2.2.2.2.2.2.2.2.2.2.2.2.2.2.2.2.2.2.2.2.2.2.2.2.2.2.2.2.2.2.2.2.2.2.2.2.2.2.2.2.2.2.2.2.2.2.2.2.2.2.2.2.2.2.2.2.2.2.2.2.2.2.2.2.2.2.2.2.2.2.2.2.2.2.2.2.2.2.2.2.2.2.2.2.2.2.2.2.2.2.2.2.2.2.2.2.2.2.2.2.1
theorem dk_g156 : ∀ pc : Nat, dk_G pc 156 = (Reader.s2 >>= fun x => Pure.pure (Instr.ifCond .ge x)) := (Classical.choose_spec dk_ex).2.2.2.2.2.2.2.2.2.2.2.2.2.2.2.2.2.2.2.2.2.2.2.2.2.2.2.2.2.2.2.2.2.2.2.2.2.2.2.2.2.2.2.2.2.2.2.2.2.2.2.2.2.2.2.2.2.2.2.2.2.2.2.2.2.2.2.2.2.2.2.2.2.2.2.2.2.2.2.2.2.2.2.2.2.2.2.2.2.2.2.2.2.2.2.2.2.2.2.2.2.2.2.2.2.2.2.2.2.2.2.2.2.2.2.2.2.2.2.2.2.2.2.2.2.2.2.2.2.2.2.2.2.2.2.2.2.2.2.2.2.2.2.2.2.2.2.2.2.2.2.2.2.2.2.2.2.1
theorem dk_g157 : ∀ pc : Nat, dk_G pc 157 = (Reader.s2 >>= fun x => Pure.pure (Instr.ifCond .gt x)) := (Classical.choose_spec dk_ex).2.2.2.2.2.2.2.2.2.2.2.2.2.2.2.2.2.2.2.2.2.2.2.2.2.2.2.2.2.2.2.2.2.2.2.2.2.2.2.2.2.2.2.2.2.2.2.2.2.2.2.2.2.2.2.2.2.2.2.2.2.2.2.2.2.2.2.2.2.2.2.2.2.2.2.2.2.2.2.2.2.2.2.2.2.2.2.2.2.2.2.2.2.2.2.2.2.2.2.2.2.2.2.2.2.2.2.2.2.2.2.2.2.2.2.2.2.2.2.2.2.2.2.2.2.2.2.2.2.2.2.2.2.2.2.2.2.2.2.2.2.2.2.2.2.2.2.2.2.2.2.2.2.2.2.2.2.2.1
theorem dk_g158 : ∀ pc : Nat, dk_G pc 158 = (Reader.s2 >>= fun x => Pure.pure (Instr.ifCond .le x)) := (Classical.choose_spec dk_ex).2.2.2.2.2.2.2.2.2.2.2.2.2.2.2.2.2.2.2.2.2.2.2.2.2.2.2.2.2.2.2.2.2.2.2.2.2.2.2.2.2.2.2.2.2.2.2.2.2.2.2.2.2.2.2.2.2.2.2.2.2.2.2.2.2.2.2.2.2.2.2.2.2.2.2.2.2.2.2.2.2.2.2.2.2.2.2.2.2.2.2.2.2.2.2.2.2.2.2.2.2.2.2.2.2.2.2.2.2.2.2.2.2.2.2.2.2.2.2.2.2.2.2.2.2.2.2.2.2.2.2.2.2.2.2.2.2.2.2.2.2.2.2.2.2.2.2.2.2.2.2.2.2.2.2.2.2.2.2.1
theorem dk_g159 : ∀ pc : Nat, dk_G pc 159 = (Reader.s2 >>= fun x => Pure.pure (Instr.if_icmp .eq x)) := (Classical.choose_spec dk_ex).2.2.2.2.2.2.2.2.2.2.2.2.2.2.2.2.2.2.2.2.2.2.2.2.2.2.2.2.2.2.2.2.2.2.2.2.2.2.2.2.2.2.2.2.2.2.2.2.2.2.2.2.2.2.2.2.2.2.2.2.2.2.2.2.2.2.2.2.2.2.2.2.2.2.2.2.2.2.2.2.2.2.2.2.2.2.2.2.2.2.2.2.2.2.2.2.2.2.2.2.2.2.2.2.2.2.2.2.2.2.2.2.2.2.2.2.2.2.2.2.2.2.2.2.2.2.2.2.2.2.2.2.2.2.2.2.2.2.2.2.2.2.2.2.2.2.2.2.2.2.2.2.2.2.2.2.2.2.2.2.1
theorem dk_g160 : ∀ pc : Nat, dk_G pc 160 = (Reader.s2 >>= fun x => Pure.pure (Instr.if_icmp .ne x)) := (Classical.choose_spec dk_ex).2.2.2.2.2.2.2.2.2.2.2.2.2.2.2.2.2.2.2.2.2.2.2.2.2.2.2.2.2.2.2.2.2.2.2.2.2.2.2.2.2.2.2.2.2.2.2.2.2.2.2.2.2.2.2.2.2.2.2.2.2.2.2.2.2.2.2.2.2.2.2.2.2.2.2.2.2.2.2.2.2.2.2.2.2.2.2.2.2.2.2.2.2.2.2.2.2.2.2.2.2.2.2.2.2.2.2.2.2.2.2.2.2.2.2.2.2.2.2.2.2.2.2.2.2.2.2.2.2.2.2.2.2.2.2.2.2.2.2.2.2.2.2.2.2.2.2.2.2.2.2.2.2.2.2.2.2.2.2.2.2.1
theorem dk_g161 : ∀ pc : Nat, dk_G pc 161 = (Reader.s2 >>= fun x => Pure.pure (Instr.if_icmp .lt x)) := (Classical.choose_spec dk_ex).2.2.2.2.2.2.2.2.2.2.2.2.2.2.2.2.2.2.2.2.2.2.2.2.2.2.2.2.2.2.2.2.2.2.2.2.2.2.2.2.2.2.2.2.2.2.2.2.2.2.2.2.2.2.2.2.2.2.2.2.2.2.2.2.2.2.2.2.2.2.2.2.2.2.2.2.2.2.2.2.2.2.2.2.2.2.2.2.2.2.2.2.2.2.2.2.2.2.2.2.2.2.2.2.2.2.2.2.2.2.2.2.2.2.2.2.2.2.2.2.2.2.2.2.2.2.2.2.2.2.2.2.2.2.2.2.2.2.2.2.2.2.2.2.2.2.2.2.2.2.2.2.2.2.2.2.2.2.2.2.2.2.1
theorem dk_g162 : ∀ pc : Nat, dk_G pc 162 = (Reader.s2 >>= fun x => Pure.pure (Instr.if_icmp .ge x)) := (Classical.choose_spec dk_ex).2.2.2.2.2.2.2.2.2.2.2.2.2.2.2.2.2.2.2.2.2.2.2.2.2.2.2.2.2.2.2.2.2.2.2.2.2.2.2.2.2.2.2.2.2.2.2.2.2.2.2.2.2.2.2.2.2.2.2.2.2.2.2.2.2.2.2.2.2.2.2.2.2.2.2.2.2.2.2.2.2.2.2.2.2.2.2.2.2.2.2.2.2.2.2.2.2.2.2.2.2.2.2.2.2.2.2.2.2.2.2.2.2.2.2.2.2.2.2.2.2.2.2.2.2.2.2.2.2.2.2.2.2.2.2.2.2.2.2.2.2.2.2.2.2.2.2.2.2.2.2.2.2.2.2.2.2.2.2.2.2.2.2.1
theorem dk_g163 : ∀ pc : Nat, dk_G pc 163 = (Reader.s2 >>= fun x => Pure.pure (Instr.if_icmp .gt x)) := (Classical.choose_spec dk_ex).2.2.2.2.2.2.2.2.2.2.2.2.2.2.2.2.2.2.2.2.2.2.2.2.2.2.2.2.2.2.2.2.2.2.2.2.2.2.2.2.2.2.2.2.2.2.2.2.2.2.2.2.2.2.2.2.2.2.2.2.2.2.2.2.2.2.2.2.2.2.2.2.2.2.2.2.2.2.2.2.2.2.2.2.2.2.2.2.2.2.2.2.2.2.2.2.2.2.2.2.2.2.2.2.2.2.2.2.2.2.2.2.2.2.2.2.2.2.2.2.2.2.2.2.2.2.2.2.2.2.2.2.2.2.2.2.2.2.2.2.2.2.2.2.2.2.2.2.2.2.2.2.2.2.2.2.2.2.2.2.2.2.2.2.1
theorem dk_g164 : ∀ pc : Nat, dk_G pc 164 = (Reader.s2 >>= fun x => Pure.pure (Instr.if_icmp .le x)) := (Classical.choose_spec dk_ex).2.2.2.2.2.2.2.2.2.2.2.2.2.2.2.2.2.2.2.2.2.2.2.2.2.2.2.2.2.2.2.2.2.2.2.2.2.2.2.2.2.2.2.2.2.2.2.2.2.2.2.2.2.2.2.2.2.2.2.2.2.2.2.2.2.2.2.2.2.2.2.2.2.2.2.2.2.2.2.2.2.2.2.2.2.2.2.2.2.2.2.2.2.2.2.2.2.2.2.2.2.2.2.2.2.2.2.2.2.2.2.2.2.2.2.2.2.2.2.2.2.2.2.2.2.2.2.2.2.2.2.2.2.2.2.2.2.2.2.2.2.2.2.2.2.2.2.2.2.2.2.2.2.2.2.2.2.2.2.2.2.2.2.2.2.1
theorem dk_g165 : ∀ pc : Nat, dk_G pc 165 = (Reader.s2 >>= fun x => Pure.pure (Instr.if_acmp .eq x)) := (Classical.choose_spec dk_ex).2.2.2.2.2.2.2.2.2.2.2.2.2.2.2.2.2.2.2.2.2.2.2.2.2.2.2.2.2.2.2.2.2.2.2.2.2.2.2.2.2.2.2.2.2.2.2.2.2.2.2.2.2.2.2.2.2.2.2.2.2.2.2.2.2.2.2.2.2.2.2.2.2.2.2.2.2.2.2.2.2.2.2.2.2.2.2.2.2.2.2.2.2.2.2.2.2.2.2.2.2.2.2.2.2.2.2.2.2.2.2.2.2.2.2.2.2.2.2.2.2.2.2.2.2.2.2.2.2.2.2.2.2.2.2.2.2.2.2.2.2.2.2.2.2.2.2.2.2.2.2.2.2.2.2.2.2.2.2.2.2.2.2.2.2.2.1
theorem dk_g166 : ∀ pc : Nat, dk_G pc 166 = (Reader.s2 >>= fun x => Pure.pure (Instr.if_acmp .ne x)) := (Classical.choose_spec dk_ex).2.2.2.2.2.2.2.2.2.2.2.2.2.2.2.2.2.2.2.2.2.2.2.2.2.2.2.2.2.2.2.2.2.2.2.2.2.2.2.2.2.2.2.2.2.2.2.2.2.2.2.2.2.2.2.2.2.2.2.2.2.2.2.2.2.2.2.2.2.2.2.2.2.2.2.2.2.2.2.2.2.2.2.2.2.2.2.2.2.2.2.2.2.2.2.2.2.2.2.2.2.2.2.2.2.2.2.2.2.2.2.2.2.2.2.2.2.2.2.2.2.2.2.2.2.2.2.2.2.2.2.2.2.2.2.2.2.2.2.2.2.2.2.2.2.2.2.2.2.2.2.2.2.2.2.2.2.2.2.2.2.2.2.2.2.2.2.1
theorem dk_g167 : ∀ pc : Nat, dk_G pc 167 = (Reader.s2 >>= fun x => Pure.pure (Instr.goto x)) := (Classical.choose_spec dk_ex).2.2.2.2.2.2.2.2.2.2.2.2.2.2.2.2.2.2.2.2.2.2.2.2.2.2.2.2.2.2.2.2.2.2.2.2.2.2.2.2.2.2.2.2.2.2.2.2.2.2.2.2.2.2.2.2.2.2.2.2.2.2.2.2.2.2.2.2.2.2.2.2.2.2.2.2.2.2.2.2.2.2.2.2.2.2.2.2.2.2.2.2.2.2.2.2.2.2.2.2.2.2.2.2.2.2.2.2.2.2.2.2.2.2.2.2.2.2.2.2.2.2.2.2.2.2.2.2.2.2.2.2.2.2.2.2.2.2.2.2.2.2.2.2.2.2.2.2.2.2.2.2.2.2.2.2.2.2.2.2.2.2.2.2.2.2.2.2.1
theorem dk_g168 : ∀ pc : Nat, dk_G pc 168 = (Reader.s2 >>= fun x => Pure.pure (Instr.jsr x)) := (Classical.choose_spec dk_ex).2.2.2.2.2.2.2.2.2.2.2.2.2.2.2.2.2.2.2.2.2.2.2.2.2.2.2.2.2.2.2.2.2.2.2.2.2.2.2.2.2.2.2.2.2.2.2.2.2.2.2.2.2.2.2.2.2.2.2.2.2.2.2.2.2.2.2.2.2.2.2.2.2.2.2.2.2.2.2.2.2.2.2.2.2.2.2.2.2.2.2.2.2.2.2.2.2.2.2.2.2.2.2.2.2.2.2.2.2.2.2.2.2.2.2.2.2.2.2.2.2.2.2.2.2.2.2.2.2.2.2.2.2.2.2.2.2.2.2.2.2.2.2.2.2.2.2.2.2.2.2.2.2.2.2.2.2.2.2.2.2.2.2.2.2.2.2.2.2.1
theorem dk_g169 : ∀ pc : Nat, dk_G pc 169 = (Reader.u1 >>= fun x => Pure.pure (Instr.ret x)) := (Classical.choose_spec dk_ex).2.2.2.2.2.2.2.2.2.2.2.2.2.2.2.2.2.2.2.2.2.2.2.2.2.2.2.2.2.2.2.2.2.2.2.2.2.2.2.2.2.2.2.2.2.2.2.2.2.2.2.2.2.2.2.2.2.2.2.2.2.2.2.2.2.2.2.2.2.2.2.2.2.2.2.2.2.2.2.2.2.2.2.2.2.2.2.2.2.2.2.2.2.2.2.2.2.2.2.2.2.2.2.2.2.2.2.2.2.2.2.2.2.2.2.2.2.2.2.2.2.2.2.2.2.2.2.2.2.2.2.2.2.2.2.2.2.2.2.2.2.2.2.2.2.2.2.2.2.2.2.2.2.2.2.2.2.2.2.2.2.2.2.2.2.2.2.2.2.2.1
theorem dk_g172 : ∀ pc : Nat, dk_G pc 172 = Pure.pure (Instr.ireturn) := (Classical.choose_spec dk_ex).2.2.2.2.2.2.2.2.2.2.2.2.2.2.2.2.2.2.2.2.2.2.2.2.2.2.2.2.2.2.2.2.2.2.2.2.2.2.2.2.2.2.2.2.2.2.2.2.2.2.2.2.2.2.2.2.2.2.2.2.2.2.2.2.2.2.2.2.2.2.2.2.2.2.2.2.2.2.2.2.2.2.2.2.2.2.2.2.2.2.2.2.2.2.2.2.2.2.2.2.2.2.2.2.2.2.2.2.2.2.2.2.2.2.2.2.2.2.2.2.2.2.2.2.2.2.2.2.2.2.2.2.2.2.2.2.2.2.2.2.2.2.2.2.2.2.2.2.2.2.2.2.2.2.2.2.2.2.2.2.2.2.2.2.2.2.2.2.2.2.2.1
theorem dk_g173 : ∀ pc : Nat, dk_G pc 173 = Pure.pure (Instr.lreturn) := (Classical.choose_spec dk_ex).2.2.2.2.2.2.2.2.2.2.2.2.2.2.2.2.2.2.2.2.2.2.2.2.2.2.2.2.2.2.2.2.2.2.2.2.2.2.2.2.2.2.2.2.2.2.2.2.2.2.2.2.2.2.2.2.2.2.2.2.2.2.2.2.2.2.2.2.2.2.2.2.2.2.2.2.2.2.2.2.2.2.2.2.2.2.2.2.2.2.2.2.2.2.2.2.2.2.2.2.2.2.2.2.2.2.2.2.2.2.2.2.2.2.2.2.2.2.2.2.2.2.2.2.2.2.2.2.2.2.2.2.2.2.2.2.2.2.2.2.2.2.2.2.2.2.2.2.2.2.2.2.2.2.2.2.2.2.2.2.2.2.2.2.2.2.2.2.2.2.2.2.1
theorem dk_g174 : ∀ pc : Nat, dk_G pc 174 = Pure.pure (Instr.freturn) := (Classical.choose_spec dk_ex).2.2.2.2.2.2.2.2.2.2.2.2.2.2.2.2.2.2.2.2.2.2.2.2.2.2.2.2.2.2.2.2.2.2.2.2.2.2.2.2.2.2.2.2.2.2.2.2.2.2.2.2.2.2.2.2.2.2.2.2.2.2.2.2.2.2.2.2.2.2.2.2.2.2.2.2.2.2.2.2.2.2.2.2.2.2.2.2.2.2.2.2.2.2.2.2.2.2.2.2.2.2.2.2.2.2.2.2.2.2.2.2.2.2.2.2.2.2.2.2.2.2.2.2.2.2.2.2.2.2.2.2.2.2.2.2.2.2.2.2.2.2.2.2.2.2.2.2.2.2.2.2.2.2.2.2.2.2.2.2.2.2.2.2.2.2.2.2.2.2.2.2.2.1
theorem dk_g175 : ∀ pc : Nat, dk_G pc 175 = Pure.pure (Instr.dreturn) := (Classical.choose_spec dk_ex).2.2.2.2.2.2.2.2.2.2.2.2.2.2.2.2.2.2.2.2.2.2.2.2.2.2.2.2.2.2.2.2.2.2.2.2.2.2.2.2.2.2.2.2.2.2.2.2.2.2.2.2.2.2.2.2.2.2.2.2.2.2.2.2.2.2.2.2.2.2.2.2.2.2.2.2.2.2.2.2.2.2.2.2.2.2.2.2.2.2.2.2.2.2.2.2.2.2.2.2.2.2.2.2.2.2.2.2.2.2.2.2.2.2.2.2.2.2.2.2.2.2.2.2.2.2.2.2.2.2.2.2.2.2.2.2.2.2.2.2.2.2.2.2.2.2.2.2.2.2.2.2.2.2.2.2.2.2.2.2.2.2.2.2.2.2.2.2.2.2.2.2.2.2.1
theorem dk_g176 : ∀ pc : Nat, dk_G pc 176 = Pure.pure (Instr.areturn) := (Classical.choose_spec dk_ex).2.2.2.2.2.2.2.2.2.2.2.2.2.2.2.2.2.2.2.2.2.2.2.2.2.2.2.2.2.2.2.2.2.2.2.2.2.2.2.2.2.2.2.2.2.2.2.2.2.2.2.2.2.2.2.2.2.2.2.2.2.2.2.2.2.2.2.2.2.2.2.2.2.2.2.2.2.2.2.2.2.2.2.2.2.2.2.2.2.2.2.2.2.2.2.2.2.2.2.2.2.2.2.2.2.2.2.2.2.2.2.2.2.2.2.2.2.2.2.2.2.2.2.2.2.2.2.2.2.2.2.2.2.2.2.2.2.2.2.2.2.2.2.2.2.2.2.2.2.2.2.2.2.2.2.2.2.2.2.2.2.2.2.2.2.2.2.2.2.2.2.2.2.2.2.1
theorem dk_g177 : ∀ pc : Nat, dk_G pc 177 = Pure.pure (Instr.return_) := (Classical.choose_spec dk_ex).2.2.2.2.2.2.2.2.2.2.2.2.2.2.2.2.2.2.2.2.2.2.2.2.2.2.2.2.2.2.2.2.2.2.2.2.2.2.2.2.2.2.2.2.2.2.2.2.2.2.2.2.2.2.2.2.2.2.2.2.2.2.2.2.2.2.2.2.2.2.2.2.2.2.2.2.2.2.2.2.2.2.2.2.2.2.2.2.2.2.2.2.2.2.2.2.2.2.2.2.2.2.2.2.2.2.2.2.2.2.2.2.2.2.2.2.2.2.2.2.2.2.2.2.2.2.2.2.2.2.2.2.2.2.2.2.2.2.2.2.2.2.2.2.2.2.2.2.2.2.2.2.2.2.2.2.2.2.2.2.2.2.2.2.2.2.2.2.2.2.2.2.2.2.2.2.1
theorem dk_g178 : ∀ pc : Nat, dk_G pc 178 = (Reader.u2 >>= fun x => Pure.pure (Instr.getstatic x)) := (Classical.choose_spec dk_ex).2.2.2.2.2.2.2.2.2.2.2.2.2.2.2.2.2.2.2.2.2.2.2.2.2.2.2.2.2.2.2.2.2.2.2.2.2.2.2.2.2.2.2.2.2.2.2.2.2.2.2.2.2.2.2.2.2.2.2.2.2.2.2.2.2.2.2.2.2.2.2.2.2.2.2.2.2.2.2.2.2.2.2.2.2.2.2.2.2.2.2.2.2.2.2.2.2.2.2.2.2.2.2.2.2.2.2.2.2.2.2.2.2.2.2.2.2.2.2.2.2.2.2.2.2.2.2.2.2.2.2.2.2.2.2.2.2.2.2.2.2.2.2.2.2.2.2.2.2.2.2.2.2.2.2.2.2.2.2.2.2.2.2.2.2.2.2.2.2.2.2.2.2.2.2.2.2.1
theorem dk_g179 : ∀ pc : Nat, dk_G pc 179 = (Reader.u2 >>= fun x => Pure.pure (Instr.putstatic x)) := (Classical.choose_spec dk_ex).2.2.2.2.2.2.2.2.2.2.2.2.2.2.2.2.2.2.2.2.2.2.2.2.2.2.2.2.2.2.2.2.2.2.2.2.2.2.2.2.2.2.2.2.2.2.2.2.2.2.2.2.2.2.2.2.2.2.2.2.2.2.2.2.2.2.2.2.2.2.2.2.2.2.2.2.2.2.2.2.2.2.2.2.2.2.2.2.2.2.2.2.2.2.2.2.2.2.2.2.2.2.2.2.2.2.2.2.2.2.2.2.2.2.2.2.2.2.2.2.2.2.2.2.2.2.2.2.2.2.2.2.2.2.2.2.2.2.2.2.2.2.2.2.2.2.2.2.2.2.2.2.2.2.2.2.2.2.2.2.2.2.2.2.2.2.2.2.2.2.2.2.2.2.2.2.2.2.1
theorem dk_g180 : ∀ pc : Nat, dk_G pc 180 = (Reader.u2 >>= fun x => Pure.pure (Instr.getfield x)) := (Classical.choose_spec dk_ex).2.2.2.2.2.2.2.2.2.2.2.2.2.2.2.2.2.2.2.2.2.2.2.2.2.2.2.2.2.2.2.2.2.2.2.2.2.2.2.2.2.2.2.2.2.2.2.2.2.2.2.2.2.2.2.2.2.2.2.2.2.2.2.2.2.2.2.2.2.2.2.2.2.2.2.2.2.2.2.2.2.2.2.2.2.2.2.2.2.2.2.2.2.2.2.2.2.2.2.2.2.2.2.2.2.2.2.2.2.2.2.2.2.2.2.2.2.2.2.2.2.2.2.2.2.2.2.2.2.2.2.2.2.2.2.2.2.2.2.2.2.2.2.2.2.2.2.2.2.2.2.2.2.2.2.2.2.2.2.2.2.2.2.2.2.2.2.2.2.2.2.2.2.2.2.2.2.2.2.1
theorem dk_g181 : ∀ pc : Nat, dk_G pc 181 = (Reader.u2 >>= fun x => Pure.pure (Instr.putfield x)) := (Classical.choose_spec dk_ex).2.2.2.2.2.2.2.2.2.2.2.2.2.2.2.2.2.2.2.2.2.2.2.2.2.2.2.2.2.2.2.2.2.2.2.2.2.2.2.2.2.2.2.2.2.2.2.2.2.2.2.2.2.2.2.2.2.2.2.2.2.2.2.2.2.2.2.2.2.2.2.2.2.2.2.2.2.2.2.2.2.2.2.2.2.2.2.2.2.2.2.2.2.2.2.2.2.2.2.2.2.2.2.2.2.2.2.2.2.2.2.2.2.2.2.2.2.2.2.2.2.2.2.2.2.2.2.2.2.2.2.2.2.2.2.2.2.2.2.2.2.2.2.2.2.2.2.2.2.2.2.2.2.2.2.2.2.2.2.2.2.2.2.2.2.2.2.2.2.2.2.2.2.2.2.2.2.2.2.2.1
theorem dk_g182 : ∀ pc : Nat, dk_G pc 182 = (Reader.u2 >>= fun x => Pure.pure (Instr.invokevirtual x)) := (Classical.choose_spec dk_ex).2.2.2.2.2.2.2.2.2.2.2.2.2.2.2.2.2.2.2.2.2.2.2.2.2.2.2.2.2.2.2.2.2.2.2.2.2.2.2.2.2.2.2.2.2.2.2.2.2.2.2.2.2.2.2.2.2.2.2.2.2.2.2.2.2.2.2.2.2.2.2.2.2.2.2.2.2.2.2.2.2.2.2.2.2.2.2.2.2.2.2.2.2.2.2.2.2.2.2.2.2.2.2.2.2.2.2.2.2.2.2.2.2.2.2.2.2.2.2.2.2.2.2.2.2.2.2.2.2.2.2.2.2.2.2.2.2.2.2.2.2.2.2.2.2.2.2.2.2.2.2.2.2.2.2.2.2.2.2.2.2.2.2.2.2.2.2.2.2.2.2.2.2.2.2.2.2.2.2.2.2.1
theorem dk_g183 : ∀ pc : Nat, dk_G pc 183 = (Reader.u2 >>= fun x => Pure.pure (Instr.invokespecial x)) := (Classical.choose_spec dk_ex).2.2.2.2.2.2.2.2.2.2.2.2.2.2.2.2.2.2.2.2.2.2.2.2.2.2.2.2.2.2.2.2.2.2.2.2.2.2.2.2.2.2.2.2.2.2.2.2.2.2.2.2.2.2.2.2.2.2.2.2.2.2.2.2.2.2.2.2.2.2.2.2.2.2.2.2.2.2.2.2.2.2.2.2.2.2.2.2.2.2.2.2.2.2.2.2.2.2.2.2.2.2.2.2.2.2.2.2.2.2.2.2.2.2.2.2.2.2.2.2.2.2.2.2.2.2.2.2.2.2.2.2.2.2.2.2.2.2.2.2.2.2.2.2.2.2.2.2.2.2.2.2.2.2.2.2.2.2.2.2.2.2.2.2.2.2.2.2.2.2.2.2.2.2.2.2.2.2.2.2.2.2.1
theorem dk_g184 : ∀ pc : Nat, dk_G pc 184 = (Reader.u2 >>= fun x => Pure.pure (Instr.invokestatic x)) := (Classical.choose_spec dk_ex).2.2.2.2.2.2.2.2.2.2.2.2.2.2.2.2.2.2.2.2.2.2.2.2.2.2.2.2.2.2.2.2.2.2.2.2.2.2.2.2.2.2.2.2.2.2.2.2.2.2.2.2.2.2.2.2.2.2.2.2.2.2.2.2.2.2.2.2.2.2.2.2.2.2.2.2.2.2.2.2.2.2.2.2.2.2.2.2.2.2.2.2.2.2.2.2.2.2.2.2.2.2.2.2.2.2.2.2.2.2.2.2.2.2.2.2.2.2.2.2.2.2.2.2.2.2.2.2.2.2.2.2.2.2.2.2.2.2.2.2.2.2.2.2.2.2.2.2.2.2.2.2.2.2.2.2.2.2.2.2.2.2.2.2.2.2.2.2.2.2.2.2.2.2.2.2.2.2.2.2.2.2.2.1
theorem dk_g187 : ∀ pc : Nat, dk_G pc 187 = (Reader.u2 >>= fun x => Pure.pure (Instr.new x)) := (Classical.choose_spec dk_ex).2.2.2.2.2.2.2.2.2.2.2.2.2.2.2.2.2.2.2.2.2.2.2.2.2.2.2.2.2.2.2.2.2.2.2.2.2.2.2.2.2.2.2.2.2.2.2.2.2.2.2.2.2.2.2.2.2.2.2.2.2.2.2.2.2.2.2.2.2.2.2.2.2.2.2.2.2.2.2.2.2.2.2.2.2.2.2.2.2.2.2.2.2.2.2.2.2.2.2.2.2.2.2.2.2.2.2.2.2.2.2.2.2.2.2.2.2.2.2.2.2.2.2.2.2.2.2.2.2.2.2.2.2.2.2.2.2.2.2.2.2.2.2.2.2.2.2.2.2.2.2.2.2.2.2.2.2.2.2.2.2.2.2.2.2.2.2.2.2.2.2.2.2.2.2.2.2.2.2.2.2.2.2.2.1
theorem dk_g189 : ∀ pc : Nat, dk_G pc 189 = (Reader.u2 >>= fun x => Pure.pure (Instr.anewarray x)) := (Classical.choose_spec dk_ex).2.2.2.2.2.2.2.2.2.2.2.2.2.2.2.2.2.2.2.2.2.2.2.2.2.2.2.2.2.2.2.2.2.2.2.2.2.2.2.2.2.2.2.2.2.2.2.2.2.2.2.2.2.2.2.2.2.2.2.2.2.2.2.2.2.2.2.2.2.2.2.2.2.2.2.2.2.2.2.2.2.2.2.2.2.2.2.2.2.2.2.2.2.2.2.2.2.2.2.2.2.2.2.2.2.2.2.2.2.2.2.2.2.2.2.2.2.2.2.2.2.2.2.2.2.2.2.2.2.2.2.2.2.2.2.2.2.2.2.2.2.2.2.2.2.2.2.2.2.2.2.2.2.2.2.2.2.2.2.2.2.2.2.2.2.2.2.2.2.2.2.2.2.2.2.2.2.2.2.2.2.2.2.2.2.1
theorem dk_g190 : ∀ pc : Nat, dk_G pc 190 = Pure.pure (Instr.arraylength) := (Classical.choose_spec dk_ex).2.2.2.2.2.2.2.2.2.2.2.2.2.2.2.2.2.2.2.2.2.2.2.2.2.2.2.2.2.2.2.2.2.2.2.2.2.2.2.2.2.2.2.2.2.2.2.2.2.2.2.2.2.2.2.2.2.2.2.2.2.2.2.2.2.2.2.2.2.2.2.2.2.2.2.2.2.2.2.2.2.2.2.2.2.2.2.2.2.2.2.2.2.2.2.2.2.2.2.2.2.2.2.2.2.2.2.2.2.2.2.2.2.2.2.2.2.2.2.2.2.2.2.2.2.2.2.2.2.2.2.2.2.2.2.2.2.2.2.2.2.2.2.2.2.2.2.2.2.2.2.2.2.2.2.2.2.2.2.2.2.2.2.2.2.2.2.2.2.2.2.2.2.2.2.2.2.2.2.2.2.2.2.2.2.2.1
theorem dk_g191 : ∀ pc : Nat, dk_G pc 191 = Pure.pure (Instr.athrow) := (Classical.choose_spec dk_ex).2.2.2.2.2.2.2.2.2.2.2.2.2.2.2.2.2.2.2.2.2.2.2.2.2.2.2.2.2.2.2.2.2.2.2.2.2.2.2.2.2.2.2.2.2.2.2.2.2.2.2.2.2.2.2.2.2.2.2.2.2.2.2.2.2.2.2.2.2.2.2.2.2.2.2.2.2.2.2.2.2.2.2.2.2.2.2.2.2.2.2.2.2.2.2.2.2.2.2.2.2.2.2.2.2.2.2.2.2.2.2.2.2.2.2.2.2.2.2.2.2.2.2.2.2.2.2.2.2.2.2.2.2.2.2.2.2.2.2.2.2.2.2.2.2.2.2.2.2.2.2.2.2.2.2.2.2.2.2.2.2.2.2.2.2.2.2.2.2.2.2.2.2.2.2.2.2.2.2.2.2.2.2.2.2.2.2.1
theorem dk_g192 : ∀ pc : Nat, dk_G pc 192 = (Reader.u2 >>= fun x => Pure.pure (Instr.checkcast x)) := (Classical.choose_spec dk_ex).2.2.2.2.2.2.2.2.2.2.2.2.2.2.2.2.2.2.2.2.2.2.2.2.2.2.2.2.2.2.2.2.2.2.2.2.2.2.2.2.2.2.2.2.2.2.2.2.2.2.2.2.2.2.2.2.2.2.2.2.2.2.2.2.2.2.2.2.2.2.2.2.2.2.2.2.2.2.2.2.2.2.2.2.2.2.2.2.2.2.2.2.2.2.2.2.2.2.2.2.2.2.2.2.2.2.2.2.2.2.2.2.2.2.2.2.2.2.2.2.2.2.2.2.2.2.2.2.2.2.2.2.2.2.2.2.2.2.2.2.2.2.2.2.2.2.2.2.2.2.2.2.2.2.2.2.2.2.2.2.2.2.2.2.2.2.2.2.2.2.2.2.2.2.2.2.2.2.2.2.2.2.2.2.2.2.2.2.1
theorem dk_g193 : ∀ pc : Nat, dk_G pc 193 = (Reader.u2 >>= fun x => Pure.pure (Instr.instanceof x)) := (Classical.choose_spec dk_ex).2.2.2.2.2.2.2.2.2.2.2.2.2.2.2.2.2.2.2.2.2.2.2.2.2.2.2.2.2.2.2.2.2.2.2.2.2.2.2.2.2.2.2.2.2.2.2.2.2.2.2.2.2.2.2.2.2.2.2.2.2.2.2.2.2.2.2.2.2.2.2.2.2.2.2.2.2.2.2.2.2.2.2.2.2.2.2.2.2.2.2.2.2.2.2.2.2.2.2.2.2.2.2.2.2.2.2.2.2.2.2.2.2.2.2.2.2.2.2.2.2.2.2.2.2.2.2.2.2.2.2.2.2.2.2.2.2.2.2.2.2.2.2.2.2.2.2.2.2.2.2.2.2.2.2.2.2.2.2.2.2.2.2.2.2.2.2.2.2.2.2.2.2.2.2.2.2.2.2.2.2.2.2.2.2.2.2.2.2.1
theorem dk_g194 : ∀ pc : Nat, dk_G pc 194 = Pure.pure (Instr.monitorenter) := (Classical.choose_spec dk_ex).2.2.2.2.2.2.2.2.2.2.2.2.2.2.2.2.2.2.2.2.2.2.2.2.2.2.2.2.2.2.2.2.2.2.2.2.2.2.2.2.2.2.2.2.2.2.2.2.2.2.2.2.2.2.2.2.2.2.2.2.2.2.2.2.2.2.2.2.2.2.2.2.2.2.2.2.2.2.2.2.2.2.2.2.2.2.2.2.2.2.2.2.2.2.2.2.2.2.2.2.2.2.2.2.2.2.2.2.2.2.2.2.2.2.2.2.2.2.2.2.2.2.2.2.2.2.2.2.2.2.2.2.2.2.2.2.2.2.2.2.2.2.2.2.2.2.2.2.2.2.2.2.2.2.2.2.2.2.2.2.2.2.2.2.2.2.2.2.2.2.2.2.2.2.2.2.2.2.2.2.2.2.2.2.2.2.2.2.2.2.1
theorem dk_g195 : ∀ pc : Nat, dk_G pc 195 = Pure.pure (Instr.monitorexit) := (Classical.choose_spec dk_ex).2.2.2.2.2.2.2.2.2.2.2.2.2.2.2.2.2.2.2.2.2.2.2.2.2.2.2.2.2.2.2.2.2.2.2.2.2.2.2.2.2.2.2.2.2.2.2.2.2.2.2.2.2.2.2.2.2.2.2.2.2.2.2.2.2.2.2.2.2.2.2.2.2.2.2.2.2.2.2.2.2.2.2.2.2.2.2.2.2.2.2.2.2.2.2.2.2.2.2.2.2.2.2.2.2.2.2.2.2.2.2.2.2.2.2.2.2.2.2.2.2.2.2.2.2.2.2.2.2.2.2.2.2.2.2.2.2.2.2.2.2.2.2.2.2.2.2.2.2.2.2.2.2.2.2.2.2.2.2.2.2.2.2.2.2.2.2.2.2.2.2.2.2.2.2.2.2.2.2.2.2.2.2.2.2.2.2.2.2.2.2.1
theorem dk_g198 : ∀ pc : Nat, dk_G pc 198 = (Reader.s2 >>= fun x => Pure.pure (Instr.ifnull x)) := (Classical.choose_spec dk_ex).2.2.2.2.2.2.2.2.2.2.2.2.2.2.2.2.2.2.2.2.2.2.2.2.2.2.2.2.2.2.2.2.2.2.2.2.2.2.2.2.2.2.2.2.2.2.2.2.2.2.2.2.2.2.2.2.2.2.2.2.2.2.2.2.2.2.2.2.2.2.2.2.2.2.2.2.2.2.2.2.2.2.2.2.2.2.2.2.2.2.2.2.2.2.2.2.2.2.2.2.2.2.2.2.2.2.2.2.2.2.2.2.2.2.2.2.2.2.2.2.2.2.2.2.2.2.2.2.2.2.2.2.2.2.2.2.2.2.2.2.2.2.2.2.2.2.2.2.2.2.2.2.2.2.2.2.2.2.2.2.2.2.2.2.2.2.2.2.2.2.2.2.2.2.2.2.2.2.2.2.2.2.2.2.2.2.2.2.2.2.2.2.1
theorem dk_g199 : ∀ pc : Nat, dk_G pc 199 = (Reader.s2 >>= fun x => Pure.pure (Instr.ifnonnull x)) := (Classical.choose_spec dk_ex).2.2.2.2.2.2.2.2.2.2.2.2.2.2.2.2.2.2.2.2.2.2.2.2.2.2.2.2.2.2.2.2.2.2.2.2.2.2.2.2.2.2.2.2.2.2.2.2.2.2.2.2.2.2.2.2.2.2.2.2.2.2.2.2.2.2.2.2.2.2.2.2.2.2.2.2.2.2.2.2.2.2.2.2.2.2.2.2.2.2.2.2.2.2.2.2.2.2.2.2.2.2.2.2.2.2.2.2.2.2.2.2.2.2.2.2.2.2.2.2.2.2.2.2.2.2.2.2.2.2.2.2.2.2.2.2.2.2.2.2.2.2.2.2.2.2.2.2.2.2.2.2.2.2.2.2.2.2.2.2.2.2.2.2.2.2.2.2.2.2.2.2.2.2.2.2.2.2.2.2.2.2.2.2.2.2.2.2.2.2.2.2.2
theorem dk_r {c : ByteArray} {pc q : Nat} {a : UInt8} {I : Instr} (h : c.data.toList[pc]? = some a) (hg : dk_G pc a.toNat c (pc + 1) = .ok (I, q)) : decode c pc = .ok (I, q - pc) := by
  have e : Decoder.instr pc c pc = .ok (I, q) := by
    rw [dk_0, dk_b (u1_at h)]
    exact hg
  have e2 : (Decoder.instr pc).runAt c pc = .ok (I, q) := e
  unfold decode
  rw [e2]
  rfl
/-- the bytes from pc on -/
def dk_3 (c : ByteArray) (pc : Nat) : List Nat := ((c.data.toList.drop pc).take 3).map UInt8.toNat
theorem dk_at3 {c : ByteArray} {pc x y z : Nat} (h : dk_3 c pc = [x, y, z]) : ∃ a b d : UInt8, c.data.toList[pc]? = some a ∧ c.data.toList[pc + 1]? = some b ∧ c.data.toList[pc + 2]? = some d ∧ a.toNat = x ∧ b.toNat = y ∧ d.toNat = z := by
  unfold dk_3 at h
  cases h0 : c.data.toList.drop pc with
  | nil => rw [h0] at h; simp at h
  | cons a t =>
    cases t with
    | nil => rw [h0] at h; simp at h
    | cons b t =>
      cases t with
      | nil => rw [h0] at h; simp at h
      | cons d t =>
        rw [h0] at h
        simp at h
        have e : ∀ i : Nat, c.data.toList[pc + i]? = (a :: b :: d :: t)[i]? := fun i => by rw [← h0, List.getElem?_drop]
        exact ⟨a, b, d, e 0, e 1, e 2, h.1, h.2.1, h.2.2⟩
theorem dk_n {c : ByteArray} {pc x : Nat} {t : List Nat} {I : Instr} (hg : ∀ pc : Nat, dk_G pc x = Pure.pure I) (h : (c.data.toList.drop pc).head?.map UInt8.toNat = some x) : decode c pc = .ok (I, 1) := by
  cases h0 : c.data.toList.drop pc with
  | nil => rw [h0] at h; simp at h
  | cons a t =>
    rw [h0] at h
    simp at h
    have e : c.data.toList[pc]? = some a := by have := congrArg (fun l => l[0]?) h0; simpa [List.getElem?_drop] using this
    have r := dk_r (c := c) (pc := pc) (q := pc + 1) (I := I) e (by rw [h, hg]; rfl)
    rw [r, Nat.add_sub_cancel_left]
theorem dk_u2 {c : ByteArray} {pc x y z : Nat} {F : Nat → Instr} (hg : ∀ pc : Nat, dk_G pc x = (Reader.u2 >>= fun x => Pure.pure (F x))) (h : dk_3 c pc = [x, y, z]) {n : Nat} (e : y * 256 + z = n) : decode c pc = .ok (F n, 3) := by
  obtain ⟨a, b, d, h0, h1, h2, rfl, rfl, rfl⟩ := dk_at3 h
  subst e
  have r := dk_r (c := c) (pc := pc) (q := pc + 3) h0 (by rw [hg, dk_b (u2_at h1 h2)]; rfl)
  rw [r, Nat.add_sub_cancel_left]
theorem dk_s2 {c : ByteArray} {pc x y z : Nat} {F : Int → Instr} (hg : ∀ pc : Nat, dk_G pc x = (Reader.s2 >>= fun x => Pure.pure (F x))) (h : dk_3 c pc = [x, y, z]) {n : Int} (e : Reader.signed 16 (y * 256 + z) = n) : decode c pc = .ok (F n, 3) := by
  obtain ⟨a, b, d, h0, h1, h2, rfl, rfl, rfl⟩ := dk_at3 h
  subst e
  have r := dk_r (c := c) (pc := pc) (q := pc + 3) h0 (by rw [hg, dk_b (s2_at h1 h2)]; rfl)
  rw [r, Nat.add_sub_cancel_left]
theorem dk_at2 {c : ByteArray} {pc x y : Nat} (h : ((c.data.toList.drop pc).take 2).map UInt8.toNat = [x, y]) : ∃ a b : UInt8, c.data.toList[pc]? = some a ∧ c.data.toList[pc + 1]? = some b ∧ a.toNat = x ∧ b.toNat = y := by
  cases h0 : c.data.toList.drop pc with
  | nil => rw [h0] at h; simp at h
  | cons a t =>
    cases t with
    | nil => rw [h0] at h; simp at h
    | cons b t =>
      rw [h0] at h
      simp at h
      have e : ∀ i : Nat, c.data.toList[pc + i]? = (a :: b :: t)[i]? := fun i => by rw [← h0, List.getElem?_drop]
      exact ⟨a, b, e 0, e 1, h.1, h.2⟩
theorem dk_u1 {c : ByteArray} {pc x y : Nat} {F : Nat → Instr} (hg : ∀ pc : Nat, dk_G pc x = (Reader.u1 >>= fun x => Pure.pure (F x))) (h : ((c.data.toList.drop pc).take 2).map UInt8.toNat = [x, y]) : decode c pc = .ok (F y, 2) := by
  obtain ⟨a, b, h0, h1, rfl, rfl⟩ := dk_at2 h
  have r := dk_r (c := c) (pc := pc) (q := pc + 2) h0 (by rw [hg, dk_b (u1_at h1)]; rfl)
  rw [r, Nat.add_sub_cancel_left]
theorem dk_s1 {c : ByteArray} {pc x y : Nat} {F : Int → Instr} (hg : ∀ pc : Nat, dk_G pc x = (Reader.s1 >>= fun x => Pure.pure (F x))) (h : ((c.data.toList.drop pc).take 2).map UInt8.toNat = [x, y]) {n : Int} (e : Reader.signed 8 y = n) : decode c pc = .ok (F n, 2) := by
  obtain ⟨a, b, h0, h1, rfl, rfl⟩ := dk_at2 h
  subst e
  have r := dk_r (c := c) (pc := pc) (q := pc + 2) h0 (by rw [hg, dk_b (s1_at h1)]; rfl)
  rw [r, Nat.add_sub_cancel_left]
theorem dk_ii {c : ByteArray} {pc x y z : Nat} {F : Nat → Int → Instr} (hg : ∀ pc : Nat, dk_G pc x = (Reader.u1 >>= fun x => Reader.s1 >>= fun y => Pure.pure (F x y))) (h : dk_3 c pc = [x, y, z]) {n : Int} (e : Reader.signed 8 z = n) : decode c pc = .ok (F y n, 3) := by
  obtain ⟨a, b, d, h0, h1, h2, rfl, rfl, rfl⟩ := dk_at3 h
  subst e
  have r := dk_r (c := c) (pc := pc) (q := pc + 3) h0 (by rw [hg, dk_b (u1_at h1), dk_b (s1_at h2)]; rfl)
  rw [r, Nat.add_sub_cancel_left]

theorem dX0_init_0 : decode cX0_init 0 = .ok (.aload_n 0, 1) := dk_n (t := []) dk_g42 (by decide +kernel)
theorem dX0_init_1 : decode cX0_init 1 = .ok (.invokespecial 3, 3) := dk_u2 (y := 0) (z := 3) dk_g183 (by decide +kernel) rfl
theorem dX0_init_4 : decode cX0_init 4 = .ok (.aload_n 0, 1) := dk_n (t := []) dk_g42 (by decide +kernel)
theorem dX0_init_5 : decode cX0_init 5 = .ok (.iconst 5, 1) := dk_n (t := []) dk_g8 (by decide +kernel)
theorem dX0_init_6 : decode cX0_init 6 = .ok (.newarray .int, 2) := by decide +kernel
theorem dX0_init_8 : decode cX0_init 8 = .ok (.putfield 9, 3) := dk_u2 (y := 0) (z := 9) dk_g181 (by decide +kernel) rfl
theorem dX0_init_11 : decode cX0_init 11 = .ok (.aload_n 0, 1) := dk_n (t := []) dk_g42 (by decide +kernel)
theorem dX0_init_12 : decode cX0_init 12 = .ok (.iconst 5, 1) := dk_n (t := []) dk_g8 (by decide +kernel)
theorem dX0_init_13 : decode cX0_init 13 = .ok (.newarray .int, 2) := by decide +kernel
theorem dX0_init_15 : decode cX0_init 15 = .ok (.putfield 15, 3) := dk_u2 (y := 0) (z := 15) dk_g181 (by decide +kernel) rfl
theorem dX0_init_18 : decode cX0_init 18 = .ok (.aload_n 0, 1) := dk_n (t := []) dk_g42 (by decide +kernel)
theorem dX0_init_19 : decode cX0_init 19 = .ok (.iconst 5, 1) := dk_n (t := []) dk_g8 (by decide +kernel)
theorem dX0_init_20 : decode cX0_init 20 = .ok (.newarray .int, 2) := by decide +kernel
theorem dX0_init_22 : decode cX0_init 22 = .ok (.putfield 18, 3) := dk_u2 (y := 0) (z := 18) dk_g181 (by decide +kernel) rfl
theorem dX0_init_25 : decode cX0_init 25 = .ok (.aload_n 0, 1) := dk_n (t := []) dk_g42 (by decide +kernel)
theorem dX0_init_26 : decode cX0_init 26 = .ok (.aload_n 1, 1) := dk_n (t := []) dk_g43 (by decide +kernel)
theorem dX0_init_27 : decode cX0_init 27 = .ok (.putfield 21, 3) := dk_u2 (y := 0) (z := 21) dk_g181 (by decide +kernel) rfl
theorem dX0_init_30 : decode cX0_init 30 = .ok (.aload_n 0, 1) := dk_n (t := []) dk_g42 (by decide +kernel)
theorem dX0_init_31 : decode cX0_init 31 = .ok (.getfield 18, 3) := dk_u2 (y := 0) (z := 18) dk_g180 (by decide +kernel) rfl
theorem dX0_init_34 : decode cX0_init 34 = .ok (.iconst (-1), 1) := dk_n (t := []) dk_g2 (by decide +kernel)
theorem dX0_init_35 : decode cX0_init 35 = .ok (.invokestatic 25, 3) := dk_u2 (y := 0) (z := 25) dk_g184 (by decide +kernel) rfl
theorem dX0_init_38 : decode cX0_init 38 = .ok (.aload_n 0, 1) := dk_n (t := []) dk_g42 (by decide +kernel)
theorem dX0_init_39 : decode cX0_init 39 = .ok (.iconst (-1), 1) := dk_n (t := []) dk_g2 (by decide +kernel)
theorem dX0_init_40 : decode cX0_init 40 = .ok (.putfield 31, 3) := dk_u2 (y := 0) (z := 31) dk_g181 (by decide +kernel) rfl
theorem dX0_init_43 : decode cX0_init 43 = .ok (.return_, 1) := dk_n (t := []) dk_g177 (by decide +kernel)
theorem dX0_findBest_0 : decode cX0_findBest 0 = .ok (.aload_n 1, 1) := dk_n (t := []) dk_g43 (by decide +kernel)
theorem dX0_findBest_1 : decode cX0_findBest 1 = .ok (.getfield 35, 3) := dk_u2 (y := 0) (z := 35) dk_g180 (by decide +kernel) rfl
theorem dX0_findBest_4 : decode cX0_findBest 4 = .ok (.iconst 0, 1) := dk_n (t := []) dk_g3 (by decide +kernel)
theorem dX0_findBest_5 : decode cX0_findBest 5 = .ok (.aload_n 0, 1) := dk_n (t := []) dk_g42 (by decide +kernel)
theorem dX0_findBest_6 : decode cX0_findBest 6 = .ok (.getfield 9, 3) := dk_u2 (y := 0) (z := 9) dk_g180 (by decide +kernel) rfl
theorem dX0_findBest_9 : decode cX0_findBest 9 = .ok (.iconst 0, 1) := dk_n (t := []) dk_g3 (by decide +kernel)
theorem dX0_findBest_10 : decode cX0_findBest 10 = .ok (.iconst 5, 1) := dk_n (t := []) dk_g8 (by decide +kernel)
theorem dX0_findBest_11 : decode cX0_findBest 11 = .ok (.invokestatic 40, 3) := dk_u2 (y := 0) (z := 40) dk_g184 (by decide +kernel) rfl
theorem dX0_findBest_14 : decode cX0_findBest 14 = .ok (.aload_n 0, 1) := dk_n (t := []) dk_g42 (by decide +kernel)
theorem dX0_findBest_15 : decode cX0_findBest 15 = .ok (.iload_n 2, 1) := dk_n (t := []) dk_g28 (by decide +kernel)
theorem dX0_findBest_16 : decode cX0_findBest 16 = .ok (.putfield 46, 3) := dk_u2 (y := 0) (z := 46) dk_g181 (by decide +kernel) rfl
theorem dX0_findBest_19 : decode cX0_findBest 19 = .ok (.aload_n 0, 1) := dk_n (t := []) dk_g42 (by decide +kernel)
theorem dX0_findBest_20 : decode cX0_findBest 20 = .ok (.iconst (-1), 1) := dk_n (t := []) dk_g2 (by decide +kernel)
theorem dX0_findBest_21 : decode cX0_findBest 21 = .ok (.putfield 31, 3) := dk_u2 (y := 0) (z := 31) dk_g181 (by decide +kernel) rfl
theorem dX0_findBest_24 : decode cX0_findBest 24 = .ok (.aload_n 0, 1) := dk_n (t := []) dk_g42 (by decide +kernel)
theorem dX0_findBest_25 : decode cX0_findBest 25 = .ok (.getfield 18, 3) := dk_u2 (y := 0) (z := 18) dk_g180 (by decide +kernel) rfl
theorem dX0_findBest_28 : decode cX0_findBest 28 = .ok (.iconst (-1), 1) := dk_n (t := []) dk_g2 (by decide +kernel)
theorem dX0_findBest_29 : decode cX0_findBest 29 = .ok (.invokestatic 25, 3) := dk_u2 (y := 0) (z := 25) dk_g184 (by decide +kernel) rfl
theorem dX0_findBest_32 : decode cX0_findBest 32 = .ok (.aload_n 0, 1) := dk_n (t := []) dk_g42 (by decide +kernel)
theorem dX0_findBest_33 : decode cX0_findBest 33 = .ok (.getfield 21, 3) := dk_u2 (y := 0) (z := 21) dk_g180 (by decide +kernel) rfl
theorem dX0_findBest_36 : decode cX0_findBest 36 = .ok (.getfield 49, 3) := dk_u2 (y := 0) (z := 49) dk_g180 (by decide +kernel) rfl
theorem dX0_findBest_39 : decode cX0_findBest 39 = .ok (.ifCond .le 9, 3) := dk_s2 (y := 0) (z := 9) dk_g158 (by decide +kernel) rfl
theorem dX0_findBest_42 : decode cX0_findBest 42 = .ok (.aload_n 0, 1) := dk_n (t := []) dk_g42 (by decide +kernel)
theorem dX0_findBest_43 : decode cX0_findBest 43 = .ok (.iconst 0, 1) := dk_n (t := []) dk_g3 (by decide +kernel)
theorem dX0_findBest_44 : decode cX0_findBest 44 = .ok (.iconst 0, 1) := dk_n (t := []) dk_g3 (by decide +kernel)
theorem dX0_findBest_45 : decode cX0_findBest 45 = .ok (.invokestatic 54, 3) := dk_u2 (y := 0) (z := 54) dk_g184 (by decide +kernel) rfl
theorem dX0_findBest_48 : decode cX0_findBest 48 = .ok (.return_, 1) := dk_n (t := []) dk_g177 (by decide +kernel)
theorem dX0_count_0 : decode cX0_count 0 = .ok (.aload_n 1, 1) := dk_n (t := []) dk_g43 (by decide +kernel)
theorem dX0_count_1 : decode cX0_count 1 = .ok (.getfield 35, 3) := dk_u2 (y := 0) (z := 35) dk_g180 (by decide +kernel) rfl
theorem dX0_count_4 : decode cX0_count 4 = .ok (.iconst 0, 1) := dk_n (t := []) dk_g3 (by decide +kernel)
theorem dX0_count_5 : decode cX0_count 5 = .ok (.aload_n 0, 1) := dk_n (t := []) dk_g42 (by decide +kernel)
theorem dX0_count_6 : decode cX0_count 6 = .ok (.getfield 9, 3) := dk_u2 (y := 0) (z := 9) dk_g180 (by decide +kernel) rfl
theorem dX0_count_9 : decode cX0_count 9 = .ok (.iconst 0, 1) := dk_n (t := []) dk_g3 (by decide +kernel)
theorem dX0_count_10 : decode cX0_count 10 = .ok (.iconst 5, 1) := dk_n (t := []) dk_g8 (by decide +kernel)
theorem dX0_count_11 : decode cX0_count 11 = .ok (.invokestatic 40, 3) := dk_u2 (y := 0) (z := 40) dk_g184 (by decide +kernel) rfl
theorem dX0_count_14 : decode cX0_count 14 = .ok (.aload_n 0, 1) := dk_n (t := []) dk_g42 (by decide +kernel)
theorem dX0_count_15 : decode cX0_count 15 = .ok (.getfield 9, 3) := dk_u2 (y := 0) (z := 9) dk_g180 (by decide +kernel) rfl
theorem dX0_count_18 : decode cX0_count 18 = .ok (.iload_n 2, 1) := dk_n (t := []) dk_g28 (by decide +kernel)
theorem dX0_count_19 : decode cX0_count 19 = .ok (.dup2, 1) := dk_n (t := []) dk_g92 (by decide +kernel)
theorem dX0_count_20 : decode cX0_count 20 = .ok (.iaload, 1) := dk_n (t := []) dk_g46 (by decide +kernel)
theorem dX0_count_21 : decode cX0_count 21 = .ok (.iconst 1, 1) := dk_n (t := []) dk_g4 (by decide +kernel)
theorem dX0_count_22 : decode cX0_count 22 = .ok (.iload_n 3, 1) := dk_n (t := []) dk_g29 (by decide +kernel)
theorem dX0_count_23 : decode cX0_count 23 = .ok (.ishl, 1) := dk_n (t := []) dk_g120 (by decide +kernel)
theorem dX0_count_24 : decode cX0_count 24 = .ok (.iand, 1) := dk_n (t := []) dk_g126 (by decide +kernel)
theorem dX0_count_25 : decode cX0_count 25 = .ok (.iastore, 1) := dk_n (t := []) dk_g79 (by decide +kernel)
theorem dX0_count_26 : decode cX0_count 26 = .ok (.aload_n 0, 1) := dk_n (t := []) dk_g42 (by decide +kernel)
theorem dX0_count_27 : decode cX0_count 27 = .ok (.iconst 0, 1) := dk_n (t := []) dk_g3 (by decide +kernel)
theorem dX0_count_28 : decode cX0_count 28 = .ok (.putfield 58, 3) := dk_u2 (y := 0) (z := 58) dk_g181 (by decide +kernel) rfl
theorem dX0_count_31 : decode cX0_count 31 = .ok (.aload_n 0, 1) := dk_n (t := []) dk_g42 (by decide +kernel)
theorem dX0_count_32 : decode cX0_count 32 = .ok (.iconst 0, 1) := dk_n (t := []) dk_g3 (by decide +kernel)
theorem dX0_count_33 : decode cX0_count 33 = .ok (.invokestatic 61, 3) := dk_u2 (y := 0) (z := 61) dk_g184 (by decide +kernel) rfl
theorem dX0_count_36 : decode cX0_count 36 = .ok (.aload_n 0, 1) := dk_n (t := []) dk_g42 (by decide +kernel)
theorem dX0_count_37 : decode cX0_count 37 = .ok (.getfield 58, 3) := dk_u2 (y := 0) (z := 58) dk_g180 (by decide +kernel) rfl
theorem dX0_count_40 : decode cX0_count 40 = .ok (.ireturn, 1) := dk_n (t := []) dk_g172 (by decide +kernel)
theorem dX0_chooseFrom_0 : decode cX0_chooseFrom 0 = .ok (.aload_n 0, 1) := dk_n (t := []) dk_g42 (by decide +kernel)
theorem dX0_chooseFrom_1 : decode cX0_chooseFrom 1 = .ok (.getfield 31, 3) := dk_u2 (y := 0) (z := 31) dk_g180 (by decide +kernel) rfl
theorem dX0_chooseFrom_4 : decode cX0_chooseFrom 4 = .ok (.iconst (-1), 1) := dk_n (t := []) dk_g2 (by decide +kernel)
theorem dX0_chooseFrom_5 : decode cX0_chooseFrom 5 = .ok (.if_icmp .eq 12, 3) := dk_s2 (y := 0) (z := 12) dk_g159 (by decide +kernel) rfl
theorem dX0_chooseFrom_8 : decode cX0_chooseFrom 8 = .ok (.iload_n 2, 1) := dk_n (t := []) dk_g28 (by decide +kernel)
theorem dX0_chooseFrom_9 : decode cX0_chooseFrom 9 = .ok (.aload_n 0, 1) := dk_n (t := []) dk_g42 (by decide +kernel)
theorem dX0_chooseFrom_10 : decode cX0_chooseFrom 10 = .ok (.getfield 31, 3) := dk_u2 (y := 0) (z := 31) dk_g180 (by decide +kernel) rfl
theorem dX0_chooseFrom_13 : decode cX0_chooseFrom 13 = .ok (.if_icmp .lt 4, 3) := dk_s2 (y := 0) (z := 4) dk_g161 (by decide +kernel) rfl
theorem dX0_chooseFrom_16 : decode cX0_chooseFrom 16 = .ok (.return_, 1) := dk_n (t := []) dk_g177 (by decide +kernel)
theorem dX0_chooseFrom_17 : decode cX0_chooseFrom 17 = .ok (.iload_n 1, 1) := dk_n (t := []) dk_g27 (by decide +kernel)
theorem dX0_chooseFrom_18 : decode cX0_chooseFrom 18 = .ok (.aload_n 0, 1) := dk_n (t := []) dk_g42 (by decide +kernel)
theorem dX0_chooseFrom_19 : decode cX0_chooseFrom 19 = .ok (.getfield 21, 3) := dk_u2 (y := 0) (z := 21) dk_g180 (by decide +kernel) rfl
theorem dX0_chooseFrom_22 : decode cX0_chooseFrom 22 = .ok (.getfield 49, 3) := dk_u2 (y := 0) (z := 49) dk_g180 (by decide +kernel) rfl
theorem dX0_chooseFrom_25 : decode cX0_chooseFrom 25 = .ok (.if_icmp .lt 29, 3) := dk_s2 (y := 0) (z := 29) dk_g161 (by decide +kernel) rfl
theorem dX0_chooseFrom_28 : decode cX0_chooseFrom 28 = .ok (.aload_n 0, 1) := dk_n (t := []) dk_g42 (by decide +kernel)
theorem dX0_chooseFrom_29 : decode cX0_chooseFrom 29 = .ok (.iload_n 2, 1) := dk_n (t := []) dk_g28 (by decide +kernel)
theorem dX0_chooseFrom_30 : decode cX0_chooseFrom 30 = .ok (.putfield 31, 3) := dk_u2 (y := 0) (z := 31) dk_g181 (by decide +kernel) rfl
theorem dX0_chooseFrom_33 : decode cX0_chooseFrom 33 = .ok (.aload_n 0, 1) := dk_n (t := []) dk_g42 (by decide +kernel)
theorem dX0_chooseFrom_34 : decode cX0_chooseFrom 34 = .ok (.getfield 15, 3) := dk_u2 (y := 0) (z := 15) dk_g180 (by decide +kernel) rfl
theorem dX0_chooseFrom_37 : decode cX0_chooseFrom 37 = .ok (.iconst 0, 1) := dk_n (t := []) dk_g3 (by decide +kernel)
theorem dX0_chooseFrom_38 : decode cX0_chooseFrom 38 = .ok (.aload_n 0, 1) := dk_n (t := []) dk_g42 (by decide +kernel)
theorem dX0_chooseFrom_39 : decode cX0_chooseFrom 39 = .ok (.getfield 18, 3) := dk_u2 (y := 0) (z := 18) dk_g180 (by decide +kernel) rfl
theorem dX0_chooseFrom_42 : decode cX0_chooseFrom 42 = .ok (.iconst 0, 1) := dk_n (t := []) dk_g3 (by decide +kernel)
theorem dX0_chooseFrom_43 : decode cX0_chooseFrom 43 = .ok (.aload_n 0, 1) := dk_n (t := []) dk_g42 (by decide +kernel)
theorem dX0_chooseFrom_44 : decode cX0_chooseFrom 44 = .ok (.getfield 21, 3) := dk_u2 (y := 0) (z := 21) dk_g180 (by decide +kernel) rfl
theorem dX0_chooseFrom_47 : decode cX0_chooseFrom 47 = .ok (.getfield 49, 3) := dk_u2 (y := 0) (z := 49) dk_g180 (by decide +kernel) rfl
theorem dX0_chooseFrom_50 : decode cX0_chooseFrom 50 = .ok (.invokestatic 40, 3) := dk_u2 (y := 0) (z := 40) dk_g184 (by decide +kernel) rfl
theorem dX0_chooseFrom_53 : decode cX0_chooseFrom 53 = .ok (.return_, 1) := dk_n (t := []) dk_g177 (by decide +kernel)
theorem dX0_chooseFrom_54 : decode cX0_chooseFrom 54 = .ok (.aload_n 0, 1) := dk_n (t := []) dk_g42 (by decide +kernel)
theorem dX0_chooseFrom_55 : decode cX0_chooseFrom 55 = .ok (.iload_n 1, 1) := dk_n (t := []) dk_g27 (by decide +kernel)
theorem dX0_chooseFrom_56 : decode cX0_chooseFrom 56 = .ok (.invokevirtual 65, 3) := dk_u2 (y := 0) (z := 65) dk_g182 (by decide +kernel) rfl
theorem dX0_chooseFrom_59 : decode cX0_chooseFrom 59 = .ok (.istore_n 3, 1) := dk_n (t := []) dk_g62 (by decide +kernel)
theorem dX0_chooseFrom_60 : decode cX0_chooseFrom 60 = .ok (.iconst 0, 1) := dk_n (t := []) dk_g3 (by decide +kernel)
theorem dX0_chooseFrom_61 : decode cX0_chooseFrom 61 = .ok (.istore 4, 2) := dk_u1 (y := 4) dk_g54 (by decide +kernel)
theorem dX0_chooseFrom_63 : decode cX0_chooseFrom 63 = .ok (.iload 4, 2) := dk_u1 (y := 4) dk_g21 (by decide +kernel)
theorem dX0_chooseFrom_65 : decode cX0_chooseFrom 65 = .ok (.bipush 8, 2) := dk_s1 (y := 8) dk_g16 (by decide +kernel) rfl
theorem dX0_chooseFrom_67 : decode cX0_chooseFrom 67 = .ok (.if_icmp .ge 47, 3) := dk_s2 (y := 0) (z := 47) dk_g162 (by decide +kernel) rfl
theorem dX0_chooseFrom_70 : decode cX0_chooseFrom 70 = .ok (.iload_n 3, 1) := dk_n (t := []) dk_g29 (by decide +kernel)
theorem dX0_chooseFrom_71 : decode cX0_chooseFrom 71 = .ok (.iload 4, 2) := dk_u1 (y := 4) dk_g21 (by decide +kernel)
theorem dX0_chooseFrom_73 : decode cX0_chooseFrom 73 = .ok (.invokestatic 69, 3) := dk_u2 (y := 0) (z := 69) dk_g184 (by decide +kernel) rfl
theorem dX0_chooseFrom_76 : decode cX0_chooseFrom 76 = .ok (.ifCond .eq 32, 3) := dk_s2 (y := 0) (z := 32) dk_g153 (by decide +kernel) rfl
theorem dX0_chooseFrom_79 : decode cX0_chooseFrom 79 = .ok (.aload_n 0, 1) := dk_n (t := []) dk_g42 (by decide +kernel)
theorem dX0_chooseFrom_80 : decode cX0_chooseFrom 80 = .ok (.getfield 15, 3) := dk_u2 (y := 0) (z := 15) dk_g180 (by decide +kernel) rfl
theorem dX0_chooseFrom_83 : decode cX0_chooseFrom 83 = .ok (.iload_n 1, 1) := dk_n (t := []) dk_g27 (by decide +kernel)
theorem dX0_chooseFrom_84 : decode cX0_chooseFrom 84 = .ok (.iload 4, 2) := dk_u1 (y := 4) dk_g21 (by decide +kernel)
theorem dX0_chooseFrom_86 : decode cX0_chooseFrom 86 = .ok (.iastore, 1) := dk_n (t := []) dk_g79 (by decide +kernel)
theorem dX0_chooseFrom_87 : decode cX0_chooseFrom 87 = .ok (.aload_n 0, 1) := dk_n (t := []) dk_g42 (by decide +kernel)
theorem dX0_chooseFrom_88 : decode cX0_chooseFrom 88 = .ok (.iload_n 1, 1) := dk_n (t := []) dk_g27 (by decide +kernel)
theorem dX0_chooseFrom_89 : decode cX0_chooseFrom 89 = .ok (.iconst 1, 1) := dk_n (t := []) dk_g4 (by decide +kernel)
theorem dX0_chooseFrom_90 : decode cX0_chooseFrom 90 = .ok (.iadd, 1) := dk_n (t := []) dk_g96 (by decide +kernel)
theorem dX0_chooseFrom_91 : decode cX0_chooseFrom 91 = .ok (.iload_n 2, 1) := dk_n (t := []) dk_g28 (by decide +kernel)
theorem dX0_chooseFrom_92 : decode cX0_chooseFrom 92 = .ok (.aload_n 0, 1) := dk_n (t := []) dk_g42 (by decide +kernel)
theorem dX0_chooseFrom_93 : decode cX0_chooseFrom 93 = .ok (.getfield 21, 3) := dk_u2 (y := 0) (z := 21) dk_g180 (by decide +kernel) rfl
theorem dX0_chooseFrom_96 : decode cX0_chooseFrom 96 = .ok (.getfield 73, 3) := dk_u2 (y := 0) (z := 73) dk_g180 (by decide +kernel) rfl
theorem dX0_chooseFrom_99 : decode cX0_chooseFrom 99 = .ok (.iload_n 1, 1) := dk_n (t := []) dk_g27 (by decide +kernel)
theorem dX0_chooseFrom_100 : decode cX0_chooseFrom 100 = .ok (.iaload, 1) := dk_n (t := []) dk_g46 (by decide +kernel)
theorem dX0_chooseFrom_101 : decode cX0_chooseFrom 101 = .ok (.iload 4, 2) := dk_u1 (y := 4) dk_g21 (by decide +kernel)
theorem dX0_chooseFrom_103 : decode cX0_chooseFrom 103 = .ok (.imul, 1) := dk_n (t := []) dk_g104 (by decide +kernel)
theorem dX0_chooseFrom_104 : decode cX0_chooseFrom 104 = .ok (.iadd, 1) := dk_n (t := []) dk_g96 (by decide +kernel)
theorem dX0_chooseFrom_105 : decode cX0_chooseFrom 105 = .ok (.invokestatic 54, 3) := dk_u2 (y := 0) (z := 54) dk_g184 (by decide +kernel) rfl
theorem dX0_chooseFrom_108 : decode cX0_chooseFrom 108 = .ok (.iinc 4 1, 3) := dk_ii (y := 4) (z := 1) dk_g132 (by decide +kernel) rfl
theorem dX0_chooseFrom_111 : decode cX0_chooseFrom 111 = .ok (.goto (-48), 3) := dk_s2 (y := 255) (z := 208) dk_g167 (by decide +kernel) rfl
theorem dX0_chooseFrom_114 : decode cX0_chooseFrom 114 = .ok (.return_, 1) := dk_n (t := []) dk_g177 (by decide +kernel)
theorem dX0_countFrom_0 : decode cX0_countFrom 0 = .ok (.iload_n 1, 1) := dk_n (t := []) dk_g27 (by decide +kernel)
theorem dX0_countFrom_1 : decode cX0_countFrom 1 = .ok (.aload_n 0, 1) := dk_n (t := []) dk_g42 (by decide +kernel)
theorem dX0_countFrom_2 : decode cX0_countFrom 2 = .ok (.getfield 21, 3) := dk_u2 (y := 0) (z := 21) dk_g180 (by decide +kernel) rfl
theorem dX0_countFrom_5 : decode cX0_countFrom 5 = .ok (.getfield 49, 3) := dk_u2 (y := 0) (z := 49) dk_g180 (by decide +kernel) rfl
theorem dX0_countFrom_8 : decode cX0_countFrom 8 = .ok (.if_icmp .lt 14, 3) := dk_s2 (y := 0) (z := 14) dk_g161 (by decide +kernel) rfl
theorem dX0_countFrom_11 : decode cX0_countFrom 11 = .ok (.aload_n 0, 1) := dk_n (t := []) dk_g42 (by decide +kernel)
theorem dX0_countFrom_12 : decode cX0_countFrom 12 = .ok (.dup, 1) := dk_n (t := []) dk_g89 (by decide +kernel)
theorem dX0_countFrom_13 : decode cX0_countFrom 13 = .ok (.getfield 58, 3) := dk_u2 (y := 0) (z := 58) dk_g180 (by decide +kernel) rfl
theorem dX0_countFrom_16 : decode cX0_countFrom 16 = .ok (.iconst 1, 1) := dk_n (t := []) dk_g4 (by decide +kernel)
theorem dX0_countFrom_17 : decode cX0_countFrom 17 = .ok (.iadd, 1) := dk_n (t := []) dk_g96 (by decide +kernel)
theorem dX0_countFrom_18 : decode cX0_countFrom 18 = .ok (.putfield 58, 3) := dk_u2 (y := 0) (z := 58) dk_g181 (by decide +kernel) rfl
theorem dX0_countFrom_21 : decode cX0_countFrom 21 = .ok (.return_, 1) := dk_n (t := []) dk_g177 (by decide +kernel)
theorem dX0_countFrom_22 : decode cX0_countFrom 22 = .ok (.aload_n 0, 1) := dk_n (t := []) dk_g42 (by decide +kernel)
theorem dX0_countFrom_23 : decode cX0_countFrom 23 = .ok (.iload_n 1, 1) := dk_n (t := []) dk_g27 (by decide +kernel)
theorem dX0_countFrom_24 : decode cX0_countFrom 24 = .ok (.invokevirtual 65, 3) := dk_u2 (y := 0) (z := 65) dk_g182 (by decide +kernel) rfl
theorem dX0_countFrom_27 : decode cX0_countFrom 27 = .ok (.istore_n 2, 1) := dk_n (t := []) dk_g61 (by decide +kernel)
theorem dX0_countFrom_28 : decode cX0_countFrom 28 = .ok (.iconst 0, 1) := dk_n (t := []) dk_g3 (by decide +kernel)
theorem dX0_countFrom_29 : decode cX0_countFrom 29 = .ok (.istore_n 3, 1) := dk_n (t := []) dk_g62 (by decide +kernel)
theorem dX0_countFrom_30 : decode cX0_countFrom 30 = .ok (.iload_n 3, 1) := dk_n (t := []) dk_g29 (by decide +kernel)
theorem dX0_countFrom_31 : decode cX0_countFrom 31 = .ok (.bipush 8, 2) := dk_s1 (y := 8) dk_g16 (by decide +kernel) rfl
theorem dX0_countFrom_33 : decode cX0_countFrom 33 = .ok (.if_icmp .ge 41, 3) := dk_s2 (y := 0) (z := 41) dk_g162 (by decide +kernel) rfl
theorem dX0_countFrom_36 : decode cX0_countFrom 36 = .ok (.aload_n 0, 1) := dk_n (t := []) dk_g42 (by decide +kernel)
theorem dX0_countFrom_37 : decode cX0_countFrom 37 = .ok (.getfield 58, 3) := dk_u2 (y := 0) (z := 58) dk_g180 (by decide +kernel) rfl
theorem dX0_countFrom_40 : decode cX0_countFrom 40 = .ok (.sipush 500, 3) := dk_s2 (y := 1) (z := 244) dk_g17 (by decide +kernel) rfl
theorem dX0_countFrom_43 : decode cX0_countFrom 43 = .ok (.if_icmp .ge 31, 3) := dk_s2 (y := 0) (z := 31) dk_g162 (by decide +kernel) rfl
theorem dX0_countFrom_46 : decode cX0_countFrom 46 = .ok (.iload_n 2, 1) := dk_n (t := []) dk_g28 (by decide +kernel)
theorem dX0_countFrom_47 : decode cX0_countFrom 47 = .ok (.iload_n 3, 1) := dk_n (t := []) dk_g29 (by decide +kernel)
theorem dX0_countFrom_48 : decode cX0_countFrom 48 = .ok (.invokestatic 69, 3) := dk_u2 (y := 0) (z := 69) dk_g184 (by decide +kernel) rfl
theorem dX0_countFrom_51 : decode cX0_countFrom 51 = .ok (.ifCond .eq 17, 3) := dk_s2 (y := 0) (z := 17) dk_g153 (by decide +kernel) rfl
theorem dX0_countFrom_54 : decode cX0_countFrom 54 = .ok (.aload_n 0, 1) := dk_n (t := []) dk_g42 (by decide +kernel)
theorem dX0_countFrom_55 : decode cX0_countFrom 55 = .ok (.getfield 15, 3) := dk_u2 (y := 0) (z := 15) dk_g180 (by decide +kernel) rfl
theorem dX0_countFrom_58 : decode cX0_countFrom 58 = .ok (.iload_n 1, 1) := dk_n (t := []) dk_g27 (by decide +kernel)
theorem dX0_countFrom_59 : decode cX0_countFrom 59 = .ok (.iload_n 3, 1) := dk_n (t := []) dk_g29 (by decide +kernel)
theorem dX0_countFrom_60 : decode cX0_countFrom 60 = .ok (.iastore, 1) := dk_n (t := []) dk_g79 (by decide +kernel)
theorem dX0_countFrom_61 : decode cX0_countFrom 61 = .ok (.aload_n 0, 1) := dk_n (t := []) dk_g42 (by decide +kernel)
theorem dX0_countFrom_62 : decode cX0_countFrom 62 = .ok (.iload_n 1, 1) := dk_n (t := []) dk_g27 (by decide +kernel)
theorem dX0_countFrom_63 : decode cX0_countFrom 63 = .ok (.iconst 1, 1) := dk_n (t := []) dk_g4 (by decide +kernel)
theorem dX0_countFrom_64 : decode cX0_countFrom 64 = .ok (.iadd, 1) := dk_n (t := []) dk_g96 (by decide +kernel)
theorem dX0_countFrom_65 : decode cX0_countFrom 65 = .ok (.invokestatic 61, 3) := dk_u2 (y := 0) (z := 61) dk_g184 (by decide +kernel) rfl
theorem dX0_countFrom_68 : decode cX0_countFrom 68 = .ok (.iinc 3 1, 3) := dk_ii (y := 3) (z := 1) dk_g132 (by decide +kernel) rfl
theorem dX0_countFrom_71 : decode cX0_countFrom 71 = .ok (.goto (-41), 3) := dk_s2 (y := 255) (z := 215) dk_g167 (by decide +kernel) rfl
theorem dX0_countFrom_74 : decode cX0_countFrom 74 = .ok (.return_, 1) := dk_n (t := []) dk_g177 (by decide +kernel)
theorem dX0_fittingAt_0 : decode cX0_fittingAt 0 = .ok (.aload_n 0, 1) := dk_n (t := []) dk_g42 (by decide +kernel)
theorem dX0_fittingAt_1 : decode cX0_fittingAt 1 = .ok (.getfield 9, 3) := dk_u2 (y := 0) (z := 9) dk_g180 (by decide +kernel) rfl
theorem dX0_fittingAt_4 : decode cX0_fittingAt 4 = .ok (.iload_n 1, 1) := dk_n (t := []) dk_g27 (by decide +kernel)
theorem dX0_fittingAt_5 : decode cX0_fittingAt 5 = .ok (.iaload, 1) := dk_n (t := []) dk_g46 (by decide +kernel)
theorem dX0_fittingAt_6 : decode cX0_fittingAt 6 = .ok (.istore_n 2, 1) := dk_n (t := []) dk_g61 (by decide +kernel)
theorem dX0_fittingAt_7 : decode cX0_fittingAt 7 = .ok (.iconst 0, 1) := dk_n (t := []) dk_g3 (by decide +kernel)
theorem dX0_fittingAt_8 : decode cX0_fittingAt 8 = .ok (.istore_n 3, 1) := dk_n (t := []) dk_g62 (by decide +kernel)
theorem dX0_fittingAt_9 : decode cX0_fittingAt 9 = .ok (.iload_n 3, 1) := dk_n (t := []) dk_g29 (by decide +kernel)
theorem dX0_fittingAt_10 : decode cX0_fittingAt 10 = .ok (.aload_n 0, 1) := dk_n (t := []) dk_g42 (by decide +kernel)
theorem dX0_fittingAt_11 : decode cX0_fittingAt 11 = .ok (.getfield 21, 3) := dk_u2 (y := 0) (z := 21) dk_g180 (by decide +kernel) rfl
theorem dX0_fittingAt_14 : decode cX0_fittingAt 14 = .ok (.getfield 76, 3) := dk_u2 (y := 0) (z := 76) dk_g180 (by decide +kernel) rfl
theorem dX0_fittingAt_17 : decode cX0_fittingAt 17 = .ok (.if_icmp .ge 122, 3) := dk_s2 (y := 0) (z := 122) dk_g162 (by decide +kernel) rfl
theorem dX0_fittingAt_20 : decode cX0_fittingAt 20 = .ok (.aload_n 0, 1) := dk_n (t := []) dk_g42 (by decide +kernel)
theorem dX0_fittingAt_21 : decode cX0_fittingAt 21 = .ok (.getfield 46, 3) := dk_u2 (y := 0) (z := 46) dk_g180 (by decide +kernel) rfl
theorem dX0_fittingAt_24 : decode cX0_fittingAt 24 = .ok (.iload_n 3, 1) := dk_n (t := []) dk_g29 (by decide +kernel)
theorem dX0_fittingAt_25 : decode cX0_fittingAt 25 = .ok (.invokestatic 69, 3) := dk_u2 (y := 0) (z := 69) dk_g184 (by decide +kernel) rfl
theorem dX0_fittingAt_28 : decode cX0_fittingAt 28 = .ok (.ifCond .eq 105, 3) := dk_s2 (y := 0) (z := 105) dk_g153 (by decide +kernel) rfl
theorem dX0_fittingAt_31 : decode cX0_fittingAt 31 = .ok (.aload_n 0, 1) := dk_n (t := []) dk_g42 (by decide +kernel)
theorem dX0_fittingAt_32 : decode cX0_fittingAt 32 = .ok (.getfield 21, 3) := dk_u2 (y := 0) (z := 21) dk_g180 (by decide +kernel) rfl
theorem dX0_fittingAt_35 : decode cX0_fittingAt 35 = .ok (.iload_n 3, 1) := dk_n (t := []) dk_g29 (by decide +kernel)
theorem dX0_fittingAt_36 : decode cX0_fittingAt 36 = .ok (.invokevirtual 77, 3) := dk_u2 (y := 0) (z := 77) dk_g182 (by decide +kernel) rfl
theorem dX0_fittingAt_39 : decode cX0_fittingAt 39 = .ok (.ifCond .eq 94, 3) := dk_s2 (y := 0) (z := 94) dk_g153 (by decide +kernel) rfl
theorem dX0_fittingAt_42 : decode cX0_fittingAt 42 = .ok (.aload_n 0, 1) := dk_n (t := []) dk_g42 (by decide +kernel)
theorem dX0_fittingAt_43 : decode cX0_fittingAt 43 = .ok (.getfield 21, 3) := dk_u2 (y := 0) (z := 21) dk_g180 (by decide +kernel) rfl
theorem dX0_fittingAt_46 : decode cX0_fittingAt 46 = .ok (.getfield 81, 3) := dk_u2 (y := 0) (z := 81) dk_g180 (by decide +kernel) rfl
theorem dX0_fittingAt_49 : decode cX0_fittingAt 49 = .ok (.iload_n 3, 1) := dk_n (t := []) dk_g29 (by decide +kernel)
theorem dX0_fittingAt_50 : decode cX0_fittingAt 50 = .ok (.iaload, 1) := dk_n (t := []) dk_g46 (by decide +kernel)
theorem dX0_fittingAt_51 : decode cX0_fittingAt 51 = .ok (.istore 4, 2) := dk_u1 (y := 4) dk_g54 (by decide +kernel)
theorem dX0_fittingAt_53 : decode cX0_fittingAt 53 = .ok (.aload_n 0, 1) := dk_n (t := []) dk_g42 (by decide +kernel)
theorem dX0_fittingAt_54 : decode cX0_fittingAt 54 = .ok (.getfield 21, 3) := dk_u2 (y := 0) (z := 21) dk_g180 (by decide +kernel) rfl
theorem dX0_fittingAt_57 : decode cX0_fittingAt 57 = .ok (.getfield 84, 3) := dk_u2 (y := 0) (z := 84) dk_g180 (by decide +kernel) rfl
theorem dX0_fittingAt_60 : decode cX0_fittingAt 60 = .ok (.iload_n 3, 1) := dk_n (t := []) dk_g29 (by decide +kernel)
theorem dX0_fittingAt_61 : decode cX0_fittingAt 61 = .ok (.iaload, 1) := dk_n (t := []) dk_g46 (by decide +kernel)
theorem dX0_fittingAt_62 : decode cX0_fittingAt 62 = .ok (.istore 5, 2) := dk_u1 (y := 5) dk_g54 (by decide +kernel)
theorem dX0_fittingAt_64 : decode cX0_fittingAt 64 = .ok (.iload 4, 2) := dk_u1 (y := 4) dk_g21 (by decide +kernel)
theorem dX0_fittingAt_66 : decode cX0_fittingAt 66 = .ok (.iload_n 1, 1) := dk_n (t := []) dk_g27 (by decide +kernel)
theorem dX0_fittingAt_67 : decode cX0_fittingAt 67 = .ok (.if_icmp .ne 33, 3) := dk_s2 (y := 0) (z := 33) dk_g160 (by decide +kernel) rfl
theorem dX0_fittingAt_70 : decode cX0_fittingAt 70 = .ok (.iload 5, 2) := dk_u1 (y := 5) dk_g21 (by decide +kernel)
theorem dX0_fittingAt_72 : decode cX0_fittingAt 72 = .ok (.iload_n 1, 1) := dk_n (t := []) dk_g27 (by decide +kernel)
theorem dX0_fittingAt_73 : decode cX0_fittingAt 73 = .ok (.if_icmp .ge 27, 3) := dk_s2 (y := 0) (z := 27) dk_g162 (by decide +kernel) rfl
theorem dX0_fittingAt_76 : decode cX0_fittingAt 76 = .ok (.iload_n 2, 1) := dk_n (t := []) dk_g28 (by decide +kernel)
theorem dX0_fittingAt_77 : decode cX0_fittingAt 77 = .ok (.aload_n 0, 1) := dk_n (t := []) dk_g42 (by decide +kernel)
theorem dX0_fittingAt_78 : decode cX0_fittingAt 78 = .ok (.getfield 21, 3) := dk_u2 (y := 0) (z := 21) dk_g180 (by decide +kernel) rfl
theorem dX0_fittingAt_81 : decode cX0_fittingAt 81 = .ok (.iload_n 3, 1) := dk_n (t := []) dk_g29 (by decide +kernel)
theorem dX0_fittingAt_82 : decode cX0_fittingAt 82 = .ok (.iconst 0, 1) := dk_n (t := []) dk_g3 (by decide +kernel)
theorem dX0_fittingAt_83 : decode cX0_fittingAt 83 = .ok (.iconst 1, 1) := dk_n (t := []) dk_g4 (by decide +kernel)
theorem dX0_fittingAt_84 : decode cX0_fittingAt 84 = .ok (.aload_n 0, 1) := dk_n (t := []) dk_g42 (by decide +kernel)
theorem dX0_fittingAt_85 : decode cX0_fittingAt 85 = .ok (.getfield 15, 3) := dk_u2 (y := 0) (z := 15) dk_g180 (by decide +kernel) rfl
theorem dX0_fittingAt_88 : decode cX0_fittingAt 88 = .ok (.iload 5, 2) := dk_u1 (y := 5) dk_g21 (by decide +kernel)
theorem dX0_fittingAt_90 : decode cX0_fittingAt 90 = .ok (.iaload, 1) := dk_n (t := []) dk_g46 (by decide +kernel)
theorem dX0_fittingAt_91 : decode cX0_fittingAt 91 = .ok (.ishl, 1) := dk_n (t := []) dk_g120 (by decide +kernel)
theorem dX0_fittingAt_92 : decode cX0_fittingAt 92 = .ok (.invokevirtual 87, 3) := dk_u2 (y := 0) (z := 87) dk_g182 (by decide +kernel) rfl
theorem dX0_fittingAt_95 : decode cX0_fittingAt 95 = .ok (.iand, 1) := dk_n (t := []) dk_g126 (by decide +kernel)
theorem dX0_fittingAt_96 : decode cX0_fittingAt 96 = .ok (.istore_n 2, 1) := dk_n (t := []) dk_g61 (by decide +kernel)
theorem dX0_fittingAt_97 : decode cX0_fittingAt 97 = .ok (.goto 36, 3) := dk_s2 (y := 0) (z := 36) dk_g167 (by decide +kernel) rfl
theorem dX0_fittingAt_100 : decode cX0_fittingAt 100 = .ok (.iload 5, 2) := dk_u1 (y := 5) dk_g21 (by decide +kernel)
theorem dX0_fittingAt_102 : decode cX0_fittingAt 102 = .ok (.iload_n 1, 1) := dk_n (t := []) dk_g27 (by decide +kernel)
theorem dX0_fittingAt_103 : decode cX0_fittingAt 103 = .ok (.if_icmp .ne 30, 3) := dk_s2 (y := 0) (z := 30) dk_g160 (by decide +kernel) rfl
theorem dX0_fittingAt_106 : decode cX0_fittingAt 106 = .ok (.iload 4, 2) := dk_u1 (y := 4) dk_g21 (by decide +kernel)
theorem dX0_fittingAt_108 : decode cX0_fittingAt 108 = .ok (.iload_n 1, 1) := dk_n (t := []) dk_g27 (by decide +kernel)
theorem dX0_fittingAt_109 : decode cX0_fittingAt 109 = .ok (.if_icmp .ge 24, 3) := dk_s2 (y := 0) (z := 24) dk_g162 (by decide +kernel) rfl
theorem dX0_fittingAt_112 : decode cX0_fittingAt 112 = .ok (.iload_n 2, 1) := dk_n (t := []) dk_g28 (by decide +kernel)
theorem dX0_fittingAt_113 : decode cX0_fittingAt 113 = .ok (.aload_n 0, 1) := dk_n (t := []) dk_g42 (by decide +kernel)
theorem dX0_fittingAt_114 : decode cX0_fittingAt 114 = .ok (.getfield 21, 3) := dk_u2 (y := 0) (z := 21) dk_g180 (by decide +kernel) rfl
theorem dX0_fittingAt_117 : decode cX0_fittingAt 117 = .ok (.iload_n 3, 1) := dk_n (t := []) dk_g29 (by decide +kernel)
theorem dX0_fittingAt_118 : decode cX0_fittingAt 118 = .ok (.iconst 1, 1) := dk_n (t := []) dk_g4 (by decide +kernel)
theorem dX0_fittingAt_119 : decode cX0_fittingAt 119 = .ok (.iconst 1, 1) := dk_n (t := []) dk_g4 (by decide +kernel)
theorem dX0_fittingAt_120 : decode cX0_fittingAt 120 = .ok (.aload_n 0, 1) := dk_n (t := []) dk_g42 (by decide +kernel)
theorem dX0_fittingAt_121 : decode cX0_fittingAt 121 = .ok (.getfield 15, 3) := dk_u2 (y := 0) (z := 15) dk_g180 (by decide +kernel) rfl
theorem dX0_fittingAt_124 : decode cX0_fittingAt 124 = .ok (.iload 4, 2) := dk_u1 (y := 4) dk_g21 (by decide +kernel)
theorem dX0_fittingAt_126 : decode cX0_fittingAt 126 = .ok (.iaload, 1) := dk_n (t := []) dk_g46 (by decide +kernel)
theorem dX0_fittingAt_127 : decode cX0_fittingAt 127 = .ok (.ishl, 1) := dk_n (t := []) dk_g120 (by decide +kernel)
theorem dX0_fittingAt_128 : decode cX0_fittingAt 128 = .ok (.invokevirtual 87, 3) := dk_u2 (y := 0) (z := 87) dk_g182 (by decide +kernel) rfl
theorem dX0_fittingAt_131 : decode cX0_fittingAt 131 = .ok (.iand, 1) := dk_n (t := []) dk_g126 (by decide +kernel)
theorem dX0_fittingAt_132 : decode cX0_fittingAt 132 = .ok (.istore_n 2, 1) := dk_n (t := []) dk_g61 (by decide +kernel)
theorem dX0_fittingAt_133 : decode cX0_fittingAt 133 = .ok (.iinc 3 1, 3) := dk_ii (y := 3) (z := 1) dk_g132 (by decide +kernel) rfl
theorem dX0_fittingAt_136 : decode cX0_fittingAt 136 = .ok (.goto (-127), 3) := dk_s2 (y := 255) (z := 129) dk_g167 (by decide +kernel) rfl
theorem dX0_fittingAt_139 : decode cX0_fittingAt 139 = .ok (.iload_n 2, 1) := dk_n (t := []) dk_g28 (by decide +kernel)
theorem dX0_fittingAt_140 : decode cX0_fittingAt 140 = .ok (.ireturn, 1) := dk_n (t := []) dk_g172 (by decide +kernel)
theorem dX1_init_0 : decode cX1_init 0 = .ok (.aload_n 0, 1) := dk_n (t := []) dk_g42 (by decide +kernel)
theorem dX1_init_1 : decode cX1_init 1 = .ok (.invokespecial 3, 3) := dk_u2 (y := 0) (z := 3) dk_g183 (by decide +kernel) rfl
theorem dX1_init_4 : decode cX1_init 4 = .ok (.aload_n 0, 1) := dk_n (t := []) dk_g42 (by decide +kernel)
theorem dX1_init_5 : decode cX1_init 5 = .ok (.bipush 12, 2) := dk_s1 (y := 12) dk_g16 (by decide +kernel) rfl
theorem dX1_init_7 : decode cX1_init 7 = .ok (.iconst 5, 1) := dk_n (t := []) dk_g8 (by decide +kernel)
theorem dX1_init_8 : decode cX1_init 8 = .ok (.multianewarray 9 2, 4) := by decide +kernel
theorem dX1_init_12 : decode cX1_init 12 = .ok (.putfield 11, 3) := dk_u2 (y := 0) (z := 11) dk_g181 (by decide +kernel) rfl
theorem dX1_init_15 : decode cX1_init 15 = .ok (.aload_n 0, 1) := dk_n (t := []) dk_g42 (by decide +kernel)
theorem dX1_init_16 : decode cX1_init 16 = .ok (.bipush 6, 2) := dk_s1 (y := 6) dk_g16 (by decide +kernel) rfl
theorem dX1_init_18 : decode cX1_init 18 = .ok (.iconst 5, 1) := dk_n (t := []) dk_g8 (by decide +kernel)
theorem dX1_init_19 : decode cX1_init 19 = .ok (.multianewarray 9 2, 4) := by decide +kernel
theorem dX1_init_23 : decode cX1_init 23 = .ok (.putfield 16, 3) := dk_u2 (y := 0) (z := 16) dk_g181 (by decide +kernel) rfl
theorem dX1_init_26 : decode cX1_init 26 = .ok (.aload_n 0, 1) := dk_n (t := []) dk_g42 (by decide +kernel)
theorem dX1_init_27 : decode cX1_init 27 = .ok (.bipush 6, 2) := dk_s1 (y := 6) dk_g16 (by decide +kernel) rfl
theorem dX1_init_29 : decode cX1_init 29 = .ok (.newarray .int, 2) := by decide +kernel
theorem dX1_init_31 : decode cX1_init 31 = .ok (.putfield 19, 3) := dk_u2 (y := 0) (z := 19) dk_g181 (by decide +kernel) rfl
theorem dX1_init_34 : decode cX1_init 34 = .ok (.iconst 0, 1) := dk_n (t := []) dk_g3 (by decide +kernel)
theorem dX1_init_35 : decode cX1_init 35 = .ok (.istore_n 1, 1) := dk_n (t := []) dk_g60 (by decide +kernel)
theorem dX1_init_36 : decode cX1_init 36 = .ok (.iload_n 1, 1) := dk_n (t := []) dk_g27 (by decide +kernel)
theorem dX1_init_37 : decode cX1_init 37 = .ok (.bipush 6, 2) := dk_s1 (y := 6) dk_g16 (by decide +kernel) rfl
theorem dX1_init_39 : decode cX1_init 39 = .ok (.if_icmp .ge 19, 3) := dk_s2 (y := 0) (z := 19) dk_g162 (by decide +kernel) rfl
theorem dX1_init_42 : decode cX1_init 42 = .ok (.aload_n 0, 1) := dk_n (t := []) dk_g42 (by decide +kernel)
theorem dX1_init_43 : decode cX1_init 43 = .ok (.getfield 16, 3) := dk_u2 (y := 0) (z := 16) dk_g180 (by decide +kernel) rfl
theorem dX1_init_46 : decode cX1_init 46 = .ok (.iload_n 1, 1) := dk_n (t := []) dk_g27 (by decide +kernel)
theorem dX1_init_47 : decode cX1_init 47 = .ok (.aaload, 1) := dk_n (t := []) dk_g50 (by decide +kernel)
theorem dX1_init_48 : decode cX1_init 48 = .ok (.iconst (-1), 1) := dk_n (t := []) dk_g2 (by decide +kernel)
theorem dX1_init_49 : decode cX1_init 49 = .ok (.invokestatic 23, 3) := dk_u2 (y := 0) (z := 23) dk_g184 (by decide +kernel) rfl
theorem dX1_init_52 : decode cX1_init 52 = .ok (.iinc 1 1, 3) := dk_ii (y := 1) (z := 1) dk_g132 (by decide +kernel) rfl
theorem dX1_init_55 : decode cX1_init 55 = .ok (.goto (-19), 3) := dk_s2 (y := 255) (z := 237) dk_g167 (by decide +kernel) rfl
theorem dX1_init_58 : decode cX1_init 58 = .ok (.aload_n 0, 1) := dk_n (t := []) dk_g42 (by decide +kernel)
theorem dX1_init_59 : decode cX1_init 59 = .ok (.getfield 19, 3) := dk_u2 (y := 0) (z := 19) dk_g180 (by decide +kernel) rfl
theorem dX1_init_62 : decode cX1_init 62 = .ok (.iconst (-1), 1) := dk_n (t := []) dk_g2 (by decide +kernel)
theorem dX1_init_63 : decode cX1_init 63 = .ok (.invokestatic 23, 3) := dk_u2 (y := 0) (z := 23) dk_g184 (by decide +kernel) rfl
theorem dX1_init_66 : decode cX1_init 66 = .ok (.return_, 1) := dk_n (t := []) dk_g177 (by decide +kernel)
theorem dX1_keep_0 : decode cX1_keep 0 = .ok (.aload_n 0, 1) := dk_n (t := []) dk_g42 (by decide +kernel)
theorem dX1_keep_1 : decode cX1_keep 1 = .ok (.getfield 29, 3) := dk_u2 (y := 0) (z := 29) dk_g180 (by decide +kernel) rfl
theorem dX1_keep_4 : decode cX1_keep 4 = .ok (.bipush 12, 2) := dk_s1 (y := 12) dk_g16 (by decide +kernel) rfl
theorem dX1_keep_6 : decode cX1_keep 6 = .ok (.if_icmp .lt 5, 3) := dk_s2 (y := 0) (z := 5) dk_g161 (by decide +kernel) rfl
theorem dX1_keep_9 : decode cX1_keep 9 = .ok (.iconst (-1), 1) := dk_n (t := []) dk_g2 (by decide +kernel)
theorem dX1_keep_10 : decode cX1_keep 10 = .ok (.ireturn, 1) := dk_n (t := []) dk_g172 (by decide +kernel)
theorem dX1_keep_11 : decode cX1_keep 11 = .ok (.aload_n 1, 1) := dk_n (t := []) dk_g43 (by decide +kernel)
theorem dX1_keep_12 : decode cX1_keep 12 = .ok (.iconst 0, 1) := dk_n (t := []) dk_g3 (by decide +kernel)
theorem dX1_keep_13 : decode cX1_keep 13 = .ok (.aload_n 0, 1) := dk_n (t := []) dk_g42 (by decide +kernel)
theorem dX1_keep_14 : decode cX1_keep 14 = .ok (.getfield 11, 3) := dk_u2 (y := 0) (z := 11) dk_g180 (by decide +kernel) rfl
theorem dX1_keep_17 : decode cX1_keep 17 = .ok (.aload_n 0, 1) := dk_n (t := []) dk_g42 (by decide +kernel)
theorem dX1_keep_18 : decode cX1_keep 18 = .ok (.getfield 29, 3) := dk_u2 (y := 0) (z := 29) dk_g180 (by decide +kernel) rfl
theorem dX1_keep_21 : decode cX1_keep 21 = .ok (.aaload, 1) := dk_n (t := []) dk_g50 (by decide +kernel)
theorem dX1_keep_22 : decode cX1_keep 22 = .ok (.iconst 0, 1) := dk_n (t := []) dk_g3 (by decide +kernel)
theorem dX1_keep_23 : decode cX1_keep 23 = .ok (.iconst 5, 1) := dk_n (t := []) dk_g8 (by decide +kernel)
theorem dX1_keep_24 : decode cX1_keep 24 = .ok (.invokestatic 33, 3) := dk_u2 (y := 0) (z := 33) dk_g184 (by decide +kernel) rfl
theorem dX1_keep_27 : decode cX1_keep 27 = .ok (.aload_n 0, 1) := dk_n (t := []) dk_g42 (by decide +kernel)
theorem dX1_keep_28 : decode cX1_keep 28 = .ok (.dup, 1) := dk_n (t := []) dk_g89 (by decide +kernel)
theorem dX1_keep_29 : decode cX1_keep 29 = .ok (.getfield 29, 3) := dk_u2 (y := 0) (z := 29) dk_g180 (by decide +kernel) rfl
theorem dX1_keep_32 : decode cX1_keep 32 = .ok (.iconst 1, 1) := dk_n (t := []) dk_g4 (by decide +kernel)
theorem dX1_keep_33 : decode cX1_keep 33 = .ok (.iadd, 1) := dk_n (t := []) dk_g96 (by decide +kernel)
theorem dX1_keep_34 : decode cX1_keep 34 = .ok (.putfield 29, 3) := dk_u2 (y := 0) (z := 29) dk_g181 (by decide +kernel) rfl
theorem dX1_keep_37 : decode cX1_keep 37 = .ok (.aload_n 0, 1) := dk_n (t := []) dk_g42 (by decide +kernel)
theorem dX1_keep_38 : decode cX1_keep 38 = .ok (.getfield 29, 3) := dk_u2 (y := 0) (z := 29) dk_g180 (by decide +kernel) rfl
theorem dX1_keep_41 : decode cX1_keep 41 = .ok (.iconst 1, 1) := dk_n (t := []) dk_g4 (by decide +kernel)
theorem dX1_keep_42 : decode cX1_keep 42 = .ok (.isub, 1) := dk_n (t := []) dk_g100 (by decide +kernel)
theorem dX1_keep_43 : decode cX1_keep 43 = .ok (.ireturn, 1) := dk_n (t := []) dk_g172 (by decide +kernel)
theorem dX1_bring_0 : decode cX1_bring 0 = .ok (.aload_n 0, 1) := dk_n (t := []) dk_g42 (by decide +kernel)
theorem dX1_bring_1 : decode cX1_bring 1 = .ok (.getfield 19, 3) := dk_u2 (y := 0) (z := 19) dk_g180 (by decide +kernel) rfl
theorem dX1_bring_4 : decode cX1_bring 4 = .ok (.iload_n 1, 1) := dk_n (t := []) dk_g27 (by decide +kernel)
theorem dX1_bring_5 : decode cX1_bring 5 = .ok (.iaload, 1) := dk_n (t := []) dk_g46 (by decide +kernel)
theorem dX1_bring_6 : decode cX1_bring 6 = .ok (.iload_n 2, 1) := dk_n (t := []) dk_g28 (by decide +kernel)
theorem dX1_bring_7 : decode cX1_bring 7 = .ok (.if_icmp .ne 11, 3) := dk_s2 (y := 0) (z := 11) dk_g160 (by decide +kernel) rfl
theorem dX1_bring_10 : decode cX1_bring 10 = .ok (.aload_n 0, 1) := dk_n (t := []) dk_g42 (by decide +kernel)
theorem dX1_bring_11 : decode cX1_bring 11 = .ok (.iload_n 1, 1) := dk_n (t := []) dk_g27 (by decide +kernel)
theorem dX1_bring_12 : decode cX1_bring 12 = .ok (.invokevirtual 39, 3) := dk_u2 (y := 0) (z := 39) dk_g182 (by decide +kernel) rfl
theorem dX1_bring_15 : decode cX1_bring 15 = .ok (.ifCond .eq 7, 3) := dk_s2 (y := 0) (z := 7) dk_g153 (by decide +kernel) rfl
theorem dX1_bring_18 : decode cX1_bring 18 = .ok (.iconst 1, 1) := dk_n (t := []) dk_g4 (by decide +kernel)
theorem dX1_bring_19 : decode cX1_bring 19 = .ok (.goto 4, 3) := dk_s2 (y := 0) (z := 4) dk_g167 (by decide +kernel) rfl
theorem dX1_bring_22 : decode cX1_bring 22 = .ok (.iconst 0, 1) := dk_n (t := []) dk_g3 (by decide +kernel)
theorem dX1_bring_23 : decode cX1_bring 23 = .ok (.istore_n 3, 1) := dk_n (t := []) dk_g62 (by decide +kernel)
theorem dX1_bring_24 : decode cX1_bring 24 = .ok (.aload_n 0, 1) := dk_n (t := []) dk_g42 (by decide +kernel)
theorem dX1_bring_25 : decode cX1_bring 25 = .ok (.getfield 19, 3) := dk_u2 (y := 0) (z := 19) dk_g180 (by decide +kernel) rfl
theorem dX1_bring_28 : decode cX1_bring 28 = .ok (.iload_n 1, 1) := dk_n (t := []) dk_g27 (by decide +kernel)
theorem dX1_bring_29 : decode cX1_bring 29 = .ok (.iload_n 2, 1) := dk_n (t := []) dk_g28 (by decide +kernel)
theorem dX1_bring_30 : decode cX1_bring 30 = .ok (.iastore, 1) := dk_n (t := []) dk_g79 (by decide +kernel)
theorem dX1_bring_31 : decode cX1_bring 31 = .ok (.aload_n 0, 1) := dk_n (t := []) dk_g42 (by decide +kernel)
theorem dX1_bring_32 : decode cX1_bring 32 = .ok (.getfield 11, 3) := dk_u2 (y := 0) (z := 11) dk_g180 (by decide +kernel) rfl
theorem dX1_bring_35 : decode cX1_bring 35 = .ok (.iload_n 2, 1) := dk_n (t := []) dk_g28 (by decide +kernel)
theorem dX1_bring_36 : decode cX1_bring 36 = .ok (.aaload, 1) := dk_n (t := []) dk_g50 (by decide +kernel)
theorem dX1_bring_37 : decode cX1_bring 37 = .ok (.iconst 0, 1) := dk_n (t := []) dk_g3 (by decide +kernel)
theorem dX1_bring_38 : decode cX1_bring 38 = .ok (.aload_n 0, 1) := dk_n (t := []) dk_g42 (by decide +kernel)
theorem dX1_bring_39 : decode cX1_bring 39 = .ok (.getfield 16, 3) := dk_u2 (y := 0) (z := 16) dk_g180 (by decide +kernel) rfl
theorem dX1_bring_42 : decode cX1_bring 42 = .ok (.iload_n 1, 1) := dk_n (t := []) dk_g27 (by decide +kernel)
theorem dX1_bring_43 : decode cX1_bring 43 = .ok (.aaload, 1) := dk_n (t := []) dk_g50 (by decide +kernel)
theorem dX1_bring_44 : decode cX1_bring 44 = .ok (.iconst 0, 1) := dk_n (t := []) dk_g3 (by decide +kernel)
theorem dX1_bring_45 : decode cX1_bring 45 = .ok (.iconst 5, 1) := dk_n (t := []) dk_g8 (by decide +kernel)
theorem dX1_bring_46 : decode cX1_bring 46 = .ok (.invokestatic 33, 3) := dk_u2 (y := 0) (z := 33) dk_g184 (by decide +kernel) rfl
theorem dX1_bring_49 : decode cX1_bring 49 = .ok (.iload_n 3, 1) := dk_n (t := []) dk_g29 (by decide +kernel)
theorem dX1_bring_50 : decode cX1_bring 50 = .ok (.ireturn, 1) := dk_n (t := []) dk_g172 (by decide +kernel)
theorem dX1_drifts_0 : decode cX1_drifts 0 = .ok (.aload_n 0, 1) := dk_n (t := []) dk_g42 (by decide +kernel)
theorem dX1_drifts_1 : decode cX1_drifts 1 = .ok (.getfield 19, 3) := dk_u2 (y := 0) (z := 19) dk_g180 (by decide +kernel) rfl
theorem dX1_drifts_4 : decode cX1_drifts 4 = .ok (.iload_n 1, 1) := dk_n (t := []) dk_g27 (by decide +kernel)
theorem dX1_drifts_5 : decode cX1_drifts 5 = .ok (.iaload, 1) := dk_n (t := []) dk_g46 (by decide +kernel)
theorem dX1_drifts_6 : decode cX1_drifts 6 = .ok (.istore_n 3, 1) := dk_n (t := []) dk_g62 (by decide +kernel)
theorem dX1_drifts_7 : decode cX1_drifts 7 = .ok (.iload_n 3, 1) := dk_n (t := []) dk_g29 (by decide +kernel)
theorem dX1_drifts_8 : decode cX1_drifts 8 = .ok (.ifCond .lt 34, 3) := dk_s2 (y := 0) (z := 34) dk_g155 (by decide +kernel) rfl
theorem dX1_drifts_11 : decode cX1_drifts 11 = .ok (.iload_n 3, 1) := dk_n (t := []) dk_g29 (by decide +kernel)
theorem dX1_drifts_12 : decode cX1_drifts 12 = .ok (.aload_n 0, 1) := dk_n (t := []) dk_g42 (by decide +kernel)
theorem dX1_drifts_13 : decode cX1_drifts 13 = .ok (.getfield 29, 3) := dk_u2 (y := 0) (z := 29) dk_g180 (by decide +kernel) rfl
theorem dX1_drifts_16 : decode cX1_drifts 16 = .ok (.if_icmp .ge 26, 3) := dk_s2 (y := 0) (z := 26) dk_g162 (by decide +kernel) rfl
theorem dX1_drifts_19 : decode cX1_drifts 19 = .ok (.aload_n 0, 1) := dk_n (t := []) dk_g42 (by decide +kernel)
theorem dX1_drifts_20 : decode cX1_drifts 20 = .ok (.getfield 16, 3) := dk_u2 (y := 0) (z := 16) dk_g180 (by decide +kernel) rfl
theorem dX1_drifts_23 : decode cX1_drifts 23 = .ok (.iload_n 1, 1) := dk_n (t := []) dk_g27 (by decide +kernel)
theorem dX1_drifts_24 : decode cX1_drifts 24 = .ok (.aaload, 1) := dk_n (t := []) dk_g50 (by decide +kernel)
theorem dX1_drifts_25 : decode cX1_drifts 25 = .ok (.iload_n 2, 1) := dk_n (t := []) dk_g28 (by decide +kernel)
theorem dX1_drifts_26 : decode cX1_drifts 26 = .ok (.iaload, 1) := dk_n (t := []) dk_g46 (by decide +kernel)
theorem dX1_drifts_27 : decode cX1_drifts 27 = .ok (.aload_n 0, 1) := dk_n (t := []) dk_g42 (by decide +kernel)
theorem dX1_drifts_28 : decode cX1_drifts 28 = .ok (.getfield 11, 3) := dk_u2 (y := 0) (z := 11) dk_g180 (by decide +kernel) rfl
theorem dX1_drifts_31 : decode cX1_drifts 31 = .ok (.iload_n 3, 1) := dk_n (t := []) dk_g29 (by decide +kernel)
theorem dX1_drifts_32 : decode cX1_drifts 32 = .ok (.aaload, 1) := dk_n (t := []) dk_g50 (by decide +kernel)
theorem dX1_drifts_33 : decode cX1_drifts 33 = .ok (.iload_n 2, 1) := dk_n (t := []) dk_g28 (by decide +kernel)
theorem dX1_drifts_34 : decode cX1_drifts 34 = .ok (.iaload, 1) := dk_n (t := []) dk_g46 (by decide +kernel)
theorem dX1_drifts_35 : decode cX1_drifts 35 = .ok (.if_icmp .eq 7, 3) := dk_s2 (y := 0) (z := 7) dk_g159 (by decide +kernel) rfl
theorem dX1_drifts_38 : decode cX1_drifts 38 = .ok (.iconst 1, 1) := dk_n (t := []) dk_g4 (by decide +kernel)
theorem dX1_drifts_39 : decode cX1_drifts 39 = .ok (.goto 4, 3) := dk_s2 (y := 0) (z := 4) dk_g167 (by decide +kernel) rfl
theorem dX1_drifts_42 : decode cX1_drifts 42 = .ok (.iconst 0, 1) := dk_n (t := []) dk_g3 (by decide +kernel)
theorem dX1_drifts_43 : decode cX1_drifts 43 = .ok (.ireturn, 1) := dk_n (t := []) dk_g172 (by decide +kernel)
theorem dX1_drifting_0 : decode cX1_drifting 0 = .ok (.iconst 0, 1) := dk_n (t := []) dk_g3 (by decide +kernel)
theorem dX1_drifting_1 : decode cX1_drifting 1 = .ok (.istore_n 2, 1) := dk_n (t := []) dk_g61 (by decide +kernel)
theorem dX1_drifting_2 : decode cX1_drifting 2 = .ok (.iconst 0, 1) := dk_n (t := []) dk_g3 (by decide +kernel)
theorem dX1_drifting_3 : decode cX1_drifting 3 = .ok (.istore_n 3, 1) := dk_n (t := []) dk_g62 (by decide +kernel)
theorem dX1_drifting_4 : decode cX1_drifting 4 = .ok (.iload_n 3, 1) := dk_n (t := []) dk_g29 (by decide +kernel)
theorem dX1_drifting_5 : decode cX1_drifting 5 = .ok (.iconst 5, 1) := dk_n (t := []) dk_g8 (by decide +kernel)
theorem dX1_drifting_6 : decode cX1_drifting 6 = .ok (.if_icmp .ge 24, 3) := dk_s2 (y := 0) (z := 24) dk_g162 (by decide +kernel) rfl
theorem dX1_drifting_9 : decode cX1_drifting 9 = .ok (.aload_n 0, 1) := dk_n (t := []) dk_g42 (by decide +kernel)
theorem dX1_drifting_10 : decode cX1_drifting 10 = .ok (.iload_n 1, 1) := dk_n (t := []) dk_g27 (by decide +kernel)
theorem dX1_drifting_11 : decode cX1_drifting 11 = .ok (.iload_n 3, 1) := dk_n (t := []) dk_g29 (by decide +kernel)
theorem dX1_drifting_12 : decode cX1_drifting 12 = .ok (.invokevirtual 43, 3) := dk_u2 (y := 0) (z := 43) dk_g182 (by decide +kernel) rfl
theorem dX1_drifting_15 : decode cX1_drifting 15 = .ok (.ifCond .eq 9, 3) := dk_s2 (y := 0) (z := 9) dk_g153 (by decide +kernel) rfl
theorem dX1_drifting_18 : decode cX1_drifting 18 = .ok (.iload_n 2, 1) := dk_n (t := []) dk_g28 (by decide +kernel)
theorem dX1_drifting_19 : decode cX1_drifting 19 = .ok (.iconst 1, 1) := dk_n (t := []) dk_g4 (by decide +kernel)
theorem dX1_drifting_20 : decode cX1_drifting 20 = .ok (.iload_n 3, 1) := dk_n (t := []) dk_g29 (by decide +kernel)
theorem dX1_drifting_21 : decode cX1_drifting 21 = .ok (.ishl, 1) := dk_n (t := []) dk_g120 (by decide +kernel)
theorem dX1_drifting_22 : decode cX1_drifting 22 = .ok (.ior, 1) := dk_n (t := []) dk_g128 (by decide +kernel)
theorem dX1_drifting_23 : decode cX1_drifting 23 = .ok (.istore_n 2, 1) := dk_n (t := []) dk_g61 (by decide +kernel)
theorem dX1_drifting_24 : decode cX1_drifting 24 = .ok (.iinc 3 1, 3) := dk_ii (y := 3) (z := 1) dk_g132 (by decide +kernel) rfl
theorem dX1_drifting_27 : decode cX1_drifting 27 = .ok (.goto (-23), 3) := dk_s2 (y := 255) (z := 233) dk_g167 (by decide +kernel) rfl
theorem dX1_drifting_30 : decode cX1_drifting 30 = .ok (.iload_n 2, 1) := dk_n (t := []) dk_g28 (by decide +kernel)
theorem dX1_drifting_31 : decode cX1_drifting 31 = .ok (.ireturn, 1) := dk_n (t := []) dk_g172 (by decide +kernel)
theorem dX1_driftingMachines_0 : decode cX1_driftingMachines 0 = .ok (.iconst 0, 1) := dk_n (t := []) dk_g3 (by decide +kernel)
theorem dX1_driftingMachines_1 : decode cX1_driftingMachines 1 = .ok (.istore_n 1, 1) := dk_n (t := []) dk_g60 (by decide +kernel)
theorem dX1_driftingMachines_2 : decode cX1_driftingMachines 2 = .ok (.iconst 0, 1) := dk_n (t := []) dk_g3 (by decide +kernel)
theorem dX1_driftingMachines_3 : decode cX1_driftingMachines 3 = .ok (.istore_n 2, 1) := dk_n (t := []) dk_g61 (by decide +kernel)
theorem dX1_driftingMachines_4 : decode cX1_driftingMachines 4 = .ok (.iload_n 2, 1) := dk_n (t := []) dk_g28 (by decide +kernel)
theorem dX1_driftingMachines_5 : decode cX1_driftingMachines 5 = .ok (.bipush 6, 2) := dk_s1 (y := 6) dk_g16 (by decide +kernel) rfl
theorem dX1_driftingMachines_7 : decode cX1_driftingMachines 7 = .ok (.if_icmp .ge 20, 3) := dk_s2 (y := 0) (z := 20) dk_g162 (by decide +kernel) rfl
theorem dX1_driftingMachines_10 : decode cX1_driftingMachines 10 = .ok (.aload_n 0, 1) := dk_n (t := []) dk_g42 (by decide +kernel)
theorem dX1_driftingMachines_11 : decode cX1_driftingMachines 11 = .ok (.iload_n 2, 1) := dk_n (t := []) dk_g28 (by decide +kernel)
theorem dX1_driftingMachines_12 : decode cX1_driftingMachines 12 = .ok (.invokevirtual 39, 3) := dk_u2 (y := 0) (z := 39) dk_g182 (by decide +kernel) rfl
theorem dX1_driftingMachines_15 : decode cX1_driftingMachines 15 = .ok (.ifCond .eq 6, 3) := dk_s2 (y := 0) (z := 6) dk_g153 (by decide +kernel) rfl
theorem dX1_driftingMachines_18 : decode cX1_driftingMachines 18 = .ok (.iinc 1 1, 3) := dk_ii (y := 1) (z := 1) dk_g132 (by decide +kernel) rfl
theorem dX1_driftingMachines_21 : decode cX1_driftingMachines 21 = .ok (.iinc 2 1, 3) := dk_ii (y := 2) (z := 1) dk_g132 (by decide +kernel) rfl
theorem dX1_driftingMachines_24 : decode cX1_driftingMachines 24 = .ok (.goto (-20), 3) := dk_s2 (y := 255) (z := 236) dk_g167 (by decide +kernel) rfl
theorem dX1_driftingMachines_27 : decode cX1_driftingMachines 27 = .ok (.iload_n 1, 1) := dk_n (t := []) dk_g27 (by decide +kernel)
theorem dX1_driftingMachines_28 : decode cX1_driftingMachines 28 = .ok (.ireturn, 1) := dk_n (t := []) dk_g172 (by decide +kernel)
theorem dX1_find_0 : decode cX1_find 0 = .ok (.iconst 1, 1) := dk_n (t := []) dk_g4 (by decide +kernel)
theorem dX1_find_1 : decode cX1_find 1 = .ok (.istore_n 2, 1) := dk_n (t := []) dk_g61 (by decide +kernel)
theorem dX1_find_2 : decode cX1_find 2 = .ok (.iload_n 2, 1) := dk_n (t := []) dk_g28 (by decide +kernel)
theorem dX1_find_3 : decode cX1_find 3 = .ok (.aload_n 0, 1) := dk_n (t := []) dk_g42 (by decide +kernel)
theorem dX1_find_4 : decode cX1_find 4 = .ok (.getfield 29, 3) := dk_u2 (y := 0) (z := 29) dk_g180 (by decide +kernel) rfl
theorem dX1_find_7 : decode cX1_find 7 = .ok (.if_icmp .ge 32, 3) := dk_s2 (y := 0) (z := 32) dk_g162 (by decide +kernel) rfl
theorem dX1_find_10 : decode cX1_find 10 = .ok (.aload_n 0, 1) := dk_n (t := []) dk_g42 (by decide +kernel)
theorem dX1_find_11 : decode cX1_find 11 = .ok (.getfield 11, 3) := dk_u2 (y := 0) (z := 11) dk_g180 (by decide +kernel) rfl
theorem dX1_find_14 : decode cX1_find 14 = .ok (.iload_n 2, 1) := dk_n (t := []) dk_g28 (by decide +kernel)
theorem dX1_find_15 : decode cX1_find 15 = .ok (.aaload, 1) := dk_n (t := []) dk_g50 (by decide +kernel)
theorem dX1_find_16 : decode cX1_find 16 = .ok (.iload_n 1, 1) := dk_n (t := []) dk_g27 (by decide +kernel)
theorem dX1_find_17 : decode cX1_find 17 = .ok (.iaload, 1) := dk_n (t := []) dk_g46 (by decide +kernel)
theorem dX1_find_18 : decode cX1_find 18 = .ok (.aload_n 0, 1) := dk_n (t := []) dk_g42 (by decide +kernel)
theorem dX1_find_19 : decode cX1_find 19 = .ok (.getfield 11, 3) := dk_u2 (y := 0) (z := 11) dk_g180 (by decide +kernel) rfl
theorem dX1_find_22 : decode cX1_find 22 = .ok (.iload_n 2, 1) := dk_n (t := []) dk_g28 (by decide +kernel)
theorem dX1_find_23 : decode cX1_find 23 = .ok (.iconst 1, 1) := dk_n (t := []) dk_g4 (by decide +kernel)
theorem dX1_find_24 : decode cX1_find 24 = .ok (.isub, 1) := dk_n (t := []) dk_g100 (by decide +kernel)
theorem dX1_find_25 : decode cX1_find 25 = .ok (.aaload, 1) := dk_n (t := []) dk_g50 (by decide +kernel)
theorem dX1_find_26 : decode cX1_find 26 = .ok (.iload_n 1, 1) := dk_n (t := []) dk_g27 (by decide +kernel)
theorem dX1_find_27 : decode cX1_find 27 = .ok (.iaload, 1) := dk_n (t := []) dk_g46 (by decide +kernel)
theorem dX1_find_28 : decode cX1_find 28 = .ok (.if_icmp .eq 5, 3) := dk_s2 (y := 0) (z := 5) dk_g159 (by decide +kernel) rfl
theorem dX1_find_31 : decode cX1_find 31 = .ok (.iload_n 2, 1) := dk_n (t := []) dk_g28 (by decide +kernel)
theorem dX1_find_32 : decode cX1_find 32 = .ok (.ireturn, 1) := dk_n (t := []) dk_g172 (by decide +kernel)
theorem dX1_find_33 : decode cX1_find 33 = .ok (.iinc 2 1, 3) := dk_ii (y := 2) (z := 1) dk_g132 (by decide +kernel) rfl
theorem dX1_find_36 : decode cX1_find 36 = .ok (.goto (-34), 3) := dk_s2 (y := 255) (z := 222) dk_g167 (by decide +kernel) rfl
theorem dX1_find_39 : decode cX1_find 39 = .ok (.iconst (-1), 1) := dk_n (t := []) dk_g2 (by decide +kernel)
theorem dX1_find_40 : decode cX1_find 40 = .ok (.ireturn, 1) := dk_n (t := []) dk_g172 (by decide +kernel)
theorem dX2_init_0 : decode cX2_init 0 = .ok (.aload_n 0, 1) := dk_n (t := []) dk_g42 (by decide +kernel)
theorem dX2_init_1 : decode cX2_init 1 = .ok (.invokespecial 3, 3) := dk_u2 (y := 0) (z := 3) dk_g183 (by decide +kernel) rfl
theorem dX2_init_4 : decode cX2_init 4 = .ok (.aload_n 0, 1) := dk_n (t := []) dk_g42 (by decide +kernel)
theorem dX2_init_5 : decode cX2_init 5 = .ok (.iconst 5, 1) := dk_n (t := []) dk_g8 (by decide +kernel)
theorem dX2_init_6 : decode cX2_init 6 = .ok (.newarray .int, 2) := by decide +kernel
theorem dX2_init_8 : decode cX2_init 8 = .ok (.putfield 9, 3) := dk_u2 (y := 0) (z := 9) dk_g181 (by decide +kernel) rfl
theorem dX2_init_11 : decode cX2_init 11 = .ok (.aload_n 0, 1) := dk_n (t := []) dk_g42 (by decide +kernel)
theorem dX2_init_12 : decode cX2_init 12 = .ok (.iconst 5, 1) := dk_n (t := []) dk_g8 (by decide +kernel)
theorem dX2_init_13 : decode cX2_init 13 = .ok (.newarray .int, 2) := by decide +kernel
theorem dX2_init_15 : decode cX2_init 15 = .ok (.putfield 15, 3) := dk_u2 (y := 0) (z := 15) dk_g181 (by decide +kernel) rfl
theorem dX2_init_18 : decode cX2_init 18 = .ok (.aload_n 0, 1) := dk_n (t := []) dk_g42 (by decide +kernel)
theorem dX2_init_19 : decode cX2_init 19 = .ok (.bipush 30, 2) := dk_s1 (y := 30) dk_g16 (by decide +kernel) rfl
theorem dX2_init_21 : decode cX2_init 21 = .ok (.newarray .int, 2) := by decide +kernel
theorem dX2_init_23 : decode cX2_init 23 = .ok (.putfield 18, 3) := dk_u2 (y := 0) (z := 18) dk_g181 (by decide +kernel) rfl
theorem dX2_init_26 : decode cX2_init 26 = .ok (.aload_n 0, 1) := dk_n (t := []) dk_g42 (by decide +kernel)
theorem dX2_init_27 : decode cX2_init 27 = .ok (.bipush 30, 2) := dk_s1 (y := 30) dk_g16 (by decide +kernel) rfl
theorem dX2_init_29 : decode cX2_init 29 = .ok (.newarray .int, 2) := by decide +kernel
theorem dX2_init_31 : decode cX2_init 31 = .ok (.putfield 21, 3) := dk_u2 (y := 0) (z := 21) dk_g181 (by decide +kernel) rfl
theorem dX2_init_34 : decode cX2_init 34 = .ok (.aload_n 0, 1) := dk_n (t := []) dk_g42 (by decide +kernel)
theorem dX2_init_35 : decode cX2_init 35 = .ok (.bipush 30, 2) := dk_s1 (y := 30) dk_g16 (by decide +kernel) rfl
theorem dX2_init_37 : decode cX2_init 37 = .ok (.newarray .int, 2) := by decide +kernel
theorem dX2_init_39 : decode cX2_init 39 = .ok (.putfield 24, 3) := dk_u2 (y := 0) (z := 24) dk_g181 (by decide +kernel) rfl
theorem dX2_init_42 : decode cX2_init 42 = .ok (.aload_n 0, 1) := dk_n (t := []) dk_g42 (by decide +kernel)
theorem dX2_init_43 : decode cX2_init 43 = .ok (.bipush 30, 2) := dk_s1 (y := 30) dk_g16 (by decide +kernel) rfl
theorem dX2_init_45 : decode cX2_init 45 = .ok (.newarray .int, 2) := by decide +kernel
theorem dX2_init_47 : decode cX2_init 47 = .ok (.putfield 27, 3) := dk_u2 (y := 0) (z := 27) dk_g181 (by decide +kernel) rfl
theorem dX2_init_50 : decode cX2_init 50 = .ok (.aload_n 0, 1) := dk_n (t := []) dk_g42 (by decide +kernel)
theorem dX2_init_51 : decode cX2_init 51 = .ok (.bipush 30, 2) := dk_s1 (y := 30) dk_g16 (by decide +kernel) rfl
theorem dX2_init_53 : decode cX2_init 53 = .ok (.newarray .int, 2) := by decide +kernel
theorem dX2_init_55 : decode cX2_init 55 = .ok (.putfield 30, 3) := dk_u2 (y := 0) (z := 30) dk_g181 (by decide +kernel) rfl
theorem dX2_init_58 : decode cX2_init 58 = .ok (.aload_n 0, 1) := dk_n (t := []) dk_g42 (by decide +kernel)
theorem dX2_init_59 : decode cX2_init 59 = .ok (.bipush 30, 2) := dk_s1 (y := 30) dk_g16 (by decide +kernel) rfl
theorem dX2_init_61 : decode cX2_init 61 = .ok (.newarray .boolean, 2) := by decide +kernel
theorem dX2_init_63 : decode cX2_init 63 = .ok (.putfield 33, 3) := dk_u2 (y := 0) (z := 33) dk_g181 (by decide +kernel) rfl
theorem dX2_init_66 : decode cX2_init 66 = .ok (.aload_n 0, 1) := dk_n (t := []) dk_g42 (by decide +kernel)
theorem dX2_init_67 : decode cX2_init 67 = .ok (.bipush 30, 2) := dk_s1 (y := 30) dk_g16 (by decide +kernel) rfl
theorem dX2_init_69 : decode cX2_init 69 = .ok (.newarray .boolean, 2) := by decide +kernel
theorem dX2_init_71 : decode cX2_init 71 = .ok (.putfield 37, 3) := dk_u2 (y := 0) (z := 37) dk_g181 (by decide +kernel) rfl
theorem dX2_init_74 : decode cX2_init 74 = .ok (.return_, 1) := dk_n (t := []) dk_g177 (by decide +kernel)
theorem dX2_makeField_0 : decode cX2_makeField 0 = .ok (.aload_n 0, 1) := dk_n (t := []) dk_g42 (by decide +kernel)
theorem dX2_makeField_1 : decode cX2_makeField 1 = .ok (.getfield 40, 3) := dk_u2 (y := 0) (z := 40) dk_g180 (by decide +kernel) rfl
theorem dX2_makeField_4 : decode cX2_makeField 4 = .ok (.iconst 5, 1) := dk_n (t := []) dk_g8 (by decide +kernel)
theorem dX2_makeField_5 : decode cX2_makeField 5 = .ok (.if_icmp .lt 5, 3) := dk_s2 (y := 0) (z := 5) dk_g161 (by decide +kernel) rfl
theorem dX2_makeField_8 : decode cX2_makeField 8 = .ok (.iconst (-1), 1) := dk_n (t := []) dk_g2 (by decide +kernel)
theorem dX2_makeField_9 : decode cX2_makeField 9 = .ok (.ireturn, 1) := dk_n (t := []) dk_g172 (by decide +kernel)
theorem dX2_makeField_10 : decode cX2_makeField 10 = .ok (.aload_n 0, 1) := dk_n (t := []) dk_g42 (by decide +kernel)
theorem dX2_makeField_11 : decode cX2_makeField 11 = .ok (.getfield 9, 3) := dk_u2 (y := 0) (z := 9) dk_g180 (by decide +kernel) rfl
theorem dX2_makeField_14 : decode cX2_makeField 14 = .ok (.aload_n 0, 1) := dk_n (t := []) dk_g42 (by decide +kernel)
theorem dX2_makeField_15 : decode cX2_makeField 15 = .ok (.getfield 40, 3) := dk_u2 (y := 0) (z := 40) dk_g180 (by decide +kernel) rfl
theorem dX2_makeField_18 : decode cX2_makeField 18 = .ok (.iload_n 1, 1) := dk_n (t := []) dk_g27 (by decide +kernel)
theorem dX2_makeField_19 : decode cX2_makeField 19 = .ok (.iastore, 1) := dk_n (t := []) dk_g79 (by decide +kernel)
theorem dX2_makeField_20 : decode cX2_makeField 20 = .ok (.aload_n 0, 1) := dk_n (t := []) dk_g42 (by decide +kernel)
theorem dX2_makeField_21 : decode cX2_makeField 21 = .ok (.getfield 15, 3) := dk_u2 (y := 0) (z := 15) dk_g180 (by decide +kernel) rfl
theorem dX2_makeField_24 : decode cX2_makeField 24 = .ok (.aload_n 0, 1) := dk_n (t := []) dk_g42 (by decide +kernel)
theorem dX2_makeField_25 : decode cX2_makeField 25 = .ok (.getfield 40, 3) := dk_u2 (y := 0) (z := 40) dk_g180 (by decide +kernel) rfl
theorem dX2_makeField_28 : decode cX2_makeField 28 = .ok (.iconst 1, 1) := dk_n (t := []) dk_g4 (by decide +kernel)
theorem dX2_makeField_29 : decode cX2_makeField 29 = .ok (.iastore, 1) := dk_n (t := []) dk_g79 (by decide +kernel)
theorem dX2_makeField_30 : decode cX2_makeField 30 = .ok (.aload_n 0, 1) := dk_n (t := []) dk_g42 (by decide +kernel)
theorem dX2_makeField_31 : decode cX2_makeField 31 = .ok (.dup, 1) := dk_n (t := []) dk_g89 (by decide +kernel)
theorem dX2_makeField_32 : decode cX2_makeField 32 = .ok (.getfield 40, 3) := dk_u2 (y := 0) (z := 40) dk_g180 (by decide +kernel) rfl
theorem dX2_makeField_35 : decode cX2_makeField 35 = .ok (.iconst 1, 1) := dk_n (t := []) dk_g4 (by decide +kernel)
theorem dX2_makeField_36 : decode cX2_makeField 36 = .ok (.iadd, 1) := dk_n (t := []) dk_g96 (by decide +kernel)
theorem dX2_makeField_37 : decode cX2_makeField 37 = .ok (.putfield 40, 3) := dk_u2 (y := 0) (z := 40) dk_g181 (by decide +kernel) rfl
theorem dX2_makeField_40 : decode cX2_makeField 40 = .ok (.aload_n 0, 1) := dk_n (t := []) dk_g42 (by decide +kernel)
theorem dX2_makeField_41 : decode cX2_makeField 41 = .ok (.getfield 40, 3) := dk_u2 (y := 0) (z := 40) dk_g180 (by decide +kernel) rfl
theorem dX2_makeField_44 : decode cX2_makeField 44 = .ok (.iconst 1, 1) := dk_n (t := []) dk_g4 (by decide +kernel)
theorem dX2_makeField_45 : decode cX2_makeField 45 = .ok (.isub, 1) := dk_n (t := []) dk_g100 (by decide +kernel)
theorem dX2_makeField_46 : decode cX2_makeField 46 = .ok (.ireturn, 1) := dk_n (t := []) dk_g172 (by decide +kernel)
theorem dX2_makeLine_0 : decode cX2_makeLine 0 = .ok (.aload_n 0, 1) := dk_n (t := []) dk_g42 (by decide +kernel)
theorem dX2_makeLine_1 : decode cX2_makeLine 1 = .ok (.getfield 44, 3) := dk_u2 (y := 0) (z := 44) dk_g180 (by decide +kernel) rfl
theorem dX2_makeLine_4 : decode cX2_makeLine 4 = .ok (.bipush 30, 2) := dk_s1 (y := 30) dk_g16 (by decide +kernel) rfl
theorem dX2_makeLine_6 : decode cX2_makeLine 6 = .ok (.if_icmp .lt 5, 3) := dk_s2 (y := 0) (z := 5) dk_g161 (by decide +kernel) rfl
theorem dX2_makeLine_9 : decode cX2_makeLine 9 = .ok (.iconst (-1), 1) := dk_n (t := []) dk_g2 (by decide +kernel)
theorem dX2_makeLine_10 : decode cX2_makeLine 10 = .ok (.ireturn, 1) := dk_n (t := []) dk_g172 (by decide +kernel)
theorem dX2_makeLine_11 : decode cX2_makeLine 11 = .ok (.aload_n 0, 1) := dk_n (t := []) dk_g42 (by decide +kernel)
theorem dX2_makeLine_12 : decode cX2_makeLine 12 = .ok (.getfield 18, 3) := dk_u2 (y := 0) (z := 18) dk_g180 (by decide +kernel) rfl
theorem dX2_makeLine_15 : decode cX2_makeLine 15 = .ok (.aload_n 0, 1) := dk_n (t := []) dk_g42 (by decide +kernel)
theorem dX2_makeLine_16 : decode cX2_makeLine 16 = .ok (.getfield 44, 3) := dk_u2 (y := 0) (z := 44) dk_g180 (by decide +kernel) rfl
theorem dX2_makeLine_19 : decode cX2_makeLine 19 = .ok (.iload_n 1, 1) := dk_n (t := []) dk_g27 (by decide +kernel)
theorem dX2_makeLine_20 : decode cX2_makeLine 20 = .ok (.iastore, 1) := dk_n (t := []) dk_g79 (by decide +kernel)
theorem dX2_makeLine_21 : decode cX2_makeLine 21 = .ok (.aload_n 0, 1) := dk_n (t := []) dk_g42 (by decide +kernel)
theorem dX2_makeLine_22 : decode cX2_makeLine 22 = .ok (.getfield 21, 3) := dk_u2 (y := 0) (z := 21) dk_g180 (by decide +kernel) rfl
theorem dX2_makeLine_25 : decode cX2_makeLine 25 = .ok (.aload_n 0, 1) := dk_n (t := []) dk_g42 (by decide +kernel)
theorem dX2_makeLine_26 : decode cX2_makeLine 26 = .ok (.getfield 44, 3) := dk_u2 (y := 0) (z := 44) dk_g180 (by decide +kernel) rfl
theorem dX2_makeLine_29 : decode cX2_makeLine 29 = .ok (.iload_n 2, 1) := dk_n (t := []) dk_g28 (by decide +kernel)
theorem dX2_makeLine_30 : decode cX2_makeLine 30 = .ok (.iastore, 1) := dk_n (t := []) dk_g79 (by decide +kernel)
theorem dX2_makeLine_31 : decode cX2_makeLine 31 = .ok (.aload_n 0, 1) := dk_n (t := []) dk_g42 (by decide +kernel)
theorem dX2_makeLine_32 : decode cX2_makeLine 32 = .ok (.getfield 24, 3) := dk_u2 (y := 0) (z := 24) dk_g180 (by decide +kernel) rfl
theorem dX2_makeLine_35 : decode cX2_makeLine 35 = .ok (.aload_n 0, 1) := dk_n (t := []) dk_g42 (by decide +kernel)
theorem dX2_makeLine_36 : decode cX2_makeLine 36 = .ok (.getfield 44, 3) := dk_u2 (y := 0) (z := 44) dk_g180 (by decide +kernel) rfl
theorem dX2_makeLine_39 : decode cX2_makeLine 39 = .ok (.iload_n 3, 1) := dk_n (t := []) dk_g29 (by decide +kernel)
theorem dX2_makeLine_40 : decode cX2_makeLine 40 = .ok (.iastore, 1) := dk_n (t := []) dk_g79 (by decide +kernel)
theorem dX2_makeLine_41 : decode cX2_makeLine 41 = .ok (.aload_n 0, 1) := dk_n (t := []) dk_g42 (by decide +kernel)
theorem dX2_makeLine_42 : decode cX2_makeLine 42 = .ok (.getfield 27, 3) := dk_u2 (y := 0) (z := 27) dk_g180 (by decide +kernel) rfl
theorem dX2_makeLine_45 : decode cX2_makeLine 45 = .ok (.aload_n 0, 1) := dk_n (t := []) dk_g42 (by decide +kernel)
theorem dX2_makeLine_46 : decode cX2_makeLine 46 = .ok (.getfield 44, 3) := dk_u2 (y := 0) (z := 44) dk_g180 (by decide +kernel) rfl
theorem dX2_makeLine_49 : decode cX2_makeLine 49 = .ok (.iload 4, 2) := dk_u1 (y := 4) dk_g21 (by decide +kernel)
theorem dX2_makeLine_51 : decode cX2_makeLine 51 = .ok (.iastore, 1) := dk_n (t := []) dk_g79 (by decide +kernel)
theorem dX2_makeLine_52 : decode cX2_makeLine 52 = .ok (.aload_n 0, 1) := dk_n (t := []) dk_g42 (by decide +kernel)
theorem dX2_makeLine_53 : decode cX2_makeLine 53 = .ok (.getfield 30, 3) := dk_u2 (y := 0) (z := 30) dk_g180 (by decide +kernel) rfl
theorem dX2_makeLine_56 : decode cX2_makeLine 56 = .ok (.aload_n 0, 1) := dk_n (t := []) dk_g42 (by decide +kernel)
theorem dX2_makeLine_57 : decode cX2_makeLine 57 = .ok (.getfield 44, 3) := dk_u2 (y := 0) (z := 44) dk_g180 (by decide +kernel) rfl
theorem dX2_makeLine_60 : decode cX2_makeLine 60 = .ok (.iload 5, 2) := dk_u1 (y := 5) dk_g21 (by decide +kernel)
theorem dX2_makeLine_62 : decode cX2_makeLine 62 = .ok (.iastore, 1) := dk_n (t := []) dk_g79 (by decide +kernel)
theorem dX2_makeLine_63 : decode cX2_makeLine 63 = .ok (.aload_n 0, 1) := dk_n (t := []) dk_g42 (by decide +kernel)
theorem dX2_makeLine_64 : decode cX2_makeLine 64 = .ok (.dup, 1) := dk_n (t := []) dk_g89 (by decide +kernel)
theorem dX2_makeLine_65 : decode cX2_makeLine 65 = .ok (.getfield 44, 3) := dk_u2 (y := 0) (z := 44) dk_g180 (by decide +kernel) rfl
theorem dX2_makeLine_68 : decode cX2_makeLine 68 = .ok (.iconst 1, 1) := dk_n (t := []) dk_g4 (by decide +kernel)
theorem dX2_makeLine_69 : decode cX2_makeLine 69 = .ok (.iadd, 1) := dk_n (t := []) dk_g96 (by decide +kernel)
theorem dX2_makeLine_70 : decode cX2_makeLine 70 = .ok (.putfield 44, 3) := dk_u2 (y := 0) (z := 44) dk_g181 (by decide +kernel) rfl
theorem dX2_makeLine_73 : decode cX2_makeLine 73 = .ok (.aload_n 0, 1) := dk_n (t := []) dk_g42 (by decide +kernel)
theorem dX2_makeLine_74 : decode cX2_makeLine 74 = .ok (.getfield 44, 3) := dk_u2 (y := 0) (z := 44) dk_g180 (by decide +kernel) rfl
theorem dX2_makeLine_77 : decode cX2_makeLine 77 = .ok (.iconst 1, 1) := dk_n (t := []) dk_g4 (by decide +kernel)
theorem dX2_makeLine_78 : decode cX2_makeLine 78 = .ok (.isub, 1) := dk_n (t := []) dk_g100 (by decide +kernel)
theorem dX2_makeLine_79 : decode cX2_makeLine 79 = .ok (.ireturn, 1) := dk_n (t := []) dk_g172 (by decide +kernel)
theorem dX2_counts_0 : decode cX2_counts 0 = .ok (.aload_n 0, 1) := dk_n (t := []) dk_g42 (by decide +kernel)
theorem dX2_counts_1 : decode cX2_counts 1 = .ok (.getfield 37, 3) := dk_u2 (y := 0) (z := 37) dk_g180 (by decide +kernel) rfl
theorem dX2_counts_4 : decode cX2_counts 4 = .ok (.iload_n 1, 1) := dk_n (t := []) dk_g27 (by decide +kernel)
theorem dX2_counts_5 : decode cX2_counts 5 = .ok (.baload, 1) := dk_n (t := []) dk_g51 (by decide +kernel)
theorem dX2_counts_6 : decode cX2_counts 6 = .ok (.ifCond .ne 36, 3) := dk_s2 (y := 0) (z := 36) dk_g154 (by decide +kernel) rfl
theorem dX2_counts_9 : decode cX2_counts 9 = .ok (.aload_n 0, 1) := dk_n (t := []) dk_g42 (by decide +kernel)
theorem dX2_counts_10 : decode cX2_counts 10 = .ok (.getfield 33, 3) := dk_u2 (y := 0) (z := 33) dk_g180 (by decide +kernel) rfl
theorem dX2_counts_13 : decode cX2_counts 13 = .ok (.iload_n 1, 1) := dk_n (t := []) dk_g27 (by decide +kernel)
theorem dX2_counts_14 : decode cX2_counts 14 = .ok (.baload, 1) := dk_n (t := []) dk_g51 (by decide +kernel)
theorem dX2_counts_15 : decode cX2_counts 15 = .ok (.ifCond .ne 23, 3) := dk_s2 (y := 0) (z := 23) dk_g154 (by decide +kernel) rfl
theorem dX2_counts_18 : decode cX2_counts 18 = .ok (.aload_n 0, 1) := dk_n (t := []) dk_g42 (by decide +kernel)
theorem dX2_counts_19 : decode cX2_counts 19 = .ok (.getfield 21, 3) := dk_u2 (y := 0) (z := 21) dk_g180 (by decide +kernel) rfl
theorem dX2_counts_22 : decode cX2_counts 22 = .ok (.iload_n 1, 1) := dk_n (t := []) dk_g27 (by decide +kernel)
theorem dX2_counts_23 : decode cX2_counts 23 = .ok (.iaload, 1) := dk_n (t := []) dk_g46 (by decide +kernel)
theorem dX2_counts_24 : decode cX2_counts 24 = .ok (.aload_n 0, 1) := dk_n (t := []) dk_g42 (by decide +kernel)
theorem dX2_counts_25 : decode cX2_counts 25 = .ok (.getfield 9, 3) := dk_u2 (y := 0) (z := 9) dk_g180 (by decide +kernel) rfl
theorem dX2_counts_28 : decode cX2_counts 28 = .ok (.aload_n 0, 1) := dk_n (t := []) dk_g42 (by decide +kernel)
theorem dX2_counts_29 : decode cX2_counts 29 = .ok (.getfield 24, 3) := dk_u2 (y := 0) (z := 24) dk_g180 (by decide +kernel) rfl
theorem dX2_counts_32 : decode cX2_counts 32 = .ok (.iload_n 1, 1) := dk_n (t := []) dk_g27 (by decide +kernel)
theorem dX2_counts_33 : decode cX2_counts 33 = .ok (.iaload, 1) := dk_n (t := []) dk_g46 (by decide +kernel)
theorem dX2_counts_34 : decode cX2_counts 34 = .ok (.iaload, 1) := dk_n (t := []) dk_g46 (by decide +kernel)
theorem dX2_counts_35 : decode cX2_counts 35 = .ok (.if_icmp .ne 7, 3) := dk_s2 (y := 0) (z := 7) dk_g160 (by decide +kernel) rfl
theorem dX2_counts_38 : decode cX2_counts 38 = .ok (.iconst 1, 1) := dk_n (t := []) dk_g4 (by decide +kernel)
theorem dX2_counts_39 : decode cX2_counts 39 = .ok (.goto 4, 3) := dk_s2 (y := 0) (z := 4) dk_g167 (by decide +kernel) rfl
theorem dX2_counts_42 : decode cX2_counts 42 = .ok (.iconst 0, 1) := dk_n (t := []) dk_g3 (by decide +kernel)
theorem dX2_counts_43 : decode cX2_counts 43 = .ok (.ireturn, 1) := dk_n (t := []) dk_g172 (by decide +kernel)
theorem dX2_countingLines_0 : decode cX2_countingLines 0 = .ok (.iconst 0, 1) := dk_n (t := []) dk_g3 (by decide +kernel)
theorem dX2_countingLines_1 : decode cX2_countingLines 1 = .ok (.istore_n 1, 1) := dk_n (t := []) dk_g60 (by decide +kernel)
theorem dX2_countingLines_2 : decode cX2_countingLines 2 = .ok (.iconst 0, 1) := dk_n (t := []) dk_g3 (by decide +kernel)
theorem dX2_countingLines_3 : decode cX2_countingLines 3 = .ok (.istore_n 2, 1) := dk_n (t := []) dk_g61 (by decide +kernel)
theorem dX2_countingLines_4 : decode cX2_countingLines 4 = .ok (.iload_n 2, 1) := dk_n (t := []) dk_g28 (by decide +kernel)
theorem dX2_countingLines_5 : decode cX2_countingLines 5 = .ok (.aload_n 0, 1) := dk_n (t := []) dk_g42 (by decide +kernel)
theorem dX2_countingLines_6 : decode cX2_countingLines 6 = .ok (.getfield 44, 3) := dk_u2 (y := 0) (z := 44) dk_g180 (by decide +kernel) rfl
theorem dX2_countingLines_9 : decode cX2_countingLines 9 = .ok (.if_icmp .ge 20, 3) := dk_s2 (y := 0) (z := 20) dk_g162 (by decide +kernel) rfl
theorem dX2_countingLines_12 : decode cX2_countingLines 12 = .ok (.aload_n 0, 1) := dk_n (t := []) dk_g42 (by decide +kernel)
theorem dX2_countingLines_13 : decode cX2_countingLines 13 = .ok (.iload_n 2, 1) := dk_n (t := []) dk_g28 (by decide +kernel)
theorem dX2_countingLines_14 : decode cX2_countingLines 14 = .ok (.invokevirtual 47, 3) := dk_u2 (y := 0) (z := 47) dk_g182 (by decide +kernel) rfl
theorem dX2_countingLines_17 : decode cX2_countingLines 17 = .ok (.ifCond .eq 6, 3) := dk_s2 (y := 0) (z := 6) dk_g153 (by decide +kernel) rfl
theorem dX2_countingLines_20 : decode cX2_countingLines 20 = .ok (.iinc 1 1, 3) := dk_ii (y := 1) (z := 1) dk_g132 (by decide +kernel) rfl
theorem dX2_countingLines_23 : decode cX2_countingLines 23 = .ok (.iinc 2 1, 3) := dk_ii (y := 2) (z := 1) dk_g132 (by decide +kernel) rfl
theorem dX2_countingLines_26 : decode cX2_countingLines 26 = .ok (.goto (-22), 3) := dk_s2 (y := 255) (z := 234) dk_g167 (by decide +kernel) rfl
theorem dX2_countingLines_29 : decode cX2_countingLines 29 = .ok (.iload_n 1, 1) := dk_n (t := []) dk_g27 (by decide +kernel)
theorem dX2_countingLines_30 : decode cX2_countingLines 30 = .ok (.ireturn, 1) := dk_n (t := []) dk_g172 (by decide +kernel)
theorem dX2_strictLines_0 : decode cX2_strictLines 0 = .ok (.iconst 0, 1) := dk_n (t := []) dk_g3 (by decide +kernel)
theorem dX2_strictLines_1 : decode cX2_strictLines 1 = .ok (.istore_n 1, 1) := dk_n (t := []) dk_g60 (by decide +kernel)
theorem dX2_strictLines_2 : decode cX2_strictLines 2 = .ok (.iconst 0, 1) := dk_n (t := []) dk_g3 (by decide +kernel)
theorem dX2_strictLines_3 : decode cX2_strictLines 3 = .ok (.istore_n 2, 1) := dk_n (t := []) dk_g61 (by decide +kernel)
theorem dX2_strictLines_4 : decode cX2_strictLines 4 = .ok (.iload_n 2, 1) := dk_n (t := []) dk_g28 (by decide +kernel)
theorem dX2_strictLines_5 : decode cX2_strictLines 5 = .ok (.aload_n 0, 1) := dk_n (t := []) dk_g42 (by decide +kernel)
theorem dX2_strictLines_6 : decode cX2_strictLines 6 = .ok (.getfield 44, 3) := dk_u2 (y := 0) (z := 44) dk_g180 (by decide +kernel) rfl
theorem dX2_strictLines_9 : decode cX2_strictLines 9 = .ok (.if_icmp .ge 33, 3) := dk_s2 (y := 0) (z := 33) dk_g162 (by decide +kernel) rfl
theorem dX2_strictLines_12 : decode cX2_strictLines 12 = .ok (.aload_n 0, 1) := dk_n (t := []) dk_g42 (by decide +kernel)
theorem dX2_strictLines_13 : decode cX2_strictLines 13 = .ok (.getfield 18, 3) := dk_u2 (y := 0) (z := 18) dk_g180 (by decide +kernel) rfl
theorem dX2_strictLines_16 : decode cX2_strictLines 16 = .ok (.iload_n 2, 1) := dk_n (t := []) dk_g28 (by decide +kernel)
theorem dX2_strictLines_17 : decode cX2_strictLines 17 = .ok (.iaload, 1) := dk_n (t := []) dk_g46 (by decide +kernel)
theorem dX2_strictLines_18 : decode cX2_strictLines 18 = .ok (.iconst 5, 1) := dk_n (t := []) dk_g8 (by decide +kernel)
theorem dX2_strictLines_19 : decode cX2_strictLines 19 = .ok (.if_icmp .eq 17, 3) := dk_s2 (y := 0) (z := 17) dk_g159 (by decide +kernel) rfl
theorem dX2_strictLines_22 : decode cX2_strictLines 22 = .ok (.aload_n 0, 1) := dk_n (t := []) dk_g42 (by decide +kernel)
theorem dX2_strictLines_23 : decode cX2_strictLines 23 = .ok (.iload_n 2, 1) := dk_n (t := []) dk_g28 (by decide +kernel)
theorem dX2_strictLines_24 : decode cX2_strictLines 24 = .ok (.invokevirtual 47, 3) := dk_u2 (y := 0) (z := 47) dk_g182 (by decide +kernel) rfl
theorem dX2_strictLines_27 : decode cX2_strictLines 27 = .ok (.ifCond .eq 9, 3) := dk_s2 (y := 0) (z := 9) dk_g153 (by decide +kernel) rfl
theorem dX2_strictLines_30 : decode cX2_strictLines 30 = .ok (.iload_n 1, 1) := dk_n (t := []) dk_g27 (by decide +kernel)
theorem dX2_strictLines_31 : decode cX2_strictLines 31 = .ok (.iconst 1, 1) := dk_n (t := []) dk_g4 (by decide +kernel)
theorem dX2_strictLines_32 : decode cX2_strictLines 32 = .ok (.iload_n 2, 1) := dk_n (t := []) dk_g28 (by decide +kernel)
theorem dX2_strictLines_33 : decode cX2_strictLines 33 = .ok (.ishl, 1) := dk_n (t := []) dk_g120 (by decide +kernel)
theorem dX2_strictLines_34 : decode cX2_strictLines 34 = .ok (.ior, 1) := dk_n (t := []) dk_g128 (by decide +kernel)
theorem dX2_strictLines_35 : decode cX2_strictLines 35 = .ok (.istore_n 1, 1) := dk_n (t := []) dk_g60 (by decide +kernel)
theorem dX2_strictLines_36 : decode cX2_strictLines 36 = .ok (.iinc 2 1, 3) := dk_ii (y := 2) (z := 1) dk_g132 (by decide +kernel) rfl
theorem dX2_strictLines_39 : decode cX2_strictLines 39 = .ok (.goto (-35), 3) := dk_s2 (y := 255) (z := 221) dk_g167 (by decide +kernel) rfl
theorem dX2_strictLines_42 : decode cX2_strictLines 42 = .ok (.iload_n 1, 1) := dk_n (t := []) dk_g27 (by decide +kernel)
theorem dX2_strictLines_43 : decode cX2_strictLines 43 = .ok (.ireturn, 1) := dk_n (t := []) dk_g172 (by decide +kernel)
theorem dX2_defaultsOf_0 : decode cX2_defaultsOf 0 = .ok (.iconst 0, 1) := dk_n (t := []) dk_g3 (by decide +kernel)
theorem dX2_defaultsOf_1 : decode cX2_defaultsOf 1 = .ok (.istore_n 3, 1) := dk_n (t := []) dk_g62 (by decide +kernel)
theorem dX2_defaultsOf_2 : decode cX2_defaultsOf 2 = .ok (.iconst 0, 1) := dk_n (t := []) dk_g3 (by decide +kernel)
theorem dX2_defaultsOf_3 : decode cX2_defaultsOf 3 = .ok (.istore 4, 2) := dk_u1 (y := 4) dk_g54 (by decide +kernel)
theorem dX2_defaultsOf_5 : decode cX2_defaultsOf 5 = .ok (.iload 4, 2) := dk_u1 (y := 4) dk_g21 (by decide +kernel)
theorem dX2_defaultsOf_7 : decode cX2_defaultsOf 7 = .ok (.aload_n 0, 1) := dk_n (t := []) dk_g42 (by decide +kernel)
theorem dX2_defaultsOf_8 : decode cX2_defaultsOf 8 = .ok (.getfield 44, 3) := dk_u2 (y := 0) (z := 44) dk_g180 (by decide +kernel) rfl
theorem dX2_defaultsOf_11 : decode cX2_defaultsOf 11 = .ok (.if_icmp .ge 63, 3) := dk_s2 (y := 0) (z := 63) dk_g162 (by decide +kernel) rfl
theorem dX2_defaultsOf_14 : decode cX2_defaultsOf 14 = .ok (.aload_n 0, 1) := dk_n (t := []) dk_g42 (by decide +kernel)
theorem dX2_defaultsOf_15 : decode cX2_defaultsOf 15 = .ok (.getfield 18, 3) := dk_u2 (y := 0) (z := 18) dk_g180 (by decide +kernel) rfl
theorem dX2_defaultsOf_18 : decode cX2_defaultsOf 18 = .ok (.iload 4, 2) := dk_u1 (y := 4) dk_g21 (by decide +kernel)
theorem dX2_defaultsOf_20 : decode cX2_defaultsOf 20 = .ok (.iaload, 1) := dk_n (t := []) dk_g46 (by decide +kernel)
theorem dX2_defaultsOf_21 : decode cX2_defaultsOf 21 = .ok (.iconst 5, 1) := dk_n (t := []) dk_g8 (by decide +kernel)
theorem dX2_defaultsOf_22 : decode cX2_defaultsOf 22 = .ok (.if_icmp .ne 46, 3) := dk_s2 (y := 0) (z := 46) dk_g160 (by decide +kernel) rfl
theorem dX2_defaultsOf_25 : decode cX2_defaultsOf 25 = .ok (.aload_n 0, 1) := dk_n (t := []) dk_g42 (by decide +kernel)
theorem dX2_defaultsOf_26 : decode cX2_defaultsOf 26 = .ok (.getfield 24, 3) := dk_u2 (y := 0) (z := 24) dk_g180 (by decide +kernel) rfl
theorem dX2_defaultsOf_29 : decode cX2_defaultsOf 29 = .ok (.iload 4, 2) := dk_u1 (y := 4) dk_g21 (by decide +kernel)
theorem dX2_defaultsOf_31 : decode cX2_defaultsOf 31 = .ok (.iaload, 1) := dk_n (t := []) dk_g46 (by decide +kernel)
theorem dX2_defaultsOf_32 : decode cX2_defaultsOf 32 = .ok (.iload_n 1, 1) := dk_n (t := []) dk_g27 (by decide +kernel)
theorem dX2_defaultsOf_33 : decode cX2_defaultsOf 33 = .ok (.if_icmp .ne 35, 3) := dk_s2 (y := 0) (z := 35) dk_g160 (by decide +kernel) rfl
theorem dX2_defaultsOf_36 : decode cX2_defaultsOf 36 = .ok (.aload_n 0, 1) := dk_n (t := []) dk_g42 (by decide +kernel)
theorem dX2_defaultsOf_37 : decode cX2_defaultsOf 37 = .ok (.getfield 30, 3) := dk_u2 (y := 0) (z := 30) dk_g180 (by decide +kernel) rfl
theorem dX2_defaultsOf_40 : decode cX2_defaultsOf 40 = .ok (.iload 4, 2) := dk_u1 (y := 4) dk_g21 (by decide +kernel)
theorem dX2_defaultsOf_42 : decode cX2_defaultsOf 42 = .ok (.iaload, 1) := dk_n (t := []) dk_g46 (by decide +kernel)
theorem dX2_defaultsOf_43 : decode cX2_defaultsOf 43 = .ok (.iload_n 2, 1) := dk_n (t := []) dk_g28 (by decide +kernel)
theorem dX2_defaultsOf_44 : decode cX2_defaultsOf 44 = .ok (.if_icmp .ne 24, 3) := dk_s2 (y := 0) (z := 24) dk_g160 (by decide +kernel) rfl
theorem dX2_defaultsOf_47 : decode cX2_defaultsOf 47 = .ok (.aload_n 0, 1) := dk_n (t := []) dk_g42 (by decide +kernel)
theorem dX2_defaultsOf_48 : decode cX2_defaultsOf 48 = .ok (.iload 4, 2) := dk_u1 (y := 4) dk_g21 (by decide +kernel)
theorem dX2_defaultsOf_50 : decode cX2_defaultsOf 50 = .ok (.invokevirtual 47, 3) := dk_u2 (y := 0) (z := 47) dk_g182 (by decide +kernel) rfl
theorem dX2_defaultsOf_53 : decode cX2_defaultsOf 53 = .ok (.ifCond .eq 15, 3) := dk_s2 (y := 0) (z := 15) dk_g153 (by decide +kernel) rfl
theorem dX2_defaultsOf_56 : decode cX2_defaultsOf 56 = .ok (.iload_n 3, 1) := dk_n (t := []) dk_g29 (by decide +kernel)
theorem dX2_defaultsOf_57 : decode cX2_defaultsOf 57 = .ok (.iconst 1, 1) := dk_n (t := []) dk_g4 (by decide +kernel)
theorem dX2_defaultsOf_58 : decode cX2_defaultsOf 58 = .ok (.aload_n 0, 1) := dk_n (t := []) dk_g42 (by decide +kernel)
theorem dX2_defaultsOf_59 : decode cX2_defaultsOf 59 = .ok (.getfield 27, 3) := dk_u2 (y := 0) (z := 27) dk_g180 (by decide +kernel) rfl
theorem dX2_defaultsOf_62 : decode cX2_defaultsOf 62 = .ok (.iload 4, 2) := dk_u1 (y := 4) dk_g21 (by decide +kernel)
theorem dX2_defaultsOf_64 : decode cX2_defaultsOf 64 = .ok (.iaload, 1) := dk_n (t := []) dk_g46 (by decide +kernel)
theorem dX2_defaultsOf_65 : decode cX2_defaultsOf 65 = .ok (.ishl, 1) := dk_n (t := []) dk_g120 (by decide +kernel)
theorem dX2_defaultsOf_66 : decode cX2_defaultsOf 66 = .ok (.ior, 1) := dk_n (t := []) dk_g128 (by decide +kernel)
theorem dX2_defaultsOf_67 : decode cX2_defaultsOf 67 = .ok (.istore_n 3, 1) := dk_n (t := []) dk_g62 (by decide +kernel)
theorem dX2_defaultsOf_68 : decode cX2_defaultsOf 68 = .ok (.iinc 4 1, 3) := dk_ii (y := 4) (z := 1) dk_g132 (by decide +kernel) rfl
theorem dX2_defaultsOf_71 : decode cX2_defaultsOf 71 = .ok (.goto (-66), 3) := dk_s2 (y := 255) (z := 190) dk_g167 (by decide +kernel) rfl
theorem dX2_defaultsOf_74 : decode cX2_defaultsOf 74 = .ok (.iload_n 3, 1) := dk_n (t := []) dk_g29 (by decide +kernel)
theorem dX2_defaultsOf_75 : decode cX2_defaultsOf 75 = .ok (.ireturn, 1) := dk_n (t := []) dk_g172 (by decide +kernel)
theorem dX2_isOfTwo_0 : decode cX2_isOfTwo 0 = .ok (.aload_n 0, 1) := dk_n (t := []) dk_g42 (by decide +kernel)
theorem dX2_isOfTwo_1 : decode cX2_isOfTwo 1 = .ok (.getfield 18, 3) := dk_u2 (y := 0) (z := 18) dk_g180 (by decide +kernel) rfl
theorem dX2_isOfTwo_4 : decode cX2_isOfTwo 4 = .ok (.iload_n 1, 1) := dk_n (t := []) dk_g27 (by decide +kernel)
theorem dX2_isOfTwo_5 : decode cX2_isOfTwo 5 = .ok (.iaload, 1) := dk_n (t := []) dk_g46 (by decide +kernel)
theorem dX2_isOfTwo_6 : decode cX2_isOfTwo 6 = .ok (.iconst 3, 1) := dk_n (t := []) dk_g6 (by decide +kernel)
theorem dX2_isOfTwo_7 : decode cX2_isOfTwo 7 = .ok (.if_icmp .eq 13, 3) := dk_s2 (y := 0) (z := 13) dk_g159 (by decide +kernel) rfl
theorem dX2_isOfTwo_10 : decode cX2_isOfTwo 10 = .ok (.aload_n 0, 1) := dk_n (t := []) dk_g42 (by decide +kernel)
theorem dX2_isOfTwo_11 : decode cX2_isOfTwo 11 = .ok (.getfield 18, 3) := dk_u2 (y := 0) (z := 18) dk_g180 (by decide +kernel) rfl
theorem dX2_isOfTwo_14 : decode cX2_isOfTwo 14 = .ok (.iload_n 1, 1) := dk_n (t := []) dk_g27 (by decide +kernel)
theorem dX2_isOfTwo_15 : decode cX2_isOfTwo 15 = .ok (.iaload, 1) := dk_n (t := []) dk_g46 (by decide +kernel)
theorem dX2_isOfTwo_16 : decode cX2_isOfTwo 16 = .ok (.iconst 4, 1) := dk_n (t := []) dk_g7 (by decide +kernel)
theorem dX2_isOfTwo_17 : decode cX2_isOfTwo 17 = .ok (.if_icmp .ne 7, 3) := dk_s2 (y := 0) (z := 7) dk_g160 (by decide +kernel) rfl
theorem dX2_isOfTwo_20 : decode cX2_isOfTwo 20 = .ok (.iconst 1, 1) := dk_n (t := []) dk_g4 (by decide +kernel)
theorem dX2_isOfTwo_21 : decode cX2_isOfTwo 21 = .ok (.goto 4, 3) := dk_s2 (y := 0) (z := 4) dk_g167 (by decide +kernel) rfl
theorem dX2_isOfTwo_24 : decode cX2_isOfTwo 24 = .ok (.iconst 0, 1) := dk_n (t := []) dk_g3 (by decide +kernel)
theorem dX2_isOfTwo_25 : decode cX2_isOfTwo 25 = .ok (.ireturn, 1) := dk_n (t := []) dk_g172 (by decide +kernel)
theorem dX2_letsAlone_0 : decode cX2_letsAlone 0 = .ok (.aload_n 0, 1) := dk_n (t := []) dk_g42 (by decide +kernel)
theorem dX2_letsAlone_1 : decode cX2_letsAlone 1 = .ok (.getfield 18, 3) := dk_u2 (y := 0) (z := 18) dk_g180 (by decide +kernel) rfl
theorem dX2_letsAlone_4 : decode cX2_letsAlone 4 = .ok (.iload_n 1, 1) := dk_n (t := []) dk_g27 (by decide +kernel)
theorem dX2_letsAlone_5 : decode cX2_letsAlone 5 = .ok (.iaload, 1) := dk_n (t := []) dk_g46 (by decide +kernel)
theorem dX2_letsAlone_6 : decode cX2_letsAlone 6 = .ok (.tableswitch 62 0 2 #[26, 33, 48], 26) := by decide +kernel
theorem dX2_letsAlone_32 : decode cX2_letsAlone 32 = .ok (.aload_n 0, 1) := dk_n (t := []) dk_g42 (by decide +kernel)
theorem dX2_letsAlone_33 : decode cX2_letsAlone 33 = .ok (.getfield 27, 3) := dk_u2 (y := 0) (z := 27) dk_g180 (by decide +kernel) rfl
theorem dX2_letsAlone_36 : decode cX2_letsAlone 36 = .ok (.iload_n 1, 1) := dk_n (t := []) dk_g27 (by decide +kernel)
theorem dX2_letsAlone_37 : decode cX2_letsAlone 37 = .ok (.iaload, 1) := dk_n (t := []) dk_g46 (by decide +kernel)
theorem dX2_letsAlone_38 : decode cX2_letsAlone 38 = .ok (.ireturn, 1) := dk_n (t := []) dk_g172 (by decide +kernel)
theorem dX2_letsAlone_39 : decode cX2_letsAlone 39 = .ok (.sipush 255, 3) := dk_s2 (y := 0) (z := 255) dk_g17 (by decide +kernel) rfl
theorem dX2_letsAlone_42 : decode cX2_letsAlone 42 = .ok (.aload_n 0, 1) := dk_n (t := []) dk_g42 (by decide +kernel)
theorem dX2_letsAlone_43 : decode cX2_letsAlone 43 = .ok (.getfield 27, 3) := dk_u2 (y := 0) (z := 27) dk_g180 (by decide +kernel) rfl
theorem dX2_letsAlone_46 : decode cX2_letsAlone 46 = .ok (.iload_n 1, 1) := dk_n (t := []) dk_g27 (by decide +kernel)
theorem dX2_letsAlone_47 : decode cX2_letsAlone 47 = .ok (.iaload, 1) := dk_n (t := []) dk_g46 (by decide +kernel)
theorem dX2_letsAlone_48 : decode cX2_letsAlone 48 = .ok (.ishl, 1) := dk_n (t := []) dk_g120 (by decide +kernel)
theorem dX2_letsAlone_49 : decode cX2_letsAlone 49 = .ok (.sipush 255, 3) := dk_s2 (y := 0) (z := 255) dk_g17 (by decide +kernel) rfl
theorem dX2_letsAlone_52 : decode cX2_letsAlone 52 = .ok (.iand, 1) := dk_n (t := []) dk_g126 (by decide +kernel)
theorem dX2_letsAlone_53 : decode cX2_letsAlone 53 = .ok (.ireturn, 1) := dk_n (t := []) dk_g172 (by decide +kernel)
theorem dX2_letsAlone_54 : decode cX2_letsAlone 54 = .ok (.sipush 255, 3) := dk_s2 (y := 0) (z := 255) dk_g17 (by decide +kernel) rfl
theorem dX2_letsAlone_57 : decode cX2_letsAlone 57 = .ok (.bipush 7, 2) := dk_s1 (y := 7) dk_g16 (by decide +kernel) rfl
theorem dX2_letsAlone_59 : decode cX2_letsAlone 59 = .ok (.aload_n 0, 1) := dk_n (t := []) dk_g42 (by decide +kernel)
theorem dX2_letsAlone_60 : decode cX2_letsAlone 60 = .ok (.getfield 27, 3) := dk_u2 (y := 0) (z := 27) dk_g180 (by decide +kernel) rfl
theorem dX2_letsAlone_63 : decode cX2_letsAlone 63 = .ok (.iload_n 1, 1) := dk_n (t := []) dk_g27 (by decide +kernel)
theorem dX2_letsAlone_64 : decode cX2_letsAlone 64 = .ok (.iaload, 1) := dk_n (t := []) dk_g46 (by decide +kernel)
theorem dX2_letsAlone_65 : decode cX2_letsAlone 65 = .ok (.isub, 1) := dk_n (t := []) dk_g100 (by decide +kernel)
theorem dX2_letsAlone_66 : decode cX2_letsAlone 66 = .ok (.ishr, 1) := dk_n (t := []) dk_g122 (by decide +kernel)
theorem dX2_letsAlone_67 : decode cX2_letsAlone 67 = .ok (.ireturn, 1) := dk_n (t := []) dk_g172 (by decide +kernel)
theorem dX2_letsAlone_68 : decode cX2_letsAlone 68 = .ok (.sipush 255, 3) := dk_s2 (y := 0) (z := 255) dk_g17 (by decide +kernel) rfl
theorem dX2_letsAlone_71 : decode cX2_letsAlone 71 = .ok (.ireturn, 1) := dk_n (t := []) dk_g172 (by decide +kernel)
theorem dX2_letsByOther_0 : decode cX2_letsByOther 0 = .ok (.aload_n 0, 1) := dk_n (t := []) dk_g42 (by decide +kernel)
theorem dX2_letsByOther_1 : decode cX2_letsByOther 1 = .ok (.getfield 18, 3) := dk_u2 (y := 0) (z := 18) dk_g180 (by decide +kernel) rfl
theorem dX2_letsByOther_4 : decode cX2_letsByOther 4 = .ok (.iload_n 1, 1) := dk_n (t := []) dk_g27 (by decide +kernel)
theorem dX2_letsByOther_5 : decode cX2_letsByOther 5 = .ok (.iaload, 1) := dk_n (t := []) dk_g46 (by decide +kernel)
theorem dX2_letsByOther_6 : decode cX2_letsByOther 6 = .ok (.iconst 4, 1) := dk_n (t := []) dk_g7 (by decide +kernel)
theorem dX2_letsByOther_7 : decode cX2_letsByOther 7 = .ok (.if_icmp .ne 37, 3) := dk_s2 (y := 0) (z := 37) dk_g160 (by decide +kernel) rfl
theorem dX2_letsByOther_10 : decode cX2_letsByOther 10 = .ok (.iload_n 3, 1) := dk_n (t := []) dk_g29 (by decide +kernel)
theorem dX2_letsByOther_11 : decode cX2_letsByOther 11 = .ok (.iload_n 3, 1) := dk_n (t := []) dk_g29 (by decide +kernel)
theorem dX2_letsByOther_12 : decode cX2_letsByOther 12 = .ok (.iconst 1, 1) := dk_n (t := []) dk_g4 (by decide +kernel)
theorem dX2_letsByOther_13 : decode cX2_letsByOther 13 = .ok (.isub, 1) := dk_n (t := []) dk_g100 (by decide +kernel)
theorem dX2_letsByOther_14 : decode cX2_letsByOther 14 = .ok (.iand, 1) := dk_n (t := []) dk_g126 (by decide +kernel)
theorem dX2_letsByOther_15 : decode cX2_letsByOther 15 = .ok (.ifCond .ne 7, 3) := dk_s2 (y := 0) (z := 7) dk_g154 (by decide +kernel) rfl
theorem dX2_letsByOther_18 : decode cX2_letsByOther 18 = .ok (.iconst 1, 1) := dk_n (t := []) dk_g4 (by decide +kernel)
theorem dX2_letsByOther_19 : decode cX2_letsByOther 19 = .ok (.goto 4, 3) := dk_s2 (y := 0) (z := 4) dk_g167 (by decide +kernel) rfl
theorem dX2_letsByOther_22 : decode cX2_letsByOther 22 = .ok (.iconst 0, 1) := dk_n (t := []) dk_g3 (by decide +kernel)
theorem dX2_letsByOther_23 : decode cX2_letsByOther 23 = .ok (.istore 4, 2) := dk_u1 (y := 4) dk_g54 (by decide +kernel)
theorem dX2_letsByOther_25 : decode cX2_letsByOther 25 = .ok (.iload 4, 2) := dk_u1 (y := 4) dk_g21 (by decide +kernel)
theorem dX2_letsByOther_27 : decode cX2_letsByOther 27 = .ok (.ifCond .eq 13, 3) := dk_s2 (y := 0) (z := 13) dk_g153 (by decide +kernel) rfl
theorem dX2_letsByOther_30 : decode cX2_letsByOther 30 = .ok (.sipush 255, 3) := dk_s2 (y := 0) (z := 255) dk_g17 (by decide +kernel) rfl
theorem dX2_letsByOther_33 : decode cX2_letsByOther 33 = .ok (.iload_n 3, 1) := dk_n (t := []) dk_g29 (by decide +kernel)
theorem dX2_letsByOther_34 : decode cX2_letsByOther 34 = .ok (.iconst (-1), 1) := dk_n (t := []) dk_g2 (by decide +kernel)
theorem dX2_letsByOther_35 : decode cX2_letsByOther 35 = .ok (.ixor, 1) := dk_n (t := []) dk_g130 (by decide +kernel)
theorem dX2_letsByOther_36 : decode cX2_letsByOther 36 = .ok (.iand, 1) := dk_n (t := []) dk_g126 (by decide +kernel)
theorem dX2_letsByOther_37 : decode cX2_letsByOther 37 = .ok (.goto 6, 3) := dk_s2 (y := 0) (z := 6) dk_g167 (by decide +kernel) rfl
theorem dX2_letsByOther_40 : decode cX2_letsByOther 40 = .ok (.sipush 255, 3) := dk_s2 (y := 0) (z := 255) dk_g17 (by decide +kernel) rfl
theorem dX2_letsByOther_43 : decode cX2_letsByOther 43 = .ok (.ireturn, 1) := dk_n (t := []) dk_g172 (by decide +kernel)
theorem dX2_letsByOther_44 : decode cX2_letsByOther 44 = .ok (.iload_n 2, 1) := dk_n (t := []) dk_g28 (by decide +kernel)
theorem dX2_letsByOther_45 : decode cX2_letsByOther 45 = .ok (.ifCond .eq 13, 3) := dk_s2 (y := 0) (z := 13) dk_g153 (by decide +kernel) rfl
theorem dX2_letsByOther_48 : decode cX2_letsByOther 48 = .ok (.aload_n 0, 1) := dk_n (t := []) dk_g42 (by decide +kernel)
theorem dX2_letsByOther_49 : decode cX2_letsByOther 49 = .ok (.getfield 30, 3) := dk_u2 (y := 0) (z := 30) dk_g180 (by decide +kernel) rfl
theorem dX2_letsByOther_52 : decode cX2_letsByOther 52 = .ok (.iload_n 1, 1) := dk_n (t := []) dk_g27 (by decide +kernel)
theorem dX2_letsByOther_53 : decode cX2_letsByOther 53 = .ok (.iaload, 1) := dk_n (t := []) dk_g46 (by decide +kernel)
theorem dX2_letsByOther_54 : decode cX2_letsByOther 54 = .ok (.ineg, 1) := dk_n (t := []) dk_g116 (by decide +kernel)
theorem dX2_letsByOther_55 : decode cX2_letsByOther 55 = .ok (.goto 9, 3) := dk_s2 (y := 0) (z := 9) dk_g167 (by decide +kernel) rfl
theorem dX2_letsByOther_58 : decode cX2_letsByOther 58 = .ok (.aload_n 0, 1) := dk_n (t := []) dk_g42 (by decide +kernel)
theorem dX2_letsByOther_59 : decode cX2_letsByOther 59 = .ok (.getfield 30, 3) := dk_u2 (y := 0) (z := 30) dk_g180 (by decide +kernel) rfl
theorem dX2_letsByOther_62 : decode cX2_letsByOther 62 = .ok (.iload_n 1, 1) := dk_n (t := []) dk_g27 (by decide +kernel)
theorem dX2_letsByOther_63 : decode cX2_letsByOther 63 = .ok (.iaload, 1) := dk_n (t := []) dk_g46 (by decide +kernel)
theorem dX2_letsByOther_64 : decode cX2_letsByOther 64 = .ok (.istore 4, 2) := dk_u1 (y := 4) dk_g54 (by decide +kernel)
theorem dX2_letsByOther_66 : decode cX2_letsByOther 66 = .ok (.iload 4, 2) := dk_u1 (y := 4) dk_g21 (by decide +kernel)
theorem dX2_letsByOther_68 : decode cX2_letsByOther 68 = .ok (.ifCond .lt 10, 3) := dk_s2 (y := 0) (z := 10) dk_g155 (by decide +kernel) rfl
theorem dX2_letsByOther_71 : decode cX2_letsByOther 71 = .ok (.iload_n 3, 1) := dk_n (t := []) dk_g29 (by decide +kernel)
theorem dX2_letsByOther_72 : decode cX2_letsByOther 72 = .ok (.iload 4, 2) := dk_u1 (y := 4) dk_g21 (by decide +kernel)
theorem dX2_letsByOther_74 : decode cX2_letsByOther 74 = .ok (.ishl, 1) := dk_n (t := []) dk_g120 (by decide +kernel)
theorem dX2_letsByOther_75 : decode cX2_letsByOther 75 = .ok (.goto 8, 3) := dk_s2 (y := 0) (z := 8) dk_g167 (by decide +kernel) rfl
theorem dX2_letsByOther_78 : decode cX2_letsByOther 78 = .ok (.iload_n 3, 1) := dk_n (t := []) dk_g29 (by decide +kernel)
theorem dX2_letsByOther_79 : decode cX2_letsByOther 79 = .ok (.iload 4, 2) := dk_u1 (y := 4) dk_g21 (by decide +kernel)
theorem dX2_letsByOther_81 : decode cX2_letsByOther 81 = .ok (.ineg, 1) := dk_n (t := []) dk_g116 (by decide +kernel)
theorem dX2_letsByOther_82 : decode cX2_letsByOther 82 = .ok (.ishr, 1) := dk_n (t := []) dk_g122 (by decide +kernel)
theorem dX2_letsByOther_83 : decode cX2_letsByOther 83 = .ok (.sipush 255, 3) := dk_s2 (y := 0) (z := 255) dk_g17 (by decide +kernel) rfl
theorem dX2_letsByOther_86 : decode cX2_letsByOther 86 = .ok (.iand, 1) := dk_n (t := []) dk_g126 (by decide +kernel)
theorem dX2_letsByOther_87 : decode cX2_letsByOther 87 = .ok (.ireturn, 1) := dk_n (t := []) dk_g172 (by decide +kernel)
theorem dX3_init_0 : decode cX3_init 0 = .ok (.aload_n 0, 1) := dk_n (t := []) dk_g42 (by decide +kernel)
theorem dX3_init_1 : decode cX3_init 1 = .ok (.invokespecial 3, 3) := dk_u2 (y := 0) (z := 3) dk_g183 (by decide +kernel) rfl
theorem dX3_init_4 : decode cX3_init 4 = .ok (.aload_n 0, 1) := dk_n (t := []) dk_g42 (by decide +kernel)
theorem dX3_init_5 : decode cX3_init 5 = .ok (.iconst 5, 1) := dk_n (t := []) dk_g8 (by decide +kernel)
theorem dX3_init_6 : decode cX3_init 6 = .ok (.newarray .int, 2) := by decide +kernel
theorem dX3_init_8 : decode cX3_init 8 = .ok (.putfield 9, 3) := dk_u2 (y := 0) (z := 9) dk_g181 (by decide +kernel) rfl
theorem dX3_init_11 : decode cX3_init 11 = .ok (.aload_n 0, 1) := dk_n (t := []) dk_g42 (by decide +kernel)
theorem dX3_init_12 : decode cX3_init 12 = .ok (.aload_n 1, 1) := dk_n (t := []) dk_g43 (by decide +kernel)
theorem dX3_init_13 : decode cX3_init 13 = .ok (.putfield 15, 3) := dk_u2 (y := 0) (z := 15) dk_g181 (by decide +kernel) rfl
theorem dX3_init_16 : decode cX3_init 16 = .ok (.return_, 1) := dk_n (t := []) dk_g177 (by decide +kernel)
theorem dX3_begin_0 : decode cX3_begin 0 = .ok (.aload_n 0, 1) := dk_n (t := []) dk_g42 (by decide +kernel)
theorem dX3_begin_1 : decode cX3_begin 1 = .ok (.getfield 9, 3) := dk_u2 (y := 0) (z := 9) dk_g180 (by decide +kernel) rfl
theorem dX3_begin_4 : decode cX3_begin 4 = .ok (.sipush 255, 3) := dk_s2 (y := 0) (z := 255) dk_g17 (by decide +kernel) rfl
theorem dX3_begin_7 : decode cX3_begin 7 = .ok (.invokestatic 19, 3) := dk_u2 (y := 0) (z := 19) dk_g184 (by decide +kernel) rfl
theorem dX3_begin_10 : decode cX3_begin 10 = .ok (.aload_n 0, 1) := dk_n (t := []) dk_g42 (by decide +kernel)
theorem dX3_begin_11 : decode cX3_begin 11 = .ok (.iload_n 1, 1) := dk_n (t := []) dk_g27 (by decide +kernel)
theorem dX3_begin_12 : decode cX3_begin 12 = .ok (.invokevirtual 25, 3) := dk_u2 (y := 0) (z := 25) dk_g182 (by decide +kernel) rfl
theorem dX3_begin_15 : decode cX3_begin 15 = .ok (.return_, 1) := dk_n (t := []) dk_g177 (by decide +kernel)
theorem dX3_copy_0 : decode cX3_copy 0 = .ok (.aload_n 1, 1) := dk_n (t := []) dk_g43 (by decide +kernel)
theorem dX3_copy_1 : decode cX3_copy 1 = .ok (.getfield 9, 3) := dk_u2 (y := 0) (z := 9) dk_g180 (by decide +kernel) rfl
theorem dX3_copy_4 : decode cX3_copy 4 = .ok (.iconst 0, 1) := dk_n (t := []) dk_g3 (by decide +kernel)
theorem dX3_copy_5 : decode cX3_copy 5 = .ok (.aload_n 0, 1) := dk_n (t := []) dk_g42 (by decide +kernel)
theorem dX3_copy_6 : decode cX3_copy 6 = .ok (.getfield 9, 3) := dk_u2 (y := 0) (z := 9) dk_g180 (by decide +kernel) rfl
theorem dX3_copy_9 : decode cX3_copy 9 = .ok (.iconst 0, 1) := dk_n (t := []) dk_g3 (by decide +kernel)
theorem dX3_copy_10 : decode cX3_copy 10 = .ok (.iconst 5, 1) := dk_n (t := []) dk_g8 (by decide +kernel)
theorem dX3_copy_11 : decode cX3_copy 11 = .ok (.invokestatic 29, 3) := dk_u2 (y := 0) (z := 29) dk_g184 (by decide +kernel) rfl
theorem dX3_copy_14 : decode cX3_copy 14 = .ok (.aload_n 0, 1) := dk_n (t := []) dk_g42 (by decide +kernel)
theorem dX3_copy_15 : decode cX3_copy 15 = .ok (.aload_n 1, 1) := dk_n (t := []) dk_g43 (by decide +kernel)
theorem dX3_copy_16 : decode cX3_copy 16 = .ok (.getfield 35, 3) := dk_u2 (y := 0) (z := 35) dk_g180 (by decide +kernel) rfl
theorem dX3_copy_19 : decode cX3_copy 19 = .ok (.putfield 35, 3) := dk_u2 (y := 0) (z := 35) dk_g181 (by decide +kernel) rfl
theorem dX3_copy_22 : decode cX3_copy 22 = .ok (.return_, 1) := dk_n (t := []) dk_g177 (by decide +kernel)
theorem dX3_goOn_0 : decode cX3_goOn 0 = .ok (.iconst 1, 1) := dk_n (t := []) dk_g4 (by decide +kernel)
theorem dX3_goOn_1 : decode cX3_goOn 1 = .ok (.istore_n 2, 1) := dk_n (t := []) dk_g61 (by decide +kernel)
theorem dX3_goOn_2 : decode cX3_goOn 2 = .ok (.iconst 0, 1) := dk_n (t := []) dk_g3 (by decide +kernel)
theorem dX3_goOn_3 : decode cX3_goOn 3 = .ok (.istore_n 3, 1) := dk_n (t := []) dk_g62 (by decide +kernel)
theorem dX3_goOn_4 : decode cX3_goOn 4 = .ok (.iload_n 2, 1) := dk_n (t := []) dk_g28 (by decide +kernel)
theorem dX3_goOn_5 : decode cX3_goOn 5 = .ok (.ifCond .eq 58, 3) := dk_s2 (y := 0) (z := 58) dk_g153 (by decide +kernel) rfl
theorem dX3_goOn_8 : decode cX3_goOn 8 = .ok (.iload_n 3, 1) := dk_n (t := []) dk_g29 (by decide +kernel)
theorem dX3_goOn_9 : decode cX3_goOn 9 = .ok (.bipush 40, 2) := dk_s1 (y := 40) dk_g16 (by decide +kernel) rfl
theorem dX3_goOn_11 : decode cX3_goOn 11 = .ok (.if_icmp .gt 52, 3) := dk_s2 (y := 0) (z := 52) dk_g163 (by decide +kernel) rfl
theorem dX3_goOn_14 : decode cX3_goOn 14 = .ok (.iconst 0, 1) := dk_n (t := []) dk_g3 (by decide +kernel)
theorem dX3_goOn_15 : decode cX3_goOn 15 = .ok (.istore_n 2, 1) := dk_n (t := []) dk_g61 (by decide +kernel)
theorem dX3_goOn_16 : decode cX3_goOn 16 = .ok (.iconst 0, 1) := dk_n (t := []) dk_g3 (by decide +kernel)
theorem dX3_goOn_17 : decode cX3_goOn 17 = .ok (.istore 4, 2) := dk_u1 (y := 4) dk_g54 (by decide +kernel)
theorem dX3_goOn_19 : decode cX3_goOn 19 = .ok (.iload 4, 2) := dk_u1 (y := 4) dk_g21 (by decide +kernel)
theorem dX3_goOn_21 : decode cX3_goOn 21 = .ok (.aload_n 0, 1) := dk_n (t := []) dk_g42 (by decide +kernel)
theorem dX3_goOn_22 : decode cX3_goOn 22 = .ok (.getfield 15, 3) := dk_u2 (y := 0) (z := 15) dk_g180 (by decide +kernel) rfl
theorem dX3_goOn_25 : decode cX3_goOn 25 = .ok (.getfield 39, 3) := dk_u2 (y := 0) (z := 39) dk_g180 (by decide +kernel) rfl
theorem dX3_goOn_28 : decode cX3_goOn 28 = .ok (.if_icmp .ge 29, 3) := dk_s2 (y := 0) (z := 29) dk_g162 (by decide +kernel) rfl
theorem dX3_goOn_31 : decode cX3_goOn 31 = .ok (.iload_n 1, 1) := dk_n (t := []) dk_g27 (by decide +kernel)
theorem dX3_goOn_32 : decode cX3_goOn 32 = .ok (.iload 4, 2) := dk_u1 (y := 4) dk_g21 (by decide +kernel)
theorem dX3_goOn_34 : decode cX3_goOn 34 = .ok (.invokestatic 45, 3) := dk_u2 (y := 0) (z := 45) dk_g184 (by decide +kernel) rfl
theorem dX3_goOn_37 : decode cX3_goOn 37 = .ok (.ifCond .eq 14, 3) := dk_s2 (y := 0) (z := 14) dk_g153 (by decide +kernel) rfl
theorem dX3_goOn_40 : decode cX3_goOn 40 = .ok (.aload_n 0, 1) := dk_n (t := []) dk_g42 (by decide +kernel)
theorem dX3_goOn_41 : decode cX3_goOn 41 = .ok (.iload 4, 2) := dk_u1 (y := 4) dk_g21 (by decide +kernel)
theorem dX3_goOn_43 : decode cX3_goOn 43 = .ok (.invokevirtual 49, 3) := dk_u2 (y := 0) (z := 49) dk_g182 (by decide +kernel) rfl
theorem dX3_goOn_46 : decode cX3_goOn 46 = .ok (.ifCond .eq 5, 3) := dk_s2 (y := 0) (z := 5) dk_g153 (by decide +kernel) rfl
theorem dX3_goOn_49 : decode cX3_goOn 49 = .ok (.iconst 1, 1) := dk_n (t := []) dk_g4 (by decide +kernel)
theorem dX3_goOn_50 : decode cX3_goOn 50 = .ok (.istore_n 2, 1) := dk_n (t := []) dk_g61 (by decide +kernel)
theorem dX3_goOn_51 : decode cX3_goOn 51 = .ok (.iinc 4 1, 3) := dk_ii (y := 4) (z := 1) dk_g132 (by decide +kernel) rfl
theorem dX3_goOn_54 : decode cX3_goOn 54 = .ok (.goto (-35), 3) := dk_s2 (y := 255) (z := 221) dk_g167 (by decide +kernel) rfl
theorem dX3_goOn_57 : decode cX3_goOn 57 = .ok (.iinc 3 1, 3) := dk_ii (y := 3) (z := 1) dk_g132 (by decide +kernel) rfl
theorem dX3_goOn_60 : decode cX3_goOn 60 = .ok (.goto (-56), 3) := dk_s2 (y := 255) (z := 200) dk_g167 (by decide +kernel) rfl
theorem dX3_goOn_63 : decode cX3_goOn 63 = .ok (.aload_n 0, 1) := dk_n (t := []) dk_g42 (by decide +kernel)
theorem dX3_goOn_64 : decode cX3_goOn 64 = .ok (.iconst 0, 1) := dk_n (t := []) dk_g3 (by decide +kernel)
theorem dX3_goOn_65 : decode cX3_goOn 65 = .ok (.putfield 35, 3) := dk_u2 (y := 0) (z := 35) dk_g181 (by decide +kernel) rfl
theorem dX3_goOn_68 : decode cX3_goOn 68 = .ok (.iconst 0, 1) := dk_n (t := []) dk_g3 (by decide +kernel)
theorem dX3_goOn_69 : decode cX3_goOn 69 = .ok (.istore_n 3, 1) := dk_n (t := []) dk_g62 (by decide +kernel)
theorem dX3_goOn_70 : decode cX3_goOn 70 = .ok (.iload_n 3, 1) := dk_n (t := []) dk_g29 (by decide +kernel)
theorem dX3_goOn_71 : decode cX3_goOn 71 = .ok (.aload_n 0, 1) := dk_n (t := []) dk_g42 (by decide +kernel)
theorem dX3_goOn_72 : decode cX3_goOn 72 = .ok (.getfield 15, 3) := dk_u2 (y := 0) (z := 15) dk_g180 (by decide +kernel) rfl
theorem dX3_goOn_75 : decode cX3_goOn 75 = .ok (.getfield 53, 3) := dk_u2 (y := 0) (z := 53) dk_g180 (by decide +kernel) rfl
theorem dX3_goOn_78 : decode cX3_goOn 78 = .ok (.if_icmp .ge 23, 3) := dk_s2 (y := 0) (z := 23) dk_g162 (by decide +kernel) rfl
theorem dX3_goOn_81 : decode cX3_goOn 81 = .ok (.aload_n 0, 1) := dk_n (t := []) dk_g42 (by decide +kernel)
theorem dX3_goOn_82 : decode cX3_goOn 82 = .ok (.getfield 9, 3) := dk_u2 (y := 0) (z := 9) dk_g180 (by decide +kernel) rfl
theorem dX3_goOn_85 : decode cX3_goOn 85 = .ok (.iload_n 3, 1) := dk_n (t := []) dk_g29 (by decide +kernel)
theorem dX3_goOn_86 : decode cX3_goOn 86 = .ok (.iaload, 1) := dk_n (t := []) dk_g46 (by decide +kernel)
theorem dX3_goOn_87 : decode cX3_goOn 87 = .ok (.ifCond .ne 8, 3) := dk_s2 (y := 0) (z := 8) dk_g154 (by decide +kernel) rfl
theorem dX3_goOn_90 : decode cX3_goOn 90 = .ok (.aload_n 0, 1) := dk_n (t := []) dk_g42 (by decide +kernel)
theorem dX3_goOn_91 : decode cX3_goOn 91 = .ok (.iconst 1, 1) := dk_n (t := []) dk_g4 (by decide +kernel)
theorem dX3_goOn_92 : decode cX3_goOn 92 = .ok (.putfield 35, 3) := dk_u2 (y := 0) (z := 35) dk_g181 (by decide +kernel) rfl
theorem dX3_goOn_95 : decode cX3_goOn 95 = .ok (.iinc 3 1, 3) := dk_ii (y := 3) (z := 1) dk_g132 (by decide +kernel) rfl
theorem dX3_goOn_98 : decode cX3_goOn 98 = .ok (.goto (-28), 3) := dk_s2 (y := 255) (z := 228) dk_g167 (by decide +kernel) rfl
theorem dX3_goOn_101 : decode cX3_goOn 101 = .ok (.aload_n 0, 1) := dk_n (t := []) dk_g42 (by decide +kernel)
theorem dX3_goOn_102 : decode cX3_goOn 102 = .ok (.getfield 35, 3) := dk_u2 (y := 0) (z := 35) dk_g180 (by decide +kernel) rfl
theorem dX3_goOn_105 : decode cX3_goOn 105 = .ok (.ifCond .eq 11, 3) := dk_s2 (y := 0) (z := 11) dk_g153 (by decide +kernel) rfl
theorem dX3_goOn_108 : decode cX3_goOn 108 = .ok (.aload_n 0, 1) := dk_n (t := []) dk_g42 (by decide +kernel)
theorem dX3_goOn_109 : decode cX3_goOn 109 = .ok (.getfield 9, 3) := dk_u2 (y := 0) (z := 9) dk_g180 (by decide +kernel) rfl
theorem dX3_goOn_112 : decode cX3_goOn 112 = .ok (.iconst 0, 1) := dk_n (t := []) dk_g3 (by decide +kernel)
theorem dX3_goOn_113 : decode cX3_goOn 113 = .ok (.invokestatic 19, 3) := dk_u2 (y := 0) (z := 19) dk_g184 (by decide +kernel) rfl
theorem dX3_goOn_116 : decode cX3_goOn 116 = .ok (.return_, 1) := dk_n (t := []) dk_g177 (by decide +kernel)
theorem dX3_takesAway_0 : decode cX3_takesAway 0 = .ok (.aload_n 0, 1) := dk_n (t := []) dk_g42 (by decide +kernel)
theorem dX3_takesAway_1 : decode cX3_takesAway 1 = .ok (.getfield 15, 3) := dk_u2 (y := 0) (z := 15) dk_g180 (by decide +kernel) rfl
theorem dX3_takesAway_4 : decode cX3_takesAway 4 = .ok (.getfield 56, 3) := dk_u2 (y := 0) (z := 56) dk_g180 (by decide +kernel) rfl
theorem dX3_takesAway_7 : decode cX3_takesAway 7 = .ok (.iload_n 1, 1) := dk_n (t := []) dk_g27 (by decide +kernel)
theorem dX3_takesAway_8 : decode cX3_takesAway 8 = .ok (.iaload, 1) := dk_n (t := []) dk_g46 (by decide +kernel)
theorem dX3_takesAway_9 : decode cX3_takesAway 9 = .ok (.istore_n 2, 1) := dk_n (t := []) dk_g61 (by decide +kernel)
theorem dX3_takesAway_10 : decode cX3_takesAway 10 = .ok (.aload_n 0, 1) := dk_n (t := []) dk_g42 (by decide +kernel)
theorem dX3_takesAway_11 : decode cX3_takesAway 11 = .ok (.getfield 9, 3) := dk_u2 (y := 0) (z := 9) dk_g180 (by decide +kernel) rfl
theorem dX3_takesAway_14 : decode cX3_takesAway 14 = .ok (.iload_n 2, 1) := dk_n (t := []) dk_g28 (by decide +kernel)
theorem dX3_takesAway_15 : decode cX3_takesAway 15 = .ok (.iaload, 1) := dk_n (t := []) dk_g46 (by decide +kernel)
theorem dX3_takesAway_16 : decode cX3_takesAway 16 = .ok (.istore_n 3, 1) := dk_n (t := []) dk_g62 (by decide +kernel)
theorem dX3_takesAway_17 : decode cX3_takesAway 17 = .ok (.aload_n 0, 1) := dk_n (t := []) dk_g42 (by decide +kernel)
theorem dX3_takesAway_18 : decode cX3_takesAway 18 = .ok (.getfield 15, 3) := dk_u2 (y := 0) (z := 15) dk_g180 (by decide +kernel) rfl
theorem dX3_takesAway_21 : decode cX3_takesAway 21 = .ok (.iload_n 1, 1) := dk_n (t := []) dk_g27 (by decide +kernel)
theorem dX3_takesAway_22 : decode cX3_takesAway 22 = .ok (.invokevirtual 59, 3) := dk_u2 (y := 0) (z := 59) dk_g182 (by decide +kernel) rfl
theorem dX3_takesAway_25 : decode cX3_takesAway 25 = .ok (.ifCond .ne 35, 3) := dk_s2 (y := 0) (z := 35) dk_g154 (by decide +kernel) rfl
theorem dX3_takesAway_28 : decode cX3_takesAway 28 = .ok (.aload_n 0, 1) := dk_n (t := []) dk_g42 (by decide +kernel)
theorem dX3_takesAway_29 : decode cX3_takesAway 29 = .ok (.getfield 9, 3) := dk_u2 (y := 0) (z := 9) dk_g180 (by decide +kernel) rfl
theorem dX3_takesAway_32 : decode cX3_takesAway 32 = .ok (.iload_n 2, 1) := dk_n (t := []) dk_g28 (by decide +kernel)
theorem dX3_takesAway_33 : decode cX3_takesAway 33 = .ok (.iload_n 3, 1) := dk_n (t := []) dk_g29 (by decide +kernel)
theorem dX3_takesAway_34 : decode cX3_takesAway 34 = .ok (.aload_n 0, 1) := dk_n (t := []) dk_g42 (by decide +kernel)
theorem dX3_takesAway_35 : decode cX3_takesAway 35 = .ok (.getfield 15, 3) := dk_u2 (y := 0) (z := 15) dk_g180 (by decide +kernel) rfl
theorem dX3_takesAway_38 : decode cX3_takesAway 38 = .ok (.iload_n 1, 1) := dk_n (t := []) dk_g27 (by decide +kernel)
theorem dX3_takesAway_39 : decode cX3_takesAway 39 = .ok (.invokevirtual 62, 3) := dk_u2 (y := 0) (z := 62) dk_g182 (by decide +kernel) rfl
theorem dX3_takesAway_42 : decode cX3_takesAway 42 = .ok (.iand, 1) := dk_n (t := []) dk_g126 (by decide +kernel)
theorem dX3_takesAway_43 : decode cX3_takesAway 43 = .ok (.iastore, 1) := dk_n (t := []) dk_g79 (by decide +kernel)
theorem dX3_takesAway_44 : decode cX3_takesAway 44 = .ok (.aload_n 0, 1) := dk_n (t := []) dk_g42 (by decide +kernel)
theorem dX3_takesAway_45 : decode cX3_takesAway 45 = .ok (.getfield 9, 3) := dk_u2 (y := 0) (z := 9) dk_g180 (by decide +kernel) rfl
theorem dX3_takesAway_48 : decode cX3_takesAway 48 = .ok (.iload_n 2, 1) := dk_n (t := []) dk_g28 (by decide +kernel)
theorem dX3_takesAway_49 : decode cX3_takesAway 49 = .ok (.iaload, 1) := dk_n (t := []) dk_g46 (by decide +kernel)
theorem dX3_takesAway_50 : decode cX3_takesAway 50 = .ok (.iload_n 3, 1) := dk_n (t := []) dk_g29 (by decide +kernel)
theorem dX3_takesAway_51 : decode cX3_takesAway 51 = .ok (.if_icmp .eq 7, 3) := dk_s2 (y := 0) (z := 7) dk_g159 (by decide +kernel) rfl
theorem dX3_takesAway_54 : decode cX3_takesAway 54 = .ok (.iconst 1, 1) := dk_n (t := []) dk_g4 (by decide +kernel)
theorem dX3_takesAway_55 : decode cX3_takesAway 55 = .ok (.goto 4, 3) := dk_s2 (y := 0) (z := 4) dk_g167 (by decide +kernel) rfl
theorem dX3_takesAway_58 : decode cX3_takesAway 58 = .ok (.iconst 0, 1) := dk_n (t := []) dk_g3 (by decide +kernel)
theorem dX3_takesAway_59 : decode cX3_takesAway 59 = .ok (.ireturn, 1) := dk_n (t := []) dk_g172 (by decide +kernel)
theorem dX3_takesAway_60 : decode cX3_takesAway 60 = .ok (.aload_n 0, 1) := dk_n (t := []) dk_g42 (by decide +kernel)
theorem dX3_takesAway_61 : decode cX3_takesAway 61 = .ok (.getfield 15, 3) := dk_u2 (y := 0) (z := 15) dk_g180 (by decide +kernel) rfl
theorem dX3_takesAway_64 : decode cX3_takesAway 64 = .ok (.getfield 66, 3) := dk_u2 (y := 0) (z := 66) dk_g180 (by decide +kernel) rfl
theorem dX3_takesAway_67 : decode cX3_takesAway 67 = .ok (.iload_n 1, 1) := dk_n (t := []) dk_g27 (by decide +kernel)
theorem dX3_takesAway_68 : decode cX3_takesAway 68 = .ok (.iaload, 1) := dk_n (t := []) dk_g46 (by decide +kernel)
theorem dX3_takesAway_69 : decode cX3_takesAway 69 = .ok (.istore 4, 2) := dk_u1 (y := 4) dk_g54 (by decide +kernel)
theorem dX3_takesAway_71 : decode cX3_takesAway 71 = .ok (.aload_n 0, 1) := dk_n (t := []) dk_g42 (by decide +kernel)
theorem dX3_takesAway_72 : decode cX3_takesAway 72 = .ok (.getfield 9, 3) := dk_u2 (y := 0) (z := 9) dk_g180 (by decide +kernel) rfl
theorem dX3_takesAway_75 : decode cX3_takesAway 75 = .ok (.iload 4, 2) := dk_u1 (y := 4) dk_g21 (by decide +kernel)
theorem dX3_takesAway_77 : decode cX3_takesAway 77 = .ok (.iaload, 1) := dk_n (t := []) dk_g46 (by decide +kernel)
theorem dX3_takesAway_78 : decode cX3_takesAway 78 = .ok (.istore 5, 2) := dk_u1 (y := 5) dk_g54 (by decide +kernel)
theorem dX3_takesAway_80 : decode cX3_takesAway 80 = .ok (.aload_n 0, 1) := dk_n (t := []) dk_g42 (by decide +kernel)
theorem dX3_takesAway_81 : decode cX3_takesAway 81 = .ok (.getfield 9, 3) := dk_u2 (y := 0) (z := 9) dk_g180 (by decide +kernel) rfl
theorem dX3_takesAway_84 : decode cX3_takesAway 84 = .ok (.iload_n 2, 1) := dk_n (t := []) dk_g28 (by decide +kernel)
theorem dX3_takesAway_85 : decode cX3_takesAway 85 = .ok (.iload_n 3, 1) := dk_n (t := []) dk_g29 (by decide +kernel)
theorem dX3_takesAway_86 : decode cX3_takesAway 86 = .ok (.aload_n 0, 1) := dk_n (t := []) dk_g42 (by decide +kernel)
theorem dX3_takesAway_87 : decode cX3_takesAway 87 = .ok (.getfield 15, 3) := dk_u2 (y := 0) (z := 15) dk_g180 (by decide +kernel) rfl
theorem dX3_takesAway_90 : decode cX3_takesAway 90 = .ok (.iload_n 1, 1) := dk_n (t := []) dk_g27 (by decide +kernel)
theorem dX3_takesAway_91 : decode cX3_takesAway 91 = .ok (.iconst 0, 1) := dk_n (t := []) dk_g3 (by decide +kernel)
theorem dX3_takesAway_92 : decode cX3_takesAway 92 = .ok (.iload 5, 2) := dk_u1 (y := 5) dk_g21 (by decide +kernel)
theorem dX3_takesAway_94 : decode cX3_takesAway 94 = .ok (.invokevirtual 69, 3) := dk_u2 (y := 0) (z := 69) dk_g182 (by decide +kernel) rfl
theorem dX3_takesAway_97 : decode cX3_takesAway 97 = .ok (.iand, 1) := dk_n (t := []) dk_g126 (by decide +kernel)
theorem dX3_takesAway_98 : decode cX3_takesAway 98 = .ok (.iastore, 1) := dk_n (t := []) dk_g79 (by decide +kernel)
theorem dX3_takesAway_99 : decode cX3_takesAway 99 = .ok (.aload_n 0, 1) := dk_n (t := []) dk_g42 (by decide +kernel)
theorem dX3_takesAway_100 : decode cX3_takesAway 100 = .ok (.getfield 9, 3) := dk_u2 (y := 0) (z := 9) dk_g180 (by decide +kernel) rfl
theorem dX3_takesAway_103 : decode cX3_takesAway 103 = .ok (.iload 4, 2) := dk_u1 (y := 4) dk_g21 (by decide +kernel)
theorem dX3_takesAway_105 : decode cX3_takesAway 105 = .ok (.iload 5, 2) := dk_u1 (y := 5) dk_g21 (by decide +kernel)
theorem dX3_takesAway_107 : decode cX3_takesAway 107 = .ok (.aload_n 0, 1) := dk_n (t := []) dk_g42 (by decide +kernel)
theorem dX3_takesAway_108 : decode cX3_takesAway 108 = .ok (.getfield 15, 3) := dk_u2 (y := 0) (z := 15) dk_g180 (by decide +kernel) rfl
theorem dX3_takesAway_111 : decode cX3_takesAway 111 = .ok (.iload_n 1, 1) := dk_n (t := []) dk_g27 (by decide +kernel)
theorem dX3_takesAway_112 : decode cX3_takesAway 112 = .ok (.iconst 1, 1) := dk_n (t := []) dk_g4 (by decide +kernel)
theorem dX3_takesAway_113 : decode cX3_takesAway 113 = .ok (.aload_n 0, 1) := dk_n (t := []) dk_g42 (by decide +kernel)
theorem dX3_takesAway_114 : decode cX3_takesAway 114 = .ok (.getfield 9, 3) := dk_u2 (y := 0) (z := 9) dk_g180 (by decide +kernel) rfl
theorem dX3_takesAway_117 : decode cX3_takesAway 117 = .ok (.iload_n 2, 1) := dk_n (t := []) dk_g28 (by decide +kernel)
theorem dX3_takesAway_118 : decode cX3_takesAway 118 = .ok (.iaload, 1) := dk_n (t := []) dk_g46 (by decide +kernel)
theorem dX3_takesAway_119 : decode cX3_takesAway 119 = .ok (.invokevirtual 69, 3) := dk_u2 (y := 0) (z := 69) dk_g182 (by decide +kernel) rfl
theorem dX3_takesAway_122 : decode cX3_takesAway 122 = .ok (.iand, 1) := dk_n (t := []) dk_g126 (by decide +kernel)
theorem dX3_takesAway_123 : decode cX3_takesAway 123 = .ok (.iastore, 1) := dk_n (t := []) dk_g79 (by decide +kernel)
theorem dX3_takesAway_124 : decode cX3_takesAway 124 = .ok (.aload_n 0, 1) := dk_n (t := []) dk_g42 (by decide +kernel)
theorem dX3_takesAway_125 : decode cX3_takesAway 125 = .ok (.getfield 9, 3) := dk_u2 (y := 0) (z := 9) dk_g180 (by decide +kernel) rfl
theorem dX3_takesAway_128 : decode cX3_takesAway 128 = .ok (.iload_n 2, 1) := dk_n (t := []) dk_g28 (by decide +kernel)
theorem dX3_takesAway_129 : decode cX3_takesAway 129 = .ok (.iaload, 1) := dk_n (t := []) dk_g46 (by decide +kernel)
theorem dX3_takesAway_130 : decode cX3_takesAway 130 = .ok (.iload_n 3, 1) := dk_n (t := []) dk_g29 (by decide +kernel)
theorem dX3_takesAway_131 : decode cX3_takesAway 131 = .ok (.if_icmp .ne 15, 3) := dk_s2 (y := 0) (z := 15) dk_g160 (by decide +kernel) rfl
theorem dX3_takesAway_134 : decode cX3_takesAway 134 = .ok (.aload_n 0, 1) := dk_n (t := []) dk_g42 (by decide +kernel)
theorem dX3_takesAway_135 : decode cX3_takesAway 135 = .ok (.getfield 9, 3) := dk_u2 (y := 0) (z := 9) dk_g180 (by decide +kernel) rfl
theorem dX3_takesAway_138 : decode cX3_takesAway 138 = .ok (.iload 4, 2) := dk_u1 (y := 4) dk_g21 (by decide +kernel)
theorem dX3_takesAway_140 : decode cX3_takesAway 140 = .ok (.iaload, 1) := dk_n (t := []) dk_g46 (by decide +kernel)
theorem dX3_takesAway_141 : decode cX3_takesAway 141 = .ok (.iload 5, 2) := dk_u1 (y := 5) dk_g21 (by decide +kernel)
theorem dX3_takesAway_143 : decode cX3_takesAway 143 = .ok (.if_icmp .eq 7, 3) := dk_s2 (y := 0) (z := 7) dk_g159 (by decide +kernel) rfl
theorem dX3_takesAway_146 : decode cX3_takesAway 146 = .ok (.iconst 1, 1) := dk_n (t := []) dk_g4 (by decide +kernel)
theorem dX3_takesAway_147 : decode cX3_takesAway 147 = .ok (.goto 4, 3) := dk_s2 (y := 0) (z := 4) dk_g167 (by decide +kernel) rfl
theorem dX3_takesAway_150 : decode cX3_takesAway 150 = .ok (.iconst 0, 1) := dk_n (t := []) dk_g3 (by decide +kernel)
theorem dX3_takesAway_151 : decode cX3_takesAway 151 = .ok (.ireturn, 1) := dk_n (t := []) dk_g172 (by decide +kernel)
theorem dX4_init_0 : decode cX4_init 0 = .ok (.aload_n 0, 1) := dk_n (t := []) dk_g42 (by decide +kernel)
theorem dX4_init_1 : decode cX4_init 1 = .ok (.invokespecial 3, 3) := dk_u2 (y := 0) (z := 3) dk_g183 (by decide +kernel) rfl
theorem dX4_init_4 : decode cX4_init 4 = .ok (.aload_n 0, 1) := dk_n (t := []) dk_g42 (by decide +kernel)
theorem dX4_init_5 : decode cX4_init 5 = .ok (.iconst 5, 1) := dk_n (t := []) dk_g8 (by decide +kernel)
theorem dX4_init_6 : decode cX4_init 6 = .ok (.newarray .int, 2) := by decide +kernel
theorem dX4_init_8 : decode cX4_init 8 = .ok (.putfield 9, 3) := dk_u2 (y := 0) (z := 9) dk_g181 (by decide +kernel) rfl
theorem dX4_init_11 : decode cX4_init 11 = .ok (.aload_n 0, 1) := dk_n (t := []) dk_g42 (by decide +kernel)
theorem dX4_init_12 : decode cX4_init 12 = .ok (.aload_n 1, 1) := dk_n (t := []) dk_g43 (by decide +kernel)
theorem dX4_init_13 : decode cX4_init 13 = .ok (.putfield 15, 3) := dk_u2 (y := 0) (z := 15) dk_g181 (by decide +kernel) rfl
theorem dX4_init_16 : decode cX4_init 16 = .ok (.aload_n 0, 1) := dk_n (t := []) dk_g42 (by decide +kernel)
theorem dX4_init_17 : decode cX4_init 17 = .ok (.new 19, 3) := dk_u2 (y := 0) (z := 19) dk_g187 (by decide +kernel) rfl
theorem dX4_init_20 : decode cX4_init 20 = .ok (.dup, 1) := dk_n (t := []) dk_g89 (by decide +kernel)
theorem dX4_init_21 : decode cX4_init 21 = .ok (.aload_n 1, 1) := dk_n (t := []) dk_g43 (by decide +kernel)
theorem dX4_init_22 : decode cX4_init 22 = .ok (.invokespecial 21, 3) := dk_u2 (y := 0) (z := 21) dk_g183 (by decide +kernel) rfl
theorem dX4_init_25 : decode cX4_init 25 = .ok (.putfield 24, 3) := dk_u2 (y := 0) (z := 24) dk_g181 (by decide +kernel) rfl
theorem dX4_init_28 : decode cX4_init 28 = .ok (.aload_n 0, 1) := dk_n (t := []) dk_g42 (by decide +kernel)
theorem dX4_init_29 : decode cX4_init 29 = .ok (.new 19, 3) := dk_u2 (y := 0) (z := 19) dk_g187 (by decide +kernel) rfl
theorem dX4_init_32 : decode cX4_init 32 = .ok (.dup, 1) := dk_n (t := []) dk_g89 (by decide +kernel)
theorem dX4_init_33 : decode cX4_init 33 = .ok (.aload_n 1, 1) := dk_n (t := []) dk_g43 (by decide +kernel)
theorem dX4_init_34 : decode cX4_init 34 = .ok (.invokespecial 21, 3) := dk_u2 (y := 0) (z := 21) dk_g183 (by decide +kernel) rfl
theorem dX4_init_37 : decode cX4_init 37 = .ok (.putfield 28, 3) := dk_u2 (y := 0) (z := 28) dk_g181 (by decide +kernel) rfl
theorem dX4_init_40 : decode cX4_init 40 = .ok (.aload_n 0, 1) := dk_n (t := []) dk_g42 (by decide +kernel)
theorem dX4_init_41 : decode cX4_init 41 = .ok (.new 19, 3) := dk_u2 (y := 0) (z := 19) dk_g187 (by decide +kernel) rfl
theorem dX4_init_44 : decode cX4_init 44 = .ok (.dup, 1) := dk_n (t := []) dk_g89 (by decide +kernel)
theorem dX4_init_45 : decode cX4_init 45 = .ok (.aload_n 1, 1) := dk_n (t := []) dk_g43 (by decide +kernel)
theorem dX4_init_46 : decode cX4_init 46 = .ok (.invokespecial 21, 3) := dk_u2 (y := 0) (z := 21) dk_g183 (by decide +kernel) rfl
theorem dX4_init_49 : decode cX4_init 49 = .ok (.putfield 31, 3) := dk_u2 (y := 0) (z := 31) dk_g181 (by decide +kernel) rfl
theorem dX4_init_52 : decode cX4_init 52 = .ok (.aload_n 0, 1) := dk_n (t := []) dk_g42 (by decide +kernel)
theorem dX4_init_53 : decode cX4_init 53 = .ok (.new 34, 3) := dk_u2 (y := 0) (z := 34) dk_g187 (by decide +kernel) rfl
theorem dX4_init_56 : decode cX4_init 56 = .ok (.dup, 1) := dk_n (t := []) dk_g89 (by decide +kernel)
theorem dX4_init_57 : decode cX4_init 57 = .ok (.aload_n 1, 1) := dk_n (t := []) dk_g43 (by decide +kernel)
theorem dX4_init_58 : decode cX4_init 58 = .ok (.invokespecial 36, 3) := dk_u2 (y := 0) (z := 36) dk_g183 (by decide +kernel) rfl
theorem dX4_init_61 : decode cX4_init 61 = .ok (.putfield 37, 3) := dk_u2 (y := 0) (z := 37) dk_g181 (by decide +kernel) rfl
theorem dX4_init_64 : decode cX4_init 64 = .ok (.aload_n 0, 1) := dk_n (t := []) dk_g42 (by decide +kernel)
theorem dX4_init_65 : decode cX4_init 65 = .ok (.getfield 9, 3) := dk_u2 (y := 0) (z := 9) dk_g180 (by decide +kernel) rfl
theorem dX4_init_68 : decode cX4_init 68 = .ok (.iconst (-1), 1) := dk_n (t := []) dk_g2 (by decide +kernel)
theorem dX4_init_69 : decode cX4_init 69 = .ok (.invokestatic 41, 3) := dk_u2 (y := 0) (z := 41) dk_g184 (by decide +kernel) rfl
theorem dX4_init_72 : decode cX4_init 72 = .ok (.return_, 1) := dk_n (t := []) dk_g177 (by decide +kernel)
theorem dX4_renew_0 : decode cX4_renew 0 = .ok (.aload_n 0, 1) := dk_n (t := []) dk_g42 (by decide +kernel)
theorem dX4_renew_1 : decode cX4_renew 1 = .ok (.aload_n 0, 1) := dk_n (t := []) dk_g42 (by decide +kernel)
theorem dX4_renew_2 : decode cX4_renew 2 = .ok (.getfield 15, 3) := dk_u2 (y := 0) (z := 15) dk_g180 (by decide +kernel) rfl
theorem dX4_renew_5 : decode cX4_renew 5 = .ok (.invokevirtual 47, 3) := dk_u2 (y := 0) (z := 47) dk_g182 (by decide +kernel) rfl
theorem dX4_renew_8 : decode cX4_renew 8 = .ok (.putfield 53, 3) := dk_u2 (y := 0) (z := 53) dk_g181 (by decide +kernel) rfl
theorem dX4_renew_11 : decode cX4_renew 11 = .ok (.aload_n 0, 1) := dk_n (t := []) dk_g42 (by decide +kernel)
theorem dX4_renew_12 : decode cX4_renew 12 = .ok (.getfield 24, 3) := dk_u2 (y := 0) (z := 24) dk_g180 (by decide +kernel) rfl
theorem dX4_renew_15 : decode cX4_renew 15 = .ok (.aload_n 0, 1) := dk_n (t := []) dk_g42 (by decide +kernel)
theorem dX4_renew_16 : decode cX4_renew 16 = .ok (.getfield 53, 3) := dk_u2 (y := 0) (z := 53) dk_g180 (by decide +kernel) rfl
theorem dX4_renew_19 : decode cX4_renew 19 = .ok (.invokevirtual 57, 3) := dk_u2 (y := 0) (z := 57) dk_g182 (by decide +kernel) rfl
theorem dX4_renew_22 : decode cX4_renew 22 = .ok (.aload_n 0, 1) := dk_n (t := []) dk_g42 (by decide +kernel)
theorem dX4_renew_23 : decode cX4_renew 23 = .ok (.getfield 37, 3) := dk_u2 (y := 0) (z := 37) dk_g180 (by decide +kernel) rfl
theorem dX4_renew_26 : decode cX4_renew 26 = .ok (.aload_n 0, 1) := dk_n (t := []) dk_g42 (by decide +kernel)
theorem dX4_renew_27 : decode cX4_renew 27 = .ok (.getfield 24, 3) := dk_u2 (y := 0) (z := 24) dk_g180 (by decide +kernel) rfl
theorem dX4_renew_30 : decode cX4_renew 30 = .ok (.aload_n 0, 1) := dk_n (t := []) dk_g42 (by decide +kernel)
theorem dX4_renew_31 : decode cX4_renew 31 = .ok (.getfield 53, 3) := dk_u2 (y := 0) (z := 53) dk_g180 (by decide +kernel) rfl
theorem dX4_renew_34 : decode cX4_renew 34 = .ok (.invokevirtual 61, 3) := dk_u2 (y := 0) (z := 61) dk_g182 (by decide +kernel) rfl
theorem dX4_renew_37 : decode cX4_renew 37 = .ok (.aload_n 0, 1) := dk_n (t := []) dk_g42 (by decide +kernel)
theorem dX4_renew_38 : decode cX4_renew 38 = .ok (.getfield 31, 3) := dk_u2 (y := 0) (z := 31) dk_g180 (by decide +kernel) rfl
theorem dX4_renew_41 : decode cX4_renew 41 = .ok (.aload_n 0, 1) := dk_n (t := []) dk_g42 (by decide +kernel)
theorem dX4_renew_42 : decode cX4_renew 42 = .ok (.getfield 24, 3) := dk_u2 (y := 0) (z := 24) dk_g180 (by decide +kernel) rfl
theorem dX4_renew_45 : decode cX4_renew 45 = .ok (.invokevirtual 65, 3) := dk_u2 (y := 0) (z := 65) dk_g182 (by decide +kernel) rfl
theorem dX4_renew_48 : decode cX4_renew 48 = .ok (.iconst 0, 1) := dk_n (t := []) dk_g3 (by decide +kernel)
theorem dX4_renew_49 : decode cX4_renew 49 = .ok (.istore_n 1, 1) := dk_n (t := []) dk_g60 (by decide +kernel)
theorem dX4_renew_50 : decode cX4_renew 50 = .ok (.iload_n 1, 1) := dk_n (t := []) dk_g27 (by decide +kernel)
theorem dX4_renew_51 : decode cX4_renew 51 = .ok (.aload_n 0, 1) := dk_n (t := []) dk_g42 (by decide +kernel)
theorem dX4_renew_52 : decode cX4_renew 52 = .ok (.getfield 15, 3) := dk_u2 (y := 0) (z := 15) dk_g180 (by decide +kernel) rfl
theorem dX4_renew_55 : decode cX4_renew 55 = .ok (.getfield 69, 3) := dk_u2 (y := 0) (z := 69) dk_g180 (by decide +kernel) rfl
theorem dX4_renew_58 : decode cX4_renew 58 = .ok (.if_icmp .ge 14, 3) := dk_s2 (y := 0) (z := 14) dk_g162 (by decide +kernel) rfl
theorem dX4_renew_61 : decode cX4_renew 61 = .ok (.aload_n 0, 1) := dk_n (t := []) dk_g42 (by decide +kernel)
theorem dX4_renew_62 : decode cX4_renew 62 = .ok (.iload_n 1, 1) := dk_n (t := []) dk_g27 (by decide +kernel)
theorem dX4_renew_63 : decode cX4_renew 63 = .ok (.invokevirtual 72, 3) := dk_u2 (y := 0) (z := 72) dk_g182 (by decide +kernel) rfl
theorem dX4_renew_66 : decode cX4_renew 66 = .ok (.iinc 1 1, 3) := dk_ii (y := 1) (z := 1) dk_g132 (by decide +kernel) rfl
theorem dX4_renew_69 : decode cX4_renew 69 = .ok (.goto (-19), 3) := dk_s2 (y := 255) (z := 237) dk_g167 (by decide +kernel) rfl
theorem dX4_renew_72 : decode cX4_renew 72 = .ok (.iconst 0, 1) := dk_n (t := []) dk_g3 (by decide +kernel)
theorem dX4_renew_73 : decode cX4_renew 73 = .ok (.istore_n 1, 1) := dk_n (t := []) dk_g60 (by decide +kernel)
theorem dX4_renew_74 : decode cX4_renew 74 = .ok (.iload_n 1, 1) := dk_n (t := []) dk_g27 (by decide +kernel)
theorem dX4_renew_75 : decode cX4_renew 75 = .ok (.aload_n 0, 1) := dk_n (t := []) dk_g42 (by decide +kernel)
theorem dX4_renew_76 : decode cX4_renew 76 = .ok (.getfield 15, 3) := dk_u2 (y := 0) (z := 15) dk_g180 (by decide +kernel) rfl
theorem dX4_renew_79 : decode cX4_renew 79 = .ok (.getfield 69, 3) := dk_u2 (y := 0) (z := 69) dk_g180 (by decide +kernel) rfl
theorem dX4_renew_82 : decode cX4_renew 82 = .ok (.if_icmp .ge 27, 3) := dk_s2 (y := 0) (z := 27) dk_g162 (by decide +kernel) rfl
theorem dX4_renew_85 : decode cX4_renew 85 = .ok (.aload_n 0, 1) := dk_n (t := []) dk_g42 (by decide +kernel)
theorem dX4_renew_86 : decode cX4_renew 86 = .ok (.getfield 9, 3) := dk_u2 (y := 0) (z := 9) dk_g180 (by decide +kernel) rfl
theorem dX4_renew_89 : decode cX4_renew 89 = .ok (.iload_n 1, 1) := dk_n (t := []) dk_g27 (by decide +kernel)
theorem dX4_renew_90 : decode cX4_renew 90 = .ok (.aload_n 0, 1) := dk_n (t := []) dk_g42 (by decide +kernel)
theorem dX4_renew_91 : decode cX4_renew 91 = .ok (.getfield 31, 3) := dk_u2 (y := 0) (z := 31) dk_g180 (by decide +kernel) rfl
theorem dX4_renew_94 : decode cX4_renew 94 = .ok (.getfield 75, 3) := dk_u2 (y := 0) (z := 75) dk_g180 (by decide +kernel) rfl
theorem dX4_renew_97 : decode cX4_renew 97 = .ok (.iload_n 1, 1) := dk_n (t := []) dk_g27 (by decide +kernel)
theorem dX4_renew_98 : decode cX4_renew 98 = .ok (.iaload, 1) := dk_n (t := []) dk_g46 (by decide +kernel)
theorem dX4_renew_99 : decode cX4_renew 99 = .ok (.invokestatic 78, 3) := dk_u2 (y := 0) (z := 78) dk_g184 (by decide +kernel) rfl
theorem dX4_renew_102 : decode cX4_renew 102 = .ok (.iastore, 1) := dk_n (t := []) dk_g79 (by decide +kernel)
theorem dX4_renew_103 : decode cX4_renew 103 = .ok (.iinc 1 1, 3) := dk_ii (y := 1) (z := 1) dk_g132 (by decide +kernel) rfl
theorem dX4_renew_106 : decode cX4_renew 106 = .ok (.goto (-32), 3) := dk_s2 (y := 255) (z := 224) dk_g167 (by decide +kernel) rfl
theorem dX4_renew_109 : decode cX4_renew 109 = .ok (.return_, 1) := dk_n (t := []) dk_g177 (by decide +kernel)
theorem dX4_takeDefault_0 : decode cX4_takeDefault 0 = .ok (.aload_n 0, 1) := dk_n (t := []) dk_g42 (by decide +kernel)
theorem dX4_takeDefault_1 : decode cX4_takeDefault 1 = .ok (.getfield 31, 3) := dk_u2 (y := 0) (z := 31) dk_g180 (by decide +kernel) rfl
theorem dX4_takeDefault_4 : decode cX4_takeDefault 4 = .ok (.getfield 75, 3) := dk_u2 (y := 0) (z := 75) dk_g180 (by decide +kernel) rfl
theorem dX4_takeDefault_7 : decode cX4_takeDefault 7 = .ok (.iload_n 1, 1) := dk_n (t := []) dk_g27 (by decide +kernel)
theorem dX4_takeDefault_8 : decode cX4_takeDefault 8 = .ok (.iaload, 1) := dk_n (t := []) dk_g46 (by decide +kernel)
theorem dX4_takeDefault_9 : decode cX4_takeDefault 9 = .ok (.invokestatic 82, 3) := dk_u2 (y := 0) (z := 82) dk_g184 (by decide +kernel) rfl
theorem dX4_takeDefault_12 : decode cX4_takeDefault 12 = .ok (.iconst 1, 1) := dk_n (t := []) dk_g4 (by decide +kernel)
theorem dX4_takeDefault_13 : decode cX4_takeDefault 13 = .ok (.if_icmp .gt 4, 3) := dk_s2 (y := 0) (z := 4) dk_g163 (by decide +kernel) rfl
theorem dX4_takeDefault_16 : decode cX4_takeDefault 16 = .ok (.return_, 1) := dk_n (t := []) dk_g177 (by decide +kernel)
theorem dX4_takeDefault_17 : decode cX4_takeDefault 17 = .ok (.bipush 9, 2) := dk_s1 (y := 9) dk_g16 (by decide +kernel) rfl
theorem dX4_takeDefault_19 : decode cX4_takeDefault 19 = .ok (.istore_n 2, 1) := dk_n (t := []) dk_g61 (by decide +kernel)
theorem dX4_takeDefault_20 : decode cX4_takeDefault 20 = .ok (.iload_n 2, 1) := dk_n (t := []) dk_g28 (by decide +kernel)
theorem dX4_takeDefault_21 : decode cX4_takeDefault 21 = .ok (.ifCond .lt 111, 3) := dk_s2 (y := 0) (z := 111) dk_g155 (by decide +kernel) rfl
theorem dX4_takeDefault_24 : decode cX4_takeDefault 24 = .ok (.aload_n 0, 1) := dk_n (t := []) dk_g42 (by decide +kernel)
theorem dX4_takeDefault_25 : decode cX4_takeDefault 25 = .ok (.getfield 15, 3) := dk_u2 (y := 0) (z := 15) dk_g180 (by decide +kernel) rfl
theorem dX4_takeDefault_28 : decode cX4_takeDefault 28 = .ok (.iload_n 1, 1) := dk_n (t := []) dk_g27 (by decide +kernel)
theorem dX4_takeDefault_29 : decode cX4_takeDefault 29 = .ok (.iload_n 2, 1) := dk_n (t := []) dk_g28 (by decide +kernel)
theorem dX4_takeDefault_30 : decode cX4_takeDefault 30 = .ok (.invokevirtual 87, 3) := dk_u2 (y := 0) (z := 87) dk_g182 (by decide +kernel) rfl
theorem dX4_takeDefault_33 : decode cX4_takeDefault 33 = .ok (.aload_n 0, 1) := dk_n (t := []) dk_g42 (by decide +kernel)
theorem dX4_takeDefault_34 : decode cX4_takeDefault 34 = .ok (.getfield 31, 3) := dk_u2 (y := 0) (z := 31) dk_g180 (by decide +kernel) rfl
theorem dX4_takeDefault_37 : decode cX4_takeDefault 37 = .ok (.getfield 75, 3) := dk_u2 (y := 0) (z := 75) dk_g180 (by decide +kernel) rfl
theorem dX4_takeDefault_40 : decode cX4_takeDefault 40 = .ok (.iload_n 1, 1) := dk_n (t := []) dk_g27 (by decide +kernel)
theorem dX4_takeDefault_41 : decode cX4_takeDefault 41 = .ok (.iaload, 1) := dk_n (t := []) dk_g46 (by decide +kernel)
theorem dX4_takeDefault_42 : decode cX4_takeDefault 42 = .ok (.iand, 1) := dk_n (t := []) dk_g126 (by decide +kernel)
theorem dX4_takeDefault_43 : decode cX4_takeDefault 43 = .ok (.istore_n 3, 1) := dk_n (t := []) dk_g62 (by decide +kernel)
theorem dX4_takeDefault_44 : decode cX4_takeDefault 44 = .ok (.iconst 0, 1) := dk_n (t := []) dk_g3 (by decide +kernel)
theorem dX4_takeDefault_45 : decode cX4_takeDefault 45 = .ok (.istore 4, 2) := dk_u1 (y := 4) dk_g54 (by decide +kernel)
theorem dX4_takeDefault_47 : decode cX4_takeDefault 47 = .ok (.iload 4, 2) := dk_u1 (y := 4) dk_g21 (by decide +kernel)
theorem dX4_takeDefault_49 : decode cX4_takeDefault 49 = .ok (.bipush 8, 2) := dk_s1 (y := 8) dk_g16 (by decide +kernel) rfl
theorem dX4_takeDefault_51 : decode cX4_takeDefault 51 = .ok (.if_icmp .ge 75, 3) := dk_s2 (y := 0) (z := 75) dk_g162 (by decide +kernel) rfl
theorem dX4_takeDefault_54 : decode cX4_takeDefault 54 = .ok (.iload_n 3, 1) := dk_n (t := []) dk_g29 (by decide +kernel)
theorem dX4_takeDefault_55 : decode cX4_takeDefault 55 = .ok (.iload 4, 2) := dk_u1 (y := 4) dk_g21 (by decide +kernel)
theorem dX4_takeDefault_57 : decode cX4_takeDefault 57 = .ok (.invokestatic 91, 3) := dk_u2 (y := 0) (z := 91) dk_g184 (by decide +kernel) rfl
theorem dX4_takeDefault_60 : decode cX4_takeDefault 60 = .ok (.ifCond .eq 60, 3) := dk_s2 (y := 0) (z := 60) dk_g153 (by decide +kernel) rfl
theorem dX4_takeDefault_63 : decode cX4_takeDefault 63 = .ok (.aload_n 0, 1) := dk_n (t := []) dk_g42 (by decide +kernel)
theorem dX4_takeDefault_64 : decode cX4_takeDefault 64 = .ok (.getfield 28, 3) := dk_u2 (y := 0) (z := 28) dk_g180 (by decide +kernel) rfl
theorem dX4_takeDefault_67 : decode cX4_takeDefault 67 = .ok (.aload_n 0, 1) := dk_n (t := []) dk_g42 (by decide +kernel)
theorem dX4_takeDefault_68 : decode cX4_takeDefault 68 = .ok (.getfield 31, 3) := dk_u2 (y := 0) (z := 31) dk_g180 (by decide +kernel) rfl
theorem dX4_takeDefault_71 : decode cX4_takeDefault 71 = .ok (.invokevirtual 65, 3) := dk_u2 (y := 0) (z := 65) dk_g182 (by decide +kernel) rfl
theorem dX4_takeDefault_74 : decode cX4_takeDefault 74 = .ok (.aload_n 0, 1) := dk_n (t := []) dk_g42 (by decide +kernel)
theorem dX4_takeDefault_75 : decode cX4_takeDefault 75 = .ok (.getfield 28, 3) := dk_u2 (y := 0) (z := 28) dk_g180 (by decide +kernel) rfl
theorem dX4_takeDefault_78 : decode cX4_takeDefault 78 = .ok (.getfield 75, 3) := dk_u2 (y := 0) (z := 75) dk_g180 (by decide +kernel) rfl
theorem dX4_takeDefault_81 : decode cX4_takeDefault 81 = .ok (.iload_n 1, 1) := dk_n (t := []) dk_g27 (by decide +kernel)
theorem dX4_takeDefault_82 : decode cX4_takeDefault 82 = .ok (.iconst 1, 1) := dk_n (t := []) dk_g4 (by decide +kernel)
theorem dX4_takeDefault_83 : decode cX4_takeDefault 83 = .ok (.iload 4, 2) := dk_u1 (y := 4) dk_g21 (by decide +kernel)
theorem dX4_takeDefault_85 : decode cX4_takeDefault 85 = .ok (.ishl, 1) := dk_n (t := []) dk_g120 (by decide +kernel)
theorem dX4_takeDefault_86 : decode cX4_takeDefault 86 = .ok (.iastore, 1) := dk_n (t := []) dk_g79 (by decide +kernel)
theorem dX4_takeDefault_87 : decode cX4_takeDefault 87 = .ok (.aload_n 0, 1) := dk_n (t := []) dk_g42 (by decide +kernel)
theorem dX4_takeDefault_88 : decode cX4_takeDefault 88 = .ok (.getfield 28, 3) := dk_u2 (y := 0) (z := 28) dk_g180 (by decide +kernel) rfl
theorem dX4_takeDefault_91 : decode cX4_takeDefault 91 = .ok (.aload_n 0, 1) := dk_n (t := []) dk_g42 (by decide +kernel)
theorem dX4_takeDefault_92 : decode cX4_takeDefault 92 = .ok (.getfield 53, 3) := dk_u2 (y := 0) (z := 53) dk_g180 (by decide +kernel) rfl
theorem dX4_takeDefault_95 : decode cX4_takeDefault 95 = .ok (.invokevirtual 95, 3) := dk_u2 (y := 0) (z := 95) dk_g182 (by decide +kernel) rfl
theorem dX4_takeDefault_98 : decode cX4_takeDefault 98 = .ok (.aload_n 0, 1) := dk_n (t := []) dk_g42 (by decide +kernel)
theorem dX4_takeDefault_99 : decode cX4_takeDefault 99 = .ok (.getfield 28, 3) := dk_u2 (y := 0) (z := 28) dk_g180 (by decide +kernel) rfl
theorem dX4_takeDefault_102 : decode cX4_takeDefault 102 = .ok (.getfield 98, 3) := dk_u2 (y := 0) (z := 98) dk_g180 (by decide +kernel) rfl
theorem dX4_takeDefault_105 : decode cX4_takeDefault 105 = .ok (.ifCond .ne 15, 3) := dk_s2 (y := 0) (z := 15) dk_g154 (by decide +kernel) rfl
theorem dX4_takeDefault_108 : decode cX4_takeDefault 108 = .ok (.aload_n 0, 1) := dk_n (t := []) dk_g42 (by decide +kernel)
theorem dX4_takeDefault_109 : decode cX4_takeDefault 109 = .ok (.getfield 31, 3) := dk_u2 (y := 0) (z := 31) dk_g180 (by decide +kernel) rfl
theorem dX4_takeDefault_112 : decode cX4_takeDefault 112 = .ok (.aload_n 0, 1) := dk_n (t := []) dk_g42 (by decide +kernel)
theorem dX4_takeDefault_113 : decode cX4_takeDefault 113 = .ok (.getfield 28, 3) := dk_u2 (y := 0) (z := 28) dk_g180 (by decide +kernel) rfl
theorem dX4_takeDefault_116 : decode cX4_takeDefault 116 = .ok (.invokevirtual 65, 3) := dk_u2 (y := 0) (z := 65) dk_g182 (by decide +kernel) rfl
theorem dX4_takeDefault_119 : decode cX4_takeDefault 119 = .ok (.return_, 1) := dk_n (t := []) dk_g177 (by decide +kernel)
theorem dX4_takeDefault_120 : decode cX4_takeDefault 120 = .ok (.iinc 4 1, 3) := dk_ii (y := 4) (z := 1) dk_g132 (by decide +kernel) rfl
theorem dX4_takeDefault_123 : decode cX4_takeDefault 123 = .ok (.goto (-76), 3) := dk_s2 (y := 255) (z := 180) dk_g167 (by decide +kernel) rfl
theorem dX4_takeDefault_126 : decode cX4_takeDefault 126 = .ok (.iinc 2 (-1), 3) := dk_ii (y := 2) (z := 255) dk_g132 (by decide +kernel) rfl
theorem dX4_takeDefault_129 : decode cX4_takeDefault 129 = .ok (.goto (-109), 3) := dk_s2 (y := 255) (z := 147) dk_g167 (by decide +kernel) rfl
theorem dX4_takeDefault_132 : decode cX4_takeDefault 132 = .ok (.return_, 1) := dk_n (t := []) dk_g177 (by decide +kernel)
theorem dX4_onlyNumber_0 : decode cX4_onlyNumber 0 = .ok (.iconst 0, 1) := dk_n (t := []) dk_g3 (by decide +kernel)
theorem dX4_onlyNumber_1 : decode cX4_onlyNumber 1 = .ok (.istore_n 1, 1) := dk_n (t := []) dk_g60 (by decide +kernel)
theorem dX4_onlyNumber_2 : decode cX4_onlyNumber 2 = .ok (.iload_n 1, 1) := dk_n (t := []) dk_g27 (by decide +kernel)
theorem dX4_onlyNumber_3 : decode cX4_onlyNumber 3 = .ok (.bipush 8, 2) := dk_s1 (y := 8) dk_g16 (by decide +kernel) rfl
theorem dX4_onlyNumber_5 : decode cX4_onlyNumber 5 = .ok (.if_icmp .ge 18, 3) := dk_s2 (y := 0) (z := 18) dk_g162 (by decide +kernel) rfl
theorem dX4_onlyNumber_8 : decode cX4_onlyNumber 8 = .ok (.iload_n 0, 1) := dk_n (t := []) dk_g26 (by decide +kernel)
theorem dX4_onlyNumber_9 : decode cX4_onlyNumber 9 = .ok (.iconst 1, 1) := dk_n (t := []) dk_g4 (by decide +kernel)
theorem dX4_onlyNumber_10 : decode cX4_onlyNumber 10 = .ok (.iload_n 1, 1) := dk_n (t := []) dk_g27 (by decide +kernel)
theorem dX4_onlyNumber_11 : decode cX4_onlyNumber 11 = .ok (.ishl, 1) := dk_n (t := []) dk_g120 (by decide +kernel)
theorem dX4_onlyNumber_12 : decode cX4_onlyNumber 12 = .ok (.if_icmp .ne 5, 3) := dk_s2 (y := 0) (z := 5) dk_g160 (by decide +kernel) rfl
theorem dX4_onlyNumber_15 : decode cX4_onlyNumber 15 = .ok (.iload_n 1, 1) := dk_n (t := []) dk_g27 (by decide +kernel)
theorem dX4_onlyNumber_16 : decode cX4_onlyNumber 16 = .ok (.ireturn, 1) := dk_n (t := []) dk_g172 (by decide +kernel)
theorem dX4_onlyNumber_17 : decode cX4_onlyNumber 17 = .ok (.iinc 1 1, 3) := dk_ii (y := 1) (z := 1) dk_g132 (by decide +kernel) rfl
theorem dX4_onlyNumber_20 : decode cX4_onlyNumber 20 = .ok (.goto (-18), 3) := dk_s2 (y := 255) (z := 238) dk_g167 (by decide +kernel) rfl
theorem dX4_onlyNumber_23 : decode cX4_onlyNumber 23 = .ok (.iconst (-1), 1) := dk_n (t := []) dk_g2 (by decide +kernel)
theorem dX4_onlyNumber_24 : decode cX4_onlyNumber 24 = .ok (.ireturn, 1) := dk_n (t := []) dk_g172 (by decide +kernel)
theorem dX4_settledFields_0 : decode cX4_settledFields 0 = .ok (.iconst 0, 1) := dk_n (t := []) dk_g3 (by decide +kernel)
theorem dX4_settledFields_1 : decode cX4_settledFields 1 = .ok (.istore_n 1, 1) := dk_n (t := []) dk_g60 (by decide +kernel)
theorem dX4_settledFields_2 : decode cX4_settledFields 2 = .ok (.iconst 0, 1) := dk_n (t := []) dk_g3 (by decide +kernel)
theorem dX4_settledFields_3 : decode cX4_settledFields 3 = .ok (.istore_n 2, 1) := dk_n (t := []) dk_g61 (by decide +kernel)
theorem dX4_settledFields_4 : decode cX4_settledFields 4 = .ok (.iload_n 2, 1) := dk_n (t := []) dk_g28 (by decide +kernel)
theorem dX4_settledFields_5 : decode cX4_settledFields 5 = .ok (.aload_n 0, 1) := dk_n (t := []) dk_g42 (by decide +kernel)
theorem dX4_settledFields_6 : decode cX4_settledFields 6 = .ok (.getfield 15, 3) := dk_u2 (y := 0) (z := 15) dk_g180 (by decide +kernel) rfl
theorem dX4_settledFields_9 : decode cX4_settledFields 9 = .ok (.getfield 69, 3) := dk_u2 (y := 0) (z := 69) dk_g180 (by decide +kernel) rfl
theorem dX4_settledFields_12 : decode cX4_settledFields 12 = .ok (.if_icmp .ge 22, 3) := dk_s2 (y := 0) (z := 22) dk_g162 (by decide +kernel) rfl
theorem dX4_settledFields_15 : decode cX4_settledFields 15 = .ok (.aload_n 0, 1) := dk_n (t := []) dk_g42 (by decide +kernel)
theorem dX4_settledFields_16 : decode cX4_settledFields 16 = .ok (.getfield 9, 3) := dk_u2 (y := 0) (z := 9) dk_g180 (by decide +kernel) rfl
theorem dX4_settledFields_19 : decode cX4_settledFields 19 = .ok (.iload_n 2, 1) := dk_n (t := []) dk_g28 (by decide +kernel)
theorem dX4_settledFields_20 : decode cX4_settledFields 20 = .ok (.iaload, 1) := dk_n (t := []) dk_g46 (by decide +kernel)
theorem dX4_settledFields_21 : decode cX4_settledFields 21 = .ok (.iconst (-1), 1) := dk_n (t := []) dk_g2 (by decide +kernel)
theorem dX4_settledFields_22 : decode cX4_settledFields 22 = .ok (.if_icmp .eq 6, 3) := dk_s2 (y := 0) (z := 6) dk_g159 (by decide +kernel) rfl
theorem dX4_settledFields_25 : decode cX4_settledFields 25 = .ok (.iinc 1 1, 3) := dk_ii (y := 1) (z := 1) dk_g132 (by decide +kernel) rfl
theorem dX4_settledFields_28 : decode cX4_settledFields 28 = .ok (.iinc 2 1, 3) := dk_ii (y := 2) (z := 1) dk_g132 (by decide +kernel) rfl
theorem dX4_settledFields_31 : decode cX4_settledFields 31 = .ok (.goto (-27), 3) := dk_s2 (y := 255) (z := 229) dk_g167 (by decide +kernel) rfl
theorem dX4_settledFields_34 : decode cX4_settledFields 34 = .ok (.iload_n 1, 1) := dk_n (t := []) dk_g27 (by decide +kernel)
theorem dX4_settledFields_35 : decode cX4_settledFields 35 = .ok (.ireturn, 1) := dk_n (t := []) dk_g172 (by decide +kernel)
theorem dX4_reasonOf_0 : decode cX4_reasonOf 0 = .ok (.iload_n 1, 1) := dk_n (t := []) dk_g27 (by decide +kernel)
theorem dX4_reasonOf_1 : decode cX4_reasonOf 1 = .ok (.ifCond .lt 28, 3) := dk_s2 (y := 0) (z := 28) dk_g155 (by decide +kernel) rfl
theorem dX4_reasonOf_4 : decode cX4_reasonOf 4 = .ok (.iload_n 1, 1) := dk_n (t := []) dk_g27 (by decide +kernel)
theorem dX4_reasonOf_5 : decode cX4_reasonOf 5 = .ok (.aload_n 0, 1) := dk_n (t := []) dk_g42 (by decide +kernel)
theorem dX4_reasonOf_6 : decode cX4_reasonOf 6 = .ok (.getfield 15, 3) := dk_u2 (y := 0) (z := 15) dk_g180 (by decide +kernel) rfl
theorem dX4_reasonOf_9 : decode cX4_reasonOf 9 = .ok (.getfield 69, 3) := dk_u2 (y := 0) (z := 69) dk_g180 (by decide +kernel) rfl
theorem dX4_reasonOf_12 : decode cX4_reasonOf 12 = .ok (.if_icmp .ge 17, 3) := dk_s2 (y := 0) (z := 17) dk_g162 (by decide +kernel) rfl
theorem dX4_reasonOf_15 : decode cX4_reasonOf 15 = .ok (.aload_n 0, 1) := dk_n (t := []) dk_g42 (by decide +kernel)
theorem dX4_reasonOf_16 : decode cX4_reasonOf 16 = .ok (.getfield 24, 3) := dk_u2 (y := 0) (z := 24) dk_g180 (by decide +kernel) rfl
theorem dX4_reasonOf_19 : decode cX4_reasonOf 19 = .ok (.getfield 98, 3) := dk_u2 (y := 0) (z := 98) dk_g180 (by decide +kernel) rfl
theorem dX4_reasonOf_22 : decode cX4_reasonOf 22 = .ok (.ifCond .ne 7, 3) := dk_s2 (y := 0) (z := 7) dk_g154 (by decide +kernel) rfl
theorem dX4_reasonOf_25 : decode cX4_reasonOf 25 = .ok (.iconst 1, 1) := dk_n (t := []) dk_g4 (by decide +kernel)
theorem dX4_reasonOf_26 : decode cX4_reasonOf 26 = .ok (.goto 4, 3) := dk_s2 (y := 0) (z := 4) dk_g167 (by decide +kernel) rfl
theorem dX4_reasonOf_29 : decode cX4_reasonOf 29 = .ok (.iconst 0, 1) := dk_n (t := []) dk_g3 (by decide +kernel)
theorem dX4_reasonOf_30 : decode cX4_reasonOf 30 = .ok (.istore_n 2, 1) := dk_n (t := []) dk_g61 (by decide +kernel)
theorem dX4_reasonOf_31 : decode cX4_reasonOf 31 = .ok (.iload_n 2, 1) := dk_n (t := []) dk_g28 (by decide +kernel)
theorem dX4_reasonOf_32 : decode cX4_reasonOf 32 = .ok (.ifCond .ne 15, 3) := dk_s2 (y := 0) (z := 15) dk_g154 (by decide +kernel) rfl
theorem dX4_reasonOf_35 : decode cX4_reasonOf 35 = .ok (.aload_n 0, 1) := dk_n (t := []) dk_g42 (by decide +kernel)
theorem dX4_reasonOf_36 : decode cX4_reasonOf 36 = .ok (.getfield 24, 3) := dk_u2 (y := 0) (z := 24) dk_g180 (by decide +kernel) rfl
theorem dX4_reasonOf_39 : decode cX4_reasonOf 39 = .ok (.getfield 98, 3) := dk_u2 (y := 0) (z := 98) dk_g180 (by decide +kernel) rfl
theorem dX4_reasonOf_42 : decode cX4_reasonOf 42 = .ok (.ifCond .ne 5, 3) := dk_s2 (y := 0) (z := 5) dk_g154 (by decide +kernel) rfl
theorem dX4_reasonOf_45 : decode cX4_reasonOf 45 = .ok (.iconst 0, 1) := dk_n (t := []) dk_g3 (by decide +kernel)
theorem dX4_reasonOf_46 : decode cX4_reasonOf 46 = .ok (.ireturn, 1) := dk_n (t := []) dk_g172 (by decide +kernel)
theorem dX4_reasonOf_47 : decode cX4_reasonOf 47 = .ok (.aload_n 0, 1) := dk_n (t := []) dk_g42 (by decide +kernel)
theorem dX4_reasonOf_48 : decode cX4_reasonOf 48 = .ok (.getfield 53, 3) := dk_u2 (y := 0) (z := 53) dk_g180 (by decide +kernel) rfl
theorem dX4_reasonOf_51 : decode cX4_reasonOf 51 = .ok (.istore_n 3, 1) := dk_n (t := []) dk_g62 (by decide +kernel)
theorem dX4_reasonOf_52 : decode cX4_reasonOf 52 = .ok (.iconst 0, 1) := dk_n (t := []) dk_g3 (by decide +kernel)
theorem dX4_reasonOf_53 : decode cX4_reasonOf 53 = .ok (.istore 4, 2) := dk_u1 (y := 4) dk_g54 (by decide +kernel)
theorem dX4_reasonOf_55 : decode cX4_reasonOf 55 = .ok (.iload 4, 2) := dk_u1 (y := 4) dk_g21 (by decide +kernel)
theorem dX4_reasonOf_57 : decode cX4_reasonOf 57 = .ok (.aload_n 0, 1) := dk_n (t := []) dk_g42 (by decide +kernel)
theorem dX4_reasonOf_58 : decode cX4_reasonOf 58 = .ok (.getfield 15, 3) := dk_u2 (y := 0) (z := 15) dk_g180 (by decide +kernel) rfl
theorem dX4_reasonOf_61 : decode cX4_reasonOf 61 = .ok (.getfield 102, 3) := dk_u2 (y := 0) (z := 102) dk_g180 (by decide +kernel) rfl
theorem dX4_reasonOf_64 : decode cX4_reasonOf 64 = .ok (.if_icmp .ge 75, 3) := dk_s2 (y := 0) (z := 75) dk_g162 (by decide +kernel) rfl
theorem dX4_reasonOf_67 : decode cX4_reasonOf 67 = .ok (.iload_n 3, 1) := dk_n (t := []) dk_g29 (by decide +kernel)
theorem dX4_reasonOf_68 : decode cX4_reasonOf 68 = .ok (.iconst 1, 1) := dk_n (t := []) dk_g4 (by decide +kernel)
theorem dX4_reasonOf_69 : decode cX4_reasonOf 69 = .ok (.iload 4, 2) := dk_u1 (y := 4) dk_g21 (by decide +kernel)
theorem dX4_reasonOf_71 : decode cX4_reasonOf 71 = .ok (.ishl, 1) := dk_n (t := []) dk_g120 (by decide +kernel)
theorem dX4_reasonOf_72 : decode cX4_reasonOf 72 = .ok (.iconst (-1), 1) := dk_n (t := []) dk_g2 (by decide +kernel)
theorem dX4_reasonOf_73 : decode cX4_reasonOf 73 = .ok (.ixor, 1) := dk_n (t := []) dk_g130 (by decide +kernel)
theorem dX4_reasonOf_74 : decode cX4_reasonOf 74 = .ok (.iand, 1) := dk_n (t := []) dk_g126 (by decide +kernel)
theorem dX4_reasonOf_75 : decode cX4_reasonOf 75 = .ok (.istore 5, 2) := dk_u1 (y := 5) dk_g54 (by decide +kernel)
theorem dX4_reasonOf_77 : decode cX4_reasonOf 77 = .ok (.iload 5, 2) := dk_u1 (y := 5) dk_g21 (by decide +kernel)
theorem dX4_reasonOf_79 : decode cX4_reasonOf 79 = .ok (.iload_n 3, 1) := dk_n (t := []) dk_g29 (by decide +kernel)
theorem dX4_reasonOf_80 : decode cX4_reasonOf 80 = .ok (.if_icmp .eq 53, 3) := dk_s2 (y := 0) (z := 53) dk_g159 (by decide +kernel) rfl
theorem dX4_reasonOf_83 : decode cX4_reasonOf 83 = .ok (.aload_n 0, 1) := dk_n (t := []) dk_g42 (by decide +kernel)
theorem dX4_reasonOf_84 : decode cX4_reasonOf 84 = .ok (.getfield 28, 3) := dk_u2 (y := 0) (z := 28) dk_g180 (by decide +kernel) rfl
theorem dX4_reasonOf_87 : decode cX4_reasonOf 87 = .ok (.iload 5, 2) := dk_u1 (y := 5) dk_g21 (by decide +kernel)
theorem dX4_reasonOf_89 : decode cX4_reasonOf 89 = .ok (.invokevirtual 57, 3) := dk_u2 (y := 0) (z := 57) dk_g182 (by decide +kernel) rfl
theorem dX4_reasonOf_92 : decode cX4_reasonOf 92 = .ok (.iload_n 2, 1) := dk_n (t := []) dk_g28 (by decide +kernel)
theorem dX4_reasonOf_93 : decode cX4_reasonOf 93 = .ok (.ifCond .eq 27, 3) := dk_s2 (y := 0) (z := 27) dk_g153 (by decide +kernel) rfl
theorem dX4_reasonOf_96 : decode cX4_reasonOf 96 = .ok (.aload_n 0, 1) := dk_n (t := []) dk_g42 (by decide +kernel)
theorem dX4_reasonOf_97 : decode cX4_reasonOf 97 = .ok (.getfield 28, 3) := dk_u2 (y := 0) (z := 28) dk_g180 (by decide +kernel) rfl
theorem dX4_reasonOf_100 : decode cX4_reasonOf 100 = .ok (.getfield 75, 3) := dk_u2 (y := 0) (z := 75) dk_g180 (by decide +kernel) rfl
theorem dX4_reasonOf_103 : decode cX4_reasonOf 103 = .ok (.iload_n 1, 1) := dk_n (t := []) dk_g27 (by decide +kernel)
theorem dX4_reasonOf_104 : decode cX4_reasonOf 104 = .ok (.iaload, 1) := dk_n (t := []) dk_g46 (by decide +kernel)
theorem dX4_reasonOf_105 : decode cX4_reasonOf 105 = .ok (.aload_n 0, 1) := dk_n (t := []) dk_g42 (by decide +kernel)
theorem dX4_reasonOf_106 : decode cX4_reasonOf 106 = .ok (.getfield 24, 3) := dk_u2 (y := 0) (z := 24) dk_g180 (by decide +kernel) rfl
theorem dX4_reasonOf_109 : decode cX4_reasonOf 109 = .ok (.getfield 75, 3) := dk_u2 (y := 0) (z := 75) dk_g180 (by decide +kernel) rfl
theorem dX4_reasonOf_112 : decode cX4_reasonOf 112 = .ok (.iload_n 1, 1) := dk_n (t := []) dk_g27 (by decide +kernel)
theorem dX4_reasonOf_113 : decode cX4_reasonOf 113 = .ok (.iaload, 1) := dk_n (t := []) dk_g46 (by decide +kernel)
theorem dX4_reasonOf_114 : decode cX4_reasonOf 114 = .ok (.if_icmp .ne 19, 3) := dk_s2 (y := 0) (z := 19) dk_g160 (by decide +kernel) rfl
theorem dX4_reasonOf_117 : decode cX4_reasonOf 117 = .ok (.goto 13, 3) := dk_s2 (y := 0) (z := 13) dk_g167 (by decide +kernel) rfl
theorem dX4_reasonOf_120 : decode cX4_reasonOf 120 = .ok (.aload_n 0, 1) := dk_n (t := []) dk_g42 (by decide +kernel)
theorem dX4_reasonOf_121 : decode cX4_reasonOf 121 = .ok (.getfield 28, 3) := dk_u2 (y := 0) (z := 28) dk_g180 (by decide +kernel) rfl
theorem dX4_reasonOf_124 : decode cX4_reasonOf 124 = .ok (.getfield 98, 3) := dk_u2 (y := 0) (z := 98) dk_g180 (by decide +kernel) rfl
theorem dX4_reasonOf_127 : decode cX4_reasonOf 127 = .ok (.ifCond .eq 6, 3) := dk_s2 (y := 0) (z := 6) dk_g153 (by decide +kernel) rfl
theorem dX4_reasonOf_130 : decode cX4_reasonOf 130 = .ok (.iload 5, 2) := dk_u1 (y := 5) dk_g21 (by decide +kernel)
theorem dX4_reasonOf_132 : decode cX4_reasonOf 132 = .ok (.istore_n 3, 1) := dk_n (t := []) dk_g62 (by decide +kernel)
theorem dX4_reasonOf_133 : decode cX4_reasonOf 133 = .ok (.iinc 4 1, 3) := dk_ii (y := 4) (z := 1) dk_g132 (by decide +kernel) rfl
theorem dX4_reasonOf_136 : decode cX4_reasonOf 136 = .ok (.goto (-81), 3) := dk_s2 (y := 255) (z := 175) dk_g167 (by decide +kernel) rfl
theorem dX4_reasonOf_139 : decode cX4_reasonOf 139 = .ok (.iload_n 3, 1) := dk_n (t := []) dk_g29 (by decide +kernel)
theorem dX4_reasonOf_140 : decode cX4_reasonOf 140 = .ok (.ireturn, 1) := dk_n (t := []) dk_g172 (by decide +kernel)
theorem dX5_init_0 : decode cX5_init 0 = .ok (.aload_n 0, 1) := dk_n (t := []) dk_g42 (by decide +kernel)
theorem dX5_init_1 : decode cX5_init 1 = .ok (.invokespecial 1, 3) := dk_u2 (y := 0) (z := 1) dk_g183 (by decide +kernel) rfl
theorem dX5_init_4 : decode cX5_init 4 = .ok (.aload_n 0, 1) := dk_n (t := []) dk_g42 (by decide +kernel)
theorem dX5_init_5 : decode cX5_init 5 = .ok (.new 7, 3) := dk_u2 (y := 0) (z := 7) dk_g187 (by decide +kernel) rfl
theorem dX5_init_8 : decode cX5_init 8 = .ok (.dup, 1) := dk_n (t := []) dk_g89 (by decide +kernel)
theorem dX5_init_9 : decode cX5_init 9 = .ok (.invokespecial 9, 3) := dk_u2 (y := 0) (z := 9) dk_g183 (by decide +kernel) rfl
theorem dX5_init_12 : decode cX5_init 12 = .ok (.putfield 10, 3) := dk_u2 (y := 0) (z := 10) dk_g181 (by decide +kernel) rfl
theorem dX5_init_15 : decode cX5_init 15 = .ok (.aload_n 0, 1) := dk_n (t := []) dk_g42 (by decide +kernel)
theorem dX5_init_16 : decode cX5_init 16 = .ok (.new 16, 3) := dk_u2 (y := 0) (z := 16) dk_g187 (by decide +kernel) rfl
theorem dX5_init_19 : decode cX5_init 19 = .ok (.dup, 1) := dk_n (t := []) dk_g89 (by decide +kernel)
theorem dX5_init_20 : decode cX5_init 20 = .ok (.aload_n 0, 1) := dk_n (t := []) dk_g42 (by decide +kernel)
theorem dX5_init_21 : decode cX5_init 21 = .ok (.getfield 10, 3) := dk_u2 (y := 0) (z := 10) dk_g180 (by decide +kernel) rfl
theorem dX5_init_24 : decode cX5_init 24 = .ok (.invokespecial 18, 3) := dk_u2 (y := 0) (z := 18) dk_g183 (by decide +kernel) rfl
theorem dX5_init_27 : decode cX5_init 27 = .ok (.putfield 21, 3) := dk_u2 (y := 0) (z := 21) dk_g181 (by decide +kernel) rfl
theorem dX5_init_30 : decode cX5_init 30 = .ok (.aload_n 0, 1) := dk_n (t := []) dk_g42 (by decide +kernel)
theorem dX5_init_31 : decode cX5_init 31 = .ok (.new 25, 3) := dk_u2 (y := 0) (z := 25) dk_g187 (by decide +kernel) rfl
theorem dX5_init_34 : decode cX5_init 34 = .ok (.dup, 1) := dk_n (t := []) dk_g89 (by decide +kernel)
theorem dX5_init_35 : decode cX5_init 35 = .ok (.invokespecial 27, 3) := dk_u2 (y := 0) (z := 27) dk_g183 (by decide +kernel) rfl
theorem dX5_init_38 : decode cX5_init 38 = .ok (.putfield 28, 3) := dk_u2 (y := 0) (z := 28) dk_g181 (by decide +kernel) rfl
theorem dX5_init_41 : decode cX5_init 41 = .ok (.aload_n 0, 1) := dk_n (t := []) dk_g42 (by decide +kernel)
theorem dX5_init_42 : decode cX5_init 42 = .ok (.iconst 0, 1) := dk_n (t := []) dk_g3 (by decide +kernel)
theorem dX5_init_43 : decode cX5_init 43 = .ok (.putfield 32, 3) := dk_u2 (y := 0) (z := 32) dk_g181 (by decide +kernel) rfl
theorem dX5_init_46 : decode cX5_init 46 = .ok (.return_, 1) := dk_n (t := []) dk_g177 (by decide +kernel)
theorem dX5_field_0 : decode cX5_field 0 = .ok (.iload_n 1, 1) := dk_n (t := []) dk_g27 (by decide +kernel)
theorem dX5_field_1 : decode cX5_field 1 = .ok (.invokestatic 36, 3) := dk_u2 (y := 0) (z := 36) dk_g184 (by decide +kernel) rfl
theorem dX5_field_4 : decode cX5_field 4 = .ok (.ifCond .ne 13, 3) := dk_s2 (y := 0) (z := 13) dk_g154 (by decide +kernel) rfl
theorem dX5_field_7 : decode cX5_field 7 = .ok (.new 40, 3) := dk_u2 (y := 0) (z := 40) dk_g187 (by decide +kernel) rfl
theorem dX5_field_10 : decode cX5_field 10 = .ok (.dup, 1) := dk_n (t := []) dk_g89 (by decide +kernel)
theorem dX5_field_11 : decode cX5_field 11 = .ok (.ldc 42, 2) := dk_u1 (y := 42) dk_g18 (by decide +kernel)
theorem dX5_field_13 : decode cX5_field 13 = .ok (.invokespecial 44, 3) := dk_u2 (y := 0) (z := 44) dk_g183 (by decide +kernel) rfl
theorem dX5_field_16 : decode cX5_field 16 = .ok (.athrow, 1) := dk_n (t := []) dk_g191 (by decide +kernel)
theorem dX5_field_17 : decode cX5_field 17 = .ok (.aload_n 0, 1) := dk_n (t := []) dk_g42 (by decide +kernel)
theorem dX5_field_18 : decode cX5_field 18 = .ok (.getfield 10, 3) := dk_u2 (y := 0) (z := 10) dk_g180 (by decide +kernel) rfl
theorem dX5_field_21 : decode cX5_field 21 = .ok (.getfield 47, 3) := dk_u2 (y := 0) (z := 47) dk_g180 (by decide +kernel) rfl
theorem dX5_field_24 : decode cX5_field 24 = .ok (.iconst 5, 1) := dk_n (t := []) dk_g8 (by decide +kernel)
theorem dX5_field_25 : decode cX5_field 25 = .ok (.if_icmp .lt 13, 3) := dk_s2 (y := 0) (z := 13) dk_g161 (by decide +kernel) rfl
theorem dX5_field_28 : decode cX5_field 28 = .ok (.new 50, 3) := dk_u2 (y := 0) (z := 50) dk_g187 (by decide +kernel) rfl
theorem dX5_field_31 : decode cX5_field 31 = .ok (.dup, 1) := dk_n (t := []) dk_g89 (by decide +kernel)
theorem dX5_field_32 : decode cX5_field 32 = .ok (.ldc 52, 2) := dk_u1 (y := 52) dk_g18 (by decide +kernel)
theorem dX5_field_34 : decode cX5_field 34 = .ok (.invokespecial 54, 3) := dk_u2 (y := 0) (z := 54) dk_g183 (by decide +kernel) rfl
theorem dX5_field_37 : decode cX5_field 37 = .ok (.athrow, 1) := dk_n (t := []) dk_g191 (by decide +kernel)
theorem dX5_field_38 : decode cX5_field 38 = .ok (.aload_n 0, 1) := dk_n (t := []) dk_g42 (by decide +kernel)
theorem dX5_field_39 : decode cX5_field 39 = .ok (.getfield 10, 3) := dk_u2 (y := 0) (z := 10) dk_g180 (by decide +kernel) rfl
theorem dX5_field_42 : decode cX5_field 42 = .ok (.iload_n 1, 1) := dk_n (t := []) dk_g27 (by decide +kernel)
theorem dX5_field_43 : decode cX5_field 43 = .ok (.invokevirtual 55, 3) := dk_u2 (y := 0) (z := 55) dk_g182 (by decide +kernel) rfl
theorem dX5_field_46 : decode cX5_field 46 = .ok (.istore_n 2, 1) := dk_n (t := []) dk_g61 (by decide +kernel)
theorem dX5_field_47 : decode cX5_field 47 = .ok (.aload_n 0, 1) := dk_n (t := []) dk_g42 (by decide +kernel)
theorem dX5_field_48 : decode cX5_field 48 = .ok (.getfield 21, 3) := dk_u2 (y := 0) (z := 21) dk_g180 (by decide +kernel) rfl
theorem dX5_field_51 : decode cX5_field 51 = .ok (.invokevirtual 59, 3) := dk_u2 (y := 0) (z := 59) dk_g182 (by decide +kernel) rfl
theorem dX5_field_54 : decode cX5_field 54 = .ok (.iload_n 2, 1) := dk_n (t := []) dk_g28 (by decide +kernel)
theorem dX5_field_55 : decode cX5_field 55 = .ok (.ireturn, 1) := dk_n (t := []) dk_g172 (by decide +kernel)
theorem dX5_oneOf_0 : decode cX5_oneOf 0 = .ok (.aload_n 0, 1) := dk_n (t := []) dk_g42 (by decide +kernel)
theorem dX5_oneOf_1 : decode cX5_oneOf 1 = .ok (.iload_n 2, 1) := dk_n (t := []) dk_g28 (by decide +kernel)
theorem dX5_oneOf_2 : decode cX5_oneOf 2 = .ok (.invokevirtual 62, 3) := dk_u2 (y := 0) (z := 62) dk_g182 (by decide +kernel) rfl
theorem dX5_oneOf_5 : decode cX5_oneOf 5 = .ok (.ifCond .ne 13, 3) := dk_s2 (y := 0) (z := 13) dk_g154 (by decide +kernel) rfl
theorem dX5_oneOf_8 : decode cX5_oneOf 8 = .ok (.new 65, 3) := dk_u2 (y := 0) (z := 65) dk_g187 (by decide +kernel) rfl
theorem dX5_oneOf_11 : decode cX5_oneOf 11 = .ok (.dup, 1) := dk_n (t := []) dk_g89 (by decide +kernel)
theorem dX5_oneOf_12 : decode cX5_oneOf 12 = .ok (.ldc 67, 2) := dk_u1 (y := 67) dk_g18 (by decide +kernel)
theorem dX5_oneOf_14 : decode cX5_oneOf 14 = .ok (.invokespecial 69, 3) := dk_u2 (y := 0) (z := 69) dk_g183 (by decide +kernel) rfl
theorem dX5_oneOf_17 : decode cX5_oneOf 17 = .ok (.athrow, 1) := dk_n (t := []) dk_g191 (by decide +kernel)
theorem dX5_oneOf_18 : decode cX5_oneOf 18 = .ok (.iload_n 1, 1) := dk_n (t := []) dk_g27 (by decide +kernel)
theorem dX5_oneOf_19 : decode cX5_oneOf 19 = .ok (.invokestatic 36, 3) := dk_u2 (y := 0) (z := 36) dk_g184 (by decide +kernel) rfl
theorem dX5_oneOf_22 : decode cX5_oneOf 22 = .ok (.ifCond .eq 15, 3) := dk_s2 (y := 0) (z := 15) dk_g153 (by decide +kernel) rfl
theorem dX5_oneOf_25 : decode cX5_oneOf 25 = .ok (.iload_n 3, 1) := dk_n (t := []) dk_g29 (by decide +kernel)
theorem dX5_oneOf_26 : decode cX5_oneOf 26 = .ok (.iconst 1, 1) := dk_n (t := []) dk_g4 (by decide +kernel)
theorem dX5_oneOf_27 : decode cX5_oneOf 27 = .ok (.if_icmp .lt 10, 3) := dk_s2 (y := 0) (z := 10) dk_g161 (by decide +kernel) rfl
theorem dX5_oneOf_30 : decode cX5_oneOf 30 = .ok (.iload_n 3, 1) := dk_n (t := []) dk_g29 (by decide +kernel)
theorem dX5_oneOf_31 : decode cX5_oneOf 31 = .ok (.sipush 255, 3) := dk_s2 (y := 0) (z := 255) dk_g17 (by decide +kernel) rfl
theorem dX5_oneOf_34 : decode cX5_oneOf 34 = .ok (.if_icmp .le 13, 3) := dk_s2 (y := 0) (z := 13) dk_g164 (by decide +kernel) rfl
theorem dX5_oneOf_37 : decode cX5_oneOf 37 = .ok (.new 40, 3) := dk_u2 (y := 0) (z := 40) dk_g187 (by decide +kernel) rfl
theorem dX5_oneOf_40 : decode cX5_oneOf 40 = .ok (.dup, 1) := dk_n (t := []) dk_g89 (by decide +kernel)
theorem dX5_oneOf_41 : decode cX5_oneOf 41 = .ok (.ldc 70, 2) := dk_u1 (y := 70) dk_g18 (by decide +kernel)
theorem dX5_oneOf_43 : decode cX5_oneOf 43 = .ok (.invokespecial 44, 3) := dk_u2 (y := 0) (z := 44) dk_g183 (by decide +kernel) rfl
theorem dX5_oneOf_46 : decode cX5_oneOf 46 = .ok (.athrow, 1) := dk_n (t := []) dk_g191 (by decide +kernel)
theorem dX5_oneOf_47 : decode cX5_oneOf 47 = .ok (.aload_n 0, 1) := dk_n (t := []) dk_g42 (by decide +kernel)
theorem dX5_oneOf_48 : decode cX5_oneOf 48 = .ok (.getfield 10, 3) := dk_u2 (y := 0) (z := 10) dk_g180 (by decide +kernel) rfl
theorem dX5_oneOf_51 : decode cX5_oneOf 51 = .ok (.getfield 72, 3) := dk_u2 (y := 0) (z := 72) dk_g180 (by decide +kernel) rfl
theorem dX5_oneOf_54 : decode cX5_oneOf 54 = .ok (.bipush 30, 2) := dk_s1 (y := 30) dk_g16 (by decide +kernel) rfl
theorem dX5_oneOf_56 : decode cX5_oneOf 56 = .ok (.if_icmp .lt 13, 3) := dk_s2 (y := 0) (z := 13) dk_g161 (by decide +kernel) rfl
theorem dX5_oneOf_59 : decode cX5_oneOf 59 = .ok (.new 50, 3) := dk_u2 (y := 0) (z := 50) dk_g187 (by decide +kernel) rfl
theorem dX5_oneOf_62 : decode cX5_oneOf 62 = .ok (.dup, 1) := dk_n (t := []) dk_g89 (by decide +kernel)
theorem dX5_oneOf_63 : decode cX5_oneOf 63 = .ok (.ldc 75, 2) := dk_u1 (y := 75) dk_g18 (by decide +kernel)
theorem dX5_oneOf_65 : decode cX5_oneOf 65 = .ok (.invokespecial 54, 3) := dk_u2 (y := 0) (z := 54) dk_g183 (by decide +kernel) rfl
theorem dX5_oneOf_68 : decode cX5_oneOf 68 = .ok (.athrow, 1) := dk_n (t := []) dk_g191 (by decide +kernel)
theorem dX5_oneOf_69 : decode cX5_oneOf 69 = .ok (.aload_n 0, 1) := dk_n (t := []) dk_g42 (by decide +kernel)
theorem dX5_oneOf_70 : decode cX5_oneOf 70 = .ok (.iconst 0, 1) := dk_n (t := []) dk_g3 (by decide +kernel)
theorem dX5_oneOf_71 : decode cX5_oneOf 71 = .ok (.iload_n 1, 1) := dk_n (t := []) dk_g27 (by decide +kernel)
theorem dX5_oneOf_72 : decode cX5_oneOf 72 = .ok (.iload_n 2, 1) := dk_n (t := []) dk_g28 (by decide +kernel)
theorem dX5_oneOf_73 : decode cX5_oneOf 73 = .ok (.iload_n 3, 1) := dk_n (t := []) dk_g29 (by decide +kernel)
theorem dX5_oneOf_74 : decode cX5_oneOf 74 = .ok (.iconst 0, 1) := dk_n (t := []) dk_g3 (by decide +kernel)
theorem dX5_oneOf_75 : decode cX5_oneOf 75 = .ok (.invokevirtual 77, 3) := dk_u2 (y := 0) (z := 77) dk_g182 (by decide +kernel) rfl
theorem dX5_oneOf_78 : decode cX5_oneOf 78 = .ok (.ireturn, 1) := dk_n (t := []) dk_g172 (by decide +kernel)
theorem dX5_bound_0 : decode cX5_bound 0 = .ok (.aload_n 0, 1) := dk_n (t := []) dk_g42 (by decide +kernel)
theorem dX5_bound_1 : decode cX5_bound 1 = .ok (.iload_n 2, 1) := dk_n (t := []) dk_g28 (by decide +kernel)
theorem dX5_bound_2 : decode cX5_bound 2 = .ok (.invokevirtual 62, 3) := dk_u2 (y := 0) (z := 62) dk_g182 (by decide +kernel) rfl
theorem dX5_bound_5 : decode cX5_bound 5 = .ok (.ifCond .ne 13, 3) := dk_s2 (y := 0) (z := 13) dk_g154 (by decide +kernel) rfl
theorem dX5_bound_8 : decode cX5_bound 8 = .ok (.new 65, 3) := dk_u2 (y := 0) (z := 65) dk_g187 (by decide +kernel) rfl
theorem dX5_bound_11 : decode cX5_bound 11 = .ok (.dup, 1) := dk_n (t := []) dk_g89 (by decide +kernel)
theorem dX5_bound_12 : decode cX5_bound 12 = .ok (.ldc 67, 2) := dk_u1 (y := 67) dk_g18 (by decide +kernel)
theorem dX5_bound_14 : decode cX5_bound 14 = .ok (.invokespecial 69, 3) := dk_u2 (y := 0) (z := 69) dk_g183 (by decide +kernel) rfl
theorem dX5_bound_17 : decode cX5_bound 17 = .ok (.athrow, 1) := dk_n (t := []) dk_g191 (by decide +kernel)
theorem dX5_bound_18 : decode cX5_bound 18 = .ok (.iload_n 1, 1) := dk_n (t := []) dk_g27 (by decide +kernel)
theorem dX5_bound_19 : decode cX5_bound 19 = .ok (.invokestatic 36, 3) := dk_u2 (y := 0) (z := 36) dk_g184 (by decide +kernel) rfl
theorem dX5_bound_22 : decode cX5_bound 22 = .ok (.ifCond .eq 10, 3) := dk_s2 (y := 0) (z := 10) dk_g153 (by decide +kernel) rfl
theorem dX5_bound_25 : decode cX5_bound 25 = .ok (.iload_n 3, 1) := dk_n (t := []) dk_g29 (by decide +kernel)
theorem dX5_bound_26 : decode cX5_bound 26 = .ok (.invokestatic 81, 3) := dk_u2 (y := 0) (z := 81) dk_g184 (by decide +kernel) rfl
theorem dX5_bound_29 : decode cX5_bound 29 = .ok (.ifCond .ne 13, 3) := dk_s2 (y := 0) (z := 13) dk_g154 (by decide +kernel) rfl
theorem dX5_bound_32 : decode cX5_bound 32 = .ok (.new 40, 3) := dk_u2 (y := 0) (z := 40) dk_g187 (by decide +kernel) rfl
theorem dX5_bound_35 : decode cX5_bound 35 = .ok (.dup, 1) := dk_n (t := []) dk_g89 (by decide +kernel)
theorem dX5_bound_36 : decode cX5_bound 36 = .ok (.ldc 84, 2) := dk_u1 (y := 84) dk_g18 (by decide +kernel)
theorem dX5_bound_38 : decode cX5_bound 38 = .ok (.invokespecial 44, 3) := dk_u2 (y := 0) (z := 44) dk_g183 (by decide +kernel) rfl
theorem dX5_bound_41 : decode cX5_bound 41 = .ok (.athrow, 1) := dk_n (t := []) dk_g191 (by decide +kernel)
theorem dX5_bound_42 : decode cX5_bound 42 = .ok (.aload_n 0, 1) := dk_n (t := []) dk_g42 (by decide +kernel)
theorem dX5_bound_43 : decode cX5_bound 43 = .ok (.getfield 10, 3) := dk_u2 (y := 0) (z := 10) dk_g180 (by decide +kernel) rfl
theorem dX5_bound_46 : decode cX5_bound 46 = .ok (.getfield 72, 3) := dk_u2 (y := 0) (z := 72) dk_g180 (by decide +kernel) rfl
theorem dX5_bound_49 : decode cX5_bound 49 = .ok (.bipush 30, 2) := dk_s1 (y := 30) dk_g16 (by decide +kernel) rfl
theorem dX5_bound_51 : decode cX5_bound 51 = .ok (.if_icmp .lt 13, 3) := dk_s2 (y := 0) (z := 13) dk_g161 (by decide +kernel) rfl
theorem dX5_bound_54 : decode cX5_bound 54 = .ok (.new 50, 3) := dk_u2 (y := 0) (z := 50) dk_g187 (by decide +kernel) rfl
theorem dX5_bound_57 : decode cX5_bound 57 = .ok (.dup, 1) := dk_n (t := []) dk_g89 (by decide +kernel)
theorem dX5_bound_58 : decode cX5_bound 58 = .ok (.ldc 75, 2) := dk_u1 (y := 75) dk_g18 (by decide +kernel)
theorem dX5_bound_60 : decode cX5_bound 60 = .ok (.invokespecial 54, 3) := dk_u2 (y := 0) (z := 54) dk_g183 (by decide +kernel) rfl
theorem dX5_bound_63 : decode cX5_bound 63 = .ok (.athrow, 1) := dk_n (t := []) dk_g191 (by decide +kernel)
theorem dX5_bound_64 : decode cX5_bound 64 = .ok (.aload_n 0, 1) := dk_n (t := []) dk_g42 (by decide +kernel)
theorem dX5_bound_65 : decode cX5_bound 65 = .ok (.iload 4, 2) := dk_u1 (y := 4) dk_g21 (by decide +kernel)
theorem dX5_bound_67 : decode cX5_bound 67 = .ok (.ifCond .eq 7, 3) := dk_s2 (y := 0) (z := 7) dk_g153 (by decide +kernel) rfl
theorem dX5_bound_70 : decode cX5_bound 70 = .ok (.iconst 2, 1) := dk_n (t := []) dk_g5 (by decide +kernel)
theorem dX5_bound_71 : decode cX5_bound 71 = .ok (.goto 4, 3) := dk_s2 (y := 0) (z := 4) dk_g167 (by decide +kernel) rfl
theorem dX5_bound_74 : decode cX5_bound 74 = .ok (.iconst 1, 1) := dk_n (t := []) dk_g4 (by decide +kernel)
theorem dX5_bound_75 : decode cX5_bound 75 = .ok (.iload_n 1, 1) := dk_n (t := []) dk_g27 (by decide +kernel)
theorem dX5_bound_76 : decode cX5_bound 76 = .ok (.iload_n 2, 1) := dk_n (t := []) dk_g28 (by decide +kernel)
theorem dX5_bound_77 : decode cX5_bound 77 = .ok (.iload_n 3, 1) := dk_n (t := []) dk_g29 (by decide +kernel)
theorem dX5_bound_78 : decode cX5_bound 78 = .ok (.iconst 0, 1) := dk_n (t := []) dk_g3 (by decide +kernel)
theorem dX5_bound_79 : decode cX5_bound 79 = .ok (.invokevirtual 77, 3) := dk_u2 (y := 0) (z := 77) dk_g182 (by decide +kernel) rfl
theorem dX5_bound_82 : decode cX5_bound 82 = .ok (.ireturn, 1) := dk_n (t := []) dk_g172 (by decide +kernel)
theorem dX5_more_0 : decode cX5_more 0 = .ok (.aload_n 0, 1) := dk_n (t := []) dk_g42 (by decide +kernel)
theorem dX5_more_1 : decode cX5_more 1 = .ok (.iload_n 2, 1) := dk_n (t := []) dk_g28 (by decide +kernel)
theorem dX5_more_2 : decode cX5_more 2 = .ok (.invokevirtual 62, 3) := dk_u2 (y := 0) (z := 62) dk_g182 (by decide +kernel) rfl
theorem dX5_more_5 : decode cX5_more 5 = .ok (.ifCond .eq 11, 3) := dk_s2 (y := 0) (z := 11) dk_g153 (by decide +kernel) rfl
theorem dX5_more_8 : decode cX5_more 8 = .ok (.aload_n 0, 1) := dk_n (t := []) dk_g42 (by decide +kernel)
theorem dX5_more_9 : decode cX5_more 9 = .ok (.iload_n 3, 1) := dk_n (t := []) dk_g29 (by decide +kernel)
theorem dX5_more_10 : decode cX5_more 10 = .ok (.invokevirtual 62, 3) := dk_u2 (y := 0) (z := 62) dk_g182 (by decide +kernel) rfl
theorem dX5_more_13 : decode cX5_more 13 = .ok (.ifCond .ne 13, 3) := dk_s2 (y := 0) (z := 13) dk_g154 (by decide +kernel) rfl
theorem dX5_more_16 : decode cX5_more 16 = .ok (.new 65, 3) := dk_u2 (y := 0) (z := 65) dk_g187 (by decide +kernel) rfl
theorem dX5_more_19 : decode cX5_more 19 = .ok (.dup, 1) := dk_n (t := []) dk_g89 (by decide +kernel)
theorem dX5_more_20 : decode cX5_more 20 = .ok (.ldc 67, 2) := dk_u1 (y := 67) dk_g18 (by decide +kernel)
theorem dX5_more_22 : decode cX5_more 22 = .ok (.invokespecial 69, 3) := dk_u2 (y := 0) (z := 69) dk_g183 (by decide +kernel) rfl
theorem dX5_more_25 : decode cX5_more 25 = .ok (.athrow, 1) := dk_n (t := []) dk_g191 (by decide +kernel)
theorem dX5_more_26 : decode cX5_more 26 = .ok (.iload_n 1, 1) := dk_n (t := []) dk_g27 (by decide +kernel)
theorem dX5_more_27 : decode cX5_more 27 = .ok (.invokestatic 36, 3) := dk_u2 (y := 0) (z := 36) dk_g184 (by decide +kernel) rfl
theorem dX5_more_30 : decode cX5_more 30 = .ok (.ifCond .eq 22, 3) := dk_s2 (y := 0) (z := 22) dk_g153 (by decide +kernel) rfl
theorem dX5_more_33 : decode cX5_more 33 = .ok (.iload_n 2, 1) := dk_n (t := []) dk_g28 (by decide +kernel)
theorem dX5_more_34 : decode cX5_more 34 = .ok (.iload_n 3, 1) := dk_n (t := []) dk_g29 (by decide +kernel)
theorem dX5_more_35 : decode cX5_more 35 = .ok (.if_icmp .eq 17, 3) := dk_s2 (y := 0) (z := 17) dk_g159 (by decide +kernel) rfl
theorem dX5_more_38 : decode cX5_more 38 = .ok (.iload 4, 2) := dk_u1 (y := 4) dk_g21 (by decide +kernel)
theorem dX5_more_40 : decode cX5_more 40 = .ok (.bipush (-7), 2) := dk_s1 (y := 249) dk_g16 (by decide +kernel) rfl
theorem dX5_more_42 : decode cX5_more 42 = .ok (.if_icmp .lt 10, 3) := dk_s2 (y := 0) (z := 10) dk_g161 (by decide +kernel) rfl
theorem dX5_more_45 : decode cX5_more 45 = .ok (.iload 4, 2) := dk_u1 (y := 4) dk_g21 (by decide +kernel)
theorem dX5_more_47 : decode cX5_more 47 = .ok (.bipush 7, 2) := dk_s1 (y := 7) dk_g16 (by decide +kernel) rfl
theorem dX5_more_49 : decode cX5_more 49 = .ok (.if_icmp .le 13, 3) := dk_s2 (y := 0) (z := 13) dk_g164 (by decide +kernel) rfl
theorem dX5_more_52 : decode cX5_more 52 = .ok (.new 40, 3) := dk_u2 (y := 0) (z := 40) dk_g187 (by decide +kernel) rfl
theorem dX5_more_55 : decode cX5_more 55 = .ok (.dup, 1) := dk_n (t := []) dk_g89 (by decide +kernel)
theorem dX5_more_56 : decode cX5_more 56 = .ok (.ldc 86, 2) := dk_u1 (y := 86) dk_g18 (by decide +kernel)
theorem dX5_more_58 : decode cX5_more 58 = .ok (.invokespecial 44, 3) := dk_u2 (y := 0) (z := 44) dk_g183 (by decide +kernel) rfl
theorem dX5_more_61 : decode cX5_more 61 = .ok (.athrow, 1) := dk_n (t := []) dk_g191 (by decide +kernel)
theorem dX5_more_62 : decode cX5_more 62 = .ok (.aload_n 0, 1) := dk_n (t := []) dk_g42 (by decide +kernel)
theorem dX5_more_63 : decode cX5_more 63 = .ok (.getfield 10, 3) := dk_u2 (y := 0) (z := 10) dk_g180 (by decide +kernel) rfl
theorem dX5_more_66 : decode cX5_more 66 = .ok (.getfield 72, 3) := dk_u2 (y := 0) (z := 72) dk_g180 (by decide +kernel) rfl
theorem dX5_more_69 : decode cX5_more 69 = .ok (.bipush 30, 2) := dk_s1 (y := 30) dk_g16 (by decide +kernel) rfl
theorem dX5_more_71 : decode cX5_more 71 = .ok (.if_icmp .lt 13, 3) := dk_s2 (y := 0) (z := 13) dk_g161 (by decide +kernel) rfl
theorem dX5_more_74 : decode cX5_more 74 = .ok (.new 50, 3) := dk_u2 (y := 0) (z := 50) dk_g187 (by decide +kernel) rfl
theorem dX5_more_77 : decode cX5_more 77 = .ok (.dup, 1) := dk_n (t := []) dk_g89 (by decide +kernel)
theorem dX5_more_78 : decode cX5_more 78 = .ok (.ldc 75, 2) := dk_u1 (y := 75) dk_g18 (by decide +kernel)
theorem dX5_more_80 : decode cX5_more 80 = .ok (.invokespecial 54, 3) := dk_u2 (y := 0) (z := 54) dk_g183 (by decide +kernel) rfl
theorem dX5_more_83 : decode cX5_more 83 = .ok (.athrow, 1) := dk_n (t := []) dk_g191 (by decide +kernel)
theorem dX5_more_84 : decode cX5_more 84 = .ok (.aload_n 0, 1) := dk_n (t := []) dk_g42 (by decide +kernel)
theorem dX5_more_85 : decode cX5_more 85 = .ok (.iconst 3, 1) := dk_n (t := []) dk_g6 (by decide +kernel)
theorem dX5_more_86 : decode cX5_more 86 = .ok (.iload_n 1, 1) := dk_n (t := []) dk_g27 (by decide +kernel)
theorem dX5_more_87 : decode cX5_more 87 = .ok (.iload_n 2, 1) := dk_n (t := []) dk_g28 (by decide +kernel)
theorem dX5_more_88 : decode cX5_more 88 = .ok (.iload_n 3, 1) := dk_n (t := []) dk_g29 (by decide +kernel)
theorem dX5_more_89 : decode cX5_more 89 = .ok (.iload 4, 2) := dk_u1 (y := 4) dk_g21 (by decide +kernel)
theorem dX5_more_91 : decode cX5_more 91 = .ok (.invokevirtual 77, 3) := dk_u2 (y := 0) (z := 77) dk_g182 (by decide +kernel) rfl
theorem dX5_more_94 : decode cX5_more 94 = .ok (.ireturn, 1) := dk_n (t := []) dk_g172 (by decide +kernel)
theorem dX5_unlike_0 : decode cX5_unlike 0 = .ok (.aload_n 0, 1) := dk_n (t := []) dk_g42 (by decide +kernel)
theorem dX5_unlike_1 : decode cX5_unlike 1 = .ok (.iload_n 2, 1) := dk_n (t := []) dk_g28 (by decide +kernel)
theorem dX5_unlike_2 : decode cX5_unlike 2 = .ok (.invokevirtual 62, 3) := dk_u2 (y := 0) (z := 62) dk_g182 (by decide +kernel) rfl
theorem dX5_unlike_5 : decode cX5_unlike 5 = .ok (.ifCond .eq 11, 3) := dk_s2 (y := 0) (z := 11) dk_g153 (by decide +kernel) rfl
theorem dX5_unlike_8 : decode cX5_unlike 8 = .ok (.aload_n 0, 1) := dk_n (t := []) dk_g42 (by decide +kernel)
theorem dX5_unlike_9 : decode cX5_unlike 9 = .ok (.iload_n 3, 1) := dk_n (t := []) dk_g29 (by decide +kernel)
theorem dX5_unlike_10 : decode cX5_unlike 10 = .ok (.invokevirtual 62, 3) := dk_u2 (y := 0) (z := 62) dk_g182 (by decide +kernel) rfl
theorem dX5_unlike_13 : decode cX5_unlike 13 = .ok (.ifCond .ne 13, 3) := dk_s2 (y := 0) (z := 13) dk_g154 (by decide +kernel) rfl
theorem dX5_unlike_16 : decode cX5_unlike 16 = .ok (.new 65, 3) := dk_u2 (y := 0) (z := 65) dk_g187 (by decide +kernel) rfl
theorem dX5_unlike_19 : decode cX5_unlike 19 = .ok (.dup, 1) := dk_n (t := []) dk_g89 (by decide +kernel)
theorem dX5_unlike_20 : decode cX5_unlike 20 = .ok (.ldc 67, 2) := dk_u1 (y := 67) dk_g18 (by decide +kernel)
theorem dX5_unlike_22 : decode cX5_unlike 22 = .ok (.invokespecial 69, 3) := dk_u2 (y := 0) (z := 69) dk_g183 (by decide +kernel) rfl
theorem dX5_unlike_25 : decode cX5_unlike 25 = .ok (.athrow, 1) := dk_n (t := []) dk_g191 (by decide +kernel)
theorem dX5_unlike_26 : decode cX5_unlike 26 = .ok (.iload_n 1, 1) := dk_n (t := []) dk_g27 (by decide +kernel)
theorem dX5_unlike_27 : decode cX5_unlike 27 = .ok (.invokestatic 36, 3) := dk_u2 (y := 0) (z := 36) dk_g184 (by decide +kernel) rfl
theorem dX5_unlike_30 : decode cX5_unlike 30 = .ok (.ifCond .eq 8, 3) := dk_s2 (y := 0) (z := 8) dk_g153 (by decide +kernel) rfl
theorem dX5_unlike_33 : decode cX5_unlike 33 = .ok (.iload_n 2, 1) := dk_n (t := []) dk_g28 (by decide +kernel)
theorem dX5_unlike_34 : decode cX5_unlike 34 = .ok (.iload_n 3, 1) := dk_n (t := []) dk_g29 (by decide +kernel)
theorem dX5_unlike_35 : decode cX5_unlike 35 = .ok (.if_icmp .ne 13, 3) := dk_s2 (y := 0) (z := 13) dk_g160 (by decide +kernel) rfl
theorem dX5_unlike_38 : decode cX5_unlike 38 = .ok (.new 40, 3) := dk_u2 (y := 0) (z := 40) dk_g187 (by decide +kernel) rfl
theorem dX5_unlike_41 : decode cX5_unlike 41 = .ok (.dup, 1) := dk_n (t := []) dk_g89 (by decide +kernel)
theorem dX5_unlike_42 : decode cX5_unlike 42 = .ok (.ldc 88, 2) := dk_u1 (y := 88) dk_g18 (by decide +kernel)
theorem dX5_unlike_44 : decode cX5_unlike 44 = .ok (.invokespecial 44, 3) := dk_u2 (y := 0) (z := 44) dk_g183 (by decide +kernel) rfl
theorem dX5_unlike_47 : decode cX5_unlike 47 = .ok (.athrow, 1) := dk_n (t := []) dk_g191 (by decide +kernel)
theorem dX5_unlike_48 : decode cX5_unlike 48 = .ok (.aload_n 0, 1) := dk_n (t := []) dk_g42 (by decide +kernel)
theorem dX5_unlike_49 : decode cX5_unlike 49 = .ok (.getfield 10, 3) := dk_u2 (y := 0) (z := 10) dk_g180 (by decide +kernel) rfl
theorem dX5_unlike_52 : decode cX5_unlike 52 = .ok (.getfield 72, 3) := dk_u2 (y := 0) (z := 72) dk_g180 (by decide +kernel) rfl
theorem dX5_unlike_55 : decode cX5_unlike 55 = .ok (.bipush 30, 2) := dk_s1 (y := 30) dk_g16 (by decide +kernel) rfl
theorem dX5_unlike_57 : decode cX5_unlike 57 = .ok (.if_icmp .lt 13, 3) := dk_s2 (y := 0) (z := 13) dk_g161 (by decide +kernel) rfl
theorem dX5_unlike_60 : decode cX5_unlike 60 = .ok (.new 50, 3) := dk_u2 (y := 0) (z := 50) dk_g187 (by decide +kernel) rfl
theorem dX5_unlike_63 : decode cX5_unlike 63 = .ok (.dup, 1) := dk_n (t := []) dk_g89 (by decide +kernel)
theorem dX5_unlike_64 : decode cX5_unlike 64 = .ok (.ldc 75, 2) := dk_u1 (y := 75) dk_g18 (by decide +kernel)
theorem dX5_unlike_66 : decode cX5_unlike 66 = .ok (.invokespecial 54, 3) := dk_u2 (y := 0) (z := 54) dk_g183 (by decide +kernel) rfl
theorem dX5_unlike_69 : decode cX5_unlike 69 = .ok (.athrow, 1) := dk_n (t := []) dk_g191 (by decide +kernel)
theorem dX5_unlike_70 : decode cX5_unlike 70 = .ok (.aload_n 0, 1) := dk_n (t := []) dk_g42 (by decide +kernel)
theorem dX5_unlike_71 : decode cX5_unlike 71 = .ok (.iconst 4, 1) := dk_n (t := []) dk_g7 (by decide +kernel)
theorem dX5_unlike_72 : decode cX5_unlike 72 = .ok (.iload_n 1, 1) := dk_n (t := []) dk_g27 (by decide +kernel)
theorem dX5_unlike_73 : decode cX5_unlike 73 = .ok (.iload_n 2, 1) := dk_n (t := []) dk_g28 (by decide +kernel)
theorem dX5_unlike_74 : decode cX5_unlike 74 = .ok (.iload_n 3, 1) := dk_n (t := []) dk_g29 (by decide +kernel)
theorem dX5_unlike_75 : decode cX5_unlike 75 = .ok (.iconst 0, 1) := dk_n (t := []) dk_g3 (by decide +kernel)
theorem dX5_unlike_76 : decode cX5_unlike 76 = .ok (.invokevirtual 77, 3) := dk_u2 (y := 0) (z := 77) dk_g182 (by decide +kernel) rfl
theorem dX5_unlike_79 : decode cX5_unlike 79 = .ok (.ireturn, 1) := dk_n (t := []) dk_g172 (by decide +kernel)
theorem dX5_preset_0 : decode cX5_preset 0 = .ok (.aload_n 0, 1) := dk_n (t := []) dk_g42 (by decide +kernel)
theorem dX5_preset_1 : decode cX5_preset 1 = .ok (.iload_n 2, 1) := dk_n (t := []) dk_g28 (by decide +kernel)
theorem dX5_preset_2 : decode cX5_preset 2 = .ok (.invokevirtual 62, 3) := dk_u2 (y := 0) (z := 62) dk_g182 (by decide +kernel) rfl
theorem dX5_preset_5 : decode cX5_preset 5 = .ok (.ifCond .ne 13, 3) := dk_s2 (y := 0) (z := 13) dk_g154 (by decide +kernel) rfl
theorem dX5_preset_8 : decode cX5_preset 8 = .ok (.new 65, 3) := dk_u2 (y := 0) (z := 65) dk_g187 (by decide +kernel) rfl
theorem dX5_preset_11 : decode cX5_preset 11 = .ok (.dup, 1) := dk_n (t := []) dk_g89 (by decide +kernel)
theorem dX5_preset_12 : decode cX5_preset 12 = .ok (.ldc 67, 2) := dk_u1 (y := 67) dk_g18 (by decide +kernel)
theorem dX5_preset_14 : decode cX5_preset 14 = .ok (.invokespecial 69, 3) := dk_u2 (y := 0) (z := 69) dk_g183 (by decide +kernel) rfl
theorem dX5_preset_17 : decode cX5_preset 17 = .ok (.athrow, 1) := dk_n (t := []) dk_g191 (by decide +kernel)
theorem dX5_preset_18 : decode cX5_preset 18 = .ok (.iload_n 1, 1) := dk_n (t := []) dk_g27 (by decide +kernel)
theorem dX5_preset_19 : decode cX5_preset 19 = .ok (.invokestatic 36, 3) := dk_u2 (y := 0) (z := 36) dk_g184 (by decide +kernel) rfl
theorem dX5_preset_22 : decode cX5_preset 22 = .ok (.ifCond .eq 22, 3) := dk_s2 (y := 0) (z := 22) dk_g153 (by decide +kernel) rfl
theorem dX5_preset_25 : decode cX5_preset 25 = .ok (.iload_n 3, 1) := dk_n (t := []) dk_g29 (by decide +kernel)
theorem dX5_preset_26 : decode cX5_preset 26 = .ok (.invokestatic 81, 3) := dk_u2 (y := 0) (z := 81) dk_g184 (by decide +kernel) rfl
theorem dX5_preset_29 : decode cX5_preset 29 = .ok (.ifCond .eq 15, 3) := dk_s2 (y := 0) (z := 15) dk_g153 (by decide +kernel) rfl
theorem dX5_preset_32 : decode cX5_preset 32 = .ok (.iload 4, 2) := dk_u1 (y := 4) dk_g21 (by decide +kernel)
theorem dX5_preset_34 : decode cX5_preset 34 = .ok (.ifCond .lt 10, 3) := dk_s2 (y := 0) (z := 10) dk_g155 (by decide +kernel) rfl
theorem dX5_preset_37 : decode cX5_preset 37 = .ok (.iload 4, 2) := dk_u1 (y := 4) dk_g21 (by decide +kernel)
theorem dX5_preset_39 : decode cX5_preset 39 = .ok (.bipush 9, 2) := dk_s1 (y := 9) dk_g16 (by decide +kernel) rfl
theorem dX5_preset_41 : decode cX5_preset 41 = .ok (.if_icmp .le 13, 3) := dk_s2 (y := 0) (z := 13) dk_g164 (by decide +kernel) rfl
theorem dX5_preset_44 : decode cX5_preset 44 = .ok (.new 40, 3) := dk_u2 (y := 0) (z := 40) dk_g187 (by decide +kernel) rfl
theorem dX5_preset_47 : decode cX5_preset 47 = .ok (.dup, 1) := dk_n (t := []) dk_g89 (by decide +kernel)
theorem dX5_preset_48 : decode cX5_preset 48 = .ok (.ldc 90, 2) := dk_u1 (y := 90) dk_g18 (by decide +kernel)
theorem dX5_preset_50 : decode cX5_preset 50 = .ok (.invokespecial 44, 3) := dk_u2 (y := 0) (z := 44) dk_g183 (by decide +kernel) rfl
theorem dX5_preset_53 : decode cX5_preset 53 = .ok (.athrow, 1) := dk_n (t := []) dk_g191 (by decide +kernel)
theorem dX5_preset_54 : decode cX5_preset 54 = .ok (.aload_n 0, 1) := dk_n (t := []) dk_g42 (by decide +kernel)
theorem dX5_preset_55 : decode cX5_preset 55 = .ok (.getfield 10, 3) := dk_u2 (y := 0) (z := 10) dk_g180 (by decide +kernel) rfl
theorem dX5_preset_58 : decode cX5_preset 58 = .ok (.getfield 72, 3) := dk_u2 (y := 0) (z := 72) dk_g180 (by decide +kernel) rfl
theorem dX5_preset_61 : decode cX5_preset 61 = .ok (.bipush 30, 2) := dk_s1 (y := 30) dk_g16 (by decide +kernel) rfl
theorem dX5_preset_63 : decode cX5_preset 63 = .ok (.if_icmp .lt 13, 3) := dk_s2 (y := 0) (z := 13) dk_g161 (by decide +kernel) rfl
theorem dX5_preset_66 : decode cX5_preset 66 = .ok (.new 50, 3) := dk_u2 (y := 0) (z := 50) dk_g187 (by decide +kernel) rfl
theorem dX5_preset_69 : decode cX5_preset 69 = .ok (.dup, 1) := dk_n (t := []) dk_g89 (by decide +kernel)
theorem dX5_preset_70 : decode cX5_preset 70 = .ok (.ldc 75, 2) := dk_u1 (y := 75) dk_g18 (by decide +kernel)
theorem dX5_preset_72 : decode cX5_preset 72 = .ok (.invokespecial 54, 3) := dk_u2 (y := 0) (z := 54) dk_g183 (by decide +kernel) rfl
theorem dX5_preset_75 : decode cX5_preset 75 = .ok (.athrow, 1) := dk_n (t := []) dk_g191 (by decide +kernel)
theorem dX5_preset_76 : decode cX5_preset 76 = .ok (.aload_n 0, 1) := dk_n (t := []) dk_g42 (by decide +kernel)
theorem dX5_preset_77 : decode cX5_preset 77 = .ok (.iconst 5, 1) := dk_n (t := []) dk_g8 (by decide +kernel)
theorem dX5_preset_78 : decode cX5_preset 78 = .ok (.iload_n 1, 1) := dk_n (t := []) dk_g27 (by decide +kernel)
theorem dX5_preset_79 : decode cX5_preset 79 = .ok (.iload_n 2, 1) := dk_n (t := []) dk_g28 (by decide +kernel)
theorem dX5_preset_80 : decode cX5_preset 80 = .ok (.iload_n 3, 1) := dk_n (t := []) dk_g29 (by decide +kernel)
theorem dX5_preset_81 : decode cX5_preset 81 = .ok (.iload 4, 2) := dk_u1 (y := 4) dk_g21 (by decide +kernel)
theorem dX5_preset_83 : decode cX5_preset 83 = .ok (.invokevirtual 77, 3) := dk_u2 (y := 0) (z := 77) dk_g182 (by decide +kernel) rfl
theorem dX5_preset_86 : decode cX5_preset 86 = .ok (.ireturn, 1) := dk_n (t := []) dk_g172 (by decide +kernel)
theorem dX5_approve_0 : decode cX5_approve 0 = .ok (.aload_n 0, 1) := dk_n (t := []) dk_g42 (by decide +kernel)
theorem dX5_approve_1 : decode cX5_approve 1 = .ok (.iload_n 1, 1) := dk_n (t := []) dk_g27 (by decide +kernel)
theorem dX5_approve_2 : decode cX5_approve 2 = .ok (.invokevirtual 92, 3) := dk_u2 (y := 0) (z := 92) dk_g182 (by decide +kernel) rfl
theorem dX5_approve_5 : decode cX5_approve 5 = .ok (.ifCond .ne 13, 3) := dk_s2 (y := 0) (z := 13) dk_g154 (by decide +kernel) rfl
theorem dX5_approve_8 : decode cX5_approve 8 = .ok (.new 65, 3) := dk_u2 (y := 0) (z := 65) dk_g187 (by decide +kernel) rfl
theorem dX5_approve_11 : decode cX5_approve 11 = .ok (.dup, 1) := dk_n (t := []) dk_g89 (by decide +kernel)
theorem dX5_approve_12 : decode cX5_approve 12 = .ok (.ldc 95, 2) := dk_u1 (y := 95) dk_g18 (by decide +kernel)
theorem dX5_approve_14 : decode cX5_approve 14 = .ok (.invokespecial 69, 3) := dk_u2 (y := 0) (z := 69) dk_g183 (by decide +kernel) rfl
theorem dX5_approve_17 : decode cX5_approve 17 = .ok (.athrow, 1) := dk_n (t := []) dk_g191 (by decide +kernel)
theorem dX5_approve_18 : decode cX5_approve 18 = .ok (.aload_n 0, 1) := dk_n (t := []) dk_g42 (by decide +kernel)
theorem dX5_approve_19 : decode cX5_approve 19 = .ok (.getfield 10, 3) := dk_u2 (y := 0) (z := 10) dk_g180 (by decide +kernel) rfl
theorem dX5_approve_22 : decode cX5_approve 22 = .ok (.getfield 97, 3) := dk_u2 (y := 0) (z := 97) dk_g180 (by decide +kernel) rfl
theorem dX5_approve_25 : decode cX5_approve 25 = .ok (.iload_n 1, 1) := dk_n (t := []) dk_g27 (by decide +kernel)
theorem dX5_approve_26 : decode cX5_approve 26 = .ok (.iload_n 2, 1) := dk_n (t := []) dk_g28 (by decide +kernel)
theorem dX5_approve_27 : decode cX5_approve 27 = .ok (.bastore, 1) := dk_n (t := []) dk_g84 (by decide +kernel)
theorem dX5_approve_28 : decode cX5_approve 28 = .ok (.aload_n 0, 1) := dk_n (t := []) dk_g42 (by decide +kernel)
theorem dX5_approve_29 : decode cX5_approve 29 = .ok (.getfield 21, 3) := dk_u2 (y := 0) (z := 21) dk_g180 (by decide +kernel) rfl
theorem dX5_approve_32 : decode cX5_approve 32 = .ok (.invokevirtual 59, 3) := dk_u2 (y := 0) (z := 59) dk_g182 (by decide +kernel) rfl
theorem dX5_approve_35 : decode cX5_approve 35 = .ok (.aload_n 0, 1) := dk_n (t := []) dk_g42 (by decide +kernel)
theorem dX5_approve_36 : decode cX5_approve 36 = .ok (.getfield 10, 3) := dk_u2 (y := 0) (z := 10) dk_g180 (by decide +kernel) rfl
theorem dX5_approve_39 : decode cX5_approve 39 = .ok (.iload_n 1, 1) := dk_n (t := []) dk_g27 (by decide +kernel)
theorem dX5_approve_40 : decode cX5_approve 40 = .ok (.invokevirtual 101, 3) := dk_u2 (y := 0) (z := 101) dk_g182 (by decide +kernel) rfl
theorem dX5_approve_43 : decode cX5_approve 43 = .ok (.ireturn, 1) := dk_n (t := []) dk_g172 (by decide +kernel)
theorem dX5_withdraw_0 : decode cX5_withdraw 0 = .ok (.aload_n 0, 1) := dk_n (t := []) dk_g42 (by decide +kernel)
theorem dX5_withdraw_1 : decode cX5_withdraw 1 = .ok (.iload_n 1, 1) := dk_n (t := []) dk_g27 (by decide +kernel)
theorem dX5_withdraw_2 : decode cX5_withdraw 2 = .ok (.invokevirtual 92, 3) := dk_u2 (y := 0) (z := 92) dk_g182 (by decide +kernel) rfl
theorem dX5_withdraw_5 : decode cX5_withdraw 5 = .ok (.ifCond .ne 13, 3) := dk_s2 (y := 0) (z := 13) dk_g154 (by decide +kernel) rfl
theorem dX5_withdraw_8 : decode cX5_withdraw 8 = .ok (.new 65, 3) := dk_u2 (y := 0) (z := 65) dk_g187 (by decide +kernel) rfl
theorem dX5_withdraw_11 : decode cX5_withdraw 11 = .ok (.dup, 1) := dk_n (t := []) dk_g89 (by decide +kernel)
theorem dX5_withdraw_12 : decode cX5_withdraw 12 = .ok (.ldc 95, 2) := dk_u1 (y := 95) dk_g18 (by decide +kernel)
theorem dX5_withdraw_14 : decode cX5_withdraw 14 = .ok (.invokespecial 69, 3) := dk_u2 (y := 0) (z := 69) dk_g183 (by decide +kernel) rfl
theorem dX5_withdraw_17 : decode cX5_withdraw 17 = .ok (.athrow, 1) := dk_n (t := []) dk_g191 (by decide +kernel)
theorem dX5_withdraw_18 : decode cX5_withdraw 18 = .ok (.aload_n 0, 1) := dk_n (t := []) dk_g42 (by decide +kernel)
theorem dX5_withdraw_19 : decode cX5_withdraw 19 = .ok (.getfield 10, 3) := dk_u2 (y := 0) (z := 10) dk_g180 (by decide +kernel) rfl
theorem dX5_withdraw_22 : decode cX5_withdraw 22 = .ok (.getfield 104, 3) := dk_u2 (y := 0) (z := 104) dk_g180 (by decide +kernel) rfl
theorem dX5_withdraw_25 : decode cX5_withdraw 25 = .ok (.iload_n 1, 1) := dk_n (t := []) dk_g27 (by decide +kernel)
theorem dX5_withdraw_26 : decode cX5_withdraw 26 = .ok (.iload_n 2, 1) := dk_n (t := []) dk_g28 (by decide +kernel)
theorem dX5_withdraw_27 : decode cX5_withdraw 27 = .ok (.bastore, 1) := dk_n (t := []) dk_g84 (by decide +kernel)
theorem dX5_withdraw_28 : decode cX5_withdraw 28 = .ok (.aload_n 0, 1) := dk_n (t := []) dk_g42 (by decide +kernel)
theorem dX5_withdraw_29 : decode cX5_withdraw 29 = .ok (.getfield 21, 3) := dk_u2 (y := 0) (z := 21) dk_g180 (by decide +kernel) rfl
theorem dX5_withdraw_32 : decode cX5_withdraw 32 = .ok (.invokevirtual 59, 3) := dk_u2 (y := 0) (z := 59) dk_g182 (by decide +kernel) rfl
theorem dX5_withdraw_35 : decode cX5_withdraw 35 = .ok (.aload_n 0, 1) := dk_n (t := []) dk_g42 (by decide +kernel)
theorem dX5_withdraw_36 : decode cX5_withdraw 36 = .ok (.getfield 10, 3) := dk_u2 (y := 0) (z := 10) dk_g180 (by decide +kernel) rfl
theorem dX5_withdraw_39 : decode cX5_withdraw 39 = .ok (.iload_n 1, 1) := dk_n (t := []) dk_g27 (by decide +kernel)
theorem dX5_withdraw_40 : decode cX5_withdraw 40 = .ok (.invokevirtual 101, 3) := dk_u2 (y := 0) (z := 101) dk_g182 (by decide +kernel) rfl
theorem dX5_withdraw_43 : decode cX5_withdraw 43 = .ok (.ireturn, 1) := dk_n (t := []) dk_g172 (by decide +kernel)
theorem dX5_weight_0 : decode cX5_weight 0 = .ok (.aload_n 0, 1) := dk_n (t := []) dk_g42 (by decide +kernel)
theorem dX5_weight_1 : decode cX5_weight 1 = .ok (.iload_n 1, 1) := dk_n (t := []) dk_g27 (by decide +kernel)
theorem dX5_weight_2 : decode cX5_weight 2 = .ok (.invokevirtual 62, 3) := dk_u2 (y := 0) (z := 62) dk_g182 (by decide +kernel) rfl
theorem dX5_weight_5 : decode cX5_weight 5 = .ok (.ifCond .ne 13, 3) := dk_s2 (y := 0) (z := 13) dk_g154 (by decide +kernel) rfl
theorem dX5_weight_8 : decode cX5_weight 8 = .ok (.new 65, 3) := dk_u2 (y := 0) (z := 65) dk_g187 (by decide +kernel) rfl
theorem dX5_weight_11 : decode cX5_weight 11 = .ok (.dup, 1) := dk_n (t := []) dk_g89 (by decide +kernel)
theorem dX5_weight_12 : decode cX5_weight 12 = .ok (.ldc 67, 2) := dk_u1 (y := 67) dk_g18 (by decide +kernel)
theorem dX5_weight_14 : decode cX5_weight 14 = .ok (.invokespecial 69, 3) := dk_u2 (y := 0) (z := 69) dk_g183 (by decide +kernel) rfl
theorem dX5_weight_17 : decode cX5_weight 17 = .ok (.athrow, 1) := dk_n (t := []) dk_g191 (by decide +kernel)
theorem dX5_weight_18 : decode cX5_weight 18 = .ok (.iload_n 2, 1) := dk_n (t := []) dk_g28 (by decide +kernel)
theorem dX5_weight_19 : decode cX5_weight 19 = .ok (.ifCond .lt 9, 3) := dk_s2 (y := 0) (z := 9) dk_g155 (by decide +kernel) rfl
theorem dX5_weight_22 : decode cX5_weight 22 = .ok (.iload_n 2, 1) := dk_n (t := []) dk_g28 (by decide +kernel)
theorem dX5_weight_23 : decode cX5_weight 23 = .ok (.bipush 9, 2) := dk_s1 (y := 9) dk_g16 (by decide +kernel) rfl
theorem dX5_weight_25 : decode cX5_weight 25 = .ok (.if_icmp .le 13, 3) := dk_s2 (y := 0) (z := 13) dk_g164 (by decide +kernel) rfl
theorem dX5_weight_28 : decode cX5_weight 28 = .ok (.new 40, 3) := dk_u2 (y := 0) (z := 40) dk_g187 (by decide +kernel) rfl
theorem dX5_weight_31 : decode cX5_weight 31 = .ok (.dup, 1) := dk_n (t := []) dk_g89 (by decide +kernel)
theorem dX5_weight_32 : decode cX5_weight 32 = .ok (.ldc 107, 2) := dk_u1 (y := 107) dk_g18 (by decide +kernel)
theorem dX5_weight_34 : decode cX5_weight 34 = .ok (.invokespecial 44, 3) := dk_u2 (y := 0) (z := 44) dk_g183 (by decide +kernel) rfl
theorem dX5_weight_37 : decode cX5_weight 37 = .ok (.athrow, 1) := dk_n (t := []) dk_g191 (by decide +kernel)
theorem dX5_weight_38 : decode cX5_weight 38 = .ok (.aload_n 0, 1) := dk_n (t := []) dk_g42 (by decide +kernel)
theorem dX5_weight_39 : decode cX5_weight 39 = .ok (.getfield 10, 3) := dk_u2 (y := 0) (z := 10) dk_g180 (by decide +kernel) rfl
theorem dX5_weight_42 : decode cX5_weight 42 = .ok (.getfield 109, 3) := dk_u2 (y := 0) (z := 109) dk_g180 (by decide +kernel) rfl
theorem dX5_weight_45 : decode cX5_weight 45 = .ok (.iload_n 1, 1) := dk_n (t := []) dk_g27 (by decide +kernel)
theorem dX5_weight_46 : decode cX5_weight 46 = .ok (.iaload, 1) := dk_n (t := []) dk_g46 (by decide +kernel)
theorem dX5_weight_47 : decode cX5_weight 47 = .ok (.istore_n 3, 1) := dk_n (t := []) dk_g62 (by decide +kernel)
theorem dX5_weight_48 : decode cX5_weight 48 = .ok (.aload_n 0, 1) := dk_n (t := []) dk_g42 (by decide +kernel)
theorem dX5_weight_49 : decode cX5_weight 49 = .ok (.getfield 10, 3) := dk_u2 (y := 0) (z := 10) dk_g180 (by decide +kernel) rfl
theorem dX5_weight_52 : decode cX5_weight 52 = .ok (.getfield 109, 3) := dk_u2 (y := 0) (z := 109) dk_g180 (by decide +kernel) rfl
theorem dX5_weight_55 : decode cX5_weight 55 = .ok (.iload_n 1, 1) := dk_n (t := []) dk_g27 (by decide +kernel)
theorem dX5_weight_56 : decode cX5_weight 56 = .ok (.iload_n 2, 1) := dk_n (t := []) dk_g28 (by decide +kernel)
theorem dX5_weight_57 : decode cX5_weight 57 = .ok (.iastore, 1) := dk_n (t := []) dk_g79 (by decide +kernel)
theorem dX5_weight_58 : decode cX5_weight 58 = .ok (.aload_n 0, 1) := dk_n (t := []) dk_g42 (by decide +kernel)
theorem dX5_weight_59 : decode cX5_weight 59 = .ok (.getfield 21, 3) := dk_u2 (y := 0) (z := 21) dk_g180 (by decide +kernel) rfl
theorem dX5_weight_62 : decode cX5_weight 62 = .ok (.invokevirtual 59, 3) := dk_u2 (y := 0) (z := 59) dk_g182 (by decide +kernel) rfl
theorem dX5_weight_65 : decode cX5_weight 65 = .ok (.iload_n 3, 1) := dk_n (t := []) dk_g29 (by decide +kernel)
theorem dX5_weight_66 : decode cX5_weight 66 = .ok (.ireturn, 1) := dk_n (t := []) dk_g172 (by decide +kernel)
theorem dX5_commit_0 : decode cX5_commit 0 = .ok (.aload_n 0, 1) := dk_n (t := []) dk_g42 (by decide +kernel)
theorem dX5_commit_1 : decode cX5_commit 1 = .ok (.getfield 21, 3) := dk_u2 (y := 0) (z := 21) dk_g180 (by decide +kernel) rfl
theorem dX5_commit_4 : decode cX5_commit 4 = .ok (.getfield 113, 3) := dk_u2 (y := 0) (z := 113) dk_g180 (by decide +kernel) rfl
theorem dX5_commit_7 : decode cX5_commit 7 = .ok (.getfield 117, 3) := dk_u2 (y := 0) (z := 117) dk_g180 (by decide +kernel) rfl
theorem dX5_commit_10 : decode cX5_commit 10 = .ok (.ifCond .ne 15, 3) := dk_s2 (y := 0) (z := 15) dk_g154 (by decide +kernel) rfl
theorem dX5_commit_13 : decode cX5_commit 13 = .ok (.aload_n 0, 1) := dk_n (t := []) dk_g42 (by decide +kernel)
theorem dX5_commit_14 : decode cX5_commit 14 = .ok (.getfield 28, 3) := dk_u2 (y := 0) (z := 28) dk_g180 (by decide +kernel) rfl
theorem dX5_commit_17 : decode cX5_commit 17 = .ok (.getfield 123, 3) := dk_u2 (y := 0) (z := 123) dk_g180 (by decide +kernel) rfl
theorem dX5_commit_20 : decode cX5_commit 20 = .ok (.bipush 12, 2) := dk_s1 (y := 12) dk_g16 (by decide +kernel) rfl
theorem dX5_commit_22 : decode cX5_commit 22 = .ok (.if_icmp .lt 13, 3) := dk_s2 (y := 0) (z := 13) dk_g161 (by decide +kernel) rfl
theorem dX5_commit_25 : decode cX5_commit 25 = .ok (.new 50, 3) := dk_u2 (y := 0) (z := 50) dk_g187 (by decide +kernel) rfl
theorem dX5_commit_28 : decode cX5_commit 28 = .ok (.dup, 1) := dk_n (t := []) dk_g89 (by decide +kernel)
theorem dX5_commit_29 : decode cX5_commit 29 = .ok (.ldc 126, 2) := dk_u1 (y := 126) dk_g18 (by decide +kernel)
theorem dX5_commit_31 : decode cX5_commit 31 = .ok (.invokespecial 54, 3) := dk_u2 (y := 0) (z := 54) dk_g183 (by decide +kernel) rfl
theorem dX5_commit_34 : decode cX5_commit 34 = .ok (.athrow, 1) := dk_n (t := []) dk_g191 (by decide +kernel)
theorem dX5_commit_35 : decode cX5_commit 35 = .ok (.aload_n 0, 1) := dk_n (t := []) dk_g42 (by decide +kernel)
theorem dX5_commit_36 : decode cX5_commit 36 = .ok (.getfield 28, 3) := dk_u2 (y := 0) (z := 28) dk_g180 (by decide +kernel) rfl
theorem dX5_commit_39 : decode cX5_commit 39 = .ok (.aload_n 0, 1) := dk_n (t := []) dk_g42 (by decide +kernel)
theorem dX5_commit_40 : decode cX5_commit 40 = .ok (.getfield 21, 3) := dk_u2 (y := 0) (z := 21) dk_g180 (by decide +kernel) rfl
theorem dX5_commit_43 : decode cX5_commit 43 = .ok (.getfield 128, 3) := dk_u2 (y := 0) (z := 128) dk_g180 (by decide +kernel) rfl
theorem dX5_commit_46 : decode cX5_commit 46 = .ok (.invokevirtual 131, 3) := dk_u2 (y := 0) (z := 131) dk_g182 (by decide +kernel) rfl
theorem dX5_commit_49 : decode cX5_commit 49 = .ok (.ireturn, 1) := dk_n (t := []) dk_g172 (by decide +kernel)
theorem dX5_wave_0 : decode cX5_wave 0 = .ok (.aload_n 0, 1) := dk_n (t := []) dk_g42 (by decide +kernel)
theorem dX5_wave_1 : decode cX5_wave 1 = .ok (.iload_n 1, 1) := dk_n (t := []) dk_g27 (by decide +kernel)
theorem dX5_wave_2 : decode cX5_wave 2 = .ok (.invokevirtual 135, 3) := dk_u2 (y := 0) (z := 135) dk_g182 (by decide +kernel) rfl
theorem dX5_wave_5 : decode cX5_wave 5 = .ok (.ifCond .ne 13, 3) := dk_s2 (y := 0) (z := 13) dk_g154 (by decide +kernel) rfl
theorem dX5_wave_8 : decode cX5_wave 8 = .ok (.new 65, 3) := dk_u2 (y := 0) (z := 65) dk_g187 (by decide +kernel) rfl
theorem dX5_wave_11 : decode cX5_wave 11 = .ok (.dup, 1) := dk_n (t := []) dk_g89 (by decide +kernel)
theorem dX5_wave_12 : decode cX5_wave 12 = .ok (.ldc 138, 2) := dk_u1 (y := 138) dk_g18 (by decide +kernel)
theorem dX5_wave_14 : decode cX5_wave 14 = .ok (.invokespecial 69, 3) := dk_u2 (y := 0) (z := 69) dk_g183 (by decide +kernel) rfl
theorem dX5_wave_17 : decode cX5_wave 17 = .ok (.athrow, 1) := dk_n (t := []) dk_g191 (by decide +kernel)
theorem dX5_wave_18 : decode cX5_wave 18 = .ok (.iload_n 2, 1) := dk_n (t := []) dk_g28 (by decide +kernel)
theorem dX5_wave_19 : decode cX5_wave 19 = .ok (.ifCond .lt 9, 3) := dk_s2 (y := 0) (z := 9) dk_g155 (by decide +kernel) rfl
theorem dX5_wave_22 : decode cX5_wave 22 = .ok (.iload_n 2, 1) := dk_n (t := []) dk_g28 (by decide +kernel)
theorem dX5_wave_23 : decode cX5_wave 23 = .ok (.bipush 63, 2) := dk_s1 (y := 63) dk_g16 (by decide +kernel) rfl
theorem dX5_wave_25 : decode cX5_wave 25 = .ok (.if_icmp .le 13, 3) := dk_s2 (y := 0) (z := 13) dk_g164 (by decide +kernel) rfl
theorem dX5_wave_28 : decode cX5_wave 28 = .ok (.new 40, 3) := dk_u2 (y := 0) (z := 40) dk_g187 (by decide +kernel) rfl
theorem dX5_wave_31 : decode cX5_wave 31 = .ok (.dup, 1) := dk_n (t := []) dk_g89 (by decide +kernel)
theorem dX5_wave_32 : decode cX5_wave 32 = .ok (.ldc 140, 2) := dk_u1 (y := 140) dk_g18 (by decide +kernel)
theorem dX5_wave_34 : decode cX5_wave 34 = .ok (.invokespecial 44, 3) := dk_u2 (y := 0) (z := 44) dk_g183 (by decide +kernel) rfl
theorem dX5_wave_37 : decode cX5_wave 37 = .ok (.athrow, 1) := dk_n (t := []) dk_g191 (by decide +kernel)
theorem dX5_wave_38 : decode cX5_wave 38 = .ok (.iconst 0, 1) := dk_n (t := []) dk_g3 (by decide +kernel)
theorem dX5_wave_39 : decode cX5_wave 39 = .ok (.istore_n 3, 1) := dk_n (t := []) dk_g62 (by decide +kernel)
theorem dX5_wave_40 : decode cX5_wave 40 = .ok (.iconst 0, 1) := dk_n (t := []) dk_g3 (by decide +kernel)
theorem dX5_wave_41 : decode cX5_wave 41 = .ok (.istore 4, 2) := dk_u1 (y := 4) dk_g54 (by decide +kernel)
theorem dX5_wave_43 : decode cX5_wave 43 = .ok (.iload 4, 2) := dk_u1 (y := 4) dk_g21 (by decide +kernel)
theorem dX5_wave_45 : decode cX5_wave 45 = .ok (.bipush 6, 2) := dk_s1 (y := 6) dk_g16 (by decide +kernel) rfl
theorem dX5_wave_47 : decode cX5_wave 47 = .ok (.if_icmp .ge 34, 3) := dk_s2 (y := 0) (z := 34) dk_g162 (by decide +kernel) rfl
theorem dX5_wave_50 : decode cX5_wave 50 = .ok (.iload_n 2, 1) := dk_n (t := []) dk_g28 (by decide +kernel)
theorem dX5_wave_51 : decode cX5_wave 51 = .ok (.iload 4, 2) := dk_u1 (y := 4) dk_g21 (by decide +kernel)
theorem dX5_wave_53 : decode cX5_wave 53 = .ok (.invokestatic 142, 3) := dk_u2 (y := 0) (z := 142) dk_g184 (by decide +kernel) rfl
theorem dX5_wave_56 : decode cX5_wave 56 = .ok (.ifCond .eq 19, 3) := dk_s2 (y := 0) (z := 19) dk_g153 (by decide +kernel) rfl
theorem dX5_wave_59 : decode cX5_wave 59 = .ok (.aload_n 0, 1) := dk_n (t := []) dk_g42 (by decide +kernel)
theorem dX5_wave_60 : decode cX5_wave 60 = .ok (.getfield 28, 3) := dk_u2 (y := 0) (z := 28) dk_g180 (by decide +kernel) rfl
theorem dX5_wave_63 : decode cX5_wave 63 = .ok (.iload 4, 2) := dk_u1 (y := 4) dk_g21 (by decide +kernel)
theorem dX5_wave_65 : decode cX5_wave 65 = .ok (.iload_n 1, 1) := dk_n (t := []) dk_g27 (by decide +kernel)
theorem dX5_wave_66 : decode cX5_wave 66 = .ok (.invokevirtual 146, 3) := dk_u2 (y := 0) (z := 146) dk_g182 (by decide +kernel) rfl
theorem dX5_wave_69 : decode cX5_wave 69 = .ok (.ifCond .eq 6, 3) := dk_s2 (y := 0) (z := 6) dk_g153 (by decide +kernel) rfl
theorem dX5_wave_72 : decode cX5_wave 72 = .ok (.iinc 3 1, 3) := dk_ii (y := 3) (z := 1) dk_g132 (by decide +kernel) rfl
theorem dX5_wave_75 : decode cX5_wave 75 = .ok (.iinc 4 1, 3) := dk_ii (y := 4) (z := 1) dk_g132 (by decide +kernel) rfl
theorem dX5_wave_78 : decode cX5_wave 78 = .ok (.goto (-35), 3) := dk_s2 (y := 255) (z := 221) dk_g167 (by decide +kernel) rfl
theorem dX5_wave_81 : decode cX5_wave 81 = .ok (.iload_n 3, 1) := dk_n (t := []) dk_g29 (by decide +kernel)
theorem dX5_wave_82 : decode cX5_wave 82 = .ok (.ireturn, 1) := dk_n (t := []) dk_g172 (by decide +kernel)
theorem dX5_patch_0 : decode cX5_patch 0 = .ok (.iload_n 1, 1) := dk_n (t := []) dk_g27 (by decide +kernel)
theorem dX5_patch_1 : decode cX5_patch 1 = .ok (.invokestatic 149, 3) := dk_u2 (y := 0) (z := 149) dk_g184 (by decide +kernel) rfl
theorem dX5_patch_4 : decode cX5_patch 4 = .ok (.ifCond .eq 11, 3) := dk_s2 (y := 0) (z := 11) dk_g153 (by decide +kernel) rfl
theorem dX5_patch_7 : decode cX5_patch 7 = .ok (.aload_n 0, 1) := dk_n (t := []) dk_g42 (by decide +kernel)
theorem dX5_patch_8 : decode cX5_patch 8 = .ok (.iload_n 2, 1) := dk_n (t := []) dk_g28 (by decide +kernel)
theorem dX5_patch_9 : decode cX5_patch 9 = .ok (.invokevirtual 62, 3) := dk_u2 (y := 0) (z := 62) dk_g182 (by decide +kernel) rfl
theorem dX5_patch_12 : decode cX5_patch 12 = .ok (.ifCond .ne 13, 3) := dk_s2 (y := 0) (z := 13) dk_g154 (by decide +kernel) rfl
theorem dX5_patch_15 : decode cX5_patch 15 = .ok (.new 65, 3) := dk_u2 (y := 0) (z := 65) dk_g187 (by decide +kernel) rfl
theorem dX5_patch_18 : decode cX5_patch 18 = .ok (.dup, 1) := dk_n (t := []) dk_g89 (by decide +kernel)
theorem dX5_patch_19 : decode cX5_patch 19 = .ok (.ldc 152, 2) := dk_u1 (y := 152) dk_g18 (by decide +kernel)
theorem dX5_patch_21 : decode cX5_patch 21 = .ok (.invokespecial 69, 3) := dk_u2 (y := 0) (z := 69) dk_g183 (by decide +kernel) rfl
theorem dX5_patch_24 : decode cX5_patch 24 = .ok (.athrow, 1) := dk_n (t := []) dk_g191 (by decide +kernel)
theorem dX5_patch_25 : decode cX5_patch 25 = .ok (.iload_n 3, 1) := dk_n (t := []) dk_g29 (by decide +kernel)
theorem dX5_patch_26 : decode cX5_patch 26 = .ok (.invokestatic 81, 3) := dk_u2 (y := 0) (z := 81) dk_g184 (by decide +kernel) rfl
theorem dX5_patch_29 : decode cX5_patch 29 = .ok (.ifCond .ne 13, 3) := dk_s2 (y := 0) (z := 13) dk_g154 (by decide +kernel) rfl
theorem dX5_patch_32 : decode cX5_patch 32 = .ok (.new 40, 3) := dk_u2 (y := 0) (z := 40) dk_g187 (by decide +kernel) rfl
theorem dX5_patch_35 : decode cX5_patch 35 = .ok (.dup, 1) := dk_n (t := []) dk_g89 (by decide +kernel)
theorem dX5_patch_36 : decode cX5_patch 36 = .ok (.ldc 154, 2) := dk_u1 (y := 154) dk_g18 (by decide +kernel)
theorem dX5_patch_38 : decode cX5_patch 38 = .ok (.invokespecial 44, 3) := dk_u2 (y := 0) (z := 44) dk_g183 (by decide +kernel) rfl
theorem dX5_patch_41 : decode cX5_patch 41 = .ok (.athrow, 1) := dk_n (t := []) dk_g191 (by decide +kernel)
theorem dX5_patch_42 : decode cX5_patch 42 = .ok (.aload_n 0, 1) := dk_n (t := []) dk_g42 (by decide +kernel)
theorem dX5_patch_43 : decode cX5_patch 43 = .ok (.getfield 28, 3) := dk_u2 (y := 0) (z := 28) dk_g180 (by decide +kernel) rfl
theorem dX5_patch_46 : decode cX5_patch 46 = .ok (.getfield 156, 3) := dk_u2 (y := 0) (z := 156) dk_g180 (by decide +kernel) rfl
theorem dX5_patch_49 : decode cX5_patch 49 = .ok (.iload_n 1, 1) := dk_n (t := []) dk_g27 (by decide +kernel)
theorem dX5_patch_50 : decode cX5_patch 50 = .ok (.aaload, 1) := dk_n (t := []) dk_g50 (by decide +kernel)
theorem dX5_patch_51 : decode cX5_patch 51 = .ok (.iload_n 2, 1) := dk_n (t := []) dk_g28 (by decide +kernel)
theorem dX5_patch_52 : decode cX5_patch 52 = .ok (.iaload, 1) := dk_n (t := []) dk_g46 (by decide +kernel)
theorem dX5_patch_53 : decode cX5_patch 53 = .ok (.istore 4, 2) := dk_u1 (y := 4) dk_g54 (by decide +kernel)
theorem dX5_patch_55 : decode cX5_patch 55 = .ok (.aload_n 0, 1) := dk_n (t := []) dk_g42 (by decide +kernel)
theorem dX5_patch_56 : decode cX5_patch 56 = .ok (.getfield 28, 3) := dk_u2 (y := 0) (z := 28) dk_g180 (by decide +kernel) rfl
theorem dX5_patch_59 : decode cX5_patch 59 = .ok (.getfield 156, 3) := dk_u2 (y := 0) (z := 156) dk_g180 (by decide +kernel) rfl
theorem dX5_patch_62 : decode cX5_patch 62 = .ok (.iload_n 1, 1) := dk_n (t := []) dk_g27 (by decide +kernel)
theorem dX5_patch_63 : decode cX5_patch 63 = .ok (.aaload, 1) := dk_n (t := []) dk_g50 (by decide +kernel)
theorem dX5_patch_64 : decode cX5_patch 64 = .ok (.iload_n 2, 1) := dk_n (t := []) dk_g28 (by decide +kernel)
theorem dX5_patch_65 : decode cX5_patch 65 = .ok (.iload_n 3, 1) := dk_n (t := []) dk_g29 (by decide +kernel)
theorem dX5_patch_66 : decode cX5_patch 66 = .ok (.iastore, 1) := dk_n (t := []) dk_g79 (by decide +kernel)
theorem dX5_patch_67 : decode cX5_patch 67 = .ok (.iload 4, 2) := dk_u1 (y := 4) dk_g21 (by decide +kernel)
theorem dX5_patch_69 : decode cX5_patch 69 = .ok (.ireturn, 1) := dk_n (t := []) dk_g172 (by decide +kernel)
theorem dX5_absorb_0 : decode cX5_absorb 0 = .ok (.iload_n 1, 1) := dk_n (t := []) dk_g27 (by decide +kernel)
theorem dX5_absorb_1 : decode cX5_absorb 1 = .ok (.invokestatic 149, 3) := dk_u2 (y := 0) (z := 149) dk_g184 (by decide +kernel) rfl
theorem dX5_absorb_4 : decode cX5_absorb 4 = .ok (.ifCond .eq 11, 3) := dk_s2 (y := 0) (z := 11) dk_g153 (by decide +kernel) rfl
theorem dX5_absorb_7 : decode cX5_absorb 7 = .ok (.aload_n 0, 1) := dk_n (t := []) dk_g42 (by decide +kernel)
theorem dX5_absorb_8 : decode cX5_absorb 8 = .ok (.iload_n 2, 1) := dk_n (t := []) dk_g28 (by decide +kernel)
theorem dX5_absorb_9 : decode cX5_absorb 9 = .ok (.invokevirtual 62, 3) := dk_u2 (y := 0) (z := 62) dk_g182 (by decide +kernel) rfl
theorem dX5_absorb_12 : decode cX5_absorb 12 = .ok (.ifCond .ne 13, 3) := dk_s2 (y := 0) (z := 13) dk_g154 (by decide +kernel) rfl
theorem dX5_absorb_15 : decode cX5_absorb 15 = .ok (.new 65, 3) := dk_u2 (y := 0) (z := 65) dk_g187 (by decide +kernel) rfl
theorem dX5_absorb_18 : decode cX5_absorb 18 = .ok (.dup, 1) := dk_n (t := []) dk_g89 (by decide +kernel)
theorem dX5_absorb_19 : decode cX5_absorb 19 = .ok (.ldc 152, 2) := dk_u1 (y := 152) dk_g18 (by decide +kernel)
theorem dX5_absorb_21 : decode cX5_absorb 21 = .ok (.invokespecial 69, 3) := dk_u2 (y := 0) (z := 69) dk_g183 (by decide +kernel) rfl
theorem dX5_absorb_24 : decode cX5_absorb 24 = .ok (.athrow, 1) := dk_n (t := []) dk_g191 (by decide +kernel)
theorem dX5_absorb_25 : decode cX5_absorb 25 = .ok (.aload_n 0, 1) := dk_n (t := []) dk_g42 (by decide +kernel)
theorem dX5_absorb_26 : decode cX5_absorb 26 = .ok (.getfield 28, 3) := dk_u2 (y := 0) (z := 28) dk_g180 (by decide +kernel) rfl
theorem dX5_absorb_29 : decode cX5_absorb 29 = .ok (.getfield 156, 3) := dk_u2 (y := 0) (z := 156) dk_g180 (by decide +kernel) rfl
theorem dX5_absorb_32 : decode cX5_absorb 32 = .ok (.iload_n 1, 1) := dk_n (t := []) dk_g27 (by decide +kernel)
theorem dX5_absorb_33 : decode cX5_absorb 33 = .ok (.aaload, 1) := dk_n (t := []) dk_g50 (by decide +kernel)
theorem dX5_absorb_34 : decode cX5_absorb 34 = .ok (.iload_n 2, 1) := dk_n (t := []) dk_g28 (by decide +kernel)
theorem dX5_absorb_35 : decode cX5_absorb 35 = .ok (.iaload, 1) := dk_n (t := []) dk_g46 (by decide +kernel)
theorem dX5_absorb_36 : decode cX5_absorb 36 = .ok (.istore_n 3, 1) := dk_n (t := []) dk_g62 (by decide +kernel)
theorem dX5_absorb_37 : decode cX5_absorb 37 = .ok (.aload_n 0, 1) := dk_n (t := []) dk_g42 (by decide +kernel)
theorem dX5_absorb_38 : decode cX5_absorb 38 = .ok (.getfield 28, 3) := dk_u2 (y := 0) (z := 28) dk_g180 (by decide +kernel) rfl
theorem dX5_absorb_41 : decode cX5_absorb 41 = .ok (.iload_n 1, 1) := dk_n (t := []) dk_g27 (by decide +kernel)
theorem dX5_absorb_42 : decode cX5_absorb 42 = .ok (.iload_n 2, 1) := dk_n (t := []) dk_g28 (by decide +kernel)
theorem dX5_absorb_43 : decode cX5_absorb 43 = .ok (.invokevirtual 160, 3) := dk_u2 (y := 0) (z := 160) dk_g182 (by decide +kernel) rfl
theorem dX5_absorb_46 : decode cX5_absorb 46 = .ok (.ifCond .eq 22, 3) := dk_s2 (y := 0) (z := 22) dk_g153 (by decide +kernel) rfl
theorem dX5_absorb_49 : decode cX5_absorb 49 = .ok (.iload_n 3, 1) := dk_n (t := []) dk_g29 (by decide +kernel)
theorem dX5_absorb_50 : decode cX5_absorb 50 = .ok (.invokestatic 81, 3) := dk_u2 (y := 0) (z := 81) dk_g184 (by decide +kernel) rfl
theorem dX5_absorb_53 : decode cX5_absorb 53 = .ok (.ifCond .eq 15, 3) := dk_s2 (y := 0) (z := 15) dk_g153 (by decide +kernel) rfl
theorem dX5_absorb_56 : decode cX5_absorb 56 = .ok (.aload_n 0, 1) := dk_n (t := []) dk_g42 (by decide +kernel)
theorem dX5_absorb_57 : decode cX5_absorb 57 = .ok (.getfield 10, 3) := dk_u2 (y := 0) (z := 10) dk_g180 (by decide +kernel) rfl
theorem dX5_absorb_60 : decode cX5_absorb 60 = .ok (.getfield 72, 3) := dk_u2 (y := 0) (z := 72) dk_g180 (by decide +kernel) rfl
theorem dX5_absorb_63 : decode cX5_absorb 63 = .ok (.bipush 30, 2) := dk_s1 (y := 30) dk_g16 (by decide +kernel) rfl
theorem dX5_absorb_65 : decode cX5_absorb 65 = .ok (.if_icmp .lt 13, 3) := dk_s2 (y := 0) (z := 13) dk_g161 (by decide +kernel) rfl
theorem dX5_absorb_68 : decode cX5_absorb 68 = .ok (.new 50, 3) := dk_u2 (y := 0) (z := 50) dk_g187 (by decide +kernel) rfl
theorem dX5_absorb_71 : decode cX5_absorb 71 = .ok (.dup, 1) := dk_n (t := []) dk_g89 (by decide +kernel)
theorem dX5_absorb_72 : decode cX5_absorb 72 = .ok (.ldc 163, 2) := dk_u1 (y := 163) dk_g18 (by decide +kernel)
theorem dX5_absorb_74 : decode cX5_absorb 74 = .ok (.invokespecial 54, 3) := dk_u2 (y := 0) (z := 54) dk_g183 (by decide +kernel) rfl
theorem dX5_absorb_77 : decode cX5_absorb 77 = .ok (.athrow, 1) := dk_n (t := []) dk_g191 (by decide +kernel)
theorem dX5_absorb_78 : decode cX5_absorb 78 = .ok (.aload_n 0, 1) := dk_n (t := []) dk_g42 (by decide +kernel)
theorem dX5_absorb_79 : decode cX5_absorb 79 = .ok (.iconst 0, 1) := dk_n (t := []) dk_g3 (by decide +kernel)
theorem dX5_absorb_80 : decode cX5_absorb 80 = .ok (.aload_n 0, 1) := dk_n (t := []) dk_g42 (by decide +kernel)
theorem dX5_absorb_81 : decode cX5_absorb 81 = .ok (.getfield 10, 3) := dk_u2 (y := 0) (z := 10) dk_g180 (by decide +kernel) rfl
theorem dX5_absorb_84 : decode cX5_absorb 84 = .ok (.getfield 165, 3) := dk_u2 (y := 0) (z := 165) dk_g180 (by decide +kernel) rfl
theorem dX5_absorb_87 : decode cX5_absorb 87 = .ok (.iload_n 2, 1) := dk_n (t := []) dk_g28 (by decide +kernel)
theorem dX5_absorb_88 : decode cX5_absorb 88 = .ok (.iaload, 1) := dk_n (t := []) dk_g46 (by decide +kernel)
theorem dX5_absorb_89 : decode cX5_absorb 89 = .ok (.iload_n 2, 1) := dk_n (t := []) dk_g28 (by decide +kernel)
theorem dX5_absorb_90 : decode cX5_absorb 90 = .ok (.iconst 1, 1) := dk_n (t := []) dk_g4 (by decide +kernel)
theorem dX5_absorb_91 : decode cX5_absorb 91 = .ok (.iload_n 3, 1) := dk_n (t := []) dk_g29 (by decide +kernel)
theorem dX5_absorb_92 : decode cX5_absorb 92 = .ok (.ishl, 1) := dk_n (t := []) dk_g120 (by decide +kernel)
theorem dX5_absorb_93 : decode cX5_absorb 93 = .ok (.iconst 0, 1) := dk_n (t := []) dk_g3 (by decide +kernel)
theorem dX5_absorb_94 : decode cX5_absorb 94 = .ok (.invokevirtual 77, 3) := dk_u2 (y := 0) (z := 77) dk_g182 (by decide +kernel) rfl
theorem dX5_absorb_97 : decode cX5_absorb 97 = .ok (.ireturn, 1) := dk_n (t := []) dk_g172 (by decide +kernel)
theorem dX5_knock_0 : decode cX5_knock 0 = .ok (.aload_n 0, 1) := dk_n (t := []) dk_g42 (by decide +kernel)
theorem dX5_knock_1 : decode cX5_knock 1 = .ok (.dup, 1) := dk_n (t := []) dk_g89 (by decide +kernel)
theorem dX5_knock_2 : decode cX5_knock 2 = .ok (.getfield 32, 3) := dk_u2 (y := 0) (z := 32) dk_g180 (by decide +kernel) rfl
theorem dX5_knock_5 : decode cX5_knock 5 = .ok (.iconst 1, 1) := dk_n (t := []) dk_g4 (by decide +kernel)
theorem dX5_knock_6 : decode cX5_knock 6 = .ok (.iadd, 1) := dk_n (t := []) dk_g96 (by decide +kernel)
theorem dX5_knock_7 : decode cX5_knock 7 = .ok (.putfield 32, 3) := dk_u2 (y := 0) (z := 32) dk_g181 (by decide +kernel) rfl
theorem dX5_knock_10 : decode cX5_knock 10 = .ok (.aload_n 0, 1) := dk_n (t := []) dk_g42 (by decide +kernel)
theorem dX5_knock_11 : decode cX5_knock 11 = .ok (.getfield 32, 3) := dk_u2 (y := 0) (z := 32) dk_g180 (by decide +kernel) rfl
theorem dX5_knock_14 : decode cX5_knock 14 = .ok (.ireturn, 1) := dk_n (t := []) dk_g172 (by decide +kernel)
theorem dX5_ofField_0 : decode cX5_ofField 0 = .ok (.aload_n 0, 1) := dk_n (t := []) dk_g42 (by decide +kernel)
theorem dX5_ofField_1 : decode cX5_ofField 1 = .ok (.iload_n 1, 1) := dk_n (t := []) dk_g27 (by decide +kernel)
theorem dX5_ofField_2 : decode cX5_ofField 2 = .ok (.invokevirtual 62, 3) := dk_u2 (y := 0) (z := 62) dk_g182 (by decide +kernel) rfl
theorem dX5_ofField_5 : decode cX5_ofField 5 = .ok (.ifCond .ne 13, 3) := dk_s2 (y := 0) (z := 13) dk_g154 (by decide +kernel) rfl
theorem dX5_ofField_8 : decode cX5_ofField 8 = .ok (.new 65, 3) := dk_u2 (y := 0) (z := 65) dk_g187 (by decide +kernel) rfl
theorem dX5_ofField_11 : decode cX5_ofField 11 = .ok (.dup, 1) := dk_n (t := []) dk_g89 (by decide +kernel)
theorem dX5_ofField_12 : decode cX5_ofField 12 = .ok (.ldc 67, 2) := dk_u1 (y := 67) dk_g18 (by decide +kernel)
theorem dX5_ofField_14 : decode cX5_ofField 14 = .ok (.invokespecial 69, 3) := dk_u2 (y := 0) (z := 69) dk_g183 (by decide +kernel) rfl
theorem dX5_ofField_17 : decode cX5_ofField 17 = .ok (.athrow, 1) := dk_n (t := []) dk_g191 (by decide +kernel)
theorem dX5_ofField_18 : decode cX5_ofField 18 = .ok (.iload_n 2, 1) := dk_n (t := []) dk_g28 (by decide +kernel)
theorem dX5_ofField_19 : decode cX5_ofField 19 = .ok (.tableswitch 122 0 6 #[41, 51, 64, 80, 90, 100, 113], 41) := by decide +kernel
theorem dX5_ofField_60 : decode cX5_ofField 60 = .ok (.aload_n 0, 1) := dk_n (t := []) dk_g42 (by decide +kernel)
theorem dX5_ofField_61 : decode cX5_ofField 61 = .ok (.getfield 10, 3) := dk_u2 (y := 0) (z := 10) dk_g180 (by decide +kernel) rfl
theorem dX5_ofField_64 : decode cX5_ofField 64 = .ok (.getfield 165, 3) := dk_u2 (y := 0) (z := 165) dk_g180 (by decide +kernel) rfl
theorem dX5_ofField_67 : decode cX5_ofField 67 = .ok (.iload_n 1, 1) := dk_n (t := []) dk_g27 (by decide +kernel)
theorem dX5_ofField_68 : decode cX5_ofField 68 = .ok (.iaload, 1) := dk_n (t := []) dk_g46 (by decide +kernel)
theorem dX5_ofField_69 : decode cX5_ofField 69 = .ok (.ireturn, 1) := dk_n (t := []) dk_g172 (by decide +kernel)
theorem dX5_ofField_70 : decode cX5_ofField 70 = .ok (.aload_n 0, 1) := dk_n (t := []) dk_g42 (by decide +kernel)
theorem dX5_ofField_71 : decode cX5_ofField 71 = .ok (.getfield 21, 3) := dk_u2 (y := 0) (z := 21) dk_g180 (by decide +kernel) rfl
theorem dX5_ofField_74 : decode cX5_ofField 74 = .ok (.getfield 113, 3) := dk_u2 (y := 0) (z := 113) dk_g180 (by decide +kernel) rfl
theorem dX5_ofField_77 : decode cX5_ofField 77 = .ok (.getfield 168, 3) := dk_u2 (y := 0) (z := 168) dk_g180 (by decide +kernel) rfl
theorem dX5_ofField_80 : decode cX5_ofField 80 = .ok (.iload_n 1, 1) := dk_n (t := []) dk_g27 (by decide +kernel)
theorem dX5_ofField_81 : decode cX5_ofField 81 = .ok (.iaload, 1) := dk_n (t := []) dk_g46 (by decide +kernel)
theorem dX5_ofField_82 : decode cX5_ofField 82 = .ok (.ireturn, 1) := dk_n (t := []) dk_g172 (by decide +kernel)
theorem dX5_ofField_83 : decode cX5_ofField 83 = .ok (.aload_n 0, 1) := dk_n (t := []) dk_g42 (by decide +kernel)
theorem dX5_ofField_84 : decode cX5_ofField 84 = .ok (.getfield 21, 3) := dk_u2 (y := 0) (z := 21) dk_g180 (by decide +kernel) rfl
theorem dX5_ofField_87 : decode cX5_ofField 87 = .ok (.getfield 113, 3) := dk_u2 (y := 0) (z := 113) dk_g180 (by decide +kernel) rfl
theorem dX5_ofField_90 : decode cX5_ofField 90 = .ok (.getfield 168, 3) := dk_u2 (y := 0) (z := 168) dk_g180 (by decide +kernel) rfl
theorem dX5_ofField_93 : decode cX5_ofField 93 = .ok (.iload_n 1, 1) := dk_n (t := []) dk_g27 (by decide +kernel)
theorem dX5_ofField_94 : decode cX5_ofField 94 = .ok (.iaload, 1) := dk_n (t := []) dk_g46 (by decide +kernel)
theorem dX5_ofField_95 : decode cX5_ofField 95 = .ok (.invokestatic 171, 3) := dk_u2 (y := 0) (z := 171) dk_g184 (by decide +kernel) rfl
theorem dX5_ofField_98 : decode cX5_ofField 98 = .ok (.ireturn, 1) := dk_n (t := []) dk_g172 (by decide +kernel)
theorem dX5_ofField_99 : decode cX5_ofField 99 = .ok (.aload_n 0, 1) := dk_n (t := []) dk_g42 (by decide +kernel)
theorem dX5_ofField_100 : decode cX5_ofField 100 = .ok (.getfield 21, 3) := dk_u2 (y := 0) (z := 21) dk_g180 (by decide +kernel) rfl
theorem dX5_ofField_103 : decode cX5_ofField 103 = .ok (.getfield 128, 3) := dk_u2 (y := 0) (z := 128) dk_g180 (by decide +kernel) rfl
theorem dX5_ofField_106 : decode cX5_ofField 106 = .ok (.iload_n 1, 1) := dk_n (t := []) dk_g27 (by decide +kernel)
theorem dX5_ofField_107 : decode cX5_ofField 107 = .ok (.iaload, 1) := dk_n (t := []) dk_g46 (by decide +kernel)
theorem dX5_ofField_108 : decode cX5_ofField 108 = .ok (.ireturn, 1) := dk_n (t := []) dk_g172 (by decide +kernel)
theorem dX5_ofField_109 : decode cX5_ofField 109 = .ok (.aload_n 0, 1) := dk_n (t := []) dk_g42 (by decide +kernel)
theorem dX5_ofField_110 : decode cX5_ofField 110 = .ok (.getfield 10, 3) := dk_u2 (y := 0) (z := 10) dk_g180 (by decide +kernel) rfl
theorem dX5_ofField_113 : decode cX5_ofField 113 = .ok (.getfield 109, 3) := dk_u2 (y := 0) (z := 109) dk_g180 (by decide +kernel) rfl
theorem dX5_ofField_116 : decode cX5_ofField 116 = .ok (.iload_n 1, 1) := dk_n (t := []) dk_g27 (by decide +kernel)
theorem dX5_ofField_117 : decode cX5_ofField 117 = .ok (.iaload, 1) := dk_n (t := []) dk_g46 (by decide +kernel)
theorem dX5_ofField_118 : decode cX5_ofField 118 = .ok (.ireturn, 1) := dk_n (t := []) dk_g172 (by decide +kernel)
theorem dX5_ofField_119 : decode cX5_ofField 119 = .ok (.aload_n 0, 1) := dk_n (t := []) dk_g42 (by decide +kernel)
theorem dX5_ofField_120 : decode cX5_ofField 120 = .ok (.getfield 21, 3) := dk_u2 (y := 0) (z := 21) dk_g180 (by decide +kernel) rfl
theorem dX5_ofField_123 : decode cX5_ofField 123 = .ok (.getfield 176, 3) := dk_u2 (y := 0) (z := 176) dk_g180 (by decide +kernel) rfl
theorem dX5_ofField_126 : decode cX5_ofField 126 = .ok (.getfield 180, 3) := dk_u2 (y := 0) (z := 180) dk_g180 (by decide +kernel) rfl
theorem dX5_ofField_129 : decode cX5_ofField 129 = .ok (.iload_n 1, 1) := dk_n (t := []) dk_g27 (by decide +kernel)
theorem dX5_ofField_130 : decode cX5_ofField 130 = .ok (.iaload, 1) := dk_n (t := []) dk_g46 (by decide +kernel)
theorem dX5_ofField_131 : decode cX5_ofField 131 = .ok (.ireturn, 1) := dk_n (t := []) dk_g172 (by decide +kernel)
theorem dX5_ofField_132 : decode cX5_ofField 132 = .ok (.aload_n 0, 1) := dk_n (t := []) dk_g42 (by decide +kernel)
theorem dX5_ofField_133 : decode cX5_ofField 133 = .ok (.getfield 28, 3) := dk_u2 (y := 0) (z := 28) dk_g180 (by decide +kernel) rfl
theorem dX5_ofField_136 : decode cX5_ofField 136 = .ok (.iload_n 1, 1) := dk_n (t := []) dk_g27 (by decide +kernel)
theorem dX5_ofField_137 : decode cX5_ofField 137 = .ok (.invokevirtual 185, 3) := dk_u2 (y := 0) (z := 185) dk_g182 (by decide +kernel) rfl
theorem dX5_ofField_140 : decode cX5_ofField 140 = .ok (.ireturn, 1) := dk_n (t := []) dk_g172 (by decide +kernel)
theorem dX5_ofField_141 : decode cX5_ofField 141 = .ok (.new 40, 3) := dk_u2 (y := 0) (z := 40) dk_g187 (by decide +kernel) rfl
theorem dX5_ofField_144 : decode cX5_ofField 144 = .ok (.dup, 1) := dk_n (t := []) dk_g89 (by decide +kernel)
theorem dX5_ofField_145 : decode cX5_ofField 145 = .ok (.ldc 188, 2) := dk_u1 (y := 188) dk_g18 (by decide +kernel)
theorem dX5_ofField_147 : decode cX5_ofField 147 = .ok (.invokespecial 44, 3) := dk_u2 (y := 0) (z := 44) dk_g183 (by decide +kernel) rfl
theorem dX5_ofField_150 : decode cX5_ofField 150 = .ok (.athrow, 1) := dk_n (t := []) dk_g191 (by decide +kernel)
theorem dX5_ofLine_0 : decode cX5_ofLine 0 = .ok (.aload_n 0, 1) := dk_n (t := []) dk_g42 (by decide +kernel)
theorem dX5_ofLine_1 : decode cX5_ofLine 1 = .ok (.iload_n 1, 1) := dk_n (t := []) dk_g27 (by decide +kernel)
theorem dX5_ofLine_2 : decode cX5_ofLine 2 = .ok (.invokevirtual 92, 3) := dk_u2 (y := 0) (z := 92) dk_g182 (by decide +kernel) rfl
theorem dX5_ofLine_5 : decode cX5_ofLine 5 = .ok (.ifCond .ne 13, 3) := dk_s2 (y := 0) (z := 13) dk_g154 (by decide +kernel) rfl
theorem dX5_ofLine_8 : decode cX5_ofLine 8 = .ok (.new 65, 3) := dk_u2 (y := 0) (z := 65) dk_g187 (by decide +kernel) rfl
theorem dX5_ofLine_11 : decode cX5_ofLine 11 = .ok (.dup, 1) := dk_n (t := []) dk_g89 (by decide +kernel)
theorem dX5_ofLine_12 : decode cX5_ofLine 12 = .ok (.ldc 95, 2) := dk_u1 (y := 95) dk_g18 (by decide +kernel)
theorem dX5_ofLine_14 : decode cX5_ofLine 14 = .ok (.invokespecial 69, 3) := dk_u2 (y := 0) (z := 69) dk_g183 (by decide +kernel) rfl
theorem dX5_ofLine_17 : decode cX5_ofLine 17 = .ok (.athrow, 1) := dk_n (t := []) dk_g191 (by decide +kernel)
theorem dX5_ofLine_18 : decode cX5_ofLine 18 = .ok (.iload_n 2, 1) := dk_n (t := []) dk_g28 (by decide +kernel)
theorem dX5_ofLine_19 : decode cX5_ofLine 19 = .ok (.tableswitch 129 0 6 #[41, 51, 61, 71, 81, 91, 108], 41) := by decide +kernel
theorem dX5_ofLine_60 : decode cX5_ofLine 60 = .ok (.aload_n 0, 1) := dk_n (t := []) dk_g42 (by decide +kernel)
theorem dX5_ofLine_61 : decode cX5_ofLine 61 = .ok (.getfield 10, 3) := dk_u2 (y := 0) (z := 10) dk_g180 (by decide +kernel) rfl
theorem dX5_ofLine_64 : decode cX5_ofLine 64 = .ok (.getfield 190, 3) := dk_u2 (y := 0) (z := 190) dk_g180 (by decide +kernel) rfl
theorem dX5_ofLine_67 : decode cX5_ofLine 67 = .ok (.iload_n 1, 1) := dk_n (t := []) dk_g27 (by decide +kernel)
theorem dX5_ofLine_68 : decode cX5_ofLine 68 = .ok (.iaload, 1) := dk_n (t := []) dk_g46 (by decide +kernel)
theorem dX5_ofLine_69 : decode cX5_ofLine 69 = .ok (.ireturn, 1) := dk_n (t := []) dk_g172 (by decide +kernel)
theorem dX5_ofLine_70 : decode cX5_ofLine 70 = .ok (.aload_n 0, 1) := dk_n (t := []) dk_g42 (by decide +kernel)
theorem dX5_ofLine_71 : decode cX5_ofLine 71 = .ok (.getfield 10, 3) := dk_u2 (y := 0) (z := 10) dk_g180 (by decide +kernel) rfl
theorem dX5_ofLine_74 : decode cX5_ofLine 74 = .ok (.getfield 193, 3) := dk_u2 (y := 0) (z := 193) dk_g180 (by decide +kernel) rfl
theorem dX5_ofLine_77 : decode cX5_ofLine 77 = .ok (.iload_n 1, 1) := dk_n (t := []) dk_g27 (by decide +kernel)
theorem dX5_ofLine_78 : decode cX5_ofLine 78 = .ok (.iaload, 1) := dk_n (t := []) dk_g46 (by decide +kernel)
theorem dX5_ofLine_79 : decode cX5_ofLine 79 = .ok (.ireturn, 1) := dk_n (t := []) dk_g172 (by decide +kernel)
theorem dX5_ofLine_80 : decode cX5_ofLine 80 = .ok (.aload_n 0, 1) := dk_n (t := []) dk_g42 (by decide +kernel)
theorem dX5_ofLine_81 : decode cX5_ofLine 81 = .ok (.getfield 10, 3) := dk_u2 (y := 0) (z := 10) dk_g180 (by decide +kernel) rfl
theorem dX5_ofLine_84 : decode cX5_ofLine 84 = .ok (.getfield 196, 3) := dk_u2 (y := 0) (z := 196) dk_g180 (by decide +kernel) rfl
theorem dX5_ofLine_87 : decode cX5_ofLine 87 = .ok (.iload_n 1, 1) := dk_n (t := []) dk_g27 (by decide +kernel)
theorem dX5_ofLine_88 : decode cX5_ofLine 88 = .ok (.iaload, 1) := dk_n (t := []) dk_g46 (by decide +kernel)
theorem dX5_ofLine_89 : decode cX5_ofLine 89 = .ok (.ireturn, 1) := dk_n (t := []) dk_g172 (by decide +kernel)
theorem dX5_ofLine_90 : decode cX5_ofLine 90 = .ok (.aload_n 0, 1) := dk_n (t := []) dk_g42 (by decide +kernel)
theorem dX5_ofLine_91 : decode cX5_ofLine 91 = .ok (.getfield 10, 3) := dk_u2 (y := 0) (z := 10) dk_g180 (by decide +kernel) rfl
theorem dX5_ofLine_94 : decode cX5_ofLine 94 = .ok (.getfield 199, 3) := dk_u2 (y := 0) (z := 199) dk_g180 (by decide +kernel) rfl
theorem dX5_ofLine_97 : decode cX5_ofLine 97 = .ok (.iload_n 1, 1) := dk_n (t := []) dk_g27 (by decide +kernel)
theorem dX5_ofLine_98 : decode cX5_ofLine 98 = .ok (.iaload, 1) := dk_n (t := []) dk_g46 (by decide +kernel)
theorem dX5_ofLine_99 : decode cX5_ofLine 99 = .ok (.ireturn, 1) := dk_n (t := []) dk_g172 (by decide +kernel)
theorem dX5_ofLine_100 : decode cX5_ofLine 100 = .ok (.aload_n 0, 1) := dk_n (t := []) dk_g42 (by decide +kernel)
theorem dX5_ofLine_101 : decode cX5_ofLine 101 = .ok (.getfield 10, 3) := dk_u2 (y := 0) (z := 10) dk_g180 (by decide +kernel) rfl
theorem dX5_ofLine_104 : decode cX5_ofLine 104 = .ok (.getfield 202, 3) := dk_u2 (y := 0) (z := 202) dk_g180 (by decide +kernel) rfl
theorem dX5_ofLine_107 : decode cX5_ofLine 107 = .ok (.iload_n 1, 1) := dk_n (t := []) dk_g27 (by decide +kernel)
theorem dX5_ofLine_108 : decode cX5_ofLine 108 = .ok (.iaload, 1) := dk_n (t := []) dk_g46 (by decide +kernel)
theorem dX5_ofLine_109 : decode cX5_ofLine 109 = .ok (.ireturn, 1) := dk_n (t := []) dk_g172 (by decide +kernel)
theorem dX5_ofLine_110 : decode cX5_ofLine 110 = .ok (.aload_n 0, 1) := dk_n (t := []) dk_g42 (by decide +kernel)
theorem dX5_ofLine_111 : decode cX5_ofLine 111 = .ok (.getfield 10, 3) := dk_u2 (y := 0) (z := 10) dk_g180 (by decide +kernel) rfl
theorem dX5_ofLine_114 : decode cX5_ofLine 114 = .ok (.iload_n 1, 1) := dk_n (t := []) dk_g27 (by decide +kernel)
theorem dX5_ofLine_115 : decode cX5_ofLine 115 = .ok (.invokevirtual 101, 3) := dk_u2 (y := 0) (z := 101) dk_g182 (by decide +kernel) rfl
theorem dX5_ofLine_118 : decode cX5_ofLine 118 = .ok (.ifCond .eq 7, 3) := dk_s2 (y := 0) (z := 7) dk_g153 (by decide +kernel) rfl
theorem dX5_ofLine_121 : decode cX5_ofLine 121 = .ok (.iconst 1, 1) := dk_n (t := []) dk_g4 (by decide +kernel)
theorem dX5_ofLine_122 : decode cX5_ofLine 122 = .ok (.goto 4, 3) := dk_s2 (y := 0) (z := 4) dk_g167 (by decide +kernel) rfl
theorem dX5_ofLine_125 : decode cX5_ofLine 125 = .ok (.iconst 0, 1) := dk_n (t := []) dk_g3 (by decide +kernel)
theorem dX5_ofLine_126 : decode cX5_ofLine 126 = .ok (.ireturn, 1) := dk_n (t := []) dk_g172 (by decide +kernel)
theorem dX5_ofLine_127 : decode cX5_ofLine 127 = .ok (.aload_n 0, 1) := dk_n (t := []) dk_g42 (by decide +kernel)
theorem dX5_ofLine_128 : decode cX5_ofLine 128 = .ok (.getfield 21, 3) := dk_u2 (y := 0) (z := 21) dk_g180 (by decide +kernel) rfl
theorem dX5_ofLine_131 : decode cX5_ofLine 131 = .ok (.iconst (-1), 1) := dk_n (t := []) dk_g2 (by decide +kernel)
theorem dX5_ofLine_132 : decode cX5_ofLine 132 = .ok (.invokevirtual 205, 3) := dk_u2 (y := 0) (z := 205) dk_g182 (by decide +kernel) rfl
theorem dX5_ofLine_135 : decode cX5_ofLine 135 = .ok (.iload_n 1, 1) := dk_n (t := []) dk_g27 (by decide +kernel)
theorem dX5_ofLine_136 : decode cX5_ofLine 136 = .ok (.invokestatic 142, 3) := dk_u2 (y := 0) (z := 142) dk_g184 (by decide +kernel) rfl
theorem dX5_ofLine_139 : decode cX5_ofLine 139 = .ok (.ifCond .eq 7, 3) := dk_s2 (y := 0) (z := 7) dk_g153 (by decide +kernel) rfl
theorem dX5_ofLine_142 : decode cX5_ofLine 142 = .ok (.iconst 1, 1) := dk_n (t := []) dk_g4 (by decide +kernel)
theorem dX5_ofLine_143 : decode cX5_ofLine 143 = .ok (.goto 4, 3) := dk_s2 (y := 0) (z := 4) dk_g167 (by decide +kernel) rfl
theorem dX5_ofLine_146 : decode cX5_ofLine 146 = .ok (.iconst 0, 1) := dk_n (t := []) dk_g3 (by decide +kernel)
theorem dX5_ofLine_147 : decode cX5_ofLine 147 = .ok (.ireturn, 1) := dk_n (t := []) dk_g172 (by decide +kernel)
theorem dX5_ofLine_148 : decode cX5_ofLine 148 = .ok (.new 40, 3) := dk_u2 (y := 0) (z := 40) dk_g187 (by decide +kernel) rfl
theorem dX5_ofLine_151 : decode cX5_ofLine 151 = .ok (.dup, 1) := dk_n (t := []) dk_g89 (by decide +kernel)
theorem dX5_ofLine_152 : decode cX5_ofLine 152 = .ok (.ldc 188, 2) := dk_u1 (y := 188) dk_g18 (by decide +kernel)
theorem dX5_ofLine_154 : decode cX5_ofLine 154 = .ok (.invokespecial 44, 3) := dk_u2 (y := 0) (z := 44) dk_g183 (by decide +kernel) rfl
theorem dX5_ofLine_157 : decode cX5_ofLine 157 = .ok (.athrow, 1) := dk_n (t := []) dk_g191 (by decide +kernel)
theorem dX5_ofMachine_0 : decode cX5_ofMachine 0 = .ok (.iload_n 1, 1) := dk_n (t := []) dk_g27 (by decide +kernel)
theorem dX5_ofMachine_1 : decode cX5_ofMachine 1 = .ok (.invokestatic 149, 3) := dk_u2 (y := 0) (z := 149) dk_g184 (by decide +kernel) rfl
theorem dX5_ofMachine_4 : decode cX5_ofMachine 4 = .ok (.ifCond .ne 13, 3) := dk_s2 (y := 0) (z := 13) dk_g154 (by decide +kernel) rfl
theorem dX5_ofMachine_7 : decode cX5_ofMachine 7 = .ok (.new 65, 3) := dk_u2 (y := 0) (z := 65) dk_g187 (by decide +kernel) rfl
theorem dX5_ofMachine_10 : decode cX5_ofMachine 10 = .ok (.dup, 1) := dk_n (t := []) dk_g89 (by decide +kernel)
theorem dX5_ofMachine_11 : decode cX5_ofMachine 11 = .ok (.ldc 208, 2) := dk_u1 (y := 208) dk_g18 (by decide +kernel)
theorem dX5_ofMachine_13 : decode cX5_ofMachine 13 = .ok (.invokespecial 69, 3) := dk_u2 (y := 0) (z := 69) dk_g183 (by decide +kernel) rfl
theorem dX5_ofMachine_16 : decode cX5_ofMachine 16 = .ok (.athrow, 1) := dk_n (t := []) dk_g191 (by decide +kernel)
theorem dX5_ofMachine_17 : decode cX5_ofMachine 17 = .ok (.iload_n 2, 1) := dk_n (t := []) dk_g28 (by decide +kernel)
theorem dX5_ofMachine_18 : decode cX5_ofMachine 18 = .ok (.tableswitch 57 0 2 #[26, 36, 48], 26) := by decide +kernel
theorem dX5_ofMachine_44 : decode cX5_ofMachine 44 = .ok (.aload_n 0, 1) := dk_n (t := []) dk_g42 (by decide +kernel)
theorem dX5_ofMachine_45 : decode cX5_ofMachine 45 = .ok (.getfield 28, 3) := dk_u2 (y := 0) (z := 28) dk_g180 (by decide +kernel) rfl
theorem dX5_ofMachine_48 : decode cX5_ofMachine 48 = .ok (.getfield 210, 3) := dk_u2 (y := 0) (z := 210) dk_g180 (by decide +kernel) rfl
theorem dX5_ofMachine_51 : decode cX5_ofMachine 51 = .ok (.iload_n 1, 1) := dk_n (t := []) dk_g27 (by decide +kernel)
theorem dX5_ofMachine_52 : decode cX5_ofMachine 52 = .ok (.iaload, 1) := dk_n (t := []) dk_g46 (by decide +kernel)
theorem dX5_ofMachine_53 : decode cX5_ofMachine 53 = .ok (.ireturn, 1) := dk_n (t := []) dk_g172 (by decide +kernel)
theorem dX5_ofMachine_54 : decode cX5_ofMachine 54 = .ok (.aload_n 0, 1) := dk_n (t := []) dk_g42 (by decide +kernel)
theorem dX5_ofMachine_55 : decode cX5_ofMachine 55 = .ok (.getfield 28, 3) := dk_u2 (y := 0) (z := 28) dk_g180 (by decide +kernel) rfl
theorem dX5_ofMachine_58 : decode cX5_ofMachine 58 = .ok (.iload_n 1, 1) := dk_n (t := []) dk_g27 (by decide +kernel)
theorem dX5_ofMachine_59 : decode cX5_ofMachine 59 = .ok (.invokevirtual 213, 3) := dk_u2 (y := 0) (z := 213) dk_g182 (by decide +kernel) rfl
theorem dX5_ofMachine_62 : decode cX5_ofMachine 62 = .ok (.invokestatic 171, 3) := dk_u2 (y := 0) (z := 171) dk_g184 (by decide +kernel) rfl
theorem dX5_ofMachine_65 : decode cX5_ofMachine 65 = .ok (.ireturn, 1) := dk_n (t := []) dk_g172 (by decide +kernel)
theorem dX5_ofMachine_66 : decode cX5_ofMachine 66 = .ok (.aload_n 0, 1) := dk_n (t := []) dk_g42 (by decide +kernel)
theorem dX5_ofMachine_67 : decode cX5_ofMachine 67 = .ok (.getfield 28, 3) := dk_u2 (y := 0) (z := 28) dk_g180 (by decide +kernel) rfl
theorem dX5_ofMachine_70 : decode cX5_ofMachine 70 = .ok (.iload_n 1, 1) := dk_n (t := []) dk_g27 (by decide +kernel)
theorem dX5_ofMachine_71 : decode cX5_ofMachine 71 = .ok (.invokevirtual 213, 3) := dk_u2 (y := 0) (z := 213) dk_g182 (by decide +kernel) rfl
theorem dX5_ofMachine_74 : decode cX5_ofMachine 74 = .ok (.ireturn, 1) := dk_n (t := []) dk_g172 (by decide +kernel)
theorem dX5_ofMachine_75 : decode cX5_ofMachine 75 = .ok (.new 40, 3) := dk_u2 (y := 0) (z := 40) dk_g187 (by decide +kernel) rfl
theorem dX5_ofMachine_78 : decode cX5_ofMachine 78 = .ok (.dup, 1) := dk_n (t := []) dk_g89 (by decide +kernel)
theorem dX5_ofMachine_79 : decode cX5_ofMachine 79 = .ok (.ldc 216, 2) := dk_u1 (y := 216) dk_g18 (by decide +kernel)
theorem dX5_ofMachine_81 : decode cX5_ofMachine 81 = .ok (.invokespecial 44, 3) := dk_u2 (y := 0) (z := 44) dk_g183 (by decide +kernel) rfl
theorem dX5_ofMachine_84 : decode cX5_ofMachine 84 = .ok (.athrow, 1) := dk_n (t := []) dk_g191 (by decide +kernel)
theorem dX5_has_0 : decode cX5_has 0 = .ok (.iload_n 1, 1) := dk_n (t := []) dk_g27 (by decide +kernel)
theorem dX5_has_1 : decode cX5_has 1 = .ok (.invokestatic 149, 3) := dk_u2 (y := 0) (z := 149) dk_g184 (by decide +kernel) rfl
theorem dX5_has_4 : decode cX5_has 4 = .ok (.ifCond .eq 11, 3) := dk_s2 (y := 0) (z := 11) dk_g153 (by decide +kernel) rfl
theorem dX5_has_7 : decode cX5_has 7 = .ok (.aload_n 0, 1) := dk_n (t := []) dk_g42 (by decide +kernel)
theorem dX5_has_8 : decode cX5_has 8 = .ok (.iload_n 2, 1) := dk_n (t := []) dk_g28 (by decide +kernel)
theorem dX5_has_9 : decode cX5_has 9 = .ok (.invokevirtual 62, 3) := dk_u2 (y := 0) (z := 62) dk_g182 (by decide +kernel) rfl
theorem dX5_has_12 : decode cX5_has 12 = .ok (.ifCond .ne 13, 3) := dk_s2 (y := 0) (z := 13) dk_g154 (by decide +kernel) rfl
theorem dX5_has_15 : decode cX5_has 15 = .ok (.new 65, 3) := dk_u2 (y := 0) (z := 65) dk_g187 (by decide +kernel) rfl
theorem dX5_has_18 : decode cX5_has 18 = .ok (.dup, 1) := dk_n (t := []) dk_g89 (by decide +kernel)
theorem dX5_has_19 : decode cX5_has 19 = .ok (.ldc 152, 2) := dk_u1 (y := 152) dk_g18 (by decide +kernel)
theorem dX5_has_21 : decode cX5_has 21 = .ok (.invokespecial 69, 3) := dk_u2 (y := 0) (z := 69) dk_g183 (by decide +kernel) rfl
theorem dX5_has_24 : decode cX5_has 24 = .ok (.athrow, 1) := dk_n (t := []) dk_g191 (by decide +kernel)
theorem dX5_has_25 : decode cX5_has 25 = .ok (.aload_n 0, 1) := dk_n (t := []) dk_g42 (by decide +kernel)
theorem dX5_has_26 : decode cX5_has 26 = .ok (.getfield 28, 3) := dk_u2 (y := 0) (z := 28) dk_g180 (by decide +kernel) rfl
theorem dX5_has_29 : decode cX5_has 29 = .ok (.getfield 156, 3) := dk_u2 (y := 0) (z := 156) dk_g180 (by decide +kernel) rfl
theorem dX5_has_32 : decode cX5_has 32 = .ok (.iload_n 1, 1) := dk_n (t := []) dk_g27 (by decide +kernel)
theorem dX5_has_33 : decode cX5_has 33 = .ok (.aaload, 1) := dk_n (t := []) dk_g50 (by decide +kernel)
theorem dX5_has_34 : decode cX5_has 34 = .ok (.iload_n 2, 1) := dk_n (t := []) dk_g28 (by decide +kernel)
theorem dX5_has_35 : decode cX5_has 35 = .ok (.iaload, 1) := dk_n (t := []) dk_g46 (by decide +kernel)
theorem dX5_has_36 : decode cX5_has 36 = .ok (.ireturn, 1) := dk_n (t := []) dk_g172 (by decide +kernel)
theorem dX5_ofCommit_0 : decode cX5_ofCommit 0 = .ok (.aload_n 0, 1) := dk_n (t := []) dk_g42 (by decide +kernel)
theorem dX5_ofCommit_1 : decode cX5_ofCommit 1 = .ok (.iload_n 1, 1) := dk_n (t := []) dk_g27 (by decide +kernel)
theorem dX5_ofCommit_2 : decode cX5_ofCommit 2 = .ok (.invokevirtual 135, 3) := dk_u2 (y := 0) (z := 135) dk_g182 (by decide +kernel) rfl
theorem dX5_ofCommit_5 : decode cX5_ofCommit 5 = .ok (.ifCond .eq 11, 3) := dk_s2 (y := 0) (z := 11) dk_g153 (by decide +kernel) rfl
theorem dX5_ofCommit_8 : decode cX5_ofCommit 8 = .ok (.aload_n 0, 1) := dk_n (t := []) dk_g42 (by decide +kernel)
theorem dX5_ofCommit_9 : decode cX5_ofCommit 9 = .ok (.iload_n 2, 1) := dk_n (t := []) dk_g28 (by decide +kernel)
theorem dX5_ofCommit_10 : decode cX5_ofCommit 10 = .ok (.invokevirtual 62, 3) := dk_u2 (y := 0) (z := 62) dk_g182 (by decide +kernel) rfl
theorem dX5_ofCommit_13 : decode cX5_ofCommit 13 = .ok (.ifCond .ne 13, 3) := dk_s2 (y := 0) (z := 13) dk_g154 (by decide +kernel) rfl
theorem dX5_ofCommit_16 : decode cX5_ofCommit 16 = .ok (.new 65, 3) := dk_u2 (y := 0) (z := 65) dk_g187 (by decide +kernel) rfl
theorem dX5_ofCommit_19 : decode cX5_ofCommit 19 = .ok (.dup, 1) := dk_n (t := []) dk_g89 (by decide +kernel)
theorem dX5_ofCommit_20 : decode cX5_ofCommit 20 = .ok (.ldc 218, 2) := dk_u1 (y := 218) dk_g18 (by decide +kernel)
theorem dX5_ofCommit_22 : decode cX5_ofCommit 22 = .ok (.invokespecial 69, 3) := dk_u2 (y := 0) (z := 69) dk_g183 (by decide +kernel) rfl
theorem dX5_ofCommit_25 : decode cX5_ofCommit 25 = .ok (.athrow, 1) := dk_n (t := []) dk_g191 (by decide +kernel)
theorem dX5_ofCommit_26 : decode cX5_ofCommit 26 = .ok (.aload_n 0, 1) := dk_n (t := []) dk_g42 (by decide +kernel)
theorem dX5_ofCommit_27 : decode cX5_ofCommit 27 = .ok (.getfield 28, 3) := dk_u2 (y := 0) (z := 28) dk_g180 (by decide +kernel) rfl
theorem dX5_ofCommit_30 : decode cX5_ofCommit 30 = .ok (.getfield 220, 3) := dk_u2 (y := 0) (z := 220) dk_g180 (by decide +kernel) rfl
theorem dX5_ofCommit_33 : decode cX5_ofCommit 33 = .ok (.iload_n 1, 1) := dk_n (t := []) dk_g27 (by decide +kernel)
theorem dX5_ofCommit_34 : decode cX5_ofCommit 34 = .ok (.aaload, 1) := dk_n (t := []) dk_g50 (by decide +kernel)
theorem dX5_ofCommit_35 : decode cX5_ofCommit 35 = .ok (.iload_n 2, 1) := dk_n (t := []) dk_g28 (by decide +kernel)
theorem dX5_ofCommit_36 : decode cX5_ofCommit 36 = .ok (.iaload, 1) := dk_n (t := []) dk_g46 (by decide +kernel)
theorem dX5_ofCommit_37 : decode cX5_ofCommit 37 = .ok (.ireturn, 1) := dk_n (t := []) dk_g172 (by decide +kernel)
theorem dX5_house_0 : decode cX5_house 0 = .ok (.iload_n 1, 1) := dk_n (t := []) dk_g27 (by decide +kernel)
theorem dX5_house_1 : decode cX5_house 1 = .ok (.tableswitch 134 0 8 #[51, 59, 67, 75, 94, 102, 110, 118, 129], 51) := by decide +kernel
theorem dX5_house_52 : decode cX5_house 52 = .ok (.aload_n 0, 1) := dk_n (t := []) dk_g42 (by decide +kernel)
theorem dX5_house_53 : decode cX5_house 53 = .ok (.getfield 10, 3) := dk_u2 (y := 0) (z := 10) dk_g180 (by decide +kernel) rfl
theorem dX5_house_56 : decode cX5_house 56 = .ok (.getfield 47, 3) := dk_u2 (y := 0) (z := 47) dk_g180 (by decide +kernel) rfl
theorem dX5_house_59 : decode cX5_house 59 = .ok (.ireturn, 1) := dk_n (t := []) dk_g172 (by decide +kernel)
theorem dX5_house_60 : decode cX5_house 60 = .ok (.aload_n 0, 1) := dk_n (t := []) dk_g42 (by decide +kernel)
theorem dX5_house_61 : decode cX5_house 61 = .ok (.getfield 10, 3) := dk_u2 (y := 0) (z := 10) dk_g180 (by decide +kernel) rfl
theorem dX5_house_64 : decode cX5_house 64 = .ok (.getfield 72, 3) := dk_u2 (y := 0) (z := 72) dk_g180 (by decide +kernel) rfl
theorem dX5_house_67 : decode cX5_house 67 = .ok (.ireturn, 1) := dk_n (t := []) dk_g172 (by decide +kernel)
theorem dX5_house_68 : decode cX5_house 68 = .ok (.aload_n 0, 1) := dk_n (t := []) dk_g42 (by decide +kernel)
theorem dX5_house_69 : decode cX5_house 69 = .ok (.getfield 10, 3) := dk_u2 (y := 0) (z := 10) dk_g180 (by decide +kernel) rfl
theorem dX5_house_72 : decode cX5_house 72 = .ok (.invokevirtual 223, 3) := dk_u2 (y := 0) (z := 223) dk_g182 (by decide +kernel) rfl
theorem dX5_house_75 : decode cX5_house 75 = .ok (.ireturn, 1) := dk_n (t := []) dk_g172 (by decide +kernel)
theorem dX5_house_76 : decode cX5_house 76 = .ok (.aload_n 0, 1) := dk_n (t := []) dk_g42 (by decide +kernel)
theorem dX5_house_77 : decode cX5_house 77 = .ok (.getfield 21, 3) := dk_u2 (y := 0) (z := 21) dk_g180 (by decide +kernel) rfl
theorem dX5_house_80 : decode cX5_house 80 = .ok (.getfield 113, 3) := dk_u2 (y := 0) (z := 113) dk_g180 (by decide +kernel) rfl
theorem dX5_house_83 : decode cX5_house 83 = .ok (.getfield 117, 3) := dk_u2 (y := 0) (z := 117) dk_g180 (by decide +kernel) rfl
theorem dX5_house_86 : decode cX5_house 86 = .ok (.ifCond .eq 7, 3) := dk_s2 (y := 0) (z := 7) dk_g153 (by decide +kernel) rfl
theorem dX5_house_89 : decode cX5_house 89 = .ok (.iconst 1, 1) := dk_n (t := []) dk_g4 (by decide +kernel)
theorem dX5_house_90 : decode cX5_house 90 = .ok (.goto 4, 3) := dk_s2 (y := 0) (z := 4) dk_g167 (by decide +kernel) rfl
theorem dX5_house_93 : decode cX5_house 93 = .ok (.iconst 0, 1) := dk_n (t := []) dk_g3 (by decide +kernel)
theorem dX5_house_94 : decode cX5_house 94 = .ok (.ireturn, 1) := dk_n (t := []) dk_g172 (by decide +kernel)
theorem dX5_house_95 : decode cX5_house 95 = .ok (.aload_n 0, 1) := dk_n (t := []) dk_g42 (by decide +kernel)
theorem dX5_house_96 : decode cX5_house 96 = .ok (.getfield 21, 3) := dk_u2 (y := 0) (z := 21) dk_g180 (by decide +kernel) rfl
theorem dX5_house_99 : decode cX5_house 99 = .ok (.invokevirtual 227, 3) := dk_u2 (y := 0) (z := 227) dk_g182 (by decide +kernel) rfl
theorem dX5_house_102 : decode cX5_house 102 = .ok (.ireturn, 1) := dk_n (t := []) dk_g172 (by decide +kernel)
theorem dX5_house_103 : decode cX5_house 103 = .ok (.aload_n 0, 1) := dk_n (t := []) dk_g42 (by decide +kernel)
theorem dX5_house_104 : decode cX5_house 104 = .ok (.getfield 28, 3) := dk_u2 (y := 0) (z := 28) dk_g180 (by decide +kernel) rfl
theorem dX5_house_107 : decode cX5_house 107 = .ok (.getfield 123, 3) := dk_u2 (y := 0) (z := 123) dk_g180 (by decide +kernel) rfl
theorem dX5_house_110 : decode cX5_house 110 = .ok (.ireturn, 1) := dk_n (t := []) dk_g172 (by decide +kernel)
theorem dX5_house_111 : decode cX5_house 111 = .ok (.aload_n 0, 1) := dk_n (t := []) dk_g42 (by decide +kernel)
theorem dX5_house_112 : decode cX5_house 112 = .ok (.getfield 28, 3) := dk_u2 (y := 0) (z := 28) dk_g180 (by decide +kernel) rfl
theorem dX5_house_115 : decode cX5_house 115 = .ok (.invokevirtual 230, 3) := dk_u2 (y := 0) (z := 230) dk_g182 (by decide +kernel) rfl
theorem dX5_house_118 : decode cX5_house 118 = .ok (.ireturn, 1) := dk_n (t := []) dk_g172 (by decide +kernel)
theorem dX5_house_119 : decode cX5_house 119 = .ok (.aload_n 0, 1) := dk_n (t := []) dk_g42 (by decide +kernel)
theorem dX5_house_120 : decode cX5_house 120 = .ok (.getfield 21, 3) := dk_u2 (y := 0) (z := 21) dk_g180 (by decide +kernel) rfl
theorem dX5_house_123 : decode cX5_house 123 = .ok (.getfield 176, 3) := dk_u2 (y := 0) (z := 176) dk_g180 (by decide +kernel) rfl
theorem dX5_house_126 : decode cX5_house 126 = .ok (.getfield 233, 3) := dk_u2 (y := 0) (z := 233) dk_g180 (by decide +kernel) rfl
theorem dX5_house_129 : decode cX5_house 129 = .ok (.ireturn, 1) := dk_n (t := []) dk_g172 (by decide +kernel)
theorem dX5_house_130 : decode cX5_house 130 = .ok (.aload_n 0, 1) := dk_n (t := []) dk_g42 (by decide +kernel)
theorem dX5_house_131 : decode cX5_house 131 = .ok (.getfield 32, 3) := dk_u2 (y := 0) (z := 32) dk_g180 (by decide +kernel) rfl
theorem dX5_house_134 : decode cX5_house 134 = .ok (.ireturn, 1) := dk_n (t := []) dk_g172 (by decide +kernel)
theorem dX5_house_135 : decode cX5_house 135 = .ok (.new 40, 3) := dk_u2 (y := 0) (z := 40) dk_g187 (by decide +kernel) rfl
theorem dX5_house_138 : decode cX5_house 138 = .ok (.dup, 1) := dk_n (t := []) dk_g89 (by decide +kernel)
theorem dX5_house_139 : decode cX5_house 139 = .ok (.ldc 236, 2) := dk_u1 (y := 236) dk_g18 (by decide +kernel)
theorem dX5_house_141 : decode cX5_house 141 = .ok (.invokespecial 44, 3) := dk_u2 (y := 0) (z := 44) dk_g183 (by decide +kernel) rfl
theorem dX5_house_144 : decode cX5_house 144 = .ok (.athrow, 1) := dk_n (t := []) dk_g191 (by decide +kernel)
theorem dX5_value_0 : decode cX5_value 0 = .ok (.aload_n 0, 1) := dk_n (t := []) dk_g42 (by decide +kernel)
theorem dX5_value_1 : decode cX5_value 1 = .ok (.iload_n 1, 1) := dk_n (t := []) dk_g27 (by decide +kernel)
theorem dX5_value_2 : decode cX5_value 2 = .ok (.invokevirtual 62, 3) := dk_u2 (y := 0) (z := 62) dk_g182 (by decide +kernel) rfl
theorem dX5_value_5 : decode cX5_value 5 = .ok (.ifCond .ne 13, 3) := dk_s2 (y := 0) (z := 13) dk_g154 (by decide +kernel) rfl
theorem dX5_value_8 : decode cX5_value 8 = .ok (.new 65, 3) := dk_u2 (y := 0) (z := 65) dk_g187 (by decide +kernel) rfl
theorem dX5_value_11 : decode cX5_value 11 = .ok (.dup, 1) := dk_n (t := []) dk_g89 (by decide +kernel)
theorem dX5_value_12 : decode cX5_value 12 = .ok (.ldc 67, 2) := dk_u1 (y := 67) dk_g18 (by decide +kernel)
theorem dX5_value_14 : decode cX5_value 14 = .ok (.invokespecial 69, 3) := dk_u2 (y := 0) (z := 69) dk_g183 (by decide +kernel) rfl
theorem dX5_value_17 : decode cX5_value 17 = .ok (.athrow, 1) := dk_n (t := []) dk_g191 (by decide +kernel)
theorem dX5_value_18 : decode cX5_value 18 = .ok (.new 238, 3) := dk_u2 (y := 0) (z := 238) dk_g187 (by decide +kernel) rfl
theorem dX5_value_21 : decode cX5_value 21 = .ok (.dup, 1) := dk_n (t := []) dk_g89 (by decide +kernel)
theorem dX5_value_22 : decode cX5_value 22 = .ok (.invokespecial 240, 3) := dk_u2 (y := 0) (z := 240) dk_g183 (by decide +kernel) rfl
theorem dX5_value_25 : decode cX5_value 25 = .ok (.astore_n 2, 1) := dk_n (t := []) dk_g77 (by decide +kernel)
theorem dX5_value_26 : decode cX5_value 26 = .ok (.aload_n 0, 1) := dk_n (t := []) dk_g42 (by decide +kernel)
theorem dX5_value_27 : decode cX5_value 27 = .ok (.getfield 21, 3) := dk_u2 (y := 0) (z := 21) dk_g180 (by decide +kernel) rfl
theorem dX5_value_30 : decode cX5_value 30 = .ok (.getfield 113, 3) := dk_u2 (y := 0) (z := 113) dk_g180 (by decide +kernel) rfl
theorem dX5_value_33 : decode cX5_value 33 = .ok (.getfield 117, 3) := dk_u2 (y := 0) (z := 117) dk_g180 (by decide +kernel) rfl
theorem dX5_value_36 : decode cX5_value 36 = .ok (.ifCond .eq 10, 3) := dk_s2 (y := 0) (z := 10) dk_g153 (by decide +kernel) rfl
theorem dX5_value_39 : decode cX5_value 39 = .ok (.aload_n 2, 1) := dk_n (t := []) dk_g44 (by decide +kernel)
theorem dX5_value_40 : decode cX5_value 40 = .ok (.bipush 33, 2) := dk_s1 (y := 33) dk_g16 (by decide +kernel) rfl
theorem dX5_value_42 : decode cX5_value 42 = .ok (.invokevirtual 241, 3) := dk_u2 (y := 0) (z := 241) dk_g182 (by decide +kernel) rfl
theorem dX5_value_45 : decode cX5_value 45 = .ok (.pop, 1) := dk_n (t := []) dk_g87 (by decide +kernel)
theorem dX5_value_46 : decode cX5_value 46 = .ok (.iconst 0, 1) := dk_n (t := []) dk_g3 (by decide +kernel)
theorem dX5_value_47 : decode cX5_value 47 = .ok (.istore_n 3, 1) := dk_n (t := []) dk_g62 (by decide +kernel)
theorem dX5_value_48 : decode cX5_value 48 = .ok (.iload_n 3, 1) := dk_n (t := []) dk_g29 (by decide +kernel)
theorem dX5_value_49 : decode cX5_value 49 = .ok (.bipush 8, 2) := dk_s1 (y := 8) dk_g16 (by decide +kernel) rfl
theorem dX5_value_51 : decode cX5_value 51 = .ok (.if_icmp .ge 34, 3) := dk_s2 (y := 0) (z := 34) dk_g162 (by decide +kernel) rfl
theorem dX5_value_54 : decode cX5_value 54 = .ok (.aload_n 0, 1) := dk_n (t := []) dk_g42 (by decide +kernel)
theorem dX5_value_55 : decode cX5_value 55 = .ok (.getfield 21, 3) := dk_u2 (y := 0) (z := 21) dk_g180 (by decide +kernel) rfl
theorem dX5_value_58 : decode cX5_value 58 = .ok (.getfield 113, 3) := dk_u2 (y := 0) (z := 113) dk_g180 (by decide +kernel) rfl
theorem dX5_value_61 : decode cX5_value 61 = .ok (.getfield 168, 3) := dk_u2 (y := 0) (z := 168) dk_g180 (by decide +kernel) rfl
theorem dX5_value_64 : decode cX5_value 64 = .ok (.iload_n 1, 1) := dk_n (t := []) dk_g27 (by decide +kernel)
theorem dX5_value_65 : decode cX5_value 65 = .ok (.iaload, 1) := dk_n (t := []) dk_g46 (by decide +kernel)
theorem dX5_value_66 : decode cX5_value 66 = .ok (.iload_n 3, 1) := dk_n (t := []) dk_g29 (by decide +kernel)
theorem dX5_value_67 : decode cX5_value 67 = .ok (.invokestatic 142, 3) := dk_u2 (y := 0) (z := 142) dk_g184 (by decide +kernel) rfl
theorem dX5_value_70 : decode cX5_value 70 = .ok (.ifCond .eq 9, 3) := dk_s2 (y := 0) (z := 9) dk_g153 (by decide +kernel) rfl
theorem dX5_value_73 : decode cX5_value 73 = .ok (.aload_n 2, 1) := dk_n (t := []) dk_g44 (by decide +kernel)
theorem dX5_value_74 : decode cX5_value 74 = .ok (.iload_n 3, 1) := dk_n (t := []) dk_g29 (by decide +kernel)
theorem dX5_value_75 : decode cX5_value 75 = .ok (.invokevirtual 245, 3) := dk_u2 (y := 0) (z := 245) dk_g182 (by decide +kernel) rfl
theorem dX5_value_78 : decode cX5_value 78 = .ok (.pop, 1) := dk_n (t := []) dk_g87 (by decide +kernel)
theorem dX5_value_79 : decode cX5_value 79 = .ok (.iinc 3 1, 3) := dk_ii (y := 3) (z := 1) dk_g132 (by decide +kernel) rfl
theorem dX5_value_82 : decode cX5_value 82 = .ok (.goto (-34), 3) := dk_s2 (y := 255) (z := 222) dk_g167 (by decide +kernel) rfl
theorem dX5_value_85 : decode cX5_value 85 = .ok (.aload_n 0, 1) := dk_n (t := []) dk_g42 (by decide +kernel)
theorem dX5_value_86 : decode cX5_value 86 = .ok (.getfield 21, 3) := dk_u2 (y := 0) (z := 21) dk_g180 (by decide +kernel) rfl
theorem dX5_value_89 : decode cX5_value 89 = .ok (.getfield 128, 3) := dk_u2 (y := 0) (z := 128) dk_g180 (by decide +kernel) rfl
theorem dX5_value_92 : decode cX5_value 92 = .ok (.iload_n 1, 1) := dk_n (t := []) dk_g27 (by decide +kernel)
theorem dX5_value_93 : decode cX5_value 93 = .ok (.iaload, 1) := dk_n (t := []) dk_g46 (by decide +kernel)
theorem dX5_value_94 : decode cX5_value 94 = .ok (.iconst (-1), 1) := dk_n (t := []) dk_g2 (by decide +kernel)
theorem dX5_value_95 : decode cX5_value 95 = .ok (.if_icmp .eq 22, 3) := dk_s2 (y := 0) (z := 22) dk_g159 (by decide +kernel) rfl
theorem dX5_value_98 : decode cX5_value 98 = .ok (.aload_n 2, 1) := dk_n (t := []) dk_g44 (by decide +kernel)
theorem dX5_value_99 : decode cX5_value 99 = .ok (.bipush 61, 2) := dk_s1 (y := 61) dk_g16 (by decide +kernel) rfl
theorem dX5_value_101 : decode cX5_value 101 = .ok (.invokevirtual 241, 3) := dk_u2 (y := 0) (z := 241) dk_g182 (by decide +kernel) rfl
theorem dX5_value_104 : decode cX5_value 104 = .ok (.aload_n 0, 1) := dk_n (t := []) dk_g42 (by decide +kernel)
theorem dX5_value_105 : decode cX5_value 105 = .ok (.getfield 21, 3) := dk_u2 (y := 0) (z := 21) dk_g180 (by decide +kernel) rfl
theorem dX5_value_108 : decode cX5_value 108 = .ok (.getfield 128, 3) := dk_u2 (y := 0) (z := 128) dk_g180 (by decide +kernel) rfl
theorem dX5_value_111 : decode cX5_value 111 = .ok (.iload_n 1, 1) := dk_n (t := []) dk_g27 (by decide +kernel)
theorem dX5_value_112 : decode cX5_value 112 = .ok (.iaload, 1) := dk_n (t := []) dk_g46 (by decide +kernel)
theorem dX5_value_113 : decode cX5_value 113 = .ok (.invokevirtual 245, 3) := dk_u2 (y := 0) (z := 245) dk_g182 (by decide +kernel) rfl
theorem dX5_value_116 : decode cX5_value 116 = .ok (.pop, 1) := dk_n (t := []) dk_g87 (by decide +kernel)
theorem dX5_value_117 : decode cX5_value 117 = .ok (.aload_n 2, 1) := dk_n (t := []) dk_g44 (by decide +kernel)
theorem dX5_value_118 : decode cX5_value 118 = .ok (.invokevirtual 248, 3) := dk_u2 (y := 0) (z := 248) dk_g182 (by decide +kernel) rfl
theorem dX5_value_121 : decode cX5_value 121 = .ok (.areturn, 1) := dk_n (t := []) dk_g176 (by decide +kernel)
theorem dX5_reason_0 : decode cX5_reason 0 = .ok (.iload_n 1, 1) := dk_n (t := []) dk_g27 (by decide +kernel)
theorem dX5_reason_1 : decode cX5_reason 1 = .ok (.iconst (-1), 1) := dk_n (t := []) dk_g2 (by decide +kernel)
theorem dX5_reason_2 : decode cX5_reason 2 = .ok (.if_icmp .eq 21, 3) := dk_s2 (y := 0) (z := 21) dk_g159 (by decide +kernel) rfl
theorem dX5_reason_5 : decode cX5_reason 5 = .ok (.aload_n 0, 1) := dk_n (t := []) dk_g42 (by decide +kernel)
theorem dX5_reason_6 : decode cX5_reason 6 = .ok (.iload_n 1, 1) := dk_n (t := []) dk_g27 (by decide +kernel)
theorem dX5_reason_7 : decode cX5_reason 7 = .ok (.invokevirtual 62, 3) := dk_u2 (y := 0) (z := 62) dk_g182 (by decide +kernel) rfl
theorem dX5_reason_10 : decode cX5_reason 10 = .ok (.ifCond .ne 13, 3) := dk_s2 (y := 0) (z := 13) dk_g154 (by decide +kernel) rfl
theorem dX5_reason_13 : decode cX5_reason 13 = .ok (.new 65, 3) := dk_u2 (y := 0) (z := 65) dk_g187 (by decide +kernel) rfl
theorem dX5_reason_16 : decode cX5_reason 16 = .ok (.dup, 1) := dk_n (t := []) dk_g89 (by decide +kernel)
theorem dX5_reason_17 : decode cX5_reason 17 = .ok (.ldc 67, 2) := dk_u1 (y := 67) dk_g18 (by decide +kernel)
theorem dX5_reason_19 : decode cX5_reason 19 = .ok (.invokespecial 69, 3) := dk_u2 (y := 0) (z := 69) dk_g183 (by decide +kernel) rfl
theorem dX5_reason_22 : decode cX5_reason 22 = .ok (.athrow, 1) := dk_n (t := []) dk_g191 (by decide +kernel)
theorem dX5_reason_23 : decode cX5_reason 23 = .ok (.aload_n 0, 1) := dk_n (t := []) dk_g42 (by decide +kernel)
theorem dX5_reason_24 : decode cX5_reason 24 = .ok (.getfield 21, 3) := dk_u2 (y := 0) (z := 21) dk_g180 (by decide +kernel) rfl
theorem dX5_reason_27 : decode cX5_reason 27 = .ok (.iload_n 1, 1) := dk_n (t := []) dk_g27 (by decide +kernel)
theorem dX5_reason_28 : decode cX5_reason 28 = .ok (.invokevirtual 205, 3) := dk_u2 (y := 0) (z := 205) dk_g182 (by decide +kernel) rfl
theorem dX5_reason_31 : decode cX5_reason 31 = .ok (.ireturn, 1) := dk_n (t := []) dk_g172 (by decide +kernel)
theorem dX5_met_0 : decode cX5_met 0 = .ok (.aload_n 0, 1) := dk_n (t := []) dk_g42 (by decide +kernel)
theorem dX5_met_1 : decode cX5_met 1 = .ok (.iload_n 2, 1) := dk_n (t := []) dk_g28 (by decide +kernel)
theorem dX5_met_2 : decode cX5_met 2 = .ok (.invokevirtual 62, 3) := dk_u2 (y := 0) (z := 62) dk_g182 (by decide +kernel) rfl
theorem dX5_met_5 : decode cX5_met 5 = .ok (.ifCond .ne 13, 3) := dk_s2 (y := 0) (z := 13) dk_g154 (by decide +kernel) rfl
theorem dX5_met_8 : decode cX5_met 8 = .ok (.new 65, 3) := dk_u2 (y := 0) (z := 65) dk_g187 (by decide +kernel) rfl
theorem dX5_met_11 : decode cX5_met 11 = .ok (.dup, 1) := dk_n (t := []) dk_g89 (by decide +kernel)
theorem dX5_met_12 : decode cX5_met 12 = .ok (.ldc 67, 2) := dk_u1 (y := 67) dk_g18 (by decide +kernel)
theorem dX5_met_14 : decode cX5_met 14 = .ok (.invokespecial 69, 3) := dk_u2 (y := 0) (z := 69) dk_g183 (by decide +kernel) rfl
theorem dX5_met_17 : decode cX5_met 17 = .ok (.athrow, 1) := dk_n (t := []) dk_g191 (by decide +kernel)
theorem dX5_met_18 : decode cX5_met 18 = .ok (.iload_n 1, 1) := dk_n (t := []) dk_g27 (by decide +kernel)
theorem dX5_met_19 : decode cX5_met 19 = .ok (.ifCond .lt 15, 3) := dk_s2 (y := 0) (z := 15) dk_g155 (by decide +kernel) rfl
theorem dX5_met_22 : decode cX5_met 22 = .ok (.iload_n 1, 1) := dk_n (t := []) dk_g27 (by decide +kernel)
theorem dX5_met_23 : decode cX5_met 23 = .ok (.aload_n 0, 1) := dk_n (t := []) dk_g42 (by decide +kernel)
theorem dX5_met_24 : decode cX5_met 24 = .ok (.getfield 10, 3) := dk_u2 (y := 0) (z := 10) dk_g180 (by decide +kernel) rfl
theorem dX5_met_27 : decode cX5_met 27 = .ok (.getfield 72, 3) := dk_u2 (y := 0) (z := 72) dk_g180 (by decide +kernel) rfl
theorem dX5_met_30 : decode cX5_met 30 = .ok (.ishr, 1) := dk_n (t := []) dk_g122 (by decide +kernel)
theorem dX5_met_31 : decode cX5_met 31 = .ok (.ifCond .eq 13, 3) := dk_s2 (y := 0) (z := 13) dk_g153 (by decide +kernel) rfl
theorem dX5_met_34 : decode cX5_met 34 = .ok (.new 40, 3) := dk_u2 (y := 0) (z := 40) dk_g187 (by decide +kernel) rfl
theorem dX5_met_37 : decode cX5_met 37 = .ok (.dup, 1) := dk_n (t := []) dk_g89 (by decide +kernel)
theorem dX5_met_38 : decode cX5_met 38 = .ok (.ldc 252, 2) := dk_u1 (y := 252) dk_g18 (by decide +kernel)
theorem dX5_met_40 : decode cX5_met 40 = .ok (.invokespecial 44, 3) := dk_u2 (y := 0) (z := 44) dk_g183 (by decide +kernel) rfl
theorem dX5_met_43 : decode cX5_met 43 = .ok (.athrow, 1) := dk_n (t := []) dk_g191 (by decide +kernel)
theorem dX5_met_44 : decode cX5_met 44 = .ok (.aload_n 0, 1) := dk_n (t := []) dk_g42 (by decide +kernel)
theorem dX5_met_45 : decode cX5_met 45 = .ok (.getfield 21, 3) := dk_u2 (y := 0) (z := 21) dk_g180 (by decide +kernel) rfl
theorem dX5_met_48 : decode cX5_met 48 = .ok (.getfield 254, 3) := dk_u2 (y := 0) (z := 254) dk_g180 (by decide +kernel) rfl
theorem dX5_met_51 : decode cX5_met 51 = .ok (.iload_n 1, 1) := dk_n (t := []) dk_g27 (by decide +kernel)
theorem dX5_met_52 : decode cX5_met 52 = .ok (.invokevirtual 257, 3) := dk_u2 (y := 1) (z := 1) dk_g182 (by decide +kernel) rfl
theorem dX5_met_55 : decode cX5_met 55 = .ok (.aload_n 0, 1) := dk_n (t := []) dk_g42 (by decide +kernel)
theorem dX5_met_56 : decode cX5_met 56 = .ok (.getfield 21, 3) := dk_u2 (y := 0) (z := 21) dk_g180 (by decide +kernel) rfl
theorem dX5_met_59 : decode cX5_met 59 = .ok (.getfield 254, 3) := dk_u2 (y := 0) (z := 254) dk_g180 (by decide +kernel) rfl
theorem dX5_met_62 : decode cX5_met 62 = .ok (.getfield 168, 3) := dk_u2 (y := 0) (z := 168) dk_g180 (by decide +kernel) rfl
theorem dX5_met_65 : decode cX5_met 65 = .ok (.iload_n 2, 1) := dk_n (t := []) dk_g28 (by decide +kernel)
theorem dX5_met_66 : decode cX5_met 66 = .ok (.iaload, 1) := dk_n (t := []) dk_g46 (by decide +kernel)
theorem dX5_met_67 : decode cX5_met 67 = .ok (.ireturn, 1) := dk_n (t := []) dk_g172 (by decide +kernel)
theorem dX5_choices_0 : decode cX5_choices 0 = .ok (.aload_n 0, 1) := dk_n (t := []) dk_g42 (by decide +kernel)
theorem dX5_choices_1 : decode cX5_choices 1 = .ok (.iload_n 1, 1) := dk_n (t := []) dk_g27 (by decide +kernel)
theorem dX5_choices_2 : decode cX5_choices 2 = .ok (.invokevirtual 62, 3) := dk_u2 (y := 0) (z := 62) dk_g182 (by decide +kernel) rfl
theorem dX5_choices_5 : decode cX5_choices 5 = .ok (.ifCond .ne 13, 3) := dk_s2 (y := 0) (z := 13) dk_g154 (by decide +kernel) rfl
theorem dX5_choices_8 : decode cX5_choices 8 = .ok (.new 65, 3) := dk_u2 (y := 0) (z := 65) dk_g187 (by decide +kernel) rfl
theorem dX5_choices_11 : decode cX5_choices 11 = .ok (.dup, 1) := dk_n (t := []) dk_g89 (by decide +kernel)
theorem dX5_choices_12 : decode cX5_choices 12 = .ok (.ldc 67, 2) := dk_u1 (y := 67) dk_g18 (by decide +kernel)
theorem dX5_choices_14 : decode cX5_choices 14 = .ok (.invokespecial 69, 3) := dk_u2 (y := 0) (z := 69) dk_g183 (by decide +kernel) rfl
theorem dX5_choices_17 : decode cX5_choices 17 = .ok (.athrow, 1) := dk_n (t := []) dk_g191 (by decide +kernel)
theorem dX5_choices_18 : decode cX5_choices 18 = .ok (.iload_n 2, 1) := dk_n (t := []) dk_g28 (by decide +kernel)
theorem dX5_choices_19 : decode cX5_choices 19 = .ok (.invokestatic 81, 3) := dk_u2 (y := 0) (z := 81) dk_g184 (by decide +kernel) rfl
theorem dX5_choices_22 : decode cX5_choices 22 = .ok (.ifCond .ne 13, 3) := dk_s2 (y := 0) (z := 13) dk_g154 (by decide +kernel) rfl
theorem dX5_choices_25 : decode cX5_choices 25 = .ok (.new 40, 3) := dk_u2 (y := 0) (z := 40) dk_g187 (by decide +kernel) rfl
theorem dX5_choices_28 : decode cX5_choices 28 = .ok (.dup, 1) := dk_n (t := []) dk_g89 (by decide +kernel)
theorem dX5_choices_29 : decode cX5_choices 29 = .ok (.ldc 154, 2) := dk_u1 (y := 154) dk_g18 (by decide +kernel)
theorem dX5_choices_31 : decode cX5_choices 31 = .ok (.invokespecial 44, 3) := dk_u2 (y := 0) (z := 44) dk_g183 (by decide +kernel) rfl
theorem dX5_choices_34 : decode cX5_choices 34 = .ok (.athrow, 1) := dk_n (t := []) dk_g191 (by decide +kernel)
theorem dX5_choices_35 : decode cX5_choices 35 = .ok (.aload_n 0, 1) := dk_n (t := []) dk_g42 (by decide +kernel)
theorem dX5_choices_36 : decode cX5_choices 36 = .ok (.getfield 21, 3) := dk_u2 (y := 0) (z := 21) dk_g180 (by decide +kernel) rfl
theorem dX5_choices_39 : decode cX5_choices 39 = .ok (.getfield 176, 3) := dk_u2 (y := 0) (z := 176) dk_g180 (by decide +kernel) rfl
theorem dX5_choices_42 : decode cX5_choices 42 = .ok (.aload_n 0, 1) := dk_n (t := []) dk_g42 (by decide +kernel)
theorem dX5_choices_43 : decode cX5_choices 43 = .ok (.getfield 21, 3) := dk_u2 (y := 0) (z := 21) dk_g180 (by decide +kernel) rfl
theorem dX5_choices_46 : decode cX5_choices 46 = .ok (.getfield 113, 3) := dk_u2 (y := 0) (z := 113) dk_g180 (by decide +kernel) rfl
theorem dX5_choices_49 : decode cX5_choices 49 = .ok (.iload_n 1, 1) := dk_n (t := []) dk_g27 (by decide +kernel)
theorem dX5_choices_50 : decode cX5_choices 50 = .ok (.iload_n 2, 1) := dk_n (t := []) dk_g28 (by decide +kernel)
theorem dX5_choices_51 : decode cX5_choices 51 = .ok (.invokevirtual 261, 3) := dk_u2 (y := 1) (z := 5) dk_g182 (by decide +kernel) rfl
theorem dX5_choices_54 : decode cX5_choices 54 = .ok (.ireturn, 1) := dk_n (t := []) dk_g172 (by decide +kernel)
theorem dX5_isNarrower_0 : decode cX5_isNarrower 0 = .ok (.aload_n 0, 1) := dk_n (t := []) dk_g42 (by decide +kernel)
theorem dX5_isNarrower_1 : decode cX5_isNarrower 1 = .ok (.iload_n 1, 1) := dk_n (t := []) dk_g27 (by decide +kernel)
theorem dX5_isNarrower_2 : decode cX5_isNarrower 2 = .ok (.invokevirtual 62, 3) := dk_u2 (y := 0) (z := 62) dk_g182 (by decide +kernel) rfl
theorem dX5_isNarrower_5 : decode cX5_isNarrower 5 = .ok (.ifCond .eq 11, 3) := dk_s2 (y := 0) (z := 11) dk_g153 (by decide +kernel) rfl
theorem dX5_isNarrower_8 : decode cX5_isNarrower 8 = .ok (.aload_n 0, 1) := dk_n (t := []) dk_g42 (by decide +kernel)
theorem dX5_isNarrower_9 : decode cX5_isNarrower 9 = .ok (.iload_n 2, 1) := dk_n (t := []) dk_g28 (by decide +kernel)
theorem dX5_isNarrower_10 : decode cX5_isNarrower 10 = .ok (.invokevirtual 62, 3) := dk_u2 (y := 0) (z := 62) dk_g182 (by decide +kernel) rfl
theorem dX5_isNarrower_13 : decode cX5_isNarrower 13 = .ok (.ifCond .ne 13, 3) := dk_s2 (y := 0) (z := 13) dk_g154 (by decide +kernel) rfl
theorem dX5_isNarrower_16 : decode cX5_isNarrower 16 = .ok (.new 65, 3) := dk_u2 (y := 0) (z := 65) dk_g187 (by decide +kernel) rfl
theorem dX5_isNarrower_19 : decode cX5_isNarrower 19 = .ok (.dup, 1) := dk_n (t := []) dk_g89 (by decide +kernel)
theorem dX5_isNarrower_20 : decode cX5_isNarrower 20 = .ok (.ldc 67, 2) := dk_u1 (y := 67) dk_g18 (by decide +kernel)
theorem dX5_isNarrower_22 : decode cX5_isNarrower 22 = .ok (.invokespecial 69, 3) := dk_u2 (y := 0) (z := 69) dk_g183 (by decide +kernel) rfl
theorem dX5_isNarrower_25 : decode cX5_isNarrower 25 = .ok (.athrow, 1) := dk_n (t := []) dk_g191 (by decide +kernel)
theorem dX5_isNarrower_26 : decode cX5_isNarrower 26 = .ok (.aload_n 0, 1) := dk_n (t := []) dk_g42 (by decide +kernel)
theorem dX5_isNarrower_27 : decode cX5_isNarrower 27 = .ok (.getfield 21, 3) := dk_u2 (y := 0) (z := 21) dk_g180 (by decide +kernel) rfl
theorem dX5_isNarrower_30 : decode cX5_isNarrower 30 = .ok (.getfield 113, 3) := dk_u2 (y := 0) (z := 113) dk_g180 (by decide +kernel) rfl
theorem dX5_isNarrower_33 : decode cX5_isNarrower 33 = .ok (.getfield 168, 3) := dk_u2 (y := 0) (z := 168) dk_g180 (by decide +kernel) rfl
theorem dX5_isNarrower_36 : decode cX5_isNarrower 36 = .ok (.iload_n 1, 1) := dk_n (t := []) dk_g27 (by decide +kernel)
theorem dX5_isNarrower_37 : decode cX5_isNarrower 37 = .ok (.iaload, 1) := dk_n (t := []) dk_g46 (by decide +kernel)
theorem dX5_isNarrower_38 : decode cX5_isNarrower 38 = .ok (.aload_n 0, 1) := dk_n (t := []) dk_g42 (by decide +kernel)
theorem dX5_isNarrower_39 : decode cX5_isNarrower 39 = .ok (.getfield 21, 3) := dk_u2 (y := 0) (z := 21) dk_g180 (by decide +kernel) rfl
theorem dX5_isNarrower_42 : decode cX5_isNarrower 42 = .ok (.getfield 113, 3) := dk_u2 (y := 0) (z := 113) dk_g180 (by decide +kernel) rfl
theorem dX5_isNarrower_45 : decode cX5_isNarrower 45 = .ok (.getfield 168, 3) := dk_u2 (y := 0) (z := 168) dk_g180 (by decide +kernel) rfl
theorem dX5_isNarrower_48 : decode cX5_isNarrower 48 = .ok (.iload_n 2, 1) := dk_n (t := []) dk_g28 (by decide +kernel)
theorem dX5_isNarrower_49 : decode cX5_isNarrower 49 = .ok (.iaload, 1) := dk_n (t := []) dk_g46 (by decide +kernel)
theorem dX5_isNarrower_50 : decode cX5_isNarrower 50 = .ok (.iconst (-1), 1) := dk_n (t := []) dk_g2 (by decide +kernel)
theorem dX5_isNarrower_51 : decode cX5_isNarrower 51 = .ok (.ixor, 1) := dk_n (t := []) dk_g130 (by decide +kernel)
theorem dX5_isNarrower_52 : decode cX5_isNarrower 52 = .ok (.iand, 1) := dk_n (t := []) dk_g126 (by decide +kernel)
theorem dX5_isNarrower_53 : decode cX5_isNarrower 53 = .ok (.ifCond .ne 7, 3) := dk_s2 (y := 0) (z := 7) dk_g154 (by decide +kernel) rfl
theorem dX5_isNarrower_56 : decode cX5_isNarrower 56 = .ok (.iconst 1, 1) := dk_n (t := []) dk_g4 (by decide +kernel)
theorem dX5_isNarrower_57 : decode cX5_isNarrower 57 = .ok (.goto 4, 3) := dk_s2 (y := 0) (z := 4) dk_g167 (by decide +kernel) rfl
theorem dX5_isNarrower_60 : decode cX5_isNarrower 60 = .ok (.iconst 0, 1) := dk_n (t := []) dk_g3 (by decide +kernel)
theorem dX5_isNarrower_61 : decode cX5_isNarrower 61 = .ok (.ireturn, 1) := dk_n (t := []) dk_g172 (by decide +kernel)
theorem dX5_isSound_0 : decode cX5_isSound 0 = .ok (.iconst 0, 1) := dk_n (t := []) dk_g3 (by decide +kernel)
theorem dX5_isSound_1 : decode cX5_isSound 1 = .ok (.istore_n 1, 1) := dk_n (t := []) dk_g60 (by decide +kernel)
theorem dX5_isSound_2 : decode cX5_isSound 2 = .ok (.iload_n 1, 1) := dk_n (t := []) dk_g27 (by decide +kernel)
theorem dX5_isSound_3 : decode cX5_isSound 3 = .ok (.aload_n 0, 1) := dk_n (t := []) dk_g42 (by decide +kernel)
theorem dX5_isSound_4 : decode cX5_isSound 4 = .ok (.getfield 10, 3) := dk_u2 (y := 0) (z := 10) dk_g180 (by decide +kernel) rfl
theorem dX5_isSound_7 : decode cX5_isSound 7 = .ok (.getfield 47, 3) := dk_u2 (y := 0) (z := 47) dk_g180 (by decide +kernel) rfl
theorem dX5_isSound_10 : decode cX5_isSound 10 = .ok (.if_icmp .ge 76, 3) := dk_s2 (y := 0) (z := 76) dk_g162 (by decide +kernel) rfl
theorem dX5_isSound_13 : decode cX5_isSound 13 = .ok (.aload_n 0, 1) := dk_n (t := []) dk_g42 (by decide +kernel)
theorem dX5_isSound_14 : decode cX5_isSound 14 = .ok (.getfield 21, 3) := dk_u2 (y := 0) (z := 21) dk_g180 (by decide +kernel) rfl
theorem dX5_isSound_17 : decode cX5_isSound 17 = .ok (.getfield 113, 3) := dk_u2 (y := 0) (z := 113) dk_g180 (by decide +kernel) rfl
theorem dX5_isSound_20 : decode cX5_isSound 20 = .ok (.getfield 168, 3) := dk_u2 (y := 0) (z := 168) dk_g180 (by decide +kernel) rfl
theorem dX5_isSound_23 : decode cX5_isSound 23 = .ok (.iload_n 1, 1) := dk_n (t := []) dk_g27 (by decide +kernel)
theorem dX5_isSound_24 : decode cX5_isSound 24 = .ok (.iaload, 1) := dk_n (t := []) dk_g46 (by decide +kernel)
theorem dX5_isSound_25 : decode cX5_isSound 25 = .ok (.istore_n 2, 1) := dk_n (t := []) dk_g61 (by decide +kernel)
theorem dX5_isSound_26 : decode cX5_isSound 26 = .ok (.aload_n 0, 1) := dk_n (t := []) dk_g42 (by decide +kernel)
theorem dX5_isSound_27 : decode cX5_isSound 27 = .ok (.getfield 21, 3) := dk_u2 (y := 0) (z := 21) dk_g180 (by decide +kernel) rfl
theorem dX5_isSound_30 : decode cX5_isSound 30 = .ok (.getfield 128, 3) := dk_u2 (y := 0) (z := 128) dk_g180 (by decide +kernel) rfl
theorem dX5_isSound_33 : decode cX5_isSound 33 = .ok (.iload_n 1, 1) := dk_n (t := []) dk_g27 (by decide +kernel)
theorem dX5_isSound_34 : decode cX5_isSound 34 = .ok (.iaload, 1) := dk_n (t := []) dk_g46 (by decide +kernel)
theorem dX5_isSound_35 : decode cX5_isSound 35 = .ok (.istore_n 3, 1) := dk_n (t := []) dk_g62 (by decide +kernel)
theorem dX5_isSound_36 : decode cX5_isSound 36 = .ok (.aload_n 0, 1) := dk_n (t := []) dk_g42 (by decide +kernel)
theorem dX5_isSound_37 : decode cX5_isSound 37 = .ok (.getfield 21, 3) := dk_u2 (y := 0) (z := 21) dk_g180 (by decide +kernel) rfl
theorem dX5_isSound_40 : decode cX5_isSound 40 = .ok (.getfield 176, 3) := dk_u2 (y := 0) (z := 176) dk_g180 (by decide +kernel) rfl
theorem dX5_isSound_43 : decode cX5_isSound 43 = .ok (.getfield 180, 3) := dk_u2 (y := 0) (z := 180) dk_g180 (by decide +kernel) rfl
theorem dX5_isSound_46 : decode cX5_isSound 46 = .ok (.iload_n 1, 1) := dk_n (t := []) dk_g27 (by decide +kernel)
theorem dX5_isSound_47 : decode cX5_isSound 47 = .ok (.iaload, 1) := dk_n (t := []) dk_g46 (by decide +kernel)
theorem dX5_isSound_48 : decode cX5_isSound 48 = .ok (.istore 4, 2) := dk_u1 (y := 4) dk_g54 (by decide +kernel)
theorem dX5_isSound_50 : decode cX5_isSound 50 = .ok (.iload_n 3, 1) := dk_n (t := []) dk_g29 (by decide +kernel)
theorem dX5_isSound_51 : decode cX5_isSound 51 = .ok (.iconst (-1), 1) := dk_n (t := []) dk_g2 (by decide +kernel)
theorem dX5_isSound_52 : decode cX5_isSound 52 = .ok (.if_icmp .eq 11, 3) := dk_s2 (y := 0) (z := 11) dk_g159 (by decide +kernel) rfl
theorem dX5_isSound_55 : decode cX5_isSound 55 = .ok (.iload_n 2, 1) := dk_n (t := []) dk_g28 (by decide +kernel)
theorem dX5_isSound_56 : decode cX5_isSound 56 = .ok (.iload_n 3, 1) := dk_n (t := []) dk_g29 (by decide +kernel)
theorem dX5_isSound_57 : decode cX5_isSound 57 = .ok (.invokestatic 142, 3) := dk_u2 (y := 0) (z := 142) dk_g184 (by decide +kernel) rfl
theorem dX5_isSound_60 : decode cX5_isSound 60 = .ok (.ifCond .eq 18, 3) := dk_s2 (y := 0) (z := 18) dk_g153 (by decide +kernel) rfl
theorem dX5_isSound_63 : decode cX5_isSound 63 = .ok (.iload 4, 2) := dk_u1 (y := 4) dk_g21 (by decide +kernel)
theorem dX5_isSound_65 : decode cX5_isSound 65 = .ok (.iconst (-1), 1) := dk_n (t := []) dk_g2 (by decide +kernel)
theorem dX5_isSound_66 : decode cX5_isSound 66 = .ok (.if_icmp .eq 14, 3) := dk_s2 (y := 0) (z := 14) dk_g159 (by decide +kernel) rfl
theorem dX5_isSound_69 : decode cX5_isSound 69 = .ok (.iload_n 2, 1) := dk_n (t := []) dk_g28 (by decide +kernel)
theorem dX5_isSound_70 : decode cX5_isSound 70 = .ok (.iload 4, 2) := dk_u1 (y := 4) dk_g21 (by decide +kernel)
theorem dX5_isSound_72 : decode cX5_isSound 72 = .ok (.invokestatic 142, 3) := dk_u2 (y := 0) (z := 142) dk_g184 (by decide +kernel) rfl
theorem dX5_isSound_75 : decode cX5_isSound 75 = .ok (.ifCond .ne 5, 3) := dk_s2 (y := 0) (z := 5) dk_g154 (by decide +kernel) rfl
theorem dX5_isSound_78 : decode cX5_isSound 78 = .ok (.iconst 0, 1) := dk_n (t := []) dk_g3 (by decide +kernel)
theorem dX5_isSound_79 : decode cX5_isSound 79 = .ok (.ireturn, 1) := dk_n (t := []) dk_g172 (by decide +kernel)
theorem dX5_isSound_80 : decode cX5_isSound 80 = .ok (.iinc 1 1, 3) := dk_ii (y := 1) (z := 1) dk_g132 (by decide +kernel) rfl
theorem dX5_isSound_83 : decode cX5_isSound 83 = .ok (.goto (-81), 3) := dk_s2 (y := 255) (z := 175) dk_g167 (by decide +kernel) rfl
theorem dX5_isSound_86 : decode cX5_isSound 86 = .ok (.iconst 0, 1) := dk_n (t := []) dk_g3 (by decide +kernel)
theorem dX5_isSound_87 : decode cX5_isSound 87 = .ok (.istore_n 1, 1) := dk_n (t := []) dk_g60 (by decide +kernel)
theorem dX5_isSound_88 : decode cX5_isSound 88 = .ok (.iload_n 1, 1) := dk_n (t := []) dk_g27 (by decide +kernel)
theorem dX5_isSound_89 : decode cX5_isSound 89 = .ok (.aload_n 0, 1) := dk_n (t := []) dk_g42 (by decide +kernel)
theorem dX5_isSound_90 : decode cX5_isSound 90 = .ok (.getfield 10, 3) := dk_u2 (y := 0) (z := 10) dk_g180 (by decide +kernel) rfl
theorem dX5_isSound_93 : decode cX5_isSound 93 = .ok (.getfield 72, 3) := dk_u2 (y := 0) (z := 72) dk_g180 (by decide +kernel) rfl
theorem dX5_isSound_96 : decode cX5_isSound 96 = .ok (.if_icmp .ge 34, 3) := dk_s2 (y := 0) (z := 34) dk_g162 (by decide +kernel) rfl
theorem dX5_isSound_99 : decode cX5_isSound 99 = .ok (.aload_n 0, 1) := dk_n (t := []) dk_g42 (by decide +kernel)
theorem dX5_isSound_100 : decode cX5_isSound 100 = .ok (.getfield 10, 3) := dk_u2 (y := 0) (z := 10) dk_g180 (by decide +kernel) rfl
theorem dX5_isSound_103 : decode cX5_isSound 103 = .ok (.getfield 104, 3) := dk_u2 (y := 0) (z := 104) dk_g180 (by decide +kernel) rfl
theorem dX5_isSound_106 : decode cX5_isSound 106 = .ok (.iload_n 1, 1) := dk_n (t := []) dk_g27 (by decide +kernel)
theorem dX5_isSound_107 : decode cX5_isSound 107 = .ok (.baload, 1) := dk_n (t := []) dk_g51 (by decide +kernel)
theorem dX5_isSound_108 : decode cX5_isSound 108 = .ok (.ifCond .eq 16, 3) := dk_s2 (y := 0) (z := 16) dk_g153 (by decide +kernel) rfl
theorem dX5_isSound_111 : decode cX5_isSound 111 = .ok (.aload_n 0, 1) := dk_n (t := []) dk_g42 (by decide +kernel)
theorem dX5_isSound_112 : decode cX5_isSound 112 = .ok (.getfield 10, 3) := dk_u2 (y := 0) (z := 10) dk_g180 (by decide +kernel) rfl
theorem dX5_isSound_115 : decode cX5_isSound 115 = .ok (.iload_n 1, 1) := dk_n (t := []) dk_g27 (by decide +kernel)
theorem dX5_isSound_116 : decode cX5_isSound 116 = .ok (.invokevirtual 101, 3) := dk_u2 (y := 0) (z := 101) dk_g182 (by decide +kernel) rfl
theorem dX5_isSound_119 : decode cX5_isSound 119 = .ok (.ifCond .eq 5, 3) := dk_s2 (y := 0) (z := 5) dk_g153 (by decide +kernel) rfl
theorem dX5_isSound_122 : decode cX5_isSound 122 = .ok (.iconst 0, 1) := dk_n (t := []) dk_g3 (by decide +kernel)
theorem dX5_isSound_123 : decode cX5_isSound 123 = .ok (.ireturn, 1) := dk_n (t := []) dk_g172 (by decide +kernel)
theorem dX5_isSound_124 : decode cX5_isSound 124 = .ok (.iinc 1 1, 3) := dk_ii (y := 1) (z := 1) dk_g132 (by decide +kernel) rfl
theorem dX5_isSound_127 : decode cX5_isSound 127 = .ok (.goto (-39), 3) := dk_s2 (y := 255) (z := 217) dk_g167 (by decide +kernel) rfl
theorem dX5_isSound_130 : decode cX5_isSound 130 = .ok (.iconst 0, 1) := dk_n (t := []) dk_g3 (by decide +kernel)
theorem dX5_isSound_131 : decode cX5_isSound 131 = .ok (.istore_n 1, 1) := dk_n (t := []) dk_g60 (by decide +kernel)
theorem dX5_isSound_132 : decode cX5_isSound 132 = .ok (.iload_n 1, 1) := dk_n (t := []) dk_g27 (by decide +kernel)
theorem dX5_isSound_133 : decode cX5_isSound 133 = .ok (.bipush 6, 2) := dk_s1 (y := 6) dk_g16 (by decide +kernel) rfl
theorem dX5_isSound_135 : decode cX5_isSound 135 = .ok (.if_icmp .ge 35, 3) := dk_s2 (y := 0) (z := 35) dk_g162 (by decide +kernel) rfl
theorem dX5_isSound_138 : decode cX5_isSound 138 = .ok (.aload_n 0, 1) := dk_n (t := []) dk_g42 (by decide +kernel)
theorem dX5_isSound_139 : decode cX5_isSound 139 = .ok (.getfield 28, 3) := dk_u2 (y := 0) (z := 28) dk_g180 (by decide +kernel) rfl
theorem dX5_isSound_142 : decode cX5_isSound 142 = .ok (.getfield 210, 3) := dk_u2 (y := 0) (z := 210) dk_g180 (by decide +kernel) rfl
theorem dX5_isSound_145 : decode cX5_isSound 145 = .ok (.iload_n 1, 1) := dk_n (t := []) dk_g27 (by decide +kernel)
theorem dX5_isSound_146 : decode cX5_isSound 146 = .ok (.iaload, 1) := dk_n (t := []) dk_g46 (by decide +kernel)
theorem dX5_isSound_147 : decode cX5_isSound 147 = .ok (.iconst (-1), 1) := dk_n (t := []) dk_g2 (by decide +kernel)
theorem dX5_isSound_148 : decode cX5_isSound 148 = .ok (.if_icmp .ne 16, 3) := dk_s2 (y := 0) (z := 16) dk_g160 (by decide +kernel) rfl
theorem dX5_isSound_151 : decode cX5_isSound 151 = .ok (.aload_n 0, 1) := dk_n (t := []) dk_g42 (by decide +kernel)
theorem dX5_isSound_152 : decode cX5_isSound 152 = .ok (.getfield 28, 3) := dk_u2 (y := 0) (z := 28) dk_g180 (by decide +kernel) rfl
theorem dX5_isSound_155 : decode cX5_isSound 155 = .ok (.iload_n 1, 1) := dk_n (t := []) dk_g27 (by decide +kernel)
theorem dX5_isSound_156 : decode cX5_isSound 156 = .ok (.invokevirtual 213, 3) := dk_u2 (y := 0) (z := 213) dk_g182 (by decide +kernel) rfl
theorem dX5_isSound_159 : decode cX5_isSound 159 = .ok (.ifCond .eq 5, 3) := dk_s2 (y := 0) (z := 5) dk_g153 (by decide +kernel) rfl
theorem dX5_isSound_162 : decode cX5_isSound 162 = .ok (.iconst 0, 1) := dk_n (t := []) dk_g3 (by decide +kernel)
theorem dX5_isSound_163 : decode cX5_isSound 163 = .ok (.ireturn, 1) := dk_n (t := []) dk_g172 (by decide +kernel)
theorem dX5_isSound_164 : decode cX5_isSound 164 = .ok (.iinc 1 1, 3) := dk_ii (y := 1) (z := 1) dk_g132 (by decide +kernel) rfl
theorem dX5_isSound_167 : decode cX5_isSound 167 = .ok (.goto (-35), 3) := dk_s2 (y := 255) (z := 221) dk_g167 (by decide +kernel) rfl
theorem dX5_isSound_170 : decode cX5_isSound 170 = .ok (.aload_n 0, 1) := dk_n (t := []) dk_g42 (by decide +kernel)
theorem dX5_isSound_171 : decode cX5_isSound 171 = .ok (.getfield 21, 3) := dk_u2 (y := 0) (z := 21) dk_g180 (by decide +kernel) rfl
theorem dX5_isSound_174 : decode cX5_isSound 174 = .ok (.getfield 113, 3) := dk_u2 (y := 0) (z := 113) dk_g180 (by decide +kernel) rfl
theorem dX5_isSound_177 : decode cX5_isSound 177 = .ok (.getfield 117, 3) := dk_u2 (y := 0) (z := 117) dk_g180 (by decide +kernel) rfl
theorem dX5_isSound_180 : decode cX5_isSound 180 = .ok (.ifCond .ne 5, 3) := dk_s2 (y := 0) (z := 5) dk_g154 (by decide +kernel) rfl
theorem dX5_isSound_183 : decode cX5_isSound 183 = .ok (.iconst 1, 1) := dk_n (t := []) dk_g4 (by decide +kernel)
theorem dX5_isSound_184 : decode cX5_isSound 184 = .ok (.ireturn, 1) := dk_n (t := []) dk_g172 (by decide +kernel)
theorem dX5_isSound_185 : decode cX5_isSound 185 = .ok (.aload_n 0, 1) := dk_n (t := []) dk_g42 (by decide +kernel)
theorem dX5_isSound_186 : decode cX5_isSound 186 = .ok (.getfield 21, 3) := dk_u2 (y := 0) (z := 21) dk_g180 (by decide +kernel) rfl
theorem dX5_isSound_189 : decode cX5_isSound 189 = .ok (.getfield 254, 3) := dk_u2 (y := 0) (z := 254) dk_g180 (by decide +kernel) rfl
theorem dX5_isSound_192 : decode cX5_isSound 192 = .ok (.aload_n 0, 1) := dk_n (t := []) dk_g42 (by decide +kernel)
theorem dX5_isSound_193 : decode cX5_isSound 193 = .ok (.getfield 21, 3) := dk_u2 (y := 0) (z := 21) dk_g180 (by decide +kernel) rfl
theorem dX5_isSound_196 : decode cX5_isSound 196 = .ok (.iconst (-1), 1) := dk_n (t := []) dk_g2 (by decide +kernel)
theorem dX5_isSound_197 : decode cX5_isSound 197 = .ok (.invokevirtual 205, 3) := dk_u2 (y := 0) (z := 205) dk_g182 (by decide +kernel) rfl
theorem dX5_isSound_200 : decode cX5_isSound 200 = .ok (.invokevirtual 257, 3) := dk_u2 (y := 1) (z := 1) dk_g182 (by decide +kernel) rfl
theorem dX5_isSound_203 : decode cX5_isSound 203 = .ok (.aload_n 0, 1) := dk_n (t := []) dk_g42 (by decide +kernel)
theorem dX5_isSound_204 : decode cX5_isSound 204 = .ok (.getfield 21, 3) := dk_u2 (y := 0) (z := 21) dk_g180 (by decide +kernel) rfl
theorem dX5_isSound_207 : decode cX5_isSound 207 = .ok (.getfield 254, 3) := dk_u2 (y := 0) (z := 254) dk_g180 (by decide +kernel) rfl
theorem dX5_isSound_210 : decode cX5_isSound 210 = .ok (.getfield 117, 3) := dk_u2 (y := 0) (z := 117) dk_g180 (by decide +kernel) rfl
theorem dX5_isSound_213 : decode cX5_isSound 213 = .ok (.ireturn, 1) := dk_n (t := []) dk_g172 (by decide +kernel)
theorem dX5_digest_0 : decode cX5_digest 0 = .ok (.ldc2_w 265, 3) := dk_u2 (y := 1) (z := 9) dk_g20 (by decide +kernel) rfl
theorem dX5_digest_3 : decode cX5_digest 3 = .ok (.lstore_n 1, 1) := dk_n (t := []) dk_g64 (by decide +kernel)
theorem dX5_digest_4 : decode cX5_digest 4 = .ok (.iconst 0, 1) := dk_n (t := []) dk_g3 (by decide +kernel)
theorem dX5_digest_5 : decode cX5_digest 5 = .ok (.istore_n 3, 1) := dk_n (t := []) dk_g62 (by decide +kernel)
theorem dX5_digest_6 : decode cX5_digest 6 = .ok (.iload_n 3, 1) := dk_n (t := []) dk_g29 (by decide +kernel)
theorem dX5_digest_7 : decode cX5_digest 7 = .ok (.bipush 8, 2) := dk_s1 (y := 8) dk_g16 (by decide +kernel) rfl
theorem dX5_digest_9 : decode cX5_digest 9 = .ok (.if_icmp .gt 22, 3) := dk_s2 (y := 0) (z := 22) dk_g163 (by decide +kernel) rfl
theorem dX5_digest_12 : decode cX5_digest 12 = .ok (.lload_n 1, 1) := dk_n (t := []) dk_g31 (by decide +kernel)
theorem dX5_digest_13 : decode cX5_digest 13 = .ok (.ldc2_w 267, 3) := dk_u2 (y := 1) (z := 11) dk_g20 (by decide +kernel) rfl
theorem dX5_digest_16 : decode cX5_digest 16 = .ok (.lmul, 1) := dk_n (t := []) dk_g105 (by decide +kernel)
theorem dX5_digest_17 : decode cX5_digest 17 = .ok (.aload_n 0, 1) := dk_n (t := []) dk_g42 (by decide +kernel)
theorem dX5_digest_18 : decode cX5_digest 18 = .ok (.iload_n 3, 1) := dk_n (t := []) dk_g29 (by decide +kernel)
theorem dX5_digest_19 : decode cX5_digest 19 = .ok (.invokevirtual 269, 3) := dk_u2 (y := 1) (z := 13) dk_g182 (by decide +kernel) rfl
theorem dX5_digest_22 : decode cX5_digest 22 = .ok (.i2l, 1) := dk_n (t := []) dk_g133 (by decide +kernel)
theorem dX5_digest_23 : decode cX5_digest 23 = .ok (.ladd, 1) := dk_n (t := []) dk_g97 (by decide +kernel)
theorem dX5_digest_24 : decode cX5_digest 24 = .ok (.lstore_n 1, 1) := dk_n (t := []) dk_g64 (by decide +kernel)
theorem dX5_digest_25 : decode cX5_digest 25 = .ok (.iinc 3 1, 3) := dk_ii (y := 3) (z := 1) dk_g132 (by decide +kernel) rfl
theorem dX5_digest_28 : decode cX5_digest 28 = .ok (.goto (-22), 3) := dk_s2 (y := 255) (z := 234) dk_g167 (by decide +kernel) rfl
theorem dX5_digest_31 : decode cX5_digest 31 = .ok (.iconst 0, 1) := dk_n (t := []) dk_g3 (by decide +kernel)
theorem dX5_digest_32 : decode cX5_digest 32 = .ok (.istore_n 3, 1) := dk_n (t := []) dk_g62 (by decide +kernel)
theorem dX5_digest_33 : decode cX5_digest 33 = .ok (.iload_n 3, 1) := dk_n (t := []) dk_g29 (by decide +kernel)
theorem dX5_digest_34 : decode cX5_digest 34 = .ok (.aload_n 0, 1) := dk_n (t := []) dk_g42 (by decide +kernel)
theorem dX5_digest_35 : decode cX5_digest 35 = .ok (.getfield 10, 3) := dk_u2 (y := 0) (z := 10) dk_g180 (by decide +kernel) rfl
theorem dX5_digest_38 : decode cX5_digest 38 = .ok (.getfield 47, 3) := dk_u2 (y := 0) (z := 47) dk_g180 (by decide +kernel) rfl
theorem dX5_digest_41 : decode cX5_digest 41 = .ok (.if_icmp .ge 53, 3) := dk_s2 (y := 0) (z := 53) dk_g162 (by decide +kernel) rfl
theorem dX5_digest_44 : decode cX5_digest 44 = .ok (.iconst 0, 1) := dk_n (t := []) dk_g3 (by decide +kernel)
theorem dX5_digest_45 : decode cX5_digest 45 = .ok (.istore 4, 2) := dk_u1 (y := 4) dk_g54 (by decide +kernel)
theorem dX5_digest_47 : decode cX5_digest 47 = .ok (.iload 4, 2) := dk_u1 (y := 4) dk_g21 (by decide +kernel)
theorem dX5_digest_49 : decode cX5_digest 49 = .ok (.bipush 6, 2) := dk_s1 (y := 6) dk_g16 (by decide +kernel) rfl
theorem dX5_digest_51 : decode cX5_digest 51 = .ok (.if_icmp .gt 24, 3) := dk_s2 (y := 0) (z := 24) dk_g163 (by decide +kernel) rfl
theorem dX5_digest_54 : decode cX5_digest 54 = .ok (.lload_n 1, 1) := dk_n (t := []) dk_g31 (by decide +kernel)
theorem dX5_digest_55 : decode cX5_digest 55 = .ok (.ldc2_w 267, 3) := dk_u2 (y := 1) (z := 11) dk_g20 (by decide +kernel) rfl
theorem dX5_digest_58 : decode cX5_digest 58 = .ok (.lmul, 1) := dk_n (t := []) dk_g105 (by decide +kernel)
theorem dX5_digest_59 : decode cX5_digest 59 = .ok (.aload_n 0, 1) := dk_n (t := []) dk_g42 (by decide +kernel)
theorem dX5_digest_60 : decode cX5_digest 60 = .ok (.iload_n 3, 1) := dk_n (t := []) dk_g29 (by decide +kernel)
theorem dX5_digest_61 : decode cX5_digest 61 = .ok (.iload 4, 2) := dk_u1 (y := 4) dk_g21 (by decide +kernel)
theorem dX5_digest_63 : decode cX5_digest 63 = .ok (.invokevirtual 272, 3) := dk_u2 (y := 1) (z := 16) dk_g182 (by decide +kernel) rfl
theorem dX5_digest_66 : decode cX5_digest 66 = .ok (.i2l, 1) := dk_n (t := []) dk_g133 (by decide +kernel)
theorem dX5_digest_67 : decode cX5_digest 67 = .ok (.ladd, 1) := dk_n (t := []) dk_g97 (by decide +kernel)
theorem dX5_digest_68 : decode cX5_digest 68 = .ok (.lstore_n 1, 1) := dk_n (t := []) dk_g64 (by decide +kernel)
theorem dX5_digest_69 : decode cX5_digest 69 = .ok (.iinc 4 1, 3) := dk_ii (y := 4) (z := 1) dk_g132 (by decide +kernel) rfl
theorem dX5_digest_72 : decode cX5_digest 72 = .ok (.goto (-25), 3) := dk_s2 (y := 255) (z := 231) dk_g167 (by decide +kernel) rfl
theorem dX5_digest_75 : decode cX5_digest 75 = .ok (.lload_n 1, 1) := dk_n (t := []) dk_g31 (by decide +kernel)
theorem dX5_digest_76 : decode cX5_digest 76 = .ok (.ldc2_w 267, 3) := dk_u2 (y := 1) (z := 11) dk_g20 (by decide +kernel) rfl
theorem dX5_digest_79 : decode cX5_digest 79 = .ok (.lmul, 1) := dk_n (t := []) dk_g105 (by decide +kernel)
theorem dX5_digest_80 : decode cX5_digest 80 = .ok (.aload_n 0, 1) := dk_n (t := []) dk_g42 (by decide +kernel)
theorem dX5_digest_81 : decode cX5_digest 81 = .ok (.iload_n 3, 1) := dk_n (t := []) dk_g29 (by decide +kernel)
theorem dX5_digest_82 : decode cX5_digest 82 = .ok (.invokevirtual 276, 3) := dk_u2 (y := 1) (z := 20) dk_g182 (by decide +kernel) rfl
theorem dX5_digest_85 : decode cX5_digest 85 = .ok (.i2l, 1) := dk_n (t := []) dk_g133 (by decide +kernel)
theorem dX5_digest_86 : decode cX5_digest 86 = .ok (.ladd, 1) := dk_n (t := []) dk_g97 (by decide +kernel)
theorem dX5_digest_87 : decode cX5_digest 87 = .ok (.lstore_n 1, 1) := dk_n (t := []) dk_g64 (by decide +kernel)
theorem dX5_digest_88 : decode cX5_digest 88 = .ok (.iinc 3 1, 3) := dk_ii (y := 3) (z := 1) dk_g132 (by decide +kernel) rfl
theorem dX5_digest_91 : decode cX5_digest 91 = .ok (.goto (-58), 3) := dk_s2 (y := 255) (z := 198) dk_g167 (by decide +kernel) rfl
theorem dX5_digest_94 : decode cX5_digest 94 = .ok (.lload_n 1, 1) := dk_n (t := []) dk_g31 (by decide +kernel)
theorem dX5_digest_95 : decode cX5_digest 95 = .ok (.ldc2_w 267, 3) := dk_u2 (y := 1) (z := 11) dk_g20 (by decide +kernel) rfl
theorem dX5_digest_98 : decode cX5_digest 98 = .ok (.lmul, 1) := dk_n (t := []) dk_g105 (by decide +kernel)
theorem dX5_digest_99 : decode cX5_digest 99 = .ok (.aload_n 0, 1) := dk_n (t := []) dk_g42 (by decide +kernel)
theorem dX5_digest_100 : decode cX5_digest 100 = .ok (.iconst (-1), 1) := dk_n (t := []) dk_g2 (by decide +kernel)
theorem dX5_digest_101 : decode cX5_digest 101 = .ok (.invokevirtual 276, 3) := dk_u2 (y := 1) (z := 20) dk_g182 (by decide +kernel) rfl
theorem dX5_digest_104 : decode cX5_digest 104 = .ok (.i2l, 1) := dk_n (t := []) dk_g133 (by decide +kernel)
theorem dX5_digest_105 : decode cX5_digest 105 = .ok (.ladd, 1) := dk_n (t := []) dk_g97 (by decide +kernel)
theorem dX5_digest_106 : decode cX5_digest 106 = .ok (.lstore_n 1, 1) := dk_n (t := []) dk_g64 (by decide +kernel)
theorem dX5_digest_107 : decode cX5_digest 107 = .ok (.iconst 0, 1) := dk_n (t := []) dk_g3 (by decide +kernel)
theorem dX5_digest_108 : decode cX5_digest 108 = .ok (.istore_n 3, 1) := dk_n (t := []) dk_g62 (by decide +kernel)
theorem dX5_digest_109 : decode cX5_digest 109 = .ok (.iload_n 3, 1) := dk_n (t := []) dk_g29 (by decide +kernel)
theorem dX5_digest_110 : decode cX5_digest 110 = .ok (.aload_n 0, 1) := dk_n (t := []) dk_g42 (by decide +kernel)
theorem dX5_digest_111 : decode cX5_digest 111 = .ok (.getfield 10, 3) := dk_u2 (y := 0) (z := 10) dk_g180 (by decide +kernel) rfl
theorem dX5_digest_114 : decode cX5_digest 114 = .ok (.getfield 72, 3) := dk_u2 (y := 0) (z := 72) dk_g180 (by decide +kernel) rfl
theorem dX5_digest_117 : decode cX5_digest 117 = .ok (.if_icmp .ge 23, 3) := dk_s2 (y := 0) (z := 23) dk_g162 (by decide +kernel) rfl
theorem dX5_digest_120 : decode cX5_digest 120 = .ok (.lload_n 1, 1) := dk_n (t := []) dk_g31 (by decide +kernel)
theorem dX5_digest_121 : decode cX5_digest 121 = .ok (.ldc2_w 267, 3) := dk_u2 (y := 1) (z := 11) dk_g20 (by decide +kernel) rfl
theorem dX5_digest_124 : decode cX5_digest 124 = .ok (.lmul, 1) := dk_n (t := []) dk_g105 (by decide +kernel)
theorem dX5_digest_125 : decode cX5_digest 125 = .ok (.aload_n 0, 1) := dk_n (t := []) dk_g42 (by decide +kernel)
theorem dX5_digest_126 : decode cX5_digest 126 = .ok (.iload_n 3, 1) := dk_n (t := []) dk_g29 (by decide +kernel)
theorem dX5_digest_127 : decode cX5_digest 127 = .ok (.iconst 5, 1) := dk_n (t := []) dk_g8 (by decide +kernel)
theorem dX5_digest_128 : decode cX5_digest 128 = .ok (.invokevirtual 279, 3) := dk_u2 (y := 1) (z := 23) dk_g182 (by decide +kernel) rfl
theorem dX5_digest_131 : decode cX5_digest 131 = .ok (.i2l, 1) := dk_n (t := []) dk_g133 (by decide +kernel)
theorem dX5_digest_132 : decode cX5_digest 132 = .ok (.ladd, 1) := dk_n (t := []) dk_g97 (by decide +kernel)
theorem dX5_digest_133 : decode cX5_digest 133 = .ok (.lstore_n 1, 1) := dk_n (t := []) dk_g64 (by decide +kernel)
theorem dX5_digest_134 : decode cX5_digest 134 = .ok (.iinc 3 1, 3) := dk_ii (y := 3) (z := 1) dk_g132 (by decide +kernel) rfl
theorem dX5_digest_137 : decode cX5_digest 137 = .ok (.goto (-28), 3) := dk_s2 (y := 255) (z := 228) dk_g167 (by decide +kernel) rfl
theorem dX5_digest_140 : decode cX5_digest 140 = .ok (.aload_n 0, 1) := dk_n (t := []) dk_g42 (by decide +kernel)
theorem dX5_digest_141 : decode cX5_digest 141 = .ok (.aload_n 0, 1) := dk_n (t := []) dk_g42 (by decide +kernel)
theorem dX5_digest_142 : decode cX5_digest 142 = .ok (.lload_n 1, 1) := dk_n (t := []) dk_g31 (by decide +kernel)
theorem dX5_digest_143 : decode cX5_digest 143 = .ok (.invokevirtual 282, 3) := dk_u2 (y := 1) (z := 26) dk_g182 (by decide +kernel) rfl
theorem dX5_digest_146 : decode cX5_digest 146 = .ok (.invokevirtual 286, 3) := dk_u2 (y := 1) (z := 30) dk_g182 (by decide +kernel) rfl
theorem dX5_digest_149 : decode cX5_digest 149 = .ok (.lstore_n 1, 1) := dk_n (t := []) dk_g64 (by decide +kernel)
theorem dX5_digest_150 : decode cX5_digest 150 = .ok (.lload_n 1, 1) := dk_n (t := []) dk_g31 (by decide +kernel)
theorem dX5_digest_151 : decode cX5_digest 151 = .ok (.ldc2_w 267, 3) := dk_u2 (y := 1) (z := 11) dk_g20 (by decide +kernel) rfl
theorem dX5_digest_154 : decode cX5_digest 154 = .ok (.lmul, 1) := dk_n (t := []) dk_g105 (by decide +kernel)
theorem dX5_digest_155 : decode cX5_digest 155 = .ok (.aload_n 0, 1) := dk_n (t := []) dk_g42 (by decide +kernel)
theorem dX5_digest_156 : decode cX5_digest 156 = .ok (.invokevirtual 289, 3) := dk_u2 (y := 1) (z := 33) dk_g182 (by decide +kernel) rfl
theorem dX5_digest_159 : decode cX5_digest 159 = .ok (.ifCond .eq 7, 3) := dk_s2 (y := 0) (z := 7) dk_g153 (by decide +kernel) rfl
theorem dX5_digest_162 : decode cX5_digest 162 = .ok (.iconst 1, 1) := dk_n (t := []) dk_g4 (by decide +kernel)
theorem dX5_digest_163 : decode cX5_digest 163 = .ok (.goto 4, 3) := dk_s2 (y := 0) (z := 4) dk_g167 (by decide +kernel) rfl
theorem dX5_digest_166 : decode cX5_digest 166 = .ok (.iconst 0, 1) := dk_n (t := []) dk_g3 (by decide +kernel)
theorem dX5_digest_167 : decode cX5_digest 167 = .ok (.i2l, 1) := dk_n (t := []) dk_g133 (by decide +kernel)
theorem dX5_digest_168 : decode cX5_digest 168 = .ok (.ladd, 1) := dk_n (t := []) dk_g97 (by decide +kernel)
theorem dX5_digest_169 : decode cX5_digest 169 = .ok (.lreturn, 1) := dk_n (t := []) dk_g173 (by decide +kernel)
theorem dX5_sumOfMachines_0 : decode cX5_sumOfMachines 0 = .ok (.lload_n 1, 1) := dk_n (t := []) dk_g31 (by decide +kernel)
theorem dX5_sumOfMachines_1 : decode cX5_sumOfMachines 1 = .ok (.lstore_n 3, 1) := dk_n (t := []) dk_g66 (by decide +kernel)
theorem dX5_sumOfMachines_2 : decode cX5_sumOfMachines 2 = .ok (.iconst 0, 1) := dk_n (t := []) dk_g3 (by decide +kernel)
theorem dX5_sumOfMachines_3 : decode cX5_sumOfMachines 3 = .ok (.istore 5, 2) := dk_u1 (y := 5) dk_g54 (by decide +kernel)
theorem dX5_sumOfMachines_5 : decode cX5_sumOfMachines 5 = .ok (.iload 5, 2) := dk_u1 (y := 5) dk_g21 (by decide +kernel)
theorem dX5_sumOfMachines_7 : decode cX5_sumOfMachines 7 = .ok (.bipush 6, 2) := dk_s1 (y := 6) dk_g16 (by decide +kernel) rfl
theorem dX5_sumOfMachines_9 : decode cX5_sumOfMachines 9 = .ok (.if_icmp .ge 77, 3) := dk_s2 (y := 0) (z := 77) dk_g162 (by decide +kernel) rfl
theorem dX5_sumOfMachines_12 : decode cX5_sumOfMachines 12 = .ok (.iconst 0, 1) := dk_n (t := []) dk_g3 (by decide +kernel)
theorem dX5_sumOfMachines_13 : decode cX5_sumOfMachines 13 = .ok (.istore 6, 2) := dk_u1 (y := 6) dk_g54 (by decide +kernel)
theorem dX5_sumOfMachines_15 : decode cX5_sumOfMachines 15 = .ok (.iload 6, 2) := dk_u1 (y := 6) dk_g21 (by decide +kernel)
theorem dX5_sumOfMachines_17 : decode cX5_sumOfMachines 17 = .ok (.iconst 2, 1) := dk_n (t := []) dk_g5 (by decide +kernel)
theorem dX5_sumOfMachines_18 : decode cX5_sumOfMachines 18 = .ok (.if_icmp .gt 25, 3) := dk_s2 (y := 0) (z := 25) dk_g163 (by decide +kernel) rfl
theorem dX5_sumOfMachines_21 : decode cX5_sumOfMachines 21 = .ok (.lload_n 3, 1) := dk_n (t := []) dk_g33 (by decide +kernel)
theorem dX5_sumOfMachines_22 : decode cX5_sumOfMachines 22 = .ok (.ldc2_w 267, 3) := dk_u2 (y := 1) (z := 11) dk_g20 (by decide +kernel) rfl
theorem dX5_sumOfMachines_25 : decode cX5_sumOfMachines 25 = .ok (.lmul, 1) := dk_n (t := []) dk_g105 (by decide +kernel)
theorem dX5_sumOfMachines_26 : decode cX5_sumOfMachines 26 = .ok (.aload_n 0, 1) := dk_n (t := []) dk_g42 (by decide +kernel)
theorem dX5_sumOfMachines_27 : decode cX5_sumOfMachines 27 = .ok (.iload 5, 2) := dk_u1 (y := 5) dk_g21 (by decide +kernel)
theorem dX5_sumOfMachines_29 : decode cX5_sumOfMachines 29 = .ok (.iload 6, 2) := dk_u1 (y := 6) dk_g21 (by decide +kernel)
theorem dX5_sumOfMachines_31 : decode cX5_sumOfMachines 31 = .ok (.invokevirtual 293, 3) := dk_u2 (y := 1) (z := 37) dk_g182 (by decide +kernel) rfl
theorem dX5_sumOfMachines_34 : decode cX5_sumOfMachines 34 = .ok (.i2l, 1) := dk_n (t := []) dk_g133 (by decide +kernel)
theorem dX5_sumOfMachines_35 : decode cX5_sumOfMachines 35 = .ok (.ladd, 1) := dk_n (t := []) dk_g97 (by decide +kernel)
theorem dX5_sumOfMachines_36 : decode cX5_sumOfMachines 36 = .ok (.lstore_n 3, 1) := dk_n (t := []) dk_g66 (by decide +kernel)
theorem dX5_sumOfMachines_37 : decode cX5_sumOfMachines 37 = .ok (.iinc 6 1, 3) := dk_ii (y := 6) (z := 1) dk_g132 (by decide +kernel) rfl
theorem dX5_sumOfMachines_40 : decode cX5_sumOfMachines 40 = .ok (.goto (-25), 3) := dk_s2 (y := 255) (z := 231) dk_g167 (by decide +kernel) rfl
theorem dX5_sumOfMachines_43 : decode cX5_sumOfMachines 43 = .ok (.iconst 0, 1) := dk_n (t := []) dk_g3 (by decide +kernel)
theorem dX5_sumOfMachines_44 : decode cX5_sumOfMachines 44 = .ok (.istore 6, 2) := dk_u1 (y := 6) dk_g54 (by decide +kernel)
theorem dX5_sumOfMachines_46 : decode cX5_sumOfMachines 46 = .ok (.iload 6, 2) := dk_u1 (y := 6) dk_g21 (by decide +kernel)
theorem dX5_sumOfMachines_48 : decode cX5_sumOfMachines 48 = .ok (.aload_n 0, 1) := dk_n (t := []) dk_g42 (by decide +kernel)
theorem dX5_sumOfMachines_49 : decode cX5_sumOfMachines 49 = .ok (.getfield 10, 3) := dk_u2 (y := 0) (z := 10) dk_g180 (by decide +kernel) rfl
theorem dX5_sumOfMachines_52 : decode cX5_sumOfMachines 52 = .ok (.getfield 47, 3) := dk_u2 (y := 0) (z := 47) dk_g180 (by decide +kernel) rfl
theorem dX5_sumOfMachines_55 : decode cX5_sumOfMachines 55 = .ok (.if_icmp .ge 25, 3) := dk_s2 (y := 0) (z := 25) dk_g162 (by decide +kernel) rfl
theorem dX5_sumOfMachines_58 : decode cX5_sumOfMachines 58 = .ok (.lload_n 3, 1) := dk_n (t := []) dk_g33 (by decide +kernel)
theorem dX5_sumOfMachines_59 : decode cX5_sumOfMachines 59 = .ok (.ldc2_w 267, 3) := dk_u2 (y := 1) (z := 11) dk_g20 (by decide +kernel) rfl
theorem dX5_sumOfMachines_62 : decode cX5_sumOfMachines 62 = .ok (.lmul, 1) := dk_n (t := []) dk_g105 (by decide +kernel)
theorem dX5_sumOfMachines_63 : decode cX5_sumOfMachines 63 = .ok (.aload_n 0, 1) := dk_n (t := []) dk_g42 (by decide +kernel)
theorem dX5_sumOfMachines_64 : decode cX5_sumOfMachines 64 = .ok (.iload 5, 2) := dk_u1 (y := 5) dk_g21 (by decide +kernel)
theorem dX5_sumOfMachines_66 : decode cX5_sumOfMachines 66 = .ok (.iload 6, 2) := dk_u1 (y := 6) dk_g21 (by decide +kernel)
theorem dX5_sumOfMachines_68 : decode cX5_sumOfMachines 68 = .ok (.invokevirtual 296, 3) := dk_u2 (y := 1) (z := 40) dk_g182 (by decide +kernel) rfl
theorem dX5_sumOfMachines_71 : decode cX5_sumOfMachines 71 = .ok (.i2l, 1) := dk_n (t := []) dk_g133 (by decide +kernel)
theorem dX5_sumOfMachines_72 : decode cX5_sumOfMachines 72 = .ok (.ladd, 1) := dk_n (t := []) dk_g97 (by decide +kernel)
theorem dX5_sumOfMachines_73 : decode cX5_sumOfMachines 73 = .ok (.lstore_n 3, 1) := dk_n (t := []) dk_g66 (by decide +kernel)
theorem dX5_sumOfMachines_74 : decode cX5_sumOfMachines 74 = .ok (.iinc 6 1, 3) := dk_ii (y := 6) (z := 1) dk_g132 (by decide +kernel) rfl
theorem dX5_sumOfMachines_77 : decode cX5_sumOfMachines 77 = .ok (.goto (-31), 3) := dk_s2 (y := 255) (z := 225) dk_g167 (by decide +kernel) rfl
theorem dX5_sumOfMachines_80 : decode cX5_sumOfMachines 80 = .ok (.iinc 5 1, 3) := dk_ii (y := 5) (z := 1) dk_g132 (by decide +kernel) rfl
theorem dX5_sumOfMachines_83 : decode cX5_sumOfMachines 83 = .ok (.goto (-78), 3) := dk_s2 (y := 255) (z := 178) dk_g167 (by decide +kernel) rfl
theorem dX5_sumOfMachines_86 : decode cX5_sumOfMachines 86 = .ok (.lload_n 3, 1) := dk_n (t := []) dk_g33 (by decide +kernel)
theorem dX5_sumOfMachines_87 : decode cX5_sumOfMachines 87 = .ok (.lreturn, 1) := dk_n (t := []) dk_g173 (by decide +kernel)
theorem dX5_sumOfCommits_0 : decode cX5_sumOfCommits 0 = .ok (.lload_n 1, 1) := dk_n (t := []) dk_g31 (by decide +kernel)
theorem dX5_sumOfCommits_1 : decode cX5_sumOfCommits 1 = .ok (.lstore_n 3, 1) := dk_n (t := []) dk_g66 (by decide +kernel)
theorem dX5_sumOfCommits_2 : decode cX5_sumOfCommits 2 = .ok (.iconst 0, 1) := dk_n (t := []) dk_g3 (by decide +kernel)
theorem dX5_sumOfCommits_3 : decode cX5_sumOfCommits 3 = .ok (.istore 5, 2) := dk_u1 (y := 5) dk_g54 (by decide +kernel)
theorem dX5_sumOfCommits_5 : decode cX5_sumOfCommits 5 = .ok (.iload 5, 2) := dk_u1 (y := 5) dk_g21 (by decide +kernel)
theorem dX5_sumOfCommits_7 : decode cX5_sumOfCommits 7 = .ok (.aload_n 0, 1) := dk_n (t := []) dk_g42 (by decide +kernel)
theorem dX5_sumOfCommits_8 : decode cX5_sumOfCommits 8 = .ok (.getfield 28, 3) := dk_u2 (y := 0) (z := 28) dk_g180 (by decide +kernel) rfl
theorem dX5_sumOfCommits_11 : decode cX5_sumOfCommits 11 = .ok (.getfield 123, 3) := dk_u2 (y := 0) (z := 123) dk_g180 (by decide +kernel) rfl
theorem dX5_sumOfCommits_14 : decode cX5_sumOfCommits 14 = .ok (.if_icmp .ge 46, 3) := dk_s2 (y := 0) (z := 46) dk_g162 (by decide +kernel) rfl
theorem dX5_sumOfCommits_17 : decode cX5_sumOfCommits 17 = .ok (.iconst 0, 1) := dk_n (t := []) dk_g3 (by decide +kernel)
theorem dX5_sumOfCommits_18 : decode cX5_sumOfCommits 18 = .ok (.istore 6, 2) := dk_u1 (y := 6) dk_g54 (by decide +kernel)
theorem dX5_sumOfCommits_20 : decode cX5_sumOfCommits 20 = .ok (.iload 6, 2) := dk_u1 (y := 6) dk_g21 (by decide +kernel)
theorem dX5_sumOfCommits_22 : decode cX5_sumOfCommits 22 = .ok (.aload_n 0, 1) := dk_n (t := []) dk_g42 (by decide +kernel)
theorem dX5_sumOfCommits_23 : decode cX5_sumOfCommits 23 = .ok (.getfield 10, 3) := dk_u2 (y := 0) (z := 10) dk_g180 (by decide +kernel) rfl
theorem dX5_sumOfCommits_26 : decode cX5_sumOfCommits 26 = .ok (.getfield 47, 3) := dk_u2 (y := 0) (z := 47) dk_g180 (by decide +kernel) rfl
theorem dX5_sumOfCommits_29 : decode cX5_sumOfCommits 29 = .ok (.if_icmp .ge 25, 3) := dk_s2 (y := 0) (z := 25) dk_g162 (by decide +kernel) rfl
theorem dX5_sumOfCommits_32 : decode cX5_sumOfCommits 32 = .ok (.lload_n 3, 1) := dk_n (t := []) dk_g33 (by decide +kernel)
theorem dX5_sumOfCommits_33 : decode cX5_sumOfCommits 33 = .ok (.ldc2_w 267, 3) := dk_u2 (y := 1) (z := 11) dk_g20 (by decide +kernel) rfl
theorem dX5_sumOfCommits_36 : decode cX5_sumOfCommits 36 = .ok (.lmul, 1) := dk_n (t := []) dk_g105 (by decide +kernel)
theorem dX5_sumOfCommits_37 : decode cX5_sumOfCommits 37 = .ok (.aload_n 0, 1) := dk_n (t := []) dk_g42 (by decide +kernel)
theorem dX5_sumOfCommits_38 : decode cX5_sumOfCommits 38 = .ok (.iload 5, 2) := dk_u1 (y := 5) dk_g21 (by decide +kernel)
theorem dX5_sumOfCommits_40 : decode cX5_sumOfCommits 40 = .ok (.iload 6, 2) := dk_u1 (y := 6) dk_g21 (by decide +kernel)
theorem dX5_sumOfCommits_42 : decode cX5_sumOfCommits 42 = .ok (.invokevirtual 299, 3) := dk_u2 (y := 1) (z := 43) dk_g182 (by decide +kernel) rfl
theorem dX5_sumOfCommits_45 : decode cX5_sumOfCommits 45 = .ok (.i2l, 1) := dk_n (t := []) dk_g133 (by decide +kernel)
theorem dX5_sumOfCommits_46 : decode cX5_sumOfCommits 46 = .ok (.ladd, 1) := dk_n (t := []) dk_g97 (by decide +kernel)
theorem dX5_sumOfCommits_47 : decode cX5_sumOfCommits 47 = .ok (.lstore_n 3, 1) := dk_n (t := []) dk_g66 (by decide +kernel)
theorem dX5_sumOfCommits_48 : decode cX5_sumOfCommits 48 = .ok (.iinc 6 1, 3) := dk_ii (y := 6) (z := 1) dk_g132 (by decide +kernel) rfl
theorem dX5_sumOfCommits_51 : decode cX5_sumOfCommits 51 = .ok (.goto (-31), 3) := dk_s2 (y := 255) (z := 225) dk_g167 (by decide +kernel) rfl
theorem dX5_sumOfCommits_54 : decode cX5_sumOfCommits 54 = .ok (.iinc 5 1, 3) := dk_ii (y := 5) (z := 1) dk_g132 (by decide +kernel) rfl
theorem dX5_sumOfCommits_57 : decode cX5_sumOfCommits 57 = .ok (.goto (-52), 3) := dk_s2 (y := 255) (z := 204) dk_g167 (by decide +kernel) rfl
theorem dX5_sumOfCommits_60 : decode cX5_sumOfCommits 60 = .ok (.lload_n 3, 1) := dk_n (t := []) dk_g33 (by decide +kernel)
theorem dX5_sumOfCommits_61 : decode cX5_sumOfCommits 61 = .ok (.lreturn, 1) := dk_n (t := []) dk_g173 (by decide +kernel)
theorem dX5_tell_0 : decode cX5_tell 0 = .ok (.aload_n 0, 1) := dk_n (t := []) dk_g42 (by decide +kernel)
theorem dX5_tell_1 : decode cX5_tell 1 = .ok (.getfield 10, 3) := dk_u2 (y := 0) (z := 10) dk_g180 (by decide +kernel) rfl
theorem dX5_tell_4 : decode cX5_tell 4 = .ok (.iload_n 1, 1) := dk_n (t := []) dk_g27 (by decide +kernel)
theorem dX5_tell_5 : decode cX5_tell 5 = .ok (.iload_n 2, 1) := dk_n (t := []) dk_g28 (by decide +kernel)
theorem dX5_tell_6 : decode cX5_tell 6 = .ok (.iload_n 3, 1) := dk_n (t := []) dk_g29 (by decide +kernel)
theorem dX5_tell_7 : decode cX5_tell 7 = .ok (.iload 4, 2) := dk_u1 (y := 4) dk_g21 (by decide +kernel)
theorem dX5_tell_9 : decode cX5_tell 9 = .ok (.iload 5, 2) := dk_u1 (y := 5) dk_g21 (by decide +kernel)
theorem dX5_tell_11 : decode cX5_tell 11 = .ok (.invokevirtual 302, 3) := dk_u2 (y := 1) (z := 46) dk_g182 (by decide +kernel) rfl
theorem dX5_tell_14 : decode cX5_tell 14 = .ok (.istore 6, 2) := dk_u1 (y := 6) dk_g54 (by decide +kernel)
theorem dX5_tell_16 : decode cX5_tell 16 = .ok (.aload_n 0, 1) := dk_n (t := []) dk_g42 (by decide +kernel)
theorem dX5_tell_17 : decode cX5_tell 17 = .ok (.getfield 21, 3) := dk_u2 (y := 0) (z := 21) dk_g180 (by decide +kernel) rfl
theorem dX5_tell_20 : decode cX5_tell 20 = .ok (.invokevirtual 59, 3) := dk_u2 (y := 0) (z := 59) dk_g182 (by decide +kernel) rfl
theorem dX5_tell_23 : decode cX5_tell 23 = .ok (.iload 6, 2) := dk_u1 (y := 6) dk_g21 (by decide +kernel)
theorem dX5_tell_25 : decode cX5_tell 25 = .ok (.ireturn, 1) := dk_n (t := []) dk_g172 (by decide +kernel)
theorem dX5_isField_0 : decode cX5_isField 0 = .ok (.iload_n 1, 1) := dk_n (t := []) dk_g27 (by decide +kernel)
theorem dX5_isField_1 : decode cX5_isField 1 = .ok (.ifCond .lt 18, 3) := dk_s2 (y := 0) (z := 18) dk_g155 (by decide +kernel) rfl
theorem dX5_isField_4 : decode cX5_isField 4 = .ok (.iload_n 1, 1) := dk_n (t := []) dk_g27 (by decide +kernel)
theorem dX5_isField_5 : decode cX5_isField 5 = .ok (.aload_n 0, 1) := dk_n (t := []) dk_g42 (by decide +kernel)
theorem dX5_isField_6 : decode cX5_isField 6 = .ok (.getfield 10, 3) := dk_u2 (y := 0) (z := 10) dk_g180 (by decide +kernel) rfl
theorem dX5_isField_9 : decode cX5_isField 9 = .ok (.getfield 47, 3) := dk_u2 (y := 0) (z := 47) dk_g180 (by decide +kernel) rfl
theorem dX5_isField_12 : decode cX5_isField 12 = .ok (.if_icmp .ge 7, 3) := dk_s2 (y := 0) (z := 7) dk_g162 (by decide +kernel) rfl
theorem dX5_isField_15 : decode cX5_isField 15 = .ok (.iconst 1, 1) := dk_n (t := []) dk_g4 (by decide +kernel)
theorem dX5_isField_16 : decode cX5_isField 16 = .ok (.goto 4, 3) := dk_s2 (y := 0) (z := 4) dk_g167 (by decide +kernel) rfl
theorem dX5_isField_19 : decode cX5_isField 19 = .ok (.iconst 0, 1) := dk_n (t := []) dk_g3 (by decide +kernel)
theorem dX5_isField_20 : decode cX5_isField 20 = .ok (.ireturn, 1) := dk_n (t := []) dk_g172 (by decide +kernel)
theorem dX5_isLine_0 : decode cX5_isLine 0 = .ok (.iload_n 1, 1) := dk_n (t := []) dk_g27 (by decide +kernel)
theorem dX5_isLine_1 : decode cX5_isLine 1 = .ok (.ifCond .lt 18, 3) := dk_s2 (y := 0) (z := 18) dk_g155 (by decide +kernel) rfl
theorem dX5_isLine_4 : decode cX5_isLine 4 = .ok (.iload_n 1, 1) := dk_n (t := []) dk_g27 (by decide +kernel)
theorem dX5_isLine_5 : decode cX5_isLine 5 = .ok (.aload_n 0, 1) := dk_n (t := []) dk_g42 (by decide +kernel)
theorem dX5_isLine_6 : decode cX5_isLine 6 = .ok (.getfield 10, 3) := dk_u2 (y := 0) (z := 10) dk_g180 (by decide +kernel) rfl
theorem dX5_isLine_9 : decode cX5_isLine 9 = .ok (.getfield 72, 3) := dk_u2 (y := 0) (z := 72) dk_g180 (by decide +kernel) rfl
theorem dX5_isLine_12 : decode cX5_isLine 12 = .ok (.if_icmp .ge 7, 3) := dk_s2 (y := 0) (z := 7) dk_g162 (by decide +kernel) rfl
theorem dX5_isLine_15 : decode cX5_isLine 15 = .ok (.iconst 1, 1) := dk_n (t := []) dk_g4 (by decide +kernel)
theorem dX5_isLine_16 : decode cX5_isLine 16 = .ok (.goto 4, 3) := dk_s2 (y := 0) (z := 4) dk_g167 (by decide +kernel) rfl
theorem dX5_isLine_19 : decode cX5_isLine 19 = .ok (.iconst 0, 1) := dk_n (t := []) dk_g3 (by decide +kernel)
theorem dX5_isLine_20 : decode cX5_isLine 20 = .ok (.ireturn, 1) := dk_n (t := []) dk_g172 (by decide +kernel)
theorem dX5_isCommit_0 : decode cX5_isCommit 0 = .ok (.iload_n 1, 1) := dk_n (t := []) dk_g27 (by decide +kernel)
theorem dX5_isCommit_1 : decode cX5_isCommit 1 = .ok (.ifCond .lt 18, 3) := dk_s2 (y := 0) (z := 18) dk_g155 (by decide +kernel) rfl
theorem dX5_isCommit_4 : decode cX5_isCommit 4 = .ok (.iload_n 1, 1) := dk_n (t := []) dk_g27 (by decide +kernel)
theorem dX5_isCommit_5 : decode cX5_isCommit 5 = .ok (.aload_n 0, 1) := dk_n (t := []) dk_g42 (by decide +kernel)
theorem dX5_isCommit_6 : decode cX5_isCommit 6 = .ok (.getfield 28, 3) := dk_u2 (y := 0) (z := 28) dk_g180 (by decide +kernel) rfl
theorem dX5_isCommit_9 : decode cX5_isCommit 9 = .ok (.getfield 123, 3) := dk_u2 (y := 0) (z := 123) dk_g180 (by decide +kernel) rfl
theorem dX5_isCommit_12 : decode cX5_isCommit 12 = .ok (.if_icmp .ge 7, 3) := dk_s2 (y := 0) (z := 7) dk_g162 (by decide +kernel) rfl
theorem dX5_isCommit_15 : decode cX5_isCommit 15 = .ok (.iconst 1, 1) := dk_n (t := []) dk_g4 (by decide +kernel)
theorem dX5_isCommit_16 : decode cX5_isCommit 16 = .ok (.goto 4, 3) := dk_s2 (y := 0) (z := 4) dk_g167 (by decide +kernel) rfl
theorem dX5_isCommit_19 : decode cX5_isCommit 19 = .ok (.iconst 0, 1) := dk_n (t := []) dk_g3 (by decide +kernel)
theorem dX5_isCommit_20 : decode cX5_isCommit 20 = .ok (.ireturn, 1) := dk_n (t := []) dk_g172 (by decide +kernel)
theorem dX5_isMachine_0 : decode cX5_isMachine 0 = .ok (.iload_n 0, 1) := dk_n (t := []) dk_g26 (by decide +kernel)
theorem dX5_isMachine_1 : decode cX5_isMachine 1 = .ok (.ifCond .lt 13, 3) := dk_s2 (y := 0) (z := 13) dk_g155 (by decide +kernel) rfl
theorem dX5_isMachine_4 : decode cX5_isMachine 4 = .ok (.iload_n 0, 1) := dk_n (t := []) dk_g26 (by decide +kernel)
theorem dX5_isMachine_5 : decode cX5_isMachine 5 = .ok (.bipush 6, 2) := dk_s1 (y := 6) dk_g16 (by decide +kernel) rfl
theorem dX5_isMachine_7 : decode cX5_isMachine 7 = .ok (.if_icmp .ge 7, 3) := dk_s2 (y := 0) (z := 7) dk_g162 (by decide +kernel) rfl
theorem dX5_isMachine_10 : decode cX5_isMachine 10 = .ok (.iconst 1, 1) := dk_n (t := []) dk_g4 (by decide +kernel)
theorem dX5_isMachine_11 : decode cX5_isMachine 11 = .ok (.goto 4, 3) := dk_s2 (y := 0) (z := 4) dk_g167 (by decide +kernel) rfl
theorem dX5_isMachine_14 : decode cX5_isMachine 14 = .ok (.iconst 0, 1) := dk_n (t := []) dk_g3 (by decide +kernel)
theorem dX5_isMachine_15 : decode cX5_isMachine 15 = .ok (.ireturn, 1) := dk_n (t := []) dk_g172 (by decide +kernel)
theorem dX5_isTeam_0 : decode cX5_isTeam 0 = .ok (.iload_n 0, 1) := dk_n (t := []) dk_g26 (by decide +kernel)
theorem dX5_isTeam_1 : decode cX5_isTeam 1 = .ok (.ifCond .lt 12, 3) := dk_s2 (y := 0) (z := 12) dk_g155 (by decide +kernel) rfl
theorem dX5_isTeam_4 : decode cX5_isTeam 4 = .ok (.iload_n 0, 1) := dk_n (t := []) dk_g26 (by decide +kernel)
theorem dX5_isTeam_5 : decode cX5_isTeam 5 = .ok (.iconst 4, 1) := dk_n (t := []) dk_g7 (by decide +kernel)
theorem dX5_isTeam_6 : decode cX5_isTeam 6 = .ok (.if_icmp .ge 7, 3) := dk_s2 (y := 0) (z := 7) dk_g162 (by decide +kernel) rfl
theorem dX5_isTeam_9 : decode cX5_isTeam 9 = .ok (.iconst 1, 1) := dk_n (t := []) dk_g4 (by decide +kernel)
theorem dX5_isTeam_10 : decode cX5_isTeam 10 = .ok (.goto 4, 3) := dk_s2 (y := 0) (z := 4) dk_g167 (by decide +kernel) rfl
theorem dX5_isTeam_13 : decode cX5_isTeam 13 = .ok (.iconst 0, 1) := dk_n (t := []) dk_g3 (by decide +kernel)
theorem dX5_isTeam_14 : decode cX5_isTeam 14 = .ok (.ireturn, 1) := dk_n (t := []) dk_g172 (by decide +kernel)
theorem dX5_isNumber_0 : decode cX5_isNumber 0 = .ok (.iload_n 0, 1) := dk_n (t := []) dk_g26 (by decide +kernel)
theorem dX5_isNumber_1 : decode cX5_isNumber 1 = .ok (.ifCond .lt 13, 3) := dk_s2 (y := 0) (z := 13) dk_g155 (by decide +kernel) rfl
theorem dX5_isNumber_4 : decode cX5_isNumber 4 = .ok (.iload_n 0, 1) := dk_n (t := []) dk_g26 (by decide +kernel)
theorem dX5_isNumber_5 : decode cX5_isNumber 5 = .ok (.bipush 8, 2) := dk_s1 (y := 8) dk_g16 (by decide +kernel) rfl
theorem dX5_isNumber_7 : decode cX5_isNumber 7 = .ok (.if_icmp .ge 7, 3) := dk_s2 (y := 0) (z := 7) dk_g162 (by decide +kernel) rfl
theorem dX5_isNumber_10 : decode cX5_isNumber 10 = .ok (.iconst 1, 1) := dk_n (t := []) dk_g4 (by decide +kernel)
theorem dX5_isNumber_11 : decode cX5_isNumber 11 = .ok (.goto 4, 3) := dk_s2 (y := 0) (z := 4) dk_g167 (by decide +kernel) rfl
theorem dX5_isNumber_14 : decode cX5_isNumber 14 = .ok (.iconst 0, 1) := dk_n (t := []) dk_g3 (by decide +kernel)
theorem dX5_isNumber_15 : decode cX5_isNumber 15 = .ok (.ireturn, 1) := dk_n (t := []) dk_g172 (by decide +kernel)
theorem dX5_contains_0 : decode cX5_contains 0 = .ok (.iload_n 0, 1) := dk_n (t := []) dk_g26 (by decide +kernel)
theorem dX5_contains_1 : decode cX5_contains 1 = .ok (.iload_n 1, 1) := dk_n (t := []) dk_g27 (by decide +kernel)
theorem dX5_contains_2 : decode cX5_contains 2 = .ok (.ishr, 1) := dk_n (t := []) dk_g122 (by decide +kernel)
theorem dX5_contains_3 : decode cX5_contains 3 = .ok (.iconst 1, 1) := dk_n (t := []) dk_g4 (by decide +kernel)
theorem dX5_contains_4 : decode cX5_contains 4 = .ok (.iand, 1) := dk_n (t := []) dk_g126 (by decide +kernel)
theorem dX5_contains_5 : decode cX5_contains 5 = .ok (.ifCond .eq 7, 3) := dk_s2 (y := 0) (z := 7) dk_g153 (by decide +kernel) rfl
theorem dX5_contains_8 : decode cX5_contains 8 = .ok (.iconst 1, 1) := dk_n (t := []) dk_g4 (by decide +kernel)
theorem dX5_contains_9 : decode cX5_contains 9 = .ok (.goto 4, 3) := dk_s2 (y := 0) (z := 4) dk_g167 (by decide +kernel) rfl
theorem dX5_contains_12 : decode cX5_contains 12 = .ok (.iconst 0, 1) := dk_n (t := []) dk_g3 (by decide +kernel)
theorem dX5_contains_13 : decode cX5_contains 13 = .ok (.ireturn, 1) := dk_n (t := []) dk_g172 (by decide +kernel)
theorem dX6_init_0 : decode cX6_init 0 = .ok (.aload_n 0, 1) := dk_n (t := []) dk_g42 (by decide +kernel)
theorem dX6_init_1 : decode cX6_init 1 = .ok (.invokespecial 1, 3) := dk_u2 (y := 0) (z := 1) dk_g183 (by decide +kernel) rfl
theorem dX6_init_4 : decode cX6_init 4 = .ok (.return_, 1) := dk_n (t := []) dk_g177 (by decide +kernel)
theorem dX7_init_0 : decode cX7_init 0 = .ok (.aload_n 0, 1) := dk_n (t := []) dk_g42 (by decide +kernel)
theorem dX7_init_1 : decode cX7_init 1 = .ok (.invokespecial 1, 3) := dk_u2 (y := 0) (z := 1) dk_g183 (by decide +kernel) rfl
theorem dX7_init_4 : decode cX7_init 4 = .ok (.return_, 1) := dk_n (t := []) dk_g177 (by decide +kernel)
theorem dX8_init_0 : decode cX8_init 0 = .ok (.aload_n 0, 1) := dk_n (t := []) dk_g42 (by decide +kernel)
theorem dX8_init_1 : decode cX8_init 1 = .ok (.invokespecial 3, 3) := dk_u2 (y := 0) (z := 3) dk_g183 (by decide +kernel) rfl
theorem dX8_init_4 : decode cX8_init 4 = .ok (.aload_n 0, 1) := dk_n (t := []) dk_g42 (by decide +kernel)
theorem dX8_init_5 : decode cX8_init 5 = .ok (.iconst 5, 1) := dk_n (t := []) dk_g8 (by decide +kernel)
theorem dX8_init_6 : decode cX8_init 6 = .ok (.newarray .int, 2) := by decide +kernel
theorem dX8_init_8 : decode cX8_init 8 = .ok (.putfield 9, 3) := dk_u2 (y := 0) (z := 9) dk_g181 (by decide +kernel) rfl
theorem dX8_init_11 : decode cX8_init 11 = .ok (.aload_n 0, 1) := dk_n (t := []) dk_g42 (by decide +kernel)
theorem dX8_init_12 : decode cX8_init 12 = .ok (.iconst 5, 1) := dk_n (t := []) dk_g8 (by decide +kernel)
theorem dX8_init_13 : decode cX8_init 13 = .ok (.newarray .int, 2) := by decide +kernel
theorem dX8_init_15 : decode cX8_init 15 = .ok (.putfield 13, 3) := dk_u2 (y := 0) (z := 13) dk_g181 (by decide +kernel) rfl
theorem dX8_init_18 : decode cX8_init 18 = .ok (.aload_n 0, 1) := dk_n (t := []) dk_g42 (by decide +kernel)
theorem dX8_init_19 : decode cX8_init 19 = .ok (.new 16, 3) := dk_u2 (y := 0) (z := 16) dk_g187 (by decide +kernel) rfl
theorem dX8_init_22 : decode cX8_init 22 = .ok (.dup, 1) := dk_n (t := []) dk_g89 (by decide +kernel)
theorem dX8_init_23 : decode cX8_init 23 = .ok (.invokespecial 18, 3) := dk_u2 (y := 0) (z := 18) dk_g183 (by decide +kernel) rfl
theorem dX8_init_26 : decode cX8_init 26 = .ok (.putfield 19, 3) := dk_u2 (y := 0) (z := 19) dk_g181 (by decide +kernel) rfl
theorem dX8_init_29 : decode cX8_init 29 = .ok (.aload_n 0, 1) := dk_n (t := []) dk_g42 (by decide +kernel)
theorem dX8_init_30 : decode cX8_init 30 = .ok (.new 16, 3) := dk_u2 (y := 0) (z := 16) dk_g187 (by decide +kernel) rfl
theorem dX8_init_33 : decode cX8_init 33 = .ok (.dup, 1) := dk_n (t := []) dk_g89 (by decide +kernel)
theorem dX8_init_34 : decode cX8_init 34 = .ok (.invokespecial 18, 3) := dk_u2 (y := 0) (z := 18) dk_g183 (by decide +kernel) rfl
theorem dX8_init_37 : decode cX8_init 37 = .ok (.putfield 23, 3) := dk_u2 (y := 0) (z := 23) dk_g181 (by decide +kernel) rfl
theorem dX8_init_40 : decode cX8_init 40 = .ok (.aload_n 0, 1) := dk_n (t := []) dk_g42 (by decide +kernel)
theorem dX8_init_41 : decode cX8_init 41 = .ok (.bipush 6, 2) := dk_s1 (y := 6) dk_g16 (by decide +kernel) rfl
theorem dX8_init_43 : decode cX8_init 43 = .ok (.newarray .int, 2) := by decide +kernel
theorem dX8_init_45 : decode cX8_init 45 = .ok (.putfield 26, 3) := dk_u2 (y := 0) (z := 26) dk_g181 (by decide +kernel) rfl
theorem dX8_init_48 : decode cX8_init 48 = .ok (.aload_n 0, 1) := dk_n (t := []) dk_g42 (by decide +kernel)
theorem dX8_init_49 : decode cX8_init 49 = .ok (.bipush 30, 2) := dk_s1 (y := 30) dk_g16 (by decide +kernel) rfl
theorem dX8_init_51 : decode cX8_init 51 = .ok (.newarray .int, 2) := by decide +kernel
theorem dX8_init_53 : decode cX8_init 53 = .ok (.putfield 29, 3) := dk_u2 (y := 0) (z := 29) dk_g181 (by decide +kernel) rfl
theorem dX8_init_56 : decode cX8_init 56 = .ok (.aload_n 0, 1) := dk_n (t := []) dk_g42 (by decide +kernel)
theorem dX8_init_57 : decode cX8_init 57 = .ok (.bipush 35, 2) := dk_s1 (y := 35) dk_g16 (by decide +kernel) rfl
theorem dX8_init_59 : decode cX8_init 59 = .ok (.newarray .int, 2) := by decide +kernel
theorem dX8_init_61 : decode cX8_init 61 = .ok (.putfield 32, 3) := dk_u2 (y := 0) (z := 32) dk_g181 (by decide +kernel) rfl
theorem dX8_init_64 : decode cX8_init 64 = .ok (.aload_n 0, 1) := dk_n (t := []) dk_g42 (by decide +kernel)
theorem dX8_init_65 : decode cX8_init 65 = .ok (.iconst 5, 1) := dk_n (t := []) dk_g8 (by decide +kernel)
theorem dX8_init_66 : decode cX8_init 66 = .ok (.newarray .int, 2) := by decide +kernel
theorem dX8_init_68 : decode cX8_init 68 = .ok (.putfield 35, 3) := dk_u2 (y := 0) (z := 35) dk_g181 (by decide +kernel) rfl
theorem dX8_init_71 : decode cX8_init 71 = .ok (.aload_n 0, 1) := dk_n (t := []) dk_g42 (by decide +kernel)
theorem dX8_init_72 : decode cX8_init 72 = .ok (.iconst 5, 1) := dk_n (t := []) dk_g8 (by decide +kernel)
theorem dX8_init_73 : decode cX8_init 73 = .ok (.newarray .int, 2) := by decide +kernel
theorem dX8_init_75 : decode cX8_init 75 = .ok (.putfield 38, 3) := dk_u2 (y := 0) (z := 38) dk_g181 (by decide +kernel) rfl
theorem dX8_init_78 : decode cX8_init 78 = .ok (.iconst 0, 1) := dk_n (t := []) dk_g3 (by decide +kernel)
theorem dX8_init_79 : decode cX8_init 79 = .ok (.istore_n 1, 1) := dk_n (t := []) dk_g60 (by decide +kernel)
theorem dX8_init_80 : decode cX8_init 80 = .ok (.iload_n 1, 1) := dk_n (t := []) dk_g27 (by decide +kernel)
theorem dX8_init_81 : decode cX8_init 81 = .ok (.bipush 6, 2) := dk_s1 (y := 6) dk_g16 (by decide +kernel) rfl
theorem dX8_init_83 : decode cX8_init 83 = .ok (.if_icmp .ge 16, 3) := dk_s2 (y := 0) (z := 16) dk_g162 (by decide +kernel) rfl
theorem dX8_init_86 : decode cX8_init 86 = .ok (.aload_n 0, 1) := dk_n (t := []) dk_g42 (by decide +kernel)
theorem dX8_init_87 : decode cX8_init 87 = .ok (.getfield 26, 3) := dk_u2 (y := 0) (z := 26) dk_g180 (by decide +kernel) rfl
theorem dX8_init_90 : decode cX8_init 90 = .ok (.iload_n 1, 1) := dk_n (t := []) dk_g27 (by decide +kernel)
theorem dX8_init_91 : decode cX8_init 91 = .ok (.iconst (-1), 1) := dk_n (t := []) dk_g2 (by decide +kernel)
theorem dX8_init_92 : decode cX8_init 92 = .ok (.iastore, 1) := dk_n (t := []) dk_g79 (by decide +kernel)
theorem dX8_init_93 : decode cX8_init 93 = .ok (.iinc 1 1, 3) := dk_ii (y := 1) (z := 1) dk_g132 (by decide +kernel) rfl
theorem dX8_init_96 : decode cX8_init 96 = .ok (.goto (-16), 3) := dk_s2 (y := 255) (z := 240) dk_g167 (by decide +kernel) rfl
theorem dX8_init_99 : decode cX8_init 99 = .ok (.iconst 0, 1) := dk_n (t := []) dk_g3 (by decide +kernel)
theorem dX8_init_100 : decode cX8_init 100 = .ok (.istore_n 1, 1) := dk_n (t := []) dk_g60 (by decide +kernel)
theorem dX8_init_101 : decode cX8_init 101 = .ok (.iload_n 1, 1) := dk_n (t := []) dk_g27 (by decide +kernel)
theorem dX8_init_102 : decode cX8_init 102 = .ok (.aload_n 0, 1) := dk_n (t := []) dk_g42 (by decide +kernel)
theorem dX8_init_103 : decode cX8_init 103 = .ok (.getfield 29, 3) := dk_u2 (y := 0) (z := 29) dk_g180 (by decide +kernel) rfl
theorem dX8_init_106 : decode cX8_init 106 = .ok (.arraylength, 1) := dk_n (t := []) dk_g190 (by decide +kernel)
theorem dX8_init_107 : decode cX8_init 107 = .ok (.if_icmp .ge 16, 3) := dk_s2 (y := 0) (z := 16) dk_g162 (by decide +kernel) rfl
theorem dX8_init_110 : decode cX8_init 110 = .ok (.aload_n 0, 1) := dk_n (t := []) dk_g42 (by decide +kernel)
theorem dX8_init_111 : decode cX8_init 111 = .ok (.getfield 29, 3) := dk_u2 (y := 0) (z := 29) dk_g180 (by decide +kernel) rfl
theorem dX8_init_114 : decode cX8_init 114 = .ok (.iload_n 1, 1) := dk_n (t := []) dk_g27 (by decide +kernel)
theorem dX8_init_115 : decode cX8_init 115 = .ok (.iconst (-1), 1) := dk_n (t := []) dk_g2 (by decide +kernel)
theorem dX8_init_116 : decode cX8_init 116 = .ok (.iastore, 1) := dk_n (t := []) dk_g79 (by decide +kernel)
theorem dX8_init_117 : decode cX8_init 117 = .ok (.iinc 1 1, 3) := dk_ii (y := 1) (z := 1) dk_g132 (by decide +kernel) rfl
theorem dX8_init_120 : decode cX8_init 120 = .ok (.goto (-19), 3) := dk_s2 (y := 255) (z := 237) dk_g167 (by decide +kernel) rfl
theorem dX8_init_123 : decode cX8_init 123 = .ok (.return_, 1) := dk_n (t := []) dk_g177 (by decide +kernel)
theorem dX8_refuse_0 : decode cX8_refuse 0 = .ok (.aload_n 0, 1) := dk_n (t := []) dk_g42 (by decide +kernel)
theorem dX8_refuse_1 : decode cX8_refuse 1 = .ok (.iload_n 1, 1) := dk_n (t := []) dk_g27 (by decide +kernel)
theorem dX8_refuse_2 : decode cX8_refuse 2 = .ok (.putfield 41, 3) := dk_u2 (y := 0) (z := 41) dk_g181 (by decide +kernel) rfl
theorem dX8_refuse_5 : decode cX8_refuse 5 = .ok (.iconst 0, 1) := dk_n (t := []) dk_g3 (by decide +kernel)
theorem dX8_refuse_6 : decode cX8_refuse 6 = .ok (.ireturn, 1) := dk_n (t := []) dk_g172 (by decide +kernel)
theorem dX8_is_0 : decode cX8_is 0 = .ok (.iload_n 0, 1) := dk_n (t := []) dk_g26 (by decide +kernel)
theorem dX8_is_1 : decode cX8_is 1 = .ok (.iload_n 1, 1) := dk_n (t := []) dk_g27 (by decide +kernel)
theorem dX8_is_2 : decode cX8_is 2 = .ok (.if_icmp .lt 12, 3) := dk_s2 (y := 0) (z := 12) dk_g161 (by decide +kernel) rfl
theorem dX8_is_5 : decode cX8_is 5 = .ok (.iload_n 0, 1) := dk_n (t := []) dk_g26 (by decide +kernel)
theorem dX8_is_6 : decode cX8_is 6 = .ok (.iload_n 2, 1) := dk_n (t := []) dk_g28 (by decide +kernel)
theorem dX8_is_7 : decode cX8_is 7 = .ok (.if_icmp .gt 7, 3) := dk_s2 (y := 0) (z := 7) dk_g163 (by decide +kernel) rfl
theorem dX8_is_10 : decode cX8_is 10 = .ok (.iconst 1, 1) := dk_n (t := []) dk_g4 (by decide +kernel)
theorem dX8_is_11 : decode cX8_is 11 = .ok (.goto 4, 3) := dk_s2 (y := 0) (z := 4) dk_g167 (by decide +kernel) rfl
theorem dX8_is_14 : decode cX8_is 14 = .ok (.iconst 0, 1) := dk_n (t := []) dk_g3 (by decide +kernel)
theorem dX8_is_15 : decode cX8_is 15 = .ok (.ireturn, 1) := dk_n (t := []) dk_g172 (by decide +kernel)
theorem dX8_isField_0 : decode cX8_isField 0 = .ok (.iload_n 1, 1) := dk_n (t := []) dk_g27 (by decide +kernel)
theorem dX8_isField_1 : decode cX8_isField 1 = .ok (.iconst 0, 1) := dk_n (t := []) dk_g3 (by decide +kernel)
theorem dX8_isField_2 : decode cX8_isField 2 = .ok (.aload_n 0, 1) := dk_n (t := []) dk_g42 (by decide +kernel)
theorem dX8_isField_3 : decode cX8_isField 3 = .ok (.getfield 45, 3) := dk_u2 (y := 0) (z := 45) dk_g180 (by decide +kernel) rfl
theorem dX8_isField_6 : decode cX8_isField 6 = .ok (.iconst 1, 1) := dk_n (t := []) dk_g4 (by decide +kernel)
theorem dX8_isField_7 : decode cX8_isField 7 = .ok (.isub, 1) := dk_n (t := []) dk_g100 (by decide +kernel)
theorem dX8_isField_8 : decode cX8_isField 8 = .ok (.invokestatic 48, 3) := dk_u2 (y := 0) (z := 48) dk_g184 (by decide +kernel) rfl
theorem dX8_isField_11 : decode cX8_isField 11 = .ok (.ireturn, 1) := dk_n (t := []) dk_g172 (by decide +kernel)
theorem dX8_isLine_0 : decode cX8_isLine 0 = .ok (.iload_n 1, 1) := dk_n (t := []) dk_g27 (by decide +kernel)
theorem dX8_isLine_1 : decode cX8_isLine 1 = .ok (.iconst 0, 1) := dk_n (t := []) dk_g3 (by decide +kernel)
theorem dX8_isLine_2 : decode cX8_isLine 2 = .ok (.aload_n 0, 1) := dk_n (t := []) dk_g42 (by decide +kernel)
theorem dX8_isLine_3 : decode cX8_isLine 3 = .ok (.getfield 19, 3) := dk_u2 (y := 0) (z := 19) dk_g180 (by decide +kernel) rfl
theorem dX8_isLine_6 : decode cX8_isLine 6 = .ok (.invokevirtual 52, 3) := dk_u2 (y := 0) (z := 52) dk_g182 (by decide +kernel) rfl
theorem dX8_isLine_9 : decode cX8_isLine 9 = .ok (.iconst 1, 1) := dk_n (t := []) dk_g4 (by decide +kernel)
theorem dX8_isLine_10 : decode cX8_isLine 10 = .ok (.isub, 1) := dk_n (t := []) dk_g100 (by decide +kernel)
theorem dX8_isLine_11 : decode cX8_isLine 11 = .ok (.invokestatic 48, 3) := dk_u2 (y := 0) (z := 48) dk_g184 (by decide +kernel) rfl
theorem dX8_isLine_14 : decode cX8_isLine 14 = .ok (.ireturn, 1) := dk_n (t := []) dk_g172 (by decide +kernel)
theorem dX8_isMachine_0 : decode cX8_isMachine 0 = .ok (.iload_n 0, 1) := dk_n (t := []) dk_g26 (by decide +kernel)
theorem dX8_isMachine_1 : decode cX8_isMachine 1 = .ok (.iconst 0, 1) := dk_n (t := []) dk_g3 (by decide +kernel)
theorem dX8_isMachine_2 : decode cX8_isMachine 2 = .ok (.iconst 5, 1) := dk_n (t := []) dk_g8 (by decide +kernel)
theorem dX8_isMachine_3 : decode cX8_isMachine 3 = .ok (.invokestatic 48, 3) := dk_u2 (y := 0) (z := 48) dk_g184 (by decide +kernel) rfl
theorem dX8_isMachine_6 : decode cX8_isMachine 6 = .ok (.ireturn, 1) := dk_n (t := []) dk_g172 (by decide +kernel)
theorem dX8_counts_0 : decode cX8_counts 0 = .ok (.aload_n 1, 1) := dk_n (t := []) dk_g43 (by decide +kernel)
theorem dX8_counts_1 : decode cX8_counts 1 = .ok (.getfield 56, 3) := dk_u2 (y := 0) (z := 56) dk_g180 (by decide +kernel) rfl
theorem dX8_counts_4 : decode cX8_counts 4 = .ok (.ifCond .ne 30, 3) := dk_s2 (y := 0) (z := 30) dk_g154 (by decide +kernel) rfl
theorem dX8_counts_7 : decode cX8_counts 7 = .ok (.aload_n 1, 1) := dk_n (t := []) dk_g43 (by decide +kernel)
theorem dX8_counts_8 : decode cX8_counts 8 = .ok (.getfield 62, 3) := dk_u2 (y := 0) (z := 62) dk_g180 (by decide +kernel) rfl
theorem dX8_counts_11 : decode cX8_counts 11 = .ok (.aload_n 0, 1) := dk_n (t := []) dk_g42 (by decide +kernel)
theorem dX8_counts_12 : decode cX8_counts 12 = .ok (.getfield 9, 3) := dk_u2 (y := 0) (z := 9) dk_g180 (by decide +kernel) rfl
theorem dX8_counts_15 : decode cX8_counts 15 = .ok (.aload_n 1, 1) := dk_n (t := []) dk_g43 (by decide +kernel)
theorem dX8_counts_16 : decode cX8_counts 16 = .ok (.getfield 65, 3) := dk_u2 (y := 0) (z := 65) dk_g180 (by decide +kernel) rfl
theorem dX8_counts_19 : decode cX8_counts 19 = .ok (.iaload, 1) := dk_n (t := []) dk_g46 (by decide +kernel)
theorem dX8_counts_20 : decode cX8_counts 20 = .ok (.if_icmp .eq 10, 3) := dk_s2 (y := 0) (z := 10) dk_g159 (by decide +kernel) rfl
theorem dX8_counts_23 : decode cX8_counts 23 = .ok (.aload_n 1, 1) := dk_n (t := []) dk_g43 (by decide +kernel)
theorem dX8_counts_24 : decode cX8_counts 24 = .ok (.getfield 68, 3) := dk_u2 (y := 0) (z := 68) dk_g180 (by decide +kernel) rfl
theorem dX8_counts_27 : decode cX8_counts 27 = .ok (.ifCond .eq 7, 3) := dk_s2 (y := 0) (z := 7) dk_g153 (by decide +kernel) rfl
theorem dX8_counts_30 : decode cX8_counts 30 = .ok (.iconst 1, 1) := dk_n (t := []) dk_g4 (by decide +kernel)
theorem dX8_counts_31 : decode cX8_counts 31 = .ok (.goto 4, 3) := dk_s2 (y := 0) (z := 4) dk_g167 (by decide +kernel) rfl
theorem dX8_counts_34 : decode cX8_counts 34 = .ok (.iconst 0, 1) := dk_n (t := []) dk_g3 (by decide +kernel)
theorem dX8_counts_35 : decode cX8_counts 35 = .ok (.ireturn, 1) := dk_n (t := []) dk_g172 (by decide +kernel)
theorem dX8_counting_0 : decode cX8_counting 0 = .ok (.iconst 0, 1) := dk_n (t := []) dk_g3 (by decide +kernel)
theorem dX8_counting_1 : decode cX8_counting 1 = .ok (.istore_n 1, 1) := dk_n (t := []) dk_g60 (by decide +kernel)
theorem dX8_counting_2 : decode cX8_counting 2 = .ok (.iconst 0, 1) := dk_n (t := []) dk_g3 (by decide +kernel)
theorem dX8_counting_3 : decode cX8_counting 3 = .ok (.istore_n 2, 1) := dk_n (t := []) dk_g61 (by decide +kernel)
theorem dX8_counting_4 : decode cX8_counting 4 = .ok (.iload_n 2, 1) := dk_n (t := []) dk_g28 (by decide +kernel)
theorem dX8_counting_5 : decode cX8_counting 5 = .ok (.aload_n 0, 1) := dk_n (t := []) dk_g42 (by decide +kernel)
theorem dX8_counting_6 : decode cX8_counting 6 = .ok (.getfield 19, 3) := dk_u2 (y := 0) (z := 19) dk_g180 (by decide +kernel) rfl
theorem dX8_counting_9 : decode cX8_counting 9 = .ok (.invokevirtual 52, 3) := dk_u2 (y := 0) (z := 52) dk_g182 (by decide +kernel) rfl
theorem dX8_counting_12 : decode cX8_counting 12 = .ok (.if_icmp .ge 55, 3) := dk_s2 (y := 0) (z := 55) dk_g162 (by decide +kernel) rfl
theorem dX8_counting_15 : decode cX8_counting 15 = .ok (.iload_n 1, 1) := dk_n (t := []) dk_g27 (by decide +kernel)
theorem dX8_counting_16 : decode cX8_counting 16 = .ok (.aload_n 0, 1) := dk_n (t := []) dk_g42 (by decide +kernel)
theorem dX8_counting_17 : decode cX8_counting 17 = .ok (.aload_n 0, 1) := dk_n (t := []) dk_g42 (by decide +kernel)
theorem dX8_counting_18 : decode cX8_counting 18 = .ok (.getfield 19, 3) := dk_u2 (y := 0) (z := 19) dk_g180 (by decide +kernel) rfl
theorem dX8_counting_21 : decode cX8_counting 21 = .ok (.iload_n 2, 1) := dk_n (t := []) dk_g28 (by decide +kernel)
theorem dX8_counting_22 : decode cX8_counting 22 = .ok (.invokevirtual 71, 3) := dk_u2 (y := 0) (z := 71) dk_g182 (by decide +kernel) rfl
theorem dX8_counting_25 : decode cX8_counting 25 = .ok (.checkcast 57, 3) := dk_u2 (y := 0) (z := 57) dk_g192 (by decide +kernel) rfl
theorem dX8_counting_28 : decode cX8_counting 28 = .ok (.invokevirtual 75, 3) := dk_u2 (y := 0) (z := 75) dk_g182 (by decide +kernel) rfl
theorem dX8_counting_31 : decode cX8_counting 31 = .ok (.ifCond .eq 27, 3) := dk_s2 (y := 0) (z := 27) dk_g153 (by decide +kernel) rfl
theorem dX8_counting_34 : decode cX8_counting 34 = .ok (.aload_n 0, 1) := dk_n (t := []) dk_g42 (by decide +kernel)
theorem dX8_counting_35 : decode cX8_counting 35 = .ok (.getfield 19, 3) := dk_u2 (y := 0) (z := 19) dk_g180 (by decide +kernel) rfl
theorem dX8_counting_38 : decode cX8_counting 38 = .ok (.iload_n 2, 1) := dk_n (t := []) dk_g28 (by decide +kernel)
theorem dX8_counting_39 : decode cX8_counting 39 = .ok (.invokevirtual 71, 3) := dk_u2 (y := 0) (z := 71) dk_g182 (by decide +kernel) rfl
theorem dX8_counting_42 : decode cX8_counting 42 = .ok (.checkcast 57, 3) := dk_u2 (y := 0) (z := 57) dk_g192 (by decide +kernel) rfl
theorem dX8_counting_45 : decode cX8_counting 45 = .ok (.getfield 79, 3) := dk_u2 (y := 0) (z := 79) dk_g180 (by decide +kernel) rfl
theorem dX8_counting_48 : decode cX8_counting 48 = .ok (.iconst 5, 1) := dk_n (t := []) dk_g8 (by decide +kernel)
theorem dX8_counting_49 : decode cX8_counting 49 = .ok (.if_icmp .ge 9, 3) := dk_s2 (y := 0) (z := 9) dk_g162 (by decide +kernel) rfl
theorem dX8_counting_52 : decode cX8_counting 52 = .ok (.iconst 1, 1) := dk_n (t := []) dk_g4 (by decide +kernel)
theorem dX8_counting_53 : decode cX8_counting 53 = .ok (.iload_n 2, 1) := dk_n (t := []) dk_g28 (by decide +kernel)
theorem dX8_counting_54 : decode cX8_counting 54 = .ok (.ishl, 1) := dk_n (t := []) dk_g120 (by decide +kernel)
theorem dX8_counting_55 : decode cX8_counting 55 = .ok (.goto 4, 3) := dk_s2 (y := 0) (z := 4) dk_g167 (by decide +kernel) rfl
theorem dX8_counting_58 : decode cX8_counting 58 = .ok (.iconst 0, 1) := dk_n (t := []) dk_g3 (by decide +kernel)
theorem dX8_counting_59 : decode cX8_counting 59 = .ok (.ior, 1) := dk_n (t := []) dk_g128 (by decide +kernel)
theorem dX8_counting_60 : decode cX8_counting 60 = .ok (.istore_n 1, 1) := dk_n (t := []) dk_g60 (by decide +kernel)
theorem dX8_counting_61 : decode cX8_counting 61 = .ok (.iinc 2 1, 3) := dk_ii (y := 2) (z := 1) dk_g132 (by decide +kernel) rfl
theorem dX8_counting_64 : decode cX8_counting 64 = .ok (.goto (-60), 3) := dk_s2 (y := 255) (z := 196) dk_g167 (by decide +kernel) rfl
theorem dX8_counting_67 : decode cX8_counting 67 = .ok (.iload_n 1, 1) := dk_n (t := []) dk_g27 (by decide +kernel)
theorem dX8_counting_68 : decode cX8_counting 68 = .ok (.ireturn, 1) := dk_n (t := []) dk_g172 (by decide +kernel)
theorem dX8_field_0 : decode cX8_field 0 = .ok (.aload_n 0, 1) := dk_n (t := []) dk_g42 (by decide +kernel)
theorem dX8_field_1 : decode cX8_field 1 = .ok (.iconst 0, 1) := dk_n (t := []) dk_g3 (by decide +kernel)
theorem dX8_field_2 : decode cX8_field 2 = .ok (.putfield 41, 3) := dk_u2 (y := 0) (z := 41) dk_g181 (by decide +kernel) rfl
theorem dX8_field_5 : decode cX8_field 5 = .ok (.iload_n 1, 1) := dk_n (t := []) dk_g27 (by decide +kernel)
theorem dX8_field_6 : decode cX8_field 6 = .ok (.iconst 0, 1) := dk_n (t := []) dk_g3 (by decide +kernel)
theorem dX8_field_7 : decode cX8_field 7 = .ok (.iconst 3, 1) := dk_n (t := []) dk_g6 (by decide +kernel)
theorem dX8_field_8 : decode cX8_field 8 = .ok (.invokestatic 48, 3) := dk_u2 (y := 0) (z := 48) dk_g184 (by decide +kernel) rfl
theorem dX8_field_11 : decode cX8_field 11 = .ok (.ifCond .ne 9, 3) := dk_s2 (y := 0) (z := 9) dk_g154 (by decide +kernel) rfl
theorem dX8_field_14 : decode cX8_field 14 = .ok (.aload_n 0, 1) := dk_n (t := []) dk_g42 (by decide +kernel)
theorem dX8_field_15 : decode cX8_field 15 = .ok (.iconst 1, 1) := dk_n (t := []) dk_g4 (by decide +kernel)
theorem dX8_field_16 : decode cX8_field 16 = .ok (.invokevirtual 82, 3) := dk_u2 (y := 0) (z := 82) dk_g182 (by decide +kernel) rfl
theorem dX8_field_19 : decode cX8_field 19 = .ok (.ireturn, 1) := dk_n (t := []) dk_g172 (by decide +kernel)
theorem dX8_field_20 : decode cX8_field 20 = .ok (.aload_n 0, 1) := dk_n (t := []) dk_g42 (by decide +kernel)
theorem dX8_field_21 : decode cX8_field 21 = .ok (.getfield 45, 3) := dk_u2 (y := 0) (z := 45) dk_g180 (by decide +kernel) rfl
theorem dX8_field_24 : decode cX8_field 24 = .ok (.iconst 5, 1) := dk_n (t := []) dk_g8 (by decide +kernel)
theorem dX8_field_25 : decode cX8_field 25 = .ok (.if_icmp .ne 9, 3) := dk_s2 (y := 0) (z := 9) dk_g160 (by decide +kernel) rfl
theorem dX8_field_28 : decode cX8_field 28 = .ok (.aload_n 0, 1) := dk_n (t := []) dk_g42 (by decide +kernel)
theorem dX8_field_29 : decode cX8_field 29 = .ok (.iconst 2, 1) := dk_n (t := []) dk_g5 (by decide +kernel)
theorem dX8_field_30 : decode cX8_field 30 = .ok (.invokevirtual 82, 3) := dk_u2 (y := 0) (z := 82) dk_g182 (by decide +kernel) rfl
theorem dX8_field_33 : decode cX8_field 33 = .ok (.ireturn, 1) := dk_n (t := []) dk_g172 (by decide +kernel)
theorem dX8_field_34 : decode cX8_field 34 = .ok (.aload_n 0, 1) := dk_n (t := []) dk_g42 (by decide +kernel)
theorem dX8_field_35 : decode cX8_field 35 = .ok (.getfield 9, 3) := dk_u2 (y := 0) (z := 9) dk_g180 (by decide +kernel) rfl
theorem dX8_field_38 : decode cX8_field 38 = .ok (.aload_n 0, 1) := dk_n (t := []) dk_g42 (by decide +kernel)
theorem dX8_field_39 : decode cX8_field 39 = .ok (.getfield 45, 3) := dk_u2 (y := 0) (z := 45) dk_g180 (by decide +kernel) rfl
theorem dX8_field_42 : decode cX8_field 42 = .ok (.iload_n 1, 1) := dk_n (t := []) dk_g27 (by decide +kernel)
theorem dX8_field_43 : decode cX8_field 43 = .ok (.iastore, 1) := dk_n (t := []) dk_g79 (by decide +kernel)
theorem dX8_field_44 : decode cX8_field 44 = .ok (.aload_n 0, 1) := dk_n (t := []) dk_g42 (by decide +kernel)
theorem dX8_field_45 : decode cX8_field 45 = .ok (.getfield 13, 3) := dk_u2 (y := 0) (z := 13) dk_g180 (by decide +kernel) rfl
theorem dX8_field_48 : decode cX8_field 48 = .ok (.aload_n 0, 1) := dk_n (t := []) dk_g42 (by decide +kernel)
theorem dX8_field_49 : decode cX8_field 49 = .ok (.getfield 45, 3) := dk_u2 (y := 0) (z := 45) dk_g180 (by decide +kernel) rfl
theorem dX8_field_52 : decode cX8_field 52 = .ok (.iconst 1, 1) := dk_n (t := []) dk_g4 (by decide +kernel)
theorem dX8_field_53 : decode cX8_field 53 = .ok (.iastore, 1) := dk_n (t := []) dk_g79 (by decide +kernel)
theorem dX8_field_54 : decode cX8_field 54 = .ok (.aload_n 0, 1) := dk_n (t := []) dk_g42 (by decide +kernel)
theorem dX8_field_55 : decode cX8_field 55 = .ok (.dup, 1) := dk_n (t := []) dk_g89 (by decide +kernel)
theorem dX8_field_56 : decode cX8_field 56 = .ok (.getfield 45, 3) := dk_u2 (y := 0) (z := 45) dk_g180 (by decide +kernel) rfl
theorem dX8_field_59 : decode cX8_field 59 = .ok (.iconst 1, 1) := dk_n (t := []) dk_g4 (by decide +kernel)
theorem dX8_field_60 : decode cX8_field 60 = .ok (.iadd, 1) := dk_n (t := []) dk_g96 (by decide +kernel)
theorem dX8_field_61 : decode cX8_field 61 = .ok (.putfield 45, 3) := dk_u2 (y := 0) (z := 45) dk_g181 (by decide +kernel) rfl
theorem dX8_field_64 : decode cX8_field 64 = .ok (.aload_n 0, 1) := dk_n (t := []) dk_g42 (by decide +kernel)
theorem dX8_field_65 : decode cX8_field 65 = .ok (.getfield 45, 3) := dk_u2 (y := 0) (z := 45) dk_g180 (by decide +kernel) rfl
theorem dX8_field_68 : decode cX8_field 68 = .ok (.iconst 1, 1) := dk_n (t := []) dk_g4 (by decide +kernel)
theorem dX8_field_69 : decode cX8_field 69 = .ok (.isub, 1) := dk_n (t := []) dk_g100 (by decide +kernel)
theorem dX8_field_70 : decode cX8_field 70 = .ok (.ireturn, 1) := dk_n (t := []) dk_g172 (by decide +kernel)
theorem dX8_tell_0 : decode cX8_tell 0 = .ok (.aload_n 0, 1) := dk_n (t := []) dk_g42 (by decide +kernel)
theorem dX8_tell_1 : decode cX8_tell 1 = .ok (.iconst 0, 1) := dk_n (t := []) dk_g3 (by decide +kernel)
theorem dX8_tell_2 : decode cX8_tell 2 = .ok (.putfield 41, 3) := dk_u2 (y := 0) (z := 41) dk_g181 (by decide +kernel) rfl
theorem dX8_tell_5 : decode cX8_tell 5 = .ok (.iload_n 1, 1) := dk_n (t := []) dk_g27 (by decide +kernel)
theorem dX8_tell_6 : decode cX8_tell 6 = .ok (.iconst 3, 1) := dk_n (t := []) dk_g6 (by decide +kernel)
theorem dX8_tell_7 : decode cX8_tell 7 = .ok (.if_icmp .eq 8, 3) := dk_s2 (y := 0) (z := 8) dk_g159 (by decide +kernel) rfl
theorem dX8_tell_10 : decode cX8_tell 10 = .ok (.iload_n 1, 1) := dk_n (t := []) dk_g27 (by decide +kernel)
theorem dX8_tell_11 : decode cX8_tell 11 = .ok (.iconst 4, 1) := dk_n (t := []) dk_g7 (by decide +kernel)
theorem dX8_tell_12 : decode cX8_tell 12 = .ok (.if_icmp .ne 7, 3) := dk_s2 (y := 0) (z := 7) dk_g160 (by decide +kernel) rfl
theorem dX8_tell_15 : decode cX8_tell 15 = .ok (.iconst 1, 1) := dk_n (t := []) dk_g4 (by decide +kernel)
theorem dX8_tell_16 : decode cX8_tell 16 = .ok (.goto 4, 3) := dk_s2 (y := 0) (z := 4) dk_g167 (by decide +kernel) rfl
theorem dX8_tell_19 : decode cX8_tell 19 = .ok (.iconst 0, 1) := dk_n (t := []) dk_g3 (by decide +kernel)
theorem dX8_tell_20 : decode cX8_tell 20 = .ok (.istore 7, 2) := dk_u1 (y := 7) dk_g54 (by decide +kernel)
theorem dX8_tell_22 : decode cX8_tell 22 = .ok (.aload_n 0, 1) := dk_n (t := []) dk_g42 (by decide +kernel)
theorem dX8_tell_23 : decode cX8_tell 23 = .ok (.iload_n 3, 1) := dk_n (t := []) dk_g29 (by decide +kernel)
theorem dX8_tell_24 : decode cX8_tell 24 = .ok (.invokevirtual 86, 3) := dk_u2 (y := 0) (z := 86) dk_g182 (by decide +kernel) rfl
theorem dX8_tell_27 : decode cX8_tell 27 = .ok (.ifCond .eq 17, 3) := dk_s2 (y := 0) (z := 17) dk_g153 (by decide +kernel) rfl
theorem dX8_tell_30 : decode cX8_tell 30 = .ok (.iload 7, 2) := dk_u1 (y := 7) dk_g21 (by decide +kernel)
theorem dX8_tell_32 : decode cX8_tell 32 = .ok (.ifCond .eq 18, 3) := dk_s2 (y := 0) (z := 18) dk_g153 (by decide +kernel) rfl
theorem dX8_tell_35 : decode cX8_tell 35 = .ok (.aload_n 0, 1) := dk_n (t := []) dk_g42 (by decide +kernel)
theorem dX8_tell_36 : decode cX8_tell 36 = .ok (.iload 4, 2) := dk_u1 (y := 4) dk_g21 (by decide +kernel)
theorem dX8_tell_38 : decode cX8_tell 38 = .ok (.invokevirtual 86, 3) := dk_u2 (y := 0) (z := 86) dk_g182 (by decide +kernel) rfl
theorem dX8_tell_41 : decode cX8_tell 41 = .ok (.ifCond .ne 9, 3) := dk_s2 (y := 0) (z := 9) dk_g154 (by decide +kernel) rfl
theorem dX8_tell_44 : decode cX8_tell 44 = .ok (.aload_n 0, 1) := dk_n (t := []) dk_g42 (by decide +kernel)
theorem dX8_tell_45 : decode cX8_tell 45 = .ok (.iconst 1, 1) := dk_n (t := []) dk_g4 (by decide +kernel)
theorem dX8_tell_46 : decode cX8_tell 46 = .ok (.invokevirtual 82, 3) := dk_u2 (y := 0) (z := 82) dk_g182 (by decide +kernel) rfl
theorem dX8_tell_49 : decode cX8_tell 49 = .ok (.ireturn, 1) := dk_n (t := []) dk_g172 (by decide +kernel)
theorem dX8_tell_50 : decode cX8_tell 50 = .ok (.iload_n 2, 1) := dk_n (t := []) dk_g28 (by decide +kernel)
theorem dX8_tell_51 : decode cX8_tell 51 = .ok (.iconst 0, 1) := dk_n (t := []) dk_g3 (by decide +kernel)
theorem dX8_tell_52 : decode cX8_tell 52 = .ok (.iconst 3, 1) := dk_n (t := []) dk_g6 (by decide +kernel)
theorem dX8_tell_53 : decode cX8_tell 53 = .ok (.invokestatic 48, 3) := dk_u2 (y := 0) (z := 48) dk_g184 (by decide +kernel) rfl
theorem dX8_tell_56 : decode cX8_tell 56 = .ok (.ifCond .eq 19, 3) := dk_s2 (y := 0) (z := 19) dk_g153 (by decide +kernel) rfl
theorem dX8_tell_59 : decode cX8_tell 59 = .ok (.iload 6, 2) := dk_u1 (y := 6) dk_g21 (by decide +kernel)
theorem dX8_tell_61 : decode cX8_tell 61 = .ok (.ifCond .eq 14, 3) := dk_s2 (y := 0) (z := 14) dk_g153 (by decide +kernel) rfl
theorem dX8_tell_64 : decode cX8_tell 64 = .ok (.iload 7, 2) := dk_u1 (y := 7) dk_g21 (by decide +kernel)
theorem dX8_tell_66 : decode cX8_tell 66 = .ok (.ifCond .eq 15, 3) := dk_s2 (y := 0) (z := 15) dk_g153 (by decide +kernel) rfl
theorem dX8_tell_69 : decode cX8_tell 69 = .ok (.iload 4, 2) := dk_u1 (y := 4) dk_g21 (by decide +kernel)
theorem dX8_tell_71 : decode cX8_tell 71 = .ok (.iload_n 3, 1) := dk_n (t := []) dk_g29 (by decide +kernel)
theorem dX8_tell_72 : decode cX8_tell 72 = .ok (.if_icmp .ne 9, 3) := dk_s2 (y := 0) (z := 9) dk_g160 (by decide +kernel) rfl
theorem dX8_tell_75 : decode cX8_tell 75 = .ok (.aload_n 0, 1) := dk_n (t := []) dk_g42 (by decide +kernel)
theorem dX8_tell_76 : decode cX8_tell 76 = .ok (.iconst 2, 1) := dk_n (t := []) dk_g5 (by decide +kernel)
theorem dX8_tell_77 : decode cX8_tell 77 = .ok (.invokevirtual 82, 3) := dk_u2 (y := 0) (z := 82) dk_g182 (by decide +kernel) rfl
theorem dX8_tell_80 : decode cX8_tell 80 = .ok (.ireturn, 1) := dk_n (t := []) dk_g172 (by decide +kernel)
theorem dX8_tell_81 : decode cX8_tell 81 = .ok (.aload_n 0, 1) := dk_n (t := []) dk_g42 (by decide +kernel)
theorem dX8_tell_82 : decode cX8_tell 82 = .ok (.getfield 19, 3) := dk_u2 (y := 0) (z := 19) dk_g180 (by decide +kernel) rfl
theorem dX8_tell_85 : decode cX8_tell 85 = .ok (.invokevirtual 52, 3) := dk_u2 (y := 0) (z := 52) dk_g182 (by decide +kernel) rfl
theorem dX8_tell_88 : decode cX8_tell 88 = .ok (.bipush 30, 2) := dk_s1 (y := 30) dk_g16 (by decide +kernel) rfl
theorem dX8_tell_90 : decode cX8_tell 90 = .ok (.if_icmp .ne 9, 3) := dk_s2 (y := 0) (z := 9) dk_g160 (by decide +kernel) rfl
theorem dX8_tell_93 : decode cX8_tell 93 = .ok (.aload_n 0, 1) := dk_n (t := []) dk_g42 (by decide +kernel)
theorem dX8_tell_94 : decode cX8_tell 94 = .ok (.iconst 3, 1) := dk_n (t := []) dk_g6 (by decide +kernel)
theorem dX8_tell_95 : decode cX8_tell 95 = .ok (.invokevirtual 82, 3) := dk_u2 (y := 0) (z := 82) dk_g182 (by decide +kernel) rfl
theorem dX8_tell_98 : decode cX8_tell 98 = .ok (.ireturn, 1) := dk_n (t := []) dk_g172 (by decide +kernel)
theorem dX8_tell_99 : decode cX8_tell 99 = .ok (.new 57, 3) := dk_u2 (y := 0) (z := 57) dk_g187 (by decide +kernel) rfl
theorem dX8_tell_102 : decode cX8_tell 102 = .ok (.dup, 1) := dk_n (t := []) dk_g89 (by decide +kernel)
theorem dX8_tell_103 : decode cX8_tell 103 = .ok (.invokespecial 90, 3) := dk_u2 (y := 0) (z := 90) dk_g183 (by decide +kernel) rfl
theorem dX8_tell_106 : decode cX8_tell 106 = .ok (.astore 8, 2) := dk_u1 (y := 8) dk_g58 (by decide +kernel)
theorem dX8_tell_108 : decode cX8_tell 108 = .ok (.aload 8, 2) := dk_u1 (y := 8) dk_g25 (by decide +kernel)
theorem dX8_tell_110 : decode cX8_tell 110 = .ok (.iload_n 1, 1) := dk_n (t := []) dk_g27 (by decide +kernel)
theorem dX8_tell_111 : decode cX8_tell 111 = .ok (.putfield 79, 3) := dk_u2 (y := 0) (z := 79) dk_g181 (by decide +kernel) rfl
theorem dX8_tell_114 : decode cX8_tell 114 = .ok (.aload 8, 2) := dk_u1 (y := 8) dk_g25 (by decide +kernel)
theorem dX8_tell_116 : decode cX8_tell 116 = .ok (.iload_n 2, 1) := dk_n (t := []) dk_g28 (by decide +kernel)
theorem dX8_tell_117 : decode cX8_tell 117 = .ok (.putfield 62, 3) := dk_u2 (y := 0) (z := 62) dk_g181 (by decide +kernel) rfl
theorem dX8_tell_120 : decode cX8_tell 120 = .ok (.aload 8, 2) := dk_u1 (y := 8) dk_g25 (by decide +kernel)
theorem dX8_tell_122 : decode cX8_tell 122 = .ok (.iload_n 3, 1) := dk_n (t := []) dk_g29 (by decide +kernel)
theorem dX8_tell_123 : decode cX8_tell 123 = .ok (.putfield 65, 3) := dk_u2 (y := 0) (z := 65) dk_g181 (by decide +kernel) rfl
theorem dX8_tell_126 : decode cX8_tell 126 = .ok (.aload 8, 2) := dk_u1 (y := 8) dk_g25 (by decide +kernel)
theorem dX8_tell_128 : decode cX8_tell 128 = .ok (.iload 4, 2) := dk_u1 (y := 4) dk_g21 (by decide +kernel)
theorem dX8_tell_130 : decode cX8_tell 130 = .ok (.putfield 91, 3) := dk_u2 (y := 0) (z := 91) dk_g181 (by decide +kernel) rfl
theorem dX8_tell_133 : decode cX8_tell 133 = .ok (.aload 8, 2) := dk_u1 (y := 8) dk_g25 (by decide +kernel)
theorem dX8_tell_135 : decode cX8_tell 135 = .ok (.iload 5, 2) := dk_u1 (y := 5) dk_g21 (by decide +kernel)
theorem dX8_tell_137 : decode cX8_tell 137 = .ok (.putfield 94, 3) := dk_u2 (y := 0) (z := 94) dk_g181 (by decide +kernel) rfl
theorem dX8_tell_140 : decode cX8_tell 140 = .ok (.aload_n 0, 1) := dk_n (t := []) dk_g42 (by decide +kernel)
theorem dX8_tell_141 : decode cX8_tell 141 = .ok (.getfield 19, 3) := dk_u2 (y := 0) (z := 19) dk_g180 (by decide +kernel) rfl
theorem dX8_tell_144 : decode cX8_tell 144 = .ok (.aload 8, 2) := dk_u1 (y := 8) dk_g25 (by decide +kernel)
theorem dX8_tell_146 : decode cX8_tell 146 = .ok (.invokevirtual 97, 3) := dk_u2 (y := 0) (z := 97) dk_g182 (by decide +kernel) rfl
theorem dX8_tell_149 : decode cX8_tell 149 = .ok (.pop, 1) := dk_n (t := []) dk_g87 (by decide +kernel)
theorem dX8_tell_150 : decode cX8_tell 150 = .ok (.aload_n 0, 1) := dk_n (t := []) dk_g42 (by decide +kernel)
theorem dX8_tell_151 : decode cX8_tell 151 = .ok (.getfield 19, 3) := dk_u2 (y := 0) (z := 19) dk_g180 (by decide +kernel) rfl
theorem dX8_tell_154 : decode cX8_tell 154 = .ok (.invokevirtual 52, 3) := dk_u2 (y := 0) (z := 52) dk_g182 (by decide +kernel) rfl
theorem dX8_tell_157 : decode cX8_tell 157 = .ok (.iconst 1, 1) := dk_n (t := []) dk_g4 (by decide +kernel)
theorem dX8_tell_158 : decode cX8_tell 158 = .ok (.isub, 1) := dk_n (t := []) dk_g100 (by decide +kernel)
theorem dX8_tell_159 : decode cX8_tell 159 = .ok (.ireturn, 1) := dk_n (t := []) dk_g172 (by decide +kernel)
theorem dX8_oneOf_0 : decode cX8_oneOf 0 = .ok (.aload_n 0, 1) := dk_n (t := []) dk_g42 (by decide +kernel)
theorem dX8_oneOf_1 : decode cX8_oneOf 1 = .ok (.iconst 0, 1) := dk_n (t := []) dk_g3 (by decide +kernel)
theorem dX8_oneOf_2 : decode cX8_oneOf 2 = .ok (.iload_n 1, 1) := dk_n (t := []) dk_g27 (by decide +kernel)
theorem dX8_oneOf_3 : decode cX8_oneOf 3 = .ok (.iload_n 2, 1) := dk_n (t := []) dk_g28 (by decide +kernel)
theorem dX8_oneOf_4 : decode cX8_oneOf 4 = .ok (.iload_n 3, 1) := dk_n (t := []) dk_g29 (by decide +kernel)
theorem dX8_oneOf_5 : decode cX8_oneOf 5 = .ok (.iconst 0, 1) := dk_n (t := []) dk_g3 (by decide +kernel)
theorem dX8_oneOf_6 : decode cX8_oneOf 6 = .ok (.iload_n 3, 1) := dk_n (t := []) dk_g29 (by decide +kernel)
theorem dX8_oneOf_7 : decode cX8_oneOf 7 = .ok (.iconst 1, 1) := dk_n (t := []) dk_g4 (by decide +kernel)
theorem dX8_oneOf_8 : decode cX8_oneOf 8 = .ok (.sipush 255, 3) := dk_s2 (y := 0) (z := 255) dk_g17 (by decide +kernel) rfl
theorem dX8_oneOf_11 : decode cX8_oneOf 11 = .ok (.invokestatic 48, 3) := dk_u2 (y := 0) (z := 48) dk_g184 (by decide +kernel) rfl
theorem dX8_oneOf_14 : decode cX8_oneOf 14 = .ok (.invokevirtual 101, 3) := dk_u2 (y := 0) (z := 101) dk_g182 (by decide +kernel) rfl
theorem dX8_oneOf_17 : decode cX8_oneOf 17 = .ok (.ireturn, 1) := dk_n (t := []) dk_g172 (by decide +kernel)
theorem dX8_bound_0 : decode cX8_bound 0 = .ok (.aload_n 0, 1) := dk_n (t := []) dk_g42 (by decide +kernel)
theorem dX8_bound_1 : decode cX8_bound 1 = .ok (.iload 4, 2) := dk_u1 (y := 4) dk_g21 (by decide +kernel)
theorem dX8_bound_3 : decode cX8_bound 3 = .ok (.ifCond .eq 7, 3) := dk_s2 (y := 0) (z := 7) dk_g153 (by decide +kernel) rfl
theorem dX8_bound_6 : decode cX8_bound 6 = .ok (.iconst 2, 1) := dk_n (t := []) dk_g5 (by decide +kernel)
theorem dX8_bound_7 : decode cX8_bound 7 = .ok (.goto 4, 3) := dk_s2 (y := 0) (z := 4) dk_g167 (by decide +kernel) rfl
theorem dX8_bound_10 : decode cX8_bound 10 = .ok (.iconst 1, 1) := dk_n (t := []) dk_g4 (by decide +kernel)
theorem dX8_bound_11 : decode cX8_bound 11 = .ok (.iload_n 1, 1) := dk_n (t := []) dk_g27 (by decide +kernel)
theorem dX8_bound_12 : decode cX8_bound 12 = .ok (.iload_n 2, 1) := dk_n (t := []) dk_g28 (by decide +kernel)
theorem dX8_bound_13 : decode cX8_bound 13 = .ok (.iload_n 3, 1) := dk_n (t := []) dk_g29 (by decide +kernel)
theorem dX8_bound_14 : decode cX8_bound 14 = .ok (.iconst 0, 1) := dk_n (t := []) dk_g3 (by decide +kernel)
theorem dX8_bound_15 : decode cX8_bound 15 = .ok (.iload_n 3, 1) := dk_n (t := []) dk_g29 (by decide +kernel)
theorem dX8_bound_16 : decode cX8_bound 16 = .ok (.iconst 0, 1) := dk_n (t := []) dk_g3 (by decide +kernel)
theorem dX8_bound_17 : decode cX8_bound 17 = .ok (.bipush 7, 2) := dk_s1 (y := 7) dk_g16 (by decide +kernel) rfl
theorem dX8_bound_19 : decode cX8_bound 19 = .ok (.invokestatic 48, 3) := dk_u2 (y := 0) (z := 48) dk_g184 (by decide +kernel) rfl
theorem dX8_bound_22 : decode cX8_bound 22 = .ok (.invokevirtual 101, 3) := dk_u2 (y := 0) (z := 101) dk_g182 (by decide +kernel) rfl
theorem dX8_bound_25 : decode cX8_bound 25 = .ok (.ireturn, 1) := dk_n (t := []) dk_g172 (by decide +kernel)
theorem dX8_more_0 : decode cX8_more 0 = .ok (.aload_n 0, 1) := dk_n (t := []) dk_g42 (by decide +kernel)
theorem dX8_more_1 : decode cX8_more 1 = .ok (.iconst 3, 1) := dk_n (t := []) dk_g6 (by decide +kernel)
theorem dX8_more_2 : decode cX8_more 2 = .ok (.iload_n 1, 1) := dk_n (t := []) dk_g27 (by decide +kernel)
theorem dX8_more_3 : decode cX8_more 3 = .ok (.iload_n 2, 1) := dk_n (t := []) dk_g28 (by decide +kernel)
theorem dX8_more_4 : decode cX8_more 4 = .ok (.iload_n 3, 1) := dk_n (t := []) dk_g29 (by decide +kernel)
theorem dX8_more_5 : decode cX8_more 5 = .ok (.iload 4, 2) := dk_u1 (y := 4) dk_g21 (by decide +kernel)
theorem dX8_more_7 : decode cX8_more 7 = .ok (.iload 4, 2) := dk_u1 (y := 4) dk_g21 (by decide +kernel)
theorem dX8_more_9 : decode cX8_more 9 = .ok (.bipush (-7), 2) := dk_s1 (y := 249) dk_g16 (by decide +kernel) rfl
theorem dX8_more_11 : decode cX8_more 11 = .ok (.bipush 7, 2) := dk_s1 (y := 7) dk_g16 (by decide +kernel) rfl
theorem dX8_more_13 : decode cX8_more 13 = .ok (.invokestatic 48, 3) := dk_u2 (y := 0) (z := 48) dk_g184 (by decide +kernel) rfl
theorem dX8_more_16 : decode cX8_more 16 = .ok (.invokevirtual 101, 3) := dk_u2 (y := 0) (z := 101) dk_g182 (by decide +kernel) rfl
theorem dX8_more_19 : decode cX8_more 19 = .ok (.ireturn, 1) := dk_n (t := []) dk_g172 (by decide +kernel)
theorem dX8_unlike_0 : decode cX8_unlike 0 = .ok (.aload_n 0, 1) := dk_n (t := []) dk_g42 (by decide +kernel)
theorem dX8_unlike_1 : decode cX8_unlike 1 = .ok (.iconst 4, 1) := dk_n (t := []) dk_g7 (by decide +kernel)
theorem dX8_unlike_2 : decode cX8_unlike 2 = .ok (.iload_n 1, 1) := dk_n (t := []) dk_g27 (by decide +kernel)
theorem dX8_unlike_3 : decode cX8_unlike 3 = .ok (.iload_n 2, 1) := dk_n (t := []) dk_g28 (by decide +kernel)
theorem dX8_unlike_4 : decode cX8_unlike 4 = .ok (.iload_n 3, 1) := dk_n (t := []) dk_g29 (by decide +kernel)
theorem dX8_unlike_5 : decode cX8_unlike 5 = .ok (.iconst 0, 1) := dk_n (t := []) dk_g3 (by decide +kernel)
theorem dX8_unlike_6 : decode cX8_unlike 6 = .ok (.iconst 1, 1) := dk_n (t := []) dk_g4 (by decide +kernel)
theorem dX8_unlike_7 : decode cX8_unlike 7 = .ok (.invokevirtual 101, 3) := dk_u2 (y := 0) (z := 101) dk_g182 (by decide +kernel) rfl
theorem dX8_unlike_10 : decode cX8_unlike 10 = .ok (.ireturn, 1) := dk_n (t := []) dk_g172 (by decide +kernel)
theorem dX8_preset_0 : decode cX8_preset 0 = .ok (.aload_n 0, 1) := dk_n (t := []) dk_g42 (by decide +kernel)
theorem dX8_preset_1 : decode cX8_preset 1 = .ok (.iconst 5, 1) := dk_n (t := []) dk_g8 (by decide +kernel)
theorem dX8_preset_2 : decode cX8_preset 2 = .ok (.iload_n 1, 1) := dk_n (t := []) dk_g27 (by decide +kernel)
theorem dX8_preset_3 : decode cX8_preset 3 = .ok (.iload_n 2, 1) := dk_n (t := []) dk_g28 (by decide +kernel)
theorem dX8_preset_4 : decode cX8_preset 4 = .ok (.iload_n 3, 1) := dk_n (t := []) dk_g29 (by decide +kernel)
theorem dX8_preset_5 : decode cX8_preset 5 = .ok (.iload 4, 2) := dk_u1 (y := 4) dk_g21 (by decide +kernel)
theorem dX8_preset_7 : decode cX8_preset 7 = .ok (.iload_n 3, 1) := dk_n (t := []) dk_g29 (by decide +kernel)
theorem dX8_preset_8 : decode cX8_preset 8 = .ok (.iconst 0, 1) := dk_n (t := []) dk_g3 (by decide +kernel)
theorem dX8_preset_9 : decode cX8_preset 9 = .ok (.bipush 7, 2) := dk_s1 (y := 7) dk_g16 (by decide +kernel) rfl
theorem dX8_preset_11 : decode cX8_preset 11 = .ok (.invokestatic 48, 3) := dk_u2 (y := 0) (z := 48) dk_g184 (by decide +kernel) rfl
theorem dX8_preset_14 : decode cX8_preset 14 = .ok (.ifCond .eq 18, 3) := dk_s2 (y := 0) (z := 18) dk_g153 (by decide +kernel) rfl
theorem dX8_preset_17 : decode cX8_preset 17 = .ok (.iload 4, 2) := dk_u1 (y := 4) dk_g21 (by decide +kernel)
theorem dX8_preset_19 : decode cX8_preset 19 = .ok (.iconst 0, 1) := dk_n (t := []) dk_g3 (by decide +kernel)
theorem dX8_preset_20 : decode cX8_preset 20 = .ok (.bipush 9, 2) := dk_s1 (y := 9) dk_g16 (by decide +kernel) rfl
theorem dX8_preset_22 : decode cX8_preset 22 = .ok (.invokestatic 48, 3) := dk_u2 (y := 0) (z := 48) dk_g184 (by decide +kernel) rfl
theorem dX8_preset_25 : decode cX8_preset 25 = .ok (.ifCond .eq 7, 3) := dk_s2 (y := 0) (z := 7) dk_g153 (by decide +kernel) rfl
theorem dX8_preset_28 : decode cX8_preset 28 = .ok (.iconst 1, 1) := dk_n (t := []) dk_g4 (by decide +kernel)
theorem dX8_preset_29 : decode cX8_preset 29 = .ok (.goto 4, 3) := dk_s2 (y := 0) (z := 4) dk_g167 (by decide +kernel) rfl
theorem dX8_preset_32 : decode cX8_preset 32 = .ok (.iconst 0, 1) := dk_n (t := []) dk_g3 (by decide +kernel)
theorem dX8_preset_33 : decode cX8_preset 33 = .ok (.invokevirtual 101, 3) := dk_u2 (y := 0) (z := 101) dk_g182 (by decide +kernel) rfl
theorem dX8_preset_36 : decode cX8_preset 36 = .ok (.ireturn, 1) := dk_n (t := []) dk_g172 (by decide +kernel)
theorem dX8_approve_0 : decode cX8_approve 0 = .ok (.aload_n 0, 1) := dk_n (t := []) dk_g42 (by decide +kernel)
theorem dX8_approve_1 : decode cX8_approve 1 = .ok (.aload_n 0, 1) := dk_n (t := []) dk_g42 (by decide +kernel)
theorem dX8_approve_2 : decode cX8_approve 2 = .ok (.iload_n 1, 1) := dk_n (t := []) dk_g27 (by decide +kernel)
theorem dX8_approve_3 : decode cX8_approve 3 = .ok (.invokevirtual 105, 3) := dk_u2 (y := 0) (z := 105) dk_g182 (by decide +kernel) rfl
theorem dX8_approve_6 : decode cX8_approve 6 = .ok (.ifCond .eq 7, 3) := dk_s2 (y := 0) (z := 7) dk_g153 (by decide +kernel) rfl
theorem dX8_approve_9 : decode cX8_approve 9 = .ok (.iconst 0, 1) := dk_n (t := []) dk_g3 (by decide +kernel)
theorem dX8_approve_10 : decode cX8_approve 10 = .ok (.goto 4, 3) := dk_s2 (y := 0) (z := 4) dk_g167 (by decide +kernel) rfl
theorem dX8_approve_13 : decode cX8_approve 13 = .ok (.iconst 1, 1) := dk_n (t := []) dk_g4 (by decide +kernel)
theorem dX8_approve_14 : decode cX8_approve 14 = .ok (.putfield 41, 3) := dk_u2 (y := 0) (z := 41) dk_g181 (by decide +kernel) rfl
theorem dX8_approve_17 : decode cX8_approve 17 = .ok (.aload_n 0, 1) := dk_n (t := []) dk_g42 (by decide +kernel)
theorem dX8_approve_18 : decode cX8_approve 18 = .ok (.getfield 41, 3) := dk_u2 (y := 0) (z := 41) dk_g180 (by decide +kernel) rfl
theorem dX8_approve_21 : decode cX8_approve 21 = .ok (.ifCond .le 5, 3) := dk_s2 (y := 0) (z := 5) dk_g158 (by decide +kernel) rfl
theorem dX8_approve_24 : decode cX8_approve 24 = .ok (.iconst 0, 1) := dk_n (t := []) dk_g3 (by decide +kernel)
theorem dX8_approve_25 : decode cX8_approve 25 = .ok (.ireturn, 1) := dk_n (t := []) dk_g172 (by decide +kernel)
theorem dX8_approve_26 : decode cX8_approve 26 = .ok (.aload_n 0, 1) := dk_n (t := []) dk_g42 (by decide +kernel)
theorem dX8_approve_27 : decode cX8_approve 27 = .ok (.getfield 19, 3) := dk_u2 (y := 0) (z := 19) dk_g180 (by decide +kernel) rfl
theorem dX8_approve_30 : decode cX8_approve 30 = .ok (.iload_n 1, 1) := dk_n (t := []) dk_g27 (by decide +kernel)
theorem dX8_approve_31 : decode cX8_approve 31 = .ok (.invokevirtual 71, 3) := dk_u2 (y := 0) (z := 71) dk_g182 (by decide +kernel) rfl
theorem dX8_approve_34 : decode cX8_approve 34 = .ok (.checkcast 57, 3) := dk_u2 (y := 0) (z := 57) dk_g192 (by decide +kernel) rfl
theorem dX8_approve_37 : decode cX8_approve 37 = .ok (.iload_n 2, 1) := dk_n (t := []) dk_g28 (by decide +kernel)
theorem dX8_approve_38 : decode cX8_approve 38 = .ok (.putfield 68, 3) := dk_u2 (y := 0) (z := 68) dk_g181 (by decide +kernel) rfl
theorem dX8_approve_41 : decode cX8_approve 41 = .ok (.aload_n 0, 1) := dk_n (t := []) dk_g42 (by decide +kernel)
theorem dX8_approve_42 : decode cX8_approve 42 = .ok (.aload_n 0, 1) := dk_n (t := []) dk_g42 (by decide +kernel)
theorem dX8_approve_43 : decode cX8_approve 43 = .ok (.getfield 19, 3) := dk_u2 (y := 0) (z := 19) dk_g180 (by decide +kernel) rfl
theorem dX8_approve_46 : decode cX8_approve 46 = .ok (.iload_n 1, 1) := dk_n (t := []) dk_g27 (by decide +kernel)
theorem dX8_approve_47 : decode cX8_approve 47 = .ok (.invokevirtual 71, 3) := dk_u2 (y := 0) (z := 71) dk_g182 (by decide +kernel) rfl
theorem dX8_approve_50 : decode cX8_approve 50 = .ok (.checkcast 57, 3) := dk_u2 (y := 0) (z := 57) dk_g192 (by decide +kernel) rfl
theorem dX8_approve_53 : decode cX8_approve 53 = .ok (.invokevirtual 75, 3) := dk_u2 (y := 0) (z := 75) dk_g182 (by decide +kernel) rfl
theorem dX8_approve_56 : decode cX8_approve 56 = .ok (.ireturn, 1) := dk_n (t := []) dk_g172 (by decide +kernel)
theorem dX8_withdraw_0 : decode cX8_withdraw 0 = .ok (.aload_n 0, 1) := dk_n (t := []) dk_g42 (by decide +kernel)
theorem dX8_withdraw_1 : decode cX8_withdraw 1 = .ok (.aload_n 0, 1) := dk_n (t := []) dk_g42 (by decide +kernel)
theorem dX8_withdraw_2 : decode cX8_withdraw 2 = .ok (.iload_n 1, 1) := dk_n (t := []) dk_g27 (by decide +kernel)
theorem dX8_withdraw_3 : decode cX8_withdraw 3 = .ok (.invokevirtual 105, 3) := dk_u2 (y := 0) (z := 105) dk_g182 (by decide +kernel) rfl
theorem dX8_withdraw_6 : decode cX8_withdraw 6 = .ok (.ifCond .eq 7, 3) := dk_s2 (y := 0) (z := 7) dk_g153 (by decide +kernel) rfl
theorem dX8_withdraw_9 : decode cX8_withdraw 9 = .ok (.iconst 0, 1) := dk_n (t := []) dk_g3 (by decide +kernel)
theorem dX8_withdraw_10 : decode cX8_withdraw 10 = .ok (.goto 4, 3) := dk_s2 (y := 0) (z := 4) dk_g167 (by decide +kernel) rfl
theorem dX8_withdraw_13 : decode cX8_withdraw 13 = .ok (.iconst 1, 1) := dk_n (t := []) dk_g4 (by decide +kernel)
theorem dX8_withdraw_14 : decode cX8_withdraw 14 = .ok (.putfield 41, 3) := dk_u2 (y := 0) (z := 41) dk_g181 (by decide +kernel) rfl
theorem dX8_withdraw_17 : decode cX8_withdraw 17 = .ok (.aload_n 0, 1) := dk_n (t := []) dk_g42 (by decide +kernel)
theorem dX8_withdraw_18 : decode cX8_withdraw 18 = .ok (.getfield 41, 3) := dk_u2 (y := 0) (z := 41) dk_g180 (by decide +kernel) rfl
theorem dX8_withdraw_21 : decode cX8_withdraw 21 = .ok (.ifCond .le 5, 3) := dk_s2 (y := 0) (z := 5) dk_g158 (by decide +kernel) rfl
theorem dX8_withdraw_24 : decode cX8_withdraw 24 = .ok (.iconst 0, 1) := dk_n (t := []) dk_g3 (by decide +kernel)
theorem dX8_withdraw_25 : decode cX8_withdraw 25 = .ok (.ireturn, 1) := dk_n (t := []) dk_g172 (by decide +kernel)
theorem dX8_withdraw_26 : decode cX8_withdraw 26 = .ok (.aload_n 0, 1) := dk_n (t := []) dk_g42 (by decide +kernel)
theorem dX8_withdraw_27 : decode cX8_withdraw 27 = .ok (.getfield 19, 3) := dk_u2 (y := 0) (z := 19) dk_g180 (by decide +kernel) rfl
theorem dX8_withdraw_30 : decode cX8_withdraw 30 = .ok (.iload_n 1, 1) := dk_n (t := []) dk_g27 (by decide +kernel)
theorem dX8_withdraw_31 : decode cX8_withdraw 31 = .ok (.invokevirtual 71, 3) := dk_u2 (y := 0) (z := 71) dk_g182 (by decide +kernel) rfl
theorem dX8_withdraw_34 : decode cX8_withdraw 34 = .ok (.checkcast 57, 3) := dk_u2 (y := 0) (z := 57) dk_g192 (by decide +kernel) rfl
theorem dX8_withdraw_37 : decode cX8_withdraw 37 = .ok (.iload_n 2, 1) := dk_n (t := []) dk_g28 (by decide +kernel)
theorem dX8_withdraw_38 : decode cX8_withdraw 38 = .ok (.putfield 56, 3) := dk_u2 (y := 0) (z := 56) dk_g181 (by decide +kernel) rfl
theorem dX8_withdraw_41 : decode cX8_withdraw 41 = .ok (.aload_n 0, 1) := dk_n (t := []) dk_g42 (by decide +kernel)
theorem dX8_withdraw_42 : decode cX8_withdraw 42 = .ok (.aload_n 0, 1) := dk_n (t := []) dk_g42 (by decide +kernel)
theorem dX8_withdraw_43 : decode cX8_withdraw 43 = .ok (.getfield 19, 3) := dk_u2 (y := 0) (z := 19) dk_g180 (by decide +kernel) rfl
theorem dX8_withdraw_46 : decode cX8_withdraw 46 = .ok (.iload_n 1, 1) := dk_n (t := []) dk_g27 (by decide +kernel)
theorem dX8_withdraw_47 : decode cX8_withdraw 47 = .ok (.invokevirtual 71, 3) := dk_u2 (y := 0) (z := 71) dk_g182 (by decide +kernel) rfl
theorem dX8_withdraw_50 : decode cX8_withdraw 50 = .ok (.checkcast 57, 3) := dk_u2 (y := 0) (z := 57) dk_g192 (by decide +kernel) rfl
theorem dX8_withdraw_53 : decode cX8_withdraw 53 = .ok (.invokevirtual 75, 3) := dk_u2 (y := 0) (z := 75) dk_g182 (by decide +kernel) rfl
theorem dX8_withdraw_56 : decode cX8_withdraw 56 = .ok (.ireturn, 1) := dk_n (t := []) dk_g172 (by decide +kernel)
theorem dX8_weight_0 : decode cX8_weight 0 = .ok (.aload_n 0, 1) := dk_n (t := []) dk_g42 (by decide +kernel)
theorem dX8_weight_1 : decode cX8_weight 1 = .ok (.iconst 0, 1) := dk_n (t := []) dk_g3 (by decide +kernel)
theorem dX8_weight_2 : decode cX8_weight 2 = .ok (.putfield 41, 3) := dk_u2 (y := 0) (z := 41) dk_g181 (by decide +kernel) rfl
theorem dX8_weight_5 : decode cX8_weight 5 = .ok (.aload_n 0, 1) := dk_n (t := []) dk_g42 (by decide +kernel)
theorem dX8_weight_6 : decode cX8_weight 6 = .ok (.iload_n 1, 1) := dk_n (t := []) dk_g27 (by decide +kernel)
theorem dX8_weight_7 : decode cX8_weight 7 = .ok (.invokevirtual 86, 3) := dk_u2 (y := 0) (z := 86) dk_g182 (by decide +kernel) rfl
theorem dX8_weight_10 : decode cX8_weight 10 = .ok (.ifCond .ne 9, 3) := dk_s2 (y := 0) (z := 9) dk_g154 (by decide +kernel) rfl
theorem dX8_weight_13 : decode cX8_weight 13 = .ok (.aload_n 0, 1) := dk_n (t := []) dk_g42 (by decide +kernel)
theorem dX8_weight_14 : decode cX8_weight 14 = .ok (.iconst 1, 1) := dk_n (t := []) dk_g4 (by decide +kernel)
theorem dX8_weight_15 : decode cX8_weight 15 = .ok (.invokevirtual 82, 3) := dk_u2 (y := 0) (z := 82) dk_g182 (by decide +kernel) rfl
theorem dX8_weight_18 : decode cX8_weight 18 = .ok (.ireturn, 1) := dk_n (t := []) dk_g172 (by decide +kernel)
theorem dX8_weight_19 : decode cX8_weight 19 = .ok (.iload_n 2, 1) := dk_n (t := []) dk_g28 (by decide +kernel)
theorem dX8_weight_20 : decode cX8_weight 20 = .ok (.iconst 0, 1) := dk_n (t := []) dk_g3 (by decide +kernel)
theorem dX8_weight_21 : decode cX8_weight 21 = .ok (.bipush 9, 2) := dk_s1 (y := 9) dk_g16 (by decide +kernel) rfl
theorem dX8_weight_23 : decode cX8_weight 23 = .ok (.invokestatic 48, 3) := dk_u2 (y := 0) (z := 48) dk_g184 (by decide +kernel) rfl
theorem dX8_weight_26 : decode cX8_weight 26 = .ok (.ifCond .ne 9, 3) := dk_s2 (y := 0) (z := 9) dk_g154 (by decide +kernel) rfl
theorem dX8_weight_29 : decode cX8_weight 29 = .ok (.aload_n 0, 1) := dk_n (t := []) dk_g42 (by decide +kernel)
theorem dX8_weight_30 : decode cX8_weight 30 = .ok (.iconst 2, 1) := dk_n (t := []) dk_g5 (by decide +kernel)
theorem dX8_weight_31 : decode cX8_weight 31 = .ok (.invokevirtual 82, 3) := dk_u2 (y := 0) (z := 82) dk_g182 (by decide +kernel) rfl
theorem dX8_weight_34 : decode cX8_weight 34 = .ok (.ireturn, 1) := dk_n (t := []) dk_g172 (by decide +kernel)
theorem dX8_weight_35 : decode cX8_weight 35 = .ok (.aload_n 0, 1) := dk_n (t := []) dk_g42 (by decide +kernel)
theorem dX8_weight_36 : decode cX8_weight 36 = .ok (.getfield 13, 3) := dk_u2 (y := 0) (z := 13) dk_g180 (by decide +kernel) rfl
theorem dX8_weight_39 : decode cX8_weight 39 = .ok (.iload_n 1, 1) := dk_n (t := []) dk_g27 (by decide +kernel)
theorem dX8_weight_40 : decode cX8_weight 40 = .ok (.iaload, 1) := dk_n (t := []) dk_g46 (by decide +kernel)
theorem dX8_weight_41 : decode cX8_weight 41 = .ok (.istore_n 3, 1) := dk_n (t := []) dk_g62 (by decide +kernel)
theorem dX8_weight_42 : decode cX8_weight 42 = .ok (.aload_n 0, 1) := dk_n (t := []) dk_g42 (by decide +kernel)
theorem dX8_weight_43 : decode cX8_weight 43 = .ok (.getfield 13, 3) := dk_u2 (y := 0) (z := 13) dk_g180 (by decide +kernel) rfl
theorem dX8_weight_46 : decode cX8_weight 46 = .ok (.iload_n 1, 1) := dk_n (t := []) dk_g27 (by decide +kernel)
theorem dX8_weight_47 : decode cX8_weight 47 = .ok (.iload_n 2, 1) := dk_n (t := []) dk_g28 (by decide +kernel)
theorem dX8_weight_48 : decode cX8_weight 48 = .ok (.iastore, 1) := dk_n (t := []) dk_g79 (by decide +kernel)
theorem dX8_weight_49 : decode cX8_weight 49 = .ok (.iload_n 3, 1) := dk_n (t := []) dk_g29 (by decide +kernel)
theorem dX8_weight_50 : decode cX8_weight 50 = .ok (.ireturn, 1) := dk_n (t := []) dk_g172 (by decide +kernel)
theorem dX8_begin_0 : decode cX8_begin 0 = .ok (.iconst 0, 1) := dk_n (t := []) dk_g3 (by decide +kernel)
theorem dX8_begin_1 : decode cX8_begin 1 = .ok (.istore_n 2, 1) := dk_n (t := []) dk_g61 (by decide +kernel)
theorem dX8_begin_2 : decode cX8_begin 2 = .ok (.iload_n 2, 1) := dk_n (t := []) dk_g28 (by decide +kernel)
theorem dX8_begin_3 : decode cX8_begin 3 = .ok (.iconst 5, 1) := dk_n (t := []) dk_g8 (by decide +kernel)
theorem dX8_begin_4 : decode cX8_begin 4 = .ok (.if_icmp .ge 22, 3) := dk_s2 (y := 0) (z := 22) dk_g162 (by decide +kernel) rfl
theorem dX8_begin_7 : decode cX8_begin 7 = .ok (.aload_n 0, 1) := dk_n (t := []) dk_g42 (by decide +kernel)
theorem dX8_begin_8 : decode cX8_begin 8 = .ok (.getfield 32, 3) := dk_u2 (y := 0) (z := 32) dk_g180 (by decide +kernel) rfl
theorem dX8_begin_11 : decode cX8_begin 11 = .ok (.iload_n 1, 1) := dk_n (t := []) dk_g27 (by decide +kernel)
theorem dX8_begin_12 : decode cX8_begin 12 = .ok (.iconst 5, 1) := dk_n (t := []) dk_g8 (by decide +kernel)
theorem dX8_begin_13 : decode cX8_begin 13 = .ok (.imul, 1) := dk_n (t := []) dk_g104 (by decide +kernel)
theorem dX8_begin_14 : decode cX8_begin 14 = .ok (.iload_n 2, 1) := dk_n (t := []) dk_g28 (by decide +kernel)
theorem dX8_begin_15 : decode cX8_begin 15 = .ok (.iadd, 1) := dk_n (t := []) dk_g96 (by decide +kernel)
theorem dX8_begin_16 : decode cX8_begin 16 = .ok (.sipush 255, 3) := dk_s2 (y := 0) (z := 255) dk_g17 (by decide +kernel) rfl
theorem dX8_begin_19 : decode cX8_begin 19 = .ok (.iastore, 1) := dk_n (t := []) dk_g79 (by decide +kernel)
theorem dX8_begin_20 : decode cX8_begin 20 = .ok (.iinc 2 1, 3) := dk_ii (y := 2) (z := 1) dk_g132 (by decide +kernel) rfl
theorem dX8_begin_23 : decode cX8_begin 23 = .ok (.goto (-21), 3) := dk_s2 (y := 255) (z := 235) dk_g167 (by decide +kernel) rfl
theorem dX8_begin_26 : decode cX8_begin 26 = .ok (.return_, 1) := dk_n (t := []) dk_g177 (by decide +kernel)
theorem dX8_copy_0 : decode cX8_copy 0 = .ok (.aload_n 0, 1) := dk_n (t := []) dk_g42 (by decide +kernel)
theorem dX8_copy_1 : decode cX8_copy 1 = .ok (.getfield 32, 3) := dk_u2 (y := 0) (z := 32) dk_g180 (by decide +kernel) rfl
theorem dX8_copy_4 : decode cX8_copy 4 = .ok (.iload_n 1, 1) := dk_n (t := []) dk_g27 (by decide +kernel)
theorem dX8_copy_5 : decode cX8_copy 5 = .ok (.iconst 5, 1) := dk_n (t := []) dk_g8 (by decide +kernel)
theorem dX8_copy_6 : decode cX8_copy 6 = .ok (.imul, 1) := dk_n (t := []) dk_g104 (by decide +kernel)
theorem dX8_copy_7 : decode cX8_copy 7 = .ok (.aload_n 0, 1) := dk_n (t := []) dk_g42 (by decide +kernel)
theorem dX8_copy_8 : decode cX8_copy 8 = .ok (.getfield 32, 3) := dk_u2 (y := 0) (z := 32) dk_g180 (by decide +kernel) rfl
theorem dX8_copy_11 : decode cX8_copy 11 = .ok (.iload_n 2, 1) := dk_n (t := []) dk_g28 (by decide +kernel)
theorem dX8_copy_12 : decode cX8_copy 12 = .ok (.iconst 5, 1) := dk_n (t := []) dk_g8 (by decide +kernel)
theorem dX8_copy_13 : decode cX8_copy 13 = .ok (.imul, 1) := dk_n (t := []) dk_g104 (by decide +kernel)
theorem dX8_copy_14 : decode cX8_copy 14 = .ok (.iconst 5, 1) := dk_n (t := []) dk_g8 (by decide +kernel)
theorem dX8_copy_15 : decode cX8_copy 15 = .ok (.invokestatic 108, 3) := dk_u2 (y := 0) (z := 108) dk_g184 (by decide +kernel) rfl
theorem dX8_copy_18 : decode cX8_copy 18 = .ok (.return_, 1) := dk_n (t := []) dk_g177 (by decide +kernel)
theorem dX8_setOf_0 : decode cX8_setOf 0 = .ok (.aload_n 0, 1) := dk_n (t := []) dk_g42 (by decide +kernel)
theorem dX8_setOf_1 : decode cX8_setOf 1 = .ok (.getfield 32, 3) := dk_u2 (y := 0) (z := 32) dk_g180 (by decide +kernel) rfl
theorem dX8_setOf_4 : decode cX8_setOf 4 = .ok (.iload_n 1, 1) := dk_n (t := []) dk_g27 (by decide +kernel)
theorem dX8_setOf_5 : decode cX8_setOf 5 = .ok (.iconst 5, 1) := dk_n (t := []) dk_g8 (by decide +kernel)
theorem dX8_setOf_6 : decode cX8_setOf 6 = .ok (.imul, 1) := dk_n (t := []) dk_g104 (by decide +kernel)
theorem dX8_setOf_7 : decode cX8_setOf 7 = .ok (.iload_n 2, 1) := dk_n (t := []) dk_g28 (by decide +kernel)
theorem dX8_setOf_8 : decode cX8_setOf 8 = .ok (.iadd, 1) := dk_n (t := []) dk_g96 (by decide +kernel)
theorem dX8_setOf_9 : decode cX8_setOf 9 = .ok (.iaload, 1) := dk_n (t := []) dk_g46 (by decide +kernel)
theorem dX8_setOf_10 : decode cX8_setOf 10 = .ok (.ireturn, 1) := dk_n (t := []) dk_g172 (by decide +kernel)
theorem dX8_count_0 : decode cX8_count 0 = .ok (.aload_n 0, 1) := dk_n (t := []) dk_g42 (by decide +kernel)
theorem dX8_count_1 : decode cX8_count 1 = .ok (.iload_n 1, 1) := dk_n (t := []) dk_g27 (by decide +kernel)
theorem dX8_count_2 : decode cX8_count 2 = .ok (.iload_n 2, 1) := dk_n (t := []) dk_g28 (by decide +kernel)
theorem dX8_count_3 : decode cX8_count 3 = .ok (.invokevirtual 114, 3) := dk_u2 (y := 0) (z := 114) dk_g182 (by decide +kernel) rfl
theorem dX8_count_6 : decode cX8_count 6 = .ok (.invokestatic 118, 3) := dk_u2 (y := 0) (z := 118) dk_g184 (by decide +kernel) rfl
theorem dX8_count_9 : decode cX8_count 9 = .ok (.ireturn, 1) := dk_n (t := []) dk_g172 (by decide +kernel)
theorem dX8_least_0 : decode cX8_least 0 = .ok (.aload_n 0, 1) := dk_n (t := []) dk_g42 (by decide +kernel)
theorem dX8_least_1 : decode cX8_least 1 = .ok (.iload_n 1, 1) := dk_n (t := []) dk_g27 (by decide +kernel)
theorem dX8_least_2 : decode cX8_least 2 = .ok (.iload_n 2, 1) := dk_n (t := []) dk_g28 (by decide +kernel)
theorem dX8_least_3 : decode cX8_least 3 = .ok (.invokevirtual 114, 3) := dk_u2 (y := 0) (z := 114) dk_g182 (by decide +kernel) rfl
theorem dX8_least_6 : decode cX8_least 6 = .ok (.invokestatic 123, 3) := dk_u2 (y := 0) (z := 123) dk_g184 (by decide +kernel) rfl
theorem dX8_least_9 : decode cX8_least 9 = .ok (.ireturn, 1) := dk_n (t := []) dk_g172 (by decide +kernel)
theorem dX8_canBe_0 : decode cX8_canBe 0 = .ok (.aload_n 0, 1) := dk_n (t := []) dk_g42 (by decide +kernel)
theorem dX8_canBe_1 : decode cX8_canBe 1 = .ok (.iload_n 1, 1) := dk_n (t := []) dk_g27 (by decide +kernel)
theorem dX8_canBe_2 : decode cX8_canBe 2 = .ok (.iload_n 2, 1) := dk_n (t := []) dk_g28 (by decide +kernel)
theorem dX8_canBe_3 : decode cX8_canBe 3 = .ok (.invokevirtual 114, 3) := dk_u2 (y := 0) (z := 114) dk_g182 (by decide +kernel) rfl
theorem dX8_canBe_6 : decode cX8_canBe 6 = .ok (.iload_n 3, 1) := dk_n (t := []) dk_g29 (by decide +kernel)
theorem dX8_canBe_7 : decode cX8_canBe 7 = .ok (.ishr, 1) := dk_n (t := []) dk_g122 (by decide +kernel)
theorem dX8_canBe_8 : decode cX8_canBe 8 = .ok (.iconst 1, 1) := dk_n (t := []) dk_g4 (by decide +kernel)
theorem dX8_canBe_9 : decode cX8_canBe 9 = .ok (.iand, 1) := dk_n (t := []) dk_g126 (by decide +kernel)
theorem dX8_canBe_10 : decode cX8_canBe 10 = .ok (.iconst 1, 1) := dk_n (t := []) dk_g4 (by decide +kernel)
theorem dX8_canBe_11 : decode cX8_canBe 11 = .ok (.if_icmp .ne 7, 3) := dk_s2 (y := 0) (z := 7) dk_g160 (by decide +kernel) rfl
theorem dX8_canBe_14 : decode cX8_canBe 14 = .ok (.iconst 1, 1) := dk_n (t := []) dk_g4 (by decide +kernel)
theorem dX8_canBe_15 : decode cX8_canBe 15 = .ok (.goto 4, 3) := dk_s2 (y := 0) (z := 4) dk_g167 (by decide +kernel) rfl
theorem dX8_canBe_18 : decode cX8_canBe 18 = .ok (.iconst 0, 1) := dk_n (t := []) dk_g3 (by decide +kernel)
theorem dX8_canBe_19 : decode cX8_canBe 19 = .ok (.ireturn, 1) := dk_n (t := []) dk_g172 (by decide +kernel)
theorem dX8_shifted_0 : decode cX8_shifted 0 = .ok (.iload_n 1, 1) := dk_n (t := []) dk_g27 (by decide +kernel)
theorem dX8_shifted_1 : decode cX8_shifted 1 = .ok (.ifCond .ge 10, 3) := dk_s2 (y := 0) (z := 10) dk_g156 (by decide +kernel) rfl
theorem dX8_shifted_4 : decode cX8_shifted 4 = .ok (.iload_n 0, 1) := dk_n (t := []) dk_g26 (by decide +kernel)
theorem dX8_shifted_5 : decode cX8_shifted 5 = .ok (.iload_n 1, 1) := dk_n (t := []) dk_g27 (by decide +kernel)
theorem dX8_shifted_6 : decode cX8_shifted 6 = .ok (.ineg, 1) := dk_n (t := []) dk_g116 (by decide +kernel)
theorem dX8_shifted_7 : decode cX8_shifted 7 = .ok (.ishr, 1) := dk_n (t := []) dk_g122 (by decide +kernel)
theorem dX8_shifted_8 : decode cX8_shifted 8 = .ok (.goto 6, 3) := dk_s2 (y := 0) (z := 6) dk_g167 (by decide +kernel) rfl
theorem dX8_shifted_11 : decode cX8_shifted 11 = .ok (.iload_n 0, 1) := dk_n (t := []) dk_g26 (by decide +kernel)
theorem dX8_shifted_12 : decode cX8_shifted 12 = .ok (.iload_n 1, 1) := dk_n (t := []) dk_g27 (by decide +kernel)
theorem dX8_shifted_13 : decode cX8_shifted 13 = .ok (.ishl, 1) := dk_n (t := []) dk_g120 (by decide +kernel)
theorem dX8_shifted_14 : decode cX8_shifted 14 = .ok (.sipush 255, 3) := dk_s2 (y := 0) (z := 255) dk_g17 (by decide +kernel) rfl
theorem dX8_shifted_17 : decode cX8_shifted 17 = .ok (.iand, 1) := dk_n (t := []) dk_g126 (by decide +kernel)
theorem dX8_shifted_18 : decode cX8_shifted 18 = .ok (.ireturn, 1) := dk_n (t := []) dk_g172 (by decide +kernel)
theorem dX8_lets_0 : decode cX8_lets 0 = .ok (.aload_n 2, 1) := dk_n (t := []) dk_g44 (by decide +kernel)
theorem dX8_lets_1 : decode cX8_lets 1 = .ok (.getfield 65, 3) := dk_u2 (y := 0) (z := 65) dk_g180 (by decide +kernel) rfl
theorem dX8_lets_4 : decode cX8_lets 4 = .ok (.iload_n 3, 1) := dk_n (t := []) dk_g29 (by decide +kernel)
theorem dX8_lets_5 : decode cX8_lets 5 = .ok (.if_icmp .ne 7, 3) := dk_s2 (y := 0) (z := 7) dk_g160 (by decide +kernel) rfl
theorem dX8_lets_8 : decode cX8_lets 8 = .ok (.iconst 1, 1) := dk_n (t := []) dk_g4 (by decide +kernel)
theorem dX8_lets_9 : decode cX8_lets 9 = .ok (.goto 4, 3) := dk_s2 (y := 0) (z := 4) dk_g167 (by decide +kernel) rfl
theorem dX8_lets_12 : decode cX8_lets 12 = .ok (.iconst 0, 1) := dk_n (t := []) dk_g3 (by decide +kernel)
theorem dX8_lets_13 : decode cX8_lets 13 = .ok (.istore 4, 2) := dk_u1 (y := 4) dk_g54 (by decide +kernel)
theorem dX8_lets_15 : decode cX8_lets 15 = .ok (.aload_n 2, 1) := dk_n (t := []) dk_g44 (by decide +kernel)
theorem dX8_lets_16 : decode cX8_lets 16 = .ok (.getfield 79, 3) := dk_u2 (y := 0) (z := 79) dk_g180 (by decide +kernel) rfl
theorem dX8_lets_19 : decode cX8_lets 19 = .ok (.iconst 2, 1) := dk_n (t := []) dk_g5 (by decide +kernel)
theorem dX8_lets_20 : decode cX8_lets 20 = .ok (.if_icmp .le 27, 3) := dk_s2 (y := 0) (z := 27) dk_g164 (by decide +kernel) rfl
theorem dX8_lets_23 : decode cX8_lets 23 = .ok (.aload_n 0, 1) := dk_n (t := []) dk_g42 (by decide +kernel)
theorem dX8_lets_24 : decode cX8_lets 24 = .ok (.iload_n 1, 1) := dk_n (t := []) dk_g27 (by decide +kernel)
theorem dX8_lets_25 : decode cX8_lets 25 = .ok (.iload 4, 2) := dk_u1 (y := 4) dk_g21 (by decide +kernel)
theorem dX8_lets_27 : decode cX8_lets 27 = .ok (.ifCond .eq 10, 3) := dk_s2 (y := 0) (z := 10) dk_g153 (by decide +kernel) rfl
theorem dX8_lets_30 : decode cX8_lets 30 = .ok (.aload_n 2, 1) := dk_n (t := []) dk_g44 (by decide +kernel)
theorem dX8_lets_31 : decode cX8_lets 31 = .ok (.getfield 91, 3) := dk_u2 (y := 0) (z := 91) dk_g180 (by decide +kernel) rfl
theorem dX8_lets_34 : decode cX8_lets 34 = .ok (.goto 7, 3) := dk_s2 (y := 0) (z := 7) dk_g167 (by decide +kernel) rfl
theorem dX8_lets_37 : decode cX8_lets 37 = .ok (.aload_n 2, 1) := dk_n (t := []) dk_g44 (by decide +kernel)
theorem dX8_lets_38 : decode cX8_lets 38 = .ok (.getfield 65, 3) := dk_u2 (y := 0) (z := 65) dk_g180 (by decide +kernel) rfl
theorem dX8_lets_41 : decode cX8_lets 41 = .ok (.invokevirtual 114, 3) := dk_u2 (y := 0) (z := 114) dk_g182 (by decide +kernel) rfl
theorem dX8_lets_44 : decode cX8_lets 44 = .ok (.goto 4, 3) := dk_s2 (y := 0) (z := 4) dk_g167 (by decide +kernel) rfl
theorem dX8_lets_47 : decode cX8_lets 47 = .ok (.iconst 0, 1) := dk_n (t := []) dk_g3 (by decide +kernel)
theorem dX8_lets_48 : decode cX8_lets 48 = .ok (.istore 5, 2) := dk_u1 (y := 5) dk_g54 (by decide +kernel)
theorem dX8_lets_50 : decode cX8_lets 50 = .ok (.aload_n 2, 1) := dk_n (t := []) dk_g44 (by decide +kernel)
theorem dX8_lets_51 : decode cX8_lets 51 = .ok (.getfield 79, 3) := dk_u2 (y := 0) (z := 79) dk_g180 (by decide +kernel) rfl
theorem dX8_lets_54 : decode cX8_lets 54 = .ok (.tableswitch 82 0 3 #[30, 35, 50, 59], 30) := by decide +kernel
theorem dX8_lets_84 : decode cX8_lets 84 = .ok (.aload_n 2, 1) := dk_n (t := []) dk_g44 (by decide +kernel)
theorem dX8_lets_85 : decode cX8_lets 85 = .ok (.getfield 91, 3) := dk_u2 (y := 0) (z := 91) dk_g180 (by decide +kernel) rfl
theorem dX8_lets_88 : decode cX8_lets 88 = .ok (.ireturn, 1) := dk_n (t := []) dk_g172 (by decide +kernel)
theorem dX8_lets_89 : decode cX8_lets 89 = .ok (.sipush 255, 3) := dk_s2 (y := 0) (z := 255) dk_g17 (by decide +kernel) rfl
theorem dX8_lets_92 : decode cX8_lets 92 = .ok (.iconst 1, 1) := dk_n (t := []) dk_g4 (by decide +kernel)
theorem dX8_lets_93 : decode cX8_lets 93 = .ok (.aload_n 2, 1) := dk_n (t := []) dk_g44 (by decide +kernel)
theorem dX8_lets_94 : decode cX8_lets 94 = .ok (.getfield 91, 3) := dk_u2 (y := 0) (z := 91) dk_g180 (by decide +kernel) rfl
theorem dX8_lets_97 : decode cX8_lets 97 = .ok (.ishl, 1) := dk_n (t := []) dk_g120 (by decide +kernel)
theorem dX8_lets_98 : decode cX8_lets 98 = .ok (.iconst 1, 1) := dk_n (t := []) dk_g4 (by decide +kernel)
theorem dX8_lets_99 : decode cX8_lets 99 = .ok (.isub, 1) := dk_n (t := []) dk_g100 (by decide +kernel)
theorem dX8_lets_100 : decode cX8_lets 100 = .ok (.iconst (-1), 1) := dk_n (t := []) dk_g2 (by decide +kernel)
theorem dX8_lets_101 : decode cX8_lets 101 = .ok (.ixor, 1) := dk_n (t := []) dk_g130 (by decide +kernel)
theorem dX8_lets_102 : decode cX8_lets 102 = .ok (.iand, 1) := dk_n (t := []) dk_g126 (by decide +kernel)
theorem dX8_lets_103 : decode cX8_lets 103 = .ok (.ireturn, 1) := dk_n (t := []) dk_g172 (by decide +kernel)
theorem dX8_lets_104 : decode cX8_lets 104 = .ok (.iconst 2, 1) := dk_n (t := []) dk_g5 (by decide +kernel)
theorem dX8_lets_105 : decode cX8_lets 105 = .ok (.aload_n 2, 1) := dk_n (t := []) dk_g44 (by decide +kernel)
theorem dX8_lets_106 : decode cX8_lets 106 = .ok (.getfield 91, 3) := dk_u2 (y := 0) (z := 91) dk_g180 (by decide +kernel) rfl
theorem dX8_lets_109 : decode cX8_lets 109 = .ok (.ishl, 1) := dk_n (t := []) dk_g120 (by decide +kernel)
theorem dX8_lets_110 : decode cX8_lets 110 = .ok (.iconst 1, 1) := dk_n (t := []) dk_g4 (by decide +kernel)
theorem dX8_lets_111 : decode cX8_lets 111 = .ok (.isub, 1) := dk_n (t := []) dk_g100 (by decide +kernel)
theorem dX8_lets_112 : decode cX8_lets 112 = .ok (.ireturn, 1) := dk_n (t := []) dk_g172 (by decide +kernel)
theorem dX8_lets_113 : decode cX8_lets 113 = .ok (.iload 5, 2) := dk_u1 (y := 5) dk_g21 (by decide +kernel)
theorem dX8_lets_115 : decode cX8_lets 115 = .ok (.iload 4, 2) := dk_u1 (y := 4) dk_g21 (by decide +kernel)
theorem dX8_lets_117 : decode cX8_lets 117 = .ok (.ifCond .eq 10, 3) := dk_s2 (y := 0) (z := 10) dk_g153 (by decide +kernel) rfl
theorem dX8_lets_120 : decode cX8_lets 120 = .ok (.aload_n 2, 1) := dk_n (t := []) dk_g44 (by decide +kernel)
theorem dX8_lets_121 : decode cX8_lets 121 = .ok (.getfield 94, 3) := dk_u2 (y := 0) (z := 94) dk_g180 (by decide +kernel) rfl
theorem dX8_lets_124 : decode cX8_lets 124 = .ok (.goto 8, 3) := dk_s2 (y := 0) (z := 8) dk_g167 (by decide +kernel) rfl
theorem dX8_lets_127 : decode cX8_lets 127 = .ok (.aload_n 2, 1) := dk_n (t := []) dk_g44 (by decide +kernel)
theorem dX8_lets_128 : decode cX8_lets 128 = .ok (.getfield 94, 3) := dk_u2 (y := 0) (z := 94) dk_g180 (by decide +kernel) rfl
theorem dX8_lets_131 : decode cX8_lets 131 = .ok (.ineg, 1) := dk_n (t := []) dk_g116 (by decide +kernel)
theorem dX8_lets_132 : decode cX8_lets 132 = .ok (.invokestatic 126, 3) := dk_u2 (y := 0) (z := 126) dk_g184 (by decide +kernel) rfl
theorem dX8_lets_135 : decode cX8_lets 135 = .ok (.ireturn, 1) := dk_n (t := []) dk_g172 (by decide +kernel)
theorem dX8_lets_136 : decode cX8_lets 136 = .ok (.iload 5, 2) := dk_u1 (y := 5) dk_g21 (by decide +kernel)
theorem dX8_lets_138 : decode cX8_lets 138 = .ok (.invokestatic 118, 3) := dk_u2 (y := 0) (z := 118) dk_g184 (by decide +kernel) rfl
theorem dX8_lets_141 : decode cX8_lets 141 = .ok (.iconst 1, 1) := dk_n (t := []) dk_g4 (by decide +kernel)
theorem dX8_lets_142 : decode cX8_lets 142 = .ok (.if_icmp .ne 14, 3) := dk_s2 (y := 0) (z := 14) dk_g160 (by decide +kernel) rfl
theorem dX8_lets_145 : decode cX8_lets 145 = .ok (.sipush 255, 3) := dk_s2 (y := 0) (z := 255) dk_g17 (by decide +kernel) rfl
theorem dX8_lets_148 : decode cX8_lets 148 = .ok (.iload 5, 2) := dk_u1 (y := 5) dk_g21 (by decide +kernel)
theorem dX8_lets_150 : decode cX8_lets 150 = .ok (.iconst (-1), 1) := dk_n (t := []) dk_g2 (by decide +kernel)
theorem dX8_lets_151 : decode cX8_lets 151 = .ok (.ixor, 1) := dk_n (t := []) dk_g130 (by decide +kernel)
theorem dX8_lets_152 : decode cX8_lets 152 = .ok (.iand, 1) := dk_n (t := []) dk_g126 (by decide +kernel)
theorem dX8_lets_153 : decode cX8_lets 153 = .ok (.goto 6, 3) := dk_s2 (y := 0) (z := 6) dk_g167 (by decide +kernel) rfl
theorem dX8_lets_156 : decode cX8_lets 156 = .ok (.sipush 255, 3) := dk_s2 (y := 0) (z := 255) dk_g17 (by decide +kernel) rfl
theorem dX8_lets_159 : decode cX8_lets 159 = .ok (.ireturn, 1) := dk_n (t := []) dk_g172 (by decide +kernel)
theorem dX8_takes_0 : decode cX8_takes 0 = .ok (.aload_n 0, 1) := dk_n (t := []) dk_g42 (by decide +kernel)
theorem dX8_takes_1 : decode cX8_takes 1 = .ok (.iload_n 1, 1) := dk_n (t := []) dk_g27 (by decide +kernel)
theorem dX8_takes_2 : decode cX8_takes 2 = .ok (.iload_n 3, 1) := dk_n (t := []) dk_g29 (by decide +kernel)
theorem dX8_takes_3 : decode cX8_takes 3 = .ok (.invokevirtual 114, 3) := dk_u2 (y := 0) (z := 114) dk_g182 (by decide +kernel) rfl
theorem dX8_takes_6 : decode cX8_takes 6 = .ok (.istore 4, 2) := dk_u1 (y := 4) dk_g54 (by decide +kernel)
theorem dX8_takes_8 : decode cX8_takes 8 = .ok (.aload_n 0, 1) := dk_n (t := []) dk_g42 (by decide +kernel)
theorem dX8_takes_9 : decode cX8_takes 9 = .ok (.getfield 32, 3) := dk_u2 (y := 0) (z := 32) dk_g180 (by decide +kernel) rfl
theorem dX8_takes_12 : decode cX8_takes 12 = .ok (.iload_n 1, 1) := dk_n (t := []) dk_g27 (by decide +kernel)
theorem dX8_takes_13 : decode cX8_takes 13 = .ok (.iconst 5, 1) := dk_n (t := []) dk_g8 (by decide +kernel)
theorem dX8_takes_14 : decode cX8_takes 14 = .ok (.imul, 1) := dk_n (t := []) dk_g104 (by decide +kernel)
theorem dX8_takes_15 : decode cX8_takes 15 = .ok (.iload_n 3, 1) := dk_n (t := []) dk_g29 (by decide +kernel)
theorem dX8_takes_16 : decode cX8_takes 16 = .ok (.iadd, 1) := dk_n (t := []) dk_g96 (by decide +kernel)
theorem dX8_takes_17 : decode cX8_takes 17 = .ok (.dup2, 1) := dk_n (t := []) dk_g92 (by decide +kernel)
theorem dX8_takes_18 : decode cX8_takes 18 = .ok (.iaload, 1) := dk_n (t := []) dk_g46 (by decide +kernel)
theorem dX8_takes_19 : decode cX8_takes 19 = .ok (.aload_n 0, 1) := dk_n (t := []) dk_g42 (by decide +kernel)
theorem dX8_takes_20 : decode cX8_takes 20 = .ok (.iload_n 1, 1) := dk_n (t := []) dk_g27 (by decide +kernel)
theorem dX8_takes_21 : decode cX8_takes 21 = .ok (.aload_n 2, 1) := dk_n (t := []) dk_g44 (by decide +kernel)
theorem dX8_takes_22 : decode cX8_takes 22 = .ok (.iload_n 3, 1) := dk_n (t := []) dk_g29 (by decide +kernel)
theorem dX8_takes_23 : decode cX8_takes 23 = .ok (.invokevirtual 129, 3) := dk_u2 (y := 0) (z := 129) dk_g182 (by decide +kernel) rfl
theorem dX8_takes_26 : decode cX8_takes 26 = .ok (.iand, 1) := dk_n (t := []) dk_g126 (by decide +kernel)
theorem dX8_takes_27 : decode cX8_takes 27 = .ok (.iastore, 1) := dk_n (t := []) dk_g79 (by decide +kernel)
theorem dX8_takes_28 : decode cX8_takes 28 = .ok (.aload_n 0, 1) := dk_n (t := []) dk_g42 (by decide +kernel)
theorem dX8_takes_29 : decode cX8_takes 29 = .ok (.iload_n 1, 1) := dk_n (t := []) dk_g27 (by decide +kernel)
theorem dX8_takes_30 : decode cX8_takes 30 = .ok (.iload_n 3, 1) := dk_n (t := []) dk_g29 (by decide +kernel)
theorem dX8_takes_31 : decode cX8_takes 31 = .ok (.invokevirtual 114, 3) := dk_u2 (y := 0) (z := 114) dk_g182 (by decide +kernel) rfl
theorem dX8_takes_34 : decode cX8_takes 34 = .ok (.iload 4, 2) := dk_u1 (y := 4) dk_g21 (by decide +kernel)
theorem dX8_takes_36 : decode cX8_takes 36 = .ok (.if_icmp .eq 7, 3) := dk_s2 (y := 0) (z := 7) dk_g159 (by decide +kernel) rfl
theorem dX8_takes_39 : decode cX8_takes 39 = .ok (.iconst 1, 1) := dk_n (t := []) dk_g4 (by decide +kernel)
theorem dX8_takes_40 : decode cX8_takes 40 = .ok (.goto 4, 3) := dk_s2 (y := 0) (z := 4) dk_g167 (by decide +kernel) rfl
theorem dX8_takes_43 : decode cX8_takes 43 = .ok (.iconst 0, 1) := dk_n (t := []) dk_g3 (by decide +kernel)
theorem dX8_takes_44 : decode cX8_takes 44 = .ok (.ireturn, 1) := dk_n (t := []) dk_g172 (by decide +kernel)
theorem dX8_isEmpty_0 : decode cX8_isEmpty 0 = .ok (.iconst 0, 1) := dk_n (t := []) dk_g3 (by decide +kernel)
theorem dX8_isEmpty_1 : decode cX8_isEmpty 1 = .ok (.istore_n 2, 1) := dk_n (t := []) dk_g61 (by decide +kernel)
theorem dX8_isEmpty_2 : decode cX8_isEmpty 2 = .ok (.iload_n 2, 1) := dk_n (t := []) dk_g28 (by decide +kernel)
theorem dX8_isEmpty_3 : decode cX8_isEmpty 3 = .ok (.aload_n 0, 1) := dk_n (t := []) dk_g42 (by decide +kernel)
theorem dX8_isEmpty_4 : decode cX8_isEmpty 4 = .ok (.getfield 45, 3) := dk_u2 (y := 0) (z := 45) dk_g180 (by decide +kernel) rfl
theorem dX8_isEmpty_7 : decode cX8_isEmpty 7 = .ok (.if_icmp .ge 20, 3) := dk_s2 (y := 0) (z := 20) dk_g162 (by decide +kernel) rfl
theorem dX8_isEmpty_10 : decode cX8_isEmpty 10 = .ok (.aload_n 0, 1) := dk_n (t := []) dk_g42 (by decide +kernel)
theorem dX8_isEmpty_11 : decode cX8_isEmpty 11 = .ok (.iload_n 1, 1) := dk_n (t := []) dk_g27 (by decide +kernel)
theorem dX8_isEmpty_12 : decode cX8_isEmpty 12 = .ok (.iload_n 2, 1) := dk_n (t := []) dk_g28 (by decide +kernel)
theorem dX8_isEmpty_13 : decode cX8_isEmpty 13 = .ok (.invokevirtual 114, 3) := dk_u2 (y := 0) (z := 114) dk_g182 (by decide +kernel) rfl
theorem dX8_isEmpty_16 : decode cX8_isEmpty 16 = .ok (.ifCond .ne 5, 3) := dk_s2 (y := 0) (z := 5) dk_g154 (by decide +kernel) rfl
theorem dX8_isEmpty_19 : decode cX8_isEmpty 19 = .ok (.iconst 1, 1) := dk_n (t := []) dk_g4 (by decide +kernel)
theorem dX8_isEmpty_20 : decode cX8_isEmpty 20 = .ok (.ireturn, 1) := dk_n (t := []) dk_g172 (by decide +kernel)
theorem dX8_isEmpty_21 : decode cX8_isEmpty 21 = .ok (.iinc 2 1, 3) := dk_ii (y := 2) (z := 1) dk_g132 (by decide +kernel) rfl
theorem dX8_isEmpty_24 : decode cX8_isEmpty 24 = .ok (.goto (-22), 3) := dk_s2 (y := 255) (z := 234) dk_g167 (by decide +kernel) rfl
theorem dX8_isEmpty_27 : decode cX8_isEmpty 27 = .ok (.iconst 0, 1) := dk_n (t := []) dk_g3 (by decide +kernel)
theorem dX8_isEmpty_28 : decode cX8_isEmpty 28 = .ok (.ireturn, 1) := dk_n (t := []) dk_g172 (by decide +kernel)
