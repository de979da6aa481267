/-! ===== decoding, opcode by opcode ===== -/
def pf : List Nat → List UInt8 → Bool
  | [], _ => true
  | _ :: _, [] => false
  | b :: l, x :: t => (Nat.beq x.toNat b) && pf l t
def bs (c : ByteArray) (p : Nat) (l : List Nat) : Bool := pf l (c.data.toList.drop p)
theorem bs_u1 {c : ByteArray} {p b : Nat} {l : List Nat} (h : bs c p (b :: l) = true) : (Jvm.ClassFile.Reader.u1 : Jvm.ClassFile.Reader Jvm.ClassFile.DecodeError Nat) c p = .ok (b, p + 1) ∧ bs c (p + 1) l = true := by
  unfold bs at h
  cases hd : c.data.toList.drop p with
  | nil => rw [hd] at h; cases h
  | cons x t =>
    rw [hd] at h
    have h2 : ((Nat.beq x.toNat b) && pf l t) = true := h
    rw [Bool.and_eq_true] at h2
    have hp : p < c.data.toList.length := by
      rcases Nat.lt_or_ge p c.data.toList.length with g | g
      · exact g
      · rw [List.drop_eq_nil_of_le g] at hd; cases hd
    have e := List.drop_eq_getElem_cons hp
    rw [hd] at e
    have e1 : x = c.data.toList[p] := (List.cons.inj e).1
    have e2 : t = c.data.toList.drop (p + 1) := (List.cons.inj e).2
    refine ⟨?_, by unfold bs; rw [← e2]; exact h2.2⟩
    have hx : x.toNat = b := Nat.eq_of_beq_eq_true h2.1
    have hs : p < c.size := hp
    have hq : c[p]'hs = x := by rw [e1]; cases c; rfl
    unfold Jvm.ClassFile.Reader.u1
    show (dite (p < c.size) _ _ : Jvm.ClassFile.Reader Jvm.ClassFile.DecodeError Nat) c p = _
    rw [dif_pos hs]
    show Except.ok ((c[p]'hs).toNat, p + 1) = _
    rw [hq, hx]
theorem bs_u2 {c : ByteArray} {p x y : Nat} {l : List Nat} (h : bs c p (x :: y :: l) = true) : (Jvm.ClassFile.Reader.u2 : Jvm.ClassFile.Reader Jvm.ClassFile.DecodeError Nat) c p = .ok (x * 256 + y, p + 1 + 1) ∧ bs c (p + 1 + 1) l = true := by
  obtain ⟨h1, h2⟩ := bs_u1 h
  obtain ⟨h3, h4⟩ := bs_u1 h2
  refine ⟨?_, h4⟩
  show (Except.bind (Jvm.ClassFile.Reader.u1 c p) _) = _
  rw [h1]
  show (Except.bind (Jvm.ClassFile.Reader.u1 c (p + 1)) _) = _
  rw [h3]
  rfl
theorem bs_s1 {c : ByteArray} {p x : Nat} {l : List Nat} (h : bs c p (x :: l) = true) : (Jvm.ClassFile.Reader.s1 : Jvm.ClassFile.Reader Jvm.ClassFile.DecodeError Int) c p = .ok (Jvm.ClassFile.Reader.signed 8 x, p + 1) := by
  show (Except.bind (Jvm.ClassFile.Reader.u1 c p) _) = _
  rw [(bs_u1 h).1]
  rfl
theorem bs_s2 {c : ByteArray} {p x y : Nat} {l : List Nat} (h : bs c p (x :: y :: l) = true) : (Jvm.ClassFile.Reader.s2 : Jvm.ClassFile.Reader Jvm.ClassFile.DecodeError Int) c p = .ok (Jvm.ClassFile.Reader.signed 16 (x * 256 + y), p + 1 + 1) := by
  show (Except.bind (Jvm.ClassFile.Reader.u2 c p) _) = _
  rw [(bs_u2 h).1]
  rfl
theorem dk_aux {α β : Type} {u : Jvm.ClassFile.Reader Jvm.ClassFile.DecodeError α} {F : α → Jvm.ClassFile.Reader Jvm.ClassFile.DecodeError β} {c : ByteArray} {p q : Nat} {a : α} {r : Except Jvm.ClassFile.DecodeError (β × Nat)} (h : u c p = .ok (a, q)) (e : F a c q = r) : (u >>= F) c p = r := by
  show (Except.bind (u c p) _) = _
  rw [h]
  exact e
theorem dk_dec {c : ByteArray} {p q k : Nat} {i : Instr} (h : Jvm.ClassFile.Decoder.instr p c p = .ok (i, q)) (e : q = p + k) : decode c p = .ok (i, k) := by
  subst e
  show (Except.bind (Jvm.ClassFile.Decoder.instr p c p) _) = _
  rw [h]
  show Except.ok (i, p + k - p) = _
  rw [Nat.add_sub_cancel_left]
theorem dk_10 {c : ByteArray} {p : Nat} (h : bs c p [10] = true) : decode c p = .ok (.lconst 1, 1) :=
  dk_dec (dk_aux (bs_u1 h).1 rfl) rfl
theorem dk_100 {c : ByteArray} {p : Nat} (h : bs c p [100] = true) : decode c p = .ok (.isub, 1) :=
  dk_dec (dk_aux (bs_u1 h).1 rfl) rfl
theorem dk_101 {c : ByteArray} {p : Nat} (h : bs c p [101] = true) : decode c p = .ok (.lsub, 1) :=
  dk_dec (dk_aux (bs_u1 h).1 rfl) rfl
theorem dk_102 {c : ByteArray} {p : Nat} (h : bs c p [102] = true) : decode c p = .ok (.fsub, 1) :=
  dk_dec (dk_aux (bs_u1 h).1 rfl) rfl
theorem dk_103 {c : ByteArray} {p : Nat} (h : bs c p [103] = true) : decode c p = .ok (.dsub, 1) :=
  dk_dec (dk_aux (bs_u1 h).1 rfl) rfl
theorem dk_104 {c : ByteArray} {p : Nat} (h : bs c p [104] = true) : decode c p = .ok (.imul, 1) :=
  dk_dec (dk_aux (bs_u1 h).1 rfl) rfl
theorem dk_105 {c : ByteArray} {p : Nat} (h : bs c p [105] = true) : decode c p = .ok (.lmul, 1) :=
  dk_dec (dk_aux (bs_u1 h).1 rfl) rfl
theorem dk_106 {c : ByteArray} {p : Nat} (h : bs c p [106] = true) : decode c p = .ok (.fmul, 1) :=
  dk_dec (dk_aux (bs_u1 h).1 rfl) rfl
theorem dk_107 {c : ByteArray} {p : Nat} (h : bs c p [107] = true) : decode c p = .ok (.dmul, 1) :=
  dk_dec (dk_aux (bs_u1 h).1 rfl) rfl
theorem dk_108 {c : ByteArray} {p : Nat} (h : bs c p [108] = true) : decode c p = .ok (.idiv, 1) :=
  dk_dec (dk_aux (bs_u1 h).1 rfl) rfl
theorem dk_109 {c : ByteArray} {p : Nat} (h : bs c p [109] = true) : decode c p = .ok (.ldiv, 1) :=
  dk_dec (dk_aux (bs_u1 h).1 rfl) rfl
theorem dk_110 {c : ByteArray} {p : Nat} (h : bs c p [110] = true) : decode c p = .ok (.fdiv, 1) :=
  dk_dec (dk_aux (bs_u1 h).1 rfl) rfl
theorem dk_111 {c : ByteArray} {p : Nat} (h : bs c p [111] = true) : decode c p = .ok (.ddiv, 1) :=
  dk_dec (dk_aux (bs_u1 h).1 rfl) rfl
theorem dk_112 {c : ByteArray} {p : Nat} (h : bs c p [112] = true) : decode c p = .ok (.irem, 1) :=
  dk_dec (dk_aux (bs_u1 h).1 rfl) rfl
theorem dk_113 {c : ByteArray} {p : Nat} (h : bs c p [113] = true) : decode c p = .ok (.lrem, 1) :=
  dk_dec (dk_aux (bs_u1 h).1 rfl) rfl
theorem dk_117 {c : ByteArray} {p : Nat} (h : bs c p [117] = true) : decode c p = .ok (.lneg, 1) :=
  dk_dec (dk_aux (bs_u1 h).1 rfl) rfl
theorem dk_12 {c : ByteArray} {p : Nat} (h : bs c p [12] = true) : decode c p = .ok (.fconst 1, 1) :=
  dk_dec (dk_aux (bs_u1 h).1 rfl) rfl
theorem dk_120 {c : ByteArray} {p : Nat} (h : bs c p [120] = true) : decode c p = .ok (.ishl, 1) :=
  dk_dec (dk_aux (bs_u1 h).1 rfl) rfl
theorem dk_121 {c : ByteArray} {p : Nat} (h : bs c p [121] = true) : decode c p = .ok (.lshl, 1) :=
  dk_dec (dk_aux (bs_u1 h).1 rfl) rfl
theorem dk_122 {c : ByteArray} {p : Nat} (h : bs c p [122] = true) : decode c p = .ok (.ishr, 1) :=
  dk_dec (dk_aux (bs_u1 h).1 rfl) rfl
theorem dk_124 {c : ByteArray} {p : Nat} (h : bs c p [124] = true) : decode c p = .ok (.iushr, 1) :=
  dk_dec (dk_aux (bs_u1 h).1 rfl) rfl
theorem dk_125 {c : ByteArray} {p : Nat} (h : bs c p [125] = true) : decode c p = .ok (.lushr, 1) :=
  dk_dec (dk_aux (bs_u1 h).1 rfl) rfl
theorem dk_126 {c : ByteArray} {p : Nat} (h : bs c p [126] = true) : decode c p = .ok (.iand, 1) :=
  dk_dec (dk_aux (bs_u1 h).1 rfl) rfl
theorem dk_127 {c : ByteArray} {p : Nat} (h : bs c p [127] = true) : decode c p = .ok (.land, 1) :=
  dk_dec (dk_aux (bs_u1 h).1 rfl) rfl
theorem dk_128 {c : ByteArray} {p : Nat} (h : bs c p [128] = true) : decode c p = .ok (.ior, 1) :=
  dk_dec (dk_aux (bs_u1 h).1 rfl) rfl
theorem dk_129 {c : ByteArray} {p : Nat} (h : bs c p [129] = true) : decode c p = .ok (.lor, 1) :=
  dk_dec (dk_aux (bs_u1 h).1 rfl) rfl
theorem dk_13 {c : ByteArray} {p : Nat} (h : bs c p [13] = true) : decode c p = .ok (.fconst 2, 1) :=
  dk_dec (dk_aux (bs_u1 h).1 rfl) rfl
theorem dk_130 {c : ByteArray} {p : Nat} (h : bs c p [130] = true) : decode c p = .ok (.ixor, 1) :=
  dk_dec (dk_aux (bs_u1 h).1 rfl) rfl
theorem dk_131 {c : ByteArray} {p : Nat} (h : bs c p [131] = true) : decode c p = .ok (.lxor, 1) :=
  dk_dec (dk_aux (bs_u1 h).1 rfl) rfl
theorem dk_132 {c : ByteArray} {p x y : Nat} {v : Int} (h : bs c p [132, x, y] = true) (e : Jvm.ClassFile.Reader.signed 8 y = v) : decode c p = .ok (.iinc x v, 3) :=
  have k := bs_u1 h
  have k2 := bs_u1 k.2
  e ▸ dk_dec (dk_aux k.1 (dk_aux k2.1 (dk_aux (bs_s1 k2.2) rfl))) rfl
theorem dk_133 {c : ByteArray} {p : Nat} (h : bs c p [133] = true) : decode c p = .ok (.i2l, 1) :=
  dk_dec (dk_aux (bs_u1 h).1 rfl) rfl
theorem dk_134 {c : ByteArray} {p : Nat} (h : bs c p [134] = true) : decode c p = .ok (.i2f, 1) :=
  dk_dec (dk_aux (bs_u1 h).1 rfl) rfl
theorem dk_135 {c : ByteArray} {p : Nat} (h : bs c p [135] = true) : decode c p = .ok (.i2d, 1) :=
  dk_dec (dk_aux (bs_u1 h).1 rfl) rfl
theorem dk_136 {c : ByteArray} {p : Nat} (h : bs c p [136] = true) : decode c p = .ok (.l2i, 1) :=
  dk_dec (dk_aux (bs_u1 h).1 rfl) rfl
theorem dk_139 {c : ByteArray} {p : Nat} (h : bs c p [139] = true) : decode c p = .ok (.f2i, 1) :=
  dk_dec (dk_aux (bs_u1 h).1 rfl) rfl
theorem dk_143 {c : ByteArray} {p : Nat} (h : bs c p [143] = true) : decode c p = .ok (.d2l, 1) :=
  dk_dec (dk_aux (bs_u1 h).1 rfl) rfl
theorem dk_148 {c : ByteArray} {p : Nat} (h : bs c p [148] = true) : decode c p = .ok (.lcmp, 1) :=
  dk_dec (dk_aux (bs_u1 h).1 rfl) rfl
theorem dk_149 {c : ByteArray} {p : Nat} (h : bs c p [149] = true) : decode c p = .ok (.fcmp .l, 1) :=
  dk_dec (dk_aux (bs_u1 h).1 rfl) rfl
theorem dk_15 {c : ByteArray} {p : Nat} (h : bs c p [15] = true) : decode c p = .ok (.dconst 1, 1) :=
  dk_dec (dk_aux (bs_u1 h).1 rfl) rfl
theorem dk_150 {c : ByteArray} {p : Nat} (h : bs c p [150] = true) : decode c p = .ok (.fcmp .g, 1) :=
  dk_dec (dk_aux (bs_u1 h).1 rfl) rfl
theorem dk_151 {c : ByteArray} {p : Nat} (h : bs c p [151] = true) : decode c p = .ok (.dcmp .l, 1) :=
  dk_dec (dk_aux (bs_u1 h).1 rfl) rfl
theorem dk_152 {c : ByteArray} {p : Nat} (h : bs c p [152] = true) : decode c p = .ok (.dcmp .g, 1) :=
  dk_dec (dk_aux (bs_u1 h).1 rfl) rfl
theorem dk_153 {c : ByteArray} {p x y : Nat} {v : Int} (h : bs c p [153, x, y] = true) (e : Jvm.ClassFile.Reader.signed 16 (x * 256 + y) = v) : decode c p = .ok (.ifCond .eq v, 3) :=
  have k := bs_u1 h
  e ▸ dk_dec (dk_aux k.1 (dk_aux (bs_s2 k.2) rfl)) rfl
theorem dk_154 {c : ByteArray} {p x y : Nat} {v : Int} (h : bs c p [154, x, y] = true) (e : Jvm.ClassFile.Reader.signed 16 (x * 256 + y) = v) : decode c p = .ok (.ifCond .ne v, 3) :=
  have k := bs_u1 h
  e ▸ dk_dec (dk_aux k.1 (dk_aux (bs_s2 k.2) rfl)) rfl
theorem dk_155 {c : ByteArray} {p x y : Nat} {v : Int} (h : bs c p [155, x, y] = true) (e : Jvm.ClassFile.Reader.signed 16 (x * 256 + y) = v) : decode c p = .ok (.ifCond .lt v, 3) :=
  have k := bs_u1 h
  e ▸ dk_dec (dk_aux k.1 (dk_aux (bs_s2 k.2) rfl)) rfl
theorem dk_156 {c : ByteArray} {p x y : Nat} {v : Int} (h : bs c p [156, x, y] = true) (e : Jvm.ClassFile.Reader.signed 16 (x * 256 + y) = v) : decode c p = .ok (.ifCond .ge v, 3) :=
  have k := bs_u1 h
  e ▸ dk_dec (dk_aux k.1 (dk_aux (bs_s2 k.2) rfl)) rfl
theorem dk_158 {c : ByteArray} {p x y : Nat} {v : Int} (h : bs c p [158, x, y] = true) (e : Jvm.ClassFile.Reader.signed 16 (x * 256 + y) = v) : decode c p = .ok (.ifCond .le v, 3) :=
  have k := bs_u1 h
  e ▸ dk_dec (dk_aux k.1 (dk_aux (bs_s2 k.2) rfl)) rfl
theorem dk_159 {c : ByteArray} {p x y : Nat} {v : Int} (h : bs c p [159, x, y] = true) (e : Jvm.ClassFile.Reader.signed 16 (x * 256 + y) = v) : decode c p = .ok (.if_icmp .eq v, 3) :=
  have k := bs_u1 h
  e ▸ dk_dec (dk_aux k.1 (dk_aux (bs_s2 k.2) rfl)) rfl
theorem dk_16 {c : ByteArray} {p x : Nat} {v : Int} (h : bs c p [16, x] = true) (e : Jvm.ClassFile.Reader.signed 8 x = v) : decode c p = .ok (.bipush v, 2) :=
  have k := bs_u1 h
  e ▸ dk_dec (dk_aux k.1 (dk_aux (bs_s1 k.2) rfl)) rfl
theorem dk_160 {c : ByteArray} {p x y : Nat} {v : Int} (h : bs c p [160, x, y] = true) (e : Jvm.ClassFile.Reader.signed 16 (x * 256 + y) = v) : decode c p = .ok (.if_icmp .ne v, 3) :=
  have k := bs_u1 h
  e ▸ dk_dec (dk_aux k.1 (dk_aux (bs_s2 k.2) rfl)) rfl
theorem dk_161 {c : ByteArray} {p x y : Nat} {v : Int} (h : bs c p [161, x, y] = true) (e : Jvm.ClassFile.Reader.signed 16 (x * 256 + y) = v) : decode c p = .ok (.if_icmp .lt v, 3) :=
  have k := bs_u1 h
  e ▸ dk_dec (dk_aux k.1 (dk_aux (bs_s2 k.2) rfl)) rfl
theorem dk_162 {c : ByteArray} {p x y : Nat} {v : Int} (h : bs c p [162, x, y] = true) (e : Jvm.ClassFile.Reader.signed 16 (x * 256 + y) = v) : decode c p = .ok (.if_icmp .ge v, 3) :=
  have k := bs_u1 h
  e ▸ dk_dec (dk_aux k.1 (dk_aux (bs_s2 k.2) rfl)) rfl
theorem dk_163 {c : ByteArray} {p x y : Nat} {v : Int} (h : bs c p [163, x, y] = true) (e : Jvm.ClassFile.Reader.signed 16 (x * 256 + y) = v) : decode c p = .ok (.if_icmp .gt v, 3) :=
  have k := bs_u1 h
  e ▸ dk_dec (dk_aux k.1 (dk_aux (bs_s2 k.2) rfl)) rfl
theorem dk_164 {c : ByteArray} {p x y : Nat} {v : Int} (h : bs c p [164, x, y] = true) (e : Jvm.ClassFile.Reader.signed 16 (x * 256 + y) = v) : decode c p = .ok (.if_icmp .le v, 3) :=
  have k := bs_u1 h
  e ▸ dk_dec (dk_aux k.1 (dk_aux (bs_s2 k.2) rfl)) rfl
theorem dk_167 {c : ByteArray} {p x y : Nat} {v : Int} (h : bs c p [167, x, y] = true) (e : Jvm.ClassFile.Reader.signed 16 (x * 256 + y) = v) : decode c p = .ok (.goto v, 3) :=
  have k := bs_u1 h
  e ▸ dk_dec (dk_aux k.1 (dk_aux (bs_s2 k.2) rfl)) rfl
theorem dk_17 {c : ByteArray} {p x y : Nat} {v : Int} (h : bs c p [17, x, y] = true) (e : Jvm.ClassFile.Reader.signed 16 (x * 256 + y) = v) : decode c p = .ok (.sipush v, 3) :=
  have k := bs_u1 h
  e ▸ dk_dec (dk_aux k.1 (dk_aux (bs_s2 k.2) rfl)) rfl
theorem dk_172 {c : ByteArray} {p : Nat} (h : bs c p [172] = true) : decode c p = .ok (.ireturn, 1) :=
  dk_dec (dk_aux (bs_u1 h).1 rfl) rfl
theorem dk_173 {c : ByteArray} {p : Nat} (h : bs c p [173] = true) : decode c p = .ok (.lreturn, 1) :=
  dk_dec (dk_aux (bs_u1 h).1 rfl) rfl
theorem dk_176 {c : ByteArray} {p : Nat} (h : bs c p [176] = true) : decode c p = .ok (.areturn, 1) :=
  dk_dec (dk_aux (bs_u1 h).1 rfl) rfl
theorem dk_177 {c : ByteArray} {p : Nat} (h : bs c p [177] = true) : decode c p = .ok (.return_, 1) :=
  dk_dec (dk_aux (bs_u1 h).1 rfl) rfl
theorem dk_178 {c : ByteArray} {p x y v : Nat} (h : bs c p [178, x, y] = true) (e : x * 256 + y = v) : decode c p = .ok (.getstatic v, 3) :=
  have k := bs_u1 h
  e ▸ dk_dec (dk_aux k.1 (dk_aux (bs_u2 k.2).1 rfl)) rfl
theorem dk_18 {c : ByteArray} {p x : Nat} (h : bs c p [18, x] = true) : decode c p = .ok (.ldc x, 2) :=
  have k := bs_u1 h
  dk_dec (dk_aux k.1 (dk_aux (bs_u1 k.2).1 rfl)) rfl
theorem dk_180 {c : ByteArray} {p x y v : Nat} (h : bs c p [180, x, y] = true) (e : x * 256 + y = v) : decode c p = .ok (.getfield v, 3) :=
  have k := bs_u1 h
  e ▸ dk_dec (dk_aux k.1 (dk_aux (bs_u2 k.2).1 rfl)) rfl
theorem dk_181 {c : ByteArray} {p x y v : Nat} (h : bs c p [181, x, y] = true) (e : x * 256 + y = v) : decode c p = .ok (.putfield v, 3) :=
  have k := bs_u1 h
  e ▸ dk_dec (dk_aux k.1 (dk_aux (bs_u2 k.2).1 rfl)) rfl
theorem dk_182 {c : ByteArray} {p x y v : Nat} (h : bs c p [182, x, y] = true) (e : x * 256 + y = v) : decode c p = .ok (.invokevirtual v, 3) :=
  have k := bs_u1 h
  e ▸ dk_dec (dk_aux k.1 (dk_aux (bs_u2 k.2).1 rfl)) rfl
theorem dk_183 {c : ByteArray} {p x y v : Nat} (h : bs c p [183, x, y] = true) (e : x * 256 + y = v) : decode c p = .ok (.invokespecial v, 3) :=
  have k := bs_u1 h
  e ▸ dk_dec (dk_aux k.1 (dk_aux (bs_u2 k.2).1 rfl)) rfl
theorem dk_184 {c : ByteArray} {p x y v : Nat} (h : bs c p [184, x, y] = true) (e : x * 256 + y = v) : decode c p = .ok (.invokestatic v, 3) :=
  have k := bs_u1 h
  e ▸ dk_dec (dk_aux k.1 (dk_aux (bs_u2 k.2).1 rfl)) rfl
theorem dk_187 {c : ByteArray} {p x y v : Nat} (h : bs c p [187, x, y] = true) (e : x * 256 + y = v) : decode c p = .ok (.new v, 3) :=
  have k := bs_u1 h
  e ▸ dk_dec (dk_aux k.1 (dk_aux (bs_u2 k.2).1 rfl)) rfl
theorem dk_189 {c : ByteArray} {p x y v : Nat} (h : bs c p [189, x, y] = true) (e : x * 256 + y = v) : decode c p = .ok (.anewarray v, 3) :=
  have k := bs_u1 h
  e ▸ dk_dec (dk_aux k.1 (dk_aux (bs_u2 k.2).1 rfl)) rfl
theorem dk_19 {c : ByteArray} {p x y v : Nat} (h : bs c p [19, x, y] = true) (e : x * 256 + y = v) : decode c p = .ok (.ldc_w v, 3) :=
  have k := bs_u1 h
  e ▸ dk_dec (dk_aux k.1 (dk_aux (bs_u2 k.2).1 rfl)) rfl
theorem dk_190 {c : ByteArray} {p : Nat} (h : bs c p [190] = true) : decode c p = .ok (.arraylength, 1) :=
  dk_dec (dk_aux (bs_u1 h).1 rfl) rfl
theorem dk_192 {c : ByteArray} {p x y v : Nat} (h : bs c p [192, x, y] = true) (e : x * 256 + y = v) : decode c p = .ok (.checkcast v, 3) :=
  have k := bs_u1 h
  e ▸ dk_dec (dk_aux k.1 (dk_aux (bs_u2 k.2).1 rfl)) rfl
theorem dk_2 {c : ByteArray} {p : Nat} (h : bs c p [2] = true) : decode c p = .ok (.iconst (-1), 1) :=
  dk_dec (dk_aux (bs_u1 h).1 rfl) rfl
theorem dk_20 {c : ByteArray} {p x y v : Nat} (h : bs c p [20, x, y] = true) (e : x * 256 + y = v) : decode c p = .ok (.ldc2_w v, 3) :=
  have k := bs_u1 h
  e ▸ dk_dec (dk_aux k.1 (dk_aux (bs_u2 k.2).1 rfl)) rfl
theorem dk_21 {c : ByteArray} {p x : Nat} (h : bs c p [21, x] = true) : decode c p = .ok (.iload x, 2) :=
  have k := bs_u1 h
  dk_dec (dk_aux k.1 (dk_aux (bs_u1 k.2).1 rfl)) rfl
theorem dk_22 {c : ByteArray} {p x : Nat} (h : bs c p [22, x] = true) : decode c p = .ok (.lload x, 2) :=
  have k := bs_u1 h
  dk_dec (dk_aux k.1 (dk_aux (bs_u1 k.2).1 rfl)) rfl
theorem dk_25 {c : ByteArray} {p x : Nat} (h : bs c p [25, x] = true) : decode c p = .ok (.aload x, 2) :=
  have k := bs_u1 h
  dk_dec (dk_aux k.1 (dk_aux (bs_u1 k.2).1 rfl)) rfl
theorem dk_26 {c : ByteArray} {p : Nat} (h : bs c p [26] = true) : decode c p = .ok (.iload_n 0, 1) :=
  dk_dec (dk_aux (bs_u1 h).1 rfl) rfl
theorem dk_27 {c : ByteArray} {p : Nat} (h : bs c p [27] = true) : decode c p = .ok (.iload_n 1, 1) :=
  dk_dec (dk_aux (bs_u1 h).1 rfl) rfl
theorem dk_28 {c : ByteArray} {p : Nat} (h : bs c p [28] = true) : decode c p = .ok (.iload_n 2, 1) :=
  dk_dec (dk_aux (bs_u1 h).1 rfl) rfl
theorem dk_29 {c : ByteArray} {p : Nat} (h : bs c p [29] = true) : decode c p = .ok (.iload_n 3, 1) :=
  dk_dec (dk_aux (bs_u1 h).1 rfl) rfl
theorem dk_3 {c : ByteArray} {p : Nat} (h : bs c p [3] = true) : decode c p = .ok (.iconst 0, 1) :=
  dk_dec (dk_aux (bs_u1 h).1 rfl) rfl
theorem dk_30 {c : ByteArray} {p : Nat} (h : bs c p [30] = true) : decode c p = .ok (.lload_n 0, 1) :=
  dk_dec (dk_aux (bs_u1 h).1 rfl) rfl
theorem dk_31 {c : ByteArray} {p : Nat} (h : bs c p [31] = true) : decode c p = .ok (.lload_n 1, 1) :=
  dk_dec (dk_aux (bs_u1 h).1 rfl) rfl
theorem dk_32 {c : ByteArray} {p : Nat} (h : bs c p [32] = true) : decode c p = .ok (.lload_n 2, 1) :=
  dk_dec (dk_aux (bs_u1 h).1 rfl) rfl
theorem dk_33 {c : ByteArray} {p : Nat} (h : bs c p [33] = true) : decode c p = .ok (.lload_n 3, 1) :=
  dk_dec (dk_aux (bs_u1 h).1 rfl) rfl
theorem dk_34 {c : ByteArray} {p : Nat} (h : bs c p [34] = true) : decode c p = .ok (.fload_n 0, 1) :=
  dk_dec (dk_aux (bs_u1 h).1 rfl) rfl
theorem dk_35 {c : ByteArray} {p : Nat} (h : bs c p [35] = true) : decode c p = .ok (.fload_n 1, 1) :=
  dk_dec (dk_aux (bs_u1 h).1 rfl) rfl
theorem dk_38 {c : ByteArray} {p : Nat} (h : bs c p [38] = true) : decode c p = .ok (.dload_n 0, 1) :=
  dk_dec (dk_aux (bs_u1 h).1 rfl) rfl
theorem dk_39 {c : ByteArray} {p : Nat} (h : bs c p [39] = true) : decode c p = .ok (.dload_n 1, 1) :=
  dk_dec (dk_aux (bs_u1 h).1 rfl) rfl
theorem dk_4 {c : ByteArray} {p : Nat} (h : bs c p [4] = true) : decode c p = .ok (.iconst 1, 1) :=
  dk_dec (dk_aux (bs_u1 h).1 rfl) rfl
theorem dk_40 {c : ByteArray} {p : Nat} (h : bs c p [40] = true) : decode c p = .ok (.dload_n 2, 1) :=
  dk_dec (dk_aux (bs_u1 h).1 rfl) rfl
theorem dk_42 {c : ByteArray} {p : Nat} (h : bs c p [42] = true) : decode c p = .ok (.aload_n 0, 1) :=
  dk_dec (dk_aux (bs_u1 h).1 rfl) rfl
theorem dk_43 {c : ByteArray} {p : Nat} (h : bs c p [43] = true) : decode c p = .ok (.aload_n 1, 1) :=
  dk_dec (dk_aux (bs_u1 h).1 rfl) rfl
theorem dk_44 {c : ByteArray} {p : Nat} (h : bs c p [44] = true) : decode c p = .ok (.aload_n 2, 1) :=
  dk_dec (dk_aux (bs_u1 h).1 rfl) rfl
theorem dk_45 {c : ByteArray} {p : Nat} (h : bs c p [45] = true) : decode c p = .ok (.aload_n 3, 1) :=
  dk_dec (dk_aux (bs_u1 h).1 rfl) rfl
theorem dk_46 {c : ByteArray} {p : Nat} (h : bs c p [46] = true) : decode c p = .ok (.iaload, 1) :=
  dk_dec (dk_aux (bs_u1 h).1 rfl) rfl
theorem dk_47 {c : ByteArray} {p : Nat} (h : bs c p [47] = true) : decode c p = .ok (.laload, 1) :=
  dk_dec (dk_aux (bs_u1 h).1 rfl) rfl
theorem dk_5 {c : ByteArray} {p : Nat} (h : bs c p [5] = true) : decode c p = .ok (.iconst 2, 1) :=
  dk_dec (dk_aux (bs_u1 h).1 rfl) rfl
theorem dk_50 {c : ByteArray} {p : Nat} (h : bs c p [50] = true) : decode c p = .ok (.aaload, 1) :=
  dk_dec (dk_aux (bs_u1 h).1 rfl) rfl
theorem dk_54 {c : ByteArray} {p x : Nat} (h : bs c p [54, x] = true) : decode c p = .ok (.istore x, 2) :=
  have k := bs_u1 h
  dk_dec (dk_aux k.1 (dk_aux (bs_u1 k.2).1 rfl)) rfl
theorem dk_55 {c : ByteArray} {p x : Nat} (h : bs c p [55, x] = true) : decode c p = .ok (.lstore x, 2) :=
  have k := bs_u1 h
  dk_dec (dk_aux k.1 (dk_aux (bs_u1 k.2).1 rfl)) rfl
theorem dk_58 {c : ByteArray} {p x : Nat} (h : bs c p [58, x] = true) : decode c p = .ok (.astore x, 2) :=
  have k := bs_u1 h
  dk_dec (dk_aux k.1 (dk_aux (bs_u1 k.2).1 rfl)) rfl
theorem dk_59 {c : ByteArray} {p : Nat} (h : bs c p [59] = true) : decode c p = .ok (.istore_n 0, 1) :=
  dk_dec (dk_aux (bs_u1 h).1 rfl) rfl
theorem dk_6 {c : ByteArray} {p : Nat} (h : bs c p [6] = true) : decode c p = .ok (.iconst 3, 1) :=
  dk_dec (dk_aux (bs_u1 h).1 rfl) rfl
theorem dk_60 {c : ByteArray} {p : Nat} (h : bs c p [60] = true) : decode c p = .ok (.istore_n 1, 1) :=
  dk_dec (dk_aux (bs_u1 h).1 rfl) rfl
theorem dk_61 {c : ByteArray} {p : Nat} (h : bs c p [61] = true) : decode c p = .ok (.istore_n 2, 1) :=
  dk_dec (dk_aux (bs_u1 h).1 rfl) rfl
theorem dk_62 {c : ByteArray} {p : Nat} (h : bs c p [62] = true) : decode c p = .ok (.istore_n 3, 1) :=
  dk_dec (dk_aux (bs_u1 h).1 rfl) rfl
theorem dk_63 {c : ByteArray} {p : Nat} (h : bs c p [63] = true) : decode c p = .ok (.lstore_n 0, 1) :=
  dk_dec (dk_aux (bs_u1 h).1 rfl) rfl
theorem dk_65 {c : ByteArray} {p : Nat} (h : bs c p [65] = true) : decode c p = .ok (.lstore_n 2, 1) :=
  dk_dec (dk_aux (bs_u1 h).1 rfl) rfl
theorem dk_66 {c : ByteArray} {p : Nat} (h : bs c p [66] = true) : decode c p = .ok (.lstore_n 3, 1) :=
  dk_dec (dk_aux (bs_u1 h).1 rfl) rfl
theorem dk_68 {c : ByteArray} {p : Nat} (h : bs c p [68] = true) : decode c p = .ok (.fstore_n 1, 1) :=
  dk_dec (dk_aux (bs_u1 h).1 rfl) rfl
theorem dk_7 {c : ByteArray} {p : Nat} (h : bs c p [7] = true) : decode c p = .ok (.iconst 4, 1) :=
  dk_dec (dk_aux (bs_u1 h).1 rfl) rfl
theorem dk_72 {c : ByteArray} {p : Nat} (h : bs c p [72] = true) : decode c p = .ok (.dstore_n 1, 1) :=
  dk_dec (dk_aux (bs_u1 h).1 rfl) rfl
theorem dk_73 {c : ByteArray} {p : Nat} (h : bs c p [73] = true) : decode c p = .ok (.dstore_n 2, 1) :=
  dk_dec (dk_aux (bs_u1 h).1 rfl) rfl
theorem dk_76 {c : ByteArray} {p : Nat} (h : bs c p [76] = true) : decode c p = .ok (.astore_n 1, 1) :=
  dk_dec (dk_aux (bs_u1 h).1 rfl) rfl
theorem dk_77 {c : ByteArray} {p : Nat} (h : bs c p [77] = true) : decode c p = .ok (.astore_n 2, 1) :=
  dk_dec (dk_aux (bs_u1 h).1 rfl) rfl
theorem dk_78 {c : ByteArray} {p : Nat} (h : bs c p [78] = true) : decode c p = .ok (.astore_n 3, 1) :=
  dk_dec (dk_aux (bs_u1 h).1 rfl) rfl
theorem dk_79 {c : ByteArray} {p : Nat} (h : bs c p [79] = true) : decode c p = .ok (.iastore, 1) :=
  dk_dec (dk_aux (bs_u1 h).1 rfl) rfl
theorem dk_8 {c : ByteArray} {p : Nat} (h : bs c p [8] = true) : decode c p = .ok (.iconst 5, 1) :=
  dk_dec (dk_aux (bs_u1 h).1 rfl) rfl
theorem dk_80 {c : ByteArray} {p : Nat} (h : bs c p [80] = true) : decode c p = .ok (.lastore, 1) :=
  dk_dec (dk_aux (bs_u1 h).1 rfl) rfl
theorem dk_83 {c : ByteArray} {p : Nat} (h : bs c p [83] = true) : decode c p = .ok (.aastore, 1) :=
  dk_dec (dk_aux (bs_u1 h).1 rfl) rfl
theorem dk_87 {c : ByteArray} {p : Nat} (h : bs c p [87] = true) : decode c p = .ok (.pop, 1) :=
  dk_dec (dk_aux (bs_u1 h).1 rfl) rfl
theorem dk_88 {c : ByteArray} {p : Nat} (h : bs c p [88] = true) : decode c p = .ok (.pop2, 1) :=
  dk_dec (dk_aux (bs_u1 h).1 rfl) rfl
theorem dk_89 {c : ByteArray} {p : Nat} (h : bs c p [89] = true) : decode c p = .ok (.dup, 1) :=
  dk_dec (dk_aux (bs_u1 h).1 rfl) rfl
theorem dk_9 {c : ByteArray} {p : Nat} (h : bs c p [9] = true) : decode c p = .ok (.lconst 0, 1) :=
  dk_dec (dk_aux (bs_u1 h).1 rfl) rfl
theorem dk_90 {c : ByteArray} {p : Nat} (h : bs c p [90] = true) : decode c p = .ok (.dup_x1, 1) :=
  dk_dec (dk_aux (bs_u1 h).1 rfl) rfl
theorem dk_92 {c : ByteArray} {p : Nat} (h : bs c p [92] = true) : decode c p = .ok (.dup2, 1) :=
  dk_dec (dk_aux (bs_u1 h).1 rfl) rfl
theorem dk_96 {c : ByteArray} {p : Nat} (h : bs c p [96] = true) : decode c p = .ok (.iadd, 1) :=
  dk_dec (dk_aux (bs_u1 h).1 rfl) rfl
theorem dk_97 {c : ByteArray} {p : Nat} (h : bs c p [97] = true) : decode c p = .ok (.ladd, 1) :=
  dk_dec (dk_aux (bs_u1 h).1 rfl) rfl
theorem dk_na_10 {c : ByteArray} {p : Nat} (h : bs c p [188, 10] = true) : decode c p = .ok (.newarray .int, 2) :=
  have k := bs_u1 h
  dk_dec (dk_aux k.1 (dk_aux (bs_u1 k.2).1 rfl)) rfl
theorem dk_na_11 {c : ByteArray} {p : Nat} (h : bs c p [188, 11] = true) : decode c p = .ok (.newarray .long, 2) :=
  have k := bs_u1 h
  dk_dec (dk_aux k.1 (dk_aux (bs_u1 k.2).1 rfl)) rfl
