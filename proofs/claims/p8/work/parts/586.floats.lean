/-! ===== floats ===== -/
theorem wd143 : (Jvm.Cond.initialized "java/lang/Float") ∈ lw_g := gwc_1 18 (by decide +kernel) (by decide +kernel)
theorem wd144 : (Jvm.Cond.initialized "java/lang/Double") ∈ lw_g := gwc_1 19 (by decide +kernel) (by decide +kernel)
theorem wd1398 : (Jvm.Cond.methodLink "QuorumGate" (350 : Nat) ({ cls := "QuorumGate", name := "floatBits", desc := "(F)I" } : Jvm.MethodName)) ∈ lw_g := gwc_6 73 (by decide +kernel) (by decide +kernel)
theorem wd1399 : (Jvm.Cond.static ({ cls := "QuorumGate", name := "floatBits", desc := "(F)I" } : Jvm.MethodName)) ∈ lw_g := gwc_6 74 (by decide +kernel) (by decide +kernel)
theorem wd1400 : (Jvm.Cond.code ({ cls := "QuorumGate", name := "floatBits", desc := "(F)I" } : Jvm.MethodName) prog_1_method_62_code (3 : Nat) (Option.some Jvm.ClassFile.FieldType.int)) ∈ lw_g := gwc_6 75 (by decide +kernel) (by decide +kernel)
theorem wd1401 : (Jvm.Cond.constantFloat "QuorumGate" (386 : Nat) (1258291200 : UInt32)) ∈ lw_g := gwc_6 76 (by decide +kernel) (by decide +kernel)
theorem wd1406 : (Jvm.Cond.methodLink "QuorumGate" (354 : Nat) ({ cls := "QuorumGate", name := "wholeRoot", desc := "(I)I" } : Jvm.MethodName)) ∈ lw_g := gwc_6 81 (by decide +kernel) (by decide +kernel)
theorem wd1407 : (Jvm.Cond.static ({ cls := "QuorumGate", name := "wholeRoot", desc := "(I)I" } : Jvm.MethodName)) ∈ lw_g := gwc_6 82 (by decide +kernel) (by decide +kernel)
theorem wd1408 : (Jvm.Cond.code ({ cls := "QuorumGate", name := "wholeRoot", desc := "(I)I" } : Jvm.MethodName) prog_1_method_61_code (2 : Nat) (Option.some Jvm.ClassFile.FieldType.int)) ∈ lw_g := gwc_6 83 (by decide +kernel) (by decide +kernel)
theorem wd1409 : (Jvm.Cond.methodLink "QuorumGate" (357 : Nat) ({ cls := "QuorumGate", name := "doubleBits", desc := "(D)J" } : Jvm.MethodName)) ∈ lw_g := gwc_6 84 (by decide +kernel) (by decide +kernel)
theorem wd1410 : (Jvm.Cond.static ({ cls := "QuorumGate", name := "doubleBits", desc := "(D)J" } : Jvm.MethodName)) ∈ lw_g := gwc_6 85 (by decide +kernel) (by decide +kernel)
theorem wd1411 : (Jvm.Cond.code ({ cls := "QuorumGate", name := "doubleBits", desc := "(D)J" } : Jvm.MethodName) prog_1_method_63_code (5 : Nat) (Option.some Jvm.ClassFile.FieldType.long)) ∈ lw_g := gwc_6 86 (by decide +kernel) (by decide +kernel)
theorem wd1412 : (Jvm.Cond.constantDouble "QuorumGate" (387 : Nat) (4611686018427387904 : UInt64)) ∈ lw_g := gwc_6 87 (by decide +kernel) (by decide +kernel)
theorem wd1413 : (Jvm.Cond.constantDouble "QuorumGate" (389 : Nat) (4841369599423283200 : UInt64)) ∈ lw_g := gwc_6 88 (by decide +kernel) (by decide +kernel)
theorem wd2047 : (Jvm.Cond.methodLink "QuorumGateModel" (399 : Nat) ({ cls := "java/lang/Float", name := "floatToIntBits", desc := "(F)I" } : Jvm.MethodName)) ∈ lw_g := gwc_9 2 (by decide +kernel) (by decide +kernel)
theorem wd2048 : (Jvm.Cond.static ({ cls := "java/lang/Float", name := "floatToIntBits", desc := "(F)I" } : Jvm.MethodName)) ∈ lw_g := gwc_9 3 (by decide +kernel) (by decide +kernel)
theorem wd2049 : (Jvm.Cond.code ({ cls := "java/lang/Float", name := "floatToIntBits", desc := "(F)I" } : Jvm.MethodName) prog_15_method_24_code (1 : Nat) (Option.some Jvm.ClassFile.FieldType.int)) ∈ lw_g := gwc_9 4 (by decide +kernel) (by decide +kernel)
theorem wd2050 : (Jvm.Cond.methodLink "java/lang/Float" (59 : Nat) ({ cls := "java/lang/Float", name := "isNaN", desc := "(F)Z" } : Jvm.MethodName)) ∈ lw_g := gwc_9 5 (by decide +kernel) (by decide +kernel)
theorem wd2051 : (Jvm.Cond.static ({ cls := "java/lang/Float", name := "isNaN", desc := "(F)Z" } : Jvm.MethodName)) ∈ lw_g := gwc_9 6 (by decide +kernel) (by decide +kernel)
theorem wd2052 : (Jvm.Cond.code ({ cls := "java/lang/Float", name := "isNaN", desc := "(F)Z" } : Jvm.MethodName) prog_15_method_6_code (1 : Nat) (Option.some Jvm.ClassFile.FieldType.boolean)) ∈ lw_g := gwc_9 7 (by decide +kernel) (by decide +kernel)
theorem wd2053 : (Jvm.Cond.methodLink "java/lang/Float" (74 : Nat) ({ cls := "java/lang/Float", name := "floatToRawIntBits", desc := "(F)I" } : Jvm.MethodName)) ∈ lw_g := gwc_9 8 (by decide +kernel) (by decide +kernel)
theorem wd2054 : (Jvm.Cond.static ({ cls := "java/lang/Float", name := "floatToRawIntBits", desc := "(F)I" } : Jvm.MethodName)) ∈ lw_g := gwc_9 9 (by decide +kernel) (by decide +kernel)
theorem wd2055 : (Jvm.Cond.native ({ cls := "java/lang/Float", name := "floatToRawIntBits", desc := "(F)I" } : Jvm.MethodName)) ∈ lw_g := gwc_9 10 (by decide +kernel) (by decide +kernel)
theorem wd2056 : (Jvm.Cond.constant "java/lang/Float" (77 : Nat) (2143289344 : Int32)) ∈ lw_g := gwc_9 11 (by decide +kernel) (by decide +kernel)
theorem wd2061 : (Jvm.Cond.methodLink "QuorumGateModel" (405 : Nat) ({ cls := "java/lang/Double", name := "doubleToLongBits", desc := "(D)J" } : Jvm.MethodName)) ∈ lw_g := gwc_9 16 (by decide +kernel) (by decide +kernel)
theorem wd2062 : (Jvm.Cond.static ({ cls := "java/lang/Double", name := "doubleToLongBits", desc := "(D)J" } : Jvm.MethodName)) ∈ lw_g := gwc_9 17 (by decide +kernel) (by decide +kernel)
theorem wd2063 : (Jvm.Cond.code ({ cls := "java/lang/Double", name := "doubleToLongBits", desc := "(D)J" } : Jvm.MethodName) prog_14_method_23_code (2 : Nat) (Option.some Jvm.ClassFile.FieldType.long)) ∈ lw_g := gwc_9 18 (by decide +kernel) (by decide +kernel)
theorem wd2064 : (Jvm.Cond.methodLink "java/lang/Double" (122 : Nat) ({ cls := "java/lang/Double", name := "isNaN", desc := "(D)Z" } : Jvm.MethodName)) ∈ lw_g := gwc_9 19 (by decide +kernel) (by decide +kernel)
theorem wd2065 : (Jvm.Cond.static ({ cls := "java/lang/Double", name := "isNaN", desc := "(D)Z" } : Jvm.MethodName)) ∈ lw_g := gwc_9 20 (by decide +kernel) (by decide +kernel)
theorem wd2066 : (Jvm.Cond.code ({ cls := "java/lang/Double", name := "isNaN", desc := "(D)Z" } : Jvm.MethodName) prog_14_method_6_code (2 : Nat) (Option.some Jvm.ClassFile.FieldType.boolean)) ∈ lw_g := gwc_9 21 (by decide +kernel) (by decide +kernel)
theorem wd2067 : (Jvm.Cond.methodLink "java/lang/Double" (134 : Nat) ({ cls := "java/lang/Double", name := "doubleToRawLongBits", desc := "(D)J" } : Jvm.MethodName)) ∈ lw_g := gwc_9 22 (by decide +kernel) (by decide +kernel)
theorem wd2068 : (Jvm.Cond.static ({ cls := "java/lang/Double", name := "doubleToRawLongBits", desc := "(D)J" } : Jvm.MethodName)) ∈ lw_g := gwc_9 23 (by decide +kernel) (by decide +kernel)
theorem wd2069 : (Jvm.Cond.native ({ cls := "java/lang/Double", name := "doubleToRawLongBits", desc := "(D)J" } : Jvm.MethodName)) ∈ lw_g := gwc_9 24 (by decide +kernel) (by decide +kernel)
theorem wd2070 : (Jvm.Cond.constantLong "java/lang/Double" (137 : Nat) (9221120237041090560 : Int64)) ∈ lw_g := gwc_9 25 (by decide +kernel) (by decide +kernel)

theorem dJxf58ca_isNaN_12338_0 : decode cJxf58ca_isNaN_12338 0 = .ok (.fload_n 0, 1) := dk_34 (by decide +kernel)
theorem dJxf58ca_isNaN_12338_1 : decode cJxf58ca_isNaN_12338 1 = .ok (.fload_n 0, 1) := dk_34 (by decide +kernel)
theorem dJxf58ca_isNaN_12338_2 : decode cJxf58ca_isNaN_12338 2 = .ok (.fcmp .l, 1) := dk_149 (by decide +kernel)
theorem dJxf58ca_isNaN_12338_3 : decode cJxf58ca_isNaN_12338 3 = .ok (.ifCond .eq 7, 3) := dk_153 (x := 0) (y := 7) (by decide +kernel) rfl
theorem dJxf58ca_isNaN_12338_6 : decode cJxf58ca_isNaN_12338 6 = .ok (.iconst 1, 1) := dk_4 (by decide +kernel)
theorem dJxf58ca_isNaN_12338_7 : decode cJxf58ca_isNaN_12338 7 = .ok (.goto 4, 3) := dk_167 (x := 0) (y := 4) (by decide +kernel) rfl
theorem dJxf58ca_isNaN_12338_10 : decode cJxf58ca_isNaN_12338 10 = .ok (.iconst 0, 1) := dk_3 (by decide +kernel)
theorem dJxf58ca_isNaN_12338_11 : decode cJxf58ca_isNaN_12338 11 = .ok (.ireturn, 1) := dk_172 (by decide +kernel)
theorem dJxf58ca_floatToIntBits_5c35a_0 : decode cJxf58ca_floatToIntBits_5c35a 0 = .ok (.fload_n 0, 1) := dk_34 (by decide +kernel)
theorem dJxf58ca_floatToIntBits_5c35a_1 : decode cJxf58ca_floatToIntBits_5c35a 1 = .ok (.invokestatic 59, 3) := dk_184 (x := 0) (y := 59) (by decide +kernel) rfl
theorem dJxf58ca_floatToIntBits_5c35a_4 : decode cJxf58ca_floatToIntBits_5c35a 4 = .ok (.ifCond .ne 8, 3) := dk_154 (x := 0) (y := 8) (by decide +kernel) rfl
theorem dJxf58ca_floatToIntBits_5c35a_7 : decode cJxf58ca_floatToIntBits_5c35a 7 = .ok (.fload_n 0, 1) := dk_34 (by decide +kernel)
theorem dJxf58ca_floatToIntBits_5c35a_8 : decode cJxf58ca_floatToIntBits_5c35a 8 = .ok (.invokestatic 74, 3) := dk_184 (x := 0) (y := 74) (by decide +kernel) rfl
theorem dJxf58ca_floatToIntBits_5c35a_11 : decode cJxf58ca_floatToIntBits_5c35a 11 = .ok (.ireturn, 1) := dk_172 (by decide +kernel)
theorem dJxf58ca_floatToIntBits_5c35a_12 : decode cJxf58ca_floatToIntBits_5c35a 12 = .ok (.ldc 77, 2) := dk_18 (x := 77) (by decide +kernel)
theorem dJxf58ca_floatToIntBits_5c35a_14 : decode cJxf58ca_floatToIntBits_5c35a 14 = .ok (.ireturn, 1) := dk_172 (by decide +kernel)
theorem dJxe99ae_isNaN_b9ae7_0 : decode cJxe99ae_isNaN_b9ae7 0 = .ok (.dload_n 0, 1) := dk_38 (by decide +kernel)
theorem dJxe99ae_isNaN_b9ae7_1 : decode cJxe99ae_isNaN_b9ae7 1 = .ok (.dload_n 0, 1) := dk_38 (by decide +kernel)
theorem dJxe99ae_isNaN_b9ae7_2 : decode cJxe99ae_isNaN_b9ae7 2 = .ok (.dcmp .l, 1) := dk_151 (by decide +kernel)
theorem dJxe99ae_isNaN_b9ae7_3 : decode cJxe99ae_isNaN_b9ae7 3 = .ok (.ifCond .eq 7, 3) := dk_153 (x := 0) (y := 7) (by decide +kernel) rfl
theorem dJxe99ae_isNaN_b9ae7_6 : decode cJxe99ae_isNaN_b9ae7 6 = .ok (.iconst 1, 1) := dk_4 (by decide +kernel)
theorem dJxe99ae_isNaN_b9ae7_7 : decode cJxe99ae_isNaN_b9ae7 7 = .ok (.goto 4, 3) := dk_167 (x := 0) (y := 4) (by decide +kernel) rfl
theorem dJxe99ae_isNaN_b9ae7_10 : decode cJxe99ae_isNaN_b9ae7 10 = .ok (.iconst 0, 1) := dk_3 (by decide +kernel)
theorem dJxe99ae_isNaN_b9ae7_11 : decode cJxe99ae_isNaN_b9ae7 11 = .ok (.ireturn, 1) := dk_172 (by decide +kernel)
theorem dJxe99ae_doubleToLongBits_ccdee_0 : decode cJxe99ae_doubleToLongBits_ccdee 0 = .ok (.dload_n 0, 1) := dk_38 (by decide +kernel)
theorem dJxe99ae_doubleToLongBits_ccdee_1 : decode cJxe99ae_doubleToLongBits_ccdee 1 = .ok (.invokestatic 122, 3) := dk_184 (x := 0) (y := 122) (by decide +kernel) rfl
theorem dJxe99ae_doubleToLongBits_ccdee_4 : decode cJxe99ae_doubleToLongBits_ccdee 4 = .ok (.ifCond .ne 8, 3) := dk_154 (x := 0) (y := 8) (by decide +kernel) rfl
theorem dJxe99ae_doubleToLongBits_ccdee_7 : decode cJxe99ae_doubleToLongBits_ccdee 7 = .ok (.dload_n 0, 1) := dk_38 (by decide +kernel)
theorem dJxe99ae_doubleToLongBits_ccdee_8 : decode cJxe99ae_doubleToLongBits_ccdee 8 = .ok (.invokestatic 134, 3) := dk_184 (x := 0) (y := 134) (by decide +kernel) rfl
theorem dJxe99ae_doubleToLongBits_ccdee_11 : decode cJxe99ae_doubleToLongBits_ccdee 11 = .ok (.lreturn, 1) := dk_173 (by decide +kernel)
theorem dJxe99ae_doubleToLongBits_ccdee_12 : decode cJxe99ae_doubleToLongBits_ccdee 12 = .ok (.ldc2_w 137, 3) := dk_20 (x := 0) (y := 137) (by decide +kernel) rfl
theorem dJxe99ae_doubleToLongBits_ccdee_15 : decode cJxe99ae_doubleToLongBits_ccdee 15 = .ok (.lreturn, 1) := dk_173 (by decide +kernel)
theorem dX9_floatBits_0 : decode cX9_floatBits 0 = .ok (.fload_n 0, 1) := dk_34 (by decide +kernel)
theorem dX9_floatBits_1 : decode cX9_floatBits 1 = .ok (.fstore_n 1, 1) := dk_68 (by decide +kernel)
theorem dX9_floatBits_2 : decode cX9_floatBits 2 = .ok (.iconst 0, 1) := dk_3 (by decide +kernel)
theorem dX9_floatBits_3 : decode cX9_floatBits 3 = .ok (.istore_n 2, 1) := dk_61 (by decide +kernel)
theorem dX9_floatBits_4 : decode cX9_floatBits 4 = .ok (.fload_n 1, 1) := dk_35 (by decide +kernel)
theorem dX9_floatBits_5 : decode cX9_floatBits 5 = .ok (.fconst 2, 1) := dk_13 (by decide +kernel)
theorem dX9_floatBits_6 : decode cX9_floatBits 6 = .ok (.fcmp .l, 1) := dk_149 (by decide +kernel)
theorem dX9_floatBits_7 : decode cX9_floatBits 7 = .ok (.ifCond .lt 19, 3) := dk_155 (x := 0) (y := 19) (by decide +kernel) rfl
theorem dX9_floatBits_10 : decode cX9_floatBits 10 = .ok (.iload_n 2, 1) := dk_28 (by decide +kernel)
theorem dX9_floatBits_11 : decode cX9_floatBits 11 = .ok (.bipush 127, 2) := dk_16 (x := 127) (by decide +kernel) rfl
theorem dX9_floatBits_13 : decode cX9_floatBits 13 = .ok (.if_icmp .ge 13, 3) := dk_162 (x := 0) (y := 13) (by decide +kernel) rfl
theorem dX9_floatBits_16 : decode cX9_floatBits 16 = .ok (.fload_n 1, 1) := dk_35 (by decide +kernel)
theorem dX9_floatBits_17 : decode cX9_floatBits 17 = .ok (.fconst 2, 1) := dk_13 (by decide +kernel)
theorem dX9_floatBits_18 : decode cX9_floatBits 18 = .ok (.fdiv, 1) := dk_110 (by decide +kernel)
theorem dX9_floatBits_19 : decode cX9_floatBits 19 = .ok (.fstore_n 1, 1) := dk_68 (by decide +kernel)
theorem dX9_floatBits_20 : decode cX9_floatBits 20 = .ok (.iinc 2 1, 3) := dk_132 (x := 2) (y := 1) (by decide +kernel) rfl
theorem dX9_floatBits_23 : decode cX9_floatBits 23 = .ok (.goto (-19), 3) := dk_167 (x := 255) (y := 237) (by decide +kernel) rfl
theorem dX9_floatBits_26 : decode cX9_floatBits 26 = .ok (.fload_n 1, 1) := dk_35 (by decide +kernel)
theorem dX9_floatBits_27 : decode cX9_floatBits 27 = .ok (.fconst 1, 1) := dk_12 (by decide +kernel)
theorem dX9_floatBits_28 : decode cX9_floatBits 28 = .ok (.fcmp .g, 1) := dk_150 (by decide +kernel)
theorem dX9_floatBits_29 : decode cX9_floatBits 29 = .ok (.ifCond .ge 19, 3) := dk_156 (x := 0) (y := 19) (by decide +kernel) rfl
theorem dX9_floatBits_32 : decode cX9_floatBits 32 = .ok (.iload_n 2, 1) := dk_28 (by decide +kernel)
theorem dX9_floatBits_33 : decode cX9_floatBits 33 = .ok (.bipush (-126), 2) := dk_16 (x := 130) (by decide +kernel) rfl
theorem dX9_floatBits_35 : decode cX9_floatBits 35 = .ok (.if_icmp .le 13, 3) := dk_164 (x := 0) (y := 13) (by decide +kernel) rfl
theorem dX9_floatBits_38 : decode cX9_floatBits 38 = .ok (.fload_n 1, 1) := dk_35 (by decide +kernel)
theorem dX9_floatBits_39 : decode cX9_floatBits 39 = .ok (.fconst 2, 1) := dk_13 (by decide +kernel)
theorem dX9_floatBits_40 : decode cX9_floatBits 40 = .ok (.fmul, 1) := dk_106 (by decide +kernel)
theorem dX9_floatBits_41 : decode cX9_floatBits 41 = .ok (.fstore_n 1, 1) := dk_68 (by decide +kernel)
theorem dX9_floatBits_42 : decode cX9_floatBits 42 = .ok (.iinc 2 (-1), 3) := dk_132 (x := 2) (y := 255) (by decide +kernel) rfl
theorem dX9_floatBits_45 : decode cX9_floatBits 45 = .ok (.goto (-19), 3) := dk_167 (x := 255) (y := 237) (by decide +kernel) rfl
theorem dX9_floatBits_48 : decode cX9_floatBits 48 = .ok (.iload_n 2, 1) := dk_28 (by decide +kernel)
theorem dX9_floatBits_49 : decode cX9_floatBits 49 = .ok (.bipush 127, 2) := dk_16 (x := 127) (by decide +kernel) rfl
theorem dX9_floatBits_51 : decode cX9_floatBits 51 = .ok (.iadd, 1) := dk_96 (by decide +kernel)
theorem dX9_floatBits_52 : decode cX9_floatBits 52 = .ok (.bipush 23, 2) := dk_16 (x := 23) (by decide +kernel) rfl
theorem dX9_floatBits_54 : decode cX9_floatBits 54 = .ok (.ishl, 1) := dk_120 (by decide +kernel)
theorem dX9_floatBits_55 : decode cX9_floatBits 55 = .ok (.fload_n 1, 1) := dk_35 (by decide +kernel)
theorem dX9_floatBits_56 : decode cX9_floatBits 56 = .ok (.fconst 1, 1) := dk_12 (by decide +kernel)
theorem dX9_floatBits_57 : decode cX9_floatBits 57 = .ok (.fsub, 1) := dk_102 (by decide +kernel)
theorem dX9_floatBits_58 : decode cX9_floatBits 58 = .ok (.ldc_w 386, 3) := dk_19 (x := 1) (y := 130) (by decide +kernel) rfl
theorem dX9_floatBits_61 : decode cX9_floatBits 61 = .ok (.fmul, 1) := dk_106 (by decide +kernel)
theorem dX9_floatBits_62 : decode cX9_floatBits 62 = .ok (.f2i, 1) := dk_139 (by decide +kernel)
theorem dX9_floatBits_63 : decode cX9_floatBits 63 = .ok (.ior, 1) := dk_128 (by decide +kernel)
theorem dX9_floatBits_64 : decode cX9_floatBits 64 = .ok (.ireturn, 1) := dk_172 (by decide +kernel)
theorem dX9_doubleBits_0 : decode cX9_doubleBits 0 = .ok (.dload_n 0, 1) := dk_38 (by decide +kernel)
theorem dX9_doubleBits_1 : decode cX9_doubleBits 1 = .ok (.dstore_n 2, 1) := dk_73 (by decide +kernel)
theorem dX9_doubleBits_2 : decode cX9_doubleBits 2 = .ok (.iconst 0, 1) := dk_3 (by decide +kernel)
theorem dX9_doubleBits_3 : decode cX9_doubleBits 3 = .ok (.istore 4, 2) := dk_54 (x := 4) (by decide +kernel)
theorem dX9_doubleBits_5 : decode cX9_doubleBits 5 = .ok (.dload_n 2, 1) := dk_40 (by decide +kernel)
theorem dX9_doubleBits_6 : decode cX9_doubleBits 6 = .ok (.ldc2_w 387, 3) := dk_20 (x := 1) (y := 131) (by decide +kernel) rfl
theorem dX9_doubleBits_9 : decode cX9_doubleBits 9 = .ok (.dcmp .l, 1) := dk_151 (by decide +kernel)
theorem dX9_doubleBits_10 : decode cX9_doubleBits 10 = .ok (.ifCond .lt 23, 3) := dk_155 (x := 0) (y := 23) (by decide +kernel) rfl
theorem dX9_doubleBits_13 : decode cX9_doubleBits 13 = .ok (.iload 4, 2) := dk_21 (x := 4) (by decide +kernel)
theorem dX9_doubleBits_15 : decode cX9_doubleBits 15 = .ok (.sipush 1023, 3) := dk_17 (x := 3) (y := 255) (by decide +kernel) rfl
theorem dX9_doubleBits_18 : decode cX9_doubleBits 18 = .ok (.if_icmp .ge 15, 3) := dk_162 (x := 0) (y := 15) (by decide +kernel) rfl
theorem dX9_doubleBits_21 : decode cX9_doubleBits 21 = .ok (.dload_n 2, 1) := dk_40 (by decide +kernel)
theorem dX9_doubleBits_22 : decode cX9_doubleBits 22 = .ok (.ldc2_w 387, 3) := dk_20 (x := 1) (y := 131) (by decide +kernel) rfl
theorem dX9_doubleBits_25 : decode cX9_doubleBits 25 = .ok (.ddiv, 1) := dk_111 (by decide +kernel)
theorem dX9_doubleBits_26 : decode cX9_doubleBits 26 = .ok (.dstore_n 2, 1) := dk_73 (by decide +kernel)
theorem dX9_doubleBits_27 : decode cX9_doubleBits 27 = .ok (.iinc 4 1, 3) := dk_132 (x := 4) (y := 1) (by decide +kernel) rfl
theorem dX9_doubleBits_30 : decode cX9_doubleBits 30 = .ok (.goto (-25), 3) := dk_167 (x := 255) (y := 231) (by decide +kernel) rfl
theorem dX9_doubleBits_33 : decode cX9_doubleBits 33 = .ok (.dload_n 2, 1) := dk_40 (by decide +kernel)
theorem dX9_doubleBits_34 : decode cX9_doubleBits 34 = .ok (.dconst 1, 1) := dk_15 (by decide +kernel)
theorem dX9_doubleBits_35 : decode cX9_doubleBits 35 = .ok (.dcmp .g, 1) := dk_152 (by decide +kernel)
theorem dX9_doubleBits_36 : decode cX9_doubleBits 36 = .ok (.ifCond .ge 23, 3) := dk_156 (x := 0) (y := 23) (by decide +kernel) rfl
theorem dX9_doubleBits_39 : decode cX9_doubleBits 39 = .ok (.iload 4, 2) := dk_21 (x := 4) (by decide +kernel)
theorem dX9_doubleBits_41 : decode cX9_doubleBits 41 = .ok (.sipush (-1022), 3) := dk_17 (x := 252) (y := 2) (by decide +kernel) rfl
theorem dX9_doubleBits_44 : decode cX9_doubleBits 44 = .ok (.if_icmp .le 15, 3) := dk_164 (x := 0) (y := 15) (by decide +kernel) rfl
theorem dX9_doubleBits_47 : decode cX9_doubleBits 47 = .ok (.dload_n 2, 1) := dk_40 (by decide +kernel)
theorem dX9_doubleBits_48 : decode cX9_doubleBits 48 = .ok (.ldc2_w 387, 3) := dk_20 (x := 1) (y := 131) (by decide +kernel) rfl
theorem dX9_doubleBits_51 : decode cX9_doubleBits 51 = .ok (.dmul, 1) := dk_107 (by decide +kernel)
theorem dX9_doubleBits_52 : decode cX9_doubleBits 52 = .ok (.dstore_n 2, 1) := dk_73 (by decide +kernel)
theorem dX9_doubleBits_53 : decode cX9_doubleBits 53 = .ok (.iinc 4 (-1), 3) := dk_132 (x := 4) (y := 255) (by decide +kernel) rfl
theorem dX9_doubleBits_56 : decode cX9_doubleBits 56 = .ok (.goto (-23), 3) := dk_167 (x := 255) (y := 233) (by decide +kernel) rfl
theorem dX9_doubleBits_59 : decode cX9_doubleBits 59 = .ok (.iload 4, 2) := dk_21 (x := 4) (by decide +kernel)
theorem dX9_doubleBits_61 : decode cX9_doubleBits 61 = .ok (.sipush 1023, 3) := dk_17 (x := 3) (y := 255) (by decide +kernel) rfl
theorem dX9_doubleBits_64 : decode cX9_doubleBits 64 = .ok (.iadd, 1) := dk_96 (by decide +kernel)
theorem dX9_doubleBits_65 : decode cX9_doubleBits 65 = .ok (.i2l, 1) := dk_133 (by decide +kernel)
theorem dX9_doubleBits_66 : decode cX9_doubleBits 66 = .ok (.bipush 52, 2) := dk_16 (x := 52) (by decide +kernel) rfl
theorem dX9_doubleBits_68 : decode cX9_doubleBits 68 = .ok (.lshl, 1) := dk_121 (by decide +kernel)
theorem dX9_doubleBits_69 : decode cX9_doubleBits 69 = .ok (.dload_n 2, 1) := dk_40 (by decide +kernel)
theorem dX9_doubleBits_70 : decode cX9_doubleBits 70 = .ok (.dconst 1, 1) := dk_15 (by decide +kernel)
theorem dX9_doubleBits_71 : decode cX9_doubleBits 71 = .ok (.dsub, 1) := dk_103 (by decide +kernel)
theorem dX9_doubleBits_72 : decode cX9_doubleBits 72 = .ok (.ldc2_w 389, 3) := dk_20 (x := 1) (y := 133) (by decide +kernel) rfl
theorem dX9_doubleBits_75 : decode cX9_doubleBits 75 = .ok (.dmul, 1) := dk_107 (by decide +kernel)
theorem dX9_doubleBits_76 : decode cX9_doubleBits 76 = .ok (.d2l, 1) := dk_143 (by decide +kernel)
theorem dX9_doubleBits_77 : decode cX9_doubleBits 77 = .ok (.lor, 1) := dk_129 (by decide +kernel)
theorem dX9_doubleBits_78 : decode cX9_doubleBits 78 = .ok (.lreturn, 1) := dk_173 (by decide +kernel)
def f_Jxf58ca_isNaN_12338 (a1 : UInt32) (M : Mem) : Option Int32 :=
  if (Op.cmpValue (FP.fcmp a1 a1) .l) = 0 then (
    some (0 : Int32)
    ) else (
    some (1 : Int32)
    )
theorem cd_Jxf58ca_isNaN_12338 : (yJxf58ca_isNaN_12338.cls ≠ "java/lang/invoke/MethodHandle" ∧ yJxf58ca_isNaN_12338.cls ≠ "java/lang/invoke/VarHandle") ∧ (parseMethodDescriptor yJxf58ca_isNaN_12338.desc).map (fun d => d.parameters.length) = some 1 := ⟨⟨by decide +kernel, by decide +kernel⟩, by decide +kernel⟩
theorem k_Jxf58ca_isNaN_12338 (G : Gam) {a1 : UInt32} {M : Mem} {rv : Int32} (hf : f_Jxf58ca_isNaN_12338 a1 M = some rv) : Kt yJxf58ca_isNaN_12338 cJxf58ca_isNaN_12338 1 (some .boolean) 0 0 G [.float a1] M M (some (.int rv)) := by
  refine Kt.ofF (by decide +kernel) (Nat.le_of_ble_eq_true rfl) ?_
  intro p l e R s m args below meth c X hr hlk hnm
  refine s_drop [0] (vs' := [(0, .float a1)]) rfl ?_
  rw [f_Jxf58ca_isNaN_12338] at hf
  refine s_fload_n X 0 dJxf58ca_isNaN_12338_0 rfl rfl ?_
  refine s_fload_n X 0 dJxf58ca_isNaN_12338_1 rfl rfl ?_
  refine s_fcmp X dJxf58ca_isNaN_12338_2 ?_
  have hs1 := pk_ite hf
  clear hf
  refine s_if_eq X (tgt := 10) dJxf58ca_isNaN_12338_3 rfl (fun c2 => ?_) (fun c2 => ?_)
  · have hf := hs1.1 c2
    refine s_iconst X (v := (0 : Int32)) dJxf58ca_isNaN_12338_10 rfl ?_
    cases hf
    exact s_zret X hr (bz_n (Or.inl rfl)) hlk dJxf58ca_isNaN_12338_11
  · have hf := hs1.2 c2
    refine s_iconst X (v := (1 : Int32)) dJxf58ca_isNaN_12338_6 rfl ?_
    refine s_goto X (tgt := 11) dJxf58ca_isNaN_12338_7 rfl ?_
    cases hf
    exact s_zret X hr (bz_n (Or.inr rfl)) hlk dJxf58ca_isNaN_12338_11
def f_Jxf58ca_floatToIntBits_5c35a (a1 : UInt32) (M : Mem) : Option Int32 :=
  obd (f_Jxf58ca_isNaN_12338 a1 M) fun r2 =>
  if r2 = 0 then (
    some a1.toInt32
    ) else (
    some (2143289344 : Int32)
    )
theorem cd_Jxf58ca_floatToIntBits_5c35a : (yJxf58ca_floatToIntBits_5c35a.cls ≠ "java/lang/invoke/MethodHandle" ∧ yJxf58ca_floatToIntBits_5c35a.cls ≠ "java/lang/invoke/VarHandle") ∧ (parseMethodDescriptor yJxf58ca_floatToIntBits_5c35a.desc).map (fun d => d.parameters.length) = some 1 := ⟨⟨by decide +kernel, by decide +kernel⟩, by decide +kernel⟩
theorem k_Jxf58ca_floatToIntBits_5c35a (G : Gam) {a1 : UInt32} {M : Mem} {rv : Int32} (hf : f_Jxf58ca_floatToIntBits_5c35a a1 M = some rv) : Kt yJxf58ca_floatToIntBits_5c35a cJxf58ca_floatToIntBits_5c35a 1 (some .int) 1 24 G [.float a1] M M (some (.int rv)) := by
  refine Kt.ofF (by decide +kernel) (Nat.le_of_ble_eq_true rfl) ?_
  intro p l e R s m args below meth c X hr hlk hnm
  refine s_drop [0] (vs' := [(0, .float a1)]) rfl ?_
  rw [f_Jxf58ca_floatToIntBits_5c35a] at hf
  refine s_fload_n X 0 dJxf58ca_floatToIntBits_5c35a_0 rfl rfl ?_
  obtain ⟨r2, hc1, hf⟩ := pk_obd hf
  refine s_callS X (k_Jxf58ca_isNaN_12338 G hc1) wd2050 wd2051 wd2052 wd143 cd_Jxf58ca_isNaN_12338 ⟨Nat.le_of_ble_eq_true rfl, Nat.le_of_ble_eq_true rfl⟩ (Nat.le_of_ble_eq_true rfl) dJxf58ca_floatToIntBits_5c35a_1 ?_
  have hs3 := pk_ite hf
  clear hf
  refine s_if_ne X (tgt := 12) dJxf58ca_floatToIntBits_5c35a_4 rfl (fun c4 => ?_) (fun c4 => ?_)
  · have hf := hs3.2 c4
    refine s_ldc X (v := (2143289344 : Int32)) dJxf58ca_floatToIntBits_5c35a_12 wd2056 ?_
    cases hf
    exact s_iret X hr hlk dJxf58ca_floatToIntBits_5c35a_14
  · have hf := hs3.1 c4
    refine s_fload_n X 0 dJxf58ca_floatToIntBits_5c35a_7 rfl rfl ?_
    refine s_rawF X wd2053 wd2055 wd2054 wd143 ⟨Nat.le_of_ble_eq_true rfl, Nat.le_of_ble_eq_true rfl⟩ dJxf58ca_floatToIntBits_5c35a_8 ?_
    cases hf
    exact s_iret X hr hlk dJxf58ca_floatToIntBits_5c35a_11
def f_Jxe99ae_isNaN_b9ae7 (a1 : UInt64) (M : Mem) : Option Int32 :=
  if (Op.cmpValue (FP.dcmp a1 a1) .l) = 0 then (
    some (0 : Int32)
    ) else (
    some (1 : Int32)
    )
theorem cd_Jxe99ae_isNaN_b9ae7 : (yJxe99ae_isNaN_b9ae7.cls ≠ "java/lang/invoke/MethodHandle" ∧ yJxe99ae_isNaN_b9ae7.cls ≠ "java/lang/invoke/VarHandle") ∧ (parseMethodDescriptor yJxe99ae_isNaN_b9ae7.desc).map (fun d => d.parameters.length) = some 1 := ⟨⟨by decide +kernel, by decide +kernel⟩, by decide +kernel⟩
theorem k_Jxe99ae_isNaN_b9ae7 (G : Gam) {a1 : UInt64} {M : Mem} {rv : Int32} (hf : f_Jxe99ae_isNaN_b9ae7 a1 M = some rv) : Kt yJxe99ae_isNaN_b9ae7 cJxe99ae_isNaN_b9ae7 2 (some .boolean) 0 0 G [.double a1] M M (some (.int rv)) := by
  refine Kt.of (by decide) (Nat.le_of_ble_eq_true rfl) ?_
  intro p l e R s m args below meth c X hr hlk hnm
  refine s_drop [0] (vs' := [(0, .double a1)]) rfl ?_
  rw [f_Jxe99ae_isNaN_b9ae7] at hf
  refine s_dload_n X 0 dJxe99ae_isNaN_b9ae7_0 rfl rfl ?_
  refine s_dload_n X 0 dJxe99ae_isNaN_b9ae7_1 rfl rfl ?_
  refine s_dcmp X dJxe99ae_isNaN_b9ae7_2 ?_
  have hs1 := pk_ite hf
  clear hf
  refine s_if_eq X (tgt := 10) dJxe99ae_isNaN_b9ae7_3 rfl (fun c2 => ?_) (fun c2 => ?_)
  · have hf := hs1.1 c2
    refine s_iconst X (v := (0 : Int32)) dJxe99ae_isNaN_b9ae7_10 rfl ?_
    cases hf
    exact s_zret X hr (bz_n (Or.inl rfl)) hlk dJxe99ae_isNaN_b9ae7_11
  · have hf := hs1.2 c2
    refine s_iconst X (v := (1 : Int32)) dJxe99ae_isNaN_b9ae7_6 rfl ?_
    refine s_goto X (tgt := 11) dJxe99ae_isNaN_b9ae7_7 rfl ?_
    cases hf
    exact s_zret X hr (bz_n (Or.inr rfl)) hlk dJxe99ae_isNaN_b9ae7_11
def f_Jxe99ae_doubleToLongBits_ccdee (a1 : UInt64) (M : Mem) : Option Int64 :=
  obd (f_Jxe99ae_isNaN_b9ae7 a1 M) fun r2 =>
  if r2 = 0 then (
    some a1.toInt64
    ) else (
    some (9221120237041090560 : Int64)
    )
theorem cd_Jxe99ae_doubleToLongBits_ccdee : (yJxe99ae_doubleToLongBits_ccdee.cls ≠ "java/lang/invoke/MethodHandle" ∧ yJxe99ae_doubleToLongBits_ccdee.cls ≠ "java/lang/invoke/VarHandle") ∧ (parseMethodDescriptor yJxe99ae_doubleToLongBits_ccdee.desc).map (fun d => d.parameters.length) = some 1 := ⟨⟨by decide +kernel, by decide +kernel⟩, by decide +kernel⟩
theorem k_Jxe99ae_doubleToLongBits_ccdee (G : Gam) {a1 : UInt64} {M : Mem} {rv : Int64} (hf : f_Jxe99ae_doubleToLongBits_ccdee a1 M = some rv) : Kt yJxe99ae_doubleToLongBits_ccdee cJxe99ae_doubleToLongBits_ccdee 2 (some .long) 1 24 G [.double a1] M M (some (.long rv)) := by
  refine Kt.of (by decide) (Nat.le_of_ble_eq_true rfl) ?_
  intro p l e R s m args below meth c X hr hlk hnm
  refine s_drop [0] (vs' := [(0, .double a1)]) rfl ?_
  rw [f_Jxe99ae_doubleToLongBits_ccdee] at hf
  refine s_dload_n X 0 dJxe99ae_doubleToLongBits_ccdee_0 rfl rfl ?_
  obtain ⟨r2, hc1, hf⟩ := pk_obd hf
  refine s_callS X (k_Jxe99ae_isNaN_b9ae7 G hc1) wd2064 wd2065 wd2066 wd144 cd_Jxe99ae_isNaN_b9ae7 ⟨Nat.le_of_ble_eq_true rfl, Nat.le_of_ble_eq_true rfl⟩ (Nat.le_of_ble_eq_true rfl) dJxe99ae_doubleToLongBits_ccdee_1 ?_
  have hs3 := pk_ite hf
  clear hf
  refine s_if_ne X (tgt := 12) dJxe99ae_doubleToLongBits_ccdee_4 rfl (fun c4 => ?_) (fun c4 => ?_)
  · have hf := hs3.2 c4
    refine s_ldc2 X (v := (9221120237041090560 : Int64)) dJxe99ae_doubleToLongBits_ccdee_12 wd2070 ?_
    cases hf
    exact s_lret X hr hlk dJxe99ae_doubleToLongBits_ccdee_15
  · have hf := hs3.1 c4
    refine s_dload_n X 0 dJxe99ae_doubleToLongBits_ccdee_7 rfl rfl ?_
    refine s_rawD X wd2067 wd2069 wd2068 wd144 ⟨Nat.le_of_ble_eq_true rfl, Nat.le_of_ble_eq_true rfl⟩ dJxe99ae_doubleToLongBits_ccdee_8 ?_
    cases hf
    exact s_lret X hr hlk dJxe99ae_doubleToLongBits_ccdee_11
def f_X9_floatBits_26 (M : Mem) : Nat → UInt32 → Int32 → Option Int32
  | 0, _, _ => none
  | n + 1, v1, v2 =>
    if 0 ≤ (Op.cmpValue (FP.fcmp v1 FP.fconst1) .g) then (
      chk (nq32 (FP.fsub v1 FP.fconst1)) <|
      chk (nq32 (FP.fmul (FP.fsub v1 FP.fconst1) (1258291200 : UInt32))) <|
      some (((v2 + (127 : Int32)) <<< ((23 : Int32) &&& 31)) ||| (FP.f2i (FP.fmul (FP.fsub v1 FP.fconst1) (1258291200 : UInt32))))
      ) else (
      if v2 ≤ (-126 : Int32) then (
        chk (nq32 (FP.fsub v1 FP.fconst1)) <|
        chk (nq32 (FP.fmul (FP.fsub v1 FP.fconst1) (1258291200 : UInt32))) <|
        some (((v2 + (127 : Int32)) <<< ((23 : Int32) &&& 31)) ||| (FP.f2i (FP.fmul (FP.fsub v1 FP.fconst1) (1258291200 : UInt32))))
        ) else (
        chk (nq32 (FP.fmul v1 FP.fconst2)) <|
        bnd (FP.fmul v1 FP.fconst2) fun x10 =>
        bnd (v2 + (-1 : Int32)) fun x12 =>
        f_X9_floatBits_26 M n x10 x12
        )
      )
def f_X9_floatBits_4 (M : Mem) : Nat → UInt32 → Int32 → Option Int32
  | 0, _, _ => none
  | n + 1, v1, v2 =>
    if (Op.cmpValue (FP.fcmp v1 FP.fconst2) .l) < 0 then (
      f_X9_floatBits_26 M n v1 v2
      ) else (
      if (127 : Int32) ≤ v2 then (
        f_X9_floatBits_26 M n v1 v2
        ) else (
        chk (nq32 (FP.fdiv v1 FP.fconst2)) <|
        bnd (FP.fdiv v1 FP.fconst2) fun x6 =>
        bnd (v2 + (1 : Int32)) fun x8 =>
        f_X9_floatBits_4 M n x6 x8
        )
      )
def f_X9_floatBits (n : Nat) (a1 : UInt32) (M : Mem) : Option Int32 :=
  f_X9_floatBits_4 M n a1 (0 : Int32)
theorem cd_X9_floatBits : (yX9_floatBits.cls ≠ "java/lang/invoke/MethodHandle" ∧ yX9_floatBits.cls ≠ "java/lang/invoke/VarHandle") ∧ (parseMethodDescriptor yX9_floatBits.desc).map (fun d => d.parameters.length) = some 1 := ⟨⟨by decide +kernel, by decide +kernel⟩, by decide +kernel⟩
section
variable {p : Program} {l : Launch} {e : Env} {R : Room} {s : State} {m : MethodId} {args : Array Value} {below : List Frame} {meth : Method} {c : Code} {G : Gam} {M0 : Mem}
theorem l_X9_floatBits_26 {M : Mem} {rv : Int32} (X : Cx p R s m args c G M0 cX9_floatBits yX9_floatBits.cls 3 0 0) (hr : meth.sig.returnType = (some .int)) (hlk : meth.locks = false) (hnm : meth.name = "floatBits") : ∀ {n : Nat} (v1 : UInt32) (v2 : Int32), f_X9_floatBits_26 M n v1 v2 = some rv → Sg p l e R s m args below meth c (Qm below G args s (some (.int rv)) M0 M) G M0 3 26 [(1, .float v1), (2, .int v2)] [] M := by
  intro n
  induction n with
  | zero => intro v1 v2 hf; exact (pk_none hf).elim
  | succ n ih =>
    intro v1 v2 hf
    rw [f_X9_floatBits_26] at hf
    refine s_fload_n X 0 dX9_floatBits_26 rfl rfl ?_
    refine s_fconst1 X dX9_floatBits_27 ?_
    refine s_fcmp X dX9_floatBits_28 ?_
    have hs1 := pk_ite hf
    clear hf
    refine s_if_ge X (tgt := 48) dX9_floatBits_29 rfl (fun c2 => ?_) (fun c2 => ?_)
    · have hf := hs1.1 c2
      refine s_iload_n X 1 dX9_floatBits_48 rfl rfl ?_
      refine s_bipush X (v := (127 : Int32)) dX9_floatBits_49 rfl ?_
      refine s_iadd X dX9_floatBits_51 ?_
      refine s_bipush X (v := (23 : Int32)) dX9_floatBits_52 rfl ?_
      refine s_ishl X dX9_floatBits_54 ?_
      refine s_fload_n X 0 dX9_floatBits_55 rfl rfl ?_
      refine s_fconst1 X dX9_floatBits_56 ?_
      obtain ⟨h3, hf⟩ := pk_chk hf
      refine s_fsub X dX9_floatBits_57 h3 ?_
      refine s_ldcwF X (v := (1258291200 : UInt32)) dX9_floatBits_58 wd1401 ?_
      obtain ⟨h4, hf⟩ := pk_chk hf
      refine s_fmul X dX9_floatBits_61 h4 ?_
      refine s_f2i X dX9_floatBits_62 ?_
      refine s_ior X dX9_floatBits_63 ?_
      cases hf
      exact s_iret X hr hlk dX9_floatBits_64
    · have hf := hs1.2 c2
      refine s_iload_n X 1 dX9_floatBits_32 rfl rfl ?_
      refine s_bipush X (v := (-126 : Int32)) dX9_floatBits_33 rfl ?_
      have hs5 := pk_ite hf
      clear hf
      refine s_icmp_le X (tgt := 48) dX9_floatBits_35 rfl (fun c6 => ?_) (fun c6 => ?_)
      · have hf := hs5.1 c6
        refine s_iload_n X 1 dX9_floatBits_48 rfl rfl ?_
        refine s_bipush X (v := (127 : Int32)) dX9_floatBits_49 rfl ?_
        refine s_iadd X dX9_floatBits_51 ?_
        refine s_bipush X (v := (23 : Int32)) dX9_floatBits_52 rfl ?_
        refine s_ishl X dX9_floatBits_54 ?_
        refine s_fload_n X 0 dX9_floatBits_55 rfl rfl ?_
        refine s_fconst1 X dX9_floatBits_56 ?_
        obtain ⟨h7, hf⟩ := pk_chk hf
        refine s_fsub X dX9_floatBits_57 h7 ?_
        refine s_ldcwF X (v := (1258291200 : UInt32)) dX9_floatBits_58 wd1401 ?_
        obtain ⟨h8, hf⟩ := pk_chk hf
        refine s_fmul X dX9_floatBits_61 h8 ?_
        refine s_f2i X dX9_floatBits_62 ?_
        refine s_ior X dX9_floatBits_63 ?_
        cases hf
        exact s_iret X hr hlk dX9_floatBits_64
      · have hf := hs5.2 c6
        refine s_fload_n X 0 dX9_floatBits_38 rfl rfl ?_
        refine s_fconst2 X dX9_floatBits_39 ?_
        obtain ⟨h9, hf⟩ := pk_chk hf
        refine s_fmul X dX9_floatBits_40 h9 ?_
        obtain ⟨x10, e11, hf⟩ := pk_bnd hf
        refine s_nmF e11 ?_
        refine s_fstore_n X (vs' := [(1, .float x10), (2, .int v2)]) dX9_floatBits_41 rfl (Nat.le_of_ble_eq_true rfl) [0, 1] rfl ?_
        obtain ⟨x12, e13, hf⟩ := pk_bnd hf
        refine s_iinc X (vs' := [(1, .float x10), (2, .int x12)]) 1 dX9_floatBits_42 rfl (v := x12) e13.symm (Nat.le_of_ble_eq_true rfl) [1, 0] rfl ?_
        refine s_goto X (tgt := 26) dX9_floatBits_45 rfl ?_
        exact ih _ _ hf
theorem l_X9_floatBits_4 {M : Mem} {rv : Int32} (X : Cx p R s m args c G M0 cX9_floatBits yX9_floatBits.cls 3 0 0) (hr : meth.sig.returnType = (some .int)) (hlk : meth.locks = false) (hnm : meth.name = "floatBits") : ∀ {n : Nat} (v1 : UInt32) (v2 : Int32), f_X9_floatBits_4 M n v1 v2 = some rv → Sg p l e R s m args below meth c (Qm below G args s (some (.int rv)) M0 M) G M0 3 4 [(1, .float v1), (2, .int v2)] [] M := by
  intro n
  induction n with
  | zero => intro v1 v2 hf; exact (pk_none hf).elim
  | succ n ih =>
    intro v1 v2 hf
    rw [f_X9_floatBits_4] at hf
    refine s_fload_n X 0 dX9_floatBits_4 rfl rfl ?_
    refine s_fconst2 X dX9_floatBits_5 ?_
    refine s_fcmp X dX9_floatBits_6 ?_
    have hs1 := pk_ite hf
    clear hf
    refine s_if_lt X (tgt := 26) dX9_floatBits_7 rfl (fun c2 => ?_) (fun c2 => ?_)
    · have hf := hs1.1 c2
      exact l_X9_floatBits_26 X hr hlk hnm _ _ hf
    · have hf := hs1.2 c2
      refine s_iload_n X 1 dX9_floatBits_10 rfl rfl ?_
      refine s_bipush X (v := (127 : Int32)) dX9_floatBits_11 rfl ?_
      have hs3 := pk_ite hf
      clear hf
      refine s_icmp_ge X (tgt := 26) dX9_floatBits_13 rfl (fun c4 => ?_) (fun c4 => ?_)
      · have hf := hs3.1 c4
        exact l_X9_floatBits_26 X hr hlk hnm _ _ hf
      · have hf := hs3.2 c4
        refine s_fload_n X 0 dX9_floatBits_16 rfl rfl ?_
        refine s_fconst2 X dX9_floatBits_17 ?_
        obtain ⟨h5, hf⟩ := pk_chk hf
        refine s_fdiv X dX9_floatBits_18 h5 ?_
        obtain ⟨x6, e7, hf⟩ := pk_bnd hf
        refine s_nmF e7 ?_
        refine s_fstore_n X (vs' := [(1, .float x6), (2, .int v2)]) dX9_floatBits_19 rfl (Nat.le_of_ble_eq_true rfl) [0, 1] rfl ?_
        obtain ⟨x8, e9, hf⟩ := pk_bnd hf
        refine s_iinc X (vs' := [(1, .float x6), (2, .int x8)]) 1 dX9_floatBits_20 rfl (v := x8) e9.symm (Nat.le_of_ble_eq_true rfl) [1, 0] rfl ?_
        refine s_goto X (tgt := 4) dX9_floatBits_23 rfl ?_
        exact ih _ _ hf
end
theorem k_X9_floatBits (G : Gam) {n : Nat} {a1 : UInt32} {M : Mem} {rv : Int32} (hf : f_X9_floatBits n a1 M = some rv) : Kt yX9_floatBits cX9_floatBits 3 (some .int) 0 0 G [.float a1] M M (some (.int rv)) := by
  refine Kt.of (by decide) (Nat.le_of_ble_eq_true rfl) ?_
  intro p l e R s m args below meth c X hr hlk hnm
  refine s_drop [0] (vs' := [(0, .float a1)]) rfl ?_
  rw [f_X9_floatBits] at hf
  refine s_fload_n X 0 dX9_floatBits_0 rfl rfl ?_
  refine s_fstore_n X (vs' := [(0, .float a1), (1, .float a1)]) dX9_floatBits_1 rfl (Nat.le_of_ble_eq_true rfl) [1, 0] rfl ?_
  refine s_iconst X (v := (0 : Int32)) dX9_floatBits_2 rfl ?_
  refine s_istore_n X (vs' := [(0, .float a1), (1, .float a1), (2, .int (0 : Int32))]) dX9_floatBits_3 rfl (Nat.le_of_ble_eq_true rfl) [1, 2, 0] rfl ?_
  refine s_drop [1, 2] (vs' := [(1, .float a1), (2, .int (0 : Int32))]) rfl ?_
  exact l_X9_floatBits_4 X hr hlk hnm _ _ hf
def f_X9_doubleBits_59 (M : Mem) (n : Nat) (v2 : UInt64) (v4 : Int32) : Option Int64 :=
    chk (nq64 (FP.dsub v2 FP.dconst1)) <|
    chk (nq64 (FP.dmul (FP.dsub v2 FP.dconst1) (4841369599423283200 : UInt64))) <|
    some (((((v4 + (1023 : Int32))).toInt64) <<< (((52 : Int32)).toInt64 &&& 63)) ||| (FP.d2l (FP.dmul (FP.dsub v2 FP.dconst1) (4841369599423283200 : UInt64))))
def f_X9_doubleBits_33 (M : Mem) : Nat → UInt64 → Int32 → Option Int64
  | 0, _, _ => none
  | n + 1, v2, v4 =>
    if 0 ≤ (Op.cmpValue (FP.dcmp v2 FP.dconst1) .g) then (
      f_X9_doubleBits_59 M n v2 v4
      ) else (
      if v4 ≤ (-1022 : Int32) then (
        f_X9_doubleBits_59 M n v2 v4
        ) else (
        chk (nq64 (FP.dmul v2 (4611686018427387904 : UInt64))) <|
        bnd (FP.dmul v2 (4611686018427387904 : UInt64)) fun x6 =>
        bnd (v4 + (-1 : Int32)) fun x8 =>
        f_X9_doubleBits_33 M n x6 x8
        )
      )
def f_X9_doubleBits_5 (M : Mem) : Nat → UInt64 → Int32 → Option Int64
  | 0, _, _ => none
  | n + 1, v2, v4 =>
    if (Op.cmpValue (FP.dcmp v2 (4611686018427387904 : UInt64)) .l) < 0 then (
      f_X9_doubleBits_33 M n v2 v4
      ) else (
      if (1023 : Int32) ≤ v4 then (
        f_X9_doubleBits_33 M n v2 v4
        ) else (
        chk (nq64 (FP.ddiv v2 (4611686018427387904 : UInt64))) <|
        bnd (FP.ddiv v2 (4611686018427387904 : UInt64)) fun x6 =>
        bnd (v4 + (1 : Int32)) fun x8 =>
        f_X9_doubleBits_5 M n x6 x8
        )
      )
def f_X9_doubleBits (n : Nat) (a1 : UInt64) (M : Mem) : Option Int64 :=
  f_X9_doubleBits_5 M n a1 (0 : Int32)
theorem cd_X9_doubleBits : (yX9_doubleBits.cls ≠ "java/lang/invoke/MethodHandle" ∧ yX9_doubleBits.cls ≠ "java/lang/invoke/VarHandle") ∧ (parseMethodDescriptor yX9_doubleBits.desc).map (fun d => d.parameters.length) = some 1 := ⟨⟨by decide +kernel, by decide +kernel⟩, by decide +kernel⟩
section
variable {p : Program} {l : Launch} {e : Env} {R : Room} {s : State} {m : MethodId} {args : Array Value} {below : List Frame} {meth : Method} {c : Code} {G : Gam} {M0 : Mem}
theorem l_X9_doubleBits_59 {M : Mem} {rv : Int64} {n : Nat} {v2 : UInt64} {v4 : Int32} (X : Cx p R s m args c G M0 cX9_doubleBits yX9_doubleBits.cls 5 0 0) (hr : meth.sig.returnType = (some .long)) (hlk : meth.locks = false) (hnm : meth.name = "doubleBits") (hf : f_X9_doubleBits_59 M n v2 v4 = some rv) : Sg p l e R s m args below meth c (Qm below G args s (some (.long rv)) M0 M) G M0 5 59 [(2, .double v2), (4, .int v4)] [] M := by
  rw [f_X9_doubleBits_59] at hf
  refine s_iload X 1 dX9_doubleBits_59 rfl ?_
  refine s_sipush X (v := (1023 : Int32)) dX9_doubleBits_61 rfl ?_
  refine s_iadd X dX9_doubleBits_64 ?_
  refine s_i2l X dX9_doubleBits_65 ?_
  refine s_bipush X (v := (52 : Int32)) dX9_doubleBits_66 rfl ?_
  refine s_lshl X dX9_doubleBits_68 rfl ?_
  refine s_dload_n X 0 dX9_doubleBits_69 rfl rfl ?_
  refine s_dconst1 X dX9_doubleBits_70 ?_
  obtain ⟨h1, hf⟩ := pk_chk hf
  refine s_dsub X dX9_doubleBits_71 h1 ?_
  refine s_ldc2D X (v := (4841369599423283200 : UInt64)) dX9_doubleBits_72 wd1413 ?_
  obtain ⟨h2, hf⟩ := pk_chk hf
  refine s_dmul X dX9_doubleBits_75 h2 ?_
  refine s_d2l X dX9_doubleBits_76 ?_
  refine s_lor X dX9_doubleBits_77 ?_
  cases hf
  exact s_lret X hr hlk dX9_doubleBits_78
theorem l_X9_doubleBits_33 {M : Mem} {rv : Int64} (X : Cx p R s m args c G M0 cX9_doubleBits yX9_doubleBits.cls 5 0 0) (hr : meth.sig.returnType = (some .long)) (hlk : meth.locks = false) (hnm : meth.name = "doubleBits") : ∀ {n : Nat} (v2 : UInt64) (v4 : Int32), f_X9_doubleBits_33 M n v2 v4 = some rv → Sg p l e R s m args below meth c (Qm below G args s (some (.long rv)) M0 M) G M0 5 33 [(2, .double v2), (4, .int v4)] [] M := by
  intro n
  induction n with
  | zero => intro v2 v4 hf; exact (pk_none hf).elim
  | succ n ih =>
    intro v2 v4 hf
    rw [f_X9_doubleBits_33] at hf
    refine s_dload_n X 0 dX9_doubleBits_33 rfl rfl ?_
    refine s_dconst1 X dX9_doubleBits_34 ?_
    refine s_dcmp X dX9_doubleBits_35 ?_
    have hs1 := pk_ite hf
    clear hf
    refine s_if_ge X (tgt := 59) dX9_doubleBits_36 rfl (fun c2 => ?_) (fun c2 => ?_)
    · have hf := hs1.1 c2
      exact l_X9_doubleBits_59 X hr hlk hnm hf
    · have hf := hs1.2 c2
      refine s_iload X 1 dX9_doubleBits_39 rfl ?_
      refine s_sipush X (v := (-1022 : Int32)) dX9_doubleBits_41 rfl ?_
      have hs3 := pk_ite hf
      clear hf
      refine s_icmp_le X (tgt := 59) dX9_doubleBits_44 rfl (fun c4 => ?_) (fun c4 => ?_)
      · have hf := hs3.1 c4
        exact l_X9_doubleBits_59 X hr hlk hnm hf
      · have hf := hs3.2 c4
        refine s_dload_n X 0 dX9_doubleBits_47 rfl rfl ?_
        refine s_ldc2D X (v := (4611686018427387904 : UInt64)) dX9_doubleBits_48 wd1412 ?_
        obtain ⟨h5, hf⟩ := pk_chk hf
        refine s_dmul X dX9_doubleBits_51 h5 ?_
        obtain ⟨x6, e7, hf⟩ := pk_bnd hf
        refine s_nmD e7 ?_
        refine s_dstore_n X (vs' := [(2, .double x6), (4, .int v4)]) dX9_doubleBits_52 rfl (Nat.le_of_ble_eq_true rfl) [0, 1] rfl ?_
        obtain ⟨x8, e9, hf⟩ := pk_bnd hf
        refine s_iinc X (vs' := [(2, .double x6), (4, .int x8)]) 1 dX9_doubleBits_53 rfl (v := x8) e9.symm (Nat.le_of_ble_eq_true rfl) [1, 0] rfl ?_
        refine s_goto X (tgt := 33) dX9_doubleBits_56 rfl ?_
        exact ih _ _ hf
theorem l_X9_doubleBits_5 {M : Mem} {rv : Int64} (X : Cx p R s m args c G M0 cX9_doubleBits yX9_doubleBits.cls 5 0 0) (hr : meth.sig.returnType = (some .long)) (hlk : meth.locks = false) (hnm : meth.name = "doubleBits") : ∀ {n : Nat} (v2 : UInt64) (v4 : Int32), f_X9_doubleBits_5 M n v2 v4 = some rv → Sg p l e R s m args below meth c (Qm below G args s (some (.long rv)) M0 M) G M0 5 5 [(2, .double v2), (4, .int v4)] [] M := by
  intro n
  induction n with
  | zero => intro v2 v4 hf; exact (pk_none hf).elim
  | succ n ih =>
    intro v2 v4 hf
    rw [f_X9_doubleBits_5] at hf
    refine s_dload_n X 0 dX9_doubleBits_5 rfl rfl ?_
    refine s_ldc2D X (v := (4611686018427387904 : UInt64)) dX9_doubleBits_6 wd1412 ?_
    refine s_dcmp X dX9_doubleBits_9 ?_
    have hs1 := pk_ite hf
    clear hf
    refine s_if_lt X (tgt := 33) dX9_doubleBits_10 rfl (fun c2 => ?_) (fun c2 => ?_)
    · have hf := hs1.1 c2
      exact l_X9_doubleBits_33 X hr hlk hnm _ _ hf
    · have hf := hs1.2 c2
      refine s_iload X 1 dX9_doubleBits_13 rfl ?_
      refine s_sipush X (v := (1023 : Int32)) dX9_doubleBits_15 rfl ?_
      have hs3 := pk_ite hf
      clear hf
      refine s_icmp_ge X (tgt := 33) dX9_doubleBits_18 rfl (fun c4 => ?_) (fun c4 => ?_)
      · have hf := hs3.1 c4
        exact l_X9_doubleBits_33 X hr hlk hnm _ _ hf
      · have hf := hs3.2 c4
        refine s_dload_n X 0 dX9_doubleBits_21 rfl rfl ?_
        refine s_ldc2D X (v := (4611686018427387904 : UInt64)) dX9_doubleBits_22 wd1412 ?_
        obtain ⟨h5, hf⟩ := pk_chk hf
        refine s_ddiv X dX9_doubleBits_25 h5 ?_
        obtain ⟨x6, e7, hf⟩ := pk_bnd hf
        refine s_nmD e7 ?_
        refine s_dstore_n X (vs' := [(2, .double x6), (4, .int v4)]) dX9_doubleBits_26 rfl (Nat.le_of_ble_eq_true rfl) [0, 1] rfl ?_
        obtain ⟨x8, e9, hf⟩ := pk_bnd hf
        refine s_iinc X (vs' := [(2, .double x6), (4, .int x8)]) 1 dX9_doubleBits_27 rfl (v := x8) e9.symm (Nat.le_of_ble_eq_true rfl) [1, 0] rfl ?_
        refine s_goto X (tgt := 5) dX9_doubleBits_30 rfl ?_
        exact ih _ _ hf
end
theorem k_X9_doubleBits (G : Gam) {n : Nat} {a1 : UInt64} {M : Mem} {rv : Int64} (hf : f_X9_doubleBits n a1 M = some rv) : Kt yX9_doubleBits cX9_doubleBits 5 (some .long) 0 0 G [.double a1] M M (some (.long rv)) := by
  refine Kt.of (by decide) (Nat.le_of_ble_eq_true rfl) ?_
  intro p l e R s m args below meth c X hr hlk hnm
  refine s_drop [0] (vs' := [(0, .double a1)]) rfl ?_
  rw [f_X9_doubleBits] at hf
  refine s_dload_n X 0 dX9_doubleBits_0 rfl rfl ?_
  refine s_dstore_n X (vs' := [(0, .double a1), (2, .double a1)]) dX9_doubleBits_1 rfl (Nat.le_of_ble_eq_true rfl) [1, 0] rfl ?_
  refine s_iconst X (v := (0 : Int32)) dX9_doubleBits_2 rfl ?_
  refine s_istore X (vs' := [(0, .double a1), (2, .double a1), (4, .int (0 : Int32))]) dX9_doubleBits_3 (Nat.le_of_ble_eq_true rfl) [1, 2, 0] rfl ?_
  refine s_drop [1, 2] (vs' := [(2, .double a1), (4, .int (0 : Int32))]) rfl ?_
  exact l_X9_doubleBits_5 X hr hlk hnm _ _ hf
def f2_X9_mean (n : Nat) (o : Nat) (M : Mem) : Option Int32 :=
  chk (isO M 9 o) <|
  bnd (mR M o 2) fun o2 =>
  chk (isO M 2 o2) <|
  if (1 : Int32) ≤ (mI M o2 11) then (
    bnd (mR M o 2) fun o7 =>
    chk (isO M 2 o7) <|
    bnd (mR M o7 1) fun o10 =>
    chk (isO M 5 o10) <|
    obd (f_X5_sentInAll n o10 M) fun r14 =>
    bnd (mR M o 2) fun o15 =>
    chk (isO M 2 o15) <|
    chk (nq32 (FP.fdiv (FP.i2f r14) (FP.i2f (mI M o15 11)))) <|
    obd (f_X9_floatBits n (FP.fdiv (FP.i2f r14) (FP.i2f (mI M o15 11))) M) fun r20 =>
    some r20
    ) else (
    some (0 : Int32)
    )
theorem cd2_X9_mean : (yX9_mean.cls ≠ "java/lang/invoke/MethodHandle" ∧ yX9_mean.cls ≠ "java/lang/invoke/VarHandle") ∧ (parseMethodDescriptor yX9_mean.desc).map (fun d => d.parameters.length) = some 0 := ⟨⟨by decide +kernel, by decide +kernel⟩, by decide +kernel⟩
theorem k2_X9_mean (G : Gam) {n : Nat} {o : Nat} {M : Mem} {rv : Int32} (hf : f2_X9_mean n o M = some rv) : Kt yX9_mean cX9_mean 1 (some .int) 1 22 G [.ref (gB G + o)] M M (some (.int rv)) := by
  refine Kt.of (by decide) (Nat.le_of_ble_eq_true rfl) ?_
  intro p l e R s m args below meth c X hr hlk hnm
  refine s_drop [0] (vs' := [(0, .ref (gB G + o))]) rfl ?_
  rw [f2_X9_mean] at hf
  refine s_aload_n X 0 dX9_mean_0 rfl rfl ?_
  obtain ⟨h1, hf⟩ := pk_chk hf
  obtain ⟨o2, e3, hf⟩ := pk_bnd hf
  obtain ⟨h4, hf⟩ := pk_chk hf
  refine s_getR X (ci := 9) (k := 2) rfl (Nat.le_of_ble_eq_true rfl) h1 wd629 (fun _ _ _ => rfl) (e3 ▸ h4) dX9_mean_1 (e3 ▸ ?_)
  refine s_getI X (ci := 2) (k := 11) rfl (Nat.le_of_ble_eq_true rfl) h4 wd447 (fun _ _ _ => rfl) dX9_mean_4 ?_
  refine s_iconst X (v := (1 : Int32)) dX9_mean_7 rfl ?_
  have hs5 := pk_ite hf
  clear hf
  refine s_icmp_ge X (tgt := 13) dX9_mean_8 rfl (fun c6 => ?_) (fun c6 => ?_)
  · have hf := hs5.1 c6
    refine s_aload_n X 0 dX9_mean_13 rfl rfl ?_
    obtain ⟨o7, e8, hf⟩ := pk_bnd hf
    obtain ⟨h9, hf⟩ := pk_chk hf
    refine s_getR X (ci := 9) (k := 2) rfl (Nat.le_of_ble_eq_true rfl) h1 wd629 (fun _ _ _ => rfl) (e8 ▸ h9) dX9_mean_14 (e8 ▸ ?_)
    obtain ⟨o10, e11, hf⟩ := pk_bnd hf
    obtain ⟨h12, hf⟩ := pk_chk hf
    refine s_getR X (ci := 2) (k := 1) rfl (Nat.le_of_ble_eq_true rfl) h9 wd422 (fun _ _ _ => rfl) (e11 ▸ h12) dX9_mean_17 (e11 ▸ ?_)
    obtain ⟨r14, hc13, hf⟩ := pk_obd hf
    refine s_callV X (ci := 5) (k_X5_sentInAll G hc13) rfl h12 wd1180 wd1181 wd1182 wd1183 wd131 cd_X5_sentInAll ⟨Nat.le_of_ble_eq_true rfl, Nat.le_of_ble_eq_true rfl⟩ (Nat.le_of_ble_eq_true rfl) dX9_mean_20 ?_
    refine s_i2f X dX9_mean_23 ?_
    refine s_aload_n X 0 dX9_mean_24 rfl rfl ?_
    obtain ⟨o15, e16, hf⟩ := pk_bnd hf
    obtain ⟨h17, hf⟩ := pk_chk hf
    refine s_getR X (ci := 9) (k := 2) rfl (Nat.le_of_ble_eq_true rfl) h1 wd629 (fun _ _ _ => rfl) (e16 ▸ h17) dX9_mean_25 (e16 ▸ ?_)
    refine s_getI X (ci := 2) (k := 11) rfl (Nat.le_of_ble_eq_true rfl) h17 wd447 (fun _ _ _ => rfl) dX9_mean_28 ?_
    refine s_i2f X dX9_mean_31 ?_
    obtain ⟨h18, hf⟩ := pk_chk hf
    refine s_fdiv X dX9_mean_32 h18 ?_
    obtain ⟨r20, hc19, hf⟩ := pk_obd hf
    refine s_callS X (k_X9_floatBits G hc19) wd1398 wd1399 wd1400 wd126 cd_X9_floatBits ⟨Nat.le_of_ble_eq_true rfl, Nat.le_of_ble_eq_true rfl⟩ (Nat.le_of_ble_eq_true rfl) dX9_mean_33 ?_
    cases hf
    exact s_iret X hr hlk dX9_mean_36
  · have hf := hs5.2 c6
    refine s_iconst X (v := (0 : Int32)) dX9_mean_11 rfl ?_
    cases hf
    exact s_iret X hr hlk dX9_mean_12
def f2_X9_byRoot (n : Nat) (o : Nat) (M : Mem) : Option Int64 :=
  chk (isO M 9 o) <|
  bnd (mR M o 2) fun o2 =>
  chk (isO M 2 o2) <|
  if (1 : Int32) ≤ (mI M o2 11) then (
    bnd (mR M o 2) fun o7 =>
    chk (isO M 2 o7) <|
    bnd (mR M o7 1) fun o10 =>
    chk (isO M 5 o10) <|
    obd (f_X5_sentInAll n o10 M) fun r14 =>
    bnd (mR M o 2) fun o15 =>
    chk (isO M 2 o15) <|
    chk (nq64 (FP.ddiv (FP.i2d r14) (FP.i2d (mI M o15 11)))) <|
    bnd (FP.ddiv (FP.i2d r14) (FP.i2d (mI M o15 11))) fun x19 =>
    bnd (mR M o 0) fun o21 =>
    chk (isO M 7 o21) <|
    obd (f_X9_wholeRoot n (mI M o21 3) M) fun r25 =>
    chk (nq64 (FP.ddiv x19 (FP.i2d r25))) <|
    obd (f_X9_doubleBits n (FP.ddiv x19 (FP.i2d r25)) M) fun r28 =>
    some r28
    ) else (
    some (0 : Int64)
    )
theorem cd2_X9_byRoot : (yX9_byRoot.cls ≠ "java/lang/invoke/MethodHandle" ∧ yX9_byRoot.cls ≠ "java/lang/invoke/VarHandle") ∧ (parseMethodDescriptor yX9_byRoot.desc).map (fun d => d.parameters.length) = some 0 := ⟨⟨by decide +kernel, by decide +kernel⟩, by decide +kernel⟩
theorem k2_X9_byRoot (G : Gam) {n : Nat} {o : Nat} {M : Mem} {rv : Int64} (hf : f2_X9_byRoot n o M = some rv) : Kt yX9_byRoot cX9_byRoot 3 (some .long) 1 24 G [.ref (gB G + o)] M M (some (.long rv)) := by
  refine Kt.of (by decide) (Nat.le_of_ble_eq_true rfl) ?_
  intro p l e R s m args below meth c X hr hlk hnm
  refine s_drop [0] (vs' := [(0, .ref (gB G + o))]) rfl ?_
  rw [f2_X9_byRoot] at hf
  refine s_aload_n X 0 dX9_byRoot_0 rfl rfl ?_
  obtain ⟨h1, hf⟩ := pk_chk hf
  obtain ⟨o2, e3, hf⟩ := pk_bnd hf
  obtain ⟨h4, hf⟩ := pk_chk hf
  refine s_getR X (ci := 9) (k := 2) rfl (Nat.le_of_ble_eq_true rfl) h1 wd629 (fun _ _ _ => rfl) (e3 ▸ h4) dX9_byRoot_1 (e3 ▸ ?_)
  refine s_getI X (ci := 2) (k := 11) rfl (Nat.le_of_ble_eq_true rfl) h4 wd447 (fun _ _ _ => rfl) dX9_byRoot_4 ?_
  refine s_iconst X (v := (1 : Int32)) dX9_byRoot_7 rfl ?_
  have hs5 := pk_ite hf
  clear hf
  refine s_icmp_ge X (tgt := 13) dX9_byRoot_8 rfl (fun c6 => ?_) (fun c6 => ?_)
  · have hf := hs5.1 c6
    refine s_aload_n X 0 dX9_byRoot_13 rfl rfl ?_
    obtain ⟨o7, e8, hf⟩ := pk_bnd hf
    obtain ⟨h9, hf⟩ := pk_chk hf
    refine s_getR X (ci := 9) (k := 2) rfl (Nat.le_of_ble_eq_true rfl) h1 wd629 (fun _ _ _ => rfl) (e8 ▸ h9) dX9_byRoot_14 (e8 ▸ ?_)
    obtain ⟨o10, e11, hf⟩ := pk_bnd hf
    obtain ⟨h12, hf⟩ := pk_chk hf
    refine s_getR X (ci := 2) (k := 1) rfl (Nat.le_of_ble_eq_true rfl) h9 wd422 (fun _ _ _ => rfl) (e11 ▸ h12) dX9_byRoot_17 (e11 ▸ ?_)
    obtain ⟨r14, hc13, hf⟩ := pk_obd hf
    refine s_callV X (ci := 5) (k_X5_sentInAll G hc13) rfl h12 wd1180 wd1181 wd1182 wd1183 wd131 cd_X5_sentInAll ⟨Nat.le_of_ble_eq_true rfl, Nat.le_of_ble_eq_true rfl⟩ (Nat.le_of_ble_eq_true rfl) dX9_byRoot_20 ?_
    refine s_i2d X dX9_byRoot_23 ?_
    refine s_aload_n X 0 dX9_byRoot_24 rfl rfl ?_
    obtain ⟨o15, e16, hf⟩ := pk_bnd hf
    obtain ⟨h17, hf⟩ := pk_chk hf
    refine s_getR X (ci := 9) (k := 2) rfl (Nat.le_of_ble_eq_true rfl) h1 wd629 (fun _ _ _ => rfl) (e16 ▸ h17) dX9_byRoot_25 (e16 ▸ ?_)
    refine s_getI X (ci := 2) (k := 11) rfl (Nat.le_of_ble_eq_true rfl) h17 wd447 (fun _ _ _ => rfl) dX9_byRoot_28 ?_
    refine s_i2d X dX9_byRoot_31 ?_
    obtain ⟨h18, hf⟩ := pk_chk hf
    refine s_ddiv X dX9_byRoot_32 h18 ?_
    obtain ⟨x19, e20, hf⟩ := pk_bnd hf
    refine s_nmD e20 ?_
    refine s_dstore_n X (vs' := [(0, .ref (gB G + o)), (1, .double x19)]) dX9_byRoot_33 rfl (Nat.le_of_ble_eq_true rfl) [1, 0] rfl ?_
    refine s_dload_n X 1 dX9_byRoot_34 rfl rfl ?_
    refine s_aload_n X 0 dX9_byRoot_35 rfl rfl ?_
    obtain ⟨o21, e22, hf⟩ := pk_bnd hf
    obtain ⟨h23, hf⟩ := pk_chk hf
    refine s_getR X (ci := 9) (k := 0) rfl (Nat.le_of_ble_eq_true rfl) h1 wd627 (fun _ _ _ => rfl) (e22 ▸ h23) dX9_byRoot_36 (e22 ▸ ?_)
    refine s_getI X (ci := 7) (k := 3) rfl (Nat.le_of_ble_eq_true rfl) h23 wd170 (fun _ _ _ => rfl) dX9_byRoot_39 ?_
    obtain ⟨r25, hc24, hf⟩ := pk_obd hf
    refine s_callS X (k_X9_wholeRoot G hc24) wd1406 wd1407 wd1408 wd126 cd_X9_wholeRoot ⟨Nat.le_of_ble_eq_true rfl, Nat.le_of_ble_eq_true rfl⟩ (Nat.le_of_ble_eq_true rfl) dX9_byRoot_42 ?_
    refine s_i2d X dX9_byRoot_45 ?_
    obtain ⟨h26, hf⟩ := pk_chk hf
    refine s_ddiv X dX9_byRoot_46 h26 ?_
    obtain ⟨r28, hc27, hf⟩ := pk_obd hf
    refine s_callS X (k_X9_doubleBits G hc27) wd1409 wd1410 wd1411 wd126 cd_X9_doubleBits ⟨Nat.le_of_ble_eq_true rfl, Nat.le_of_ble_eq_true rfl⟩ (Nat.le_of_ble_eq_true rfl) dX9_byRoot_47 ?_
    cases hf
    exact s_lret X hr hlk dX9_byRoot_50
  · have hf := hs5.2 c6
    refine s_lconst X (v := (0 : Int64)) dX9_byRoot_11 rfl ?_
    cases hf
    exact s_lret X hr hlk dX9_byRoot_12
def f2_X10_mean (n : Nat) (o : Nat) (M : Mem) : Option Int32 :=
  chk (isO M 10 o) <|
  bnd (mR M o 0) fun o2 =>
  chk (isO M 100 o2) <|
  chk (inB (9851 : Int32) (mLn M o2)) <|
  if (mI M o2 ((9851 : Int32)).toNatClampNeg) = 0 then (
    some (0 : Int32)
    ) else (
    obd (f_X10_sentAll n o M) fun r9 =>
    bnd (mR M o 0) fun o10 =>
    chk (isO M 100 o10) <|
    chk (inB (9851 : Int32) (mLn M o10)) <|
    chk (nq32 (FP.fdiv (FP.i2f r9) (FP.i2f (mI M o10 ((9851 : Int32)).toNatClampNeg)))) <|
    obd (f_Jxf58ca_floatToIntBits_5c35a (FP.fdiv (FP.i2f r9) (FP.i2f (mI M o10 ((9851 : Int32)).toNatClampNeg))) M) fun r16 =>
    some r16
    )
theorem cd2_X10_mean : (yX10_mean.cls ≠ "java/lang/invoke/MethodHandle" ∧ yX10_mean.cls ≠ "java/lang/invoke/VarHandle") ∧ (parseMethodDescriptor yX10_mean.desc).map (fun d => d.parameters.length) = some 0 := ⟨⟨by decide +kernel, by decide +kernel⟩, by decide +kernel⟩
theorem k2_X10_mean (G : Gam) {n : Nat} {o : Nat} {M : Mem} {rv : Int32} (hf : f2_X10_mean n o M = some rv) : Kt yX10_mean cX10_mean 1 (some .int) 2 44 G [.ref (gB G + o)] M M (some (.int rv)) := by
  refine Kt.of (by decide) (Nat.le_of_ble_eq_true rfl) ?_
  intro p l e R s m args below meth c X hr hlk hnm
  refine s_drop [0] (vs' := [(0, .ref (gB G + o))]) rfl ?_
  rw [f2_X10_mean] at hf
  refine s_aload_n X 0 dX10_mean_0 rfl rfl ?_
  obtain ⟨h1, hf⟩ := pk_chk hf
  obtain ⟨o2, e3, hf⟩ := pk_bnd hf
  obtain ⟨h4, hf⟩ := pk_chk hf
  refine s_getR X (ci := 10) (k := 0) rfl (Nat.le_of_ble_eq_true rfl) h1 wd1440 (fun _ _ _ => rfl) (e3 ▸ h4) dX10_mean_1 (e3 ▸ ?_)
  refine s_sipush X (v := (9851 : Int32)) dX10_mean_4 rfl ?_
  obtain ⟨h5, hf⟩ := pk_chk hf
  refine s_iald X h4 h5 dX10_mean_7 ?_
  have hs6 := pk_ite hf
  clear hf
  refine s_if_ne X (tgt := 15) dX10_mean_8 rfl (fun c7 => ?_) (fun c7 => ?_)
  · have hf := hs6.2 c7
    refine s_aload_n X 0 dX10_mean_15 rfl rfl ?_
    obtain ⟨r9, hc8, hf⟩ := pk_obd hf
    refine s_callV X (ci := 10) (k_X10_sentAll G hc8) rfl h1 wd1922 wd1924 wd106 wd1925 wd138 cd_X10_sentAll ⟨Nat.le_of_ble_eq_true rfl, Nat.le_of_ble_eq_true rfl⟩ (Nat.le_of_ble_eq_true rfl) dX10_mean_16 ?_
    refine s_i2f X dX10_mean_19 ?_
    refine s_aload_n X 0 dX10_mean_20 rfl rfl ?_
    obtain ⟨o10, e11, hf⟩ := pk_bnd hf
    obtain ⟨h12, hf⟩ := pk_chk hf
    refine s_getR X (ci := 10) (k := 0) rfl (Nat.le_of_ble_eq_true rfl) h1 wd1440 (fun _ _ _ => rfl) (e11 ▸ h12) dX10_mean_21 (e11 ▸ ?_)
    refine s_sipush X (v := (9851 : Int32)) dX10_mean_24 rfl ?_
    obtain ⟨h13, hf⟩ := pk_chk hf
    refine s_iald X h12 h13 dX10_mean_27 ?_
    refine s_i2f X dX10_mean_28 ?_
    obtain ⟨h14, hf⟩ := pk_chk hf
    refine s_fdiv X dX10_mean_29 h14 ?_
    obtain ⟨r16, hc15, hf⟩ := pk_obd hf
    refine s_callS X (k_Jxf58ca_floatToIntBits_5c35a G hc15) wd2047 wd2048 wd2049 wd143 cd_Jxf58ca_floatToIntBits_5c35a ⟨Nat.le_of_ble_eq_true rfl, Nat.le_of_ble_eq_true rfl⟩ (Nat.le_of_ble_eq_true rfl) dX10_mean_30 ?_
    cases hf
    exact s_iret X hr hlk dX10_mean_33
  · have hf := hs6.1 c7
    refine s_iconst X (v := (0 : Int32)) dX10_mean_11 rfl ?_
    refine s_goto X (tgt := 33) dX10_mean_12 rfl ?_
    cases hf
    exact s_iret X hr hlk dX10_mean_33
def f2_X10_byRoot_15 (M : Mem) : Nat → Nat → Int32 → Option Int64
  | 0, _, _ => none
  | n + 1, v0, v1 =>
    chk (isO M 10 v0) <|
    bnd (mR M v0 0) fun o2 =>
    chk (isO M 100 o2) <|
    chk (inB (0 : Int32) (mLn M o2)) <|
    if (mI M o2 ((0 : Int32)).toNatClampNeg) < ((v1 + (1 : Int32)) * (v1 + (1 : Int32))) then (
      obd (f_X10_sentAll n v0 M) fun r9 =>
      bnd (mR M v0 0) fun o10 =>
      chk (isO M 100 o10) <|
      chk (inB (9851 : Int32) (mLn M o10)) <|
      chk (nq64 (FP.ddiv (FP.i2d r9) (FP.i2d (mI M o10 ((9851 : Int32)).toNatClampNeg)))) <|
      chk (nq64 (FP.ddiv (FP.ddiv (FP.i2d r9) (FP.i2d (mI M o10 ((9851 : Int32)).toNatClampNeg))) (FP.i2d v1))) <|
      obd (f_Jxe99ae_doubleToLongBits_ccdee (FP.ddiv (FP.ddiv (FP.i2d r9) (FP.i2d (mI M o10 ((9851 : Int32)).toNatClampNeg))) (FP.i2d v1)) M) fun r17 =>
      some r17
      ) else (
      bnd (v1 + (1 : Int32)) fun x18 =>
      f2_X10_byRoot_15 M n v0 x18
      )
def f2_X10_byRoot (n : Nat) (o : Nat) (M : Mem) : Option Int64 :=
  chk (isO M 10 o) <|
  bnd (mR M o 0) fun o2 =>
  chk (isO M 100 o2) <|
  chk (inB (9851 : Int32) (mLn M o2)) <|
  if (mI M o2 ((9851 : Int32)).toNatClampNeg) = 0 then (
    some (0 : Int64)
    ) else (
    f2_X10_byRoot_15 M n o (1 : Int32)
    )
theorem cd2_X10_byRoot : (yX10_byRoot.cls ≠ "java/lang/invoke/MethodHandle" ∧ yX10_byRoot.cls ≠ "java/lang/invoke/VarHandle") ∧ (parseMethodDescriptor yX10_byRoot.desc).map (fun d => d.parameters.length) = some 0 := ⟨⟨by decide +kernel, by decide +kernel⟩, by decide +kernel⟩
section
variable {p : Program} {l : Launch} {e : Env} {R : Room} {s : State} {m : MethodId} {args : Array Value} {below : List Frame} {meth : Method} {c : Code} {G : Gam} {M0 : Mem}
theorem l2_X10_byRoot_15 {M : Mem} {rv : Int64} (X : Cx p R s m args c G M0 cX10_byRoot yX10_byRoot.cls 2 2 45) (hr : meth.sig.returnType = (some .long)) (hlk : meth.locks = false) (hnm : meth.name = "byRoot") : ∀ {n : Nat} (v0 : Nat) (v1 : Int32), f2_X10_byRoot_15 M n v0 v1 = some rv → Sg p l e R s m args below meth c (Qm below G args s (some (.long rv)) M0 M) G M0 2 15 [(0, .ref (gB G + v0)), (1, .int v1)] [] M := by
  intro n
  induction n with
  | zero => intro v0 v1 hf; exact (pk_none hf).elim
  | succ n ih =>
    intro v0 v1 hf
    rw [f2_X10_byRoot_15] at hf
    refine s_iload_n X 1 dX10_byRoot_15 rfl rfl ?_
    refine s_iconst X (v := (1 : Int32)) dX10_byRoot_16 rfl ?_
    refine s_iadd X dX10_byRoot_17 ?_
    refine s_iload_n X 1 dX10_byRoot_18 rfl rfl ?_
    refine s_iconst X (v := (1 : Int32)) dX10_byRoot_19 rfl ?_
    refine s_iadd X dX10_byRoot_20 ?_
    refine s_imul X dX10_byRoot_21 ?_
    refine s_aload_n X 0 dX10_byRoot_22 rfl rfl ?_
    obtain ⟨h1, hf⟩ := pk_chk hf
    obtain ⟨o2, e3, hf⟩ := pk_bnd hf
    obtain ⟨h4, hf⟩ := pk_chk hf
    refine s_getR X (ci := 10) (k := 0) rfl (Nat.le_of_ble_eq_true rfl) h1 wd1440 (fun _ _ _ => rfl) (e3 ▸ h4) dX10_byRoot_23 (e3 ▸ ?_)
    refine s_iconst X (v := (0 : Int32)) dX10_byRoot_26 rfl ?_
    obtain ⟨h5, hf⟩ := pk_chk hf
    refine s_iald X h4 h5 dX10_byRoot_27 ?_
    have hs6 := pk_ite hf
    clear hf
    refine s_icmp_gt X (tgt := 37) dX10_byRoot_28 rfl (fun c7 => ?_) (fun c7 => ?_)
    · have hf := hs6.1 c7
      refine s_aload_n X 0 dX10_byRoot_37 rfl rfl ?_
      obtain ⟨r9, hc8, hf⟩ := pk_obd hf
      refine s_callV X (ci := 10) (k_X10_sentAll G hc8) rfl h1 wd1922 wd1924 wd106 wd1925 wd138 cd_X10_sentAll ⟨Nat.le_of_ble_eq_true rfl, Nat.le_of_ble_eq_true rfl⟩ (Nat.le_of_ble_eq_true rfl) dX10_byRoot_38 ?_
      refine s_i2d X dX10_byRoot_41 ?_
      refine s_aload_n X 0 dX10_byRoot_42 rfl rfl ?_
      obtain ⟨o10, e11, hf⟩ := pk_bnd hf
      obtain ⟨h12, hf⟩ := pk_chk hf
      refine s_getR X (ci := 10) (k := 0) rfl (Nat.le_of_ble_eq_true rfl) h1 wd1440 (fun _ _ _ => rfl) (e11 ▸ h12) dX10_byRoot_43 (e11 ▸ ?_)
      refine s_sipush X (v := (9851 : Int32)) dX10_byRoot_46 rfl ?_
      obtain ⟨h13, hf⟩ := pk_chk hf
      refine s_iald X h12 h13 dX10_byRoot_49 ?_
      refine s_i2d X dX10_byRoot_50 ?_
      obtain ⟨h14, hf⟩ := pk_chk hf
      refine s_ddiv X dX10_byRoot_51 h14 ?_
      refine s_iload_n X 1 dX10_byRoot_52 rfl rfl ?_
      refine s_i2d X dX10_byRoot_53 ?_
      obtain ⟨h15, hf⟩ := pk_chk hf
      refine s_ddiv X dX10_byRoot_54 h15 ?_
      obtain ⟨r17, hc16, hf⟩ := pk_obd hf
      refine s_callS X (k_Jxe99ae_doubleToLongBits_ccdee G hc16) wd2061 wd2062 wd2063 wd144 cd_Jxe99ae_doubleToLongBits_ccdee ⟨Nat.le_of_ble_eq_true rfl, Nat.le_of_ble_eq_true rfl⟩ (Nat.le_of_ble_eq_true rfl) dX10_byRoot_55 ?_
      cases hf
      exact s_lret X hr hlk dX10_byRoot_58
    · have hf := hs6.2 c7
      obtain ⟨x18, e19, hf⟩ := pk_bnd hf
      refine s_iinc X (vs' := [(0, .ref (gB G + v0)), (1, .int x18)]) 1 dX10_byRoot_31 rfl (v := x18) e19.symm (Nat.le_of_ble_eq_true rfl) [1, 0] rfl ?_
      refine s_goto X (tgt := 15) dX10_byRoot_34 rfl ?_
      exact ih _ _ hf
end
theorem k2_X10_byRoot (G : Gam) {n : Nat} {o : Nat} {M : Mem} {rv : Int64} (hf : f2_X10_byRoot n o M = some rv) : Kt yX10_byRoot cX10_byRoot 2 (some .long) 2 45 G [.ref (gB G + o)] M M (some (.long rv)) := by
  refine Kt.of (by decide) (Nat.le_of_ble_eq_true rfl) ?_
  intro p l e R s m args below meth c X hr hlk hnm
  refine s_drop [0] (vs' := [(0, .ref (gB G + o))]) rfl ?_
  rw [f2_X10_byRoot] at hf
  refine s_aload_n X 0 dX10_byRoot_0 rfl rfl ?_
  obtain ⟨h1, hf⟩ := pk_chk hf
  obtain ⟨o2, e3, hf⟩ := pk_bnd hf
  obtain ⟨h4, hf⟩ := pk_chk hf
  refine s_getR X (ci := 10) (k := 0) rfl (Nat.le_of_ble_eq_true rfl) h1 wd1440 (fun _ _ _ => rfl) (e3 ▸ h4) dX10_byRoot_1 (e3 ▸ ?_)
  refine s_sipush X (v := (9851 : Int32)) dX10_byRoot_4 rfl ?_
  obtain ⟨h5, hf⟩ := pk_chk hf
  refine s_iald X h4 h5 dX10_byRoot_7 ?_
  have hs6 := pk_ite hf
  clear hf
  refine s_if_ne X (tgt := 13) dX10_byRoot_8 rfl (fun c7 => ?_) (fun c7 => ?_)
  · have hf := hs6.2 c7
    refine s_iconst X (v := (1 : Int32)) dX10_byRoot_13 rfl ?_
    refine s_istore_n X (vs' := [(0, .ref (gB G + o)), (1, .int (1 : Int32))]) dX10_byRoot_14 rfl (Nat.le_of_ble_eq_true rfl) [1, 0] rfl ?_
    exact l2_X10_byRoot_15 X hr hlk hnm _ _ hf
  · have hf := hs6.1 c7
    refine s_lconst X (v := (0 : Int64)) dX10_byRoot_11 rfl ?_
    cases hf
    exact s_lret X hr hlk dX10_byRoot_12
