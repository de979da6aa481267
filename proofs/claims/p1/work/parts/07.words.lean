theorem wd126 : (Jvm.Cond.initialized "QuorumGate") ∈ lw_g := gw 126 (by decide +kernel) (by decide +kernel)
theorem wd136 : (Jvm.Cond.initialized "java/util/Arrays") ∈ lw_g := gw 136 (by decide +kernel) (by decide +kernel)
theorem wd137 : (Jvm.Cond.initialized "java/lang/System") ∈ lw_g := gw 137 (by decide +kernel) (by decide +kernel)
theorem wd142 : (Jvm.Cond.initialized "java/lang/Math") ∈ lw_g := gw 142 (by decide +kernel) (by decide +kernel)
theorem wd184 : (Jvm.Cond.arrayClass Jvm.ClassFile.FieldType.int) ∈ lw_g := gw 184 (by decide +kernel) (by decide +kernel)
theorem wd248 : (Jvm.Cond.fieldLink "QuorumGate$Post" (9 : Nat) "QuorumGate$Post" "first" "[I") ∈ lw_g := gw 248 (by decide +kernel) (by decide +kernel)
theorem wd250 : (Jvm.Cond.fieldLink "QuorumGate$Post" (15 : Nat) "QuorumGate$Post" "last" "[I") ∈ lw_g := gw 250 (by decide +kernel) (by decide +kernel)
theorem wd251 : (Jvm.Cond.fieldLink "QuorumGate$Post" (18 : Nat) "QuorumGate$Post" "many" "[I") ∈ lw_g := gw 251 (by decide +kernel) (by decide +kernel)
theorem wd253 : (Jvm.Cond.fieldLink "QuorumGate$Post" (21 : Nat) "QuorumGate$Post" "busy" "[I") ∈ lw_g := gw 253 (by decide +kernel) (by decide +kernel)
theorem wd257 : (Jvm.Cond.fieldLink "QuorumGate$Post" (24 : Nat) "QuorumGate$Post" "sent" "[I") ∈ lw_g := gw 257 (by decide +kernel) (by decide +kernel)
theorem wd259 : (Jvm.Cond.fieldLink "QuorumGate$Post" (27 : Nat) "QuorumGate$Post" "letters" "[I") ∈ lw_g := gw 259 (by decide +kernel) (by decide +kernel)
theorem wd261 : (Jvm.Cond.fieldLink "QuorumGate$Post" (30 : Nat) "QuorumGate$Post" "went" "[I") ∈ lw_g := gw 261 (by decide +kernel) (by decide +kernel)
theorem wd262 : (Jvm.Cond.fieldLink "QuorumGate$Post" (33 : Nat) "QuorumGate$Post" "next" "[I") ∈ lw_g := gw 262 (by decide +kernel) (by decide +kernel)
theorem wd264 : (Jvm.Cond.fieldLink "QuorumGate$Post" (44 : Nat) "QuorumGate$Post" "used" "I") ∈ lw_g := gw 264 (by decide +kernel) (by decide +kernel)
theorem wd265 : (Jvm.Cond.fieldLink "QuorumGate$Post" (36 : Nat) "QuorumGate$Post" "free" "I") ∈ lw_g := gw 265 (by decide +kernel) (by decide +kernel)
theorem wd267 : (Jvm.Cond.fieldLink "QuorumGate$Post" (40 : Nat) "QuorumGate$Post" "total" "I") ∈ lw_g := gw 267 (by decide +kernel) (by decide +kernel)
theorem wd272 : (Jvm.Cond.fieldLink "QuorumGate$Post" (53 : Nat) "QuorumGate$Post" "now" "I") ∈ lw_g := gw 272 (by decide +kernel) (by decide +kernel)
theorem wd333 : (Jvm.Cond.fieldLink "QuorumGate$Place" (49 : Nat) "QuorumGate$Place" "inUse" "I") ∈ lw_g := gw 333 (by decide +kernel) (by decide +kernel)
theorem wd337 : (Jvm.Cond.fieldLink "QuorumGate$Place" (52 : Nat) "QuorumGate$Place" "votes" "I") ∈ lw_g := gw 337 (by decide +kernel) (by decide +kernel)
theorem wd341 : (Jvm.Cond.fieldLink "QuorumGate$Place" (55 : Nat) "QuorumGate$Place" "doubts" "I") ∈ lw_g := gw 341 (by decide +kernel) (by decide +kernel)
theorem wd345 : (Jvm.Cond.fieldLink "QuorumGate$Place" (58 : Nat) "QuorumGate$Place" "fails" "I") ∈ lw_g := gw 345 (by decide +kernel) (by decide +kernel)
theorem wd361 : (Jvm.Cond.fieldLink "QuorumGate$Place" (64 : Nat) "QuorumGate$Place" "waiters" "I") ∈ lw_g := gw 361 (by decide +kernel) (by decide +kernel)
theorem wd365 : (Jvm.Cond.fieldLink "QuorumGate$Place" (18 : Nat) "QuorumGate$Place" "waitStamps" "[I") ∈ lw_g := gw 365 (by decide +kernel) (by decide +kernel)
theorem wd620 : (Jvm.Cond.static ({ cls := "java/lang/System", name := "arraycopy", desc := "(Ljava/lang/Object;ILjava/lang/Object;II)V" } : Jvm.MethodName)) ∈ lw_g := gw 620 (by decide +kernel) (by decide +kernel)
theorem wd621 : (Jvm.Cond.native ({ cls := "java/lang/System", name := "arraycopy", desc := "(Ljava/lang/Object;ILjava/lang/Object;II)V" } : Jvm.MethodName)) ∈ lw_g := gw 621 (by decide +kernel) (by decide +kernel)
theorem wd712 : (Jvm.Cond.static ({ cls := "QuorumGate", name := "has", desc := "(II)Z" } : Jvm.MethodName)) ∈ lw_g := gw 712 (by decide +kernel) (by decide +kernel)
theorem wd713 : (Jvm.Cond.code ({ cls := "QuorumGate", name := "has", desc := "(II)Z" } : Jvm.MethodName) prog_1_method_57_code (2 : Nat) (Option.some Jvm.ClassFile.FieldType.boolean)) ∈ lw_g := gw 713 (by decide +kernel) (by decide +kernel)
theorem wd889 : (Jvm.Cond.static ({ cls := "java/lang/Math", name := "min", desc := "(II)I" } : Jvm.MethodName)) ∈ lw_g := gw 889 (by decide +kernel) (by decide +kernel)
theorem wd890 : (Jvm.Cond.code ({ cls := "java/lang/Math", name := "min", desc := "(II)I" } : Jvm.MethodName) prog_18_method_69_code (2 : Nat) (Option.some Jvm.ClassFile.FieldType.int)) ∈ lw_g := gw 890 (by decide +kernel) (by decide +kernel)
theorem wd949 : (Jvm.Cond.constant "QuorumGate$Post" (43 : Nat) (131072 : Int32)) ∈ lw_g := gw 949 (by decide +kernel) (by decide +kernel)
theorem wd950 : (Jvm.Cond.methodLink "QuorumGate$Post" (47 : Nat) ({ cls := "java/util/Arrays", name := "copyOf", desc := "([II)[I" } : Jvm.MethodName)) ∈ lw_g := gw 950 (by decide +kernel) (by decide +kernel)
theorem wd951 : (Jvm.Cond.static ({ cls := "java/util/Arrays", name := "copyOf", desc := "([II)[I" } : Jvm.MethodName)) ∈ lw_g := gw 951 (by decide +kernel) (by decide +kernel)
theorem wd952 : (Jvm.Cond.code ({ cls := "java/util/Arrays", name := "copyOf", desc := "([II)[I" } : Jvm.MethodName) prog_21_method_123_code (3 : Nat) (Option.some (Jvm.ClassFile.FieldType.array Jvm.ClassFile.FieldType.int))) ∈ lw_g := gw 952 (by decide +kernel) (by decide +kernel)
theorem wd960 : (Jvm.Cond.methodLink "java/util/Arrays" (304 : Nat) ({ cls := "java/lang/Math", name := "min", desc := "(II)I" } : Jvm.MethodName)) ∈ lw_g := gw 960 (by decide +kernel) (by decide +kernel)
theorem wd961 : (Jvm.Cond.methodLink "java/util/Arrays" (150 : Nat) ({ cls := "java/lang/System", name := "arraycopy", desc := "(Ljava/lang/Object;ILjava/lang/Object;II)V" } : Jvm.MethodName)) ∈ lw_g := gw 961 (by decide +kernel) (by decide +kernel)
theorem ns_0 : (Jvm.Cond.methodLinkNest "QuorumGate" (9 : Nat) ({ cls := "QuorumGate$Sets", name := "<init>", desc := "()V" } : Jvm.MethodName) "QuorumGate") ∈ lw_nst := List.mem_of_getElem? (i := 0) rfl
theorem ns_1 : (Jvm.Cond.methodLinkNest "QuorumGate" (18 : Nat) ({ cls := "QuorumGate$Survey", name := "<init>", desc := "()V" } : Jvm.MethodName) "QuorumGate") ∈ lw_nst := List.mem_of_getElem? (i := 1) rfl
theorem ns_2 : (Jvm.Cond.methodLinkNest "QuorumGate$Survey" (11 : Nat) ({ cls := "QuorumGate$Family", name := "<init>", desc := "()V" } : Jvm.MethodName) "QuorumGate") ∈ lw_nst := List.mem_of_getElem? (i := 2) rfl
theorem ns_3 : (Jvm.Cond.methodLinkNest "QuorumGate$Hall" (11 : Nat) ({ cls := "QuorumGate$Post", name := "<init>", desc := "()V" } : Jvm.MethodName) "QuorumGate") ∈ lw_nst := List.mem_of_getElem? (i := 3) rfl
theorem ns_4 : (Jvm.Cond.methodLinkNest "QuorumGate$Hall" (47 : Nat) ({ cls := "QuorumGate$Place", name := "<init>", desc := "()V" } : Jvm.MethodName) "QuorumGate") ∈ lw_nst := List.mem_of_getElem? (i := 4) rfl
theorem ns_5 : (Jvm.Cond.methodLinkNest "QuorumGate" (37 : Nat) ({ cls := "QuorumGate$Clockwork", name := "<init>", desc := "()V" } : Jvm.MethodName) "QuorumGate") ∈ lw_nst := List.mem_of_getElem? (i := 5) rfl
theorem ns_6 : (Jvm.Cond.methodLinkNest "QuorumGate$Sets" (60 : Nat) ({ cls := "QuorumGate", name := "has", desc := "(II)Z" } : Jvm.MethodName) "QuorumGate") ∈ lw_nst := List.mem_of_getElem? (i := 6) rfl
theorem ns_7 : (Jvm.Cond.methodLinkNest "QuorumGate$Family" (46 : Nat) ({ cls := "QuorumGate", name := "lowest", desc := "(J)I" } : Jvm.MethodName) "QuorumGate") ∈ lw_nst := List.mem_of_getElem? (i := 7) rfl
theorem ns_8 : (Jvm.Cond.methodLinkNest "QuorumGate$Hall" (108 : Nat) ({ cls := "QuorumGate", name := "has", desc := "(II)Z" } : Jvm.MethodName) "QuorumGate") ∈ lw_nst := List.mem_of_getElem? (i := 8) rfl
theorem ns_9 : (Jvm.Cond.methodLinkNest "QuorumGate$Place" (77 : Nat) ({ cls := "QuorumGate", name := "has", desc := "(II)Z" } : Jvm.MethodName) "QuorumGate") ∈ lw_nst := List.mem_of_getElem? (i := 9) rfl
theorem ns_10 : (Jvm.Cond.methodLinkNest "QuorumGate$Place" (81 : Nat) ({ cls := "QuorumGate", name := "isAhead", desc := "(IIII)Z" } : Jvm.MethodName) "QuorumGate") ∈ lw_nst := List.mem_of_getElem? (i := 10) rfl
theorem ns_11 : (Jvm.Cond.methodLinkNest "QuorumGate$Hall" (280 : Nat) ({ cls := "QuorumGate", name := "isAhead", desc := "(IIII)Z" } : Jvm.MethodName) "QuorumGate") ∈ lw_nst := List.mem_of_getElem? (i := 11) rfl
theorem ns_12 : (Jvm.Cond.methodLinkNest "QuorumGate$Hall" (290 : Nat) ({ cls := "QuorumGate", name := "memberAt", desc := "(II)I" } : Jvm.MethodName) "QuorumGate") ∈ lw_nst := List.mem_of_getElem? (i := 12) rfl
theorem ns_13 : (Jvm.Cond.methodLinkNest "QuorumGate$Search" (120 : Nat) ({ cls := "QuorumGate", name := "has", desc := "(II)Z" } : Jvm.MethodName) "QuorumGate") ∈ lw_nst := List.mem_of_getElem? (i := 13) rfl
theorem ns_14 : (Jvm.Cond.methodLinkNest "QuorumGate$Search" (68 : Nat) ({ cls := "QuorumGate", name := "memberAt", desc := "(II)I" } : Jvm.MethodName) "QuorumGate") ∈ lw_nst := List.mem_of_getElem? (i := 14) rfl
theorem ns_15 : (Jvm.Cond.methodLinkNest "QuorumGate$Clockwork" (74 : Nat) ({ cls := "QuorumGate", name := "has", desc := "(II)Z" } : Jvm.MethodName) "QuorumGate") ∈ lw_nst := List.mem_of_getElem? (i := 15) rfl
