abbrev kM_K_element : kv_MI := (⟨"KeptLump", "element", "(II)J"⟩, prog_1_method_36_code, 4, (some .long))
theorem kw_1218 : (Jvm.Cond.instanceMethod ({ cls := "KeptLump", name := "element", desc := "(II)J" } : Jvm.MethodName)) ∈ kv_gw := List.mem_filter.mpr ⟨kv_tb5 (List.mem_of_getElem? (i := 190) (by decide +kernel)), by decide +kernel⟩
theorem kw_1219 : (Jvm.Cond.selects "KeptLump" ({ cls := "KeptLump", name := "element", desc := "(II)J" } : Jvm.MethodName) ({ cls := "KeptLump", name := "element", desc := "(II)J" } : Jvm.MethodName)) ∈ kv_gw := List.mem_filter.mpr ⟨kv_tb5 (List.mem_of_getElem? (i := 191) (by decide +kernel)), by decide +kernel⟩
theorem kw_1220 : (Jvm.Cond.code ({ cls := "KeptLump", name := "element", desc := "(II)J" } : Jvm.MethodName) prog_1_method_36_code (4 : Nat) (Option.some Jvm.ClassFile.FieldType.long)) ∈ kv_gw := List.mem_filter.mpr ⟨kv_tb5 (List.mem_of_getElem? (i := 192) (by decide +kernel)), by decide +kernel⟩
theorem ko_K_element : kv_okV kM_K_element 2 := ⟨kw_1218, kw_1219, kw_69, kw_1220, ⟨by decide, by decide⟩, by decide +kernel, by decide⟩
abbrev kM_K_throwFailure : kv_MI := (⟨"KeptLump", "throwFailure", "(LKeptLump$Shelf;)V"⟩, prog_1_method_62_code, 2, none)
theorem kw_1144 : (Jvm.Cond.instanceMethod ({ cls := "KeptLump", name := "throwFailure", desc := "(LKeptLump$Shelf;)V" } : Jvm.MethodName)) ∈ kv_gw := List.mem_filter.mpr ⟨kv_tb5 (List.mem_of_getElem? (i := 116) (by decide +kernel)), by decide +kernel⟩
theorem kw_18 : (Jvm.Cond.selects "KeptLump" ({ cls := "KeptLump", name := "throwFailure", desc := "(LKeptLump$Shelf;)V" } : Jvm.MethodName) ({ cls := "KeptLump", name := "throwFailure", desc := "(LKeptLump$Shelf;)V" } : Jvm.MethodName)) ∈ kv_gw := List.mem_filter.mpr ⟨kv_tb0 (List.mem_of_getElem? (i := 18) (by decide +kernel)), by decide +kernel⟩
theorem kw_1145 : (Jvm.Cond.code ({ cls := "KeptLump", name := "throwFailure", desc := "(LKeptLump$Shelf;)V" } : Jvm.MethodName) prog_1_method_62_code (2 : Nat) (Option.none : Option Jvm.ClassFile.FieldType)) ∈ kv_gw := List.mem_filter.mpr ⟨kv_tb5 (List.mem_of_getElem? (i := 117) (by decide +kernel)), by decide +kernel⟩
theorem ko_K_throwFailure : kv_okV kM_K_throwFailure 1 := ⟨kw_1144, kw_18, kw_69, kw_1145, ⟨by decide, by decide⟩, by decide +kernel, by decide⟩
abbrev kM_K_toss : kv_MI := (⟨"KeptLump", "toss", "(I)I"⟩, prog_1_method_39_code, 4, (some .int))
abbrev kM_L_element : kv_MI := (⟨"KeptLumpLaw", "element", "(LKeptLump;II[J)I"⟩, method_3_code, 5, (some .int))
theorem kw_1138 : (Jvm.Cond.instanceMethod ({ cls := "KeptLump", name := "toss", desc := "(I)I" } : Jvm.MethodName)) ∈ kv_gw := List.mem_filter.mpr ⟨kv_tb5 (List.mem_of_getElem? (i := 110) (by decide +kernel)), by decide +kernel⟩
theorem kw_311 : (Jvm.Cond.fieldLink "KeptLump" (458 : Nat) "KeptLump$Shelf" "kind" "I") ∈ kv_gw := List.mem_filter.mpr ⟨kv_tb2 (List.mem_of_getElem? (i := 3) (by decide +kernel)), by decide +kernel⟩
theorem kf_K_458 : kv_fl "KeptLump" 458 7 5 false .int := ⟨_, _, _, _, kc_7, by decide, kw_311, rfl, rfl⟩
theorem kw_315 : (Jvm.Cond.fieldLink "KeptLump" (460 : Nat) "KeptLump$Shelf" "rate" "I") ∈ kv_gw := List.mem_filter.mpr ⟨kv_tb2 (List.mem_of_getElem? (i := 7) (by decide +kernel)), by decide +kernel⟩
theorem kf_K_460 : kv_fl "KeptLump" 460 7 7 false .int := ⟨_, _, _, _, kc_7, by decide, kw_315, rfl, rfl⟩
theorem kw_313 : (Jvm.Cond.fieldLink "KeptLump" (462 : Nat) "KeptLump$Shelf" "land" "I") ∈ kv_gw := List.mem_filter.mpr ⟨kv_tb2 (List.mem_of_getElem? (i := 5) (by decide +kernel)), by decide +kernel⟩
theorem kf_K_462 : kv_fl "KeptLump" 462 7 6 false .int := ⟨_, _, _, _, kc_7, by decide, kw_313, rfl, rfl⟩
theorem kw_488 : (Jvm.Cond.fieldLink "KeptLump" (424 : Nat) "KeptLump" "failure" "I") ∈ kv_gw := List.mem_filter.mpr ⟨kv_tb2 (List.mem_of_getElem? (i := 180) (by decide +kernel)), by decide +kernel⟩
theorem kf_K_424 : kv_fl "KeptLump" 424 10 8 false .int := ⟨_, _, _, _, kc_10, by decide, kw_488, rfl, rfl⟩
theorem kw_309 : (Jvm.Cond.fieldLink "KeptLump" (464 : Nat) "KeptLump$Shelf" "number" "I") ∈ kv_gw := List.mem_filter.mpr ⟨kv_tb2 (List.mem_of_getElem? (i := 1) (by decide +kernel)), by decide +kernel⟩
theorem kf_K_464 : kv_fl "KeptLump" 464 7 4 false .int := ⟨_, _, _, _, kc_7, by decide, kw_309, rfl, rfl⟩
theorem kw_1142 : (Jvm.Cond.methodLink "KeptLump" (420 : Nat) ({ cls := "KeptLump", name := "throwFailure", desc := "(LKeptLump$Shelf;)V" } : Jvm.MethodName)) ∈ kv_gw := List.mem_filter.mpr ⟨kv_tb5 (List.mem_of_getElem? (i := 114) (by decide +kernel)), by decide +kernel⟩
theorem kw_1217 : (Jvm.Cond.methodLink "KeptLumpLaw" (7 : Nat) ({ cls := "KeptLump", name := "element", desc := "(II)J" } : Jvm.MethodName)) ∈ kv_gw := List.mem_filter.mpr ⟨kv_tb5 (List.mem_of_getElem? (i := 189) (by decide +kernel)), by decide +kernel⟩
theorem kw_1212 : (Jvm.Cond.methodLink "KeptLumpLaw" (164 : Nat) ({ cls := "KeptLumpLaw", name := "element", desc := "(LKeptLump;II[J)I" } : Jvm.MethodName)) ∈ kv_gw := List.mem_filter.mpr ⟨kv_tb5 (List.mem_of_getElem? (i := 184) (by decide +kernel)), by decide +kernel⟩
theorem kw_1137 : (Jvm.Cond.methodLink "KeptLumpLaw" (181 : Nat) ({ cls := "KeptLump", name := "toss", desc := "(I)I" } : Jvm.MethodName)) ∈ kv_gw := List.mem_filter.mpr ⟨kv_tb5 (List.mem_of_getElem? (i := 109) (by decide +kernel)), by decide +kernel⟩
theorem kw_1140 : (Jvm.Cond.codeWith ({ cls := "KeptLump", name := "toss", desc := "(I)I" } : Jvm.MethodName) prog_1_method_39_code (4 : Nat) (Option.some Jvm.ClassFile.FieldType.int) [((12 : Nat), (22 : Nat), (25 : Nat), (394 : Nat))]) ∈ kv_gw := List.mem_filter.mpr ⟨kv_tb5 (List.mem_of_getElem? (i := 112) (by decide +kernel)), by decide +kernel⟩
theorem kw_1214 : (Jvm.Cond.codeWith ({ cls := "KeptLumpLaw", name := "element", desc := "(LKeptLump;II[J)I" } : Jvm.MethodName) method_3_code (5 : Nat) (Option.some Jvm.ClassFile.FieldType.int) [((0 : Nat), (9 : Nat), (12 : Nat), (13 : Nat)), ((0 : Nat), (9 : Nat), (16 : Nat), (15 : Nat))]) ∈ kv_gw := List.mem_filter.mpr ⟨kv_tb5 (List.mem_of_getElem? (i := 186) (by decide +kernel)), by decide +kernel⟩
theorem kw_1139 : (Jvm.Cond.selects "KeptLump" ({ cls := "KeptLump", name := "toss", desc := "(I)I" } : Jvm.MethodName) ({ cls := "KeptLump", name := "toss", desc := "(I)I" } : Jvm.MethodName)) ∈ kv_gw := List.mem_filter.mpr ⟨kv_tb5 (List.mem_of_getElem? (i := 111) (by decide +kernel)), by decide +kernel⟩
theorem kw_68 : (Jvm.Cond.initialized "KeptLumpLaw") ∈ kv_gw := List.mem_filter.mpr ⟨kv_tb1 (List.mem_of_getElem? (i := 0) (by decide +kernel)), by decide +kernel⟩
theorem kw_1213 : (Jvm.Cond.static ({ cls := "KeptLumpLaw", name := "element", desc := "(LKeptLump;II[J)I" } : Jvm.MethodName)) ∈ kv_gw := List.mem_filter.mpr ⟨kv_tb5 (List.mem_of_getElem? (i := 185) (by decide +kernel)), by decide +kernel⟩
theorem kw_1141 : (Jvm.Cond.classLink "KeptLump" (394 : Nat) "java/lang/IllegalStateException") ∈ kv_gw := List.mem_filter.mpr ⟨kv_tb5 (List.mem_of_getElem? (i := 113) (by decide +kernel)), by decide +kernel⟩
theorem kw_1215 : (Jvm.Cond.classLink "KeptLumpLaw" (13 : Nat) "java/lang/IllegalArgumentException") ∈ kv_gw := List.mem_filter.mpr ⟨kv_tb5 (List.mem_of_getElem? (i := 187) (by decide +kernel)), by decide +kernel⟩
theorem kw_1216 : (Jvm.Cond.classLink "KeptLumpLaw" (15 : Nat) "java/lang/IllegalStateException") ∈ kv_gw := List.mem_filter.mpr ⟨kv_tb5 (List.mem_of_getElem? (i := 188) (by decide +kernel)), by decide +kernel⟩
theorem dk_K_element_0 : decode prog_1_method_36_code 0 = .ok (.iload_n 1, 1) := by decide +kernel
theorem dk_K_element_1 : decode prog_1_method_36_code 1 = .ok (.invokestatic 368, 3) := by decide +kernel
theorem dk_K_element_4 : decode prog_1_method_36_code 4 = .ok (.ifCond .ne 14, 3) := by decide +kernel
theorem dk_K_element_7 : decode prog_1_method_36_code 7 = .ok (.new 384, 3) := by decide +kernel
theorem dk_K_element_10 : decode prog_1_method_36_code 10 = .ok (.dup, 1) := by decide +kernel
theorem dk_K_element_11 : decode prog_1_method_36_code 11 = .ok (.ldc_w 386, 3) := by decide +kernel
theorem dk_K_element_14 : decode prog_1_method_36_code 14 = .ok (.invokespecial 388, 3) := by decide +kernel
theorem dk_K_element_17 : decode prog_1_method_36_code 17 = .ok (.athrow, 1) := by decide +kernel
theorem dk_K_element_18 : decode prog_1_method_36_code 18 = .ok (.aload_n 0, 1) := by decide +kernel
theorem dk_K_element_19 : decode prog_1_method_36_code 19 = .ok (.getfield 21, 3) := by decide +kernel
theorem dk_K_element_22 : decode prog_1_method_36_code 22 = .ok (.iload_n 1, 1) := by decide +kernel
theorem dk_K_element_23 : decode prog_1_method_36_code 23 = .ok (.aaload, 1) := by decide +kernel
theorem dk_K_element_24 : decode prog_1_method_36_code 24 = .ok (.astore_n 3, 1) := by decide +kernel
theorem dk_K_element_25 : decode prog_1_method_36_code 25 = .ok (.aload_n 3, 1) := by decide +kernel
theorem dk_K_element_26 : decode prog_1_method_36_code 26 = .ok (.invokevirtual 391, 3) := by decide +kernel
theorem dk_K_element_29 : decode prog_1_method_36_code 29 = .ok (.ifCond .eq 17, 3) := by decide +kernel
theorem dk_K_element_32 : decode prog_1_method_36_code 32 = .ok (.iload_n 2, 1) := by decide +kernel
theorem dk_K_element_33 : decode prog_1_method_36_code 33 = .ok (.iconst 0, 1) := by decide +kernel
theorem dk_K_element_34 : decode prog_1_method_36_code 34 = .ok (.aload_n 3, 1) := by decide +kernel
theorem dk_K_element_35 : decode prog_1_method_36_code 35 = .ok (.getfield 174, 3) := by decide +kernel
theorem dk_K_element_38 : decode prog_1_method_36_code 38 = .ok (.iconst 1, 1) := by decide +kernel
theorem dk_K_element_39 : decode prog_1_method_36_code 39 = .ok (.isub, 1) := by decide +kernel
theorem dk_K_element_40 : decode prog_1_method_36_code 40 = .ok (.invokestatic 54, 3) := by decide +kernel
theorem dk_K_element_43 : decode prog_1_method_36_code 43 = .ok (.ifCond .ne 14, 3) := by decide +kernel
theorem dk_K_element_46 : decode prog_1_method_36_code 46 = .ok (.new 394, 3) := by decide +kernel
theorem dk_K_element_49 : decode prog_1_method_36_code 49 = .ok (.dup, 1) := by decide +kernel
theorem dk_K_element_50 : decode prog_1_method_36_code 50 = .ok (.ldc_w 396, 3) := by decide +kernel
theorem dk_K_element_53 : decode prog_1_method_36_code 53 = .ok (.invokespecial 398, 3) := by decide +kernel
theorem dk_K_element_56 : decode prog_1_method_36_code 56 = .ok (.athrow, 1) := by decide +kernel
theorem dk_K_element_57 : decode prog_1_method_36_code 57 = .ok (.aload_n 3, 1) := by decide +kernel
theorem dk_K_element_58 : decode prog_1_method_36_code 58 = .ok (.getfield 184, 3) := by decide +kernel
theorem dk_K_element_61 : decode prog_1_method_36_code 61 = .ok (.iload_n 2, 1) := by decide +kernel
theorem dk_K_element_62 : decode prog_1_method_36_code 62 = .ok (.iaload, 1) := by decide +kernel
theorem dk_K_element_63 : decode prog_1_method_36_code 63 = .ok (.i2l, 1) := by decide +kernel
theorem dk_K_element_64 : decode prog_1_method_36_code 64 = .ok (.lreturn, 1) := by decide +kernel
theorem dk_K_throwFailure_0 : decode prog_1_method_62_code 0 = .ok (.aload_n 1, 1) := by decide +kernel
theorem dk_K_throwFailure_1 : decode prog_1_method_62_code 1 = .ok (.getfield 458, 3) := by decide +kernel
theorem dk_K_throwFailure_4 : decode prog_1_method_62_code 4 = .ok (.iconst 1, 1) := by decide +kernel
theorem dk_K_throwFailure_5 : decode prog_1_method_62_code 5 = .ok (.if_icmp .eq 10, 3) := by decide +kernel
theorem dk_K_throwFailure_8 : decode prog_1_method_62_code 8 = .ok (.aload_n 1, 1) := by decide +kernel
theorem dk_K_throwFailure_9 : decode prog_1_method_62_code 9 = .ok (.getfield 460, 3) := by decide +kernel
theorem dk_K_throwFailure_12 : decode prog_1_method_62_code 12 = .ok (.ifCond .ne 4, 3) := by decide +kernel
theorem dk_K_throwFailure_15 : decode prog_1_method_62_code 15 = .ok (.return_, 1) := by decide +kernel
theorem dk_K_throwFailure_16 : decode prog_1_method_62_code 16 = .ok (.aload_n 1, 1) := by decide +kernel
theorem dk_K_throwFailure_17 : decode prog_1_method_62_code 17 = .ok (.getfield 458, 3) := by decide +kernel
theorem dk_K_throwFailure_20 : decode prog_1_method_62_code 20 = .ok (.iconst 4, 1) := by decide +kernel
theorem dk_K_throwFailure_21 : decode prog_1_method_62_code 21 = .ok (.if_icmp .ne 18, 3) := by decide +kernel
theorem dk_K_throwFailure_24 : decode prog_1_method_62_code 24 = .ok (.aload_n 0, 1) := by decide +kernel
theorem dk_K_throwFailure_25 : decode prog_1_method_62_code 25 = .ok (.sipush 200, 3) := by decide +kernel
theorem dk_K_throwFailure_28 : decode prog_1_method_62_code 28 = .ok (.aload_n 1, 1) := by decide +kernel
theorem dk_K_throwFailure_29 : decode prog_1_method_62_code 29 = .ok (.getfield 462, 3) := by decide +kernel
theorem dk_K_throwFailure_32 : decode prog_1_method_62_code 32 = .ok (.iadd, 1) := by decide +kernel
theorem dk_K_throwFailure_33 : decode prog_1_method_62_code 33 = .ok (.putfield 424, 3) := by decide +kernel
theorem dk_K_throwFailure_36 : decode prog_1_method_62_code 36 = .ok (.goto 30, 3) := by decide +kernel
theorem dk_K_throwFailure_39 : decode prog_1_method_62_code 39 = .ok (.aload_n 0, 1) := by decide +kernel
theorem dk_K_throwFailure_40 : decode prog_1_method_62_code 40 = .ok (.aload_n 1, 1) := by decide +kernel
theorem dk_K_throwFailure_41 : decode prog_1_method_62_code 41 = .ok (.getfield 458, 3) := by decide +kernel
theorem dk_K_throwFailure_44 : decode prog_1_method_62_code 44 = .ok (.bipush 6, 2) := by decide +kernel
theorem dk_K_throwFailure_46 : decode prog_1_method_62_code 46 = .ok (.if_icmp .ne 13, 3) := by decide +kernel
theorem dk_K_throwFailure_49 : decode prog_1_method_62_code 49 = .ok (.aload_n 1, 1) := by decide +kernel
theorem dk_K_throwFailure_50 : decode prog_1_method_62_code 50 = .ok (.getfield 464, 3) := by decide +kernel
theorem dk_K_throwFailure_53 : decode prog_1_method_62_code 53 = .ok (.bipush 100, 2) := by decide +kernel
theorem dk_K_throwFailure_55 : decode prog_1_method_62_code 55 = .ok (.iadd, 1) := by decide +kernel
theorem dk_K_throwFailure_56 : decode prog_1_method_62_code 56 = .ok (.goto 7, 3) := by decide +kernel
theorem dk_K_throwFailure_59 : decode prog_1_method_62_code 59 = .ok (.aload_n 1, 1) := by decide +kernel
theorem dk_K_throwFailure_60 : decode prog_1_method_62_code 60 = .ok (.getfield 464, 3) := by decide +kernel
theorem dk_K_throwFailure_63 : decode prog_1_method_62_code 63 = .ok (.putfield 424, 3) := by decide +kernel
theorem dk_K_throwFailure_66 : decode prog_1_method_62_code 66 = .ok (.new 394, 3) := by decide +kernel
theorem dk_K_throwFailure_69 : decode prog_1_method_62_code 69 = .ok (.dup, 1) := by decide +kernel
theorem dk_K_throwFailure_70 : decode prog_1_method_62_code 70 = .ok (.ldc_w 467, 3) := by decide +kernel
theorem dk_K_throwFailure_73 : decode prog_1_method_62_code 73 = .ok (.invokespecial 398, 3) := by decide +kernel
theorem dk_K_throwFailure_76 : decode prog_1_method_62_code 76 = .ok (.athrow, 1) := by decide +kernel
theorem dk_K_toss_0 : decode prog_1_method_39_code 0 = .ok (.aload_n 0, 1) := by decide +kernel
theorem dk_K_toss_1 : decode prog_1_method_39_code 1 = .ok (.iload_n 1, 1) := by decide +kernel
theorem dk_K_toss_2 : decode prog_1_method_39_code 2 = .ok (.invokevirtual 414, 3) := by decide +kernel
theorem dk_K_toss_5 : decode prog_1_method_39_code 5 = .ok (.istore_n 2, 1) := by decide +kernel
theorem dk_K_toss_6 : decode prog_1_method_39_code 6 = .ok (.iload_n 2, 1) := by decide +kernel
theorem dk_K_toss_7 : decode prog_1_method_39_code 7 = .ok (.ifCond .eq 5, 3) := by decide +kernel
theorem dk_K_toss_10 : decode prog_1_method_39_code 10 = .ok (.iload_n 2, 1) := by decide +kernel
theorem dk_K_toss_11 : decode prog_1_method_39_code 11 = .ok (.ireturn, 1) := by decide +kernel
theorem dk_K_toss_12 : decode prog_1_method_39_code 12 = .ok (.aload_n 0, 1) := by decide +kernel
theorem dk_K_toss_13 : decode prog_1_method_39_code 13 = .ok (.aload_n 0, 1) := by decide +kernel
theorem dk_K_toss_14 : decode prog_1_method_39_code 14 = .ok (.getfield 21, 3) := by decide +kernel
theorem dk_K_toss_17 : decode prog_1_method_39_code 17 = .ok (.iload_n 1, 1) := by decide +kernel
theorem dk_K_toss_18 : decode prog_1_method_39_code 18 = .ok (.aaload, 1) := by decide +kernel
theorem dk_K_toss_19 : decode prog_1_method_39_code 19 = .ok (.invokevirtual 420, 3) := by decide +kernel
theorem dk_K_toss_22 : decode prog_1_method_39_code 22 = .ok (.goto 9, 3) := by decide +kernel
theorem dk_K_toss_25 : decode prog_1_method_39_code 25 = .ok (.astore_n 3, 1) := by decide +kernel
theorem dk_K_toss_26 : decode prog_1_method_39_code 26 = .ok (.aload_n 0, 1) := by decide +kernel
theorem dk_K_toss_27 : decode prog_1_method_39_code 27 = .ok (.getfield 424, 3) := by decide +kernel
theorem dk_K_toss_30 : decode prog_1_method_39_code 30 = .ok (.ireturn, 1) := by decide +kernel
theorem dk_K_toss_31 : decode prog_1_method_39_code 31 = .ok (.bipush (-15), 2) := by decide +kernel
theorem dk_K_toss_33 : decode prog_1_method_39_code 33 = .ok (.ireturn, 1) := by decide +kernel
theorem dk_L_element_0 : decode method_3_code 0 = .ok (.aload_n 3, 1) := by decide +kernel
theorem dk_L_element_1 : decode method_3_code 1 = .ok (.iconst 0, 1) := by decide +kernel
theorem dk_L_element_2 : decode method_3_code 2 = .ok (.aload_n 0, 1) := by decide +kernel
theorem dk_L_element_3 : decode method_3_code 3 = .ok (.iload_n 1, 1) := by decide +kernel
theorem dk_L_element_4 : decode method_3_code 4 = .ok (.iload_n 2, 1) := by decide +kernel
theorem dk_L_element_5 : decode method_3_code 5 = .ok (.invokevirtual 7, 3) := by decide +kernel
theorem dk_L_element_8 : decode method_3_code 8 = .ok (.lastore, 1) := by decide +kernel
theorem dk_L_element_9 : decode method_3_code 9 = .ok (.goto 11, 3) := by decide +kernel
theorem dk_L_element_12 : decode method_3_code 12 = .ok (.astore 4, 2) := by decide +kernel
theorem dk_L_element_14 : decode method_3_code 14 = .ok (.iconst 1, 1) := by decide +kernel
theorem dk_L_element_15 : decode method_3_code 15 = .ok (.ireturn, 1) := by decide +kernel
theorem dk_L_element_16 : decode method_3_code 16 = .ok (.astore 4, 2) := by decide +kernel
theorem dk_L_element_18 : decode method_3_code 18 = .ok (.iconst 2, 1) := by decide +kernel
theorem dk_L_element_19 : decode method_3_code 19 = .ok (.ireturn, 1) := by decide +kernel
theorem dk_L_element_20 : decode method_3_code 20 = .ok (.iconst 0, 1) := by decide +kernel
theorem dk_L_element_21 : decode method_3_code 21 = .ok (.ireturn, 1) := by decide +kernel
