/-! ===== the law: cases, printed by wip/gen/lawcases.py ===== -/
theorem kw_508 : (Jvm.Cond.methodLink "KeptLumpLaw" (21 : Nat) ({ cls := "KeptLump", name := "lump", desc := "(III)I" } : Jvm.MethodName)) ∈ kv_gw := List.mem_filter.mpr ⟨kv_tb2 (List.mem_of_getElem? (i := 200) (by decide +kernel)), by decide +kernel⟩
theorem kw_1325 : (Jvm.Cond.methodLink "KeptLumpLaw" (25 : Nat) ({ cls := "KeptLumpModel", name := "lump", desc := "(III)I" } : Jvm.MethodName)) ∈ kv_gw := List.mem_filter.mpr ⟨kv_tb6 (List.mem_of_getElem? (i := 57) (by decide +kernel)), by decide +kernel⟩
theorem kw_509 : (Jvm.Cond.instanceMethod ({ cls := "KeptLump", name := "lump", desc := "(III)I" } : Jvm.MethodName)) ∈ kv_gw := List.mem_filter.mpr ⟨kv_tb2 (List.mem_of_getElem? (i := 201) (by decide +kernel)), by decide +kernel⟩
theorem kw_510 : (Jvm.Cond.selects "KeptLump" ({ cls := "KeptLump", name := "lump", desc := "(III)I" } : Jvm.MethodName) ({ cls := "KeptLump", name := "lump", desc := "(III)I" } : Jvm.MethodName)) ∈ kv_gw := List.mem_filter.mpr ⟨kv_tb2 (List.mem_of_getElem? (i := 202) (by decide +kernel)), by decide +kernel⟩
theorem kw_511 : (Jvm.Cond.code ({ cls := "KeptLump", name := "lump", desc := "(III)I" } : Jvm.MethodName) prog_1_method_2_code (7 : Nat) (Option.some Jvm.ClassFile.FieldType.int)) ∈ kv_gw := List.mem_filter.mpr ⟨kv_tb2 (List.mem_of_getElem? (i := 203) (by decide +kernel)), by decide +kernel⟩
theorem ko_K_lump : kv_okV kM_K_lump 3 := ⟨kw_509, kw_510, kw_69, kw_511, ⟨by decide, by decide⟩, by decide +kernel, by decide⟩
theorem kw_1326 : (Jvm.Cond.instanceMethod ({ cls := "KeptLumpModel", name := "lump", desc := "(III)I" } : Jvm.MethodName)) ∈ kv_gw := List.mem_filter.mpr ⟨kv_tb6 (List.mem_of_getElem? (i := 58) (by decide +kernel)), by decide +kernel⟩
theorem kw_1327 : (Jvm.Cond.selects "KeptLumpModel" ({ cls := "KeptLumpModel", name := "lump", desc := "(III)I" } : Jvm.MethodName) ({ cls := "KeptLumpModel", name := "lump", desc := "(III)I" } : Jvm.MethodName)) ∈ kv_gw := List.mem_filter.mpr ⟨kv_tb6 (List.mem_of_getElem? (i := 59) (by decide +kernel)), by decide +kernel⟩
theorem kw_1328 : (Jvm.Cond.code ({ cls := "KeptLumpModel", name := "lump", desc := "(III)I" } : Jvm.MethodName) prog_13_method_10_code (6 : Nat) (Option.some Jvm.ClassFile.FieldType.int)) ∈ kv_gw := List.mem_filter.mpr ⟨kv_tb6 (List.mem_of_getElem? (i := 60) (by decide +kernel)), by decide +kernel⟩
theorem ko_D_lump : kv_okV kM_D_lump 3 := ⟨kw_1326, kw_1327, kw_81, kw_1328, ⟨by decide, by decide⟩, by decide +kernel, by decide⟩
theorem kw_523 : (Jvm.Cond.methodLink "KeptLumpLaw" (26 : Nat) ({ cls := "KeptLump", name := "set", desc := "(III)I" } : Jvm.MethodName)) ∈ kv_gw := List.mem_filter.mpr ⟨kv_tb2 (List.mem_of_getElem? (i := 215) (by decide +kernel)), by decide +kernel⟩
theorem kw_1345 : (Jvm.Cond.methodLink "KeptLumpLaw" (29 : Nat) ({ cls := "KeptLumpModel", name := "set", desc := "(III)I" } : Jvm.MethodName)) ∈ kv_gw := List.mem_filter.mpr ⟨kv_tb6 (List.mem_of_getElem? (i := 77) (by decide +kernel)), by decide +kernel⟩
theorem kw_524 : (Jvm.Cond.instanceMethod ({ cls := "KeptLump", name := "set", desc := "(III)I" } : Jvm.MethodName)) ∈ kv_gw := List.mem_filter.mpr ⟨kv_tb2 (List.mem_of_getElem? (i := 216) (by decide +kernel)), by decide +kernel⟩
theorem kw_525 : (Jvm.Cond.selects "KeptLump" ({ cls := "KeptLump", name := "set", desc := "(III)I" } : Jvm.MethodName) ({ cls := "KeptLump", name := "set", desc := "(III)I" } : Jvm.MethodName)) ∈ kv_gw := List.mem_filter.mpr ⟨kv_tb2 (List.mem_of_getElem? (i := 217) (by decide +kernel)), by decide +kernel⟩
theorem kw_526 : (Jvm.Cond.code ({ cls := "KeptLump", name := "set", desc := "(III)I" } : Jvm.MethodName) prog_1_method_3_code (4 : Nat) (Option.some Jvm.ClassFile.FieldType.int)) ∈ kv_gw := List.mem_filter.mpr ⟨kv_tb2 (List.mem_of_getElem? (i := 218) (by decide +kernel)), by decide +kernel⟩
theorem ko_K_set : kv_okV kM_K_set 3 := ⟨kw_524, kw_525, kw_69, kw_526, ⟨by decide, by decide⟩, by decide +kernel, by decide⟩
theorem kw_1346 : (Jvm.Cond.instanceMethod ({ cls := "KeptLumpModel", name := "set", desc := "(III)I" } : Jvm.MethodName)) ∈ kv_gw := List.mem_filter.mpr ⟨kv_tb6 (List.mem_of_getElem? (i := 78) (by decide +kernel)), by decide +kernel⟩
theorem kw_1347 : (Jvm.Cond.selects "KeptLumpModel" ({ cls := "KeptLumpModel", name := "set", desc := "(III)I" } : Jvm.MethodName) ({ cls := "KeptLumpModel", name := "set", desc := "(III)I" } : Jvm.MethodName)) ∈ kv_gw := List.mem_filter.mpr ⟨kv_tb6 (List.mem_of_getElem? (i := 79) (by decide +kernel)), by decide +kernel⟩
theorem kw_1348 : (Jvm.Cond.code ({ cls := "KeptLumpModel", name := "set", desc := "(III)I" } : Jvm.MethodName) prog_13_method_11_code (4 : Nat) (Option.some Jvm.ClassFile.FieldType.int)) ∈ kv_gw := List.mem_filter.mpr ⟨kv_tb6 (List.mem_of_getElem? (i := 80) (by decide +kernel)), by decide +kernel⟩
theorem ko_D_set : kv_okV kM_D_set 3 := ⟨kw_1346, kw_1347, kw_81, kw_1348, ⟨by decide, by decide⟩, by decide +kernel, by decide⟩
theorem kw_539 : (Jvm.Cond.methodLink "KeptLumpLaw" (30 : Nat) ({ cls := "KeptLump", name := "of", desc := "(II)I" } : Jvm.MethodName)) ∈ kv_gw := List.mem_filter.mpr ⟨kv_tb2 (List.mem_of_getElem? (i := 231) (by decide +kernel)), by decide +kernel⟩
theorem kw_1358 : (Jvm.Cond.methodLink "KeptLumpLaw" (34 : Nat) ({ cls := "KeptLumpModel", name := "of", desc := "(II)I" } : Jvm.MethodName)) ∈ kv_gw := List.mem_filter.mpr ⟨kv_tb6 (List.mem_of_getElem? (i := 90) (by decide +kernel)), by decide +kernel⟩
theorem kw_540 : (Jvm.Cond.instanceMethod ({ cls := "KeptLump", name := "of", desc := "(II)I" } : Jvm.MethodName)) ∈ kv_gw := List.mem_filter.mpr ⟨kv_tb2 (List.mem_of_getElem? (i := 232) (by decide +kernel)), by decide +kernel⟩
theorem kw_541 : (Jvm.Cond.selects "KeptLump" ({ cls := "KeptLump", name := "of", desc := "(II)I" } : Jvm.MethodName) ({ cls := "KeptLump", name := "of", desc := "(II)I" } : Jvm.MethodName)) ∈ kv_gw := List.mem_filter.mpr ⟨kv_tb2 (List.mem_of_getElem? (i := 233) (by decide +kernel)), by decide +kernel⟩
theorem kw_542 : (Jvm.Cond.code ({ cls := "KeptLump", name := "of", desc := "(II)I" } : Jvm.MethodName) prog_1_method_4_code (4 : Nat) (Option.some Jvm.ClassFile.FieldType.int)) ∈ kv_gw := List.mem_filter.mpr ⟨kv_tb2 (List.mem_of_getElem? (i := 234) (by decide +kernel)), by decide +kernel⟩
theorem ko_K_of : kv_okV kM_K_of 2 := ⟨kw_540, kw_541, kw_69, kw_542, ⟨by decide, by decide⟩, by decide +kernel, by decide⟩
theorem kw_1359 : (Jvm.Cond.instanceMethod ({ cls := "KeptLumpModel", name := "of", desc := "(II)I" } : Jvm.MethodName)) ∈ kv_gw := List.mem_filter.mpr ⟨kv_tb6 (List.mem_of_getElem? (i := 91) (by decide +kernel)), by decide +kernel⟩
theorem kw_1360 : (Jvm.Cond.selects "KeptLumpModel" ({ cls := "KeptLumpModel", name := "of", desc := "(II)I" } : Jvm.MethodName) ({ cls := "KeptLumpModel", name := "of", desc := "(II)I" } : Jvm.MethodName)) ∈ kv_gw := List.mem_filter.mpr ⟨kv_tb6 (List.mem_of_getElem? (i := 92) (by decide +kernel)), by decide +kernel⟩
theorem kw_1361 : (Jvm.Cond.code ({ cls := "KeptLumpModel", name := "of", desc := "(II)I" } : Jvm.MethodName) prog_13_method_12_code (3 : Nat) (Option.some Jvm.ClassFile.FieldType.int)) ∈ kv_gw := List.mem_filter.mpr ⟨kv_tb6 (List.mem_of_getElem? (i := 93) (by decide +kernel)), by decide +kernel⟩
theorem ko_D_of : kv_okV kM_D_of 2 := ⟨kw_1359, kw_1360, kw_81, kw_1361, ⟨by decide, by decide⟩, by decide +kernel, by decide⟩
theorem kw_548 : (Jvm.Cond.methodLink "KeptLumpLaw" (35 : Nat) ({ cls := "KeptLump", name := "wash", desc := "(II)I" } : Jvm.MethodName)) ∈ kv_gw := List.mem_filter.mpr ⟨kv_tb3 (List.mem_of_getElem? (i := 0) (by decide +kernel)), by decide +kernel⟩
theorem kw_1367 : (Jvm.Cond.methodLink "KeptLumpLaw" (38 : Nat) ({ cls := "KeptLumpModel", name := "wash", desc := "(II)I" } : Jvm.MethodName)) ∈ kv_gw := List.mem_filter.mpr ⟨kv_tb6 (List.mem_of_getElem? (i := 99) (by decide +kernel)), by decide +kernel⟩
theorem kw_549 : (Jvm.Cond.instanceMethod ({ cls := "KeptLump", name := "wash", desc := "(II)I" } : Jvm.MethodName)) ∈ kv_gw := List.mem_filter.mpr ⟨kv_tb3 (List.mem_of_getElem? (i := 1) (by decide +kernel)), by decide +kernel⟩
theorem kw_550 : (Jvm.Cond.selects "KeptLump" ({ cls := "KeptLump", name := "wash", desc := "(II)I" } : Jvm.MethodName) ({ cls := "KeptLump", name := "wash", desc := "(II)I" } : Jvm.MethodName)) ∈ kv_gw := List.mem_filter.mpr ⟨kv_tb3 (List.mem_of_getElem? (i := 2) (by decide +kernel)), by decide +kernel⟩
theorem kw_551 : (Jvm.Cond.code ({ cls := "KeptLump", name := "wash", desc := "(II)I" } : Jvm.MethodName) prog_1_method_5_code (3 : Nat) (Option.some Jvm.ClassFile.FieldType.int)) ∈ kv_gw := List.mem_filter.mpr ⟨kv_tb3 (List.mem_of_getElem? (i := 3) (by decide +kernel)), by decide +kernel⟩
theorem ko_K_wash : kv_okV kM_K_wash 2 := ⟨kw_549, kw_550, kw_69, kw_551, ⟨by decide, by decide⟩, by decide +kernel, by decide⟩
theorem kw_1368 : (Jvm.Cond.instanceMethod ({ cls := "KeptLumpModel", name := "wash", desc := "(II)I" } : Jvm.MethodName)) ∈ kv_gw := List.mem_filter.mpr ⟨kv_tb6 (List.mem_of_getElem? (i := 100) (by decide +kernel)), by decide +kernel⟩
theorem kw_1369 : (Jvm.Cond.selects "KeptLumpModel" ({ cls := "KeptLumpModel", name := "wash", desc := "(II)I" } : Jvm.MethodName) ({ cls := "KeptLumpModel", name := "wash", desc := "(II)I" } : Jvm.MethodName)) ∈ kv_gw := List.mem_filter.mpr ⟨kv_tb6 (List.mem_of_getElem? (i := 101) (by decide +kernel)), by decide +kernel⟩
theorem kw_1370 : (Jvm.Cond.code ({ cls := "KeptLumpModel", name := "wash", desc := "(II)I" } : Jvm.MethodName) prog_13_method_13_code (4 : Nat) (Option.some Jvm.ClassFile.FieldType.int)) ∈ kv_gw := List.mem_filter.mpr ⟨kv_tb6 (List.mem_of_getElem? (i := 102) (by decide +kernel)), by decide +kernel⟩
theorem ko_D_wash : kv_okV kM_D_wash 2 := ⟨kw_1368, kw_1369, kw_81, kw_1370, ⟨by decide, by decide⟩, by decide +kernel, by decide⟩
theorem kw_556 : (Jvm.Cond.methodLink "KeptLumpLaw" (39 : Nat) ({ cls := "KeptLump", name := "go", desc := "(I)I" } : Jvm.MethodName)) ∈ kv_gw := List.mem_filter.mpr ⟨kv_tb3 (List.mem_of_getElem? (i := 8) (by decide +kernel)), by decide +kernel⟩
theorem kw_1371 : (Jvm.Cond.methodLink "KeptLumpLaw" (43 : Nat) ({ cls := "KeptLumpModel", name := "go", desc := "(I)I" } : Jvm.MethodName)) ∈ kv_gw := List.mem_filter.mpr ⟨kv_tb6 (List.mem_of_getElem? (i := 103) (by decide +kernel)), by decide +kernel⟩
theorem kw_557 : (Jvm.Cond.instanceMethod ({ cls := "KeptLump", name := "go", desc := "(I)I" } : Jvm.MethodName)) ∈ kv_gw := List.mem_filter.mpr ⟨kv_tb3 (List.mem_of_getElem? (i := 9) (by decide +kernel)), by decide +kernel⟩
theorem kw_558 : (Jvm.Cond.selects "KeptLump" ({ cls := "KeptLump", name := "go", desc := "(I)I" } : Jvm.MethodName) ({ cls := "KeptLump", name := "go", desc := "(I)I" } : Jvm.MethodName)) ∈ kv_gw := List.mem_filter.mpr ⟨kv_tb3 (List.mem_of_getElem? (i := 10) (by decide +kernel)), by decide +kernel⟩
theorem kw_559 : (Jvm.Cond.code ({ cls := "KeptLump", name := "go", desc := "(I)I" } : Jvm.MethodName) prog_1_method_6_code (3 : Nat) (Option.some Jvm.ClassFile.FieldType.int)) ∈ kv_gw := List.mem_filter.mpr ⟨kv_tb3 (List.mem_of_getElem? (i := 11) (by decide +kernel)), by decide +kernel⟩
theorem ko_K_go : kv_okV kM_K_go 1 := ⟨kw_557, kw_558, kw_69, kw_559, ⟨by decide, by decide⟩, by decide +kernel, by decide⟩
theorem kw_1372 : (Jvm.Cond.instanceMethod ({ cls := "KeptLumpModel", name := "go", desc := "(I)I" } : Jvm.MethodName)) ∈ kv_gw := List.mem_filter.mpr ⟨kv_tb6 (List.mem_of_getElem? (i := 104) (by decide +kernel)), by decide +kernel⟩
theorem kw_1373 : (Jvm.Cond.selects "KeptLumpModel" ({ cls := "KeptLumpModel", name := "go", desc := "(I)I" } : Jvm.MethodName) ({ cls := "KeptLumpModel", name := "go", desc := "(I)I" } : Jvm.MethodName)) ∈ kv_gw := List.mem_filter.mpr ⟨kv_tb6 (List.mem_of_getElem? (i := 105) (by decide +kernel)), by decide +kernel⟩
theorem kw_1374 : (Jvm.Cond.code ({ cls := "KeptLumpModel", name := "go", desc := "(I)I" } : Jvm.MethodName) prog_13_method_15_code (4 : Nat) (Option.some Jvm.ClassFile.FieldType.int)) ∈ kv_gw := List.mem_filter.mpr ⟨kv_tb6 (List.mem_of_getElem? (i := 106) (by decide +kernel)), by decide +kernel⟩
theorem ko_D_go : kv_okV kM_D_go 1 := ⟨kw_1372, kw_1373, kw_81, kw_1374, ⟨by decide, by decide⟩, by decide +kernel, by decide⟩
theorem kw_573 : (Jvm.Cond.methodLink "KeptLumpLaw" (44 : Nat) ({ cls := "KeptLump", name := "grows", desc := "(II)I" } : Jvm.MethodName)) ∈ kv_gw := List.mem_filter.mpr ⟨kv_tb3 (List.mem_of_getElem? (i := 25) (by decide +kernel)), by decide +kernel⟩
theorem kw_1381 : (Jvm.Cond.methodLink "KeptLumpLaw" (47 : Nat) ({ cls := "KeptLumpModel", name := "grows", desc := "(II)I" } : Jvm.MethodName)) ∈ kv_gw := List.mem_filter.mpr ⟨kv_tb6 (List.mem_of_getElem? (i := 113) (by decide +kernel)), by decide +kernel⟩
theorem kw_574 : (Jvm.Cond.instanceMethod ({ cls := "KeptLump", name := "grows", desc := "(II)I" } : Jvm.MethodName)) ∈ kv_gw := List.mem_filter.mpr ⟨kv_tb3 (List.mem_of_getElem? (i := 26) (by decide +kernel)), by decide +kernel⟩
theorem kw_575 : (Jvm.Cond.selects "KeptLump" ({ cls := "KeptLump", name := "grows", desc := "(II)I" } : Jvm.MethodName) ({ cls := "KeptLump", name := "grows", desc := "(II)I" } : Jvm.MethodName)) ∈ kv_gw := List.mem_filter.mpr ⟨kv_tb3 (List.mem_of_getElem? (i := 27) (by decide +kernel)), by decide +kernel⟩
theorem kw_576 : (Jvm.Cond.code ({ cls := "KeptLump", name := "grows", desc := "(II)I" } : Jvm.MethodName) prog_1_method_7_code (3 : Nat) (Option.some Jvm.ClassFile.FieldType.int)) ∈ kv_gw := List.mem_filter.mpr ⟨kv_tb3 (List.mem_of_getElem? (i := 28) (by decide +kernel)), by decide +kernel⟩
theorem ko_K_grows : kv_okV kM_K_grows 2 := ⟨kw_574, kw_575, kw_69, kw_576, ⟨by decide, by decide⟩, by decide +kernel, by decide⟩
theorem kw_1382 : (Jvm.Cond.instanceMethod ({ cls := "KeptLumpModel", name := "grows", desc := "(II)I" } : Jvm.MethodName)) ∈ kv_gw := List.mem_filter.mpr ⟨kv_tb6 (List.mem_of_getElem? (i := 114) (by decide +kernel)), by decide +kernel⟩
theorem kw_1383 : (Jvm.Cond.selects "KeptLumpModel" ({ cls := "KeptLumpModel", name := "grows", desc := "(II)I" } : Jvm.MethodName) ({ cls := "KeptLumpModel", name := "grows", desc := "(II)I" } : Jvm.MethodName)) ∈ kv_gw := List.mem_filter.mpr ⟨kv_tb6 (List.mem_of_getElem? (i := 115) (by decide +kernel)), by decide +kernel⟩
theorem kw_1384 : (Jvm.Cond.code ({ cls := "KeptLumpModel", name := "grows", desc := "(II)I" } : Jvm.MethodName) prog_13_method_16_code (3 : Nat) (Option.some Jvm.ClassFile.FieldType.int)) ∈ kv_gw := List.mem_filter.mpr ⟨kv_tb6 (List.mem_of_getElem? (i := 116) (by decide +kernel)), by decide +kernel⟩
theorem ko_D_grows : kv_okV kM_D_grows 2 := ⟨kw_1382, kw_1383, kw_81, kw_1384, ⟨by decide, by decide⟩, by decide +kernel, by decide⟩
theorem kw_581 : (Jvm.Cond.methodLink "KeptLumpLaw" (48 : Nat) ({ cls := "KeptLump", name := "seed", desc := "(I)I" } : Jvm.MethodName)) ∈ kv_gw := List.mem_filter.mpr ⟨kv_tb3 (List.mem_of_getElem? (i := 33) (by decide +kernel)), by decide +kernel⟩
theorem kw_1389 : (Jvm.Cond.methodLink "KeptLumpLaw" (51 : Nat) ({ cls := "KeptLumpModel", name := "seed", desc := "(I)I" } : Jvm.MethodName)) ∈ kv_gw := List.mem_filter.mpr ⟨kv_tb6 (List.mem_of_getElem? (i := 121) (by decide +kernel)), by decide +kernel⟩
theorem kw_582 : (Jvm.Cond.instanceMethod ({ cls := "KeptLump", name := "seed", desc := "(I)I" } : Jvm.MethodName)) ∈ kv_gw := List.mem_filter.mpr ⟨kv_tb3 (List.mem_of_getElem? (i := 34) (by decide +kernel)), by decide +kernel⟩
theorem kw_583 : (Jvm.Cond.selects "KeptLump" ({ cls := "KeptLump", name := "seed", desc := "(I)I" } : Jvm.MethodName) ({ cls := "KeptLump", name := "seed", desc := "(I)I" } : Jvm.MethodName)) ∈ kv_gw := List.mem_filter.mpr ⟨kv_tb3 (List.mem_of_getElem? (i := 35) (by decide +kernel)), by decide +kernel⟩
theorem kw_584 : (Jvm.Cond.code ({ cls := "KeptLump", name := "seed", desc := "(I)I" } : Jvm.MethodName) prog_1_method_8_code (3 : Nat) (Option.some Jvm.ClassFile.FieldType.int)) ∈ kv_gw := List.mem_filter.mpr ⟨kv_tb3 (List.mem_of_getElem? (i := 36) (by decide +kernel)), by decide +kernel⟩
theorem ko_K_seed : kv_okV kM_K_seed 1 := ⟨kw_582, kw_583, kw_69, kw_584, ⟨by decide, by decide⟩, by decide +kernel, by decide⟩
theorem kw_1390 : (Jvm.Cond.instanceMethod ({ cls := "KeptLumpModel", name := "seed", desc := "(I)I" } : Jvm.MethodName)) ∈ kv_gw := List.mem_filter.mpr ⟨kv_tb6 (List.mem_of_getElem? (i := 122) (by decide +kernel)), by decide +kernel⟩
theorem kw_1391 : (Jvm.Cond.selects "KeptLumpModel" ({ cls := "KeptLumpModel", name := "seed", desc := "(I)I" } : Jvm.MethodName) ({ cls := "KeptLumpModel", name := "seed", desc := "(I)I" } : Jvm.MethodName)) ∈ kv_gw := List.mem_filter.mpr ⟨kv_tb6 (List.mem_of_getElem? (i := 123) (by decide +kernel)), by decide +kernel⟩
theorem kw_1392 : (Jvm.Cond.code ({ cls := "KeptLumpModel", name := "seed", desc := "(I)I" } : Jvm.MethodName) prog_13_method_17_code (2 : Nat) (Option.some Jvm.ClassFile.FieldType.int)) ∈ kv_gw := List.mem_filter.mpr ⟨kv_tb6 (List.mem_of_getElem? (i := 124) (by decide +kernel)), by decide +kernel⟩
theorem ko_D_seed : kv_okV kM_D_seed 1 := ⟨kw_1390, kw_1391, kw_81, kw_1392, ⟨by decide, by decide⟩, by decide +kernel, by decide⟩
theorem kw_585 : (Jvm.Cond.methodLink "KeptLumpLaw" (52 : Nat) ({ cls := "KeptLump", name := "weigh", desc := "(IIII)I" } : Jvm.MethodName)) ∈ kv_gw := List.mem_filter.mpr ⟨kv_tb3 (List.mem_of_getElem? (i := 37) (by decide +kernel)), by decide +kernel⟩
theorem kw_1393 : (Jvm.Cond.methodLink "KeptLumpLaw" (56 : Nat) ({ cls := "KeptLumpModel", name := "weigh", desc := "(IIII)I" } : Jvm.MethodName)) ∈ kv_gw := List.mem_filter.mpr ⟨kv_tb6 (List.mem_of_getElem? (i := 125) (by decide +kernel)), by decide +kernel⟩
theorem kw_586 : (Jvm.Cond.instanceMethod ({ cls := "KeptLump", name := "weigh", desc := "(IIII)I" } : Jvm.MethodName)) ∈ kv_gw := List.mem_filter.mpr ⟨kv_tb3 (List.mem_of_getElem? (i := 38) (by decide +kernel)), by decide +kernel⟩
theorem kw_587 : (Jvm.Cond.selects "KeptLump" ({ cls := "KeptLump", name := "weigh", desc := "(IIII)I" } : Jvm.MethodName) ({ cls := "KeptLump", name := "weigh", desc := "(IIII)I" } : Jvm.MethodName)) ∈ kv_gw := List.mem_filter.mpr ⟨kv_tb3 (List.mem_of_getElem? (i := 39) (by decide +kernel)), by decide +kernel⟩
theorem kw_588 : (Jvm.Cond.code ({ cls := "KeptLump", name := "weigh", desc := "(IIII)I" } : Jvm.MethodName) prog_1_method_9_code (11 : Nat) (Option.some Jvm.ClassFile.FieldType.int)) ∈ kv_gw := List.mem_filter.mpr ⟨kv_tb3 (List.mem_of_getElem? (i := 40) (by decide +kernel)), by decide +kernel⟩
theorem ko_K_weigh : kv_okV kM_K_weigh 4 := ⟨kw_586, kw_587, kw_69, kw_588, ⟨by decide, by decide⟩, by decide +kernel, by decide⟩
theorem kw_1394 : (Jvm.Cond.instanceMethod ({ cls := "KeptLumpModel", name := "weigh", desc := "(IIII)I" } : Jvm.MethodName)) ∈ kv_gw := List.mem_filter.mpr ⟨kv_tb6 (List.mem_of_getElem? (i := 126) (by decide +kernel)), by decide +kernel⟩
theorem kw_1395 : (Jvm.Cond.selects "KeptLumpModel" ({ cls := "KeptLumpModel", name := "weigh", desc := "(IIII)I" } : Jvm.MethodName) ({ cls := "KeptLumpModel", name := "weigh", desc := "(IIII)I" } : Jvm.MethodName)) ∈ kv_gw := List.mem_filter.mpr ⟨kv_tb6 (List.mem_of_getElem? (i := 127) (by decide +kernel)), by decide +kernel⟩
theorem kw_1396 : (Jvm.Cond.code ({ cls := "KeptLumpModel", name := "weigh", desc := "(IIII)I" } : Jvm.MethodName) prog_13_method_20_code (7 : Nat) (Option.some Jvm.ClassFile.FieldType.int)) ∈ kv_gw := List.mem_filter.mpr ⟨kv_tb6 (List.mem_of_getElem? (i := 128) (by decide +kernel)), by decide +kernel⟩
theorem ko_D_weigh : kv_okV kM_D_weigh 4 := ⟨kw_1394, kw_1395, kw_81, kw_1396, ⟨by decide, by decide⟩, by decide +kernel, by decide⟩
theorem kw_616 : (Jvm.Cond.methodLink "KeptLumpLaw" (57 : Nat) ({ cls := "KeptLump", name := "hear", desc := "(I)I" } : Jvm.MethodName)) ∈ kv_gw := List.mem_filter.mpr ⟨kv_tb3 (List.mem_of_getElem? (i := 68) (by decide +kernel)), by decide +kernel⟩
theorem kw_1408 : (Jvm.Cond.methodLink "KeptLumpLaw" (60 : Nat) ({ cls := "KeptLumpModel", name := "hear", desc := "(I)I" } : Jvm.MethodName)) ∈ kv_gw := List.mem_filter.mpr ⟨kv_tb6 (List.mem_of_getElem? (i := 140) (by decide +kernel)), by decide +kernel⟩
theorem kw_617 : (Jvm.Cond.instanceMethod ({ cls := "KeptLump", name := "hear", desc := "(I)I" } : Jvm.MethodName)) ∈ kv_gw := List.mem_filter.mpr ⟨kv_tb3 (List.mem_of_getElem? (i := 69) (by decide +kernel)), by decide +kernel⟩
theorem kw_618 : (Jvm.Cond.selects "KeptLump" ({ cls := "KeptLump", name := "hear", desc := "(I)I" } : Jvm.MethodName) ({ cls := "KeptLump", name := "hear", desc := "(I)I" } : Jvm.MethodName)) ∈ kv_gw := List.mem_filter.mpr ⟨kv_tb3 (List.mem_of_getElem? (i := 70) (by decide +kernel)), by decide +kernel⟩
theorem kw_619 : (Jvm.Cond.code ({ cls := "KeptLump", name := "hear", desc := "(I)I" } : Jvm.MethodName) prog_1_method_10_code (6 : Nat) (Option.some Jvm.ClassFile.FieldType.int)) ∈ kv_gw := List.mem_filter.mpr ⟨kv_tb3 (List.mem_of_getElem? (i := 71) (by decide +kernel)), by decide +kernel⟩
theorem ko_K_hear : kv_okV kM_K_hear 1 := ⟨kw_617, kw_618, kw_69, kw_619, ⟨by decide, by decide⟩, by decide +kernel, by decide⟩
theorem kw_1409 : (Jvm.Cond.instanceMethod ({ cls := "KeptLumpModel", name := "hear", desc := "(I)I" } : Jvm.MethodName)) ∈ kv_gw := List.mem_filter.mpr ⟨kv_tb6 (List.mem_of_getElem? (i := 141) (by decide +kernel)), by decide +kernel⟩
theorem kw_1410 : (Jvm.Cond.selects "KeptLumpModel" ({ cls := "KeptLumpModel", name := "hear", desc := "(I)I" } : Jvm.MethodName) ({ cls := "KeptLumpModel", name := "hear", desc := "(I)I" } : Jvm.MethodName)) ∈ kv_gw := List.mem_filter.mpr ⟨kv_tb6 (List.mem_of_getElem? (i := 142) (by decide +kernel)), by decide +kernel⟩
theorem kw_1411 : (Jvm.Cond.code ({ cls := "KeptLumpModel", name := "hear", desc := "(I)I" } : Jvm.MethodName) prog_13_method_23_code (8 : Nat) (Option.some Jvm.ClassFile.FieldType.int)) ∈ kv_gw := List.mem_filter.mpr ⟨kv_tb6 (List.mem_of_getElem? (i := 143) (by decide +kernel)), by decide +kernel⟩
theorem ko_D_hear : kv_okV kM_D_hear 1 := ⟨kw_1409, kw_1410, kw_81, kw_1411, ⟨by decide, by decide⟩, by decide +kernel, by decide⟩
theorem kw_654 : (Jvm.Cond.methodLink "KeptLumpLaw" (61 : Nat) ({ cls := "KeptLump", name := "weighing", desc := "(II)I" } : Jvm.MethodName)) ∈ kv_gw := List.mem_filter.mpr ⟨kv_tb3 (List.mem_of_getElem? (i := 106) (by decide +kernel)), by decide +kernel⟩
theorem kw_1427 : (Jvm.Cond.methodLink "KeptLumpLaw" (64 : Nat) ({ cls := "KeptLumpModel", name := "weighing", desc := "(II)I" } : Jvm.MethodName)) ∈ kv_gw := List.mem_filter.mpr ⟨kv_tb6 (List.mem_of_getElem? (i := 159) (by decide +kernel)), by decide +kernel⟩
theorem kw_655 : (Jvm.Cond.instanceMethod ({ cls := "KeptLump", name := "weighing", desc := "(II)I" } : Jvm.MethodName)) ∈ kv_gw := List.mem_filter.mpr ⟨kv_tb3 (List.mem_of_getElem? (i := 107) (by decide +kernel)), by decide +kernel⟩
theorem kw_656 : (Jvm.Cond.selects "KeptLump" ({ cls := "KeptLump", name := "weighing", desc := "(II)I" } : Jvm.MethodName) ({ cls := "KeptLump", name := "weighing", desc := "(II)I" } : Jvm.MethodName)) ∈ kv_gw := List.mem_filter.mpr ⟨kv_tb3 (List.mem_of_getElem? (i := 108) (by decide +kernel)), by decide +kernel⟩
theorem kw_657 : (Jvm.Cond.code ({ cls := "KeptLump", name := "weighing", desc := "(II)I" } : Jvm.MethodName) prog_1_method_11_code (4 : Nat) (Option.some Jvm.ClassFile.FieldType.int)) ∈ kv_gw := List.mem_filter.mpr ⟨kv_tb3 (List.mem_of_getElem? (i := 109) (by decide +kernel)), by decide +kernel⟩
theorem ko_K_weighing : kv_okV kM_K_weighing 2 := ⟨kw_655, kw_656, kw_69, kw_657, ⟨by decide, by decide⟩, by decide +kernel, by decide⟩
theorem kw_1428 : (Jvm.Cond.instanceMethod ({ cls := "KeptLumpModel", name := "weighing", desc := "(II)I" } : Jvm.MethodName)) ∈ kv_gw := List.mem_filter.mpr ⟨kv_tb6 (List.mem_of_getElem? (i := 160) (by decide +kernel)), by decide +kernel⟩
theorem kw_1429 : (Jvm.Cond.selects "KeptLumpModel" ({ cls := "KeptLumpModel", name := "weighing", desc := "(II)I" } : Jvm.MethodName) ({ cls := "KeptLumpModel", name := "weighing", desc := "(II)I" } : Jvm.MethodName)) ∈ kv_gw := List.mem_filter.mpr ⟨kv_tb6 (List.mem_of_getElem? (i := 161) (by decide +kernel)), by decide +kernel⟩
theorem kw_1430 : (Jvm.Cond.code ({ cls := "KeptLumpModel", name := "weighing", desc := "(II)I" } : Jvm.MethodName) prog_13_method_26_code (3 : Nat) (Option.some Jvm.ClassFile.FieldType.int)) ∈ kv_gw := List.mem_filter.mpr ⟨kv_tb6 (List.mem_of_getElem? (i := 162) (by decide +kernel)), by decide +kernel⟩
theorem ko_D_weighing : kv_okV kM_D_weighing 2 := ⟨kw_1428, kw_1429, kw_81, kw_1430, ⟨by decide, by decide⟩, by decide +kernel, by decide⟩
theorem kw_666 : (Jvm.Cond.methodLink "KeptLumpLaw" (70 : Nat) ({ cls := "KeptLump", name := "touches", desc := "()I" } : Jvm.MethodName)) ∈ kv_gw := List.mem_filter.mpr ⟨kv_tb3 (List.mem_of_getElem? (i := 118) (by decide +kernel)), by decide +kernel⟩
theorem kw_1443 : (Jvm.Cond.methodLink "KeptLumpLaw" (74 : Nat) ({ cls := "KeptLumpModel", name := "touches", desc := "()I" } : Jvm.MethodName)) ∈ kv_gw := List.mem_filter.mpr ⟨kv_tb6 (List.mem_of_getElem? (i := 175) (by decide +kernel)), by decide +kernel⟩
theorem kw_667 : (Jvm.Cond.instanceMethod ({ cls := "KeptLump", name := "touches", desc := "()I" } : Jvm.MethodName)) ∈ kv_gw := List.mem_filter.mpr ⟨kv_tb3 (List.mem_of_getElem? (i := 119) (by decide +kernel)), by decide +kernel⟩
theorem kw_668 : (Jvm.Cond.selects "KeptLump" ({ cls := "KeptLump", name := "touches", desc := "()I" } : Jvm.MethodName) ({ cls := "KeptLump", name := "touches", desc := "()I" } : Jvm.MethodName)) ∈ kv_gw := List.mem_filter.mpr ⟨kv_tb3 (List.mem_of_getElem? (i := 120) (by decide +kernel)), by decide +kernel⟩
theorem kw_669 : (Jvm.Cond.code ({ cls := "KeptLump", name := "touches", desc := "()I" } : Jvm.MethodName) prog_1_method_13_code (1 : Nat) (Option.some Jvm.ClassFile.FieldType.int)) ∈ kv_gw := List.mem_filter.mpr ⟨kv_tb3 (List.mem_of_getElem? (i := 121) (by decide +kernel)), by decide +kernel⟩
theorem ko_K_touches : kv_okV kM_K_touches 0 := ⟨kw_667, kw_668, kw_69, kw_669, ⟨by decide, by decide⟩, by decide +kernel, by decide⟩
theorem kw_1444 : (Jvm.Cond.instanceMethod ({ cls := "KeptLumpModel", name := "touches", desc := "()I" } : Jvm.MethodName)) ∈ kv_gw := List.mem_filter.mpr ⟨kv_tb6 (List.mem_of_getElem? (i := 176) (by decide +kernel)), by decide +kernel⟩
theorem kw_1445 : (Jvm.Cond.selects "KeptLumpModel" ({ cls := "KeptLumpModel", name := "touches", desc := "()I" } : Jvm.MethodName) ({ cls := "KeptLumpModel", name := "touches", desc := "()I" } : Jvm.MethodName)) ∈ kv_gw := List.mem_filter.mpr ⟨kv_tb6 (List.mem_of_getElem? (i := 177) (by decide +kernel)), by decide +kernel⟩
theorem kw_1446 : (Jvm.Cond.code ({ cls := "KeptLumpModel", name := "touches", desc := "()I" } : Jvm.MethodName) prog_13_method_28_code (1 : Nat) (Option.some Jvm.ClassFile.FieldType.int)) ∈ kv_gw := List.mem_filter.mpr ⟨kv_tb6 (List.mem_of_getElem? (i := 178) (by decide +kernel)), by decide +kernel⟩
theorem ko_D_touches : kv_okV kM_D_touches 0 := ⟨kw_1444, kw_1445, kw_81, kw_1446, ⟨by decide, by decide⟩, by decide +kernel, by decide⟩
theorem kw_670 : (Jvm.Cond.methodLink "KeptLumpLaw" (75 : Nat) ({ cls := "KeptLump", name := "apart", desc := "(IIII)I" } : Jvm.MethodName)) ∈ kv_gw := List.mem_filter.mpr ⟨kv_tb3 (List.mem_of_getElem? (i := 122) (by decide +kernel)), by decide +kernel⟩
theorem kw_1447 : (Jvm.Cond.methodLink "KeptLumpLaw" (78 : Nat) ({ cls := "KeptLumpModel", name := "apart", desc := "(IIII)I" } : Jvm.MethodName)) ∈ kv_gw := List.mem_filter.mpr ⟨kv_tb6 (List.mem_of_getElem? (i := 179) (by decide +kernel)), by decide +kernel⟩
theorem kw_671 : (Jvm.Cond.instanceMethod ({ cls := "KeptLump", name := "apart", desc := "(IIII)I" } : Jvm.MethodName)) ∈ kv_gw := List.mem_filter.mpr ⟨kv_tb3 (List.mem_of_getElem? (i := 123) (by decide +kernel)), by decide +kernel⟩
theorem kw_672 : (Jvm.Cond.selects "KeptLump" ({ cls := "KeptLump", name := "apart", desc := "(IIII)I" } : Jvm.MethodName) ({ cls := "KeptLump", name := "apart", desc := "(IIII)I" } : Jvm.MethodName)) ∈ kv_gw := List.mem_filter.mpr ⟨kv_tb3 (List.mem_of_getElem? (i := 124) (by decide +kernel)), by decide +kernel⟩
theorem kw_673 : (Jvm.Cond.code ({ cls := "KeptLump", name := "apart", desc := "(IIII)I" } : Jvm.MethodName) prog_1_method_14_code (6 : Nat) (Option.some Jvm.ClassFile.FieldType.int)) ∈ kv_gw := List.mem_filter.mpr ⟨kv_tb3 (List.mem_of_getElem? (i := 125) (by decide +kernel)), by decide +kernel⟩
theorem ko_K_apart : kv_okV kM_K_apart 4 := ⟨kw_671, kw_672, kw_69, kw_673, ⟨by decide, by decide⟩, by decide +kernel, by decide⟩
theorem kw_1448 : (Jvm.Cond.instanceMethod ({ cls := "KeptLumpModel", name := "apart", desc := "(IIII)I" } : Jvm.MethodName)) ∈ kv_gw := List.mem_filter.mpr ⟨kv_tb6 (List.mem_of_getElem? (i := 180) (by decide +kernel)), by decide +kernel⟩
theorem kw_1449 : (Jvm.Cond.selects "KeptLumpModel" ({ cls := "KeptLumpModel", name := "apart", desc := "(IIII)I" } : Jvm.MethodName) ({ cls := "KeptLumpModel", name := "apart", desc := "(IIII)I" } : Jvm.MethodName)) ∈ kv_gw := List.mem_filter.mpr ⟨kv_tb6 (List.mem_of_getElem? (i := 181) (by decide +kernel)), by decide +kernel⟩
theorem kw_1450 : (Jvm.Cond.code ({ cls := "KeptLumpModel", name := "apart", desc := "(IIII)I" } : Jvm.MethodName) prog_13_method_36_code (5 : Nat) (Option.some Jvm.ClassFile.FieldType.int)) ∈ kv_gw := List.mem_filter.mpr ⟨kv_tb6 (List.mem_of_getElem? (i := 182) (by decide +kernel)), by decide +kernel⟩
theorem ko_D_apart : kv_okV kM_D_apart 4 := ⟨kw_1448, kw_1449, kw_81, kw_1450, ⟨by decide, by decide⟩, by decide +kernel, by decide⟩
theorem kw_730 : (Jvm.Cond.methodLink "KeptLumpLaw" (79 : Nat) ({ cls := "KeptLump", name := "longApart", desc := "(IIIII)I" } : Jvm.MethodName)) ∈ kv_gw := List.mem_filter.mpr ⟨kv_tb3 (List.mem_of_getElem? (i := 182) (by decide +kernel)), by decide +kernel⟩
theorem kw_1481 : (Jvm.Cond.methodLink "KeptLumpLaw" (83 : Nat) ({ cls := "KeptLumpModel", name := "longApart", desc := "(IIIII)I" } : Jvm.MethodName)) ∈ kv_gw := List.mem_filter.mpr ⟨kv_tb6 (List.mem_of_getElem? (i := 213) (by decide +kernel)), by decide +kernel⟩
theorem kw_731 : (Jvm.Cond.instanceMethod ({ cls := "KeptLump", name := "longApart", desc := "(IIIII)I" } : Jvm.MethodName)) ∈ kv_gw := List.mem_filter.mpr ⟨kv_tb3 (List.mem_of_getElem? (i := 183) (by decide +kernel)), by decide +kernel⟩
theorem kw_732 : (Jvm.Cond.selects "KeptLump" ({ cls := "KeptLump", name := "longApart", desc := "(IIIII)I" } : Jvm.MethodName) ({ cls := "KeptLump", name := "longApart", desc := "(IIIII)I" } : Jvm.MethodName)) ∈ kv_gw := List.mem_filter.mpr ⟨kv_tb3 (List.mem_of_getElem? (i := 184) (by decide +kernel)), by decide +kernel⟩
theorem kw_733 : (Jvm.Cond.code ({ cls := "KeptLump", name := "longApart", desc := "(IIIII)I" } : Jvm.MethodName) prog_1_method_15_code (7 : Nat) (Option.some Jvm.ClassFile.FieldType.int)) ∈ kv_gw := List.mem_filter.mpr ⟨kv_tb3 (List.mem_of_getElem? (i := 185) (by decide +kernel)), by decide +kernel⟩
theorem ko_K_longApart : kv_okV kM_K_longApart 5 := ⟨kw_731, kw_732, kw_69, kw_733, ⟨by decide, by decide⟩, by decide +kernel, by decide⟩
theorem kw_1482 : (Jvm.Cond.instanceMethod ({ cls := "KeptLumpModel", name := "longApart", desc := "(IIIII)I" } : Jvm.MethodName)) ∈ kv_gw := List.mem_filter.mpr ⟨kv_tb6 (List.mem_of_getElem? (i := 214) (by decide +kernel)), by decide +kernel⟩
theorem kw_1483 : (Jvm.Cond.selects "KeptLumpModel" ({ cls := "KeptLumpModel", name := "longApart", desc := "(IIIII)I" } : Jvm.MethodName) ({ cls := "KeptLumpModel", name := "longApart", desc := "(IIIII)I" } : Jvm.MethodName)) ∈ kv_gw := List.mem_filter.mpr ⟨kv_tb6 (List.mem_of_getElem? (i := 215) (by decide +kernel)), by decide +kernel⟩
theorem kw_1484 : (Jvm.Cond.code ({ cls := "KeptLumpModel", name := "longApart", desc := "(IIIII)I" } : Jvm.MethodName) prog_13_method_42_code (6 : Nat) (Option.some Jvm.ClassFile.FieldType.int)) ∈ kv_gw := List.mem_filter.mpr ⟨kv_tb6 (List.mem_of_getElem? (i := 216) (by decide +kernel)), by decide +kernel⟩
theorem ko_D_longApart : kv_okV kM_D_longApart 5 := ⟨kw_1482, kw_1483, kw_81, kw_1484, ⟨by decide, by decide⟩, by decide +kernel, by decide⟩
theorem kw_783 : (Jvm.Cond.methodLink "KeptLumpLaw" (84 : Nat) ({ cls := "KeptLump", name := "fits", desc := "(I)I" } : Jvm.MethodName)) ∈ kv_gw := List.mem_filter.mpr ⟨kv_tb3 (List.mem_of_getElem? (i := 235) (by decide +kernel)), by decide +kernel⟩
theorem kw_1501 : (Jvm.Cond.methodLink "KeptLumpLaw" (87 : Nat) ({ cls := "KeptLumpModel", name := "fits", desc := "(I)I" } : Jvm.MethodName)) ∈ kv_gw := List.mem_filter.mpr ⟨kv_tb6 (List.mem_of_getElem? (i := 233) (by decide +kernel)), by decide +kernel⟩
theorem kw_784 : (Jvm.Cond.instanceMethod ({ cls := "KeptLump", name := "fits", desc := "(I)I" } : Jvm.MethodName)) ∈ kv_gw := List.mem_filter.mpr ⟨kv_tb3 (List.mem_of_getElem? (i := 236) (by decide +kernel)), by decide +kernel⟩
theorem kw_785 : (Jvm.Cond.selects "KeptLump" ({ cls := "KeptLump", name := "fits", desc := "(I)I" } : Jvm.MethodName) ({ cls := "KeptLump", name := "fits", desc := "(I)I" } : Jvm.MethodName)) ∈ kv_gw := List.mem_filter.mpr ⟨kv_tb3 (List.mem_of_getElem? (i := 237) (by decide +kernel)), by decide +kernel⟩
theorem kw_786 : (Jvm.Cond.code ({ cls := "KeptLump", name := "fits", desc := "(I)I" } : Jvm.MethodName) prog_1_method_16_code (2 : Nat) (Option.some Jvm.ClassFile.FieldType.int)) ∈ kv_gw := List.mem_filter.mpr ⟨kv_tb3 (List.mem_of_getElem? (i := 238) (by decide +kernel)), by decide +kernel⟩
theorem ko_K_fits : kv_okV kM_K_fits 1 := ⟨kw_784, kw_785, kw_69, kw_786, ⟨by decide, by decide⟩, by decide +kernel, by decide⟩
theorem kw_1502 : (Jvm.Cond.instanceMethod ({ cls := "KeptLumpModel", name := "fits", desc := "(I)I" } : Jvm.MethodName)) ∈ kv_gw := List.mem_filter.mpr ⟨kv_tb6 (List.mem_of_getElem? (i := 234) (by decide +kernel)), by decide +kernel⟩
theorem kw_1503 : (Jvm.Cond.selects "KeptLumpModel" ({ cls := "KeptLumpModel", name := "fits", desc := "(I)I" } : Jvm.MethodName) ({ cls := "KeptLumpModel", name := "fits", desc := "(I)I" } : Jvm.MethodName)) ∈ kv_gw := List.mem_filter.mpr ⟨kv_tb6 (List.mem_of_getElem? (i := 235) (by decide +kernel)), by decide +kernel⟩
theorem kw_1504 : (Jvm.Cond.code ({ cls := "KeptLumpModel", name := "fits", desc := "(I)I" } : Jvm.MethodName) prog_13_method_43_code (2 : Nat) (Option.some Jvm.ClassFile.FieldType.int)) ∈ kv_gw := List.mem_filter.mpr ⟨kv_tb6 (List.mem_of_getElem? (i := 236) (by decide +kernel)), by decide +kernel⟩
theorem ko_D_fits : kv_okV kM_D_fits 1 := ⟨kw_1502, kw_1503, kw_81, kw_1504, ⟨by decide, by decide⟩, by decide +kernel, by decide⟩
theorem kw_791 : (Jvm.Cond.methodLink "KeptLumpLaw" (88 : Nat) ({ cls := "KeptLump", name := "needed", desc := "()I" } : Jvm.MethodName)) ∈ kv_gw := List.mem_filter.mpr ⟨kv_tb4 (List.mem_of_getElem? (i := 3) (by decide +kernel)), by decide +kernel⟩
theorem kw_1509 : (Jvm.Cond.methodLink "KeptLumpLaw" (91 : Nat) ({ cls := "KeptLumpModel", name := "needed", desc := "()I" } : Jvm.MethodName)) ∈ kv_gw := List.mem_filter.mpr ⟨kv_tb7 (List.mem_of_getElem? (i := 1) (by decide +kernel)), by decide +kernel⟩
theorem kw_792 : (Jvm.Cond.instanceMethod ({ cls := "KeptLump", name := "needed", desc := "()I" } : Jvm.MethodName)) ∈ kv_gw := List.mem_filter.mpr ⟨kv_tb4 (List.mem_of_getElem? (i := 4) (by decide +kernel)), by decide +kernel⟩
theorem kw_793 : (Jvm.Cond.selects "KeptLump" ({ cls := "KeptLump", name := "needed", desc := "()I" } : Jvm.MethodName) ({ cls := "KeptLump", name := "needed", desc := "()I" } : Jvm.MethodName)) ∈ kv_gw := List.mem_filter.mpr ⟨kv_tb4 (List.mem_of_getElem? (i := 5) (by decide +kernel)), by decide +kernel⟩
theorem kw_794 : (Jvm.Cond.code ({ cls := "KeptLump", name := "needed", desc := "()I" } : Jvm.MethodName) prog_1_method_17_code (3 : Nat) (Option.some Jvm.ClassFile.FieldType.int)) ∈ kv_gw := List.mem_filter.mpr ⟨kv_tb4 (List.mem_of_getElem? (i := 6) (by decide +kernel)), by decide +kernel⟩
theorem ko_K_needed : kv_okV kM_K_needed 0 := ⟨kw_792, kw_793, kw_69, kw_794, ⟨by decide, by decide⟩, by decide +kernel, by decide⟩
theorem kw_1510 : (Jvm.Cond.instanceMethod ({ cls := "KeptLumpModel", name := "needed", desc := "()I" } : Jvm.MethodName)) ∈ kv_gw := List.mem_filter.mpr ⟨kv_tb7 (List.mem_of_getElem? (i := 2) (by decide +kernel)), by decide +kernel⟩
theorem kw_1511 : (Jvm.Cond.selects "KeptLumpModel" ({ cls := "KeptLumpModel", name := "needed", desc := "()I" } : Jvm.MethodName) ({ cls := "KeptLumpModel", name := "needed", desc := "()I" } : Jvm.MethodName)) ∈ kv_gw := List.mem_filter.mpr ⟨kv_tb7 (List.mem_of_getElem? (i := 3) (by decide +kernel)), by decide +kernel⟩
theorem kw_1512 : (Jvm.Cond.code ({ cls := "KeptLumpModel", name := "needed", desc := "()I" } : Jvm.MethodName) prog_13_method_44_code (3 : Nat) (Option.some Jvm.ClassFile.FieldType.int)) ∈ kv_gw := List.mem_filter.mpr ⟨kv_tb7 (List.mem_of_getElem? (i := 4) (by decide +kernel)), by decide +kernel⟩
theorem ko_D_needed : kv_okV kM_D_needed 0 := ⟨kw_1510, kw_1511, kw_81, kw_1512, ⟨by decide, by decide⟩, by decide +kernel, by decide⟩
theorem kw_799 : (Jvm.Cond.methodLink "KeptLumpLaw" (92 : Nat) ({ cls := "KeptLump", name := "swapped", desc := "(II)I" } : Jvm.MethodName)) ∈ kv_gw := List.mem_filter.mpr ⟨kv_tb4 (List.mem_of_getElem? (i := 11) (by decide +kernel)), by decide +kernel⟩
theorem kw_1513 : (Jvm.Cond.methodLink "KeptLumpLaw" (95 : Nat) ({ cls := "KeptLumpModel", name := "swapped", desc := "(II)I" } : Jvm.MethodName)) ∈ kv_gw := List.mem_filter.mpr ⟨kv_tb7 (List.mem_of_getElem? (i := 5) (by decide +kernel)), by decide +kernel⟩
theorem kw_800 : (Jvm.Cond.instanceMethod ({ cls := "KeptLump", name := "swapped", desc := "(II)I" } : Jvm.MethodName)) ∈ kv_gw := List.mem_filter.mpr ⟨kv_tb4 (List.mem_of_getElem? (i := 12) (by decide +kernel)), by decide +kernel⟩
theorem kw_801 : (Jvm.Cond.selects "KeptLump" ({ cls := "KeptLump", name := "swapped", desc := "(II)I" } : Jvm.MethodName) ({ cls := "KeptLump", name := "swapped", desc := "(II)I" } : Jvm.MethodName)) ∈ kv_gw := List.mem_filter.mpr ⟨kv_tb4 (List.mem_of_getElem? (i := 13) (by decide +kernel)), by decide +kernel⟩
theorem kw_802 : (Jvm.Cond.code ({ cls := "KeptLump", name := "swapped", desc := "(II)I" } : Jvm.MethodName) prog_1_method_18_code (6 : Nat) (Option.some Jvm.ClassFile.FieldType.int)) ∈ kv_gw := List.mem_filter.mpr ⟨kv_tb4 (List.mem_of_getElem? (i := 14) (by decide +kernel)), by decide +kernel⟩
theorem ko_K_swapped : kv_okV kM_K_swapped 2 := ⟨kw_800, kw_801, kw_69, kw_802, ⟨by decide, by decide⟩, by decide +kernel, by decide⟩
theorem kw_1514 : (Jvm.Cond.instanceMethod ({ cls := "KeptLumpModel", name := "swapped", desc := "(II)I" } : Jvm.MethodName)) ∈ kv_gw := List.mem_filter.mpr ⟨kv_tb7 (List.mem_of_getElem? (i := 6) (by decide +kernel)), by decide +kernel⟩
theorem kw_1515 : (Jvm.Cond.selects "KeptLumpModel" ({ cls := "KeptLumpModel", name := "swapped", desc := "(II)I" } : Jvm.MethodName) ({ cls := "KeptLumpModel", name := "swapped", desc := "(II)I" } : Jvm.MethodName)) ∈ kv_gw := List.mem_filter.mpr ⟨kv_tb7 (List.mem_of_getElem? (i := 7) (by decide +kernel)), by decide +kernel⟩
theorem kw_1516 : (Jvm.Cond.code ({ cls := "KeptLumpModel", name := "swapped", desc := "(II)I" } : Jvm.MethodName) prog_13_method_46_code (5 : Nat) (Option.some Jvm.ClassFile.FieldType.int)) ∈ kv_gw := List.mem_filter.mpr ⟨kv_tb7 (List.mem_of_getElem? (i := 8) (by decide +kernel)), by decide +kernel⟩
theorem ko_D_swapped : kv_okV kM_D_swapped 2 := ⟨kw_1514, kw_1515, kw_81, kw_1516, ⟨by decide, by decide⟩, by decide +kernel, by decide⟩
theorem kw_812 : (Jvm.Cond.methodLink "KeptLumpLaw" (96 : Nat) ({ cls := "KeptLump", name := "stories", desc := "(IIII)I" } : Jvm.MethodName)) ∈ kv_gw := List.mem_filter.mpr ⟨kv_tb4 (List.mem_of_getElem? (i := 24) (by decide +kernel)), by decide +kernel⟩
theorem kw_1521 : (Jvm.Cond.methodLink "KeptLumpLaw" (99 : Nat) ({ cls := "KeptLumpModel", name := "stories", desc := "(IIII)I" } : Jvm.MethodName)) ∈ kv_gw := List.mem_filter.mpr ⟨kv_tb7 (List.mem_of_getElem? (i := 13) (by decide +kernel)), by decide +kernel⟩
theorem kw_813 : (Jvm.Cond.instanceMethod ({ cls := "KeptLump", name := "stories", desc := "(IIII)I" } : Jvm.MethodName)) ∈ kv_gw := List.mem_filter.mpr ⟨kv_tb4 (List.mem_of_getElem? (i := 25) (by decide +kernel)), by decide +kernel⟩
theorem kw_814 : (Jvm.Cond.selects "KeptLump" ({ cls := "KeptLump", name := "stories", desc := "(IIII)I" } : Jvm.MethodName) ({ cls := "KeptLump", name := "stories", desc := "(IIII)I" } : Jvm.MethodName)) ∈ kv_gw := List.mem_filter.mpr ⟨kv_tb4 (List.mem_of_getElem? (i := 26) (by decide +kernel)), by decide +kernel⟩
theorem kw_815 : (Jvm.Cond.code ({ cls := "KeptLump", name := "stories", desc := "(IIII)I" } : Jvm.MethodName) prog_1_method_19_code (11 : Nat) (Option.some Jvm.ClassFile.FieldType.int)) ∈ kv_gw := List.mem_filter.mpr ⟨kv_tb4 (List.mem_of_getElem? (i := 27) (by decide +kernel)), by decide +kernel⟩
theorem ko_K_stories : kv_okV kM_K_stories 4 := ⟨kw_813, kw_814, kw_69, kw_815, ⟨by decide, by decide⟩, by decide +kernel, by decide⟩
theorem kw_1522 : (Jvm.Cond.instanceMethod ({ cls := "KeptLumpModel", name := "stories", desc := "(IIII)I" } : Jvm.MethodName)) ∈ kv_gw := List.mem_filter.mpr ⟨kv_tb7 (List.mem_of_getElem? (i := 14) (by decide +kernel)), by decide +kernel⟩
theorem kw_1523 : (Jvm.Cond.selects "KeptLumpModel" ({ cls := "KeptLumpModel", name := "stories", desc := "(IIII)I" } : Jvm.MethodName) ({ cls := "KeptLumpModel", name := "stories", desc := "(IIII)I" } : Jvm.MethodName)) ∈ kv_gw := List.mem_filter.mpr ⟨kv_tb7 (List.mem_of_getElem? (i := 15) (by decide +kernel)), by decide +kernel⟩
theorem kw_1524 : (Jvm.Cond.code ({ cls := "KeptLumpModel", name := "stories", desc := "(IIII)I" } : Jvm.MethodName) prog_13_method_49_code (10 : Nat) (Option.some Jvm.ClassFile.FieldType.int)) ∈ kv_gw := List.mem_filter.mpr ⟨kv_tb7 (List.mem_of_getElem? (i := 16) (by decide +kernel)), by decide +kernel⟩
theorem ko_D_stories : kv_okV kM_D_stories 4 := ⟨kw_1522, kw_1523, kw_81, kw_1524, ⟨by decide, by decide⟩, by decide +kernel, by decide⟩
theorem kw_837 : (Jvm.Cond.methodLink "KeptLumpLaw" (100 : Nat) ({ cls := "KeptLump", name := "words", desc := "(I)I" } : Jvm.MethodName)) ∈ kv_gw := List.mem_filter.mpr ⟨kv_tb4 (List.mem_of_getElem? (i := 49) (by decide +kernel)), by decide +kernel⟩
theorem kw_1533 : (Jvm.Cond.methodLink "KeptLumpLaw" (103 : Nat) ({ cls := "KeptLumpModel", name := "words", desc := "(I)I" } : Jvm.MethodName)) ∈ kv_gw := List.mem_filter.mpr ⟨kv_tb7 (List.mem_of_getElem? (i := 25) (by decide +kernel)), by decide +kernel⟩
theorem kw_838 : (Jvm.Cond.instanceMethod ({ cls := "KeptLump", name := "words", desc := "(I)I" } : Jvm.MethodName)) ∈ kv_gw := List.mem_filter.mpr ⟨kv_tb4 (List.mem_of_getElem? (i := 50) (by decide +kernel)), by decide +kernel⟩
theorem kw_839 : (Jvm.Cond.selects "KeptLump" ({ cls := "KeptLump", name := "words", desc := "(I)I" } : Jvm.MethodName) ({ cls := "KeptLump", name := "words", desc := "(I)I" } : Jvm.MethodName)) ∈ kv_gw := List.mem_filter.mpr ⟨kv_tb4 (List.mem_of_getElem? (i := 51) (by decide +kernel)), by decide +kernel⟩
theorem kw_840 : (Jvm.Cond.code ({ cls := "KeptLump", name := "words", desc := "(I)I" } : Jvm.MethodName) prog_1_method_20_code (4 : Nat) (Option.some Jvm.ClassFile.FieldType.int)) ∈ kv_gw := List.mem_filter.mpr ⟨kv_tb4 (List.mem_of_getElem? (i := 52) (by decide +kernel)), by decide +kernel⟩
theorem ko_K_words : kv_okV kM_K_words 1 := ⟨kw_838, kw_839, kw_69, kw_840, ⟨by decide, by decide⟩, by decide +kernel, by decide⟩
theorem kw_1534 : (Jvm.Cond.instanceMethod ({ cls := "KeptLumpModel", name := "words", desc := "(I)I" } : Jvm.MethodName)) ∈ kv_gw := List.mem_filter.mpr ⟨kv_tb7 (List.mem_of_getElem? (i := 26) (by decide +kernel)), by decide +kernel⟩
theorem kw_1535 : (Jvm.Cond.selects "KeptLumpModel" ({ cls := "KeptLumpModel", name := "words", desc := "(I)I" } : Jvm.MethodName) ({ cls := "KeptLumpModel", name := "words", desc := "(I)I" } : Jvm.MethodName)) ∈ kv_gw := List.mem_filter.mpr ⟨kv_tb7 (List.mem_of_getElem? (i := 27) (by decide +kernel)), by decide +kernel⟩
theorem kw_1536 : (Jvm.Cond.code ({ cls := "KeptLumpModel", name := "words", desc := "(I)I" } : Jvm.MethodName) prog_13_method_59_code (5 : Nat) (Option.some Jvm.ClassFile.FieldType.int)) ∈ kv_gw := List.mem_filter.mpr ⟨kv_tb7 (List.mem_of_getElem? (i := 28) (by decide +kernel)), by decide +kernel⟩
theorem ko_D_words : kv_okV kM_D_words 1 := ⟨kw_1534, kw_1535, kw_81, kw_1536, ⟨by decide, by decide⟩, by decide +kernel, by decide⟩
theorem kw_907 : (Jvm.Cond.methodLink "KeptLumpLaw" (104 : Nat) ({ cls := "KeptLump", name := "one", desc := "()I" } : Jvm.MethodName)) ∈ kv_gw := List.mem_filter.mpr ⟨kv_tb4 (List.mem_of_getElem? (i := 119) (by decide +kernel)), by decide +kernel⟩
theorem kw_1574 : (Jvm.Cond.methodLink "KeptLumpLaw" (107 : Nat) ({ cls := "KeptLumpModel", name := "one", desc := "()I" } : Jvm.MethodName)) ∈ kv_gw := List.mem_filter.mpr ⟨kv_tb7 (List.mem_of_getElem? (i := 66) (by decide +kernel)), by decide +kernel⟩
theorem kw_908 : (Jvm.Cond.instanceMethod ({ cls := "KeptLump", name := "one", desc := "()I" } : Jvm.MethodName)) ∈ kv_gw := List.mem_filter.mpr ⟨kv_tb4 (List.mem_of_getElem? (i := 120) (by decide +kernel)), by decide +kernel⟩
theorem kw_909 : (Jvm.Cond.selects "KeptLump" ({ cls := "KeptLump", name := "one", desc := "()I" } : Jvm.MethodName) ({ cls := "KeptLump", name := "one", desc := "()I" } : Jvm.MethodName)) ∈ kv_gw := List.mem_filter.mpr ⟨kv_tb4 (List.mem_of_getElem? (i := 121) (by decide +kernel)), by decide +kernel⟩
theorem kw_910 : (Jvm.Cond.code ({ cls := "KeptLump", name := "one", desc := "()I" } : Jvm.MethodName) prog_1_method_21_code (1 : Nat) (Option.some Jvm.ClassFile.FieldType.int)) ∈ kv_gw := List.mem_filter.mpr ⟨kv_tb4 (List.mem_of_getElem? (i := 122) (by decide +kernel)), by decide +kernel⟩
theorem ko_K_one : kv_okV kM_K_one 0 := ⟨kw_908, kw_909, kw_69, kw_910, ⟨by decide, by decide⟩, by decide +kernel, by decide⟩
theorem kw_1575 : (Jvm.Cond.instanceMethod ({ cls := "KeptLumpModel", name := "one", desc := "()I" } : Jvm.MethodName)) ∈ kv_gw := List.mem_filter.mpr ⟨kv_tb7 (List.mem_of_getElem? (i := 67) (by decide +kernel)), by decide +kernel⟩
theorem kw_1576 : (Jvm.Cond.selects "KeptLumpModel" ({ cls := "KeptLumpModel", name := "one", desc := "()I" } : Jvm.MethodName) ({ cls := "KeptLumpModel", name := "one", desc := "()I" } : Jvm.MethodName)) ∈ kv_gw := List.mem_filter.mpr ⟨kv_tb7 (List.mem_of_getElem? (i := 68) (by decide +kernel)), by decide +kernel⟩
theorem kw_1577 : (Jvm.Cond.code ({ cls := "KeptLumpModel", name := "one", desc := "()I" } : Jvm.MethodName) prog_13_method_66_code (1 : Nat) (Option.some Jvm.ClassFile.FieldType.int)) ∈ kv_gw := List.mem_filter.mpr ⟨kv_tb7 (List.mem_of_getElem? (i := 69) (by decide +kernel)), by decide +kernel⟩
theorem ko_D_one : kv_okV kM_D_one 0 := ⟨kw_1575, kw_1576, kw_81, kw_1577, ⟨by decide, by decide⟩, by decide +kernel, by decide⟩
theorem kw_911 : (Jvm.Cond.methodLink "KeptLumpLaw" (108 : Nat) ({ cls := "KeptLump", name := "worth", desc := "(I)I" } : Jvm.MethodName)) ∈ kv_gw := List.mem_filter.mpr ⟨kv_tb4 (List.mem_of_getElem? (i := 123) (by decide +kernel)), by decide +kernel⟩
theorem kw_1602 : (Jvm.Cond.methodLink "KeptLumpLaw" (111 : Nat) ({ cls := "KeptLumpModel", name := "worth", desc := "(I)I" } : Jvm.MethodName)) ∈ kv_gw := List.mem_filter.mpr ⟨kv_tb7 (List.mem_of_getElem? (i := 94) (by decide +kernel)), by decide +kernel⟩
theorem kw_912 : (Jvm.Cond.instanceMethod ({ cls := "KeptLump", name := "worth", desc := "(I)I" } : Jvm.MethodName)) ∈ kv_gw := List.mem_filter.mpr ⟨kv_tb4 (List.mem_of_getElem? (i := 124) (by decide +kernel)), by decide +kernel⟩
theorem kw_913 : (Jvm.Cond.selects "KeptLump" ({ cls := "KeptLump", name := "worth", desc := "(I)I" } : Jvm.MethodName) ({ cls := "KeptLump", name := "worth", desc := "(I)I" } : Jvm.MethodName)) ∈ kv_gw := List.mem_filter.mpr ⟨kv_tb4 (List.mem_of_getElem? (i := 125) (by decide +kernel)), by decide +kernel⟩
theorem kw_914 : (Jvm.Cond.code ({ cls := "KeptLump", name := "worth", desc := "(I)I" } : Jvm.MethodName) prog_1_method_22_code (2 : Nat) (Option.some Jvm.ClassFile.FieldType.int)) ∈ kv_gw := List.mem_filter.mpr ⟨kv_tb4 (List.mem_of_getElem? (i := 126) (by decide +kernel)), by decide +kernel⟩
theorem ko_K_worth : kv_okV kM_K_worth 1 := ⟨kw_912, kw_913, kw_69, kw_914, ⟨by decide, by decide⟩, by decide +kernel, by decide⟩
theorem kw_1603 : (Jvm.Cond.instanceMethod ({ cls := "KeptLumpModel", name := "worth", desc := "(I)I" } : Jvm.MethodName)) ∈ kv_gw := List.mem_filter.mpr ⟨kv_tb7 (List.mem_of_getElem? (i := 95) (by decide +kernel)), by decide +kernel⟩
theorem kw_1604 : (Jvm.Cond.selects "KeptLumpModel" ({ cls := "KeptLumpModel", name := "worth", desc := "(I)I" } : Jvm.MethodName) ({ cls := "KeptLumpModel", name := "worth", desc := "(I)I" } : Jvm.MethodName)) ∈ kv_gw := List.mem_filter.mpr ⟨kv_tb7 (List.mem_of_getElem? (i := 96) (by decide +kernel)), by decide +kernel⟩
theorem kw_1605 : (Jvm.Cond.code ({ cls := "KeptLumpModel", name := "worth", desc := "(I)I" } : Jvm.MethodName) prog_13_method_67_code (2 : Nat) (Option.some Jvm.ClassFile.FieldType.int)) ∈ kv_gw := List.mem_filter.mpr ⟨kv_tb7 (List.mem_of_getElem? (i := 97) (by decide +kernel)), by decide +kernel⟩
theorem ko_D_worth : kv_okV kM_D_worth 1 := ⟨kw_1603, kw_1604, kw_81, kw_1605, ⟨by decide, by decide⟩, by decide +kernel, by decide⟩
theorem kw_915 : (Jvm.Cond.methodLink "KeptLumpLaw" (112 : Nat) ({ cls := "KeptLump", name := "moves", desc := "(II)I" } : Jvm.MethodName)) ∈ kv_gw := List.mem_filter.mpr ⟨kv_tb4 (List.mem_of_getElem? (i := 127) (by decide +kernel)), by decide +kernel⟩
theorem kw_1606 : (Jvm.Cond.methodLink "KeptLumpLaw" (115 : Nat) ({ cls := "KeptLumpModel", name := "moves", desc := "(II)I" } : Jvm.MethodName)) ∈ kv_gw := List.mem_filter.mpr ⟨kv_tb7 (List.mem_of_getElem? (i := 98) (by decide +kernel)), by decide +kernel⟩
theorem kw_916 : (Jvm.Cond.instanceMethod ({ cls := "KeptLump", name := "moves", desc := "(II)I" } : Jvm.MethodName)) ∈ kv_gw := List.mem_filter.mpr ⟨kv_tb4 (List.mem_of_getElem? (i := 128) (by decide +kernel)), by decide +kernel⟩
theorem kw_917 : (Jvm.Cond.selects "KeptLump" ({ cls := "KeptLump", name := "moves", desc := "(II)I" } : Jvm.MethodName) ({ cls := "KeptLump", name := "moves", desc := "(II)I" } : Jvm.MethodName)) ∈ kv_gw := List.mem_filter.mpr ⟨kv_tb4 (List.mem_of_getElem? (i := 129) (by decide +kernel)), by decide +kernel⟩
theorem kw_918 : (Jvm.Cond.code ({ cls := "KeptLump", name := "moves", desc := "(II)I" } : Jvm.MethodName) prog_1_method_23_code (6 : Nat) (Option.some Jvm.ClassFile.FieldType.int)) ∈ kv_gw := List.mem_filter.mpr ⟨kv_tb4 (List.mem_of_getElem? (i := 130) (by decide +kernel)), by decide +kernel⟩
theorem ko_K_moves : kv_okV kM_K_moves 2 := ⟨kw_916, kw_917, kw_69, kw_918, ⟨by decide, by decide⟩, by decide +kernel, by decide⟩
theorem kw_1607 : (Jvm.Cond.instanceMethod ({ cls := "KeptLumpModel", name := "moves", desc := "(II)I" } : Jvm.MethodName)) ∈ kv_gw := List.mem_filter.mpr ⟨kv_tb7 (List.mem_of_getElem? (i := 99) (by decide +kernel)), by decide +kernel⟩
theorem kw_1608 : (Jvm.Cond.selects "KeptLumpModel" ({ cls := "KeptLumpModel", name := "moves", desc := "(II)I" } : Jvm.MethodName) ({ cls := "KeptLumpModel", name := "moves", desc := "(II)I" } : Jvm.MethodName)) ∈ kv_gw := List.mem_filter.mpr ⟨kv_tb7 (List.mem_of_getElem? (i := 100) (by decide +kernel)), by decide +kernel⟩
theorem kw_1609 : (Jvm.Cond.code ({ cls := "KeptLumpModel", name := "moves", desc := "(II)I" } : Jvm.MethodName) prog_13_method_68_code (5 : Nat) (Option.some Jvm.ClassFile.FieldType.int)) ∈ kv_gw := List.mem_filter.mpr ⟨kv_tb7 (List.mem_of_getElem? (i := 101) (by decide +kernel)), by decide +kernel⟩
theorem ko_D_moves : kv_okV kM_D_moves 2 := ⟨kw_1607, kw_1608, kw_81, kw_1609, ⟨by decide, by decide⟩, by decide +kernel, by decide⟩
theorem kw_920 : (Jvm.Cond.methodLink "KeptLumpLaw" (116 : Nat) ({ cls := "KeptLump", name := "link", desc := "(IIII)I" } : Jvm.MethodName)) ∈ kv_gw := List.mem_filter.mpr ⟨kv_tb4 (List.mem_of_getElem? (i := 132) (by decide +kernel)), by decide +kernel⟩
theorem kw_1611 : (Jvm.Cond.methodLink "KeptLumpLaw" (119 : Nat) ({ cls := "KeptLumpModel", name := "link", desc := "(IIII)I" } : Jvm.MethodName)) ∈ kv_gw := List.mem_filter.mpr ⟨kv_tb7 (List.mem_of_getElem? (i := 103) (by decide +kernel)), by decide +kernel⟩
theorem kw_921 : (Jvm.Cond.instanceMethod ({ cls := "KeptLump", name := "link", desc := "(IIII)I" } : Jvm.MethodName)) ∈ kv_gw := List.mem_filter.mpr ⟨kv_tb4 (List.mem_of_getElem? (i := 133) (by decide +kernel)), by decide +kernel⟩
theorem kw_922 : (Jvm.Cond.selects "KeptLump" ({ cls := "KeptLump", name := "link", desc := "(IIII)I" } : Jvm.MethodName) ({ cls := "KeptLump", name := "link", desc := "(IIII)I" } : Jvm.MethodName)) ∈ kv_gw := List.mem_filter.mpr ⟨kv_tb4 (List.mem_of_getElem? (i := 134) (by decide +kernel)), by decide +kernel⟩
theorem kw_923 : (Jvm.Cond.code ({ cls := "KeptLump", name := "link", desc := "(IIII)I" } : Jvm.MethodName) prog_1_method_24_code (5 : Nat) (Option.some Jvm.ClassFile.FieldType.int)) ∈ kv_gw := List.mem_filter.mpr ⟨kv_tb4 (List.mem_of_getElem? (i := 135) (by decide +kernel)), by decide +kernel⟩
theorem ko_K_link : kv_okV kM_K_link 4 := ⟨kw_921, kw_922, kw_69, kw_923, ⟨by decide, by decide⟩, by decide +kernel, by decide⟩
theorem kw_1612 : (Jvm.Cond.instanceMethod ({ cls := "KeptLumpModel", name := "link", desc := "(IIII)I" } : Jvm.MethodName)) ∈ kv_gw := List.mem_filter.mpr ⟨kv_tb7 (List.mem_of_getElem? (i := 104) (by decide +kernel)), by decide +kernel⟩
theorem kw_1613 : (Jvm.Cond.selects "KeptLumpModel" ({ cls := "KeptLumpModel", name := "link", desc := "(IIII)I" } : Jvm.MethodName) ({ cls := "KeptLumpModel", name := "link", desc := "(IIII)I" } : Jvm.MethodName)) ∈ kv_gw := List.mem_filter.mpr ⟨kv_tb7 (List.mem_of_getElem? (i := 105) (by decide +kernel)), by decide +kernel⟩
theorem kw_1614 : (Jvm.Cond.code ({ cls := "KeptLumpModel", name := "link", desc := "(IIII)I" } : Jvm.MethodName) prog_13_method_71_code (6 : Nat) (Option.some Jvm.ClassFile.FieldType.int)) ∈ kv_gw := List.mem_filter.mpr ⟨kv_tb7 (List.mem_of_getElem? (i := 106) (by decide +kernel)), by decide +kernel⟩
theorem ko_D_link : kv_okV kM_D_link 4 := ⟨kw_1612, kw_1613, kw_81, kw_1614, ⟨by decide, by decide⟩, by decide +kernel, by decide⟩
theorem kw_931 : (Jvm.Cond.methodLink "KeptLumpLaw" (120 : Nat) ({ cls := "KeptLump", name := "chain", desc := "(II)I" } : Jvm.MethodName)) ∈ kv_gw := List.mem_filter.mpr ⟨kv_tb4 (List.mem_of_getElem? (i := 143) (by decide +kernel)), by decide +kernel⟩
theorem kw_1624 : (Jvm.Cond.methodLink "KeptLumpLaw" (123 : Nat) ({ cls := "KeptLumpModel", name := "chain", desc := "(II)I" } : Jvm.MethodName)) ∈ kv_gw := List.mem_filter.mpr ⟨kv_tb7 (List.mem_of_getElem? (i := 116) (by decide +kernel)), by decide +kernel⟩
theorem kw_932 : (Jvm.Cond.instanceMethod ({ cls := "KeptLump", name := "chain", desc := "(II)I" } : Jvm.MethodName)) ∈ kv_gw := List.mem_filter.mpr ⟨kv_tb4 (List.mem_of_getElem? (i := 144) (by decide +kernel)), by decide +kernel⟩
theorem kw_933 : (Jvm.Cond.selects "KeptLump" ({ cls := "KeptLump", name := "chain", desc := "(II)I" } : Jvm.MethodName) ({ cls := "KeptLump", name := "chain", desc := "(II)I" } : Jvm.MethodName)) ∈ kv_gw := List.mem_filter.mpr ⟨kv_tb4 (List.mem_of_getElem? (i := 145) (by decide +kernel)), by decide +kernel⟩
theorem kw_934 : (Jvm.Cond.code ({ cls := "KeptLump", name := "chain", desc := "(II)I" } : Jvm.MethodName) prog_1_method_25_code (4 : Nat) (Option.some Jvm.ClassFile.FieldType.int)) ∈ kv_gw := List.mem_filter.mpr ⟨kv_tb4 (List.mem_of_getElem? (i := 146) (by decide +kernel)), by decide +kernel⟩
theorem ko_K_chain : kv_okV kM_K_chain 2 := ⟨kw_932, kw_933, kw_69, kw_934, ⟨by decide, by decide⟩, by decide +kernel, by decide⟩
theorem kw_1625 : (Jvm.Cond.instanceMethod ({ cls := "KeptLumpModel", name := "chain", desc := "(II)I" } : Jvm.MethodName)) ∈ kv_gw := List.mem_filter.mpr ⟨kv_tb7 (List.mem_of_getElem? (i := 117) (by decide +kernel)), by decide +kernel⟩
theorem kw_1626 : (Jvm.Cond.selects "KeptLumpModel" ({ cls := "KeptLumpModel", name := "chain", desc := "(II)I" } : Jvm.MethodName) ({ cls := "KeptLumpModel", name := "chain", desc := "(II)I" } : Jvm.MethodName)) ∈ kv_gw := List.mem_filter.mpr ⟨kv_tb7 (List.mem_of_getElem? (i := 118) (by decide +kernel)), by decide +kernel⟩
theorem kw_1627 : (Jvm.Cond.code ({ cls := "KeptLumpModel", name := "chain", desc := "(II)I" } : Jvm.MethodName) prog_13_method_73_code (3 : Nat) (Option.some Jvm.ClassFile.FieldType.int)) ∈ kv_gw := List.mem_filter.mpr ⟨kv_tb7 (List.mem_of_getElem? (i := 119) (by decide +kernel)), by decide +kernel⟩
theorem ko_D_chain : kv_okV kM_D_chain 2 := ⟨kw_1625, kw_1626, kw_81, kw_1627, ⟨by decide, by decide⟩, by decide +kernel, by decide⟩
theorem kw_943 : (Jvm.Cond.methodLink "KeptLumpLaw" (124 : Nat) ({ cls := "KeptLump", name := "agree", desc := "(II)I" } : Jvm.MethodName)) ∈ kv_gw := List.mem_filter.mpr ⟨kv_tb4 (List.mem_of_getElem? (i := 155) (by decide +kernel)), by decide +kernel⟩
theorem kw_1632 : (Jvm.Cond.methodLink "KeptLumpLaw" (127 : Nat) ({ cls := "KeptLumpModel", name := "agree", desc := "(II)I" } : Jvm.MethodName)) ∈ kv_gw := List.mem_filter.mpr ⟨kv_tb7 (List.mem_of_getElem? (i := 124) (by decide +kernel)), by decide +kernel⟩
theorem kw_944 : (Jvm.Cond.instanceMethod ({ cls := "KeptLump", name := "agree", desc := "(II)I" } : Jvm.MethodName)) ∈ kv_gw := List.mem_filter.mpr ⟨kv_tb4 (List.mem_of_getElem? (i := 156) (by decide +kernel)), by decide +kernel⟩
theorem kw_945 : (Jvm.Cond.selects "KeptLump" ({ cls := "KeptLump", name := "agree", desc := "(II)I" } : Jvm.MethodName) ({ cls := "KeptLump", name := "agree", desc := "(II)I" } : Jvm.MethodName)) ∈ kv_gw := List.mem_filter.mpr ⟨kv_tb4 (List.mem_of_getElem? (i := 157) (by decide +kernel)), by decide +kernel⟩
theorem kw_946 : (Jvm.Cond.code ({ cls := "KeptLump", name := "agree", desc := "(II)I" } : Jvm.MethodName) prog_1_method_26_code (4 : Nat) (Option.some Jvm.ClassFile.FieldType.int)) ∈ kv_gw := List.mem_filter.mpr ⟨kv_tb4 (List.mem_of_getElem? (i := 158) (by decide +kernel)), by decide +kernel⟩
theorem ko_K_agree : kv_okV kM_K_agree 2 := ⟨kw_944, kw_945, kw_69, kw_946, ⟨by decide, by decide⟩, by decide +kernel, by decide⟩
theorem kw_1633 : (Jvm.Cond.instanceMethod ({ cls := "KeptLumpModel", name := "agree", desc := "(II)I" } : Jvm.MethodName)) ∈ kv_gw := List.mem_filter.mpr ⟨kv_tb7 (List.mem_of_getElem? (i := 125) (by decide +kernel)), by decide +kernel⟩
theorem kw_1634 : (Jvm.Cond.selects "KeptLumpModel" ({ cls := "KeptLumpModel", name := "agree", desc := "(II)I" } : Jvm.MethodName) ({ cls := "KeptLumpModel", name := "agree", desc := "(II)I" } : Jvm.MethodName)) ∈ kv_gw := List.mem_filter.mpr ⟨kv_tb7 (List.mem_of_getElem? (i := 126) (by decide +kernel)), by decide +kernel⟩
theorem kw_1635 : (Jvm.Cond.code ({ cls := "KeptLumpModel", name := "agree", desc := "(II)I" } : Jvm.MethodName) prog_13_method_76_code (4 : Nat) (Option.some Jvm.ClassFile.FieldType.int)) ∈ kv_gw := List.mem_filter.mpr ⟨kv_tb7 (List.mem_of_getElem? (i := 127) (by decide +kernel)), by decide +kernel⟩
theorem ko_D_agree : kv_okV kM_D_agree 2 := ⟨kw_1633, kw_1634, kw_81, kw_1635, ⟨by decide, by decide⟩, by decide +kernel, by decide⟩
theorem kw_960 : (Jvm.Cond.methodLink "KeptLumpLaw" (128 : Nat) ({ cls := "KeptLump", name := "wrong", desc := "(III)I" } : Jvm.MethodName)) ∈ kv_gw := List.mem_filter.mpr ⟨kv_tb4 (List.mem_of_getElem? (i := 172) (by decide +kernel)), by decide +kernel⟩
theorem kw_1644 : (Jvm.Cond.methodLink "KeptLumpLaw" (131 : Nat) ({ cls := "KeptLumpModel", name := "wrong", desc := "(III)I" } : Jvm.MethodName)) ∈ kv_gw := List.mem_filter.mpr ⟨kv_tb7 (List.mem_of_getElem? (i := 136) (by decide +kernel)), by decide +kernel⟩
theorem kw_961 : (Jvm.Cond.instanceMethod ({ cls := "KeptLump", name := "wrong", desc := "(III)I" } : Jvm.MethodName)) ∈ kv_gw := List.mem_filter.mpr ⟨kv_tb4 (List.mem_of_getElem? (i := 173) (by decide +kernel)), by decide +kernel⟩
theorem kw_962 : (Jvm.Cond.selects "KeptLump" ({ cls := "KeptLump", name := "wrong", desc := "(III)I" } : Jvm.MethodName) ({ cls := "KeptLump", name := "wrong", desc := "(III)I" } : Jvm.MethodName)) ∈ kv_gw := List.mem_filter.mpr ⟨kv_tb4 (List.mem_of_getElem? (i := 174) (by decide +kernel)), by decide +kernel⟩
theorem kw_963 : (Jvm.Cond.code ({ cls := "KeptLump", name := "wrong", desc := "(III)I" } : Jvm.MethodName) prog_1_method_27_code (6 : Nat) (Option.some Jvm.ClassFile.FieldType.int)) ∈ kv_gw := List.mem_filter.mpr ⟨kv_tb4 (List.mem_of_getElem? (i := 175) (by decide +kernel)), by decide +kernel⟩
theorem ko_K_wrong : kv_okV kM_K_wrong 3 := ⟨kw_961, kw_962, kw_69, kw_963, ⟨by decide, by decide⟩, by decide +kernel, by decide⟩
theorem kw_1645 : (Jvm.Cond.instanceMethod ({ cls := "KeptLumpModel", name := "wrong", desc := "(III)I" } : Jvm.MethodName)) ∈ kv_gw := List.mem_filter.mpr ⟨kv_tb7 (List.mem_of_getElem? (i := 137) (by decide +kernel)), by decide +kernel⟩
theorem kw_1646 : (Jvm.Cond.selects "KeptLumpModel" ({ cls := "KeptLumpModel", name := "wrong", desc := "(III)I" } : Jvm.MethodName) ({ cls := "KeptLumpModel", name := "wrong", desc := "(III)I" } : Jvm.MethodName)) ∈ kv_gw := List.mem_filter.mpr ⟨kv_tb7 (List.mem_of_getElem? (i := 138) (by decide +kernel)), by decide +kernel⟩
theorem kw_1647 : (Jvm.Cond.code ({ cls := "KeptLumpModel", name := "wrong", desc := "(III)I" } : Jvm.MethodName) prog_13_method_77_code (8 : Nat) (Option.some Jvm.ClassFile.FieldType.int)) ∈ kv_gw := List.mem_filter.mpr ⟨kv_tb7 (List.mem_of_getElem? (i := 139) (by decide +kernel)), by decide +kernel⟩
theorem ko_D_wrong : kv_okV kM_D_wrong 3 := ⟨kw_1645, kw_1646, kw_81, kw_1647, ⟨by decide, by decide⟩, by decide +kernel, by decide⟩
theorem kw_968 : (Jvm.Cond.methodLink "KeptLumpLaw" (132 : Nat) ({ cls := "KeptLump", name := "when", desc := "(I)I" } : Jvm.MethodName)) ∈ kv_gw := List.mem_filter.mpr ⟨kv_tb4 (List.mem_of_getElem? (i := 180) (by decide +kernel)), by decide +kernel⟩
theorem kw_1648 : (Jvm.Cond.methodLink "KeptLumpLaw" (135 : Nat) ({ cls := "KeptLumpModel", name := "when", desc := "(I)I" } : Jvm.MethodName)) ∈ kv_gw := List.mem_filter.mpr ⟨kv_tb7 (List.mem_of_getElem? (i := 140) (by decide +kernel)), by decide +kernel⟩
theorem kw_969 : (Jvm.Cond.instanceMethod ({ cls := "KeptLump", name := "when", desc := "(I)I" } : Jvm.MethodName)) ∈ kv_gw := List.mem_filter.mpr ⟨kv_tb4 (List.mem_of_getElem? (i := 181) (by decide +kernel)), by decide +kernel⟩
theorem kw_970 : (Jvm.Cond.selects "KeptLump" ({ cls := "KeptLump", name := "when", desc := "(I)I" } : Jvm.MethodName) ({ cls := "KeptLump", name := "when", desc := "(I)I" } : Jvm.MethodName)) ∈ kv_gw := List.mem_filter.mpr ⟨kv_tb4 (List.mem_of_getElem? (i := 182) (by decide +kernel)), by decide +kernel⟩
theorem kw_971 : (Jvm.Cond.code ({ cls := "KeptLump", name := "when", desc := "(I)I" } : Jvm.MethodName) prog_1_method_28_code (6 : Nat) (Option.some Jvm.ClassFile.FieldType.int)) ∈ kv_gw := List.mem_filter.mpr ⟨kv_tb4 (List.mem_of_getElem? (i := 183) (by decide +kernel)), by decide +kernel⟩
theorem ko_K_when : kv_okV kM_K_when 1 := ⟨kw_969, kw_970, kw_69, kw_971, ⟨by decide, by decide⟩, by decide +kernel, by decide⟩
theorem kw_1649 : (Jvm.Cond.instanceMethod ({ cls := "KeptLumpModel", name := "when", desc := "(I)I" } : Jvm.MethodName)) ∈ kv_gw := List.mem_filter.mpr ⟨kv_tb7 (List.mem_of_getElem? (i := 141) (by decide +kernel)), by decide +kernel⟩
theorem kw_1650 : (Jvm.Cond.selects "KeptLumpModel" ({ cls := "KeptLumpModel", name := "when", desc := "(I)I" } : Jvm.MethodName) ({ cls := "KeptLumpModel", name := "when", desc := "(I)I" } : Jvm.MethodName)) ∈ kv_gw := List.mem_filter.mpr ⟨kv_tb7 (List.mem_of_getElem? (i := 142) (by decide +kernel)), by decide +kernel⟩
theorem kw_1651 : (Jvm.Cond.code ({ cls := "KeptLumpModel", name := "when", desc := "(I)I" } : Jvm.MethodName) prog_13_method_78_code (6 : Nat) (Option.some Jvm.ClassFile.FieldType.int)) ∈ kv_gw := List.mem_filter.mpr ⟨kv_tb7 (List.mem_of_getElem? (i := 143) (by decide +kernel)), by decide +kernel⟩
theorem ko_D_when : kv_okV kM_D_when 1 := ⟨kw_1649, kw_1650, kw_81, kw_1651, ⟨by decide, by decide⟩, by decide +kernel, by decide⟩
theorem kw_982 : (Jvm.Cond.methodLink "KeptLumpLaw" (136 : Nat) ({ cls := "KeptLump", name := "plan", desc := "(IIII)I" } : Jvm.MethodName)) ∈ kv_gw := List.mem_filter.mpr ⟨kv_tb4 (List.mem_of_getElem? (i := 194) (by decide +kernel)), by decide +kernel⟩
theorem kw_1652 : (Jvm.Cond.methodLink "KeptLumpLaw" (139 : Nat) ({ cls := "KeptLumpModel", name := "plan", desc := "(IIII)I" } : Jvm.MethodName)) ∈ kv_gw := List.mem_filter.mpr ⟨kv_tb7 (List.mem_of_getElem? (i := 144) (by decide +kernel)), by decide +kernel⟩
theorem kw_983 : (Jvm.Cond.instanceMethod ({ cls := "KeptLump", name := "plan", desc := "(IIII)I" } : Jvm.MethodName)) ∈ kv_gw := List.mem_filter.mpr ⟨kv_tb4 (List.mem_of_getElem? (i := 195) (by decide +kernel)), by decide +kernel⟩
theorem kw_984 : (Jvm.Cond.selects "KeptLump" ({ cls := "KeptLump", name := "plan", desc := "(IIII)I" } : Jvm.MethodName) ({ cls := "KeptLump", name := "plan", desc := "(IIII)I" } : Jvm.MethodName)) ∈ kv_gw := List.mem_filter.mpr ⟨kv_tb4 (List.mem_of_getElem? (i := 196) (by decide +kernel)), by decide +kernel⟩
theorem kw_985 : (Jvm.Cond.code ({ cls := "KeptLump", name := "plan", desc := "(IIII)I" } : Jvm.MethodName) prog_1_method_29_code (7 : Nat) (Option.some Jvm.ClassFile.FieldType.int)) ∈ kv_gw := List.mem_filter.mpr ⟨kv_tb4 (List.mem_of_getElem? (i := 197) (by decide +kernel)), by decide +kernel⟩
theorem ko_K_plan : kv_okV kM_K_plan 4 := ⟨kw_983, kw_984, kw_69, kw_985, ⟨by decide, by decide⟩, by decide +kernel, by decide⟩
theorem kw_1653 : (Jvm.Cond.instanceMethod ({ cls := "KeptLumpModel", name := "plan", desc := "(IIII)I" } : Jvm.MethodName)) ∈ kv_gw := List.mem_filter.mpr ⟨kv_tb7 (List.mem_of_getElem? (i := 145) (by decide +kernel)), by decide +kernel⟩
theorem kw_1654 : (Jvm.Cond.selects "KeptLumpModel" ({ cls := "KeptLumpModel", name := "plan", desc := "(IIII)I" } : Jvm.MethodName) ({ cls := "KeptLumpModel", name := "plan", desc := "(IIII)I" } : Jvm.MethodName)) ∈ kv_gw := List.mem_filter.mpr ⟨kv_tb7 (List.mem_of_getElem? (i := 146) (by decide +kernel)), by decide +kernel⟩
theorem kw_1655 : (Jvm.Cond.code ({ cls := "KeptLumpModel", name := "plan", desc := "(IIII)I" } : Jvm.MethodName) prog_13_method_82_code (12 : Nat) (Option.some Jvm.ClassFile.FieldType.int)) ∈ kv_gw := List.mem_filter.mpr ⟨kv_tb7 (List.mem_of_getElem? (i := 147) (by decide +kernel)), by decide +kernel⟩
theorem ko_D_plan : kv_okV kM_D_plan 4 := ⟨kw_1653, kw_1654, kw_81, kw_1655, ⟨by decide, by decide⟩, by decide +kernel, by decide⟩
theorem kw_1046 : (Jvm.Cond.methodLink "KeptLumpLaw" (140 : Nat) ({ cls := "KeptLump", name := "image", desc := "()I" } : Jvm.MethodName)) ∈ kv_gw := List.mem_filter.mpr ⟨kv_tb5 (List.mem_of_getElem? (i := 18) (by decide +kernel)), by decide +kernel⟩
theorem kw_1669 : (Jvm.Cond.methodLink "KeptLumpLaw" (143 : Nat) ({ cls := "KeptLumpModel", name := "image", desc := "()I" } : Jvm.MethodName)) ∈ kv_gw := List.mem_filter.mpr ⟨kv_tb7 (List.mem_of_getElem? (i := 161) (by decide +kernel)), by decide +kernel⟩
theorem kw_1047 : (Jvm.Cond.instanceMethod ({ cls := "KeptLump", name := "image", desc := "()I" } : Jvm.MethodName)) ∈ kv_gw := List.mem_filter.mpr ⟨kv_tb5 (List.mem_of_getElem? (i := 19) (by decide +kernel)), by decide +kernel⟩
theorem kw_1048 : (Jvm.Cond.selects "KeptLump" ({ cls := "KeptLump", name := "image", desc := "()I" } : Jvm.MethodName) ({ cls := "KeptLump", name := "image", desc := "()I" } : Jvm.MethodName)) ∈ kv_gw := List.mem_filter.mpr ⟨kv_tb5 (List.mem_of_getElem? (i := 20) (by decide +kernel)), by decide +kernel⟩
theorem kw_1049 : (Jvm.Cond.code ({ cls := "KeptLump", name := "image", desc := "()I" } : Jvm.MethodName) prog_1_method_30_code (1 : Nat) (Option.some Jvm.ClassFile.FieldType.int)) ∈ kv_gw := List.mem_filter.mpr ⟨kv_tb5 (List.mem_of_getElem? (i := 21) (by decide +kernel)), by decide +kernel⟩
theorem ko_K_image : kv_okV kM_K_image 0 := ⟨kw_1047, kw_1048, kw_69, kw_1049, ⟨by decide, by decide⟩, by decide +kernel, by decide⟩
theorem kw_1670 : (Jvm.Cond.instanceMethod ({ cls := "KeptLumpModel", name := "image", desc := "()I" } : Jvm.MethodName)) ∈ kv_gw := List.mem_filter.mpr ⟨kv_tb7 (List.mem_of_getElem? (i := 162) (by decide +kernel)), by decide +kernel⟩
theorem kw_1671 : (Jvm.Cond.selects "KeptLumpModel" ({ cls := "KeptLumpModel", name := "image", desc := "()I" } : Jvm.MethodName) ({ cls := "KeptLumpModel", name := "image", desc := "()I" } : Jvm.MethodName)) ∈ kv_gw := List.mem_filter.mpr ⟨kv_tb7 (List.mem_of_getElem? (i := 163) (by decide +kernel)), by decide +kernel⟩
theorem kw_1672 : (Jvm.Cond.code ({ cls := "KeptLumpModel", name := "image", desc := "()I" } : Jvm.MethodName) prog_13_method_83_code (2 : Nat) (Option.some Jvm.ClassFile.FieldType.int)) ∈ kv_gw := List.mem_filter.mpr ⟨kv_tb7 (List.mem_of_getElem? (i := 164) (by decide +kernel)), by decide +kernel⟩
theorem ko_D_image : kv_okV kM_D_image 0 := ⟨kw_1670, kw_1671, kw_81, kw_1672, ⟨by decide, by decide⟩, by decide +kernel, by decide⟩
theorem kw_1071 : (Jvm.Cond.methodLink "KeptLumpLaw" (144 : Nat) ({ cls := "KeptLump", name := "restore", desc := "()I" } : Jvm.MethodName)) ∈ kv_gw := List.mem_filter.mpr ⟨kv_tb5 (List.mem_of_getElem? (i := 43) (by decide +kernel)), by decide +kernel⟩
theorem kw_1673 : (Jvm.Cond.methodLink "KeptLumpLaw" (147 : Nat) ({ cls := "KeptLumpModel", name := "restore", desc := "()I" } : Jvm.MethodName)) ∈ kv_gw := List.mem_filter.mpr ⟨kv_tb7 (List.mem_of_getElem? (i := 165) (by decide +kernel)), by decide +kernel⟩
theorem kw_1072 : (Jvm.Cond.instanceMethod ({ cls := "KeptLump", name := "restore", desc := "()I" } : Jvm.MethodName)) ∈ kv_gw := List.mem_filter.mpr ⟨kv_tb5 (List.mem_of_getElem? (i := 44) (by decide +kernel)), by decide +kernel⟩
theorem kw_1073 : (Jvm.Cond.selects "KeptLump" ({ cls := "KeptLump", name := "restore", desc := "()I" } : Jvm.MethodName) ({ cls := "KeptLump", name := "restore", desc := "()I" } : Jvm.MethodName)) ∈ kv_gw := List.mem_filter.mpr ⟨kv_tb5 (List.mem_of_getElem? (i := 45) (by decide +kernel)), by decide +kernel⟩
theorem kw_1074 : (Jvm.Cond.code ({ cls := "KeptLump", name := "restore", desc := "()I" } : Jvm.MethodName) prog_1_method_31_code (1 : Nat) (Option.some Jvm.ClassFile.FieldType.int)) ∈ kv_gw := List.mem_filter.mpr ⟨kv_tb5 (List.mem_of_getElem? (i := 46) (by decide +kernel)), by decide +kernel⟩
theorem ko_K_restore : kv_okV kM_K_restore 0 := ⟨kw_1072, kw_1073, kw_69, kw_1074, ⟨by decide, by decide⟩, by decide +kernel, by decide⟩
theorem kw_1674 : (Jvm.Cond.instanceMethod ({ cls := "KeptLumpModel", name := "restore", desc := "()I" } : Jvm.MethodName)) ∈ kv_gw := List.mem_filter.mpr ⟨kv_tb7 (List.mem_of_getElem? (i := 166) (by decide +kernel)), by decide +kernel⟩
theorem kw_1675 : (Jvm.Cond.selects "KeptLumpModel" ({ cls := "KeptLumpModel", name := "restore", desc := "()I" } : Jvm.MethodName) ({ cls := "KeptLumpModel", name := "restore", desc := "()I" } : Jvm.MethodName)) ∈ kv_gw := List.mem_filter.mpr ⟨kv_tb7 (List.mem_of_getElem? (i := 167) (by decide +kernel)), by decide +kernel⟩
theorem kw_1676 : (Jvm.Cond.code ({ cls := "KeptLumpModel", name := "restore", desc := "()I" } : Jvm.MethodName) prog_13_method_84_code (2 : Nat) (Option.some Jvm.ClassFile.FieldType.int)) ∈ kv_gw := List.mem_filter.mpr ⟨kv_tb7 (List.mem_of_getElem? (i := 168) (by decide +kernel)), by decide +kernel⟩
theorem ko_D_restore : kv_okV kM_D_restore 0 := ⟨kw_1674, kw_1675, kw_81, kw_1676, ⟨by decide, by decide⟩, by decide +kernel, by decide⟩
theorem kw_1075 : (Jvm.Cond.methodLink "KeptLumpLaw" (148 : Nat) ({ cls := "KeptLump", name := "count", desc := "(I)I" } : Jvm.MethodName)) ∈ kv_gw := List.mem_filter.mpr ⟨kv_tb5 (List.mem_of_getElem? (i := 47) (by decide +kernel)), by decide +kernel⟩
theorem kw_1677 : (Jvm.Cond.methodLink "KeptLumpLaw" (151 : Nat) ({ cls := "KeptLumpModel", name := "count", desc := "(I)I" } : Jvm.MethodName)) ∈ kv_gw := List.mem_filter.mpr ⟨kv_tb7 (List.mem_of_getElem? (i := 169) (by decide +kernel)), by decide +kernel⟩
theorem kw_1076 : (Jvm.Cond.instanceMethod ({ cls := "KeptLump", name := "count", desc := "(I)I" } : Jvm.MethodName)) ∈ kv_gw := List.mem_filter.mpr ⟨kv_tb5 (List.mem_of_getElem? (i := 48) (by decide +kernel)), by decide +kernel⟩
theorem kw_1077 : (Jvm.Cond.selects "KeptLump" ({ cls := "KeptLump", name := "count", desc := "(I)I" } : Jvm.MethodName) ({ cls := "KeptLump", name := "count", desc := "(I)I" } : Jvm.MethodName)) ∈ kv_gw := List.mem_filter.mpr ⟨kv_tb5 (List.mem_of_getElem? (i := 49) (by decide +kernel)), by decide +kernel⟩
theorem kw_1078 : (Jvm.Cond.code ({ cls := "KeptLump", name := "count", desc := "(I)I" } : Jvm.MethodName) prog_1_method_32_code (2 : Nat) (Option.some Jvm.ClassFile.FieldType.int)) ∈ kv_gw := List.mem_filter.mpr ⟨kv_tb5 (List.mem_of_getElem? (i := 50) (by decide +kernel)), by decide +kernel⟩
theorem ko_K_count : kv_okV kM_K_count 1 := ⟨kw_1076, kw_1077, kw_69, kw_1078, ⟨by decide, by decide⟩, by decide +kernel, by decide⟩
theorem kw_1678 : (Jvm.Cond.instanceMethod ({ cls := "KeptLumpModel", name := "count", desc := "(I)I" } : Jvm.MethodName)) ∈ kv_gw := List.mem_filter.mpr ⟨kv_tb7 (List.mem_of_getElem? (i := 170) (by decide +kernel)), by decide +kernel⟩
theorem kw_1679 : (Jvm.Cond.selects "KeptLumpModel" ({ cls := "KeptLumpModel", name := "count", desc := "(I)I" } : Jvm.MethodName) ({ cls := "KeptLumpModel", name := "count", desc := "(I)I" } : Jvm.MethodName)) ∈ kv_gw := List.mem_filter.mpr ⟨kv_tb7 (List.mem_of_getElem? (i := 171) (by decide +kernel)), by decide +kernel⟩
theorem kw_1680 : (Jvm.Cond.code ({ cls := "KeptLumpModel", name := "count", desc := "(I)I" } : Jvm.MethodName) prog_13_method_85_code (4 : Nat) (Option.some Jvm.ClassFile.FieldType.int)) ∈ kv_gw := List.mem_filter.mpr ⟨kv_tb7 (List.mem_of_getElem? (i := 172) (by decide +kernel)), by decide +kernel⟩
theorem ko_D_count : kv_okV kM_D_count 1 := ⟨kw_1678, kw_1679, kw_81, kw_1680, ⟨by decide, by decide⟩, by decide +kernel, by decide⟩
theorem kw_1087 : (Jvm.Cond.methodLink "KeptLumpLaw" (152 : Nat) ({ cls := "KeptLump", name := "keep", desc := "(III)I" } : Jvm.MethodName)) ∈ kv_gw := List.mem_filter.mpr ⟨kv_tb5 (List.mem_of_getElem? (i := 59) (by decide +kernel)), by decide +kernel⟩
theorem kw_1681 : (Jvm.Cond.methodLink "KeptLumpLaw" (155 : Nat) ({ cls := "KeptLumpModel", name := "keep", desc := "(III)I" } : Jvm.MethodName)) ∈ kv_gw := List.mem_filter.mpr ⟨kv_tb7 (List.mem_of_getElem? (i := 173) (by decide +kernel)), by decide +kernel⟩
theorem kw_1088 : (Jvm.Cond.instanceMethod ({ cls := "KeptLump", name := "keep", desc := "(III)I" } : Jvm.MethodName)) ∈ kv_gw := List.mem_filter.mpr ⟨kv_tb5 (List.mem_of_getElem? (i := 60) (by decide +kernel)), by decide +kernel⟩
theorem kw_1089 : (Jvm.Cond.selects "KeptLump" ({ cls := "KeptLump", name := "keep", desc := "(III)I" } : Jvm.MethodName) ({ cls := "KeptLump", name := "keep", desc := "(III)I" } : Jvm.MethodName)) ∈ kv_gw := List.mem_filter.mpr ⟨kv_tb5 (List.mem_of_getElem? (i := 61) (by decide +kernel)), by decide +kernel⟩
theorem kw_1090 : (Jvm.Cond.code ({ cls := "KeptLump", name := "keep", desc := "(III)I" } : Jvm.MethodName) prog_1_method_33_code (4 : Nat) (Option.some Jvm.ClassFile.FieldType.int)) ∈ kv_gw := List.mem_filter.mpr ⟨kv_tb5 (List.mem_of_getElem? (i := 62) (by decide +kernel)), by decide +kernel⟩
theorem ko_K_keep : kv_okV kM_K_keep 3 := ⟨kw_1088, kw_1089, kw_69, kw_1090, ⟨by decide, by decide⟩, by decide +kernel, by decide⟩
theorem kw_1682 : (Jvm.Cond.instanceMethod ({ cls := "KeptLumpModel", name := "keep", desc := "(III)I" } : Jvm.MethodName)) ∈ kv_gw := List.mem_filter.mpr ⟨kv_tb7 (List.mem_of_getElem? (i := 174) (by decide +kernel)), by decide +kernel⟩
theorem kw_1683 : (Jvm.Cond.selects "KeptLumpModel" ({ cls := "KeptLumpModel", name := "keep", desc := "(III)I" } : Jvm.MethodName) ({ cls := "KeptLumpModel", name := "keep", desc := "(III)I" } : Jvm.MethodName)) ∈ kv_gw := List.mem_filter.mpr ⟨kv_tb7 (List.mem_of_getElem? (i := 175) (by decide +kernel)), by decide +kernel⟩
theorem kw_1684 : (Jvm.Cond.code ({ cls := "KeptLumpModel", name := "keep", desc := "(III)I" } : Jvm.MethodName) prog_13_method_87_code (5 : Nat) (Option.some Jvm.ClassFile.FieldType.int)) ∈ kv_gw := List.mem_filter.mpr ⟨kv_tb7 (List.mem_of_getElem? (i := 176) (by decide +kernel)), by decide +kernel⟩
theorem ko_D_keep : kv_okV kM_D_keep 3 := ⟨kw_1682, kw_1683, kw_81, kw_1684, ⟨by decide, by decide⟩, by decide +kernel, by decide⟩
theorem kw_1099 : (Jvm.Cond.methodLink "KeptLumpLaw" (156 : Nat) ({ cls := "KeptLump", name := "row", desc := "(III)I" } : Jvm.MethodName)) ∈ kv_gw := List.mem_filter.mpr ⟨kv_tb5 (List.mem_of_getElem? (i := 71) (by decide +kernel)), by decide +kernel⟩
theorem kw_1689 : (Jvm.Cond.methodLink "KeptLumpLaw" (159 : Nat) ({ cls := "KeptLumpModel", name := "row", desc := "(III)I" } : Jvm.MethodName)) ∈ kv_gw := List.mem_filter.mpr ⟨kv_tb7 (List.mem_of_getElem? (i := 181) (by decide +kernel)), by decide +kernel⟩
theorem kw_1100 : (Jvm.Cond.instanceMethod ({ cls := "KeptLump", name := "row", desc := "(III)I" } : Jvm.MethodName)) ∈ kv_gw := List.mem_filter.mpr ⟨kv_tb5 (List.mem_of_getElem? (i := 72) (by decide +kernel)), by decide +kernel⟩
theorem kw_1101 : (Jvm.Cond.selects "KeptLump" ({ cls := "KeptLump", name := "row", desc := "(III)I" } : Jvm.MethodName) ({ cls := "KeptLump", name := "row", desc := "(III)I" } : Jvm.MethodName)) ∈ kv_gw := List.mem_filter.mpr ⟨kv_tb5 (List.mem_of_getElem? (i := 73) (by decide +kernel)), by decide +kernel⟩
theorem kw_1102 : (Jvm.Cond.code ({ cls := "KeptLump", name := "row", desc := "(III)I" } : Jvm.MethodName) prog_1_method_34_code (4 : Nat) (Option.some Jvm.ClassFile.FieldType.int)) ∈ kv_gw := List.mem_filter.mpr ⟨kv_tb5 (List.mem_of_getElem? (i := 74) (by decide +kernel)), by decide +kernel⟩
theorem ko_K_row : kv_okV kM_K_row 3 := ⟨kw_1100, kw_1101, kw_69, kw_1102, ⟨by decide, by decide⟩, by decide +kernel, by decide⟩
theorem kw_1690 : (Jvm.Cond.instanceMethod ({ cls := "KeptLumpModel", name := "row", desc := "(III)I" } : Jvm.MethodName)) ∈ kv_gw := List.mem_filter.mpr ⟨kv_tb7 (List.mem_of_getElem? (i := 182) (by decide +kernel)), by decide +kernel⟩
theorem kw_1691 : (Jvm.Cond.selects "KeptLumpModel" ({ cls := "KeptLumpModel", name := "row", desc := "(III)I" } : Jvm.MethodName) ({ cls := "KeptLumpModel", name := "row", desc := "(III)I" } : Jvm.MethodName)) ∈ kv_gw := List.mem_filter.mpr ⟨kv_tb7 (List.mem_of_getElem? (i := 183) (by decide +kernel)), by decide +kernel⟩
theorem kw_1692 : (Jvm.Cond.code ({ cls := "KeptLumpModel", name := "row", desc := "(III)I" } : Jvm.MethodName) prog_13_method_88_code (5 : Nat) (Option.some Jvm.ClassFile.FieldType.int)) ∈ kv_gw := List.mem_filter.mpr ⟨kv_tb7 (List.mem_of_getElem? (i := 184) (by decide +kernel)), by decide +kernel⟩
theorem ko_D_row : kv_okV kM_D_row 3 := ⟨kw_1690, kw_1691, kw_81, kw_1692, ⟨by decide, by decide⟩, by decide +kernel, by decide⟩
theorem kw_1108 : (Jvm.Cond.methodLink "KeptLumpLaw" (160 : Nat) ({ cls := "KeptLump", name := "put", desc := "(III)I" } : Jvm.MethodName)) ∈ kv_gw := List.mem_filter.mpr ⟨kv_tb5 (List.mem_of_getElem? (i := 80) (by decide +kernel)), by decide +kernel⟩
theorem kw_1693 : (Jvm.Cond.methodLink "KeptLumpLaw" (163 : Nat) ({ cls := "KeptLumpModel", name := "put", desc := "(III)I" } : Jvm.MethodName)) ∈ kv_gw := List.mem_filter.mpr ⟨kv_tb7 (List.mem_of_getElem? (i := 185) (by decide +kernel)), by decide +kernel⟩
theorem kw_1109 : (Jvm.Cond.instanceMethod ({ cls := "KeptLump", name := "put", desc := "(III)I" } : Jvm.MethodName)) ∈ kv_gw := List.mem_filter.mpr ⟨kv_tb5 (List.mem_of_getElem? (i := 81) (by decide +kernel)), by decide +kernel⟩
theorem kw_1110 : (Jvm.Cond.selects "KeptLump" ({ cls := "KeptLump", name := "put", desc := "(III)I" } : Jvm.MethodName) ({ cls := "KeptLump", name := "put", desc := "(III)I" } : Jvm.MethodName)) ∈ kv_gw := List.mem_filter.mpr ⟨kv_tb5 (List.mem_of_getElem? (i := 82) (by decide +kernel)), by decide +kernel⟩
theorem kw_1111 : (Jvm.Cond.code ({ cls := "KeptLump", name := "put", desc := "(III)I" } : Jvm.MethodName) prog_1_method_35_code (6 : Nat) (Option.some Jvm.ClassFile.FieldType.int)) ∈ kv_gw := List.mem_filter.mpr ⟨kv_tb5 (List.mem_of_getElem? (i := 83) (by decide +kernel)), by decide +kernel⟩
theorem ko_K_put : kv_okV kM_K_put 3 := ⟨kw_1109, kw_1110, kw_69, kw_1111, ⟨by decide, by decide⟩, by decide +kernel, by decide⟩
theorem kw_1694 : (Jvm.Cond.instanceMethod ({ cls := "KeptLumpModel", name := "put", desc := "(III)I" } : Jvm.MethodName)) ∈ kv_gw := List.mem_filter.mpr ⟨kv_tb7 (List.mem_of_getElem? (i := 186) (by decide +kernel)), by decide +kernel⟩
theorem kw_1695 : (Jvm.Cond.selects "KeptLumpModel" ({ cls := "KeptLumpModel", name := "put", desc := "(III)I" } : Jvm.MethodName) ({ cls := "KeptLumpModel", name := "put", desc := "(III)I" } : Jvm.MethodName)) ∈ kv_gw := List.mem_filter.mpr ⟨kv_tb7 (List.mem_of_getElem? (i := 187) (by decide +kernel)), by decide +kernel⟩
theorem kw_1696 : (Jvm.Cond.code ({ cls := "KeptLumpModel", name := "put", desc := "(III)I" } : Jvm.MethodName) prog_13_method_89_code (5 : Nat) (Option.some Jvm.ClassFile.FieldType.int)) ∈ kv_gw := List.mem_filter.mpr ⟨kv_tb7 (List.mem_of_getElem? (i := 188) (by decide +kernel)), by decide +kernel⟩
theorem ko_D_put : kv_okV kM_D_put 3 := ⟨kw_1694, kw_1695, kw_81, kw_1696, ⟨by decide, by decide⟩, by decide +kernel, by decide⟩
theorem kw_1116 : (Jvm.Cond.methodLink "KeptLumpLaw" (173 : Nat) ({ cls := "KeptLump", name := "copy", desc := "(IIIII)I" } : Jvm.MethodName)) ∈ kv_gw := List.mem_filter.mpr ⟨kv_tb5 (List.mem_of_getElem? (i := 88) (by decide +kernel)), by decide +kernel⟩
theorem kw_1701 : (Jvm.Cond.methodLink "KeptLumpLaw" (176 : Nat) ({ cls := "KeptLumpModel", name := "copy", desc := "(IIIII)I" } : Jvm.MethodName)) ∈ kv_gw := List.mem_filter.mpr ⟨kv_tb7 (List.mem_of_getElem? (i := 193) (by decide +kernel)), by decide +kernel⟩
theorem kw_1117 : (Jvm.Cond.instanceMethod ({ cls := "KeptLump", name := "copy", desc := "(IIIII)I" } : Jvm.MethodName)) ∈ kv_gw := List.mem_filter.mpr ⟨kv_tb5 (List.mem_of_getElem? (i := 89) (by decide +kernel)), by decide +kernel⟩
theorem kw_1118 : (Jvm.Cond.selects "KeptLump" ({ cls := "KeptLump", name := "copy", desc := "(IIIII)I" } : Jvm.MethodName) ({ cls := "KeptLump", name := "copy", desc := "(IIIII)I" } : Jvm.MethodName)) ∈ kv_gw := List.mem_filter.mpr ⟨kv_tb5 (List.mem_of_getElem? (i := 90) (by decide +kernel)), by decide +kernel⟩
theorem kw_1119 : (Jvm.Cond.code ({ cls := "KeptLump", name := "copy", desc := "(IIIII)I" } : Jvm.MethodName) prog_1_method_37_code (8 : Nat) (Option.some Jvm.ClassFile.FieldType.int)) ∈ kv_gw := List.mem_filter.mpr ⟨kv_tb5 (List.mem_of_getElem? (i := 91) (by decide +kernel)), by decide +kernel⟩
theorem ko_K_copy : kv_okV kM_K_copy 5 := ⟨kw_1117, kw_1118, kw_69, kw_1119, ⟨by decide, by decide⟩, by decide +kernel, by decide⟩
theorem kw_1702 : (Jvm.Cond.instanceMethod ({ cls := "KeptLumpModel", name := "copy", desc := "(IIIII)I" } : Jvm.MethodName)) ∈ kv_gw := List.mem_filter.mpr ⟨kv_tb7 (List.mem_of_getElem? (i := 194) (by decide +kernel)), by decide +kernel⟩
theorem kw_1703 : (Jvm.Cond.selects "KeptLumpModel" ({ cls := "KeptLumpModel", name := "copy", desc := "(IIIII)I" } : Jvm.MethodName) ({ cls := "KeptLumpModel", name := "copy", desc := "(IIIII)I" } : Jvm.MethodName)) ∈ kv_gw := List.mem_filter.mpr ⟨kv_tb7 (List.mem_of_getElem? (i := 195) (by decide +kernel)), by decide +kernel⟩
theorem kw_1704 : (Jvm.Cond.code ({ cls := "KeptLumpModel", name := "copy", desc := "(IIIII)I" } : Jvm.MethodName) prog_13_method_91_code (8 : Nat) (Option.some Jvm.ClassFile.FieldType.int)) ∈ kv_gw := List.mem_filter.mpr ⟨kv_tb7 (List.mem_of_getElem? (i := 196) (by decide +kernel)), by decide +kernel⟩
theorem ko_D_copy : kv_okV kM_D_copy 5 := ⟨kw_1702, kw_1703, kw_81, kw_1704, ⟨by decide, by decide⟩, by decide +kernel, by decide⟩
theorem kw_1125 : (Jvm.Cond.methodLink "KeptLumpLaw" (177 : Nat) ({ cls := "KeptLump", name := "care", desc := "(I)I" } : Jvm.MethodName)) ∈ kv_gw := List.mem_filter.mpr ⟨kv_tb5 (List.mem_of_getElem? (i := 97) (by decide +kernel)), by decide +kernel⟩
theorem kw_1705 : (Jvm.Cond.methodLink "KeptLumpLaw" (180 : Nat) ({ cls := "KeptLumpModel", name := "care", desc := "(I)I" } : Jvm.MethodName)) ∈ kv_gw := List.mem_filter.mpr ⟨kv_tb7 (List.mem_of_getElem? (i := 197) (by decide +kernel)), by decide +kernel⟩
theorem kw_1126 : (Jvm.Cond.instanceMethod ({ cls := "KeptLump", name := "care", desc := "(I)I" } : Jvm.MethodName)) ∈ kv_gw := List.mem_filter.mpr ⟨kv_tb5 (List.mem_of_getElem? (i := 98) (by decide +kernel)), by decide +kernel⟩
theorem kw_1127 : (Jvm.Cond.selects "KeptLump" ({ cls := "KeptLump", name := "care", desc := "(I)I" } : Jvm.MethodName) ({ cls := "KeptLump", name := "care", desc := "(I)I" } : Jvm.MethodName)) ∈ kv_gw := List.mem_filter.mpr ⟨kv_tb5 (List.mem_of_getElem? (i := 99) (by decide +kernel)), by decide +kernel⟩
theorem kw_1128 : (Jvm.Cond.code ({ cls := "KeptLump", name := "care", desc := "(I)I" } : Jvm.MethodName) prog_1_method_38_code (3 : Nat) (Option.some Jvm.ClassFile.FieldType.int)) ∈ kv_gw := List.mem_filter.mpr ⟨kv_tb5 (List.mem_of_getElem? (i := 100) (by decide +kernel)), by decide +kernel⟩
theorem ko_K_care : kv_okV kM_K_care 1 := ⟨kw_1126, kw_1127, kw_69, kw_1128, ⟨by decide, by decide⟩, by decide +kernel, by decide⟩
theorem kw_1706 : (Jvm.Cond.instanceMethod ({ cls := "KeptLumpModel", name := "care", desc := "(I)I" } : Jvm.MethodName)) ∈ kv_gw := List.mem_filter.mpr ⟨kv_tb7 (List.mem_of_getElem? (i := 198) (by decide +kernel)), by decide +kernel⟩
theorem kw_1707 : (Jvm.Cond.selects "KeptLumpModel" ({ cls := "KeptLumpModel", name := "care", desc := "(I)I" } : Jvm.MethodName) ({ cls := "KeptLumpModel", name := "care", desc := "(I)I" } : Jvm.MethodName)) ∈ kv_gw := List.mem_filter.mpr ⟨kv_tb7 (List.mem_of_getElem? (i := 199) (by decide +kernel)), by decide +kernel⟩
theorem kw_1708 : (Jvm.Cond.code ({ cls := "KeptLumpModel", name := "care", desc := "(I)I" } : Jvm.MethodName) prog_13_method_93_code (3 : Nat) (Option.some Jvm.ClassFile.FieldType.int)) ∈ kv_gw := List.mem_filter.mpr ⟨kv_tb7 (List.mem_of_getElem? (i := 200) (by decide +kernel)), by decide +kernel⟩
theorem ko_D_care : kv_okV kM_D_care 1 := ⟨kw_1706, kw_1707, kw_81, kw_1708, ⟨by decide, by decide⟩, by decide +kernel, by decide⟩
theorem el_d_lump (p1 p2 p3 : Int32) : el_duo kM_K_lump kM_D_lump 1 2 [.int p1, .int p2, .int p3] := by
  intro j c m f u hj h
  obtain ⟨r, c2, m2, h1, h2, h3⟩ := op_lump h p1 p2 p3
  exact ⟨r, c2, m2, f, cx_K_lump 0 p1 p2 p3 c (m, f, u) _ h1, cx_D_lump 0 p1 p2 p3 c2 m f u _ h2, h3⟩
theorem el_c0 {L : Nat} {xs : Nat → Int32} {j : Nat} {c m : Nat → Nat → Int32} {f u : Nat → Int64} (hj : 6 * j + 6 ≤ L) (hL : L ≤ 3072) (h : Inv j c m) (next : el_next L xs j) : kz_B kM_law room_1 (97 + j) (6379 + 6 * j) (el_E L xs) el_Q 208 (el_lv j) [] (c, m, f, u) :=
  el_plain (zs := [1, 2, 3]) (i1 := 21) (i2 := 25) (off := 1432) (by decide +kernel) ko_K_lump ko_D_lump rfl rfl kw_508 kw_1325 (by decide) (by decide) (el_d_lump _ _ _) hj hL h next
theorem el_d_set (p1 p2 p3 : Int32) : el_duo kM_K_set kM_D_set 2 1 [.int p1, .int p2, .int p3] := by
  intro j c m f u hj h
  obtain ⟨r, c2, m2, h1, h2, h3⟩ := op_set h p1 p2 p3
  exact ⟨r, c2, m2, f, cx_K_set 0 p1 p2 p3 c (m, f, u) _ h1, cx_D_set 0 p1 p2 p3 c2 m f u _ h2, h3⟩
theorem el_c1 {L : Nat} {xs : Nat → Int32} {j : Nat} {c m : Nat → Nat → Int32} {f u : Nat → Int64} (hj : 6 * j + 6 ≤ L) (hL : L ≤ 3072) (h : Inv j c m) (next : el_next L xs j) : kz_B kM_law room_1 (97 + j) (6379 + 6 * j) (el_E L xs) el_Q 257 (el_lv j) [] (c, m, f, u) :=
  el_plain (zs := [1, 2, 3]) (i1 := 26) (i2 := 29) (off := 1383) (by decide +kernel) ko_K_set ko_D_set rfl rfl kw_523 kw_1345 (by decide) (by decide) (el_d_set _ _ _) hj hL h next
theorem el_d_of (p1 p2 : Int32) : el_duo kM_K_of kM_D_of 1 2 [.int p1, .int p2] := by
  intro j c m f u hj h
  obtain ⟨r, h1, h2⟩ := op_of h p1 p2
  exact ⟨r, c, m, f, cx_K_of 0 p1 p2 c (m, f, u) _ h1, cx_D_of 0 p1 p2 c m f u _ h2, fr_same h⟩
theorem el_c2 {L : Nat} {xs : Nat → Int32} {j : Nat} {c m : Nat → Nat → Int32} {f u : Nat → Int64} (hj : 6 * j + 6 ≤ L) (hL : L ≤ 3072) (h : Inv j c m) (next : el_next L xs j) : kz_B kM_law room_1 (97 + j) (6379 + 6 * j) (el_E L xs) el_Q 306 (el_lv j) [] (c, m, f, u) :=
  el_plain (zs := [1, 2]) (i1 := 30) (i2 := 34) (off := 1346) (by decide +kernel) ko_K_of ko_D_of rfl rfl kw_539 kw_1358 (by decide) (by decide) (el_d_of _ _) hj hL h next
theorem el_d_wash (p1 p2 : Int32) : el_duo kM_K_wash kM_D_wash 1 2 [.int p1, .int p2] := by
  intro j c m f u hj h
  obtain ⟨r, c2, m2, h1, h2, h3⟩ := op_wash h hj p1 p2
  exact ⟨r, c2, m2, f, cx_K_wash 0 p1 p2 c (m, f, u) _ h1, cx_D_wash 0 p1 p2 c2 m f u _ h2, h3⟩
theorem el_c3 {L : Nat} {xs : Nat → Int32} {j : Nat} {c m : Nat → Nat → Int32} {f u : Nat → Int64} (hj : 6 * j + 6 ≤ L) (hL : L ≤ 3072) (h : Inv j c m) (next : el_next L xs j) : kz_B kM_law room_1 (97 + j) (6379 + 6 * j) (el_E L xs) el_Q 343 (el_lv j) [] (c, m, f, u) :=
  el_plain (zs := [1, 2]) (i1 := 35) (i2 := 38) (off := 1309) (by decide +kernel) ko_K_wash ko_D_wash rfl rfl kw_548 kw_1367 (by decide) (by decide) (el_d_wash _ _) hj hL h next
theorem el_d_go (p1 : Int32) : el_duo kM_K_go kM_D_go 4 2 [.int p1] := by
  intro j c m f u hj h
  obtain ⟨r, c2, m2, h1, h2, h3⟩ := op_go h hj p1
  exact ⟨r, c2, m2, f, cx_K_go 0 p1 c (m, f, u) _ h1, cx_D_go 0 p1 c2 m f u _ h2, h3⟩
theorem el_c4 {L : Nat} {xs : Nat → Int32} {j : Nat} {c m : Nat → Nat → Int32} {f u : Nat → Int64} (hj : 6 * j + 6 ≤ L) (hL : L ≤ 3072) (h : Inv j c m) (next : el_next L xs j) : kz_B kM_law room_1 (97 + j) (6379 + 6 * j) (el_E L xs) el_Q 380 (el_lv j) [] (c, m, f, u) :=
  el_plain (zs := [1]) (i1 := 39) (i2 := 43) (off := 1284) (by decide +kernel) ko_K_go ko_D_go rfl rfl kw_556 kw_1371 (by decide) (by decide) (el_d_go _) hj hL h next
theorem el_d_grows (p1 p2 : Int32) : el_duo kM_K_grows kM_D_grows 3 2 [.int p1, .int p2] := by
  intro j c m f u hj h
  obtain ⟨r, h1, h2⟩ := op_grows h p1 p2
  exact ⟨r, c, m, f, cx_K_grows 0 p1 p2 c (m, f, u) _ h1, cx_D_grows 0 p1 p2 c m f u _ h2, fr_same h⟩
theorem el_c5 {L : Nat} {xs : Nat → Int32} {j : Nat} {c m : Nat → Nat → Int32} {f u : Nat → Int64} (hj : 6 * j + 6 ≤ L) (hL : L ≤ 3072) (h : Inv j c m) (next : el_next L xs j) : kz_B kM_law room_1 (97 + j) (6379 + 6 * j) (el_E L xs) el_Q 405 (el_lv j) [] (c, m, f, u) :=
  el_plain (zs := [1, 2]) (i1 := 44) (i2 := 47) (off := 1247) (by decide +kernel) ko_K_grows ko_D_grows rfl rfl kw_573 kw_1381 (by decide) (by decide) (el_d_grows _ _) hj hL h next
theorem el_d_seed (p1 : Int32) : el_duo kM_K_seed kM_D_seed 0 1 [.int p1] := by
  intro j c m f u hj h
  obtain ⟨r, c2, m2, h1, h2, h3⟩ := op_seed h p1
  exact ⟨r, c2, m2, f, cx_K_seed 0 p1 c (m, f, u) _ h1, cx_D_seed 0 p1 c2 m f u _ h2, h3⟩
theorem el_c6 {L : Nat} {xs : Nat → Int32} {j : Nat} {c m : Nat → Nat → Int32} {f u : Nat → Int64} (hj : 6 * j + 6 ≤ L) (hL : L ≤ 3072) (h : Inv j c m) (next : el_next L xs j) : kz_B kM_law room_1 (97 + j) (6379 + 6 * j) (el_E L xs) el_Q 442 (el_lv j) [] (c, m, f, u) :=
  el_plain (zs := [1]) (i1 := 48) (i2 := 51) (off := 1222) (by decide +kernel) ko_K_seed ko_D_seed rfl rfl kw_581 kw_1389 (by decide) (by decide) (el_d_seed _) hj hL h next
theorem el_d_weigh (p1 p2 p3 p4 : Int32) : el_duo kM_K_weigh kM_D_weigh 2 2 [.int p1, .int p2, .int p3, .int p4] := by
  intro j c m f u hj h
  obtain ⟨r, c2, m2, h1, h2, h3⟩ := op_weigh h hj p1 p2 p3 p4
  exact ⟨r, c2, m2, f, cx_K_weigh 0 p1 p2 p3 p4 c (m, f, u) _ h1, cx_D_weigh 0 p1 p2 p3 p4 c2 m f u _ h2, h3⟩
theorem el_c7 {L : Nat} {xs : Nat → Int32} {j : Nat} {c m : Nat → Nat → Int32} {f u : Nat → Int64} (hj : 6 * j + 6 ≤ L) (hL : L ≤ 3072) (h : Inv j c m) (next : el_next L xs j) : kz_B kM_law room_1 (97 + j) (6379 + 6 * j) (el_E L xs) el_Q 467 (el_lv j) [] (c, m, f, u) :=
  el_plain (zs := [1, 2, 3, 4]) (i1 := 52) (i2 := 56) (off := 1161) (by decide +kernel) ko_K_weigh ko_D_weigh rfl rfl kw_585 kw_1393 (by decide) (by decide) (el_d_weigh _ _ _ _) hj hL h next
theorem el_d_hear (p1 : Int32) : el_duo kM_K_hear kM_D_hear 3 3 [.int p1] := by
  intro j c m f u hj h
  obtain ⟨r, c2, m2, h1, h2, h3⟩ := op_hear h p1
  exact ⟨r, c2, m2, f, cx_K_hear 0 p1 c (m, f, u) _ h1, cx_D_hear 0 p1 c2 m f u _ h2, h3⟩
theorem el_c8 {L : Nat} {xs : Nat → Int32} {j : Nat} {c m : Nat → Nat → Int32} {f u : Nat → Int64} (hj : 6 * j + 6 ≤ L) (hL : L ≤ 3072) (h : Inv j c m) (next : el_next L xs j) : kz_B kM_law room_1 (97 + j) (6379 + 6 * j) (el_E L xs) el_Q 528 (el_lv j) [] (c, m, f, u) :=
  el_plain (zs := [1]) (i1 := 57) (i2 := 60) (off := 1136) (by decide +kernel) ko_K_hear ko_D_hear rfl rfl kw_616 kw_1408 (by decide) (by decide) (el_d_hear _) hj hL h next
theorem el_d_weighing (p1 p2 : Int32) : el_duo kM_K_weighing kM_D_weighing 1 2 [.int p1, .int p2] := by
  intro j c m f u hj h
  obtain ⟨r, h1, h2⟩ := op_weighing h p1 p2
  exact ⟨r, c, m, f, cx_K_weighing 0 p1 p2 c (m, f, u) _ h1, cx_D_weighing 0 p1 p2 c m f u _ h2, fr_same h⟩
theorem el_c9 {L : Nat} {xs : Nat → Int32} {j : Nat} {c m : Nat → Nat → Int32} {f u : Nat → Int64} (hj : 6 * j + 6 ≤ L) (hL : L ≤ 3072) (h : Inv j c m) (next : el_next L xs j) : kz_B kM_law room_1 (97 + j) (6379 + 6 * j) (el_E L xs) el_Q 553 (el_lv j) [] (c, m, f, u) :=
  el_plain (zs := [1, 2]) (i1 := 61) (i2 := 64) (off := 1099) (by decide +kernel) ko_K_weighing ko_D_weighing rfl rfl kw_654 kw_1427 (by decide) (by decide) (el_d_weighing _ _) hj hL h next
theorem el_d_touches : el_duo kM_K_touches kM_D_touches 1 2 [] := by
  intro j c m f u hj h
  obtain ⟨r, h1, h2⟩ := op_touches h
  exact ⟨r, c, m, f, cx_K_touches 0 c (m, f, u) _ h1, cx_D_touches 0 c m f u _ h2, fr_same h⟩
theorem el_c11 {L : Nat} {xs : Nat → Int32} {j : Nat} {c m : Nat → Nat → Int32} {f u : Nat → Int64} (hj : 6 * j + 6 ≤ L) (hL : L ≤ 3072) (h : Inv j c m) (next : el_next L xs j) : kz_B kM_law room_1 (97 + j) (6379 + 6 * j) (el_E L xs) el_Q 643 (el_lv j) [] (c, m, f, u) :=
  el_plain (zs := []) (i1 := 70) (i2 := 74) (off := 1033) (by decide +kernel) ko_K_touches ko_D_touches rfl rfl kw_666 kw_1443 (by decide) (by decide) (el_d_touches) hj hL h next
theorem el_d_apart (p1 p2 p3 p4 : Int32) : el_duo kM_K_apart kM_D_apart 4 4 [.int p1, .int p2, .int p3, .int p4] := by
  intro j c m f u hj h
  obtain ⟨r, c2, m2, f2, h1, h2, h3⟩ := op_apart h hj f p1 p2 p3 p4
  exact ⟨r, c2, m2, f2, cx_K_apart 0 p1 p2 p3 p4 c (m, f, u) _ h1, cx_D_apart 0 p1 p2 p3 p4 c2 m f u _ h2, h3⟩
theorem el_c12 {L : Nat} {xs : Nat → Int32} {j : Nat} {c m : Nat → Nat → Int32} {f u : Nat → Int64} (hj : 6 * j + 6 ≤ L) (hL : L ≤ 3072) (h : Inv j c m) (next : el_next L xs j) : kz_B kM_law room_1 (97 + j) (6379 + 6 * j) (el_E L xs) el_Q 656 (el_lv j) [] (c, m, f, u) :=
  el_plain (zs := [1, 2, 3, 4]) (i1 := 75) (i2 := 78) (off := 972) (by decide +kernel) ko_K_apart ko_D_apart rfl rfl kw_670 kw_1447 (by decide) (by decide) (el_d_apart _ _ _ _) hj hL h next
theorem el_d_longApart (p1 p2 p3 p4 p5 : Int32) : el_duo kM_K_longApart kM_D_longApart 5 3 [.int p1, .int p2, .int p3, .int p4, .int p5] := by
  intro j c m f u hj h
  obtain ⟨r, c2, m2, f2, h1, h2, h3⟩ := op_longApart h hj f p1 p2 p3 p4 p5
  exact ⟨r, c2, m2, f2, cx_K_longApart 0 p1 p2 p3 p4 p5 c (m, f, u) _ h1, cx_D_longApart 0 p1 p2 p3 p4 p5 c2 m f u _ h2, h3⟩
theorem el_c13 {L : Nat} {xs : Nat → Int32} {j : Nat} {c m : Nat → Nat → Int32} {f u : Nat → Int64} (hj : 6 * j + 6 ≤ L) (hL : L ≤ 3072) (h : Inv j c m) (next : el_next L xs j) : kz_B kM_law room_1 (97 + j) (6379 + 6 * j) (el_E L xs) el_Q 717 (el_lv j) [] (c, m, f, u) :=
  el_plain (zs := [1, 2, 3, 4, 5]) (i1 := 79) (i2 := 83) (off := 899) (by decide +kernel) ko_K_longApart ko_D_longApart rfl rfl kw_730 kw_1481 (by decide) (by decide) (el_d_longApart _ _ _ _ _) hj hL h next
theorem el_d_fits (p1 : Int32) : el_duo kM_K_fits kM_D_fits 6 4 [.int p1] := by
  intro j c m f u hj h
  obtain ⟨r, c2, m2, f2, h1, h2, h3⟩ := op_fits h hj f p1
  exact ⟨r, c2, m2, f2, cx_K_fits 0 p1 c (m, f, u) _ h1, cx_D_fits 0 p1 c2 m f u _ h2, h3⟩
theorem el_c14 {L : Nat} {xs : Nat → Int32} {j : Nat} {c m : Nat → Nat → Int32} {f u : Nat → Int64} (hj : 6 * j + 6 ≤ L) (hL : L ≤ 3072) (h : Inv j c m) (next : el_next L xs j) : kz_B kM_law room_1 (97 + j) (6379 + 6 * j) (el_E L xs) el_Q 790 (el_lv j) [] (c, m, f, u) :=
  el_plain (zs := [1]) (i1 := 84) (i2 := 87) (off := 874) (by decide +kernel) ko_K_fits ko_D_fits rfl rfl kw_783 kw_1501 (by decide) (by decide) (el_d_fits _) hj hL h next
theorem el_d_needed : el_duo kM_K_needed kM_D_needed 6 4 [] := by
  intro j c m f u hj h
  obtain ⟨r, c2, m2, f2, h1, h2, h3⟩ := op_needed h hj f
  exact ⟨r, c2, m2, f2, cx_K_needed 0 c (m, f, u) _ h1, cx_D_needed 0 c2 m f u _ h2, h3⟩
theorem el_c15 {L : Nat} {xs : Nat → Int32} {j : Nat} {c m : Nat → Nat → Int32} {f u : Nat → Int64} (hj : 6 * j + 6 ≤ L) (hL : L ≤ 3072) (h : Inv j c m) (next : el_next L xs j) : kz_B kM_law room_1 (97 + j) (6379 + 6 * j) (el_E L xs) el_Q 815 (el_lv j) [] (c, m, f, u) :=
  el_plain (zs := []) (i1 := 88) (i2 := 91) (off := 861) (by decide +kernel) ko_K_needed ko_D_needed rfl rfl kw_791 kw_1509 (by decide) (by decide) (el_d_needed) hj hL h next
theorem el_d_swapped (p1 p2 : Int32) : el_duo kM_K_swapped kM_D_swapped 6 4 [.int p1, .int p2] := by
  intro j c m f u hj h
  obtain ⟨r, c2, m2, f2, h1, h2, h3⟩ := op_swapped h hj f p1 p2
  exact ⟨r, c2, m2, f2, cx_K_swapped 0 p1 p2 c (m, f, u) _ h1, cx_D_swapped 0 p1 p2 c2 m f u _ h2, h3⟩
theorem el_c16 {L : Nat} {xs : Nat → Int32} {j : Nat} {c m : Nat → Nat → Int32} {f u : Nat → Int64} (hj : 6 * j + 6 ≤ L) (hL : L ≤ 3072) (h : Inv j c m) (next : el_next L xs j) : kz_B kM_law room_1 (97 + j) (6379 + 6 * j) (el_E L xs) el_Q 828 (el_lv j) [] (c, m, f, u) :=
  el_plain (zs := [1, 2]) (i1 := 92) (i2 := 95) (off := 824) (by decide +kernel) ko_K_swapped ko_D_swapped rfl rfl kw_799 kw_1513 (by decide) (by decide) (el_d_swapped _ _) hj hL h next
theorem el_d_stories (p1 p2 p3 p4 : Int32) : el_duo kM_K_stories kM_D_stories 4 4 [.int p1, .int p2, .int p3, .int p4] := by
  intro j c m f u hj h
  obtain ⟨r, c2, m2, f2, h1, h2, h3⟩ := op_stories h hj f p1 p2 p3 p4
  exact ⟨r, c2, m2, f2, cx_K_stories 0 p1 p2 p3 p4 c (m, f, u) _ h1, cx_D_stories 0 p1 p2 p3 p4 c2 m f u _ h2, h3⟩
theorem el_c17 {L : Nat} {xs : Nat → Int32} {j : Nat} {c m : Nat → Nat → Int32} {f u : Nat → Int64} (hj : 6 * j + 6 ≤ L) (hL : L ≤ 3072) (h : Inv j c m) (next : el_next L xs j) : kz_B kM_law room_1 (97 + j) (6379 + 6 * j) (el_E L xs) el_Q 865 (el_lv j) [] (c, m, f, u) :=
  el_plain (zs := [1, 2, 3, 4]) (i1 := 96) (i2 := 99) (off := 763) (by decide +kernel) ko_K_stories ko_D_stories rfl rfl kw_812 kw_1521 (by decide) (by decide) (el_d_stories _ _ _ _) hj hL h next
theorem el_d_words (p1 : Int32) : el_duo kM_K_words kM_D_words 28 28 [.int p1] := by
  intro j c m f u hj h
  obtain ⟨r, c2, m2, h1, h2, h3⟩ := op_words h p1
  exact ⟨r, c2, m2, f, cx_K_words 0 p1 c (m, f, u) _ h1, cx_D_words 0 p1 c2 m f u _ h2, h3⟩
theorem el_c18 {L : Nat} {xs : Nat → Int32} {j : Nat} {c m : Nat → Nat → Int32} {f u : Nat → Int64} (hj : 6 * j + 6 ≤ L) (hL : L ≤ 3072) (h : Inv j c m) (next : el_next L xs j) : kz_B kM_law room_1 (97 + j) (6379 + 6 * j) (el_E L xs) el_Q 926 (el_lv j) [] (c, m, f, u) :=
  el_plain (zs := [1]) (i1 := 100) (i2 := 103) (off := 738) (by decide +kernel) ko_K_words ko_D_words rfl rfl kw_837 kw_1533 (by decide) (by decide) (el_d_words _) hj hL h next
theorem el_d_one : el_duo kM_K_one kM_D_one 28 28 [] := by
  intro j c m f u hj h
  obtain ⟨r, c2, m2, h1, h2, h3⟩ := op_one h
  exact ⟨r, c2, m2, f, cx_K_one 0 c (m, f, u) _ h1, cx_D_one 0 c2 m f u _ h2, h3⟩
theorem el_c19 {L : Nat} {xs : Nat → Int32} {j : Nat} {c m : Nat → Nat → Int32} {f u : Nat → Int64} (hj : 6 * j + 6 ≤ L) (hL : L ≤ 3072) (h : Inv j c m) (next : el_next L xs j) : kz_B kM_law room_1 (97 + j) (6379 + 6 * j) (el_E L xs) el_Q 951 (el_lv j) [] (c, m, f, u) :=
  el_plain (zs := []) (i1 := 104) (i2 := 107) (off := 725) (by decide +kernel) ko_K_one ko_D_one rfl rfl kw_907 kw_1574 (by decide) (by decide) (el_d_one) hj hL h next
theorem el_d_worth (p1 : Int32) : el_duo kM_K_worth kM_D_worth 28 28 [.int p1] := by
  intro j c m f u hj h
  obtain ⟨r, c2, m2, h1, h2, h3⟩ := op_worth h p1
  exact ⟨r, c2, m2, f, cx_K_worth 0 p1 c (m, f, u) _ h1, cx_D_worth 0 p1 c2 m f u _ h2, h3⟩
theorem el_c20 {L : Nat} {xs : Nat → Int32} {j : Nat} {c m : Nat → Nat → Int32} {f u : Nat → Int64} (hj : 6 * j + 6 ≤ L) (hL : L ≤ 3072) (h : Inv j c m) (next : el_next L xs j) : kz_B kM_law room_1 (97 + j) (6379 + 6 * j) (el_E L xs) el_Q 964 (el_lv j) [] (c, m, f, u) :=
  el_plain (zs := [1]) (i1 := 108) (i2 := 111) (off := 700) (by decide +kernel) ko_K_worth ko_D_worth rfl rfl kw_911 kw_1602 (by decide) (by decide) (el_d_worth _) hj hL h next
theorem el_d_moves (p1 p2 : Int32) : el_duo kM_K_moves kM_D_moves 28 28 [.int p1, .int p2] := by
  intro j c m f u hj h
  obtain ⟨r, c2, m2, h1, h2, h3⟩ := op_moves h p1 p2
  exact ⟨r, c2, m2, f, cx_K_moves 0 p1 p2 c (m, f, u) _ h1, cx_D_moves 0 p1 p2 c2 m f u _ h2, h3⟩
theorem el_c21 {L : Nat} {xs : Nat → Int32} {j : Nat} {c m : Nat → Nat → Int32} {f u : Nat → Int64} (hj : 6 * j + 6 ≤ L) (hL : L ≤ 3072) (h : Inv j c m) (next : el_next L xs j) : kz_B kM_law room_1 (97 + j) (6379 + 6 * j) (el_E L xs) el_Q 989 (el_lv j) [] (c, m, f, u) :=
  el_plain (zs := [1, 2]) (i1 := 112) (i2 := 115) (off := 663) (by decide +kernel) ko_K_moves ko_D_moves rfl rfl kw_915 kw_1606 (by decide) (by decide) (el_d_moves _ _) hj hL h next
theorem el_d_link (p1 p2 p3 p4 : Int32) : el_duo kM_K_link kM_D_link 2 2 [.int p1, .int p2, .int p3, .int p4] := by
  intro j c m f u hj h
  obtain ⟨r, c2, m2, h1, h2, h3⟩ := op_link h p1 p2 p3 p4
  exact ⟨r, c2, m2, f, cx_K_link 0 p1 p2 p3 p4 c (m, f, u) _ h1, cx_D_link 0 p1 p2 p3 p4 c2 m f u _ h2, h3⟩
theorem el_c22 {L : Nat} {xs : Nat → Int32} {j : Nat} {c m : Nat → Nat → Int32} {f u : Nat → Int64} (hj : 6 * j + 6 ≤ L) (hL : L ≤ 3072) (h : Inv j c m) (next : el_next L xs j) : kz_B kM_law room_1 (97 + j) (6379 + 6 * j) (el_E L xs) el_Q 1026 (el_lv j) [] (c, m, f, u) :=
  el_plain (zs := [1, 2, 3, 4]) (i1 := 116) (i2 := 119) (off := 602) (by decide +kernel) ko_K_link ko_D_link rfl rfl kw_920 kw_1611 (by decide) (by decide) (el_d_link _ _ _ _) hj hL h next
theorem el_d_chain (p1 p2 : Int32) : el_duo kM_K_chain kM_D_chain 2 2 [.int p1, .int p2] := by
  intro j c m f u hj h
  obtain ⟨r, h1, h2⟩ := op_chain h p1 p2
  exact ⟨r, c, m, f, cx_K_chain 0 p1 p2 c (m, f, u) _ h1, cx_D_chain 0 p1 p2 c m f u _ h2, fr_same h⟩
theorem el_c23 {L : Nat} {xs : Nat → Int32} {j : Nat} {c m : Nat → Nat → Int32} {f u : Nat → Int64} (hj : 6 * j + 6 ≤ L) (hL : L ≤ 3072) (h : Inv j c m) (next : el_next L xs j) : kz_B kM_law room_1 (97 + j) (6379 + 6 * j) (el_E L xs) el_Q 1087 (el_lv j) [] (c, m, f, u) :=
  el_plain (zs := [1, 2]) (i1 := 120) (i2 := 123) (off := 565) (by decide +kernel) ko_K_chain ko_D_chain rfl rfl kw_931 kw_1624 (by decide) (by decide) (el_d_chain _ _) hj hL h next
theorem el_d_agree (p1 p2 : Int32) : el_duo kM_K_agree kM_D_agree 3 3 [.int p1, .int p2] := by
  intro j c m f u hj h
  obtain ⟨r, h1, h2⟩ := op_agree h p1 p2
  exact ⟨r, c, m, f, cx_K_agree 0 p1 p2 c (m, f, u) _ h1, cx_D_agree 0 p1 p2 c m f u _ h2, fr_same h⟩
theorem el_c24 {L : Nat} {xs : Nat → Int32} {j : Nat} {c m : Nat → Nat → Int32} {f u : Nat → Int64} (hj : 6 * j + 6 ≤ L) (hL : L ≤ 3072) (h : Inv j c m) (next : el_next L xs j) : kz_B kM_law room_1 (97 + j) (6379 + 6 * j) (el_E L xs) el_Q 1124 (el_lv j) [] (c, m, f, u) :=
  el_plain (zs := [1, 2]) (i1 := 124) (i2 := 127) (off := 528) (by decide +kernel) ko_K_agree ko_D_agree rfl rfl kw_943 kw_1632 (by decide) (by decide) (el_d_agree _ _) hj hL h next
theorem el_d_wrong (p1 p2 p3 : Int32) : el_duo kM_K_wrong kM_D_wrong 3 3 [.int p1, .int p2, .int p3] := by
  intro j c m f u hj h
  obtain ⟨r, h1, h2⟩ := op_wrong h p1 p2 p3
  exact ⟨r, c, m, f, cx_K_wrong 0 p1 p2 p3 c (m, f, u) _ h1, cx_D_wrong 0 p1 p2 p3 c m f u _ h2, fr_same h⟩
theorem el_c25 {L : Nat} {xs : Nat → Int32} {j : Nat} {c m : Nat → Nat → Int32} {f u : Nat → Int64} (hj : 6 * j + 6 ≤ L) (hL : L ≤ 3072) (h : Inv j c m) (next : el_next L xs j) : kz_B kM_law room_1 (97 + j) (6379 + 6 * j) (el_E L xs) el_Q 1161 (el_lv j) [] (c, m, f, u) :=
  el_plain (zs := [1, 2, 3]) (i1 := 128) (i2 := 131) (off := 479) (by decide +kernel) ko_K_wrong ko_D_wrong rfl rfl kw_960 kw_1644 (by decide) (by decide) (el_d_wrong _ _ _) hj hL h next
theorem el_d_when (p1 : Int32) : el_duo kM_K_when kM_D_when 2 3 [.int p1] := by
  intro j c m f u hj h
  obtain ⟨r, h1, h2⟩ := op_when h p1
  exact ⟨r, c, m, f, cx_K_when 0 p1 c (m, f, u) _ h1, cx_D_when 0 p1 c m f u _ h2, fr_same h⟩
theorem el_c26 {L : Nat} {xs : Nat → Int32} {j : Nat} {c m : Nat → Nat → Int32} {f u : Nat → Int64} (hj : 6 * j + 6 ≤ L) (hL : L ≤ 3072) (h : Inv j c m) (next : el_next L xs j) : kz_B kM_law room_1 (97 + j) (6379 + 6 * j) (el_E L xs) el_Q 1210 (el_lv j) [] (c, m, f, u) :=
  el_plain (zs := [1]) (i1 := 132) (i2 := 135) (off := 454) (by decide +kernel) ko_K_when ko_D_when rfl rfl kw_968 kw_1648 (by decide) (by decide) (el_d_when _) hj hL h next
theorem el_d_plan (p1 p2 p3 p4 : Int32) : el_duo kM_K_plan kM_D_plan 5 4 [.int p1, .int p2, .int p3, .int p4] := by
  intro j c m f u hj h
  obtain ⟨r, c2, m2, f2, h1, h2, h3⟩ := op_plan h hj f p1 p2 p3 p4
  exact ⟨r, c2, m2, f2, cx_K_plan 0 p1 p2 p3 p4 c (m, f, u) _ h1, cx_D_plan 0 p1 p2 p3 p4 c2 m f u _ h2, h3⟩
theorem el_c27 {L : Nat} {xs : Nat → Int32} {j : Nat} {c m : Nat → Nat → Int32} {f u : Nat → Int64} (hj : 6 * j + 6 ≤ L) (hL : L ≤ 3072) (h : Inv j c m) (next : el_next L xs j) : kz_B kM_law room_1 (97 + j) (6379 + 6 * j) (el_E L xs) el_Q 1235 (el_lv j) [] (c, m, f, u) :=
  el_plain (zs := [1, 2, 3, 4]) (i1 := 136) (i2 := 139) (off := 393) (by decide +kernel) ko_K_plan ko_D_plan rfl rfl kw_982 kw_1652 (by decide) (by decide) (el_d_plan _ _ _ _) hj hL h next
theorem el_d_image : el_duo kM_K_image kM_D_image 3 0 [] := by
  intro j c m f u hj h
  obtain ⟨r, c2, m2, h1, h2, h3⟩ := op_image h
  exact ⟨r, c2, m2, f, cx_K_image 0 c (m, f, u) _ h1, cx_D_image 0 c2 m f u _ h2, h3⟩
theorem el_c28 {L : Nat} {xs : Nat → Int32} {j : Nat} {c m : Nat → Nat → Int32} {f u : Nat → Int64} (hj : 6 * j + 6 ≤ L) (hL : L ≤ 3072) (h : Inv j c m) (next : el_next L xs j) : kz_B kM_law room_1 (97 + j) (6379 + 6 * j) (el_E L xs) el_Q 1296 (el_lv j) [] (c, m, f, u) :=
  el_plain (zs := []) (i1 := 140) (i2 := 143) (off := 380) (by decide +kernel) ko_K_image ko_D_image rfl rfl kw_1046 kw_1669 (by decide) (by decide) (el_d_image) hj hL h next
theorem el_d_restore : el_duo kM_K_restore kM_D_restore 3 0 [] := by
  intro j c m f u hj h
  obtain ⟨r, c2, m2, h1, h2, h3⟩ := op_restore h
  exact ⟨r, c2, m2, f, cx_K_restore 0 c (m, f, u) _ h1, cx_D_restore 0 c2 m f u _ h2, h3⟩
theorem el_c29 {L : Nat} {xs : Nat → Int32} {j : Nat} {c m : Nat → Nat → Int32} {f u : Nat → Int64} (hj : 6 * j + 6 ≤ L) (hL : L ≤ 3072) (h : Inv j c m) (next : el_next L xs j) : kz_B kM_law room_1 (97 + j) (6379 + 6 * j) (el_E L xs) el_Q 1309 (el_lv j) [] (c, m, f, u) :=
  el_plain (zs := []) (i1 := 144) (i2 := 147) (off := 367) (by decide +kernel) ko_K_restore ko_D_restore rfl rfl kw_1071 kw_1673 (by decide) (by decide) (el_d_restore) hj hL h next
theorem el_d_count (p1 : Int32) : el_duo kM_K_count kM_D_count 1 1 [.int p1] := by
  intro j c m f u hj h
  obtain ⟨r, h1, h2⟩ := op_count h p1
  exact ⟨r, c, m, f, cx_K_count 0 p1 c (m, f, u) _ h1, cx_D_count 0 p1 c m f u _ h2, fr_same h⟩
theorem el_c30 {L : Nat} {xs : Nat → Int32} {j : Nat} {c m : Nat → Nat → Int32} {f u : Nat → Int64} (hj : 6 * j + 6 ≤ L) (hL : L ≤ 3072) (h : Inv j c m) (next : el_next L xs j) : kz_B kM_law room_1 (97 + j) (6379 + 6 * j) (el_E L xs) el_Q 1322 (el_lv j) [] (c, m, f, u) :=
  el_plain (zs := [1]) (i1 := 148) (i2 := 151) (off := 342) (by decide +kernel) ko_K_count ko_D_count rfl rfl kw_1075 kw_1677 (by decide) (by decide) (el_d_count _) hj hL h next
theorem el_d_keep (p1 p2 p3 : Int32) : el_duo kM_K_keep kM_D_keep 2 2 [.int p1, .int p2, .int p3] := by
  intro j c m f u hj h
  obtain ⟨r, c2, m2, h1, h2, h3⟩ := op_keep h p1 p2 p3
  exact ⟨r, c2, m2, f, cx_K_keep 0 p1 p2 p3 c (m, f, u) _ h1, cx_D_keep 0 p1 p2 p3 c2 m f u _ h2, h3⟩
theorem el_c31 {L : Nat} {xs : Nat → Int32} {j : Nat} {c m : Nat → Nat → Int32} {f u : Nat → Int64} (hj : 6 * j + 6 ≤ L) (hL : L ≤ 3072) (h : Inv j c m) (next : el_next L xs j) : kz_B kM_law room_1 (97 + j) (6379 + 6 * j) (el_E L xs) el_Q 1347 (el_lv j) [] (c, m, f, u) :=
  el_plain (zs := [1, 2, 3]) (i1 := 152) (i2 := 155) (off := 293) (by decide +kernel) ko_K_keep ko_D_keep rfl rfl kw_1087 kw_1681 (by decide) (by decide) (el_d_keep _ _ _) hj hL h next
theorem el_d_row (p1 p2 p3 : Int32) : el_duo kM_K_row kM_D_row 2 2 [.int p1, .int p2, .int p3] := by
  intro j c m f u hj h
  obtain ⟨r, c2, m2, h1, h2, h3⟩ := op_row h p1 p2 p3
  exact ⟨r, c2, m2, f, cx_K_row 0 p1 p2 p3 c (m, f, u) _ h1, cx_D_row 0 p1 p2 p3 c2 m f u _ h2, h3⟩
theorem el_c32 {L : Nat} {xs : Nat → Int32} {j : Nat} {c m : Nat → Nat → Int32} {f u : Nat → Int64} (hj : 6 * j + 6 ≤ L) (hL : L ≤ 3072) (h : Inv j c m) (next : el_next L xs j) : kz_B kM_law room_1 (97 + j) (6379 + 6 * j) (el_E L xs) el_Q 1396 (el_lv j) [] (c, m, f, u) :=
  el_plain (zs := [1, 2, 3]) (i1 := 156) (i2 := 159) (off := 244) (by decide +kernel) ko_K_row ko_D_row rfl rfl kw_1099 kw_1689 (by decide) (by decide) (el_d_row _ _ _) hj hL h next
theorem el_d_put (p1 p2 p3 : Int32) : el_duo kM_K_put kM_D_put 3 3 [.int p1, .int p2, .int p3] := by
  intro j c m f u hj h
  obtain ⟨r, c2, m2, h1, h2, h3⟩ := op_put h p1 p2 p3
  exact ⟨r, c2, m2, f, cx_K_put 0 p1 p2 p3 c (m, f, u) _ h1, cx_D_put 0 p1 p2 p3 c2 m f u _ h2, h3⟩
theorem el_c33 {L : Nat} {xs : Nat → Int32} {j : Nat} {c m : Nat → Nat → Int32} {f u : Nat → Int64} (hj : 6 * j + 6 ≤ L) (hL : L ≤ 3072) (h : Inv j c m) (next : el_next L xs j) : kz_B kM_law room_1 (97 + j) (6379 + 6 * j) (el_E L xs) el_Q 1445 (el_lv j) [] (c, m, f, u) :=
  el_plain (zs := [1, 2, 3]) (i1 := 160) (i2 := 163) (off := 195) (by decide +kernel) ko_K_put ko_D_put rfl rfl kw_1108 kw_1693 (by decide) (by decide) (el_d_put _ _ _) hj hL h next
theorem el_d_copy (p1 p2 p3 p4 p5 : Int32) : el_duo kM_K_copy kM_D_copy 2 2 [.int p1, .int p2, .int p3, .int p4, .int p5] := by
  intro j c m f u hj h
  obtain ⟨r, c2, m2, h1, h2, h3⟩ := op_copy h p1 p2 p3 p4 p5
  exact ⟨r, c2, m2, f, cx_K_copy 0 p1 p2 p3 p4 p5 c (m, f, u) _ h1, cx_D_copy 0 p1 p2 p3 p4 p5 c2 m f u _ h2, h3⟩
theorem el_c35 {L : Nat} {xs : Nat → Int32} {j : Nat} {c m : Nat → Nat → Int32} {f u : Nat → Int64} (hj : 6 * j + 6 ≤ L) (hL : L ≤ 3072) (h : Inv j c m) (next : el_next L xs j) : kz_B kM_law room_1 (97 + j) (6379 + 6 * j) (el_E L xs) el_Q 1561 (el_lv j) [] (c, m, f, u) :=
  el_plain (zs := [1, 2, 3, 4, 5]) (i1 := 173) (i2 := 176) (off := 55) (by decide +kernel) ko_K_copy ko_D_copy rfl rfl kw_1116 kw_1701 (by decide) (by decide) (el_d_copy _ _ _ _ _) hj hL h next
theorem el_d_care (p1 : Int32) : el_duo kM_K_care kM_D_care 3 3 [.int p1] := by
  intro j c m f u hj h
  obtain ⟨r, h1, h2⟩ := op_care h p1
  exact ⟨r, c, m, f, cx_K_care 0 p1 c (m, f, u) _ h1, cx_D_care 0 p1 c m f u _ h2, fr_same h⟩
theorem el_c36 {L : Nat} {xs : Nat → Int32} {j : Nat} {c m : Nat → Nat → Int32} {f u : Nat → Int64} (hj : 6 * j + 6 ≤ L) (hL : L ≤ 3072) (h : Inv j c m) (next : el_next L xs j) : kz_B kM_law room_1 (97 + j) (6379 + 6 * j) (el_E L xs) el_Q 1634 (el_lv j) [] (c, m, f, u) :=
  el_plain (zs := [1]) (i1 := 177) (i2 := 180) (off := 30) (by decide +kernel) ko_K_care ko_D_care rfl rfl kw_1125 kw_1705 (by decide) (by decide) (el_d_care _) hj hL h next
