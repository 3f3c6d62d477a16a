/-! ===== the law: its beginning, printed by wip/gen/lawstart.py ===== -/
theorem dk_L_law_0 : decode code 0 = .ok (.new 8, 3) := by decide +kernel
theorem dk_L_law_3 : decode code 3 = .ok (.dup, 1) := by decide +kernel
theorem dk_L_law_4 : decode code 4 = .ok (.invokespecial 17, 3) := by decide +kernel
theorem dk_L_law_7 : decode code 7 = .ok (.astore_n 1, 1) := by decide +kernel
theorem dk_L_law_8 : decode code 8 = .ok (.new 18, 3) := by decide +kernel
theorem dk_L_law_11 : decode code 11 = .ok (.dup, 1) := by decide +kernel
theorem dk_L_law_12 : decode code 12 = .ok (.invokespecial 20, 3) := by decide +kernel
theorem dk_L_law_15 : decode code 15 = .ok (.astore_n 2, 1) := by decide +kernel
theorem dk_L_law_16 : decode code 16 = .ok (.iconst 1, 1) := by decide +kernel
theorem dk_L_law_17 : decode code 17 = .ok (.newarray .long, 2) := by decide +kernel
theorem dk_L_law_19 : decode code 19 = .ok (.astore_n 3, 1) := by decide +kernel
theorem dk_L_law_20 : decode code 20 = .ok (.iconst 0, 1) := by decide +kernel
theorem dk_L_law_21 : decode code 21 = .ok (.istore 4, 2) := by decide +kernel
theorem kw_90 : (Jvm.Cond.classLink "KeptLumpLaw" (8 : Nat) "KeptLump") ∈ kv_gw := List.mem_filter.mpr ⟨kv_tb1 (List.mem_of_getElem? (i := 22) (by decide +kernel)), by decide +kernel⟩
theorem kw_91 : (Jvm.Cond.instantiable "KeptLump" (9 : Nat)) ∈ kv_gw := List.mem_filter.mpr ⟨kv_tb1 (List.mem_of_getElem? (i := 23) (by decide +kernel)), by decide +kernel⟩
theorem kw_94 : (Jvm.Cond.code ({ cls := "KeptLump", name := "<init>", desc := "()V" } : Jvm.MethodName) prog_1_method_1_code (2 : Nat) (Option.none : Option Jvm.ClassFile.FieldType)) ∈ kv_gw := List.mem_filter.mpr ⟨kv_tb1 (List.mem_of_getElem? (i := 26) (by decide +kernel)), by decide +kernel⟩
theorem kqo_KeptLump : kq_ok kM_K_init 0 := ⟨kw_69, kw_94, ⟨by decide, by decide⟩, by decide +kernel, by decide⟩
theorem kw_93 : (Jvm.Cond.instanceMethod ({ cls := "KeptLump", name := "<init>", desc := "()V" } : Jvm.MethodName)) ∈ kv_gw := List.mem_filter.mpr ⟨kv_tb1 (List.mem_of_getElem? (i := 25) (by decide +kernel)), by decide +kernel⟩
theorem kw_92 : (Jvm.Cond.methodLink "KeptLumpLaw" (17 : Nat) ({ cls := "KeptLump", name := "<init>", desc := "()V" } : Jvm.MethodName)) ∈ kv_gw := List.mem_filter.mpr ⟨kv_tb1 (List.mem_of_getElem? (i := 24) (by decide +kernel)), by decide +kernel⟩
theorem kw_1238 : (Jvm.Cond.classLink "KeptLumpLaw" (18 : Nat) "KeptLumpModel") ∈ kv_gw := List.mem_filter.mpr ⟨kv_tb5 (List.mem_of_getElem? (i := 210) (by decide +kernel)), by decide +kernel⟩
theorem kw_1239 : (Jvm.Cond.instantiable "KeptLumpModel" (25 : Nat)) ∈ kv_gw := List.mem_filter.mpr ⟨kv_tb5 (List.mem_of_getElem? (i := 211) (by decide +kernel)), by decide +kernel⟩
theorem kw_1242 : (Jvm.Cond.code ({ cls := "KeptLumpModel", name := "<init>", desc := "()V" } : Jvm.MethodName) prog_13_method_1_code (2 : Nat) (Option.none : Option Jvm.ClassFile.FieldType)) ∈ kv_gw := List.mem_filter.mpr ⟨kv_tb5 (List.mem_of_getElem? (i := 214) (by decide +kernel)), by decide +kernel⟩
theorem kqo_KeptLumpModel : kq_ok kM_D_init 0 := ⟨kw_81, kw_1242, ⟨by decide, by decide⟩, by decide +kernel, by decide⟩
theorem kw_1241 : (Jvm.Cond.instanceMethod ({ cls := "KeptLumpModel", name := "<init>", desc := "()V" } : Jvm.MethodName)) ∈ kv_gw := List.mem_filter.mpr ⟨kv_tb5 (List.mem_of_getElem? (i := 213) (by decide +kernel)), by decide +kernel⟩
theorem kw_1240 : (Jvm.Cond.methodLink "KeptLumpLaw" (20 : Nat) ({ cls := "KeptLumpModel", name := "<init>", desc := "()V" } : Jvm.MethodName)) ∈ kv_gw := List.mem_filter.mpr ⟨kv_tb5 (List.mem_of_getElem? (i := 212) (by decide +kernel)), by decide +kernel⟩
def kqw_law_1 : List kq_c := (([] : List kq_c)) ++ (kql_KeptLump).map (kq_sh 0)
def kqw_law_2 : List kq_c := (kqw_law_1) ++ (kql_KeptLumpModel).map (kq_sh 84)
def kql_law : List kq_c := kqw_law_2 ++ [(.inr (13, 1, .inr (.inl (fun _ => 0))) : kq_c)]
set_option maxRecDepth 100000 in
theorem el_start {E : kq_Ep} {Q : kq_Qp} (kk : kq_B kM_law room_1 97 6379 E Q 23 [(4, .int 0), (3, .ref 96), (2, .ref 84), (1, .ref 0), (0, .ref 5000)] [] kql_law) : kq_B kM_law room_1 0 0 E Q 0 [(0, .ref 5000)] [] [] := by
  refine kq_new (t := 0) (k2 := 1) (n2 := 9) (fs := [.null, .null, .int 0, .null, .null, .null, .null, .null, .int 0]) kc_10 kw_90 kw_91 kw_69 (fun _ => rfl) (by decide +kernel) rfl rfl ⟨by decide, by decide⟩ rfl (by decide) dk_L_law_0 ?_
  refine kq_dupR dk_L_law_3 ?_
  refine kq_callI (L0 := (([] : List kq_c))) (e0 := ((.inl (10, [.null, .null, .int 0, .null, .null, .null, .null, .null, .int 0]) : kq_c))) (L' := kqw_law_1) (k2 := 84) (n2 := 2601) (LE := kql_KeptLump) kqo_KeptLump kw_93 rfl rfl kw_92 (by decide) dk_L_law_4 ⟨by decide, by decide, rfl, rfl, by decide, by decide⟩ rfl rfl (by decide) rfl cq_KeptLump rfl ?_
  refine kq_astore_n (lv' := [(1, .ref 0), (0, .ref 5000)]) rfl (by decide) rfl dk_L_law_7 ?_
  refine kq_new (t := 84) (k2 := 85) (n2 := 2626) (fs := [.null, .null, .null, .null, .null, .null, .null, .null, .int 0, .int 0, .null, .null, .null, .int 0, .int 0, .int 0, .int 0, .int 0, .int 0, .int 0, .int 0, .int 0, .int 0, .null, .int 0]) kc_11 kw_1238 kw_1239 kw_81 (fun _ => rfl) (by decide +kernel) rfl rfl ⟨by decide, by decide⟩ rfl (by decide) dk_L_law_8 ?_
  refine kq_dupR dk_L_law_11 ?_
  refine kq_callI (L0 := (kqw_law_1)) (e0 := ((.inl (11, [.null, .null, .null, .null, .null, .null, .null, .null, .int 0, .int 0, .null, .null, .null, .int 0, .int 0, .int 0, .int 0, .int 0, .int 0, .int 0, .int 0, .int 0, .int 0, .null, .int 0]) : kq_c))) (L' := kqw_law_2) (k2 := 96) (n2 := 6378) (LE := kql_KeptLumpModel) kqo_KeptLumpModel kw_1241 rfl rfl kw_1240 (by decide) dk_L_law_12 ⟨by decide, by decide, rfl, rfl, by decide, by decide⟩ rfl rfl (by decide) rfl cq_KeptLumpModel rfl ?_
  refine kq_astore_n (lv' := [(2, .ref 84), (1, .ref 0), (0, .ref 5000)]) rfl (by decide) rfl dk_L_law_15 ?_
  refine kq_iconst (v := 1) dk_L_law_16 (by decide +kernel) ?_
  refine kq_newJ (N0 := 1) (t := 96) (k2 := 97) (n2 := 6379) kw_1320 (by decide +kernel) (by decide +kernel) (by decide) rfl rfl ⟨by decide, by decide⟩ rfl (by decide) dk_L_law_17 ?_
  refine kq_astore_n (lv' := [(3, .ref 96), (2, .ref 84), (1, .ref 0), (0, .ref 5000)]) rfl (by decide) rfl dk_L_law_19 ?_
  refine kq_iconst (v := 0) dk_L_law_20 (by decide +kernel) ?_
  refine kq_istore (lv' := [(4, .int 0), (3, .ref 96), (2, .ref 84), (1, .ref 0), (0, .ref 5000)]) rfl (by decide) dk_L_law_21 ?_
  exact kk
