/-! ===== the constructors: printed by wip/gen/make.py ===== -/
theorem kq_dc {ci kf : Nat} {cls C0 : String} {T0 : u_T} {N0 : Nat} (h0 : kv_cl[ci]? = some (C0, T0, N0)) (h1 : (T0 kf).1 = cls) : ∀ C T N, kv_cl[ci]? = some (C, T, N) → (T kf).1 = cls := by
  intro C T N h
  rw [h0] at h
  cases h
  exact h1
def kqw_fill_1 : List kq_c := ([(.inr (12, 4, .inl (fun _ => 0)) : kq_c)]).set 0 (.inr (12, 4, .inl (upd (fun _ => 0) 0 10)))
def kqw_fill_2 : List kq_c := (kqw_fill_1).set 0 (.inr (12, 4, .inl (upd (upd (fun _ => 0) 0 10) 1 10)))
def kqw_fill_3 : List kq_c := (kqw_fill_2).set 0 (.inr (12, 4, .inl (upd (upd (upd (fun _ => 0) 0 10) 1 10) 2 10)))
def kqw_fill_4 : List kq_c := (kqw_fill_3).set 0 (.inr (12, 4, .inl (upd (upd (upd (upd (fun _ => 0) 0 10) 1 10) 2 10) 3 10)))
def kql_fill : List kq_c := kqw_fill_4
set_option maxRecDepth 100000 in
theorem cq_fill : kq_C kM_Arr_fill 1 0 0 [.ref 0, .int 10] ((.inr (12, 4, .inl (fun _ => 0)) : kq_c)) kql_fill := by
  refine kq_entry (by decide) (by decide) ?_
  refine kq_iconst (v := 0) dk_Arr_fill_0 (by decide +kernel) ?_
  refine kq_istore_n (lv' := [(2, .int 0), (0, .ref 0), (1, .int 10)]) rfl (by decide) rfl dk_Arr_fill_1 ?_
  refine kq_aload_n 1 rfl rfl dk_Arr_fill_2 ?_
  refine kq_alen (N0 := 4) (v := 4) (by decide) rfl (by decide +kernel) dk_Arr_fill_3 ?_
  refine kq_istore_n (lv' := [(3, .int 4), (2, .int 0), (0, .ref 0), (1, .int 10)]) rfl (by decide) rfl dk_Arr_fill_4 ?_
  refine kq_iload_n 1 rfl rfl dk_Arr_fill_5 ?_
  refine kq_iload_n 0 rfl rfl dk_Arr_fill_6 ?_
  refine kq_icmp_ge (tgt := 20) dk_Arr_fill_7 (by decide) (fun h => absurd h (by decide +kernel)) (fun _ => ?_)
  refine kq_aload_n 2 rfl rfl dk_Arr_fill_10 ?_
  refine kq_iload_n 1 rfl rfl dk_Arr_fill_11 ?_
  refine kq_iload_n 3 rfl rfl dk_Arr_fill_12 ?_
  refine kq_iast (N0 := 4) (j := 0) (L' := kqw_fill_1) (by decide) rfl (by unfold vp_in; decide +kernel) (by decide +kernel) rfl dk_Arr_fill_13 ?_
  refine kq_iinc (v2 := 1) (lv' := [(2, .int 1), (3, .int 4), (0, .ref 0), (1, .int 10)]) 1 rfl (by decide +kernel) rfl (by decide) dk_Arr_fill_14 ?_
  refine kq_goto (tgt := 5) dk_Arr_fill_17 (by decide) ?_
  refine kq_iload_n 0 rfl rfl dk_Arr_fill_5 ?_
  refine kq_iload_n 1 rfl rfl dk_Arr_fill_6 ?_
  refine kq_icmp_ge (tgt := 20) dk_Arr_fill_7 (by decide) (fun h => absurd h (by decide +kernel)) (fun _ => ?_)
  refine kq_aload_n 2 rfl rfl dk_Arr_fill_10 ?_
  refine kq_iload_n 0 rfl rfl dk_Arr_fill_11 ?_
  refine kq_iload_n 3 rfl rfl dk_Arr_fill_12 ?_
  refine kq_iast (N0 := 4) (j := 1) (L' := kqw_fill_2) (by decide) rfl (by unfold vp_in; decide +kernel) (by decide +kernel) rfl dk_Arr_fill_13 ?_
  refine kq_iinc (v2 := 2) (lv' := [(2, .int 2), (3, .int 4), (0, .ref 0), (1, .int 10)]) 0 rfl (by decide +kernel) rfl (by decide) dk_Arr_fill_14 ?_
  refine kq_goto (tgt := 5) dk_Arr_fill_17 (by decide) ?_
  refine kq_iload_n 0 rfl rfl dk_Arr_fill_5 ?_
  refine kq_iload_n 1 rfl rfl dk_Arr_fill_6 ?_
  refine kq_icmp_ge (tgt := 20) dk_Arr_fill_7 (by decide) (fun h => absurd h (by decide +kernel)) (fun _ => ?_)
  refine kq_aload_n 2 rfl rfl dk_Arr_fill_10 ?_
  refine kq_iload_n 0 rfl rfl dk_Arr_fill_11 ?_
  refine kq_iload_n 3 rfl rfl dk_Arr_fill_12 ?_
  refine kq_iast (N0 := 4) (j := 2) (L' := kqw_fill_3) (by decide) rfl (by unfold vp_in; decide +kernel) (by decide +kernel) rfl dk_Arr_fill_13 ?_
  refine kq_iinc (v2 := 3) (lv' := [(2, .int 3), (3, .int 4), (0, .ref 0), (1, .int 10)]) 0 rfl (by decide +kernel) rfl (by decide) dk_Arr_fill_14 ?_
  refine kq_goto (tgt := 5) dk_Arr_fill_17 (by decide) ?_
  refine kq_iload_n 0 rfl rfl dk_Arr_fill_5 ?_
  refine kq_iload_n 1 rfl rfl dk_Arr_fill_6 ?_
  refine kq_icmp_ge (tgt := 20) dk_Arr_fill_7 (by decide) (fun h => absurd h (by decide +kernel)) (fun _ => ?_)
  refine kq_aload_n 2 rfl rfl dk_Arr_fill_10 ?_
  refine kq_iload_n 0 rfl rfl dk_Arr_fill_11 ?_
  refine kq_iload_n 3 rfl rfl dk_Arr_fill_12 ?_
  refine kq_iast (N0 := 4) (j := 3) (L' := kqw_fill_4) (by decide) rfl (by unfold vp_in; decide +kernel) (by decide +kernel) rfl dk_Arr_fill_13 ?_
  refine kq_iinc (v2 := 4) (lv' := [(2, .int 4), (3, .int 4), (0, .ref 0), (1, .int 10)]) 0 rfl (by decide +kernel) rfl (by decide) dk_Arr_fill_14 ?_
  refine kq_goto (tgt := 5) dk_Arr_fill_17 (by decide) ?_
  refine kq_iload_n 0 rfl rfl dk_Arr_fill_5 ?_
  refine kq_iload_n 1 rfl rfl dk_Arr_fill_6 ?_
  refine kq_icmp_ge (tgt := 20) dk_Arr_fill_7 (by decide) (fun _ => ?_) (fun h => absurd (by decide +kernel) h)
  exact kq_vret rfl rfl rfl dk_Arr_fill_20 rfl
abbrev kM_Lumps_init : kv_MI := (⟨"KeptLump$Lumps", "<init>", "()V"⟩, prog_5_method_1_code, 1, none)
theorem dk_Lumps_init_0 : decode prog_5_method_1_code 0 = .ok (.aload_n 0, 1) := by decide +kernel
theorem dk_Lumps_init_1 : decode prog_5_method_1_code 1 = .ok (.invokespecial 3, 3) := by decide +kernel
theorem dk_Lumps_init_4 : decode prog_5_method_1_code 4 = .ok (.aload_n 0, 1) := by decide +kernel
theorem dk_Lumps_init_5 : decode prog_5_method_1_code 5 = .ok (.bipush 10, 2) := by decide +kernel
theorem dk_Lumps_init_7 : decode prog_5_method_1_code 7 = .ok (.newarray .int, 2) := by decide +kernel
theorem dk_Lumps_init_9 : decode prog_5_method_1_code 9 = .ok (.putfield 9, 3) := by decide +kernel
theorem dk_Lumps_init_12 : decode prog_5_method_1_code 12 = .ok (.aload_n 0, 1) := by decide +kernel
theorem dk_Lumps_init_13 : decode prog_5_method_1_code 13 = .ok (.bipush 10, 2) := by decide +kernel
theorem dk_Lumps_init_15 : decode prog_5_method_1_code 15 = .ok (.newarray .int, 2) := by decide +kernel
theorem dk_Lumps_init_17 : decode prog_5_method_1_code 17 = .ok (.putfield 15, 3) := by decide +kernel
theorem dk_Lumps_init_20 : decode prog_5_method_1_code 20 = .ok (.aload_n 0, 1) := by decide +kernel
theorem dk_Lumps_init_21 : decode prog_5_method_1_code 21 = .ok (.bipush 10, 2) := by decide +kernel
theorem dk_Lumps_init_23 : decode prog_5_method_1_code 23 = .ok (.newarray .int, 2) := by decide +kernel
theorem dk_Lumps_init_25 : decode prog_5_method_1_code 25 = .ok (.putfield 18, 3) := by decide +kernel
theorem dk_Lumps_init_28 : decode prog_5_method_1_code 28 = .ok (.aload_n 0, 1) := by decide +kernel
theorem dk_Lumps_init_29 : decode prog_5_method_1_code 29 = .ok (.bipush 10, 2) := by decide +kernel
theorem dk_Lumps_init_31 : decode prog_5_method_1_code 31 = .ok (.newarray .int, 2) := by decide +kernel
theorem dk_Lumps_init_33 : decode prog_5_method_1_code 33 = .ok (.putfield 21, 3) := by decide +kernel
theorem dk_Lumps_init_36 : decode prog_5_method_1_code 36 = .ok (.aload_n 0, 1) := by decide +kernel
theorem dk_Lumps_init_37 : decode prog_5_method_1_code 37 = .ok (.bipush 10, 2) := by decide +kernel
theorem dk_Lumps_init_39 : decode prog_5_method_1_code 39 = .ok (.newarray .int, 2) := by decide +kernel
theorem dk_Lumps_init_41 : decode prog_5_method_1_code 41 = .ok (.putfield 24, 3) := by decide +kernel
theorem dk_Lumps_init_44 : decode prog_5_method_1_code 44 = .ok (.aload_n 0, 1) := by decide +kernel
theorem dk_Lumps_init_45 : decode prog_5_method_1_code 45 = .ok (.bipush 10, 2) := by decide +kernel
theorem dk_Lumps_init_47 : decode prog_5_method_1_code 47 = .ok (.newarray .int, 2) := by decide +kernel
theorem dk_Lumps_init_49 : decode prog_5_method_1_code 49 = .ok (.putfield 27, 3) := by decide +kernel
theorem dk_Lumps_init_52 : decode prog_5_method_1_code 52 = .ok (.aload_n 0, 1) := by decide +kernel
theorem dk_Lumps_init_53 : decode prog_5_method_1_code 53 = .ok (.bipush 6, 2) := by decide +kernel
theorem dk_Lumps_init_55 : decode prog_5_method_1_code 55 = .ok (.newarray .int, 2) := by decide +kernel
theorem dk_Lumps_init_57 : decode prog_5_method_1_code 57 = .ok (.putfield 30, 3) := by decide +kernel
theorem dk_Lumps_init_60 : decode prog_5_method_1_code 60 = .ok (.return_, 1) := by decide +kernel
theorem kw_109 : (Jvm.Cond.methodLink "KeptLump$Lumps" (3 : Nat) ({ cls := "java/lang/Object", name := "<init>", desc := "()V" } : Jvm.MethodName)) ∈ kv_gw := List.mem_filter.mpr ⟨kv_tb1 (List.mem_of_getElem? (i := 41) (by decide +kernel)), by decide +kernel⟩
theorem kw_96 : (Jvm.Cond.instanceMethod ({ cls := "java/lang/Object", name := "<init>", desc := "()V" } : Jvm.MethodName)) ∈ kv_gw := List.mem_filter.mpr ⟨kv_tb1 (List.mem_of_getElem? (i := 28) (by decide +kernel)), by decide +kernel⟩
theorem kw_97 : (Jvm.Cond.code ({ cls := "java/lang/Object", name := "<init>", desc := "()V" } : Jvm.MethodName) object_method_1_code (1 : Nat) (Option.none : Option Jvm.ClassFile.FieldType)) ∈ kv_gw := List.mem_filter.mpr ⟨kv_tb1 (List.mem_of_getElem? (i := 29) (by decide +kernel)), by decide +kernel⟩
theorem kw_150 : (Jvm.Cond.arrayClass Jvm.ClassFile.FieldType.int) ∈ kv_gw := List.mem_filter.mpr ⟨kv_tb1 (List.mem_of_getElem? (i := 82) (by decide +kernel)), by decide +kernel⟩
def kqw_Lumps_1 : List kq_c := ([(.inl (3, [.null, .null, .null, .null, .null, .null, .null, .int 0]) : kq_c)] ++ [(.inr (12, 10, .inl (fun _ => 0)) : kq_c)]).set 0 (.inl (3, [.ref 1, .null, .null, .null, .null, .null, .null, .int 0]))
def kqw_Lumps_2 : List kq_c := (kqw_Lumps_1 ++ [(.inr (12, 10, .inl (fun _ => 0)) : kq_c)]).set 0 (.inl (3, [.ref 1, .ref 2, .null, .null, .null, .null, .null, .int 0]))
def kqw_Lumps_3 : List kq_c := (kqw_Lumps_2 ++ [(.inr (12, 10, .inl (fun _ => 0)) : kq_c)]).set 0 (.inl (3, [.ref 1, .ref 2, .ref 3, .null, .null, .null, .null, .int 0]))
def kqw_Lumps_4 : List kq_c := (kqw_Lumps_3 ++ [(.inr (12, 10, .inl (fun _ => 0)) : kq_c)]).set 0 (.inl (3, [.ref 1, .ref 2, .ref 3, .ref 4, .null, .null, .null, .int 0]))
def kqw_Lumps_5 : List kq_c := (kqw_Lumps_4 ++ [(.inr (12, 10, .inl (fun _ => 0)) : kq_c)]).set 0 (.inl (3, [.ref 1, .ref 2, .ref 3, .ref 4, .ref 5, .null, .null, .int 0]))
def kqw_Lumps_6 : List kq_c := (kqw_Lumps_5 ++ [(.inr (12, 10, .inl (fun _ => 0)) : kq_c)]).set 0 (.inl (3, [.ref 1, .ref 2, .ref 3, .ref 4, .ref 5, .ref 6, .null, .int 0]))
def kqw_Lumps_7 : List kq_c := (kqw_Lumps_6 ++ [(.inr (12, 6, .inl (fun _ => 0)) : kq_c)]).set 0 (.inl (3, [.ref 1, .ref 2, .ref 3, .ref 4, .ref 5, .ref 6, .ref 7, .int 0]))
def kql_Lumps : List kq_c := kqw_Lumps_7
set_option maxRecDepth 100000 in
theorem cq_Lumps : kq_C kM_Lumps_init 1 7 66 [.ref 0] ((.inl (3, [.null, .null, .null, .null, .null, .null, .null, .int 0]) : kq_c)) kql_Lumps := by
  refine kq_entry (by decide) (by decide) ?_
  refine kq_aload_n 0 rfl rfl dk_Lumps_init_0 ?_
  refine kq_objInit kw_109 kw_96 kw_97 dk_Lumps_init_1 (by decide) (by decide) rfl ?_
  refine kq_aload_n 0 rfl rfl dk_Lumps_init_4 ?_
  refine kq_bipush (v := 10) dk_Lumps_init_5 (by decide +kernel) ?_
  refine kq_newI (N0 := 10) (t := 1) (k2 := 1) (n2 := 10) kw_150 (by decide +kernel) (by decide +kernel) (by decide) rfl rfl ⟨by decide, by decide⟩ rfl (by decide) dk_Lumps_init_7 ?_
  refine kq_putR (fs := [.null, .null, .null, .null, .null, .null, .null, .int 0]) (L' := kqw_Lumps_1) kf_Lumps_9 (fun _ => ⟨rfl, kq_dc kc_3.2.1 rfl⟩) (by decide) (by decide) rfl (by decide) (fun _ => rfl) (fun _ => rfl) rfl dk_Lumps_init_9 ?_
  refine kq_aload_n 0 rfl rfl dk_Lumps_init_12 ?_
  refine kq_bipush (v := 10) dk_Lumps_init_13 (by decide +kernel) ?_
  refine kq_newI (N0 := 10) (t := 2) (k2 := 2) (n2 := 20) kw_150 (by decide +kernel) (by decide +kernel) (by decide) rfl rfl ⟨by decide, by decide⟩ rfl (by decide) dk_Lumps_init_15 ?_
  refine kq_putR (fs := [.ref 1, .null, .null, .null, .null, .null, .null, .int 0]) (L' := kqw_Lumps_2) kf_Lumps_15 (fun _ => ⟨rfl, kq_dc kc_3.2.1 rfl⟩) (by decide) (by decide) rfl (by decide) (fun _ => rfl) (fun _ => rfl) rfl dk_Lumps_init_17 ?_
  refine kq_aload_n 0 rfl rfl dk_Lumps_init_20 ?_
  refine kq_bipush (v := 10) dk_Lumps_init_21 (by decide +kernel) ?_
  refine kq_newI (N0 := 10) (t := 3) (k2 := 3) (n2 := 30) kw_150 (by decide +kernel) (by decide +kernel) (by decide) rfl rfl ⟨by decide, by decide⟩ rfl (by decide) dk_Lumps_init_23 ?_
  refine kq_putR (fs := [.ref 1, .ref 2, .null, .null, .null, .null, .null, .int 0]) (L' := kqw_Lumps_3) kf_Lumps_18 (fun _ => ⟨rfl, kq_dc kc_3.2.1 rfl⟩) (by decide) (by decide) rfl (by decide) (fun _ => rfl) (fun _ => rfl) rfl dk_Lumps_init_25 ?_
  refine kq_aload_n 0 rfl rfl dk_Lumps_init_28 ?_
  refine kq_bipush (v := 10) dk_Lumps_init_29 (by decide +kernel) ?_
  refine kq_newI (N0 := 10) (t := 4) (k2 := 4) (n2 := 40) kw_150 (by decide +kernel) (by decide +kernel) (by decide) rfl rfl ⟨by decide, by decide⟩ rfl (by decide) dk_Lumps_init_31 ?_
  refine kq_putR (fs := [.ref 1, .ref 2, .ref 3, .null, .null, .null, .null, .int 0]) (L' := kqw_Lumps_4) kf_Lumps_21 (fun _ => ⟨rfl, kq_dc kc_3.2.1 rfl⟩) (by decide) (by decide) rfl (by decide) (fun _ => rfl) (fun _ => rfl) rfl dk_Lumps_init_33 ?_
  refine kq_aload_n 0 rfl rfl dk_Lumps_init_36 ?_
  refine kq_bipush (v := 10) dk_Lumps_init_37 (by decide +kernel) ?_
  refine kq_newI (N0 := 10) (t := 5) (k2 := 5) (n2 := 50) kw_150 (by decide +kernel) (by decide +kernel) (by decide) rfl rfl ⟨by decide, by decide⟩ rfl (by decide) dk_Lumps_init_39 ?_
  refine kq_putR (fs := [.ref 1, .ref 2, .ref 3, .ref 4, .null, .null, .null, .int 0]) (L' := kqw_Lumps_5) kf_Lumps_24 (fun _ => ⟨rfl, kq_dc kc_3.2.1 rfl⟩) (by decide) (by decide) rfl (by decide) (fun _ => rfl) (fun _ => rfl) rfl dk_Lumps_init_41 ?_
  refine kq_aload_n 0 rfl rfl dk_Lumps_init_44 ?_
  refine kq_bipush (v := 10) dk_Lumps_init_45 (by decide +kernel) ?_
  refine kq_newI (N0 := 10) (t := 6) (k2 := 6) (n2 := 60) kw_150 (by decide +kernel) (by decide +kernel) (by decide) rfl rfl ⟨by decide, by decide⟩ rfl (by decide) dk_Lumps_init_47 ?_
  refine kq_putR (fs := [.ref 1, .ref 2, .ref 3, .ref 4, .ref 5, .null, .null, .int 0]) (L' := kqw_Lumps_6) kf_Lumps_27 (fun _ => ⟨rfl, kq_dc kc_3.2.1 rfl⟩) (by decide) (by decide) rfl (by decide) (fun _ => rfl) (fun _ => rfl) rfl dk_Lumps_init_49 ?_
  refine kq_aload_n 0 rfl rfl dk_Lumps_init_52 ?_
  refine kq_bipush (v := 6) dk_Lumps_init_53 (by decide +kernel) ?_
  refine kq_newI (N0 := 6) (t := 7) (k2 := 7) (n2 := 66) kw_150 (by decide +kernel) (by decide +kernel) (by decide) rfl rfl ⟨by decide, by decide⟩ rfl (by decide) dk_Lumps_init_55 ?_
  refine kq_putR (fs := [.ref 1, .ref 2, .ref 3, .ref 4, .ref 5, .ref 6, .null, .int 0]) (L' := kqw_Lumps_7) kf_Lumps_30 (fun _ => ⟨rfl, kq_dc kc_3.2.1 rfl⟩) (by decide) (by decide) rfl (by decide) (fun _ => rfl) (fun _ => rfl) rfl dk_Lumps_init_57 ?_
  exact kq_vret rfl rfl rfl dk_Lumps_init_60 rfl
abbrev kM_Weighings_init : kv_MI := (⟨"KeptLump$Weighings", "<init>", "()V"⟩, prog_11_method_1_code, 1, none)
theorem dk_Weighings_init_0 : decode prog_11_method_1_code 0 = .ok (.aload_n 0, 1) := by decide +kernel
theorem dk_Weighings_init_1 : decode prog_11_method_1_code 1 = .ok (.invokespecial 3, 3) := by decide +kernel
theorem dk_Weighings_init_4 : decode prog_11_method_1_code 4 = .ok (.aload_n 0, 1) := by decide +kernel
theorem dk_Weighings_init_5 : decode prog_11_method_1_code 5 = .ok (.bipush 20, 2) := by decide +kernel
theorem dk_Weighings_init_7 : decode prog_11_method_1_code 7 = .ok (.newarray .int, 2) := by decide +kernel
theorem dk_Weighings_init_9 : decode prog_11_method_1_code 9 = .ok (.putfield 9, 3) := by decide +kernel
theorem dk_Weighings_init_12 : decode prog_11_method_1_code 12 = .ok (.aload_n 0, 1) := by decide +kernel
theorem dk_Weighings_init_13 : decode prog_11_method_1_code 13 = .ok (.bipush 20, 2) := by decide +kernel
theorem dk_Weighings_init_15 : decode prog_11_method_1_code 15 = .ok (.newarray .int, 2) := by decide +kernel
theorem dk_Weighings_init_17 : decode prog_11_method_1_code 17 = .ok (.putfield 15, 3) := by decide +kernel
theorem dk_Weighings_init_20 : decode prog_11_method_1_code 20 = .ok (.aload_n 0, 1) := by decide +kernel
theorem dk_Weighings_init_21 : decode prog_11_method_1_code 21 = .ok (.bipush 20, 2) := by decide +kernel
theorem dk_Weighings_init_23 : decode prog_11_method_1_code 23 = .ok (.newarray .int, 2) := by decide +kernel
theorem dk_Weighings_init_25 : decode prog_11_method_1_code 25 = .ok (.putfield 18, 3) := by decide +kernel
theorem dk_Weighings_init_28 : decode prog_11_method_1_code 28 = .ok (.aload_n 0, 1) := by decide +kernel
theorem dk_Weighings_init_29 : decode prog_11_method_1_code 29 = .ok (.bipush 20, 2) := by decide +kernel
theorem dk_Weighings_init_31 : decode prog_11_method_1_code 31 = .ok (.newarray .int, 2) := by decide +kernel
theorem dk_Weighings_init_33 : decode prog_11_method_1_code 33 = .ok (.putfield 21, 3) := by decide +kernel
theorem dk_Weighings_init_36 : decode prog_11_method_1_code 36 = .ok (.aload_n 0, 1) := by decide +kernel
theorem dk_Weighings_init_37 : decode prog_11_method_1_code 37 = .ok (.bipush 20, 2) := by decide +kernel
theorem dk_Weighings_init_39 : decode prog_11_method_1_code 39 = .ok (.newarray .int, 2) := by decide +kernel
theorem dk_Weighings_init_41 : decode prog_11_method_1_code 41 = .ok (.putfield 24, 3) := by decide +kernel
theorem dk_Weighings_init_44 : decode prog_11_method_1_code 44 = .ok (.aload_n 0, 1) := by decide +kernel
theorem dk_Weighings_init_45 : decode prog_11_method_1_code 45 = .ok (.bipush 20, 2) := by decide +kernel
theorem dk_Weighings_init_47 : decode prog_11_method_1_code 47 = .ok (.newarray .boolean, 2) := by decide +kernel
theorem dk_Weighings_init_49 : decode prog_11_method_1_code 49 = .ok (.putfield 27, 3) := by decide +kernel
theorem dk_Weighings_init_52 : decode prog_11_method_1_code 52 = .ok (.aload_n 0, 1) := by decide +kernel
theorem dk_Weighings_init_53 : decode prog_11_method_1_code 53 = .ok (.bipush 20, 2) := by decide +kernel
theorem dk_Weighings_init_55 : decode prog_11_method_1_code 55 = .ok (.newarray .int, 2) := by decide +kernel
theorem dk_Weighings_init_57 : decode prog_11_method_1_code 57 = .ok (.putfield 31, 3) := by decide +kernel
theorem dk_Weighings_init_60 : decode prog_11_method_1_code 60 = .ok (.return_, 1) := by decide +kernel
theorem kw_156 : (Jvm.Cond.methodLink "KeptLump$Weighings" (3 : Nat) ({ cls := "java/lang/Object", name := "<init>", desc := "()V" } : Jvm.MethodName)) ∈ kv_gw := List.mem_filter.mpr ⟨kv_tb1 (List.mem_of_getElem? (i := 88) (by decide +kernel)), by decide +kernel⟩
theorem kw_200 : (Jvm.Cond.arrayClass Jvm.ClassFile.FieldType.boolean) ∈ kv_gw := List.mem_filter.mpr ⟨kv_tb1 (List.mem_of_getElem? (i := 132) (by decide +kernel)), by decide +kernel⟩
def kqw_Weighings_1 : List kq_c := ([(.inl (9, [.null, .null, .null, .null, .null, .null, .null, .int 0, .int 0]) : kq_c)] ++ [(.inr (12, 20, .inl (fun _ => 0)) : kq_c)]).set 0 (.inl (9, [.ref 1, .null, .null, .null, .null, .null, .null, .int 0, .int 0]))
def kqw_Weighings_2 : List kq_c := (kqw_Weighings_1 ++ [(.inr (12, 20, .inl (fun _ => 0)) : kq_c)]).set 0 (.inl (9, [.ref 1, .ref 2, .null, .null, .null, .null, .null, .int 0, .int 0]))
def kqw_Weighings_3 : List kq_c := (kqw_Weighings_2 ++ [(.inr (12, 20, .inl (fun _ => 0)) : kq_c)]).set 0 (.inl (9, [.ref 1, .ref 2, .ref 3, .null, .null, .null, .null, .int 0, .int 0]))
def kqw_Weighings_4 : List kq_c := (kqw_Weighings_3 ++ [(.inr (12, 20, .inl (fun _ => 0)) : kq_c)]).set 0 (.inl (9, [.ref 1, .ref 2, .ref 3, .ref 4, .null, .null, .null, .int 0, .int 0]))
def kqw_Weighings_5 : List kq_c := (kqw_Weighings_4 ++ [(.inr (12, 20, .inl (fun _ => 0)) : kq_c)]).set 0 (.inl (9, [.ref 1, .ref 2, .ref 3, .ref 4, .ref 5, .null, .null, .int 0, .int 0]))
def kqw_Weighings_6 : List kq_c := (kqw_Weighings_5 ++ [(.inr (14, 20, .inl (fun _ => 0)) : kq_c)]).set 0 (.inl (9, [.ref 1, .ref 2, .ref 3, .ref 4, .ref 5, .ref 6, .null, .int 0, .int 0]))
def kqw_Weighings_7 : List kq_c := (kqw_Weighings_6 ++ [(.inr (12, 20, .inl (fun _ => 0)) : kq_c)]).set 0 (.inl (9, [.ref 1, .ref 2, .ref 3, .ref 4, .ref 5, .ref 6, .ref 7, .int 0, .int 0]))
def kql_Weighings : List kq_c := kqw_Weighings_7
set_option maxRecDepth 100000 in
theorem cq_Weighings : kq_C kM_Weighings_init 1 7 140 [.ref 0] ((.inl (9, [.null, .null, .null, .null, .null, .null, .null, .int 0, .int 0]) : kq_c)) kql_Weighings := by
  refine kq_entry (by decide) (by decide) ?_
  refine kq_aload_n 0 rfl rfl dk_Weighings_init_0 ?_
  refine kq_objInit kw_156 kw_96 kw_97 dk_Weighings_init_1 (by decide) (by decide) rfl ?_
  refine kq_aload_n 0 rfl rfl dk_Weighings_init_4 ?_
  refine kq_bipush (v := 20) dk_Weighings_init_5 (by decide +kernel) ?_
  refine kq_newI (N0 := 20) (t := 1) (k2 := 1) (n2 := 20) kw_150 (by decide +kernel) (by decide +kernel) (by decide) rfl rfl ⟨by decide, by decide⟩ rfl (by decide) dk_Weighings_init_7 ?_
  refine kq_putR (fs := [.null, .null, .null, .null, .null, .null, .null, .int 0, .int 0]) (L' := kqw_Weighings_1) kf_Weighings_9 (fun _ => ⟨rfl, kq_dc kc_9.2.1 rfl⟩) (by decide) (by decide) rfl (by decide) (fun _ => rfl) (fun _ => rfl) rfl dk_Weighings_init_9 ?_
  refine kq_aload_n 0 rfl rfl dk_Weighings_init_12 ?_
  refine kq_bipush (v := 20) dk_Weighings_init_13 (by decide +kernel) ?_
  refine kq_newI (N0 := 20) (t := 2) (k2 := 2) (n2 := 40) kw_150 (by decide +kernel) (by decide +kernel) (by decide) rfl rfl ⟨by decide, by decide⟩ rfl (by decide) dk_Weighings_init_15 ?_
  refine kq_putR (fs := [.ref 1, .null, .null, .null, .null, .null, .null, .int 0, .int 0]) (L' := kqw_Weighings_2) kf_Weighings_15 (fun _ => ⟨rfl, kq_dc kc_9.2.1 rfl⟩) (by decide) (by decide) rfl (by decide) (fun _ => rfl) (fun _ => rfl) rfl dk_Weighings_init_17 ?_
  refine kq_aload_n 0 rfl rfl dk_Weighings_init_20 ?_
  refine kq_bipush (v := 20) dk_Weighings_init_21 (by decide +kernel) ?_
  refine kq_newI (N0 := 20) (t := 3) (k2 := 3) (n2 := 60) kw_150 (by decide +kernel) (by decide +kernel) (by decide) rfl rfl ⟨by decide, by decide⟩ rfl (by decide) dk_Weighings_init_23 ?_
  refine kq_putR (fs := [.ref 1, .ref 2, .null, .null, .null, .null, .null, .int 0, .int 0]) (L' := kqw_Weighings_3) kf_Weighings_18 (fun _ => ⟨rfl, kq_dc kc_9.2.1 rfl⟩) (by decide) (by decide) rfl (by decide) (fun _ => rfl) (fun _ => rfl) rfl dk_Weighings_init_25 ?_
  refine kq_aload_n 0 rfl rfl dk_Weighings_init_28 ?_
  refine kq_bipush (v := 20) dk_Weighings_init_29 (by decide +kernel) ?_
  refine kq_newI (N0 := 20) (t := 4) (k2 := 4) (n2 := 80) kw_150 (by decide +kernel) (by decide +kernel) (by decide) rfl rfl ⟨by decide, by decide⟩ rfl (by decide) dk_Weighings_init_31 ?_
  refine kq_putR (fs := [.ref 1, .ref 2, .ref 3, .null, .null, .null, .null, .int 0, .int 0]) (L' := kqw_Weighings_4) kf_Weighings_21 (fun _ => ⟨rfl, kq_dc kc_9.2.1 rfl⟩) (by decide) (by decide) rfl (by decide) (fun _ => rfl) (fun _ => rfl) rfl dk_Weighings_init_33 ?_
  refine kq_aload_n 0 rfl rfl dk_Weighings_init_36 ?_
  refine kq_bipush (v := 20) dk_Weighings_init_37 (by decide +kernel) ?_
  refine kq_newI (N0 := 20) (t := 5) (k2 := 5) (n2 := 100) kw_150 (by decide +kernel) (by decide +kernel) (by decide) rfl rfl ⟨by decide, by decide⟩ rfl (by decide) dk_Weighings_init_39 ?_
  refine kq_putR (fs := [.ref 1, .ref 2, .ref 3, .ref 4, .null, .null, .null, .int 0, .int 0]) (L' := kqw_Weighings_5) kf_Weighings_24 (fun _ => ⟨rfl, kq_dc kc_9.2.1 rfl⟩) (by decide) (by decide) rfl (by decide) (fun _ => rfl) (fun _ => rfl) rfl dk_Weighings_init_41 ?_
  refine kq_aload_n 0 rfl rfl dk_Weighings_init_44 ?_
  refine kq_bipush (v := 20) dk_Weighings_init_45 (by decide +kernel) ?_
  refine kq_newZ (N0 := 20) (t := 6) (k2 := 6) (n2 := 120) kw_200 (by decide +kernel) (by decide +kernel) (by decide) rfl rfl ⟨by decide, by decide⟩ rfl (by decide) dk_Weighings_init_47 ?_
  refine kq_putR (fs := [.ref 1, .ref 2, .ref 3, .ref 4, .ref 5, .null, .null, .int 0, .int 0]) (L' := kqw_Weighings_6) kf_Weighings_27 (fun _ => ⟨rfl, kq_dc kc_9.2.1 rfl⟩) (by decide) (by decide) rfl (by decide) (fun _ => rfl) (fun _ => rfl) rfl dk_Weighings_init_49 ?_
  refine kq_aload_n 0 rfl rfl dk_Weighings_init_52 ?_
  refine kq_bipush (v := 20) dk_Weighings_init_53 (by decide +kernel) ?_
  refine kq_newI (N0 := 20) (t := 7) (k2 := 7) (n2 := 140) kw_150 (by decide +kernel) (by decide +kernel) (by decide) rfl rfl ⟨by decide, by decide⟩ rfl (by decide) dk_Weighings_init_55 ?_
  refine kq_putR (fs := [.ref 1, .ref 2, .ref 3, .ref 4, .ref 5, .ref 6, .null, .int 0, .int 0]) (L' := kqw_Weighings_7) kf_Weighings_31 (fun _ => ⟨rfl, kq_dc kc_9.2.1 rfl⟩) (by decide) (by decide) rfl (by decide) (fun _ => rfl) (fun _ => rfl) rfl dk_Weighings_init_57 ?_
  exact kq_vret rfl rfl rfl dk_Weighings_init_60 rfl
abbrev kM_Law_init : kv_MI := (⟨"KeptLump$Law", "<init>", "()V"⟩, prog_3_method_1_code, 1, none)
theorem dk_Law_init_0 : decode prog_3_method_1_code 0 = .ok (.aload_n 0, 1) := by decide +kernel
theorem dk_Law_init_1 : decode prog_3_method_1_code 1 = .ok (.invokespecial 3, 3) := by decide +kernel
theorem dk_Law_init_4 : decode prog_3_method_1_code 4 = .ok (.aload_n 0, 1) := by decide +kernel
theorem dk_Law_init_5 : decode prog_3_method_1_code 5 = .ok (.bipush 100, 2) := by decide +kernel
theorem dk_Law_init_7 : decode prog_3_method_1_code 7 = .ok (.newarray .int, 2) := by decide +kernel
theorem dk_Law_init_9 : decode prog_3_method_1_code 9 = .ok (.putfield 9, 3) := by decide +kernel
theorem dk_Law_init_12 : decode prog_3_method_1_code 12 = .ok (.aload_n 0, 1) := by decide +kernel
theorem dk_Law_init_13 : decode prog_3_method_1_code 13 = .ok (.iconst 4, 1) := by decide +kernel
theorem dk_Law_init_14 : decode prog_3_method_1_code 14 = .ok (.putfield 15, 3) := by decide +kernel
theorem dk_Law_init_17 : decode prog_3_method_1_code 17 = .ok (.aload_n 0, 1) := by decide +kernel
theorem dk_Law_init_18 : decode prog_3_method_1_code 18 = .ok (.iconst 1, 1) := by decide +kernel
theorem dk_Law_init_19 : decode prog_3_method_1_code 19 = .ok (.putfield 19, 3) := by decide +kernel
theorem dk_Law_init_22 : decode prog_3_method_1_code 22 = .ok (.aload_n 0, 1) := by decide +kernel
theorem dk_Law_init_23 : decode prog_3_method_1_code 23 = .ok (.getfield 9, 3) := by decide +kernel
theorem dk_Law_init_26 : decode prog_3_method_1_code 26 = .ok (.iconst 0, 1) := by decide +kernel
theorem dk_Law_init_27 : decode prog_3_method_1_code 27 = .ok (.bipush 48, 2) := by decide +kernel
theorem dk_Law_init_29 : decode prog_3_method_1_code 29 = .ok (.iastore, 1) := by decide +kernel
theorem dk_Law_init_30 : decode prog_3_method_1_code 30 = .ok (.aload_n 0, 1) := by decide +kernel
theorem dk_Law_init_31 : decode prog_3_method_1_code 31 = .ok (.getfield 9, 3) := by decide +kernel
theorem dk_Law_init_34 : decode prog_3_method_1_code 34 = .ok (.iconst 1, 1) := by decide +kernel
theorem dk_Law_init_35 : decode prog_3_method_1_code 35 = .ok (.bipush 58, 2) := by decide +kernel
theorem dk_Law_init_37 : decode prog_3_method_1_code 37 = .ok (.iastore, 1) := by decide +kernel
theorem dk_Law_init_38 : decode prog_3_method_1_code 38 = .ok (.aload_n 0, 1) := by decide +kernel
theorem dk_Law_init_39 : decode prog_3_method_1_code 39 = .ok (.getfield 9, 3) := by decide +kernel
theorem dk_Law_init_42 : decode prog_3_method_1_code 42 = .ok (.iconst 2, 1) := by decide +kernel
theorem dk_Law_init_43 : decode prog_3_method_1_code 43 = .ok (.bipush 80, 2) := by decide +kernel
theorem dk_Law_init_45 : decode prog_3_method_1_code 45 = .ok (.iastore, 1) := by decide +kernel
theorem dk_Law_init_46 : decode prog_3_method_1_code 46 = .ok (.aload_n 0, 1) := by decide +kernel
theorem dk_Law_init_47 : decode prog_3_method_1_code 47 = .ok (.getfield 9, 3) := by decide +kernel
theorem dk_Law_init_50 : decode prog_3_method_1_code 50 = .ok (.iconst 3, 1) := by decide +kernel
theorem dk_Law_init_51 : decode prog_3_method_1_code 51 = .ok (.bipush 59, 2) := by decide +kernel
theorem dk_Law_init_53 : decode prog_3_method_1_code 53 = .ok (.iastore, 1) := by decide +kernel
theorem dk_Law_init_54 : decode prog_3_method_1_code 54 = .ok (.return_, 1) := by decide +kernel
theorem kw_206 : (Jvm.Cond.methodLink "KeptLump$Law" (3 : Nat) ({ cls := "java/lang/Object", name := "<init>", desc := "()V" } : Jvm.MethodName)) ∈ kv_gw := List.mem_filter.mpr ⟨kv_tb1 (List.mem_of_getElem? (i := 138) (by decide +kernel)), by decide +kernel⟩
def kqw_Law_1 : List kq_c := ([(.inl (1, [.null, .int 0, .int 0]) : kq_c)] ++ [(.inr (12, 100, .inl (fun _ => 0)) : kq_c)]).set 0 (.inl (1, [.ref 1, .int 0, .int 0]))
def kqw_Law_2 : List kq_c := (kqw_Law_1).set 0 (.inl (1, [.ref 1, .int 4, .int 0]))
def kqw_Law_3 : List kq_c := (kqw_Law_2).set 0 (.inl (1, [.ref 1, .int 4, .int 1]))
def kqw_Law_4 : List kq_c := (kqw_Law_3).set 1 (.inr (12, 100, .inl (upd (fun _ => 0) 0 48)))
def kqw_Law_5 : List kq_c := (kqw_Law_4).set 1 (.inr (12, 100, .inl (upd (upd (fun _ => 0) 0 48) 1 58)))
def kqw_Law_6 : List kq_c := (kqw_Law_5).set 1 (.inr (12, 100, .inl (upd (upd (upd (fun _ => 0) 0 48) 1 58) 2 80)))
def kqw_Law_7 : List kq_c := (kqw_Law_6).set 1 (.inr (12, 100, .inl (upd (upd (upd (upd (fun _ => 0) 0 48) 1 58) 2 80) 3 59)))
def kql_Law : List kq_c := kqw_Law_7
set_option maxRecDepth 100000 in
theorem cq_Law : kq_C kM_Law_init 1 1 100 [.ref 0] ((.inl (1, [.null, .int 0, .int 0]) : kq_c)) kql_Law := by
  refine kq_entry (by decide) (by decide) ?_
  refine kq_aload_n 0 rfl rfl dk_Law_init_0 ?_
  refine kq_objInit kw_206 kw_96 kw_97 dk_Law_init_1 (by decide) (by decide) rfl ?_
  refine kq_aload_n 0 rfl rfl dk_Law_init_4 ?_
  refine kq_bipush (v := 100) dk_Law_init_5 (by decide +kernel) ?_
  refine kq_newI (N0 := 100) (t := 1) (k2 := 1) (n2 := 100) kw_150 (by decide +kernel) (by decide +kernel) (by decide) rfl rfl ⟨by decide, by decide⟩ rfl (by decide) dk_Law_init_7 ?_
  refine kq_putR (fs := [.null, .int 0, .int 0]) (L' := kqw_Law_1) kf_Law_9 (fun _ => ⟨rfl, kq_dc kc_1.2.1 rfl⟩) (by decide) (by decide) rfl (by decide) (fun _ => rfl) (fun _ => rfl) rfl dk_Law_init_9 ?_
  refine kq_aload_n 0 rfl rfl dk_Law_init_12 ?_
  refine kq_iconst (v := 4) dk_Law_init_13 (by decide +kernel) ?_
  refine kq_putI (fs := [.ref 1, .int 0, .int 0]) (L' := kqw_Law_2) kf_Law_15 (by decide) rfl (by decide) rfl rfl rfl dk_Law_init_14 ?_
  refine kq_aload_n 0 rfl rfl dk_Law_init_17 ?_
  refine kq_iconst (v := 1) dk_Law_init_18 (by decide +kernel) ?_
  refine kq_putI (fs := [.ref 1, .int 4, .int 0]) (L' := kqw_Law_3) kf_Law_19 (by decide) rfl (by decide) rfl rfl rfl dk_Law_init_19 ?_
  refine kq_aload_n 0 rfl rfl dk_Law_init_22 ?_
  refine kq_get (v := .ref 1) (fs := [.ref 1, .int 4, .int 1]) kf_Law_9 (by decide) rfl rfl (fun _ _ => kq_vv (by decide)) dk_Law_init_23 ?_
  refine kq_iconst (v := 0) dk_Law_init_26 (by decide +kernel) ?_
  refine kq_bipush (v := 48) dk_Law_init_27 (by decide +kernel) ?_
  refine kq_iast (N0 := 100) (j := 0) (L' := kqw_Law_4) (by decide) rfl (by unfold vp_in; decide +kernel) (by decide +kernel) rfl dk_Law_init_29 ?_
  refine kq_aload_n 0 rfl rfl dk_Law_init_30 ?_
  refine kq_get (v := .ref 1) (fs := [.ref 1, .int 4, .int 1]) kf_Law_9 (by decide) rfl rfl (fun _ _ => kq_vv (by decide)) dk_Law_init_31 ?_
  refine kq_iconst (v := 1) dk_Law_init_34 (by decide +kernel) ?_
  refine kq_bipush (v := 58) dk_Law_init_35 (by decide +kernel) ?_
  refine kq_iast (N0 := 100) (j := 1) (L' := kqw_Law_5) (by decide) rfl (by unfold vp_in; decide +kernel) (by decide +kernel) rfl dk_Law_init_37 ?_
  refine kq_aload_n 0 rfl rfl dk_Law_init_38 ?_
  refine kq_get (v := .ref 1) (fs := [.ref 1, .int 4, .int 1]) kf_Law_9 (by decide) rfl rfl (fun _ _ => kq_vv (by decide)) dk_Law_init_39 ?_
  refine kq_iconst (v := 2) dk_Law_init_42 (by decide +kernel) ?_
  refine kq_bipush (v := 80) dk_Law_init_43 (by decide +kernel) ?_
  refine kq_iast (N0 := 100) (j := 2) (L' := kqw_Law_6) (by decide) rfl (by unfold vp_in; decide +kernel) (by decide +kernel) rfl dk_Law_init_45 ?_
  refine kq_aload_n 0 rfl rfl dk_Law_init_46 ?_
  refine kq_get (v := .ref 1) (fs := [.ref 1, .int 4, .int 1]) kf_Law_9 (by decide) rfl rfl (fun _ _ => kq_vv (by decide)) dk_Law_init_47 ?_
  refine kq_iconst (v := 3) dk_Law_init_50 (by decide +kernel) ?_
  refine kq_bipush (v := 59) dk_Law_init_51 (by decide +kernel) ?_
  refine kq_iast (N0 := 100) (j := 3) (L' := kqw_Law_7) (by decide) rfl (by unfold vp_in; decide +kernel) (by decide +kernel) rfl dk_Law_init_53 ?_
  exact kq_vret rfl rfl rfl dk_Law_init_54 rfl
abbrev kM_Chains_init : kv_MI := (⟨"KeptLump$Chains", "<init>", "()V"⟩, prog_2_method_1_code, 1, none)
theorem dk_Chains_init_0 : decode prog_2_method_1_code 0 = .ok (.aload_n 0, 1) := by decide +kernel
theorem dk_Chains_init_1 : decode prog_2_method_1_code 1 = .ok (.invokespecial 3, 3) := by decide +kernel
theorem dk_Chains_init_4 : decode prog_2_method_1_code 4 = .ok (.aload_n 0, 1) := by decide +kernel
theorem dk_Chains_init_5 : decode prog_2_method_1_code 5 = .ok (.bipush 48, 2) := by decide +kernel
theorem dk_Chains_init_7 : decode prog_2_method_1_code 7 = .ok (.newarray .int, 2) := by decide +kernel
theorem dk_Chains_init_9 : decode prog_2_method_1_code 9 = .ok (.putfield 9, 3) := by decide +kernel
theorem dk_Chains_init_12 : decode prog_2_method_1_code 12 = .ok (.aload_n 0, 1) := by decide +kernel
theorem dk_Chains_init_13 : decode prog_2_method_1_code 13 = .ok (.bipush 48, 2) := by decide +kernel
theorem dk_Chains_init_15 : decode prog_2_method_1_code 15 = .ok (.newarray .int, 2) := by decide +kernel
theorem dk_Chains_init_17 : decode prog_2_method_1_code 17 = .ok (.putfield 15, 3) := by decide +kernel
theorem dk_Chains_init_20 : decode prog_2_method_1_code 20 = .ok (.aload_n 0, 1) := by decide +kernel
theorem dk_Chains_init_21 : decode prog_2_method_1_code 21 = .ok (.iconst 4, 1) := by decide +kernel
theorem dk_Chains_init_22 : decode prog_2_method_1_code 22 = .ok (.newarray .int, 2) := by decide +kernel
theorem dk_Chains_init_24 : decode prog_2_method_1_code 24 = .ok (.putfield 18, 3) := by decide +kernel
theorem dk_Chains_init_27 : decode prog_2_method_1_code 27 = .ok (.aload_n 0, 1) := by decide +kernel
theorem dk_Chains_init_28 : decode prog_2_method_1_code 28 = .ok (.iconst 4, 1) := by decide +kernel
theorem dk_Chains_init_29 : decode prog_2_method_1_code 29 = .ok (.newarray .int, 2) := by decide +kernel
theorem dk_Chains_init_31 : decode prog_2_method_1_code 31 = .ok (.putfield 21, 3) := by decide +kernel
theorem dk_Chains_init_34 : decode prog_2_method_1_code 34 = .ok (.return_, 1) := by decide +kernel
theorem kw_228 : (Jvm.Cond.methodLink "KeptLump$Chains" (3 : Nat) ({ cls := "java/lang/Object", name := "<init>", desc := "()V" } : Jvm.MethodName)) ∈ kv_gw := List.mem_filter.mpr ⟨kv_tb1 (List.mem_of_getElem? (i := 160) (by decide +kernel)), by decide +kernel⟩
def kqw_Chains_1 : List kq_c := ([(.inl (0, [.null, .null, .null, .null]) : kq_c)] ++ [(.inr (12, 48, .inl (fun _ => 0)) : kq_c)]).set 0 (.inl (0, [.ref 1, .null, .null, .null]))
def kqw_Chains_2 : List kq_c := (kqw_Chains_1 ++ [(.inr (12, 48, .inl (fun _ => 0)) : kq_c)]).set 0 (.inl (0, [.ref 1, .ref 2, .null, .null]))
def kqw_Chains_3 : List kq_c := (kqw_Chains_2 ++ [(.inr (12, 4, .inl (fun _ => 0)) : kq_c)]).set 0 (.inl (0, [.ref 1, .ref 2, .ref 3, .null]))
def kqw_Chains_4 : List kq_c := (kqw_Chains_3 ++ [(.inr (12, 4, .inl (fun _ => 0)) : kq_c)]).set 0 (.inl (0, [.ref 1, .ref 2, .ref 3, .ref 4]))
def kql_Chains : List kq_c := kqw_Chains_4
set_option maxRecDepth 100000 in
theorem cq_Chains : kq_C kM_Chains_init 1 4 104 [.ref 0] ((.inl (0, [.null, .null, .null, .null]) : kq_c)) kql_Chains := by
  refine kq_entry (by decide) (by decide) ?_
  refine kq_aload_n 0 rfl rfl dk_Chains_init_0 ?_
  refine kq_objInit kw_228 kw_96 kw_97 dk_Chains_init_1 (by decide) (by decide) rfl ?_
  refine kq_aload_n 0 rfl rfl dk_Chains_init_4 ?_
  refine kq_bipush (v := 48) dk_Chains_init_5 (by decide +kernel) ?_
  refine kq_newI (N0 := 48) (t := 1) (k2 := 1) (n2 := 48) kw_150 (by decide +kernel) (by decide +kernel) (by decide) rfl rfl ⟨by decide, by decide⟩ rfl (by decide) dk_Chains_init_7 ?_
  refine kq_putR (fs := [.null, .null, .null, .null]) (L' := kqw_Chains_1) kf_Chains_9 (fun _ => ⟨rfl, kq_dc kc_0.2.1 rfl⟩) (by decide) (by decide) rfl (by decide) (fun _ => rfl) (fun _ => rfl) rfl dk_Chains_init_9 ?_
  refine kq_aload_n 0 rfl rfl dk_Chains_init_12 ?_
  refine kq_bipush (v := 48) dk_Chains_init_13 (by decide +kernel) ?_
  refine kq_newI (N0 := 48) (t := 2) (k2 := 2) (n2 := 96) kw_150 (by decide +kernel) (by decide +kernel) (by decide) rfl rfl ⟨by decide, by decide⟩ rfl (by decide) dk_Chains_init_15 ?_
  refine kq_putR (fs := [.ref 1, .null, .null, .null]) (L' := kqw_Chains_2) kf_Chains_15 (fun _ => ⟨rfl, kq_dc kc_0.2.1 rfl⟩) (by decide) (by decide) rfl (by decide) (fun _ => rfl) (fun _ => rfl) rfl dk_Chains_init_17 ?_
  refine kq_aload_n 0 rfl rfl dk_Chains_init_20 ?_
  refine kq_iconst (v := 4) dk_Chains_init_21 (by decide +kernel) ?_
  refine kq_newI (N0 := 4) (t := 3) (k2 := 3) (n2 := 100) kw_150 (by decide +kernel) (by decide +kernel) (by decide) rfl rfl ⟨by decide, by decide⟩ rfl (by decide) dk_Chains_init_22 ?_
  refine kq_putR (fs := [.ref 1, .ref 2, .null, .null]) (L' := kqw_Chains_3) kf_Chains_18 (fun _ => ⟨rfl, kq_dc kc_0.2.1 rfl⟩) (by decide) (by decide) rfl (by decide) (fun _ => rfl) (fun _ => rfl) rfl dk_Chains_init_24 ?_
  refine kq_aload_n 0 rfl rfl dk_Chains_init_27 ?_
  refine kq_iconst (v := 4) dk_Chains_init_28 (by decide +kernel) ?_
  refine kq_newI (N0 := 4) (t := 4) (k2 := 4) (n2 := 104) kw_150 (by decide +kernel) (by decide +kernel) (by decide) rfl rfl ⟨by decide, by decide⟩ rfl (by decide) dk_Chains_init_29 ?_
  refine kq_putR (fs := [.ref 1, .ref 2, .ref 3, .null]) (L' := kqw_Chains_4) kf_Chains_21 (fun _ => ⟨rfl, kq_dc kc_0.2.1 rfl⟩) (by decide) (by decide) rfl (by decide) (fun _ => rfl) (fun _ => rfl) rfl dk_Chains_init_31 ?_
  exact kq_vret rfl rfl rfl dk_Chains_init_34 rfl
abbrev kM_State_init : kv_MI := (⟨"KeptLump$State", "<init>", "()V"⟩, prog_10_method_1_code, 1, none)
theorem dk_State_init_0 : decode prog_10_method_1_code 0 = .ok (.aload_n 0, 1) := by decide +kernel
theorem dk_State_init_1 : decode prog_10_method_1_code 1 = .ok (.invokespecial 3, 3) := by decide +kernel
theorem dk_State_init_4 : decode prog_10_method_1_code 4 = .ok (.aload_n 0, 1) := by decide +kernel
theorem dk_State_init_5 : decode prog_10_method_1_code 5 = .ok (.new 9, 3) := by decide +kernel
theorem dk_State_init_8 : decode prog_10_method_1_code 8 = .ok (.dup, 1) := by decide +kernel
theorem dk_State_init_9 : decode prog_10_method_1_code 9 = .ok (.invokespecial 11, 3) := by decide +kernel
theorem dk_State_init_12 : decode prog_10_method_1_code 12 = .ok (.putfield 12, 3) := by decide +kernel
theorem dk_State_init_15 : decode prog_10_method_1_code 15 = .ok (.aload_n 0, 1) := by decide +kernel
theorem dk_State_init_16 : decode prog_10_method_1_code 16 = .ok (.new 18, 3) := by decide +kernel
theorem dk_State_init_19 : decode prog_10_method_1_code 19 = .ok (.dup, 1) := by decide +kernel
theorem dk_State_init_20 : decode prog_10_method_1_code 20 = .ok (.invokespecial 20, 3) := by decide +kernel
theorem dk_State_init_23 : decode prog_10_method_1_code 23 = .ok (.putfield 21, 3) := by decide +kernel
theorem dk_State_init_26 : decode prog_10_method_1_code 26 = .ok (.aload_n 0, 1) := by decide +kernel
theorem dk_State_init_27 : decode prog_10_method_1_code 27 = .ok (.new 25, 3) := by decide +kernel
theorem dk_State_init_30 : decode prog_10_method_1_code 30 = .ok (.dup, 1) := by decide +kernel
theorem dk_State_init_31 : decode prog_10_method_1_code 31 = .ok (.invokespecial 27, 3) := by decide +kernel
theorem dk_State_init_34 : decode prog_10_method_1_code 34 = .ok (.putfield 28, 3) := by decide +kernel
theorem dk_State_init_37 : decode prog_10_method_1_code 37 = .ok (.aload_n 0, 1) := by decide +kernel
theorem dk_State_init_38 : decode prog_10_method_1_code 38 = .ok (.new 32, 3) := by decide +kernel
theorem dk_State_init_41 : decode prog_10_method_1_code 41 = .ok (.dup, 1) := by decide +kernel
theorem dk_State_init_42 : decode prog_10_method_1_code 42 = .ok (.invokespecial 34, 3) := by decide +kernel
theorem dk_State_init_45 : decode prog_10_method_1_code 45 = .ok (.putfield 35, 3) := by decide +kernel
theorem dk_State_init_48 : decode prog_10_method_1_code 48 = .ok (.aload_n 0, 1) := by decide +kernel
theorem dk_State_init_49 : decode prog_10_method_1_code 49 = .ok (.iconst 4, 1) := by decide +kernel
theorem dk_State_init_50 : decode prog_10_method_1_code 50 = .ok (.newarray .int, 2) := by decide +kernel
theorem dk_State_init_52 : decode prog_10_method_1_code 52 = .ok (.putfield 39, 3) := by decide +kernel
theorem dk_State_init_55 : decode prog_10_method_1_code 55 = .ok (.aload_n 0, 1) := by decide +kernel
theorem dk_State_init_56 : decode prog_10_method_1_code 56 = .ok (.iconst 1, 1) := by decide +kernel
theorem dk_State_init_57 : decode prog_10_method_1_code 57 = .ok (.putfield 43, 3) := by decide +kernel
theorem dk_State_init_60 : decode prog_10_method_1_code 60 = .ok (.aload_n 0, 1) := by decide +kernel
theorem dk_State_init_61 : decode prog_10_method_1_code 61 = .ok (.bipush (-9), 2) := by decide +kernel
theorem dk_State_init_63 : decode prog_10_method_1_code 63 = .ok (.putfield 47, 3) := by decide +kernel
theorem dk_State_init_66 : decode prog_10_method_1_code 66 = .ok (.aload_n 0, 1) := by decide +kernel
theorem dk_State_init_67 : decode prog_10_method_1_code 67 = .ok (.bipush 9, 2) := by decide +kernel
theorem dk_State_init_69 : decode prog_10_method_1_code 69 = .ok (.putfield 50, 3) := by decide +kernel
theorem dk_State_init_72 : decode prog_10_method_1_code 72 = .ok (.aload_n 0, 1) := by decide +kernel
theorem dk_State_init_73 : decode prog_10_method_1_code 73 = .ok (.getfield 39, 3) := by decide +kernel
theorem dk_State_init_76 : decode prog_10_method_1_code 76 = .ok (.bipush 10, 2) := by decide +kernel
theorem dk_State_init_78 : decode prog_10_method_1_code 78 = .ok (.invokestatic 53, 3) := by decide +kernel
theorem dk_State_init_81 : decode prog_10_method_1_code 81 = .ok (.return_, 1) := by decide +kernel
theorem kw_103 : (Jvm.Cond.methodLink "KeptLump$State" (3 : Nat) ({ cls := "java/lang/Object", name := "<init>", desc := "()V" } : Jvm.MethodName)) ∈ kv_gw := List.mem_filter.mpr ⟨kv_tb1 (List.mem_of_getElem? (i := 35) (by decide +kernel)), by decide +kernel⟩
theorem kw_104 : (Jvm.Cond.classLink "KeptLump$State" (9 : Nat) "KeptLump$Lumps") ∈ kv_gw := List.mem_filter.mpr ⟨kv_tb1 (List.mem_of_getElem? (i := 36) (by decide +kernel)), by decide +kernel⟩
theorem kw_105 : (Jvm.Cond.instantiable "KeptLump$Lumps" (8 : Nat)) ∈ kv_gw := List.mem_filter.mpr ⟨kv_tb1 (List.mem_of_getElem? (i := 37) (by decide +kernel)), by decide +kernel⟩
theorem kw_108 : (Jvm.Cond.code ({ cls := "KeptLump$Lumps", name := "<init>", desc := "()V" } : Jvm.MethodName) prog_5_method_1_code (1 : Nat) (Option.none : Option Jvm.ClassFile.FieldType)) ∈ kv_gw := List.mem_filter.mpr ⟨kv_tb1 (List.mem_of_getElem? (i := 40) (by decide +kernel)), by decide +kernel⟩
theorem kqo_Lumps : kq_ok kM_Lumps_init 0 := ⟨kw_71, kw_108, ⟨by decide, by decide⟩, by decide +kernel, by decide⟩
theorem kw_107 : (Jvm.Cond.instanceMethod ({ cls := "KeptLump$Lumps", name := "<init>", desc := "()V" } : Jvm.MethodName)) ∈ kv_gw := List.mem_filter.mpr ⟨kv_tb1 (List.mem_of_getElem? (i := 39) (by decide +kernel)), by decide +kernel⟩
theorem kw_106 : (Jvm.Cond.methodLinkNest "KeptLump$State" (11 : Nat) ({ cls := "KeptLump$Lumps", name := "<init>", desc := "()V" } : Jvm.MethodName) "KeptLump") ∈ lw_tbl := kv_tb1 (List.mem_of_getElem? (i := 38) (by decide +kernel))
theorem kw_151 : (Jvm.Cond.classLink "KeptLump$State" (18 : Nat) "KeptLump$Weighings") ∈ kv_gw := List.mem_filter.mpr ⟨kv_tb1 (List.mem_of_getElem? (i := 83) (by decide +kernel)), by decide +kernel⟩
theorem kw_152 : (Jvm.Cond.instantiable "KeptLump$Weighings" (9 : Nat)) ∈ kv_gw := List.mem_filter.mpr ⟨kv_tb1 (List.mem_of_getElem? (i := 84) (by decide +kernel)), by decide +kernel⟩
theorem kw_155 : (Jvm.Cond.code ({ cls := "KeptLump$Weighings", name := "<init>", desc := "()V" } : Jvm.MethodName) prog_11_method_1_code (1 : Nat) (Option.none : Option Jvm.ClassFile.FieldType)) ∈ kv_gw := List.mem_filter.mpr ⟨kv_tb1 (List.mem_of_getElem? (i := 87) (by decide +kernel)), by decide +kernel⟩
theorem kqo_Weighings : kq_ok kM_Weighings_init 0 := ⟨kw_72, kw_155, ⟨by decide, by decide⟩, by decide +kernel, by decide⟩
theorem kw_154 : (Jvm.Cond.instanceMethod ({ cls := "KeptLump$Weighings", name := "<init>", desc := "()V" } : Jvm.MethodName)) ∈ kv_gw := List.mem_filter.mpr ⟨kv_tb1 (List.mem_of_getElem? (i := 86) (by decide +kernel)), by decide +kernel⟩
theorem kw_153 : (Jvm.Cond.methodLinkNest "KeptLump$State" (20 : Nat) ({ cls := "KeptLump$Weighings", name := "<init>", desc := "()V" } : Jvm.MethodName) "KeptLump") ∈ lw_tbl := kv_tb1 (List.mem_of_getElem? (i := 85) (by decide +kernel))
theorem kw_201 : (Jvm.Cond.classLink "KeptLump$State" (25 : Nat) "KeptLump$Law") ∈ kv_gw := List.mem_filter.mpr ⟨kv_tb1 (List.mem_of_getElem? (i := 133) (by decide +kernel)), by decide +kernel⟩
theorem kw_202 : (Jvm.Cond.instantiable "KeptLump$Law" (3 : Nat)) ∈ kv_gw := List.mem_filter.mpr ⟨kv_tb1 (List.mem_of_getElem? (i := 134) (by decide +kernel)), by decide +kernel⟩
theorem kw_205 : (Jvm.Cond.code ({ cls := "KeptLump$Law", name := "<init>", desc := "()V" } : Jvm.MethodName) prog_3_method_1_code (1 : Nat) (Option.none : Option Jvm.ClassFile.FieldType)) ∈ kv_gw := List.mem_filter.mpr ⟨kv_tb1 (List.mem_of_getElem? (i := 137) (by decide +kernel)), by decide +kernel⟩
theorem kqo_Law : kq_ok kM_Law_init 0 := ⟨kw_73, kw_205, ⟨by decide, by decide⟩, by decide +kernel, by decide⟩
theorem kw_204 : (Jvm.Cond.instanceMethod ({ cls := "KeptLump$Law", name := "<init>", desc := "()V" } : Jvm.MethodName)) ∈ kv_gw := List.mem_filter.mpr ⟨kv_tb1 (List.mem_of_getElem? (i := 136) (by decide +kernel)), by decide +kernel⟩
theorem kw_203 : (Jvm.Cond.methodLink "KeptLump$State" (27 : Nat) ({ cls := "KeptLump$Law", name := "<init>", desc := "()V" } : Jvm.MethodName)) ∈ kv_gw := List.mem_filter.mpr ⟨kv_tb1 (List.mem_of_getElem? (i := 135) (by decide +kernel)), by decide +kernel⟩
theorem kw_223 : (Jvm.Cond.classLink "KeptLump$State" (32 : Nat) "KeptLump$Chains") ∈ kv_gw := List.mem_filter.mpr ⟨kv_tb1 (List.mem_of_getElem? (i := 155) (by decide +kernel)), by decide +kernel⟩
theorem kw_224 : (Jvm.Cond.instantiable "KeptLump$Chains" (4 : Nat)) ∈ kv_gw := List.mem_filter.mpr ⟨kv_tb1 (List.mem_of_getElem? (i := 156) (by decide +kernel)), by decide +kernel⟩
theorem kw_227 : (Jvm.Cond.code ({ cls := "KeptLump$Chains", name := "<init>", desc := "()V" } : Jvm.MethodName) prog_2_method_1_code (1 : Nat) (Option.none : Option Jvm.ClassFile.FieldType)) ∈ kv_gw := List.mem_filter.mpr ⟨kv_tb1 (List.mem_of_getElem? (i := 159) (by decide +kernel)), by decide +kernel⟩
theorem kqo_Chains : kq_ok kM_Chains_init 0 := ⟨kw_74, kw_227, ⟨by decide, by decide⟩, by decide +kernel, by decide⟩
theorem kw_226 : (Jvm.Cond.instanceMethod ({ cls := "KeptLump$Chains", name := "<init>", desc := "()V" } : Jvm.MethodName)) ∈ kv_gw := List.mem_filter.mpr ⟨kv_tb1 (List.mem_of_getElem? (i := 158) (by decide +kernel)), by decide +kernel⟩
theorem kw_225 : (Jvm.Cond.methodLinkNest "KeptLump$State" (34 : Nat) ({ cls := "KeptLump$Chains", name := "<init>", desc := "()V" } : Jvm.MethodName) "KeptLump") ∈ lw_tbl := kv_tb1 (List.mem_of_getElem? (i := 157) (by decide +kernel))
theorem kqo_fill : kq_ok kM_Arr_fill 2 := ⟨kw_75, kw_246, ⟨by decide, by decide⟩, by decide +kernel, by decide⟩
theorem kw_244 : (Jvm.Cond.methodLink "KeptLump$State" (53 : Nat) ({ cls := "java/util/Arrays", name := "fill", desc := "([II)V" } : Jvm.MethodName)) ∈ kv_gw := List.mem_filter.mpr ⟨kv_tb1 (List.mem_of_getElem? (i := 176) (by decide +kernel)), by decide +kernel⟩
def kqw_State_1 : List kq_c := ([(.inl (8, [.null, .null, .null, .null, .null, .int 0, .int 0, .int 0, .int 0]) : kq_c)]) ++ (kql_Lumps).map (kq_sh 1)
def kqw_State_2 : List kq_c := (kqw_State_1).set 0 (.inl (8, [.ref 1, .null, .null, .null, .null, .int 0, .int 0, .int 0, .int 0]))
def kqw_State_3 : List kq_c := (kqw_State_2) ++ (kql_Weighings).map (kq_sh 9)
def kqw_State_4 : List kq_c := (kqw_State_3).set 0 (.inl (8, [.ref 1, .ref 9, .null, .null, .null, .int 0, .int 0, .int 0, .int 0]))
def kqw_State_5 : List kq_c := (kqw_State_4) ++ (kql_Law).map (kq_sh 17)
def kqw_State_6 : List kq_c := (kqw_State_5).set 0 (.inl (8, [.ref 1, .ref 9, .ref 17, .null, .null, .int 0, .int 0, .int 0, .int 0]))
def kqw_State_7 : List kq_c := (kqw_State_6) ++ (kql_Chains).map (kq_sh 19)
def kqw_State_8 : List kq_c := (kqw_State_7).set 0 (.inl (8, [.ref 1, .ref 9, .ref 17, .ref 19, .null, .int 0, .int 0, .int 0, .int 0]))
def kqw_State_9 : List kq_c := (kqw_State_8 ++ [(.inr (12, 4, .inl (fun _ => 0)) : kq_c)]).set 0 (.inl (8, [.ref 1, .ref 9, .ref 17, .ref 19, .ref 24, .int 0, .int 0, .int 0, .int 0]))
def kqw_State_10 : List kq_c := (kqw_State_9).set 0 (.inl (8, [.ref 1, .ref 9, .ref 17, .ref 19, .ref 24, .int 0, .int 1, .int 0, .int 0]))
def kqw_State_11 : List kq_c := (kqw_State_10).set 0 (.inl (8, [.ref 1, .ref 9, .ref 17, .ref 19, .ref 24, .int 0, .int 1, .int (-9), .int 0]))
def kqw_State_12 : List kq_c := (kqw_State_11).set 0 (.inl (8, [.ref 1, .ref 9, .ref 17, .ref 19, .ref 24, .int 0, .int 1, .int (-9), .int 9]))
def kqw_State_13 : List kq_c := (kqw_State_12.take 24) ++ (kql_fill).map (kq_sh 24)
def kql_State : List kq_c := kqw_State_13
set_option maxRecDepth 100000 in
theorem cq_State : kq_C kM_State_init 2 24 438 [.ref 0] ((.inl (8, [.null, .null, .null, .null, .null, .int 0, .int 0, .int 0, .int 0]) : kq_c)) kql_State := by
  refine kq_entry (by decide) (by decide) ?_
  refine kq_aload_n 0 rfl rfl dk_State_init_0 ?_
  refine kq_objInit kw_103 kw_96 kw_97 dk_State_init_1 (by decide) (by decide) rfl ?_
  refine kq_aload_n 0 rfl rfl dk_State_init_4 ?_
  refine kq_new (t := 1) (k2 := 1) (n2 := 8) (fs := [.null, .null, .null, .null, .null, .null, .null, .int 0]) kc_3 kw_104 kw_105 kw_71 (fun _ => rfl) (by decide +kernel) rfl rfl ⟨by decide, by decide⟩ rfl (by decide) dk_State_init_5 ?_
  refine kq_dupR dk_State_init_8 ?_
  refine kq_callIN (L0 := ([(.inl (8, [.null, .null, .null, .null, .null, .int 0, .int 0, .int 0, .int 0]) : kq_c)])) (e0 := ((.inl (3, [.null, .null, .null, .null, .null, .null, .null, .int 0]) : kq_c))) (L' := kqw_State_1) (k2 := 8) (n2 := 74) (LE := kql_Lumps) kqo_Lumps kw_107 rfl rfl kw_106 (by decide) dk_State_init_9 ⟨by decide, by decide, rfl, rfl, by decide, by decide⟩ rfl rfl (by decide) rfl cq_Lumps rfl ?_
  refine kq_putR (fs := [.null, .null, .null, .null, .null, .int 0, .int 0, .int 0, .int 0]) (L' := kqw_State_2) kf_State_12 (fun _ => ⟨rfl, kq_dc kc_8.2.1 rfl⟩) (by decide) (by decide) rfl (by decide) (fun _ => rfl) (fun _ => rfl) rfl dk_State_init_12 ?_
  refine kq_aload_n 0 rfl rfl dk_State_init_15 ?_
  refine kq_new (t := 9) (k2 := 9) (n2 := 83) (fs := [.null, .null, .null, .null, .null, .null, .null, .int 0, .int 0]) kc_9 kw_151 kw_152 kw_72 (fun _ => rfl) (by decide +kernel) rfl rfl ⟨by decide, by decide⟩ rfl (by decide) dk_State_init_16 ?_
  refine kq_dupR dk_State_init_19 ?_
  refine kq_callIN (L0 := (kqw_State_2)) (e0 := ((.inl (9, [.null, .null, .null, .null, .null, .null, .null, .int 0, .int 0]) : kq_c))) (L' := kqw_State_3) (k2 := 16) (n2 := 223) (LE := kql_Weighings) kqo_Weighings kw_154 rfl rfl kw_153 (by decide) dk_State_init_20 ⟨by decide, by decide, rfl, rfl, by decide, by decide⟩ rfl rfl (by decide) rfl cq_Weighings rfl ?_
  refine kq_putR (fs := [.ref 1, .null, .null, .null, .null, .int 0, .int 0, .int 0, .int 0]) (L' := kqw_State_4) kf_State_21 (fun _ => ⟨rfl, kq_dc kc_8.2.1 rfl⟩) (by decide) (by decide) rfl (by decide) (fun _ => rfl) (fun _ => rfl) rfl dk_State_init_23 ?_
  refine kq_aload_n 0 rfl rfl dk_State_init_26 ?_
  refine kq_new (t := 17) (k2 := 17) (n2 := 226) (fs := [.null, .int 0, .int 0]) kc_1 kw_201 kw_202 kw_73 (fun _ => rfl) (by decide +kernel) rfl rfl ⟨by decide, by decide⟩ rfl (by decide) dk_State_init_27 ?_
  refine kq_dupR dk_State_init_30 ?_
  refine kq_callI (L0 := (kqw_State_4)) (e0 := ((.inl (1, [.null, .int 0, .int 0]) : kq_c))) (L' := kqw_State_5) (k2 := 18) (n2 := 326) (LE := kql_Law) kqo_Law kw_204 rfl rfl kw_203 (by decide) dk_State_init_31 ⟨by decide, by decide, rfl, rfl, by decide, by decide⟩ rfl rfl (by decide) rfl cq_Law rfl ?_
  refine kq_putR (fs := [.ref 1, .ref 9, .null, .null, .null, .int 0, .int 0, .int 0, .int 0]) (L' := kqw_State_6) kf_State_28 (fun _ => ⟨rfl, kq_dc kc_8.2.1 rfl⟩) (by decide) (by decide) rfl (by decide) (fun _ => rfl) (fun _ => rfl) rfl dk_State_init_34 ?_
  refine kq_aload_n 0 rfl rfl dk_State_init_37 ?_
  refine kq_new (t := 19) (k2 := 19) (n2 := 330) (fs := [.null, .null, .null, .null]) kc_0 kw_223 kw_224 kw_74 (fun _ => rfl) (by decide +kernel) rfl rfl ⟨by decide, by decide⟩ rfl (by decide) dk_State_init_38 ?_
  refine kq_dupR dk_State_init_41 ?_
  refine kq_callIN (L0 := (kqw_State_6)) (e0 := ((.inl (0, [.null, .null, .null, .null]) : kq_c))) (L' := kqw_State_7) (k2 := 23) (n2 := 434) (LE := kql_Chains) kqo_Chains kw_226 rfl rfl kw_225 (by decide) dk_State_init_42 ⟨by decide, by decide, rfl, rfl, by decide, by decide⟩ rfl rfl (by decide) rfl cq_Chains rfl ?_
  refine kq_putR (fs := [.ref 1, .ref 9, .ref 17, .null, .null, .int 0, .int 0, .int 0, .int 0]) (L' := kqw_State_8) kf_State_35 (fun _ => ⟨rfl, kq_dc kc_8.2.1 rfl⟩) (by decide) (by decide) rfl (by decide) (fun _ => rfl) (fun _ => rfl) rfl dk_State_init_45 ?_
  refine kq_aload_n 0 rfl rfl dk_State_init_48 ?_
  refine kq_iconst (v := 4) dk_State_init_49 (by decide +kernel) ?_
  refine kq_newI (N0 := 4) (t := 24) (k2 := 24) (n2 := 438) kw_150 (by decide +kernel) (by decide +kernel) (by decide) rfl rfl ⟨by decide, by decide⟩ rfl (by decide) dk_State_init_50 ?_
  refine kq_putR (fs := [.ref 1, .ref 9, .ref 17, .ref 19, .null, .int 0, .int 0, .int 0, .int 0]) (L' := kqw_State_9) kf_State_39 (fun _ => ⟨rfl, kq_dc kc_8.2.1 rfl⟩) (by decide) (by decide) rfl (by decide) (fun _ => rfl) (fun _ => rfl) rfl dk_State_init_52 ?_
  refine kq_aload_n 0 rfl rfl dk_State_init_55 ?_
  refine kq_iconst (v := 1) dk_State_init_56 (by decide +kernel) ?_
  refine kq_putI (fs := [.ref 1, .ref 9, .ref 17, .ref 19, .ref 24, .int 0, .int 0, .int 0, .int 0]) (L' := kqw_State_10) kf_State_43 (by decide) rfl (by decide) rfl rfl rfl dk_State_init_57 ?_
  refine kq_aload_n 0 rfl rfl dk_State_init_60 ?_
  refine kq_bipush (v := (-9)) dk_State_init_61 (by decide +kernel) ?_
  refine kq_putI (fs := [.ref 1, .ref 9, .ref 17, .ref 19, .ref 24, .int 0, .int 1, .int 0, .int 0]) (L' := kqw_State_11) kf_State_47 (by decide) rfl (by decide) rfl rfl rfl dk_State_init_63 ?_
  refine kq_aload_n 0 rfl rfl dk_State_init_66 ?_
  refine kq_bipush (v := 9) dk_State_init_67 (by decide +kernel) ?_
  refine kq_putI (fs := [.ref 1, .ref 9, .ref 17, .ref 19, .ref 24, .int 0, .int 1, .int (-9), .int 0]) (L' := kqw_State_12) kf_State_50 (by decide) rfl (by decide) rfl rfl rfl dk_State_init_69 ?_
  refine kq_aload_n 0 rfl rfl dk_State_init_72 ?_
  refine kq_get (v := .ref 24) (fs := [.ref 1, .ref 9, .ref 17, .ref 19, .ref 24, .int 0, .int 1, .int (-9), .int 9]) kf_State_39 (by decide) rfl rfl (fun _ _ => kq_vv (by decide)) dk_State_init_73 ?_
  refine kq_bipush (v := 10) dk_State_init_76 (by decide +kernel) ?_
  refine kq_callF (L0 := (kqw_State_12.take 24)) (e0 := ((.inr (12, 4, .inl (fun _ => 0)) : kq_c))) (L' := kqw_State_13) (k2 := 24) (n2 := 438) (LE := kql_fill) kqo_fill kw_245 kw_244 (by decide) dk_State_init_78 ⟨by decide, by decide, rfl, rfl, by decide, by decide⟩ rfl rfl (by decide) rfl cq_fill rfl ?_
  exact kq_vret rfl rfl rfl dk_State_init_81 rfl
abbrev kM_Shelf_init : kv_MI := (⟨"KeptLump$Shelf", "<init>", "()V"⟩, prog_9_method_1_code, 1, none)
theorem dk_Shelf_init_0 : decode prog_9_method_1_code 0 = .ok (.aload_n 0, 1) := by decide +kernel
theorem dk_Shelf_init_1 : decode prog_9_method_1_code 1 = .ok (.invokespecial 3, 3) := by decide +kernel
theorem dk_Shelf_init_4 : decode prog_9_method_1_code 4 = .ok (.aload_n 0, 1) := by decide +kernel
theorem dk_Shelf_init_5 : decode prog_9_method_1_code 5 = .ok (.bipush 100, 2) := by decide +kernel
theorem dk_Shelf_init_7 : decode prog_9_method_1_code 7 = .ok (.newarray .int, 2) := by decide +kernel
theorem dk_Shelf_init_9 : decode prog_9_method_1_code 9 = .ok (.putfield 9, 3) := by decide +kernel
theorem dk_Shelf_init_12 : decode prog_9_method_1_code 12 = .ok (.return_, 1) := by decide +kernel
theorem kw_298 : (Jvm.Cond.methodLink "KeptLump$Shelf" (3 : Nat) ({ cls := "java/lang/Object", name := "<init>", desc := "()V" } : Jvm.MethodName)) ∈ kv_gw := List.mem_filter.mpr ⟨kv_tb1 (List.mem_of_getElem? (i := 230) (by decide +kernel)), by decide +kernel⟩
def kqw_Shelf_1 : List kq_c := ([(.inl (7, [.null, .int 0, .int 0, .int 0, .int 0, .int 0, .int 0, .int 0]) : kq_c)] ++ [(.inr (12, 100, .inl (fun _ => 0)) : kq_c)]).set 0 (.inl (7, [.ref 1, .int 0, .int 0, .int 0, .int 0, .int 0, .int 0, .int 0]))
def kql_Shelf : List kq_c := kqw_Shelf_1
set_option maxRecDepth 100000 in
theorem cq_Shelf : kq_C kM_Shelf_init 1 1 100 [.ref 0] ((.inl (7, [.null, .int 0, .int 0, .int 0, .int 0, .int 0, .int 0, .int 0]) : kq_c)) kql_Shelf := by
  refine kq_entry (by decide) (by decide) ?_
  refine kq_aload_n 0 rfl rfl dk_Shelf_init_0 ?_
  refine kq_objInit kw_298 kw_96 kw_97 dk_Shelf_init_1 (by decide) (by decide) rfl ?_
  refine kq_aload_n 0 rfl rfl dk_Shelf_init_4 ?_
  refine kq_bipush (v := 100) dk_Shelf_init_5 (by decide +kernel) ?_
  refine kq_newI (N0 := 100) (t := 1) (k2 := 1) (n2 := 100) kw_150 (by decide +kernel) (by decide +kernel) (by decide) rfl rfl ⟨by decide, by decide⟩ rfl (by decide) dk_Shelf_init_7 ?_
  refine kq_putR (fs := [.null, .int 0, .int 0, .int 0, .int 0, .int 0, .int 0, .int 0]) (L' := kqw_Shelf_1) kf_Shelf_9 (fun _ => ⟨rfl, kq_dc kc_7.2.1 rfl⟩) (by decide) (by decide) rfl (by decide) (fun _ => rfl) (fun _ => rfl) rfl dk_Shelf_init_9 ?_
  exact kq_vret rfl rfl rfl dk_Shelf_init_12 rfl
abbrev kM_Net_init : kv_MI := (⟨"KeptLump$Net", "<init>", "()V"⟩, prog_6_method_1_code, 1, none)
theorem dk_Net_init_0 : decode prog_6_method_1_code 0 = .ok (.aload_n 0, 1) := by decide +kernel
theorem dk_Net_init_1 : decode prog_6_method_1_code 1 = .ok (.invokespecial 5, 3) := by decide +kernel
theorem dk_Net_init_4 : decode prog_6_method_1_code 4 = .ok (.aload_n 0, 1) := by decide +kernel
theorem dk_Net_init_5 : decode prog_6_method_1_code 5 = .ok (.bipush 124, 2) := by decide +kernel
theorem dk_Net_init_7 : decode prog_6_method_1_code 7 = .ok (.newarray .int, 2) := by decide +kernel
theorem dk_Net_init_9 : decode prog_6_method_1_code 9 = .ok (.putfield 11, 3) := by decide +kernel
theorem dk_Net_init_12 : decode prog_6_method_1_code 12 = .ok (.aload_n 0, 1) := by decide +kernel
theorem dk_Net_init_13 : decode prog_6_method_1_code 13 = .ok (.bipush 124, 2) := by decide +kernel
theorem dk_Net_init_15 : decode prog_6_method_1_code 15 = .ok (.newarray .int, 2) := by decide +kernel
theorem dk_Net_init_17 : decode prog_6_method_1_code 17 = .ok (.putfield 15, 3) := by decide +kernel
theorem dk_Net_init_20 : decode prog_6_method_1_code 20 = .ok (.aload_n 0, 1) := by decide +kernel
theorem dk_Net_init_21 : decode prog_6_method_1_code 21 = .ok (.bipush 124, 2) := by decide +kernel
theorem dk_Net_init_23 : decode prog_6_method_1_code 23 = .ok (.newarray .int, 2) := by decide +kernel
theorem dk_Net_init_25 : decode prog_6_method_1_code 25 = .ok (.putfield 18, 3) := by decide +kernel
theorem dk_Net_init_28 : decode prog_6_method_1_code 28 = .ok (.aload_n 0, 1) := by decide +kernel
theorem dk_Net_init_29 : decode prog_6_method_1_code 29 = .ok (.bipush 42, 2) := by decide +kernel
theorem dk_Net_init_31 : decode prog_6_method_1_code 31 = .ok (.newarray .int, 2) := by decide +kernel
theorem dk_Net_init_33 : decode prog_6_method_1_code 33 = .ok (.putfield 21, 3) := by decide +kernel
theorem dk_Net_init_36 : decode prog_6_method_1_code 36 = .ok (.return_, 1) := by decide +kernel
theorem kw_338 : (Jvm.Cond.methodLink "KeptLump$Net" (5 : Nat) ({ cls := "java/lang/Object", name := "<init>", desc := "()V" } : Jvm.MethodName)) ∈ kv_gw := List.mem_filter.mpr ⟨kv_tb2 (List.mem_of_getElem? (i := 30) (by decide +kernel)), by decide +kernel⟩
def kqw_Net_1 : List kq_c := ([(.inl (4, [.null, .null, .null, .null, .int 0, .int 0]) : kq_c)] ++ [(.inr (12, 124, .inl (fun _ => 0)) : kq_c)]).set 0 (.inl (4, [.ref 1, .null, .null, .null, .int 0, .int 0]))
def kqw_Net_2 : List kq_c := (kqw_Net_1 ++ [(.inr (12, 124, .inl (fun _ => 0)) : kq_c)]).set 0 (.inl (4, [.ref 1, .ref 2, .null, .null, .int 0, .int 0]))
def kqw_Net_3 : List kq_c := (kqw_Net_2 ++ [(.inr (12, 124, .inl (fun _ => 0)) : kq_c)]).set 0 (.inl (4, [.ref 1, .ref 2, .ref 3, .null, .int 0, .int 0]))
def kqw_Net_4 : List kq_c := (kqw_Net_3 ++ [(.inr (12, 42, .inl (fun _ => 0)) : kq_c)]).set 0 (.inl (4, [.ref 1, .ref 2, .ref 3, .ref 4, .int 0, .int 0]))
def kql_Net : List kq_c := kqw_Net_4
set_option maxRecDepth 100000 in
theorem cq_Net : kq_C kM_Net_init 1 4 414 [.ref 0] ((.inl (4, [.null, .null, .null, .null, .int 0, .int 0]) : kq_c)) kql_Net := by
  refine kq_entry (by decide) (by decide) ?_
  refine kq_aload_n 0 rfl rfl dk_Net_init_0 ?_
  refine kq_objInit kw_338 kw_96 kw_97 dk_Net_init_1 (by decide) (by decide) rfl ?_
  refine kq_aload_n 0 rfl rfl dk_Net_init_4 ?_
  refine kq_bipush (v := 124) dk_Net_init_5 (by decide +kernel) ?_
  refine kq_newI (N0 := 124) (t := 1) (k2 := 1) (n2 := 124) kw_150 (by decide +kernel) (by decide +kernel) (by decide) rfl rfl ⟨by decide, by decide⟩ rfl (by decide) dk_Net_init_7 ?_
  refine kq_putR (fs := [.null, .null, .null, .null, .int 0, .int 0]) (L' := kqw_Net_1) kf_Net_11 (fun _ => ⟨rfl, kq_dc kc_4.2.1 rfl⟩) (by decide) (by decide) rfl (by decide) (fun _ => rfl) (fun _ => rfl) rfl dk_Net_init_9 ?_
  refine kq_aload_n 0 rfl rfl dk_Net_init_12 ?_
  refine kq_bipush (v := 124) dk_Net_init_13 (by decide +kernel) ?_
  refine kq_newI (N0 := 124) (t := 2) (k2 := 2) (n2 := 248) kw_150 (by decide +kernel) (by decide +kernel) (by decide) rfl rfl ⟨by decide, by decide⟩ rfl (by decide) dk_Net_init_15 ?_
  refine kq_putR (fs := [.ref 1, .null, .null, .null, .int 0, .int 0]) (L' := kqw_Net_2) kf_Net_15 (fun _ => ⟨rfl, kq_dc kc_4.2.1 rfl⟩) (by decide) (by decide) rfl (by decide) (fun _ => rfl) (fun _ => rfl) rfl dk_Net_init_17 ?_
  refine kq_aload_n 0 rfl rfl dk_Net_init_20 ?_
  refine kq_bipush (v := 124) dk_Net_init_21 (by decide +kernel) ?_
  refine kq_newI (N0 := 124) (t := 3) (k2 := 3) (n2 := 372) kw_150 (by decide +kernel) (by decide +kernel) (by decide) rfl rfl ⟨by decide, by decide⟩ rfl (by decide) dk_Net_init_23 ?_
  refine kq_putR (fs := [.ref 1, .ref 2, .null, .null, .int 0, .int 0]) (L' := kqw_Net_3) kf_Net_18 (fun _ => ⟨rfl, kq_dc kc_4.2.1 rfl⟩) (by decide) (by decide) rfl (by decide) (fun _ => rfl) (fun _ => rfl) rfl dk_Net_init_25 ?_
  refine kq_aload_n 0 rfl rfl dk_Net_init_28 ?_
  refine kq_bipush (v := 42) dk_Net_init_29 (by decide +kernel) ?_
  refine kq_newI (N0 := 42) (t := 4) (k2 := 4) (n2 := 414) kw_150 (by decide +kernel) (by decide +kernel) (by decide) rfl rfl ⟨by decide, by decide⟩ rfl (by decide) dk_Net_init_31 ?_
  refine kq_putR (fs := [.ref 1, .ref 2, .ref 3, .null, .int 0, .int 0]) (L' := kqw_Net_4) kf_Net_21 (fun _ => ⟨rfl, kq_dc kc_4.2.1 rfl⟩) (by decide) (by decide) rfl (by decide) (fun _ => rfl) (fun _ => rfl) rfl dk_Net_init_33 ?_
  exact kq_vret rfl rfl rfl dk_Net_init_36 rfl
abbrev kM_LongNet_init : kv_MI := (⟨"KeptLump$LongNet", "<init>", "()V"⟩, prog_4_method_1_code, 1, none)
theorem dk_LongNet_init_0 : decode prog_4_method_1_code 0 = .ok (.aload_n 0, 1) := by decide +kernel
theorem dk_LongNet_init_1 : decode prog_4_method_1_code 1 = .ok (.invokespecial 3, 3) := by decide +kernel
theorem dk_LongNet_init_4 : decode prog_4_method_1_code 4 = .ok (.aload_n 0, 1) := by decide +kernel
theorem dk_LongNet_init_5 : decode prog_4_method_1_code 5 = .ok (.bipush 42, 2) := by decide +kernel
theorem dk_LongNet_init_7 : decode prog_4_method_1_code 7 = .ok (.newarray .int, 2) := by decide +kernel
theorem dk_LongNet_init_9 : decode prog_4_method_1_code 9 = .ok (.putfield 11, 3) := by decide +kernel
theorem dk_LongNet_init_12 : decode prog_4_method_1_code 12 = .ok (.return_, 1) := by decide +kernel
theorem kw_364 : (Jvm.Cond.methodLink "KeptLump$LongNet" (3 : Nat) ({ cls := "java/lang/Object", name := "<init>", desc := "()V" } : Jvm.MethodName)) ∈ kv_gw := List.mem_filter.mpr ⟨kv_tb2 (List.mem_of_getElem? (i := 56) (by decide +kernel)), by decide +kernel⟩
def kqw_LongNet_1 : List kq_c := ([(.inl (2, [.null, .int 0, .int 0, .int 0, .int 0, .int 0]) : kq_c)] ++ [(.inr (12, 42, .inl (fun _ => 0)) : kq_c)]).set 0 (.inl (2, [.ref 1, .int 0, .int 0, .int 0, .int 0, .int 0]))
def kql_LongNet : List kq_c := kqw_LongNet_1
set_option maxRecDepth 100000 in
theorem cq_LongNet : kq_C kM_LongNet_init 1 1 42 [.ref 0] ((.inl (2, [.null, .int 0, .int 0, .int 0, .int 0, .int 0]) : kq_c)) kql_LongNet := by
  refine kq_entry (by decide) (by decide) ?_
  refine kq_aload_n 0 rfl rfl dk_LongNet_init_0 ?_
  refine kq_objInit kw_364 kw_96 kw_97 dk_LongNet_init_1 (by decide) (by decide) rfl ?_
  refine kq_aload_n 0 rfl rfl dk_LongNet_init_4 ?_
  refine kq_bipush (v := 42) dk_LongNet_init_5 (by decide +kernel) ?_
  refine kq_newI (N0 := 42) (t := 1) (k2 := 1) (n2 := 42) kw_150 (by decide +kernel) (by decide +kernel) (by decide) rfl rfl ⟨by decide, by decide⟩ rfl (by decide) dk_LongNet_init_7 ?_
  refine kq_putR (fs := [.null, .int 0, .int 0, .int 0, .int 0, .int 0]) (L' := kqw_LongNet_1) kf_LongNet_11 (fun _ => ⟨rfl, kq_dc kc_2.2.1 rfl⟩) (by decide) (by decide) rfl (by decide) (fun _ => rfl) (fun _ => rfl) rfl dk_LongNet_init_9 ?_
  exact kq_vret rfl rfl rfl dk_LongNet_init_12 rfl
abbrev kM_Reader_init : kv_MI := (⟨"KeptLump$Reader", "<init>", "()V"⟩, prog_8_method_1_code, 1, none)
theorem dk_Reader_init_0 : decode prog_8_method_1_code 0 = .ok (.aload_n 0, 1) := by decide +kernel
theorem dk_Reader_init_1 : decode prog_8_method_1_code 1 = .ok (.invokespecial 3, 3) := by decide +kernel
theorem dk_Reader_init_4 : decode prog_8_method_1_code 4 = .ok (.aload_n 0, 1) := by decide +kernel
theorem dk_Reader_init_5 : decode prog_8_method_1_code 5 = .ok (.bipush 100, 2) := by decide +kernel
theorem dk_Reader_init_7 : decode prog_8_method_1_code 7 = .ok (.newarray .int, 2) := by decide +kernel
theorem dk_Reader_init_9 : decode prog_8_method_1_code 9 = .ok (.putfield 9, 3) := by decide +kernel
theorem dk_Reader_init_12 : decode prog_8_method_1_code 12 = .ok (.return_, 1) := by decide +kernel
theorem kw_390 : (Jvm.Cond.methodLink "KeptLump$Reader" (3 : Nat) ({ cls := "java/lang/Object", name := "<init>", desc := "()V" } : Jvm.MethodName)) ∈ kv_gw := List.mem_filter.mpr ⟨kv_tb2 (List.mem_of_getElem? (i := 82) (by decide +kernel)), by decide +kernel⟩
def kqw_Reader_1 : List kq_c := ([(.inl (6, [.null, .int 0, .int 0, .int 0, .int 0, .int 0, .int 0, .int 0, .int 0, .int 0, .int 0, .int 0, .int 0]) : kq_c)] ++ [(.inr (12, 100, .inl (fun _ => 0)) : kq_c)]).set 0 (.inl (6, [.ref 1, .int 0, .int 0, .int 0, .int 0, .int 0, .int 0, .int 0, .int 0, .int 0, .int 0, .int 0, .int 0]))
def kql_Reader : List kq_c := kqw_Reader_1
set_option maxRecDepth 100000 in
theorem cq_Reader : kq_C kM_Reader_init 1 1 100 [.ref 0] ((.inl (6, [.null, .int 0, .int 0, .int 0, .int 0, .int 0, .int 0, .int 0, .int 0, .int 0, .int 0, .int 0, .int 0]) : kq_c)) kql_Reader := by
  refine kq_entry (by decide) (by decide) ?_
  refine kq_aload_n 0 rfl rfl dk_Reader_init_0 ?_
  refine kq_objInit kw_390 kw_96 kw_97 dk_Reader_init_1 (by decide) (by decide) rfl ?_
  refine kq_aload_n 0 rfl rfl dk_Reader_init_4 ?_
  refine kq_bipush (v := 100) dk_Reader_init_5 (by decide +kernel) ?_
  refine kq_newI (N0 := 100) (t := 1) (k2 := 1) (n2 := 100) kw_150 (by decide +kernel) (by decide +kernel) (by decide) rfl rfl ⟨by decide, by decide⟩ rfl (by decide) dk_Reader_init_7 ?_
  refine kq_putR (fs := [.null, .int 0, .int 0, .int 0, .int 0, .int 0, .int 0, .int 0, .int 0, .int 0, .int 0, .int 0, .int 0]) (L' := kqw_Reader_1) kf_Reader_9 (fun _ => ⟨rfl, kq_dc kc_6.2.1 rfl⟩) (by decide) (by decide) rfl (by decide) (fun _ => rfl) (fun _ => rfl) rfl dk_Reader_init_9 ?_
  exact kq_vret rfl rfl rfl dk_Reader_init_12 rfl
abbrev kM_Planner_init : kv_MI := (⟨"KeptLump$Planner", "<init>", "()V"⟩, prog_7_method_1_code, 1, none)
theorem dk_Planner_init_0 : decode prog_7_method_1_code 0 = .ok (.aload_n 0, 1) := by decide +kernel
theorem dk_Planner_init_1 : decode prog_7_method_1_code 1 = .ok (.invokespecial 3, 3) := by decide +kernel
theorem dk_Planner_init_4 : decode prog_7_method_1_code 4 = .ok (.aload_n 0, 1) := by decide +kernel
theorem dk_Planner_init_5 : decode prog_7_method_1_code 5 = .ok (.bipush 100, 2) := by decide +kernel
theorem dk_Planner_init_7 : decode prog_7_method_1_code 7 = .ok (.newarray .int, 2) := by decide +kernel
theorem dk_Planner_init_9 : decode prog_7_method_1_code 9 = .ok (.putfield 9, 3) := by decide +kernel
theorem dk_Planner_init_12 : decode prog_7_method_1_code 12 = .ok (.aload_n 0, 1) := by decide +kernel
theorem dk_Planner_init_13 : decode prog_7_method_1_code 13 = .ok (.bipush 100, 2) := by decide +kernel
theorem dk_Planner_init_15 : decode prog_7_method_1_code 15 = .ok (.newarray .int, 2) := by decide +kernel
theorem dk_Planner_init_17 : decode prog_7_method_1_code 17 = .ok (.putfield 15, 3) := by decide +kernel
theorem dk_Planner_init_20 : decode prog_7_method_1_code 20 = .ok (.aload_n 0, 1) := by decide +kernel
theorem dk_Planner_init_21 : decode prog_7_method_1_code 21 = .ok (.bipush 8, 2) := by decide +kernel
theorem dk_Planner_init_23 : decode prog_7_method_1_code 23 = .ok (.newarray .int, 2) := by decide +kernel
theorem dk_Planner_init_25 : decode prog_7_method_1_code 25 = .ok (.putfield 18, 3) := by decide +kernel
theorem dk_Planner_init_28 : decode prog_7_method_1_code 28 = .ok (.aload_n 0, 1) := by decide +kernel
theorem dk_Planner_init_29 : decode prog_7_method_1_code 29 = .ok (.bipush 8, 2) := by decide +kernel
theorem dk_Planner_init_31 : decode prog_7_method_1_code 31 = .ok (.newarray .int, 2) := by decide +kernel
theorem dk_Planner_init_33 : decode prog_7_method_1_code 33 = .ok (.putfield 21, 3) := by decide +kernel
theorem dk_Planner_init_36 : decode prog_7_method_1_code 36 = .ok (.aload_n 0, 1) := by decide +kernel
theorem dk_Planner_init_37 : decode prog_7_method_1_code 37 = .ok (.bipush 8, 2) := by decide +kernel
theorem dk_Planner_init_39 : decode prog_7_method_1_code 39 = .ok (.newarray .int, 2) := by decide +kernel
theorem dk_Planner_init_41 : decode prog_7_method_1_code 41 = .ok (.putfield 24, 3) := by decide +kernel
theorem dk_Planner_init_44 : decode prog_7_method_1_code 44 = .ok (.aload_n 0, 1) := by decide +kernel
theorem dk_Planner_init_45 : decode prog_7_method_1_code 45 = .ok (.bipush 8, 2) := by decide +kernel
theorem dk_Planner_init_47 : decode prog_7_method_1_code 47 = .ok (.newarray .boolean, 2) := by decide +kernel
theorem dk_Planner_init_49 : decode prog_7_method_1_code 49 = .ok (.putfield 27, 3) := by decide +kernel
theorem dk_Planner_init_52 : decode prog_7_method_1_code 52 = .ok (.return_, 1) := by decide +kernel
theorem kw_437 : (Jvm.Cond.methodLink "KeptLump$Planner" (3 : Nat) ({ cls := "java/lang/Object", name := "<init>", desc := "()V" } : Jvm.MethodName)) ∈ kv_gw := List.mem_filter.mpr ⟨kv_tb2 (List.mem_of_getElem? (i := 129) (by decide +kernel)), by decide +kernel⟩
def kqw_Planner_1 : List kq_c := ([(.inl (5, [.null, .null, .null, .null, .null, .null, .int 0, .int 0, .int 0, .int 0, .int 0, .int 0, .int 0]) : kq_c)] ++ [(.inr (12, 100, .inl (fun _ => 0)) : kq_c)]).set 0 (.inl (5, [.ref 1, .null, .null, .null, .null, .null, .int 0, .int 0, .int 0, .int 0, .int 0, .int 0, .int 0]))
def kqw_Planner_2 : List kq_c := (kqw_Planner_1 ++ [(.inr (12, 100, .inl (fun _ => 0)) : kq_c)]).set 0 (.inl (5, [.ref 1, .ref 2, .null, .null, .null, .null, .int 0, .int 0, .int 0, .int 0, .int 0, .int 0, .int 0]))
def kqw_Planner_3 : List kq_c := (kqw_Planner_2 ++ [(.inr (12, 8, .inl (fun _ => 0)) : kq_c)]).set 0 (.inl (5, [.ref 1, .ref 2, .ref 3, .null, .null, .null, .int 0, .int 0, .int 0, .int 0, .int 0, .int 0, .int 0]))
def kqw_Planner_4 : List kq_c := (kqw_Planner_3 ++ [(.inr (12, 8, .inl (fun _ => 0)) : kq_c)]).set 0 (.inl (5, [.ref 1, .ref 2, .ref 3, .ref 4, .null, .null, .int 0, .int 0, .int 0, .int 0, .int 0, .int 0, .int 0]))
def kqw_Planner_5 : List kq_c := (kqw_Planner_4 ++ [(.inr (12, 8, .inl (fun _ => 0)) : kq_c)]).set 0 (.inl (5, [.ref 1, .ref 2, .ref 3, .ref 4, .ref 5, .null, .int 0, .int 0, .int 0, .int 0, .int 0, .int 0, .int 0]))
def kqw_Planner_6 : List kq_c := (kqw_Planner_5 ++ [(.inr (14, 8, .inl (fun _ => 0)) : kq_c)]).set 0 (.inl (5, [.ref 1, .ref 2, .ref 3, .ref 4, .ref 5, .ref 6, .int 0, .int 0, .int 0, .int 0, .int 0, .int 0, .int 0]))
def kql_Planner : List kq_c := kqw_Planner_6
set_option maxRecDepth 100000 in
theorem cq_Planner : kq_C kM_Planner_init 1 6 232 [.ref 0] ((.inl (5, [.null, .null, .null, .null, .null, .null, .int 0, .int 0, .int 0, .int 0, .int 0, .int 0, .int 0]) : kq_c)) kql_Planner := by
  refine kq_entry (by decide) (by decide) ?_
  refine kq_aload_n 0 rfl rfl dk_Planner_init_0 ?_
  refine kq_objInit kw_437 kw_96 kw_97 dk_Planner_init_1 (by decide) (by decide) rfl ?_
  refine kq_aload_n 0 rfl rfl dk_Planner_init_4 ?_
  refine kq_bipush (v := 100) dk_Planner_init_5 (by decide +kernel) ?_
  refine kq_newI (N0 := 100) (t := 1) (k2 := 1) (n2 := 100) kw_150 (by decide +kernel) (by decide +kernel) (by decide) rfl rfl ⟨by decide, by decide⟩ rfl (by decide) dk_Planner_init_7 ?_
  refine kq_putR (fs := [.null, .null, .null, .null, .null, .null, .int 0, .int 0, .int 0, .int 0, .int 0, .int 0, .int 0]) (L' := kqw_Planner_1) kf_Planner_9 (fun _ => ⟨rfl, kq_dc kc_5.2.1 rfl⟩) (by decide) (by decide) rfl (by decide) (fun _ => rfl) (fun _ => rfl) rfl dk_Planner_init_9 ?_
  refine kq_aload_n 0 rfl rfl dk_Planner_init_12 ?_
  refine kq_bipush (v := 100) dk_Planner_init_13 (by decide +kernel) ?_
  refine kq_newI (N0 := 100) (t := 2) (k2 := 2) (n2 := 200) kw_150 (by decide +kernel) (by decide +kernel) (by decide) rfl rfl ⟨by decide, by decide⟩ rfl (by decide) dk_Planner_init_15 ?_
  refine kq_putR (fs := [.ref 1, .null, .null, .null, .null, .null, .int 0, .int 0, .int 0, .int 0, .int 0, .int 0, .int 0]) (L' := kqw_Planner_2) kf_Planner_15 (fun _ => ⟨rfl, kq_dc kc_5.2.1 rfl⟩) (by decide) (by decide) rfl (by decide) (fun _ => rfl) (fun _ => rfl) rfl dk_Planner_init_17 ?_
  refine kq_aload_n 0 rfl rfl dk_Planner_init_20 ?_
  refine kq_bipush (v := 8) dk_Planner_init_21 (by decide +kernel) ?_
  refine kq_newI (N0 := 8) (t := 3) (k2 := 3) (n2 := 208) kw_150 (by decide +kernel) (by decide +kernel) (by decide) rfl rfl ⟨by decide, by decide⟩ rfl (by decide) dk_Planner_init_23 ?_
  refine kq_putR (fs := [.ref 1, .ref 2, .null, .null, .null, .null, .int 0, .int 0, .int 0, .int 0, .int 0, .int 0, .int 0]) (L' := kqw_Planner_3) kf_Planner_18 (fun _ => ⟨rfl, kq_dc kc_5.2.1 rfl⟩) (by decide) (by decide) rfl (by decide) (fun _ => rfl) (fun _ => rfl) rfl dk_Planner_init_25 ?_
  refine kq_aload_n 0 rfl rfl dk_Planner_init_28 ?_
  refine kq_bipush (v := 8) dk_Planner_init_29 (by decide +kernel) ?_
  refine kq_newI (N0 := 8) (t := 4) (k2 := 4) (n2 := 216) kw_150 (by decide +kernel) (by decide +kernel) (by decide) rfl rfl ⟨by decide, by decide⟩ rfl (by decide) dk_Planner_init_31 ?_
  refine kq_putR (fs := [.ref 1, .ref 2, .ref 3, .null, .null, .null, .int 0, .int 0, .int 0, .int 0, .int 0, .int 0, .int 0]) (L' := kqw_Planner_4) kf_Planner_21 (fun _ => ⟨rfl, kq_dc kc_5.2.1 rfl⟩) (by decide) (by decide) rfl (by decide) (fun _ => rfl) (fun _ => rfl) rfl dk_Planner_init_33 ?_
  refine kq_aload_n 0 rfl rfl dk_Planner_init_36 ?_
  refine kq_bipush (v := 8) dk_Planner_init_37 (by decide +kernel) ?_
  refine kq_newI (N0 := 8) (t := 5) (k2 := 5) (n2 := 224) kw_150 (by decide +kernel) (by decide +kernel) (by decide) rfl rfl ⟨by decide, by decide⟩ rfl (by decide) dk_Planner_init_39 ?_
  refine kq_putR (fs := [.ref 1, .ref 2, .ref 3, .ref 4, .null, .null, .int 0, .int 0, .int 0, .int 0, .int 0, .int 0, .int 0]) (L' := kqw_Planner_5) kf_Planner_24 (fun _ => ⟨rfl, kq_dc kc_5.2.1 rfl⟩) (by decide) (by decide) rfl (by decide) (fun _ => rfl) (fun _ => rfl) rfl dk_Planner_init_41 ?_
  refine kq_aload_n 0 rfl rfl dk_Planner_init_44 ?_
  refine kq_bipush (v := 8) dk_Planner_init_45 (by decide +kernel) ?_
  refine kq_newZ (N0 := 8) (t := 6) (k2 := 6) (n2 := 232) kw_200 (by decide +kernel) (by decide +kernel) (by decide) rfl rfl ⟨by decide, by decide⟩ rfl (by decide) dk_Planner_init_47 ?_
  refine kq_putR (fs := [.ref 1, .ref 2, .ref 3, .ref 4, .ref 5, .null, .int 0, .int 0, .int 0, .int 0, .int 0, .int 0, .int 0]) (L' := kqw_Planner_6) kf_Planner_27 (fun _ => ⟨rfl, kq_dc kc_5.2.1 rfl⟩) (by decide) (by decide) rfl (by decide) (fun _ => rfl) (fun _ => rfl) rfl dk_Planner_init_49 ?_
  exact kq_vret rfl rfl rfl dk_Planner_init_52 rfl
abbrev kM_K_init : kv_MI := (⟨"KeptLump", "<init>", "()V"⟩, prog_1_method_1_code, 2, none)
theorem dk_K_init_0 : decode prog_1_method_1_code 0 = .ok (.aload_n 0, 1) := by decide +kernel
theorem dk_K_init_1 : decode prog_1_method_1_code 1 = .ok (.invokespecial 1, 3) := by decide +kernel
theorem dk_K_init_4 : decode prog_1_method_1_code 4 = .ok (.aload_n 0, 1) := by decide +kernel
theorem dk_K_init_5 : decode prog_1_method_1_code 5 = .ok (.new 7, 3) := by decide +kernel
theorem dk_K_init_8 : decode prog_1_method_1_code 8 = .ok (.dup, 1) := by decide +kernel
theorem dk_K_init_9 : decode prog_1_method_1_code 9 = .ok (.invokespecial 9, 3) := by decide +kernel
theorem dk_K_init_12 : decode prog_1_method_1_code 12 = .ok (.putfield 10, 3) := by decide +kernel
theorem dk_K_init_15 : decode prog_1_method_1_code 15 = .ok (.aload_n 0, 1) := by decide +kernel
theorem dk_K_init_16 : decode prog_1_method_1_code 16 = .ok (.new 7, 3) := by decide +kernel
theorem dk_K_init_19 : decode prog_1_method_1_code 19 = .ok (.dup, 1) := by decide +kernel
theorem dk_K_init_20 : decode prog_1_method_1_code 20 = .ok (.invokespecial 9, 3) := by decide +kernel
theorem dk_K_init_23 : decode prog_1_method_1_code 23 = .ok (.putfield 16, 3) := by decide +kernel
theorem dk_K_init_26 : decode prog_1_method_1_code 26 = .ok (.aload_n 0, 1) := by decide +kernel
theorem dk_K_init_27 : decode prog_1_method_1_code 27 = .ok (.bipush 8, 2) := by decide +kernel
theorem dk_K_init_29 : decode prog_1_method_1_code 29 = .ok (.anewarray 19, 3) := by decide +kernel
theorem dk_K_init_32 : decode prog_1_method_1_code 32 = .ok (.putfield 21, 3) := by decide +kernel
theorem dk_K_init_35 : decode prog_1_method_1_code 35 = .ok (.iconst 0, 1) := by decide +kernel
theorem dk_K_init_36 : decode prog_1_method_1_code 36 = .ok (.istore_n 1, 1) := by decide +kernel
theorem dk_K_init_37 : decode prog_1_method_1_code 37 = .ok (.iload_n 1, 1) := by decide +kernel
theorem dk_K_init_38 : decode prog_1_method_1_code 38 = .ok (.bipush 8, 2) := by decide +kernel
theorem dk_K_init_40 : decode prog_1_method_1_code 40 = .ok (.if_icmp .ge 22, 3) := by decide +kernel
theorem dk_K_init_43 : decode prog_1_method_1_code 43 = .ok (.aload_n 0, 1) := by decide +kernel
theorem dk_K_init_44 : decode prog_1_method_1_code 44 = .ok (.getfield 21, 3) := by decide +kernel
theorem dk_K_init_47 : decode prog_1_method_1_code 47 = .ok (.iload_n 1, 1) := by decide +kernel
theorem dk_K_init_48 : decode prog_1_method_1_code 48 = .ok (.new 19, 3) := by decide +kernel
theorem dk_K_init_51 : decode prog_1_method_1_code 51 = .ok (.dup, 1) := by decide +kernel
theorem dk_K_init_52 : decode prog_1_method_1_code 52 = .ok (.invokespecial 25, 3) := by decide +kernel
theorem dk_K_init_55 : decode prog_1_method_1_code 55 = .ok (.aastore, 1) := by decide +kernel
theorem dk_K_init_56 : decode prog_1_method_1_code 56 = .ok (.iinc 1 1, 3) := by decide +kernel
theorem dk_K_init_59 : decode prog_1_method_1_code 59 = .ok (.goto (-22), 3) := by decide +kernel
theorem dk_K_init_62 : decode prog_1_method_1_code 62 = .ok (.aload_n 0, 1) := by decide +kernel
theorem dk_K_init_63 : decode prog_1_method_1_code 63 = .ok (.new 26, 3) := by decide +kernel
theorem dk_K_init_66 : decode prog_1_method_1_code 66 = .ok (.dup, 1) := by decide +kernel
theorem dk_K_init_67 : decode prog_1_method_1_code 67 = .ok (.invokespecial 28, 3) := by decide +kernel
theorem dk_K_init_70 : decode prog_1_method_1_code 70 = .ok (.putfield 29, 3) := by decide +kernel
theorem dk_K_init_73 : decode prog_1_method_1_code 73 = .ok (.aload_n 0, 1) := by decide +kernel
theorem dk_K_init_74 : decode prog_1_method_1_code 74 = .ok (.new 33, 3) := by decide +kernel
theorem dk_K_init_77 : decode prog_1_method_1_code 77 = .ok (.dup, 1) := by decide +kernel
theorem dk_K_init_78 : decode prog_1_method_1_code 78 = .ok (.invokespecial 35, 3) := by decide +kernel
theorem dk_K_init_81 : decode prog_1_method_1_code 81 = .ok (.putfield 36, 3) := by decide +kernel
theorem dk_K_init_84 : decode prog_1_method_1_code 84 = .ok (.aload_n 0, 1) := by decide +kernel
theorem dk_K_init_85 : decode prog_1_method_1_code 85 = .ok (.new 40, 3) := by decide +kernel
theorem dk_K_init_88 : decode prog_1_method_1_code 88 = .ok (.dup, 1) := by decide +kernel
theorem dk_K_init_89 : decode prog_1_method_1_code 89 = .ok (.invokespecial 42, 3) := by decide +kernel
theorem dk_K_init_92 : decode prog_1_method_1_code 92 = .ok (.putfield 43, 3) := by decide +kernel
theorem dk_K_init_95 : decode prog_1_method_1_code 95 = .ok (.aload_n 0, 1) := by decide +kernel
theorem dk_K_init_96 : decode prog_1_method_1_code 96 = .ok (.new 47, 3) := by decide +kernel
theorem dk_K_init_99 : decode prog_1_method_1_code 99 = .ok (.dup, 1) := by decide +kernel
theorem dk_K_init_100 : decode prog_1_method_1_code 100 = .ok (.invokespecial 49, 3) := by decide +kernel
theorem dk_K_init_103 : decode prog_1_method_1_code 103 = .ok (.putfield 50, 3) := by decide +kernel
theorem dk_K_init_106 : decode prog_1_method_1_code 106 = .ok (.return_, 1) := by decide +kernel
theorem kw_95 : (Jvm.Cond.methodLink "KeptLump" (1 : Nat) ({ cls := "java/lang/Object", name := "<init>", desc := "()V" } : Jvm.MethodName)) ∈ kv_gw := List.mem_filter.mpr ⟨kv_tb1 (List.mem_of_getElem? (i := 27) (by decide +kernel)), by decide +kernel⟩
theorem kw_98 : (Jvm.Cond.classLink "KeptLump" (7 : Nat) "KeptLump$State") ∈ kv_gw := List.mem_filter.mpr ⟨kv_tb1 (List.mem_of_getElem? (i := 30) (by decide +kernel)), by decide +kernel⟩
theorem kw_99 : (Jvm.Cond.instantiable "KeptLump$State" (9 : Nat)) ∈ kv_gw := List.mem_filter.mpr ⟨kv_tb1 (List.mem_of_getElem? (i := 31) (by decide +kernel)), by decide +kernel⟩
theorem kw_102 : (Jvm.Cond.code ({ cls := "KeptLump$State", name := "<init>", desc := "()V" } : Jvm.MethodName) prog_10_method_1_code (1 : Nat) (Option.none : Option Jvm.ClassFile.FieldType)) ∈ kv_gw := List.mem_filter.mpr ⟨kv_tb1 (List.mem_of_getElem? (i := 34) (by decide +kernel)), by decide +kernel⟩
theorem kqo_State : kq_ok kM_State_init 0 := ⟨kw_70, kw_102, ⟨by decide, by decide⟩, by decide +kernel, by decide⟩
theorem kw_101 : (Jvm.Cond.instanceMethod ({ cls := "KeptLump$State", name := "<init>", desc := "()V" } : Jvm.MethodName)) ∈ kv_gw := List.mem_filter.mpr ⟨kv_tb1 (List.mem_of_getElem? (i := 33) (by decide +kernel)), by decide +kernel⟩
theorem kw_100 : (Jvm.Cond.methodLink "KeptLump" (9 : Nat) ({ cls := "KeptLump$State", name := "<init>", desc := "()V" } : Jvm.MethodName)) ∈ kv_gw := List.mem_filter.mpr ⟨kv_tb1 (List.mem_of_getElem? (i := 32) (by decide +kernel)), by decide +kernel⟩
theorem kw_292 : (Jvm.Cond.classLink "KeptLump" (19 : Nat) "KeptLump$Shelf") ∈ kv_gw := List.mem_filter.mpr ⟨kv_tb1 (List.mem_of_getElem? (i := 224) (by decide +kernel)), by decide +kernel⟩
theorem kw_294 : (Jvm.Cond.instantiable "KeptLump$Shelf" (8 : Nat)) ∈ kv_gw := List.mem_filter.mpr ⟨kv_tb1 (List.mem_of_getElem? (i := 226) (by decide +kernel)), by decide +kernel⟩
theorem kw_297 : (Jvm.Cond.code ({ cls := "KeptLump$Shelf", name := "<init>", desc := "()V" } : Jvm.MethodName) prog_9_method_1_code (1 : Nat) (Option.none : Option Jvm.ClassFile.FieldType)) ∈ kv_gw := List.mem_filter.mpr ⟨kv_tb1 (List.mem_of_getElem? (i := 229) (by decide +kernel)), by decide +kernel⟩
theorem kqo_Shelf : kq_ok kM_Shelf_init 0 := ⟨kw_76, kw_297, ⟨by decide, by decide⟩, by decide +kernel, by decide⟩
theorem kw_296 : (Jvm.Cond.instanceMethod ({ cls := "KeptLump$Shelf", name := "<init>", desc := "()V" } : Jvm.MethodName)) ∈ kv_gw := List.mem_filter.mpr ⟨kv_tb1 (List.mem_of_getElem? (i := 228) (by decide +kernel)), by decide +kernel⟩
theorem kw_295 : (Jvm.Cond.methodLinkNest "KeptLump" (25 : Nat) ({ cls := "KeptLump$Shelf", name := "<init>", desc := "()V" } : Jvm.MethodName) "KeptLump") ∈ lw_tbl := kv_tb1 (List.mem_of_getElem? (i := 227) (by decide +kernel))
theorem kw_333 : (Jvm.Cond.classLink "KeptLump" (26 : Nat) "KeptLump$Net") ∈ kv_gw := List.mem_filter.mpr ⟨kv_tb2 (List.mem_of_getElem? (i := 25) (by decide +kernel)), by decide +kernel⟩
theorem kw_334 : (Jvm.Cond.instantiable "KeptLump$Net" (6 : Nat)) ∈ kv_gw := List.mem_filter.mpr ⟨kv_tb2 (List.mem_of_getElem? (i := 26) (by decide +kernel)), by decide +kernel⟩
theorem kw_337 : (Jvm.Cond.code ({ cls := "KeptLump$Net", name := "<init>", desc := "()V" } : Jvm.MethodName) prog_6_method_1_code (1 : Nat) (Option.none : Option Jvm.ClassFile.FieldType)) ∈ kv_gw := List.mem_filter.mpr ⟨kv_tb2 (List.mem_of_getElem? (i := 29) (by decide +kernel)), by decide +kernel⟩
theorem kqo_Net : kq_ok kM_Net_init 0 := ⟨kw_77, kw_337, ⟨by decide, by decide⟩, by decide +kernel, by decide⟩
theorem kw_336 : (Jvm.Cond.instanceMethod ({ cls := "KeptLump$Net", name := "<init>", desc := "()V" } : Jvm.MethodName)) ∈ kv_gw := List.mem_filter.mpr ⟨kv_tb2 (List.mem_of_getElem? (i := 28) (by decide +kernel)), by decide +kernel⟩
theorem kw_335 : (Jvm.Cond.methodLinkNest "KeptLump" (28 : Nat) ({ cls := "KeptLump$Net", name := "<init>", desc := "()V" } : Jvm.MethodName) "KeptLump") ∈ lw_tbl := kv_tb2 (List.mem_of_getElem? (i := 27) (by decide +kernel))
theorem kw_359 : (Jvm.Cond.classLink "KeptLump" (33 : Nat) "KeptLump$LongNet") ∈ kv_gw := List.mem_filter.mpr ⟨kv_tb2 (List.mem_of_getElem? (i := 51) (by decide +kernel)), by decide +kernel⟩
theorem kw_360 : (Jvm.Cond.instantiable "KeptLump$LongNet" (6 : Nat)) ∈ kv_gw := List.mem_filter.mpr ⟨kv_tb2 (List.mem_of_getElem? (i := 52) (by decide +kernel)), by decide +kernel⟩
theorem kw_363 : (Jvm.Cond.code ({ cls := "KeptLump$LongNet", name := "<init>", desc := "()V" } : Jvm.MethodName) prog_4_method_1_code (1 : Nat) (Option.none : Option Jvm.ClassFile.FieldType)) ∈ kv_gw := List.mem_filter.mpr ⟨kv_tb2 (List.mem_of_getElem? (i := 55) (by decide +kernel)), by decide +kernel⟩
theorem kqo_LongNet : kq_ok kM_LongNet_init 0 := ⟨kw_78, kw_363, ⟨by decide, by decide⟩, by decide +kernel, by decide⟩
theorem kw_362 : (Jvm.Cond.instanceMethod ({ cls := "KeptLump$LongNet", name := "<init>", desc := "()V" } : Jvm.MethodName)) ∈ kv_gw := List.mem_filter.mpr ⟨kv_tb2 (List.mem_of_getElem? (i := 54) (by decide +kernel)), by decide +kernel⟩
theorem kw_361 : (Jvm.Cond.methodLinkNest "KeptLump" (35 : Nat) ({ cls := "KeptLump$LongNet", name := "<init>", desc := "()V" } : Jvm.MethodName) "KeptLump") ∈ lw_tbl := kv_tb2 (List.mem_of_getElem? (i := 53) (by decide +kernel))
theorem kw_385 : (Jvm.Cond.classLink "KeptLump" (40 : Nat) "KeptLump$Reader") ∈ kv_gw := List.mem_filter.mpr ⟨kv_tb2 (List.mem_of_getElem? (i := 77) (by decide +kernel)), by decide +kernel⟩
theorem kw_386 : (Jvm.Cond.instantiable "KeptLump$Reader" (13 : Nat)) ∈ kv_gw := List.mem_filter.mpr ⟨kv_tb2 (List.mem_of_getElem? (i := 78) (by decide +kernel)), by decide +kernel⟩
theorem kw_389 : (Jvm.Cond.code ({ cls := "KeptLump$Reader", name := "<init>", desc := "()V" } : Jvm.MethodName) prog_8_method_1_code (1 : Nat) (Option.none : Option Jvm.ClassFile.FieldType)) ∈ kv_gw := List.mem_filter.mpr ⟨kv_tb2 (List.mem_of_getElem? (i := 81) (by decide +kernel)), by decide +kernel⟩
theorem kqo_Reader : kq_ok kM_Reader_init 0 := ⟨kw_79, kw_389, ⟨by decide, by decide⟩, by decide +kernel, by decide⟩
theorem kw_388 : (Jvm.Cond.instanceMethod ({ cls := "KeptLump$Reader", name := "<init>", desc := "()V" } : Jvm.MethodName)) ∈ kv_gw := List.mem_filter.mpr ⟨kv_tb2 (List.mem_of_getElem? (i := 80) (by decide +kernel)), by decide +kernel⟩
theorem kw_387 : (Jvm.Cond.methodLinkNest "KeptLump" (42 : Nat) ({ cls := "KeptLump$Reader", name := "<init>", desc := "()V" } : Jvm.MethodName) "KeptLump") ∈ lw_tbl := kv_tb2 (List.mem_of_getElem? (i := 79) (by decide +kernel))
theorem kw_432 : (Jvm.Cond.classLink "KeptLump" (47 : Nat) "KeptLump$Planner") ∈ kv_gw := List.mem_filter.mpr ⟨kv_tb2 (List.mem_of_getElem? (i := 124) (by decide +kernel)), by decide +kernel⟩
theorem kw_433 : (Jvm.Cond.instantiable "KeptLump$Planner" (13 : Nat)) ∈ kv_gw := List.mem_filter.mpr ⟨kv_tb2 (List.mem_of_getElem? (i := 125) (by decide +kernel)), by decide +kernel⟩
theorem kw_436 : (Jvm.Cond.code ({ cls := "KeptLump$Planner", name := "<init>", desc := "()V" } : Jvm.MethodName) prog_7_method_1_code (1 : Nat) (Option.none : Option Jvm.ClassFile.FieldType)) ∈ kv_gw := List.mem_filter.mpr ⟨kv_tb2 (List.mem_of_getElem? (i := 128) (by decide +kernel)), by decide +kernel⟩
theorem kqo_Planner : kq_ok kM_Planner_init 0 := ⟨kw_80, kw_436, ⟨by decide, by decide⟩, by decide +kernel, by decide⟩
theorem kw_435 : (Jvm.Cond.instanceMethod ({ cls := "KeptLump$Planner", name := "<init>", desc := "()V" } : Jvm.MethodName)) ∈ kv_gw := List.mem_filter.mpr ⟨kv_tb2 (List.mem_of_getElem? (i := 127) (by decide +kernel)), by decide +kernel⟩
theorem kw_434 : (Jvm.Cond.methodLinkNest "KeptLump" (49 : Nat) ({ cls := "KeptLump$Planner", name := "<init>", desc := "()V" } : Jvm.MethodName) "KeptLump") ∈ lw_tbl := kv_tb2 (List.mem_of_getElem? (i := 126) (by decide +kernel))
def kqw_KeptLump_1 : List kq_c := ([(.inl (10, [.null, .null, .int 0, .null, .null, .null, .null, .null, .int 0]) : kq_c)]) ++ (kql_State).map (kq_sh 1)
def kqw_KeptLump_2 : List kq_c := (kqw_KeptLump_1).set 0 (.inl (10, [.ref 1, .null, .int 0, .null, .null, .null, .null, .null, .int 0]))
def kqw_KeptLump_3 : List kq_c := (kqw_KeptLump_2) ++ (kql_State).map (kq_sh 26)
def kqw_KeptLump_4 : List kq_c := (kqw_KeptLump_3).set 0 (.inl (10, [.ref 1, .ref 26, .int 0, .null, .null, .null, .null, .null, .int 0]))
def kqw_KeptLump_5 : List kq_c := (kqw_KeptLump_4 ++ [(.inr (15, 8, .inr (.inr (fun _ => none))) : kq_c)]).set 0 (.inl (10, [.ref 1, .ref 26, .int 0, .ref 51, .null, .null, .null, .null, .int 0]))
def kqw_KeptLump_6 : List kq_c := (kqw_KeptLump_5) ++ (kql_Shelf).map (kq_sh 52)
def kqw_KeptLump_7 : List kq_c := (kqw_KeptLump_6).set 51 (.inr (15, 8, .inr (.inr (va_up (fun _ => none) 0 (some 52)))))
def kqw_KeptLump_8 : List kq_c := (kqw_KeptLump_7) ++ (kql_Shelf).map (kq_sh 54)
def kqw_KeptLump_9 : List kq_c := (kqw_KeptLump_8).set 51 (.inr (15, 8, .inr (.inr (va_up (va_up (fun _ => none) 0 (some 52)) 1 (some 54)))))
def kqw_KeptLump_10 : List kq_c := (kqw_KeptLump_9) ++ (kql_Shelf).map (kq_sh 56)
def kqw_KeptLump_11 : List kq_c := (kqw_KeptLump_10).set 51 (.inr (15, 8, .inr (.inr (va_up (va_up (va_up (fun _ => none) 0 (some 52)) 1 (some 54)) 2 (some 56)))))
def kqw_KeptLump_12 : List kq_c := (kqw_KeptLump_11) ++ (kql_Shelf).map (kq_sh 58)
def kqw_KeptLump_13 : List kq_c := (kqw_KeptLump_12).set 51 (.inr (15, 8, .inr (.inr (va_up (va_up (va_up (va_up (fun _ => none) 0 (some 52)) 1 (some 54)) 2 (some 56)) 3 (some 58)))))
def kqw_KeptLump_14 : List kq_c := (kqw_KeptLump_13) ++ (kql_Shelf).map (kq_sh 60)
def kqw_KeptLump_15 : List kq_c := (kqw_KeptLump_14).set 51 (.inr (15, 8, .inr (.inr (va_up (va_up (va_up (va_up (va_up (fun _ => none) 0 (some 52)) 1 (some 54)) 2 (some 56)) 3 (some 58)) 4 (some 60)))))
def kqw_KeptLump_16 : List kq_c := (kqw_KeptLump_15) ++ (kql_Shelf).map (kq_sh 62)
def kqw_KeptLump_17 : List kq_c := (kqw_KeptLump_16).set 51 (.inr (15, 8, .inr (.inr (va_up (va_up (va_up (va_up (va_up (va_up (fun _ => none) 0 (some 52)) 1 (some 54)) 2 (some 56)) 3 (some 58)) 4 (some 60)) 5 (some 62)))))
def kqw_KeptLump_18 : List kq_c := (kqw_KeptLump_17) ++ (kql_Shelf).map (kq_sh 64)
def kqw_KeptLump_19 : List kq_c := (kqw_KeptLump_18).set 51 (.inr (15, 8, .inr (.inr (va_up (va_up (va_up (va_up (va_up (va_up (va_up (fun _ => none) 0 (some 52)) 1 (some 54)) 2 (some 56)) 3 (some 58)) 4 (some 60)) 5 (some 62)) 6 (some 64)))))
def kqw_KeptLump_20 : List kq_c := (kqw_KeptLump_19) ++ (kql_Shelf).map (kq_sh 66)
def kqw_KeptLump_21 : List kq_c := (kqw_KeptLump_20).set 51 (.inr (15, 8, .inr (.inr (va_up (va_up (va_up (va_up (va_up (va_up (va_up (va_up (fun _ => none) 0 (some 52)) 1 (some 54)) 2 (some 56)) 3 (some 58)) 4 (some 60)) 5 (some 62)) 6 (some 64)) 7 (some 66)))))
def kqw_KeptLump_22 : List kq_c := (kqw_KeptLump_21) ++ (kql_Net).map (kq_sh 68)
def kqw_KeptLump_23 : List kq_c := (kqw_KeptLump_22).set 0 (.inl (10, [.ref 1, .ref 26, .int 0, .ref 51, .ref 68, .null, .null, .null, .int 0]))
def kqw_KeptLump_24 : List kq_c := (kqw_KeptLump_23) ++ (kql_LongNet).map (kq_sh 73)
def kqw_KeptLump_25 : List kq_c := (kqw_KeptLump_24).set 0 (.inl (10, [.ref 1, .ref 26, .int 0, .ref 51, .ref 68, .ref 73, .null, .null, .int 0]))
def kqw_KeptLump_26 : List kq_c := (kqw_KeptLump_25) ++ (kql_Reader).map (kq_sh 75)
def kqw_KeptLump_27 : List kq_c := (kqw_KeptLump_26).set 0 (.inl (10, [.ref 1, .ref 26, .int 0, .ref 51, .ref 68, .ref 73, .ref 75, .null, .int 0]))
def kqw_KeptLump_28 : List kq_c := (kqw_KeptLump_27) ++ (kql_Planner).map (kq_sh 77)
def kqw_KeptLump_29 : List kq_c := (kqw_KeptLump_28).set 0 (.inl (10, [.ref 1, .ref 26, .int 0, .ref 51, .ref 68, .ref 73, .ref 75, .ref 77, .int 0]))
def kql_KeptLump : List kq_c := kqw_KeptLump_29
set_option maxRecDepth 100000 in
theorem cq_KeptLump : kq_C kM_K_init 3 83 2592 [.ref 0] ((.inl (10, [.null, .null, .int 0, .null, .null, .null, .null, .null, .int 0]) : kq_c)) kql_KeptLump := by
  refine kq_entry (by decide) (by decide) ?_
  refine kq_aload_n 0 rfl rfl dk_K_init_0 ?_
  refine kq_objInit kw_95 kw_96 kw_97 dk_K_init_1 (by decide) (by decide) rfl ?_
  refine kq_aload_n 0 rfl rfl dk_K_init_4 ?_
  refine kq_new (t := 1) (k2 := 1) (n2 := 9) (fs := [.null, .null, .null, .null, .null, .int 0, .int 0, .int 0, .int 0]) kc_8 kw_98 kw_99 kw_70 (fun _ => rfl) (by decide +kernel) rfl rfl ⟨by decide, by decide⟩ rfl (by decide) dk_K_init_5 ?_
  refine kq_dupR dk_K_init_8 ?_
  refine kq_callI (L0 := ([(.inl (10, [.null, .null, .int 0, .null, .null, .null, .null, .null, .int 0]) : kq_c)])) (e0 := ((.inl (8, [.null, .null, .null, .null, .null, .int 0, .int 0, .int 0, .int 0]) : kq_c))) (L' := kqw_KeptLump_1) (k2 := 25) (n2 := 447) (LE := kql_State) kqo_State kw_101 rfl rfl kw_100 (by decide) dk_K_init_9 ⟨by decide, by decide, rfl, rfl, by decide, by decide⟩ rfl rfl (by decide) rfl cq_State rfl ?_
  refine kq_putR (fs := [.null, .null, .int 0, .null, .null, .null, .null, .null, .int 0]) (L' := kqw_KeptLump_2) kf_K_10 (fun _ => ⟨rfl, kq_dc kc_10.2.1 rfl⟩) (by decide) (by decide) rfl (by decide) (fun _ => rfl) (fun _ => rfl) rfl dk_K_init_12 ?_
  refine kq_aload_n 0 rfl rfl dk_K_init_15 ?_
  refine kq_new (t := 26) (k2 := 26) (n2 := 456) (fs := [.null, .null, .null, .null, .null, .int 0, .int 0, .int 0, .int 0]) kc_8 kw_98 kw_99 kw_70 (fun _ => rfl) (by decide +kernel) rfl rfl ⟨by decide, by decide⟩ rfl (by decide) dk_K_init_16 ?_
  refine kq_dupR dk_K_init_19 ?_
  refine kq_callI (L0 := (kqw_KeptLump_2)) (e0 := ((.inl (8, [.null, .null, .null, .null, .null, .int 0, .int 0, .int 0, .int 0]) : kq_c))) (L' := kqw_KeptLump_3) (k2 := 50) (n2 := 894) (LE := kql_State) kqo_State kw_101 rfl rfl kw_100 (by decide) dk_K_init_20 ⟨by decide, by decide, rfl, rfl, by decide, by decide⟩ rfl rfl (by decide) rfl cq_State rfl ?_
  refine kq_putR (fs := [.ref 1, .null, .int 0, .null, .null, .null, .null, .null, .int 0]) (L' := kqw_KeptLump_4) kf_K_16 (fun _ => ⟨rfl, kq_dc kc_10.2.1 rfl⟩) (by decide) (by decide) rfl (by decide) (fun _ => rfl) (fun _ => rfl) rfl dk_K_init_23 ?_
  refine kq_aload_n 0 rfl rfl dk_K_init_26 ?_
  refine kq_bipush (v := 8) dk_K_init_27 (by decide +kernel) ?_
  refine kq_anew (N0 := 8) (t := 51) (k2 := 51) (n2 := 902) kw_292 (by decide +kernel) (by decide +kernel) (by decide) rfl rfl ⟨by decide, by decide⟩ rfl (by decide) dk_K_init_29 ?_
  refine kq_putR (fs := [.ref 1, .ref 26, .int 0, .null, .null, .null, .null, .null, .int 0]) (L' := kqw_KeptLump_5) kf_K_21 (fun _ => ⟨rfl, kq_dc kc_10.2.1 rfl⟩) (by decide) (by decide) rfl (by decide) (fun _ => rfl) (fun _ => rfl) rfl dk_K_init_32 ?_
  refine kq_iconst (v := 0) dk_K_init_35 (by decide +kernel) ?_
  refine kq_istore_n (lv' := [(1, .int 0), (0, .ref 0)]) rfl (by decide) rfl dk_K_init_36 ?_
  refine kq_iload_n 0 rfl rfl dk_K_init_37 ?_
  refine kq_bipush (v := 8) dk_K_init_38 (by decide +kernel) ?_
  refine kq_icmp_ge (tgt := 62) dk_K_init_40 (by decide) (fun h => absurd h (by decide +kernel)) (fun _ => ?_)
  refine kq_aload_n 1 rfl rfl dk_K_init_43 ?_
  refine kq_get (v := .ref 51) (fs := [.ref 1, .ref 26, .int 0, .ref 51, .null, .null, .null, .null, .int 0]) kf_K_21 (by decide) rfl rfl (fun _ _ => kq_vv (by decide)) dk_K_init_44 ?_
  refine kq_iload_n 0 rfl rfl dk_K_init_47 ?_
  refine kq_new (t := 52) (k2 := 52) (n2 := 910) (fs := [.null, .int 0, .int 0, .int 0, .int 0, .int 0, .int 0, .int 0]) kc_7 kw_292 kw_294 kw_76 (fun _ => rfl) (by decide +kernel) rfl rfl ⟨by decide, by decide⟩ rfl (by decide) dk_K_init_48 ?_
  refine kq_dupR dk_K_init_51 ?_
  refine kq_callIN (L0 := (kqw_KeptLump_5)) (e0 := ((.inl (7, [.null, .int 0, .int 0, .int 0, .int 0, .int 0, .int 0, .int 0]) : kq_c))) (L' := kqw_KeptLump_6) (k2 := 53) (n2 := 1010) (LE := kql_Shelf) kqo_Shelf kw_296 rfl rfl kw_295 (by decide) dk_K_init_52 ⟨by decide, by decide, rfl, rfl, by decide, by decide⟩ rfl rfl (by decide) rfl cq_Shelf rfl ?_
  refine kq_aast (N0 := 8) (j := 0) (L' := kqw_KeptLump_7) (by decide) (by decide) rfl rfl (by unfold vp_in; decide +kernel) (by decide +kernel) rfl dk_K_init_55 ?_
  refine kq_iinc (v2 := 1) (lv' := [(1, .int 1), (0, .ref 0)]) 0 rfl (by decide +kernel) rfl (by decide) dk_K_init_56 ?_
  refine kq_goto (tgt := 37) dk_K_init_59 (by decide) ?_
  refine kq_iload_n 0 rfl rfl dk_K_init_37 ?_
  refine kq_bipush (v := 8) dk_K_init_38 (by decide +kernel) ?_
  refine kq_icmp_ge (tgt := 62) dk_K_init_40 (by decide) (fun h => absurd h (by decide +kernel)) (fun _ => ?_)
  refine kq_aload_n 1 rfl rfl dk_K_init_43 ?_
  refine kq_get (v := .ref 51) (fs := [.ref 1, .ref 26, .int 0, .ref 51, .null, .null, .null, .null, .int 0]) kf_K_21 (by decide) rfl rfl (fun _ _ => kq_vv (by decide)) dk_K_init_44 ?_
  refine kq_iload_n 0 rfl rfl dk_K_init_47 ?_
  refine kq_new (t := 54) (k2 := 54) (n2 := 1018) (fs := [.null, .int 0, .int 0, .int 0, .int 0, .int 0, .int 0, .int 0]) kc_7 kw_292 kw_294 kw_76 (fun _ => rfl) (by decide +kernel) rfl rfl ⟨by decide, by decide⟩ rfl (by decide) dk_K_init_48 ?_
  refine kq_dupR dk_K_init_51 ?_
  refine kq_callIN (L0 := (kqw_KeptLump_7)) (e0 := ((.inl (7, [.null, .int 0, .int 0, .int 0, .int 0, .int 0, .int 0, .int 0]) : kq_c))) (L' := kqw_KeptLump_8) (k2 := 55) (n2 := 1118) (LE := kql_Shelf) kqo_Shelf kw_296 rfl rfl kw_295 (by decide) dk_K_init_52 ⟨by decide, by decide, rfl, rfl, by decide, by decide⟩ rfl rfl (by decide) rfl cq_Shelf rfl ?_
  refine kq_aast (N0 := 8) (j := 1) (L' := kqw_KeptLump_9) (by decide) (by decide) rfl rfl (by unfold vp_in; decide +kernel) (by decide +kernel) rfl dk_K_init_55 ?_
  refine kq_iinc (v2 := 2) (lv' := [(1, .int 2), (0, .ref 0)]) 0 rfl (by decide +kernel) rfl (by decide) dk_K_init_56 ?_
  refine kq_goto (tgt := 37) dk_K_init_59 (by decide) ?_
  refine kq_iload_n 0 rfl rfl dk_K_init_37 ?_
  refine kq_bipush (v := 8) dk_K_init_38 (by decide +kernel) ?_
  refine kq_icmp_ge (tgt := 62) dk_K_init_40 (by decide) (fun h => absurd h (by decide +kernel)) (fun _ => ?_)
  refine kq_aload_n 1 rfl rfl dk_K_init_43 ?_
  refine kq_get (v := .ref 51) (fs := [.ref 1, .ref 26, .int 0, .ref 51, .null, .null, .null, .null, .int 0]) kf_K_21 (by decide) rfl rfl (fun _ _ => kq_vv (by decide)) dk_K_init_44 ?_
  refine kq_iload_n 0 rfl rfl dk_K_init_47 ?_
  refine kq_new (t := 56) (k2 := 56) (n2 := 1126) (fs := [.null, .int 0, .int 0, .int 0, .int 0, .int 0, .int 0, .int 0]) kc_7 kw_292 kw_294 kw_76 (fun _ => rfl) (by decide +kernel) rfl rfl ⟨by decide, by decide⟩ rfl (by decide) dk_K_init_48 ?_
  refine kq_dupR dk_K_init_51 ?_
  refine kq_callIN (L0 := (kqw_KeptLump_9)) (e0 := ((.inl (7, [.null, .int 0, .int 0, .int 0, .int 0, .int 0, .int 0, .int 0]) : kq_c))) (L' := kqw_KeptLump_10) (k2 := 57) (n2 := 1226) (LE := kql_Shelf) kqo_Shelf kw_296 rfl rfl kw_295 (by decide) dk_K_init_52 ⟨by decide, by decide, rfl, rfl, by decide, by decide⟩ rfl rfl (by decide) rfl cq_Shelf rfl ?_
  refine kq_aast (N0 := 8) (j := 2) (L' := kqw_KeptLump_11) (by decide) (by decide) rfl rfl (by unfold vp_in; decide +kernel) (by decide +kernel) rfl dk_K_init_55 ?_
  refine kq_iinc (v2 := 3) (lv' := [(1, .int 3), (0, .ref 0)]) 0 rfl (by decide +kernel) rfl (by decide) dk_K_init_56 ?_
  refine kq_goto (tgt := 37) dk_K_init_59 (by decide) ?_
  refine kq_iload_n 0 rfl rfl dk_K_init_37 ?_
  refine kq_bipush (v := 8) dk_K_init_38 (by decide +kernel) ?_
  refine kq_icmp_ge (tgt := 62) dk_K_init_40 (by decide) (fun h => absurd h (by decide +kernel)) (fun _ => ?_)
  refine kq_aload_n 1 rfl rfl dk_K_init_43 ?_
  refine kq_get (v := .ref 51) (fs := [.ref 1, .ref 26, .int 0, .ref 51, .null, .null, .null, .null, .int 0]) kf_K_21 (by decide) rfl rfl (fun _ _ => kq_vv (by decide)) dk_K_init_44 ?_
  refine kq_iload_n 0 rfl rfl dk_K_init_47 ?_
  refine kq_new (t := 58) (k2 := 58) (n2 := 1234) (fs := [.null, .int 0, .int 0, .int 0, .int 0, .int 0, .int 0, .int 0]) kc_7 kw_292 kw_294 kw_76 (fun _ => rfl) (by decide +kernel) rfl rfl ⟨by decide, by decide⟩ rfl (by decide) dk_K_init_48 ?_
  refine kq_dupR dk_K_init_51 ?_
  refine kq_callIN (L0 := (kqw_KeptLump_11)) (e0 := ((.inl (7, [.null, .int 0, .int 0, .int 0, .int 0, .int 0, .int 0, .int 0]) : kq_c))) (L' := kqw_KeptLump_12) (k2 := 59) (n2 := 1334) (LE := kql_Shelf) kqo_Shelf kw_296 rfl rfl kw_295 (by decide) dk_K_init_52 ⟨by decide, by decide, rfl, rfl, by decide, by decide⟩ rfl rfl (by decide) rfl cq_Shelf rfl ?_
  refine kq_aast (N0 := 8) (j := 3) (L' := kqw_KeptLump_13) (by decide) (by decide) rfl rfl (by unfold vp_in; decide +kernel) (by decide +kernel) rfl dk_K_init_55 ?_
  refine kq_iinc (v2 := 4) (lv' := [(1, .int 4), (0, .ref 0)]) 0 rfl (by decide +kernel) rfl (by decide) dk_K_init_56 ?_
  refine kq_goto (tgt := 37) dk_K_init_59 (by decide) ?_
  refine kq_iload_n 0 rfl rfl dk_K_init_37 ?_
  refine kq_bipush (v := 8) dk_K_init_38 (by decide +kernel) ?_
  refine kq_icmp_ge (tgt := 62) dk_K_init_40 (by decide) (fun h => absurd h (by decide +kernel)) (fun _ => ?_)
  refine kq_aload_n 1 rfl rfl dk_K_init_43 ?_
  refine kq_get (v := .ref 51) (fs := [.ref 1, .ref 26, .int 0, .ref 51, .null, .null, .null, .null, .int 0]) kf_K_21 (by decide) rfl rfl (fun _ _ => kq_vv (by decide)) dk_K_init_44 ?_
  refine kq_iload_n 0 rfl rfl dk_K_init_47 ?_
  refine kq_new (t := 60) (k2 := 60) (n2 := 1342) (fs := [.null, .int 0, .int 0, .int 0, .int 0, .int 0, .int 0, .int 0]) kc_7 kw_292 kw_294 kw_76 (fun _ => rfl) (by decide +kernel) rfl rfl ⟨by decide, by decide⟩ rfl (by decide) dk_K_init_48 ?_
  refine kq_dupR dk_K_init_51 ?_
  refine kq_callIN (L0 := (kqw_KeptLump_13)) (e0 := ((.inl (7, [.null, .int 0, .int 0, .int 0, .int 0, .int 0, .int 0, .int 0]) : kq_c))) (L' := kqw_KeptLump_14) (k2 := 61) (n2 := 1442) (LE := kql_Shelf) kqo_Shelf kw_296 rfl rfl kw_295 (by decide) dk_K_init_52 ⟨by decide, by decide, rfl, rfl, by decide, by decide⟩ rfl rfl (by decide) rfl cq_Shelf rfl ?_
  refine kq_aast (N0 := 8) (j := 4) (L' := kqw_KeptLump_15) (by decide) (by decide) rfl rfl (by unfold vp_in; decide +kernel) (by decide +kernel) rfl dk_K_init_55 ?_
  refine kq_iinc (v2 := 5) (lv' := [(1, .int 5), (0, .ref 0)]) 0 rfl (by decide +kernel) rfl (by decide) dk_K_init_56 ?_
  refine kq_goto (tgt := 37) dk_K_init_59 (by decide) ?_
  refine kq_iload_n 0 rfl rfl dk_K_init_37 ?_
  refine kq_bipush (v := 8) dk_K_init_38 (by decide +kernel) ?_
  refine kq_icmp_ge (tgt := 62) dk_K_init_40 (by decide) (fun h => absurd h (by decide +kernel)) (fun _ => ?_)
  refine kq_aload_n 1 rfl rfl dk_K_init_43 ?_
  refine kq_get (v := .ref 51) (fs := [.ref 1, .ref 26, .int 0, .ref 51, .null, .null, .null, .null, .int 0]) kf_K_21 (by decide) rfl rfl (fun _ _ => kq_vv (by decide)) dk_K_init_44 ?_
  refine kq_iload_n 0 rfl rfl dk_K_init_47 ?_
  refine kq_new (t := 62) (k2 := 62) (n2 := 1450) (fs := [.null, .int 0, .int 0, .int 0, .int 0, .int 0, .int 0, .int 0]) kc_7 kw_292 kw_294 kw_76 (fun _ => rfl) (by decide +kernel) rfl rfl ⟨by decide, by decide⟩ rfl (by decide) dk_K_init_48 ?_
  refine kq_dupR dk_K_init_51 ?_
  refine kq_callIN (L0 := (kqw_KeptLump_15)) (e0 := ((.inl (7, [.null, .int 0, .int 0, .int 0, .int 0, .int 0, .int 0, .int 0]) : kq_c))) (L' := kqw_KeptLump_16) (k2 := 63) (n2 := 1550) (LE := kql_Shelf) kqo_Shelf kw_296 rfl rfl kw_295 (by decide) dk_K_init_52 ⟨by decide, by decide, rfl, rfl, by decide, by decide⟩ rfl rfl (by decide) rfl cq_Shelf rfl ?_
  refine kq_aast (N0 := 8) (j := 5) (L' := kqw_KeptLump_17) (by decide) (by decide) rfl rfl (by unfold vp_in; decide +kernel) (by decide +kernel) rfl dk_K_init_55 ?_
  refine kq_iinc (v2 := 6) (lv' := [(1, .int 6), (0, .ref 0)]) 0 rfl (by decide +kernel) rfl (by decide) dk_K_init_56 ?_
  refine kq_goto (tgt := 37) dk_K_init_59 (by decide) ?_
  refine kq_iload_n 0 rfl rfl dk_K_init_37 ?_
  refine kq_bipush (v := 8) dk_K_init_38 (by decide +kernel) ?_
  refine kq_icmp_ge (tgt := 62) dk_K_init_40 (by decide) (fun h => absurd h (by decide +kernel)) (fun _ => ?_)
  refine kq_aload_n 1 rfl rfl dk_K_init_43 ?_
  refine kq_get (v := .ref 51) (fs := [.ref 1, .ref 26, .int 0, .ref 51, .null, .null, .null, .null, .int 0]) kf_K_21 (by decide) rfl rfl (fun _ _ => kq_vv (by decide)) dk_K_init_44 ?_
  refine kq_iload_n 0 rfl rfl dk_K_init_47 ?_
  refine kq_new (t := 64) (k2 := 64) (n2 := 1558) (fs := [.null, .int 0, .int 0, .int 0, .int 0, .int 0, .int 0, .int 0]) kc_7 kw_292 kw_294 kw_76 (fun _ => rfl) (by decide +kernel) rfl rfl ⟨by decide, by decide⟩ rfl (by decide) dk_K_init_48 ?_
  refine kq_dupR dk_K_init_51 ?_
  refine kq_callIN (L0 := (kqw_KeptLump_17)) (e0 := ((.inl (7, [.null, .int 0, .int 0, .int 0, .int 0, .int 0, .int 0, .int 0]) : kq_c))) (L' := kqw_KeptLump_18) (k2 := 65) (n2 := 1658) (LE := kql_Shelf) kqo_Shelf kw_296 rfl rfl kw_295 (by decide) dk_K_init_52 ⟨by decide, by decide, rfl, rfl, by decide, by decide⟩ rfl rfl (by decide) rfl cq_Shelf rfl ?_
  refine kq_aast (N0 := 8) (j := 6) (L' := kqw_KeptLump_19) (by decide) (by decide) rfl rfl (by unfold vp_in; decide +kernel) (by decide +kernel) rfl dk_K_init_55 ?_
  refine kq_iinc (v2 := 7) (lv' := [(1, .int 7), (0, .ref 0)]) 0 rfl (by decide +kernel) rfl (by decide) dk_K_init_56 ?_
  refine kq_goto (tgt := 37) dk_K_init_59 (by decide) ?_
  refine kq_iload_n 0 rfl rfl dk_K_init_37 ?_
  refine kq_bipush (v := 8) dk_K_init_38 (by decide +kernel) ?_
  refine kq_icmp_ge (tgt := 62) dk_K_init_40 (by decide) (fun h => absurd h (by decide +kernel)) (fun _ => ?_)
  refine kq_aload_n 1 rfl rfl dk_K_init_43 ?_
  refine kq_get (v := .ref 51) (fs := [.ref 1, .ref 26, .int 0, .ref 51, .null, .null, .null, .null, .int 0]) kf_K_21 (by decide) rfl rfl (fun _ _ => kq_vv (by decide)) dk_K_init_44 ?_
  refine kq_iload_n 0 rfl rfl dk_K_init_47 ?_
  refine kq_new (t := 66) (k2 := 66) (n2 := 1666) (fs := [.null, .int 0, .int 0, .int 0, .int 0, .int 0, .int 0, .int 0]) kc_7 kw_292 kw_294 kw_76 (fun _ => rfl) (by decide +kernel) rfl rfl ⟨by decide, by decide⟩ rfl (by decide) dk_K_init_48 ?_
  refine kq_dupR dk_K_init_51 ?_
  refine kq_callIN (L0 := (kqw_KeptLump_19)) (e0 := ((.inl (7, [.null, .int 0, .int 0, .int 0, .int 0, .int 0, .int 0, .int 0]) : kq_c))) (L' := kqw_KeptLump_20) (k2 := 67) (n2 := 1766) (LE := kql_Shelf) kqo_Shelf kw_296 rfl rfl kw_295 (by decide) dk_K_init_52 ⟨by decide, by decide, rfl, rfl, by decide, by decide⟩ rfl rfl (by decide) rfl cq_Shelf rfl ?_
  refine kq_aast (N0 := 8) (j := 7) (L' := kqw_KeptLump_21) (by decide) (by decide) rfl rfl (by unfold vp_in; decide +kernel) (by decide +kernel) rfl dk_K_init_55 ?_
  refine kq_iinc (v2 := 8) (lv' := [(1, .int 8), (0, .ref 0)]) 0 rfl (by decide +kernel) rfl (by decide) dk_K_init_56 ?_
  refine kq_goto (tgt := 37) dk_K_init_59 (by decide) ?_
  refine kq_iload_n 0 rfl rfl dk_K_init_37 ?_
  refine kq_bipush (v := 8) dk_K_init_38 (by decide +kernel) ?_
  refine kq_icmp_ge (tgt := 62) dk_K_init_40 (by decide) (fun _ => ?_) (fun h => absurd (by decide +kernel) h)
  refine kq_aload_n 1 rfl rfl dk_K_init_62 ?_
  refine kq_new (t := 68) (k2 := 68) (n2 := 1772) (fs := [.null, .null, .null, .null, .int 0, .int 0]) kc_4 kw_333 kw_334 kw_77 (fun _ => rfl) (by decide +kernel) rfl rfl ⟨by decide, by decide⟩ rfl (by decide) dk_K_init_63 ?_
  refine kq_dupR dk_K_init_66 ?_
  refine kq_callIN (L0 := (kqw_KeptLump_21)) (e0 := ((.inl (4, [.null, .null, .null, .null, .int 0, .int 0]) : kq_c))) (L' := kqw_KeptLump_22) (k2 := 72) (n2 := 2186) (LE := kql_Net) kqo_Net kw_336 rfl rfl kw_335 (by decide) dk_K_init_67 ⟨by decide, by decide, rfl, rfl, by decide, by decide⟩ rfl rfl (by decide) rfl cq_Net rfl ?_
  refine kq_putR (fs := [.ref 1, .ref 26, .int 0, .ref 51, .null, .null, .null, .null, .int 0]) (L' := kqw_KeptLump_23) kf_K_29 (fun _ => ⟨rfl, kq_dc kc_10.2.1 rfl⟩) (by decide) (by decide) rfl (by decide) (fun _ => rfl) (fun _ => rfl) rfl dk_K_init_70 ?_
  refine kq_aload_n 1 rfl rfl dk_K_init_73 ?_
  refine kq_new (t := 73) (k2 := 73) (n2 := 2192) (fs := [.null, .int 0, .int 0, .int 0, .int 0, .int 0]) kc_2 kw_359 kw_360 kw_78 (fun _ => rfl) (by decide +kernel) rfl rfl ⟨by decide, by decide⟩ rfl (by decide) dk_K_init_74 ?_
  refine kq_dupR dk_K_init_77 ?_
  refine kq_callIN (L0 := (kqw_KeptLump_23)) (e0 := ((.inl (2, [.null, .int 0, .int 0, .int 0, .int 0, .int 0]) : kq_c))) (L' := kqw_KeptLump_24) (k2 := 74) (n2 := 2234) (LE := kql_LongNet) kqo_LongNet kw_362 rfl rfl kw_361 (by decide) dk_K_init_78 ⟨by decide, by decide, rfl, rfl, by decide, by decide⟩ rfl rfl (by decide) rfl cq_LongNet rfl ?_
  refine kq_putR (fs := [.ref 1, .ref 26, .int 0, .ref 51, .ref 68, .null, .null, .null, .int 0]) (L' := kqw_KeptLump_25) kf_K_36 (fun _ => ⟨rfl, kq_dc kc_10.2.1 rfl⟩) (by decide) (by decide) rfl (by decide) (fun _ => rfl) (fun _ => rfl) rfl dk_K_init_81 ?_
  refine kq_aload_n 1 rfl rfl dk_K_init_84 ?_
  refine kq_new (t := 75) (k2 := 75) (n2 := 2247) (fs := [.null, .int 0, .int 0, .int 0, .int 0, .int 0, .int 0, .int 0, .int 0, .int 0, .int 0, .int 0, .int 0]) kc_6 kw_385 kw_386 kw_79 (fun _ => rfl) (by decide +kernel) rfl rfl ⟨by decide, by decide⟩ rfl (by decide) dk_K_init_85 ?_
  refine kq_dupR dk_K_init_88 ?_
  refine kq_callIN (L0 := (kqw_KeptLump_25)) (e0 := ((.inl (6, [.null, .int 0, .int 0, .int 0, .int 0, .int 0, .int 0, .int 0, .int 0, .int 0, .int 0, .int 0, .int 0]) : kq_c))) (L' := kqw_KeptLump_26) (k2 := 76) (n2 := 2347) (LE := kql_Reader) kqo_Reader kw_388 rfl rfl kw_387 (by decide) dk_K_init_89 ⟨by decide, by decide, rfl, rfl, by decide, by decide⟩ rfl rfl (by decide) rfl cq_Reader rfl ?_
  refine kq_putR (fs := [.ref 1, .ref 26, .int 0, .ref 51, .ref 68, .ref 73, .null, .null, .int 0]) (L' := kqw_KeptLump_27) kf_K_43 (fun _ => ⟨rfl, kq_dc kc_10.2.1 rfl⟩) (by decide) (by decide) rfl (by decide) (fun _ => rfl) (fun _ => rfl) rfl dk_K_init_92 ?_
  refine kq_aload_n 1 rfl rfl dk_K_init_95 ?_
  refine kq_new (t := 77) (k2 := 77) (n2 := 2360) (fs := [.null, .null, .null, .null, .null, .null, .int 0, .int 0, .int 0, .int 0, .int 0, .int 0, .int 0]) kc_5 kw_432 kw_433 kw_80 (fun _ => rfl) (by decide +kernel) rfl rfl ⟨by decide, by decide⟩ rfl (by decide) dk_K_init_96 ?_
  refine kq_dupR dk_K_init_99 ?_
  refine kq_callIN (L0 := (kqw_KeptLump_27)) (e0 := ((.inl (5, [.null, .null, .null, .null, .null, .null, .int 0, .int 0, .int 0, .int 0, .int 0, .int 0, .int 0]) : kq_c))) (L' := kqw_KeptLump_28) (k2 := 83) (n2 := 2592) (LE := kql_Planner) kqo_Planner kw_435 rfl rfl kw_434 (by decide) dk_K_init_100 ⟨by decide, by decide, rfl, rfl, by decide, by decide⟩ rfl rfl (by decide) rfl cq_Planner rfl ?_
  refine kq_putR (fs := [.ref 1, .ref 26, .int 0, .ref 51, .ref 68, .ref 73, .ref 75, .null, .int 0]) (L' := kqw_KeptLump_29) kf_K_50 (fun _ => ⟨rfl, kq_dc kc_10.2.1 rfl⟩) (by decide) (by decide) rfl (by decide) (fun _ => rfl) (fun _ => rfl) rfl dk_K_init_103 ?_
  exact kq_vret rfl rfl rfl dk_K_init_106 rfl
abbrev kM_D_init : kv_MI := (⟨"KeptLumpModel", "<init>", "()V"⟩, prog_13_method_1_code, 2, none)
theorem dk_D_init_0 : decode prog_13_method_1_code 0 = .ok (.aload_n 0, 1) := by decide +kernel
theorem dk_D_init_1 : decode prog_13_method_1_code 1 = .ok (.invokespecial 1, 3) := by decide +kernel
theorem dk_D_init_4 : decode prog_13_method_1_code 4 = .ok (.aload_n 0, 1) := by decide +kernel
theorem dk_D_init_5 : decode prog_13_method_1_code 5 = .ok (.sipush 444, 3) := by decide +kernel
theorem dk_D_init_8 : decode prog_13_method_1_code 8 = .ok (.newarray .int, 2) := by decide +kernel
theorem dk_D_init_10 : decode prog_13_method_1_code 10 = .ok (.putfield 9, 3) := by decide +kernel
theorem dk_D_init_13 : decode prog_13_method_1_code 13 = .ok (.aload_n 0, 1) := by decide +kernel
theorem dk_D_init_14 : decode prog_13_method_1_code 14 = .ok (.sipush 444, 3) := by decide +kernel
theorem dk_D_init_17 : decode prog_13_method_1_code 17 = .ok (.newarray .int, 2) := by decide +kernel
theorem dk_D_init_19 : decode prog_13_method_1_code 19 = .ok (.putfield 13, 3) := by decide +kernel
theorem dk_D_init_22 : decode prog_13_method_1_code 22 = .ok (.aload_n 0, 1) := by decide +kernel
theorem dk_D_init_23 : decode prog_13_method_1_code 23 = .ok (.bipush 8, 2) := by decide +kernel
theorem dk_D_init_25 : decode prog_13_method_1_code 25 = .ok (.newarray .int, 2) := by decide +kernel
theorem dk_D_init_27 : decode prog_13_method_1_code 27 = .ok (.putfield 16, 3) := by decide +kernel
theorem dk_D_init_30 : decode prog_13_method_1_code 30 = .ok (.aload_n 0, 1) := by decide +kernel
theorem dk_D_init_31 : decode prog_13_method_1_code 31 = .ok (.bipush 8, 2) := by decide +kernel
theorem dk_D_init_33 : decode prog_13_method_1_code 33 = .ok (.newarray .int, 2) := by decide +kernel
theorem dk_D_init_35 : decode prog_13_method_1_code 35 = .ok (.putfield 19, 3) := by decide +kernel
theorem dk_D_init_38 : decode prog_13_method_1_code 38 = .ok (.aload_n 0, 1) := by decide +kernel
theorem dk_D_init_39 : decode prog_13_method_1_code 39 = .ok (.bipush 8, 2) := by decide +kernel
theorem dk_D_init_41 : decode prog_13_method_1_code 41 = .ok (.newarray .int, 2) := by decide +kernel
theorem dk_D_init_43 : decode prog_13_method_1_code 43 = .ok (.putfield 22, 3) := by decide +kernel
theorem dk_D_init_46 : decode prog_13_method_1_code 46 = .ok (.aload_n 0, 1) := by decide +kernel
theorem dk_D_init_47 : decode prog_13_method_1_code 47 = .ok (.sipush 800, 3) := by decide +kernel
theorem dk_D_init_50 : decode prog_13_method_1_code 50 = .ok (.newarray .int, 2) := by decide +kernel
theorem dk_D_init_52 : decode prog_13_method_1_code 52 = .ok (.putfield 25, 3) := by decide +kernel
theorem dk_D_init_55 : decode prog_13_method_1_code 55 = .ok (.aload_n 0, 1) := by decide +kernel
theorem dk_D_init_56 : decode prog_13_method_1_code 56 = .ok (.bipush 8, 2) := by decide +kernel
theorem dk_D_init_58 : decode prog_13_method_1_code 58 = .ok (.newarray .int, 2) := by decide +kernel
theorem dk_D_init_60 : decode prog_13_method_1_code 60 = .ok (.putfield 28, 3) := by decide +kernel
theorem dk_D_init_63 : decode prog_13_method_1_code 63 = .ok (.aload_n 0, 1) := by decide +kernel
theorem dk_D_init_64 : decode prog_13_method_1_code 64 = .ok (.bipush 8, 2) := by decide +kernel
theorem dk_D_init_66 : decode prog_13_method_1_code 66 = .ok (.newarray .int, 2) := by decide +kernel
theorem dk_D_init_68 : decode prog_13_method_1_code 68 = .ok (.putfield 31, 3) := by decide +kernel
theorem dk_D_init_71 : decode prog_13_method_1_code 71 = .ok (.aload_n 0, 1) := by decide +kernel
theorem dk_D_init_72 : decode prog_13_method_1_code 72 = .ok (.sipush 1936, 3) := by decide +kernel
theorem dk_D_init_75 : decode prog_13_method_1_code 75 = .ok (.newarray .long, 2) := by decide +kernel
theorem dk_D_init_77 : decode prog_13_method_1_code 77 = .ok (.putfield 34, 3) := by decide +kernel
theorem dk_D_init_80 : decode prog_13_method_1_code 80 = .ok (.aload_n 0, 1) := by decide +kernel
theorem dk_D_init_81 : decode prog_13_method_1_code 81 = .ok (.bipush 44, 2) := by decide +kernel
theorem dk_D_init_83 : decode prog_13_method_1_code 83 = .ok (.newarray .int, 2) := by decide +kernel
theorem dk_D_init_85 : decode prog_13_method_1_code 85 = .ok (.putfield 38, 3) := by decide +kernel
theorem dk_D_init_88 : decode prog_13_method_1_code 88 = .ok (.aload_n 0, 1) := by decide +kernel
theorem dk_D_init_89 : decode prog_13_method_1_code 89 = .ok (.bipush 44, 2) := by decide +kernel
theorem dk_D_init_91 : decode prog_13_method_1_code 91 = .ok (.newarray .int, 2) := by decide +kernel
theorem dk_D_init_93 : decode prog_13_method_1_code 93 = .ok (.putfield 41, 3) := by decide +kernel
theorem dk_D_init_96 : decode prog_13_method_1_code 96 = .ok (.aload_n 0, 1) := by decide +kernel
theorem dk_D_init_97 : decode prog_13_method_1_code 97 = .ok (.bipush (-4), 2) := by decide +kernel
theorem dk_D_init_99 : decode prog_13_method_1_code 99 = .ok (.putfield 44, 3) := by decide +kernel
theorem dk_D_init_102 : decode prog_13_method_1_code 102 = .ok (.aload_n 0, 1) := by decide +kernel
theorem dk_D_init_103 : decode prog_13_method_1_code 103 = .ok (.bipush (-4), 2) := by decide +kernel
theorem dk_D_init_105 : decode prog_13_method_1_code 105 = .ok (.putfield 48, 3) := by decide +kernel
theorem dk_D_init_108 : decode prog_13_method_1_code 108 = .ok (.aload_n 0, 1) := by decide +kernel
theorem dk_D_init_109 : decode prog_13_method_1_code 109 = .ok (.bipush (-4), 2) := by decide +kernel
theorem dk_D_init_111 : decode prog_13_method_1_code 111 = .ok (.putfield 51, 3) := by decide +kernel
theorem dk_D_init_114 : decode prog_13_method_1_code 114 = .ok (.aload_n 0, 1) := by decide +kernel
theorem dk_D_init_115 : decode prog_13_method_1_code 115 = .ok (.aload_n 0, 1) := by decide +kernel
theorem dk_D_init_116 : decode prog_13_method_1_code 116 = .ok (.getfield 25, 3) := by decide +kernel
theorem dk_D_init_119 : decode prog_13_method_1_code 119 = .ok (.putfield 54, 3) := by decide +kernel
theorem dk_D_init_122 : decode prog_13_method_1_code 122 = .ok (.aload_n 0, 1) := by decide +kernel
theorem dk_D_init_123 : decode prog_13_method_1_code 123 = .ok (.getfield 9, 3) := by decide +kernel
theorem dk_D_init_126 : decode prog_13_method_1_code 126 = .ok (.iconst 4, 1) := by decide +kernel
theorem dk_D_init_127 : decode prog_13_method_1_code 127 = .ok (.iconst 1, 1) := by decide +kernel
theorem dk_D_init_128 : decode prog_13_method_1_code 128 = .ok (.iastore, 1) := by decide +kernel
theorem dk_D_init_129 : decode prog_13_method_1_code 129 = .ok (.aload_n 0, 1) := by decide +kernel
theorem dk_D_init_130 : decode prog_13_method_1_code 130 = .ok (.getfield 9, 3) := by decide +kernel
theorem dk_D_init_133 : decode prog_13_method_1_code 133 = .ok (.iconst 5, 1) := by decide +kernel
theorem dk_D_init_134 : decode prog_13_method_1_code 134 = .ok (.bipush (-9), 2) := by decide +kernel
theorem dk_D_init_136 : decode prog_13_method_1_code 136 = .ok (.iastore, 1) := by decide +kernel
theorem dk_D_init_137 : decode prog_13_method_1_code 137 = .ok (.aload_n 0, 1) := by decide +kernel
theorem dk_D_init_138 : decode prog_13_method_1_code 138 = .ok (.getfield 9, 3) := by decide +kernel
theorem dk_D_init_141 : decode prog_13_method_1_code 141 = .ok (.bipush 6, 2) := by decide +kernel
theorem dk_D_init_143 : decode prog_13_method_1_code 143 = .ok (.bipush 9, 2) := by decide +kernel
theorem dk_D_init_145 : decode prog_13_method_1_code 145 = .ok (.iastore, 1) := by decide +kernel
theorem dk_D_init_146 : decode prog_13_method_1_code 146 = .ok (.iconst 0, 1) := by decide +kernel
theorem dk_D_init_147 : decode prog_13_method_1_code 147 = .ok (.istore_n 1, 1) := by decide +kernel
theorem dk_D_init_148 : decode prog_13_method_1_code 148 = .ok (.iload_n 1, 1) := by decide +kernel
theorem dk_D_init_149 : decode prog_13_method_1_code 149 = .ok (.iconst 4, 1) := by decide +kernel
theorem dk_D_init_150 : decode prog_13_method_1_code 150 = .ok (.if_icmp .ge 20, 3) := by decide +kernel
theorem dk_D_init_153 : decode prog_13_method_1_code 153 = .ok (.aload_n 0, 1) := by decide +kernel
theorem dk_D_init_154 : decode prog_13_method_1_code 154 = .ok (.getfield 9, 3) := by decide +kernel
theorem dk_D_init_157 : decode prog_13_method_1_code 157 = .ok (.bipush 76, 2) := by decide +kernel
theorem dk_D_init_159 : decode prog_13_method_1_code 159 = .ok (.iload_n 1, 1) := by decide +kernel
theorem dk_D_init_160 : decode prog_13_method_1_code 160 = .ok (.iadd, 1) := by decide +kernel
theorem dk_D_init_161 : decode prog_13_method_1_code 161 = .ok (.bipush 10, 2) := by decide +kernel
theorem dk_D_init_163 : decode prog_13_method_1_code 163 = .ok (.iastore, 1) := by decide +kernel
theorem dk_D_init_164 : decode prog_13_method_1_code 164 = .ok (.iinc 1 1, 3) := by decide +kernel
theorem dk_D_init_167 : decode prog_13_method_1_code 167 = .ok (.goto (-19), 3) := by decide +kernel
theorem dk_D_init_170 : decode prog_13_method_1_code 170 = .ok (.aload_n 0, 1) := by decide +kernel
theorem dk_D_init_171 : decode prog_13_method_1_code 171 = .ok (.getfield 9, 3) := by decide +kernel
theorem dk_D_init_174 : decode prog_13_method_1_code 174 = .ok (.bipush 7, 2) := by decide +kernel
theorem dk_D_init_176 : decode prog_13_method_1_code 176 = .ok (.iconst 1, 1) := by decide +kernel
theorem dk_D_init_177 : decode prog_13_method_1_code 177 = .ok (.iastore, 1) := by decide +kernel
theorem dk_D_init_178 : decode prog_13_method_1_code 178 = .ok (.aload_n 0, 1) := by decide +kernel
theorem dk_D_init_179 : decode prog_13_method_1_code 179 = .ok (.getfield 9, 3) := by decide +kernel
theorem dk_D_init_182 : decode prog_13_method_1_code 182 = .ok (.bipush 8, 2) := by decide +kernel
theorem dk_D_init_184 : decode prog_13_method_1_code 184 = .ok (.iconst 4, 1) := by decide +kernel
theorem dk_D_init_185 : decode prog_13_method_1_code 185 = .ok (.iastore, 1) := by decide +kernel
theorem dk_D_init_186 : decode prog_13_method_1_code 186 = .ok (.aload_n 0, 1) := by decide +kernel
theorem dk_D_init_187 : decode prog_13_method_1_code 187 = .ok (.getfield 9, 3) := by decide +kernel
theorem dk_D_init_190 : decode prog_13_method_1_code 190 = .ok (.sipush 240, 3) := by decide +kernel
theorem dk_D_init_193 : decode prog_13_method_1_code 193 = .ok (.bipush 48, 2) := by decide +kernel
theorem dk_D_init_195 : decode prog_13_method_1_code 195 = .ok (.iastore, 1) := by decide +kernel
theorem dk_D_init_196 : decode prog_13_method_1_code 196 = .ok (.aload_n 0, 1) := by decide +kernel
theorem dk_D_init_197 : decode prog_13_method_1_code 197 = .ok (.getfield 9, 3) := by decide +kernel
theorem dk_D_init_200 : decode prog_13_method_1_code 200 = .ok (.sipush 241, 3) := by decide +kernel
theorem dk_D_init_203 : decode prog_13_method_1_code 203 = .ok (.bipush 58, 2) := by decide +kernel
theorem dk_D_init_205 : decode prog_13_method_1_code 205 = .ok (.iastore, 1) := by decide +kernel
theorem dk_D_init_206 : decode prog_13_method_1_code 206 = .ok (.aload_n 0, 1) := by decide +kernel
theorem dk_D_init_207 : decode prog_13_method_1_code 207 = .ok (.getfield 9, 3) := by decide +kernel
theorem dk_D_init_210 : decode prog_13_method_1_code 210 = .ok (.sipush 242, 3) := by decide +kernel
theorem dk_D_init_213 : decode prog_13_method_1_code 213 = .ok (.bipush 80, 2) := by decide +kernel
theorem dk_D_init_215 : decode prog_13_method_1_code 215 = .ok (.iastore, 1) := by decide +kernel
theorem dk_D_init_216 : decode prog_13_method_1_code 216 = .ok (.aload_n 0, 1) := by decide +kernel
theorem dk_D_init_217 : decode prog_13_method_1_code 217 = .ok (.getfield 9, 3) := by decide +kernel
theorem dk_D_init_220 : decode prog_13_method_1_code 220 = .ok (.sipush 243, 3) := by decide +kernel
theorem dk_D_init_223 : decode prog_13_method_1_code 223 = .ok (.bipush 59, 2) := by decide +kernel
theorem dk_D_init_225 : decode prog_13_method_1_code 225 = .ok (.iastore, 1) := by decide +kernel
theorem dk_D_init_226 : decode prog_13_method_1_code 226 = .ok (.return_, 1) := by decide +kernel
theorem kw_1243 : (Jvm.Cond.methodLink "KeptLumpModel" (1 : Nat) ({ cls := "java/lang/Object", name := "<init>", desc := "()V" } : Jvm.MethodName)) ∈ kv_gw := List.mem_filter.mpr ⟨kv_tb5 (List.mem_of_getElem? (i := 215) (by decide +kernel)), by decide +kernel⟩
theorem kw_1320 : (Jvm.Cond.arrayClass Jvm.ClassFile.FieldType.long) ∈ kv_gw := List.mem_filter.mpr ⟨kv_tb6 (List.mem_of_getElem? (i := 52) (by decide +kernel)), by decide +kernel⟩
def kqw_KeptLumpModel_1 : List kq_c := ([(.inl (11, [.null, .null, .null, .null, .null, .null, .null, .null, .int 0, .int 0, .null, .null, .null, .int 0, .int 0, .int 0, .int 0, .int 0, .int 0, .int 0, .int 0, .int 0, .int 0, .null, .int 0]) : kq_c)] ++ [(.inr (12, 444, .inl (fun _ => 0)) : kq_c)]).set 0 (.inl (11, [.ref 1, .null, .null, .null, .null, .null, .null, .null, .int 0, .int 0, .null, .null, .null, .int 0, .int 0, .int 0, .int 0, .int 0, .int 0, .int 0, .int 0, .int 0, .int 0, .null, .int 0]))
def kqw_KeptLumpModel_2 : List kq_c := (kqw_KeptLumpModel_1 ++ [(.inr (12, 444, .inl (fun _ => 0)) : kq_c)]).set 0 (.inl (11, [.ref 1, .ref 2, .null, .null, .null, .null, .null, .null, .int 0, .int 0, .null, .null, .null, .int 0, .int 0, .int 0, .int 0, .int 0, .int 0, .int 0, .int 0, .int 0, .int 0, .null, .int 0]))
def kqw_KeptLumpModel_3 : List kq_c := (kqw_KeptLumpModel_2 ++ [(.inr (12, 8, .inl (fun _ => 0)) : kq_c)]).set 0 (.inl (11, [.ref 1, .ref 2, .ref 3, .null, .null, .null, .null, .null, .int 0, .int 0, .null, .null, .null, .int 0, .int 0, .int 0, .int 0, .int 0, .int 0, .int 0, .int 0, .int 0, .int 0, .null, .int 0]))
def kqw_KeptLumpModel_4 : List kq_c := (kqw_KeptLumpModel_3 ++ [(.inr (12, 8, .inl (fun _ => 0)) : kq_c)]).set 0 (.inl (11, [.ref 1, .ref 2, .ref 3, .ref 4, .null, .null, .null, .null, .int 0, .int 0, .null, .null, .null, .int 0, .int 0, .int 0, .int 0, .int 0, .int 0, .int 0, .int 0, .int 0, .int 0, .null, .int 0]))
def kqw_KeptLumpModel_5 : List kq_c := (kqw_KeptLumpModel_4 ++ [(.inr (12, 8, .inl (fun _ => 0)) : kq_c)]).set 0 (.inl (11, [.ref 1, .ref 2, .ref 3, .ref 4, .ref 5, .null, .null, .null, .int 0, .int 0, .null, .null, .null, .int 0, .int 0, .int 0, .int 0, .int 0, .int 0, .int 0, .int 0, .int 0, .int 0, .null, .int 0]))
def kqw_KeptLumpModel_6 : List kq_c := (kqw_KeptLumpModel_5 ++ [(.inr (12, 800, .inl (fun _ => 0)) : kq_c)]).set 0 (.inl (11, [.ref 1, .ref 2, .ref 3, .ref 4, .ref 5, .ref 6, .null, .null, .int 0, .int 0, .null, .null, .null, .int 0, .int 0, .int 0, .int 0, .int 0, .int 0, .int 0, .int 0, .int 0, .int 0, .null, .int 0]))
def kqw_KeptLumpModel_7 : List kq_c := (kqw_KeptLumpModel_6 ++ [(.inr (12, 8, .inl (fun _ => 0)) : kq_c)]).set 0 (.inl (11, [.ref 1, .ref 2, .ref 3, .ref 4, .ref 5, .ref 6, .ref 7, .null, .int 0, .int 0, .null, .null, .null, .int 0, .int 0, .int 0, .int 0, .int 0, .int 0, .int 0, .int 0, .int 0, .int 0, .null, .int 0]))
def kqw_KeptLumpModel_8 : List kq_c := (kqw_KeptLumpModel_7 ++ [(.inr (12, 8, .inl (fun _ => 0)) : kq_c)]).set 0 (.inl (11, [.ref 1, .ref 2, .ref 3, .ref 4, .ref 5, .ref 6, .ref 7, .ref 8, .int 0, .int 0, .null, .null, .null, .int 0, .int 0, .int 0, .int 0, .int 0, .int 0, .int 0, .int 0, .int 0, .int 0, .null, .int 0]))
def kqw_KeptLumpModel_9 : List kq_c := (kqw_KeptLumpModel_8 ++ [(.inr (13, 1936, .inr (.inl (fun _ => 0))) : kq_c)]).set 0 (.inl (11, [.ref 1, .ref 2, .ref 3, .ref 4, .ref 5, .ref 6, .ref 7, .ref 8, .int 0, .int 0, .ref 9, .null, .null, .int 0, .int 0, .int 0, .int 0, .int 0, .int 0, .int 0, .int 0, .int 0, .int 0, .null, .int 0]))
def kqw_KeptLumpModel_10 : List kq_c := (kqw_KeptLumpModel_9 ++ [(.inr (12, 44, .inl (fun _ => 0)) : kq_c)]).set 0 (.inl (11, [.ref 1, .ref 2, .ref 3, .ref 4, .ref 5, .ref 6, .ref 7, .ref 8, .int 0, .int 0, .ref 9, .ref 10, .null, .int 0, .int 0, .int 0, .int 0, .int 0, .int 0, .int 0, .int 0, .int 0, .int 0, .null, .int 0]))
def kqw_KeptLumpModel_11 : List kq_c := (kqw_KeptLumpModel_10 ++ [(.inr (12, 44, .inl (fun _ => 0)) : kq_c)]).set 0 (.inl (11, [.ref 1, .ref 2, .ref 3, .ref 4, .ref 5, .ref 6, .ref 7, .ref 8, .int 0, .int 0, .ref 9, .ref 10, .ref 11, .int 0, .int 0, .int 0, .int 0, .int 0, .int 0, .int 0, .int 0, .int 0, .int 0, .null, .int 0]))
def kqw_KeptLumpModel_12 : List kq_c := (kqw_KeptLumpModel_11).set 0 (.inl (11, [.ref 1, .ref 2, .ref 3, .ref 4, .ref 5, .ref 6, .ref 7, .ref 8, .int 0, .int 0, .ref 9, .ref 10, .ref 11, .int 0, .int (-4), .int 0, .int 0, .int 0, .int 0, .int 0, .int 0, .int 0, .int 0, .null, .int 0]))
def kqw_KeptLumpModel_13 : List kq_c := (kqw_KeptLumpModel_12).set 0 (.inl (11, [.ref 1, .ref 2, .ref 3, .ref 4, .ref 5, .ref 6, .ref 7, .ref 8, .int 0, .int 0, .ref 9, .ref 10, .ref 11, .int 0, .int (-4), .int (-4), .int 0, .int 0, .int 0, .int 0, .int 0, .int 0, .int 0, .null, .int 0]))
def kqw_KeptLumpModel_14 : List kq_c := (kqw_KeptLumpModel_13).set 0 (.inl (11, [.ref 1, .ref 2, .ref 3, .ref 4, .ref 5, .ref 6, .ref 7, .ref 8, .int 0, .int 0, .ref 9, .ref 10, .ref 11, .int 0, .int (-4), .int (-4), .int 0, .int (-4), .int 0, .int 0, .int 0, .int 0, .int 0, .null, .int 0]))
def kqw_KeptLumpModel_15 : List kq_c := (kqw_KeptLumpModel_14).set 0 (.inl (11, [.ref 1, .ref 2, .ref 3, .ref 4, .ref 5, .ref 6, .ref 7, .ref 8, .int 0, .int 0, .ref 9, .ref 10, .ref 11, .int 0, .int (-4), .int (-4), .int 0, .int (-4), .int 0, .int 0, .int 0, .int 0, .int 0, .ref 6, .int 0]))
def kqw_KeptLumpModel_16 : List kq_c := (kqw_KeptLumpModel_15).set 1 (.inr (12, 444, .inl (upd (fun _ => 0) 4 1)))
def kqw_KeptLumpModel_17 : List kq_c := (kqw_KeptLumpModel_16).set 1 (.inr (12, 444, .inl (upd (upd (fun _ => 0) 4 1) 5 (-9))))
def kqw_KeptLumpModel_18 : List kq_c := (kqw_KeptLumpModel_17).set 1 (.inr (12, 444, .inl (upd (upd (upd (fun _ => 0) 4 1) 5 (-9)) 6 9)))
def kqw_KeptLumpModel_19 : List kq_c := (kqw_KeptLumpModel_18).set 1 (.inr (12, 444, .inl (upd (upd (upd (upd (fun _ => 0) 4 1) 5 (-9)) 6 9) 76 10)))
def kqw_KeptLumpModel_20 : List kq_c := (kqw_KeptLumpModel_19).set 1 (.inr (12, 444, .inl (upd (upd (upd (upd (upd (fun _ => 0) 4 1) 5 (-9)) 6 9) 76 10) 77 10)))
def kqw_KeptLumpModel_21 : List kq_c := (kqw_KeptLumpModel_20).set 1 (.inr (12, 444, .inl (upd (upd (upd (upd (upd (upd (fun _ => 0) 4 1) 5 (-9)) 6 9) 76 10) 77 10) 78 10)))
def kqw_KeptLumpModel_22 : List kq_c := (kqw_KeptLumpModel_21).set 1 (.inr (12, 444, .inl (upd (upd (upd (upd (upd (upd (upd (fun _ => 0) 4 1) 5 (-9)) 6 9) 76 10) 77 10) 78 10) 79 10)))
def kqw_KeptLumpModel_23 : List kq_c := (kqw_KeptLumpModel_22).set 1 (.inr (12, 444, .inl (upd (upd (upd (upd (upd (upd (upd (upd (fun _ => 0) 4 1) 5 (-9)) 6 9) 76 10) 77 10) 78 10) 79 10) 7 1)))
def kqw_KeptLumpModel_24 : List kq_c := (kqw_KeptLumpModel_23).set 1 (.inr (12, 444, .inl (upd (upd (upd (upd (upd (upd (upd (upd (upd (fun _ => 0) 4 1) 5 (-9)) 6 9) 76 10) 77 10) 78 10) 79 10) 7 1) 8 4)))
def kqw_KeptLumpModel_25 : List kq_c := (kqw_KeptLumpModel_24).set 1 (.inr (12, 444, .inl (upd (upd (upd (upd (upd (upd (upd (upd (upd (upd (fun _ => 0) 4 1) 5 (-9)) 6 9) 76 10) 77 10) 78 10) 79 10) 7 1) 8 4) 240 48)))
def kqw_KeptLumpModel_26 : List kq_c := (kqw_KeptLumpModel_25).set 1 (.inr (12, 444, .inl (upd (upd (upd (upd (upd (upd (upd (upd (upd (upd (upd (fun _ => 0) 4 1) 5 (-9)) 6 9) 76 10) 77 10) 78 10) 79 10) 7 1) 8 4) 240 48) 241 58)))
def kqw_KeptLumpModel_27 : List kq_c := (kqw_KeptLumpModel_26).set 1 (.inr (12, 444, .inl (upd (upd (upd (upd (upd (upd (upd (upd (upd (upd (upd (upd (fun _ => 0) 4 1) 5 (-9)) 6 9) 76 10) 77 10) 78 10) 79 10) 7 1) 8 4) 240 48) 241 58) 242 80)))
def kqw_KeptLumpModel_28 : List kq_c := (kqw_KeptLumpModel_27).set 1 (.inr (12, 444, .inl (upd (upd (upd (upd (upd (upd (upd (upd (upd (upd (upd (upd (upd (fun _ => 0) 4 1) 5 (-9)) 6 9) 76 10) 77 10) 78 10) 79 10) 7 1) 8 4) 240 48) 241 58) 242 80) 243 59)))
def kql_KeptLumpModel : List kq_c := kqw_KeptLumpModel_28
set_option maxRecDepth 100000 in
theorem cq_KeptLumpModel : kq_C kM_D_init 1 11 3752 [.ref 0] ((.inl (11, [.null, .null, .null, .null, .null, .null, .null, .null, .int 0, .int 0, .null, .null, .null, .int 0, .int 0, .int 0, .int 0, .int 0, .int 0, .int 0, .int 0, .int 0, .int 0, .null, .int 0]) : kq_c)) kql_KeptLumpModel := by
  refine kq_entry (by decide) (by decide) ?_
  refine kq_aload_n 0 rfl rfl dk_D_init_0 ?_
  refine kq_objInit kw_1243 kw_96 kw_97 dk_D_init_1 (by decide) (by decide) rfl ?_
  refine kq_aload_n 0 rfl rfl dk_D_init_4 ?_
  refine kq_sipush (v := 444) dk_D_init_5 (by decide +kernel) ?_
  refine kq_newI (N0 := 444) (t := 1) (k2 := 1) (n2 := 444) kw_150 (by decide +kernel) (by decide +kernel) (by decide) rfl rfl ⟨by decide, by decide⟩ rfl (by decide) dk_D_init_8 ?_
  refine kq_putR (fs := [.null, .null, .null, .null, .null, .null, .null, .null, .int 0, .int 0, .null, .null, .null, .int 0, .int 0, .int 0, .int 0, .int 0, .int 0, .int 0, .int 0, .int 0, .int 0, .null, .int 0]) (L' := kqw_KeptLumpModel_1) kf_D_9 (fun _ => ⟨rfl, kq_dc kc_11.2.1 rfl⟩) (by decide) (by decide) rfl (by decide) (fun _ => rfl) (fun _ => rfl) rfl dk_D_init_10 ?_
  refine kq_aload_n 0 rfl rfl dk_D_init_13 ?_
  refine kq_sipush (v := 444) dk_D_init_14 (by decide +kernel) ?_
  refine kq_newI (N0 := 444) (t := 2) (k2 := 2) (n2 := 888) kw_150 (by decide +kernel) (by decide +kernel) (by decide) rfl rfl ⟨by decide, by decide⟩ rfl (by decide) dk_D_init_17 ?_
  refine kq_putR (fs := [.ref 1, .null, .null, .null, .null, .null, .null, .null, .int 0, .int 0, .null, .null, .null, .int 0, .int 0, .int 0, .int 0, .int 0, .int 0, .int 0, .int 0, .int 0, .int 0, .null, .int 0]) (L' := kqw_KeptLumpModel_2) kf_D_13 (fun _ => ⟨rfl, kq_dc kc_11.2.1 rfl⟩) (by decide) (by decide) rfl (by decide) (fun _ => rfl) (fun _ => rfl) rfl dk_D_init_19 ?_
  refine kq_aload_n 0 rfl rfl dk_D_init_22 ?_
  refine kq_bipush (v := 8) dk_D_init_23 (by decide +kernel) ?_
  refine kq_newI (N0 := 8) (t := 3) (k2 := 3) (n2 := 896) kw_150 (by decide +kernel) (by decide +kernel) (by decide) rfl rfl ⟨by decide, by decide⟩ rfl (by decide) dk_D_init_25 ?_
  refine kq_putR (fs := [.ref 1, .ref 2, .null, .null, .null, .null, .null, .null, .int 0, .int 0, .null, .null, .null, .int 0, .int 0, .int 0, .int 0, .int 0, .int 0, .int 0, .int 0, .int 0, .int 0, .null, .int 0]) (L' := kqw_KeptLumpModel_3) kf_D_16 (fun _ => ⟨rfl, kq_dc kc_11.2.1 rfl⟩) (by decide) (by decide) rfl (by decide) (fun _ => rfl) (fun _ => rfl) rfl dk_D_init_27 ?_
  refine kq_aload_n 0 rfl rfl dk_D_init_30 ?_
  refine kq_bipush (v := 8) dk_D_init_31 (by decide +kernel) ?_
  refine kq_newI (N0 := 8) (t := 4) (k2 := 4) (n2 := 904) kw_150 (by decide +kernel) (by decide +kernel) (by decide) rfl rfl ⟨by decide, by decide⟩ rfl (by decide) dk_D_init_33 ?_
  refine kq_putR (fs := [.ref 1, .ref 2, .ref 3, .null, .null, .null, .null, .null, .int 0, .int 0, .null, .null, .null, .int 0, .int 0, .int 0, .int 0, .int 0, .int 0, .int 0, .int 0, .int 0, .int 0, .null, .int 0]) (L' := kqw_KeptLumpModel_4) kf_D_19 (fun _ => ⟨rfl, kq_dc kc_11.2.1 rfl⟩) (by decide) (by decide) rfl (by decide) (fun _ => rfl) (fun _ => rfl) rfl dk_D_init_35 ?_
  refine kq_aload_n 0 rfl rfl dk_D_init_38 ?_
  refine kq_bipush (v := 8) dk_D_init_39 (by decide +kernel) ?_
  refine kq_newI (N0 := 8) (t := 5) (k2 := 5) (n2 := 912) kw_150 (by decide +kernel) (by decide +kernel) (by decide) rfl rfl ⟨by decide, by decide⟩ rfl (by decide) dk_D_init_41 ?_
  refine kq_putR (fs := [.ref 1, .ref 2, .ref 3, .ref 4, .null, .null, .null, .null, .int 0, .int 0, .null, .null, .null, .int 0, .int 0, .int 0, .int 0, .int 0, .int 0, .int 0, .int 0, .int 0, .int 0, .null, .int 0]) (L' := kqw_KeptLumpModel_5) kf_D_22 (fun _ => ⟨rfl, kq_dc kc_11.2.1 rfl⟩) (by decide) (by decide) rfl (by decide) (fun _ => rfl) (fun _ => rfl) rfl dk_D_init_43 ?_
  refine kq_aload_n 0 rfl rfl dk_D_init_46 ?_
  refine kq_sipush (v := 800) dk_D_init_47 (by decide +kernel) ?_
  refine kq_newI (N0 := 800) (t := 6) (k2 := 6) (n2 := 1712) kw_150 (by decide +kernel) (by decide +kernel) (by decide) rfl rfl ⟨by decide, by decide⟩ rfl (by decide) dk_D_init_50 ?_
  refine kq_putR (fs := [.ref 1, .ref 2, .ref 3, .ref 4, .ref 5, .null, .null, .null, .int 0, .int 0, .null, .null, .null, .int 0, .int 0, .int 0, .int 0, .int 0, .int 0, .int 0, .int 0, .int 0, .int 0, .null, .int 0]) (L' := kqw_KeptLumpModel_6) kf_D_25 (fun _ => ⟨rfl, kq_dc kc_11.2.1 rfl⟩) (by decide) (by decide) rfl (by decide) (fun _ => rfl) (fun _ => rfl) rfl dk_D_init_52 ?_
  refine kq_aload_n 0 rfl rfl dk_D_init_55 ?_
  refine kq_bipush (v := 8) dk_D_init_56 (by decide +kernel) ?_
  refine kq_newI (N0 := 8) (t := 7) (k2 := 7) (n2 := 1720) kw_150 (by decide +kernel) (by decide +kernel) (by decide) rfl rfl ⟨by decide, by decide⟩ rfl (by decide) dk_D_init_58 ?_
  refine kq_putR (fs := [.ref 1, .ref 2, .ref 3, .ref 4, .ref 5, .ref 6, .null, .null, .int 0, .int 0, .null, .null, .null, .int 0, .int 0, .int 0, .int 0, .int 0, .int 0, .int 0, .int 0, .int 0, .int 0, .null, .int 0]) (L' := kqw_KeptLumpModel_7) kf_D_28 (fun _ => ⟨rfl, kq_dc kc_11.2.1 rfl⟩) (by decide) (by decide) rfl (by decide) (fun _ => rfl) (fun _ => rfl) rfl dk_D_init_60 ?_
  refine kq_aload_n 0 rfl rfl dk_D_init_63 ?_
  refine kq_bipush (v := 8) dk_D_init_64 (by decide +kernel) ?_
  refine kq_newI (N0 := 8) (t := 8) (k2 := 8) (n2 := 1728) kw_150 (by decide +kernel) (by decide +kernel) (by decide) rfl rfl ⟨by decide, by decide⟩ rfl (by decide) dk_D_init_66 ?_
  refine kq_putR (fs := [.ref 1, .ref 2, .ref 3, .ref 4, .ref 5, .ref 6, .ref 7, .null, .int 0, .int 0, .null, .null, .null, .int 0, .int 0, .int 0, .int 0, .int 0, .int 0, .int 0, .int 0, .int 0, .int 0, .null, .int 0]) (L' := kqw_KeptLumpModel_8) kf_D_31 (fun _ => ⟨rfl, kq_dc kc_11.2.1 rfl⟩) (by decide) (by decide) rfl (by decide) (fun _ => rfl) (fun _ => rfl) rfl dk_D_init_68 ?_
  refine kq_aload_n 0 rfl rfl dk_D_init_71 ?_
  refine kq_sipush (v := 1936) dk_D_init_72 (by decide +kernel) ?_
  refine kq_newJ (N0 := 1936) (t := 9) (k2 := 9) (n2 := 3664) kw_1320 (by decide +kernel) (by decide +kernel) (by decide) rfl rfl ⟨by decide, by decide⟩ rfl (by decide) dk_D_init_75 ?_
  refine kq_putR (fs := [.ref 1, .ref 2, .ref 3, .ref 4, .ref 5, .ref 6, .ref 7, .ref 8, .int 0, .int 0, .null, .null, .null, .int 0, .int 0, .int 0, .int 0, .int 0, .int 0, .int 0, .int 0, .int 0, .int 0, .null, .int 0]) (L' := kqw_KeptLumpModel_9) kf_D_34 (fun _ => ⟨rfl, kq_dc kc_11.2.1 rfl⟩) (by decide) (by decide) rfl (by decide) (fun _ => rfl) (fun _ => rfl) rfl dk_D_init_77 ?_
  refine kq_aload_n 0 rfl rfl dk_D_init_80 ?_
  refine kq_bipush (v := 44) dk_D_init_81 (by decide +kernel) ?_
  refine kq_newI (N0 := 44) (t := 10) (k2 := 10) (n2 := 3708) kw_150 (by decide +kernel) (by decide +kernel) (by decide) rfl rfl ⟨by decide, by decide⟩ rfl (by decide) dk_D_init_83 ?_
  refine kq_putR (fs := [.ref 1, .ref 2, .ref 3, .ref 4, .ref 5, .ref 6, .ref 7, .ref 8, .int 0, .int 0, .ref 9, .null, .null, .int 0, .int 0, .int 0, .int 0, .int 0, .int 0, .int 0, .int 0, .int 0, .int 0, .null, .int 0]) (L' := kqw_KeptLumpModel_10) kf_D_38 (fun _ => ⟨rfl, kq_dc kc_11.2.1 rfl⟩) (by decide) (by decide) rfl (by decide) (fun _ => rfl) (fun _ => rfl) rfl dk_D_init_85 ?_
  refine kq_aload_n 0 rfl rfl dk_D_init_88 ?_
  refine kq_bipush (v := 44) dk_D_init_89 (by decide +kernel) ?_
  refine kq_newI (N0 := 44) (t := 11) (k2 := 11) (n2 := 3752) kw_150 (by decide +kernel) (by decide +kernel) (by decide) rfl rfl ⟨by decide, by decide⟩ rfl (by decide) dk_D_init_91 ?_
  refine kq_putR (fs := [.ref 1, .ref 2, .ref 3, .ref 4, .ref 5, .ref 6, .ref 7, .ref 8, .int 0, .int 0, .ref 9, .ref 10, .null, .int 0, .int 0, .int 0, .int 0, .int 0, .int 0, .int 0, .int 0, .int 0, .int 0, .null, .int 0]) (L' := kqw_KeptLumpModel_11) kf_D_41 (fun _ => ⟨rfl, kq_dc kc_11.2.1 rfl⟩) (by decide) (by decide) rfl (by decide) (fun _ => rfl) (fun _ => rfl) rfl dk_D_init_93 ?_
  refine kq_aload_n 0 rfl rfl dk_D_init_96 ?_
  refine kq_bipush (v := (-4)) dk_D_init_97 (by decide +kernel) ?_
  refine kq_putI (fs := [.ref 1, .ref 2, .ref 3, .ref 4, .ref 5, .ref 6, .ref 7, .ref 8, .int 0, .int 0, .ref 9, .ref 10, .ref 11, .int 0, .int 0, .int 0, .int 0, .int 0, .int 0, .int 0, .int 0, .int 0, .int 0, .null, .int 0]) (L' := kqw_KeptLumpModel_12) kf_D_44 (by decide) rfl (by decide) rfl rfl rfl dk_D_init_99 ?_
  refine kq_aload_n 0 rfl rfl dk_D_init_102 ?_
  refine kq_bipush (v := (-4)) dk_D_init_103 (by decide +kernel) ?_
  refine kq_putI (fs := [.ref 1, .ref 2, .ref 3, .ref 4, .ref 5, .ref 6, .ref 7, .ref 8, .int 0, .int 0, .ref 9, .ref 10, .ref 11, .int 0, .int (-4), .int 0, .int 0, .int 0, .int 0, .int 0, .int 0, .int 0, .int 0, .null, .int 0]) (L' := kqw_KeptLumpModel_13) kf_D_48 (by decide) rfl (by decide) rfl rfl rfl dk_D_init_105 ?_
  refine kq_aload_n 0 rfl rfl dk_D_init_108 ?_
  refine kq_bipush (v := (-4)) dk_D_init_109 (by decide +kernel) ?_
  refine kq_putI (fs := [.ref 1, .ref 2, .ref 3, .ref 4, .ref 5, .ref 6, .ref 7, .ref 8, .int 0, .int 0, .ref 9, .ref 10, .ref 11, .int 0, .int (-4), .int (-4), .int 0, .int 0, .int 0, .int 0, .int 0, .int 0, .int 0, .null, .int 0]) (L' := kqw_KeptLumpModel_14) kf_D_51 (by decide) rfl (by decide) rfl rfl rfl dk_D_init_111 ?_
  refine kq_aload_n 0 rfl rfl dk_D_init_114 ?_
  refine kq_aload_n 0 rfl rfl dk_D_init_115 ?_
  refine kq_get (v := .ref 6) (fs := [.ref 1, .ref 2, .ref 3, .ref 4, .ref 5, .ref 6, .ref 7, .ref 8, .int 0, .int 0, .ref 9, .ref 10, .ref 11, .int 0, .int (-4), .int (-4), .int 0, .int (-4), .int 0, .int 0, .int 0, .int 0, .int 0, .null, .int 0]) kf_D_25 (by decide) rfl rfl (fun _ _ => kq_vv (by decide)) dk_D_init_116 ?_
  refine kq_putR (fs := [.ref 1, .ref 2, .ref 3, .ref 4, .ref 5, .ref 6, .ref 7, .ref 8, .int 0, .int 0, .ref 9, .ref 10, .ref 11, .int 0, .int (-4), .int (-4), .int 0, .int (-4), .int 0, .int 0, .int 0, .int 0, .int 0, .null, .int 0]) (L' := kqw_KeptLumpModel_15) kf_D_54 (fun h => by cases h) (by decide) (by decide) rfl (by decide) (fun _ => rfl) (fun _ => rfl) rfl dk_D_init_119 ?_
  refine kq_aload_n 0 rfl rfl dk_D_init_122 ?_
  refine kq_get (v := .ref 1) (fs := [.ref 1, .ref 2, .ref 3, .ref 4, .ref 5, .ref 6, .ref 7, .ref 8, .int 0, .int 0, .ref 9, .ref 10, .ref 11, .int 0, .int (-4), .int (-4), .int 0, .int (-4), .int 0, .int 0, .int 0, .int 0, .int 0, .ref 6, .int 0]) kf_D_9 (by decide) rfl rfl (fun _ _ => kq_vv (by decide)) dk_D_init_123 ?_
  refine kq_iconst (v := 4) dk_D_init_126 (by decide +kernel) ?_
  refine kq_iconst (v := 1) dk_D_init_127 (by decide +kernel) ?_
  refine kq_iast (N0 := 444) (j := 4) (L' := kqw_KeptLumpModel_16) (by decide) rfl (by unfold vp_in; decide +kernel) (by decide +kernel) rfl dk_D_init_128 ?_
  refine kq_aload_n 0 rfl rfl dk_D_init_129 ?_
  refine kq_get (v := .ref 1) (fs := [.ref 1, .ref 2, .ref 3, .ref 4, .ref 5, .ref 6, .ref 7, .ref 8, .int 0, .int 0, .ref 9, .ref 10, .ref 11, .int 0, .int (-4), .int (-4), .int 0, .int (-4), .int 0, .int 0, .int 0, .int 0, .int 0, .ref 6, .int 0]) kf_D_9 (by decide) rfl rfl (fun _ _ => kq_vv (by decide)) dk_D_init_130 ?_
  refine kq_iconst (v := 5) dk_D_init_133 (by decide +kernel) ?_
  refine kq_bipush (v := (-9)) dk_D_init_134 (by decide +kernel) ?_
  refine kq_iast (N0 := 444) (j := 5) (L' := kqw_KeptLumpModel_17) (by decide) rfl (by unfold vp_in; decide +kernel) (by decide +kernel) rfl dk_D_init_136 ?_
  refine kq_aload_n 0 rfl rfl dk_D_init_137 ?_
  refine kq_get (v := .ref 1) (fs := [.ref 1, .ref 2, .ref 3, .ref 4, .ref 5, .ref 6, .ref 7, .ref 8, .int 0, .int 0, .ref 9, .ref 10, .ref 11, .int 0, .int (-4), .int (-4), .int 0, .int (-4), .int 0, .int 0, .int 0, .int 0, .int 0, .ref 6, .int 0]) kf_D_9 (by decide) rfl rfl (fun _ _ => kq_vv (by decide)) dk_D_init_138 ?_
  refine kq_bipush (v := 6) dk_D_init_141 (by decide +kernel) ?_
  refine kq_bipush (v := 9) dk_D_init_143 (by decide +kernel) ?_
  refine kq_iast (N0 := 444) (j := 6) (L' := kqw_KeptLumpModel_18) (by decide) rfl (by unfold vp_in; decide +kernel) (by decide +kernel) rfl dk_D_init_145 ?_
  refine kq_iconst (v := 0) dk_D_init_146 (by decide +kernel) ?_
  refine kq_istore_n (lv' := [(1, .int 0), (0, .ref 0)]) rfl (by decide) rfl dk_D_init_147 ?_
  refine kq_iload_n 0 rfl rfl dk_D_init_148 ?_
  refine kq_iconst (v := 4) dk_D_init_149 (by decide +kernel) ?_
  refine kq_icmp_ge (tgt := 170) dk_D_init_150 (by decide) (fun h => absurd h (by decide +kernel)) (fun _ => ?_)
  refine kq_aload_n 1 rfl rfl dk_D_init_153 ?_
  refine kq_get (v := .ref 1) (fs := [.ref 1, .ref 2, .ref 3, .ref 4, .ref 5, .ref 6, .ref 7, .ref 8, .int 0, .int 0, .ref 9, .ref 10, .ref 11, .int 0, .int (-4), .int (-4), .int 0, .int (-4), .int 0, .int 0, .int 0, .int 0, .int 0, .ref 6, .int 0]) kf_D_9 (by decide) rfl rfl (fun _ _ => kq_vv (by decide)) dk_D_init_154 ?_
  refine kq_bipush (v := 76) dk_D_init_157 (by decide +kernel) ?_
  refine kq_iload_n 0 rfl rfl dk_D_init_159 ?_
  refine kq_iadd (z := 76) dk_D_init_160 (by decide +kernel) ?_
  refine kq_bipush (v := 10) dk_D_init_161 (by decide +kernel) ?_
  refine kq_iast (N0 := 444) (j := 76) (L' := kqw_KeptLumpModel_19) (by decide) rfl (by unfold vp_in; decide +kernel) (by decide +kernel) rfl dk_D_init_163 ?_
  refine kq_iinc (v2 := 1) (lv' := [(1, .int 1), (0, .ref 0)]) 0 rfl (by decide +kernel) rfl (by decide) dk_D_init_164 ?_
  refine kq_goto (tgt := 148) dk_D_init_167 (by decide) ?_
  refine kq_iload_n 0 rfl rfl dk_D_init_148 ?_
  refine kq_iconst (v := 4) dk_D_init_149 (by decide +kernel) ?_
  refine kq_icmp_ge (tgt := 170) dk_D_init_150 (by decide) (fun h => absurd h (by decide +kernel)) (fun _ => ?_)
  refine kq_aload_n 1 rfl rfl dk_D_init_153 ?_
  refine kq_get (v := .ref 1) (fs := [.ref 1, .ref 2, .ref 3, .ref 4, .ref 5, .ref 6, .ref 7, .ref 8, .int 0, .int 0, .ref 9, .ref 10, .ref 11, .int 0, .int (-4), .int (-4), .int 0, .int (-4), .int 0, .int 0, .int 0, .int 0, .int 0, .ref 6, .int 0]) kf_D_9 (by decide) rfl rfl (fun _ _ => kq_vv (by decide)) dk_D_init_154 ?_
  refine kq_bipush (v := 76) dk_D_init_157 (by decide +kernel) ?_
  refine kq_iload_n 0 rfl rfl dk_D_init_159 ?_
  refine kq_iadd (z := 77) dk_D_init_160 (by decide +kernel) ?_
  refine kq_bipush (v := 10) dk_D_init_161 (by decide +kernel) ?_
  refine kq_iast (N0 := 444) (j := 77) (L' := kqw_KeptLumpModel_20) (by decide) rfl (by unfold vp_in; decide +kernel) (by decide +kernel) rfl dk_D_init_163 ?_
  refine kq_iinc (v2 := 2) (lv' := [(1, .int 2), (0, .ref 0)]) 0 rfl (by decide +kernel) rfl (by decide) dk_D_init_164 ?_
  refine kq_goto (tgt := 148) dk_D_init_167 (by decide) ?_
  refine kq_iload_n 0 rfl rfl dk_D_init_148 ?_
  refine kq_iconst (v := 4) dk_D_init_149 (by decide +kernel) ?_
  refine kq_icmp_ge (tgt := 170) dk_D_init_150 (by decide) (fun h => absurd h (by decide +kernel)) (fun _ => ?_)
  refine kq_aload_n 1 rfl rfl dk_D_init_153 ?_
  refine kq_get (v := .ref 1) (fs := [.ref 1, .ref 2, .ref 3, .ref 4, .ref 5, .ref 6, .ref 7, .ref 8, .int 0, .int 0, .ref 9, .ref 10, .ref 11, .int 0, .int (-4), .int (-4), .int 0, .int (-4), .int 0, .int 0, .int 0, .int 0, .int 0, .ref 6, .int 0]) kf_D_9 (by decide) rfl rfl (fun _ _ => kq_vv (by decide)) dk_D_init_154 ?_
  refine kq_bipush (v := 76) dk_D_init_157 (by decide +kernel) ?_
  refine kq_iload_n 0 rfl rfl dk_D_init_159 ?_
  refine kq_iadd (z := 78) dk_D_init_160 (by decide +kernel) ?_
  refine kq_bipush (v := 10) dk_D_init_161 (by decide +kernel) ?_
  refine kq_iast (N0 := 444) (j := 78) (L' := kqw_KeptLumpModel_21) (by decide) rfl (by unfold vp_in; decide +kernel) (by decide +kernel) rfl dk_D_init_163 ?_
  refine kq_iinc (v2 := 3) (lv' := [(1, .int 3), (0, .ref 0)]) 0 rfl (by decide +kernel) rfl (by decide) dk_D_init_164 ?_
  refine kq_goto (tgt := 148) dk_D_init_167 (by decide) ?_
  refine kq_iload_n 0 rfl rfl dk_D_init_148 ?_
  refine kq_iconst (v := 4) dk_D_init_149 (by decide +kernel) ?_
  refine kq_icmp_ge (tgt := 170) dk_D_init_150 (by decide) (fun h => absurd h (by decide +kernel)) (fun _ => ?_)
  refine kq_aload_n 1 rfl rfl dk_D_init_153 ?_
  refine kq_get (v := .ref 1) (fs := [.ref 1, .ref 2, .ref 3, .ref 4, .ref 5, .ref 6, .ref 7, .ref 8, .int 0, .int 0, .ref 9, .ref 10, .ref 11, .int 0, .int (-4), .int (-4), .int 0, .int (-4), .int 0, .int 0, .int 0, .int 0, .int 0, .ref 6, .int 0]) kf_D_9 (by decide) rfl rfl (fun _ _ => kq_vv (by decide)) dk_D_init_154 ?_
  refine kq_bipush (v := 76) dk_D_init_157 (by decide +kernel) ?_
  refine kq_iload_n 0 rfl rfl dk_D_init_159 ?_
  refine kq_iadd (z := 79) dk_D_init_160 (by decide +kernel) ?_
  refine kq_bipush (v := 10) dk_D_init_161 (by decide +kernel) ?_
  refine kq_iast (N0 := 444) (j := 79) (L' := kqw_KeptLumpModel_22) (by decide) rfl (by unfold vp_in; decide +kernel) (by decide +kernel) rfl dk_D_init_163 ?_
  refine kq_iinc (v2 := 4) (lv' := [(1, .int 4), (0, .ref 0)]) 0 rfl (by decide +kernel) rfl (by decide) dk_D_init_164 ?_
  refine kq_goto (tgt := 148) dk_D_init_167 (by decide) ?_
  refine kq_iload_n 0 rfl rfl dk_D_init_148 ?_
  refine kq_iconst (v := 4) dk_D_init_149 (by decide +kernel) ?_
  refine kq_icmp_ge (tgt := 170) dk_D_init_150 (by decide) (fun _ => ?_) (fun h => absurd (by decide +kernel) h)
  refine kq_aload_n 1 rfl rfl dk_D_init_170 ?_
  refine kq_get (v := .ref 1) (fs := [.ref 1, .ref 2, .ref 3, .ref 4, .ref 5, .ref 6, .ref 7, .ref 8, .int 0, .int 0, .ref 9, .ref 10, .ref 11, .int 0, .int (-4), .int (-4), .int 0, .int (-4), .int 0, .int 0, .int 0, .int 0, .int 0, .ref 6, .int 0]) kf_D_9 (by decide) rfl rfl (fun _ _ => kq_vv (by decide)) dk_D_init_171 ?_
  refine kq_bipush (v := 7) dk_D_init_174 (by decide +kernel) ?_
  refine kq_iconst (v := 1) dk_D_init_176 (by decide +kernel) ?_
  refine kq_iast (N0 := 444) (j := 7) (L' := kqw_KeptLumpModel_23) (by decide) rfl (by unfold vp_in; decide +kernel) (by decide +kernel) rfl dk_D_init_177 ?_
  refine kq_aload_n 1 rfl rfl dk_D_init_178 ?_
  refine kq_get (v := .ref 1) (fs := [.ref 1, .ref 2, .ref 3, .ref 4, .ref 5, .ref 6, .ref 7, .ref 8, .int 0, .int 0, .ref 9, .ref 10, .ref 11, .int 0, .int (-4), .int (-4), .int 0, .int (-4), .int 0, .int 0, .int 0, .int 0, .int 0, .ref 6, .int 0]) kf_D_9 (by decide) rfl rfl (fun _ _ => kq_vv (by decide)) dk_D_init_179 ?_
  refine kq_bipush (v := 8) dk_D_init_182 (by decide +kernel) ?_
  refine kq_iconst (v := 4) dk_D_init_184 (by decide +kernel) ?_
  refine kq_iast (N0 := 444) (j := 8) (L' := kqw_KeptLumpModel_24) (by decide) rfl (by unfold vp_in; decide +kernel) (by decide +kernel) rfl dk_D_init_185 ?_
  refine kq_aload_n 1 rfl rfl dk_D_init_186 ?_
  refine kq_get (v := .ref 1) (fs := [.ref 1, .ref 2, .ref 3, .ref 4, .ref 5, .ref 6, .ref 7, .ref 8, .int 0, .int 0, .ref 9, .ref 10, .ref 11, .int 0, .int (-4), .int (-4), .int 0, .int (-4), .int 0, .int 0, .int 0, .int 0, .int 0, .ref 6, .int 0]) kf_D_9 (by decide) rfl rfl (fun _ _ => kq_vv (by decide)) dk_D_init_187 ?_
  refine kq_sipush (v := 240) dk_D_init_190 (by decide +kernel) ?_
  refine kq_bipush (v := 48) dk_D_init_193 (by decide +kernel) ?_
  refine kq_iast (N0 := 444) (j := 240) (L' := kqw_KeptLumpModel_25) (by decide) rfl (by unfold vp_in; decide +kernel) (by decide +kernel) rfl dk_D_init_195 ?_
  refine kq_aload_n 1 rfl rfl dk_D_init_196 ?_
  refine kq_get (v := .ref 1) (fs := [.ref 1, .ref 2, .ref 3, .ref 4, .ref 5, .ref 6, .ref 7, .ref 8, .int 0, .int 0, .ref 9, .ref 10, .ref 11, .int 0, .int (-4), .int (-4), .int 0, .int (-4), .int 0, .int 0, .int 0, .int 0, .int 0, .ref 6, .int 0]) kf_D_9 (by decide) rfl rfl (fun _ _ => kq_vv (by decide)) dk_D_init_197 ?_
  refine kq_sipush (v := 241) dk_D_init_200 (by decide +kernel) ?_
  refine kq_bipush (v := 58) dk_D_init_203 (by decide +kernel) ?_
  refine kq_iast (N0 := 444) (j := 241) (L' := kqw_KeptLumpModel_26) (by decide) rfl (by unfold vp_in; decide +kernel) (by decide +kernel) rfl dk_D_init_205 ?_
  refine kq_aload_n 1 rfl rfl dk_D_init_206 ?_
  refine kq_get (v := .ref 1) (fs := [.ref 1, .ref 2, .ref 3, .ref 4, .ref 5, .ref 6, .ref 7, .ref 8, .int 0, .int 0, .ref 9, .ref 10, .ref 11, .int 0, .int (-4), .int (-4), .int 0, .int (-4), .int 0, .int 0, .int 0, .int 0, .int 0, .ref 6, .int 0]) kf_D_9 (by decide) rfl rfl (fun _ _ => kq_vv (by decide)) dk_D_init_207 ?_
  refine kq_sipush (v := 242) dk_D_init_210 (by decide +kernel) ?_
  refine kq_bipush (v := 80) dk_D_init_213 (by decide +kernel) ?_
  refine kq_iast (N0 := 444) (j := 242) (L' := kqw_KeptLumpModel_27) (by decide) rfl (by unfold vp_in; decide +kernel) (by decide +kernel) rfl dk_D_init_215 ?_
  refine kq_aload_n 1 rfl rfl dk_D_init_216 ?_
  refine kq_get (v := .ref 1) (fs := [.ref 1, .ref 2, .ref 3, .ref 4, .ref 5, .ref 6, .ref 7, .ref 8, .int 0, .int 0, .ref 9, .ref 10, .ref 11, .int 0, .int (-4), .int (-4), .int 0, .int (-4), .int 0, .int 0, .int 0, .int 0, .int 0, .ref 6, .int 0]) kf_D_9 (by decide) rfl rfl (fun _ _ => kq_vv (by decide)) dk_D_init_217 ?_
  refine kq_sipush (v := 243) dk_D_init_220 (by decide +kernel) ?_
  refine kq_bipush (v := 59) dk_D_init_223 (by decide +kernel) ?_
  refine kq_iast (N0 := 444) (j := 243) (L' := kqw_KeptLumpModel_28) (by decide) rfl (by unfold vp_in; decide +kernel) (by decide +kernel) rfl dk_D_init_225 ?_
  exact kq_vret rfl rfl rfl dk_D_init_226 rfl
