theorem dk_Int_bitCount_0 : decode prog_17_method_49_code 0 = .ok (.iload_n 0, 1) := by decide +kernel
theorem dk_Int_bitCount_1 : decode prog_17_method_49_code 1 = .ok (.iload_n 0, 1) := by decide +kernel
theorem dk_Int_bitCount_2 : decode prog_17_method_49_code 2 = .ok (.iconst 1, 1) := by decide +kernel
theorem dk_Int_bitCount_3 : decode prog_17_method_49_code 3 = .ok (.iushr, 1) := by decide +kernel
theorem dk_Int_bitCount_4 : decode prog_17_method_49_code 4 = .ok (.ldc_w 265, 3) := by decide +kernel
theorem dk_Int_bitCount_7 : decode prog_17_method_49_code 7 = .ok (.iand, 1) := by decide +kernel
theorem dk_Int_bitCount_8 : decode prog_17_method_49_code 8 = .ok (.isub, 1) := by decide +kernel
theorem dk_Int_bitCount_9 : decode prog_17_method_49_code 9 = .ok (.istore_n 0, 1) := by decide +kernel
theorem dk_Int_bitCount_10 : decode prog_17_method_49_code 10 = .ok (.iload_n 0, 1) := by decide +kernel
theorem dk_Int_bitCount_11 : decode prog_17_method_49_code 11 = .ok (.ldc_w 266, 3) := by decide +kernel
theorem dk_Int_bitCount_14 : decode prog_17_method_49_code 14 = .ok (.iand, 1) := by decide +kernel
theorem dk_Int_bitCount_15 : decode prog_17_method_49_code 15 = .ok (.iload_n 0, 1) := by decide +kernel
theorem dk_Int_bitCount_16 : decode prog_17_method_49_code 16 = .ok (.iconst 2, 1) := by decide +kernel
theorem dk_Int_bitCount_17 : decode prog_17_method_49_code 17 = .ok (.iushr, 1) := by decide +kernel
theorem dk_Int_bitCount_18 : decode prog_17_method_49_code 18 = .ok (.ldc_w 266, 3) := by decide +kernel
theorem dk_Int_bitCount_21 : decode prog_17_method_49_code 21 = .ok (.iand, 1) := by decide +kernel
theorem dk_Int_bitCount_22 : decode prog_17_method_49_code 22 = .ok (.iadd, 1) := by decide +kernel
theorem dk_Int_bitCount_23 : decode prog_17_method_49_code 23 = .ok (.istore_n 0, 1) := by decide +kernel
theorem dk_Int_bitCount_24 : decode prog_17_method_49_code 24 = .ok (.iload_n 0, 1) := by decide +kernel
theorem dk_Int_bitCount_25 : decode prog_17_method_49_code 25 = .ok (.iload_n 0, 1) := by decide +kernel
theorem dk_Int_bitCount_26 : decode prog_17_method_49_code 26 = .ok (.iconst 4, 1) := by decide +kernel
theorem dk_Int_bitCount_27 : decode prog_17_method_49_code 27 = .ok (.iushr, 1) := by decide +kernel
theorem dk_Int_bitCount_28 : decode prog_17_method_49_code 28 = .ok (.iadd, 1) := by decide +kernel
theorem dk_Int_bitCount_29 : decode prog_17_method_49_code 29 = .ok (.ldc_w 267, 3) := by decide +kernel
theorem dk_Int_bitCount_32 : decode prog_17_method_49_code 32 = .ok (.iand, 1) := by decide +kernel
theorem dk_Int_bitCount_33 : decode prog_17_method_49_code 33 = .ok (.istore_n 0, 1) := by decide +kernel
theorem dk_Int_bitCount_34 : decode prog_17_method_49_code 34 = .ok (.iload_n 0, 1) := by decide +kernel
theorem dk_Int_bitCount_35 : decode prog_17_method_49_code 35 = .ok (.iload_n 0, 1) := by decide +kernel
theorem dk_Int_bitCount_36 : decode prog_17_method_49_code 36 = .ok (.bipush 8, 2) := by decide +kernel
theorem dk_Int_bitCount_38 : decode prog_17_method_49_code 38 = .ok (.iushr, 1) := by decide +kernel
theorem dk_Int_bitCount_39 : decode prog_17_method_49_code 39 = .ok (.iadd, 1) := by decide +kernel
theorem dk_Int_bitCount_40 : decode prog_17_method_49_code 40 = .ok (.istore_n 0, 1) := by decide +kernel
theorem dk_Int_bitCount_41 : decode prog_17_method_49_code 41 = .ok (.iload_n 0, 1) := by decide +kernel
theorem dk_Int_bitCount_42 : decode prog_17_method_49_code 42 = .ok (.iload_n 0, 1) := by decide +kernel
theorem dk_Int_bitCount_43 : decode prog_17_method_49_code 43 = .ok (.bipush 16, 2) := by decide +kernel
theorem dk_Int_bitCount_45 : decode prog_17_method_49_code 45 = .ok (.iushr, 1) := by decide +kernel
theorem dk_Int_bitCount_46 : decode prog_17_method_49_code 46 = .ok (.iadd, 1) := by decide +kernel
theorem dk_Int_bitCount_47 : decode prog_17_method_49_code 47 = .ok (.istore_n 0, 1) := by decide +kernel
theorem dk_Int_bitCount_48 : decode prog_17_method_49_code 48 = .ok (.iload_n 0, 1) := by decide +kernel
theorem dk_Int_bitCount_49 : decode prog_17_method_49_code 49 = .ok (.bipush 63, 2) := by decide +kernel
theorem dk_Int_bitCount_51 : decode prog_17_method_49_code 51 = .ok (.iand, 1) := by decide +kernel
theorem dk_Int_bitCount_52 : decode prog_17_method_49_code 52 = .ok (.ireturn, 1) := by decide +kernel
noncomputable def fx_Int_bitCount (p0 : Int32) : Option Int32 :=
  kv_let (p0 - (((p0.toUInt32 >>> ((1 : Int32).toUInt32 &&& Int32.toUInt32 31)).toInt32) &&& (1431655765 : Int32))) (fun v1 =>
  kv_let ((v1 &&& (858993459 : Int32)) + (((v1.toUInt32 >>> ((2 : Int32).toUInt32 &&& Int32.toUInt32 31)).toInt32) &&& (858993459 : Int32))) (fun v2 =>
  kv_let ((v2 + ((v2.toUInt32 >>> ((4 : Int32).toUInt32 &&& Int32.toUInt32 31)).toInt32)) &&& (252645135 : Int32)) (fun v3 =>
  kv_let (v3 + ((v3.toUInt32 >>> ((8 : Int32).toUInt32 &&& Int32.toUInt32 31)).toInt32)) (fun v4 =>
  kv_let (v4 + ((v4.toUInt32 >>> ((16 : Int32).toUInt32 &&& Int32.toUInt32 31)).toInt32)) (fun v5 =>
  some (v5 &&& (63 : Int32)))))))
set_option maxRecDepth 20000 in
theorem cx_Int_bitCount (d : Nat) (p0 : Int32) (c : (Nat → Nat → Int32)) (y : (Nat → Nat → Int32) × (Nat → Int64) × (Nat → Int64)) : ∀ a, fx_Int_bitCount p0 = some a → kv_C kM_Int_bitCount (d + 0) [.int p0] (c, y) (some (.int a), (c, y)) := by
  refine kv_entryX (E := fun a : Int32 => (some (.int a), (c, y))) rfl (Nat.le_of_ble_eq_true rfl) (fun o => ?_)
  unfold fx_Int_bitCount
  show kv_X _ _ _ _ _ 0 [(0, .int p0)] [] (c, y)
  refine kv_iload_n (pc := 0) 0 rfl rfl dk_Int_bitCount_0 ?_
  refine kv_iload_n (pc := 1) 0 rfl rfl dk_Int_bitCount_1 ?_
  refine kv_iconst (pc := 2) (v := (1 : Int32)) dk_Int_bitCount_2 kki_1 ?_
  refine kv_iushr (pc := 3) dk_Int_bitCount_3 ?_
  refine kv_ldcw (pc := 4) (v := (1431655765 : Int32)) kw_823 dk_Int_bitCount_4 ?_
  refine kv_iand (pc := 7) dk_Int_bitCount_7 ?_
  refine kv_isub (pc := 8) dk_Int_bitCount_8 ?_
  refine kv_letI (fun v1 => ?_)
  refine kv_istore_n (pc := 9) (lv' := [(0, .int v1)]) rfl (Nat.le_of_ble_eq_true rfl) rfl dk_Int_bitCount_9 ?_
  refine kv_iload_n (pc := 10) 0 rfl rfl dk_Int_bitCount_10 ?_
  refine kv_ldcw (pc := 11) (v := (858993459 : Int32)) kw_824 dk_Int_bitCount_11 ?_
  refine kv_iand (pc := 14) dk_Int_bitCount_14 ?_
  refine kv_iload_n (pc := 15) 0 rfl rfl dk_Int_bitCount_15 ?_
  refine kv_iconst (pc := 16) (v := (2 : Int32)) dk_Int_bitCount_16 kki_2 ?_
  refine kv_iushr (pc := 17) dk_Int_bitCount_17 ?_
  refine kv_ldcw (pc := 18) (v := (858993459 : Int32)) kw_824 dk_Int_bitCount_18 ?_
  refine kv_iand (pc := 21) dk_Int_bitCount_21 ?_
  refine kv_iadd (pc := 22) dk_Int_bitCount_22 ?_
  refine kv_letI (fun v2 => ?_)
  refine kv_istore_n (pc := 23) (lv' := [(0, .int v2)]) rfl (Nat.le_of_ble_eq_true rfl) rfl dk_Int_bitCount_23 ?_
  refine kv_iload_n (pc := 24) 0 rfl rfl dk_Int_bitCount_24 ?_
  refine kv_iload_n (pc := 25) 0 rfl rfl dk_Int_bitCount_25 ?_
  refine kv_iconst (pc := 26) (v := (4 : Int32)) dk_Int_bitCount_26 kki_4 ?_
  refine kv_iushr (pc := 27) dk_Int_bitCount_27 ?_
  refine kv_iadd (pc := 28) dk_Int_bitCount_28 ?_
  refine kv_ldcw (pc := 29) (v := (252645135 : Int32)) kw_825 dk_Int_bitCount_29 ?_
  refine kv_iand (pc := 32) dk_Int_bitCount_32 ?_
  refine kv_letI (fun v3 => ?_)
  refine kv_istore_n (pc := 33) (lv' := [(0, .int v3)]) rfl (Nat.le_of_ble_eq_true rfl) rfl dk_Int_bitCount_33 ?_
  refine kv_iload_n (pc := 34) 0 rfl rfl dk_Int_bitCount_34 ?_
  refine kv_iload_n (pc := 35) 0 rfl rfl dk_Int_bitCount_35 ?_
  refine kv_bipush (pc := 36) (v := (8 : Int32)) dk_Int_bitCount_36 kkb_8 ?_
  refine kv_iushr (pc := 38) dk_Int_bitCount_38 ?_
  refine kv_iadd (pc := 39) dk_Int_bitCount_39 ?_
  refine kv_letI (fun v4 => ?_)
  refine kv_istore_n (pc := 40) (lv' := [(0, .int v4)]) rfl (Nat.le_of_ble_eq_true rfl) rfl dk_Int_bitCount_40 ?_
  refine kv_iload_n (pc := 41) 0 rfl rfl dk_Int_bitCount_41 ?_
  refine kv_iload_n (pc := 42) 0 rfl rfl dk_Int_bitCount_42 ?_
  refine kv_bipush (pc := 43) (v := (16 : Int32)) dk_Int_bitCount_43 kkb_16 ?_
  refine kv_iushr (pc := 45) dk_Int_bitCount_45 ?_
  refine kv_iadd (pc := 46) dk_Int_bitCount_46 ?_
  refine kv_letI (fun v5 => ?_)
  refine kv_istore_n (pc := 47) (lv' := [(0, .int v5)]) rfl (Nat.le_of_ble_eq_true rfl) rfl dk_Int_bitCount_47 ?_
  refine kv_iload_n (pc := 48) 0 rfl rfl dk_Int_bitCount_48 ?_
  refine kv_bipush (pc := 49) (v := (63 : Int32)) dk_Int_bitCount_49 kkb_63 ?_
  refine kv_iand (pc := 51) dk_Int_bitCount_51 ?_
  exact kv_iret (pc := 52) (fun h => h) rfl dk_Int_bitCount_52
theorem dk_K_isStorySet_0 : decode prog_1_method_58_code 0 = .ok (.iload_n 1, 1) := by decide +kernel
theorem dk_K_isStorySet_1 : decode prog_1_method_58_code 1 = .ok (.ifCond .le 31, 3) := by decide +kernel
theorem dk_K_isStorySet_4 : decode prog_1_method_58_code 4 = .ok (.iload_n 1, 1) := by decide +kernel
theorem dk_K_isStorySet_5 : decode prog_1_method_58_code 5 = .ok (.iconst 1, 1) := by decide +kernel
theorem dk_K_isStorySet_6 : decode prog_1_method_58_code 6 = .ok (.aload_n 0, 1) := by decide +kernel
theorem dk_K_isStorySet_7 : decode prog_1_method_58_code 7 = .ok (.getfield 10, 3) := by decide +kernel
theorem dk_K_isStorySet_10 : decode prog_1_method_58_code 10 = .ok (.getfield 58, 3) := by decide +kernel
theorem dk_K_isStorySet_13 : decode prog_1_method_58_code 13 = .ok (.getfield 62, 3) := by decide +kernel
theorem dk_K_isStorySet_16 : decode prog_1_method_58_code 16 = .ok (.ishl, 1) := by decide +kernel
theorem dk_K_isStorySet_17 : decode prog_1_method_58_code 17 = .ok (.if_icmp .ge 15, 3) := by decide +kernel
theorem dk_K_isStorySet_20 : decode prog_1_method_58_code 20 = .ok (.iload_n 1, 1) := by decide +kernel
theorem dk_K_isStorySet_21 : decode prog_1_method_58_code 21 = .ok (.invokestatic 453, 3) := by decide +kernel
theorem dk_K_isStorySet_24 : decode prog_1_method_58_code 24 = .ok (.iconst 4, 1) := by decide +kernel
theorem dk_K_isStorySet_25 : decode prog_1_method_58_code 25 = .ok (.if_icmp .gt 7, 3) := by decide +kernel
theorem dk_K_isStorySet_28 : decode prog_1_method_58_code 28 = .ok (.iconst 1, 1) := by decide +kernel
theorem dk_K_isStorySet_29 : decode prog_1_method_58_code 29 = .ok (.goto 4, 3) := by decide +kernel
theorem dk_K_isStorySet_32 : decode prog_1_method_58_code 32 = .ok (.iconst 0, 1) := by decide +kernel
theorem dk_K_isStorySet_33 : decode prog_1_method_58_code 33 = .ok (.ireturn, 1) := by decide +kernel
noncomputable def fx_K_isStorySet (p1 : Int32) (c : (Nat → Nat → Int32)) : Option Bool :=
  if p1 ≤ 0 then
    some false
  else
    if ((1 : Int32) <<< ((c 2 7) &&& 31)) ≤ p1 then
      some false
    else
      kv_bind1 (fx_Int_bitCount p1) (fun v1 =>
      if (4 : Int32) < v1 then
        some false
      else
        some true)
set_option maxRecDepth 20000 in
theorem cx_K_isStorySet (d : Nat) (p1 : Int32) (c : (Nat → Nat → Int32)) (y : (Nat → Nat → Int32) × (Nat → Int64) × (Nat → Int64)) : ∀ a, fx_K_isStorySet p1 c = some a → kv_C kM_K_isStorySet (d + 1) [.ref 0, .int p1] (c, y) (some (.int (kv_b a)), (c, y)) := by
  refine kv_entryX (E := fun a : Bool => (some (.int (kv_b a)), (c, y))) rfl (Nat.le_of_ble_eq_true rfl) (fun o => ?_)
  unfold fx_K_isStorySet
  show kv_X _ _ _ _ _ 0 [(0, .ref 0), (1, .int p1)] [] (c, y)
  refine kv_iload_n (pc := 0) 1 rfl rfl dk_K_isStorySet_0 ?_
  refine kv_if_le (pc := 1) (tgt := 32) dk_K_isStorySet_1 rfl ?_ ?_
  · refine kv_iconst (pc := 32) (v := (0 : Int32)) dk_K_isStorySet_32 kki_0 ?_
    exact kv_zret (pc := 33) (b := false) (fun h => h) rfl dk_K_isStorySet_33
  · refine kv_iload_n (pc := 4) 1 rfl rfl dk_K_isStorySet_4 ?_
    refine kv_iconst (pc := 5) (v := (1 : Int32)) dk_K_isStorySet_5 kki_1 ?_
    refine kv_aload_n (pc := 6) 0 rfl rfl dk_K_isStorySet_6 ?_
    refine kv_getR (pc := 7) kf_K_10 kr_0 rfl kt_0_0 dk_K_isStorySet_7 ?_
    refine kv_getR (pc := 10) kf_K_58 kr_1 rfl kt_1_0 dk_K_isStorySet_10 ?_
    refine kv_getC (pc := 13) kf_K_62 kr_2 kn_2 rfl dk_K_isStorySet_13 ?_
    refine kv_ishl (pc := 16) dk_K_isStorySet_16 ?_
    refine kv_icmp_ge (pc := 17) (tgt := 32) dk_K_isStorySet_17 rfl ?_ ?_
    · refine kv_iconst (pc := 32) (v := (0 : Int32)) dk_K_isStorySet_32 kki_0 ?_
      exact kv_zret (pc := 33) (b := false) (fun h => h) rfl dk_K_isStorySet_33
    · refine kv_iload_n (pc := 20) 1 rfl rfl dk_K_isStorySet_20 ?_
      refine kv_cS_cI (pc := 21) (as := [.int p1]) (st := []) ko_Int_bitCount rfl kw_820 (Nat.le_of_ble_eq_true rfl) rfl dk_K_isStorySet_21 (cx_Int_bitCount d p1 c y) (fun v1 => ?_)
      refine kv_iconst (pc := 24) (v := (4 : Int32)) dk_K_isStorySet_24 kki_4 ?_
      refine kv_icmp_gt (pc := 25) (tgt := 32) dk_K_isStorySet_25 rfl ?_ ?_
      · refine kv_iconst (pc := 32) (v := (0 : Int32)) dk_K_isStorySet_32 kki_0 ?_
        exact kv_zret (pc := 33) (b := false) (fun h => h) rfl dk_K_isStorySet_33
      · refine kv_iconst (pc := 28) (v := (1 : Int32)) dk_K_isStorySet_28 kki_1 ?_
        refine kv_goto (pc := 29) (tgt := 33) dk_K_isStorySet_29 rfl ?_
        exact kv_zret (pc := 33) (b := true) (fun h => h) rfl dk_K_isStorySet_33
theorem dk_K_storiesOf_0 : decode prog_1_method_59_code 0 = .ok (.iconst 1, 1) := by decide +kernel
theorem dk_K_storiesOf_1 : decode prog_1_method_59_code 1 = .ok (.istore_n 1, 1) := by decide +kernel
theorem dk_K_storiesOf_2 : decode prog_1_method_59_code 2 = .ok (.iconst 0, 1) := by decide +kernel
theorem dk_K_storiesOf_3 : decode prog_1_method_59_code 3 = .ok (.istore_n 2, 1) := by decide +kernel
theorem dk_K_storiesOf_4 : decode prog_1_method_59_code 4 = .ok (.iload_n 2, 1) := by decide +kernel
theorem dk_K_storiesOf_5 : decode prog_1_method_59_code 5 = .ok (.bipush 10, 2) := by decide +kernel
theorem dk_K_storiesOf_7 : decode prog_1_method_59_code 7 = .ok (.if_icmp .ge 22, 3) := by decide +kernel
theorem dk_K_storiesOf_10 : decode prog_1_method_59_code 10 = .ok (.iload_n 0, 1) := by decide +kernel
theorem dk_K_storiesOf_11 : decode prog_1_method_59_code 11 = .ok (.iload_n 2, 1) := by decide +kernel
theorem dk_K_storiesOf_12 : decode prog_1_method_59_code 12 = .ok (.ishr, 1) := by decide +kernel
theorem dk_K_storiesOf_13 : decode prog_1_method_59_code 13 = .ok (.iconst 1, 1) := by decide +kernel
theorem dk_K_storiesOf_14 : decode prog_1_method_59_code 14 = .ok (.iand, 1) := by decide +kernel
theorem dk_K_storiesOf_15 : decode prog_1_method_59_code 15 = .ok (.iconst 1, 1) := by decide +kernel
theorem dk_K_storiesOf_16 : decode prog_1_method_59_code 16 = .ok (.if_icmp .ne 7, 3) := by decide +kernel
theorem dk_K_storiesOf_19 : decode prog_1_method_59_code 19 = .ok (.iload_n 1, 1) := by decide +kernel
theorem dk_K_storiesOf_20 : decode prog_1_method_59_code 20 = .ok (.iconst 3, 1) := by decide +kernel
theorem dk_K_storiesOf_21 : decode prog_1_method_59_code 21 = .ok (.imul, 1) := by decide +kernel
theorem dk_K_storiesOf_22 : decode prog_1_method_59_code 22 = .ok (.istore_n 1, 1) := by decide +kernel
theorem dk_K_storiesOf_23 : decode prog_1_method_59_code 23 = .ok (.iinc 2 1, 3) := by decide +kernel
theorem dk_K_storiesOf_26 : decode prog_1_method_59_code 26 = .ok (.goto (-22), 3) := by decide +kernel
theorem dk_K_storiesOf_29 : decode prog_1_method_59_code 29 = .ok (.iload_n 1, 1) := by decide +kernel
theorem dk_K_storiesOf_30 : decode prog_1_method_59_code 30 = .ok (.ireturn, 1) := by decide +kernel
noncomputable def fj_K_storiesOf_23 (x2 : Int32) (x4 : Int32) : Option ((Int32 × Int32) ⊕ Int32) :=
  some (.inl (x4, (x2 + (1 : Int32))))
noncomputable def fb_K_storiesOf_4 (p0 : Int32) (x1 : Int32) (x2 : Int32) : Option ((Int32 × Int32) ⊕ Int32) :=
  if (10 : Int32) ≤ x2 then
    some (.inr x1)
  else
    if ((p0 >>> (x2 &&& 31)) &&& (1 : Int32)) = (1 : Int32) then
      kv_let (x1 * (3 : Int32)) (fun v5 =>
      fj_K_storiesOf_23 x2 v5)
    else
      fj_K_storiesOf_23 x2 x1
noncomputable def fx_K_storiesOf (p0 : Int32) : Option Int32 :=
  (kv_loop (kv_u2 (fb_K_storiesOf_4 p0)) ((1 : Int32), (0 : Int32))).bind (kv_u1 (fun x3 =>
  some x3))
set_option maxRecDepth 20000 in
theorem cx_K_storiesOf (d : Nat) (p0 : Int32) (c : (Nat → Nat → Int32)) (y : (Nat → Nat → Int32) × (Nat → Int64) × (Nat → Int64)) : ∀ a, fx_K_storiesOf p0 = some a → kv_C kM_K_storiesOf (d + 0) [.int p0] (c, y) (some (.int a), (c, y)) := by
  refine kv_entryX (E := fun a : Int32 => (some (.int a), (c, y))) rfl (Nat.le_of_ble_eq_true rfl) (fun o => ?_)
  unfold fx_K_storiesOf
  show kv_X _ _ _ _ _ 0 [(0, .int p0)] [] (c, y)
  refine kv_iconst (pc := 0) (v := (1 : Int32)) dk_K_storiesOf_0 kki_1 ?_
  refine kv_istore_n (pc := 1) (lv' := [(1, .int (1 : Int32)), (0, .int p0)]) rfl (Nat.le_of_ble_eq_true rfl) rfl dk_K_storiesOf_1 ?_
  refine kv_iconst (pc := 2) (v := (0 : Int32)) dk_K_storiesOf_2 kki_0 ?_
  refine kv_istore_n (pc := 3) (lv' := [(2, .int (0 : Int32)), (1, .int (1 : Int32)), (0, .int p0)]) rfl (Nat.le_of_ble_eq_true rfl) rfl dk_K_storiesOf_3 ?_
  refine kv_sub (lv' := [(0, .int p0), (1, .int (1 : Int32)), (2, .int (0 : Int32))]) [2, 1, 0] rfl ?_
  refine kv_lp_2_1 (LV := fun x1 x2 => [(0, .int p0), (1, .int x1), (2, .int x2)]) (WW := fun x1 x2 => (c, y)) (LE1 := fun x3 => [(1, .int x3)]) (WE1 := fun x3 => (c, y)) (pe1 := 29) ?_ ?_
  · intro x3
    show kv_X _ _ _ _ _ 29 [(1, .int x3)] [] (c, y)
    refine kv_iload_n (pc := 29) 0 rfl rfl dk_K_storiesOf_29 ?_
    exact kv_iret (pc := 30) (fun h => h) rfl dk_K_storiesOf_30
  · intro hx4_0 x1 x2
    show kv_X _ _ _ _ (fb_K_storiesOf_4 p0 x1 x2) 4 [(0, .int p0), (1, .int x1), (2, .int x2)] [] (c, y)
    unfold fb_K_storiesOf_4
    refine kv_iload_n (pc := 4) 2 rfl rfl dk_K_storiesOf_4 ?_
    refine kv_bipush (pc := 5) (v := (10 : Int32)) dk_K_storiesOf_5 kkb_10 ?_
    refine kv_icmp_ge (pc := 7) (tgt := 29) dk_K_storiesOf_7 rfl ?_ ?_
    · exact kv_sub [1] rfl (kv_leaf (hx4_0 _))
    · refine kv_iload_n (pc := 10) 0 rfl rfl dk_K_storiesOf_10 ?_
      refine kv_iload_n (pc := 11) 2 rfl rfl dk_K_storiesOf_11 ?_
      refine kv_ishr (pc := 12) dk_K_storiesOf_12 ?_
      refine kv_iconst (pc := 13) (v := (1 : Int32)) dk_K_storiesOf_13 kki_1 ?_
      refine kv_iand (pc := 14) dk_K_storiesOf_14 ?_
      refine kv_iconst (pc := 15) (v := (1 : Int32)) dk_K_storiesOf_15 kki_1 ?_
      refine kv_cut_1 (J := fj_K_storiesOf_23 x2) (pcj := 23) (LJ := fun x4 => [(0, .int p0), (1, .int x4), (2, .int x2)]) (SJ := fun x4 => []) (WJ := fun x4 => (c, y)) ?_ (fun hj23 => ?_)
      · intro x4
        show kv_X _ _ _ _ (fj_K_storiesOf_23 x2 x4) 23 [(0, .int p0), (1, .int x4), (2, .int x2)] [] (c, y)
        unfold fj_K_storiesOf_23
        refine kv_iinc (pc := 23) (kk := (1 : Int32)) (lv' := [(2, .int (x2 + (1 : Int32))), (0, .int p0), (1, .int x4)]) 2 rfl kki_1 rfl (Nat.le_of_ble_eq_true rfl) dk_K_storiesOf_23 ?_
        refine kv_goto (pc := 26) (tgt := 4) dk_K_storiesOf_26 rfl ?_
        exact kv_sub [1, 2, 0] rfl (kv_leaf (fun h => h))
      refine kv_icmp_ne (pc := 16) (tgt := 23) dk_K_storiesOf_16 rfl ?_ ?_
      · exact hj23 x1
      · refine kv_iload_n (pc := 19) 1 rfl rfl dk_K_storiesOf_19 ?_
        refine kv_iconst (pc := 20) (v := (3 : Int32)) dk_K_storiesOf_20 kki_3 ?_
        refine kv_imul (pc := 21) dk_K_storiesOf_21 ?_
        refine kv_letI (fun v5 => ?_)
        refine kv_istore_n (pc := 22) (lv' := [(1, .int v5), (0, .int p0), (2, .int x2)]) rfl (Nat.le_of_ble_eq_true rfl) rfl dk_K_storiesOf_22 ?_
        exact kv_sub [1, 0, 2] rfl (hj23 v5)
theorem dk_Net_cutTo_0 : decode prog_6_method_3_code 0 = .ok (.aload_n 0, 1) := by decide +kernel
theorem dk_Net_cutTo_1 : decode prog_6_method_3_code 1 = .ok (.iload_n 1, 1) := by decide +kernel
theorem dk_Net_cutTo_2 : decode prog_6_method_3_code 2 = .ok (.putfield 28, 3) := by decide +kernel
theorem dk_Net_cutTo_5 : decode prog_6_method_3_code 5 = .ok (.return_, 1) := by decide +kernel
noncomputable def fx_Net_cutTo (p1 : Int32) (c : (Nat → Nat → Int32)) : Option (Nat → Nat → Int32) :=
  kv_let (kv_st c 68 5 p1) (fun c1 =>
  some c1)
set_option maxRecDepth 20000 in
theorem cx_Net_cutTo (d : Nat) (p1 : Int32) (c : (Nat → Nat → Int32)) (y : (Nat → Nat → Int32) × (Nat → Int64) × (Nat → Int64)) : ∀ a, fx_Net_cutTo p1 c = some a → kv_C kM_Net_cutTo (d + 0) [.ref 68, .int p1] (c, y) (none, (a, y)) := by
  refine kv_entryX (E := fun a : (Nat → Nat → Int32) => (none, (a, y))) rfl (Nat.le_of_ble_eq_true rfl) (fun o => ?_)
  unfold fx_Net_cutTo
  show kv_X _ _ _ _ _ 0 [(0, .ref 68), (1, .int p1)] [] (c, y)
  refine kv_aload_n (pc := 0) 0 rfl rfl dk_Net_cutTo_0 ?_
  refine kv_iload_n (pc := 1) 1 rfl rfl dk_Net_cutTo_1 ?_
  refine kv_putC (pc := 2) kf_Net_28 kr_68 kn_68 rfl rfl rfl dk_Net_cutTo_2 (fun c1 => ?_)
  exact kv_vret (pc := 5) (fun h => h) rfl dk_Net_cutTo_5
theorem dk_K_tellStory_0 : decode prog_1_method_60_code 0 = .ok (.iload_n 2, 1) := by decide +kernel
theorem dk_K_tellStory_1 : decode prog_1_method_60_code 1 = .ok (.istore 4, 2) := by decide +kernel
theorem dk_K_tellStory_3 : decode prog_1_method_60_code 3 = .ok (.iconst 0, 1) := by decide +kernel
theorem dk_K_tellStory_4 : decode prog_1_method_60_code 4 = .ok (.istore 5, 2) := by decide +kernel
theorem dk_K_tellStory_6 : decode prog_1_method_60_code 6 = .ok (.iload 5, 2) := by decide +kernel
theorem dk_K_tellStory_8 : decode prog_1_method_60_code 8 = .ok (.bipush 10, 2) := by decide +kernel
theorem dk_K_tellStory_10 : decode prog_1_method_60_code 10 = .ok (.if_icmp .ge 94, 3) := by decide +kernel
theorem dk_K_tellStory_13 : decode prog_1_method_60_code 13 = .ok (.iload_n 1, 1) := by decide +kernel
theorem dk_K_tellStory_14 : decode prog_1_method_60_code 14 = .ok (.iload 5, 2) := by decide +kernel
theorem dk_K_tellStory_16 : decode prog_1_method_60_code 16 = .ok (.ishr, 1) := by decide +kernel
theorem dk_K_tellStory_17 : decode prog_1_method_60_code 17 = .ok (.iconst 1, 1) := by decide +kernel
theorem dk_K_tellStory_18 : decode prog_1_method_60_code 18 = .ok (.iand, 1) := by decide +kernel
theorem dk_K_tellStory_19 : decode prog_1_method_60_code 19 = .ok (.iconst 1, 1) := by decide +kernel
theorem dk_K_tellStory_20 : decode prog_1_method_60_code 20 = .ok (.if_icmp .ne 78, 3) := by decide +kernel
theorem dk_K_tellStory_23 : decode prog_1_method_60_code 23 = .ok (.iload 4, 2) := by decide +kernel
theorem dk_K_tellStory_25 : decode prog_1_method_60_code 25 = .ok (.iconst 3, 1) := by decide +kernel
theorem dk_K_tellStory_26 : decode prog_1_method_60_code 26 = .ok (.irem, 1) := by decide +kernel
theorem dk_K_tellStory_27 : decode prog_1_method_60_code 27 = .ok (.istore 6, 2) := by decide +kernel
theorem dk_K_tellStory_29 : decode prog_1_method_60_code 29 = .ok (.iload 4, 2) := by decide +kernel
theorem dk_K_tellStory_31 : decode prog_1_method_60_code 31 = .ok (.iconst 3, 1) := by decide +kernel
theorem dk_K_tellStory_32 : decode prog_1_method_60_code 32 = .ok (.idiv, 1) := by decide +kernel
theorem dk_K_tellStory_33 : decode prog_1_method_60_code 33 = .ok (.istore 4, 2) := by decide +kernel
theorem dk_K_tellStory_35 : decode prog_1_method_60_code 35 = .ok (.iload 6, 2) := by decide +kernel
theorem dk_K_tellStory_37 : decode prog_1_method_60_code 37 = .ok (.ifCond .ne 7, 3) := by decide +kernel
theorem dk_K_tellStory_40 : decode prog_1_method_60_code 40 = .ok (.iconst 0, 1) := by decide +kernel
theorem dk_K_tellStory_41 : decode prog_1_method_60_code 41 = .ok (.goto 15, 3) := by decide +kernel
theorem dk_K_tellStory_44 : decode prog_1_method_60_code 44 = .ok (.iload 6, 2) := by decide +kernel
theorem dk_K_tellStory_46 : decode prog_1_method_60_code 46 = .ok (.iconst 1, 1) := by decide +kernel
theorem dk_K_tellStory_47 : decode prog_1_method_60_code 47 = .ok (.if_icmp .ne 7, 3) := by decide +kernel
theorem dk_K_tellStory_50 : decode prog_1_method_60_code 50 = .ok (.iconst 1, 1) := by decide +kernel
theorem dk_K_tellStory_51 : decode prog_1_method_60_code 51 = .ok (.goto 5, 3) := by decide +kernel
theorem dk_K_tellStory_54 : decode prog_1_method_60_code 54 = .ok (.iload_n 3, 1) := by decide +kernel
theorem dk_K_tellStory_55 : decode prog_1_method_60_code 55 = .ok (.ineg, 1) := by decide +kernel
theorem dk_K_tellStory_56 : decode prog_1_method_60_code 56 = .ok (.istore 7, 2) := by decide +kernel
theorem dk_K_tellStory_58 : decode prog_1_method_60_code 58 = .ok (.iload 6, 2) := by decide +kernel
theorem dk_K_tellStory_60 : decode prog_1_method_60_code 60 = .ok (.ifCond .ne 7, 3) := by decide +kernel
theorem dk_K_tellStory_63 : decode prog_1_method_60_code 63 = .ok (.iconst 0, 1) := by decide +kernel
theorem dk_K_tellStory_64 : decode prog_1_method_60_code 64 = .ok (.goto 14, 3) := by decide +kernel
theorem dk_K_tellStory_67 : decode prog_1_method_60_code 67 = .ok (.iload 6, 2) := by decide +kernel
theorem dk_K_tellStory_69 : decode prog_1_method_60_code 69 = .ok (.iconst 1, 1) := by decide +kernel
theorem dk_K_tellStory_70 : decode prog_1_method_60_code 70 = .ok (.if_icmp .ne 7, 3) := by decide +kernel
theorem dk_K_tellStory_73 : decode prog_1_method_60_code 73 = .ok (.iload_n 3, 1) := by decide +kernel
theorem dk_K_tellStory_74 : decode prog_1_method_60_code 74 = .ok (.goto 4, 3) := by decide +kernel
theorem dk_K_tellStory_77 : decode prog_1_method_60_code 77 = .ok (.iconst (-1), 1) := by decide +kernel
theorem dk_K_tellStory_78 : decode prog_1_method_60_code 78 = .ok (.istore 8, 2) := by decide +kernel
theorem dk_K_tellStory_80 : decode prog_1_method_60_code 80 = .ok (.aload_n 0, 1) := by decide +kernel
theorem dk_K_tellStory_81 : decode prog_1_method_60_code 81 = .ok (.getfield 29, 3) := by decide +kernel
theorem dk_K_tellStory_84 : decode prog_1_method_60_code 84 = .ok (.bipush 10, 2) := by decide +kernel
theorem dk_K_tellStory_86 : decode prog_1_method_60_code 86 = .ok (.iload 5, 2) := by decide +kernel
theorem dk_K_tellStory_88 : decode prog_1_method_60_code 88 = .ok (.iadd, 1) := by decide +kernel
theorem dk_K_tellStory_89 : decode prog_1_method_60_code 89 = .ok (.iload 5, 2) := by decide +kernel
theorem dk_K_tellStory_91 : decode prog_1_method_60_code 91 = .ok (.iload 7, 2) := by decide +kernel
theorem dk_K_tellStory_93 : decode prog_1_method_60_code 93 = .ok (.iload 8, 2) := by decide +kernel
theorem dk_K_tellStory_95 : decode prog_1_method_60_code 95 = .ok (.invokevirtual 438, 3) := by decide +kernel
theorem dk_K_tellStory_98 : decode prog_1_method_60_code 98 = .ok (.iinc 5 1, 3) := by decide +kernel
theorem dk_K_tellStory_101 : decode prog_1_method_60_code 101 = .ok (.goto (-95), 3) := by decide +kernel
theorem dk_K_tellStory_104 : decode prog_1_method_60_code 104 = .ok (.return_, 1) := by decide +kernel
noncomputable def fj_K_tellStory_98 (x2 : Int32) (x5 : Int32) (c6 : (Nat → Nat → Int32)) : Option ((Int32 × Int32 × (Nat → Nat → Int32)) ⊕ (Nat → Nat → Int32)) :=
  some (.inl (x5, (x2 + (1 : Int32)), c6))
noncomputable def fj_K_tellStory_78 (x2 : Int32) (x9 : Int32) (c3 : (Nat → Nat → Int32)) (v8 : Int32) (x10 : Int32) : Option ((Int32 × Int32 × (Nat → Nat → Int32)) ⊕ (Nat → Nat → Int32)) :=
  kv_bind1 (fx_Net_bound ((10 : Int32) + x2) x2 x9 x10 c3) (fun c11 =>
  fj_K_tellStory_98 x2 v8 c11)
noncomputable def fj_K_tellStory_56 (v7 : Int32) (x2 : Int32) (c3 : (Nat → Nat → Int32)) (v8 : Int32) (p3 : Int32) (x9 : Int32) : Option ((Int32 × Int32 × (Nat → Nat → Int32)) ⊕ (Nat → Nat → Int32)) :=
  if v7 = 0 then
    fj_K_tellStory_78 x2 x9 c3 v8 (0 : Int32)
  else
    if v7 = (1 : Int32) then
      fj_K_tellStory_78 x2 x9 c3 v8 p3
    else
      fj_K_tellStory_78 x2 x9 c3 v8 (-1 : Int32)
noncomputable def fb_K_tellStory_6 (p1 : Int32) (p3 : Int32) (x1 : Int32) (x2 : Int32) (c3 : (Nat → Nat → Int32)) : Option ((Int32 × Int32 × (Nat → Nat → Int32)) ⊕ (Nat → Nat → Int32)) :=
  if (10 : Int32) ≤ x2 then
    some (.inr c3)
  else
    if ((p1 >>> (x2 &&& 31)) &&& (1 : Int32)) = (1 : Int32) then
      kv_let (x1 - x1 / (3 : Int32) * (3 : Int32)) (fun v7 =>
      kv_let (x1 / (3 : Int32)) (fun v8 =>
      if v7 = 0 then
        fj_K_tellStory_56 v7 x2 c3 v8 p3 (0 : Int32)
      else
        if v7 = (1 : Int32) then
          fj_K_tellStory_56 v7 x2 c3 v8 p3 (1 : Int32)
        else
          fj_K_tellStory_56 v7 x2 c3 v8 p3 (-p3)))
    else
      fj_K_tellStory_98 x2 x1 c3
noncomputable def fx_K_tellStory (p1 : Int32) (p2 : Int32) (p3 : Int32) (c : (Nat → Nat → Int32)) : Option (Nat → Nat → Int32) :=
  (kv_loop (kv_u3 (fb_K_tellStory_6 p1 p3)) (p2, (0 : Int32), c)).bind (kv_u1 (fun c4 =>
  some c4))
set_option maxRecDepth 20000 in
theorem cx_K_tellStory (d : Nat) (p1 : Int32) (p2 : Int32) (p3 : Int32) (c : (Nat → Nat → Int32)) (y : (Nat → Nat → Int32) × (Nat → Int64) × (Nat → Int64)) : ∀ a, fx_K_tellStory p1 p2 p3 c = some a → kv_C kM_K_tellStory (d + 3) [.ref 0, .int p1, .int p2, .int p3] (c, y) (none, (a, y)) := by
  refine kv_entryX (E := fun a : (Nat → Nat → Int32) => (none, (a, y))) rfl (Nat.le_of_ble_eq_true rfl) (fun o => ?_)
  unfold fx_K_tellStory
  show kv_X _ _ _ _ _ 0 [(0, .ref 0), (1, .int p1), (2, .int p2), (3, .int p3)] [] (c, y)
  refine kv_iload_n (pc := 0) 2 rfl rfl dk_K_tellStory_0 ?_
  refine kv_istore (pc := 1) (lv' := [(4, .int p2), (0, .ref 0), (1, .int p1), (2, .int p2), (3, .int p3)]) rfl (Nat.le_of_ble_eq_true rfl) dk_K_tellStory_1 ?_
  refine kv_iconst (pc := 3) (v := (0 : Int32)) dk_K_tellStory_3 kki_0 ?_
  refine kv_istore (pc := 4) (lv' := [(5, .int (0 : Int32)), (4, .int p2), (0, .ref 0), (1, .int p1), (2, .int p2), (3, .int p3)]) rfl (Nat.le_of_ble_eq_true rfl) dk_K_tellStory_4 ?_
  refine kv_sub (lv' := [(0, .ref 0), (1, .int p1), (3, .int p3), (4, .int p2), (5, .int (0 : Int32))]) [2, 3, 5, 1, 0] rfl ?_
  refine kv_lp_3_1 (LV := fun x1 x2 c3 => [(0, .ref 0), (1, .int p1), (3, .int p3), (4, .int x1), (5, .int x2)]) (WW := fun x1 x2 c3 => (c3, y)) (LE1 := fun c4 => []) (WE1 := fun c4 => (c4, y)) (pe1 := 104) ?_ ?_
  · intro c4
    show kv_X _ _ _ _ _ 104 [] [] (c4, y)
    exact kv_vret (pc := 104) (fun h => h) rfl dk_K_tellStory_104
  · intro hx6_0 x1 x2 c3
    show kv_X _ _ _ _ (fb_K_tellStory_6 p1 p3 x1 x2 c3) 6 [(0, .ref 0), (1, .int p1), (3, .int p3), (4, .int x1), (5, .int x2)] [] (c3, y)
    unfold fb_K_tellStory_6
    refine kv_iload (pc := 6) 4 rfl dk_K_tellStory_6 ?_
    refine kv_bipush (pc := 8) (v := (10 : Int32)) dk_K_tellStory_8 kkb_10 ?_
    refine kv_icmp_ge (pc := 10) (tgt := 104) dk_K_tellStory_10 rfl ?_ ?_
    · exact kv_sub [] rfl (kv_leaf (hx6_0 _))
    · refine kv_iload_n (pc := 13) 1 rfl rfl dk_K_tellStory_13 ?_
      refine kv_iload (pc := 14) 4 rfl dk_K_tellStory_14 ?_
      refine kv_ishr (pc := 16) dk_K_tellStory_16 ?_
      refine kv_iconst (pc := 17) (v := (1 : Int32)) dk_K_tellStory_17 kki_1 ?_
      refine kv_iand (pc := 18) dk_K_tellStory_18 ?_
      refine kv_iconst (pc := 19) (v := (1 : Int32)) dk_K_tellStory_19 kki_1 ?_
      refine kv_cut_2 (J := fj_K_tellStory_98 x2) (pcj := 98) (LJ := fun x5 c6 => [(0, .ref 0), (1, .int p1), (3, .int p3), (4, .int x5), (5, .int x2)]) (SJ := fun x5 c6 => []) (WJ := fun x5 c6 => (c6, y)) ?_ (fun hj98 => ?_)
      · intro x5 c6
        show kv_X _ _ _ _ (fj_K_tellStory_98 x2 x5 c6) 98 [(0, .ref 0), (1, .int p1), (3, .int p3), (4, .int x5), (5, .int x2)] [] (c6, y)
        unfold fj_K_tellStory_98
        refine kv_iinc (pc := 98) (kk := (1 : Int32)) (lv' := [(5, .int (x2 + (1 : Int32))), (0, .ref 0), (1, .int p1), (3, .int p3), (4, .int x5)]) 4 rfl kki_1 rfl (Nat.le_of_ble_eq_true rfl) dk_K_tellStory_98 ?_
        refine kv_goto (pc := 101) (tgt := 6) dk_K_tellStory_101 rfl ?_
        exact kv_sub [1, 2, 3, 4, 0] rfl (kv_leaf (fun h => h))
      refine kv_icmp_ne (pc := 20) (tgt := 98) dk_K_tellStory_20 rfl ?_ ?_
      · exact hj98 x1 c3
      · refine kv_iload (pc := 23) 3 rfl dk_K_tellStory_23 ?_
        refine kv_iconst (pc := 25) (v := (3 : Int32)) dk_K_tellStory_25 kki_3 ?_
        refine kv_irem (pc := 26) dk_K_tellStory_26 kkn_3 ?_
        refine kv_letI (fun v7 => ?_)
        refine kv_istore (pc := 27) (lv' := [(6, .int v7), (0, .ref 0), (1, .int p1), (3, .int p3), (4, .int x1), (5, .int x2)]) rfl (Nat.le_of_ble_eq_true rfl) dk_K_tellStory_27 ?_
        refine kv_iload (pc := 29) 4 rfl dk_K_tellStory_29 ?_
        refine kv_iconst (pc := 31) (v := (3 : Int32)) dk_K_tellStory_31 kki_3 ?_
        refine kv_idiv (pc := 32) dk_K_tellStory_32 kkn_3 ?_
        refine kv_letI (fun v8 => ?_)
        refine kv_istore (pc := 33) (lv' := [(4, .int v8), (6, .int v7), (0, .ref 0), (1, .int p1), (3, .int p3), (5, .int x2)]) rfl (Nat.le_of_ble_eq_true rfl) dk_K_tellStory_33 ?_
        refine kv_iload (pc := 35) 1 rfl dk_K_tellStory_35 ?_
        refine kv_cut_1 (J := fj_K_tellStory_56 v7 x2 c3 v8 p3) (pcj := 56) (LJ := fun x9 => [(0, .ref 0), (1, .int p1), (3, .int p3), (4, .int v8), (5, .int x2), (6, .int v7)]) (SJ := fun x9 => [.int x9]) (WJ := fun x9 => (c3, y)) ?_ (fun hj56 => ?_)
        · intro x9
          show kv_X _ _ _ _ (fj_K_tellStory_56 v7 x2 c3 v8 p3 x9) 56 [(0, .ref 0), (1, .int p1), (3, .int p3), (4, .int v8), (5, .int x2), (6, .int v7)] [.int x9] (c3, y)
          unfold fj_K_tellStory_56
          refine kv_istore (pc := 56) (lv' := [(7, .int x9), (0, .ref 0), (1, .int p1), (3, .int p3), (4, .int v8), (5, .int x2), (6, .int v7)]) rfl (Nat.le_of_ble_eq_true rfl) dk_K_tellStory_56 ?_
          refine kv_iload (pc := 58) 6 rfl dk_K_tellStory_58 ?_
          refine kv_cut_1 (J := fj_K_tellStory_78 x2 x9 c3 v8) (pcj := 78) (LJ := fun x10 => [(0, .ref 0), (1, .int p1), (3, .int p3), (4, .int v8), (5, .int x2), (7, .int x9)]) (SJ := fun x10 => [.int x10]) (WJ := fun x10 => (c3, y)) ?_ (fun hj78 => ?_)
          · intro x10
            show kv_X _ _ _ _ (fj_K_tellStory_78 x2 x9 c3 v8 x10) 78 [(0, .ref 0), (1, .int p1), (3, .int p3), (4, .int v8), (5, .int x2), (7, .int x9)] [.int x10] (c3, y)
            unfold fj_K_tellStory_78
            refine kv_istore (pc := 78) (lv' := [(8, .int x10), (0, .ref 0), (1, .int p1), (3, .int p3), (4, .int v8), (5, .int x2), (7, .int x9)]) rfl (Nat.le_of_ble_eq_true rfl) dk_K_tellStory_78 ?_
            refine kv_aload_n (pc := 80) 1 rfl rfl dk_K_tellStory_80 ?_
            refine kv_getR (pc := 81) kf_K_29 kr_0 rfl kt_0_4 dk_K_tellStory_81 ?_
            refine kv_bipush (pc := 84) (v := (10 : Int32)) dk_K_tellStory_84 kkb_10 ?_
            refine kv_iload (pc := 86) 5 rfl dk_K_tellStory_86 ?_
            refine kv_iadd (pc := 88) dk_K_tellStory_88 ?_
            refine kv_iload (pc := 89) 5 rfl dk_K_tellStory_89 ?_
            refine kv_iload (pc := 91) 6 rfl dk_K_tellStory_91 ?_
            refine kv_iload (pc := 93) 0 rfl dk_K_tellStory_93 ?_
            refine kv_cV_cc (pc := 95) (as := [.int ((10 : Int32) + x2), .int x2, .int x9, .int x10]) (st := []) ko_Net_bound kc_4 rfl rfl kr_68 kw_694 (Nat.le_of_ble_eq_true rfl) rfl dk_K_tellStory_95 (cx_Net_bound d ((10 : Int32) + x2) x2 x9 x10 c3 y) (fun c11 => ?_)
            exact kv_sub [1, 2, 3, 4, 5] rfl (hj98 v8 c11)
          refine kv_if_ne (pc := 60) (tgt := 67) dk_K_tellStory_60 rfl ?_ ?_
          · refine kv_iload (pc := 67) 6 rfl dk_K_tellStory_67 ?_
            refine kv_iconst (pc := 69) (v := (1 : Int32)) dk_K_tellStory_69 kki_1 ?_
            refine kv_icmp_ne (pc := 70) (tgt := 77) dk_K_tellStory_70 rfl ?_ ?_
            · refine kv_iconst (pc := 77) (v := (-1 : Int32)) dk_K_tellStory_77 kki_m1 ?_
              exact kv_sub [1, 2, 3, 4, 5, 0] rfl (hj78 (-1 : Int32))
            · refine kv_iload_n (pc := 73) 3 rfl rfl dk_K_tellStory_73 ?_
              refine kv_goto (pc := 74) (tgt := 78) dk_K_tellStory_74 rfl ?_
              exact kv_sub [1, 2, 3, 4, 5, 0] rfl (hj78 p3)
          · refine kv_iconst (pc := 63) (v := (0 : Int32)) dk_K_tellStory_63 kki_0 ?_
            refine kv_goto (pc := 64) (tgt := 78) dk_K_tellStory_64 rfl ?_
            exact kv_sub [1, 2, 3, 4, 5, 0] rfl (hj78 (0 : Int32))
        refine kv_if_ne (pc := 37) (tgt := 44) dk_K_tellStory_37 rfl ?_ ?_
        · refine kv_iload (pc := 44) 1 rfl dk_K_tellStory_44 ?_
          refine kv_iconst (pc := 46) (v := (1 : Int32)) dk_K_tellStory_46 kki_1 ?_
          refine kv_icmp_ne (pc := 47) (tgt := 54) dk_K_tellStory_47 rfl ?_ ?_
          · refine kv_iload_n (pc := 54) 4 rfl rfl dk_K_tellStory_54 ?_
            refine kv_ineg (pc := 55) dk_K_tellStory_55 ?_
            exact kv_sub [2, 3, 4, 0, 5, 1] rfl (hj56 (-p3))
          · refine kv_iconst (pc := 50) (v := (1 : Int32)) dk_K_tellStory_50 kki_1 ?_
            refine kv_goto (pc := 51) (tgt := 56) dk_K_tellStory_51 rfl ?_
            exact kv_sub [2, 3, 4, 0, 5, 1] rfl (hj56 (1 : Int32))
        · refine kv_iconst (pc := 40) (v := (0 : Int32)) dk_K_tellStory_40 kki_0 ?_
          refine kv_goto (pc := 41) (tgt := 56) dk_K_tellStory_41 rfl ?_
          exact kv_sub [2, 3, 4, 0, 5, 1] rfl (hj56 (0 : Int32))
theorem dk_K_stories_0 : decode prog_1_method_19_code 0 = .ok (.iload_n 2, 1) := by decide +kernel
theorem dk_K_stories_1 : decode prog_1_method_19_code 1 = .ok (.sipush 1000, 3) := by decide +kernel
theorem dk_K_stories_4 : decode prog_1_method_19_code 4 = .ok (.idiv, 1) := by decide +kernel
theorem dk_K_stories_5 : decode prog_1_method_19_code 5 = .ok (.istore 5, 2) := by decide +kernel
theorem dk_K_stories_7 : decode prog_1_method_19_code 7 = .ok (.iload_n 2, 1) := by decide +kernel
theorem dk_K_stories_8 : decode prog_1_method_19_code 8 = .ok (.sipush 1000, 3) := by decide +kernel
theorem dk_K_stories_11 : decode prog_1_method_19_code 11 = .ok (.irem, 1) := by decide +kernel
theorem dk_K_stories_12 : decode prog_1_method_19_code 12 = .ok (.istore 6, 2) := by decide +kernel
theorem dk_K_stories_14 : decode prog_1_method_19_code 14 = .ok (.aload_n 0, 1) := by decide +kernel
theorem dk_K_stories_15 : decode prog_1_method_19_code 15 = .ok (.iload_n 1, 1) := by decide +kernel
theorem dk_K_stories_16 : decode prog_1_method_19_code 16 = .ok (.invokevirtual 249, 3) := by decide +kernel
theorem dk_K_stories_19 : decode prog_1_method_19_code 19 = .ok (.ifCond .eq 26, 3) := by decide +kernel
theorem dk_K_stories_22 : decode prog_1_method_19_code 22 = .ok (.iload 5, 2) := by decide +kernel
theorem dk_K_stories_24 : decode prog_1_method_19_code 24 = .ok (.invokestatic 135, 3) := by decide +kernel
theorem dk_K_stories_27 : decode prog_1_method_19_code 27 = .ok (.ifCond .eq 18, 3) := by decide +kernel
theorem dk_K_stories_30 : decode prog_1_method_19_code 30 = .ok (.iload 6, 2) := by decide +kernel
theorem dk_K_stories_32 : decode prog_1_method_19_code 32 = .ok (.invokestatic 135, 3) := by decide +kernel
theorem dk_K_stories_35 : decode prog_1_method_19_code 35 = .ok (.ifCond .eq 10, 3) := by decide +kernel
theorem dk_K_stories_38 : decode prog_1_method_19_code 38 = .ok (.iload 6, 2) := by decide +kernel
theorem dk_K_stories_40 : decode prog_1_method_19_code 40 = .ok (.iload 5, 2) := by decide +kernel
theorem dk_K_stories_42 : decode prog_1_method_19_code 42 = .ok (.if_icmp .gt 5, 3) := by decide +kernel
theorem dk_K_stories_45 : decode prog_1_method_19_code 45 = .ok (.iconst (-1), 1) := by decide +kernel
theorem dk_K_stories_46 : decode prog_1_method_19_code 46 = .ok (.ireturn, 1) := by decide +kernel
theorem dk_K_stories_47 : decode prog_1_method_19_code 47 = .ok (.iload_n 3, 1) := by decide +kernel
theorem dk_K_stories_48 : decode prog_1_method_19_code 48 = .ok (.iconst 1, 1) := by decide +kernel
theorem dk_K_stories_49 : decode prog_1_method_19_code 49 = .ok (.sipush 9999, 3) := by decide +kernel
theorem dk_K_stories_52 : decode prog_1_method_19_code 52 = .ok (.invokestatic 54, 3) := by decide +kernel
theorem dk_K_stories_55 : decode prog_1_method_19_code 55 = .ok (.ifCond .eq 9, 3) := by decide +kernel
theorem dk_K_stories_58 : decode prog_1_method_19_code 58 = .ok (.iload 4, 2) := by decide +kernel
theorem dk_K_stories_60 : decode prog_1_method_19_code 60 = .ok (.iconst (-1), 1) := by decide +kernel
theorem dk_K_stories_61 : decode prog_1_method_19_code 61 = .ok (.if_icmp .ge 5, 3) := by decide +kernel
theorem dk_K_stories_64 : decode prog_1_method_19_code 64 = .ok (.iconst (-1), 1) := by decide +kernel
theorem dk_K_stories_65 : decode prog_1_method_19_code 65 = .ok (.ireturn, 1) := by decide +kernel
theorem dk_K_stories_66 : decode prog_1_method_19_code 66 = .ok (.aload_n 0, 1) := by decide +kernel
theorem dk_K_stories_67 : decode prog_1_method_19_code 67 = .ok (.getfield 29, 3) := by decide +kernel
theorem dk_K_stories_70 : decode prog_1_method_19_code 70 = .ok (.bipush 20, 2) := by decide +kernel
theorem dk_K_stories_72 : decode prog_1_method_19_code 72 = .ok (.invokevirtual 211, 3) := by decide +kernel
theorem dk_K_stories_75 : decode prog_1_method_19_code 75 = .ok (.aload_n 0, 1) := by decide +kernel
theorem dk_K_stories_76 : decode prog_1_method_19_code 76 = .ok (.iload 5, 2) := by decide +kernel
theorem dk_K_stories_78 : decode prog_1_method_19_code 78 = .ok (.iconst 0, 1) := by decide +kernel
theorem dk_K_stories_79 : decode prog_1_method_19_code 79 = .ok (.invokevirtual 214, 3) := by decide +kernel
theorem dk_K_stories_82 : decode prog_1_method_19_code 82 = .ok (.aload_n 0, 1) := by decide +kernel
theorem dk_K_stories_83 : decode prog_1_method_19_code 83 = .ok (.iload 6, 2) := by decide +kernel
theorem dk_K_stories_85 : decode prog_1_method_19_code 85 = .ok (.bipush 10, 2) := by decide +kernel
theorem dk_K_stories_87 : decode prog_1_method_19_code 87 = .ok (.invokevirtual 214, 3) := by decide +kernel
theorem dk_K_stories_90 : decode prog_1_method_19_code 90 = .ok (.aload_n 0, 1) := by decide +kernel
theorem dk_K_stories_91 : decode prog_1_method_19_code 91 = .ok (.getfield 29, 3) := by decide +kernel
theorem dk_K_stories_94 : decode prog_1_method_19_code 94 = .ok (.getfield 252, 3) := by decide +kernel
theorem dk_K_stories_97 : decode prog_1_method_19_code 97 = .ok (.istore 7, 2) := by decide +kernel
theorem dk_K_stories_99 : decode prog_1_method_19_code 99 = .ok (.iload_n 1, 1) := by decide +kernel
theorem dk_K_stories_100 : decode prog_1_method_19_code 100 = .ok (.invokestatic 255, 3) := by decide +kernel
theorem dk_K_stories_103 : decode prog_1_method_19_code 103 = .ok (.istore 8, 2) := by decide +kernel
theorem dk_K_stories_105 : decode prog_1_method_19_code 105 = .ok (.iconst 0, 1) := by decide +kernel
theorem dk_K_stories_106 : decode prog_1_method_19_code 106 = .ok (.istore 9, 2) := by decide +kernel
theorem dk_K_stories_108 : decode prog_1_method_19_code 108 = .ok (.iconst 0, 1) := by decide +kernel
theorem dk_K_stories_109 : decode prog_1_method_19_code 109 = .ok (.istore 10, 2) := by decide +kernel
theorem dk_K_stories_111 : decode prog_1_method_19_code 111 = .ok (.iload 10, 2) := by decide +kernel
theorem dk_K_stories_113 : decode prog_1_method_19_code 113 = .ok (.iload 8, 2) := by decide +kernel
theorem dk_K_stories_115 : decode prog_1_method_19_code 115 = .ok (.if_icmp .ge 49, 3) := by decide +kernel
theorem dk_K_stories_118 : decode prog_1_method_19_code 118 = .ok (.aload_n 0, 1) := by decide +kernel
theorem dk_K_stories_119 : decode prog_1_method_19_code 119 = .ok (.getfield 29, 3) := by decide +kernel
theorem dk_K_stories_122 : decode prog_1_method_19_code 122 = .ok (.iload 7, 2) := by decide +kernel
theorem dk_K_stories_124 : decode prog_1_method_19_code 124 = .ok (.invokevirtual 258, 3) := by decide +kernel
theorem dk_K_stories_127 : decode prog_1_method_19_code 127 = .ok (.aload_n 0, 1) := by decide +kernel
theorem dk_K_stories_128 : decode prog_1_method_19_code 128 = .ok (.iload_n 1, 1) := by decide +kernel
theorem dk_K_stories_129 : decode prog_1_method_19_code 129 = .ok (.iload 10, 2) := by decide +kernel
theorem dk_K_stories_131 : decode prog_1_method_19_code 131 = .ok (.iload_n 3, 1) := by decide +kernel
theorem dk_K_stories_132 : decode prog_1_method_19_code 132 = .ok (.invokevirtual 261, 3) := by decide +kernel
theorem dk_K_stories_135 : decode prog_1_method_19_code 135 = .ok (.aload_n 0, 1) := by decide +kernel
theorem dk_K_stories_136 : decode prog_1_method_19_code 136 = .ok (.getfield 29, 3) := by decide +kernel
theorem dk_K_stories_139 : decode prog_1_method_19_code 139 = .ok (.invokevirtual 237, 3) := by decide +kernel
theorem dk_K_stories_142 : decode prog_1_method_19_code 142 = .ok (.ifCond .eq 16, 3) := by decide +kernel
theorem dk_K_stories_145 : decode prog_1_method_19_code 145 = .ok (.iload 9, 2) := by decide +kernel
theorem dk_K_stories_147 : decode prog_1_method_19_code 147 = .ok (.iload 4, 2) := by decide +kernel
theorem dk_K_stories_149 : decode prog_1_method_19_code 149 = .ok (.if_icmp .ne 6, 3) := by decide +kernel
theorem dk_K_stories_152 : decode prog_1_method_19_code 152 = .ok (.iload 10, 2) := by decide +kernel
theorem dk_K_stories_154 : decode prog_1_method_19_code 154 = .ok (.ireturn, 1) := by decide +kernel
theorem dk_K_stories_155 : decode prog_1_method_19_code 155 = .ok (.iinc 9 1, 3) := by decide +kernel
theorem dk_K_stories_158 : decode prog_1_method_19_code 158 = .ok (.iinc 10 1, 3) := by decide +kernel
theorem dk_K_stories_161 : decode prog_1_method_19_code 161 = .ok (.goto (-50), 3) := by decide +kernel
theorem dk_K_stories_164 : decode prog_1_method_19_code 164 = .ok (.iload 4, 2) := by decide +kernel
theorem dk_K_stories_166 : decode prog_1_method_19_code 166 = .ok (.iconst (-1), 1) := by decide +kernel
theorem dk_K_stories_167 : decode prog_1_method_19_code 167 = .ok (.if_icmp .ne 8, 3) := by decide +kernel
theorem dk_K_stories_170 : decode prog_1_method_19_code 170 = .ok (.iload 9, 2) := by decide +kernel
theorem dk_K_stories_172 : decode prog_1_method_19_code 172 = .ok (.goto 5, 3) := by decide +kernel
theorem dk_K_stories_175 : decode prog_1_method_19_code 175 = .ok (.bipush (-4), 2) := by decide +kernel
theorem dk_K_stories_177 : decode prog_1_method_19_code 177 = .ok (.ireturn, 1) := by decide +kernel
noncomputable def fj_K_stories_158 (x13 : Int32) (c22 : (Nat → Nat → Int32)) (x23 : Int32) : Option ((Int32 × Int32 × (Nat → Nat → Int32)) ⊕ ((Int32 × (Nat → Nat → Int32)) ⊕ (Int32 × (Nat → Nat → Int32)))) :=
  some (.inl (x23, (x13 + (1 : Int32)), c22))
noncomputable def fb_K_stories_111 (v11 : Int32) (v10 : Int32) (p1 : Int32) (p3 : Int32) (p4 : Int32) (x12 : Int32) (x13 : Int32) (c14 : (Nat → Nat → Int32)) : Option ((Int32 × Int32 × (Nat → Nat → Int32)) ⊕ ((Int32 × (Nat → Nat → Int32)) ⊕ (Int32 × (Nat → Nat → Int32)))) :=
  if v11 ≤ x13 then
    some (.inr (.inr (x12, c14)))
  else
    kv_bind1 (fx_Net_cutTo v10 c14) (fun c19 =>
    kv_bind1 (fx_K_tellStory p1 x13 p3 c19) (fun c20 =>
    kv_bind2 (fx_Net_holds c20) (fun b21 c22 =>
    if b21 = true then
      if x12 = p4 then
        some (.inr (.inl (x13, c22)))
      else
        fj_K_stories_158 x13 c22 (x12 + (1 : Int32))
    else
      fj_K_stories_158 x13 c22 x12)))
noncomputable def fx_K_stories (p1 : Int32) (p2 : Int32) (p3 : Int32) (p4 : Int32) (c : (Nat → Nat → Int32)) : Option (Int32 × (Nat → Nat → Int32)) :=
  kv_let (p2 / (1000 : Int32)) (fun v1 =>
  kv_let (p2 - p2 / (1000 : Int32) * (1000 : Int32)) (fun v2 =>
  kv_bind1 (fx_K_isStorySet p1 c) (fun b3 =>
  if b3 = true then
    kv_bind1 (fx_K_isYear v1) (fun b4 =>
    if b4 = true then
      kv_bind1 (fx_K_isYear v2) (fun b5 =>
      if b5 = true then
        if v1 < v2 then
          kv_bind1 (fx_K_isWithin p3 (1 : Int32) (9999 : Int32)) (fun b6 =>
          if b6 = true then
            if (-1 : Int32) ≤ p4 then
              kv_bind1 (fx_Net_start (20 : Int32) c) (fun c7 =>
              kv_bind1 (fx_K_boundByYear v1 (0 : Int32) c7) (fun c8 =>
              kv_bind1 (fx_K_boundByYear v2 (10 : Int32) c8) (fun c9 =>
              kv_let (c9 68 5) (fun v10 =>
              kv_bind1 (fx_K_storiesOf p1) (fun v11 =>
              (kv_loop (kv_u3 (fb_K_stories_111 v11 v10 p1 p3 p4)) ((0 : Int32), (0 : Int32), c9)).bind (Sum.elim (kv_u2 (fun x15 c16 =>
              some (x15, c16)))
               (kv_u2 (fun x17 c18 =>
              if p4 = (-1 : Int32) then
                some (x17, c18)
              else
                some ((-4 : Int32), c18)))))))))
            else
              some ((-1 : Int32), c)
          else
            some ((-1 : Int32), c))
        else
          some ((-1 : Int32), c)
      else
        some ((-1 : Int32), c))
    else
      some ((-1 : Int32), c))
  else
    some ((-1 : Int32), c))))
set_option maxRecDepth 20000 in
theorem cx_K_stories (d : Nat) (p1 : Int32) (p2 : Int32) (p3 : Int32) (p4 : Int32) (c : (Nat → Nat → Int32)) (y : (Nat → Nat → Int32) × (Nat → Int64) × (Nat → Int64)) : ∀ a, fx_K_stories p1 p2 p3 p4 c = some a → kv_C kM_K_stories (d + 4) [.ref 0, .int p1, .int p2, .int p3, .int p4] (c, y) (some (.int a.1), (a.2, y)) := by
  refine kv_entryX (E := fun a : (Int32 × (Nat → Nat → Int32)) => (some (.int a.1), (a.2, y))) rfl (Nat.le_of_ble_eq_true rfl) (fun o => ?_)
  unfold fx_K_stories
  show kv_X _ _ _ _ _ 0 [(0, .ref 0), (1, .int p1), (2, .int p2), (3, .int p3), (4, .int p4)] [] (c, y)
  refine kv_iload_n (pc := 0) 2 rfl rfl dk_K_stories_0 ?_
  refine kv_sipush (pc := 1) (v := (1000 : Int32)) dk_K_stories_1 kks_1000 ?_
  refine kv_idiv (pc := 4) dk_K_stories_4 kkn_1000 ?_
  refine kv_letI (fun v1 => ?_)
  refine kv_istore (pc := 5) (lv' := [(5, .int v1), (0, .ref 0), (1, .int p1), (2, .int p2), (3, .int p3), (4, .int p4)]) rfl (Nat.le_of_ble_eq_true rfl) dk_K_stories_5 ?_
  refine kv_iload_n (pc := 7) 3 rfl rfl dk_K_stories_7 ?_
  refine kv_sipush (pc := 8) (v := (1000 : Int32)) dk_K_stories_8 kks_1000 ?_
  refine kv_irem (pc := 11) dk_K_stories_11 kkn_1000 ?_
  refine kv_letI (fun v2 => ?_)
  refine kv_istore (pc := 12) (lv' := [(6, .int v2), (5, .int v1), (0, .ref 0), (1, .int p1), (2, .int p2), (3, .int p3), (4, .int p4)]) rfl (Nat.le_of_ble_eq_true rfl) dk_K_stories_12 ?_
  refine kv_aload_n (pc := 14) 2 rfl rfl dk_K_stories_14 ?_
  refine kv_iload_n (pc := 15) 3 rfl rfl dk_K_stories_15 ?_
  refine kv_cV_cZ (pc := 16) (as := [.int p1]) (st := []) ko_K_isStorySet kc_10 rfl rfl kr_0 kw_816 (Nat.le_of_ble_eq_true rfl) rfl dk_K_stories_16 (cx_K_isStorySet (d + 2) p1 c y) (fun b3 => ?_)
  refine kv_zif_eq (pc := 19) (tgt := 45) dk_K_stories_19 rfl ?_ ?_
  · refine kv_iconst (pc := 45) (v := (-1 : Int32)) dk_K_stories_45 kki_m1 ?_
    exact kv_iret (pc := 46) (fun h => h) rfl dk_K_stories_46
  · refine kv_iload (pc := 22) 1 rfl dk_K_stories_22 ?_
    refine kv_cS_cZ (pc := 24) (as := [.int v1]) (st := []) ko_K_isYear rfl kw_577 (Nat.le_of_ble_eq_true rfl) rfl dk_K_stories_24 (cx_K_isYear (d + 2) v1 c y) (fun b4 => ?_)
    refine kv_zif_eq (pc := 27) (tgt := 45) dk_K_stories_27 rfl ?_ ?_
    · refine kv_iconst (pc := 45) (v := (-1 : Int32)) dk_K_stories_45 kki_m1 ?_
      exact kv_iret (pc := 46) (fun h => h) rfl dk_K_stories_46
    · refine kv_iload (pc := 30) 0 rfl dk_K_stories_30 ?_
      refine kv_cS_cZ (pc := 32) (as := [.int v2]) (st := []) ko_K_isYear rfl kw_577 (Nat.le_of_ble_eq_true rfl) rfl dk_K_stories_32 (cx_K_isYear (d + 2) v2 c y) (fun b5 => ?_)
      refine kv_zif_eq (pc := 35) (tgt := 45) dk_K_stories_35 rfl ?_ ?_
      · refine kv_iconst (pc := 45) (v := (-1 : Int32)) dk_K_stories_45 kki_m1 ?_
        exact kv_iret (pc := 46) (fun h => h) rfl dk_K_stories_46
      · refine kv_iload (pc := 38) 0 rfl dk_K_stories_38 ?_
        refine kv_iload (pc := 40) 1 rfl dk_K_stories_40 ?_
        refine kv_icmp_gt (pc := 42) (tgt := 47) dk_K_stories_42 rfl ?_ ?_
        · refine kv_iload_n (pc := 47) 5 rfl rfl dk_K_stories_47 ?_
          refine kv_iconst (pc := 48) (v := (1 : Int32)) dk_K_stories_48 kki_1 ?_
          refine kv_sipush (pc := 49) (v := (9999 : Int32)) dk_K_stories_49 kks_9999 ?_
          refine kv_cS_cZ (pc := 52) (as := [.int p3, .int (1 : Int32), .int (9999 : Int32)]) (st := []) ko_K_isWithin rfl kw_512 (Nat.le_of_ble_eq_true rfl) rfl dk_K_stories_52 (cx_K_isWithin (d + 3) p3 (1 : Int32) (9999 : Int32) c y) (fun b6 => ?_)
          refine kv_zif_eq (pc := 55) (tgt := 64) dk_K_stories_55 rfl ?_ ?_
          · refine kv_iconst (pc := 64) (v := (-1 : Int32)) dk_K_stories_64 kki_m1 ?_
            exact kv_iret (pc := 65) (fun h => h) rfl dk_K_stories_65
          · refine kv_iload (pc := 58) 6 rfl dk_K_stories_58 ?_
            refine kv_iconst (pc := 60) (v := (-1 : Int32)) dk_K_stories_60 kki_m1 ?_
            refine kv_icmp_ge (pc := 61) (tgt := 66) dk_K_stories_61 rfl ?_ ?_
            · refine kv_aload_n (pc := 66) 2 rfl rfl dk_K_stories_66 ?_
              refine kv_getR (pc := 67) kf_K_29 kr_0 rfl kt_0_4 dk_K_stories_67 ?_
              refine kv_bipush (pc := 70) (v := (20 : Int32)) dk_K_stories_70 kkb_20 ?_
              refine kv_cV_cc (pc := 72) (as := [.int (20 : Int32)]) (st := []) ko_Net_start kc_4 rfl rfl kr_68 kw_674 (Nat.le_of_ble_eq_true rfl) rfl dk_K_stories_72 (cx_Net_start (d + 3) (20 : Int32) c y) (fun c7 => ?_)
              refine kv_aload_n (pc := 75) 2 rfl rfl dk_K_stories_75 ?_
              refine kv_iload (pc := 76) 1 rfl dk_K_stories_76 ?_
              refine kv_iconst (pc := 78) (v := (0 : Int32)) dk_K_stories_78 kki_0 ?_
              refine kv_cV_cc (pc := 79) (as := [.int v1, .int (0 : Int32)]) (st := []) ko_K_boundByYear kc_10 rfl rfl kr_0 kw_678 (Nat.le_of_ble_eq_true rfl) rfl dk_K_stories_79 (cx_K_boundByYear d v1 (0 : Int32) c7 y) (fun c8 => ?_)
              refine kv_aload_n (pc := 82) 2 rfl rfl dk_K_stories_82 ?_
              refine kv_iload (pc := 83) 0 rfl dk_K_stories_83 ?_
              refine kv_bipush (pc := 85) (v := (10 : Int32)) dk_K_stories_85 kkb_10 ?_
              refine kv_cV_cc (pc := 87) (as := [.int v2, .int (10 : Int32)]) (st := []) ko_K_boundByYear kc_10 rfl rfl kr_0 kw_678 (Nat.le_of_ble_eq_true rfl) rfl dk_K_stories_87 (cx_K_boundByYear d v2 (10 : Int32) c8 y) (fun c9 => ?_)
              refine kv_aload_n (pc := 90) 2 rfl rfl dk_K_stories_90 ?_
              refine kv_getR (pc := 91) kf_K_29 kr_0 rfl kt_0_4 dk_K_stories_91 ?_
              refine kv_getC (pc := 94) kf_K_252 kr_68 kn_68 rfl dk_K_stories_94 ?_
              refine kv_letI (fun v10 => ?_)
              refine kv_istore (pc := 97) (lv' := [(7, .int v10), (6, .int v2), (5, .int v1), (0, .ref 0), (1, .int p1), (2, .int p2), (3, .int p3), (4, .int p4)]) rfl (Nat.le_of_ble_eq_true rfl) dk_K_stories_97 ?_
              refine kv_iload_n (pc := 99) 4 rfl rfl dk_K_stories_99 ?_
              refine kv_cS_cI (pc := 100) (as := [.int p1]) (st := []) ko_K_storiesOf rfl kw_826 (Nat.le_of_ble_eq_true rfl) rfl dk_K_stories_100 (cx_K_storiesOf (d + 3) p1 c9 y) (fun v11 => ?_)
              refine kv_istore (pc := 103) (lv' := [(8, .int v11), (7, .int v10), (6, .int v2), (5, .int v1), (0, .ref 0), (1, .int p1), (2, .int p2), (3, .int p3), (4, .int p4)]) rfl (Nat.le_of_ble_eq_true rfl) dk_K_stories_103 ?_
              refine kv_iconst (pc := 105) (v := (0 : Int32)) dk_K_stories_105 kki_0 ?_
              refine kv_istore (pc := 106) (lv' := [(9, .int (0 : Int32)), (8, .int v11), (7, .int v10), (6, .int v2), (5, .int v1), (0, .ref 0), (1, .int p1), (2, .int p2), (3, .int p3), (4, .int p4)]) rfl (Nat.le_of_ble_eq_true rfl) dk_K_stories_106 ?_
              refine kv_iconst (pc := 108) (v := (0 : Int32)) dk_K_stories_108 kki_0 ?_
              refine kv_istore (pc := 109) (lv' := [(10, .int (0 : Int32)), (9, .int (0 : Int32)), (8, .int v11), (7, .int v10), (6, .int v2), (5, .int v1), (0, .ref 0), (1, .int p1), (2, .int p2), (3, .int p3), (4, .int p4)]) rfl (Nat.le_of_ble_eq_true rfl) dk_K_stories_109 ?_
              refine kv_sub (lv' := [(0, .ref 0), (1, .int p1), (3, .int p3), (4, .int p4), (7, .int v10), (8, .int v11), (9, .int (0 : Int32)), (10, .int (0 : Int32))]) [6, 7, 9, 10, 3, 2, 1, 0] rfl ?_
              refine kv_lp_3_2_2 (LV := fun x12 x13 c14 => [(0, .ref 0), (1, .int p1), (3, .int p3), (4, .int p4), (7, .int v10), (8, .int v11), (9, .int x12), (10, .int x13)]) (WW := fun x12 x13 c14 => (c14, y)) (LE1 := fun x15 c16 => [(10, .int x15)]) (WE1 := fun x15 c16 => (c16, y)) (pe1 := 152) (LE2 := fun x17 c18 => [(4, .int p4), (9, .int x17)]) (WE2 := fun x17 c18 => (c18, y)) (pe2 := 164) ?_ ?_ ?_
              · intro x15 c16
                show kv_X _ _ _ _ _ 152 [(10, .int x15)] [] (c16, y)
                refine kv_iload (pc := 152) 0 rfl dk_K_stories_152 ?_
                exact kv_iret (pc := 154) (fun h => h) rfl dk_K_stories_154
              · intro x17 c18
                show kv_X _ _ _ _ _ 164 [(4, .int p4), (9, .int x17)] [] (c18, y)
                refine kv_iload (pc := 164) 0 rfl dk_K_stories_164 ?_
                refine kv_iconst (pc := 166) (v := (-1 : Int32)) dk_K_stories_166 kki_m1 ?_
                refine kv_icmp_ne (pc := 167) (tgt := 175) dk_K_stories_167 rfl ?_ ?_
                · refine kv_bipush (pc := 175) (v := (-4 : Int32)) dk_K_stories_175 kkb_m4 ?_
                  exact kv_iret (pc := 177) (fun h => h) rfl dk_K_stories_177
                · refine kv_iload (pc := 170) 1 rfl dk_K_stories_170 ?_
                  refine kv_goto (pc := 172) (tgt := 177) dk_K_stories_172 rfl ?_
                  exact kv_iret (pc := 177) (fun h => h) rfl dk_K_stories_177
              · intro hx111_0 hx111_1 x12 x13 c14
                show kv_X _ _ _ _ (fb_K_stories_111 v11 v10 p1 p3 p4 x12 x13 c14) 111 [(0, .ref 0), (1, .int p1), (3, .int p3), (4, .int p4), (7, .int v10), (8, .int v11), (9, .int x12), (10, .int x13)] [] (c14, y)
                unfold fb_K_stories_111
                refine kv_iload (pc := 111) 7 rfl dk_K_stories_111 ?_
                refine kv_iload (pc := 113) 5 rfl dk_K_stories_113 ?_
                refine kv_icmp_ge (pc := 115) (tgt := 164) dk_K_stories_115 rfl ?_ ?_
                · exact kv_sub [3, 6] rfl (kv_leaf (hx111_1 _ _))
                · refine kv_aload_n (pc := 118) 0 rfl rfl dk_K_stories_118 ?_
                  refine kv_getR (pc := 119) kf_K_29 kr_0 rfl kt_0_4 dk_K_stories_119 ?_
                  refine kv_iload (pc := 122) 4 rfl dk_K_stories_122 ?_
                  refine kv_cV_cc (pc := 124) (as := [.int v10]) (st := []) ko_Net_cutTo kc_4 rfl rfl kr_68 kw_829 (Nat.le_of_ble_eq_true rfl) rfl dk_K_stories_124 (cx_Net_cutTo (d + 3) v10 c14 y) (fun c19 => ?_)
                  refine kv_aload_n (pc := 127) 0 rfl rfl dk_K_stories_127 ?_
                  refine kv_iload_n (pc := 128) 1 rfl rfl dk_K_stories_128 ?_
                  refine kv_iload (pc := 129) 7 rfl dk_K_stories_129 ?_
                  refine kv_iload_n (pc := 131) 2 rfl rfl dk_K_stories_131 ?_
                  refine kv_cV_cc (pc := 132) (as := [.int p1, .int x13, .int p3]) (st := []) ko_K_tellStory kc_10 rfl rfl kr_0 kw_833 (Nat.le_of_ble_eq_true rfl) rfl dk_K_stories_132 (cx_K_tellStory d p1 x13 p3 c19 y) (fun c20 => ?_)
                  refine kv_aload_n (pc := 135) 0 rfl rfl dk_K_stories_135 ?_
                  refine kv_getR (pc := 136) kf_K_29 kr_0 rfl kt_0_4 dk_K_stories_136 ?_
                  refine kv_cV_cZc (pc := 139) (as := []) (st := []) ko_Net_holds kc_4 rfl rfl kr_68 kw_710 (Nat.le_of_ble_eq_true rfl) rfl dk_K_stories_139 (cx_Net_holds (d + 1) c20 y) (fun b21 c22 => ?_)
                  refine kv_cut_1 (J := fj_K_stories_158 x13 c22) (pcj := 158) (LJ := fun x23 => [(0, .ref 0), (1, .int p1), (3, .int p3), (4, .int p4), (7, .int v10), (8, .int v11), (9, .int x23), (10, .int x13)]) (SJ := fun x23 => []) (WJ := fun x23 => (c22, y)) ?_ (fun hj158 => ?_)
                  · intro x23
                    show kv_X _ _ _ _ (fj_K_stories_158 x13 c22 x23) 158 [(0, .ref 0), (1, .int p1), (3, .int p3), (4, .int p4), (7, .int v10), (8, .int v11), (9, .int x23), (10, .int x13)] [] (c22, y)
                    unfold fj_K_stories_158
                    refine kv_iinc (pc := 158) (kk := (1 : Int32)) (lv' := [(10, .int (x13 + (1 : Int32))), (0, .ref 0), (1, .int p1), (3, .int p3), (4, .int p4), (7, .int v10), (8, .int v11), (9, .int x23)]) 7 rfl kki_1 rfl (Nat.le_of_ble_eq_true rfl) dk_K_stories_158 ?_
                    refine kv_goto (pc := 161) (tgt := 111) dk_K_stories_161 rfl ?_
                    exact kv_sub [1, 2, 3, 4, 5, 6, 7, 0] rfl (kv_leaf (fun h => h))
                  refine kv_zif_eq (pc := 142) (tgt := 158) dk_K_stories_142 rfl ?_ ?_
                  · exact hj158 x12
                  · refine kv_iload (pc := 145) 6 rfl dk_K_stories_145 ?_
                    refine kv_iload (pc := 147) 3 rfl dk_K_stories_147 ?_
                    refine kv_icmp_ne (pc := 149) (tgt := 155) dk_K_stories_149 rfl ?_ ?_
                    · refine kv_iinc (pc := 155) (kk := (1 : Int32)) (lv' := [(9, .int (x12 + (1 : Int32))), (0, .ref 0), (1, .int p1), (3, .int p3), (4, .int p4), (7, .int v10), (8, .int v11), (10, .int x13)]) 6 rfl kki_1 rfl (Nat.le_of_ble_eq_true rfl) dk_K_stories_155 ?_
                      exact kv_sub [1, 2, 3, 4, 5, 6, 0, 7] rfl (hj158 (x12 + (1 : Int32)))
                    · exact kv_sub [7] rfl (kv_leaf (hx111_0 _ _))
            · refine kv_iconst (pc := 64) (v := (-1 : Int32)) dk_K_stories_64 kki_m1 ?_
              exact kv_iret (pc := 65) (fun h => h) rfl dk_K_stories_65
        · refine kv_iconst (pc := 45) (v := (-1 : Int32)) dk_K_stories_45 kki_m1 ?_
          exact kv_iret (pc := 46) (fun h => h) rfl dk_K_stories_46
theorem dk_D_bits_0 : decode prog_13_method_47_code 0 = .ok (.iconst 0, 1) := by decide +kernel
theorem dk_D_bits_1 : decode prog_13_method_47_code 1 = .ok (.istore_n 1, 1) := by decide +kernel
theorem dk_D_bits_2 : decode prog_13_method_47_code 2 = .ok (.iload_n 0, 1) := by decide +kernel
theorem dk_D_bits_3 : decode prog_13_method_47_code 3 = .ok (.istore_n 2, 1) := by decide +kernel
theorem dk_D_bits_4 : decode prog_13_method_47_code 4 = .ok (.iload_n 2, 1) := by decide +kernel
theorem dk_D_bits_5 : decode prog_13_method_47_code 5 = .ok (.ifCond .le 16, 3) := by decide +kernel
theorem dk_D_bits_8 : decode prog_13_method_47_code 8 = .ok (.iload_n 1, 1) := by decide +kernel
theorem dk_D_bits_9 : decode prog_13_method_47_code 9 = .ok (.iload_n 2, 1) := by decide +kernel
theorem dk_D_bits_10 : decode prog_13_method_47_code 10 = .ok (.iconst 1, 1) := by decide +kernel
theorem dk_D_bits_11 : decode prog_13_method_47_code 11 = .ok (.iand, 1) := by decide +kernel
theorem dk_D_bits_12 : decode prog_13_method_47_code 12 = .ok (.iadd, 1) := by decide +kernel
theorem dk_D_bits_13 : decode prog_13_method_47_code 13 = .ok (.istore_n 1, 1) := by decide +kernel
theorem dk_D_bits_14 : decode prog_13_method_47_code 14 = .ok (.iload_n 2, 1) := by decide +kernel
theorem dk_D_bits_15 : decode prog_13_method_47_code 15 = .ok (.iconst 1, 1) := by decide +kernel
theorem dk_D_bits_16 : decode prog_13_method_47_code 16 = .ok (.ishr, 1) := by decide +kernel
theorem dk_D_bits_17 : decode prog_13_method_47_code 17 = .ok (.istore_n 2, 1) := by decide +kernel
theorem dk_D_bits_18 : decode prog_13_method_47_code 18 = .ok (.goto (-14), 3) := by decide +kernel
theorem dk_D_bits_21 : decode prog_13_method_47_code 21 = .ok (.iload_n 1, 1) := by decide +kernel
theorem dk_D_bits_22 : decode prog_13_method_47_code 22 = .ok (.ireturn, 1) := by decide +kernel
noncomputable def fb_D_bits_4 (x1 : Int32) (x2 : Int32) : Option ((Int32 × Int32) ⊕ Int32) :=
  if x2 ≤ 0 then
    some (.inr x1)
  else
    kv_let (x1 + (x2 &&& (1 : Int32))) (fun v4 =>
    kv_let (x2 >>> ((1 : Int32) &&& 31)) (fun v5 =>
    some (.inl (v4, v5))))
noncomputable def fx_D_bits (p0 : Int32) : Option Int32 :=
  (kv_loop (kv_u2 (fb_D_bits_4)) ((0 : Int32), p0)).bind (kv_u1 (fun x3 =>
  some x3))
set_option maxRecDepth 20000 in
theorem cx_D_bits (d : Nat) (p0 : Int32) (c : (Nat → Nat → Int32)) (m : (Nat → Nat → Int32)) (f : (Nat → Int64)) (u : (Nat → Int64)) : ∀ a, fx_D_bits p0 = some a → kv_C kM_D_bits (d + 0) [.int p0] (c, m, f, u) (some (.int a), (c, m, f, u)) := by
  refine kv_entryX (E := fun a : Int32 => (some (.int a), (c, m, f, u))) rfl (Nat.le_of_ble_eq_true rfl) (fun o => ?_)
  unfold fx_D_bits
  show kv_X _ _ _ _ _ 0 [(0, .int p0)] [] (c, m, f, u)
  refine kv_iconst (pc := 0) (v := (0 : Int32)) dk_D_bits_0 kki_0 ?_
  refine kv_istore_n (pc := 1) (lv' := [(1, .int (0 : Int32)), (0, .int p0)]) rfl (Nat.le_of_ble_eq_true rfl) rfl dk_D_bits_1 ?_
  refine kv_iload_n (pc := 2) 1 rfl rfl dk_D_bits_2 ?_
  refine kv_istore_n (pc := 3) (lv' := [(2, .int p0), (1, .int (0 : Int32)), (0, .int p0)]) rfl (Nat.le_of_ble_eq_true rfl) rfl dk_D_bits_3 ?_
  refine kv_sub (lv' := [(1, .int (0 : Int32)), (2, .int p0)]) [1, 0] rfl ?_
  refine kv_lp_2_1 (LV := fun x1 x2 => [(1, .int x1), (2, .int x2)]) (WW := fun x1 x2 => (c, m, f, u)) (LE1 := fun x3 => [(1, .int x3)]) (WE1 := fun x3 => (c, m, f, u)) (pe1 := 21) ?_ ?_
  · intro x3
    show kv_X _ _ _ _ _ 21 [(1, .int x3)] [] (c, m, f, u)
    refine kv_iload_n (pc := 21) 0 rfl rfl dk_D_bits_21 ?_
    exact kv_iret (pc := 22) (fun h => h) rfl dk_D_bits_22
  · intro hx4_0 x1 x2
    show kv_X _ _ _ _ (fb_D_bits_4 x1 x2) 4 [(1, .int x1), (2, .int x2)] [] (c, m, f, u)
    unfold fb_D_bits_4
    refine kv_iload_n (pc := 4) 1 rfl rfl dk_D_bits_4 ?_
    refine kv_if_le (pc := 5) (tgt := 21) dk_D_bits_5 rfl ?_ ?_
    · exact kv_sub [0] rfl (kv_leaf (hx4_0 _))
    · refine kv_iload_n (pc := 8) 0 rfl rfl dk_D_bits_8 ?_
      refine kv_iload_n (pc := 9) 1 rfl rfl dk_D_bits_9 ?_
      refine kv_iconst (pc := 10) (v := (1 : Int32)) dk_D_bits_10 kki_1 ?_
      refine kv_iand (pc := 11) dk_D_bits_11 ?_
      refine kv_iadd (pc := 12) dk_D_bits_12 ?_
      refine kv_letI (fun v4 => ?_)
      refine kv_istore_n (pc := 13) (lv' := [(1, .int v4), (2, .int x2)]) rfl (Nat.le_of_ble_eq_true rfl) rfl dk_D_bits_13 ?_
      refine kv_iload_n (pc := 14) 1 rfl rfl dk_D_bits_14 ?_
      refine kv_iconst (pc := 15) (v := (1 : Int32)) dk_D_bits_15 kki_1 ?_
      refine kv_ishr (pc := 16) dk_D_bits_16 ?_
      refine kv_letI (fun v5 => ?_)
      refine kv_istore_n (pc := 17) (lv' := [(2, .int v5), (1, .int v4)]) rfl (Nat.le_of_ble_eq_true rfl) rfl dk_D_bits_17 ?_
      refine kv_goto (pc := 18) (tgt := 4) dk_D_bits_18 rfl ?_
      exact kv_sub [1, 0] rfl (kv_leaf (fun h => h))
theorem dk_D_isLet_0 : decode prog_13_method_48_code 0 = .ok (.aload_n 0, 1) := by decide +kernel
theorem dk_D_isLet_1 : decode prog_13_method_48_code 1 = .ok (.getfield 9, 3) := by decide +kernel
theorem dk_D_isLet_4 : decode prog_13_method_48_code 4 = .ok (.iconst 1, 1) := by decide +kernel
theorem dk_D_isLet_5 : decode prog_13_method_48_code 5 = .ok (.iaload, 1) := by decide +kernel
theorem dk_D_isLet_6 : decode prog_13_method_48_code 6 = .ok (.istore 6, 2) := by decide +kernel
theorem dk_D_isLet_8 : decode prog_13_method_48_code 8 = .ok (.aload_n 0, 1) := by decide +kernel
theorem dk_D_isLet_9 : decode prog_13_method_48_code 9 = .ok (.iconst 2, 1) := by decide +kernel
theorem dk_D_isLet_10 : decode prog_13_method_48_code 10 = .ok (.iload 6, 2) := by decide +kernel
theorem dk_D_isLet_12 : decode prog_13_method_48_code 12 = .ok (.imul, 1) := by decide +kernel
theorem dk_D_isLet_13 : decode prog_13_method_48_code 13 = .ok (.invokevirtual 157, 3) := by decide +kernel
theorem dk_D_isLet_16 : decode prog_13_method_48_code 16 = .ok (.aload_n 0, 1) := by decide +kernel
theorem dk_D_isLet_17 : decode prog_13_method_48_code 17 = .ok (.iload_n 2, 1) := by decide +kernel
theorem dk_D_isLet_18 : decode prog_13_method_48_code 18 = .ok (.iconst 0, 1) := by decide +kernel
theorem dk_D_isLet_19 : decode prog_13_method_48_code 19 = .ok (.invokevirtual 161, 3) := by decide +kernel
theorem dk_D_isLet_22 : decode prog_13_method_48_code 22 = .ok (.aload_n 0, 1) := by decide +kernel
theorem dk_D_isLet_23 : decode prog_13_method_48_code 23 = .ok (.iload_n 3, 1) := by decide +kernel
theorem dk_D_isLet_24 : decode prog_13_method_48_code 24 = .ok (.iload 6, 2) := by decide +kernel
theorem dk_D_isLet_26 : decode prog_13_method_48_code 26 = .ok (.invokevirtual 161, 3) := by decide +kernel
theorem dk_D_isLet_29 : decode prog_13_method_48_code 29 = .ok (.iload 5, 2) := by decide +kernel
theorem dk_D_isLet_31 : decode prog_13_method_48_code 31 = .ok (.istore 7, 2) := by decide +kernel
theorem dk_D_isLet_33 : decode prog_13_method_48_code 33 = .ok (.iconst 0, 1) := by decide +kernel
theorem dk_D_isLet_34 : decode prog_13_method_48_code 34 = .ok (.istore 8, 2) := by decide +kernel
theorem dk_D_isLet_36 : decode prog_13_method_48_code 36 = .ok (.iload 8, 2) := by decide +kernel
theorem dk_D_isLet_38 : decode prog_13_method_48_code 38 = .ok (.iload 6, 2) := by decide +kernel
theorem dk_D_isLet_40 : decode prog_13_method_48_code 40 = .ok (.if_icmp .ge 91, 3) := by decide +kernel
theorem dk_D_isLet_43 : decode prog_13_method_48_code 43 = .ok (.iload_n 1, 1) := by decide +kernel
theorem dk_D_isLet_44 : decode prog_13_method_48_code 44 = .ok (.iload 8, 2) := by decide +kernel
theorem dk_D_isLet_46 : decode prog_13_method_48_code 46 = .ok (.ishr, 1) := by decide +kernel
theorem dk_D_isLet_47 : decode prog_13_method_48_code 47 = .ok (.iconst 1, 1) := by decide +kernel
theorem dk_D_isLet_48 : decode prog_13_method_48_code 48 = .ok (.iand, 1) := by decide +kernel
theorem dk_D_isLet_49 : decode prog_13_method_48_code 49 = .ok (.ifCond .ne 6, 3) := by decide +kernel
theorem dk_D_isLet_52 : decode prog_13_method_48_code 52 = .ok (.goto 73, 3) := by decide +kernel
theorem dk_D_isLet_55 : decode prog_13_method_48_code 55 = .ok (.iload 7, 2) := by decide +kernel
theorem dk_D_isLet_57 : decode prog_13_method_48_code 57 = .ok (.iconst 3, 1) := by decide +kernel
theorem dk_D_isLet_58 : decode prog_13_method_48_code 58 = .ok (.irem, 1) := by decide +kernel
theorem dk_D_isLet_59 : decode prog_13_method_48_code 59 = .ok (.istore 9, 2) := by decide +kernel
theorem dk_D_isLet_61 : decode prog_13_method_48_code 61 = .ok (.iload 7, 2) := by decide +kernel
theorem dk_D_isLet_63 : decode prog_13_method_48_code 63 = .ok (.iconst 3, 1) := by decide +kernel
theorem dk_D_isLet_64 : decode prog_13_method_48_code 64 = .ok (.idiv, 1) := by decide +kernel
theorem dk_D_isLet_65 : decode prog_13_method_48_code 65 = .ok (.istore 7, 2) := by decide +kernel
theorem dk_D_isLet_67 : decode prog_13_method_48_code 67 = .ok (.aload_n 0, 1) := by decide +kernel
theorem dk_D_isLet_68 : decode prog_13_method_48_code 68 = .ok (.iload 6, 2) := by decide +kernel
theorem dk_D_isLet_70 : decode prog_13_method_48_code 70 = .ok (.iload 8, 2) := by decide +kernel
theorem dk_D_isLet_72 : decode prog_13_method_48_code 72 = .ok (.iadd, 1) := by decide +kernel
theorem dk_D_isLet_73 : decode prog_13_method_48_code 73 = .ok (.iload 8, 2) := by decide +kernel
theorem dk_D_isLet_75 : decode prog_13_method_48_code 75 = .ok (.iload 9, 2) := by decide +kernel
theorem dk_D_isLet_77 : decode prog_13_method_48_code 77 = .ok (.ifCond .ne 7, 3) := by decide +kernel
theorem dk_D_isLet_80 : decode prog_13_method_48_code 80 = .ok (.lconst 0, 1) := by decide +kernel
theorem dk_D_isLet_81 : decode prog_13_method_48_code 81 = .ok (.goto 17, 3) := by decide +kernel
theorem dk_D_isLet_84 : decode prog_13_method_48_code 84 = .ok (.iload 9, 2) := by decide +kernel
theorem dk_D_isLet_86 : decode prog_13_method_48_code 86 = .ok (.iconst 1, 1) := by decide +kernel
theorem dk_D_isLet_87 : decode prog_13_method_48_code 87 = .ok (.if_icmp .ne 7, 3) := by decide +kernel
theorem dk_D_isLet_90 : decode prog_13_method_48_code 90 = .ok (.lconst 1, 1) := by decide +kernel
theorem dk_D_isLet_91 : decode prog_13_method_48_code 91 = .ok (.goto 7, 3) := by decide +kernel
theorem dk_D_isLet_94 : decode prog_13_method_48_code 94 = .ok (.iload 4, 2) := by decide +kernel
theorem dk_D_isLet_96 : decode prog_13_method_48_code 96 = .ok (.ineg, 1) := by decide +kernel
theorem dk_D_isLet_97 : decode prog_13_method_48_code 97 = .ok (.i2l, 1) := by decide +kernel
theorem dk_D_isLet_98 : decode prog_13_method_48_code 98 = .ok (.iload 9, 2) := by decide +kernel
theorem dk_D_isLet_100 : decode prog_13_method_48_code 100 = .ok (.ifCond .ne 7, 3) := by decide +kernel
theorem dk_D_isLet_103 : decode prog_13_method_48_code 103 = .ok (.lconst 0, 1) := by decide +kernel
theorem dk_D_isLet_104 : decode prog_13_method_48_code 104 = .ok (.goto 18, 3) := by decide +kernel
theorem dk_D_isLet_107 : decode prog_13_method_48_code 107 = .ok (.iload 9, 2) := by decide +kernel
theorem dk_D_isLet_109 : decode prog_13_method_48_code 109 = .ok (.iconst 1, 1) := by decide +kernel
theorem dk_D_isLet_110 : decode prog_13_method_48_code 110 = .ok (.if_icmp .ne 9, 3) := by decide +kernel
theorem dk_D_isLet_113 : decode prog_13_method_48_code 113 = .ok (.iload 4, 2) := by decide +kernel
theorem dk_D_isLet_115 : decode prog_13_method_48_code 115 = .ok (.i2l, 1) := by decide +kernel
theorem dk_D_isLet_116 : decode prog_13_method_48_code 116 = .ok (.goto 6, 3) := by decide +kernel
theorem dk_D_isLet_119 : decode prog_13_method_48_code 119 = .ok (.ldc2_w 199, 3) := by decide +kernel
theorem dk_D_isLet_122 : decode prog_13_method_48_code 122 = .ok (.invokevirtual 149, 3) := by decide +kernel
theorem dk_D_isLet_125 : decode prog_13_method_48_code 125 = .ok (.iinc 8 1, 3) := by decide +kernel
theorem dk_D_isLet_128 : decode prog_13_method_48_code 128 = .ok (.goto (-92), 3) := by decide +kernel
theorem dk_D_isLet_131 : decode prog_13_method_48_code 131 = .ok (.aload_n 0, 1) := by decide +kernel
theorem dk_D_isLet_132 : decode prog_13_method_48_code 132 = .ok (.invokevirtual 165, 3) := by decide +kernel
theorem dk_D_isLet_135 : decode prog_13_method_48_code 135 = .ok (.ireturn, 1) := by decide +kernel
noncomputable def fj_D_isLet_125 (x7 : Int32) (x10 : Int32) (f11 : (Nat → Int64)) : Option ((Int32 × Int32 × (Nat → Int64)) ⊕ (Nat → Int64)) :=
  some (.inl (x10, (x7 + (1 : Int32)), f11))
noncomputable def fj_D_isLet_122 (v1 : Int32) (x7 : Int32) (x14 : Int64) (f8 : (Nat → Int64)) (v13 : Int32) (x15 : Int64) : Option ((Int32 × Int32 × (Nat → Int64)) ⊕ (Nat → Int64)) :=
  kv_bind1 (fx_D_binds (v1 + x7) x7 x14 x15 f8) (fun f16 =>
  fj_D_isLet_125 x7 v13 f16)
noncomputable def fj_D_isLet_98 (v12 : Int32) (v1 : Int32) (x7 : Int32) (f8 : (Nat → Int64)) (v13 : Int32) (p4 : Int32) (x14 : Int64) : Option ((Int32 × Int32 × (Nat → Int64)) ⊕ (Nat → Int64)) :=
  if v12 = 0 then
    fj_D_isLet_122 v1 x7 x14 f8 v13 (0 : Int64)
  else
    if v12 = (1 : Int32) then
      fj_D_isLet_122 v1 x7 x14 f8 v13 p4.toInt64
    else
      fj_D_isLet_122 v1 x7 x14 f8 v13 (-1 : Int64)
noncomputable def fb_D_isLet_36 (v1 : Int32) (p1 : Int32) (p4 : Int32) (x6 : Int32) (x7 : Int32) (f8 : (Nat → Int64)) : Option ((Int32 × Int32 × (Nat → Int64)) ⊕ (Nat → Int64)) :=
  if v1 ≤ x7 then
    some (.inr f8)
  else
    if ((p1 >>> (x7 &&& 31)) &&& (1 : Int32)) = 0 then
      fj_D_isLet_125 x7 x6 f8
    else
      kv_let (x6 - x6 / (3 : Int32) * (3 : Int32)) (fun v12 =>
      kv_let (x6 / (3 : Int32)) (fun v13 =>
      if v12 = 0 then
        fj_D_isLet_98 v12 v1 x7 f8 v13 p4 (0 : Int64)
      else
        if v12 = (1 : Int32) then
          fj_D_isLet_98 v12 v1 x7 f8 v13 p4 (1 : Int64)
        else
          fj_D_isLet_98 v12 v1 x7 f8 v13 p4 (-p4).toInt64))
noncomputable def fx_D_isLet (p1 : Int32) (p2 : Int32) (p3 : Int32) (p4 : Int32) (p5 : Int32) (m : (Nat → Nat → Int32)) (f : (Nat → Int64)) : Option (Bool × (Nat → Nat → Int32) × (Nat → Int64)) :=
  kv_let (m 85 1) (fun v1 =>
  kv_bind2 (fx_D_begins ((2 : Int32) * v1) m f) (fun m2 f3 =>
  kv_bind1 (fx_D_bindsYear p2 (0 : Int32) m2 f3) (fun f4 =>
  kv_bind1 (fx_D_bindsYear p3 v1 m2 f4) (fun f5 =>
  (kv_loop (kv_u3 (fb_D_isLet_36 v1 p1 p4)) (p5, (0 : Int32), f5)).bind (kv_u1 (fun f9 =>
  kv_bind2 (fx_D_closes m2 f9) (fun b17 f18 =>
  some (b17, m2, f18))))))))
set_option maxRecDepth 20000 in
theorem cx_D_isLet (d : Nat) (p1 : Int32) (p2 : Int32) (p3 : Int32) (p4 : Int32) (p5 : Int32) (c : (Nat → Nat → Int32)) (m : (Nat → Nat → Int32)) (f : (Nat → Int64)) (u : (Nat → Int64)) : ∀ a, fx_D_isLet p1 p2 p3 p4 p5 m f = some a → kv_C kM_D_isLet (d + 3) [.ref 84, .int p1, .int p2, .int p3, .int p4, .int p5] (c, m, f, u) (some (.int (kv_b a.1)), (c, a.2.1, a.2.2, u)) := by
  refine kv_entryX (E := fun a : (Bool × (Nat → Nat → Int32) × (Nat → Int64)) => (some (.int (kv_b a.1)), (c, a.2.1, a.2.2, u))) rfl (Nat.le_of_ble_eq_true rfl) (fun o => ?_)
  unfold fx_D_isLet
  show kv_X _ _ _ _ _ 0 [(0, .ref 84), (1, .int p1), (2, .int p2), (3, .int p3), (4, .int p4), (5, .int p5)] [] (c, m, f, u)
  refine kv_aload_n (pc := 0) 0 rfl rfl dk_D_isLet_0 ?_
  refine kv_getR (pc := 1) kf_D_9 kr_84 rfl kt_84_0 dk_D_isLet_1 ?_
  refine kv_iconst (pc := 4) (v := (1 : Int32)) dk_D_isLet_4 kki_1 ?_
  refine kv_aldM (pc := 5) kr_85 kn_85 kl_85 kkg_1_444 (j := 1) kkx_1 dk_D_isLet_5 ?_
  refine kv_letI (fun v1 => ?_)
  refine kv_istore (pc := 6) (lv' := [(6, .int v1), (0, .ref 84), (1, .int p1), (2, .int p2), (3, .int p3), (4, .int p4), (5, .int p5)]) rfl (Nat.le_of_ble_eq_true rfl) dk_D_isLet_6 ?_
  refine kv_aload_n (pc := 8) 1 rfl rfl dk_D_isLet_8 ?_
  refine kv_iconst (pc := 9) (v := (2 : Int32)) dk_D_isLet_9 kki_2 ?_
  refine kv_iload (pc := 10) 0 rfl dk_D_isLet_10 ?_
  refine kv_imul (pc := 12) dk_D_isLet_12 ?_
  refine kv_cV_mmf (pc := 13) (as := [.int ((2 : Int32) * v1)]) (st := []) ko_D_begins kc_11 rfl rfl kr_84 kw_1455 (Nat.le_of_ble_eq_true rfl) rfl dk_D_isLet_13 (cx_D_begins (d + 2) ((2 : Int32) * v1) c m f u) (fun m2 f3 => ?_)
  refine kv_aload_n (pc := 16) 1 rfl rfl dk_D_isLet_16 ?_
  refine kv_iload_n (pc := 17) 3 rfl rfl dk_D_isLet_17 ?_
  refine kv_iconst (pc := 18) (v := (0 : Int32)) dk_D_isLet_18 kki_0 ?_
  refine kv_cV_mf (pc := 19) (as := [.int p2, .int (0 : Int32)]) (st := []) ko_D_bindsYear kc_11 rfl rfl kr_84 kw_1460 (Nat.le_of_ble_eq_true rfl) rfl dk_D_isLet_19 (cx_D_bindsYear d p2 (0 : Int32) c m2 f3 u) (fun f4 => ?_)
  refine kv_aload_n (pc := 22) 1 rfl rfl dk_D_isLet_22 ?_
  refine kv_iload_n (pc := 23) 4 rfl rfl dk_D_isLet_23 ?_
  refine kv_iload (pc := 24) 0 rfl dk_D_isLet_24 ?_
  refine kv_cV_mf (pc := 26) (as := [.int p3, .int v1]) (st := []) ko_D_bindsYear kc_11 rfl rfl kr_84 kw_1460 (Nat.le_of_ble_eq_true rfl) rfl dk_D_isLet_26 (cx_D_bindsYear d p3 v1 c m2 f4 u) (fun f5 => ?_)
  refine kv_iload (pc := 29) 6 rfl dk_D_isLet_29 ?_
  refine kv_istore (pc := 31) (lv' := [(7, .int p5), (6, .int v1), (0, .ref 84), (1, .int p1), (2, .int p2), (3, .int p3), (4, .int p4), (5, .int p5)]) rfl (Nat.le_of_ble_eq_true rfl) dk_D_isLet_31 ?_
  refine kv_iconst (pc := 33) (v := (0 : Int32)) dk_D_isLet_33 kki_0 ?_
  refine kv_istore (pc := 34) (lv' := [(8, .int (0 : Int32)), (7, .int p5), (6, .int v1), (0, .ref 84), (1, .int p1), (2, .int p2), (3, .int p3), (4, .int p4), (5, .int p5)]) rfl (Nat.le_of_ble_eq_true rfl) dk_D_isLet_34 ?_
  refine kv_sub (lv' := [(0, .ref 84), (1, .int p1), (4, .int p4), (6, .int v1), (7, .int p5), (8, .int (0 : Int32))]) [3, 4, 7, 2, 1, 0] rfl ?_
  refine kv_lp_3_1 (LV := fun x6 x7 f8 => [(0, .ref 84), (1, .int p1), (4, .int p4), (6, .int v1), (7, .int x6), (8, .int x7)]) (WW := fun x6 x7 f8 => (c, m2, f8, u)) (LE1 := fun f9 => [(0, .ref 84)]) (WE1 := fun f9 => (c, m2, f9, u)) (pe1 := 131) ?_ ?_
  · intro f9
    show kv_X _ _ _ _ _ 131 [(0, .ref 84)] [] (c, m2, f9, u)
    refine kv_aload_n (pc := 131) 0 rfl rfl dk_D_isLet_131 ?_
    refine kv_cV_mZf (pc := 132) (as := []) (st := []) ko_D_closes kc_11 rfl rfl kr_84 kw_1472 (Nat.le_of_ble_eq_true rfl) rfl dk_D_isLet_132 (cx_D_closes (d + 2) c m2 f9 u) (fun b17 f18 => ?_)
    exact kv_zret (pc := 135) (b := b17) (fun h => h) rfl dk_D_isLet_135
  · intro hx36_0 x6 x7 f8
    show kv_X _ _ _ _ (fb_D_isLet_36 v1 p1 p4 x6 x7 f8) 36 [(0, .ref 84), (1, .int p1), (4, .int p4), (6, .int v1), (7, .int x6), (8, .int x7)] [] (c, m2, f8, u)
    unfold fb_D_isLet_36
    refine kv_iload (pc := 36) 5 rfl dk_D_isLet_36 ?_
    refine kv_iload (pc := 38) 3 rfl dk_D_isLet_38 ?_
    refine kv_icmp_ge (pc := 40) (tgt := 131) dk_D_isLet_40 rfl ?_ ?_
    · exact kv_sub [0] rfl (kv_leaf (hx36_0 _))
    · refine kv_iload_n (pc := 43) 1 rfl rfl dk_D_isLet_43 ?_
      refine kv_iload (pc := 44) 5 rfl dk_D_isLet_44 ?_
      refine kv_ishr (pc := 46) dk_D_isLet_46 ?_
      refine kv_iconst (pc := 47) (v := (1 : Int32)) dk_D_isLet_47 kki_1 ?_
      refine kv_iand (pc := 48) dk_D_isLet_48 ?_
      refine kv_cut_2 (J := fj_D_isLet_125 x7) (pcj := 125) (LJ := fun x10 f11 => [(0, .ref 84), (1, .int p1), (4, .int p4), (6, .int v1), (7, .int x10), (8, .int x7)]) (SJ := fun x10 f11 => []) (WJ := fun x10 f11 => (c, m2, f11, u)) ?_ (fun hj125 => ?_)
      · intro x10 f11
        show kv_X _ _ _ _ (fj_D_isLet_125 x7 x10 f11) 125 [(0, .ref 84), (1, .int p1), (4, .int p4), (6, .int v1), (7, .int x10), (8, .int x7)] [] (c, m2, f11, u)
        unfold fj_D_isLet_125
        refine kv_iinc (pc := 125) (kk := (1 : Int32)) (lv' := [(8, .int (x7 + (1 : Int32))), (0, .ref 84), (1, .int p1), (4, .int p4), (6, .int v1), (7, .int x10)]) 5 rfl kki_1 rfl (Nat.le_of_ble_eq_true rfl) dk_D_isLet_125 ?_
        refine kv_goto (pc := 128) (tgt := 36) dk_D_isLet_128 rfl ?_
        exact kv_sub [1, 2, 3, 4, 5, 0] rfl (kv_leaf (fun h => h))
      refine kv_if_ne (pc := 49) (tgt := 55) dk_D_isLet_49 rfl ?_ ?_
      · refine kv_iload (pc := 55) 4 rfl dk_D_isLet_55 ?_
        refine kv_iconst (pc := 57) (v := (3 : Int32)) dk_D_isLet_57 kki_3 ?_
        refine kv_irem (pc := 58) dk_D_isLet_58 kkn_3 ?_
        refine kv_letI (fun v12 => ?_)
        refine kv_istore (pc := 59) (lv' := [(9, .int v12), (0, .ref 84), (1, .int p1), (4, .int p4), (6, .int v1), (7, .int x6), (8, .int x7)]) rfl (Nat.le_of_ble_eq_true rfl) dk_D_isLet_59 ?_
        refine kv_iload (pc := 61) 5 rfl dk_D_isLet_61 ?_
        refine kv_iconst (pc := 63) (v := (3 : Int32)) dk_D_isLet_63 kki_3 ?_
        refine kv_idiv (pc := 64) dk_D_isLet_64 kkn_3 ?_
        refine kv_letI (fun v13 => ?_)
        refine kv_istore (pc := 65) (lv' := [(7, .int v13), (9, .int v12), (0, .ref 84), (1, .int p1), (4, .int p4), (6, .int v1), (8, .int x7)]) rfl (Nat.le_of_ble_eq_true rfl) dk_D_isLet_65 ?_
        refine kv_aload_n (pc := 67) 2 rfl rfl dk_D_isLet_67 ?_
        refine kv_iload (pc := 68) 5 rfl dk_D_isLet_68 ?_
        refine kv_iload (pc := 70) 6 rfl dk_D_isLet_70 ?_
        refine kv_iadd (pc := 72) dk_D_isLet_72 ?_
        refine kv_iload (pc := 73) 6 rfl dk_D_isLet_73 ?_
        refine kv_iload (pc := 75) 1 rfl dk_D_isLet_75 ?_
        refine kv_cut_1 (J := fj_D_isLet_98 v12 v1 x7 f8 v13 p4) (pcj := 98) (LJ := fun x14 => [(0, .ref 84), (1, .int p1), (4, .int p4), (6, .int v1), (7, .int v13), (8, .int x7), (9, .int v12)]) (SJ := fun x14 => [.long x14, .int x7, .int (v1 + x7), .ref 84]) (WJ := fun x14 => (c, m2, f8, u)) ?_ (fun hj98 => ?_)
        · intro x14
          show kv_X _ _ _ _ (fj_D_isLet_98 v12 v1 x7 f8 v13 p4 x14) 98 [(0, .ref 84), (1, .int p1), (4, .int p4), (6, .int v1), (7, .int v13), (8, .int x7), (9, .int v12)] [.long x14, .int x7, .int (v1 + x7), .ref 84] (c, m2, f8, u)
          unfold fj_D_isLet_98
          refine kv_iload (pc := 98) 6 rfl dk_D_isLet_98 ?_
          refine kv_cut_1 (J := fj_D_isLet_122 v1 x7 x14 f8 v13) (pcj := 122) (LJ := fun x15 => [(0, .ref 84), (1, .int p1), (4, .int p4), (6, .int v1), (7, .int v13), (8, .int x7)]) (SJ := fun x15 => [.long x15, .long x14, .int x7, .int (v1 + x7), .ref 84]) (WJ := fun x15 => (c, m2, f8, u)) ?_ (fun hj122 => ?_)
          · intro x15
            show kv_X _ _ _ _ (fj_D_isLet_122 v1 x7 x14 f8 v13 x15) 122 [(0, .ref 84), (1, .int p1), (4, .int p4), (6, .int v1), (7, .int v13), (8, .int x7)] [.long x15, .long x14, .int x7, .int (v1 + x7), .ref 84] (c, m2, f8, u)
            unfold fj_D_isLet_122
            refine kv_cV_mf (pc := 122) (as := [.int (v1 + x7), .int x7, .long x14, .long x15]) (st := []) ko_D_binds kc_11 rfl rfl kr_84 kw_1468 (Nat.le_of_ble_eq_true rfl) rfl dk_D_isLet_122 (cx_D_binds (d + 2) (v1 + x7) x7 x14 x15 c m2 f8 u) (fun f16 => ?_)
            exact hj125 v13 f16
          refine kv_if_ne (pc := 100) (tgt := 107) dk_D_isLet_100 rfl ?_ ?_
          · refine kv_iload (pc := 107) 6 rfl dk_D_isLet_107 ?_
            refine kv_iconst (pc := 109) (v := (1 : Int32)) dk_D_isLet_109 kki_1 ?_
            refine kv_icmp_ne (pc := 110) (tgt := 119) dk_D_isLet_110 rfl ?_ ?_
            · refine kv_ldc2 (pc := 119) (v := (-1 : Int64)) kw_1532 dk_D_isLet_119 ?_
              exact kv_sub [0, 1, 2, 3, 4, 5] rfl (hj122 (-1 : Int64))
            · refine kv_iload (pc := 113) 2 rfl dk_D_isLet_113 ?_
              refine kv_i2l (pc := 115) dk_D_isLet_115 ?_
              refine kv_goto (pc := 116) (tgt := 122) dk_D_isLet_116 rfl ?_
              exact kv_sub [0, 1, 2, 3, 4, 5] rfl (hj122 p4.toInt64)
          · refine kv_lconst (pc := 103) (v := (0 : Int64)) dk_D_isLet_103 kkl_0 ?_
            refine kv_goto (pc := 104) (tgt := 122) dk_D_isLet_104 rfl ?_
            exact kv_sub [0, 1, 2, 3, 4, 5] rfl (hj122 (0 : Int64))
        refine kv_if_ne (pc := 77) (tgt := 84) dk_D_isLet_77 rfl ?_ ?_
        · refine kv_iload (pc := 84) 1 rfl dk_D_isLet_84 ?_
          refine kv_iconst (pc := 86) (v := (1 : Int32)) dk_D_isLet_86 kki_1 ?_
          refine kv_icmp_ne (pc := 87) (tgt := 94) dk_D_isLet_87 rfl ?_ ?_
          · refine kv_iload (pc := 94) 4 rfl dk_D_isLet_94 ?_
            refine kv_ineg (pc := 96) dk_D_isLet_96 ?_
            refine kv_i2l (pc := 97) dk_D_isLet_97 ?_
            exact kv_sub [2, 3, 4, 5, 0, 6, 1] rfl (hj98 (-p4).toInt64)
          · refine kv_lconst (pc := 90) (v := (1 : Int64)) dk_D_isLet_90 kkl_1 ?_
            refine kv_goto (pc := 91) (tgt := 98) dk_D_isLet_91 rfl ?_
            exact kv_sub [2, 3, 4, 5, 0, 6, 1] rfl (hj98 (1 : Int64))
        · refine kv_lconst (pc := 80) (v := (0 : Int64)) dk_D_isLet_80 kkl_0 ?_
          refine kv_goto (pc := 81) (tgt := 98) dk_D_isLet_81 rfl ?_
          exact kv_sub [2, 3, 4, 5, 0, 6, 1] rfl (hj98 (0 : Int64))
      · refine kv_goto (pc := 52) (tgt := 125) dk_D_isLet_52 rfl ?_
        exact hj125 x6 f8
theorem dk_D_stories_0 : decode prog_13_method_49_code 0 = .ok (.iload_n 2, 1) := by decide +kernel
theorem dk_D_stories_1 : decode prog_13_method_49_code 1 = .ok (.sipush 1000, 3) := by decide +kernel
theorem dk_D_stories_4 : decode prog_13_method_49_code 4 = .ok (.idiv, 1) := by decide +kernel
theorem dk_D_stories_5 : decode prog_13_method_49_code 5 = .ok (.istore 5, 2) := by decide +kernel
theorem dk_D_stories_7 : decode prog_13_method_49_code 7 = .ok (.iload_n 2, 1) := by decide +kernel
theorem dk_D_stories_8 : decode prog_13_method_49_code 8 = .ok (.sipush 1000, 3) := by decide +kernel
theorem dk_D_stories_11 : decode prog_13_method_49_code 11 = .ok (.irem, 1) := by decide +kernel
theorem dk_D_stories_12 : decode prog_13_method_49_code 12 = .ok (.istore 6, 2) := by decide +kernel
theorem dk_D_stories_14 : decode prog_13_method_49_code 14 = .ok (.iload_n 1, 1) := by decide +kernel
theorem dk_D_stories_15 : decode prog_13_method_49_code 15 = .ok (.i2l, 1) := by decide +kernel
theorem dk_D_stories_16 : decode prog_13_method_49_code 16 = .ok (.lconst 1, 1) := by decide +kernel
theorem dk_D_stories_17 : decode prog_13_method_49_code 17 = .ok (.iconst 1, 1) := by decide +kernel
theorem dk_D_stories_18 : decode prog_13_method_49_code 18 = .ok (.aload_n 0, 1) := by decide +kernel
theorem dk_D_stories_19 : decode prog_13_method_49_code 19 = .ok (.getfield 9, 3) := by decide +kernel
theorem dk_D_stories_22 : decode prog_13_method_49_code 22 = .ok (.iconst 1, 1) := by decide +kernel
theorem dk_D_stories_23 : decode prog_13_method_49_code 23 = .ok (.iaload, 1) := by decide +kernel
theorem dk_D_stories_24 : decode prog_13_method_49_code 24 = .ok (.ishl, 1) := by decide +kernel
theorem dk_D_stories_25 : decode prog_13_method_49_code 25 = .ok (.iconst 1, 1) := by decide +kernel
theorem dk_D_stories_26 : decode prog_13_method_49_code 26 = .ok (.isub, 1) := by decide +kernel
theorem dk_D_stories_27 : decode prog_13_method_49_code 27 = .ok (.i2l, 1) := by decide +kernel
theorem dk_D_stories_28 : decode prog_13_method_49_code 28 = .ok (.invokestatic 60, 3) := by decide +kernel
theorem dk_D_stories_31 : decode prog_13_method_49_code 31 = .ok (.ifCond .eq 56, 3) := by decide +kernel
theorem dk_D_stories_34 : decode prog_13_method_49_code 34 = .ok (.iload_n 1, 1) := by decide +kernel
theorem dk_D_stories_35 : decode prog_13_method_49_code 35 = .ok (.invokestatic 201, 3) := by decide +kernel
theorem dk_D_stories_38 : decode prog_13_method_49_code 38 = .ok (.iconst 4, 1) := by decide +kernel
theorem dk_D_stories_39 : decode prog_13_method_49_code 39 = .ok (.if_icmp .gt 48, 3) := by decide +kernel
theorem dk_D_stories_42 : decode prog_13_method_49_code 42 = .ok (.iload_n 2, 1) := by decide +kernel
theorem dk_D_stories_43 : decode prog_13_method_49_code 43 = .ok (.ifCond .lt 44, 3) := by decide +kernel
theorem dk_D_stories_46 : decode prog_13_method_49_code 46 = .ok (.iload 5, 2) := by decide +kernel
theorem dk_D_stories_48 : decode prog_13_method_49_code 48 = .ok (.invokestatic 110, 3) := by decide +kernel
theorem dk_D_stories_51 : decode prog_13_method_49_code 51 = .ok (.ifCond .eq 36, 3) := by decide +kernel
theorem dk_D_stories_54 : decode prog_13_method_49_code 54 = .ok (.iload 6, 2) := by decide +kernel
theorem dk_D_stories_56 : decode prog_13_method_49_code 56 = .ok (.invokestatic 110, 3) := by decide +kernel
theorem dk_D_stories_59 : decode prog_13_method_49_code 59 = .ok (.ifCond .eq 28, 3) := by decide +kernel
theorem dk_D_stories_62 : decode prog_13_method_49_code 62 = .ok (.iload 6, 2) := by decide +kernel
theorem dk_D_stories_64 : decode prog_13_method_49_code 64 = .ok (.iload 5, 2) := by decide +kernel
theorem dk_D_stories_66 : decode prog_13_method_49_code 66 = .ok (.if_icmp .le 21, 3) := by decide +kernel
theorem dk_D_stories_69 : decode prog_13_method_49_code 69 = .ok (.iload_n 3, 1) := by decide +kernel
theorem dk_D_stories_70 : decode prog_13_method_49_code 70 = .ok (.i2l, 1) := by decide +kernel
theorem dk_D_stories_71 : decode prog_13_method_49_code 71 = .ok (.lconst 1, 1) := by decide +kernel
theorem dk_D_stories_72 : decode prog_13_method_49_code 72 = .ok (.ldc2_w 80, 3) := by decide +kernel
theorem dk_D_stories_75 : decode prog_13_method_49_code 75 = .ok (.invokestatic 60, 3) := by decide +kernel
theorem dk_D_stories_78 : decode prog_13_method_49_code 78 = .ok (.ifCond .eq 9, 3) := by decide +kernel
theorem dk_D_stories_81 : decode prog_13_method_49_code 81 = .ok (.iload 4, 2) := by decide +kernel
theorem dk_D_stories_83 : decode prog_13_method_49_code 83 = .ok (.iconst (-1), 1) := by decide +kernel
theorem dk_D_stories_84 : decode prog_13_method_49_code 84 = .ok (.if_icmp .ge 5, 3) := by decide +kernel
theorem dk_D_stories_87 : decode prog_13_method_49_code 87 = .ok (.iconst (-1), 1) := by decide +kernel
theorem dk_D_stories_88 : decode prog_13_method_49_code 88 = .ok (.ireturn, 1) := by decide +kernel
theorem dk_D_stories_89 : decode prog_13_method_49_code 89 = .ok (.iconst 1, 1) := by decide +kernel
theorem dk_D_stories_90 : decode prog_13_method_49_code 90 = .ok (.istore 7, 2) := by decide +kernel
theorem dk_D_stories_92 : decode prog_13_method_49_code 92 = .ok (.iconst 0, 1) := by decide +kernel
theorem dk_D_stories_93 : decode prog_13_method_49_code 93 = .ok (.istore 8, 2) := by decide +kernel
theorem dk_D_stories_95 : decode prog_13_method_49_code 95 = .ok (.iload 8, 2) := by decide +kernel
theorem dk_D_stories_97 : decode prog_13_method_49_code 97 = .ok (.iload_n 1, 1) := by decide +kernel
theorem dk_D_stories_98 : decode prog_13_method_49_code 98 = .ok (.invokestatic 201, 3) := by decide +kernel
theorem dk_D_stories_101 : decode prog_13_method_49_code 101 = .ok (.if_icmp .ge 15, 3) := by decide +kernel
theorem dk_D_stories_104 : decode prog_13_method_49_code 104 = .ok (.iload 7, 2) := by decide +kernel
theorem dk_D_stories_106 : decode prog_13_method_49_code 106 = .ok (.iconst 3, 1) := by decide +kernel
theorem dk_D_stories_107 : decode prog_13_method_49_code 107 = .ok (.imul, 1) := by decide +kernel
theorem dk_D_stories_108 : decode prog_13_method_49_code 108 = .ok (.istore 7, 2) := by decide +kernel
theorem dk_D_stories_110 : decode prog_13_method_49_code 110 = .ok (.iinc 8 1, 3) := by decide +kernel
theorem dk_D_stories_113 : decode prog_13_method_49_code 113 = .ok (.goto (-18), 3) := by decide +kernel
theorem dk_D_stories_116 : decode prog_13_method_49_code 116 = .ok (.iconst 0, 1) := by decide +kernel
theorem dk_D_stories_117 : decode prog_13_method_49_code 117 = .ok (.istore 8, 2) := by decide +kernel
theorem dk_D_stories_119 : decode prog_13_method_49_code 119 = .ok (.iconst 0, 1) := by decide +kernel
theorem dk_D_stories_120 : decode prog_13_method_49_code 120 = .ok (.istore 9, 2) := by decide +kernel
theorem dk_D_stories_122 : decode prog_13_method_49_code 122 = .ok (.iload 9, 2) := by decide +kernel
theorem dk_D_stories_124 : decode prog_13_method_49_code 124 = .ok (.iload 7, 2) := by decide +kernel
theorem dk_D_stories_126 : decode prog_13_method_49_code 126 = .ok (.if_icmp .ge 40, 3) := by decide +kernel
theorem dk_D_stories_129 : decode prog_13_method_49_code 129 = .ok (.aload_n 0, 1) := by decide +kernel
theorem dk_D_stories_130 : decode prog_13_method_49_code 130 = .ok (.iload_n 1, 1) := by decide +kernel
theorem dk_D_stories_131 : decode prog_13_method_49_code 131 = .ok (.iload 5, 2) := by decide +kernel
theorem dk_D_stories_133 : decode prog_13_method_49_code 133 = .ok (.iload 6, 2) := by decide +kernel
theorem dk_D_stories_135 : decode prog_13_method_49_code 135 = .ok (.iload_n 3, 1) := by decide +kernel
theorem dk_D_stories_136 : decode prog_13_method_49_code 136 = .ok (.iload 9, 2) := by decide +kernel
theorem dk_D_stories_138 : decode prog_13_method_49_code 138 = .ok (.invokevirtual 205, 3) := by decide +kernel
theorem dk_D_stories_141 : decode prog_13_method_49_code 141 = .ok (.ifCond .ne 6, 3) := by decide +kernel
theorem dk_D_stories_144 : decode prog_13_method_49_code 144 = .ok (.goto 16, 3) := by decide +kernel
theorem dk_D_stories_147 : decode prog_13_method_49_code 147 = .ok (.iload 8, 2) := by decide +kernel
theorem dk_D_stories_149 : decode prog_13_method_49_code 149 = .ok (.iload 4, 2) := by decide +kernel
theorem dk_D_stories_151 : decode prog_13_method_49_code 151 = .ok (.if_icmp .ne 6, 3) := by decide +kernel
theorem dk_D_stories_154 : decode prog_13_method_49_code 154 = .ok (.iload 9, 2) := by decide +kernel
theorem dk_D_stories_156 : decode prog_13_method_49_code 156 = .ok (.ireturn, 1) := by decide +kernel
theorem dk_D_stories_157 : decode prog_13_method_49_code 157 = .ok (.iinc 8 1, 3) := by decide +kernel
theorem dk_D_stories_160 : decode prog_13_method_49_code 160 = .ok (.iinc 9 1, 3) := by decide +kernel
theorem dk_D_stories_163 : decode prog_13_method_49_code 163 = .ok (.goto (-41), 3) := by decide +kernel
theorem dk_D_stories_166 : decode prog_13_method_49_code 166 = .ok (.iload 4, 2) := by decide +kernel
theorem dk_D_stories_168 : decode prog_13_method_49_code 168 = .ok (.ifCond .ge 8, 3) := by decide +kernel
theorem dk_D_stories_171 : decode prog_13_method_49_code 171 = .ok (.iload 8, 2) := by decide +kernel
theorem dk_D_stories_173 : decode prog_13_method_49_code 173 = .ok (.goto 5, 3) := by decide +kernel
theorem dk_D_stories_176 : decode prog_13_method_49_code 176 = .ok (.bipush (-4), 2) := by decide +kernel
theorem dk_D_stories_178 : decode prog_13_method_49_code 178 = .ok (.ireturn, 1) := by decide +kernel
noncomputable def fb_D_stories_95 (p1 : Int32) (x8 : Int32) (x9 : Int32) : Option ((Int32 × Int32) ⊕ Int32) :=
  kv_bind1 (fx_D_bits p1) (fun v11 =>
  if v11 ≤ x9 then
    some (.inr x8)
  else
    kv_let (x8 * (3 : Int32)) (fun v12 =>
    some (.inl (v12, (x9 + (1 : Int32))))))
noncomputable def fj_D_stories_160 (x14 : Int32) (m24 : (Nat → Nat → Int32)) (f25 : (Nat → Int64)) (x26 : Int32) : Option ((Int32 × Int32 × (Nat → Nat → Int32) × (Nat → Int64)) ⊕ ((Int32 × (Nat → Nat → Int32) × (Nat → Int64)) ⊕ (Int32 × (Nat → Nat → Int32) × (Nat → Int64)))) :=
  some (.inl (x26, (x14 + (1 : Int32)), m24, f25))
noncomputable def fb_D_stories_122 (x10 : Int32) (p1 : Int32) (v1 : Int32) (v2 : Int32) (p3 : Int32) (p4 : Int32) (x13 : Int32) (x14 : Int32) (m15 : (Nat → Nat → Int32)) (f16 : (Nat → Int64)) : Option ((Int32 × Int32 × (Nat → Nat → Int32) × (Nat → Int64)) ⊕ ((Int32 × (Nat → Nat → Int32) × (Nat → Int64)) ⊕ (Int32 × (Nat → Nat → Int32) × (Nat → Int64)))) :=
  if x10 ≤ x14 then
    some (.inr (.inr (x13, m15, f16)))
  else
    kv_bind3 (fx_D_isLet p1 v1 v2 p3 x14 m15 f16) (fun b23 m24 f25 =>
    if b23 = true then
      if x13 = p4 then
        some (.inr (.inl (x14, m24, f25)))
      else
        fj_D_stories_160 x14 m24 f25 (x13 + (1 : Int32))
    else
      fj_D_stories_160 x14 m24 f25 x13)
noncomputable def fx_D_stories (p1 : Int32) (p2 : Int32) (p3 : Int32) (p4 : Int32) (m : (Nat → Nat → Int32)) (f : (Nat → Int64)) : Option (Int32 × (Nat → Nat → Int32) × (Nat → Int64)) :=
  kv_let (p2 / (1000 : Int32)) (fun v1 =>
  kv_let (p2 - p2 / (1000 : Int32) * (1000 : Int32)) (fun v2 =>
  kv_bind1 (fx_D_isIn p1.toInt64 (1 : Int64) (((1 : Int32) <<< ((m 85 1) &&& 31)) - (1 : Int32)).toInt64) (fun b3 =>
  if b3 = true then
    kv_bind1 (fx_D_bits p1) (fun v4 =>
    if (4 : Int32) < v4 then
      some ((-1 : Int32), m, f)
    else
      if p2 < 0 then
        some ((-1 : Int32), m, f)
      else
        kv_bind1 (fx_D_isYear v1) (fun b5 =>
        if b5 = true then
          kv_bind1 (fx_D_isYear v2) (fun b6 =>
          if b6 = true then
            if v2 ≤ v1 then
              some ((-1 : Int32), m, f)
            else
              kv_bind1 (fx_D_isIn p3.toInt64 (1 : Int64) (9999 : Int64)) (fun b7 =>
              if b7 = true then
                if (-1 : Int32) ≤ p4 then
                  (kv_loop (kv_u2 (fb_D_stories_95 p1)) ((1 : Int32), (0 : Int32))).bind (kv_u1 (fun x10 =>
                  (kv_loop (kv_u4 (fb_D_stories_122 x10 p1 v1 v2 p3 p4)) ((0 : Int32), (0 : Int32), m, f)).bind (Sum.elim (kv_u3 (fun x17 m18 f19 =>
                  some (x17, m18, f19)))
                   (kv_u3 (fun x20 m21 f22 =>
                  if 0 ≤ p4 then
                    some ((-4 : Int32), m21, f22)
                  else
                    some (x20, m21, f22))))))
                else
                  some ((-1 : Int32), m, f)
              else
                some ((-1 : Int32), m, f))
          else
            some ((-1 : Int32), m, f))
        else
          some ((-1 : Int32), m, f)))
  else
    some ((-1 : Int32), m, f))))
set_option maxRecDepth 20000 in
theorem cx_D_stories (d : Nat) (p1 : Int32) (p2 : Int32) (p3 : Int32) (p4 : Int32) (c : (Nat → Nat → Int32)) (m : (Nat → Nat → Int32)) (f : (Nat → Int64)) (u : (Nat → Int64)) : ∀ a, fx_D_stories p1 p2 p3 p4 m f = some a → kv_C kM_D_stories (d + 4) [.ref 84, .int p1, .int p2, .int p3, .int p4] (c, m, f, u) (some (.int a.1), (c, a.2.1, a.2.2, u)) := by
  refine kv_entryX (E := fun a : (Int32 × (Nat → Nat → Int32) × (Nat → Int64)) => (some (.int a.1), (c, a.2.1, a.2.2, u))) rfl (Nat.le_of_ble_eq_true rfl) (fun o => ?_)
  unfold fx_D_stories
  show kv_X _ _ _ _ _ 0 [(0, .ref 84), (1, .int p1), (2, .int p2), (3, .int p3), (4, .int p4)] [] (c, m, f, u)
  refine kv_iload_n (pc := 0) 2 rfl rfl dk_D_stories_0 ?_
  refine kv_sipush (pc := 1) (v := (1000 : Int32)) dk_D_stories_1 kks_1000 ?_
  refine kv_idiv (pc := 4) dk_D_stories_4 kkn_1000 ?_
  refine kv_letI (fun v1 => ?_)
  refine kv_istore (pc := 5) (lv' := [(5, .int v1), (0, .ref 84), (1, .int p1), (2, .int p2), (3, .int p3), (4, .int p4)]) rfl (Nat.le_of_ble_eq_true rfl) dk_D_stories_5 ?_
  refine kv_iload_n (pc := 7) 3 rfl rfl dk_D_stories_7 ?_
  refine kv_sipush (pc := 8) (v := (1000 : Int32)) dk_D_stories_8 kks_1000 ?_
  refine kv_irem (pc := 11) dk_D_stories_11 kkn_1000 ?_
  refine kv_letI (fun v2 => ?_)
  refine kv_istore (pc := 12) (lv' := [(6, .int v2), (5, .int v1), (0, .ref 84), (1, .int p1), (2, .int p2), (3, .int p3), (4, .int p4)]) rfl (Nat.le_of_ble_eq_true rfl) dk_D_stories_12 ?_
  refine kv_iload_n (pc := 14) 3 rfl rfl dk_D_stories_14 ?_
  refine kv_i2l (pc := 15) dk_D_stories_15 ?_
  refine kv_lconst (pc := 16) (v := (1 : Int64)) dk_D_stories_16 kkl_1 ?_
  refine kv_iconst (pc := 17) (v := (1 : Int32)) dk_D_stories_17 kki_1 ?_
  refine kv_aload_n (pc := 18) 2 rfl rfl dk_D_stories_18 ?_
  refine kv_getR (pc := 19) kf_D_9 kr_84 rfl kt_84_0 dk_D_stories_19 ?_
  refine kv_iconst (pc := 22) (v := (1 : Int32)) dk_D_stories_22 kki_1 ?_
  refine kv_aldM (pc := 23) kr_85 kn_85 kl_85 kkg_1_444 (j := 1) kkx_1 dk_D_stories_23 ?_
  refine kv_ishl (pc := 24) dk_D_stories_24 ?_
  refine kv_iconst (pc := 25) (v := (1 : Int32)) dk_D_stories_25 kki_1 ?_
  refine kv_isub (pc := 26) dk_D_stories_26 ?_
  refine kv_i2l (pc := 27) dk_D_stories_27 ?_
  refine kv_cS_mZ (pc := 28) (as := [.long p1.toInt64, .long (1 : Int64), .long (((1 : Int32) <<< ((m 85 1) &&& 31)) - (1 : Int32)).toInt64]) (st := []) ko_D_isIn rfl kw_1330 (Nat.le_of_ble_eq_true rfl) rfl dk_D_stories_28 (cx_D_isIn (d + 3) p1.toInt64 (1 : Int64) (((1 : Int32) <<< ((m 85 1) &&& 31)) - (1 : Int32)).toInt64 c m f u) (fun b3 => ?_)
  refine kv_zif_eq (pc := 31) (tgt := 87) dk_D_stories_31 rfl ?_ ?_
  · refine kv_iconst (pc := 87) (v := (-1 : Int32)) dk_D_stories_87 kki_m1 ?_
    exact kv_iret (pc := 88) (fun h => h) rfl dk_D_stories_88
  · refine kv_iload_n (pc := 34) 3 rfl rfl dk_D_stories_34 ?_
    refine kv_cS_mI (pc := 35) (as := [.int p1]) (st := []) ko_D_bits rfl kw_1525 (Nat.le_of_ble_eq_true rfl) rfl dk_D_stories_35 (cx_D_bits (d + 3) p1 c m f u) (fun v4 => ?_)
    refine kv_iconst (pc := 38) (v := (4 : Int32)) dk_D_stories_38 kki_4 ?_
    refine kv_icmp_gt (pc := 39) (tgt := 87) dk_D_stories_39 rfl ?_ ?_
    · refine kv_iconst (pc := 87) (v := (-1 : Int32)) dk_D_stories_87 kki_m1 ?_
      exact kv_iret (pc := 88) (fun h => h) rfl dk_D_stories_88
    · refine kv_iload_n (pc := 42) 4 rfl rfl dk_D_stories_42 ?_
      refine kv_if_lt (pc := 43) (tgt := 87) dk_D_stories_43 rfl ?_ ?_
      · refine kv_iconst (pc := 87) (v := (-1 : Int32)) dk_D_stories_87 kki_m1 ?_
        exact kv_iret (pc := 88) (fun h => h) rfl dk_D_stories_88
      · refine kv_iload (pc := 46) 1 rfl dk_D_stories_46 ?_
        refine kv_cS_mZ (pc := 48) (as := [.int v1]) (st := []) ko_D_isYear rfl kw_1385 (Nat.le_of_ble_eq_true rfl) rfl dk_D_stories_48 (cx_D_isYear (d + 2) v1 c m f u) (fun b5 => ?_)
        refine kv_zif_eq (pc := 51) (tgt := 87) dk_D_stories_51 rfl ?_ ?_
        · refine kv_iconst (pc := 87) (v := (-1 : Int32)) dk_D_stories_87 kki_m1 ?_
          exact kv_iret (pc := 88) (fun h => h) rfl dk_D_stories_88
        · refine kv_iload (pc := 54) 0 rfl dk_D_stories_54 ?_
          refine kv_cS_mZ (pc := 56) (as := [.int v2]) (st := []) ko_D_isYear rfl kw_1385 (Nat.le_of_ble_eq_true rfl) rfl dk_D_stories_56 (cx_D_isYear (d + 2) v2 c m f u) (fun b6 => ?_)
          refine kv_zif_eq (pc := 59) (tgt := 87) dk_D_stories_59 rfl ?_ ?_
          · refine kv_iconst (pc := 87) (v := (-1 : Int32)) dk_D_stories_87 kki_m1 ?_
            exact kv_iret (pc := 88) (fun h => h) rfl dk_D_stories_88
          · refine kv_iload (pc := 62) 0 rfl dk_D_stories_62 ?_
            refine kv_iload (pc := 64) 1 rfl dk_D_stories_64 ?_
            refine kv_icmp_le (pc := 66) (tgt := 87) dk_D_stories_66 rfl ?_ ?_
            · refine kv_iconst (pc := 87) (v := (-1 : Int32)) dk_D_stories_87 kki_m1 ?_
              exact kv_iret (pc := 88) (fun h => h) rfl dk_D_stories_88
            · refine kv_iload_n (pc := 69) 5 rfl rfl dk_D_stories_69 ?_
              refine kv_i2l (pc := 70) dk_D_stories_70 ?_
              refine kv_lconst (pc := 71) (v := (1 : Int64)) dk_D_stories_71 kkl_1 ?_
              refine kv_ldc2 (pc := 72) (v := (9999 : Int64)) kw_1336 dk_D_stories_72 ?_
              refine kv_cS_mZ (pc := 75) (as := [.long p3.toInt64, .long (1 : Int64), .long (9999 : Int64)]) (st := []) ko_D_isIn rfl kw_1330 (Nat.le_of_ble_eq_true rfl) rfl dk_D_stories_75 (cx_D_isIn (d + 3) p3.toInt64 (1 : Int64) (9999 : Int64) c m f u) (fun b7 => ?_)
              refine kv_zif_eq (pc := 78) (tgt := 87) dk_D_stories_78 rfl ?_ ?_
              · refine kv_iconst (pc := 87) (v := (-1 : Int32)) dk_D_stories_87 kki_m1 ?_
                exact kv_iret (pc := 88) (fun h => h) rfl dk_D_stories_88
              · refine kv_iload (pc := 81) 6 rfl dk_D_stories_81 ?_
                refine kv_iconst (pc := 83) (v := (-1 : Int32)) dk_D_stories_83 kki_m1 ?_
                refine kv_icmp_ge (pc := 84) (tgt := 89) dk_D_stories_84 rfl ?_ ?_
                · refine kv_iconst (pc := 89) (v := (1 : Int32)) dk_D_stories_89 kki_1 ?_
                  refine kv_istore (pc := 90) (lv' := [(7, .int (1 : Int32)), (6, .int v2), (5, .int v1), (0, .ref 84), (1, .int p1), (2, .int p2), (3, .int p3), (4, .int p4)]) rfl (Nat.le_of_ble_eq_true rfl) dk_D_stories_90 ?_
                  refine kv_iconst (pc := 92) (v := (0 : Int32)) dk_D_stories_92 kki_0 ?_
                  refine kv_istore (pc := 93) (lv' := [(8, .int (0 : Int32)), (7, .int (1 : Int32)), (6, .int v2), (5, .int v1), (0, .ref 84), (1, .int p1), (2, .int p2), (3, .int p3), (4, .int p4)]) rfl (Nat.le_of_ble_eq_true rfl) dk_D_stories_93 ?_
                  refine kv_sub (lv' := [(0, .ref 84), (1, .int p1), (3, .int p3), (4, .int p4), (5, .int v1), (6, .int v2), (7, .int (1 : Int32)), (8, .int (0 : Int32))]) [4, 5, 7, 8, 3, 2, 1, 0] rfl ?_
                  refine kv_lp_2_1 (LV := fun x8 x9 => [(0, .ref 84), (1, .int p1), (3, .int p3), (4, .int p4), (5, .int v1), (6, .int v2), (7, .int x8), (8, .int x9)]) (WW := fun x8 x9 => (c, m, f, u)) (LE1 := fun x10 => [(0, .ref 84), (1, .int p1), (3, .int p3), (4, .int p4), (5, .int v1), (6, .int v2), (7, .int x10)]) (WE1 := fun x10 => (c, m, f, u)) (pe1 := 116) ?_ ?_
                  · intro x10
                    show kv_X _ _ _ _ _ 116 [(0, .ref 84), (1, .int p1), (3, .int p3), (4, .int p4), (5, .int v1), (6, .int v2), (7, .int x10)] [] (c, m, f, u)
                    refine kv_iconst (pc := 116) (v := (0 : Int32)) dk_D_stories_116 kki_0 ?_
                    refine kv_istore (pc := 117) (lv' := [(8, .int (0 : Int32)), (0, .ref 84), (1, .int p1), (3, .int p3), (4, .int p4), (5, .int v1), (6, .int v2), (7, .int x10)]) rfl (Nat.le_of_ble_eq_true rfl) dk_D_stories_117 ?_
                    refine kv_iconst (pc := 119) (v := (0 : Int32)) dk_D_stories_119 kki_0 ?_
                    refine kv_istore (pc := 120) (lv' := [(9, .int (0 : Int32)), (8, .int (0 : Int32)), (0, .ref 84), (1, .int p1), (3, .int p3), (4, .int p4), (5, .int v1), (6, .int v2), (7, .int x10)]) rfl (Nat.le_of_ble_eq_true rfl) dk_D_stories_120 ?_
                    refine kv_sub (lv' := [(0, .ref 84), (1, .int p1), (3, .int p3), (4, .int p4), (5, .int v1), (6, .int v2), (7, .int x10), (8, .int (0 : Int32)), (9, .int (0 : Int32))]) [2, 3, 4, 5, 6, 7, 8, 1, 0] rfl ?_
                    refine kv_lp_4_3_3 (LV := fun x13 x14 m15 f16 => [(0, .ref 84), (1, .int p1), (3, .int p3), (4, .int p4), (5, .int v1), (6, .int v2), (7, .int x10), (8, .int x13), (9, .int x14)]) (WW := fun x13 x14 m15 f16 => (c, m15, f16, u)) (LE1 := fun x17 m18 f19 => [(9, .int x17)]) (WE1 := fun x17 m18 f19 => (c, m18, f19, u)) (pe1 := 154) (LE2 := fun x20 m21 f22 => [(4, .int p4), (8, .int x20)]) (WE2 := fun x20 m21 f22 => (c, m21, f22, u)) (pe2 := 166) ?_ ?_ ?_
                    · intro x17 m18 f19
                      show kv_X _ _ _ _ _ 154 [(9, .int x17)] [] (c, m18, f19, u)
                      refine kv_iload (pc := 154) 0 rfl dk_D_stories_154 ?_
                      exact kv_iret (pc := 156) (fun h => h) rfl dk_D_stories_156
                    · intro x20 m21 f22
                      show kv_X _ _ _ _ _ 166 [(4, .int p4), (8, .int x20)] [] (c, m21, f22, u)
                      refine kv_iload (pc := 166) 0 rfl dk_D_stories_166 ?_
                      refine kv_if_ge (pc := 168) (tgt := 176) dk_D_stories_168 rfl ?_ ?_
                      · refine kv_bipush (pc := 176) (v := (-4 : Int32)) dk_D_stories_176 kkb_m4 ?_
                        exact kv_iret (pc := 178) (fun h => h) rfl dk_D_stories_178
                      · refine kv_iload (pc := 171) 1 rfl dk_D_stories_171 ?_
                        refine kv_goto (pc := 173) (tgt := 178) dk_D_stories_173 rfl ?_
                        exact kv_iret (pc := 178) (fun h => h) rfl dk_D_stories_178
                    · intro hx122_0 hx122_1 x13 x14 m15 f16
                      show kv_X _ _ _ _ (fb_D_stories_122 x10 p1 v1 v2 p3 p4 x13 x14 m15 f16) 122 [(0, .ref 84), (1, .int p1), (3, .int p3), (4, .int p4), (5, .int v1), (6, .int v2), (7, .int x10), (8, .int x13), (9, .int x14)] [] (c, m15, f16, u)
                      unfold fb_D_stories_122
                      refine kv_iload (pc := 122) 8 rfl dk_D_stories_122 ?_
                      refine kv_iload (pc := 124) 6 rfl dk_D_stories_124 ?_
                      refine kv_icmp_ge (pc := 126) (tgt := 166) dk_D_stories_126 rfl ?_ ?_
                      · exact kv_sub [3, 7] rfl (kv_leaf (hx122_1 _ _ _))
                      · refine kv_aload_n (pc := 129) 0 rfl rfl dk_D_stories_129 ?_
                        refine kv_iload_n (pc := 130) 1 rfl rfl dk_D_stories_130 ?_
                        refine kv_iload (pc := 131) 4 rfl dk_D_stories_131 ?_
                        refine kv_iload (pc := 133) 5 rfl dk_D_stories_133 ?_
                        refine kv_iload_n (pc := 135) 2 rfl rfl dk_D_stories_135 ?_
                        refine kv_iload (pc := 136) 8 rfl dk_D_stories_136 ?_
                        refine kv_cV_mZmf (pc := 138) (as := [.int p1, .int v1, .int v2, .int p3, .int x14]) (st := []) ko_D_isLet kc_11 rfl rfl kr_84 kw_1528 (Nat.le_of_ble_eq_true rfl) rfl dk_D_stories_138 (cx_D_isLet d p1 v1 v2 p3 x14 c m15 f16 u) (fun b23 m24 f25 => ?_)
                        refine kv_cut_1 (J := fj_D_stories_160 x14 m24 f25) (pcj := 160) (LJ := fun x26 => [(0, .ref 84), (1, .int p1), (3, .int p3), (4, .int p4), (5, .int v1), (6, .int v2), (7, .int x10), (8, .int x26), (9, .int x14)]) (SJ := fun x26 => []) (WJ := fun x26 => (c, m24, f25, u)) ?_ (fun hj160 => ?_)
                        · intro x26
                          show kv_X _ _ _ _ (fj_D_stories_160 x14 m24 f25 x26) 160 [(0, .ref 84), (1, .int p1), (3, .int p3), (4, .int p4), (5, .int v1), (6, .int v2), (7, .int x10), (8, .int x26), (9, .int x14)] [] (c, m24, f25, u)
                          unfold fj_D_stories_160
                          refine kv_iinc (pc := 160) (kk := (1 : Int32)) (lv' := [(9, .int (x14 + (1 : Int32))), (0, .ref 84), (1, .int p1), (3, .int p3), (4, .int p4), (5, .int v1), (6, .int v2), (7, .int x10), (8, .int x26)]) 8 rfl kki_1 rfl (Nat.le_of_ble_eq_true rfl) dk_D_stories_160 ?_
                          refine kv_goto (pc := 163) (tgt := 122) dk_D_stories_163 rfl ?_
                          exact kv_sub [1, 2, 3, 4, 5, 6, 7, 8, 0] rfl (kv_leaf (fun h => h))
                        refine kv_zif_ne (pc := 141) (tgt := 147) dk_D_stories_141 rfl ?_ ?_
                        · refine kv_iload (pc := 147) 7 rfl dk_D_stories_147 ?_
                          refine kv_iload (pc := 149) 3 rfl dk_D_stories_149 ?_
                          refine kv_icmp_ne (pc := 151) (tgt := 157) dk_D_stories_151 rfl ?_ ?_
                          · refine kv_iinc (pc := 157) (kk := (1 : Int32)) (lv' := [(8, .int (x13 + (1 : Int32))), (0, .ref 84), (1, .int p1), (3, .int p3), (4, .int p4), (5, .int v1), (6, .int v2), (7, .int x10), (9, .int x14)]) 7 rfl kki_1 rfl (Nat.le_of_ble_eq_true rfl) dk_D_stories_157 ?_
                            exact kv_sub [1, 2, 3, 4, 5, 6, 7, 0, 8] rfl (hj160 (x13 + (1 : Int32)))
                          · exact kv_sub [8] rfl (kv_leaf (hx122_0 _ _ _))
                        · refine kv_goto (pc := 144) (tgt := 160) dk_D_stories_144 rfl ?_
                          exact hj160 x13
                  · intro hx95_0 x8 x9
                    show kv_X _ _ _ _ (fb_D_stories_95 p1 x8 x9) 95 [(0, .ref 84), (1, .int p1), (3, .int p3), (4, .int p4), (5, .int v1), (6, .int v2), (7, .int x8), (8, .int x9)] [] (c, m, f, u)
                    unfold fb_D_stories_95
                    refine kv_iload (pc := 95) 7 rfl dk_D_stories_95 ?_
                    refine kv_iload_n (pc := 97) 1 rfl rfl dk_D_stories_97 ?_
                    refine kv_cS_mI (pc := 98) (as := [.int p1]) (st := [.int x9]) ko_D_bits rfl kw_1525 (Nat.le_of_ble_eq_true rfl) rfl dk_D_stories_98 (cx_D_bits (d + 3) p1 c m f u) (fun v11 => ?_)
                    refine kv_icmp_ge (pc := 101) (tgt := 116) dk_D_stories_101 rfl ?_ ?_
                    · exact kv_sub [0, 1, 2, 3, 4, 5, 6] rfl (kv_leaf (hx95_0 _))
                    · refine kv_iload (pc := 104) 6 rfl dk_D_stories_104 ?_
                      refine kv_iconst (pc := 106) (v := (3 : Int32)) dk_D_stories_106 kki_3 ?_
                      refine kv_imul (pc := 107) dk_D_stories_107 ?_
                      refine kv_letI (fun v12 => ?_)
                      refine kv_istore (pc := 108) (lv' := [(7, .int v12), (0, .ref 84), (1, .int p1), (3, .int p3), (4, .int p4), (5, .int v1), (6, .int v2), (8, .int x9)]) rfl (Nat.le_of_ble_eq_true rfl) dk_D_stories_108 ?_
                      refine kv_iinc (pc := 110) (kk := (1 : Int32)) (lv' := [(8, .int (x9 + (1 : Int32))), (7, .int v12), (0, .ref 84), (1, .int p1), (3, .int p3), (4, .int p4), (5, .int v1), (6, .int v2)]) 7 rfl kki_1 rfl (Nat.le_of_ble_eq_true rfl) dk_D_stories_110 ?_
                      refine kv_goto (pc := 113) (tgt := 95) dk_D_stories_113 rfl ?_
                      exact kv_sub [2, 3, 4, 5, 6, 7, 1, 0] rfl (kv_leaf (fun h => h))
                · refine kv_iconst (pc := 87) (v := (-1 : Int32)) dk_D_stories_87 kki_m1 ?_
                  exact kv_iret (pc := 88) (fun h => h) rfl dk_D_stories_88
theorem dk_K_bytesRefusal_0 : decode prog_1_method_48_code 0 = .ok (.aload_n 0, 1) := by decide +kernel
theorem dk_K_bytesRefusal_1 : decode prog_1_method_48_code 1 = .ok (.iload_n 1, 1) := by decide +kernel
theorem dk_K_bytesRefusal_2 : decode prog_1_method_48_code 2 = .ok (.invokevirtual 171, 3) := by decide +kernel
theorem dk_K_bytesRefusal_5 : decode prog_1_method_48_code 5 = .ok (.istore_n 2, 1) := by decide +kernel
theorem dk_K_bytesRefusal_6 : decode prog_1_method_48_code 6 = .ok (.iload_n 2, 1) := by decide +kernel
theorem dk_K_bytesRefusal_7 : decode prog_1_method_48_code 7 = .ok (.ifCond .eq 5, 3) := by decide +kernel
theorem dk_K_bytesRefusal_10 : decode prog_1_method_48_code 10 = .ok (.iload_n 2, 1) := by decide +kernel
theorem dk_K_bytesRefusal_11 : decode prog_1_method_48_code 11 = .ok (.ireturn, 1) := by decide +kernel
theorem dk_K_bytesRefusal_12 : decode prog_1_method_48_code 12 = .ok (.aload_n 0, 1) := by decide +kernel
theorem dk_K_bytesRefusal_13 : decode prog_1_method_48_code 13 = .ok (.getfield 21, 3) := by decide +kernel
theorem dk_K_bytesRefusal_16 : decode prog_1_method_48_code 16 = .ok (.iload_n 1, 1) := by decide +kernel
theorem dk_K_bytesRefusal_17 : decode prog_1_method_48_code 17 = .ok (.aaload, 1) := by decide +kernel
theorem dk_K_bytesRefusal_18 : decode prog_1_method_48_code 18 = .ok (.getfield 402, 3) := by decide +kernel
theorem dk_K_bytesRefusal_21 : decode prog_1_method_48_code 21 = .ok (.ifCond .ne 7, 3) := by decide +kernel
theorem dk_K_bytesRefusal_24 : decode prog_1_method_48_code 24 = .ok (.iconst 0, 1) := by decide +kernel
theorem dk_K_bytesRefusal_25 : decode prog_1_method_48_code 25 = .ok (.goto 5, 3) := by decide +kernel
theorem dk_K_bytesRefusal_28 : decode prog_1_method_48_code 28 = .ok (.bipush (-12), 2) := by decide +kernel
theorem dk_K_bytesRefusal_30 : decode prog_1_method_48_code 30 = .ok (.ireturn, 1) := by decide +kernel
noncomputable def fx_K_bytesRefusal (p1 : Int32) (c : (Nat → Nat → Int32)) : Option Int32 :=
  kv_bind1 (fx_K_rowRefusal p1 c) (fun v1 =>
  if v1 = 0 then
    kv_gd (kv_in p1 8) (
    if (c (kv_tg 51 p1.toNatClampNeg) 2) = 0 then
      some (0 : Int32)
    else
      some (-12 : Int32))
  else
    some v1)
set_option maxRecDepth 20000 in
theorem cx_K_bytesRefusal (d : Nat) (p1 : Int32) (c : (Nat → Nat → Int32)) (y : (Nat → Nat → Int32) × (Nat → Int64) × (Nat → Int64)) : ∀ a, fx_K_bytesRefusal p1 c = some a → kv_C kM_K_bytesRefusal (d + 3) [.ref 0, .int p1] (c, y) (some (.int a), (c, y)) := by
  refine kv_entryX (E := fun a : Int32 => (some (.int a), (c, y))) rfl (Nat.le_of_ble_eq_true rfl) (fun o => ?_)
  unfold fx_K_bytesRefusal
  show kv_X _ _ _ _ _ 0 [(0, .ref 0), (1, .int p1)] [] (c, y)
  refine kv_aload_n (pc := 0) 0 rfl rfl dk_K_bytesRefusal_0 ?_
  refine kv_iload_n (pc := 1) 1 rfl rfl dk_K_bytesRefusal_1 ?_
  refine kv_cV_cI (pc := 2) (as := [.int p1]) (st := []) ko_K_rowRefusal kc_10 rfl rfl kr_0 kw_620 (Nat.le_of_ble_eq_true rfl) rfl dk_K_bytesRefusal_2 (cx_K_rowRefusal d p1 c y) (fun v1 => ?_)
  refine kv_istore_n (pc := 5) (lv' := [(2, .int v1), (0, .ref 0), (1, .int p1)]) rfl (Nat.le_of_ble_eq_true rfl) rfl dk_K_bytesRefusal_5 ?_
  refine kv_iload_n (pc := 6) 0 rfl rfl dk_K_bytesRefusal_6 ?_
  refine kv_if_eq (pc := 7) (tgt := 12) dk_K_bytesRefusal_7 rfl ?_ ?_
  · refine kv_aload_n (pc := 12) 1 rfl rfl dk_K_bytesRefusal_12 ?_
    refine kv_getR (pc := 13) kf_K_21 kr_0 rfl kt_0_3 dk_K_bytesRefusal_13 ?_
    refine kv_iload_n (pc := 16) 2 rfl rfl dk_K_bytesRefusal_16 ?_
    refine kv_guard (fun g2 => ?_)
    refine kv_aald (pc := 17) kr_51 kl_51 g2 rfl dk_K_bytesRefusal_17 ?_
    refine kv_getC (pc := 18) kf_K_402 (kv_sh g2) (kv_7nc (kv_sh g2)) rfl dk_K_bytesRefusal_18 ?_
    refine kv_if_ne (pc := 21) (tgt := 28) dk_K_bytesRefusal_21 rfl ?_ ?_
    · refine kv_bipush (pc := 28) (v := (-12 : Int32)) dk_K_bytesRefusal_28 kkb_m12 ?_
      exact kv_iret (pc := 30) (fun h => h) rfl dk_K_bytesRefusal_30
    · refine kv_iconst (pc := 24) (v := (0 : Int32)) dk_K_bytesRefusal_24 kki_0 ?_
      refine kv_goto (pc := 25) (tgt := 30) dk_K_bytesRefusal_25 rfl ?_
      exact kv_iret (pc := 30) (fun h => h) rfl dk_K_bytesRefusal_30
  · refine kv_iload_n (pc := 10) 0 rfl rfl dk_K_bytesRefusal_10 ?_
    exact kv_iret (pc := 11) (fun h => h) rfl dk_K_bytesRefusal_11
theorem dk_Lumps_mean_0 : decode prog_5_method_10_code 0 = .ok (.iconst 0, 1) := by decide +kernel
theorem dk_Lumps_mean_1 : decode prog_5_method_10_code 1 = .ok (.istore_n 3, 1) := by decide +kernel
theorem dk_Lumps_mean_2 : decode prog_5_method_10_code 2 = .ok (.iconst 0, 1) := by decide +kernel
theorem dk_Lumps_mean_3 : decode prog_5_method_10_code 3 = .ok (.istore 4, 2) := by decide +kernel
theorem dk_Lumps_mean_5 : decode prog_5_method_10_code 5 = .ok (.iconst 0, 1) := by decide +kernel
theorem dk_Lumps_mean_6 : decode prog_5_method_10_code 6 = .ok (.istore 5, 2) := by decide +kernel
theorem dk_Lumps_mean_8 : decode prog_5_method_10_code 8 = .ok (.iload 5, 2) := by decide +kernel
theorem dk_Lumps_mean_10 : decode prog_5_method_10_code 10 = .ok (.aload_n 0, 1) := by decide +kernel
theorem dk_Lumps_mean_11 : decode prog_5_method_10_code 11 = .ok (.getfield 33, 3) := by decide +kernel
theorem dk_Lumps_mean_14 : decode prog_5_method_10_code 14 = .ok (.if_icmp .ge 44, 3) := by decide +kernel
theorem dk_Lumps_mean_17 : decode prog_5_method_10_code 17 = .ok (.aload_n 0, 1) := by decide +kernel
theorem dk_Lumps_mean_18 : decode prog_5_method_10_code 18 = .ok (.getfield 9, 3) := by decide +kernel
theorem dk_Lumps_mean_21 : decode prog_5_method_10_code 21 = .ok (.iload 5, 2) := by decide +kernel
theorem dk_Lumps_mean_23 : decode prog_5_method_10_code 23 = .ok (.iaload, 1) := by decide +kernel
theorem dk_Lumps_mean_24 : decode prog_5_method_10_code 24 = .ok (.iload_n 1, 1) := by decide +kernel
theorem dk_Lumps_mean_25 : decode prog_5_method_10_code 25 = .ok (.if_icmp .eq 14, 3) := by decide +kernel
theorem dk_Lumps_mean_28 : decode prog_5_method_10_code 28 = .ok (.aload_n 0, 1) := by decide +kernel
theorem dk_Lumps_mean_29 : decode prog_5_method_10_code 29 = .ok (.getfield 9, 3) := by decide +kernel
theorem dk_Lumps_mean_32 : decode prog_5_method_10_code 32 = .ok (.iload 5, 2) := by decide +kernel
theorem dk_Lumps_mean_34 : decode prog_5_method_10_code 34 = .ok (.iaload, 1) := by decide +kernel
theorem dk_Lumps_mean_35 : decode prog_5_method_10_code 35 = .ok (.iload_n 2, 1) := by decide +kernel
theorem dk_Lumps_mean_36 : decode prog_5_method_10_code 36 = .ok (.if_icmp .ne 16, 3) := by decide +kernel
theorem dk_Lumps_mean_39 : decode prog_5_method_10_code 39 = .ok (.iload_n 3, 1) := by decide +kernel
theorem dk_Lumps_mean_40 : decode prog_5_method_10_code 40 = .ok (.aload_n 0, 1) := by decide +kernel
theorem dk_Lumps_mean_41 : decode prog_5_method_10_code 41 = .ok (.getfield 21, 3) := by decide +kernel
theorem dk_Lumps_mean_44 : decode prog_5_method_10_code 44 = .ok (.iload 5, 2) := by decide +kernel
theorem dk_Lumps_mean_46 : decode prog_5_method_10_code 46 = .ok (.iaload, 1) := by decide +kernel
theorem dk_Lumps_mean_47 : decode prog_5_method_10_code 47 = .ok (.iadd, 1) := by decide +kernel
theorem dk_Lumps_mean_48 : decode prog_5_method_10_code 48 = .ok (.istore_n 3, 1) := by decide +kernel
theorem dk_Lumps_mean_49 : decode prog_5_method_10_code 49 = .ok (.iinc 4 1, 3) := by decide +kernel
theorem dk_Lumps_mean_52 : decode prog_5_method_10_code 52 = .ok (.iinc 5 1, 3) := by decide +kernel
theorem dk_Lumps_mean_55 : decode prog_5_method_10_code 55 = .ok (.goto (-47), 3) := by decide +kernel
theorem dk_Lumps_mean_58 : decode prog_5_method_10_code 58 = .ok (.iload 4, 2) := by decide +kernel
theorem dk_Lumps_mean_60 : decode prog_5_method_10_code 60 = .ok (.ifCond .ne 7, 3) := by decide +kernel
theorem dk_Lumps_mean_63 : decode prog_5_method_10_code 63 = .ok (.iconst 0, 1) := by decide +kernel
theorem dk_Lumps_mean_64 : decode prog_5_method_10_code 64 = .ok (.goto 7, 3) := by decide +kernel
theorem dk_Lumps_mean_67 : decode prog_5_method_10_code 67 = .ok (.iload_n 3, 1) := by decide +kernel
theorem dk_Lumps_mean_68 : decode prog_5_method_10_code 68 = .ok (.iload 4, 2) := by decide +kernel
theorem dk_Lumps_mean_70 : decode prog_5_method_10_code 70 = .ok (.idiv, 1) := by decide +kernel
theorem dk_Lumps_mean_71 : decode prog_5_method_10_code 71 = .ok (.ireturn, 1) := by decide +kernel
noncomputable def fj_Lumps_mean_52 (x3 : Int32) (x7 : Int32) (x8 : Int32) : Option ((Int32 × Int32 × Int32) ⊕ (Int32 × Int32)) :=
  some (.inl (x7, x8, (x3 + (1 : Int32))))
noncomputable def fj_Lumps_mean_39 (x1 : Int32) (c : (Nat → Nat → Int32)) (x3 : Int32) (x2 : Int32) : Option ((Int32 × Int32 × Int32) ⊕ (Int32 × Int32)) :=
  kv_let (x1 + (c 6 x3.toNatClampNeg)) (fun v9 =>
  fj_Lumps_mean_52 x3 v9 (x2 + (1 : Int32)))
noncomputable def fb_Lumps_mean_8 (c : (Nat → Nat → Int32)) (p1 : Int32) (p2 : Int32) (x1 : Int32) (x2 : Int32) (x3 : Int32) : Option ((Int32 × Int32 × Int32) ⊕ (Int32 × Int32)) :=
  if (c 2 7) ≤ x3 then
    some (.inr (x1, x2))
  else
    kv_gd (kv_in x3 10) (
    if (c 3 x3.toNatClampNeg) = p1 then
      fj_Lumps_mean_39 x1 c x3 x2
    else
      if (c 3 x3.toNatClampNeg) = p2 then
        fj_Lumps_mean_39 x1 c x3 x2
      else
        fj_Lumps_mean_52 x3 x1 x2)
noncomputable def fx_Lumps_mean (p1 : Int32) (p2 : Int32) (c : (Nat → Nat → Int32)) : Option Int32 :=
  (kv_loop (kv_u3 (fb_Lumps_mean_8 c p1 p2)) ((0 : Int32), (0 : Int32), (0 : Int32))).bind (kv_u2 (fun x4 x5 =>
  if x5 = 0 then
    some (0 : Int32)
  else
    if x5 = 0 then none else
    some (x4 / x5)))
set_option maxRecDepth 20000 in
theorem cx_Lumps_mean (d : Nat) (p1 : Int32) (p2 : Int32) (c : (Nat → Nat → Int32)) (y : (Nat → Nat → Int32) × (Nat → Int64) × (Nat → Int64)) : ∀ a, fx_Lumps_mean p1 p2 c = some a → kv_C kM_Lumps_mean (d + 0) [.ref 2, .int p1, .int p2] (c, y) (some (.int a), (c, y)) := by
  refine kv_entryX (E := fun a : Int32 => (some (.int a), (c, y))) rfl (Nat.le_of_ble_eq_true rfl) (fun o => ?_)
  unfold fx_Lumps_mean
  show kv_X _ _ _ _ _ 0 [(0, .ref 2), (1, .int p1), (2, .int p2)] [] (c, y)
  refine kv_iconst (pc := 0) (v := (0 : Int32)) dk_Lumps_mean_0 kki_0 ?_
  refine kv_istore_n (pc := 1) (lv' := [(3, .int (0 : Int32)), (0, .ref 2), (1, .int p1), (2, .int p2)]) rfl (Nat.le_of_ble_eq_true rfl) rfl dk_Lumps_mean_1 ?_
  refine kv_iconst (pc := 2) (v := (0 : Int32)) dk_Lumps_mean_2 kki_0 ?_
  refine kv_istore (pc := 3) (lv' := [(4, .int (0 : Int32)), (3, .int (0 : Int32)), (0, .ref 2), (1, .int p1), (2, .int p2)]) rfl (Nat.le_of_ble_eq_true rfl) dk_Lumps_mean_3 ?_
  refine kv_iconst (pc := 5) (v := (0 : Int32)) dk_Lumps_mean_5 kki_0 ?_
  refine kv_istore (pc := 6) (lv' := [(5, .int (0 : Int32)), (4, .int (0 : Int32)), (3, .int (0 : Int32)), (0, .ref 2), (1, .int p1), (2, .int p2)]) rfl (Nat.le_of_ble_eq_true rfl) dk_Lumps_mean_6 ?_
  refine kv_sub (lv' := [(0, .ref 2), (1, .int p1), (2, .int p2), (3, .int (0 : Int32)), (4, .int (0 : Int32)), (5, .int (0 : Int32))]) [3, 4, 5, 2, 1, 0] rfl ?_
  refine kv_lp_3_2 (LV := fun x1 x2 x3 => [(0, .ref 2), (1, .int p1), (2, .int p2), (3, .int x1), (4, .int x2), (5, .int x3)]) (WW := fun x1 x2 x3 => (c, y)) (LE1 := fun x4 x5 => [(3, .int x4), (4, .int x5)]) (WE1 := fun x4 x5 => (c, y)) (pe1 := 58) ?_ ?_
  · intro x4 x5
    show kv_X _ _ _ _ _ 58 [(3, .int x4), (4, .int x5)] [] (c, y)
    refine kv_iload (pc := 58) 1 rfl dk_Lumps_mean_58 ?_
    refine kv_if_ne (pc := 60) (tgt := 67) dk_Lumps_mean_60 rfl ?_ ?_
    · refine kv_iload_n (pc := 67) 0 rfl rfl dk_Lumps_mean_67 ?_
      refine kv_iload (pc := 68) 1 rfl dk_Lumps_mean_68 ?_
      refine kv_idivG (pc := 70) dk_Lumps_mean_70 ?_
      exact kv_iret (pc := 71) (fun h => h) rfl dk_Lumps_mean_71
    · refine kv_iconst (pc := 63) (v := (0 : Int32)) dk_Lumps_mean_63 kki_0 ?_
      refine kv_goto (pc := 64) (tgt := 71) dk_Lumps_mean_64 rfl ?_
      exact kv_iret (pc := 71) (fun h => h) rfl dk_Lumps_mean_71
  · intro hx8_0 x1 x2 x3
    show kv_X _ _ _ _ (fb_Lumps_mean_8 c p1 p2 x1 x2 x3) 8 [(0, .ref 2), (1, .int p1), (2, .int p2), (3, .int x1), (4, .int x2), (5, .int x3)] [] (c, y)
    unfold fb_Lumps_mean_8
    refine kv_iload (pc := 8) 5 rfl dk_Lumps_mean_8 ?_
    refine kv_aload_n (pc := 10) 0 rfl rfl dk_Lumps_mean_10 ?_
    refine kv_getC (pc := 11) kf_Lumps_33 kr_2 kn_2 rfl dk_Lumps_mean_11 ?_
    refine kv_icmp_ge (pc := 14) (tgt := 58) dk_Lumps_mean_14 rfl ?_ ?_
    · exact kv_sub [3, 4] rfl (kv_leaf (hx8_0 _ _))
    · refine kv_aload_n (pc := 17) 0 rfl rfl dk_Lumps_mean_17 ?_
      refine kv_getR (pc := 18) kf_Lumps_9 kr_2 rfl kt_2_0 dk_Lumps_mean_18 ?_
      refine kv_iload (pc := 21) 5 rfl dk_Lumps_mean_21 ?_
      refine kv_guard (fun g6 => ?_)
      refine kv_aldC (pc := 23) kr_3 kn_3 kl_3 g6 rfl dk_Lumps_mean_23 ?_
      refine kv_iload_n (pc := 24) 1 rfl rfl dk_Lumps_mean_24 ?_
      refine kv_cut_2 (J := fj_Lumps_mean_52 x3) (pcj := 52) (LJ := fun x7 x8 => [(0, .ref 2), (1, .int p1), (2, .int p2), (3, .int x7), (4, .int x8), (5, .int x3)]) (SJ := fun x7 x8 => []) (WJ := fun x7 x8 => (c, y)) ?_ (fun hj52 => ?_)
      · intro x7 x8
        show kv_X _ _ _ _ (fj_Lumps_mean_52 x3 x7 x8) 52 [(0, .ref 2), (1, .int p1), (2, .int p2), (3, .int x7), (4, .int x8), (5, .int x3)] [] (c, y)
        unfold fj_Lumps_mean_52
        refine kv_iinc (pc := 52) (kk := (1 : Int32)) (lv' := [(5, .int (x3 + (1 : Int32))), (0, .ref 2), (1, .int p1), (2, .int p2), (3, .int x7), (4, .int x8)]) 5 rfl kki_1 rfl (Nat.le_of_ble_eq_true rfl) dk_Lumps_mean_52 ?_
        refine kv_goto (pc := 55) (tgt := 8) dk_Lumps_mean_55 rfl ?_
        exact kv_sub [1, 2, 3, 4, 5, 0] rfl (kv_leaf (fun h => h))
      refine kv_cut_0 (J := fj_Lumps_mean_39 x1 c x3 x2) (pcj := 39) (LJ := [(0, .ref 2), (1, .int p1), (2, .int p2), (3, .int x1), (4, .int x2), (5, .int x3)]) (SJ := []) (WJ := (c, y)) ?_ (fun hj39 => ?_)
      · show kv_X _ _ _ _ (fj_Lumps_mean_39 x1 c x3 x2) 39 [(0, .ref 2), (1, .int p1), (2, .int p2), (3, .int x1), (4, .int x2), (5, .int x3)] [] (c, y)
        unfold fj_Lumps_mean_39
        refine kv_iload_n (pc := 39) 3 rfl rfl dk_Lumps_mean_39 ?_
        refine kv_aload_n (pc := 40) 0 rfl rfl dk_Lumps_mean_40 ?_
        refine kv_getR (pc := 41) kf_Lumps_21 kr_2 rfl kt_2_3 dk_Lumps_mean_41 ?_
        refine kv_iload (pc := 44) 5 rfl dk_Lumps_mean_44 ?_
        refine kv_aldC (pc := 46) kr_6 kn_6 kl_6 g6 rfl dk_Lumps_mean_46 ?_
        refine kv_iadd (pc := 47) dk_Lumps_mean_47 ?_
        refine kv_letI (fun v9 => ?_)
        refine kv_istore_n (pc := 48) (lv' := [(3, .int v9), (0, .ref 2), (1, .int p1), (2, .int p2), (4, .int x2), (5, .int x3)]) rfl (Nat.le_of_ble_eq_true rfl) rfl dk_Lumps_mean_48 ?_
        refine kv_iinc (pc := 49) (kk := (1 : Int32)) (lv' := [(4, .int (x2 + (1 : Int32))), (3, .int v9), (0, .ref 2), (1, .int p1), (2, .int p2), (5, .int x3)]) 4 rfl kki_1 rfl (Nat.le_of_ble_eq_true rfl) dk_Lumps_mean_49 ?_
        exact kv_sub [2, 3, 4, 1, 0, 5] rfl (hj52 v9 (x2 + (1 : Int32)))
      refine kv_icmp_eq (pc := 25) (tgt := 39) dk_Lumps_mean_25 rfl ?_ ?_
      · exact hj39
      · refine kv_aload_n (pc := 28) 0 rfl rfl dk_Lumps_mean_28 ?_
        refine kv_getR (pc := 29) kf_Lumps_9 kr_2 rfl kt_2_0 dk_Lumps_mean_29 ?_
        refine kv_iload (pc := 32) 5 rfl dk_Lumps_mean_32 ?_
        refine kv_aldC (pc := 34) kr_3 kn_3 kl_3 g6 rfl dk_Lumps_mean_34 ?_
        refine kv_iload_n (pc := 35) 2 rfl rfl dk_Lumps_mean_35 ?_
        refine kv_icmp_ne (pc := 36) (tgt := 52) dk_Lumps_mean_36 rfl ?_ ?_
        · exact hj52 x1 x2
        · exact hj39
theorem dk_Reader_start_0 : decode prog_8_method_3_code 0 = .ok (.aload_n 1, 1) := by decide +kernel
theorem dk_Reader_start_1 : decode prog_8_method_3_code 1 = .ok (.iconst 0, 1) := by decide +kernel
theorem dk_Reader_start_2 : decode prog_8_method_3_code 2 = .ok (.aload_n 0, 1) := by decide +kernel
theorem dk_Reader_start_3 : decode prog_8_method_3_code 3 = .ok (.getfield 9, 3) := by decide +kernel
theorem dk_Reader_start_6 : decode prog_8_method_3_code 6 = .ok (.iconst 0, 1) := by decide +kernel
theorem dk_Reader_start_7 : decode prog_8_method_3_code 7 = .ok (.iload_n 2, 1) := by decide +kernel
theorem dk_Reader_start_8 : decode prog_8_method_3_code 8 = .ok (.invokestatic 35, 3) := by decide +kernel
theorem dk_Reader_start_11 : decode prog_8_method_3_code 11 = .ok (.aload_n 0, 1) := by decide +kernel
theorem dk_Reader_start_12 : decode prog_8_method_3_code 12 = .ok (.iload_n 2, 1) := by decide +kernel
theorem dk_Reader_start_13 : decode prog_8_method_3_code 13 = .ok (.putfield 29, 3) := by decide +kernel
theorem dk_Reader_start_16 : decode prog_8_method_3_code 16 = .ok (.aload_n 0, 1) := by decide +kernel
theorem dk_Reader_start_17 : decode prog_8_method_3_code 17 = .ok (.iconst 0, 1) := by decide +kernel
theorem dk_Reader_start_18 : decode prog_8_method_3_code 18 = .ok (.putfield 26, 3) := by decide +kernel
theorem dk_Reader_start_21 : decode prog_8_method_3_code 21 = .ok (.aload_n 0, 1) := by decide +kernel
theorem dk_Reader_start_22 : decode prog_8_method_3_code 22 = .ok (.iconst (-1), 1) := by decide +kernel
theorem dk_Reader_start_23 : decode prog_8_method_3_code 23 = .ok (.putfield 22, 3) := by decide +kernel
theorem dk_Reader_start_26 : decode prog_8_method_3_code 26 = .ok (.aload_n 0, 1) := by decide +kernel
theorem dk_Reader_start_27 : decode prog_8_method_3_code 27 = .ok (.iconst (-1), 1) := by decide +kernel
theorem dk_Reader_start_28 : decode prog_8_method_3_code 28 = .ok (.putfield 41, 3) := by decide +kernel
theorem dk_Reader_start_31 : decode prog_8_method_3_code 31 = .ok (.aload_n 0, 1) := by decide +kernel
theorem dk_Reader_start_32 : decode prog_8_method_3_code 32 = .ok (.iconst 0, 1) := by decide +kernel
theorem dk_Reader_start_33 : decode prog_8_method_3_code 33 = .ok (.putfield 44, 3) := by decide +kernel
theorem dk_Reader_start_36 : decode prog_8_method_3_code 36 = .ok (.aload_n 0, 1) := by decide +kernel
theorem dk_Reader_start_37 : decode prog_8_method_3_code 37 = .ok (.aload_n 3, 1) := by decide +kernel
theorem dk_Reader_start_38 : decode prog_8_method_3_code 38 = .ok (.getfield 47, 3) := by decide +kernel
theorem dk_Reader_start_41 : decode prog_8_method_3_code 41 = .ok (.putfield 52, 3) := by decide +kernel
theorem dk_Reader_start_44 : decode prog_8_method_3_code 44 = .ok (.aload_n 0, 1) := by decide +kernel
theorem dk_Reader_start_45 : decode prog_8_method_3_code 45 = .ok (.iconst (-1), 1) := by decide +kernel
theorem dk_Reader_start_46 : decode prog_8_method_3_code 46 = .ok (.putfield 53, 3) := by decide +kernel
theorem dk_Reader_start_49 : decode prog_8_method_3_code 49 = .ok (.aload_n 0, 1) := by decide +kernel
theorem dk_Reader_start_50 : decode prog_8_method_3_code 50 = .ok (.iconst 0, 1) := by decide +kernel
theorem dk_Reader_start_51 : decode prog_8_method_3_code 51 = .ok (.putfield 32, 3) := by decide +kernel
theorem dk_Reader_start_54 : decode prog_8_method_3_code 54 = .ok (.aload_n 0, 1) := by decide +kernel
theorem dk_Reader_start_55 : decode prog_8_method_3_code 55 = .ok (.aload_n 3, 1) := by decide +kernel
theorem dk_Reader_start_56 : decode prog_8_method_3_code 56 = .ok (.getfield 56, 3) := by decide +kernel
theorem dk_Reader_start_59 : decode prog_8_method_3_code 59 = .ok (.iconst 1, 1) := by decide +kernel
theorem dk_Reader_start_60 : decode prog_8_method_3_code 60 = .ok (.iconst 1, 1) := by decide +kernel
theorem dk_Reader_start_61 : decode prog_8_method_3_code 61 = .ok (.invokevirtual 60, 3) := by decide +kernel
theorem dk_Reader_start_64 : decode prog_8_method_3_code 64 = .ok (.putfield 66, 3) := by decide +kernel
theorem dk_Reader_start_67 : decode prog_8_method_3_code 67 = .ok (.aload_n 0, 1) := by decide +kernel
theorem dk_Reader_start_68 : decode prog_8_method_3_code 68 = .ok (.aload_n 3, 1) := by decide +kernel
theorem dk_Reader_start_69 : decode prog_8_method_3_code 69 = .ok (.getfield 56, 3) := by decide +kernel
theorem dk_Reader_start_72 : decode prog_8_method_3_code 72 = .ok (.iconst 2, 1) := by decide +kernel
theorem dk_Reader_start_73 : decode prog_8_method_3_code 73 = .ok (.iconst 2, 1) := by decide +kernel
theorem dk_Reader_start_74 : decode prog_8_method_3_code 74 = .ok (.invokevirtual 60, 3) := by decide +kernel
theorem dk_Reader_start_77 : decode prog_8_method_3_code 77 = .ok (.putfield 69, 3) := by decide +kernel
theorem dk_Reader_start_80 : decode prog_8_method_3_code 80 = .ok (.aload_n 0, 1) := by decide +kernel
theorem dk_Reader_start_81 : decode prog_8_method_3_code 81 = .ok (.aload_n 3, 1) := by decide +kernel
theorem dk_Reader_start_82 : decode prog_8_method_3_code 82 = .ok (.getfield 56, 3) := by decide +kernel
theorem dk_Reader_start_85 : decode prog_8_method_3_code 85 = .ok (.bipush 7, 2) := by decide +kernel
theorem dk_Reader_start_87 : decode prog_8_method_3_code 87 = .ok (.bipush 7, 2) := by decide +kernel
theorem dk_Reader_start_89 : decode prog_8_method_3_code 89 = .ok (.invokevirtual 60, 3) := by decide +kernel
theorem dk_Reader_start_92 : decode prog_8_method_3_code 92 = .ok (.putfield 72, 3) := by decide +kernel
theorem dk_Reader_start_95 : decode prog_8_method_3_code 95 = .ok (.aload_n 0, 1) := by decide +kernel
theorem dk_Reader_start_96 : decode prog_8_method_3_code 96 = .ok (.aload_n 3, 1) := by decide +kernel
theorem dk_Reader_start_97 : decode prog_8_method_3_code 97 = .ok (.getfield 56, 3) := by decide +kernel
theorem dk_Reader_start_100 : decode prog_8_method_3_code 100 = .ok (.iconst 3, 1) := by decide +kernel
theorem dk_Reader_start_101 : decode prog_8_method_3_code 101 = .ok (.iconst 4, 1) := by decide +kernel
theorem dk_Reader_start_102 : decode prog_8_method_3_code 102 = .ok (.invokevirtual 60, 3) := by decide +kernel
theorem dk_Reader_start_105 : decode prog_8_method_3_code 105 = .ok (.putfield 75, 3) := by decide +kernel
theorem dk_Reader_start_108 : decode prog_8_method_3_code 108 = .ok (.return_, 1) := by decide +kernel
noncomputable def fx_Reader_start (r1 : Nat) (p2 : Int32) (c : (Nat → Nat → Int32)) : Option (Nat → Nat → Int32) :=
  kv_gd (kv_cp (0 : Int32) (0 : Int32) p2 (kv_ln r1) 100) (
  kv_let (va_up c 76 (va_cpy (c r1) (c 76) (0 : Int32).toNatClampNeg (0 : Int32).toNatClampNeg p2.toNatClampNeg)) (fun c2 =>
  kv_let (kv_st c2 75 1 p2) (fun c3 =>
  kv_let (kv_st c3 75 2 (0 : Int32)) (fun c4 =>
  kv_let (kv_st c4 75 3 (-1 : Int32)) (fun c5 =>
  kv_let (kv_st c5 75 4 (-1 : Int32)) (fun c6 =>
  kv_let (kv_st c6 75 5 (0 : Int32)) (fun c7 =>
  kv_let (kv_st c7 75 6 (c7 1 5)) (fun c8 =>
  kv_let (kv_st c8 75 7 (-1 : Int32)) (fun c9 =>
  kv_let (kv_st c9 75 8 (0 : Int32)) (fun c10 =>
  kv_bind1 (fx_Lumps_mean (1 : Int32) (1 : Int32) c10) (fun v11 =>
  kv_let (kv_st c10 75 9 v11) (fun c12 =>
  kv_bind1 (fx_Lumps_mean (2 : Int32) (2 : Int32) c12) (fun v13 =>
  kv_let (kv_st c12 75 10 v13) (fun c14 =>
  kv_bind1 (fx_Lumps_mean (7 : Int32) (7 : Int32) c14) (fun v15 =>
  kv_let (kv_st c14 75 11 v15) (fun c16 =>
  kv_bind1 (fx_Lumps_mean (3 : Int32) (4 : Int32) c16) (fun v17 =>
  kv_let (kv_st c16 75 12 v17) (fun c18 =>
  some c18))))))))))))))))))
set_option maxRecDepth 20000 in
theorem cx_Reader_start (d : Nat) (r1 : Nat) (p2 : Int32) (c : (Nat → Nat → Int32)) (y : (Nat → Nat → Int32) × (Nat → Int64) × (Nat → Int64)) (h1 : kv_kd r1 = 12) (hc1 : r1 < kv_NC) : ∀ a, fx_Reader_start r1 p2 c = some a → kv_C kM_Reader_start (d + 1) [.ref 75, .ref r1, .int p2, .ref 1] (c, y) (none, (a, y)) := by
  refine kv_entryX (E := fun a : (Nat → Nat → Int32) => (none, (a, y))) rfl (Nat.le_of_ble_eq_true rfl) (fun o => ?_)
  unfold fx_Reader_start
  show kv_X _ _ _ _ _ 0 [(0, .ref 75), (1, .ref r1), (2, .int p2), (3, .ref 1)] [] (c, y)
  refine kv_aload_n (pc := 0) 1 rfl rfl dk_Reader_start_0 ?_
  refine kv_iconst (pc := 1) (v := (0 : Int32)) dk_Reader_start_1 kki_0 ?_
  refine kv_aload_n (pc := 2) 0 rfl rfl dk_Reader_start_2 ?_
  refine kv_getR (pc := 3) kf_Reader_9 kr_75 rfl kt_75_0 dk_Reader_start_3 ?_
  refine kv_iconst (pc := 6) (v := (0 : Int32)) dk_Reader_start_6 kki_0 ?_
  refine kv_iload_n (pc := 7) 2 rfl rfl dk_Reader_start_7 ?_
  refine kv_guard (fun g1 => ?_)
  refine kv_copyC (pc := 8) h1 kr_76 hc1 kn_76 rfl kl_76 g1 kw_853 kw_752 kw_751 kw_82 (Nat.le_of_ble_eq_true rfl) dk_Reader_start_8 (fun c2 => ?_)
  refine kv_aload_n (pc := 11) 0 rfl rfl dk_Reader_start_11 ?_
  refine kv_iload_n (pc := 12) 2 rfl rfl dk_Reader_start_12 ?_
  refine kv_putC (pc := 13) kf_Reader_29 kr_75 kn_75 rfl rfl rfl dk_Reader_start_13 (fun c3 => ?_)
  refine kv_aload_n (pc := 16) 0 rfl rfl dk_Reader_start_16 ?_
  refine kv_iconst (pc := 17) (v := (0 : Int32)) dk_Reader_start_17 kki_0 ?_
  refine kv_putC (pc := 18) kf_Reader_26 kr_75 kn_75 rfl rfl rfl dk_Reader_start_18 (fun c4 => ?_)
  refine kv_aload_n (pc := 21) 0 rfl rfl dk_Reader_start_21 ?_
  refine kv_iconst (pc := 22) (v := (-1 : Int32)) dk_Reader_start_22 kki_m1 ?_
  refine kv_putC (pc := 23) kf_Reader_22 kr_75 kn_75 rfl rfl rfl dk_Reader_start_23 (fun c5 => ?_)
  refine kv_aload_n (pc := 26) 0 rfl rfl dk_Reader_start_26 ?_
  refine kv_iconst (pc := 27) (v := (-1 : Int32)) dk_Reader_start_27 kki_m1 ?_
  refine kv_putC (pc := 28) kf_Reader_41 kr_75 kn_75 rfl rfl rfl dk_Reader_start_28 (fun c6 => ?_)
  refine kv_aload_n (pc := 31) 0 rfl rfl dk_Reader_start_31 ?_
  refine kv_iconst (pc := 32) (v := (0 : Int32)) dk_Reader_start_32 kki_0 ?_
  refine kv_putC (pc := 33) kf_Reader_44 kr_75 kn_75 rfl rfl rfl dk_Reader_start_33 (fun c7 => ?_)
  refine kv_aload_n (pc := 36) 0 rfl rfl dk_Reader_start_36 ?_
  refine kv_aload_n (pc := 37) 3 rfl rfl dk_Reader_start_37 ?_
  refine kv_getC (pc := 38) kf_Reader_47 kr_1 kn_1 rfl dk_Reader_start_38 ?_
  refine kv_putC (pc := 41) kf_Reader_52 kr_75 kn_75 rfl rfl rfl dk_Reader_start_41 (fun c8 => ?_)
  refine kv_aload_n (pc := 44) 0 rfl rfl dk_Reader_start_44 ?_
  refine kv_iconst (pc := 45) (v := (-1 : Int32)) dk_Reader_start_45 kki_m1 ?_
  refine kv_putC (pc := 46) kf_Reader_53 kr_75 kn_75 rfl rfl rfl dk_Reader_start_46 (fun c9 => ?_)
  refine kv_aload_n (pc := 49) 0 rfl rfl dk_Reader_start_49 ?_
  refine kv_iconst (pc := 50) (v := (0 : Int32)) dk_Reader_start_50 kki_0 ?_
  refine kv_putC (pc := 51) kf_Reader_32 kr_75 kn_75 rfl rfl rfl dk_Reader_start_51 (fun c10 => ?_)
  refine kv_aload_n (pc := 54) 0 rfl rfl dk_Reader_start_54 ?_
  refine kv_aload_n (pc := 55) 3 rfl rfl dk_Reader_start_55 ?_
  refine kv_getR (pc := 56) kf_Reader_56 kr_1 rfl kt_1_0 dk_Reader_start_56 ?_
  refine kv_iconst (pc := 59) (v := (1 : Int32)) dk_Reader_start_59 kki_1 ?_
  refine kv_iconst (pc := 60) (v := (1 : Int32)) dk_Reader_start_60 kki_1 ?_
  refine kv_cV_cI (pc := 61) (as := [.int (1 : Int32), .int (1 : Int32)]) (st := [.ref 75]) ko_Lumps_mean kc_3 rfl rfl kr_2 kw_854 (Nat.le_of_ble_eq_true rfl) rfl dk_Reader_start_61 (cx_Lumps_mean d (1 : Int32) (1 : Int32) c10 y) (fun v11 => ?_)
  refine kv_putC (pc := 64) kf_Reader_66 kr_75 kn_75 rfl rfl rfl dk_Reader_start_64 (fun c12 => ?_)
  refine kv_aload_n (pc := 67) 0 rfl rfl dk_Reader_start_67 ?_
  refine kv_aload_n (pc := 68) 3 rfl rfl dk_Reader_start_68 ?_
  refine kv_getR (pc := 69) kf_Reader_56 kr_1 rfl kt_1_0 dk_Reader_start_69 ?_
  refine kv_iconst (pc := 72) (v := (2 : Int32)) dk_Reader_start_72 kki_2 ?_
  refine kv_iconst (pc := 73) (v := (2 : Int32)) dk_Reader_start_73 kki_2 ?_
  refine kv_cV_cI (pc := 74) (as := [.int (2 : Int32), .int (2 : Int32)]) (st := [.ref 75]) ko_Lumps_mean kc_3 rfl rfl kr_2 kw_854 (Nat.le_of_ble_eq_true rfl) rfl dk_Reader_start_74 (cx_Lumps_mean d (2 : Int32) (2 : Int32) c12 y) (fun v13 => ?_)
  refine kv_putC (pc := 77) kf_Reader_69 kr_75 kn_75 rfl rfl rfl dk_Reader_start_77 (fun c14 => ?_)
  refine kv_aload_n (pc := 80) 0 rfl rfl dk_Reader_start_80 ?_
  refine kv_aload_n (pc := 81) 3 rfl rfl dk_Reader_start_81 ?_
  refine kv_getR (pc := 82) kf_Reader_56 kr_1 rfl kt_1_0 dk_Reader_start_82 ?_
  refine kv_bipush (pc := 85) (v := (7 : Int32)) dk_Reader_start_85 kkb_7 ?_
  refine kv_bipush (pc := 87) (v := (7 : Int32)) dk_Reader_start_87 kkb_7 ?_
  refine kv_cV_cI (pc := 89) (as := [.int (7 : Int32), .int (7 : Int32)]) (st := [.ref 75]) ko_Lumps_mean kc_3 rfl rfl kr_2 kw_854 (Nat.le_of_ble_eq_true rfl) rfl dk_Reader_start_89 (cx_Lumps_mean d (7 : Int32) (7 : Int32) c14 y) (fun v15 => ?_)
  refine kv_putC (pc := 92) kf_Reader_72 kr_75 kn_75 rfl rfl rfl dk_Reader_start_92 (fun c16 => ?_)
  refine kv_aload_n (pc := 95) 0 rfl rfl dk_Reader_start_95 ?_
  refine kv_aload_n (pc := 96) 3 rfl rfl dk_Reader_start_96 ?_
  refine kv_getR (pc := 97) kf_Reader_56 kr_1 rfl kt_1_0 dk_Reader_start_97 ?_
  refine kv_iconst (pc := 100) (v := (3 : Int32)) dk_Reader_start_100 kki_3 ?_
  refine kv_iconst (pc := 101) (v := (4 : Int32)) dk_Reader_start_101 kki_4 ?_
  refine kv_cV_cI (pc := 102) (as := [.int (3 : Int32), .int (4 : Int32)]) (st := [.ref 75]) ko_Lumps_mean kc_3 rfl rfl kr_2 kw_854 (Nat.le_of_ble_eq_true rfl) rfl dk_Reader_start_102 (cx_Lumps_mean d (3 : Int32) (4 : Int32) c16 y) (fun v17 => ?_)
  refine kv_putC (pc := 105) kf_Reader_75 kr_75 kn_75 rfl rfl rfl dk_Reader_start_105 (fun c18 => ?_)
  exact kv_vret (pc := 108) (fun h => h) rfl dk_Reader_start_108
theorem dk_Reader_isAtDigit_0 : decode prog_8_method_12_code 0 = .ok (.aload_n 0, 1) := by decide +kernel
theorem dk_Reader_isAtDigit_1 : decode prog_8_method_12_code 1 = .ok (.getfield 22, 3) := by decide +kernel
theorem dk_Reader_isAtDigit_4 : decode prog_8_method_12_code 4 = .ok (.ifCond .ge 46, 3) := by decide +kernel
theorem dk_Reader_isAtDigit_7 : decode prog_8_method_12_code 7 = .ok (.aload_n 0, 1) := by decide +kernel
theorem dk_Reader_isAtDigit_8 : decode prog_8_method_12_code 8 = .ok (.getfield 26, 3) := by decide +kernel
theorem dk_Reader_isAtDigit_11 : decode prog_8_method_12_code 11 = .ok (.aload_n 0, 1) := by decide +kernel
theorem dk_Reader_isAtDigit_12 : decode prog_8_method_12_code 12 = .ok (.getfield 29, 3) := by decide +kernel
theorem dk_Reader_isAtDigit_15 : decode prog_8_method_12_code 15 = .ok (.if_icmp .ge 35, 3) := by decide +kernel
theorem dk_Reader_isAtDigit_18 : decode prog_8_method_12_code 18 = .ok (.aload_n 0, 1) := by decide +kernel
theorem dk_Reader_isAtDigit_19 : decode prog_8_method_12_code 19 = .ok (.getfield 9, 3) := by decide +kernel
theorem dk_Reader_isAtDigit_22 : decode prog_8_method_12_code 22 = .ok (.aload_n 0, 1) := by decide +kernel
theorem dk_Reader_isAtDigit_23 : decode prog_8_method_12_code 23 = .ok (.getfield 26, 3) := by decide +kernel
theorem dk_Reader_isAtDigit_26 : decode prog_8_method_12_code 26 = .ok (.iaload, 1) := by decide +kernel
theorem dk_Reader_isAtDigit_27 : decode prog_8_method_12_code 27 = .ok (.bipush 48, 2) := by decide +kernel
theorem dk_Reader_isAtDigit_29 : decode prog_8_method_12_code 29 = .ok (.if_icmp .lt 21, 3) := by decide +kernel
theorem dk_Reader_isAtDigit_32 : decode prog_8_method_12_code 32 = .ok (.aload_n 0, 1) := by decide +kernel
theorem dk_Reader_isAtDigit_33 : decode prog_8_method_12_code 33 = .ok (.getfield 9, 3) := by decide +kernel
theorem dk_Reader_isAtDigit_36 : decode prog_8_method_12_code 36 = .ok (.aload_n 0, 1) := by decide +kernel
theorem dk_Reader_isAtDigit_37 : decode prog_8_method_12_code 37 = .ok (.getfield 26, 3) := by decide +kernel
theorem dk_Reader_isAtDigit_40 : decode prog_8_method_12_code 40 = .ok (.iaload, 1) := by decide +kernel
theorem dk_Reader_isAtDigit_41 : decode prog_8_method_12_code 41 = .ok (.bipush 57, 2) := by decide +kernel
theorem dk_Reader_isAtDigit_43 : decode prog_8_method_12_code 43 = .ok (.if_icmp .gt 7, 3) := by decide +kernel
theorem dk_Reader_isAtDigit_46 : decode prog_8_method_12_code 46 = .ok (.iconst 1, 1) := by decide +kernel
theorem dk_Reader_isAtDigit_47 : decode prog_8_method_12_code 47 = .ok (.goto 4, 3) := by decide +kernel
theorem dk_Reader_isAtDigit_50 : decode prog_8_method_12_code 50 = .ok (.iconst 0, 1) := by decide +kernel
theorem dk_Reader_isAtDigit_51 : decode prog_8_method_12_code 51 = .ok (.ireturn, 1) := by decide +kernel
noncomputable def fx_Reader_isAtDigit (c : (Nat → Nat → Int32)) : Option Bool :=
  if 0 ≤ (c 75 3) then
    some false
  else
    if (c 75 1) ≤ (c 75 2) then
      some false
    else
      kv_gd (kv_in (c 75 2) 100) (
      if (c 76 (c 75 2).toNatClampNeg) < (48 : Int32) then
        some false
      else
        if (57 : Int32) < (c 76 (c 75 2).toNatClampNeg) then
          some false
        else
          some true)
set_option maxRecDepth 20000 in
theorem cx_Reader_isAtDigit (d : Nat) (c : (Nat → Nat → Int32)) (y : (Nat → Nat → Int32) × (Nat → Int64) × (Nat → Int64)) : ∀ a, fx_Reader_isAtDigit c = some a → kv_C kM_Reader_isAtDigit (d + 0) [.ref 75] (c, y) (some (.int (kv_b a)), (c, y)) := by
  refine kv_entryX (E := fun a : Bool => (some (.int (kv_b a)), (c, y))) rfl (Nat.le_of_ble_eq_true rfl) (fun o => ?_)
  unfold fx_Reader_isAtDigit
  show kv_X _ _ _ _ _ 0 [(0, .ref 75)] [] (c, y)
  refine kv_aload_n (pc := 0) 0 rfl rfl dk_Reader_isAtDigit_0 ?_
  refine kv_getC (pc := 1) kf_Reader_22 kr_75 kn_75 rfl dk_Reader_isAtDigit_1 ?_
  refine kv_if_ge (pc := 4) (tgt := 50) dk_Reader_isAtDigit_4 rfl ?_ ?_
  · refine kv_iconst (pc := 50) (v := (0 : Int32)) dk_Reader_isAtDigit_50 kki_0 ?_
    exact kv_zret (pc := 51) (b := false) (fun h => h) rfl dk_Reader_isAtDigit_51
  · refine kv_aload_n (pc := 7) 0 rfl rfl dk_Reader_isAtDigit_7 ?_
    refine kv_getC (pc := 8) kf_Reader_26 kr_75 kn_75 rfl dk_Reader_isAtDigit_8 ?_
    refine kv_aload_n (pc := 11) 0 rfl rfl dk_Reader_isAtDigit_11 ?_
    refine kv_getC (pc := 12) kf_Reader_29 kr_75 kn_75 rfl dk_Reader_isAtDigit_12 ?_
    refine kv_icmp_ge (pc := 15) (tgt := 50) dk_Reader_isAtDigit_15 rfl ?_ ?_
    · refine kv_iconst (pc := 50) (v := (0 : Int32)) dk_Reader_isAtDigit_50 kki_0 ?_
      exact kv_zret (pc := 51) (b := false) (fun h => h) rfl dk_Reader_isAtDigit_51
    · refine kv_aload_n (pc := 18) 0 rfl rfl dk_Reader_isAtDigit_18 ?_
      refine kv_getR (pc := 19) kf_Reader_9 kr_75 rfl kt_75_0 dk_Reader_isAtDigit_19 ?_
      refine kv_aload_n (pc := 22) 0 rfl rfl dk_Reader_isAtDigit_22 ?_
      refine kv_getC (pc := 23) kf_Reader_26 kr_75 kn_75 rfl dk_Reader_isAtDigit_23 ?_
      refine kv_guard (fun g1 => ?_)
      refine kv_aldC (pc := 26) kr_76 kn_76 kl_76 g1 rfl dk_Reader_isAtDigit_26 ?_
      refine kv_bipush (pc := 27) (v := (48 : Int32)) dk_Reader_isAtDigit_27 kkb_48 ?_
      refine kv_icmp_lt (pc := 29) (tgt := 50) dk_Reader_isAtDigit_29 rfl ?_ ?_
      · refine kv_iconst (pc := 50) (v := (0 : Int32)) dk_Reader_isAtDigit_50 kki_0 ?_
        exact kv_zret (pc := 51) (b := false) (fun h => h) rfl dk_Reader_isAtDigit_51
      · refine kv_aload_n (pc := 32) 0 rfl rfl dk_Reader_isAtDigit_32 ?_
        refine kv_getR (pc := 33) kf_Reader_9 kr_75 rfl kt_75_0 dk_Reader_isAtDigit_33 ?_
        refine kv_aload_n (pc := 36) 0 rfl rfl dk_Reader_isAtDigit_36 ?_
        refine kv_getC (pc := 37) kf_Reader_26 kr_75 kn_75 rfl dk_Reader_isAtDigit_37 ?_
        refine kv_aldC (pc := 40) kr_76 kn_76 kl_76 g1 rfl dk_Reader_isAtDigit_40 ?_
        refine kv_bipush (pc := 41) (v := (57 : Int32)) dk_Reader_isAtDigit_41 kkb_57 ?_
        refine kv_icmp_gt (pc := 43) (tgt := 50) dk_Reader_isAtDigit_43 rfl ?_ ?_
        · refine kv_iconst (pc := 50) (v := (0 : Int32)) dk_Reader_isAtDigit_50 kki_0 ?_
          exact kv_zret (pc := 51) (b := false) (fun h => h) rfl dk_Reader_isAtDigit_51
        · refine kv_iconst (pc := 46) (v := (1 : Int32)) dk_Reader_isAtDigit_46 kki_1 ?_
          refine kv_goto (pc := 47) (tgt := 51) dk_Reader_isAtDigit_47 rfl ?_
          exact kv_zret (pc := 51) (b := true) (fun h => h) rfl dk_Reader_isAtDigit_51
theorem dk_Reader_isAt_0 : decode prog_8_method_11_code 0 = .ok (.aload_n 0, 1) := by decide +kernel
theorem dk_Reader_isAt_1 : decode prog_8_method_11_code 1 = .ok (.getfield 22, 3) := by decide +kernel
theorem dk_Reader_isAt_4 : decode prog_8_method_11_code 4 = .ok (.ifCond .ge 31, 3) := by decide +kernel
theorem dk_Reader_isAt_7 : decode prog_8_method_11_code 7 = .ok (.aload_n 0, 1) := by decide +kernel
theorem dk_Reader_isAt_8 : decode prog_8_method_11_code 8 = .ok (.getfield 26, 3) := by decide +kernel
theorem dk_Reader_isAt_11 : decode prog_8_method_11_code 11 = .ok (.aload_n 0, 1) := by decide +kernel
theorem dk_Reader_isAt_12 : decode prog_8_method_11_code 12 = .ok (.getfield 29, 3) := by decide +kernel
theorem dk_Reader_isAt_15 : decode prog_8_method_11_code 15 = .ok (.if_icmp .ge 20, 3) := by decide +kernel
theorem dk_Reader_isAt_18 : decode prog_8_method_11_code 18 = .ok (.aload_n 0, 1) := by decide +kernel
theorem dk_Reader_isAt_19 : decode prog_8_method_11_code 19 = .ok (.getfield 9, 3) := by decide +kernel
theorem dk_Reader_isAt_22 : decode prog_8_method_11_code 22 = .ok (.aload_n 0, 1) := by decide +kernel
theorem dk_Reader_isAt_23 : decode prog_8_method_11_code 23 = .ok (.getfield 26, 3) := by decide +kernel
theorem dk_Reader_isAt_26 : decode prog_8_method_11_code 26 = .ok (.iaload, 1) := by decide +kernel
theorem dk_Reader_isAt_27 : decode prog_8_method_11_code 27 = .ok (.iload_n 1, 1) := by decide +kernel
theorem dk_Reader_isAt_28 : decode prog_8_method_11_code 28 = .ok (.if_icmp .ne 7, 3) := by decide +kernel
theorem dk_Reader_isAt_31 : decode prog_8_method_11_code 31 = .ok (.iconst 1, 1) := by decide +kernel
theorem dk_Reader_isAt_32 : decode prog_8_method_11_code 32 = .ok (.goto 4, 3) := by decide +kernel
theorem dk_Reader_isAt_35 : decode prog_8_method_11_code 35 = .ok (.iconst 0, 1) := by decide +kernel
theorem dk_Reader_isAt_36 : decode prog_8_method_11_code 36 = .ok (.ireturn, 1) := by decide +kernel
noncomputable def fx_Reader_isAt (p1 : Int32) (c : (Nat → Nat → Int32)) : Option Bool :=
  if 0 ≤ (c 75 3) then
    some false
  else
    if (c 75 1) ≤ (c 75 2) then
      some false
    else
      kv_gd (kv_in (c 75 2) 100) (
      if (c 76 (c 75 2).toNatClampNeg) = p1 then
        some true
      else
        some false)
set_option maxRecDepth 20000 in
theorem cx_Reader_isAt (d : Nat) (p1 : Int32) (c : (Nat → Nat → Int32)) (y : (Nat → Nat → Int32) × (Nat → Int64) × (Nat → Int64)) : ∀ a, fx_Reader_isAt p1 c = some a → kv_C kM_Reader_isAt (d + 0) [.ref 75, .int p1] (c, y) (some (.int (kv_b a)), (c, y)) := by
  refine kv_entryX (E := fun a : Bool => (some (.int (kv_b a)), (c, y))) rfl (Nat.le_of_ble_eq_true rfl) (fun o => ?_)
  unfold fx_Reader_isAt
  show kv_X _ _ _ _ _ 0 [(0, .ref 75), (1, .int p1)] [] (c, y)
  refine kv_aload_n (pc := 0) 0 rfl rfl dk_Reader_isAt_0 ?_
  refine kv_getC (pc := 1) kf_Reader_22 kr_75 kn_75 rfl dk_Reader_isAt_1 ?_
  refine kv_if_ge (pc := 4) (tgt := 35) dk_Reader_isAt_4 rfl ?_ ?_
  · refine kv_iconst (pc := 35) (v := (0 : Int32)) dk_Reader_isAt_35 kki_0 ?_
    exact kv_zret (pc := 36) (b := false) (fun h => h) rfl dk_Reader_isAt_36
  · refine kv_aload_n (pc := 7) 0 rfl rfl dk_Reader_isAt_7 ?_
    refine kv_getC (pc := 8) kf_Reader_26 kr_75 kn_75 rfl dk_Reader_isAt_8 ?_
    refine kv_aload_n (pc := 11) 0 rfl rfl dk_Reader_isAt_11 ?_
    refine kv_getC (pc := 12) kf_Reader_29 kr_75 kn_75 rfl dk_Reader_isAt_12 ?_
    refine kv_icmp_ge (pc := 15) (tgt := 35) dk_Reader_isAt_15 rfl ?_ ?_
    · refine kv_iconst (pc := 35) (v := (0 : Int32)) dk_Reader_isAt_35 kki_0 ?_
      exact kv_zret (pc := 36) (b := false) (fun h => h) rfl dk_Reader_isAt_36
    · refine kv_aload_n (pc := 18) 0 rfl rfl dk_Reader_isAt_18 ?_
      refine kv_getR (pc := 19) kf_Reader_9 kr_75 rfl kt_75_0 dk_Reader_isAt_19 ?_
      refine kv_aload_n (pc := 22) 0 rfl rfl dk_Reader_isAt_22 ?_
      refine kv_getC (pc := 23) kf_Reader_26 kr_75 kn_75 rfl dk_Reader_isAt_23 ?_
      refine kv_guard (fun g1 => ?_)
      refine kv_aldC (pc := 26) kr_76 kn_76 kl_76 g1 rfl dk_Reader_isAt_26 ?_
      refine kv_iload_n (pc := 27) 1 rfl rfl dk_Reader_isAt_27 ?_
      refine kv_icmp_ne (pc := 28) (tgt := 35) dk_Reader_isAt_28 rfl ?_ ?_
      · refine kv_iconst (pc := 35) (v := (0 : Int32)) dk_Reader_isAt_35 kki_0 ?_
        exact kv_zret (pc := 36) (b := false) (fun h => h) rfl dk_Reader_isAt_36
      · refine kv_iconst (pc := 31) (v := (1 : Int32)) dk_Reader_isAt_31 kki_1 ?_
        refine kv_goto (pc := 32) (tgt := 36) dk_Reader_isAt_32 rfl ?_
        exact kv_zret (pc := 36) (b := true) (fun h => h) rfl dk_Reader_isAt_36
theorem dk_Reader_stop_0 : decode prog_8_method_14_code 0 = .ok (.aload_n 0, 1) := by decide +kernel
theorem dk_Reader_stop_1 : decode prog_8_method_14_code 1 = .ok (.getfield 22, 3) := by decide +kernel
theorem dk_Reader_stop_4 : decode prog_8_method_14_code 4 = .ok (.ifCond .ge 11, 3) := by decide +kernel
theorem dk_Reader_stop_7 : decode prog_8_method_14_code 7 = .ok (.aload_n 0, 1) := by decide +kernel
theorem dk_Reader_stop_8 : decode prog_8_method_14_code 8 = .ok (.aload_n 0, 1) := by decide +kernel
theorem dk_Reader_stop_9 : decode prog_8_method_14_code 9 = .ok (.getfield 26, 3) := by decide +kernel
theorem dk_Reader_stop_12 : decode prog_8_method_14_code 12 = .ok (.putfield 22, 3) := by decide +kernel
theorem dk_Reader_stop_15 : decode prog_8_method_14_code 15 = .ok (.return_, 1) := by decide +kernel
noncomputable def fx_Reader_stop (c : (Nat → Nat → Int32)) : Option (Nat → Nat → Int32) :=
  if 0 ≤ (c 75 3) then
    some c
  else
    kv_let (kv_st c 75 3 (c 75 2)) (fun c1 =>
    some c1)
set_option maxRecDepth 20000 in
theorem cx_Reader_stop (d : Nat) (c : (Nat → Nat → Int32)) (y : (Nat → Nat → Int32) × (Nat → Int64) × (Nat → Int64)) : ∀ a, fx_Reader_stop c = some a → kv_C kM_Reader_stop (d + 0) [.ref 75] (c, y) (none, (a, y)) := by
  refine kv_entryX (E := fun a : (Nat → Nat → Int32) => (none, (a, y))) rfl (Nat.le_of_ble_eq_true rfl) (fun o => ?_)
  unfold fx_Reader_stop
  show kv_X _ _ _ _ _ 0 [(0, .ref 75)] [] (c, y)
  refine kv_aload_n (pc := 0) 0 rfl rfl dk_Reader_stop_0 ?_
  refine kv_getC (pc := 1) kf_Reader_22 kr_75 kn_75 rfl dk_Reader_stop_1 ?_
  refine kv_if_ge (pc := 4) (tgt := 15) dk_Reader_stop_4 rfl ?_ ?_
  · exact kv_vret (pc := 15) (fun h => h) rfl dk_Reader_stop_15
  · refine kv_aload_n (pc := 7) 0 rfl rfl dk_Reader_stop_7 ?_
    refine kv_aload_n (pc := 8) 0 rfl rfl dk_Reader_stop_8 ?_
    refine kv_getC (pc := 9) kf_Reader_26 kr_75 kn_75 rfl dk_Reader_stop_9 ?_
    refine kv_putC (pc := 12) kf_Reader_22 kr_75 kn_75 rfl rfl rfl dk_Reader_stop_12 (fun c1 => ?_)
    exact kv_vret (pc := 15) (fun h => h) rfl dk_Reader_stop_15
theorem dk_Reader_number_0 : decode prog_8_method_10_code 0 = .ok (.aload_n 0, 1) := by decide +kernel
theorem dk_Reader_number_1 : decode prog_8_method_10_code 1 = .ok (.invokevirtual 103, 3) := by decide +kernel
theorem dk_Reader_number_4 : decode prog_8_method_10_code 4 = .ok (.ifCond .ne 9, 3) := by decide +kernel
theorem dk_Reader_number_7 : decode prog_8_method_10_code 7 = .ok (.aload_n 0, 1) := by decide +kernel
theorem dk_Reader_number_8 : decode prog_8_method_10_code 8 = .ok (.invokevirtual 107, 3) := by decide +kernel
theorem dk_Reader_number_11 : decode prog_8_method_10_code 11 = .ok (.iconst 0, 1) := by decide +kernel
theorem dk_Reader_number_12 : decode prog_8_method_10_code 12 = .ok (.ireturn, 1) := by decide +kernel
theorem dk_Reader_number_13 : decode prog_8_method_10_code 13 = .ok (.aload_n 0, 1) := by decide +kernel
theorem dk_Reader_number_14 : decode prog_8_method_10_code 14 = .ok (.bipush 48, 2) := by decide +kernel
theorem dk_Reader_number_16 : decode prog_8_method_10_code 16 = .ok (.invokevirtual 93, 3) := by decide +kernel
theorem dk_Reader_number_19 : decode prog_8_method_10_code 19 = .ok (.istore_n 1, 1) := by decide +kernel
theorem dk_Reader_number_20 : decode prog_8_method_10_code 20 = .ok (.iconst 0, 1) := by decide +kernel
theorem dk_Reader_number_21 : decode prog_8_method_10_code 21 = .ok (.istore_n 2, 1) := by decide +kernel
theorem dk_Reader_number_22 : decode prog_8_method_10_code 22 = .ok (.iconst 0, 1) := by decide +kernel
theorem dk_Reader_number_23 : decode prog_8_method_10_code 23 = .ok (.istore_n 3, 1) := by decide +kernel
theorem dk_Reader_number_24 : decode prog_8_method_10_code 24 = .ok (.iload_n 3, 1) := by decide +kernel
theorem dk_Reader_number_25 : decode prog_8_method_10_code 25 = .ok (.iload_n 1, 1) := by decide +kernel
theorem dk_Reader_number_26 : decode prog_8_method_10_code 26 = .ok (.ifCond .eq 7, 3) := by decide +kernel
theorem dk_Reader_number_29 : decode prog_8_method_10_code 29 = .ok (.iconst 1, 1) := by decide +kernel
theorem dk_Reader_number_30 : decode prog_8_method_10_code 30 = .ok (.goto 4, 3) := by decide +kernel
theorem dk_Reader_number_33 : decode prog_8_method_10_code 33 = .ok (.iconst 3, 1) := by decide +kernel
theorem dk_Reader_number_34 : decode prog_8_method_10_code 34 = .ok (.if_icmp .ge 44, 3) := by decide +kernel
theorem dk_Reader_number_37 : decode prog_8_method_10_code 37 = .ok (.aload_n 0, 1) := by decide +kernel
theorem dk_Reader_number_38 : decode prog_8_method_10_code 38 = .ok (.invokevirtual 103, 3) := by decide +kernel
theorem dk_Reader_number_41 : decode prog_8_method_10_code 41 = .ok (.ifCond .eq 37, 3) := by decide +kernel
theorem dk_Reader_number_44 : decode prog_8_method_10_code 44 = .ok (.iload_n 2, 1) := by decide +kernel
theorem dk_Reader_number_45 : decode prog_8_method_10_code 45 = .ok (.bipush 10, 2) := by decide +kernel
theorem dk_Reader_number_47 : decode prog_8_method_10_code 47 = .ok (.imul, 1) := by decide +kernel
theorem dk_Reader_number_48 : decode prog_8_method_10_code 48 = .ok (.aload_n 0, 1) := by decide +kernel
theorem dk_Reader_number_49 : decode prog_8_method_10_code 49 = .ok (.getfield 9, 3) := by decide +kernel
theorem dk_Reader_number_52 : decode prog_8_method_10_code 52 = .ok (.aload_n 0, 1) := by decide +kernel
theorem dk_Reader_number_53 : decode prog_8_method_10_code 53 = .ok (.getfield 26, 3) := by decide +kernel
theorem dk_Reader_number_56 : decode prog_8_method_10_code 56 = .ok (.iaload, 1) := by decide +kernel
theorem dk_Reader_number_57 : decode prog_8_method_10_code 57 = .ok (.iadd, 1) := by decide +kernel
theorem dk_Reader_number_58 : decode prog_8_method_10_code 58 = .ok (.bipush 48, 2) := by decide +kernel
theorem dk_Reader_number_60 : decode prog_8_method_10_code 60 = .ok (.isub, 1) := by decide +kernel
theorem dk_Reader_number_61 : decode prog_8_method_10_code 61 = .ok (.istore_n 2, 1) := by decide +kernel
theorem dk_Reader_number_62 : decode prog_8_method_10_code 62 = .ok (.aload_n 0, 1) := by decide +kernel
theorem dk_Reader_number_63 : decode prog_8_method_10_code 63 = .ok (.dup, 1) := by decide +kernel
theorem dk_Reader_number_64 : decode prog_8_method_10_code 64 = .ok (.getfield 26, 3) := by decide +kernel
theorem dk_Reader_number_67 : decode prog_8_method_10_code 67 = .ok (.iconst 1, 1) := by decide +kernel
theorem dk_Reader_number_68 : decode prog_8_method_10_code 68 = .ok (.iadd, 1) := by decide +kernel
theorem dk_Reader_number_69 : decode prog_8_method_10_code 69 = .ok (.putfield 26, 3) := by decide +kernel
theorem dk_Reader_number_72 : decode prog_8_method_10_code 72 = .ok (.iinc 3 1, 3) := by decide +kernel
theorem dk_Reader_number_75 : decode prog_8_method_10_code 75 = .ok (.goto (-51), 3) := by decide +kernel
theorem dk_Reader_number_78 : decode prog_8_method_10_code 78 = .ok (.iload_n 2, 1) := by decide +kernel
theorem dk_Reader_number_79 : decode prog_8_method_10_code 79 = .ok (.ireturn, 1) := by decide +kernel
noncomputable def fj_Reader_number_34 (x5 : Int32) (x4 : Int32) (c6 : (Nat → Nat → Int32)) (x9 : Int32) : Option ((Int32 × Int32 × (Nat → Nat → Int32)) ⊕ (Int32 × (Nat → Nat → Int32))) :=
  if x9 ≤ x5 then
    some (.inr (x4, c6))
  else
    kv_bind1 (fx_Reader_isAtDigit c6) (fun b10 =>
    if b10 = true then
      kv_gd (kv_in (c6 75 2) 100) (
      kv_let (((x4 * (10 : Int32)) + (c6 76 (c6 75 2).toNatClampNeg)) - (48 : Int32)) (fun v12 =>
      kv_let (kv_st c6 75 2 ((c6 75 2) + (1 : Int32))) (fun c13 =>
      some (.inl (v12, (x5 + (1 : Int32)), c13)))))
    else
      some (.inr (x4, c6)))
noncomputable def fb_Reader_number_24 (v3 : Int32) (x4 : Int32) (x5 : Int32) (c6 : (Nat → Nat → Int32)) : Option ((Int32 × Int32 × (Nat → Nat → Int32)) ⊕ (Int32 × (Nat → Nat → Int32))) :=
  if v3 = 0 then
    fj_Reader_number_34 x5 x4 c6 (3 : Int32)
  else
    fj_Reader_number_34 x5 x4 c6 (1 : Int32)
noncomputable def fx_Reader_number (c : (Nat → Nat → Int32)) : Option (Int32 × (Nat → Nat → Int32)) :=
  kv_bind1 (fx_Reader_isAtDigit c) (fun b1 =>
  if b1 = true then
    kv_bind1 (fx_Reader_isAt (48 : Int32) c) (fun b2 =>
    kv_let (kv_b b2) (fun v3 =>
    (kv_loop (kv_u3 (fb_Reader_number_24 v3)) ((0 : Int32), (0 : Int32), c)).bind (kv_u2 (fun x7 c8 =>
    some (x7, c8)))))
  else
    kv_bind1 (fx_Reader_stop c) (fun c14 =>
    some ((0 : Int32), c14)))
set_option maxRecDepth 20000 in
theorem cx_Reader_number (d : Nat) (c : (Nat → Nat → Int32)) (y : (Nat → Nat → Int32) × (Nat → Int64) × (Nat → Int64)) : ∀ a, fx_Reader_number c = some a → kv_C kM_Reader_number (d + 1) [.ref 75] (c, y) (some (.int a.1), (a.2, y)) := by
  refine kv_entryX (E := fun a : (Int32 × (Nat → Nat → Int32)) => (some (.int a.1), (a.2, y))) rfl (Nat.le_of_ble_eq_true rfl) (fun o => ?_)
  unfold fx_Reader_number
  show kv_X _ _ _ _ _ 0 [(0, .ref 75)] [] (c, y)
  refine kv_aload_n (pc := 0) 0 rfl rfl dk_Reader_number_0 ?_
  refine kv_cV_cZ (pc := 1) (as := []) (st := []) ko_Reader_isAtDigit kc_6 rfl rfl kr_75 kw_866 (Nat.le_of_ble_eq_true rfl) rfl dk_Reader_number_1 (cx_Reader_isAtDigit d c y) (fun b1 => ?_)
  refine kv_zif_ne (pc := 4) (tgt := 13) dk_Reader_number_4 rfl ?_ ?_
  · refine kv_aload_n (pc := 13) 0 rfl rfl dk_Reader_number_13 ?_
    refine kv_bipush (pc := 14) (v := (48 : Int32)) dk_Reader_number_14 kkb_48 ?_
    refine kv_cV_cZ (pc := 16) (as := [.int (48 : Int32)]) (st := []) ko_Reader_isAt kc_6 rfl rfl kr_75 kw_874 (Nat.le_of_ble_eq_true rfl) rfl dk_Reader_number_16 (cx_Reader_isAt d (48 : Int32) c y) (fun b2 => ?_)
    refine kv_letI (fun v3 => ?_)
    refine kv_istore_n (pc := 19) (lv' := [(1, .int v3), (0, .ref 75)]) rfl (Nat.le_of_ble_eq_true rfl) rfl dk_Reader_number_19 ?_
    refine kv_iconst (pc := 20) (v := (0 : Int32)) dk_Reader_number_20 kki_0 ?_
    refine kv_istore_n (pc := 21) (lv' := [(2, .int (0 : Int32)), (1, .int v3), (0, .ref 75)]) rfl (Nat.le_of_ble_eq_true rfl) rfl dk_Reader_number_21 ?_
    refine kv_iconst (pc := 22) (v := (0 : Int32)) dk_Reader_number_22 kki_0 ?_
    refine kv_istore_n (pc := 23) (lv' := [(3, .int (0 : Int32)), (2, .int (0 : Int32)), (1, .int v3), (0, .ref 75)]) rfl (Nat.le_of_ble_eq_true rfl) rfl dk_Reader_number_23 ?_
    refine kv_sub (lv' := [(0, .ref 75), (1, .int v3), (2, .int (0 : Int32)), (3, .int (0 : Int32))]) [3, 2, 1, 0] rfl ?_
    refine kv_lp_3_2 (LV := fun x4 x5 c6 => [(0, .ref 75), (1, .int v3), (2, .int x4), (3, .int x5)]) (WW := fun x4 x5 c6 => (c6, y)) (LE1 := fun x7 c8 => [(2, .int x7)]) (WE1 := fun x7 c8 => (c8, y)) (pe1 := 78) ?_ ?_
    · intro x7 c8
      show kv_X _ _ _ _ _ 78 [(2, .int x7)] [] (c8, y)
      refine kv_iload_n (pc := 78) 0 rfl rfl dk_Reader_number_78 ?_
      exact kv_iret (pc := 79) (fun h => h) rfl dk_Reader_number_79
    · intro hx24_0 x4 x5 c6
      show kv_X _ _ _ _ (fb_Reader_number_24 v3 x4 x5 c6) 24 [(0, .ref 75), (1, .int v3), (2, .int x4), (3, .int x5)] [] (c6, y)
      unfold fb_Reader_number_24
      refine kv_iload_n (pc := 24) 3 rfl rfl dk_Reader_number_24 ?_
      refine kv_iload_n (pc := 25) 1 rfl rfl dk_Reader_number_25 ?_
      refine kv_cut_1 (J := fj_Reader_number_34 x5 x4 c6) (pcj := 34) (LJ := fun x9 => [(0, .ref 75), (1, .int v3), (2, .int x4), (3, .int x5)]) (SJ := fun x9 => [.int x9, .int x5]) (WJ := fun x9 => (c6, y)) ?_ (fun hj34 => ?_)
      · intro x9
        show kv_X _ _ _ _ (fj_Reader_number_34 x5 x4 c6 x9) 34 [(0, .ref 75), (1, .int v3), (2, .int x4), (3, .int x5)] [.int x9, .int x5] (c6, y)
        unfold fj_Reader_number_34
        refine kv_icmp_ge (pc := 34) (tgt := 78) dk_Reader_number_34 rfl ?_ ?_
        · exact kv_sub [2] rfl (kv_leaf (hx24_0 _ _))
        · refine kv_aload_n (pc := 37) 0 rfl rfl dk_Reader_number_37 ?_
          refine kv_cV_cZ (pc := 38) (as := []) (st := []) ko_Reader_isAtDigit kc_6 rfl rfl kr_75 kw_866 (Nat.le_of_ble_eq_true rfl) rfl dk_Reader_number_38 (cx_Reader_isAtDigit d c6 y) (fun b10 => ?_)
          refine kv_zif_eq (pc := 41) (tgt := 78) dk_Reader_number_41 rfl ?_ ?_
          · exact kv_sub [2] rfl (kv_leaf (hx24_0 _ _))
          · refine kv_iload_n (pc := 44) 2 rfl rfl dk_Reader_number_44 ?_
            refine kv_bipush (pc := 45) (v := (10 : Int32)) dk_Reader_number_45 kkb_10 ?_
            refine kv_imul (pc := 47) dk_Reader_number_47 ?_
            refine kv_aload_n (pc := 48) 0 rfl rfl dk_Reader_number_48 ?_
            refine kv_getR (pc := 49) kf_Reader_9 kr_75 rfl kt_75_0 dk_Reader_number_49 ?_
            refine kv_aload_n (pc := 52) 0 rfl rfl dk_Reader_number_52 ?_
            refine kv_getC (pc := 53) kf_Reader_26 kr_75 kn_75 rfl dk_Reader_number_53 ?_
            refine kv_guard (fun g11 => ?_)
            refine kv_aldC (pc := 56) kr_76 kn_76 kl_76 g11 rfl dk_Reader_number_56 ?_
            refine kv_iadd (pc := 57) dk_Reader_number_57 ?_
            refine kv_bipush (pc := 58) (v := (48 : Int32)) dk_Reader_number_58 kkb_48 ?_
            refine kv_isub (pc := 60) dk_Reader_number_60 ?_
            refine kv_letI (fun v12 => ?_)
            refine kv_istore_n (pc := 61) (lv' := [(2, .int v12), (0, .ref 75), (1, .int v3), (3, .int x5)]) rfl (Nat.le_of_ble_eq_true rfl) rfl dk_Reader_number_61 ?_
            refine kv_aload_n (pc := 62) 1 rfl rfl dk_Reader_number_62 ?_
            refine kv_dupR (pc := 63) dk_Reader_number_63 ?_
            refine kv_getC (pc := 64) kf_Reader_26 kr_75 kn_75 rfl dk_Reader_number_64 ?_
            refine kv_iconst (pc := 67) (v := (1 : Int32)) dk_Reader_number_67 kki_1 ?_
            refine kv_iadd (pc := 68) dk_Reader_number_68 ?_
            refine kv_putC (pc := 69) kf_Reader_26 kr_75 kn_75 rfl rfl rfl dk_Reader_number_69 (fun c13 => ?_)
            refine kv_iinc (pc := 72) (kk := (1 : Int32)) (lv' := [(3, .int (x5 + (1 : Int32))), (2, .int v12), (0, .ref 75), (1, .int v3)]) 3 rfl kki_1 rfl (Nat.le_of_ble_eq_true rfl) dk_Reader_number_72 ?_
            refine kv_goto (pc := 75) (tgt := 24) dk_Reader_number_75 rfl ?_
            exact kv_sub [2, 3, 1, 0] rfl (kv_leaf (fun h => h))
      refine kv_if_eq (pc := 26) (tgt := 33) dk_Reader_number_26 rfl ?_ ?_
      · refine kv_iconst (pc := 33) (v := (3 : Int32)) dk_Reader_number_33 kki_3 ?_
        exact hj34 (3 : Int32)
      · refine kv_iconst (pc := 29) (v := (1 : Int32)) dk_Reader_number_29 kki_1 ?_
        refine kv_goto (pc := 30) (tgt := 34) dk_Reader_number_30 rfl ?_
        exact hj34 (1 : Int32)
  · refine kv_aload_n (pc := 7) 0 rfl rfl dk_Reader_number_7 ?_
    refine kv_cV_cc (pc := 8) (as := []) (st := []) ko_Reader_stop kc_6 rfl rfl kr_75 kw_870 (Nat.le_of_ble_eq_true rfl) rfl dk_Reader_number_8 (cx_Reader_stop d c y) (fun c14 => ?_)
    refine kv_iconst (pc := 11) (v := (0 : Int32)) dk_Reader_number_11 kki_0 ?_
    exact kv_iret (pc := 12) (fun h => h) rfl dk_Reader_number_12
theorem dk_Reader_expect_0 : decode prog_8_method_13_code 0 = .ok (.aload_n 0, 1) := by decide +kernel
theorem dk_Reader_expect_1 : decode prog_8_method_13_code 1 = .ok (.iload_n 1, 1) := by decide +kernel
theorem dk_Reader_expect_2 : decode prog_8_method_13_code 2 = .ok (.invokevirtual 93, 3) := by decide +kernel
theorem dk_Reader_expect_5 : decode prog_8_method_13_code 5 = .ok (.ifCond .eq 16, 3) := by decide +kernel
theorem dk_Reader_expect_8 : decode prog_8_method_13_code 8 = .ok (.aload_n 0, 1) := by decide +kernel
theorem dk_Reader_expect_9 : decode prog_8_method_13_code 9 = .ok (.dup, 1) := by decide +kernel
theorem dk_Reader_expect_10 : decode prog_8_method_13_code 10 = .ok (.getfield 26, 3) := by decide +kernel
theorem dk_Reader_expect_13 : decode prog_8_method_13_code 13 = .ok (.iconst 1, 1) := by decide +kernel
theorem dk_Reader_expect_14 : decode prog_8_method_13_code 14 = .ok (.iadd, 1) := by decide +kernel
theorem dk_Reader_expect_15 : decode prog_8_method_13_code 15 = .ok (.putfield 26, 3) := by decide +kernel
theorem dk_Reader_expect_18 : decode prog_8_method_13_code 18 = .ok (.goto 7, 3) := by decide +kernel
theorem dk_Reader_expect_21 : decode prog_8_method_13_code 21 = .ok (.aload_n 0, 1) := by decide +kernel
theorem dk_Reader_expect_22 : decode prog_8_method_13_code 22 = .ok (.invokevirtual 107, 3) := by decide +kernel
theorem dk_Reader_expect_25 : decode prog_8_method_13_code 25 = .ok (.return_, 1) := by decide +kernel
noncomputable def fx_Reader_expect (p1 : Int32) (c : (Nat → Nat → Int32)) : Option (Nat → Nat → Int32) :=
  kv_bind1 (fx_Reader_isAt p1 c) (fun b1 =>
  if b1 = true then
    kv_let (kv_st c 75 2 ((c 75 2) + (1 : Int32))) (fun c3 =>
    some c3)
  else
    kv_bind1 (fx_Reader_stop c) (fun c2 =>
    some c2))
set_option maxRecDepth 20000 in
theorem cx_Reader_expect (d : Nat) (p1 : Int32) (c : (Nat → Nat → Int32)) (y : (Nat → Nat → Int32) × (Nat → Int64) × (Nat → Int64)) : ∀ a, fx_Reader_expect p1 c = some a → kv_C kM_Reader_expect (d + 1) [.ref 75, .int p1] (c, y) (none, (a, y)) := by
  refine kv_entryX (E := fun a : (Nat → Nat → Int32) => (none, (a, y))) rfl (Nat.le_of_ble_eq_true rfl) (fun o => ?_)
  unfold fx_Reader_expect
  show kv_X _ _ _ _ _ 0 [(0, .ref 75), (1, .int p1)] [] (c, y)
  refine kv_aload_n (pc := 0) 0 rfl rfl dk_Reader_expect_0 ?_
  refine kv_iload_n (pc := 1) 1 rfl rfl dk_Reader_expect_1 ?_
  refine kv_cV_cZ (pc := 2) (as := [.int p1]) (st := []) ko_Reader_isAt kc_6 rfl rfl kr_75 kw_874 (Nat.le_of_ble_eq_true rfl) rfl dk_Reader_expect_2 (cx_Reader_isAt d p1 c y) (fun b1 => ?_)
  refine kv_zif_eq (pc := 5) (tgt := 21) dk_Reader_expect_5 rfl ?_ ?_
  · refine kv_aload_n (pc := 21) 0 rfl rfl dk_Reader_expect_21 ?_
    refine kv_cV_cc (pc := 22) (as := []) (st := []) ko_Reader_stop kc_6 rfl rfl kr_75 kw_870 (Nat.le_of_ble_eq_true rfl) rfl dk_Reader_expect_22 (cx_Reader_stop d c y) (fun c2 => ?_)
    exact kv_vret (pc := 25) (fun h => h) rfl dk_Reader_expect_25
  · refine kv_aload_n (pc := 8) 0 rfl rfl dk_Reader_expect_8 ?_
    refine kv_dupR (pc := 9) dk_Reader_expect_9 ?_
    refine kv_getC (pc := 10) kf_Reader_26 kr_75 kn_75 rfl dk_Reader_expect_10 ?_
    refine kv_iconst (pc := 13) (v := (1 : Int32)) dk_Reader_expect_13 kki_1 ?_
    refine kv_iadd (pc := 14) dk_Reader_expect_14 ?_
    refine kv_putC (pc := 15) kf_Reader_26 kr_75 kn_75 rfl rfl rfl dk_Reader_expect_15 (fun c3 => ?_)
    refine kv_goto (pc := 18) (tgt := 25) dk_Reader_expect_18 rfl ?_
    exact kv_vret (pc := 25) (fun h => h) rfl dk_Reader_expect_25
theorem dk_Reader_over_0 : decode prog_8_method_8_code 0 = .ok (.iload_n 2, 1) := by decide +kernel
theorem dk_Reader_over_1 : decode prog_8_method_8_code 1 = .ok (.ifCond .ne 7, 3) := by decide +kernel
theorem dk_Reader_over_4 : decode prog_8_method_8_code 4 = .ok (.iconst 0, 1) := by decide +kernel
theorem dk_Reader_over_5 : decode prog_8_method_8_code 5 = .ok (.goto 6, 3) := by decide +kernel
theorem dk_Reader_over_8 : decode prog_8_method_8_code 8 = .ok (.iload_n 1, 1) := by decide +kernel
theorem dk_Reader_over_9 : decode prog_8_method_8_code 9 = .ok (.iload_n 2, 1) := by decide +kernel
theorem dk_Reader_over_10 : decode prog_8_method_8_code 10 = .ok (.idiv, 1) := by decide +kernel
theorem dk_Reader_over_11 : decode prog_8_method_8_code 11 = .ok (.ireturn, 1) := by decide +kernel
noncomputable def fx_Reader_over (p1 : Int32) (p2 : Int32) : Option Int32 :=
  if p2 = 0 then
    some (0 : Int32)
  else
    if p2 = 0 then none else
    some (p1 / p2)
set_option maxRecDepth 20000 in
theorem cx_Reader_over (d : Nat) (p1 : Int32) (p2 : Int32) (c : (Nat → Nat → Int32)) (y : (Nat → Nat → Int32) × (Nat → Int64) × (Nat → Int64)) : ∀ a, fx_Reader_over p1 p2 = some a → kv_C kM_Reader_over (d + 0) [.ref 75, .int p1, .int p2] (c, y) (some (.int a), (c, y)) := by
  refine kv_entryX (E := fun a : Int32 => (some (.int a), (c, y))) rfl (Nat.le_of_ble_eq_true rfl) (fun o => ?_)
  unfold fx_Reader_over
  show kv_X _ _ _ _ _ 0 [(0, .ref 75), (1, .int p1), (2, .int p2)] [] (c, y)
  refine kv_iload_n (pc := 0) 2 rfl rfl dk_Reader_over_0 ?_
  refine kv_if_ne (pc := 1) (tgt := 8) dk_Reader_over_1 rfl ?_ ?_
  · refine kv_iload_n (pc := 8) 1 rfl rfl dk_Reader_over_8 ?_
    refine kv_iload_n (pc := 9) 2 rfl rfl dk_Reader_over_9 ?_
    refine kv_idivG (pc := 10) dk_Reader_over_10 ?_
    exact kv_iret (pc := 11) (fun h => h) rfl dk_Reader_over_11
  · refine kv_iconst (pc := 4) (v := (0 : Int32)) dk_Reader_over_4 kki_0 ?_
    refine kv_goto (pc := 5) (tgt := 11) dk_Reader_over_5 rfl ?_
    exact kv_iret (pc := 11) (fun h => h) rfl dk_Reader_over_11
theorem dk_Reader_sum_0 : decode prog_8_method_6_code 0 = .ok (.aload_n 0, 1) := by decide +kernel
theorem dk_Reader_sum_1 : decode prog_8_method_6_code 1 = .ok (.iload_n 1, 1) := by decide +kernel
theorem dk_Reader_sum_2 : decode prog_8_method_6_code 2 = .ok (.invokevirtual 90, 3) := by decide +kernel
theorem dk_Reader_sum_5 : decode prog_8_method_6_code 5 = .ok (.istore_n 2, 1) := by decide +kernel
theorem dk_Reader_sum_6 : decode prog_8_method_6_code 6 = .ok (.iconst 0, 1) := by decide +kernel
theorem dk_Reader_sum_7 : decode prog_8_method_6_code 7 = .ok (.istore_n 3, 1) := by decide +kernel
theorem dk_Reader_sum_8 : decode prog_8_method_6_code 8 = .ok (.iload_n 3, 1) := by decide +kernel
theorem dk_Reader_sum_9 : decode prog_8_method_6_code 9 = .ok (.bipush 100, 2) := by decide +kernel
theorem dk_Reader_sum_11 : decode prog_8_method_6_code 11 = .ok (.if_icmp .ge 69, 3) := by decide +kernel
theorem dk_Reader_sum_14 : decode prog_8_method_6_code 14 = .ok (.aload_n 0, 1) := by decide +kernel
theorem dk_Reader_sum_15 : decode prog_8_method_6_code 15 = .ok (.bipush 43, 2) := by decide +kernel
theorem dk_Reader_sum_17 : decode prog_8_method_6_code 17 = .ok (.invokevirtual 93, 3) := by decide +kernel
theorem dk_Reader_sum_20 : decode prog_8_method_6_code 20 = .ok (.ifCond .ne 12, 3) := by decide +kernel
theorem dk_Reader_sum_23 : decode prog_8_method_6_code 23 = .ok (.aload_n 0, 1) := by decide +kernel
theorem dk_Reader_sum_24 : decode prog_8_method_6_code 24 = .ok (.bipush 45, 2) := by decide +kernel
theorem dk_Reader_sum_26 : decode prog_8_method_6_code 26 = .ok (.invokevirtual 93, 3) := by decide +kernel
theorem dk_Reader_sum_29 : decode prog_8_method_6_code 29 = .ok (.ifCond .eq 51, 3) := by decide +kernel
theorem dk_Reader_sum_32 : decode prog_8_method_6_code 32 = .ok (.aload_n 0, 1) := by decide +kernel
theorem dk_Reader_sum_33 : decode prog_8_method_6_code 33 = .ok (.bipush 43, 2) := by decide +kernel
theorem dk_Reader_sum_35 : decode prog_8_method_6_code 35 = .ok (.invokevirtual 93, 3) := by decide +kernel
theorem dk_Reader_sum_38 : decode prog_8_method_6_code 38 = .ok (.istore 4, 2) := by decide +kernel
theorem dk_Reader_sum_40 : decode prog_8_method_6_code 40 = .ok (.aload_n 0, 1) := by decide +kernel
theorem dk_Reader_sum_41 : decode prog_8_method_6_code 41 = .ok (.dup, 1) := by decide +kernel
theorem dk_Reader_sum_42 : decode prog_8_method_6_code 42 = .ok (.getfield 26, 3) := by decide +kernel
theorem dk_Reader_sum_45 : decode prog_8_method_6_code 45 = .ok (.iconst 1, 1) := by decide +kernel
theorem dk_Reader_sum_46 : decode prog_8_method_6_code 46 = .ok (.iadd, 1) := by decide +kernel
theorem dk_Reader_sum_47 : decode prog_8_method_6_code 47 = .ok (.putfield 26, 3) := by decide +kernel
theorem dk_Reader_sum_50 : decode prog_8_method_6_code 50 = .ok (.aload_n 0, 1) := by decide +kernel
theorem dk_Reader_sum_51 : decode prog_8_method_6_code 51 = .ok (.iload_n 1, 1) := by decide +kernel
theorem dk_Reader_sum_52 : decode prog_8_method_6_code 52 = .ok (.invokevirtual 90, 3) := by decide +kernel
theorem dk_Reader_sum_55 : decode prog_8_method_6_code 55 = .ok (.istore 5, 2) := by decide +kernel
theorem dk_Reader_sum_57 : decode prog_8_method_6_code 57 = .ok (.iload 4, 2) := by decide +kernel
theorem dk_Reader_sum_59 : decode prog_8_method_6_code 59 = .ok (.ifCond .eq 10, 3) := by decide +kernel
theorem dk_Reader_sum_62 : decode prog_8_method_6_code 62 = .ok (.iload_n 2, 1) := by decide +kernel
theorem dk_Reader_sum_63 : decode prog_8_method_6_code 63 = .ok (.iload 5, 2) := by decide +kernel
theorem dk_Reader_sum_65 : decode prog_8_method_6_code 65 = .ok (.iadd, 1) := by decide +kernel
theorem dk_Reader_sum_66 : decode prog_8_method_6_code 66 = .ok (.goto 7, 3) := by decide +kernel
theorem dk_Reader_sum_69 : decode prog_8_method_6_code 69 = .ok (.iload_n 2, 1) := by decide +kernel
theorem dk_Reader_sum_70 : decode prog_8_method_6_code 70 = .ok (.iload 5, 2) := by decide +kernel
theorem dk_Reader_sum_72 : decode prog_8_method_6_code 72 = .ok (.isub, 1) := by decide +kernel
theorem dk_Reader_sum_73 : decode prog_8_method_6_code 73 = .ok (.istore_n 2, 1) := by decide +kernel
theorem dk_Reader_sum_74 : decode prog_8_method_6_code 74 = .ok (.iinc 3 1, 3) := by decide +kernel
theorem dk_Reader_sum_77 : decode prog_8_method_6_code 77 = .ok (.goto (-69), 3) := by decide +kernel
theorem dk_Reader_sum_80 : decode prog_8_method_6_code 80 = .ok (.iload_n 2, 1) := by decide +kernel
theorem dk_Reader_sum_81 : decode prog_8_method_6_code 81 = .ok (.ireturn, 1) := by decide +kernel
noncomputable def fj_Reader_sum_73 (x4 : Int32) (c13 : (Nat → Nat → Int32)) (x14 : Int32) : Option ((Int32 × Int32 × (Nat → Nat → Int32)) ⊕ (Int32 × (Nat → Nat → Int32))) :=
  some (.inl (x14, (x4 + (1 : Int32)), c13))
noncomputable def fj_Reader_sum_32 (rq_product : Int32 → (Nat → Nat → Int32) → Option (Int32 × (Nat → Nat → Int32))) (c5 : (Nat → Nat → Int32)) (p1 : Int32) (x4 : Int32) (x3 : Int32) : Option ((Int32 × Int32 × (Nat → Nat → Int32)) ⊕ (Int32 × (Nat → Nat → Int32))) :=
  kv_bind1 (fx_Reader_isAt (43 : Int32) c5) (fun b9 =>
  kv_let (kv_b b9) (fun v10 =>
  kv_let (kv_st c5 75 2 ((c5 75 2) + (1 : Int32))) (fun c11 =>
  kv_bind2 (rq_product p1 c11) (fun v12 c13 =>
  if v10 = 0 then
    fj_Reader_sum_73 x4 c13 (x3 - v12)
  else
    fj_Reader_sum_73 x4 c13 (x3 + v12)))))
noncomputable def fb_Reader_sum_8 (rq_product : Int32 → (Nat → Nat → Int32) → Option (Int32 × (Nat → Nat → Int32))) (p1 : Int32) (x3 : Int32) (x4 : Int32) (c5 : (Nat → Nat → Int32)) : Option ((Int32 × Int32 × (Nat → Nat → Int32)) ⊕ (Int32 × (Nat → Nat → Int32))) :=
  if (100 : Int32) ≤ x4 then
    some (.inr (x3, c5))
  else
    kv_bind1 (fx_Reader_isAt (43 : Int32) c5) (fun b8 =>
    if b8 = true then
      fj_Reader_sum_32 rq_product c5 p1 x4 x3
    else
      kv_bind1 (fx_Reader_isAt (45 : Int32) c5) (fun b15 =>
      if b15 = true then
        fj_Reader_sum_32 rq_product c5 p1 x4 x3
      else
        some (.inr (x3, c5))))
noncomputable def fx_Reader_sum (rq_product : Int32 → (Nat → Nat → Int32) → Option (Int32 × (Nat → Nat → Int32))) (p1 : Int32) (c : (Nat → Nat → Int32)) : Option (Int32 × (Nat → Nat → Int32)) :=
  kv_bind2 (rq_product p1 c) (fun v1 c2 =>
  (kv_loop (kv_u3 (fb_Reader_sum_8 rq_product p1)) (v1, (0 : Int32), c2)).bind (kv_u2 (fun x6 c7 =>
  some (x6, c7))))
set_option maxRecDepth 20000 in
theorem cx_Reader_sum (d : Nat) (rq_product : Int32 → (Nat → Nat → Int32) → Option (Int32 × (Nat → Nat → Int32))) (hrq_product : ∀ (p1 : Int32) (c : (Nat → Nat → Int32)) (y : (Nat → Nat → Int32) × (Nat → Int64) × (Nat → Int64)), ∀ a, rq_product p1 c = some a → kv_C kM_Reader_product (d + 1) [.ref 75, .int p1] (c, y) (some (.int a.1), (a.2, y))) (p1 : Int32) (c : (Nat → Nat → Int32)) (y : (Nat → Nat → Int32) × (Nat → Int64) × (Nat → Int64)) : ∀ a, fx_Reader_sum rq_product p1 c = some a → kv_C kM_Reader_sum (d + 2) [.ref 75, .int p1] (c, y) (some (.int a.1), (a.2, y)) := by
  refine kv_entryX (E := fun a : (Int32 × (Nat → Nat → Int32)) => (some (.int a.1), (a.2, y))) rfl (Nat.le_of_ble_eq_true rfl) (fun o => ?_)
  unfold fx_Reader_sum
  show kv_X _ _ _ _ _ 0 [(0, .ref 75), (1, .int p1)] [] (c, y)
  refine kv_aload_n (pc := 0) 0 rfl rfl dk_Reader_sum_0 ?_
  refine kv_iload_n (pc := 1) 1 rfl rfl dk_Reader_sum_1 ?_
  refine kv_cV_cIc (pc := 2) (as := [.int p1]) (st := []) ko_Reader_product kc_6 rfl rfl kr_75 kw_886 (Nat.le_of_ble_eq_true rfl) rfl dk_Reader_sum_2 (hrq_product p1 c y) (fun v1 c2 => ?_)
  refine kv_istore_n (pc := 5) (lv' := [(2, .int v1), (0, .ref 75), (1, .int p1)]) rfl (Nat.le_of_ble_eq_true rfl) rfl dk_Reader_sum_5 ?_
  refine kv_iconst (pc := 6) (v := (0 : Int32)) dk_Reader_sum_6 kki_0 ?_
  refine kv_istore_n (pc := 7) (lv' := [(3, .int (0 : Int32)), (2, .int v1), (0, .ref 75), (1, .int p1)]) rfl (Nat.le_of_ble_eq_true rfl) rfl dk_Reader_sum_7 ?_
  refine kv_sub (lv' := [(0, .ref 75), (1, .int p1), (2, .int v1), (3, .int (0 : Int32))]) [2, 3, 1, 0] rfl ?_
  refine kv_lp_3_2 (LV := fun x3 x4 c5 => [(0, .ref 75), (1, .int p1), (2, .int x3), (3, .int x4)]) (WW := fun x3 x4 c5 => (c5, y)) (LE1 := fun x6 c7 => [(2, .int x6)]) (WE1 := fun x6 c7 => (c7, y)) (pe1 := 80) ?_ ?_
  · intro x6 c7
    show kv_X _ _ _ _ _ 80 [(2, .int x6)] [] (c7, y)
    refine kv_iload_n (pc := 80) 0 rfl rfl dk_Reader_sum_80 ?_
    exact kv_iret (pc := 81) (fun h => h) rfl dk_Reader_sum_81
  · intro hx8_0 x3 x4 c5
    show kv_X _ _ _ _ (fb_Reader_sum_8 rq_product p1 x3 x4 c5) 8 [(0, .ref 75), (1, .int p1), (2, .int x3), (3, .int x4)] [] (c5, y)
    unfold fb_Reader_sum_8
    refine kv_iload_n (pc := 8) 3 rfl rfl dk_Reader_sum_8 ?_
    refine kv_bipush (pc := 9) (v := (100 : Int32)) dk_Reader_sum_9 kkb_100 ?_
    refine kv_icmp_ge (pc := 11) (tgt := 80) dk_Reader_sum_11 rfl ?_ ?_
    · exact kv_sub [2] rfl (kv_leaf (hx8_0 _ _))
    · refine kv_aload_n (pc := 14) 0 rfl rfl dk_Reader_sum_14 ?_
      refine kv_bipush (pc := 15) (v := (43 : Int32)) dk_Reader_sum_15 kkb_43 ?_
      refine kv_cV_cZ (pc := 17) (as := [.int (43 : Int32)]) (st := []) ko_Reader_isAt kc_6 rfl rfl kr_75 kw_874 (Nat.le_of_ble_eq_true rfl) rfl dk_Reader_sum_17 (cx_Reader_isAt (d + 1) (43 : Int32) c5 y) (fun b8 => ?_)
      refine kv_cut_0 (J := fj_Reader_sum_32 rq_product c5 p1 x4 x3) (pcj := 32) (LJ := [(0, .ref 75), (1, .int p1), (2, .int x3), (3, .int x4)]) (SJ := []) (WJ := (c5, y)) ?_ (fun hj32 => ?_)
      · show kv_X _ _ _ _ (fj_Reader_sum_32 rq_product c5 p1 x4 x3) 32 [(0, .ref 75), (1, .int p1), (2, .int x3), (3, .int x4)] [] (c5, y)
        unfold fj_Reader_sum_32
        refine kv_aload_n (pc := 32) 0 rfl rfl dk_Reader_sum_32 ?_
        refine kv_bipush (pc := 33) (v := (43 : Int32)) dk_Reader_sum_33 kkb_43 ?_
        refine kv_cV_cZ (pc := 35) (as := [.int (43 : Int32)]) (st := []) ko_Reader_isAt kc_6 rfl rfl kr_75 kw_874 (Nat.le_of_ble_eq_true rfl) rfl dk_Reader_sum_35 (cx_Reader_isAt (d + 1) (43 : Int32) c5 y) (fun b9 => ?_)
        refine kv_letI (fun v10 => ?_)
        refine kv_istore (pc := 38) (lv' := [(4, .int v10), (0, .ref 75), (1, .int p1), (2, .int x3), (3, .int x4)]) rfl (Nat.le_of_ble_eq_true rfl) dk_Reader_sum_38 ?_
        refine kv_aload_n (pc := 40) 1 rfl rfl dk_Reader_sum_40 ?_
        refine kv_dupR (pc := 41) dk_Reader_sum_41 ?_
        refine kv_getC (pc := 42) kf_Reader_26 kr_75 kn_75 rfl dk_Reader_sum_42 ?_
        refine kv_iconst (pc := 45) (v := (1 : Int32)) dk_Reader_sum_45 kki_1 ?_
        refine kv_iadd (pc := 46) dk_Reader_sum_46 ?_
        refine kv_putC (pc := 47) kf_Reader_26 kr_75 kn_75 rfl rfl rfl dk_Reader_sum_47 (fun c11 => ?_)
        refine kv_aload_n (pc := 50) 1 rfl rfl dk_Reader_sum_50 ?_
        refine kv_iload_n (pc := 51) 2 rfl rfl dk_Reader_sum_51 ?_
        refine kv_cV_cIc (pc := 52) (as := [.int p1]) (st := []) ko_Reader_product kc_6 rfl rfl kr_75 kw_886 (Nat.le_of_ble_eq_true rfl) rfl dk_Reader_sum_52 (hrq_product p1 c11 y) (fun v12 c13 => ?_)
        refine kv_istore (pc := 55) (lv' := [(5, .int v12), (4, .int v10), (0, .ref 75), (1, .int p1), (2, .int x3), (3, .int x4)]) rfl (Nat.le_of_ble_eq_true rfl) dk_Reader_sum_55 ?_
        refine kv_iload (pc := 57) 1 rfl dk_Reader_sum_57 ?_
        refine kv_cut_1 (J := fj_Reader_sum_73 x4 c13) (pcj := 73) (LJ := fun x14 => [(0, .ref 75), (1, .int p1), (3, .int x4)]) (SJ := fun x14 => [.int x14]) (WJ := fun x14 => (c13, y)) ?_ (fun hj73 => ?_)
        · intro x14
          show kv_X _ _ _ _ (fj_Reader_sum_73 x4 c13 x14) 73 [(0, .ref 75), (1, .int p1), (3, .int x4)] [.int x14] (c13, y)
          unfold fj_Reader_sum_73
          refine kv_istore_n (pc := 73) (lv' := [(2, .int x14), (0, .ref 75), (1, .int p1), (3, .int x4)]) rfl (Nat.le_of_ble_eq_true rfl) rfl dk_Reader_sum_73 ?_
          refine kv_iinc (pc := 74) (kk := (1 : Int32)) (lv' := [(3, .int (x4 + (1 : Int32))), (2, .int x14), (0, .ref 75), (1, .int p1)]) 3 rfl kki_1 rfl (Nat.le_of_ble_eq_true rfl) dk_Reader_sum_74 ?_
          refine kv_goto (pc := 77) (tgt := 8) dk_Reader_sum_77 rfl ?_
          exact kv_sub [2, 3, 1, 0] rfl (kv_leaf (fun h => h))
        refine kv_if_eq (pc := 59) (tgt := 69) dk_Reader_sum_59 rfl ?_ ?_
        · refine kv_iload_n (pc := 69) 4 rfl rfl dk_Reader_sum_69 ?_
          refine kv_iload (pc := 70) 0 rfl dk_Reader_sum_70 ?_
          refine kv_isub (pc := 72) dk_Reader_sum_72 ?_
          exact kv_sub [2, 3, 5] rfl (hj73 (x3 - v12))
        · refine kv_iload_n (pc := 62) 4 rfl rfl dk_Reader_sum_62 ?_
          refine kv_iload (pc := 63) 0 rfl dk_Reader_sum_63 ?_
          refine kv_iadd (pc := 65) dk_Reader_sum_65 ?_
          refine kv_goto (pc := 66) (tgt := 73) dk_Reader_sum_66 rfl ?_
          exact kv_sub [2, 3, 5] rfl (hj73 (x3 + v12))
      refine kv_zif_ne (pc := 20) (tgt := 32) dk_Reader_sum_20 rfl ?_ ?_
      · exact hj32
      · refine kv_aload_n (pc := 23) 0 rfl rfl dk_Reader_sum_23 ?_
        refine kv_bipush (pc := 24) (v := (45 : Int32)) dk_Reader_sum_24 kkb_45 ?_
        refine kv_cV_cZ (pc := 26) (as := [.int (45 : Int32)]) (st := []) ko_Reader_isAt kc_6 rfl rfl kr_75 kw_874 (Nat.le_of_ble_eq_true rfl) rfl dk_Reader_sum_26 (cx_Reader_isAt (d + 1) (45 : Int32) c5 y) (fun b15 => ?_)
        refine kv_zif_eq (pc := 29) (tgt := 80) dk_Reader_sum_29 rfl ?_ ?_
        · exact kv_sub [2] rfl (kv_leaf (hx8_0 _ _))
        · exact hj32
theorem dk_Reader_product_0 : decode prog_8_method_7_code 0 = .ok (.aload_n 0, 1) := by decide +kernel
theorem dk_Reader_product_1 : decode prog_8_method_7_code 1 = .ok (.iload_n 1, 1) := by decide +kernel
theorem dk_Reader_product_2 : decode prog_8_method_7_code 2 = .ok (.invokevirtual 97, 3) := by decide +kernel
theorem dk_Reader_product_5 : decode prog_8_method_7_code 5 = .ok (.istore_n 2, 1) := by decide +kernel
theorem dk_Reader_product_6 : decode prog_8_method_7_code 6 = .ok (.iconst 0, 1) := by decide +kernel
theorem dk_Reader_product_7 : decode prog_8_method_7_code 7 = .ok (.istore_n 3, 1) := by decide +kernel
theorem dk_Reader_product_8 : decode prog_8_method_7_code 8 = .ok (.iload_n 3, 1) := by decide +kernel
theorem dk_Reader_product_9 : decode prog_8_method_7_code 9 = .ok (.bipush 100, 2) := by decide +kernel
theorem dk_Reader_product_11 : decode prog_8_method_7_code 11 = .ok (.if_icmp .ge 72, 3) := by decide +kernel
theorem dk_Reader_product_14 : decode prog_8_method_7_code 14 = .ok (.aload_n 0, 1) := by decide +kernel
theorem dk_Reader_product_15 : decode prog_8_method_7_code 15 = .ok (.bipush 42, 2) := by decide +kernel
theorem dk_Reader_product_17 : decode prog_8_method_7_code 17 = .ok (.invokevirtual 93, 3) := by decide +kernel
theorem dk_Reader_product_20 : decode prog_8_method_7_code 20 = .ok (.ifCond .ne 12, 3) := by decide +kernel
theorem dk_Reader_product_23 : decode prog_8_method_7_code 23 = .ok (.aload_n 0, 1) := by decide +kernel
theorem dk_Reader_product_24 : decode prog_8_method_7_code 24 = .ok (.bipush 47, 2) := by decide +kernel
theorem dk_Reader_product_26 : decode prog_8_method_7_code 26 = .ok (.invokevirtual 93, 3) := by decide +kernel
theorem dk_Reader_product_29 : decode prog_8_method_7_code 29 = .ok (.ifCond .eq 54, 3) := by decide +kernel
theorem dk_Reader_product_32 : decode prog_8_method_7_code 32 = .ok (.aload_n 0, 1) := by decide +kernel
theorem dk_Reader_product_33 : decode prog_8_method_7_code 33 = .ok (.bipush 42, 2) := by decide +kernel
theorem dk_Reader_product_35 : decode prog_8_method_7_code 35 = .ok (.invokevirtual 93, 3) := by decide +kernel
theorem dk_Reader_product_38 : decode prog_8_method_7_code 38 = .ok (.istore 4, 2) := by decide +kernel
theorem dk_Reader_product_40 : decode prog_8_method_7_code 40 = .ok (.aload_n 0, 1) := by decide +kernel
theorem dk_Reader_product_41 : decode prog_8_method_7_code 41 = .ok (.dup, 1) := by decide +kernel
theorem dk_Reader_product_42 : decode prog_8_method_7_code 42 = .ok (.getfield 26, 3) := by decide +kernel
theorem dk_Reader_product_45 : decode prog_8_method_7_code 45 = .ok (.iconst 1, 1) := by decide +kernel
theorem dk_Reader_product_46 : decode prog_8_method_7_code 46 = .ok (.iadd, 1) := by decide +kernel
theorem dk_Reader_product_47 : decode prog_8_method_7_code 47 = .ok (.putfield 26, 3) := by decide +kernel
theorem dk_Reader_product_50 : decode prog_8_method_7_code 50 = .ok (.aload_n 0, 1) := by decide +kernel
theorem dk_Reader_product_51 : decode prog_8_method_7_code 51 = .ok (.iload_n 1, 1) := by decide +kernel
theorem dk_Reader_product_52 : decode prog_8_method_7_code 52 = .ok (.invokevirtual 97, 3) := by decide +kernel
theorem dk_Reader_product_55 : decode prog_8_method_7_code 55 = .ok (.istore 5, 2) := by decide +kernel
theorem dk_Reader_product_57 : decode prog_8_method_7_code 57 = .ok (.iload 4, 2) := by decide +kernel
theorem dk_Reader_product_59 : decode prog_8_method_7_code 59 = .ok (.ifCond .eq 10, 3) := by decide +kernel
theorem dk_Reader_product_62 : decode prog_8_method_7_code 62 = .ok (.iload_n 2, 1) := by decide +kernel
theorem dk_Reader_product_63 : decode prog_8_method_7_code 63 = .ok (.iload 5, 2) := by decide +kernel
theorem dk_Reader_product_65 : decode prog_8_method_7_code 65 = .ok (.imul, 1) := by decide +kernel
theorem dk_Reader_product_66 : decode prog_8_method_7_code 66 = .ok (.goto 10, 3) := by decide +kernel
theorem dk_Reader_product_69 : decode prog_8_method_7_code 69 = .ok (.aload_n 0, 1) := by decide +kernel
theorem dk_Reader_product_70 : decode prog_8_method_7_code 70 = .ok (.iload_n 2, 1) := by decide +kernel
theorem dk_Reader_product_71 : decode prog_8_method_7_code 71 = .ok (.iload 5, 2) := by decide +kernel
theorem dk_Reader_product_73 : decode prog_8_method_7_code 73 = .ok (.invokevirtual 100, 3) := by decide +kernel
theorem dk_Reader_product_76 : decode prog_8_method_7_code 76 = .ok (.istore_n 2, 1) := by decide +kernel
theorem dk_Reader_product_77 : decode prog_8_method_7_code 77 = .ok (.iinc 3 1, 3) := by decide +kernel
theorem dk_Reader_product_80 : decode prog_8_method_7_code 80 = .ok (.goto (-72), 3) := by decide +kernel
theorem dk_Reader_product_83 : decode prog_8_method_7_code 83 = .ok (.iload_n 2, 1) := by decide +kernel
theorem dk_Reader_product_84 : decode prog_8_method_7_code 84 = .ok (.ireturn, 1) := by decide +kernel
noncomputable def fj_Reader_product_76 (x4 : Int32) (c13 : (Nat → Nat → Int32)) (x14 : Int32) : Option ((Int32 × Int32 × (Nat → Nat → Int32)) ⊕ (Int32 × (Nat → Nat → Int32))) :=
  some (.inl (x14, (x4 + (1 : Int32)), c13))
noncomputable def fj_Reader_product_32 (rq_atom : Int32 → (Nat → Nat → Int32) → Option (Int32 × (Nat → Nat → Int32))) (c5 : (Nat → Nat → Int32)) (p1 : Int32) (x3 : Int32) (x4 : Int32) : Option ((Int32 × Int32 × (Nat → Nat → Int32)) ⊕ (Int32 × (Nat → Nat → Int32))) :=
  kv_bind1 (fx_Reader_isAt (42 : Int32) c5) (fun b9 =>
  kv_let (kv_b b9) (fun v10 =>
  kv_let (kv_st c5 75 2 ((c5 75 2) + (1 : Int32))) (fun c11 =>
  kv_bind2 (rq_atom p1 c11) (fun v12 c13 =>
  if v10 = 0 then
    kv_bind1 (fx_Reader_over x3 v12) (fun v15 =>
    fj_Reader_product_76 x4 c13 v15)
  else
    fj_Reader_product_76 x4 c13 (x3 * v12)))))
noncomputable def fb_Reader_product_8 (rq_atom : Int32 → (Nat → Nat → Int32) → Option (Int32 × (Nat → Nat → Int32))) (p1 : Int32) (x3 : Int32) (x4 : Int32) (c5 : (Nat → Nat → Int32)) : Option ((Int32 × Int32 × (Nat → Nat → Int32)) ⊕ (Int32 × (Nat → Nat → Int32))) :=
  if (100 : Int32) ≤ x4 then
    some (.inr (x3, c5))
  else
    kv_bind1 (fx_Reader_isAt (42 : Int32) c5) (fun b8 =>
    if b8 = true then
      fj_Reader_product_32 rq_atom c5 p1 x3 x4
    else
      kv_bind1 (fx_Reader_isAt (47 : Int32) c5) (fun b16 =>
      if b16 = true then
        fj_Reader_product_32 rq_atom c5 p1 x3 x4
      else
        some (.inr (x3, c5))))
noncomputable def fx_Reader_product (rq_atom : Int32 → (Nat → Nat → Int32) → Option (Int32 × (Nat → Nat → Int32))) (p1 : Int32) (c : (Nat → Nat → Int32)) : Option (Int32 × (Nat → Nat → Int32)) :=
  kv_bind2 (rq_atom p1 c) (fun v1 c2 =>
  (kv_loop (kv_u3 (fb_Reader_product_8 rq_atom p1)) (v1, (0 : Int32), c2)).bind (kv_u2 (fun x6 c7 =>
  some (x6, c7))))
set_option maxRecDepth 20000 in
theorem cx_Reader_product (d : Nat) (rq_atom : Int32 → (Nat → Nat → Int32) → Option (Int32 × (Nat → Nat → Int32))) (hrq_atom : ∀ (p1 : Int32) (c : (Nat → Nat → Int32)) (y : (Nat → Nat → Int32) × (Nat → Int64) × (Nat → Int64)), ∀ a, rq_atom p1 c = some a → kv_C kM_Reader_atom (d + 1) [.ref 75, .int p1] (c, y) (some (.int a.1), (a.2, y))) (p1 : Int32) (c : (Nat → Nat → Int32)) (y : (Nat → Nat → Int32) × (Nat → Int64) × (Nat → Int64)) : ∀ a, fx_Reader_product rq_atom p1 c = some a → kv_C kM_Reader_product (d + 2) [.ref 75, .int p1] (c, y) (some (.int a.1), (a.2, y)) := by
  refine kv_entryX (E := fun a : (Int32 × (Nat → Nat → Int32)) => (some (.int a.1), (a.2, y))) rfl (Nat.le_of_ble_eq_true rfl) (fun o => ?_)
  unfold fx_Reader_product
  show kv_X _ _ _ _ _ 0 [(0, .ref 75), (1, .int p1)] [] (c, y)
  refine kv_aload_n (pc := 0) 0 rfl rfl dk_Reader_product_0 ?_
  refine kv_iload_n (pc := 1) 1 rfl rfl dk_Reader_product_1 ?_
  refine kv_cV_cIc (pc := 2) (as := [.int p1]) (st := []) ko_Reader_atom kc_6 rfl rfl kr_75 kw_890 (Nat.le_of_ble_eq_true rfl) rfl dk_Reader_product_2 (hrq_atom p1 c y) (fun v1 c2 => ?_)
  refine kv_istore_n (pc := 5) (lv' := [(2, .int v1), (0, .ref 75), (1, .int p1)]) rfl (Nat.le_of_ble_eq_true rfl) rfl dk_Reader_product_5 ?_
  refine kv_iconst (pc := 6) (v := (0 : Int32)) dk_Reader_product_6 kki_0 ?_
  refine kv_istore_n (pc := 7) (lv' := [(3, .int (0 : Int32)), (2, .int v1), (0, .ref 75), (1, .int p1)]) rfl (Nat.le_of_ble_eq_true rfl) rfl dk_Reader_product_7 ?_
  refine kv_sub (lv' := [(0, .ref 75), (1, .int p1), (2, .int v1), (3, .int (0 : Int32))]) [2, 3, 1, 0] rfl ?_
  refine kv_lp_3_2 (LV := fun x3 x4 c5 => [(0, .ref 75), (1, .int p1), (2, .int x3), (3, .int x4)]) (WW := fun x3 x4 c5 => (c5, y)) (LE1 := fun x6 c7 => [(2, .int x6)]) (WE1 := fun x6 c7 => (c7, y)) (pe1 := 83) ?_ ?_
  · intro x6 c7
    show kv_X _ _ _ _ _ 83 [(2, .int x6)] [] (c7, y)
    refine kv_iload_n (pc := 83) 0 rfl rfl dk_Reader_product_83 ?_
    exact kv_iret (pc := 84) (fun h => h) rfl dk_Reader_product_84
  · intro hx8_0 x3 x4 c5
    show kv_X _ _ _ _ (fb_Reader_product_8 rq_atom p1 x3 x4 c5) 8 [(0, .ref 75), (1, .int p1), (2, .int x3), (3, .int x4)] [] (c5, y)
    unfold fb_Reader_product_8
    refine kv_iload_n (pc := 8) 3 rfl rfl dk_Reader_product_8 ?_
    refine kv_bipush (pc := 9) (v := (100 : Int32)) dk_Reader_product_9 kkb_100 ?_
    refine kv_icmp_ge (pc := 11) (tgt := 83) dk_Reader_product_11 rfl ?_ ?_
    · exact kv_sub [2] rfl (kv_leaf (hx8_0 _ _))
    · refine kv_aload_n (pc := 14) 0 rfl rfl dk_Reader_product_14 ?_
      refine kv_bipush (pc := 15) (v := (42 : Int32)) dk_Reader_product_15 kkb_42 ?_
      refine kv_cV_cZ (pc := 17) (as := [.int (42 : Int32)]) (st := []) ko_Reader_isAt kc_6 rfl rfl kr_75 kw_874 (Nat.le_of_ble_eq_true rfl) rfl dk_Reader_product_17 (cx_Reader_isAt (d + 1) (42 : Int32) c5 y) (fun b8 => ?_)
      refine kv_cut_0 (J := fj_Reader_product_32 rq_atom c5 p1 x3 x4) (pcj := 32) (LJ := [(0, .ref 75), (1, .int p1), (2, .int x3), (3, .int x4)]) (SJ := []) (WJ := (c5, y)) ?_ (fun hj32 => ?_)
      · show kv_X _ _ _ _ (fj_Reader_product_32 rq_atom c5 p1 x3 x4) 32 [(0, .ref 75), (1, .int p1), (2, .int x3), (3, .int x4)] [] (c5, y)
        unfold fj_Reader_product_32
        refine kv_aload_n (pc := 32) 0 rfl rfl dk_Reader_product_32 ?_
        refine kv_bipush (pc := 33) (v := (42 : Int32)) dk_Reader_product_33 kkb_42 ?_
        refine kv_cV_cZ (pc := 35) (as := [.int (42 : Int32)]) (st := []) ko_Reader_isAt kc_6 rfl rfl kr_75 kw_874 (Nat.le_of_ble_eq_true rfl) rfl dk_Reader_product_35 (cx_Reader_isAt (d + 1) (42 : Int32) c5 y) (fun b9 => ?_)
        refine kv_letI (fun v10 => ?_)
        refine kv_istore (pc := 38) (lv' := [(4, .int v10), (0, .ref 75), (1, .int p1), (2, .int x3), (3, .int x4)]) rfl (Nat.le_of_ble_eq_true rfl) dk_Reader_product_38 ?_
        refine kv_aload_n (pc := 40) 1 rfl rfl dk_Reader_product_40 ?_
        refine kv_dupR (pc := 41) dk_Reader_product_41 ?_
        refine kv_getC (pc := 42) kf_Reader_26 kr_75 kn_75 rfl dk_Reader_product_42 ?_
        refine kv_iconst (pc := 45) (v := (1 : Int32)) dk_Reader_product_45 kki_1 ?_
        refine kv_iadd (pc := 46) dk_Reader_product_46 ?_
        refine kv_putC (pc := 47) kf_Reader_26 kr_75 kn_75 rfl rfl rfl dk_Reader_product_47 (fun c11 => ?_)
        refine kv_aload_n (pc := 50) 1 rfl rfl dk_Reader_product_50 ?_
        refine kv_iload_n (pc := 51) 2 rfl rfl dk_Reader_product_51 ?_
        refine kv_cV_cIc (pc := 52) (as := [.int p1]) (st := []) ko_Reader_atom kc_6 rfl rfl kr_75 kw_890 (Nat.le_of_ble_eq_true rfl) rfl dk_Reader_product_52 (hrq_atom p1 c11 y) (fun v12 c13 => ?_)
        refine kv_istore (pc := 55) (lv' := [(5, .int v12), (4, .int v10), (0, .ref 75), (1, .int p1), (2, .int x3), (3, .int x4)]) rfl (Nat.le_of_ble_eq_true rfl) dk_Reader_product_55 ?_
        refine kv_iload (pc := 57) 1 rfl dk_Reader_product_57 ?_
        refine kv_cut_1 (J := fj_Reader_product_76 x4 c13) (pcj := 76) (LJ := fun x14 => [(0, .ref 75), (1, .int p1), (3, .int x4)]) (SJ := fun x14 => [.int x14]) (WJ := fun x14 => (c13, y)) ?_ (fun hj76 => ?_)
        · intro x14
          show kv_X _ _ _ _ (fj_Reader_product_76 x4 c13 x14) 76 [(0, .ref 75), (1, .int p1), (3, .int x4)] [.int x14] (c13, y)
          unfold fj_Reader_product_76
          refine kv_istore_n (pc := 76) (lv' := [(2, .int x14), (0, .ref 75), (1, .int p1), (3, .int x4)]) rfl (Nat.le_of_ble_eq_true rfl) rfl dk_Reader_product_76 ?_
          refine kv_iinc (pc := 77) (kk := (1 : Int32)) (lv' := [(3, .int (x4 + (1 : Int32))), (2, .int x14), (0, .ref 75), (1, .int p1)]) 3 rfl kki_1 rfl (Nat.le_of_ble_eq_true rfl) dk_Reader_product_77 ?_
          refine kv_goto (pc := 80) (tgt := 8) dk_Reader_product_80 rfl ?_
          exact kv_sub [2, 3, 1, 0] rfl (kv_leaf (fun h => h))
        refine kv_if_eq (pc := 59) (tgt := 69) dk_Reader_product_59 rfl ?_ ?_
        · refine kv_aload_n (pc := 69) 2 rfl rfl dk_Reader_product_69 ?_
          refine kv_iload_n (pc := 70) 4 rfl rfl dk_Reader_product_70 ?_
          refine kv_iload (pc := 71) 0 rfl dk_Reader_product_71 ?_
          refine kv_cV_cI (pc := 73) (as := [.int x3, .int v12]) (st := []) ko_Reader_over kc_6 rfl rfl kr_75 kw_894 (Nat.le_of_ble_eq_true rfl) rfl dk_Reader_product_73 (cx_Reader_over (d + 1) x3 v12 c13 y) (fun v15 => ?_)
          exact kv_sub [2, 3, 5] rfl (hj76 v15)
        · refine kv_iload_n (pc := 62) 4 rfl rfl dk_Reader_product_62 ?_
          refine kv_iload (pc := 63) 0 rfl dk_Reader_product_63 ?_
          refine kv_imul (pc := 65) dk_Reader_product_65 ?_
          refine kv_goto (pc := 66) (tgt := 76) dk_Reader_product_66 rfl ?_
          exact kv_sub [2, 3, 5] rfl (hj76 (x3 * v12))
      refine kv_zif_ne (pc := 20) (tgt := 32) dk_Reader_product_20 rfl ?_ ?_
      · exact hj32
      · refine kv_aload_n (pc := 23) 0 rfl rfl dk_Reader_product_23 ?_
        refine kv_bipush (pc := 24) (v := (47 : Int32)) dk_Reader_product_24 kkb_47 ?_
        refine kv_cV_cZ (pc := 26) (as := [.int (47 : Int32)]) (st := []) ko_Reader_isAt kc_6 rfl rfl kr_75 kw_874 (Nat.le_of_ble_eq_true rfl) rfl dk_Reader_product_26 (cx_Reader_isAt (d + 1) (47 : Int32) c5 y) (fun b16 => ?_)
        refine kv_zif_eq (pc := 29) (tgt := 83) dk_Reader_product_29 rfl ?_ ?_
        · exact kv_sub [2] rfl (kv_leaf (hx8_0 _ _))
        · exact hj32
theorem dk_Reader_atom_0 : decode prog_8_method_9_code 0 = .ok (.aload_n 0, 1) := by decide +kernel
theorem dk_Reader_atom_1 : decode prog_8_method_9_code 1 = .ok (.bipush 40, 2) := by decide +kernel
theorem dk_Reader_atom_3 : decode prog_8_method_9_code 3 = .ok (.invokevirtual 93, 3) := by decide +kernel
theorem dk_Reader_atom_6 : decode prog_8_method_9_code 6 = .ok (.ifCond .eq 35, 3) := by decide +kernel
theorem dk_Reader_atom_9 : decode prog_8_method_9_code 9 = .ok (.iload_n 1, 1) := by decide +kernel
theorem dk_Reader_atom_10 : decode prog_8_method_9_code 10 = .ok (.bipush 6, 2) := by decide +kernel
theorem dk_Reader_atom_12 : decode prog_8_method_9_code 12 = .ok (.if_icmp .ge 29, 3) := by decide +kernel
theorem dk_Reader_atom_15 : decode prog_8_method_9_code 15 = .ok (.aload_n 0, 1) := by decide +kernel
theorem dk_Reader_atom_16 : decode prog_8_method_9_code 16 = .ok (.dup, 1) := by decide +kernel
theorem dk_Reader_atom_17 : decode prog_8_method_9_code 17 = .ok (.getfield 26, 3) := by decide +kernel
theorem dk_Reader_atom_20 : decode prog_8_method_9_code 20 = .ok (.iconst 1, 1) := by decide +kernel
theorem dk_Reader_atom_21 : decode prog_8_method_9_code 21 = .ok (.iadd, 1) := by decide +kernel
theorem dk_Reader_atom_22 : decode prog_8_method_9_code 22 = .ok (.putfield 26, 3) := by decide +kernel
theorem dk_Reader_atom_25 : decode prog_8_method_9_code 25 = .ok (.aload_n 0, 1) := by decide +kernel
theorem dk_Reader_atom_26 : decode prog_8_method_9_code 26 = .ok (.iload_n 1, 1) := by decide +kernel
theorem dk_Reader_atom_27 : decode prog_8_method_9_code 27 = .ok (.iconst 1, 1) := by decide +kernel
theorem dk_Reader_atom_28 : decode prog_8_method_9_code 28 = .ok (.iadd, 1) := by decide +kernel
theorem dk_Reader_atom_29 : decode prog_8_method_9_code 29 = .ok (.invokevirtual 86, 3) := by decide +kernel
theorem dk_Reader_atom_32 : decode prog_8_method_9_code 32 = .ok (.istore_n 2, 1) := by decide +kernel
theorem dk_Reader_atom_33 : decode prog_8_method_9_code 33 = .ok (.aload_n 0, 1) := by decide +kernel
theorem dk_Reader_atom_34 : decode prog_8_method_9_code 34 = .ok (.bipush 41, 2) := by decide +kernel
theorem dk_Reader_atom_36 : decode prog_8_method_9_code 36 = .ok (.invokevirtual 82, 3) := by decide +kernel
theorem dk_Reader_atom_39 : decode prog_8_method_9_code 39 = .ok (.iload_n 2, 1) := by decide +kernel
theorem dk_Reader_atom_40 : decode prog_8_method_9_code 40 = .ok (.ireturn, 1) := by decide +kernel
theorem dk_Reader_atom_41 : decode prog_8_method_9_code 41 = .ok (.aload_n 0, 1) := by decide +kernel
theorem dk_Reader_atom_42 : decode prog_8_method_9_code 42 = .ok (.invokevirtual 103, 3) := by decide +kernel
theorem dk_Reader_atom_45 : decode prog_8_method_9_code 45 = .ok (.ifCond .eq 8, 3) := by decide +kernel
theorem dk_Reader_atom_48 : decode prog_8_method_9_code 48 = .ok (.aload_n 0, 1) := by decide +kernel
theorem dk_Reader_atom_49 : decode prog_8_method_9_code 49 = .ok (.invokevirtual 78, 3) := by decide +kernel
theorem dk_Reader_atom_52 : decode prog_8_method_9_code 52 = .ok (.ireturn, 1) := by decide +kernel
theorem dk_Reader_atom_53 : decode prog_8_method_9_code 53 = .ok (.aload_n 0, 1) := by decide +kernel
theorem dk_Reader_atom_54 : decode prog_8_method_9_code 54 = .ok (.bipush 80, 2) := by decide +kernel
theorem dk_Reader_atom_56 : decode prog_8_method_9_code 56 = .ok (.invokevirtual 93, 3) := by decide +kernel
theorem dk_Reader_atom_59 : decode prog_8_method_9_code 59 = .ok (.ifCond .eq 10, 3) := by decide +kernel
theorem dk_Reader_atom_62 : decode prog_8_method_9_code 62 = .ok (.aload_n 0, 1) := by decide +kernel
theorem dk_Reader_atom_63 : decode prog_8_method_9_code 63 = .ok (.getfield 66, 3) := by decide +kernel
theorem dk_Reader_atom_66 : decode prog_8_method_9_code 66 = .ok (.goto 39, 3) := by decide +kernel
theorem dk_Reader_atom_69 : decode prog_8_method_9_code 69 = .ok (.aload_n 0, 1) := by decide +kernel
theorem dk_Reader_atom_70 : decode prog_8_method_9_code 70 = .ok (.bipush 109, 2) := by decide +kernel
theorem dk_Reader_atom_72 : decode prog_8_method_9_code 72 = .ok (.invokevirtual 93, 3) := by decide +kernel
theorem dk_Reader_atom_75 : decode prog_8_method_9_code 75 = .ok (.ifCond .eq 10, 3) := by decide +kernel
theorem dk_Reader_atom_78 : decode prog_8_method_9_code 78 = .ok (.aload_n 0, 1) := by decide +kernel
theorem dk_Reader_atom_79 : decode prog_8_method_9_code 79 = .ok (.getfield 69, 3) := by decide +kernel
theorem dk_Reader_atom_82 : decode prog_8_method_9_code 82 = .ok (.goto 23, 3) := by decide +kernel
theorem dk_Reader_atom_85 : decode prog_8_method_9_code 85 = .ok (.aload_n 0, 1) := by decide +kernel
theorem dk_Reader_atom_86 : decode prog_8_method_9_code 86 = .ok (.bipush 111, 2) := by decide +kernel
theorem dk_Reader_atom_88 : decode prog_8_method_9_code 88 = .ok (.invokevirtual 93, 3) := by decide +kernel
theorem dk_Reader_atom_91 : decode prog_8_method_9_code 91 = .ok (.ifCond .eq 10, 3) := by decide +kernel
theorem dk_Reader_atom_94 : decode prog_8_method_9_code 94 = .ok (.aload_n 0, 1) := by decide +kernel
theorem dk_Reader_atom_95 : decode prog_8_method_9_code 95 = .ok (.getfield 72, 3) := by decide +kernel
theorem dk_Reader_atom_98 : decode prog_8_method_9_code 98 = .ok (.goto 7, 3) := by decide +kernel
theorem dk_Reader_atom_101 : decode prog_8_method_9_code 101 = .ok (.aload_n 0, 1) := by decide +kernel
theorem dk_Reader_atom_102 : decode prog_8_method_9_code 102 = .ok (.getfield 75, 3) := by decide +kernel
theorem dk_Reader_atom_105 : decode prog_8_method_9_code 105 = .ok (.istore_n 2, 1) := by decide +kernel
theorem dk_Reader_atom_106 : decode prog_8_method_9_code 106 = .ok (.aload_n 0, 1) := by decide +kernel
theorem dk_Reader_atom_107 : decode prog_8_method_9_code 107 = .ok (.bipush 80, 2) := by decide +kernel
theorem dk_Reader_atom_109 : decode prog_8_method_9_code 109 = .ok (.invokevirtual 93, 3) := by decide +kernel
theorem dk_Reader_atom_112 : decode prog_8_method_9_code 112 = .ok (.ifCond .ne 30, 3) := by decide +kernel
theorem dk_Reader_atom_115 : decode prog_8_method_9_code 115 = .ok (.aload_n 0, 1) := by decide +kernel
theorem dk_Reader_atom_116 : decode prog_8_method_9_code 116 = .ok (.bipush 109, 2) := by decide +kernel
theorem dk_Reader_atom_118 : decode prog_8_method_9_code 118 = .ok (.invokevirtual 93, 3) := by decide +kernel
theorem dk_Reader_atom_121 : decode prog_8_method_9_code 121 = .ok (.ifCond .ne 21, 3) := by decide +kernel
theorem dk_Reader_atom_124 : decode prog_8_method_9_code 124 = .ok (.aload_n 0, 1) := by decide +kernel
theorem dk_Reader_atom_125 : decode prog_8_method_9_code 125 = .ok (.bipush 111, 2) := by decide +kernel
theorem dk_Reader_atom_127 : decode prog_8_method_9_code 127 = .ok (.invokevirtual 93, 3) := by decide +kernel
theorem dk_Reader_atom_130 : decode prog_8_method_9_code 130 = .ok (.ifCond .ne 12, 3) := by decide +kernel
theorem dk_Reader_atom_133 : decode prog_8_method_9_code 133 = .ok (.aload_n 0, 1) := by decide +kernel
theorem dk_Reader_atom_134 : decode prog_8_method_9_code 134 = .ok (.bipush 99, 2) := by decide +kernel
theorem dk_Reader_atom_136 : decode prog_8_method_9_code 136 = .ok (.invokevirtual 93, 3) := by decide +kernel
theorem dk_Reader_atom_139 : decode prog_8_method_9_code 139 = .ok (.ifCond .eq 15, 3) := by decide +kernel
theorem dk_Reader_atom_142 : decode prog_8_method_9_code 142 = .ok (.aload_n 0, 1) := by decide +kernel
theorem dk_Reader_atom_143 : decode prog_8_method_9_code 143 = .ok (.dup, 1) := by decide +kernel
theorem dk_Reader_atom_144 : decode prog_8_method_9_code 144 = .ok (.getfield 26, 3) := by decide +kernel
theorem dk_Reader_atom_147 : decode prog_8_method_9_code 147 = .ok (.iconst 1, 1) := by decide +kernel
theorem dk_Reader_atom_148 : decode prog_8_method_9_code 148 = .ok (.iadd, 1) := by decide +kernel
theorem dk_Reader_atom_149 : decode prog_8_method_9_code 149 = .ok (.putfield 26, 3) := by decide +kernel
theorem dk_Reader_atom_152 : decode prog_8_method_9_code 152 = .ok (.iload_n 2, 1) := by decide +kernel
theorem dk_Reader_atom_153 : decode prog_8_method_9_code 153 = .ok (.ireturn, 1) := by decide +kernel
theorem dk_Reader_atom_154 : decode prog_8_method_9_code 154 = .ok (.aload_n 0, 1) := by decide +kernel
theorem dk_Reader_atom_155 : decode prog_8_method_9_code 155 = .ok (.invokevirtual 107, 3) := by decide +kernel
theorem dk_Reader_atom_158 : decode prog_8_method_9_code 158 = .ok (.iconst 0, 1) := by decide +kernel
theorem dk_Reader_atom_159 : decode prog_8_method_9_code 159 = .ok (.ireturn, 1) := by decide +kernel
noncomputable def fj_Reader_atom_142 (c2 : (Nat → Nat → Int32)) (x5 : Int32) : Option (Int32 × (Nat → Nat → Int32)) :=
  kv_let (kv_st c2 75 2 ((c2 75 2) + (1 : Int32))) (fun c7 =>
  some (x5, c7))
noncomputable def fj_Reader_atom_105 (c2 : (Nat → Nat → Int32)) (x5 : Int32) : Option (Int32 × (Nat → Nat → Int32)) :=
  kv_bind1 (fx_Reader_isAt (80 : Int32) c2) (fun b6 =>
  if b6 = true then
    fj_Reader_atom_142 c2 x5
  else
    kv_bind1 (fx_Reader_isAt (109 : Int32) c2) (fun b8 =>
    if b8 = true then
      fj_Reader_atom_142 c2 x5
    else
      kv_bind1 (fx_Reader_isAt (111 : Int32) c2) (fun b9 =>
      if b9 = true then
        fj_Reader_atom_142 c2 x5
      else
        kv_bind1 (fx_Reader_isAt (99 : Int32) c2) (fun b10 =>
        if b10 = true then
          fj_Reader_atom_142 c2 x5
        else
          kv_bind1 (fx_Reader_stop c2) (fun c11 =>
          some ((0 : Int32), c11))))))
noncomputable def fj_Reader_atom_41 (c2 : (Nat → Nat → Int32)) : Option (Int32 × (Nat → Nat → Int32)) :=
  kv_bind1 (fx_Reader_isAtDigit c2) (fun b3 =>
  if b3 = true then
    kv_bind2 (fx_Reader_number c2) (fun v14 c15 =>
    some (v14, c15))
  else
    kv_bind1 (fx_Reader_isAt (80 : Int32) c2) (fun b4 =>
    if b4 = true then
      fj_Reader_atom_105 c2 (c2 75 9)
    else
      kv_bind1 (fx_Reader_isAt (109 : Int32) c2) (fun b12 =>
      if b12 = true then
        fj_Reader_atom_105 c2 (c2 75 10)
      else
        kv_bind1 (fx_Reader_isAt (111 : Int32) c2) (fun b13 =>
        if b13 = true then
          fj_Reader_atom_105 c2 (c2 75 11)
        else
          fj_Reader_atom_105 c2 (c2 75 12)))))
noncomputable def fx_Reader_atom (rq_sum : Int32 → (Nat → Nat → Int32) → Option (Int32 × (Nat → Nat → Int32))) (p1 : Int32) (c : (Nat → Nat → Int32)) : Option (Int32 × (Nat → Nat → Int32)) :=
  kv_bind1 (fx_Reader_isAt (40 : Int32) c) (fun b1 =>
  if b1 = true then
    if (6 : Int32) ≤ p1 then
      fj_Reader_atom_41 c
    else
      kv_let (kv_st c 75 2 ((c 75 2) + (1 : Int32))) (fun c16 =>
      kv_bind2 (rq_sum (p1 + (1 : Int32)) c16) (fun v17 c18 =>
      kv_bind1 (fx_Reader_expect (41 : Int32) c18) (fun c19 =>
      some (v17, c19))))
  else
    fj_Reader_atom_41 c)
set_option maxRecDepth 20000 in
theorem cx_Reader_atom (d : Nat) (rq_sum : Int32 → (Nat → Nat → Int32) → Option (Int32 × (Nat → Nat → Int32))) (hrq_sum : ∀ (p1 : Int32) (c : (Nat → Nat → Int32)) (y : (Nat → Nat → Int32) × (Nat → Int64) × (Nat → Int64)), ∀ a, rq_sum p1 c = some a → kv_C kM_Reader_sum (d + 1) [.ref 75, .int p1] (c, y) (some (.int a.1), (a.2, y))) (p1 : Int32) (c : (Nat → Nat → Int32)) (y : (Nat → Nat → Int32) × (Nat → Int64) × (Nat → Int64)) : ∀ a, fx_Reader_atom rq_sum p1 c = some a → kv_C kM_Reader_atom (d + 2) [.ref 75, .int p1] (c, y) (some (.int a.1), (a.2, y)) := by
  refine kv_entryX (E := fun a : (Int32 × (Nat → Nat → Int32)) => (some (.int a.1), (a.2, y))) rfl (Nat.le_of_ble_eq_true rfl) (fun o => ?_)
  unfold fx_Reader_atom
  show kv_X _ _ _ _ _ 0 [(0, .ref 75), (1, .int p1)] [] (c, y)
  refine kv_aload_n (pc := 0) 0 rfl rfl dk_Reader_atom_0 ?_
  refine kv_bipush (pc := 1) (v := (40 : Int32)) dk_Reader_atom_1 kkb_40 ?_
  refine kv_cV_cZ (pc := 3) (as := [.int (40 : Int32)]) (st := []) ko_Reader_isAt kc_6 rfl rfl kr_75 kw_874 (Nat.le_of_ble_eq_true rfl) rfl dk_Reader_atom_3 (cx_Reader_isAt (d + 1) (40 : Int32) c y) (fun b1 => ?_)
  refine kv_cut_1 (J := fj_Reader_atom_41) (pcj := 41) (LJ := fun c2 => [(0, .ref 75)]) (SJ := fun c2 => []) (WJ := fun c2 => (c2, y)) ?_ (fun hj41 => ?_)
  · intro c2
    show kv_X _ _ _ _ (fj_Reader_atom_41 c2) 41 [(0, .ref 75)] [] (c2, y)
    unfold fj_Reader_atom_41
    refine kv_aload_n (pc := 41) 0 rfl rfl dk_Reader_atom_41 ?_
    refine kv_cV_cZ (pc := 42) (as := []) (st := []) ko_Reader_isAtDigit kc_6 rfl rfl kr_75 kw_866 (Nat.le_of_ble_eq_true rfl) rfl dk_Reader_atom_42 (cx_Reader_isAtDigit (d + 1) c2 y) (fun b3 => ?_)
    refine kv_zif_eq (pc := 45) (tgt := 53) dk_Reader_atom_45 rfl ?_ ?_
    · refine kv_aload_n (pc := 53) 0 rfl rfl dk_Reader_atom_53 ?_
      refine kv_bipush (pc := 54) (v := (80 : Int32)) dk_Reader_atom_54 kkb_80 ?_
      refine kv_cV_cZ (pc := 56) (as := [.int (80 : Int32)]) (st := []) ko_Reader_isAt kc_6 rfl rfl kr_75 kw_874 (Nat.le_of_ble_eq_true rfl) rfl dk_Reader_atom_56 (cx_Reader_isAt (d + 1) (80 : Int32) c2 y) (fun b4 => ?_)
      refine kv_cut_1 (J := fj_Reader_atom_105 c2) (pcj := 105) (LJ := fun x5 => [(0, .ref 75)]) (SJ := fun x5 => [.int x5]) (WJ := fun x5 => (c2, y)) ?_ (fun hj105 => ?_)
      · intro x5
        show kv_X _ _ _ _ (fj_Reader_atom_105 c2 x5) 105 [(0, .ref 75)] [.int x5] (c2, y)
        unfold fj_Reader_atom_105
        refine kv_istore_n (pc := 105) (lv' := [(2, .int x5), (0, .ref 75)]) rfl (Nat.le_of_ble_eq_true rfl) rfl dk_Reader_atom_105 ?_
        refine kv_aload_n (pc := 106) 1 rfl rfl dk_Reader_atom_106 ?_
        refine kv_bipush (pc := 107) (v := (80 : Int32)) dk_Reader_atom_107 kkb_80 ?_
        refine kv_cV_cZ (pc := 109) (as := [.int (80 : Int32)]) (st := []) ko_Reader_isAt kc_6 rfl rfl kr_75 kw_874 (Nat.le_of_ble_eq_true rfl) rfl dk_Reader_atom_109 (cx_Reader_isAt (d + 1) (80 : Int32) c2 y) (fun b6 => ?_)
        refine kv_cut_0 (J := fj_Reader_atom_142 c2 x5) (pcj := 142) (LJ := [(0, .ref 75), (2, .int x5)]) (SJ := []) (WJ := (c2, y)) ?_ (fun hj142 => ?_)
        · show kv_X _ _ _ _ (fj_Reader_atom_142 c2 x5) 142 [(0, .ref 75), (2, .int x5)] [] (c2, y)
          unfold fj_Reader_atom_142
          refine kv_aload_n (pc := 142) 0 rfl rfl dk_Reader_atom_142 ?_
          refine kv_dupR (pc := 143) dk_Reader_atom_143 ?_
          refine kv_getC (pc := 144) kf_Reader_26 kr_75 kn_75 rfl dk_Reader_atom_144 ?_
          refine kv_iconst (pc := 147) (v := (1 : Int32)) dk_Reader_atom_147 kki_1 ?_
          refine kv_iadd (pc := 148) dk_Reader_atom_148 ?_
          refine kv_putC (pc := 149) kf_Reader_26 kr_75 kn_75 rfl rfl rfl dk_Reader_atom_149 (fun c7 => ?_)
          refine kv_iload_n (pc := 152) 1 rfl rfl dk_Reader_atom_152 ?_
          exact kv_iret (pc := 153) (fun h => h) rfl dk_Reader_atom_153
        refine kv_zif_ne (pc := 112) (tgt := 142) dk_Reader_atom_112 rfl ?_ ?_
        · exact kv_sub [1, 0] rfl (hj142)
        · refine kv_aload_n (pc := 115) 1 rfl rfl dk_Reader_atom_115 ?_
          refine kv_bipush (pc := 116) (v := (109 : Int32)) dk_Reader_atom_116 kkb_109 ?_
          refine kv_cV_cZ (pc := 118) (as := [.int (109 : Int32)]) (st := []) ko_Reader_isAt kc_6 rfl rfl kr_75 kw_874 (Nat.le_of_ble_eq_true rfl) rfl dk_Reader_atom_118 (cx_Reader_isAt (d + 1) (109 : Int32) c2 y) (fun b8 => ?_)
          refine kv_zif_ne (pc := 121) (tgt := 142) dk_Reader_atom_121 rfl ?_ ?_
          · exact kv_sub [1, 0] rfl (hj142)
          · refine kv_aload_n (pc := 124) 1 rfl rfl dk_Reader_atom_124 ?_
            refine kv_bipush (pc := 125) (v := (111 : Int32)) dk_Reader_atom_125 kkb_111 ?_
            refine kv_cV_cZ (pc := 127) (as := [.int (111 : Int32)]) (st := []) ko_Reader_isAt kc_6 rfl rfl kr_75 kw_874 (Nat.le_of_ble_eq_true rfl) rfl dk_Reader_atom_127 (cx_Reader_isAt (d + 1) (111 : Int32) c2 y) (fun b9 => ?_)
            refine kv_zif_ne (pc := 130) (tgt := 142) dk_Reader_atom_130 rfl ?_ ?_
            · exact kv_sub [1, 0] rfl (hj142)
            · refine kv_aload_n (pc := 133) 1 rfl rfl dk_Reader_atom_133 ?_
              refine kv_bipush (pc := 134) (v := (99 : Int32)) dk_Reader_atom_134 kkb_99 ?_
              refine kv_cV_cZ (pc := 136) (as := [.int (99 : Int32)]) (st := []) ko_Reader_isAt kc_6 rfl rfl kr_75 kw_874 (Nat.le_of_ble_eq_true rfl) rfl dk_Reader_atom_136 (cx_Reader_isAt (d + 1) (99 : Int32) c2 y) (fun b10 => ?_)
              refine kv_zif_eq (pc := 139) (tgt := 154) dk_Reader_atom_139 rfl ?_ ?_
              · refine kv_aload_n (pc := 154) 1 rfl rfl dk_Reader_atom_154 ?_
                refine kv_cV_cc (pc := 155) (as := []) (st := []) ko_Reader_stop kc_6 rfl rfl kr_75 kw_870 (Nat.le_of_ble_eq_true rfl) rfl dk_Reader_atom_155 (cx_Reader_stop (d + 1) c2 y) (fun c11 => ?_)
                refine kv_iconst (pc := 158) (v := (0 : Int32)) dk_Reader_atom_158 kki_0 ?_
                exact kv_iret (pc := 159) (fun h => h) rfl dk_Reader_atom_159
              · exact kv_sub [1, 0] rfl (hj142)
      refine kv_zif_eq (pc := 59) (tgt := 69) dk_Reader_atom_59 rfl ?_ ?_
      · refine kv_aload_n (pc := 69) 0 rfl rfl dk_Reader_atom_69 ?_
        refine kv_bipush (pc := 70) (v := (109 : Int32)) dk_Reader_atom_70 kkb_109 ?_
        refine kv_cV_cZ (pc := 72) (as := [.int (109 : Int32)]) (st := []) ko_Reader_isAt kc_6 rfl rfl kr_75 kw_874 (Nat.le_of_ble_eq_true rfl) rfl dk_Reader_atom_72 (cx_Reader_isAt (d + 1) (109 : Int32) c2 y) (fun b12 => ?_)
        refine kv_zif_eq (pc := 75) (tgt := 85) dk_Reader_atom_75 rfl ?_ ?_
        · refine kv_aload_n (pc := 85) 0 rfl rfl dk_Reader_atom_85 ?_
          refine kv_bipush (pc := 86) (v := (111 : Int32)) dk_Reader_atom_86 kkb_111 ?_
          refine kv_cV_cZ (pc := 88) (as := [.int (111 : Int32)]) (st := []) ko_Reader_isAt kc_6 rfl rfl kr_75 kw_874 (Nat.le_of_ble_eq_true rfl) rfl dk_Reader_atom_88 (cx_Reader_isAt (d + 1) (111 : Int32) c2 y) (fun b13 => ?_)
          refine kv_zif_eq (pc := 91) (tgt := 101) dk_Reader_atom_91 rfl ?_ ?_
          · refine kv_aload_n (pc := 101) 0 rfl rfl dk_Reader_atom_101 ?_
            refine kv_getC (pc := 102) kf_Reader_75 kr_75 kn_75 rfl dk_Reader_atom_102 ?_
            exact hj105 (c2 75 12)
          · refine kv_aload_n (pc := 94) 0 rfl rfl dk_Reader_atom_94 ?_
            refine kv_getC (pc := 95) kf_Reader_72 kr_75 kn_75 rfl dk_Reader_atom_95 ?_
            refine kv_goto (pc := 98) (tgt := 105) dk_Reader_atom_98 rfl ?_
            exact hj105 (c2 75 11)
        · refine kv_aload_n (pc := 78) 0 rfl rfl dk_Reader_atom_78 ?_
          refine kv_getC (pc := 79) kf_Reader_69 kr_75 kn_75 rfl dk_Reader_atom_79 ?_
          refine kv_goto (pc := 82) (tgt := 105) dk_Reader_atom_82 rfl ?_
          exact hj105 (c2 75 10)
      · refine kv_aload_n (pc := 62) 0 rfl rfl dk_Reader_atom_62 ?_
        refine kv_getC (pc := 63) kf_Reader_66 kr_75 kn_75 rfl dk_Reader_atom_63 ?_
        refine kv_goto (pc := 66) (tgt := 105) dk_Reader_atom_66 rfl ?_
        exact hj105 (c2 75 9)
    · refine kv_aload_n (pc := 48) 0 rfl rfl dk_Reader_atom_48 ?_
      refine kv_cV_cIc (pc := 49) (as := []) (st := []) ko_Reader_number kc_6 rfl rfl kr_75 kw_862 (Nat.le_of_ble_eq_true rfl) rfl dk_Reader_atom_49 (cx_Reader_number d c2 y) (fun v14 c15 => ?_)
      exact kv_iret (pc := 52) (fun h => h) rfl dk_Reader_atom_52
  refine kv_zif_eq (pc := 6) (tgt := 41) dk_Reader_atom_6 rfl ?_ ?_
  · exact kv_sub [0] rfl (hj41 c)
  · refine kv_iload_n (pc := 9) 1 rfl rfl dk_Reader_atom_9 ?_
    refine kv_bipush (pc := 10) (v := (6 : Int32)) dk_Reader_atom_10 kkb_6 ?_
    refine kv_icmp_ge (pc := 12) (tgt := 41) dk_Reader_atom_12 rfl ?_ ?_
    · exact kv_sub [0] rfl (hj41 c)
    · refine kv_aload_n (pc := 15) 0 rfl rfl dk_Reader_atom_15 ?_
      refine kv_dupR (pc := 16) dk_Reader_atom_16 ?_
      refine kv_getC (pc := 17) kf_Reader_26 kr_75 kn_75 rfl dk_Reader_atom_17 ?_
      refine kv_iconst (pc := 20) (v := (1 : Int32)) dk_Reader_atom_20 kki_1 ?_
      refine kv_iadd (pc := 21) dk_Reader_atom_21 ?_
      refine kv_putC (pc := 22) kf_Reader_26 kr_75 kn_75 rfl rfl rfl dk_Reader_atom_22 (fun c16 => ?_)
      refine kv_aload_n (pc := 25) 0 rfl rfl dk_Reader_atom_25 ?_
      refine kv_iload_n (pc := 26) 1 rfl rfl dk_Reader_atom_26 ?_
      refine kv_iconst (pc := 27) (v := (1 : Int32)) dk_Reader_atom_27 kki_1 ?_
      refine kv_iadd (pc := 28) dk_Reader_atom_28 ?_
      refine kv_cV_cIc (pc := 29) (as := [.int (p1 + (1 : Int32))]) (st := []) ko_Reader_sum kc_6 rfl rfl kr_75 kw_882 (Nat.le_of_ble_eq_true rfl) rfl dk_Reader_atom_29 (hrq_sum (p1 + (1 : Int32)) c16 y) (fun v17 c18 => ?_)
      refine kv_istore_n (pc := 32) (lv' := [(2, .int v17), (0, .ref 75), (1, .int p1)]) rfl (Nat.le_of_ble_eq_true rfl) rfl dk_Reader_atom_32 ?_
      refine kv_aload_n (pc := 33) 1 rfl rfl dk_Reader_atom_33 ?_
      refine kv_bipush (pc := 34) (v := (41 : Int32)) dk_Reader_atom_34 kkb_41 ?_
      refine kv_cV_cc (pc := 36) (as := [.int (41 : Int32)]) (st := []) ko_Reader_expect kc_6 rfl rfl kr_75 kw_878 (Nat.le_of_ble_eq_true rfl) rfl dk_Reader_atom_36 (cx_Reader_expect d (41 : Int32) c18 y) (fun c19 => ?_)
      refine kv_iload_n (pc := 39) 0 rfl rfl dk_Reader_atom_39 ?_
      exact kv_iret (pc := 40) (fun h => h) rfl dk_Reader_atom_40
noncomputable def fg_R : Nat → Nat → Int32 → (Nat → Nat → Int32) → Option (Int32 × (Nat → Nat → Int32))
  | 0 => fun _ _ _ => none
  | n + 1 => fun k p1 c => if k = 0 then fx_Reader_sum (fg_R n 1) p1 c else if k = 1 then fx_Reader_product (fg_R n 2) p1 c else fx_Reader_atom (fg_R n 0) p1 c
theorem cg_fg_R (d : Nat) : ∀ n : Nat, (∀ (p1 : Int32) (c : (Nat → Nat → Int32)) (y : (Nat → Nat → Int32) × (Nat → Int64) × (Nat → Int64)), ∀ a, fg_R n 0 p1 c = some a → kv_C kM_Reader_sum (d + n + 1) [.ref 75, .int p1] (c, y) (some (.int a.1), (a.2, y))) ∧ (∀ (p1 : Int32) (c : (Nat → Nat → Int32)) (y : (Nat → Nat → Int32) × (Nat → Int64) × (Nat → Int64)), ∀ a, fg_R n 1 p1 c = some a → kv_C kM_Reader_product (d + n + 1) [.ref 75, .int p1] (c, y) (some (.int a.1), (a.2, y))) ∧ (∀ (p1 : Int32) (c : (Nat → Nat → Int32)) (y : (Nat → Nat → Int32) × (Nat → Int64) × (Nat → Int64)), ∀ a, fg_R n 2 p1 c = some a → kv_C kM_Reader_atom (d + n + 1) [.ref 75, .int p1] (c, y) (some (.int a.1), (a.2, y))) := by
  intro n
  induction n with
  | zero => exact ⟨fun p1 c y a h => (by cases h), fun p1 c y a h => (by cases h), fun p1 c y a h => (by cases h)⟩
  | succ n ih =>
    have e : d + (n + 1) + 1 = d + n + 2 := by omega
    rw [e]
    exact ⟨fun p1 c y => cx_Reader_sum (d + n) (fg_R n 1) ih.2.1 p1 c y, fun p1 c y => cx_Reader_product (d + n) (fg_R n 2) ih.2.2 p1 c y, fun p1 c y => cx_Reader_atom (d + n) (fg_R n 0) ih.1 p1 c y⟩
theorem cx_fg_R_0 (d : Nat) : ∀ (p1 : Int32) (c : (Nat → Nat → Int32)) (y : (Nat → Nat → Int32) × (Nat → Int64) × (Nat → Int64)), ∀ a, fg_R 24 0 p1 c = some a → kv_C kM_Reader_sum (d + 25) [.ref 75, .int p1] (c, y) (some (.int a.1), (a.2, y)) := (cg_fg_R d 24).1
theorem cx_fg_R_1 (d : Nat) : ∀ (p1 : Int32) (c : (Nat → Nat → Int32)) (y : (Nat → Nat → Int32) × (Nat → Int64) × (Nat → Int64)), ∀ a, fg_R 24 1 p1 c = some a → kv_C kM_Reader_product (d + 25) [.ref 75, .int p1] (c, y) (some (.int a.1), (a.2, y)) := (cg_fg_R d 24).2.1
theorem cx_fg_R_2 (d : Nat) : ∀ (p1 : Int32) (c : (Nat → Nat → Int32)) (y : (Nat → Nat → Int32) × (Nat → Int64) × (Nat → Int64)), ∀ a, fg_R 24 2 p1 c = some a → kv_C kM_Reader_atom (d + 25) [.ref 75, .int p1] (c, y) (some (.int a.1), (a.2, y)) := (cg_fg_R d 24).2.2
