theorem dk_K_image_0 : decode prog_1_method_30_code 0 = .ok (.aload_n 0, 1) := by decide +kernel
theorem dk_K_image_1 : decode prog_1_method_30_code 1 = .ok (.getfield 16, 3) := by decide +kernel
theorem dk_K_image_4 : decode prog_1_method_30_code 4 = .ok (.aload_n 0, 1) := by decide +kernel
theorem dk_K_image_5 : decode prog_1_method_30_code 5 = .ok (.getfield 10, 3) := by decide +kernel
theorem dk_K_image_8 : decode prog_1_method_30_code 8 = .ok (.invokevirtual 353, 3) := by decide +kernel
theorem dk_K_image_11 : decode prog_1_method_30_code 11 = .ok (.aload_n 0, 1) := by decide +kernel
theorem dk_K_image_12 : decode prog_1_method_30_code 12 = .ok (.iconst 1, 1) := by decide +kernel
theorem dk_K_image_13 : decode prog_1_method_30_code 13 = .ok (.putfield 357, 3) := by decide +kernel
theorem dk_K_image_16 : decode prog_1_method_30_code 16 = .ok (.aload_n 0, 1) := by decide +kernel
theorem dk_K_image_17 : decode prog_1_method_30_code 17 = .ok (.getfield 10, 3) := by decide +kernel
theorem dk_K_image_20 : decode prog_1_method_30_code 20 = .ok (.getfield 58, 3) := by decide +kernel
theorem dk_K_image_23 : decode prog_1_method_30_code 23 = .ok (.getfield 62, 3) := by decide +kernel
theorem dk_K_image_26 : decode prog_1_method_30_code 26 = .ok (.ireturn, 1) := by decide +kernel
noncomputable def fx_K_image (c : (Nat → Nat → Int32)) : Option (Int32 × (Nat → Nat → Int32)) :=
  kv_bind1 (fx_State_takeFrom c) (fun c1 =>
  kv_let (kv_st c1 0 2 (1 : Int32)) (fun c2 =>
  some ((c2 2 7), c2)))
set_option maxRecDepth 20000 in
theorem cx_K_image (d : Nat) (c : (Nat → Nat → Int32)) (y : (Nat → Nat → Int32) × (Nat → Int64) × (Nat → Int64)) : ∀ a, fx_K_image c = some a → kv_C kM_K_image (d + 3) [.ref 0] (c, y) (some (.int a.1), (a.2, y)) := by
  refine kv_entryX (E := fun a : (Int32 × (Nat → Nat → Int32)) => (some (.int a.1), (a.2, y))) rfl (Nat.le_of_ble_eq_true rfl) (fun o => ?_)
  unfold fx_K_image
  show kv_X _ _ _ _ _ 0 [(0, .ref 0)] [] (c, y)
  refine kv_aload_n (pc := 0) 0 rfl rfl dk_K_image_0 ?_
  refine kv_getR (pc := 1) kf_K_16 kr_0 rfl kt_0_1 dk_K_image_1 ?_
  refine kv_aload_n (pc := 4) 0 rfl rfl dk_K_image_4 ?_
  refine kv_getR (pc := 5) kf_K_10 kr_0 rfl kt_0_0 dk_K_image_5 ?_
  refine kv_cV_cc (pc := 8) (as := [.ref 1]) (st := []) ko_State_takeFrom kc_8 rfl rfl kr_26 kw_1050 (Nat.le_of_ble_eq_true rfl) rfl dk_K_image_8 (cx_State_takeFrom d c y) (fun c1 => ?_)
  refine kv_aload_n (pc := 11) 0 rfl rfl dk_K_image_11 ?_
  refine kv_iconst (pc := 12) (v := (1 : Int32)) dk_K_image_12 kki_1 ?_
  refine kv_putC (pc := 13) kf_K_357 kr_0 kn_0 rfl rfl rfl dk_K_image_13 (fun c2 => ?_)
  refine kv_aload_n (pc := 16) 0 rfl rfl dk_K_image_16 ?_
  refine kv_getR (pc := 17) kf_K_10 kr_0 rfl kt_0_0 dk_K_image_17 ?_
  refine kv_getR (pc := 20) kf_K_58 kr_1 rfl kt_1_0 dk_K_image_20 ?_
  refine kv_getC (pc := 23) kf_K_62 kr_2 kn_2 rfl dk_K_image_23 ?_
  exact kv_iret (pc := 26) (fun h => h) rfl dk_K_image_26
theorem dk_D_image_0 : decode prog_13_method_83_code 0 = .ok (.iconst 0, 1) := by decide +kernel
theorem dk_D_image_1 : decode prog_13_method_83_code 1 = .ok (.istore_n 1, 1) := by decide +kernel
theorem dk_D_image_2 : decode prog_13_method_83_code 2 = .ok (.iload_n 1, 1) := by decide +kernel
theorem dk_D_image_3 : decode prog_13_method_83_code 3 = .ok (.sipush 444, 3) := by decide +kernel
theorem dk_D_image_6 : decode prog_13_method_83_code 6 = .ok (.if_icmp .ge 21, 3) := by decide +kernel
theorem dk_D_image_9 : decode prog_13_method_83_code 9 = .ok (.aload_n 0, 1) := by decide +kernel
theorem dk_D_image_10 : decode prog_13_method_83_code 10 = .ok (.getfield 13, 3) := by decide +kernel
theorem dk_D_image_13 : decode prog_13_method_83_code 13 = .ok (.iload_n 1, 1) := by decide +kernel
theorem dk_D_image_14 : decode prog_13_method_83_code 14 = .ok (.aload_n 0, 1) := by decide +kernel
theorem dk_D_image_15 : decode prog_13_method_83_code 15 = .ok (.getfield 9, 3) := by decide +kernel
theorem dk_D_image_18 : decode prog_13_method_83_code 18 = .ok (.iload_n 1, 1) := by decide +kernel
theorem dk_D_image_19 : decode prog_13_method_83_code 19 = .ok (.iaload, 1) := by decide +kernel
theorem dk_D_image_20 : decode prog_13_method_83_code 20 = .ok (.iastore, 1) := by decide +kernel
theorem dk_D_image_21 : decode prog_13_method_83_code 21 = .ok (.iinc 1 1, 3) := by decide +kernel
theorem dk_D_image_24 : decode prog_13_method_83_code 24 = .ok (.goto (-22), 3) := by decide +kernel
theorem dk_D_image_27 : decode prog_13_method_83_code 27 = .ok (.aload_n 0, 1) := by decide +kernel
theorem dk_D_image_28 : decode prog_13_method_83_code 28 = .ok (.iconst 1, 1) := by decide +kernel
theorem dk_D_image_29 : decode prog_13_method_83_code 29 = .ok (.putfield 310, 3) := by decide +kernel
theorem dk_D_image_32 : decode prog_13_method_83_code 32 = .ok (.aload_n 0, 1) := by decide +kernel
theorem dk_D_image_33 : decode prog_13_method_83_code 33 = .ok (.getfield 9, 3) := by decide +kernel
theorem dk_D_image_36 : decode prog_13_method_83_code 36 = .ok (.iconst 1, 1) := by decide +kernel
theorem dk_D_image_37 : decode prog_13_method_83_code 37 = .ok (.iaload, 1) := by decide +kernel
theorem dk_D_image_38 : decode prog_13_method_83_code 38 = .ok (.ireturn, 1) := by decide +kernel
noncomputable def fb_D_image_2 (x1 : Int32) (m2 : (Nat → Nat → Int32)) : Option ((Int32 × (Nat → Nat → Int32)) ⊕ (Nat → Nat → Int32)) :=
  if (444 : Int32) ≤ x1 then
    some (.inr m2)
  else
    kv_gd (kv_in x1 444) (
    kv_let (kv_st m2 86 x1.toNatClampNeg (m2 85 x1.toNatClampNeg)) (fun m5 =>
    some (.inl ((x1 + (1 : Int32)), m5))))
noncomputable def fx_D_image (m : (Nat → Nat → Int32)) : Option (Int32 × (Nat → Nat → Int32)) :=
  (kv_loop (kv_u2 (fb_D_image_2)) ((0 : Int32), m)).bind (kv_u1 (fun m3 =>
  kv_let (kv_st m3 84 8 (1 : Int32)) (fun m6 =>
  some ((m6 85 1), m6))))
set_option maxRecDepth 20000 in
theorem cx_D_image (d : Nat) (c : (Nat → Nat → Int32)) (m : (Nat → Nat → Int32)) (f : (Nat → Int64)) (u : (Nat → Int64)) : ∀ a, fx_D_image m = some a → kv_C kM_D_image (d + 0) [.ref 84] (c, m, f, u) (some (.int a.1), (c, a.2, f, u)) := by
  refine kv_entryX (E := fun a : (Int32 × (Nat → Nat → Int32)) => (some (.int a.1), (c, a.2, f, u))) rfl (Nat.le_of_ble_eq_true rfl) (fun o => ?_)
  unfold fx_D_image
  show kv_X _ _ _ _ _ 0 [(0, .ref 84)] [] (c, m, f, u)
  refine kv_iconst (pc := 0) (v := (0 : Int32)) dk_D_image_0 kki_0 ?_
  refine kv_istore_n (pc := 1) (lv' := [(1, .int (0 : Int32)), (0, .ref 84)]) rfl (Nat.le_of_ble_eq_true rfl) rfl dk_D_image_1 ?_
  refine kv_sub (lv' := [(0, .ref 84), (1, .int (0 : Int32))]) [1, 0] rfl ?_
  refine kv_lp_2_1 (LV := fun x1 m2 => [(0, .ref 84), (1, .int x1)]) (WW := fun x1 m2 => (c, m2, f, u)) (LE1 := fun m3 => [(0, .ref 84)]) (WE1 := fun m3 => (c, m3, f, u)) (pe1 := 27) ?_ ?_
  · intro m3
    show kv_X _ _ _ _ _ 27 [(0, .ref 84)] [] (c, m3, f, u)
    refine kv_aload_n (pc := 27) 0 rfl rfl dk_D_image_27 ?_
    refine kv_iconst (pc := 28) (v := (1 : Int32)) dk_D_image_28 kki_1 ?_
    refine kv_putM (pc := 29) kf_D_310 kr_84 kn_84 rfl rfl rfl dk_D_image_29 (fun m6 => ?_)
    refine kv_aload_n (pc := 32) 0 rfl rfl dk_D_image_32 ?_
    refine kv_getR (pc := 33) kf_D_9 kr_84 rfl kt_84_0 dk_D_image_33 ?_
    refine kv_iconst (pc := 36) (v := (1 : Int32)) dk_D_image_36 kki_1 ?_
    refine kv_aldM (pc := 37) kr_85 kn_85 kl_85 kkg_1_444 (j := 1) kkx_1 dk_D_image_37 ?_
    exact kv_iret (pc := 38) (fun h => h) rfl dk_D_image_38
  · intro hx2_0 x1 m2
    show kv_X _ _ _ _ (fb_D_image_2 x1 m2) 2 [(0, .ref 84), (1, .int x1)] [] (c, m2, f, u)
    unfold fb_D_image_2
    refine kv_iload_n (pc := 2) 1 rfl rfl dk_D_image_2 ?_
    refine kv_sipush (pc := 3) (v := (444 : Int32)) dk_D_image_3 kks_444 ?_
    refine kv_icmp_ge (pc := 6) (tgt := 27) dk_D_image_6 rfl ?_ ?_
    · exact kv_sub [0] rfl (kv_leaf (hx2_0 _))
    · refine kv_aload_n (pc := 9) 0 rfl rfl dk_D_image_9 ?_
      refine kv_getR (pc := 10) kf_D_13 kr_84 rfl kt_84_1 dk_D_image_10 ?_
      refine kv_iload_n (pc := 13) 1 rfl rfl dk_D_image_13 ?_
      refine kv_aload_n (pc := 14) 0 rfl rfl dk_D_image_14 ?_
      refine kv_getR (pc := 15) kf_D_9 kr_84 rfl kt_84_0 dk_D_image_15 ?_
      refine kv_iload_n (pc := 18) 1 rfl rfl dk_D_image_18 ?_
      refine kv_guard (fun g4 => ?_)
      refine kv_aldM (pc := 19) kr_85 kn_85 kl_85 g4 rfl dk_D_image_19 ?_
      refine kv_astM (pc := 20) kr_86 kn_86 kl_86 g4 rfl dk_D_image_20 (fun m5 => ?_)
      refine kv_iinc (pc := 21) (kk := (1 : Int32)) (lv' := [(1, .int (x1 + (1 : Int32))), (0, .ref 84)]) 1 rfl kki_1 rfl (Nat.le_of_ble_eq_true rfl) dk_D_image_21 ?_
      refine kv_goto (pc := 24) (tgt := 2) dk_D_image_24 rfl ?_
      exact kv_sub [1, 0] rfl (kv_leaf (fun h => h))
noncomputable def fx_Lumps_takeFrom_2_27 (c : (Nat → Nat → Int32)) : Option (Nat → Nat → Int32) :=
  kv_let (va_up c 3 (va_cpy (c 28) (c 3) (0 : Int32).toNatClampNeg (0 : Int32).toNatClampNeg (10 : Int32).toNatClampNeg)) (fun c2 =>
  kv_let (va_up c2 4 (va_cpy (c2 29) (c2 4) (0 : Int32).toNatClampNeg (0 : Int32).toNatClampNeg (10 : Int32).toNatClampNeg)) (fun c4 =>
  kv_let (va_up c4 5 (va_cpy (c4 30) (c4 5) (0 : Int32).toNatClampNeg (0 : Int32).toNatClampNeg (10 : Int32).toNatClampNeg)) (fun c6 =>
  kv_let (va_up c6 6 (va_cpy (c6 31) (c6 6) (0 : Int32).toNatClampNeg (0 : Int32).toNatClampNeg (10 : Int32).toNatClampNeg)) (fun c8 =>
  kv_let (va_up c8 7 (va_cpy (c8 32) (c8 7) (0 : Int32).toNatClampNeg (0 : Int32).toNatClampNeg (10 : Int32).toNatClampNeg)) (fun c10 =>
  kv_let (va_up c10 8 (va_cpy (c10 33) (c10 8) (0 : Int32).toNatClampNeg (0 : Int32).toNatClampNeg (10 : Int32).toNatClampNeg)) (fun c12 =>
  kv_let (va_up c12 9 (va_cpy (c12 34) (c12 9) (0 : Int32).toNatClampNeg (0 : Int32).toNatClampNeg (6 : Int32).toNatClampNeg)) (fun c14 =>
  kv_let (kv_st c14 2 7 (c14 27 7)) (fun c15 =>
  some c15))))))))
set_option maxRecDepth 20000 in
theorem cx_Lumps_takeFrom_2_27 (d : Nat) (c : (Nat → Nat → Int32)) (y : (Nat → Nat → Int32) × (Nat → Int64) × (Nat → Int64)) : ∀ a, fx_Lumps_takeFrom_2_27 c = some a → kv_C kM_Lumps_takeFrom (d + 1) [.ref 2, .ref 27] (c, y) (none, (a, y)) := by
  refine kv_entryX (E := fun a : (Nat → Nat → Int32) => (none, (a, y))) rfl (Nat.le_of_ble_eq_true rfl) (fun o => ?_)
  unfold fx_Lumps_takeFrom_2_27
  show kv_X _ _ _ _ _ 0 [(0, .ref 2), (1, .ref 27)] [] (c, y)
  refine kv_aload_n (pc := 0) 1 rfl rfl dk_Lumps_takeFrom_0 ?_
  refine kv_getR (pc := 1) kf_Lumps_9 kr_27 rfl kt_27_0 dk_Lumps_takeFrom_1 ?_
  refine kv_iconst (pc := 4) (v := (0 : Int32)) dk_Lumps_takeFrom_4 kki_0 ?_
  refine kv_aload_n (pc := 5) 0 rfl rfl dk_Lumps_takeFrom_5 ?_
  refine kv_getR (pc := 6) kf_Lumps_9 kr_2 rfl kt_2_0 dk_Lumps_takeFrom_6 ?_
  refine kv_iconst (pc := 9) (v := (0 : Int32)) dk_Lumps_takeFrom_9 kki_0 ?_
  refine kv_bipush (pc := 10) (v := (10 : Int32)) dk_Lumps_takeFrom_10 kkb_10 ?_
  refine kv_copyC (pc := 12) kr_28 kr_3 kn_28 kn_3 kl_28 kl_3 (by decide) kw_1058 kw_752 kw_751 kw_82 (Nat.le_of_ble_eq_true rfl) dk_Lumps_takeFrom_12 (fun c2 => ?_)
  refine kv_aload_n (pc := 15) 1 rfl rfl dk_Lumps_takeFrom_15 ?_
  refine kv_getR (pc := 16) kf_Lumps_15 kr_27 rfl kt_27_1 dk_Lumps_takeFrom_16 ?_
  refine kv_iconst (pc := 19) (v := (0 : Int32)) dk_Lumps_takeFrom_19 kki_0 ?_
  refine kv_aload_n (pc := 20) 0 rfl rfl dk_Lumps_takeFrom_20 ?_
  refine kv_getR (pc := 21) kf_Lumps_15 kr_2 rfl kt_2_1 dk_Lumps_takeFrom_21 ?_
  refine kv_iconst (pc := 24) (v := (0 : Int32)) dk_Lumps_takeFrom_24 kki_0 ?_
  refine kv_bipush (pc := 25) (v := (10 : Int32)) dk_Lumps_takeFrom_25 kkb_10 ?_
  refine kv_copyC (pc := 27) kr_29 kr_4 kn_29 kn_4 kl_29 kl_4 (by decide) kw_1058 kw_752 kw_751 kw_82 (Nat.le_of_ble_eq_true rfl) dk_Lumps_takeFrom_27 (fun c4 => ?_)
  refine kv_aload_n (pc := 30) 1 rfl rfl dk_Lumps_takeFrom_30 ?_
  refine kv_getR (pc := 31) kf_Lumps_18 kr_27 rfl kt_27_2 dk_Lumps_takeFrom_31 ?_
  refine kv_iconst (pc := 34) (v := (0 : Int32)) dk_Lumps_takeFrom_34 kki_0 ?_
  refine kv_aload_n (pc := 35) 0 rfl rfl dk_Lumps_takeFrom_35 ?_
  refine kv_getR (pc := 36) kf_Lumps_18 kr_2 rfl kt_2_2 dk_Lumps_takeFrom_36 ?_
  refine kv_iconst (pc := 39) (v := (0 : Int32)) dk_Lumps_takeFrom_39 kki_0 ?_
  refine kv_bipush (pc := 40) (v := (10 : Int32)) dk_Lumps_takeFrom_40 kkb_10 ?_
  refine kv_copyC (pc := 42) kr_30 kr_5 kn_30 kn_5 kl_30 kl_5 (by decide) kw_1058 kw_752 kw_751 kw_82 (Nat.le_of_ble_eq_true rfl) dk_Lumps_takeFrom_42 (fun c6 => ?_)
  refine kv_aload_n (pc := 45) 1 rfl rfl dk_Lumps_takeFrom_45 ?_
  refine kv_getR (pc := 46) kf_Lumps_21 kr_27 rfl kt_27_3 dk_Lumps_takeFrom_46 ?_
  refine kv_iconst (pc := 49) (v := (0 : Int32)) dk_Lumps_takeFrom_49 kki_0 ?_
  refine kv_aload_n (pc := 50) 0 rfl rfl dk_Lumps_takeFrom_50 ?_
  refine kv_getR (pc := 51) kf_Lumps_21 kr_2 rfl kt_2_3 dk_Lumps_takeFrom_51 ?_
  refine kv_iconst (pc := 54) (v := (0 : Int32)) dk_Lumps_takeFrom_54 kki_0 ?_
  refine kv_bipush (pc := 55) (v := (10 : Int32)) dk_Lumps_takeFrom_55 kkb_10 ?_
  refine kv_copyC (pc := 57) kr_31 kr_6 kn_31 kn_6 kl_31 kl_6 (by decide) kw_1058 kw_752 kw_751 kw_82 (Nat.le_of_ble_eq_true rfl) dk_Lumps_takeFrom_57 (fun c8 => ?_)
  refine kv_aload_n (pc := 60) 1 rfl rfl dk_Lumps_takeFrom_60 ?_
  refine kv_getR (pc := 61) kf_Lumps_24 kr_27 rfl kt_27_4 dk_Lumps_takeFrom_61 ?_
  refine kv_iconst (pc := 64) (v := (0 : Int32)) dk_Lumps_takeFrom_64 kki_0 ?_
  refine kv_aload_n (pc := 65) 0 rfl rfl dk_Lumps_takeFrom_65 ?_
  refine kv_getR (pc := 66) kf_Lumps_24 kr_2 rfl kt_2_4 dk_Lumps_takeFrom_66 ?_
  refine kv_iconst (pc := 69) (v := (0 : Int32)) dk_Lumps_takeFrom_69 kki_0 ?_
  refine kv_bipush (pc := 70) (v := (10 : Int32)) dk_Lumps_takeFrom_70 kkb_10 ?_
  refine kv_copyC (pc := 72) kr_32 kr_7 kn_32 kn_7 kl_32 kl_7 (by decide) kw_1058 kw_752 kw_751 kw_82 (Nat.le_of_ble_eq_true rfl) dk_Lumps_takeFrom_72 (fun c10 => ?_)
  refine kv_aload_n (pc := 75) 1 rfl rfl dk_Lumps_takeFrom_75 ?_
  refine kv_getR (pc := 76) kf_Lumps_27 kr_27 rfl kt_27_5 dk_Lumps_takeFrom_76 ?_
  refine kv_iconst (pc := 79) (v := (0 : Int32)) dk_Lumps_takeFrom_79 kki_0 ?_
  refine kv_aload_n (pc := 80) 0 rfl rfl dk_Lumps_takeFrom_80 ?_
  refine kv_getR (pc := 81) kf_Lumps_27 kr_2 rfl kt_2_5 dk_Lumps_takeFrom_81 ?_
  refine kv_iconst (pc := 84) (v := (0 : Int32)) dk_Lumps_takeFrom_84 kki_0 ?_
  refine kv_bipush (pc := 85) (v := (10 : Int32)) dk_Lumps_takeFrom_85 kkb_10 ?_
  refine kv_copyC (pc := 87) kr_33 kr_8 kn_33 kn_8 kl_33 kl_8 (by decide) kw_1058 kw_752 kw_751 kw_82 (Nat.le_of_ble_eq_true rfl) dk_Lumps_takeFrom_87 (fun c12 => ?_)
  refine kv_aload_n (pc := 90) 1 rfl rfl dk_Lumps_takeFrom_90 ?_
  refine kv_getR (pc := 91) kf_Lumps_30 kr_27 rfl kt_27_6 dk_Lumps_takeFrom_91 ?_
  refine kv_iconst (pc := 94) (v := (0 : Int32)) dk_Lumps_takeFrom_94 kki_0 ?_
  refine kv_aload_n (pc := 95) 0 rfl rfl dk_Lumps_takeFrom_95 ?_
  refine kv_getR (pc := 96) kf_Lumps_30 kr_2 rfl kt_2_6 dk_Lumps_takeFrom_96 ?_
  refine kv_iconst (pc := 99) (v := (0 : Int32)) dk_Lumps_takeFrom_99 kki_0 ?_
  refine kv_bipush (pc := 100) (v := (6 : Int32)) dk_Lumps_takeFrom_100 kkb_6 ?_
  refine kv_copyC (pc := 102) kr_34 kr_9 kn_34 kn_9 kl_34 kl_9 (by decide) kw_1058 kw_752 kw_751 kw_82 (Nat.le_of_ble_eq_true rfl) dk_Lumps_takeFrom_102 (fun c14 => ?_)
  refine kv_aload_n (pc := 105) 0 rfl rfl dk_Lumps_takeFrom_105 ?_
  refine kv_aload_n (pc := 106) 1 rfl rfl dk_Lumps_takeFrom_106 ?_
  refine kv_getC (pc := 107) kf_Lumps_33 kr_27 kn_27 rfl dk_Lumps_takeFrom_107 ?_
  refine kv_putC (pc := 110) kf_Lumps_33 kr_2 kn_2 rfl rfl rfl dk_Lumps_takeFrom_110 (fun c15 => ?_)
  exact kv_vret (pc := 113) (fun h => h) rfl dk_Lumps_takeFrom_113
noncomputable def fb_Weighings_takeFrom_10_35_92 (x13 : Int32) (c14 : (Nat → Nat → Int32)) : Option ((Int32 × (Nat → Nat → Int32)) ⊕ (Nat → Nat → Int32)) :=
  if (20 : Int32) ≤ x13 then
    some (.inr c14)
  else
    kv_gd (kv_in x13 20) (
    kv_let (kv_st c14 16 x13.toNatClampNeg (vp_nar .boolean (c14 41 x13.toNatClampNeg))) (fun c17 =>
    some (.inl ((x13 + (1 : Int32)), c17))))
noncomputable def fx_Weighings_takeFrom_10_35 (c : (Nat → Nat → Int32)) : Option (Nat → Nat → Int32) :=
  kv_let (va_up c 11 (va_cpy (c 36) (c 11) (0 : Int32).toNatClampNeg (0 : Int32).toNatClampNeg (20 : Int32).toNatClampNeg)) (fun c2 =>
  kv_let (va_up c2 12 (va_cpy (c2 37) (c2 12) (0 : Int32).toNatClampNeg (0 : Int32).toNatClampNeg (20 : Int32).toNatClampNeg)) (fun c4 =>
  kv_let (va_up c4 13 (va_cpy (c4 38) (c4 13) (0 : Int32).toNatClampNeg (0 : Int32).toNatClampNeg (20 : Int32).toNatClampNeg)) (fun c6 =>
  kv_let (va_up c6 14 (va_cpy (c6 39) (c6 14) (0 : Int32).toNatClampNeg (0 : Int32).toNatClampNeg (20 : Int32).toNatClampNeg)) (fun c8 =>
  kv_let (va_up c8 15 (va_cpy (c8 40) (c8 15) (0 : Int32).toNatClampNeg (0 : Int32).toNatClampNeg (20 : Int32).toNatClampNeg)) (fun c10 =>
  kv_let (va_up c10 17 (va_cpy (c10 42) (c10 17) (0 : Int32).toNatClampNeg (0 : Int32).toNatClampNeg (20 : Int32).toNatClampNeg)) (fun c12 =>
  (kv_loop (kv_u2 (fb_Weighings_takeFrom_10_35_92)) ((0 : Int32), c12)).bind (kv_u1 (fun c15 =>
  kv_let (kv_st c15 10 7 (c15 35 7)) (fun c18 =>
  kv_let (kv_st c18 10 8 (c18 35 8)) (fun c19 =>
  some c19))))))))))
set_option maxRecDepth 20000 in
theorem cx_Weighings_takeFrom_10_35 (d : Nat) (c : (Nat → Nat → Int32)) (y : (Nat → Nat → Int32) × (Nat → Int64) × (Nat → Int64)) : ∀ a, fx_Weighings_takeFrom_10_35 c = some a → kv_C kM_Weighings_takeFrom (d + 1) [.ref 10, .ref 35] (c, y) (none, (a, y)) := by
  refine kv_entryX (E := fun a : (Nat → Nat → Int32) => (none, (a, y))) rfl (Nat.le_of_ble_eq_true rfl) (fun o => ?_)
  unfold fx_Weighings_takeFrom_10_35
  show kv_X _ _ _ _ _ 0 [(0, .ref 10), (1, .ref 35)] [] (c, y)
  refine kv_aload_n (pc := 0) 1 rfl rfl dk_Weighings_takeFrom_0 ?_
  refine kv_getR (pc := 1) kf_Weighings_9 kr_35 rfl kt_35_0 dk_Weighings_takeFrom_1 ?_
  refine kv_iconst (pc := 4) (v := (0 : Int32)) dk_Weighings_takeFrom_4 kki_0 ?_
  refine kv_aload_n (pc := 5) 0 rfl rfl dk_Weighings_takeFrom_5 ?_
  refine kv_getR (pc := 6) kf_Weighings_9 kr_10 rfl kt_10_0 dk_Weighings_takeFrom_6 ?_
  refine kv_iconst (pc := 9) (v := (0 : Int32)) dk_Weighings_takeFrom_9 kki_0 ?_
  refine kv_bipush (pc := 10) (v := (20 : Int32)) dk_Weighings_takeFrom_10 kkb_20 ?_
  refine kv_copyC (pc := 12) kr_36 kr_11 kn_36 kn_11 kl_36 kl_11 (by decide) kw_1063 kw_752 kw_751 kw_82 (Nat.le_of_ble_eq_true rfl) dk_Weighings_takeFrom_12 (fun c2 => ?_)
  refine kv_aload_n (pc := 15) 1 rfl rfl dk_Weighings_takeFrom_15 ?_
  refine kv_getR (pc := 16) kf_Weighings_15 kr_35 rfl kt_35_1 dk_Weighings_takeFrom_16 ?_
  refine kv_iconst (pc := 19) (v := (0 : Int32)) dk_Weighings_takeFrom_19 kki_0 ?_
  refine kv_aload_n (pc := 20) 0 rfl rfl dk_Weighings_takeFrom_20 ?_
  refine kv_getR (pc := 21) kf_Weighings_15 kr_10 rfl kt_10_1 dk_Weighings_takeFrom_21 ?_
  refine kv_iconst (pc := 24) (v := (0 : Int32)) dk_Weighings_takeFrom_24 kki_0 ?_
  refine kv_bipush (pc := 25) (v := (20 : Int32)) dk_Weighings_takeFrom_25 kkb_20 ?_
  refine kv_copyC (pc := 27) kr_37 kr_12 kn_37 kn_12 kl_37 kl_12 (by decide) kw_1063 kw_752 kw_751 kw_82 (Nat.le_of_ble_eq_true rfl) dk_Weighings_takeFrom_27 (fun c4 => ?_)
  refine kv_aload_n (pc := 30) 1 rfl rfl dk_Weighings_takeFrom_30 ?_
  refine kv_getR (pc := 31) kf_Weighings_18 kr_35 rfl kt_35_2 dk_Weighings_takeFrom_31 ?_
  refine kv_iconst (pc := 34) (v := (0 : Int32)) dk_Weighings_takeFrom_34 kki_0 ?_
  refine kv_aload_n (pc := 35) 0 rfl rfl dk_Weighings_takeFrom_35 ?_
  refine kv_getR (pc := 36) kf_Weighings_18 kr_10 rfl kt_10_2 dk_Weighings_takeFrom_36 ?_
  refine kv_iconst (pc := 39) (v := (0 : Int32)) dk_Weighings_takeFrom_39 kki_0 ?_
  refine kv_bipush (pc := 40) (v := (20 : Int32)) dk_Weighings_takeFrom_40 kkb_20 ?_
  refine kv_copyC (pc := 42) kr_38 kr_13 kn_38 kn_13 kl_38 kl_13 (by decide) kw_1063 kw_752 kw_751 kw_82 (Nat.le_of_ble_eq_true rfl) dk_Weighings_takeFrom_42 (fun c6 => ?_)
  refine kv_aload_n (pc := 45) 1 rfl rfl dk_Weighings_takeFrom_45 ?_
  refine kv_getR (pc := 46) kf_Weighings_21 kr_35 rfl kt_35_3 dk_Weighings_takeFrom_46 ?_
  refine kv_iconst (pc := 49) (v := (0 : Int32)) dk_Weighings_takeFrom_49 kki_0 ?_
  refine kv_aload_n (pc := 50) 0 rfl rfl dk_Weighings_takeFrom_50 ?_
  refine kv_getR (pc := 51) kf_Weighings_21 kr_10 rfl kt_10_3 dk_Weighings_takeFrom_51 ?_
  refine kv_iconst (pc := 54) (v := (0 : Int32)) dk_Weighings_takeFrom_54 kki_0 ?_
  refine kv_bipush (pc := 55) (v := (20 : Int32)) dk_Weighings_takeFrom_55 kkb_20 ?_
  refine kv_copyC (pc := 57) kr_39 kr_14 kn_39 kn_14 kl_39 kl_14 (by decide) kw_1063 kw_752 kw_751 kw_82 (Nat.le_of_ble_eq_true rfl) dk_Weighings_takeFrom_57 (fun c8 => ?_)
  refine kv_aload_n (pc := 60) 1 rfl rfl dk_Weighings_takeFrom_60 ?_
  refine kv_getR (pc := 61) kf_Weighings_24 kr_35 rfl kt_35_4 dk_Weighings_takeFrom_61 ?_
  refine kv_iconst (pc := 64) (v := (0 : Int32)) dk_Weighings_takeFrom_64 kki_0 ?_
  refine kv_aload_n (pc := 65) 0 rfl rfl dk_Weighings_takeFrom_65 ?_
  refine kv_getR (pc := 66) kf_Weighings_24 kr_10 rfl kt_10_4 dk_Weighings_takeFrom_66 ?_
  refine kv_iconst (pc := 69) (v := (0 : Int32)) dk_Weighings_takeFrom_69 kki_0 ?_
  refine kv_bipush (pc := 70) (v := (20 : Int32)) dk_Weighings_takeFrom_70 kkb_20 ?_
  refine kv_copyC (pc := 72) kr_40 kr_15 kn_40 kn_15 kl_40 kl_15 (by decide) kw_1063 kw_752 kw_751 kw_82 (Nat.le_of_ble_eq_true rfl) dk_Weighings_takeFrom_72 (fun c10 => ?_)
  refine kv_aload_n (pc := 75) 1 rfl rfl dk_Weighings_takeFrom_75 ?_
  refine kv_getR (pc := 76) kf_Weighings_31 kr_35 rfl kt_35_6 dk_Weighings_takeFrom_76 ?_
  refine kv_iconst (pc := 79) (v := (0 : Int32)) dk_Weighings_takeFrom_79 kki_0 ?_
  refine kv_aload_n (pc := 80) 0 rfl rfl dk_Weighings_takeFrom_80 ?_
  refine kv_getR (pc := 81) kf_Weighings_31 kr_10 rfl kt_10_6 dk_Weighings_takeFrom_81 ?_
  refine kv_iconst (pc := 84) (v := (0 : Int32)) dk_Weighings_takeFrom_84 kki_0 ?_
  refine kv_bipush (pc := 85) (v := (20 : Int32)) dk_Weighings_takeFrom_85 kkb_20 ?_
  refine kv_copyC (pc := 87) kr_42 kr_17 kn_42 kn_17 kl_42 kl_17 (by decide) kw_1063 kw_752 kw_751 kw_82 (Nat.le_of_ble_eq_true rfl) dk_Weighings_takeFrom_87 (fun c12 => ?_)
  refine kv_iconst (pc := 90) (v := (0 : Int32)) dk_Weighings_takeFrom_90 kki_0 ?_
  refine kv_istore_n (pc := 91) (lv' := [(2, .int (0 : Int32)), (0, .ref 10), (1, .ref 35)]) rfl (Nat.le_of_ble_eq_true rfl) rfl dk_Weighings_takeFrom_91 ?_
  refine kv_sub (lv' := [(0, .ref 10), (1, .ref 35), (2, .int (0 : Int32))]) [1, 2, 0] rfl ?_
  refine kv_lp_2_1 (LV := fun x13 c14 => [(0, .ref 10), (1, .ref 35), (2, .int x13)]) (WW := fun x13 c14 => (c14, y)) (LE1 := fun c15 => [(0, .ref 10), (1, .ref 35)]) (WE1 := fun c15 => (c15, y)) (pe1 := 116) ?_ ?_
  · intro c15
    show kv_X _ _ _ _ _ 116 [(0, .ref 10), (1, .ref 35)] [] (c15, y)
    refine kv_aload_n (pc := 116) 0 rfl rfl dk_Weighings_takeFrom_116 ?_
    refine kv_aload_n (pc := 117) 1 rfl rfl dk_Weighings_takeFrom_117 ?_
    refine kv_getC (pc := 118) kf_Weighings_34 kr_35 kn_35 rfl dk_Weighings_takeFrom_118 ?_
    refine kv_putC (pc := 121) kf_Weighings_34 kr_10 kn_10 rfl rfl rfl dk_Weighings_takeFrom_121 (fun c18 => ?_)
    refine kv_aload_n (pc := 124) 0 rfl rfl dk_Weighings_takeFrom_124 ?_
    refine kv_aload_n (pc := 125) 1 rfl rfl dk_Weighings_takeFrom_125 ?_
    refine kv_getC (pc := 126) kf_Weighings_38 kr_35 kn_35 rfl dk_Weighings_takeFrom_126 ?_
    refine kv_putC (pc := 129) kf_Weighings_38 kr_10 kn_10 rfl rfl rfl dk_Weighings_takeFrom_129 (fun c19 => ?_)
    exact kv_vret (pc := 132) (fun h => h) rfl dk_Weighings_takeFrom_132
  · intro hx92_0 x13 c14
    show kv_X _ _ _ _ (fb_Weighings_takeFrom_10_35_92 x13 c14) 92 [(0, .ref 10), (1, .ref 35), (2, .int x13)] [] (c14, y)
    unfold fb_Weighings_takeFrom_10_35_92
    refine kv_iload_n (pc := 92) 2 rfl rfl dk_Weighings_takeFrom_92 ?_
    refine kv_bipush (pc := 93) (v := (20 : Int32)) dk_Weighings_takeFrom_93 kkb_20 ?_
    refine kv_icmp_ge (pc := 95) (tgt := 116) dk_Weighings_takeFrom_95 rfl ?_ ?_
    · exact kv_sub [0, 1] rfl (kv_leaf (hx92_0 _))
    · refine kv_aload_n (pc := 98) 0 rfl rfl dk_Weighings_takeFrom_98 ?_
      refine kv_getR (pc := 99) kf_Weighings_27 kr_10 rfl kt_10_5 dk_Weighings_takeFrom_99 ?_
      refine kv_iload_n (pc := 102) 2 rfl rfl dk_Weighings_takeFrom_102 ?_
      refine kv_aload_n (pc := 103) 1 rfl rfl dk_Weighings_takeFrom_103 ?_
      refine kv_getR (pc := 104) kf_Weighings_27 kr_35 rfl kt_35_5 dk_Weighings_takeFrom_104 ?_
      refine kv_iload_n (pc := 107) 2 rfl rfl dk_Weighings_takeFrom_107 ?_
      refine kv_guard (fun g16 => ?_)
      refine kv_aldZC (pc := 108) kr_41 kn_41 kl_41 g16 rfl dk_Weighings_takeFrom_108 ?_
      refine kv_astZC (pc := 109) kr_16 kn_16 kl_16 g16 rfl dk_Weighings_takeFrom_109 (fun c17 => ?_)
      refine kv_iinc (pc := 110) (kk := (1 : Int32)) (lv' := [(2, .int (x13 + (1 : Int32))), (0, .ref 10), (1, .ref 35)]) 2 rfl kki_1 rfl (Nat.le_of_ble_eq_true rfl) dk_Weighings_takeFrom_110 ?_
      refine kv_goto (pc := 113) (tgt := 92) dk_Weighings_takeFrom_113 rfl ?_
      exact kv_sub [1, 2, 0] rfl (kv_leaf (fun h => h))
noncomputable def fx_Law_write_18_44 (p2 : Int32) (p3 : Int32) (c : (Nat → Nat → Int32)) : Option (Nat → Nat → Int32) :=
  kv_gd (kv_cp (0 : Int32) (0 : Int32) p2 100 100) (
  kv_let (va_up c 19 (va_cpy (c 44) (c 19) (0 : Int32).toNatClampNeg (0 : Int32).toNatClampNeg p2.toNatClampNeg)) (fun c2 =>
  kv_let (kv_st c2 18 1 p2) (fun c3 =>
  kv_let (kv_st c3 18 2 p3) (fun c4 =>
  some c4))))
set_option maxRecDepth 20000 in
theorem cx_Law_write_18_44 (d : Nat) (p2 : Int32) (p3 : Int32) (c : (Nat → Nat → Int32)) (y : (Nat → Nat → Int32) × (Nat → Int64) × (Nat → Int64)) : ∀ a, fx_Law_write_18_44 p2 p3 c = some a → kv_C kM_Law_write (d + 1) [.ref 18, .ref 44, .int p2, .int p3] (c, y) (none, (a, y)) := by
  refine kv_entryX (E := fun a : (Nat → Nat → Int32) => (none, (a, y))) rfl (Nat.le_of_ble_eq_true rfl) (fun o => ?_)
  unfold fx_Law_write_18_44
  show kv_X _ _ _ _ _ 0 [(0, .ref 18), (1, .ref 44), (2, .int p2), (3, .int p3)] [] (c, y)
  refine kv_aload_n (pc := 0) 1 rfl rfl dk_Law_write_0 ?_
  refine kv_iconst (pc := 1) (v := (0 : Int32)) dk_Law_write_1 kki_0 ?_
  refine kv_aload_n (pc := 2) 0 rfl rfl dk_Law_write_2 ?_
  refine kv_getR (pc := 3) kf_Law_9 kr_18 rfl kt_18_0 dk_Law_write_3 ?_
  refine kv_iconst (pc := 6) (v := (0 : Int32)) dk_Law_write_6 kki_0 ?_
  refine kv_iload_n (pc := 7) 2 rfl rfl dk_Law_write_7 ?_
  refine kv_guard (fun g1 => ?_)
  refine kv_copyC (pc := 8) kr_44 kr_19 kn_44 kn_19 kl_44 kl_19 g1 kw_906 kw_752 kw_751 kw_82 (Nat.le_of_ble_eq_true rfl) dk_Law_write_8 (fun c2 => ?_)
  refine kv_aload_n (pc := 11) 0 rfl rfl dk_Law_write_11 ?_
  refine kv_iload_n (pc := 12) 2 rfl rfl dk_Law_write_12 ?_
  refine kv_putC (pc := 13) kf_Law_15 kr_18 kn_18 rfl rfl rfl dk_Law_write_13 (fun c3 => ?_)
  refine kv_aload_n (pc := 16) 0 rfl rfl dk_Law_write_16 ?_
  refine kv_iload_n (pc := 17) 3 rfl rfl dk_Law_write_17 ?_
  refine kv_putC (pc := 18) kf_Law_19 kr_18 kn_18 rfl rfl rfl dk_Law_write_18 (fun c4 => ?_)
  exact kv_vret (pc := 21) (fun h => h) rfl dk_Law_write_21
noncomputable def fx_Chains_takeFrom_20_45 (c : (Nat → Nat → Int32)) : Option (Nat → Nat → Int32) :=
  kv_let (va_up c 21 (va_cpy (c 46) (c 21) (0 : Int32).toNatClampNeg (0 : Int32).toNatClampNeg (48 : Int32).toNatClampNeg)) (fun c2 =>
  kv_let (va_up c2 22 (va_cpy (c2 47) (c2 22) (0 : Int32).toNatClampNeg (0 : Int32).toNatClampNeg (48 : Int32).toNatClampNeg)) (fun c4 =>
  kv_let (va_up c4 23 (va_cpy (c4 48) (c4 23) (0 : Int32).toNatClampNeg (0 : Int32).toNatClampNeg (4 : Int32).toNatClampNeg)) (fun c6 =>
  kv_let (va_up c6 24 (va_cpy (c6 49) (c6 24) (0 : Int32).toNatClampNeg (0 : Int32).toNatClampNeg (4 : Int32).toNatClampNeg)) (fun c8 =>
  some c8))))
set_option maxRecDepth 20000 in
theorem cx_Chains_takeFrom_20_45 (d : Nat) (c : (Nat → Nat → Int32)) (y : (Nat → Nat → Int32) × (Nat → Int64) × (Nat → Int64)) : ∀ a, fx_Chains_takeFrom_20_45 c = some a → kv_C kM_Chains_takeFrom (d + 1) [.ref 20, .ref 45] (c, y) (none, (a, y)) := by
  refine kv_entryX (E := fun a : (Nat → Nat → Int32) => (none, (a, y))) rfl (Nat.le_of_ble_eq_true rfl) (fun o => ?_)
  unfold fx_Chains_takeFrom_20_45
  show kv_X _ _ _ _ _ 0 [(0, .ref 20), (1, .ref 45)] [] (c, y)
  refine kv_aload_n (pc := 0) 1 rfl rfl dk_Chains_takeFrom_0 ?_
  refine kv_getR (pc := 1) kf_Chains_9 kr_45 rfl kt_45_0 dk_Chains_takeFrom_1 ?_
  refine kv_iconst (pc := 4) (v := (0 : Int32)) dk_Chains_takeFrom_4 kki_0 ?_
  refine kv_aload_n (pc := 5) 0 rfl rfl dk_Chains_takeFrom_5 ?_
  refine kv_getR (pc := 6) kf_Chains_9 kr_20 rfl kt_20_0 dk_Chains_takeFrom_6 ?_
  refine kv_iconst (pc := 9) (v := (0 : Int32)) dk_Chains_takeFrom_9 kki_0 ?_
  refine kv_bipush (pc := 10) (v := (48 : Int32)) dk_Chains_takeFrom_10 kkb_48 ?_
  refine kv_copyC (pc := 12) kr_46 kr_21 kn_46 kn_21 kl_46 kl_21 (by decide) kw_1069 kw_752 kw_751 kw_82 (Nat.le_of_ble_eq_true rfl) dk_Chains_takeFrom_12 (fun c2 => ?_)
  refine kv_aload_n (pc := 15) 1 rfl rfl dk_Chains_takeFrom_15 ?_
  refine kv_getR (pc := 16) kf_Chains_15 kr_45 rfl kt_45_1 dk_Chains_takeFrom_16 ?_
  refine kv_iconst (pc := 19) (v := (0 : Int32)) dk_Chains_takeFrom_19 kki_0 ?_
  refine kv_aload_n (pc := 20) 0 rfl rfl dk_Chains_takeFrom_20 ?_
  refine kv_getR (pc := 21) kf_Chains_15 kr_20 rfl kt_20_1 dk_Chains_takeFrom_21 ?_
  refine kv_iconst (pc := 24) (v := (0 : Int32)) dk_Chains_takeFrom_24 kki_0 ?_
  refine kv_bipush (pc := 25) (v := (48 : Int32)) dk_Chains_takeFrom_25 kkb_48 ?_
  refine kv_copyC (pc := 27) kr_47 kr_22 kn_47 kn_22 kl_47 kl_22 (by decide) kw_1069 kw_752 kw_751 kw_82 (Nat.le_of_ble_eq_true rfl) dk_Chains_takeFrom_27 (fun c4 => ?_)
  refine kv_aload_n (pc := 30) 1 rfl rfl dk_Chains_takeFrom_30 ?_
  refine kv_getR (pc := 31) kf_Chains_18 kr_45 rfl kt_45_2 dk_Chains_takeFrom_31 ?_
  refine kv_iconst (pc := 34) (v := (0 : Int32)) dk_Chains_takeFrom_34 kki_0 ?_
  refine kv_aload_n (pc := 35) 0 rfl rfl dk_Chains_takeFrom_35 ?_
  refine kv_getR (pc := 36) kf_Chains_18 kr_20 rfl kt_20_2 dk_Chains_takeFrom_36 ?_
  refine kv_iconst (pc := 39) (v := (0 : Int32)) dk_Chains_takeFrom_39 kki_0 ?_
  refine kv_iconst (pc := 40) (v := (4 : Int32)) dk_Chains_takeFrom_40 kki_4 ?_
  refine kv_copyC (pc := 41) kr_48 kr_23 kn_48 kn_23 kl_48 kl_23 (by decide) kw_1069 kw_752 kw_751 kw_82 (Nat.le_of_ble_eq_true rfl) dk_Chains_takeFrom_41 (fun c6 => ?_)
  refine kv_aload_n (pc := 44) 1 rfl rfl dk_Chains_takeFrom_44 ?_
  refine kv_getR (pc := 45) kf_Chains_21 kr_45 rfl kt_45_3 dk_Chains_takeFrom_45 ?_
  refine kv_iconst (pc := 48) (v := (0 : Int32)) dk_Chains_takeFrom_48 kki_0 ?_
  refine kv_aload_n (pc := 49) 0 rfl rfl dk_Chains_takeFrom_49 ?_
  refine kv_getR (pc := 50) kf_Chains_21 kr_20 rfl kt_20_3 dk_Chains_takeFrom_50 ?_
  refine kv_iconst (pc := 53) (v := (0 : Int32)) dk_Chains_takeFrom_53 kki_0 ?_
  refine kv_iconst (pc := 54) (v := (4 : Int32)) dk_Chains_takeFrom_54 kki_4 ?_
  refine kv_copyC (pc := 55) kr_49 kr_24 kn_49 kn_24 kl_49 kl_24 (by decide) kw_1069 kw_752 kw_751 kw_82 (Nat.le_of_ble_eq_true rfl) dk_Chains_takeFrom_55 (fun c8 => ?_)
  exact kv_vret (pc := 58) (fun h => h) rfl dk_Chains_takeFrom_58
noncomputable def fx_State_takeFrom_1_26 (c : (Nat → Nat → Int32)) : Option (Nat → Nat → Int32) :=
  kv_bind1 (fx_Lumps_takeFrom_2_27 c) (fun c1 =>
  kv_bind1 (fx_Weighings_takeFrom_10_35 c1) (fun c2 =>
  kv_bind1 (fx_Law_write_18_44 (c2 43 1) (c2 43 2) c2) (fun c3 =>
  kv_bind1 (fx_Chains_takeFrom_20_45 c3) (fun c4 =>
  kv_let (va_up c4 25 (va_cpy (c4 50) (c4 25) (0 : Int32).toNatClampNeg (0 : Int32).toNatClampNeg (4 : Int32).toNatClampNeg)) (fun c6 =>
  kv_let (kv_st c6 1 5 (c6 26 5)) (fun c7 =>
  kv_let (kv_st c7 1 6 (c7 26 6)) (fun c8 =>
  kv_let (kv_st c8 1 7 (c8 26 7)) (fun c9 =>
  kv_let (kv_st c9 1 8 (c9 26 8)) (fun c10 =>
  some c10)))))))))
set_option maxRecDepth 20000 in
theorem cx_State_takeFrom_1_26 (d : Nat) (c : (Nat → Nat → Int32)) (y : (Nat → Nat → Int32) × (Nat → Int64) × (Nat → Int64)) : ∀ a, fx_State_takeFrom_1_26 c = some a → kv_C kM_State_takeFrom (d + 2) [.ref 1, .ref 26] (c, y) (none, (a, y)) := by
  refine kv_entryX (E := fun a : (Nat → Nat → Int32) => (none, (a, y))) rfl (Nat.le_of_ble_eq_true rfl) (fun o => ?_)
  unfold fx_State_takeFrom_1_26
  show kv_X _ _ _ _ _ 0 [(0, .ref 1), (1, .ref 26)] [] (c, y)
  refine kv_aload_n (pc := 0) 0 rfl rfl dk_State_takeFrom_0 ?_
  refine kv_getR (pc := 1) kf_State_12 kr_1 rfl kt_1_0 dk_State_takeFrom_1 ?_
  refine kv_aload_n (pc := 4) 1 rfl rfl dk_State_takeFrom_4 ?_
  refine kv_getR (pc := 5) kf_State_12 kr_26 rfl kt_26_0 dk_State_takeFrom_5 ?_
  refine kv_cV_cc (pc := 8) (as := [.ref 27]) (st := []) ko_Lumps_takeFrom kc_3 rfl rfl kr_2 kw_1054 (Nat.le_of_ble_eq_true rfl) rfl dk_State_takeFrom_8 (cx_Lumps_takeFrom_2_27 d c y) (fun c1 => ?_)
  refine kv_aload_n (pc := 11) 0 rfl rfl dk_State_takeFrom_11 ?_
  refine kv_getR (pc := 12) kf_State_21 kr_1 rfl kt_1_1 dk_State_takeFrom_12 ?_
  refine kv_aload_n (pc := 15) 1 rfl rfl dk_State_takeFrom_15 ?_
  refine kv_getR (pc := 16) kf_State_21 kr_26 rfl kt_26_1 dk_State_takeFrom_16 ?_
  refine kv_cV_cc (pc := 19) (as := [.ref 35]) (st := []) ko_Weighings_takeFrom kc_9 rfl rfl kr_10 kw_1059 (Nat.le_of_ble_eq_true rfl) rfl dk_State_takeFrom_19 (cx_Weighings_takeFrom_10_35 d c1 y) (fun c2 => ?_)
  refine kv_aload_n (pc := 22) 0 rfl rfl dk_State_takeFrom_22 ?_
  refine kv_getR (pc := 23) kf_State_28 kr_1 rfl kt_1_2 dk_State_takeFrom_23 ?_
  refine kv_aload_n (pc := 26) 1 rfl rfl dk_State_takeFrom_26 ?_
  refine kv_getR (pc := 27) kf_State_28 kr_26 rfl kt_26_2 dk_State_takeFrom_27 ?_
  refine kv_getR (pc := 30) kf_State_69 kr_43 rfl kt_43_0 dk_State_takeFrom_30 ?_
  refine kv_aload_n (pc := 33) 1 rfl rfl dk_State_takeFrom_33 ?_
  refine kv_getR (pc := 34) kf_State_28 kr_26 rfl kt_26_2 dk_State_takeFrom_34 ?_
  refine kv_getC (pc := 37) kf_State_72 kr_43 kn_43 rfl dk_State_takeFrom_37 ?_
  refine kv_aload_n (pc := 40) 1 rfl rfl dk_State_takeFrom_40 ?_
  refine kv_getR (pc := 41) kf_State_28 kr_26 rfl kt_26_2 dk_State_takeFrom_41 ?_
  refine kv_getC (pc := 44) kf_State_75 kr_43 kn_43 rfl dk_State_takeFrom_44 ?_
  refine kv_cV_cc (pc := 47) (as := [.ref 44, .int (c2 43 1), .int (c2 43 2)]) (st := []) ko_Law_write kc_1 rfl rfl kr_18 kw_1064 (Nat.le_of_ble_eq_true rfl) rfl dk_State_takeFrom_47 (cx_Law_write_18_44 d (c2 43 1) (c2 43 2) c2 y) (fun c3 => ?_)
  refine kv_aload_n (pc := 50) 0 rfl rfl dk_State_takeFrom_50 ?_
  refine kv_getR (pc := 51) kf_State_35 kr_1 rfl kt_1_3 dk_State_takeFrom_51 ?_
  refine kv_aload_n (pc := 54) 1 rfl rfl dk_State_takeFrom_54 ?_
  refine kv_getR (pc := 55) kf_State_35 kr_26 rfl kt_26_3 dk_State_takeFrom_55 ?_
  refine kv_cV_cc (pc := 58) (as := [.ref 45]) (st := []) ko_Chains_takeFrom kc_0 rfl rfl kr_20 kw_1065 (Nat.le_of_ble_eq_true rfl) rfl dk_State_takeFrom_58 (cx_Chains_takeFrom_20_45 d c3 y) (fun c4 => ?_)
  refine kv_aload_n (pc := 61) 1 rfl rfl dk_State_takeFrom_61 ?_
  refine kv_getR (pc := 62) kf_State_39 kr_26 rfl kt_26_4 dk_State_takeFrom_62 ?_
  refine kv_iconst (pc := 65) (v := (0 : Int32)) dk_State_takeFrom_65 kki_0 ?_
  refine kv_aload_n (pc := 66) 0 rfl rfl dk_State_takeFrom_66 ?_
  refine kv_getR (pc := 67) kf_State_39 kr_1 rfl kt_1_4 dk_State_takeFrom_67 ?_
  refine kv_iconst (pc := 70) (v := (0 : Int32)) dk_State_takeFrom_70 kki_0 ?_
  refine kv_iconst (pc := 71) (v := (4 : Int32)) dk_State_takeFrom_71 kki_4 ?_
  refine kv_copyC (pc := 72) kr_50 kr_25 kn_50 kn_25 kl_50 kl_25 (by decide) kw_1070 kw_752 kw_751 kw_82 (Nat.le_of_ble_eq_true rfl) dk_State_takeFrom_72 (fun c6 => ?_)
  refine kv_aload_n (pc := 75) 0 rfl rfl dk_State_takeFrom_75 ?_
  refine kv_aload_n (pc := 76) 1 rfl rfl dk_State_takeFrom_76 ?_
  refine kv_getC (pc := 77) kf_State_91 kr_26 kn_26 rfl dk_State_takeFrom_77 ?_
  refine kv_putC (pc := 80) kf_State_91 kr_1 kn_1 rfl rfl rfl dk_State_takeFrom_80 (fun c7 => ?_)
  refine kv_aload_n (pc := 83) 0 rfl rfl dk_State_takeFrom_83 ?_
  refine kv_aload_n (pc := 84) 1 rfl rfl dk_State_takeFrom_84 ?_
  refine kv_getC (pc := 85) kf_State_43 kr_26 kn_26 rfl dk_State_takeFrom_85 ?_
  refine kv_putC (pc := 88) kf_State_43 kr_1 kn_1 rfl rfl rfl dk_State_takeFrom_88 (fun c8 => ?_)
  refine kv_aload_n (pc := 91) 0 rfl rfl dk_State_takeFrom_91 ?_
  refine kv_aload_n (pc := 92) 1 rfl rfl dk_State_takeFrom_92 ?_
  refine kv_getC (pc := 93) kf_State_47 kr_26 kn_26 rfl dk_State_takeFrom_93 ?_
  refine kv_putC (pc := 96) kf_State_47 kr_1 kn_1 rfl rfl rfl dk_State_takeFrom_96 (fun c9 => ?_)
  refine kv_aload_n (pc := 99) 0 rfl rfl dk_State_takeFrom_99 ?_
  refine kv_aload_n (pc := 100) 1 rfl rfl dk_State_takeFrom_100 ?_
  refine kv_getC (pc := 101) kf_State_50 kr_26 kn_26 rfl dk_State_takeFrom_101 ?_
  refine kv_putC (pc := 104) kf_State_50 kr_1 kn_1 rfl rfl rfl dk_State_takeFrom_104 (fun c10 => ?_)
  exact kv_vret (pc := 107) (fun h => h) rfl dk_State_takeFrom_107
theorem dk_K_restore_0 : decode prog_1_method_31_code 0 = .ok (.aload_n 0, 1) := by decide +kernel
theorem dk_K_restore_1 : decode prog_1_method_31_code 1 = .ok (.getfield 357, 3) := by decide +kernel
theorem dk_K_restore_4 : decode prog_1_method_31_code 4 = .ok (.ifCond .ne 6, 3) := by decide +kernel
theorem dk_K_restore_7 : decode prog_1_method_31_code 7 = .ok (.bipush (-3), 2) := by decide +kernel
theorem dk_K_restore_9 : decode prog_1_method_31_code 9 = .ok (.ireturn, 1) := by decide +kernel
theorem dk_K_restore_10 : decode prog_1_method_31_code 10 = .ok (.aload_n 0, 1) := by decide +kernel
theorem dk_K_restore_11 : decode prog_1_method_31_code 11 = .ok (.getfield 10, 3) := by decide +kernel
theorem dk_K_restore_14 : decode prog_1_method_31_code 14 = .ok (.aload_n 0, 1) := by decide +kernel
theorem dk_K_restore_15 : decode prog_1_method_31_code 15 = .ok (.getfield 16, 3) := by decide +kernel
theorem dk_K_restore_18 : decode prog_1_method_31_code 18 = .ok (.invokevirtual 353, 3) := by decide +kernel
theorem dk_K_restore_21 : decode prog_1_method_31_code 21 = .ok (.aload_n 0, 1) := by decide +kernel
theorem dk_K_restore_22 : decode prog_1_method_31_code 22 = .ok (.getfield 10, 3) := by decide +kernel
theorem dk_K_restore_25 : decode prog_1_method_31_code 25 = .ok (.getfield 58, 3) := by decide +kernel
theorem dk_K_restore_28 : decode prog_1_method_31_code 28 = .ok (.getfield 62, 3) := by decide +kernel
theorem dk_K_restore_31 : decode prog_1_method_31_code 31 = .ok (.ireturn, 1) := by decide +kernel
noncomputable def fx_K_restore (c : (Nat → Nat → Int32)) : Option (Int32 × (Nat → Nat → Int32)) :=
  if (c 0 2) = 0 then
    some ((-3 : Int32), c)
  else
    kv_bind1 (fx_State_takeFrom_1_26 c) (fun c1 =>
    some ((c1 2 7), c1))
set_option maxRecDepth 20000 in
theorem cx_K_restore (d : Nat) (c : (Nat → Nat → Int32)) (y : (Nat → Nat → Int32) × (Nat → Int64) × (Nat → Int64)) : ∀ a, fx_K_restore c = some a → kv_C kM_K_restore (d + 3) [.ref 0] (c, y) (some (.int a.1), (a.2, y)) := by
  refine kv_entryX (E := fun a : (Int32 × (Nat → Nat → Int32)) => (some (.int a.1), (a.2, y))) rfl (Nat.le_of_ble_eq_true rfl) (fun o => ?_)
  unfold fx_K_restore
  show kv_X _ _ _ _ _ 0 [(0, .ref 0)] [] (c, y)
  refine kv_aload_n (pc := 0) 0 rfl rfl dk_K_restore_0 ?_
  refine kv_getC (pc := 1) kf_K_357 kr_0 kn_0 rfl dk_K_restore_1 ?_
  refine kv_if_ne (pc := 4) (tgt := 10) dk_K_restore_4 rfl ?_ ?_
  · refine kv_aload_n (pc := 10) 0 rfl rfl dk_K_restore_10 ?_
    refine kv_getR (pc := 11) kf_K_10 kr_0 rfl kt_0_0 dk_K_restore_11 ?_
    refine kv_aload_n (pc := 14) 0 rfl rfl dk_K_restore_14 ?_
    refine kv_getR (pc := 15) kf_K_16 kr_0 rfl kt_0_1 dk_K_restore_15 ?_
    refine kv_cV_cc (pc := 18) (as := [.ref 26]) (st := []) ko_State_takeFrom kc_8 rfl rfl kr_1 kw_1050 (Nat.le_of_ble_eq_true rfl) rfl dk_K_restore_18 (cx_State_takeFrom_1_26 d c y) (fun c1 => ?_)
    refine kv_aload_n (pc := 21) 0 rfl rfl dk_K_restore_21 ?_
    refine kv_getR (pc := 22) kf_K_10 kr_0 rfl kt_0_0 dk_K_restore_22 ?_
    refine kv_getR (pc := 25) kf_K_58 kr_1 rfl kt_1_0 dk_K_restore_25 ?_
    refine kv_getC (pc := 28) kf_K_62 kr_2 kn_2 rfl dk_K_restore_28 ?_
    exact kv_iret (pc := 31) (fun h => h) rfl dk_K_restore_31
  · refine kv_bipush (pc := 7) (v := (-3 : Int32)) dk_K_restore_7 kkb_m3 ?_
    exact kv_iret (pc := 9) (fun h => h) rfl dk_K_restore_9
theorem dk_D_restore_0 : decode prog_13_method_84_code 0 = .ok (.aload_n 0, 1) := by decide +kernel
theorem dk_D_restore_1 : decode prog_13_method_84_code 1 = .ok (.getfield 310, 3) := by decide +kernel
theorem dk_D_restore_4 : decode prog_13_method_84_code 4 = .ok (.ifCond .ne 6, 3) := by decide +kernel
theorem dk_D_restore_7 : decode prog_13_method_84_code 7 = .ok (.bipush (-3), 2) := by decide +kernel
theorem dk_D_restore_9 : decode prog_13_method_84_code 9 = .ok (.ireturn, 1) := by decide +kernel
theorem dk_D_restore_10 : decode prog_13_method_84_code 10 = .ok (.iconst 0, 1) := by decide +kernel
theorem dk_D_restore_11 : decode prog_13_method_84_code 11 = .ok (.istore_n 1, 1) := by decide +kernel
theorem dk_D_restore_12 : decode prog_13_method_84_code 12 = .ok (.iload_n 1, 1) := by decide +kernel
theorem dk_D_restore_13 : decode prog_13_method_84_code 13 = .ok (.sipush 444, 3) := by decide +kernel
theorem dk_D_restore_16 : decode prog_13_method_84_code 16 = .ok (.if_icmp .ge 21, 3) := by decide +kernel
theorem dk_D_restore_19 : decode prog_13_method_84_code 19 = .ok (.aload_n 0, 1) := by decide +kernel
theorem dk_D_restore_20 : decode prog_13_method_84_code 20 = .ok (.getfield 9, 3) := by decide +kernel
theorem dk_D_restore_23 : decode prog_13_method_84_code 23 = .ok (.iload_n 1, 1) := by decide +kernel
theorem dk_D_restore_24 : decode prog_13_method_84_code 24 = .ok (.aload_n 0, 1) := by decide +kernel
theorem dk_D_restore_25 : decode prog_13_method_84_code 25 = .ok (.getfield 13, 3) := by decide +kernel
theorem dk_D_restore_28 : decode prog_13_method_84_code 28 = .ok (.iload_n 1, 1) := by decide +kernel
theorem dk_D_restore_29 : decode prog_13_method_84_code 29 = .ok (.iaload, 1) := by decide +kernel
theorem dk_D_restore_30 : decode prog_13_method_84_code 30 = .ok (.iastore, 1) := by decide +kernel
theorem dk_D_restore_31 : decode prog_13_method_84_code 31 = .ok (.iinc 1 1, 3) := by decide +kernel
theorem dk_D_restore_34 : decode prog_13_method_84_code 34 = .ok (.goto (-22), 3) := by decide +kernel
theorem dk_D_restore_37 : decode prog_13_method_84_code 37 = .ok (.aload_n 0, 1) := by decide +kernel
theorem dk_D_restore_38 : decode prog_13_method_84_code 38 = .ok (.getfield 9, 3) := by decide +kernel
theorem dk_D_restore_41 : decode prog_13_method_84_code 41 = .ok (.iconst 1, 1) := by decide +kernel
theorem dk_D_restore_42 : decode prog_13_method_84_code 42 = .ok (.iaload, 1) := by decide +kernel
theorem dk_D_restore_43 : decode prog_13_method_84_code 43 = .ok (.ireturn, 1) := by decide +kernel
noncomputable def fb_D_restore_12 (x1 : Int32) (m2 : (Nat → Nat → Int32)) : Option ((Int32 × (Nat → Nat → Int32)) ⊕ (Nat → Nat → Int32)) :=
  if (444 : Int32) ≤ x1 then
    some (.inr m2)
  else
    kv_gd (kv_in x1 444) (
    kv_let (kv_st m2 85 x1.toNatClampNeg (m2 86 x1.toNatClampNeg)) (fun m5 =>
    some (.inl ((x1 + (1 : Int32)), m5))))
noncomputable def fx_D_restore (m : (Nat → Nat → Int32)) : Option (Int32 × (Nat → Nat → Int32)) :=
  if (m 84 8) = 0 then
    some ((-3 : Int32), m)
  else
    (kv_loop (kv_u2 (fb_D_restore_12)) ((0 : Int32), m)).bind (kv_u1 (fun m3 =>
    some ((m3 85 1), m3)))
set_option maxRecDepth 20000 in
theorem cx_D_restore (d : Nat) (c : (Nat → Nat → Int32)) (m : (Nat → Nat → Int32)) (f : (Nat → Int64)) (u : (Nat → Int64)) : ∀ a, fx_D_restore m = some a → kv_C kM_D_restore (d + 0) [.ref 84] (c, m, f, u) (some (.int a.1), (c, a.2, f, u)) := by
  refine kv_entryX (E := fun a : (Int32 × (Nat → Nat → Int32)) => (some (.int a.1), (c, a.2, f, u))) rfl (Nat.le_of_ble_eq_true rfl) (fun o => ?_)
  unfold fx_D_restore
  show kv_X _ _ _ _ _ 0 [(0, .ref 84)] [] (c, m, f, u)
  refine kv_aload_n (pc := 0) 0 rfl rfl dk_D_restore_0 ?_
  refine kv_getM (pc := 1) kf_D_310 kr_84 kn_84 rfl dk_D_restore_1 ?_
  refine kv_if_ne (pc := 4) (tgt := 10) dk_D_restore_4 rfl ?_ ?_
  · refine kv_iconst (pc := 10) (v := (0 : Int32)) dk_D_restore_10 kki_0 ?_
    refine kv_istore_n (pc := 11) (lv' := [(1, .int (0 : Int32)), (0, .ref 84)]) rfl (Nat.le_of_ble_eq_true rfl) rfl dk_D_restore_11 ?_
    refine kv_sub (lv' := [(0, .ref 84), (1, .int (0 : Int32))]) [1, 0] rfl ?_
    refine kv_lp_2_1 (LV := fun x1 m2 => [(0, .ref 84), (1, .int x1)]) (WW := fun x1 m2 => (c, m2, f, u)) (LE1 := fun m3 => [(0, .ref 84)]) (WE1 := fun m3 => (c, m3, f, u)) (pe1 := 37) ?_ ?_
    · intro m3
      show kv_X _ _ _ _ _ 37 [(0, .ref 84)] [] (c, m3, f, u)
      refine kv_aload_n (pc := 37) 0 rfl rfl dk_D_restore_37 ?_
      refine kv_getR (pc := 38) kf_D_9 kr_84 rfl kt_84_0 dk_D_restore_38 ?_
      refine kv_iconst (pc := 41) (v := (1 : Int32)) dk_D_restore_41 kki_1 ?_
      refine kv_aldM (pc := 42) kr_85 kn_85 kl_85 kkg_1_444 (j := 1) kkx_1 dk_D_restore_42 ?_
      exact kv_iret (pc := 43) (fun h => h) rfl dk_D_restore_43
    · intro hx12_0 x1 m2
      show kv_X _ _ _ _ (fb_D_restore_12 x1 m2) 12 [(0, .ref 84), (1, .int x1)] [] (c, m2, f, u)
      unfold fb_D_restore_12
      refine kv_iload_n (pc := 12) 1 rfl rfl dk_D_restore_12 ?_
      refine kv_sipush (pc := 13) (v := (444 : Int32)) dk_D_restore_13 kks_444 ?_
      refine kv_icmp_ge (pc := 16) (tgt := 37) dk_D_restore_16 rfl ?_ ?_
      · exact kv_sub [0] rfl (kv_leaf (hx12_0 _))
      · refine kv_aload_n (pc := 19) 0 rfl rfl dk_D_restore_19 ?_
        refine kv_getR (pc := 20) kf_D_9 kr_84 rfl kt_84_0 dk_D_restore_20 ?_
        refine kv_iload_n (pc := 23) 1 rfl rfl dk_D_restore_23 ?_
        refine kv_aload_n (pc := 24) 0 rfl rfl dk_D_restore_24 ?_
        refine kv_getR (pc := 25) kf_D_13 kr_84 rfl kt_84_1 dk_D_restore_25 ?_
        refine kv_iload_n (pc := 28) 1 rfl rfl dk_D_restore_28 ?_
        refine kv_guard (fun g4 => ?_)
        refine kv_aldM (pc := 29) kr_86 kn_86 kl_86 g4 rfl dk_D_restore_29 ?_
        refine kv_astM (pc := 30) kr_85 kn_85 kl_85 g4 rfl dk_D_restore_30 (fun m5 => ?_)
        refine kv_iinc (pc := 31) (kk := (1 : Int32)) (lv' := [(1, .int (x1 + (1 : Int32))), (0, .ref 84)]) 1 rfl kki_1 rfl (Nat.le_of_ble_eq_true rfl) dk_D_restore_31 ?_
        refine kv_goto (pc := 34) (tgt := 12) dk_D_restore_34 rfl ?_
        exact kv_sub [1, 0] rfl (kv_leaf (fun h => h))
  · refine kv_bipush (pc := 7) (v := (-3 : Int32)) dk_D_restore_7 kkb_m3 ?_
    exact kv_iret (pc := 9) (fun h => h) rfl dk_D_restore_9
theorem dk_Weighings_howManyOut_0 : decode prog_11_method_9_code 0 = .ok (.iconst 0, 1) := by decide +kernel
theorem dk_Weighings_howManyOut_1 : decode prog_11_method_9_code 1 = .ok (.istore_n 1, 1) := by decide +kernel
theorem dk_Weighings_howManyOut_2 : decode prog_11_method_9_code 2 = .ok (.iconst 0, 1) := by decide +kernel
theorem dk_Weighings_howManyOut_3 : decode prog_11_method_9_code 3 = .ok (.istore_n 2, 1) := by decide +kernel
theorem dk_Weighings_howManyOut_4 : decode prog_11_method_9_code 4 = .ok (.iload_n 2, 1) := by decide +kernel
theorem dk_Weighings_howManyOut_5 : decode prog_11_method_9_code 5 = .ok (.aload_n 0, 1) := by decide +kernel
theorem dk_Weighings_howManyOut_6 : decode prog_11_method_9_code 6 = .ok (.getfield 34, 3) := by decide +kernel
theorem dk_Weighings_howManyOut_9 : decode prog_11_method_9_code 9 = .ok (.if_icmp .ge 21, 3) := by decide +kernel
theorem dk_Weighings_howManyOut_12 : decode prog_11_method_9_code 12 = .ok (.aload_n 0, 1) := by decide +kernel
theorem dk_Weighings_howManyOut_13 : decode prog_11_method_9_code 13 = .ok (.getfield 27, 3) := by decide +kernel
theorem dk_Weighings_howManyOut_16 : decode prog_11_method_9_code 16 = .ok (.iload_n 2, 1) := by decide +kernel
theorem dk_Weighings_howManyOut_17 : decode prog_11_method_9_code 17 = .ok (.baload, 1) := by decide +kernel
theorem dk_Weighings_howManyOut_18 : decode prog_11_method_9_code 18 = .ok (.ifCond .eq 6, 3) := by decide +kernel
theorem dk_Weighings_howManyOut_21 : decode prog_11_method_9_code 21 = .ok (.iinc 1 1, 3) := by decide +kernel
theorem dk_Weighings_howManyOut_24 : decode prog_11_method_9_code 24 = .ok (.iinc 2 1, 3) := by decide +kernel
theorem dk_Weighings_howManyOut_27 : decode prog_11_method_9_code 27 = .ok (.goto (-23), 3) := by decide +kernel
theorem dk_Weighings_howManyOut_30 : decode prog_11_method_9_code 30 = .ok (.iload_n 1, 1) := by decide +kernel
theorem dk_Weighings_howManyOut_31 : decode prog_11_method_9_code 31 = .ok (.ireturn, 1) := by decide +kernel
noncomputable def fj_Weighings_howManyOut_24 (x2 : Int32) (x5 : Int32) : Option ((Int32 × Int32) ⊕ Int32) :=
  some (.inl (x5, (x2 + (1 : Int32))))
noncomputable def fb_Weighings_howManyOut_4 (c : (Nat → Nat → Int32)) (x1 : Int32) (x2 : Int32) : Option ((Int32 × Int32) ⊕ Int32) :=
  if (c 10 7) ≤ x2 then
    some (.inr x1)
  else
    kv_gd (kv_in x2 20) (
    if (c 16 x2.toNatClampNeg) = 0 then
      fj_Weighings_howManyOut_24 x2 x1
    else
      fj_Weighings_howManyOut_24 x2 (x1 + (1 : Int32)))
noncomputable def fx_Weighings_howManyOut (c : (Nat → Nat → Int32)) : Option Int32 :=
  (kv_loop (kv_u2 (fb_Weighings_howManyOut_4 c)) ((0 : Int32), (0 : Int32))).bind (kv_u1 (fun x3 =>
  some x3))
set_option maxRecDepth 20000 in
theorem cx_Weighings_howManyOut (d : Nat) (c : (Nat → Nat → Int32)) (y : (Nat → Nat → Int32) × (Nat → Int64) × (Nat → Int64)) : ∀ a, fx_Weighings_howManyOut c = some a → kv_C kM_Weighings_howManyOut (d + 0) [.ref 10] (c, y) (some (.int a), (c, y)) := by
  refine kv_entryX (E := fun a : Int32 => (some (.int a), (c, y))) rfl (Nat.le_of_ble_eq_true rfl) (fun o => ?_)
  unfold fx_Weighings_howManyOut
  show kv_X _ _ _ _ _ 0 [(0, .ref 10)] [] (c, y)
  refine kv_iconst (pc := 0) (v := (0 : Int32)) dk_Weighings_howManyOut_0 kki_0 ?_
  refine kv_istore_n (pc := 1) (lv' := [(1, .int (0 : Int32)), (0, .ref 10)]) rfl (Nat.le_of_ble_eq_true rfl) rfl dk_Weighings_howManyOut_1 ?_
  refine kv_iconst (pc := 2) (v := (0 : Int32)) dk_Weighings_howManyOut_2 kki_0 ?_
  refine kv_istore_n (pc := 3) (lv' := [(2, .int (0 : Int32)), (1, .int (0 : Int32)), (0, .ref 10)]) rfl (Nat.le_of_ble_eq_true rfl) rfl dk_Weighings_howManyOut_3 ?_
  refine kv_sub (lv' := [(0, .ref 10), (1, .int (0 : Int32)), (2, .int (0 : Int32))]) [2, 1, 0] rfl ?_
  refine kv_lp_2_1 (LV := fun x1 x2 => [(0, .ref 10), (1, .int x1), (2, .int x2)]) (WW := fun x1 x2 => (c, y)) (LE1 := fun x3 => [(1, .int x3)]) (WE1 := fun x3 => (c, y)) (pe1 := 30) ?_ ?_
  · intro x3
    show kv_X _ _ _ _ _ 30 [(1, .int x3)] [] (c, y)
    refine kv_iload_n (pc := 30) 0 rfl rfl dk_Weighings_howManyOut_30 ?_
    exact kv_iret (pc := 31) (fun h => h) rfl dk_Weighings_howManyOut_31
  · intro hx4_0 x1 x2
    show kv_X _ _ _ _ (fb_Weighings_howManyOut_4 c x1 x2) 4 [(0, .ref 10), (1, .int x1), (2, .int x2)] [] (c, y)
    unfold fb_Weighings_howManyOut_4
    refine kv_iload_n (pc := 4) 2 rfl rfl dk_Weighings_howManyOut_4 ?_
    refine kv_aload_n (pc := 5) 0 rfl rfl dk_Weighings_howManyOut_5 ?_
    refine kv_getC (pc := 6) kf_Weighings_34 kr_10 kn_10 rfl dk_Weighings_howManyOut_6 ?_
    refine kv_icmp_ge (pc := 9) (tgt := 30) dk_Weighings_howManyOut_9 rfl ?_ ?_
    · exact kv_sub [1] rfl (kv_leaf (hx4_0 _))
    · refine kv_aload_n (pc := 12) 0 rfl rfl dk_Weighings_howManyOut_12 ?_
      refine kv_getR (pc := 13) kf_Weighings_27 kr_10 rfl kt_10_5 dk_Weighings_howManyOut_13 ?_
      refine kv_iload_n (pc := 16) 2 rfl rfl dk_Weighings_howManyOut_16 ?_
      refine kv_guard (fun g4 => ?_)
      refine kv_aldZC (pc := 17) kr_16 kn_16 kl_16 g4 rfl dk_Weighings_howManyOut_17 ?_
      refine kv_cut_1 (J := fj_Weighings_howManyOut_24 x2) (pcj := 24) (LJ := fun x5 => [(0, .ref 10), (1, .int x5), (2, .int x2)]) (SJ := fun x5 => []) (WJ := fun x5 => (c, y)) ?_ (fun hj24 => ?_)
      · intro x5
        show kv_X _ _ _ _ (fj_Weighings_howManyOut_24 x2 x5) 24 [(0, .ref 10), (1, .int x5), (2, .int x2)] [] (c, y)
        unfold fj_Weighings_howManyOut_24
        refine kv_iinc (pc := 24) (kk := (1 : Int32)) (lv' := [(2, .int (x2 + (1 : Int32))), (0, .ref 10), (1, .int x5)]) 2 rfl kki_1 rfl (Nat.le_of_ble_eq_true rfl) dk_Weighings_howManyOut_24 ?_
        refine kv_goto (pc := 27) (tgt := 4) dk_Weighings_howManyOut_27 rfl ?_
        exact kv_sub [1, 2, 0] rfl (kv_leaf (fun h => h))
      refine kv_if_eq (pc := 18) (tgt := 24) dk_Weighings_howManyOut_18 rfl ?_ ?_
      · exact hj24 x1
      · refine kv_iinc (pc := 21) (kk := (1 : Int32)) (lv' := [(1, .int (x1 + (1 : Int32))), (0, .ref 10), (2, .int x2)]) 1 rfl kki_1 rfl (Nat.le_of_ble_eq_true rfl) dk_Weighings_howManyOut_21 ?_
        exact kv_sub [1, 0, 2] rfl (hj24 (x1 + (1 : Int32)))
theorem dk_Chains_allLinks_0 : decode prog_2_method_8_code 0 = .ok (.iconst 0, 1) := by decide +kernel
theorem dk_Chains_allLinks_1 : decode prog_2_method_8_code 1 = .ok (.istore_n 1, 1) := by decide +kernel
theorem dk_Chains_allLinks_2 : decode prog_2_method_8_code 2 = .ok (.iconst 0, 1) := by decide +kernel
theorem dk_Chains_allLinks_3 : decode prog_2_method_8_code 3 = .ok (.istore_n 2, 1) := by decide +kernel
theorem dk_Chains_allLinks_4 : decode prog_2_method_8_code 4 = .ok (.iload_n 2, 1) := by decide +kernel
theorem dk_Chains_allLinks_5 : decode prog_2_method_8_code 5 = .ok (.iconst 4, 1) := by decide +kernel
theorem dk_Chains_allLinks_6 : decode prog_2_method_8_code 6 = .ok (.if_icmp .ge 18, 3) := by decide +kernel
theorem dk_Chains_allLinks_9 : decode prog_2_method_8_code 9 = .ok (.iload_n 1, 1) := by decide +kernel
theorem dk_Chains_allLinks_10 : decode prog_2_method_8_code 10 = .ok (.aload_n 0, 1) := by decide +kernel
theorem dk_Chains_allLinks_11 : decode prog_2_method_8_code 11 = .ok (.getfield 18, 3) := by decide +kernel
theorem dk_Chains_allLinks_14 : decode prog_2_method_8_code 14 = .ok (.iload_n 2, 1) := by decide +kernel
theorem dk_Chains_allLinks_15 : decode prog_2_method_8_code 15 = .ok (.iaload, 1) := by decide +kernel
theorem dk_Chains_allLinks_16 : decode prog_2_method_8_code 16 = .ok (.iadd, 1) := by decide +kernel
theorem dk_Chains_allLinks_17 : decode prog_2_method_8_code 17 = .ok (.istore_n 1, 1) := by decide +kernel
theorem dk_Chains_allLinks_18 : decode prog_2_method_8_code 18 = .ok (.iinc 2 1, 3) := by decide +kernel
theorem dk_Chains_allLinks_21 : decode prog_2_method_8_code 21 = .ok (.goto (-17), 3) := by decide +kernel
theorem dk_Chains_allLinks_24 : decode prog_2_method_8_code 24 = .ok (.iload_n 1, 1) := by decide +kernel
theorem dk_Chains_allLinks_25 : decode prog_2_method_8_code 25 = .ok (.ireturn, 1) := by decide +kernel
noncomputable def fb_Chains_allLinks_4 (c : (Nat → Nat → Int32)) (x1 : Int32) (x2 : Int32) : Option ((Int32 × Int32) ⊕ Int32) :=
  if (4 : Int32) ≤ x2 then
    some (.inr x1)
  else
    kv_gd (kv_in x2 4) (
    kv_let (x1 + (c 23 x2.toNatClampNeg)) (fun v5 =>
    some (.inl (v5, (x2 + (1 : Int32))))))
noncomputable def fx_Chains_allLinks (c : (Nat → Nat → Int32)) : Option Int32 :=
  (kv_loop (kv_u2 (fb_Chains_allLinks_4 c)) ((0 : Int32), (0 : Int32))).bind (kv_u1 (fun x3 =>
  some x3))
set_option maxRecDepth 20000 in
theorem cx_Chains_allLinks (d : Nat) (c : (Nat → Nat → Int32)) (y : (Nat → Nat → Int32) × (Nat → Int64) × (Nat → Int64)) : ∀ a, fx_Chains_allLinks c = some a → kv_C kM_Chains_allLinks (d + 0) [.ref 20] (c, y) (some (.int a), (c, y)) := by
  refine kv_entryX (E := fun a : Int32 => (some (.int a), (c, y))) rfl (Nat.le_of_ble_eq_true rfl) (fun o => ?_)
  unfold fx_Chains_allLinks
  show kv_X _ _ _ _ _ 0 [(0, .ref 20)] [] (c, y)
  refine kv_iconst (pc := 0) (v := (0 : Int32)) dk_Chains_allLinks_0 kki_0 ?_
  refine kv_istore_n (pc := 1) (lv' := [(1, .int (0 : Int32)), (0, .ref 20)]) rfl (Nat.le_of_ble_eq_true rfl) rfl dk_Chains_allLinks_1 ?_
  refine kv_iconst (pc := 2) (v := (0 : Int32)) dk_Chains_allLinks_2 kki_0 ?_
  refine kv_istore_n (pc := 3) (lv' := [(2, .int (0 : Int32)), (1, .int (0 : Int32)), (0, .ref 20)]) rfl (Nat.le_of_ble_eq_true rfl) rfl dk_Chains_allLinks_3 ?_
  refine kv_sub (lv' := [(0, .ref 20), (1, .int (0 : Int32)), (2, .int (0 : Int32))]) [2, 1, 0] rfl ?_
  refine kv_lp_2_1 (LV := fun x1 x2 => [(0, .ref 20), (1, .int x1), (2, .int x2)]) (WW := fun x1 x2 => (c, y)) (LE1 := fun x3 => [(1, .int x3)]) (WE1 := fun x3 => (c, y)) (pe1 := 24) ?_ ?_
  · intro x3
    show kv_X _ _ _ _ _ 24 [(1, .int x3)] [] (c, y)
    refine kv_iload_n (pc := 24) 0 rfl rfl dk_Chains_allLinks_24 ?_
    exact kv_iret (pc := 25) (fun h => h) rfl dk_Chains_allLinks_25
  · intro hx4_0 x1 x2
    show kv_X _ _ _ _ (fb_Chains_allLinks_4 c x1 x2) 4 [(0, .ref 20), (1, .int x1), (2, .int x2)] [] (c, y)
    unfold fb_Chains_allLinks_4
    refine kv_iload_n (pc := 4) 2 rfl rfl dk_Chains_allLinks_4 ?_
    refine kv_iconst (pc := 5) (v := (4 : Int32)) dk_Chains_allLinks_5 kki_4 ?_
    refine kv_icmp_ge (pc := 6) (tgt := 24) dk_Chains_allLinks_6 rfl ?_ ?_
    · exact kv_sub [1] rfl (kv_leaf (hx4_0 _))
    · refine kv_iload_n (pc := 9) 1 rfl rfl dk_Chains_allLinks_9 ?_
      refine kv_aload_n (pc := 10) 0 rfl rfl dk_Chains_allLinks_10 ?_
      refine kv_getR (pc := 11) kf_Chains_18 kr_20 rfl kt_20_2 dk_Chains_allLinks_11 ?_
      refine kv_iload_n (pc := 14) 2 rfl rfl dk_Chains_allLinks_14 ?_
      refine kv_guard (fun g4 => ?_)
      refine kv_aldC (pc := 15) kr_23 kn_23 kl_23 g4 rfl dk_Chains_allLinks_15 ?_
      refine kv_iadd (pc := 16) dk_Chains_allLinks_16 ?_
      refine kv_letI (fun v5 => ?_)
      refine kv_istore_n (pc := 17) (lv' := [(1, .int v5), (0, .ref 20), (2, .int x2)]) rfl (Nat.le_of_ble_eq_true rfl) rfl dk_Chains_allLinks_17 ?_
      refine kv_iinc (pc := 18) (kk := (1 : Int32)) (lv' := [(2, .int (x2 + (1 : Int32))), (1, .int v5), (0, .ref 20)]) 2 rfl kki_1 rfl (Nat.le_of_ble_eq_true rfl) dk_Chains_allLinks_18 ?_
      refine kv_goto (pc := 21) (tgt := 4) dk_Chains_allLinks_21 rfl ?_
      exact kv_sub [2, 1, 0] rfl (kv_leaf (fun h => h))
theorem dk_K_count_0 : decode prog_1_method_32_code 0 = .ok (.iload_n 1, 1) := by decide +kernel
theorem dk_K_count_1 : decode prog_1_method_32_code 1 = .ok (.tableswitch 102 0 5 #[39, 47, 58, 69, 80, 91], 39) := by decide +kernel
theorem dk_K_count_40 : decode prog_1_method_32_code 40 = .ok (.aload_n 0, 1) := by decide +kernel
theorem dk_K_count_41 : decode prog_1_method_32_code 41 = .ok (.getfield 10, 3) := by decide +kernel
theorem dk_K_count_44 : decode prog_1_method_32_code 44 = .ok (.getfield 124, 3) := by decide +kernel
theorem dk_K_count_47 : decode prog_1_method_32_code 47 = .ok (.ireturn, 1) := by decide +kernel
theorem dk_K_count_48 : decode prog_1_method_32_code 48 = .ok (.aload_n 0, 1) := by decide +kernel
theorem dk_K_count_49 : decode prog_1_method_32_code 49 = .ok (.getfield 10, 3) := by decide +kernel
theorem dk_K_count_52 : decode prog_1_method_32_code 52 = .ok (.getfield 58, 3) := by decide +kernel
theorem dk_K_count_55 : decode prog_1_method_32_code 55 = .ok (.getfield 62, 3) := by decide +kernel
theorem dk_K_count_58 : decode prog_1_method_32_code 58 = .ok (.ireturn, 1) := by decide +kernel
theorem dk_K_count_59 : decode prog_1_method_32_code 59 = .ok (.aload_n 0, 1) := by decide +kernel
theorem dk_K_count_60 : decode prog_1_method_32_code 60 = .ok (.getfield 10, 3) := by decide +kernel
theorem dk_K_count_63 : decode prog_1_method_32_code 63 = .ok (.getfield 152, 3) := by decide +kernel
theorem dk_K_count_66 : decode prog_1_method_32_code 66 = .ok (.getfield 156, 3) := by decide +kernel
theorem dk_K_count_69 : decode prog_1_method_32_code 69 = .ok (.ireturn, 1) := by decide +kernel
theorem dk_K_count_70 : decode prog_1_method_32_code 70 = .ok (.aload_n 0, 1) := by decide +kernel
theorem dk_K_count_71 : decode prog_1_method_32_code 71 = .ok (.getfield 10, 3) := by decide +kernel
theorem dk_K_count_74 : decode prog_1_method_32_code 74 = .ok (.getfield 152, 3) := by decide +kernel
theorem dk_K_count_77 : decode prog_1_method_32_code 77 = .ok (.invokevirtual 361, 3) := by decide +kernel
theorem dk_K_count_80 : decode prog_1_method_32_code 80 = .ok (.ireturn, 1) := by decide +kernel
theorem dk_K_count_81 : decode prog_1_method_32_code 81 = .ok (.aload_n 0, 1) := by decide +kernel
theorem dk_K_count_82 : decode prog_1_method_32_code 82 = .ok (.getfield 10, 3) := by decide +kernel
theorem dk_K_count_85 : decode prog_1_method_32_code 85 = .ok (.getfield 275, 3) := by decide +kernel
theorem dk_K_count_88 : decode prog_1_method_32_code 88 = .ok (.getfield 364, 3) := by decide +kernel
theorem dk_K_count_91 : decode prog_1_method_32_code 91 = .ok (.ireturn, 1) := by decide +kernel
theorem dk_K_count_92 : decode prog_1_method_32_code 92 = .ok (.aload_n 0, 1) := by decide +kernel
theorem dk_K_count_93 : decode prog_1_method_32_code 93 = .ok (.getfield 10, 3) := by decide +kernel
theorem dk_K_count_96 : decode prog_1_method_32_code 96 = .ok (.getfield 296, 3) := by decide +kernel
theorem dk_K_count_99 : decode prog_1_method_32_code 99 = .ok (.invokevirtual 365, 3) := by decide +kernel
theorem dk_K_count_102 : decode prog_1_method_32_code 102 = .ok (.ireturn, 1) := by decide +kernel
theorem dk_K_count_103 : decode prog_1_method_32_code 103 = .ok (.iconst (-1), 1) := by decide +kernel
theorem dk_K_count_104 : decode prog_1_method_32_code 104 = .ok (.ireturn, 1) := by decide +kernel
noncomputable def fx_K_count (p1 : Int32) (c : (Nat → Nat → Int32)) : Option Int32 :=
  if p1 = (0 : Int32) then
    some (c 1 5)
  else if p1 = (1 : Int32) then
    some (c 2 7)
  else if p1 = (2 : Int32) then
    some (c 10 7)
  else if p1 = (3 : Int32) then
    kv_bind1 (fx_Weighings_howManyOut c) (fun v5 =>
    some v5)
  else if p1 = (4 : Int32) then
    some (c 18 2)
  else if p1 = (5 : Int32) then
    kv_bind1 (fx_Chains_allLinks c) (fun v8 =>
    some v8)
  else 
  some (-1 : Int32)
set_option maxRecDepth 20000 in
theorem cx_K_count (d : Nat) (p1 : Int32) (c : (Nat → Nat → Int32)) (y : (Nat → Nat → Int32) × (Nat → Int64) × (Nat → Int64)) : ∀ a, fx_K_count p1 c = some a → kv_C kM_K_count (d + 1) [.ref 0, .int p1] (c, y) (some (.int a), (c, y)) := by
  refine kv_entryX (E := fun a : Int32 => (some (.int a), (c, y))) rfl (Nat.le_of_ble_eq_true rfl) (fun o => ?_)
  unfold fx_K_count
  show kv_X _ _ _ _ _ 0 [(0, .ref 0), (1, .int p1)] [] (c, y)
  refine kv_iload_n (pc := 0) 1 rfl rfl dk_K_count_0 ?_
  refine kv_swIn (pc := 1) (v := (0 : Int32)) (tgt := 40) dk_K_count_1 (by decide) (by decide) rfl (by decide) ?_ (fun n1 => ?_)
  · refine kv_aload_n (pc := 40) 0 rfl rfl dk_K_count_40 ?_
    refine kv_getR (pc := 41) kf_K_10 kr_0 rfl kt_0_0 dk_K_count_41 ?_
    refine kv_getC (pc := 44) kf_K_124 kr_1 kn_1 rfl dk_K_count_44 ?_
    exact kv_iret (pc := 47) (fun h => h) rfl dk_K_count_47
  refine kv_swIn (pc := 1) (v := (1 : Int32)) (tgt := 48) dk_K_count_1 (by decide) (by decide) rfl (by decide) ?_ (fun n2 => ?_)
  · refine kv_aload_n (pc := 48) 0 rfl rfl dk_K_count_48 ?_
    refine kv_getR (pc := 49) kf_K_10 kr_0 rfl kt_0_0 dk_K_count_49 ?_
    refine kv_getR (pc := 52) kf_K_58 kr_1 rfl kt_1_0 dk_K_count_52 ?_
    refine kv_getC (pc := 55) kf_K_62 kr_2 kn_2 rfl dk_K_count_55 ?_
    exact kv_iret (pc := 58) (fun h => h) rfl dk_K_count_58
  refine kv_swIn (pc := 1) (v := (2 : Int32)) (tgt := 59) dk_K_count_1 (by decide) (by decide) rfl (by decide) ?_ (fun n3 => ?_)
  · refine kv_aload_n (pc := 59) 0 rfl rfl dk_K_count_59 ?_
    refine kv_getR (pc := 60) kf_K_10 kr_0 rfl kt_0_0 dk_K_count_60 ?_
    refine kv_getR (pc := 63) kf_K_152 kr_1 rfl kt_1_1 dk_K_count_63 ?_
    refine kv_getC (pc := 66) kf_K_156 kr_10 kn_10 rfl dk_K_count_66 ?_
    exact kv_iret (pc := 69) (fun h => h) rfl dk_K_count_69
  refine kv_swIn (pc := 1) (v := (3 : Int32)) (tgt := 70) dk_K_count_1 (by decide) (by decide) rfl (by decide) ?_ (fun n4 => ?_)
  · refine kv_aload_n (pc := 70) 0 rfl rfl dk_K_count_70 ?_
    refine kv_getR (pc := 71) kf_K_10 kr_0 rfl kt_0_0 dk_K_count_71 ?_
    refine kv_getR (pc := 74) kf_K_152 kr_1 rfl kt_1_1 dk_K_count_74 ?_
    refine kv_cV_cI (pc := 77) (as := []) (st := []) ko_Weighings_howManyOut kc_9 rfl rfl kr_10 kw_1079 (Nat.le_of_ble_eq_true rfl) rfl dk_K_count_77 (cx_Weighings_howManyOut d c y) (fun v5 => ?_)
    exact kv_iret (pc := 80) (fun h => h) rfl dk_K_count_80
  refine kv_swIn (pc := 1) (v := (4 : Int32)) (tgt := 81) dk_K_count_1 (by decide) (by decide) rfl (by decide) ?_ (fun n6 => ?_)
  · refine kv_aload_n (pc := 81) 0 rfl rfl dk_K_count_81 ?_
    refine kv_getR (pc := 82) kf_K_10 kr_0 rfl kt_0_0 dk_K_count_82 ?_
    refine kv_getR (pc := 85) kf_K_275 kr_1 rfl kt_1_2 dk_K_count_85 ?_
    refine kv_getC (pc := 88) kf_K_364 kr_18 kn_18 rfl dk_K_count_88 ?_
    exact kv_iret (pc := 91) (fun h => h) rfl dk_K_count_91
  refine kv_swIn (pc := 1) (v := (5 : Int32)) (tgt := 92) dk_K_count_1 (by decide) (by decide) rfl (by decide) ?_ (fun n7 => ?_)
  · refine kv_aload_n (pc := 92) 0 rfl rfl dk_K_count_92 ?_
    refine kv_getR (pc := 93) kf_K_10 kr_0 rfl kt_0_0 dk_K_count_93 ?_
    refine kv_getR (pc := 96) kf_K_296 kr_1 rfl kt_1_3 dk_K_count_96 ?_
    refine kv_cV_cI (pc := 99) (as := []) (st := []) ko_Chains_allLinks kc_0 rfl rfl kr_20 kw_1083 (Nat.le_of_ble_eq_true rfl) rfl dk_K_count_99 (cx_Chains_allLinks d c y) (fun v8 => ?_)
    exact kv_iret (pc := 102) (fun h => h) rfl dk_K_count_102
  refine kv_swOut (pc := 1) (tgt := 103) dk_K_count_1 (by have qn1 := kv_ne (0 : Int32) (k := 0) rfl n1; have qn2 := kv_ne (1 : Int32) (k := 1) rfl n2; have qn3 := kv_ne (2 : Int32) (k := 2) rfl n3; have qn4 := kv_ne (3 : Int32) (k := 3) rfl n4; have qn6 := kv_ne (4 : Int32) (k := 4) rfl n6; have qn7 := kv_ne (5 : Int32) (k := 5) rfl n7; omega) (by decide) ?_
  refine kv_iconst (pc := 103) (v := (-1 : Int32)) dk_K_count_103 kki_m1 ?_
  exact kv_iret (pc := 104) (fun h => h) rfl dk_K_count_104
theorem dk_D_count_0 : decode prog_13_method_85_code 0 = .ok (.iconst 0, 1) := by decide +kernel
theorem dk_D_count_1 : decode prog_13_method_85_code 1 = .ok (.istore_n 2, 1) := by decide +kernel
theorem dk_D_count_2 : decode prog_13_method_85_code 2 = .ok (.iload_n 1, 1) := by decide +kernel
theorem dk_D_count_3 : decode prog_13_method_85_code 3 = .ok (.tableswitch 118 0 5 #[37, 44, 51, 58, 87, 95], 37) := by decide +kernel
theorem dk_D_count_40 : decode prog_13_method_85_code 40 = .ok (.aload_n 0, 1) := by decide +kernel
theorem dk_D_count_41 : decode prog_13_method_85_code 41 = .ok (.getfield 9, 3) := by decide +kernel
theorem dk_D_count_44 : decode prog_13_method_85_code 44 = .ok (.iconst 0, 1) := by decide +kernel
theorem dk_D_count_45 : decode prog_13_method_85_code 45 = .ok (.iaload, 1) := by decide +kernel
theorem dk_D_count_46 : decode prog_13_method_85_code 46 = .ok (.ireturn, 1) := by decide +kernel
theorem dk_D_count_47 : decode prog_13_method_85_code 47 = .ok (.aload_n 0, 1) := by decide +kernel
theorem dk_D_count_48 : decode prog_13_method_85_code 48 = .ok (.getfield 9, 3) := by decide +kernel
theorem dk_D_count_51 : decode prog_13_method_85_code 51 = .ok (.iconst 1, 1) := by decide +kernel
theorem dk_D_count_52 : decode prog_13_method_85_code 52 = .ok (.iaload, 1) := by decide +kernel
theorem dk_D_count_53 : decode prog_13_method_85_code 53 = .ok (.ireturn, 1) := by decide +kernel
theorem dk_D_count_54 : decode prog_13_method_85_code 54 = .ok (.aload_n 0, 1) := by decide +kernel
theorem dk_D_count_55 : decode prog_13_method_85_code 55 = .ok (.getfield 9, 3) := by decide +kernel
theorem dk_D_count_58 : decode prog_13_method_85_code 58 = .ok (.iconst 2, 1) := by decide +kernel
theorem dk_D_count_59 : decode prog_13_method_85_code 59 = .ok (.iaload, 1) := by decide +kernel
theorem dk_D_count_60 : decode prog_13_method_85_code 60 = .ok (.ireturn, 1) := by decide +kernel
theorem dk_D_count_61 : decode prog_13_method_85_code 61 = .ok (.iconst 0, 1) := by decide +kernel
theorem dk_D_count_62 : decode prog_13_method_85_code 62 = .ok (.istore_n 3, 1) := by decide +kernel
theorem dk_D_count_63 : decode prog_13_method_85_code 63 = .ok (.iload_n 3, 1) := by decide +kernel
theorem dk_D_count_64 : decode prog_13_method_85_code 64 = .ok (.aload_n 0, 1) := by decide +kernel
theorem dk_D_count_65 : decode prog_13_method_85_code 65 = .ok (.getfield 9, 3) := by decide +kernel
theorem dk_D_count_68 : decode prog_13_method_85_code 68 = .ok (.iconst 2, 1) := by decide +kernel
theorem dk_D_count_69 : decode prog_13_method_85_code 69 = .ok (.iaload, 1) := by decide +kernel
theorem dk_D_count_70 : decode prog_13_method_85_code 70 = .ok (.if_icmp .ge 18, 3) := by decide +kernel
theorem dk_D_count_73 : decode prog_13_method_85_code 73 = .ok (.iload_n 2, 1) := by decide +kernel
theorem dk_D_count_74 : decode prog_13_method_85_code 74 = .ok (.aload_n 0, 1) := by decide +kernel
theorem dk_D_count_75 : decode prog_13_method_85_code 75 = .ok (.iload_n 3, 1) := by decide +kernel
theorem dk_D_count_76 : decode prog_13_method_85_code 76 = .ok (.iconst 5, 1) := by decide +kernel
theorem dk_D_count_77 : decode prog_13_method_85_code 77 = .ok (.invokevirtual 141, 3) := by decide +kernel
theorem dk_D_count_80 : decode prog_13_method_85_code 80 = .ok (.iadd, 1) := by decide +kernel
theorem dk_D_count_81 : decode prog_13_method_85_code 81 = .ok (.istore_n 2, 1) := by decide +kernel
theorem dk_D_count_82 : decode prog_13_method_85_code 82 = .ok (.iinc 3 1, 3) := by decide +kernel
theorem dk_D_count_85 : decode prog_13_method_85_code 85 = .ok (.goto (-22), 3) := by decide +kernel
theorem dk_D_count_88 : decode prog_13_method_85_code 88 = .ok (.iload_n 2, 1) := by decide +kernel
theorem dk_D_count_89 : decode prog_13_method_85_code 89 = .ok (.ireturn, 1) := by decide +kernel
theorem dk_D_count_90 : decode prog_13_method_85_code 90 = .ok (.aload_n 0, 1) := by decide +kernel
theorem dk_D_count_91 : decode prog_13_method_85_code 91 = .ok (.getfield 9, 3) := by decide +kernel
theorem dk_D_count_94 : decode prog_13_method_85_code 94 = .ok (.bipush 7, 2) := by decide +kernel
theorem dk_D_count_96 : decode prog_13_method_85_code 96 = .ok (.iaload, 1) := by decide +kernel
theorem dk_D_count_97 : decode prog_13_method_85_code 97 = .ok (.ireturn, 1) := by decide +kernel
theorem dk_D_count_98 : decode prog_13_method_85_code 98 = .ok (.iconst 0, 1) := by decide +kernel
theorem dk_D_count_99 : decode prog_13_method_85_code 99 = .ok (.istore_n 3, 1) := by decide +kernel
theorem dk_D_count_100 : decode prog_13_method_85_code 100 = .ok (.iload_n 3, 1) := by decide +kernel
theorem dk_D_count_101 : decode prog_13_method_85_code 101 = .ok (.iconst 4, 1) := by decide +kernel
theorem dk_D_count_102 : decode prog_13_method_85_code 102 = .ok (.if_icmp .ge 17, 3) := by decide +kernel
theorem dk_D_count_105 : decode prog_13_method_85_code 105 = .ok (.iload_n 2, 1) := by decide +kernel
theorem dk_D_count_106 : decode prog_13_method_85_code 106 = .ok (.aload_n 0, 1) := by decide +kernel
theorem dk_D_count_107 : decode prog_13_method_85_code 107 = .ok (.iload_n 3, 1) := by decide +kernel
theorem dk_D_count_108 : decode prog_13_method_85_code 108 = .ok (.invokevirtual 285, 3) := by decide +kernel
theorem dk_D_count_111 : decode prog_13_method_85_code 111 = .ok (.iadd, 1) := by decide +kernel
theorem dk_D_count_112 : decode prog_13_method_85_code 112 = .ok (.istore_n 2, 1) := by decide +kernel
theorem dk_D_count_113 : decode prog_13_method_85_code 113 = .ok (.iinc 3 1, 3) := by decide +kernel
theorem dk_D_count_116 : decode prog_13_method_85_code 116 = .ok (.goto (-16), 3) := by decide +kernel
theorem dk_D_count_119 : decode prog_13_method_85_code 119 = .ok (.iload_n 2, 1) := by decide +kernel
theorem dk_D_count_120 : decode prog_13_method_85_code 120 = .ok (.ireturn, 1) := by decide +kernel
theorem dk_D_count_121 : decode prog_13_method_85_code 121 = .ok (.iconst (-1), 1) := by decide +kernel
theorem dk_D_count_122 : decode prog_13_method_85_code 122 = .ok (.ireturn, 1) := by decide +kernel
noncomputable def fb_D_count_63 (m : (Nat → Nat → Int32)) (x5 : Int32) (x6 : Int32) : Option ((Int32 × Int32) ⊕ Int32) :=
  if (m 85 2) ≤ x6 then
    some (.inr x5)
  else
    kv_bind1 (fx_D_say x6 (5 : Int32) m) (fun v8 =>
    kv_let (x5 + v8) (fun v9 =>
    some (.inl (v9, (x6 + (1 : Int32))))))
noncomputable def fb_D_count_100 (m : (Nat → Nat → Int32)) (x12 : Int32) (x13 : Int32) : Option ((Int32 × Int32) ⊕ Int32) :=
  if (4 : Int32) ≤ x13 then
    some (.inr x12)
  else
    kv_bind1 (fx_D_links x13 m) (fun v15 =>
    kv_let (x12 + v15) (fun v16 =>
    some (.inl (v16, (x13 + (1 : Int32))))))
noncomputable def fx_D_count (p1 : Int32) (m : (Nat → Nat → Int32)) : Option Int32 :=
  if p1 = (0 : Int32) then
    some (m 85 0)
  else if p1 = (1 : Int32) then
    some (m 85 1)
  else if p1 = (2 : Int32) then
    some (m 85 2)
  else if p1 = (3 : Int32) then
    (kv_loop (kv_u2 (fb_D_count_63 m)) ((0 : Int32), (0 : Int32))).bind (kv_u1 (fun x7 =>
    some x7))
  else if p1 = (4 : Int32) then
    some (m 85 7)
  else if p1 = (5 : Int32) then
    (kv_loop (kv_u2 (fb_D_count_100 m)) ((0 : Int32), (0 : Int32))).bind (kv_u1 (fun x14 =>
    some x14))
  else 
  some (-1 : Int32)
set_option maxRecDepth 20000 in
theorem cx_D_count (d : Nat) (p1 : Int32) (c : (Nat → Nat → Int32)) (m : (Nat → Nat → Int32)) (f : (Nat → Int64)) (u : (Nat → Int64)) : ∀ a, fx_D_count p1 m = some a → kv_C kM_D_count (d + 1) [.ref 84, .int p1] (c, m, f, u) (some (.int a), (c, m, f, u)) := by
  refine kv_entryX (E := fun a : Int32 => (some (.int a), (c, m, f, u))) rfl (Nat.le_of_ble_eq_true rfl) (fun o => ?_)
  unfold fx_D_count
  show kv_X _ _ _ _ _ 0 [(0, .ref 84), (1, .int p1)] [] (c, m, f, u)
  refine kv_iconst (pc := 0) (v := (0 : Int32)) dk_D_count_0 kki_0 ?_
  refine kv_istore_n (pc := 1) (lv' := [(2, .int (0 : Int32)), (0, .ref 84), (1, .int p1)]) rfl (Nat.le_of_ble_eq_true rfl) rfl dk_D_count_1 ?_
  refine kv_iload_n (pc := 2) 2 rfl rfl dk_D_count_2 ?_
  refine kv_swIn (pc := 3) (v := (0 : Int32)) (tgt := 40) dk_D_count_3 (by decide) (by decide) rfl (by decide) ?_ (fun n1 => ?_)
  · refine kv_aload_n (pc := 40) 1 rfl rfl dk_D_count_40 ?_
    refine kv_getR (pc := 41) kf_D_9 kr_84 rfl kt_84_0 dk_D_count_41 ?_
    refine kv_iconst (pc := 44) (v := (0 : Int32)) dk_D_count_44 kki_0 ?_
    refine kv_aldM (pc := 45) kr_85 kn_85 kl_85 kkg_0_444 (j := 0) kkx_0 dk_D_count_45 ?_
    exact kv_iret (pc := 46) (fun h => h) rfl dk_D_count_46
  refine kv_swIn (pc := 3) (v := (1 : Int32)) (tgt := 47) dk_D_count_3 (by decide) (by decide) rfl (by decide) ?_ (fun n2 => ?_)
  · refine kv_aload_n (pc := 47) 1 rfl rfl dk_D_count_47 ?_
    refine kv_getR (pc := 48) kf_D_9 kr_84 rfl kt_84_0 dk_D_count_48 ?_
    refine kv_iconst (pc := 51) (v := (1 : Int32)) dk_D_count_51 kki_1 ?_
    refine kv_aldM (pc := 52) kr_85 kn_85 kl_85 kkg_1_444 (j := 1) kkx_1 dk_D_count_52 ?_
    exact kv_iret (pc := 53) (fun h => h) rfl dk_D_count_53
  refine kv_swIn (pc := 3) (v := (2 : Int32)) (tgt := 54) dk_D_count_3 (by decide) (by decide) rfl (by decide) ?_ (fun n3 => ?_)
  · refine kv_aload_n (pc := 54) 1 rfl rfl dk_D_count_54 ?_
    refine kv_getR (pc := 55) kf_D_9 kr_84 rfl kt_84_0 dk_D_count_55 ?_
    refine kv_iconst (pc := 58) (v := (2 : Int32)) dk_D_count_58 kki_2 ?_
    refine kv_aldM (pc := 59) kr_85 kn_85 kl_85 kkg_2_444 (j := 2) kkx_2 dk_D_count_59 ?_
    exact kv_iret (pc := 60) (fun h => h) rfl dk_D_count_60
  refine kv_swIn (pc := 3) (v := (3 : Int32)) (tgt := 61) dk_D_count_3 (by decide) (by decide) rfl (by decide) ?_ (fun n4 => ?_)
  · refine kv_iconst (pc := 61) (v := (0 : Int32)) dk_D_count_61 kki_0 ?_
    refine kv_istore_n (pc := 62) (lv' := [(3, .int (0 : Int32)), (2, .int (0 : Int32)), (0, .ref 84), (1, .int p1)]) rfl (Nat.le_of_ble_eq_true rfl) rfl dk_D_count_62 ?_
    refine kv_sub (lv' := [(0, .ref 84), (2, .int (0 : Int32)), (3, .int (0 : Int32))]) [2, 1, 0] rfl ?_
    refine kv_lp_2_1 (LV := fun x5 x6 => [(0, .ref 84), (2, .int x5), (3, .int x6)]) (WW := fun x5 x6 => (c, m, f, u)) (LE1 := fun x7 => [(2, .int x7)]) (WE1 := fun x7 => (c, m, f, u)) (pe1 := 88) ?_ ?_
    · intro x7
      show kv_X _ _ _ _ _ 88 [(2, .int x7)] [] (c, m, f, u)
      refine kv_iload_n (pc := 88) 0 rfl rfl dk_D_count_88 ?_
      exact kv_iret (pc := 89) (fun h => h) rfl dk_D_count_89
    · intro hx63_0 x5 x6
      show kv_X _ _ _ _ (fb_D_count_63 m x5 x6) 63 [(0, .ref 84), (2, .int x5), (3, .int x6)] [] (c, m, f, u)
      unfold fb_D_count_63
      refine kv_iload_n (pc := 63) 2 rfl rfl dk_D_count_63 ?_
      refine kv_aload_n (pc := 64) 0 rfl rfl dk_D_count_64 ?_
      refine kv_getR (pc := 65) kf_D_9 kr_84 rfl kt_84_0 dk_D_count_65 ?_
      refine kv_iconst (pc := 68) (v := (2 : Int32)) dk_D_count_68 kki_2 ?_
      refine kv_aldM (pc := 69) kr_85 kn_85 kl_85 kkg_2_444 (j := 2) kkx_2 dk_D_count_69 ?_
      refine kv_icmp_ge (pc := 70) (tgt := 88) dk_D_count_70 rfl ?_ ?_
      · exact kv_sub [1] rfl (kv_leaf (hx63_0 _))
      · refine kv_iload_n (pc := 73) 1 rfl rfl dk_D_count_73 ?_
        refine kv_aload_n (pc := 74) 0 rfl rfl dk_D_count_74 ?_
        refine kv_iload_n (pc := 75) 2 rfl rfl dk_D_count_75 ?_
        refine kv_iconst (pc := 76) (v := (5 : Int32)) dk_D_count_76 kki_5 ?_
        refine kv_cV_mI (pc := 77) (as := [.int x6, .int (5 : Int32)]) (st := [.int x5]) ko_D_say kc_11 rfl rfl kr_84 kw_1435 (Nat.le_of_ble_eq_true rfl) rfl dk_D_count_77 (cx_D_say d x6 (5 : Int32) c m f u) (fun v8 => ?_)
        refine kv_iadd (pc := 80) dk_D_count_80 ?_
        refine kv_letI (fun v9 => ?_)
        refine kv_istore_n (pc := 81) (lv' := [(2, .int v9), (0, .ref 84), (3, .int x6)]) rfl (Nat.le_of_ble_eq_true rfl) rfl dk_D_count_81 ?_
        refine kv_iinc (pc := 82) (kk := (1 : Int32)) (lv' := [(3, .int (x6 + (1 : Int32))), (2, .int v9), (0, .ref 84)]) 2 rfl kki_1 rfl (Nat.le_of_ble_eq_true rfl) dk_D_count_82 ?_
        refine kv_goto (pc := 85) (tgt := 63) dk_D_count_85 rfl ?_
        exact kv_sub [2, 1, 0] rfl (kv_leaf (fun h => h))
  refine kv_swIn (pc := 3) (v := (4 : Int32)) (tgt := 90) dk_D_count_3 (by decide) (by decide) rfl (by decide) ?_ (fun n10 => ?_)
  · refine kv_aload_n (pc := 90) 1 rfl rfl dk_D_count_90 ?_
    refine kv_getR (pc := 91) kf_D_9 kr_84 rfl kt_84_0 dk_D_count_91 ?_
    refine kv_bipush (pc := 94) (v := (7 : Int32)) dk_D_count_94 kkb_7 ?_
    refine kv_aldM (pc := 96) kr_85 kn_85 kl_85 kkg_7_444 (j := 7) kkx_7 dk_D_count_96 ?_
    exact kv_iret (pc := 97) (fun h => h) rfl dk_D_count_97
  refine kv_swIn (pc := 3) (v := (5 : Int32)) (tgt := 98) dk_D_count_3 (by decide) (by decide) rfl (by decide) ?_ (fun n11 => ?_)
  · refine kv_iconst (pc := 98) (v := (0 : Int32)) dk_D_count_98 kki_0 ?_
    refine kv_istore_n (pc := 99) (lv' := [(3, .int (0 : Int32)), (2, .int (0 : Int32)), (0, .ref 84), (1, .int p1)]) rfl (Nat.le_of_ble_eq_true rfl) rfl dk_D_count_99 ?_
    refine kv_sub (lv' := [(0, .ref 84), (2, .int (0 : Int32)), (3, .int (0 : Int32))]) [2, 1, 0] rfl ?_
    refine kv_lp_2_1 (LV := fun x12 x13 => [(0, .ref 84), (2, .int x12), (3, .int x13)]) (WW := fun x12 x13 => (c, m, f, u)) (LE1 := fun x14 => [(2, .int x14)]) (WE1 := fun x14 => (c, m, f, u)) (pe1 := 119) ?_ ?_
    · intro x14
      show kv_X _ _ _ _ _ 119 [(2, .int x14)] [] (c, m, f, u)
      refine kv_iload_n (pc := 119) 0 rfl rfl dk_D_count_119 ?_
      exact kv_iret (pc := 120) (fun h => h) rfl dk_D_count_120
    · intro hx100_0 x12 x13
      show kv_X _ _ _ _ (fb_D_count_100 m x12 x13) 100 [(0, .ref 84), (2, .int x12), (3, .int x13)] [] (c, m, f, u)
      unfold fb_D_count_100
      refine kv_iload_n (pc := 100) 2 rfl rfl dk_D_count_100 ?_
      refine kv_iconst (pc := 101) (v := (4 : Int32)) dk_D_count_101 kki_4 ?_
      refine kv_icmp_ge (pc := 102) (tgt := 119) dk_D_count_102 rfl ?_ ?_
      · exact kv_sub [1] rfl (kv_leaf (hx100_0 _))
      · refine kv_iload_n (pc := 105) 1 rfl rfl dk_D_count_105 ?_
        refine kv_aload_n (pc := 106) 0 rfl rfl dk_D_count_106 ?_
        refine kv_iload_n (pc := 107) 2 rfl rfl dk_D_count_107 ?_
        refine kv_cV_mI (pc := 108) (as := [.int x13]) (st := [.int x12]) ko_D_links kc_11 rfl rfl kr_84 kw_1620 (Nat.le_of_ble_eq_true rfl) rfl dk_D_count_108 (cx_D_links d x13 c m f u) (fun v15 => ?_)
        refine kv_iadd (pc := 111) dk_D_count_111 ?_
        refine kv_letI (fun v16 => ?_)
        refine kv_istore_n (pc := 112) (lv' := [(2, .int v16), (0, .ref 84), (3, .int x13)]) rfl (Nat.le_of_ble_eq_true rfl) rfl dk_D_count_112 ?_
        refine kv_iinc (pc := 113) (kk := (1 : Int32)) (lv' := [(3, .int (x13 + (1 : Int32))), (2, .int v16), (0, .ref 84)]) 2 rfl kki_1 rfl (Nat.le_of_ble_eq_true rfl) dk_D_count_113 ?_
        refine kv_goto (pc := 116) (tgt := 100) dk_D_count_116 rfl ?_
        exact kv_sub [2, 1, 0] rfl (kv_leaf (fun h => h))
  refine kv_swOut (pc := 3) (tgt := 121) dk_D_count_3 (by have qn1 := kv_ne (0 : Int32) (k := 0) rfl n1; have qn2 := kv_ne (1 : Int32) (k := 1) rfl n2; have qn3 := kv_ne (2 : Int32) (k := 2) rfl n3; have qn4 := kv_ne (3 : Int32) (k := 3) rfl n4; have qn10 := kv_ne (4 : Int32) (k := 4) rfl n10; have qn11 := kv_ne (5 : Int32) (k := 5) rfl n11; omega) (by decide) ?_
  refine kv_iconst (pc := 121) (v := (-1 : Int32)) dk_D_count_121 kki_m1 ?_
  exact kv_iret (pc := 122) (fun h => h) rfl dk_D_count_122
theorem dk_Shelf_holdLump_0 : decode prog_9_method_5_code 0 = .ok (.aload_n 0, 1) := by decide +kernel
theorem dk_Shelf_holdLump_1 : decode prog_9_method_5_code 1 = .ok (.iconst 1, 1) := by decide +kernel
theorem dk_Shelf_holdLump_2 : decode prog_9_method_5_code 2 = .ok (.putfield 15, 3) := by decide +kernel
theorem dk_Shelf_holdLump_5 : decode prog_9_method_5_code 5 = .ok (.aload_n 0, 1) := by decide +kernel
theorem dk_Shelf_holdLump_6 : decode prog_9_method_5_code 6 = .ok (.iload_n 2, 1) := by decide +kernel
theorem dk_Shelf_holdLump_7 : decode prog_9_method_5_code 7 = .ok (.putfield 19, 3) := by decide +kernel
theorem dk_Shelf_holdLump_10 : decode prog_9_method_5_code 10 = .ok (.aload_n 0, 1) := by decide +kernel
theorem dk_Shelf_holdLump_11 : decode prog_9_method_5_code 11 = .ok (.aload_n 1, 1) := by decide +kernel
theorem dk_Shelf_holdLump_12 : decode prog_9_method_5_code 12 = .ok (.getfield 22, 3) := by decide +kernel
theorem dk_Shelf_holdLump_15 : decode prog_9_method_5_code 15 = .ok (.iload_n 2, 1) := by decide +kernel
theorem dk_Shelf_holdLump_16 : decode prog_9_method_5_code 16 = .ok (.iaload, 1) := by decide +kernel
theorem dk_Shelf_holdLump_17 : decode prog_9_method_5_code 17 = .ok (.putfield 27, 3) := by decide +kernel
theorem dk_Shelf_holdLump_20 : decode prog_9_method_5_code 20 = .ok (.aload_n 0, 1) := by decide +kernel
theorem dk_Shelf_holdLump_21 : decode prog_9_method_5_code 21 = .ok (.aload_n 1, 1) := by decide +kernel
theorem dk_Shelf_holdLump_22 : decode prog_9_method_5_code 22 = .ok (.getfield 29, 3) := by decide +kernel
theorem dk_Shelf_holdLump_25 : decode prog_9_method_5_code 25 = .ok (.iload_n 2, 1) := by decide +kernel
theorem dk_Shelf_holdLump_26 : decode prog_9_method_5_code 26 = .ok (.iaload, 1) := by decide +kernel
theorem dk_Shelf_holdLump_27 : decode prog_9_method_5_code 27 = .ok (.putfield 32, 3) := by decide +kernel
theorem dk_Shelf_holdLump_30 : decode prog_9_method_5_code 30 = .ok (.aload_n 0, 1) := by decide +kernel
theorem dk_Shelf_holdLump_31 : decode prog_9_method_5_code 31 = .ok (.aload_n 1, 1) := by decide +kernel
theorem dk_Shelf_holdLump_32 : decode prog_9_method_5_code 32 = .ok (.getfield 34, 3) := by decide +kernel
theorem dk_Shelf_holdLump_35 : decode prog_9_method_5_code 35 = .ok (.iload_n 2, 1) := by decide +kernel
theorem dk_Shelf_holdLump_36 : decode prog_9_method_5_code 36 = .ok (.iaload, 1) := by decide +kernel
theorem dk_Shelf_holdLump_37 : decode prog_9_method_5_code 37 = .ok (.putfield 37, 3) := by decide +kernel
theorem dk_Shelf_holdLump_40 : decode prog_9_method_5_code 40 = .ok (.return_, 1) := by decide +kernel
noncomputable def fx_Shelf_holdLump (r0 : Nat) (p2 : Int32) (c : (Nat → Nat → Int32)) : Option (Nat → Nat → Int32) :=
  kv_let (kv_st c r0 1 (1 : Int32)) (fun c1 =>
  kv_let (kv_st c1 r0 4 p2) (fun c2 =>
  kv_gd (kv_in p2 10) (
  kv_let (kv_st c2 r0 5 (c2 3 p2.toNatClampNeg)) (fun c4 =>
  kv_let (kv_st c4 r0 6 (c4 4 p2.toNatClampNeg)) (fun c5 =>
  kv_let (kv_st c5 r0 7 (c5 5 p2.toNatClampNeg)) (fun c6 =>
  some c6))))))
set_option maxRecDepth 20000 in
theorem cx_Shelf_holdLump (d : Nat) (r0 : Nat) (p2 : Int32) (c : (Nat → Nat → Int32)) (y : (Nat → Nat → Int32) × (Nat → Int64) × (Nat → Int64)) (h0 : kv_kd r0 = 7) : ∀ a, fx_Shelf_holdLump r0 p2 c = some a → kv_C kM_Shelf_holdLump (d + 0) [.ref r0, .ref 2, .int p2] (c, y) (none, (a, y)) := by
  refine kv_entryX (E := fun a : (Nat → Nat → Int32) => (none, (a, y))) rfl (Nat.le_of_ble_eq_true rfl) (fun o => ?_)
  unfold fx_Shelf_holdLump
  show kv_X _ _ _ _ _ 0 [(0, .ref r0), (1, .ref 2), (2, .int p2)] [] (c, y)
  refine kv_aload_n (pc := 0) 0 rfl rfl dk_Shelf_holdLump_0 ?_
  refine kv_iconst (pc := 1) (v := (1 : Int32)) dk_Shelf_holdLump_1 kki_1 ?_
  refine kv_putC (pc := 2) kf_Shelf_15 h0 (kv_7nc h0) rfl rfl rfl dk_Shelf_holdLump_2 (fun c1 => ?_)
  refine kv_aload_n (pc := 5) 0 rfl rfl dk_Shelf_holdLump_5 ?_
  refine kv_iload_n (pc := 6) 2 rfl rfl dk_Shelf_holdLump_6 ?_
  refine kv_putC (pc := 7) kf_Shelf_19 h0 (kv_7nc h0) rfl rfl rfl dk_Shelf_holdLump_7 (fun c2 => ?_)
  refine kv_aload_n (pc := 10) 0 rfl rfl dk_Shelf_holdLump_10 ?_
  refine kv_aload_n (pc := 11) 1 rfl rfl dk_Shelf_holdLump_11 ?_
  refine kv_getR (pc := 12) kf_Shelf_22 kr_2 rfl kt_2_0 dk_Shelf_holdLump_12 ?_
  refine kv_iload_n (pc := 15) 2 rfl rfl dk_Shelf_holdLump_15 ?_
  refine kv_guard (fun g3 => ?_)
  refine kv_aldC (pc := 16) kr_3 kn_3 kl_3 g3 rfl dk_Shelf_holdLump_16 ?_
  refine kv_putC (pc := 17) kf_Shelf_27 h0 (kv_7nc h0) rfl rfl rfl dk_Shelf_holdLump_17 (fun c4 => ?_)
  refine kv_aload_n (pc := 20) 0 rfl rfl dk_Shelf_holdLump_20 ?_
  refine kv_aload_n (pc := 21) 1 rfl rfl dk_Shelf_holdLump_21 ?_
  refine kv_getR (pc := 22) kf_Shelf_29 kr_2 rfl kt_2_1 dk_Shelf_holdLump_22 ?_
  refine kv_iload_n (pc := 25) 2 rfl rfl dk_Shelf_holdLump_25 ?_
  refine kv_aldC (pc := 26) kr_4 kn_4 kl_4 g3 rfl dk_Shelf_holdLump_26 ?_
  refine kv_putC (pc := 27) kf_Shelf_32 h0 (kv_7nc h0) rfl rfl rfl dk_Shelf_holdLump_27 (fun c5 => ?_)
  refine kv_aload_n (pc := 30) 0 rfl rfl dk_Shelf_holdLump_30 ?_
  refine kv_aload_n (pc := 31) 1 rfl rfl dk_Shelf_holdLump_31 ?_
  refine kv_getR (pc := 32) kf_Shelf_34 kr_2 rfl kt_2_2 dk_Shelf_holdLump_32 ?_
  refine kv_iload_n (pc := 35) 2 rfl rfl dk_Shelf_holdLump_35 ?_
  refine kv_aldC (pc := 36) kr_5 kn_5 kl_5 g3 rfl dk_Shelf_holdLump_36 ?_
  refine kv_putC (pc := 37) kf_Shelf_37 h0 (kv_7nc h0) rfl rfl rfl dk_Shelf_holdLump_37 (fun c6 => ?_)
  exact kv_vret (pc := 40) (fun h => h) rfl dk_Shelf_holdLump_40
theorem dk_Shelf_clear_0 : decode prog_9_method_4_code 0 = .ok (.aload_n 0, 1) := by decide +kernel
theorem dk_Shelf_clear_1 : decode prog_9_method_4_code 1 = .ok (.iconst 0, 1) := by decide +kernel
theorem dk_Shelf_clear_2 : decode prog_9_method_4_code 2 = .ok (.putfield 15, 3) := by decide +kernel
theorem dk_Shelf_clear_5 : decode prog_9_method_4_code 5 = .ok (.return_, 1) := by decide +kernel
noncomputable def fx_Shelf_clear (r0 : Nat) (c : (Nat → Nat → Int32)) : Option (Nat → Nat → Int32) :=
  kv_let (kv_st c r0 1 (0 : Int32)) (fun c1 =>
  some c1)
set_option maxRecDepth 20000 in
theorem cx_Shelf_clear (d : Nat) (r0 : Nat) (c : (Nat → Nat → Int32)) (y : (Nat → Nat → Int32) × (Nat → Int64) × (Nat → Int64)) (h0 : kv_kd r0 = 7) : ∀ a, fx_Shelf_clear r0 c = some a → kv_C kM_Shelf_clear (d + 0) [.ref r0] (c, y) (none, (a, y)) := by
  refine kv_entryX (E := fun a : (Nat → Nat → Int32) => (none, (a, y))) rfl (Nat.le_of_ble_eq_true rfl) (fun o => ?_)
  unfold fx_Shelf_clear
  show kv_X _ _ _ _ _ 0 [(0, .ref r0)] [] (c, y)
  refine kv_aload_n (pc := 0) 0 rfl rfl dk_Shelf_clear_0 ?_
  refine kv_iconst (pc := 1) (v := (0 : Int32)) dk_Shelf_clear_1 kki_0 ?_
  refine kv_putC (pc := 2) kf_Shelf_15 h0 (kv_7nc h0) rfl rfl rfl dk_Shelf_clear_2 (fun c1 => ?_)
  exact kv_vret (pc := 5) (fun h => h) rfl dk_Shelf_clear_5
theorem dk_K_keep_0 : decode prog_1_method_33_code 0 = .ok (.iload_n 1, 1) := by decide +kernel
theorem dk_K_keep_1 : decode prog_1_method_33_code 1 = .ok (.invokestatic 368, 3) := by decide +kernel
theorem dk_K_keep_4 : decode prog_1_method_33_code 4 = .ok (.ifCond .eq 12, 3) := by decide +kernel
theorem dk_K_keep_7 : decode prog_1_method_33_code 7 = .ok (.iload_n 2, 1) := by decide +kernel
theorem dk_K_keep_8 : decode prog_1_method_33_code 8 = .ok (.iconst 0, 1) := by decide +kernel
theorem dk_K_keep_9 : decode prog_1_method_33_code 9 = .ok (.iconst 1, 1) := by decide +kernel
theorem dk_K_keep_10 : decode prog_1_method_33_code 10 = .ok (.invokestatic 54, 3) := by decide +kernel
theorem dk_K_keep_13 : decode prog_1_method_33_code 13 = .ok (.ifCond .ne 5, 3) := by decide +kernel
theorem dk_K_keep_16 : decode prog_1_method_33_code 16 = .ok (.iconst (-1), 1) := by decide +kernel
theorem dk_K_keep_17 : decode prog_1_method_33_code 17 = .ok (.ireturn, 1) := by decide +kernel
theorem dk_K_keep_18 : decode prog_1_method_33_code 18 = .ok (.iload_n 2, 1) := by decide +kernel
theorem dk_K_keep_19 : decode prog_1_method_33_code 19 = .ok (.ifCond .ne 14, 3) := by decide +kernel
theorem dk_K_keep_22 : decode prog_1_method_33_code 22 = .ok (.aload_n 0, 1) := by decide +kernel
theorem dk_K_keep_23 : decode prog_1_method_33_code 23 = .ok (.getfield 21, 3) := by decide +kernel
theorem dk_K_keep_26 : decode prog_1_method_33_code 26 = .ok (.iload_n 1, 1) := by decide +kernel
theorem dk_K_keep_27 : decode prog_1_method_33_code 27 = .ok (.aaload, 1) := by decide +kernel
theorem dk_K_keep_28 : decode prog_1_method_33_code 28 = .ok (.invokevirtual 371, 3) := by decide +kernel
theorem dk_K_keep_31 : decode prog_1_method_33_code 31 = .ok (.iconst 0, 1) := by decide +kernel
theorem dk_K_keep_32 : decode prog_1_method_33_code 32 = .ok (.ireturn, 1) := by decide +kernel
theorem dk_K_keep_33 : decode prog_1_method_33_code 33 = .ok (.aload_n 0, 1) := by decide +kernel
theorem dk_K_keep_34 : decode prog_1_method_33_code 34 = .ok (.getfield 10, 3) := by decide +kernel
theorem dk_K_keep_37 : decode prog_1_method_33_code 37 = .ok (.getfield 58, 3) := by decide +kernel
theorem dk_K_keep_40 : decode prog_1_method_33_code 40 = .ok (.iload_n 3, 1) := by decide +kernel
theorem dk_K_keep_41 : decode prog_1_method_33_code 41 = .ok (.invokevirtual 101, 3) := by decide +kernel
theorem dk_K_keep_44 : decode prog_1_method_33_code 44 = .ok (.ifCond .ne 5, 3) := by decide +kernel
theorem dk_K_keep_47 : decode prog_1_method_33_code 47 = .ok (.iconst (-1), 1) := by decide +kernel
theorem dk_K_keep_48 : decode prog_1_method_33_code 48 = .ok (.ireturn, 1) := by decide +kernel
theorem dk_K_keep_49 : decode prog_1_method_33_code 49 = .ok (.aload_n 0, 1) := by decide +kernel
theorem dk_K_keep_50 : decode prog_1_method_33_code 50 = .ok (.getfield 21, 3) := by decide +kernel
theorem dk_K_keep_53 : decode prog_1_method_33_code 53 = .ok (.iload_n 1, 1) := by decide +kernel
theorem dk_K_keep_54 : decode prog_1_method_33_code 54 = .ok (.aaload, 1) := by decide +kernel
theorem dk_K_keep_55 : decode prog_1_method_33_code 55 = .ok (.aload_n 0, 1) := by decide +kernel
theorem dk_K_keep_56 : decode prog_1_method_33_code 56 = .ok (.getfield 10, 3) := by decide +kernel
theorem dk_K_keep_59 : decode prog_1_method_33_code 59 = .ok (.getfield 58, 3) := by decide +kernel
theorem dk_K_keep_62 : decode prog_1_method_33_code 62 = .ok (.iload_n 3, 1) := by decide +kernel
theorem dk_K_keep_63 : decode prog_1_method_33_code 63 = .ok (.invokevirtual 374, 3) := by decide +kernel
theorem dk_K_keep_66 : decode prog_1_method_33_code 66 = .ok (.iconst 0, 1) := by decide +kernel
theorem dk_K_keep_67 : decode prog_1_method_33_code 67 = .ok (.ireturn, 1) := by decide +kernel
noncomputable def fx_K_keep (p1 : Int32) (p2 : Int32) (p3 : Int32) (c : (Nat → Nat → Int32)) : Option (Int32 × (Nat → Nat → Int32)) :=
  kv_bind1 (fx_K_isShelf p1) (fun b1 =>
  if b1 = true then
    kv_bind1 (fx_K_isWithin p2 (0 : Int32) (1 : Int32)) (fun b2 =>
    if b2 = true then
      if p2 = 0 then
        kv_gd (kv_in p1 8) (
        kv_bind1 (fx_Shelf_clear (kv_tg 51 p1.toNatClampNeg) c) (fun c7 =>
        some ((0 : Int32), c7)))
      else
        kv_bind1 (fx_Lumps_has p3 c) (fun b3 =>
        if b3 = true then
          kv_gd (kv_in p1 8) (
          kv_bind1 (fx_Shelf_holdLump (kv_tg 51 p1.toNatClampNeg) p3 c) (fun c5 =>
          some ((0 : Int32), c5)))
        else
          some ((-1 : Int32), c))
    else
      some ((-1 : Int32), c))
  else
    some ((-1 : Int32), c))
set_option maxRecDepth 20000 in
theorem cx_K_keep (d : Nat) (p1 : Int32) (p2 : Int32) (p3 : Int32) (c : (Nat → Nat → Int32)) (y : (Nat → Nat → Int32) × (Nat → Int64) × (Nat → Int64)) : ∀ a, fx_K_keep p1 p2 p3 c = some a → kv_C kM_K_keep (d + 2) [.ref 0, .int p1, .int p2, .int p3] (c, y) (some (.int a.1), (a.2, y)) := by
  refine kv_entryX (E := fun a : (Int32 × (Nat → Nat → Int32)) => (some (.int a.1), (a.2, y))) rfl (Nat.le_of_ble_eq_true rfl) (fun o => ?_)
  unfold fx_K_keep
  show kv_X _ _ _ _ _ 0 [(0, .ref 0), (1, .int p1), (2, .int p2), (3, .int p3)] [] (c, y)
  refine kv_iload_n (pc := 0) 1 rfl rfl dk_K_keep_0 ?_
  refine kv_cS_cZ (pc := 1) (as := [.int p1]) (st := []) ko_K_isShelf rfl kw_624 (Nat.le_of_ble_eq_true rfl) rfl dk_K_keep_1 (cx_K_isShelf d p1 c y) (fun b1 => ?_)
  refine kv_zif_eq (pc := 4) (tgt := 16) dk_K_keep_4 rfl ?_ ?_
  · refine kv_iconst (pc := 16) (v := (-1 : Int32)) dk_K_keep_16 kki_m1 ?_
    exact kv_iret (pc := 17) (fun h => h) rfl dk_K_keep_17
  · refine kv_iload_n (pc := 7) 2 rfl rfl dk_K_keep_7 ?_
    refine kv_iconst (pc := 8) (v := (0 : Int32)) dk_K_keep_8 kki_0 ?_
    refine kv_iconst (pc := 9) (v := (1 : Int32)) dk_K_keep_9 kki_1 ?_
    refine kv_cS_cZ (pc := 10) (as := [.int p2, .int (0 : Int32), .int (1 : Int32)]) (st := []) ko_K_isWithin rfl kw_512 (Nat.le_of_ble_eq_true rfl) rfl dk_K_keep_10 (cx_K_isWithin (d + 1) p2 (0 : Int32) (1 : Int32) c y) (fun b2 => ?_)
    refine kv_zif_ne (pc := 13) (tgt := 18) dk_K_keep_13 rfl ?_ ?_
    · refine kv_iload_n (pc := 18) 2 rfl rfl dk_K_keep_18 ?_
      refine kv_if_ne (pc := 19) (tgt := 33) dk_K_keep_19 rfl ?_ ?_
      · refine kv_aload_n (pc := 33) 0 rfl rfl dk_K_keep_33 ?_
        refine kv_getR (pc := 34) kf_K_10 kr_0 rfl kt_0_0 dk_K_keep_34 ?_
        refine kv_getR (pc := 37) kf_K_58 kr_1 rfl kt_1_0 dk_K_keep_37 ?_
        refine kv_iload_n (pc := 40) 3 rfl rfl dk_K_keep_40 ?_
        refine kv_cV_cZ (pc := 41) (as := [.int p3]) (st := []) ko_Lumps_has kc_3 rfl rfl kr_2 kw_543 (Nat.le_of_ble_eq_true rfl) rfl dk_K_keep_41 (cx_Lumps_has (d + 1) p3 c y) (fun b3 => ?_)
        refine kv_zif_ne (pc := 44) (tgt := 49) dk_K_keep_44 rfl ?_ ?_
        · refine kv_aload_n (pc := 49) 0 rfl rfl dk_K_keep_49 ?_
          refine kv_getR (pc := 50) kf_K_21 kr_0 rfl kt_0_3 dk_K_keep_50 ?_
          refine kv_iload_n (pc := 53) 1 rfl rfl dk_K_keep_53 ?_
          refine kv_guard (fun g4 => ?_)
          refine kv_aald (pc := 54) kr_51 kl_51 g4 rfl dk_K_keep_54 ?_
          refine kv_aload_n (pc := 55) 0 rfl rfl dk_K_keep_55 ?_
          refine kv_getR (pc := 56) kf_K_10 kr_0 rfl kt_0_0 dk_K_keep_56 ?_
          refine kv_getR (pc := 59) kf_K_58 kr_1 rfl kt_1_0 dk_K_keep_59 ?_
          refine kv_iload_n (pc := 62) 3 rfl rfl dk_K_keep_62 ?_
          refine kv_cV_cc (pc := 63) (as := [.ref 2, .int p3]) (st := []) ko_Shelf_holdLump kc_7 rfl rfl (kv_sh g4) kw_1095 (Nat.le_of_ble_eq_true rfl) rfl dk_K_keep_63 (cx_Shelf_holdLump (d + 1) (kv_tg 51 p1.toNatClampNeg) p3 c y (kv_sh g4)) (fun c5 => ?_)
          refine kv_iconst (pc := 66) (v := (0 : Int32)) dk_K_keep_66 kki_0 ?_
          exact kv_iret (pc := 67) (fun h => h) rfl dk_K_keep_67
        · refine kv_iconst (pc := 47) (v := (-1 : Int32)) dk_K_keep_47 kki_m1 ?_
          exact kv_iret (pc := 48) (fun h => h) rfl dk_K_keep_48
      · refine kv_aload_n (pc := 22) 0 rfl rfl dk_K_keep_22 ?_
        refine kv_getR (pc := 23) kf_K_21 kr_0 rfl kt_0_3 dk_K_keep_23 ?_
        refine kv_iload_n (pc := 26) 1 rfl rfl dk_K_keep_26 ?_
        refine kv_guard (fun g6 => ?_)
        refine kv_aald (pc := 27) kr_51 kl_51 g6 rfl dk_K_keep_27 ?_
        refine kv_cV_cc (pc := 28) (as := []) (st := []) ko_Shelf_clear kc_7 rfl rfl (kv_sh g6) kw_1091 (Nat.le_of_ble_eq_true rfl) rfl dk_K_keep_28 (cx_Shelf_clear (d + 1) (kv_tg 51 p1.toNatClampNeg) c y (kv_sh g6)) (fun c7 => ?_)
        refine kv_iconst (pc := 31) (v := (0 : Int32)) dk_K_keep_31 kki_0 ?_
        exact kv_iret (pc := 32) (fun h => h) rfl dk_K_keep_32
    · refine kv_iconst (pc := 16) (v := (-1 : Int32)) dk_K_keep_16 kki_m1 ?_
      exact kv_iret (pc := 17) (fun h => h) rfl dk_K_keep_17
theorem dk_D_careOf_0 : decode prog_13_method_86_code 0 = .ok (.aload_n 0, 1) := by decide +kernel
theorem dk_D_careOf_1 : decode prog_13_method_86_code 1 = .ok (.iload_n 1, 1) := by decide +kernel
theorem dk_D_careOf_2 : decode prog_13_method_86_code 2 = .ok (.iconst 1, 1) := by decide +kernel
theorem dk_D_careOf_3 : decode prog_13_method_86_code 3 = .ok (.invokevirtual 68, 3) := by decide +kernel
theorem dk_D_careOf_6 : decode prog_13_method_86_code 6 = .ok (.iconst 1, 1) := by decide +kernel
theorem dk_D_careOf_7 : decode prog_13_method_86_code 7 = .ok (.iadd, 1) := by decide +kernel
theorem dk_D_careOf_8 : decode prog_13_method_86_code 8 = .ok (.istore_n 2, 1) := by decide +kernel
theorem dk_D_careOf_9 : decode prog_13_method_86_code 9 = .ok (.aload_n 0, 1) := by decide +kernel
theorem dk_D_careOf_10 : decode prog_13_method_86_code 10 = .ok (.iload_n 1, 1) := by decide +kernel
theorem dk_D_careOf_11 : decode prog_13_method_86_code 11 = .ok (.iconst 0, 1) := by decide +kernel
theorem dk_D_careOf_12 : decode prog_13_method_86_code 12 = .ok (.invokevirtual 68, 3) := by decide +kernel
theorem dk_D_careOf_15 : decode prog_13_method_86_code 15 = .ok (.tableswitch 78 1 7 #[41, 46, 50, 54, 65, 69, 74], 41) := by decide +kernel
theorem dk_D_careOf_56 : decode prog_13_method_86_code 56 = .ok (.bipush 10, 2) := by decide +kernel
theorem dk_D_careOf_58 : decode prog_13_method_86_code 58 = .ok (.iload_n 2, 1) := by decide +kernel
theorem dk_D_careOf_59 : decode prog_13_method_86_code 59 = .ok (.imul, 1) := by decide +kernel
theorem dk_D_careOf_60 : decode prog_13_method_86_code 60 = .ok (.ireturn, 1) := by decide +kernel
theorem dk_D_careOf_61 : decode prog_13_method_86_code 61 = .ok (.iload_n 2, 1) := by decide +kernel
theorem dk_D_careOf_62 : decode prog_13_method_86_code 62 = .ok (.iconst 5, 1) := by decide +kernel
theorem dk_D_careOf_63 : decode prog_13_method_86_code 63 = .ok (.iadd, 1) := by decide +kernel
theorem dk_D_careOf_64 : decode prog_13_method_86_code 64 = .ok (.ireturn, 1) := by decide +kernel
theorem dk_D_careOf_65 : decode prog_13_method_86_code 65 = .ok (.iconst 2, 1) := by decide +kernel
theorem dk_D_careOf_66 : decode prog_13_method_86_code 66 = .ok (.iload_n 2, 1) := by decide +kernel
theorem dk_D_careOf_67 : decode prog_13_method_86_code 67 = .ok (.imul, 1) := by decide +kernel
theorem dk_D_careOf_68 : decode prog_13_method_86_code 68 = .ok (.ireturn, 1) := by decide +kernel
theorem dk_D_careOf_69 : decode prog_13_method_86_code 69 = .ok (.iconst 2, 1) := by decide +kernel
theorem dk_D_careOf_70 : decode prog_13_method_86_code 70 = .ok (.iload_n 2, 1) := by decide +kernel
theorem dk_D_careOf_71 : decode prog_13_method_86_code 71 = .ok (.imul, 1) := by decide +kernel
theorem dk_D_careOf_72 : decode prog_13_method_86_code 72 = .ok (.aload_n 0, 1) := by decide +kernel
theorem dk_D_careOf_73 : decode prog_13_method_86_code 73 = .ok (.iload_n 1, 1) := by decide +kernel
theorem dk_D_careOf_74 : decode prog_13_method_86_code 74 = .ok (.iconst 2, 1) := by decide +kernel
theorem dk_D_careOf_75 : decode prog_13_method_86_code 75 = .ok (.invokevirtual 68, 3) := by decide +kernel
theorem dk_D_careOf_78 : decode prog_13_method_86_code 78 = .ok (.iadd, 1) := by decide +kernel
theorem dk_D_careOf_79 : decode prog_13_method_86_code 79 = .ok (.ireturn, 1) := by decide +kernel
theorem dk_D_careOf_80 : decode prog_13_method_86_code 80 = .ok (.iload_n 2, 1) := by decide +kernel
theorem dk_D_careOf_81 : decode prog_13_method_86_code 81 = .ok (.iconst 1, 1) := by decide +kernel
theorem dk_D_careOf_82 : decode prog_13_method_86_code 82 = .ok (.isub, 1) := by decide +kernel
theorem dk_D_careOf_83 : decode prog_13_method_86_code 83 = .ok (.ireturn, 1) := by decide +kernel
theorem dk_D_careOf_84 : decode prog_13_method_86_code 84 = .ok (.iload_n 2, 1) := by decide +kernel
theorem dk_D_careOf_85 : decode prog_13_method_86_code 85 = .ok (.bipush 50, 2) := by decide +kernel
theorem dk_D_careOf_87 : decode prog_13_method_86_code 87 = .ok (.iadd, 1) := by decide +kernel
theorem dk_D_careOf_88 : decode prog_13_method_86_code 88 = .ok (.ireturn, 1) := by decide +kernel
theorem dk_D_careOf_89 : decode prog_13_method_86_code 89 = .ok (.iload_n 2, 1) := by decide +kernel
theorem dk_D_careOf_90 : decode prog_13_method_86_code 90 = .ok (.iconst 3, 1) := by decide +kernel
theorem dk_D_careOf_91 : decode prog_13_method_86_code 91 = .ok (.iadd, 1) := by decide +kernel
theorem dk_D_careOf_92 : decode prog_13_method_86_code 92 = .ok (.ireturn, 1) := by decide +kernel
theorem dk_D_careOf_93 : decode prog_13_method_86_code 93 = .ok (.iload_n 2, 1) := by decide +kernel
theorem dk_D_careOf_94 : decode prog_13_method_86_code 94 = .ok (.ireturn, 1) := by decide +kernel
noncomputable def fx_D_careOf (p1 : Int32) (m : (Nat → Nat → Int32)) : Option Int32 :=
  kv_bind1 (fx_D_get p1 (1 : Int32) m) (fun v1 =>
  kv_let (v1 + (1 : Int32)) (fun v2 =>
  kv_bind1 (fx_D_get p1 (0 : Int32) m) (fun v3 =>
  if v3 = (1 : Int32) then
    some ((10 : Int32) * v2)
  else if v3 = (2 : Int32) then
    some (v2 + (5 : Int32))
  else if v3 = (3 : Int32) then
    some ((2 : Int32) * v2)
  else if v3 = (4 : Int32) then
    kv_bind1 (fx_D_get p1 (2 : Int32) m) (fun v8 =>
    some (((2 : Int32) * v2) + v8))
  else if v3 = (5 : Int32) then
    some (v2 - (1 : Int32))
  else if v3 = (6 : Int32) then
    some (v2 + (50 : Int32))
  else if v3 = (7 : Int32) then
    some (v2 + (3 : Int32))
  else 
  some v2)))
set_option maxRecDepth 20000 in
theorem cx_D_careOf (d : Nat) (p1 : Int32) (c : (Nat → Nat → Int32)) (m : (Nat → Nat → Int32)) (f : (Nat → Int64)) (u : (Nat → Int64)) : ∀ a, fx_D_careOf p1 m = some a → kv_C kM_D_careOf (d + 1) [.ref 84, .int p1] (c, m, f, u) (some (.int a), (c, m, f, u)) := by
  refine kv_entryX (E := fun a : Int32 => (some (.int a), (c, m, f, u))) rfl (Nat.le_of_ble_eq_true rfl) (fun o => ?_)
  unfold fx_D_careOf
  show kv_X _ _ _ _ _ 0 [(0, .ref 84), (1, .int p1)] [] (c, m, f, u)
  refine kv_aload_n (pc := 0) 0 rfl rfl dk_D_careOf_0 ?_
  refine kv_iload_n (pc := 1) 1 rfl rfl dk_D_careOf_1 ?_
  refine kv_iconst (pc := 2) (v := (1 : Int32)) dk_D_careOf_2 kki_1 ?_
  refine kv_cV_mI (pc := 3) (as := [.int p1, .int (1 : Int32)]) (st := []) ko_D_get kc_11 rfl rfl kr_84 kw_1341 (Nat.le_of_ble_eq_true rfl) rfl dk_D_careOf_3 (cx_D_get d p1 (1 : Int32) c m f u) (fun v1 => ?_)
  refine kv_iconst (pc := 6) (v := (1 : Int32)) dk_D_careOf_6 kki_1 ?_
  refine kv_iadd (pc := 7) dk_D_careOf_7 ?_
  refine kv_letI (fun v2 => ?_)
  refine kv_istore_n (pc := 8) (lv' := [(2, .int v2), (0, .ref 84), (1, .int p1)]) rfl (Nat.le_of_ble_eq_true rfl) rfl dk_D_careOf_8 ?_
  refine kv_aload_n (pc := 9) 1 rfl rfl dk_D_careOf_9 ?_
  refine kv_iload_n (pc := 10) 2 rfl rfl dk_D_careOf_10 ?_
  refine kv_iconst (pc := 11) (v := (0 : Int32)) dk_D_careOf_11 kki_0 ?_
  refine kv_cV_mI (pc := 12) (as := [.int p1, .int (0 : Int32)]) (st := []) ko_D_get kc_11 rfl rfl kr_84 kw_1341 (Nat.le_of_ble_eq_true rfl) rfl dk_D_careOf_12 (cx_D_get d p1 (0 : Int32) c m f u) (fun v3 => ?_)
  refine kv_swIn (pc := 15) (v := (1 : Int32)) (tgt := 56) dk_D_careOf_15 (by decide) (by decide) rfl (by decide) ?_ (fun n4 => ?_)
  · refine kv_bipush (pc := 56) (v := (10 : Int32)) dk_D_careOf_56 kkb_10 ?_
    refine kv_iload_n (pc := 58) 0 rfl rfl dk_D_careOf_58 ?_
    refine kv_imul (pc := 59) dk_D_careOf_59 ?_
    exact kv_iret (pc := 60) (fun h => h) rfl dk_D_careOf_60
  refine kv_swIn (pc := 15) (v := (2 : Int32)) (tgt := 61) dk_D_careOf_15 (by decide) (by decide) rfl (by decide) ?_ (fun n5 => ?_)
  · refine kv_iload_n (pc := 61) 0 rfl rfl dk_D_careOf_61 ?_
    refine kv_iconst (pc := 62) (v := (5 : Int32)) dk_D_careOf_62 kki_5 ?_
    refine kv_iadd (pc := 63) dk_D_careOf_63 ?_
    exact kv_iret (pc := 64) (fun h => h) rfl dk_D_careOf_64
  refine kv_swIn (pc := 15) (v := (3 : Int32)) (tgt := 65) dk_D_careOf_15 (by decide) (by decide) rfl (by decide) ?_ (fun n6 => ?_)
  · refine kv_iconst (pc := 65) (v := (2 : Int32)) dk_D_careOf_65 kki_2 ?_
    refine kv_iload_n (pc := 66) 0 rfl rfl dk_D_careOf_66 ?_
    refine kv_imul (pc := 67) dk_D_careOf_67 ?_
    exact kv_iret (pc := 68) (fun h => h) rfl dk_D_careOf_68
  refine kv_swIn (pc := 15) (v := (4 : Int32)) (tgt := 69) dk_D_careOf_15 (by decide) (by decide) rfl (by decide) ?_ (fun n7 => ?_)
  · refine kv_iconst (pc := 69) (v := (2 : Int32)) dk_D_careOf_69 kki_2 ?_
    refine kv_iload_n (pc := 70) 0 rfl rfl dk_D_careOf_70 ?_
    refine kv_imul (pc := 71) dk_D_careOf_71 ?_
    refine kv_aload_n (pc := 72) 1 rfl rfl dk_D_careOf_72 ?_
    refine kv_iload_n (pc := 73) 2 rfl rfl dk_D_careOf_73 ?_
    refine kv_iconst (pc := 74) (v := (2 : Int32)) dk_D_careOf_74 kki_2 ?_
    refine kv_cV_mI (pc := 75) (as := [.int p1, .int (2 : Int32)]) (st := [.int ((2 : Int32) * v2)]) ko_D_get kc_11 rfl rfl kr_84 kw_1341 (Nat.le_of_ble_eq_true rfl) rfl dk_D_careOf_75 (cx_D_get d p1 (2 : Int32) c m f u) (fun v8 => ?_)
    refine kv_iadd (pc := 78) dk_D_careOf_78 ?_
    exact kv_iret (pc := 79) (fun h => h) rfl dk_D_careOf_79
  refine kv_swIn (pc := 15) (v := (5 : Int32)) (tgt := 80) dk_D_careOf_15 (by decide) (by decide) rfl (by decide) ?_ (fun n9 => ?_)
  · refine kv_iload_n (pc := 80) 0 rfl rfl dk_D_careOf_80 ?_
    refine kv_iconst (pc := 81) (v := (1 : Int32)) dk_D_careOf_81 kki_1 ?_
    refine kv_isub (pc := 82) dk_D_careOf_82 ?_
    exact kv_iret (pc := 83) (fun h => h) rfl dk_D_careOf_83
  refine kv_swIn (pc := 15) (v := (6 : Int32)) (tgt := 84) dk_D_careOf_15 (by decide) (by decide) rfl (by decide) ?_ (fun n10 => ?_)
  · refine kv_iload_n (pc := 84) 0 rfl rfl dk_D_careOf_84 ?_
    refine kv_bipush (pc := 85) (v := (50 : Int32)) dk_D_careOf_85 kkb_50 ?_
    refine kv_iadd (pc := 87) dk_D_careOf_87 ?_
    exact kv_iret (pc := 88) (fun h => h) rfl dk_D_careOf_88
  refine kv_swIn (pc := 15) (v := (7 : Int32)) (tgt := 89) dk_D_careOf_15 (by decide) (by decide) rfl (by decide) ?_ (fun n11 => ?_)
  · refine kv_iload_n (pc := 89) 0 rfl rfl dk_D_careOf_89 ?_
    refine kv_iconst (pc := 90) (v := (3 : Int32)) dk_D_careOf_90 kki_3 ?_
    refine kv_iadd (pc := 91) dk_D_careOf_91 ?_
    exact kv_iret (pc := 92) (fun h => h) rfl dk_D_careOf_92
  refine kv_swOut (pc := 15) (tgt := 93) dk_D_careOf_15 (by have qn4 := kv_ne (1 : Int32) (k := 1) rfl n4; have qn5 := kv_ne (2 : Int32) (k := 2) rfl n5; have qn6 := kv_ne (3 : Int32) (k := 3) rfl n6; have qn7 := kv_ne (4 : Int32) (k := 4) rfl n7; have qn9 := kv_ne (5 : Int32) (k := 5) rfl n9; have qn10 := kv_ne (6 : Int32) (k := 6) rfl n10; have qn11 := kv_ne (7 : Int32) (k := 7) rfl n11; omega) (by decide) ?_
  refine kv_iload_n (pc := 93) 0 rfl rfl dk_D_careOf_93 ?_
  exact kv_iret (pc := 94) (fun h => h) rfl dk_D_careOf_94
theorem dk_D_keep_0 : decode prog_13_method_87_code 0 = .ok (.iload_n 1, 1) := by decide +kernel
theorem dk_D_keep_1 : decode prog_13_method_87_code 1 = .ok (.invokestatic 123, 3) := by decide +kernel
theorem dk_D_keep_4 : decode prog_13_method_87_code 4 = .ok (.ifCond .eq 26, 3) := by decide +kernel
theorem dk_D_keep_7 : decode prog_13_method_87_code 7 = .ok (.iload_n 2, 1) := by decide +kernel
theorem dk_D_keep_8 : decode prog_13_method_87_code 8 = .ok (.i2l, 1) := by decide +kernel
theorem dk_D_keep_9 : decode prog_13_method_87_code 9 = .ok (.lconst 0, 1) := by decide +kernel
theorem dk_D_keep_10 : decode prog_13_method_87_code 10 = .ok (.lconst 1, 1) := by decide +kernel
theorem dk_D_keep_11 : decode prog_13_method_87_code 11 = .ok (.invokestatic 60, 3) := by decide +kernel
theorem dk_D_keep_14 : decode prog_13_method_87_code 14 = .ok (.ifCond .eq 16, 3) := by decide +kernel
theorem dk_D_keep_17 : decode prog_13_method_87_code 17 = .ok (.iload_n 2, 1) := by decide +kernel
theorem dk_D_keep_18 : decode prog_13_method_87_code 18 = .ok (.iconst 1, 1) := by decide +kernel
theorem dk_D_keep_19 : decode prog_13_method_87_code 19 = .ok (.if_icmp .ne 13, 3) := by decide +kernel
theorem dk_D_keep_22 : decode prog_13_method_87_code 22 = .ok (.aload_n 0, 1) := by decide +kernel
theorem dk_D_keep_23 : decode prog_13_method_87_code 23 = .ok (.iload_n 3, 1) := by decide +kernel
theorem dk_D_keep_24 : decode prog_13_method_87_code 24 = .ok (.invokevirtual 98, 3) := by decide +kernel
theorem dk_D_keep_27 : decode prog_13_method_87_code 27 = .ok (.ifCond .ne 5, 3) := by decide +kernel
theorem dk_D_keep_30 : decode prog_13_method_87_code 30 = .ok (.iconst (-1), 1) := by decide +kernel
theorem dk_D_keep_31 : decode prog_13_method_87_code 31 = .ok (.ireturn, 1) := by decide +kernel
theorem dk_D_keep_32 : decode prog_13_method_87_code 32 = .ok (.aload_n 0, 1) := by decide +kernel
theorem dk_D_keep_33 : decode prog_13_method_87_code 33 = .ok (.getfield 16, 3) := by decide +kernel
theorem dk_D_keep_36 : decode prog_13_method_87_code 36 = .ok (.iload_n 1, 1) := by decide +kernel
theorem dk_D_keep_37 : decode prog_13_method_87_code 37 = .ok (.iload_n 2, 1) := by decide +kernel
theorem dk_D_keep_38 : decode prog_13_method_87_code 38 = .ok (.iastore, 1) := by decide +kernel
theorem dk_D_keep_39 : decode prog_13_method_87_code 39 = .ok (.iload_n 2, 1) := by decide +kernel
theorem dk_D_keep_40 : decode prog_13_method_87_code 40 = .ok (.ifCond .ne 5, 3) := by decide +kernel
theorem dk_D_keep_43 : decode prog_13_method_87_code 43 = .ok (.iconst 0, 1) := by decide +kernel
theorem dk_D_keep_44 : decode prog_13_method_87_code 44 = .ok (.ireturn, 1) := by decide +kernel
theorem dk_D_keep_45 : decode prog_13_method_87_code 45 = .ok (.aload_n 0, 1) := by decide +kernel
theorem dk_D_keep_46 : decode prog_13_method_87_code 46 = .ok (.iload_n 3, 1) := by decide +kernel
theorem dk_D_keep_47 : decode prog_13_method_87_code 47 = .ok (.iconst 0, 1) := by decide +kernel
theorem dk_D_keep_48 : decode prog_13_method_87_code 48 = .ok (.invokevirtual 68, 3) := by decide +kernel
theorem dk_D_keep_51 : decode prog_13_method_87_code 51 = .ok (.istore 4, 2) := by decide +kernel
theorem dk_D_keep_53 : decode prog_13_method_87_code 53 = .ok (.aload_n 0, 1) := by decide +kernel
theorem dk_D_keep_54 : decode prog_13_method_87_code 54 = .ok (.getfield 28, 3) := by decide +kernel
theorem dk_D_keep_57 : decode prog_13_method_87_code 57 = .ok (.iload_n 1, 1) := by decide +kernel
theorem dk_D_keep_58 : decode prog_13_method_87_code 58 = .ok (.aload_n 0, 1) := by decide +kernel
theorem dk_D_keep_59 : decode prog_13_method_87_code 59 = .ok (.iload_n 3, 1) := by decide +kernel
theorem dk_D_keep_60 : decode prog_13_method_87_code 60 = .ok (.invokevirtual 314, 3) := by decide +kernel
theorem dk_D_keep_63 : decode prog_13_method_87_code 63 = .ok (.iastore, 1) := by decide +kernel
theorem dk_D_keep_64 : decode prog_13_method_87_code 64 = .ok (.aload_n 0, 1) := by decide +kernel
theorem dk_D_keep_65 : decode prog_13_method_87_code 65 = .ok (.getfield 31, 3) := by decide +kernel
theorem dk_D_keep_68 : decode prog_13_method_87_code 68 = .ok (.iload_n 1, 1) := by decide +kernel
theorem dk_D_keep_69 : decode prog_13_method_87_code 69 = .ok (.iload 4, 2) := by decide +kernel
theorem dk_D_keep_71 : decode prog_13_method_87_code 71 = .ok (.iconst 1, 1) := by decide +kernel
theorem dk_D_keep_72 : decode prog_13_method_87_code 72 = .ok (.if_icmp .eq 12, 3) := by decide +kernel
theorem dk_D_keep_75 : decode prog_13_method_87_code 75 = .ok (.aload_n 0, 1) := by decide +kernel
theorem dk_D_keep_76 : decode prog_13_method_87_code 76 = .ok (.iload_n 3, 1) := by decide +kernel
theorem dk_D_keep_77 : decode prog_13_method_87_code 77 = .ok (.iconst 2, 1) := by decide +kernel
theorem dk_D_keep_78 : decode prog_13_method_87_code 78 = .ok (.invokevirtual 68, 3) := by decide +kernel
theorem dk_D_keep_81 : decode prog_13_method_87_code 81 = .ok (.ifCond .ne 8, 3) := by decide +kernel
theorem dk_D_keep_84 : decode prog_13_method_87_code 84 = .ok (.bipush (-15), 2) := by decide +kernel
theorem dk_D_keep_86 : decode prog_13_method_87_code 86 = .ok (.goto 37, 3) := by decide +kernel
theorem dk_D_keep_89 : decode prog_13_method_87_code 89 = .ok (.iload 4, 2) := by decide +kernel
theorem dk_D_keep_91 : decode prog_13_method_87_code 91 = .ok (.bipush 6, 2) := by decide +kernel
theorem dk_D_keep_93 : decode prog_13_method_87_code 93 = .ok (.if_icmp .ne 10, 3) := by decide +kernel
theorem dk_D_keep_96 : decode prog_13_method_87_code 96 = .ok (.bipush 100, 2) := by decide +kernel
theorem dk_D_keep_98 : decode prog_13_method_87_code 98 = .ok (.iload_n 3, 1) := by decide +kernel
theorem dk_D_keep_99 : decode prog_13_method_87_code 99 = .ok (.iadd, 1) := by decide +kernel
theorem dk_D_keep_100 : decode prog_13_method_87_code 100 = .ok (.goto 23, 3) := by decide +kernel
theorem dk_D_keep_103 : decode prog_13_method_87_code 103 = .ok (.iload 4, 2) := by decide +kernel
theorem dk_D_keep_105 : decode prog_13_method_87_code 105 = .ok (.iconst 4, 1) := by decide +kernel
theorem dk_D_keep_106 : decode prog_13_method_87_code 106 = .ok (.if_icmp .ne 16, 3) := by decide +kernel
theorem dk_D_keep_109 : decode prog_13_method_87_code 109 = .ok (.sipush 200, 3) := by decide +kernel
theorem dk_D_keep_112 : decode prog_13_method_87_code 112 = .ok (.aload_n 0, 1) := by decide +kernel
theorem dk_D_keep_113 : decode prog_13_method_87_code 113 = .ok (.iload_n 3, 1) := by decide +kernel
theorem dk_D_keep_114 : decode prog_13_method_87_code 114 = .ok (.iconst 1, 1) := by decide +kernel
theorem dk_D_keep_115 : decode prog_13_method_87_code 115 = .ok (.invokevirtual 68, 3) := by decide +kernel
theorem dk_D_keep_118 : decode prog_13_method_87_code 118 = .ok (.iadd, 1) := by decide +kernel
theorem dk_D_keep_119 : decode prog_13_method_87_code 119 = .ok (.goto 4, 3) := by decide +kernel
theorem dk_D_keep_122 : decode prog_13_method_87_code 122 = .ok (.iload_n 3, 1) := by decide +kernel
theorem dk_D_keep_123 : decode prog_13_method_87_code 123 = .ok (.iastore, 1) := by decide +kernel
theorem dk_D_keep_124 : decode prog_13_method_87_code 124 = .ok (.iconst 0, 1) := by decide +kernel
theorem dk_D_keep_125 : decode prog_13_method_87_code 125 = .ok (.ireturn, 1) := by decide +kernel
noncomputable def fj_D_keep_123 (m7 : (Nat → Nat → Int32)) (p1 : Int32) (x8 : Int32) : Option (Int32 × (Nat → Nat → Int32)) :=
  kv_let (kv_st m7 92 p1.toNatClampNeg x8) (fun m9 =>
  some ((0 : Int32), m9))
noncomputable def fj_D_keep_84 (m7 : (Nat → Nat → Int32)) (p1 : Int32) : Option (Int32 × (Nat → Nat → Int32)) :=
  fj_D_keep_123 m7 p1 (-15 : Int32)
noncomputable def fj_D_keep_32 (p1 : Int32) (m : (Nat → Nat → Int32)) (p2 : Int32) (p3 : Int32) : Option (Int32 × (Nat → Nat → Int32)) :=
  kv_gd (kv_in p1 8) (
  kv_let (kv_st m 87 p1.toNatClampNeg p2) (fun m4 =>
  if p2 = 0 then
    some ((0 : Int32), m4)
  else
    kv_bind1 (fx_D_get p3 (0 : Int32) m4) (fun v5 =>
    kv_bind1 (fx_D_careOf p3 m4) (fun v6 =>
    kv_let (kv_st m4 91 p1.toNatClampNeg v6) (fun m7 =>
    if v5 = (1 : Int32) then
      fj_D_keep_84 m7 p1
    else
      kv_bind1 (fx_D_get p3 (2 : Int32) m7) (fun v10 =>
      if v10 = 0 then
        fj_D_keep_84 m7 p1
      else
        if v5 = (6 : Int32) then
          fj_D_keep_123 m7 p1 ((100 : Int32) + p3)
        else
          if v5 = (4 : Int32) then
            kv_bind1 (fx_D_get p3 (1 : Int32) m7) (fun v11 =>
            fj_D_keep_123 m7 p1 ((200 : Int32) + v11))
          else
            fj_D_keep_123 m7 p1 p3))))))
noncomputable def fx_D_keep (p1 : Int32) (p2 : Int32) (p3 : Int32) (m : (Nat → Nat → Int32)) : Option (Int32 × (Nat → Nat → Int32)) :=
  kv_bind1 (fx_D_isShelf p1) (fun b1 =>
  if b1 = true then
    kv_bind1 (fx_D_isIn p2.toInt64 (0 : Int64) (1 : Int64)) (fun b2 =>
    if b2 = true then
      if p2 = (1 : Int32) then
        kv_bind1 (fx_D_isLump p3 m) (fun b12 =>
        if b12 = true then
          fj_D_keep_32 p1 m p2 p3
        else
          some ((-1 : Int32), m))
      else
        fj_D_keep_32 p1 m p2 p3
    else
      some ((-1 : Int32), m))
  else
    some ((-1 : Int32), m))
set_option maxRecDepth 20000 in
theorem cx_D_keep (d : Nat) (p1 : Int32) (p2 : Int32) (p3 : Int32) (c : (Nat → Nat → Int32)) (m : (Nat → Nat → Int32)) (f : (Nat → Int64)) (u : (Nat → Int64)) : ∀ a, fx_D_keep p1 p2 p3 m = some a → kv_C kM_D_keep (d + 2) [.ref 84, .int p1, .int p2, .int p3] (c, m, f, u) (some (.int a.1), (c, a.2, f, u)) := by
  refine kv_entryX (E := fun a : (Int32 × (Nat → Nat → Int32)) => (some (.int a.1), (c, a.2, f, u))) rfl (Nat.le_of_ble_eq_true rfl) (fun o => ?_)
  unfold fx_D_keep
  show kv_X _ _ _ _ _ 0 [(0, .ref 84), (1, .int p1), (2, .int p2), (3, .int p3)] [] (c, m, f, u)
  refine kv_iload_n (pc := 0) 1 rfl rfl dk_D_keep_0 ?_
  refine kv_cS_mZ (pc := 1) (as := [.int p1]) (st := []) ko_D_isShelf rfl kw_1416 (Nat.le_of_ble_eq_true rfl) rfl dk_D_keep_1 (cx_D_isShelf d p1 c m f u) (fun b1 => ?_)
  refine kv_zif_eq (pc := 4) (tgt := 30) dk_D_keep_4 rfl ?_ ?_
  · refine kv_iconst (pc := 30) (v := (-1 : Int32)) dk_D_keep_30 kki_m1 ?_
    exact kv_iret (pc := 31) (fun h => h) rfl dk_D_keep_31
  · refine kv_iload_n (pc := 7) 2 rfl rfl dk_D_keep_7 ?_
    refine kv_i2l (pc := 8) dk_D_keep_8 ?_
    refine kv_lconst (pc := 9) (v := (0 : Int64)) dk_D_keep_9 kkl_0 ?_
    refine kv_lconst (pc := 10) (v := (1 : Int64)) dk_D_keep_10 kkl_1 ?_
    refine kv_cS_mZ (pc := 11) (as := [.long p2.toInt64, .long (0 : Int64), .long (1 : Int64)]) (st := []) ko_D_isIn rfl kw_1330 (Nat.le_of_ble_eq_true rfl) rfl dk_D_keep_11 (cx_D_isIn (d + 1) p2.toInt64 (0 : Int64) (1 : Int64) c m f u) (fun b2 => ?_)
    refine kv_zif_eq (pc := 14) (tgt := 30) dk_D_keep_14 rfl ?_ ?_
    · refine kv_iconst (pc := 30) (v := (-1 : Int32)) dk_D_keep_30 kki_m1 ?_
      exact kv_iret (pc := 31) (fun h => h) rfl dk_D_keep_31
    · refine kv_iload_n (pc := 17) 2 rfl rfl dk_D_keep_17 ?_
      refine kv_iconst (pc := 18) (v := (1 : Int32)) dk_D_keep_18 kki_1 ?_
      refine kv_cut_0 (J := fj_D_keep_32 p1 m p2 p3) (pcj := 32) (LJ := [(0, .ref 84), (1, .int p1), (2, .int p2), (3, .int p3)]) (SJ := []) (WJ := (c, m, f, u)) ?_ (fun hj32 => ?_)
      · show kv_X _ _ _ _ (fj_D_keep_32 p1 m p2 p3) 32 [(0, .ref 84), (1, .int p1), (2, .int p2), (3, .int p3)] [] (c, m, f, u)
        unfold fj_D_keep_32
        refine kv_aload_n (pc := 32) 0 rfl rfl dk_D_keep_32 ?_
        refine kv_getR (pc := 33) kf_D_16 kr_84 rfl kt_84_2 dk_D_keep_33 ?_
        refine kv_iload_n (pc := 36) 1 rfl rfl dk_D_keep_36 ?_
        refine kv_iload_n (pc := 37) 2 rfl rfl dk_D_keep_37 ?_
        refine kv_guard (fun g3 => ?_)
        refine kv_astM (pc := 38) kr_87 kn_87 kl_87 g3 rfl dk_D_keep_38 (fun m4 => ?_)
        refine kv_iload_n (pc := 39) 2 rfl rfl dk_D_keep_39 ?_
        refine kv_if_ne (pc := 40) (tgt := 45) dk_D_keep_40 rfl ?_ ?_
        · refine kv_aload_n (pc := 45) 0 rfl rfl dk_D_keep_45 ?_
          refine kv_iload_n (pc := 46) 3 rfl rfl dk_D_keep_46 ?_
          refine kv_iconst (pc := 47) (v := (0 : Int32)) dk_D_keep_47 kki_0 ?_
          refine kv_cV_mI (pc := 48) (as := [.int p3, .int (0 : Int32)]) (st := []) ko_D_get kc_11 rfl rfl kr_84 kw_1341 (Nat.le_of_ble_eq_true rfl) rfl dk_D_keep_48 (cx_D_get (d + 1) p3 (0 : Int32) c m4 f u) (fun v5 => ?_)
          refine kv_istore (pc := 51) (lv' := [(4, .int v5), (0, .ref 84), (1, .int p1), (2, .int p2), (3, .int p3)]) rfl (Nat.le_of_ble_eq_true rfl) dk_D_keep_51 ?_
          refine kv_aload_n (pc := 53) 1 rfl rfl dk_D_keep_53 ?_
          refine kv_getR (pc := 54) kf_D_28 kr_84 rfl kt_84_6 dk_D_keep_54 ?_
          refine kv_iload_n (pc := 57) 2 rfl rfl dk_D_keep_57 ?_
          refine kv_aload_n (pc := 58) 1 rfl rfl dk_D_keep_58 ?_
          refine kv_iload_n (pc := 59) 4 rfl rfl dk_D_keep_59 ?_
          refine kv_cV_mI (pc := 60) (as := [.int p3]) (st := [.int p1, .ref 91]) ko_D_careOf kc_11 rfl rfl kr_84 kw_1685 (Nat.le_of_ble_eq_true rfl) rfl dk_D_keep_60 (cx_D_careOf d p3 c m4 f u) (fun v6 => ?_)
          refine kv_astM (pc := 63) kr_91 kn_91 kl_91 g3 rfl dk_D_keep_63 (fun m7 => ?_)
          refine kv_aload_n (pc := 64) 1 rfl rfl dk_D_keep_64 ?_
          refine kv_getR (pc := 65) kf_D_31 kr_84 rfl kt_84_7 dk_D_keep_65 ?_
          refine kv_iload_n (pc := 68) 2 rfl rfl dk_D_keep_68 ?_
          refine kv_iload (pc := 69) 0 rfl dk_D_keep_69 ?_
          refine kv_iconst (pc := 71) (v := (1 : Int32)) dk_D_keep_71 kki_1 ?_
          refine kv_cut_1 (J := fj_D_keep_123 m7 p1) (pcj := 123) (LJ := fun x8 => []) (SJ := fun x8 => [.int x8, .int p1, .ref 92]) (WJ := fun x8 => (c, m7, f, u)) ?_ (fun hj123 => ?_)
          · intro x8
            show kv_X _ _ _ _ (fj_D_keep_123 m7 p1 x8) 123 [] [.int x8, .int p1, .ref 92] (c, m7, f, u)
            unfold fj_D_keep_123
            refine kv_astM (pc := 123) kr_92 kn_92 kl_92 g3 rfl dk_D_keep_123 (fun m9 => ?_)
            refine kv_iconst (pc := 124) (v := (0 : Int32)) dk_D_keep_124 kki_0 ?_
            exact kv_iret (pc := 125) (fun h => h) rfl dk_D_keep_125
          refine kv_cut_0 (J := fj_D_keep_84 m7 p1) (pcj := 84) (LJ := []) (SJ := [.int p1, .ref 92]) (WJ := (c, m7, f, u)) ?_ (fun hj84 => ?_)
          · show kv_X _ _ _ _ (fj_D_keep_84 m7 p1) 84 [] [.int p1, .ref 92] (c, m7, f, u)
            unfold fj_D_keep_84
            refine kv_bipush (pc := 84) (v := (-15 : Int32)) dk_D_keep_84 kkb_m15 ?_
            refine kv_goto (pc := 86) (tgt := 123) dk_D_keep_86 rfl ?_
            exact hj123 (-15 : Int32)
          refine kv_icmp_eq (pc := 72) (tgt := 84) dk_D_keep_72 rfl ?_ ?_
          · exact kv_sub [] rfl (hj84)
          · refine kv_aload_n (pc := 75) 1 rfl rfl dk_D_keep_75 ?_
            refine kv_iload_n (pc := 76) 4 rfl rfl dk_D_keep_76 ?_
            refine kv_iconst (pc := 77) (v := (2 : Int32)) dk_D_keep_77 kki_2 ?_
            refine kv_cV_mI (pc := 78) (as := [.int p3, .int (2 : Int32)]) (st := [.int p1, .ref 92]) ko_D_get kc_11 rfl rfl kr_84 kw_1341 (Nat.le_of_ble_eq_true rfl) rfl dk_D_keep_78 (cx_D_get (d + 1) p3 (2 : Int32) c m7 f u) (fun v10 => ?_)
            refine kv_if_ne (pc := 81) (tgt := 89) dk_D_keep_81 rfl ?_ ?_
            · refine kv_iload (pc := 89) 0 rfl dk_D_keep_89 ?_
              refine kv_bipush (pc := 91) (v := (6 : Int32)) dk_D_keep_91 kkb_6 ?_
              refine kv_icmp_ne (pc := 93) (tgt := 103) dk_D_keep_93 rfl ?_ ?_
              · refine kv_iload (pc := 103) 0 rfl dk_D_keep_103 ?_
                refine kv_iconst (pc := 105) (v := (4 : Int32)) dk_D_keep_105 kki_4 ?_
                refine kv_icmp_ne (pc := 106) (tgt := 122) dk_D_keep_106 rfl ?_ ?_
                · refine kv_iload_n (pc := 122) 4 rfl rfl dk_D_keep_122 ?_
                  exact kv_sub [] rfl (hj123 p3)
                · refine kv_sipush (pc := 109) (v := (200 : Int32)) dk_D_keep_109 kks_200 ?_
                  refine kv_aload_n (pc := 112) 1 rfl rfl dk_D_keep_112 ?_
                  refine kv_iload_n (pc := 113) 4 rfl rfl dk_D_keep_113 ?_
                  refine kv_iconst (pc := 114) (v := (1 : Int32)) dk_D_keep_114 kki_1 ?_
                  refine kv_cV_mI (pc := 115) (as := [.int p3, .int (1 : Int32)]) (st := [.int (200 : Int32), .int p1, .ref 92]) ko_D_get kc_11 rfl rfl kr_84 kw_1341 (Nat.le_of_ble_eq_true rfl) rfl dk_D_keep_115 (cx_D_get (d + 1) p3 (1 : Int32) c m7 f u) (fun v11 => ?_)
                  refine kv_iadd (pc := 118) dk_D_keep_118 ?_
                  refine kv_goto (pc := 119) (tgt := 123) dk_D_keep_119 rfl ?_
                  exact kv_sub [] rfl (hj123 ((200 : Int32) + v11))
              · refine kv_bipush (pc := 96) (v := (100 : Int32)) dk_D_keep_96 kkb_100 ?_
                refine kv_iload_n (pc := 98) 4 rfl rfl dk_D_keep_98 ?_
                refine kv_iadd (pc := 99) dk_D_keep_99 ?_
                refine kv_goto (pc := 100) (tgt := 123) dk_D_keep_100 rfl ?_
                exact kv_sub [] rfl (hj123 ((100 : Int32) + p3))
            · exact kv_sub [] rfl (hj84)
        · refine kv_iconst (pc := 43) (v := (0 : Int32)) dk_D_keep_43 kki_0 ?_
          exact kv_iret (pc := 44) (fun h => h) rfl dk_D_keep_44
      refine kv_icmp_ne (pc := 19) (tgt := 32) dk_D_keep_19 rfl ?_ ?_
      · exact hj32
      · refine kv_aload_n (pc := 22) 0 rfl rfl dk_D_keep_22 ?_
        refine kv_iload_n (pc := 23) 3 rfl rfl dk_D_keep_23 ?_
        refine kv_cV_mZ (pc := 24) (as := [.int p3]) (st := []) ko_D_isLump kc_11 rfl rfl kr_84 kw_1362 (Nat.le_of_ble_eq_true rfl) rfl dk_D_keep_24 (cx_D_isLump d p3 c m f u) (fun b12 => ?_)
        refine kv_zif_ne (pc := 27) (tgt := 32) dk_D_keep_27 rfl ?_ ?_
        · exact hj32
        · refine kv_iconst (pc := 30) (v := (-1 : Int32)) dk_D_keep_30 kki_m1 ?_
          exact kv_iret (pc := 31) (fun h => h) rfl dk_D_keep_31
noncomputable def fb_Arr_fill_s_5 (v1 : Int32) (r0 : Nat) (p1 : Int32) (x2 : Int32) (c3 : (Nat → Nat → Int32)) : Option ((Int32 × (Nat → Nat → Int32)) ⊕ (Nat → Nat → Int32)) :=
  if v1 ≤ x2 then
    some (.inr c3)
  else
    kv_gd (kv_in x2 (kv_ln r0)) (
    kv_let (kv_st c3 r0 x2.toNatClampNeg p1) (fun c6 =>
    some (.inl ((x2 + (1 : Int32)), c6))))
noncomputable def fx_Arr_fill_s (r0 : Nat) (p1 : Int32) (c : (Nat → Nat → Int32)) : Option (Nat → Nat → Int32) :=
  kv_let (Int32.ofNat (kv_ln r0)) (fun v1 =>
  (kv_loop (kv_u2 (fb_Arr_fill_s_5 v1 r0 p1)) ((0 : Int32), c)).bind (kv_u1 (fun c4 =>
  some c4)))
set_option maxRecDepth 20000 in
theorem cx_Arr_fill_s (d : Nat) (r0 : Nat) (p1 : Int32) (c : (Nat → Nat → Int32)) (y : (Nat → Nat → Int32) × (Nat → Int64) × (Nat → Int64)) (h0 : kv_kd r0 = 12) (hc0 : r0 < kv_NC) : ∀ a, fx_Arr_fill_s r0 p1 c = some a → kv_C kM_Arr_fill (d + 0) [.ref r0, .int p1] (c, y) (none, (a, y)) := by
  refine kv_entryX (E := fun a : (Nat → Nat → Int32) => (none, (a, y))) rfl (Nat.le_of_ble_eq_true rfl) (fun o => ?_)
  unfold fx_Arr_fill_s
  show kv_X _ _ _ _ _ 0 [(0, .ref r0), (1, .int p1)] [] (c, y)
  refine kv_iconst (pc := 0) (v := (0 : Int32)) dk_Arr_fill_0 kki_0 ?_
  refine kv_istore_n (pc := 1) (lv' := [(2, .int (0 : Int32)), (0, .ref r0), (1, .int p1)]) rfl (Nat.le_of_ble_eq_true rfl) rfl dk_Arr_fill_1 ?_
  refine kv_aload_n (pc := 2) 1 rfl rfl dk_Arr_fill_2 ?_
  refine kv_alen (pc := 3) h0 rfl (v := (Int32.ofNat (kv_ln r0))) rfl dk_Arr_fill_3 ?_
  refine kv_letI (fun v1 => ?_)
  refine kv_istore_n (pc := 4) (lv' := [(3, .int v1), (2, .int (0 : Int32)), (0, .ref r0), (1, .int p1)]) rfl (Nat.le_of_ble_eq_true rfl) rfl dk_Arr_fill_4 ?_
  refine kv_sub (lv' := [(0, .ref r0), (1, .int p1), (2, .int (0 : Int32)), (3, .int v1)]) [2, 3, 1, 0] rfl ?_
  refine kv_lp_2_1 (LV := fun x2 c3 => [(0, .ref r0), (1, .int p1), (2, .int x2), (3, .int v1)]) (WW := fun x2 c3 => (c3, y)) (LE1 := fun c4 => []) (WE1 := fun c4 => (c4, y)) (pe1 := 20) ?_ ?_
  · intro c4
    show kv_X _ _ _ _ _ 20 [] [] (c4, y)
    exact kv_vret (pc := 20) (fun h => h) rfl dk_Arr_fill_20
  · intro hx5_0 x2 c3
    show kv_X _ _ _ _ (fb_Arr_fill_s_5 v1 r0 p1 x2 c3) 5 [(0, .ref r0), (1, .int p1), (2, .int x2), (3, .int v1)] [] (c3, y)
    unfold fb_Arr_fill_s_5
    refine kv_iload_n (pc := 5) 2 rfl rfl dk_Arr_fill_5 ?_
    refine kv_iload_n (pc := 6) 3 rfl rfl dk_Arr_fill_6 ?_
    refine kv_icmp_ge (pc := 7) (tgt := 20) dk_Arr_fill_7 rfl ?_ ?_
    · exact kv_sub [] rfl (kv_leaf (hx5_0 _))
    · refine kv_aload_n (pc := 10) 0 rfl rfl dk_Arr_fill_10 ?_
      refine kv_iload_n (pc := 11) 2 rfl rfl dk_Arr_fill_11 ?_
      refine kv_iload_n (pc := 12) 1 rfl rfl dk_Arr_fill_12 ?_
      refine kv_guard (fun g5 => ?_)
      refine kv_astC (pc := 13) h0 hc0 rfl g5 rfl dk_Arr_fill_13 (fun c6 => ?_)
      refine kv_iinc (pc := 14) (kk := (1 : Int32)) (lv' := [(2, .int (x2 + (1 : Int32))), (0, .ref r0), (1, .int p1), (3, .int v1)]) 2 rfl kki_1 rfl (Nat.le_of_ble_eq_true rfl) dk_Arr_fill_14 ?_
      refine kv_goto (pc := 17) (tgt := 5) dk_Arr_fill_17 rfl ?_
      exact kv_sub [1, 2, 0, 3] rfl (kv_leaf (fun h => h))
theorem dk_Shelf_holdRow_0 : decode prog_9_method_6_code 0 = .ok (.aload_n 0, 1) := by decide +kernel
theorem dk_Shelf_holdRow_1 : decode prog_9_method_6_code 1 = .ok (.iconst 2, 1) := by decide +kernel
theorem dk_Shelf_holdRow_2 : decode prog_9_method_6_code 2 = .ok (.putfield 15, 3) := by decide +kernel
theorem dk_Shelf_holdRow_5 : decode prog_9_method_6_code 5 = .ok (.aload_n 0, 1) := by decide +kernel
theorem dk_Shelf_holdRow_6 : decode prog_9_method_6_code 6 = .ok (.iload_n 1, 1) := by decide +kernel
theorem dk_Shelf_holdRow_7 : decode prog_9_method_6_code 7 = .ok (.putfield 39, 3) := by decide +kernel
theorem dk_Shelf_holdRow_10 : decode prog_9_method_6_code 10 = .ok (.aload_n 0, 1) := by decide +kernel
theorem dk_Shelf_holdRow_11 : decode prog_9_method_6_code 11 = .ok (.iload_n 2, 1) := by decide +kernel
theorem dk_Shelf_holdRow_12 : decode prog_9_method_6_code 12 = .ok (.putfield 42, 3) := by decide +kernel
theorem dk_Shelf_holdRow_15 : decode prog_9_method_6_code 15 = .ok (.aload_n 0, 1) := by decide +kernel
theorem dk_Shelf_holdRow_16 : decode prog_9_method_6_code 16 = .ok (.getfield 9, 3) := by decide +kernel
theorem dk_Shelf_holdRow_19 : decode prog_9_method_6_code 19 = .ok (.iconst 0, 1) := by decide +kernel
theorem dk_Shelf_holdRow_20 : decode prog_9_method_6_code 20 = .ok (.invokestatic 45, 3) := by decide +kernel
theorem dk_Shelf_holdRow_23 : decode prog_9_method_6_code 23 = .ok (.return_, 1) := by decide +kernel
noncomputable def fx_Shelf_holdRow (r0 : Nat) (p1 : Int32) (p2 : Int32) (c : (Nat → Nat → Int32)) : Option (Nat → Nat → Int32) :=
  kv_let (kv_st c r0 1 (2 : Int32)) (fun c1 =>
  kv_let (kv_st c1 r0 2 p1) (fun c2 =>
  kv_let (kv_st c2 r0 3 p2) (fun c3 =>
  kv_bind1 (fx_Arr_fill_s (kv_tg r0 0) (0 : Int32) c3) (fun c4 =>
  some c4))))
set_option maxRecDepth 20000 in
theorem cx_Shelf_holdRow (d : Nat) (r0 : Nat) (p1 : Int32) (p2 : Int32) (c : (Nat → Nat → Int32)) (y : (Nat → Nat → Int32) × (Nat → Int64) × (Nat → Int64)) (h0 : kv_kd r0 = 7) : ∀ a, fx_Shelf_holdRow r0 p1 p2 c = some a → kv_C kM_Shelf_holdRow (d + 1) [.ref r0, .int p1, .int p2] (c, y) (none, (a, y)) := by
  refine kv_entryX (E := fun a : (Nat → Nat → Int32) => (none, (a, y))) rfl (Nat.le_of_ble_eq_true rfl) (fun o => ?_)
  unfold fx_Shelf_holdRow
  show kv_X _ _ _ _ _ 0 [(0, .ref r0), (1, .int p1), (2, .int p2)] [] (c, y)
  refine kv_aload_n (pc := 0) 0 rfl rfl dk_Shelf_holdRow_0 ?_
  refine kv_iconst (pc := 1) (v := (2 : Int32)) dk_Shelf_holdRow_1 kki_2 ?_
  refine kv_putC (pc := 2) kf_Shelf_15 h0 (kv_7nc h0) rfl rfl rfl dk_Shelf_holdRow_2 (fun c1 => ?_)
  refine kv_aload_n (pc := 5) 0 rfl rfl dk_Shelf_holdRow_5 ?_
  refine kv_iload_n (pc := 6) 1 rfl rfl dk_Shelf_holdRow_6 ?_
  refine kv_putC (pc := 7) kf_Shelf_39 h0 (kv_7nc h0) rfl rfl rfl dk_Shelf_holdRow_7 (fun c2 => ?_)
  refine kv_aload_n (pc := 10) 0 rfl rfl dk_Shelf_holdRow_10 ?_
  refine kv_iload_n (pc := 11) 2 rfl rfl dk_Shelf_holdRow_11 ?_
  refine kv_putC (pc := 12) kf_Shelf_42 h0 (kv_7nc h0) rfl rfl rfl dk_Shelf_holdRow_12 (fun c3 => ?_)
  refine kv_aload_n (pc := 15) 0 rfl rfl dk_Shelf_holdRow_15 ?_
  refine kv_getR (pc := 16) kf_Shelf_9 h0 rfl rfl dk_Shelf_holdRow_16 ?_
  refine kv_iconst (pc := 19) (v := (0 : Int32)) dk_Shelf_holdRow_19 kki_0 ?_
  refine kv_cS_cc (pc := 20) (as := [.ref (kv_tg r0 0), .int (0 : Int32)]) (st := []) ko_Arr_fill rfl kw_1107 (Nat.le_of_ble_eq_true rfl) rfl dk_Shelf_holdRow_20 (cx_Arr_fill_s d (kv_tg r0 0) (0 : Int32) c3 y (kv_7e h0) (kv_7enc h0)) (fun c4 => ?_)
  exact kv_vret (pc := 23) (fun h => h) rfl dk_Shelf_holdRow_23
theorem dk_K_row_0 : decode prog_1_method_34_code 0 = .ok (.iload_n 1, 1) := by decide +kernel
theorem dk_K_row_1 : decode prog_1_method_34_code 1 = .ok (.invokestatic 368, 3) := by decide +kernel
theorem dk_K_row_4 : decode prog_1_method_34_code 4 = .ok (.ifCond .eq 18, 3) := by decide +kernel
theorem dk_K_row_7 : decode prog_1_method_34_code 7 = .ok (.iload_n 2, 1) := by decide +kernel
theorem dk_K_row_8 : decode prog_1_method_34_code 8 = .ok (.iconst 0, 1) := by decide +kernel
theorem dk_K_row_9 : decode prog_1_method_34_code 9 = .ok (.iconst 2, 1) := by decide +kernel
theorem dk_K_row_10 : decode prog_1_method_34_code 10 = .ok (.invokestatic 54, 3) := by decide +kernel
theorem dk_K_row_13 : decode prog_1_method_34_code 13 = .ok (.ifCond .eq 9, 3) := by decide +kernel
theorem dk_K_row_16 : decode prog_1_method_34_code 16 = .ok (.iload_n 3, 1) := by decide +kernel
theorem dk_K_row_17 : decode prog_1_method_34_code 17 = .ok (.bipush 100, 2) := by decide +kernel
theorem dk_K_row_19 : decode prog_1_method_34_code 19 = .ok (.if_icmp .le 5, 3) := by decide +kernel
theorem dk_K_row_22 : decode prog_1_method_34_code 22 = .ok (.iconst (-1), 1) := by decide +kernel
theorem dk_K_row_23 : decode prog_1_method_34_code 23 = .ok (.ireturn, 1) := by decide +kernel
theorem dk_K_row_24 : decode prog_1_method_34_code 24 = .ok (.iload_n 3, 1) := by decide +kernel
theorem dk_K_row_25 : decode prog_1_method_34_code 25 = .ok (.ifCond .ge 6, 3) := by decide +kernel
theorem dk_K_row_28 : decode prog_1_method_34_code 28 = .ok (.bipush (-14), 2) := by decide +kernel
theorem dk_K_row_30 : decode prog_1_method_34_code 30 = .ok (.ireturn, 1) := by decide +kernel
theorem dk_K_row_31 : decode prog_1_method_34_code 31 = .ok (.aload_n 0, 1) := by decide +kernel
theorem dk_K_row_32 : decode prog_1_method_34_code 32 = .ok (.getfield 21, 3) := by decide +kernel
theorem dk_K_row_35 : decode prog_1_method_34_code 35 = .ok (.iload_n 1, 1) := by decide +kernel
theorem dk_K_row_36 : decode prog_1_method_34_code 36 = .ok (.aaload, 1) := by decide +kernel
theorem dk_K_row_37 : decode prog_1_method_34_code 37 = .ok (.iload_n 2, 1) := by decide +kernel
theorem dk_K_row_38 : decode prog_1_method_34_code 38 = .ok (.iload_n 3, 1) := by decide +kernel
theorem dk_K_row_39 : decode prog_1_method_34_code 39 = .ok (.invokevirtual 378, 3) := by decide +kernel
theorem dk_K_row_42 : decode prog_1_method_34_code 42 = .ok (.iconst 0, 1) := by decide +kernel
theorem dk_K_row_43 : decode prog_1_method_34_code 43 = .ok (.ireturn, 1) := by decide +kernel
noncomputable def fx_K_row (p1 : Int32) (p2 : Int32) (p3 : Int32) (c : (Nat → Nat → Int32)) : Option (Int32 × (Nat → Nat → Int32)) :=
  kv_bind1 (fx_K_isShelf p1) (fun b1 =>
  if b1 = true then
    kv_bind1 (fx_K_isWithin p2 (0 : Int32) (2 : Int32)) (fun b2 =>
    if b2 = true then
      if p3 ≤ (100 : Int32) then
        if 0 ≤ p3 then
          kv_gd (kv_in p1 8) (
          kv_bind1 (fx_Shelf_holdRow (kv_tg 51 p1.toNatClampNeg) p2 p3 c) (fun c4 =>
          some ((0 : Int32), c4)))
        else
          some ((-14 : Int32), c)
      else
        some ((-1 : Int32), c)
    else
      some ((-1 : Int32), c))
  else
    some ((-1 : Int32), c))
set_option maxRecDepth 20000 in
theorem cx_K_row (d : Nat) (p1 : Int32) (p2 : Int32) (p3 : Int32) (c : (Nat → Nat → Int32)) (y : (Nat → Nat → Int32) × (Nat → Int64) × (Nat → Int64)) : ∀ a, fx_K_row p1 p2 p3 c = some a → kv_C kM_K_row (d + 2) [.ref 0, .int p1, .int p2, .int p3] (c, y) (some (.int a.1), (a.2, y)) := by
  refine kv_entryX (E := fun a : (Int32 × (Nat → Nat → Int32)) => (some (.int a.1), (a.2, y))) rfl (Nat.le_of_ble_eq_true rfl) (fun o => ?_)
  unfold fx_K_row
  show kv_X _ _ _ _ _ 0 [(0, .ref 0), (1, .int p1), (2, .int p2), (3, .int p3)] [] (c, y)
  refine kv_iload_n (pc := 0) 1 rfl rfl dk_K_row_0 ?_
  refine kv_cS_cZ (pc := 1) (as := [.int p1]) (st := []) ko_K_isShelf rfl kw_624 (Nat.le_of_ble_eq_true rfl) rfl dk_K_row_1 (cx_K_isShelf d p1 c y) (fun b1 => ?_)
  refine kv_zif_eq (pc := 4) (tgt := 22) dk_K_row_4 rfl ?_ ?_
  · refine kv_iconst (pc := 22) (v := (-1 : Int32)) dk_K_row_22 kki_m1 ?_
    exact kv_iret (pc := 23) (fun h => h) rfl dk_K_row_23
  · refine kv_iload_n (pc := 7) 2 rfl rfl dk_K_row_7 ?_
    refine kv_iconst (pc := 8) (v := (0 : Int32)) dk_K_row_8 kki_0 ?_
    refine kv_iconst (pc := 9) (v := (2 : Int32)) dk_K_row_9 kki_2 ?_
    refine kv_cS_cZ (pc := 10) (as := [.int p2, .int (0 : Int32), .int (2 : Int32)]) (st := []) ko_K_isWithin rfl kw_512 (Nat.le_of_ble_eq_true rfl) rfl dk_K_row_10 (cx_K_isWithin (d + 1) p2 (0 : Int32) (2 : Int32) c y) (fun b2 => ?_)
    refine kv_zif_eq (pc := 13) (tgt := 22) dk_K_row_13 rfl ?_ ?_
    · refine kv_iconst (pc := 22) (v := (-1 : Int32)) dk_K_row_22 kki_m1 ?_
      exact kv_iret (pc := 23) (fun h => h) rfl dk_K_row_23
    · refine kv_iload_n (pc := 16) 3 rfl rfl dk_K_row_16 ?_
      refine kv_bipush (pc := 17) (v := (100 : Int32)) dk_K_row_17 kkb_100 ?_
      refine kv_icmp_le (pc := 19) (tgt := 24) dk_K_row_19 rfl ?_ ?_
      · refine kv_iload_n (pc := 24) 3 rfl rfl dk_K_row_24 ?_
        refine kv_if_ge (pc := 25) (tgt := 31) dk_K_row_25 rfl ?_ ?_
        · refine kv_aload_n (pc := 31) 0 rfl rfl dk_K_row_31 ?_
          refine kv_getR (pc := 32) kf_K_21 kr_0 rfl kt_0_3 dk_K_row_32 ?_
          refine kv_iload_n (pc := 35) 1 rfl rfl dk_K_row_35 ?_
          refine kv_guard (fun g3 => ?_)
          refine kv_aald (pc := 36) kr_51 kl_51 g3 rfl dk_K_row_36 ?_
          refine kv_iload_n (pc := 37) 2 rfl rfl dk_K_row_37 ?_
          refine kv_iload_n (pc := 38) 3 rfl rfl dk_K_row_38 ?_
          refine kv_cV_cc (pc := 39) (as := [.int p2, .int p3]) (st := []) ko_Shelf_holdRow kc_7 rfl rfl (kv_sh g3) kw_1103 (Nat.le_of_ble_eq_true rfl) rfl dk_K_row_39 (cx_Shelf_holdRow d (kv_tg 51 p1.toNatClampNeg) p2 p3 c y (kv_sh g3)) (fun c4 => ?_)
          refine kv_iconst (pc := 42) (v := (0 : Int32)) dk_K_row_42 kki_0 ?_
          exact kv_iret (pc := 43) (fun h => h) rfl dk_K_row_43
        · refine kv_bipush (pc := 28) (v := (-14 : Int32)) dk_K_row_28 kkb_m14 ?_
          exact kv_iret (pc := 30) (fun h => h) rfl dk_K_row_30
      · refine kv_iconst (pc := 22) (v := (-1 : Int32)) dk_K_row_22 kki_m1 ?_
        exact kv_iret (pc := 23) (fun h => h) rfl dk_K_row_23
theorem dk_D_row_0 : decode prog_13_method_88_code 0 = .ok (.iload_n 1, 1) := by decide +kernel
theorem dk_D_row_1 : decode prog_13_method_88_code 1 = .ok (.invokestatic 123, 3) := by decide +kernel
theorem dk_D_row_4 : decode prog_13_method_88_code 4 = .ok (.ifCond .eq 21, 3) := by decide +kernel
theorem dk_D_row_7 : decode prog_13_method_88_code 7 = .ok (.iload_n 2, 1) := by decide +kernel
theorem dk_D_row_8 : decode prog_13_method_88_code 8 = .ok (.i2l, 1) := by decide +kernel
theorem dk_D_row_9 : decode prog_13_method_88_code 9 = .ok (.lconst 0, 1) := by decide +kernel
theorem dk_D_row_10 : decode prog_13_method_88_code 10 = .ok (.ldc2_w 103, 3) := by decide +kernel
theorem dk_D_row_13 : decode prog_13_method_88_code 13 = .ok (.invokestatic 60, 3) := by decide +kernel
theorem dk_D_row_16 : decode prog_13_method_88_code 16 = .ok (.ifCond .eq 9, 3) := by decide +kernel
theorem dk_D_row_19 : decode prog_13_method_88_code 19 = .ok (.iload_n 3, 1) := by decide +kernel
theorem dk_D_row_20 : decode prog_13_method_88_code 20 = .ok (.bipush 100, 2) := by decide +kernel
theorem dk_D_row_22 : decode prog_13_method_88_code 22 = .ok (.if_icmp .le 5, 3) := by decide +kernel
theorem dk_D_row_25 : decode prog_13_method_88_code 25 = .ok (.iconst (-1), 1) := by decide +kernel
theorem dk_D_row_26 : decode prog_13_method_88_code 26 = .ok (.ireturn, 1) := by decide +kernel
theorem dk_D_row_27 : decode prog_13_method_88_code 27 = .ok (.iload_n 3, 1) := by decide +kernel
theorem dk_D_row_28 : decode prog_13_method_88_code 28 = .ok (.ifCond .ge 6, 3) := by decide +kernel
theorem dk_D_row_31 : decode prog_13_method_88_code 31 = .ok (.bipush (-14), 2) := by decide +kernel
theorem dk_D_row_33 : decode prog_13_method_88_code 33 = .ok (.ireturn, 1) := by decide +kernel
theorem dk_D_row_34 : decode prog_13_method_88_code 34 = .ok (.aload_n 0, 1) := by decide +kernel
theorem dk_D_row_35 : decode prog_13_method_88_code 35 = .ok (.getfield 16, 3) := by decide +kernel
theorem dk_D_row_38 : decode prog_13_method_88_code 38 = .ok (.iload_n 1, 1) := by decide +kernel
theorem dk_D_row_39 : decode prog_13_method_88_code 39 = .ok (.iconst 2, 1) := by decide +kernel
theorem dk_D_row_40 : decode prog_13_method_88_code 40 = .ok (.iastore, 1) := by decide +kernel
theorem dk_D_row_41 : decode prog_13_method_88_code 41 = .ok (.aload_n 0, 1) := by decide +kernel
theorem dk_D_row_42 : decode prog_13_method_88_code 42 = .ok (.getfield 19, 3) := by decide +kernel
theorem dk_D_row_45 : decode prog_13_method_88_code 45 = .ok (.iload_n 1, 1) := by decide +kernel
theorem dk_D_row_46 : decode prog_13_method_88_code 46 = .ok (.iload_n 2, 1) := by decide +kernel
theorem dk_D_row_47 : decode prog_13_method_88_code 47 = .ok (.iastore, 1) := by decide +kernel
theorem dk_D_row_48 : decode prog_13_method_88_code 48 = .ok (.aload_n 0, 1) := by decide +kernel
theorem dk_D_row_49 : decode prog_13_method_88_code 49 = .ok (.getfield 22, 3) := by decide +kernel
theorem dk_D_row_52 : decode prog_13_method_88_code 52 = .ok (.iload_n 1, 1) := by decide +kernel
theorem dk_D_row_53 : decode prog_13_method_88_code 53 = .ok (.iload_n 3, 1) := by decide +kernel
theorem dk_D_row_54 : decode prog_13_method_88_code 54 = .ok (.iastore, 1) := by decide +kernel
theorem dk_D_row_55 : decode prog_13_method_88_code 55 = .ok (.iconst 0, 1) := by decide +kernel
theorem dk_D_row_56 : decode prog_13_method_88_code 56 = .ok (.istore 4, 2) := by decide +kernel
theorem dk_D_row_58 : decode prog_13_method_88_code 58 = .ok (.iload 4, 2) := by decide +kernel
theorem dk_D_row_60 : decode prog_13_method_88_code 60 = .ok (.bipush 100, 2) := by decide +kernel
theorem dk_D_row_62 : decode prog_13_method_88_code 62 = .ok (.if_icmp .ge 22, 3) := by decide +kernel
theorem dk_D_row_65 : decode prog_13_method_88_code 65 = .ok (.aload_n 0, 1) := by decide +kernel
theorem dk_D_row_66 : decode prog_13_method_88_code 66 = .ok (.getfield 25, 3) := by decide +kernel
theorem dk_D_row_69 : decode prog_13_method_88_code 69 = .ok (.bipush 100, 2) := by decide +kernel
theorem dk_D_row_71 : decode prog_13_method_88_code 71 = .ok (.iload_n 1, 1) := by decide +kernel
theorem dk_D_row_72 : decode prog_13_method_88_code 72 = .ok (.imul, 1) := by decide +kernel
theorem dk_D_row_73 : decode prog_13_method_88_code 73 = .ok (.iload 4, 2) := by decide +kernel
theorem dk_D_row_75 : decode prog_13_method_88_code 75 = .ok (.iadd, 1) := by decide +kernel
theorem dk_D_row_76 : decode prog_13_method_88_code 76 = .ok (.iconst 0, 1) := by decide +kernel
theorem dk_D_row_77 : decode prog_13_method_88_code 77 = .ok (.iastore, 1) := by decide +kernel
theorem dk_D_row_78 : decode prog_13_method_88_code 78 = .ok (.iinc 4 1, 3) := by decide +kernel
theorem dk_D_row_81 : decode prog_13_method_88_code 81 = .ok (.goto (-23), 3) := by decide +kernel
theorem dk_D_row_84 : decode prog_13_method_88_code 84 = .ok (.iconst 0, 1) := by decide +kernel
theorem dk_D_row_85 : decode prog_13_method_88_code 85 = .ok (.ireturn, 1) := by decide +kernel
noncomputable def fb_D_row_58 (p1 : Int32) (x7 : Int32) (m8 : (Nat → Nat → Int32)) : Option ((Int32 × (Nat → Nat → Int32)) ⊕ (Nat → Nat → Int32)) :=
  if (100 : Int32) ≤ x7 then
    some (.inr m8)
  else
    kv_gd (kv_in (((100 : Int32) * p1) + x7) 800) (
    kv_let (kv_st m8 90 (((100 : Int32) * p1) + x7).toNatClampNeg (0 : Int32)) (fun m11 =>
    some (.inl ((x7 + (1 : Int32)), m11))))
noncomputable def fx_D_row (p1 : Int32) (p2 : Int32) (p3 : Int32) (m : (Nat → Nat → Int32)) : Option (Int32 × (Nat → Nat → Int32)) :=
  kv_bind1 (fx_D_isShelf p1) (fun b1 =>
  if b1 = true then
    kv_bind1 (fx_D_isIn p2.toInt64 (0 : Int64) (2 : Int64)) (fun b2 =>
    if b2 = true then
      if p3 ≤ (100 : Int32) then
        if 0 ≤ p3 then
          kv_gd (kv_in p1 8) (
          kv_let (kv_st m 87 p1.toNatClampNeg (2 : Int32)) (fun m4 =>
          kv_let (kv_st m4 88 p1.toNatClampNeg p2) (fun m5 =>
          kv_let (kv_st m5 89 p1.toNatClampNeg p3) (fun m6 =>
          (kv_loop (kv_u2 (fb_D_row_58 p1)) ((0 : Int32), m6)).bind (kv_u1 (fun m9 =>
          some ((0 : Int32), m9)))))))
        else
          some ((-14 : Int32), m)
      else
        some ((-1 : Int32), m)
    else
      some ((-1 : Int32), m))
  else
    some ((-1 : Int32), m))
set_option maxRecDepth 20000 in
theorem cx_D_row (d : Nat) (p1 : Int32) (p2 : Int32) (p3 : Int32) (c : (Nat → Nat → Int32)) (m : (Nat → Nat → Int32)) (f : (Nat → Int64)) (u : (Nat → Int64)) : ∀ a, fx_D_row p1 p2 p3 m = some a → kv_C kM_D_row (d + 2) [.ref 84, .int p1, .int p2, .int p3] (c, m, f, u) (some (.int a.1), (c, a.2, f, u)) := by
  refine kv_entryX (E := fun a : (Int32 × (Nat → Nat → Int32)) => (some (.int a.1), (c, a.2, f, u))) rfl (Nat.le_of_ble_eq_true rfl) (fun o => ?_)
  unfold fx_D_row
  show kv_X _ _ _ _ _ 0 [(0, .ref 84), (1, .int p1), (2, .int p2), (3, .int p3)] [] (c, m, f, u)
  refine kv_iload_n (pc := 0) 1 rfl rfl dk_D_row_0 ?_
  refine kv_cS_mZ (pc := 1) (as := [.int p1]) (st := []) ko_D_isShelf rfl kw_1416 (Nat.le_of_ble_eq_true rfl) rfl dk_D_row_1 (cx_D_isShelf d p1 c m f u) (fun b1 => ?_)
  refine kv_zif_eq (pc := 4) (tgt := 25) dk_D_row_4 rfl ?_ ?_
  · refine kv_iconst (pc := 25) (v := (-1 : Int32)) dk_D_row_25 kki_m1 ?_
    exact kv_iret (pc := 26) (fun h => h) rfl dk_D_row_26
  · refine kv_iload_n (pc := 7) 2 rfl rfl dk_D_row_7 ?_
    refine kv_i2l (pc := 8) dk_D_row_8 ?_
    refine kv_lconst (pc := 9) (v := (0 : Int64)) dk_D_row_9 kkl_0 ?_
    refine kv_ldc2 (pc := 10) (v := (2 : Int64)) kw_1380 dk_D_row_10 ?_
    refine kv_cS_mZ (pc := 13) (as := [.long p2.toInt64, .long (0 : Int64), .long (2 : Int64)]) (st := []) ko_D_isIn rfl kw_1330 (Nat.le_of_ble_eq_true rfl) rfl dk_D_row_13 (cx_D_isIn (d + 1) p2.toInt64 (0 : Int64) (2 : Int64) c m f u) (fun b2 => ?_)
    refine kv_zif_eq (pc := 16) (tgt := 25) dk_D_row_16 rfl ?_ ?_
    · refine kv_iconst (pc := 25) (v := (-1 : Int32)) dk_D_row_25 kki_m1 ?_
      exact kv_iret (pc := 26) (fun h => h) rfl dk_D_row_26
    · refine kv_iload_n (pc := 19) 3 rfl rfl dk_D_row_19 ?_
      refine kv_bipush (pc := 20) (v := (100 : Int32)) dk_D_row_20 kkb_100 ?_
      refine kv_icmp_le (pc := 22) (tgt := 27) dk_D_row_22 rfl ?_ ?_
      · refine kv_iload_n (pc := 27) 3 rfl rfl dk_D_row_27 ?_
        refine kv_if_ge (pc := 28) (tgt := 34) dk_D_row_28 rfl ?_ ?_
        · refine kv_aload_n (pc := 34) 0 rfl rfl dk_D_row_34 ?_
          refine kv_getR (pc := 35) kf_D_16 kr_84 rfl kt_84_2 dk_D_row_35 ?_
          refine kv_iload_n (pc := 38) 1 rfl rfl dk_D_row_38 ?_
          refine kv_iconst (pc := 39) (v := (2 : Int32)) dk_D_row_39 kki_2 ?_
          refine kv_guard (fun g3 => ?_)
          refine kv_astM (pc := 40) kr_87 kn_87 kl_87 g3 rfl dk_D_row_40 (fun m4 => ?_)
          refine kv_aload_n (pc := 41) 0 rfl rfl dk_D_row_41 ?_
          refine kv_getR (pc := 42) kf_D_19 kr_84 rfl kt_84_3 dk_D_row_42 ?_
          refine kv_iload_n (pc := 45) 1 rfl rfl dk_D_row_45 ?_
          refine kv_iload_n (pc := 46) 2 rfl rfl dk_D_row_46 ?_
          refine kv_astM (pc := 47) kr_88 kn_88 kl_88 g3 rfl dk_D_row_47 (fun m5 => ?_)
          refine kv_aload_n (pc := 48) 0 rfl rfl dk_D_row_48 ?_
          refine kv_getR (pc := 49) kf_D_22 kr_84 rfl kt_84_4 dk_D_row_49 ?_
          refine kv_iload_n (pc := 52) 1 rfl rfl dk_D_row_52 ?_
          refine kv_iload_n (pc := 53) 3 rfl rfl dk_D_row_53 ?_
          refine kv_astM (pc := 54) kr_89 kn_89 kl_89 g3 rfl dk_D_row_54 (fun m6 => ?_)
          refine kv_iconst (pc := 55) (v := (0 : Int32)) dk_D_row_55 kki_0 ?_
          refine kv_istore (pc := 56) (lv' := [(4, .int (0 : Int32)), (0, .ref 84), (1, .int p1), (2, .int p2), (3, .int p3)]) rfl (Nat.le_of_ble_eq_true rfl) dk_D_row_56 ?_
          refine kv_sub (lv' := [(0, .ref 84), (1, .int p1), (4, .int (0 : Int32))]) [1, 2, 0] rfl ?_
          refine kv_lp_2_1 (LV := fun x7 m8 => [(0, .ref 84), (1, .int p1), (4, .int x7)]) (WW := fun x7 m8 => (c, m8, f, u)) (LE1 := fun m9 => []) (WE1 := fun m9 => (c, m9, f, u)) (pe1 := 84) ?_ ?_
          · intro m9
            show kv_X _ _ _ _ _ 84 [] [] (c, m9, f, u)
            refine kv_iconst (pc := 84) (v := (0 : Int32)) dk_D_row_84 kki_0 ?_
            exact kv_iret (pc := 85) (fun h => h) rfl dk_D_row_85
          · intro hx58_0 x7 m8
            show kv_X _ _ _ _ (fb_D_row_58 p1 x7 m8) 58 [(0, .ref 84), (1, .int p1), (4, .int x7)] [] (c, m8, f, u)
            unfold fb_D_row_58
            refine kv_iload (pc := 58) 2 rfl dk_D_row_58 ?_
            refine kv_bipush (pc := 60) (v := (100 : Int32)) dk_D_row_60 kkb_100 ?_
            refine kv_icmp_ge (pc := 62) (tgt := 84) dk_D_row_62 rfl ?_ ?_
            · exact kv_sub [] rfl (kv_leaf (hx58_0 _))
            · refine kv_aload_n (pc := 65) 0 rfl rfl dk_D_row_65 ?_
              refine kv_getR (pc := 66) kf_D_25 kr_84 rfl kt_84_5 dk_D_row_66 ?_
              refine kv_bipush (pc := 69) (v := (100 : Int32)) dk_D_row_69 kkb_100 ?_
              refine kv_iload_n (pc := 71) 1 rfl rfl dk_D_row_71 ?_
              refine kv_imul (pc := 72) dk_D_row_72 ?_
              refine kv_iload (pc := 73) 2 rfl dk_D_row_73 ?_
              refine kv_iadd (pc := 75) dk_D_row_75 ?_
              refine kv_iconst (pc := 76) (v := (0 : Int32)) dk_D_row_76 kki_0 ?_
              refine kv_guard (fun g10 => ?_)
              refine kv_astM (pc := 77) kr_90 kn_90 kl_90 g10 rfl dk_D_row_77 (fun m11 => ?_)
              refine kv_iinc (pc := 78) (kk := (1 : Int32)) (lv' := [(4, .int (x7 + (1 : Int32))), (0, .ref 84), (1, .int p1)]) 2 rfl kki_1 rfl (Nat.le_of_ble_eq_true rfl) dk_D_row_78 ?_
              refine kv_goto (pc := 81) (tgt := 58) dk_D_row_81 rfl ?_
              exact kv_sub [1, 2, 0] rfl (kv_leaf (fun h => h))
        · refine kv_bipush (pc := 31) (v := (-14 : Int32)) dk_D_row_31 kkb_m14 ?_
          exact kv_iret (pc := 33) (fun h => h) rfl dk_D_row_33
      · refine kv_iconst (pc := 25) (v := (-1 : Int32)) dk_D_row_25 kki_m1 ?_
        exact kv_iret (pc := 26) (fun h => h) rfl dk_D_row_26
theorem dk_Shelf_narrowed_0 : decode prog_9_method_7_code 0 = .ok (.aload_n 0, 1) := by decide +kernel
theorem dk_Shelf_narrowed_1 : decode prog_9_method_7_code 1 = .ok (.getfield 39, 3) := by decide +kernel
theorem dk_Shelf_narrowed_4 : decode prog_9_method_7_code 4 = .ok (.ifCond .ne 6, 3) := by decide +kernel
theorem dk_Shelf_narrowed_7 : decode prog_9_method_7_code 7 = .ok (.iload_n 1, 1) := by decide +kernel
theorem dk_Shelf_narrowed_8 : decode prog_9_method_7_code 8 = .ok (.i2b, 1) := by decide +kernel
theorem dk_Shelf_narrowed_9 : decode prog_9_method_7_code 9 = .ok (.ireturn, 1) := by decide +kernel
theorem dk_Shelf_narrowed_10 : decode prog_9_method_7_code 10 = .ok (.aload_n 0, 1) := by decide +kernel
theorem dk_Shelf_narrowed_11 : decode prog_9_method_7_code 11 = .ok (.getfield 39, 3) := by decide +kernel
theorem dk_Shelf_narrowed_14 : decode prog_9_method_7_code 14 = .ok (.iconst 1, 1) := by decide +kernel
theorem dk_Shelf_narrowed_15 : decode prog_9_method_7_code 15 = .ok (.if_icmp .ne 8, 3) := by decide +kernel
theorem dk_Shelf_narrowed_18 : decode prog_9_method_7_code 18 = .ok (.iload_n 1, 1) := by decide +kernel
theorem dk_Shelf_narrowed_19 : decode prog_9_method_7_code 19 = .ok (.i2s, 1) := by decide +kernel
theorem dk_Shelf_narrowed_20 : decode prog_9_method_7_code 20 = .ok (.goto 4, 3) := by decide +kernel
theorem dk_Shelf_narrowed_23 : decode prog_9_method_7_code 23 = .ok (.iload_n 1, 1) := by decide +kernel
theorem dk_Shelf_narrowed_24 : decode prog_9_method_7_code 24 = .ok (.ireturn, 1) := by decide +kernel
noncomputable def fx_Shelf_narrowed (r0 : Nat) (p1 : Int32) (c : (Nat → Nat → Int32)) : Option Int32 :=
  if (c r0 2) = 0 then
    some p1.toInt8.toInt32
  else
    if (c r0 2) = (1 : Int32) then
      some p1.toInt16.toInt32
    else
      some p1
set_option maxRecDepth 20000 in
theorem cx_Shelf_narrowed (d : Nat) (r0 : Nat) (p1 : Int32) (c : (Nat → Nat → Int32)) (y : (Nat → Nat → Int32) × (Nat → Int64) × (Nat → Int64)) (h0 : kv_kd r0 = 7) : ∀ a, fx_Shelf_narrowed r0 p1 c = some a → kv_C kM_Shelf_narrowed (d + 0) [.ref r0, .int p1] (c, y) (some (.int a), (c, y)) := by
  refine kv_entryX (E := fun a : Int32 => (some (.int a), (c, y))) rfl (Nat.le_of_ble_eq_true rfl) (fun o => ?_)
  unfold fx_Shelf_narrowed
  show kv_X _ _ _ _ _ 0 [(0, .ref r0), (1, .int p1)] [] (c, y)
  refine kv_aload_n (pc := 0) 0 rfl rfl dk_Shelf_narrowed_0 ?_
  refine kv_getC (pc := 1) kf_Shelf_39 h0 (kv_7nc h0) rfl dk_Shelf_narrowed_1 ?_
  refine kv_if_ne (pc := 4) (tgt := 10) dk_Shelf_narrowed_4 rfl ?_ ?_
  · refine kv_aload_n (pc := 10) 0 rfl rfl dk_Shelf_narrowed_10 ?_
    refine kv_getC (pc := 11) kf_Shelf_39 h0 (kv_7nc h0) rfl dk_Shelf_narrowed_11 ?_
    refine kv_iconst (pc := 14) (v := (1 : Int32)) dk_Shelf_narrowed_14 kki_1 ?_
    refine kv_icmp_ne (pc := 15) (tgt := 23) dk_Shelf_narrowed_15 rfl ?_ ?_
    · refine kv_iload_n (pc := 23) 1 rfl rfl dk_Shelf_narrowed_23 ?_
      exact kv_iret (pc := 24) (fun h => h) rfl dk_Shelf_narrowed_24
    · refine kv_iload_n (pc := 18) 1 rfl rfl dk_Shelf_narrowed_18 ?_
      refine kv_i2s (pc := 19) dk_Shelf_narrowed_19 ?_
      refine kv_goto (pc := 20) (tgt := 24) dk_Shelf_narrowed_20 rfl ?_
      exact kv_iret (pc := 24) (fun h => h) rfl dk_Shelf_narrowed_24
  · refine kv_iload_n (pc := 7) 1 rfl rfl dk_Shelf_narrowed_7 ?_
    refine kv_i2b (pc := 8) dk_Shelf_narrowed_8 ?_
    exact kv_iret (pc := 9) (fun h => h) rfl dk_Shelf_narrowed_9
theorem dk_K_put_0 : decode prog_1_method_35_code 0 = .ok (.aload_n 0, 1) := by decide +kernel
theorem dk_K_put_1 : decode prog_1_method_35_code 1 = .ok (.iload_n 1, 1) := by decide +kernel
theorem dk_K_put_2 : decode prog_1_method_35_code 2 = .ok (.invokevirtual 171, 3) := by decide +kernel
theorem dk_K_put_5 : decode prog_1_method_35_code 5 = .ok (.istore 4, 2) := by decide +kernel
theorem dk_K_put_7 : decode prog_1_method_35_code 7 = .ok (.iload 4, 2) := by decide +kernel
theorem dk_K_put_9 : decode prog_1_method_35_code 9 = .ok (.ifCond .eq 6, 3) := by decide +kernel
theorem dk_K_put_12 : decode prog_1_method_35_code 12 = .ok (.iload 4, 2) := by decide +kernel
theorem dk_K_put_14 : decode prog_1_method_35_code 14 = .ok (.ireturn, 1) := by decide +kernel
theorem dk_K_put_15 : decode prog_1_method_35_code 15 = .ok (.aload_n 0, 1) := by decide +kernel
theorem dk_K_put_16 : decode prog_1_method_35_code 16 = .ok (.getfield 21, 3) := by decide +kernel
theorem dk_K_put_19 : decode prog_1_method_35_code 19 = .ok (.iload_n 1, 1) := by decide +kernel
theorem dk_K_put_20 : decode prog_1_method_35_code 20 = .ok (.aaload, 1) := by decide +kernel
theorem dk_K_put_21 : decode prog_1_method_35_code 21 = .ok (.astore 5, 2) := by decide +kernel
theorem dk_K_put_23 : decode prog_1_method_35_code 23 = .ok (.iload_n 2, 1) := by decide +kernel
theorem dk_K_put_24 : decode prog_1_method_35_code 24 = .ok (.iconst 0, 1) := by decide +kernel
theorem dk_K_put_25 : decode prog_1_method_35_code 25 = .ok (.aload 5, 2) := by decide +kernel
theorem dk_K_put_27 : decode prog_1_method_35_code 27 = .ok (.getfield 174, 3) := by decide +kernel
theorem dk_K_put_30 : decode prog_1_method_35_code 30 = .ok (.iconst 1, 1) := by decide +kernel
theorem dk_K_put_31 : decode prog_1_method_35_code 31 = .ok (.isub, 1) := by decide +kernel
theorem dk_K_put_32 : decode prog_1_method_35_code 32 = .ok (.invokestatic 54, 3) := by decide +kernel
theorem dk_K_put_35 : decode prog_1_method_35_code 35 = .ok (.ifCond .ne 6, 3) := by decide +kernel
theorem dk_K_put_38 : decode prog_1_method_35_code 38 = .ok (.bipush (-13), 2) := by decide +kernel
theorem dk_K_put_40 : decode prog_1_method_35_code 40 = .ok (.ireturn, 1) := by decide +kernel
theorem dk_K_put_41 : decode prog_1_method_35_code 41 = .ok (.aload 5, 2) := by decide +kernel
theorem dk_K_put_43 : decode prog_1_method_35_code 43 = .ok (.getfield 184, 3) := by decide +kernel
theorem dk_K_put_46 : decode prog_1_method_35_code 46 = .ok (.iload_n 2, 1) := by decide +kernel
theorem dk_K_put_47 : decode prog_1_method_35_code 47 = .ok (.aload 5, 2) := by decide +kernel
theorem dk_K_put_49 : decode prog_1_method_35_code 49 = .ok (.iload_n 3, 1) := by decide +kernel
theorem dk_K_put_50 : decode prog_1_method_35_code 50 = .ok (.invokevirtual 381, 3) := by decide +kernel
theorem dk_K_put_53 : decode prog_1_method_35_code 53 = .ok (.iastore, 1) := by decide +kernel
theorem dk_K_put_54 : decode prog_1_method_35_code 54 = .ok (.iconst 0, 1) := by decide +kernel
theorem dk_K_put_55 : decode prog_1_method_35_code 55 = .ok (.ireturn, 1) := by decide +kernel
noncomputable def fx_K_put (p1 : Int32) (p2 : Int32) (p3 : Int32) (c : (Nat → Nat → Int32)) : Option (Int32 × (Nat → Nat → Int32)) :=
  kv_bind1 (fx_K_rowRefusal p1 c) (fun v1 =>
  if v1 = 0 then
    kv_gd (kv_in p1 8) (
    kv_bind1 (fx_K_isWithin p2 (0 : Int32) ((c (kv_tg 51 p1.toNatClampNeg) 3) - (1 : Int32))) (fun b3 =>
    if b3 = true then
      kv_bind1 (fx_Shelf_narrowed (kv_tg 51 p1.toNatClampNeg) p3 c) (fun v4 =>
      kv_gd (kv_in p2 100) (
      kv_let (kv_st c (kv_tg (kv_tg 51 p1.toNatClampNeg) 0) p2.toNatClampNeg v4) (fun c6 =>
      some ((0 : Int32), c6))))
    else
      some ((-13 : Int32), c)))
  else
    some (v1, c))
set_option maxRecDepth 20000 in
theorem cx_K_put (d : Nat) (p1 : Int32) (p2 : Int32) (p3 : Int32) (c : (Nat → Nat → Int32)) (y : (Nat → Nat → Int32) × (Nat → Int64) × (Nat → Int64)) : ∀ a, fx_K_put p1 p2 p3 c = some a → kv_C kM_K_put (d + 3) [.ref 0, .int p1, .int p2, .int p3] (c, y) (some (.int a.1), (a.2, y)) := by
  refine kv_entryX (E := fun a : (Int32 × (Nat → Nat → Int32)) => (some (.int a.1), (a.2, y))) rfl (Nat.le_of_ble_eq_true rfl) (fun o => ?_)
  unfold fx_K_put
  show kv_X _ _ _ _ _ 0 [(0, .ref 0), (1, .int p1), (2, .int p2), (3, .int p3)] [] (c, y)
  refine kv_aload_n (pc := 0) 0 rfl rfl dk_K_put_0 ?_
  refine kv_iload_n (pc := 1) 1 rfl rfl dk_K_put_1 ?_
  refine kv_cV_cI (pc := 2) (as := [.int p1]) (st := []) ko_K_rowRefusal kc_10 rfl rfl kr_0 kw_620 (Nat.le_of_ble_eq_true rfl) rfl dk_K_put_2 (cx_K_rowRefusal d p1 c y) (fun v1 => ?_)
  refine kv_istore (pc := 5) (lv' := [(4, .int v1), (0, .ref 0), (1, .int p1), (2, .int p2), (3, .int p3)]) rfl (Nat.le_of_ble_eq_true rfl) dk_K_put_5 ?_
  refine kv_iload (pc := 7) 0 rfl dk_K_put_7 ?_
  refine kv_if_eq (pc := 9) (tgt := 15) dk_K_put_9 rfl ?_ ?_
  · refine kv_aload_n (pc := 15) 1 rfl rfl dk_K_put_15 ?_
    refine kv_getR (pc := 16) kf_K_21 kr_0 rfl kt_0_3 dk_K_put_16 ?_
    refine kv_iload_n (pc := 19) 2 rfl rfl dk_K_put_19 ?_
    refine kv_guard (fun g2 => ?_)
    refine kv_aald (pc := 20) kr_51 kl_51 g2 rfl dk_K_put_20 ?_
    refine kv_astore (pc := 21) (lv' := [(5, .ref (kv_tg 51 p1.toNatClampNeg)), (4, .int v1), (0, .ref 0), (1, .int p1), (2, .int p2), (3, .int p3)]) rfl (Nat.le_of_ble_eq_true rfl) dk_K_put_21 ?_
    refine kv_iload_n (pc := 23) 4 rfl rfl dk_K_put_23 ?_
    refine kv_iconst (pc := 24) (v := (0 : Int32)) dk_K_put_24 kki_0 ?_
    refine kv_aload (pc := 25) 0 rfl dk_K_put_25 ?_
    refine kv_getC (pc := 27) kf_K_174 (kv_sh g2) (kv_7nc (kv_sh g2)) rfl dk_K_put_27 ?_
    refine kv_iconst (pc := 30) (v := (1 : Int32)) dk_K_put_30 kki_1 ?_
    refine kv_isub (pc := 31) dk_K_put_31 ?_
    refine kv_cS_cZ (pc := 32) (as := [.int p2, .int (0 : Int32), .int ((c (kv_tg 51 p1.toNatClampNeg) 3) - (1 : Int32))]) (st := []) ko_K_isWithin rfl kw_512 (Nat.le_of_ble_eq_true rfl) rfl dk_K_put_32 (cx_K_isWithin (d + 2) p2 (0 : Int32) ((c (kv_tg 51 p1.toNatClampNeg) 3) - (1 : Int32)) c y) (fun b3 => ?_)
    refine kv_zif_ne (pc := 35) (tgt := 41) dk_K_put_35 rfl ?_ ?_
    · refine kv_aload (pc := 41) 0 rfl dk_K_put_41 ?_
      refine kv_getR (pc := 43) kf_K_184 (kv_sh g2) rfl rfl dk_K_put_43 ?_
      refine kv_iload_n (pc := 46) 4 rfl rfl dk_K_put_46 ?_
      refine kv_aload (pc := 47) 0 rfl dk_K_put_47 ?_
      refine kv_iload_n (pc := 49) 5 rfl rfl dk_K_put_49 ?_
      refine kv_cV_cI (pc := 50) (as := [.int p3]) (st := [.int p2, .ref (kv_tg (kv_tg 51 p1.toNatClampNeg) 0)]) ko_Shelf_narrowed kc_7 rfl rfl (kv_sh g2) kw_1112 (Nat.le_of_ble_eq_true rfl) rfl dk_K_put_50 (cx_Shelf_narrowed (d + 2) (kv_tg 51 p1.toNatClampNeg) p3 c y (kv_sh g2)) (fun v4 => ?_)
      refine kv_guard (fun g5 => ?_)
      refine kv_astC (pc := 53) (kv_7e (kv_sh g2)) (kv_7enc (kv_sh g2)) (kv_7eln (kv_sh g2)) g5 rfl dk_K_put_53 (fun c6 => ?_)
      refine kv_iconst (pc := 54) (v := (0 : Int32)) dk_K_put_54 kki_0 ?_
      exact kv_iret (pc := 55) (fun h => h) rfl dk_K_put_55
    · refine kv_bipush (pc := 38) (v := (-13 : Int32)) dk_K_put_38 kkb_m13 ?_
      exact kv_iret (pc := 40) (fun h => h) rfl dk_K_put_40
  · refine kv_iload (pc := 12) 0 rfl dk_K_put_12 ?_
    exact kv_iret (pc := 14) (fun h => h) rfl dk_K_put_14
