theorem dk_Lumps_growAll_0 : decode prog_5_method_7_code 0 = .ok (.iconst 0, 1) := by decide +kernel
theorem dk_Lumps_growAll_1 : decode prog_5_method_7_code 1 = .ok (.istore_n 2, 1) := by decide +kernel
theorem dk_Lumps_growAll_2 : decode prog_5_method_7_code 2 = .ok (.iload_n 2, 1) := by decide +kernel
theorem dk_Lumps_growAll_3 : decode prog_5_method_7_code 3 = .ok (.aload_n 0, 1) := by decide +kernel
theorem dk_Lumps_growAll_4 : decode prog_5_method_7_code 4 = .ok (.getfield 33, 3) := by decide +kernel
theorem dk_Lumps_growAll_7 : decode prog_5_method_7_code 7 = .ok (.if_icmp .ge 24, 3) := by decide +kernel
theorem dk_Lumps_growAll_10 : decode prog_5_method_7_code 10 = .ok (.aload_n 0, 1) := by decide +kernel
theorem dk_Lumps_growAll_11 : decode prog_5_method_7_code 11 = .ok (.getfield 21, 3) := by decide +kernel
theorem dk_Lumps_growAll_14 : decode prog_5_method_7_code 14 = .ok (.iload_n 2, 1) := by decide +kernel
theorem dk_Lumps_growAll_15 : decode prog_5_method_7_code 15 = .ok (.dup2, 1) := by decide +kernel
theorem dk_Lumps_growAll_16 : decode prog_5_method_7_code 16 = .ok (.iaload, 1) := by decide +kernel
theorem dk_Lumps_growAll_17 : decode prog_5_method_7_code 17 = .ok (.aload_n 0, 1) := by decide +kernel
theorem dk_Lumps_growAll_18 : decode prog_5_method_7_code 18 = .ok (.iload_n 2, 1) := by decide +kernel
theorem dk_Lumps_growAll_19 : decode prog_5_method_7_code 19 = .ok (.iload_n 1, 1) := by decide +kernel
theorem dk_Lumps_growAll_20 : decode prog_5_method_7_code 20 = .ok (.invokevirtual 41, 3) := by decide +kernel
theorem dk_Lumps_growAll_23 : decode prog_5_method_7_code 23 = .ok (.iadd, 1) := by decide +kernel
theorem dk_Lumps_growAll_24 : decode prog_5_method_7_code 24 = .ok (.iastore, 1) := by decide +kernel
theorem dk_Lumps_growAll_25 : decode prog_5_method_7_code 25 = .ok (.iinc 2 1, 3) := by decide +kernel
theorem dk_Lumps_growAll_28 : decode prog_5_method_7_code 28 = .ok (.goto (-26), 3) := by decide +kernel
theorem dk_Lumps_growAll_31 : decode prog_5_method_7_code 31 = .ok (.return_, 1) := by decide +kernel
noncomputable def fb_Lumps_growAll_2 (p1 : Int32) (x1 : Int32) (c2 : (Nat → Nat → Int32)) : Option ((Int32 × (Nat → Nat → Int32)) ⊕ (Nat → Nat → Int32)) :=
  if (c2 2 7) ≤ x1 then
    some (.inr c2)
  else
    kv_gd (kv_in x1 10) (
    kv_bind1 (fx_Lumps_growth x1 p1 c2) (fun v5 =>
    kv_let (kv_st c2 6 x1.toNatClampNeg ((c2 6 x1.toNatClampNeg) + v5)) (fun c6 =>
    some (.inl ((x1 + (1 : Int32)), c6)))))
noncomputable def fx_Lumps_growAll (p1 : Int32) (c : (Nat → Nat → Int32)) : Option (Nat → Nat → Int32) :=
  (kv_loop (kv_u2 (fb_Lumps_growAll_2 p1)) ((0 : Int32), c)).bind (kv_u1 (fun c3 =>
  some c3))
set_option maxRecDepth 20000 in
theorem cx_Lumps_growAll (d : Nat) (p1 : Int32) (c : (Nat → Nat → Int32)) (y : (Nat → Nat → Int32) × (Nat → Int64) × (Nat → Int64)) : ∀ a, fx_Lumps_growAll p1 c = some a → kv_C kM_Lumps_growAll (d + 3) [.ref 2, .int p1] (c, y) (none, (a, y)) := by
  refine kv_entryX (E := fun a : (Nat → Nat → Int32) => (none, (a, y))) rfl (Nat.le_of_ble_eq_true rfl) (fun o => ?_)
  unfold fx_Lumps_growAll
  show kv_X _ _ _ _ _ 0 [(0, .ref 2), (1, .int p1)] [] (c, y)
  refine kv_iconst (pc := 0) (v := (0 : Int32)) dk_Lumps_growAll_0 kki_0 ?_
  refine kv_istore_n (pc := 1) (lv' := [(2, .int (0 : Int32)), (0, .ref 2), (1, .int p1)]) rfl (Nat.le_of_ble_eq_true rfl) rfl dk_Lumps_growAll_1 ?_
  refine kv_sub (lv' := [(0, .ref 2), (1, .int p1), (2, .int (0 : Int32))]) [1, 2, 0] rfl ?_
  refine kv_lp_2_1 (LV := fun x1 c2 => [(0, .ref 2), (1, .int p1), (2, .int x1)]) (WW := fun x1 c2 => (c2, y)) (LE1 := fun c3 => []) (WE1 := fun c3 => (c3, y)) (pe1 := 31) ?_ ?_
  · intro c3
    show kv_X _ _ _ _ _ 31 [] [] (c3, y)
    exact kv_vret (pc := 31) (fun h => h) rfl dk_Lumps_growAll_31
  · intro hx2_0 x1 c2
    show kv_X _ _ _ _ (fb_Lumps_growAll_2 p1 x1 c2) 2 [(0, .ref 2), (1, .int p1), (2, .int x1)] [] (c2, y)
    unfold fb_Lumps_growAll_2
    refine kv_iload_n (pc := 2) 2 rfl rfl dk_Lumps_growAll_2 ?_
    refine kv_aload_n (pc := 3) 0 rfl rfl dk_Lumps_growAll_3 ?_
    refine kv_getC (pc := 4) kf_Lumps_33 kr_2 kn_2 rfl dk_Lumps_growAll_4 ?_
    refine kv_icmp_ge (pc := 7) (tgt := 31) dk_Lumps_growAll_7 rfl ?_ ?_
    · exact kv_sub [] rfl (kv_leaf (hx2_0 _))
    · refine kv_aload_n (pc := 10) 0 rfl rfl dk_Lumps_growAll_10 ?_
      refine kv_getR (pc := 11) kf_Lumps_21 kr_2 rfl kt_2_3 dk_Lumps_growAll_11 ?_
      refine kv_iload_n (pc := 14) 2 rfl rfl dk_Lumps_growAll_14 ?_
      refine kv_dup2RI (pc := 15) dk_Lumps_growAll_15 ?_
      refine kv_guard (fun g4 => ?_)
      refine kv_aldC (pc := 16) kr_6 kn_6 kl_6 g4 rfl dk_Lumps_growAll_16 ?_
      refine kv_aload_n (pc := 17) 0 rfl rfl dk_Lumps_growAll_17 ?_
      refine kv_iload_n (pc := 18) 2 rfl rfl dk_Lumps_growAll_18 ?_
      refine kv_iload_n (pc := 19) 1 rfl rfl dk_Lumps_growAll_19 ?_
      refine kv_cV_cI (pc := 20) (as := [.int x1, .int p1]) (st := [.int (c2 6 x1.toNatClampNeg), .int x1, .ref 6]) ko_Lumps_growth kc_3 rfl rfl kr_2 kw_564 (Nat.le_of_ble_eq_true rfl) rfl dk_Lumps_growAll_20 (cx_Lumps_growth d x1 p1 c2 y) (fun v5 => ?_)
      refine kv_iadd (pc := 23) dk_Lumps_growAll_23 ?_
      refine kv_astC (pc := 24) kr_6 kn_6 kl_6 g4 rfl dk_Lumps_growAll_24 (fun c6 => ?_)
      refine kv_iinc (pc := 25) (kk := (1 : Int32)) (lv' := [(2, .int (x1 + (1 : Int32))), (0, .ref 2), (1, .int p1)]) 2 rfl kki_1 rfl (Nat.le_of_ble_eq_true rfl) dk_Lumps_growAll_25 ?_
      refine kv_goto (pc := 28) (tgt := 2) dk_Lumps_growAll_28 rfl ?_
      exact kv_sub [1, 2, 0] rfl (kv_leaf (fun h => h))
theorem dk_K_go_0 : decode prog_1_method_6_code 0 = .ok (.iload_n 1, 1) := by decide +kernel
theorem dk_K_go_1 : decode prog_1_method_6_code 1 = .ok (.iconst 1, 1) := by decide +kernel
theorem dk_K_go_2 : decode prog_1_method_6_code 2 = .ok (.bipush 40, 2) := by decide +kernel
theorem dk_K_go_4 : decode prog_1_method_6_code 4 = .ok (.invokestatic 54, 3) := by decide +kernel
theorem dk_K_go_7 : decode prog_1_method_6_code 7 = .ok (.ifCond .ne 5, 3) := by decide +kernel
theorem dk_K_go_10 : decode prog_1_method_6_code 10 = .ok (.iconst (-1), 1) := by decide +kernel
theorem dk_K_go_11 : decode prog_1_method_6_code 11 = .ok (.ireturn, 1) := by decide +kernel
theorem dk_K_go_12 : decode prog_1_method_6_code 12 = .ok (.aload_n 0, 1) := by decide +kernel
theorem dk_K_go_13 : decode prog_1_method_6_code 13 = .ok (.getfield 10, 3) := by decide +kernel
theorem dk_K_go_16 : decode prog_1_method_6_code 16 = .ok (.getfield 124, 3) := by decide +kernel
theorem dk_K_go_19 : decode prog_1_method_6_code 19 = .ok (.iload_n 1, 1) := by decide +kernel
theorem dk_K_go_20 : decode prog_1_method_6_code 20 = .ok (.iadd, 1) := by decide +kernel
theorem dk_K_go_21 : decode prog_1_method_6_code 21 = .ok (.sipush 140, 3) := by decide +kernel
theorem dk_K_go_24 : decode prog_1_method_6_code 24 = .ok (.if_icmp .le 6, 3) := by decide +kernel
theorem dk_K_go_27 : decode prog_1_method_6_code 27 = .ok (.bipush (-2), 2) := by decide +kernel
theorem dk_K_go_29 : decode prog_1_method_6_code 29 = .ok (.ireturn, 1) := by decide +kernel
theorem dk_K_go_30 : decode prog_1_method_6_code 30 = .ok (.iconst 0, 1) := by decide +kernel
theorem dk_K_go_31 : decode prog_1_method_6_code 31 = .ok (.istore_n 2, 1) := by decide +kernel
theorem dk_K_go_32 : decode prog_1_method_6_code 32 = .ok (.iload_n 2, 1) := by decide +kernel
theorem dk_K_go_33 : decode prog_1_method_6_code 33 = .ok (.iload_n 1, 1) := by decide +kernel
theorem dk_K_go_34 : decode prog_1_method_6_code 34 = .ok (.if_icmp .ge 39, 3) := by decide +kernel
theorem dk_K_go_37 : decode prog_1_method_6_code 37 = .ok (.aload_n 0, 1) := by decide +kernel
theorem dk_K_go_38 : decode prog_1_method_6_code 38 = .ok (.getfield 10, 3) := by decide +kernel
theorem dk_K_go_41 : decode prog_1_method_6_code 41 = .ok (.getfield 58, 3) := by decide +kernel
theorem dk_K_go_44 : decode prog_1_method_6_code 44 = .ok (.aload_n 0, 1) := by decide +kernel
theorem dk_K_go_45 : decode prog_1_method_6_code 45 = .ok (.getfield 10, 3) := by decide +kernel
theorem dk_K_go_48 : decode prog_1_method_6_code 48 = .ok (.getfield 124, 3) := by decide +kernel
theorem dk_K_go_51 : decode prog_1_method_6_code 51 = .ok (.invokevirtual 131, 3) := by decide +kernel
theorem dk_K_go_54 : decode prog_1_method_6_code 54 = .ok (.aload_n 0, 1) := by decide +kernel
theorem dk_K_go_55 : decode prog_1_method_6_code 55 = .ok (.getfield 10, 3) := by decide +kernel
theorem dk_K_go_58 : decode prog_1_method_6_code 58 = .ok (.dup, 1) := by decide +kernel
theorem dk_K_go_59 : decode prog_1_method_6_code 59 = .ok (.getfield 124, 3) := by decide +kernel
theorem dk_K_go_62 : decode prog_1_method_6_code 62 = .ok (.iconst 1, 1) := by decide +kernel
theorem dk_K_go_63 : decode prog_1_method_6_code 63 = .ok (.iadd, 1) := by decide +kernel
theorem dk_K_go_64 : decode prog_1_method_6_code 64 = .ok (.putfield 124, 3) := by decide +kernel
theorem dk_K_go_67 : decode prog_1_method_6_code 67 = .ok (.iinc 2 1, 3) := by decide +kernel
theorem dk_K_go_70 : decode prog_1_method_6_code 70 = .ok (.goto (-38), 3) := by decide +kernel
theorem dk_K_go_73 : decode prog_1_method_6_code 73 = .ok (.aload_n 0, 1) := by decide +kernel
theorem dk_K_go_74 : decode prog_1_method_6_code 74 = .ok (.getfield 10, 3) := by decide +kernel
theorem dk_K_go_77 : decode prog_1_method_6_code 77 = .ok (.getfield 124, 3) := by decide +kernel
theorem dk_K_go_80 : decode prog_1_method_6_code 80 = .ok (.ireturn, 1) := by decide +kernel
noncomputable def fb_K_go_32 (p1 : Int32) (x2 : Int32) (c3 : (Nat → Nat → Int32)) : Option ((Int32 × (Nat → Nat → Int32)) ⊕ (Nat → Nat → Int32)) :=
  if p1 ≤ x2 then
    some (.inr c3)
  else
    kv_bind1 (fx_Lumps_growAll (c3 1 5) c3) (fun c5 =>
    kv_let (kv_st c5 1 5 ((c5 1 5) + (1 : Int32))) (fun c6 =>
    some (.inl ((x2 + (1 : Int32)), c6))))
noncomputable def fx_K_go (p1 : Int32) (c : (Nat → Nat → Int32)) : Option (Int32 × (Nat → Nat → Int32)) :=
  kv_bind1 (fx_K_isWithin p1 (1 : Int32) (40 : Int32)) (fun b1 =>
  if b1 = true then
    if ((c 1 5) + p1) ≤ (140 : Int32) then
      (kv_loop (kv_u2 (fb_K_go_32 p1)) ((0 : Int32), c)).bind (kv_u1 (fun c4 =>
      some ((c4 1 5), c4)))
    else
      some ((-2 : Int32), c)
  else
    some ((-1 : Int32), c))
set_option maxRecDepth 20000 in
theorem cx_K_go (d : Nat) (p1 : Int32) (c : (Nat → Nat → Int32)) (y : (Nat → Nat → Int32) × (Nat → Int64) × (Nat → Int64)) : ∀ a, fx_K_go p1 c = some a → kv_C kM_K_go (d + 4) [.ref 0, .int p1] (c, y) (some (.int a.1), (a.2, y)) := by
  refine kv_entryX (E := fun a : (Int32 × (Nat → Nat → Int32)) => (some (.int a.1), (a.2, y))) rfl (Nat.le_of_ble_eq_true rfl) (fun o => ?_)
  unfold fx_K_go
  show kv_X _ _ _ _ _ 0 [(0, .ref 0), (1, .int p1)] [] (c, y)
  refine kv_iload_n (pc := 0) 1 rfl rfl dk_K_go_0 ?_
  refine kv_iconst (pc := 1) (v := (1 : Int32)) dk_K_go_1 kki_1 ?_
  refine kv_bipush (pc := 2) (v := (40 : Int32)) dk_K_go_2 kkb_40 ?_
  refine kv_cS_cZ (pc := 4) (as := [.int p1, .int (1 : Int32), .int (40 : Int32)]) (st := []) ko_K_isWithin rfl kw_512 (Nat.le_of_ble_eq_true rfl) rfl dk_K_go_4 (cx_K_isWithin (d + 3) p1 (1 : Int32) (40 : Int32) c y) (fun b1 => ?_)
  refine kv_zif_ne (pc := 7) (tgt := 12) dk_K_go_7 rfl ?_ ?_
  · refine kv_aload_n (pc := 12) 0 rfl rfl dk_K_go_12 ?_
    refine kv_getR (pc := 13) kf_K_10 kr_0 rfl kt_0_0 dk_K_go_13 ?_
    refine kv_getC (pc := 16) kf_K_124 kr_1 kn_1 rfl dk_K_go_16 ?_
    refine kv_iload_n (pc := 19) 1 rfl rfl dk_K_go_19 ?_
    refine kv_iadd (pc := 20) dk_K_go_20 ?_
    refine kv_sipush (pc := 21) (v := (140 : Int32)) dk_K_go_21 kks_140 ?_
    refine kv_icmp_le (pc := 24) (tgt := 30) dk_K_go_24 rfl ?_ ?_
    · refine kv_iconst (pc := 30) (v := (0 : Int32)) dk_K_go_30 kki_0 ?_
      refine kv_istore_n (pc := 31) (lv' := [(2, .int (0 : Int32)), (0, .ref 0), (1, .int p1)]) rfl (Nat.le_of_ble_eq_true rfl) rfl dk_K_go_31 ?_
      refine kv_sub (lv' := [(0, .ref 0), (1, .int p1), (2, .int (0 : Int32))]) [1, 2, 0] rfl ?_
      refine kv_lp_2_1 (LV := fun x2 c3 => [(0, .ref 0), (1, .int p1), (2, .int x2)]) (WW := fun x2 c3 => (c3, y)) (LE1 := fun c4 => [(0, .ref 0)]) (WE1 := fun c4 => (c4, y)) (pe1 := 73) ?_ ?_
      · intro c4
        show kv_X _ _ _ _ _ 73 [(0, .ref 0)] [] (c4, y)
        refine kv_aload_n (pc := 73) 0 rfl rfl dk_K_go_73 ?_
        refine kv_getR (pc := 74) kf_K_10 kr_0 rfl kt_0_0 dk_K_go_74 ?_
        refine kv_getC (pc := 77) kf_K_124 kr_1 kn_1 rfl dk_K_go_77 ?_
        exact kv_iret (pc := 80) (fun h => h) rfl dk_K_go_80
      · intro hx32_0 x2 c3
        show kv_X _ _ _ _ (fb_K_go_32 p1 x2 c3) 32 [(0, .ref 0), (1, .int p1), (2, .int x2)] [] (c3, y)
        unfold fb_K_go_32
        refine kv_iload_n (pc := 32) 2 rfl rfl dk_K_go_32 ?_
        refine kv_iload_n (pc := 33) 1 rfl rfl dk_K_go_33 ?_
        refine kv_icmp_ge (pc := 34) (tgt := 73) dk_K_go_34 rfl ?_ ?_
        · exact kv_sub [0] rfl (kv_leaf (hx32_0 _))
        · refine kv_aload_n (pc := 37) 0 rfl rfl dk_K_go_37 ?_
          refine kv_getR (pc := 38) kf_K_10 kr_0 rfl kt_0_0 dk_K_go_38 ?_
          refine kv_getR (pc := 41) kf_K_58 kr_1 rfl kt_1_0 dk_K_go_41 ?_
          refine kv_aload_n (pc := 44) 0 rfl rfl dk_K_go_44 ?_
          refine kv_getR (pc := 45) kf_K_10 kr_0 rfl kt_0_0 dk_K_go_45 ?_
          refine kv_getC (pc := 48) kf_K_124 kr_1 kn_1 rfl dk_K_go_48 ?_
          refine kv_cV_cc (pc := 51) (as := [.int (c3 1 5)]) (st := []) ko_Lumps_growAll kc_3 rfl rfl kr_2 kw_560 (Nat.le_of_ble_eq_true rfl) rfl dk_K_go_51 (cx_Lumps_growAll d (c3 1 5) c3 y) (fun c5 => ?_)
          refine kv_aload_n (pc := 54) 0 rfl rfl dk_K_go_54 ?_
          refine kv_getR (pc := 55) kf_K_10 kr_0 rfl kt_0_0 dk_K_go_55 ?_
          refine kv_dupR (pc := 58) dk_K_go_58 ?_
          refine kv_getC (pc := 59) kf_K_124 kr_1 kn_1 rfl dk_K_go_59 ?_
          refine kv_iconst (pc := 62) (v := (1 : Int32)) dk_K_go_62 kki_1 ?_
          refine kv_iadd (pc := 63) dk_K_go_63 ?_
          refine kv_putC (pc := 64) kf_K_124 kr_1 kn_1 rfl rfl rfl dk_K_go_64 (fun c6 => ?_)
          refine kv_iinc (pc := 67) (kk := (1 : Int32)) (lv' := [(2, .int (x2 + (1 : Int32))), (0, .ref 0), (1, .int p1)]) 2 rfl kki_1 rfl (Nat.le_of_ble_eq_true rfl) dk_K_go_67 ?_
          refine kv_goto (pc := 70) (tgt := 32) dk_K_go_70 rfl ?_
          exact kv_sub [1, 2, 0] rfl (kv_leaf (fun h => h))
    · refine kv_bipush (pc := 27) (v := (-2 : Int32)) dk_K_go_27 kkb_m2 ?_
      exact kv_iret (pc := 29) (fun h => h) rfl dk_K_go_29
  · refine kv_iconst (pc := 10) (v := (-1 : Int32)) dk_K_go_10 kki_m1 ?_
    exact kv_iret (pc := 11) (fun h => h) rfl dk_K_go_11
theorem dk_D_growth_0 : decode prog_13_method_14_code 0 = .ok (.aload_n 0, 1) := by decide +kernel
theorem dk_D_growth_1 : decode prog_13_method_14_code 1 = .ok (.iload_n 1, 1) := by decide +kernel
theorem dk_D_growth_2 : decode prog_13_method_14_code 2 = .ok (.iconst 2, 1) := by decide +kernel
theorem dk_D_growth_3 : decode prog_13_method_14_code 3 = .ok (.invokevirtual 68, 3) := by decide +kernel
theorem dk_D_growth_6 : decode prog_13_method_14_code 6 = .ok (.istore_n 3, 1) := by decide +kernel
theorem dk_D_growth_7 : decode prog_13_method_14_code 7 = .ok (.aload_n 0, 1) := by decide +kernel
theorem dk_D_growth_8 : decode prog_13_method_14_code 8 = .ok (.iload_n 1, 1) := by decide +kernel
theorem dk_D_growth_9 : decode prog_13_method_14_code 9 = .ok (.iconst 4, 1) := by decide +kernel
theorem dk_D_growth_10 : decode prog_13_method_14_code 10 = .ok (.invokevirtual 68, 3) := by decide +kernel
theorem dk_D_growth_13 : decode prog_13_method_14_code 13 = .ok (.iconst 1, 1) := by decide +kernel
theorem dk_D_growth_14 : decode prog_13_method_14_code 14 = .ok (.isub, 1) := by decide +kernel
theorem dk_D_growth_15 : decode prog_13_method_14_code 15 = .ok (.istore 4, 2) := by decide +kernel
theorem dk_D_growth_17 : decode prog_13_method_14_code 17 = .ok (.aload_n 0, 1) := by decide +kernel
theorem dk_D_growth_18 : decode prog_13_method_14_code 18 = .ok (.iload_n 1, 1) := by decide +kernel
theorem dk_D_growth_19 : decode prog_13_method_14_code 19 = .ok (.iconst 0, 1) := by decide +kernel
theorem dk_D_growth_20 : decode prog_13_method_14_code 20 = .ok (.invokevirtual 68, 3) := by decide +kernel
theorem dk_D_growth_23 : decode prog_13_method_14_code 23 = .ok (.tableswitch 135 2 7 #[37, 51, 68, 87, 115, 133], 37) := by decide +kernel
theorem dk_D_growth_60 : decode prog_13_method_14_code 60 = .ok (.iload_n 2, 1) := by decide +kernel
theorem dk_D_growth_61 : decode prog_13_method_14_code 61 = .ok (.iconst 4, 1) := by decide +kernel
theorem dk_D_growth_62 : decode prog_13_method_14_code 62 = .ok (.irem, 1) := by decide +kernel
theorem dk_D_growth_63 : decode prog_13_method_14_code 63 = .ok (.ifCond .ne 9, 3) := by decide +kernel
theorem dk_D_growth_66 : decode prog_13_method_14_code 66 = .ok (.iload_n 3, 1) := by decide +kernel
theorem dk_D_growth_67 : decode prog_13_method_14_code 67 = .ok (.iconst 1, 1) := by decide +kernel
theorem dk_D_growth_68 : decode prog_13_method_14_code 68 = .ok (.iadd, 1) := by decide +kernel
theorem dk_D_growth_69 : decode prog_13_method_14_code 69 = .ok (.goto 4, 3) := by decide +kernel
theorem dk_D_growth_72 : decode prog_13_method_14_code 72 = .ok (.iload_n 3, 1) := by decide +kernel
theorem dk_D_growth_73 : decode prog_13_method_14_code 73 = .ok (.ireturn, 1) := by decide +kernel
theorem dk_D_growth_74 : decode prog_13_method_14_code 74 = .ok (.iload_n 3, 1) := by decide +kernel
theorem dk_D_growth_75 : decode prog_13_method_14_code 75 = .ok (.aload_n 0, 1) := by decide +kernel
theorem dk_D_growth_76 : decode prog_13_method_14_code 76 = .ok (.getfield 9, 3) := by decide +kernel
theorem dk_D_growth_79 : decode prog_13_method_14_code 79 = .ok (.bipush 70, 2) := by decide +kernel
theorem dk_D_growth_81 : decode prog_13_method_14_code 81 = .ok (.aload_n 0, 1) := by decide +kernel
theorem dk_D_growth_82 : decode prog_13_method_14_code 82 = .ok (.iload_n 1, 1) := by decide +kernel
theorem dk_D_growth_83 : decode prog_13_method_14_code 83 = .ok (.iconst 1, 1) := by decide +kernel
theorem dk_D_growth_84 : decode prog_13_method_14_code 84 = .ok (.invokevirtual 68, 3) := by decide +kernel
theorem dk_D_growth_87 : decode prog_13_method_14_code 87 = .ok (.iadd, 1) := by decide +kernel
theorem dk_D_growth_88 : decode prog_13_method_14_code 88 = .ok (.iaload, 1) := by decide +kernel
theorem dk_D_growth_89 : decode prog_13_method_14_code 89 = .ok (.iadd, 1) := by decide +kernel
theorem dk_D_growth_90 : decode prog_13_method_14_code 90 = .ok (.ireturn, 1) := by decide +kernel
theorem dk_D_growth_91 : decode prog_13_method_14_code 91 = .ok (.iload_n 3, 1) := by decide +kernel
theorem dk_D_growth_92 : decode prog_13_method_14_code 92 = .ok (.aload_n 0, 1) := by decide +kernel
theorem dk_D_growth_93 : decode prog_13_method_14_code 93 = .ok (.getfield 9, 3) := by decide +kernel
theorem dk_D_growth_96 : decode prog_13_method_14_code 96 = .ok (.bipush 70, 2) := by decide +kernel
theorem dk_D_growth_98 : decode prog_13_method_14_code 98 = .ok (.aload_n 0, 1) := by decide +kernel
theorem dk_D_growth_99 : decode prog_13_method_14_code 99 = .ok (.iload_n 1, 1) := by decide +kernel
theorem dk_D_growth_100 : decode prog_13_method_14_code 100 = .ok (.iconst 1, 1) := by decide +kernel
theorem dk_D_growth_101 : decode prog_13_method_14_code 101 = .ok (.invokevirtual 68, 3) := by decide +kernel
theorem dk_D_growth_104 : decode prog_13_method_14_code 104 = .ok (.iadd, 1) := by decide +kernel
theorem dk_D_growth_105 : decode prog_13_method_14_code 105 = .ok (.iaload, 1) := by decide +kernel
theorem dk_D_growth_106 : decode prog_13_method_14_code 106 = .ok (.iadd, 1) := by decide +kernel
theorem dk_D_growth_107 : decode prog_13_method_14_code 107 = .ok (.iconst 2, 1) := by decide +kernel
theorem dk_D_growth_108 : decode prog_13_method_14_code 108 = .ok (.isub, 1) := by decide +kernel
theorem dk_D_growth_109 : decode prog_13_method_14_code 109 = .ok (.ireturn, 1) := by decide +kernel
theorem dk_D_growth_110 : decode prog_13_method_14_code 110 = .ok (.iload 4, 2) := by decide +kernel
theorem dk_D_growth_112 : decode prog_13_method_14_code 112 = .ok (.ifCond .lt 24, 3) := by decide +kernel
theorem dk_D_growth_115 : decode prog_13_method_14_code 115 = .ok (.iload_n 2, 1) := by decide +kernel
theorem dk_D_growth_116 : decode prog_13_method_14_code 116 = .ok (.iload 4, 2) := by decide +kernel
theorem dk_D_growth_118 : decode prog_13_method_14_code 118 = .ok (.isub, 1) := by decide +kernel
theorem dk_D_growth_119 : decode prog_13_method_14_code 119 = .ok (.i2l, 1) := by decide +kernel
theorem dk_D_growth_120 : decode prog_13_method_14_code 120 = .ok (.lconst 0, 1) := by decide +kernel
theorem dk_D_growth_121 : decode prog_13_method_14_code 121 = .ok (.ldc2_w 103, 3) := by decide +kernel
theorem dk_D_growth_124 : decode prog_13_method_14_code 124 = .ok (.invokestatic 60, 3) := by decide +kernel
theorem dk_D_growth_127 : decode prog_13_method_14_code 127 = .ok (.ifCond .eq 9, 3) := by decide +kernel
theorem dk_D_growth_130 : decode prog_13_method_14_code 130 = .ok (.iconst 2, 1) := by decide +kernel
theorem dk_D_growth_131 : decode prog_13_method_14_code 131 = .ok (.iload_n 3, 1) := by decide +kernel
theorem dk_D_growth_132 : decode prog_13_method_14_code 132 = .ok (.imul, 1) := by decide +kernel
theorem dk_D_growth_133 : decode prog_13_method_14_code 133 = .ok (.goto 4, 3) := by decide +kernel
theorem dk_D_growth_136 : decode prog_13_method_14_code 136 = .ok (.iload_n 3, 1) := by decide +kernel
theorem dk_D_growth_137 : decode prog_13_method_14_code 137 = .ok (.ireturn, 1) := by decide +kernel
theorem dk_D_growth_138 : decode prog_13_method_14_code 138 = .ok (.iload_n 2, 1) := by decide +kernel
theorem dk_D_growth_139 : decode prog_13_method_14_code 139 = .ok (.bipush 40, 2) := by decide +kernel
theorem dk_D_growth_141 : decode prog_13_method_14_code 141 = .ok (.irem, 1) := by decide +kernel
theorem dk_D_growth_142 : decode prog_13_method_14_code 142 = .ok (.bipush 13, 2) := by decide +kernel
theorem dk_D_growth_144 : decode prog_13_method_14_code 144 = .ok (.if_icmp .ne 10, 3) := by decide +kernel
theorem dk_D_growth_147 : decode prog_13_method_14_code 147 = .ok (.iload_n 3, 1) := by decide +kernel
theorem dk_D_growth_148 : decode prog_13_method_14_code 148 = .ok (.bipush 50, 2) := by decide +kernel
theorem dk_D_growth_150 : decode prog_13_method_14_code 150 = .ok (.isub, 1) := by decide +kernel
theorem dk_D_growth_151 : decode prog_13_method_14_code 151 = .ok (.goto 4, 3) := by decide +kernel
theorem dk_D_growth_154 : decode prog_13_method_14_code 154 = .ok (.iload_n 3, 1) := by decide +kernel
theorem dk_D_growth_155 : decode prog_13_method_14_code 155 = .ok (.ireturn, 1) := by decide +kernel
theorem dk_D_growth_156 : decode prog_13_method_14_code 156 = .ok (.iconst 0, 1) := by decide +kernel
theorem dk_D_growth_157 : decode prog_13_method_14_code 157 = .ok (.ireturn, 1) := by decide +kernel
theorem dk_D_growth_158 : decode prog_13_method_14_code 158 = .ok (.iload_n 3, 1) := by decide +kernel
theorem dk_D_growth_159 : decode prog_13_method_14_code 159 = .ok (.ireturn, 1) := by decide +kernel
noncomputable def fx_D_growth (p1 : Int32) (p2 : Int32) (m : (Nat → Nat → Int32)) : Option Int32 :=
  kv_bind1 (fx_D_get p1 (2 : Int32) m) (fun v1 =>
  kv_bind1 (fx_D_get p1 (4 : Int32) m) (fun v2 =>
  kv_let (v2 - (1 : Int32)) (fun v3 =>
  kv_bind1 (fx_D_get p1 (0 : Int32) m) (fun v4 =>
  if v4 = (2 : Int32) then
    if (p2 - p2 / (4 : Int32) * (4 : Int32)) = 0 then
      some (v1 + (1 : Int32))
    else
      some v1
  else if v4 = (3 : Int32) then
    kv_bind1 (fx_D_get p1 (1 : Int32) m) (fun v7 =>
    kv_gd (kv_in ((70 : Int32) + v7) 444) (
    some (v1 + (m 85 ((70 : Int32) + v7).toNatClampNeg))))
  else if v4 = (4 : Int32) then
    kv_bind1 (fx_D_get p1 (1 : Int32) m) (fun v10 =>
    kv_gd (kv_in ((70 : Int32) + v10) 444) (
    some ((v1 + (m 85 ((70 : Int32) + v10).toNatClampNeg)) - (2 : Int32))))
  else if v4 = (5 : Int32) then
    if v3 < 0 then
      some v1
    else
      kv_bind1 (fx_D_isIn (p2 - v3).toInt64 (0 : Int64) (2 : Int64)) (fun b13 =>
      if b13 = true then
        some ((2 : Int32) * v1)
      else
        some v1)
  else if v4 = (6 : Int32) then
    if (p2 - p2 / (40 : Int32) * (40 : Int32)) = (13 : Int32) then
      some (v1 - (50 : Int32))
    else
      some v1
  else if v4 = (7 : Int32) then
    some (0 : Int32)
  else 
  some v1))))
set_option maxRecDepth 20000 in
theorem cx_D_growth (d : Nat) (p1 : Int32) (p2 : Int32) (c : (Nat → Nat → Int32)) (m : (Nat → Nat → Int32)) (f : (Nat → Int64)) (u : (Nat → Int64)) : ∀ a, fx_D_growth p1 p2 m = some a → kv_C kM_D_growth (d + 1) [.ref 84, .int p1, .int p2] (c, m, f, u) (some (.int a), (c, m, f, u)) := by
  refine kv_entryX (E := fun a : Int32 => (some (.int a), (c, m, f, u))) rfl (Nat.le_of_ble_eq_true rfl) (fun o => ?_)
  unfold fx_D_growth
  show kv_X _ _ _ _ _ 0 [(0, .ref 84), (1, .int p1), (2, .int p2)] [] (c, m, f, u)
  refine kv_aload_n (pc := 0) 0 rfl rfl dk_D_growth_0 ?_
  refine kv_iload_n (pc := 1) 1 rfl rfl dk_D_growth_1 ?_
  refine kv_iconst (pc := 2) (v := (2 : Int32)) dk_D_growth_2 kki_2 ?_
  refine kv_cV_mI (pc := 3) (as := [.int p1, .int (2 : Int32)]) (st := []) ko_D_get kc_11 rfl rfl kr_84 kw_1341 (Nat.le_of_ble_eq_true rfl) rfl dk_D_growth_3 (cx_D_get d p1 (2 : Int32) c m f u) (fun v1 => ?_)
  refine kv_istore_n (pc := 6) (lv' := [(3, .int v1), (0, .ref 84), (1, .int p1), (2, .int p2)]) rfl (Nat.le_of_ble_eq_true rfl) rfl dk_D_growth_6 ?_
  refine kv_aload_n (pc := 7) 1 rfl rfl dk_D_growth_7 ?_
  refine kv_iload_n (pc := 8) 2 rfl rfl dk_D_growth_8 ?_
  refine kv_iconst (pc := 9) (v := (4 : Int32)) dk_D_growth_9 kki_4 ?_
  refine kv_cV_mI (pc := 10) (as := [.int p1, .int (4 : Int32)]) (st := []) ko_D_get kc_11 rfl rfl kr_84 kw_1341 (Nat.le_of_ble_eq_true rfl) rfl dk_D_growth_10 (cx_D_get d p1 (4 : Int32) c m f u) (fun v2 => ?_)
  refine kv_iconst (pc := 13) (v := (1 : Int32)) dk_D_growth_13 kki_1 ?_
  refine kv_isub (pc := 14) dk_D_growth_14 ?_
  refine kv_letI (fun v3 => ?_)
  refine kv_istore (pc := 15) (lv' := [(4, .int v3), (3, .int v1), (0, .ref 84), (1, .int p1), (2, .int p2)]) rfl (Nat.le_of_ble_eq_true rfl) dk_D_growth_15 ?_
  refine kv_aload_n (pc := 17) 2 rfl rfl dk_D_growth_17 ?_
  refine kv_iload_n (pc := 18) 3 rfl rfl dk_D_growth_18 ?_
  refine kv_iconst (pc := 19) (v := (0 : Int32)) dk_D_growth_19 kki_0 ?_
  refine kv_cV_mI (pc := 20) (as := [.int p1, .int (0 : Int32)]) (st := []) ko_D_get kc_11 rfl rfl kr_84 kw_1341 (Nat.le_of_ble_eq_true rfl) rfl dk_D_growth_20 (cx_D_get d p1 (0 : Int32) c m f u) (fun v4 => ?_)
  refine kv_swIn (pc := 23) (v := (2 : Int32)) (tgt := 60) dk_D_growth_23 (by decide) (by decide) rfl (by decide) ?_ (fun n5 => ?_)
  · refine kv_iload_n (pc := 60) 4 rfl rfl dk_D_growth_60 ?_
    refine kv_iconst (pc := 61) (v := (4 : Int32)) dk_D_growth_61 kki_4 ?_
    refine kv_irem (pc := 62) dk_D_growth_62 kkn_4 ?_
    refine kv_if_ne (pc := 63) (tgt := 72) dk_D_growth_63 rfl ?_ ?_
    · refine kv_iload_n (pc := 72) 1 rfl rfl dk_D_growth_72 ?_
      exact kv_iret (pc := 73) (fun h => h) rfl dk_D_growth_73
    · refine kv_iload_n (pc := 66) 1 rfl rfl dk_D_growth_66 ?_
      refine kv_iconst (pc := 67) (v := (1 : Int32)) dk_D_growth_67 kki_1 ?_
      refine kv_iadd (pc := 68) dk_D_growth_68 ?_
      refine kv_goto (pc := 69) (tgt := 73) dk_D_growth_69 rfl ?_
      exact kv_iret (pc := 73) (fun h => h) rfl dk_D_growth_73
  refine kv_swIn (pc := 23) (v := (3 : Int32)) (tgt := 74) dk_D_growth_23 (by decide) (by decide) rfl (by decide) ?_ (fun n6 => ?_)
  · refine kv_iload_n (pc := 74) 1 rfl rfl dk_D_growth_74 ?_
    refine kv_aload_n (pc := 75) 2 rfl rfl dk_D_growth_75 ?_
    refine kv_getR (pc := 76) kf_D_9 kr_84 rfl kt_84_0 dk_D_growth_76 ?_
    refine kv_bipush (pc := 79) (v := (70 : Int32)) dk_D_growth_79 kkb_70 ?_
    refine kv_aload_n (pc := 81) 2 rfl rfl dk_D_growth_81 ?_
    refine kv_iload_n (pc := 82) 3 rfl rfl dk_D_growth_82 ?_
    refine kv_iconst (pc := 83) (v := (1 : Int32)) dk_D_growth_83 kki_1 ?_
    refine kv_cV_mI (pc := 84) (as := [.int p1, .int (1 : Int32)]) (st := [.int (70 : Int32), .ref 85, .int v1]) ko_D_get kc_11 rfl rfl kr_84 kw_1341 (Nat.le_of_ble_eq_true rfl) rfl dk_D_growth_84 (cx_D_get d p1 (1 : Int32) c m f u) (fun v7 => ?_)
    refine kv_iadd (pc := 87) dk_D_growth_87 ?_
    refine kv_guard (fun g8 => ?_)
    refine kv_aldM (pc := 88) kr_85 kn_85 kl_85 g8 rfl dk_D_growth_88 ?_
    refine kv_iadd (pc := 89) dk_D_growth_89 ?_
    exact kv_iret (pc := 90) (fun h => h) rfl dk_D_growth_90
  refine kv_swIn (pc := 23) (v := (4 : Int32)) (tgt := 91) dk_D_growth_23 (by decide) (by decide) rfl (by decide) ?_ (fun n9 => ?_)
  · refine kv_iload_n (pc := 91) 1 rfl rfl dk_D_growth_91 ?_
    refine kv_aload_n (pc := 92) 2 rfl rfl dk_D_growth_92 ?_
    refine kv_getR (pc := 93) kf_D_9 kr_84 rfl kt_84_0 dk_D_growth_93 ?_
    refine kv_bipush (pc := 96) (v := (70 : Int32)) dk_D_growth_96 kkb_70 ?_
    refine kv_aload_n (pc := 98) 2 rfl rfl dk_D_growth_98 ?_
    refine kv_iload_n (pc := 99) 3 rfl rfl dk_D_growth_99 ?_
    refine kv_iconst (pc := 100) (v := (1 : Int32)) dk_D_growth_100 kki_1 ?_
    refine kv_cV_mI (pc := 101) (as := [.int p1, .int (1 : Int32)]) (st := [.int (70 : Int32), .ref 85, .int v1]) ko_D_get kc_11 rfl rfl kr_84 kw_1341 (Nat.le_of_ble_eq_true rfl) rfl dk_D_growth_101 (cx_D_get d p1 (1 : Int32) c m f u) (fun v10 => ?_)
    refine kv_iadd (pc := 104) dk_D_growth_104 ?_
    refine kv_guard (fun g11 => ?_)
    refine kv_aldM (pc := 105) kr_85 kn_85 kl_85 g11 rfl dk_D_growth_105 ?_
    refine kv_iadd (pc := 106) dk_D_growth_106 ?_
    refine kv_iconst (pc := 107) (v := (2 : Int32)) dk_D_growth_107 kki_2 ?_
    refine kv_isub (pc := 108) dk_D_growth_108 ?_
    exact kv_iret (pc := 109) (fun h => h) rfl dk_D_growth_109
  refine kv_swIn (pc := 23) (v := (5 : Int32)) (tgt := 110) dk_D_growth_23 (by decide) (by decide) rfl (by decide) ?_ (fun n12 => ?_)
  · refine kv_iload (pc := 110) 0 rfl dk_D_growth_110 ?_
    refine kv_if_lt (pc := 112) (tgt := 136) dk_D_growth_112 rfl ?_ ?_
    · refine kv_iload_n (pc := 136) 1 rfl rfl dk_D_growth_136 ?_
      exact kv_iret (pc := 137) (fun h => h) rfl dk_D_growth_137
    · refine kv_iload_n (pc := 115) 4 rfl rfl dk_D_growth_115 ?_
      refine kv_iload (pc := 116) 0 rfl dk_D_growth_116 ?_
      refine kv_isub (pc := 118) dk_D_growth_118 ?_
      refine kv_i2l (pc := 119) dk_D_growth_119 ?_
      refine kv_lconst (pc := 120) (v := (0 : Int64)) dk_D_growth_120 kkl_0 ?_
      refine kv_ldc2 (pc := 121) (v := (2 : Int64)) kw_1380 dk_D_growth_121 ?_
      refine kv_cS_mZ (pc := 124) (as := [.long (p2 - v3).toInt64, .long (0 : Int64), .long (2 : Int64)]) (st := []) ko_D_isIn rfl kw_1330 (Nat.le_of_ble_eq_true rfl) rfl dk_D_growth_124 (cx_D_isIn d (p2 - v3).toInt64 (0 : Int64) (2 : Int64) c m f u) (fun b13 => ?_)
      refine kv_zif_eq (pc := 127) (tgt := 136) dk_D_growth_127 rfl ?_ ?_
      · refine kv_iload_n (pc := 136) 1 rfl rfl dk_D_growth_136 ?_
        exact kv_iret (pc := 137) (fun h => h) rfl dk_D_growth_137
      · refine kv_iconst (pc := 130) (v := (2 : Int32)) dk_D_growth_130 kki_2 ?_
        refine kv_iload_n (pc := 131) 1 rfl rfl dk_D_growth_131 ?_
        refine kv_imul (pc := 132) dk_D_growth_132 ?_
        refine kv_goto (pc := 133) (tgt := 137) dk_D_growth_133 rfl ?_
        exact kv_iret (pc := 137) (fun h => h) rfl dk_D_growth_137
  refine kv_swIn (pc := 23) (v := (6 : Int32)) (tgt := 138) dk_D_growth_23 (by decide) (by decide) rfl (by decide) ?_ (fun n14 => ?_)
  · refine kv_iload_n (pc := 138) 4 rfl rfl dk_D_growth_138 ?_
    refine kv_bipush (pc := 139) (v := (40 : Int32)) dk_D_growth_139 kkb_40 ?_
    refine kv_irem (pc := 141) dk_D_growth_141 kkn_40 ?_
    refine kv_bipush (pc := 142) (v := (13 : Int32)) dk_D_growth_142 kkb_13 ?_
    refine kv_icmp_ne (pc := 144) (tgt := 154) dk_D_growth_144 rfl ?_ ?_
    · refine kv_iload_n (pc := 154) 1 rfl rfl dk_D_growth_154 ?_
      exact kv_iret (pc := 155) (fun h => h) rfl dk_D_growth_155
    · refine kv_iload_n (pc := 147) 1 rfl rfl dk_D_growth_147 ?_
      refine kv_bipush (pc := 148) (v := (50 : Int32)) dk_D_growth_148 kkb_50 ?_
      refine kv_isub (pc := 150) dk_D_growth_150 ?_
      refine kv_goto (pc := 151) (tgt := 155) dk_D_growth_151 rfl ?_
      exact kv_iret (pc := 155) (fun h => h) rfl dk_D_growth_155
  refine kv_swIn (pc := 23) (v := (7 : Int32)) (tgt := 156) dk_D_growth_23 (by decide) (by decide) rfl (by decide) ?_ (fun n15 => ?_)
  · refine kv_iconst (pc := 156) (v := (0 : Int32)) dk_D_growth_156 kki_0 ?_
    exact kv_iret (pc := 157) (fun h => h) rfl dk_D_growth_157
  refine kv_swOut (pc := 23) (tgt := 158) dk_D_growth_23 (by have qn5 := kv_ne (2 : Int32) (k := 2) rfl n5; have qn6 := kv_ne (3 : Int32) (k := 3) rfl n6; have qn9 := kv_ne (4 : Int32) (k := 4) rfl n9; have qn12 := kv_ne (5 : Int32) (k := 5) rfl n12; have qn14 := kv_ne (6 : Int32) (k := 6) rfl n14; have qn15 := kv_ne (7 : Int32) (k := 7) rfl n15; omega) (by decide) ?_
  refine kv_iload_n (pc := 158) 1 rfl rfl dk_D_growth_158 ?_
  exact kv_iret (pc := 159) (fun h => h) rfl dk_D_growth_159
theorem dk_D_go_0 : decode prog_13_method_15_code 0 = .ok (.iload_n 1, 1) := by decide +kernel
theorem dk_D_go_1 : decode prog_13_method_15_code 1 = .ok (.i2l, 1) := by decide +kernel
theorem dk_D_go_2 : decode prog_13_method_15_code 2 = .ok (.lconst 1, 1) := by decide +kernel
theorem dk_D_go_3 : decode prog_13_method_15_code 3 = .ok (.ldc2_w 105, 3) := by decide +kernel
theorem dk_D_go_6 : decode prog_13_method_15_code 6 = .ok (.invokestatic 60, 3) := by decide +kernel
theorem dk_D_go_9 : decode prog_13_method_15_code 9 = .ok (.ifCond .ne 5, 3) := by decide +kernel
theorem dk_D_go_12 : decode prog_13_method_15_code 12 = .ok (.iconst (-1), 1) := by decide +kernel
theorem dk_D_go_13 : decode prog_13_method_15_code 13 = .ok (.ireturn, 1) := by decide +kernel
theorem dk_D_go_14 : decode prog_13_method_15_code 14 = .ok (.aload_n 0, 1) := by decide +kernel
theorem dk_D_go_15 : decode prog_13_method_15_code 15 = .ok (.getfield 9, 3) := by decide +kernel
theorem dk_D_go_18 : decode prog_13_method_15_code 18 = .ok (.iconst 0, 1) := by decide +kernel
theorem dk_D_go_19 : decode prog_13_method_15_code 19 = .ok (.iaload, 1) := by decide +kernel
theorem dk_D_go_20 : decode prog_13_method_15_code 20 = .ok (.iload_n 1, 1) := by decide +kernel
theorem dk_D_go_21 : decode prog_13_method_15_code 21 = .ok (.iadd, 1) := by decide +kernel
theorem dk_D_go_22 : decode prog_13_method_15_code 22 = .ok (.sipush 140, 3) := by decide +kernel
theorem dk_D_go_25 : decode prog_13_method_15_code 25 = .ok (.if_icmp .le 6, 3) := by decide +kernel
theorem dk_D_go_28 : decode prog_13_method_15_code 28 = .ok (.bipush (-2), 2) := by decide +kernel
theorem dk_D_go_30 : decode prog_13_method_15_code 30 = .ok (.ireturn, 1) := by decide +kernel
theorem dk_D_go_31 : decode prog_13_method_15_code 31 = .ok (.iconst 0, 1) := by decide +kernel
theorem dk_D_go_32 : decode prog_13_method_15_code 32 = .ok (.istore_n 2, 1) := by decide +kernel
theorem dk_D_go_33 : decode prog_13_method_15_code 33 = .ok (.iload_n 2, 1) := by decide +kernel
theorem dk_D_go_34 : decode prog_13_method_15_code 34 = .ok (.iload_n 1, 1) := by decide +kernel
theorem dk_D_go_35 : decode prog_13_method_15_code 35 = .ok (.if_icmp .ge 65, 3) := by decide +kernel
theorem dk_D_go_38 : decode prog_13_method_15_code 38 = .ok (.iconst 0, 1) := by decide +kernel
theorem dk_D_go_39 : decode prog_13_method_15_code 39 = .ok (.istore_n 3, 1) := by decide +kernel
theorem dk_D_go_40 : decode prog_13_method_15_code 40 = .ok (.iload_n 3, 1) := by decide +kernel
theorem dk_D_go_41 : decode prog_13_method_15_code 41 = .ok (.aload_n 0, 1) := by decide +kernel
theorem dk_D_go_42 : decode prog_13_method_15_code 42 = .ok (.getfield 9, 3) := by decide +kernel
theorem dk_D_go_45 : decode prog_13_method_15_code 45 = .ok (.iconst 1, 1) := by decide +kernel
theorem dk_D_go_46 : decode prog_13_method_15_code 46 = .ok (.iaload, 1) := by decide +kernel
theorem dk_D_go_47 : decode prog_13_method_15_code 47 = .ok (.if_icmp .ge 37, 3) := by decide +kernel
theorem dk_D_go_50 : decode prog_13_method_15_code 50 = .ok (.aload_n 0, 1) := by decide +kernel
theorem dk_D_go_51 : decode prog_13_method_15_code 51 = .ok (.getfield 9, 3) := by decide +kernel
theorem dk_D_go_54 : decode prog_13_method_15_code 54 = .ok (.bipush 10, 2) := by decide +kernel
theorem dk_D_go_56 : decode prog_13_method_15_code 56 = .ok (.bipush 6, 2) := by decide +kernel
theorem dk_D_go_58 : decode prog_13_method_15_code 58 = .ok (.iload_n 3, 1) := by decide +kernel
theorem dk_D_go_59 : decode prog_13_method_15_code 59 = .ok (.imul, 1) := by decide +kernel
theorem dk_D_go_60 : decode prog_13_method_15_code 60 = .ok (.iadd, 1) := by decide +kernel
theorem dk_D_go_61 : decode prog_13_method_15_code 61 = .ok (.iconst 3, 1) := by decide +kernel
theorem dk_D_go_62 : decode prog_13_method_15_code 62 = .ok (.iadd, 1) := by decide +kernel
theorem dk_D_go_63 : decode prog_13_method_15_code 63 = .ok (.dup2, 1) := by decide +kernel
theorem dk_D_go_64 : decode prog_13_method_15_code 64 = .ok (.iaload, 1) := by decide +kernel
theorem dk_D_go_65 : decode prog_13_method_15_code 65 = .ok (.aload_n 0, 1) := by decide +kernel
theorem dk_D_go_66 : decode prog_13_method_15_code 66 = .ok (.iload_n 3, 1) := by decide +kernel
theorem dk_D_go_67 : decode prog_13_method_15_code 67 = .ok (.aload_n 0, 1) := by decide +kernel
theorem dk_D_go_68 : decode prog_13_method_15_code 68 = .ok (.getfield 9, 3) := by decide +kernel
theorem dk_D_go_71 : decode prog_13_method_15_code 71 = .ok (.iconst 0, 1) := by decide +kernel
theorem dk_D_go_72 : decode prog_13_method_15_code 72 = .ok (.iaload, 1) := by decide +kernel
theorem dk_D_go_73 : decode prog_13_method_15_code 73 = .ok (.invokevirtual 107, 3) := by decide +kernel
theorem dk_D_go_76 : decode prog_13_method_15_code 76 = .ok (.iadd, 1) := by decide +kernel
theorem dk_D_go_77 : decode prog_13_method_15_code 77 = .ok (.iastore, 1) := by decide +kernel
theorem dk_D_go_78 : decode prog_13_method_15_code 78 = .ok (.iinc 3 1, 3) := by decide +kernel
theorem dk_D_go_81 : decode prog_13_method_15_code 81 = .ok (.goto (-41), 3) := by decide +kernel
theorem dk_D_go_84 : decode prog_13_method_15_code 84 = .ok (.aload_n 0, 1) := by decide +kernel
theorem dk_D_go_85 : decode prog_13_method_15_code 85 = .ok (.getfield 9, 3) := by decide +kernel
theorem dk_D_go_88 : decode prog_13_method_15_code 88 = .ok (.iconst 0, 1) := by decide +kernel
theorem dk_D_go_89 : decode prog_13_method_15_code 89 = .ok (.dup2, 1) := by decide +kernel
theorem dk_D_go_90 : decode prog_13_method_15_code 90 = .ok (.iaload, 1) := by decide +kernel
theorem dk_D_go_91 : decode prog_13_method_15_code 91 = .ok (.iconst 1, 1) := by decide +kernel
theorem dk_D_go_92 : decode prog_13_method_15_code 92 = .ok (.iadd, 1) := by decide +kernel
theorem dk_D_go_93 : decode prog_13_method_15_code 93 = .ok (.iastore, 1) := by decide +kernel
theorem dk_D_go_94 : decode prog_13_method_15_code 94 = .ok (.iinc 2 1, 3) := by decide +kernel
theorem dk_D_go_97 : decode prog_13_method_15_code 97 = .ok (.goto (-64), 3) := by decide +kernel
theorem dk_D_go_100 : decode prog_13_method_15_code 100 = .ok (.aload_n 0, 1) := by decide +kernel
theorem dk_D_go_101 : decode prog_13_method_15_code 101 = .ok (.getfield 9, 3) := by decide +kernel
theorem dk_D_go_104 : decode prog_13_method_15_code 104 = .ok (.iconst 0, 1) := by decide +kernel
theorem dk_D_go_105 : decode prog_13_method_15_code 105 = .ok (.iaload, 1) := by decide +kernel
theorem dk_D_go_106 : decode prog_13_method_15_code 106 = .ok (.ireturn, 1) := by decide +kernel
noncomputable def fb_D_go_40 (x5 : Int32) (m6 : (Nat → Nat → Int32)) : Option ((Int32 × (Nat → Nat → Int32)) ⊕ (Nat → Nat → Int32)) :=
  if (m6 85 1) ≤ x5 then
    some (.inr m6)
  else
    kv_gd (kv_in (((10 : Int32) + ((6 : Int32) * x5)) + (3 : Int32)) 444) (
    kv_bind1 (fx_D_growth x5 (m6 85 0) m6) (fun v9 =>
    kv_let (kv_st m6 85 (((10 : Int32) + ((6 : Int32) * x5)) + (3 : Int32)).toNatClampNeg ((m6 85 (((10 : Int32) + ((6 : Int32) * x5)) + (3 : Int32)).toNatClampNeg) + v9)) (fun m10 =>
    some (.inl ((x5 + (1 : Int32)), m10)))))
noncomputable def fb_D_go_33 (p1 : Int32) (x2 : Int32) (m3 : (Nat → Nat → Int32)) : Option ((Int32 × (Nat → Nat → Int32)) ⊕ (Nat → Nat → Int32)) :=
  if p1 ≤ x2 then
    some (.inr m3)
  else
    (kv_loop (kv_u2 (fb_D_go_40)) ((0 : Int32), m3)).bind (kv_u1 (fun m7 =>
    kv_let (kv_st m7 85 0 ((m7 85 0) + (1 : Int32))) (fun m11 =>
    some (.inl ((x2 + (1 : Int32)), m11)))))
noncomputable def fx_D_go (p1 : Int32) (m : (Nat → Nat → Int32)) : Option (Int32 × (Nat → Nat → Int32)) :=
  kv_bind1 (fx_D_isIn p1.toInt64 (1 : Int64) (40 : Int64)) (fun b1 =>
  if b1 = true then
    if ((m 85 0) + p1) ≤ (140 : Int32) then
      (kv_loop (kv_u2 (fb_D_go_33 p1)) ((0 : Int32), m)).bind (kv_u1 (fun m4 =>
      some ((m4 85 0), m4)))
    else
      some ((-2 : Int32), m)
  else
    some ((-1 : Int32), m))
set_option maxRecDepth 20000 in
theorem cx_D_go (d : Nat) (p1 : Int32) (c : (Nat → Nat → Int32)) (m : (Nat → Nat → Int32)) (f : (Nat → Int64)) (u : (Nat → Int64)) : ∀ a, fx_D_go p1 m = some a → kv_C kM_D_go (d + 2) [.ref 84, .int p1] (c, m, f, u) (some (.int a.1), (c, a.2, f, u)) := by
  refine kv_entryX (E := fun a : (Int32 × (Nat → Nat → Int32)) => (some (.int a.1), (c, a.2, f, u))) rfl (Nat.le_of_ble_eq_true rfl) (fun o => ?_)
  unfold fx_D_go
  show kv_X _ _ _ _ _ 0 [(0, .ref 84), (1, .int p1)] [] (c, m, f, u)
  refine kv_iload_n (pc := 0) 1 rfl rfl dk_D_go_0 ?_
  refine kv_i2l (pc := 1) dk_D_go_1 ?_
  refine kv_lconst (pc := 2) (v := (1 : Int64)) dk_D_go_2 kkl_1 ?_
  refine kv_ldc2 (pc := 3) (v := (40 : Int64)) kw_1375 dk_D_go_3 ?_
  refine kv_cS_mZ (pc := 6) (as := [.long p1.toInt64, .long (1 : Int64), .long (40 : Int64)]) (st := []) ko_D_isIn rfl kw_1330 (Nat.le_of_ble_eq_true rfl) rfl dk_D_go_6 (cx_D_isIn (d + 1) p1.toInt64 (1 : Int64) (40 : Int64) c m f u) (fun b1 => ?_)
  refine kv_zif_ne (pc := 9) (tgt := 14) dk_D_go_9 rfl ?_ ?_
  · refine kv_aload_n (pc := 14) 0 rfl rfl dk_D_go_14 ?_
    refine kv_getR (pc := 15) kf_D_9 kr_84 rfl kt_84_0 dk_D_go_15 ?_
    refine kv_iconst (pc := 18) (v := (0 : Int32)) dk_D_go_18 kki_0 ?_
    refine kv_aldM (pc := 19) kr_85 kn_85 kl_85 kkg_0_444 (j := 0) kkx_0 dk_D_go_19 ?_
    refine kv_iload_n (pc := 20) 1 rfl rfl dk_D_go_20 ?_
    refine kv_iadd (pc := 21) dk_D_go_21 ?_
    refine kv_sipush (pc := 22) (v := (140 : Int32)) dk_D_go_22 kks_140 ?_
    refine kv_icmp_le (pc := 25) (tgt := 31) dk_D_go_25 rfl ?_ ?_
    · refine kv_iconst (pc := 31) (v := (0 : Int32)) dk_D_go_31 kki_0 ?_
      refine kv_istore_n (pc := 32) (lv' := [(2, .int (0 : Int32)), (0, .ref 84), (1, .int p1)]) rfl (Nat.le_of_ble_eq_true rfl) rfl dk_D_go_32 ?_
      refine kv_sub (lv' := [(0, .ref 84), (1, .int p1), (2, .int (0 : Int32))]) [1, 2, 0] rfl ?_
      refine kv_lp_2_1 (LV := fun x2 m3 => [(0, .ref 84), (1, .int p1), (2, .int x2)]) (WW := fun x2 m3 => (c, m3, f, u)) (LE1 := fun m4 => [(0, .ref 84)]) (WE1 := fun m4 => (c, m4, f, u)) (pe1 := 100) ?_ ?_
      · intro m4
        show kv_X _ _ _ _ _ 100 [(0, .ref 84)] [] (c, m4, f, u)
        refine kv_aload_n (pc := 100) 0 rfl rfl dk_D_go_100 ?_
        refine kv_getR (pc := 101) kf_D_9 kr_84 rfl kt_84_0 dk_D_go_101 ?_
        refine kv_iconst (pc := 104) (v := (0 : Int32)) dk_D_go_104 kki_0 ?_
        refine kv_aldM (pc := 105) kr_85 kn_85 kl_85 kkg_0_444 (j := 0) kkx_0 dk_D_go_105 ?_
        exact kv_iret (pc := 106) (fun h => h) rfl dk_D_go_106
      · intro hx33_0 x2 m3
        show kv_X _ _ _ _ (fb_D_go_33 p1 x2 m3) 33 [(0, .ref 84), (1, .int p1), (2, .int x2)] [] (c, m3, f, u)
        unfold fb_D_go_33
        refine kv_iload_n (pc := 33) 2 rfl rfl dk_D_go_33 ?_
        refine kv_iload_n (pc := 34) 1 rfl rfl dk_D_go_34 ?_
        refine kv_icmp_ge (pc := 35) (tgt := 100) dk_D_go_35 rfl ?_ ?_
        · exact kv_sub [0] rfl (kv_leaf (hx33_0 _))
        · refine kv_iconst (pc := 38) (v := (0 : Int32)) dk_D_go_38 kki_0 ?_
          refine kv_istore_n (pc := 39) (lv' := [(3, .int (0 : Int32)), (0, .ref 84), (1, .int p1), (2, .int x2)]) rfl (Nat.le_of_ble_eq_true rfl) rfl dk_D_go_39 ?_
          refine kv_sub (lv' := [(0, .ref 84), (1, .int p1), (2, .int x2), (3, .int (0 : Int32))]) [1, 2, 3, 0] rfl ?_
          refine kv_lp_2_1 (LV := fun x5 m6 => [(0, .ref 84), (1, .int p1), (2, .int x2), (3, .int x5)]) (WW := fun x5 m6 => (c, m6, f, u)) (LE1 := fun m7 => [(0, .ref 84), (1, .int p1), (2, .int x2)]) (WE1 := fun m7 => (c, m7, f, u)) (pe1 := 84) ?_ ?_
          · intro m7
            show kv_X _ _ _ _ _ 84 [(0, .ref 84), (1, .int p1), (2, .int x2)] [] (c, m7, f, u)
            refine kv_aload_n (pc := 84) 0 rfl rfl dk_D_go_84 ?_
            refine kv_getR (pc := 85) kf_D_9 kr_84 rfl kt_84_0 dk_D_go_85 ?_
            refine kv_iconst (pc := 88) (v := (0 : Int32)) dk_D_go_88 kki_0 ?_
            refine kv_dup2RI (pc := 89) dk_D_go_89 ?_
            refine kv_aldM (pc := 90) kr_85 kn_85 kl_85 kkg_0_444 (j := 0) kkx_0 dk_D_go_90 ?_
            refine kv_iconst (pc := 91) (v := (1 : Int32)) dk_D_go_91 kki_1 ?_
            refine kv_iadd (pc := 92) dk_D_go_92 ?_
            refine kv_astM (pc := 93) kr_85 kn_85 kl_85 kkg_0_444 (j := 0) kkx_0 dk_D_go_93 (fun m11 => ?_)
            refine kv_iinc (pc := 94) (kk := (1 : Int32)) (lv' := [(2, .int (x2 + (1 : Int32))), (0, .ref 84), (1, .int p1)]) 2 rfl kki_1 rfl (Nat.le_of_ble_eq_true rfl) dk_D_go_94 ?_
            refine kv_goto (pc := 97) (tgt := 33) dk_D_go_97 rfl ?_
            exact kv_sub [1, 2, 0] rfl (kv_leaf (fun h => h))
          · intro hx40_0 x5 m6
            show kv_X _ _ _ _ (fb_D_go_40 x5 m6) 40 [(0, .ref 84), (1, .int p1), (2, .int x2), (3, .int x5)] [] (c, m6, f, u)
            unfold fb_D_go_40
            refine kv_iload_n (pc := 40) 3 rfl rfl dk_D_go_40 ?_
            refine kv_aload_n (pc := 41) 0 rfl rfl dk_D_go_41 ?_
            refine kv_getR (pc := 42) kf_D_9 kr_84 rfl kt_84_0 dk_D_go_42 ?_
            refine kv_iconst (pc := 45) (v := (1 : Int32)) dk_D_go_45 kki_1 ?_
            refine kv_aldM (pc := 46) kr_85 kn_85 kl_85 kkg_1_444 (j := 1) kkx_1 dk_D_go_46 ?_
            refine kv_icmp_ge (pc := 47) (tgt := 84) dk_D_go_47 rfl ?_ ?_
            · exact kv_sub [0, 1, 2] rfl (kv_leaf (hx40_0 _))
            · refine kv_aload_n (pc := 50) 0 rfl rfl dk_D_go_50 ?_
              refine kv_getR (pc := 51) kf_D_9 kr_84 rfl kt_84_0 dk_D_go_51 ?_
              refine kv_bipush (pc := 54) (v := (10 : Int32)) dk_D_go_54 kkb_10 ?_
              refine kv_bipush (pc := 56) (v := (6 : Int32)) dk_D_go_56 kkb_6 ?_
              refine kv_iload_n (pc := 58) 3 rfl rfl dk_D_go_58 ?_
              refine kv_imul (pc := 59) dk_D_go_59 ?_
              refine kv_iadd (pc := 60) dk_D_go_60 ?_
              refine kv_iconst (pc := 61) (v := (3 : Int32)) dk_D_go_61 kki_3 ?_
              refine kv_iadd (pc := 62) dk_D_go_62 ?_
              refine kv_dup2RI (pc := 63) dk_D_go_63 ?_
              refine kv_guard (fun g8 => ?_)
              refine kv_aldM (pc := 64) kr_85 kn_85 kl_85 g8 rfl dk_D_go_64 ?_
              refine kv_aload_n (pc := 65) 0 rfl rfl dk_D_go_65 ?_
              refine kv_iload_n (pc := 66) 3 rfl rfl dk_D_go_66 ?_
              refine kv_aload_n (pc := 67) 0 rfl rfl dk_D_go_67 ?_
              refine kv_getR (pc := 68) kf_D_9 kr_84 rfl kt_84_0 dk_D_go_68 ?_
              refine kv_iconst (pc := 71) (v := (0 : Int32)) dk_D_go_71 kki_0 ?_
              refine kv_aldM (pc := 72) kr_85 kn_85 kl_85 kkg_0_444 (j := 0) kkx_0 dk_D_go_72 ?_
              refine kv_cV_mI (pc := 73) (as := [.int x5, .int (m6 85 0)]) (st := [.int (m6 85 (((10 : Int32) + ((6 : Int32) * x5)) + (3 : Int32)).toNatClampNeg), .int (((10 : Int32) + ((6 : Int32) * x5)) + (3 : Int32)), .ref 85]) ko_D_growth kc_11 rfl rfl kr_84 kw_1376 (Nat.le_of_ble_eq_true rfl) rfl dk_D_go_73 (cx_D_growth d x5 (m6 85 0) c m6 f u) (fun v9 => ?_)
              refine kv_iadd (pc := 76) dk_D_go_76 ?_
              refine kv_astM (pc := 77) kr_85 kn_85 kl_85 g8 rfl dk_D_go_77 (fun m10 => ?_)
              refine kv_iinc (pc := 78) (kk := (1 : Int32)) (lv' := [(3, .int (x5 + (1 : Int32))), (0, .ref 84), (1, .int p1), (2, .int x2)]) 3 rfl kki_1 rfl (Nat.le_of_ble_eq_true rfl) dk_D_go_78 ?_
              refine kv_goto (pc := 81) (tgt := 40) dk_D_go_81 rfl ?_
              exact kv_sub [1, 2, 3, 0] rfl (kv_leaf (fun h => h))
    · refine kv_bipush (pc := 28) (v := (-2 : Int32)) dk_D_go_28 kkb_m2 ?_
      exact kv_iret (pc := 30) (fun h => h) rfl dk_D_go_30
  · refine kv_iconst (pc := 12) (v := (-1 : Int32)) dk_D_go_12 kki_m1 ?_
    exact kv_iret (pc := 13) (fun h => h) rfl dk_D_go_13
theorem dk_K_isYear_0 : decode prog_1_method_41_code 0 = .ok (.iload_n 0, 1) := by decide +kernel
theorem dk_K_isYear_1 : decode prog_1_method_41_code 1 = .ok (.iconst 0, 1) := by decide +kernel
theorem dk_K_isYear_2 : decode prog_1_method_41_code 2 = .ok (.sipush 140, 3) := by decide +kernel
theorem dk_K_isYear_5 : decode prog_1_method_41_code 5 = .ok (.invokestatic 54, 3) := by decide +kernel
theorem dk_K_isYear_8 : decode prog_1_method_41_code 8 = .ok (.ireturn, 1) := by decide +kernel
noncomputable def fx_K_isYear (p0 : Int32) : Option Bool :=
  kv_bind1 (fx_K_isWithin p0 (0 : Int32) (140 : Int32)) (fun b1 =>
  some b1)
set_option maxRecDepth 20000 in
theorem cx_K_isYear (d : Nat) (p0 : Int32) (c : (Nat → Nat → Int32)) (y : (Nat → Nat → Int32) × (Nat → Int64) × (Nat → Int64)) : ∀ a, fx_K_isYear p0 = some a → kv_C kM_K_isYear (d + 1) [.int p0] (c, y) (some (.int (kv_b a)), (c, y)) := by
  refine kv_entryX (E := fun a : Bool => (some (.int (kv_b a)), (c, y))) rfl (Nat.le_of_ble_eq_true rfl) (fun o => ?_)
  unfold fx_K_isYear
  show kv_X _ _ _ _ _ 0 [(0, .int p0)] [] (c, y)
  refine kv_iload_n (pc := 0) 0 rfl rfl dk_K_isYear_0 ?_
  refine kv_iconst (pc := 1) (v := (0 : Int32)) dk_K_isYear_1 kki_0 ?_
  refine kv_sipush (pc := 2) (v := (140 : Int32)) dk_K_isYear_2 kks_140 ?_
  refine kv_cS_cZ (pc := 5) (as := [.int p0, .int (0 : Int32), .int (140 : Int32)]) (st := []) ko_K_isWithin rfl kw_512 (Nat.le_of_ble_eq_true rfl) rfl dk_K_isYear_5 (cx_K_isWithin d p0 (0 : Int32) (140 : Int32) c y) (fun b1 => ?_)
  exact kv_zret (pc := 8) (b := b1) (fun h => h) rfl dk_K_isYear_8
theorem dk_K_grows_0 : decode prog_1_method_7_code 0 = .ok (.aload_n 0, 1) := by decide +kernel
theorem dk_K_grows_1 : decode prog_1_method_7_code 1 = .ok (.getfield 10, 3) := by decide +kernel
theorem dk_K_grows_4 : decode prog_1_method_7_code 4 = .ok (.getfield 58, 3) := by decide +kernel
theorem dk_K_grows_7 : decode prog_1_method_7_code 7 = .ok (.iload_n 1, 1) := by decide +kernel
theorem dk_K_grows_8 : decode prog_1_method_7_code 8 = .ok (.invokevirtual 101, 3) := by decide +kernel
theorem dk_K_grows_11 : decode prog_1_method_7_code 11 = .ok (.ifCond .eq 10, 3) := by decide +kernel
theorem dk_K_grows_14 : decode prog_1_method_7_code 14 = .ok (.iload_n 2, 1) := by decide +kernel
theorem dk_K_grows_15 : decode prog_1_method_7_code 15 = .ok (.invokestatic 135, 3) := by decide +kernel
theorem dk_K_grows_18 : decode prog_1_method_7_code 18 = .ok (.ifCond .ne 6, 3) := by decide +kernel
theorem dk_K_grows_21 : decode prog_1_method_7_code 21 = .ok (.ldc 84, 2) := by decide +kernel
theorem dk_K_grows_23 : decode prog_1_method_7_code 23 = .ok (.ireturn, 1) := by decide +kernel
theorem dk_K_grows_24 : decode prog_1_method_7_code 24 = .ok (.aload_n 0, 1) := by decide +kernel
theorem dk_K_grows_25 : decode prog_1_method_7_code 25 = .ok (.getfield 10, 3) := by decide +kernel
theorem dk_K_grows_28 : decode prog_1_method_7_code 28 = .ok (.getfield 58, 3) := by decide +kernel
theorem dk_K_grows_31 : decode prog_1_method_7_code 31 = .ok (.iload_n 1, 1) := by decide +kernel
theorem dk_K_grows_32 : decode prog_1_method_7_code 32 = .ok (.iload_n 2, 1) := by decide +kernel
theorem dk_K_grows_33 : decode prog_1_method_7_code 33 = .ok (.invokevirtual 138, 3) := by decide +kernel
theorem dk_K_grows_36 : decode prog_1_method_7_code 36 = .ok (.ireturn, 1) := by decide +kernel
noncomputable def fx_K_grows (p1 : Int32) (p2 : Int32) (c : (Nat → Nat → Int32)) : Option Int32 :=
  kv_bind1 (fx_Lumps_has p1 c) (fun b1 =>
  if b1 = true then
    kv_bind1 (fx_K_isYear p2) (fun b2 =>
    if b2 = true then
      kv_bind1 (fx_Lumps_growth p1 p2 c) (fun v3 =>
      some v3)
    else
      some (-1000000001 : Int32))
  else
    some (-1000000001 : Int32))
set_option maxRecDepth 20000 in
theorem cx_K_grows (d : Nat) (p1 : Int32) (p2 : Int32) (c : (Nat → Nat → Int32)) (y : (Nat → Nat → Int32) × (Nat → Int64) × (Nat → Int64)) : ∀ a, fx_K_grows p1 p2 c = some a → kv_C kM_K_grows (d + 3) [.ref 0, .int p1, .int p2] (c, y) (some (.int a), (c, y)) := by
  refine kv_entryX (E := fun a : Int32 => (some (.int a), (c, y))) rfl (Nat.le_of_ble_eq_true rfl) (fun o => ?_)
  unfold fx_K_grows
  show kv_X _ _ _ _ _ 0 [(0, .ref 0), (1, .int p1), (2, .int p2)] [] (c, y)
  refine kv_aload_n (pc := 0) 0 rfl rfl dk_K_grows_0 ?_
  refine kv_getR (pc := 1) kf_K_10 kr_0 rfl kt_0_0 dk_K_grows_1 ?_
  refine kv_getR (pc := 4) kf_K_58 kr_1 rfl kt_1_0 dk_K_grows_4 ?_
  refine kv_iload_n (pc := 7) 1 rfl rfl dk_K_grows_7 ?_
  refine kv_cV_cZ (pc := 8) (as := [.int p1]) (st := []) ko_Lumps_has kc_3 rfl rfl kr_2 kw_543 (Nat.le_of_ble_eq_true rfl) rfl dk_K_grows_8 (cx_Lumps_has (d + 2) p1 c y) (fun b1 => ?_)
  refine kv_zif_eq (pc := 11) (tgt := 21) dk_K_grows_11 rfl ?_ ?_
  · refine kv_ldc (pc := 21) (v := (-1000000001 : Int32)) kw_530 dk_K_grows_21 ?_
    exact kv_iret (pc := 23) (fun h => h) rfl dk_K_grows_23
  · refine kv_iload_n (pc := 14) 2 rfl rfl dk_K_grows_14 ?_
    refine kv_cS_cZ (pc := 15) (as := [.int p2]) (st := []) ko_K_isYear rfl kw_577 (Nat.le_of_ble_eq_true rfl) rfl dk_K_grows_15 (cx_K_isYear (d + 1) p2 c y) (fun b2 => ?_)
    refine kv_zif_ne (pc := 18) (tgt := 24) dk_K_grows_18 rfl ?_ ?_
    · refine kv_aload_n (pc := 24) 0 rfl rfl dk_K_grows_24 ?_
      refine kv_getR (pc := 25) kf_K_10 kr_0 rfl kt_0_0 dk_K_grows_25 ?_
      refine kv_getR (pc := 28) kf_K_58 kr_1 rfl kt_1_0 dk_K_grows_28 ?_
      refine kv_iload_n (pc := 31) 1 rfl rfl dk_K_grows_31 ?_
      refine kv_iload_n (pc := 32) 2 rfl rfl dk_K_grows_32 ?_
      refine kv_cV_cI (pc := 33) (as := [.int p1, .int p2]) (st := []) ko_Lumps_growth kc_3 rfl rfl kr_2 kw_580 (Nat.le_of_ble_eq_true rfl) rfl dk_K_grows_33 (cx_Lumps_growth d p1 p2 c y) (fun v3 => ?_)
      exact kv_iret (pc := 36) (fun h => h) rfl dk_K_grows_36
    · refine kv_ldc (pc := 21) (v := (-1000000001 : Int32)) kw_530 dk_K_grows_21 ?_
      exact kv_iret (pc := 23) (fun h => h) rfl dk_K_grows_23
theorem dk_D_isYear_0 : decode prog_13_method_5_code 0 = .ok (.iload_n 0, 1) := by decide +kernel
theorem dk_D_isYear_1 : decode prog_13_method_5_code 1 = .ok (.i2l, 1) := by decide +kernel
theorem dk_D_isYear_2 : decode prog_13_method_5_code 2 = .ok (.lconst 0, 1) := by decide +kernel
theorem dk_D_isYear_3 : decode prog_13_method_5_code 3 = .ok (.ldc2_w 64, 3) := by decide +kernel
theorem dk_D_isYear_6 : decode prog_13_method_5_code 6 = .ok (.invokestatic 60, 3) := by decide +kernel
theorem dk_D_isYear_9 : decode prog_13_method_5_code 9 = .ok (.ireturn, 1) := by decide +kernel
noncomputable def fx_D_isYear (p0 : Int32) : Option Bool :=
  kv_bind1 (fx_D_isIn p0.toInt64 (0 : Int64) (140 : Int64)) (fun b1 =>
  some b1)
set_option maxRecDepth 20000 in
theorem cx_D_isYear (d : Nat) (p0 : Int32) (c : (Nat → Nat → Int32)) (m : (Nat → Nat → Int32)) (f : (Nat → Int64)) (u : (Nat → Int64)) : ∀ a, fx_D_isYear p0 = some a → kv_C kM_D_isYear (d + 1) [.int p0] (c, m, f, u) (some (.int (kv_b a)), (c, m, f, u)) := by
  refine kv_entryX (E := fun a : Bool => (some (.int (kv_b a)), (c, m, f, u))) rfl (Nat.le_of_ble_eq_true rfl) (fun o => ?_)
  unfold fx_D_isYear
  show kv_X _ _ _ _ _ 0 [(0, .int p0)] [] (c, m, f, u)
  refine kv_iload_n (pc := 0) 0 rfl rfl dk_D_isYear_0 ?_
  refine kv_i2l (pc := 1) dk_D_isYear_1 ?_
  refine kv_lconst (pc := 2) (v := (0 : Int64)) dk_D_isYear_2 kkl_0 ?_
  refine kv_ldc2 (pc := 3) (v := (140 : Int64)) kw_1388 dk_D_isYear_3 ?_
  refine kv_cS_mZ (pc := 6) (as := [.long p0.toInt64, .long (0 : Int64), .long (140 : Int64)]) (st := []) ko_D_isIn rfl kw_1330 (Nat.le_of_ble_eq_true rfl) rfl dk_D_isYear_6 (cx_D_isIn d p0.toInt64 (0 : Int64) (140 : Int64) c m f u) (fun b1 => ?_)
  exact kv_zret (pc := 9) (b := b1) (fun h => h) rfl dk_D_isYear_9
theorem dk_D_grows_0 : decode prog_13_method_16_code 0 = .ok (.aload_n 0, 1) := by decide +kernel
theorem dk_D_grows_1 : decode prog_13_method_16_code 1 = .ok (.iload_n 1, 1) := by decide +kernel
theorem dk_D_grows_2 : decode prog_13_method_16_code 2 = .ok (.invokevirtual 98, 3) := by decide +kernel
theorem dk_D_grows_5 : decode prog_13_method_16_code 5 = .ok (.ifCond .eq 19, 3) := by decide +kernel
theorem dk_D_grows_8 : decode prog_13_method_16_code 8 = .ok (.iload_n 2, 1) := by decide +kernel
theorem dk_D_grows_9 : decode prog_13_method_16_code 9 = .ok (.invokestatic 110, 3) := by decide +kernel
theorem dk_D_grows_12 : decode prog_13_method_16_code 12 = .ok (.ifCond .eq 12, 3) := by decide +kernel
theorem dk_D_grows_15 : decode prog_13_method_16_code 15 = .ok (.aload_n 0, 1) := by decide +kernel
theorem dk_D_grows_16 : decode prog_13_method_16_code 16 = .ok (.iload_n 1, 1) := by decide +kernel
theorem dk_D_grows_17 : decode prog_13_method_16_code 17 = .ok (.iload_n 2, 1) := by decide +kernel
theorem dk_D_grows_18 : decode prog_13_method_16_code 18 = .ok (.invokevirtual 107, 3) := by decide +kernel
theorem dk_D_grows_21 : decode prog_13_method_16_code 21 = .ok (.goto 5, 3) := by decide +kernel
theorem dk_D_grows_24 : decode prog_13_method_16_code 24 = .ok (.ldc 91, 2) := by decide +kernel
theorem dk_D_grows_26 : decode prog_13_method_16_code 26 = .ok (.ireturn, 1) := by decide +kernel
noncomputable def fx_D_grows (p1 : Int32) (p2 : Int32) (m : (Nat → Nat → Int32)) : Option Int32 :=
  kv_bind1 (fx_D_isLump p1 m) (fun b1 =>
  if b1 = true then
    kv_bind1 (fx_D_isYear p2) (fun b2 =>
    if b2 = true then
      kv_bind1 (fx_D_growth p1 p2 m) (fun v3 =>
      some v3)
    else
      some (-1000000001 : Int32))
  else
    some (-1000000001 : Int32))
set_option maxRecDepth 20000 in
theorem cx_D_grows (d : Nat) (p1 : Int32) (p2 : Int32) (c : (Nat → Nat → Int32)) (m : (Nat → Nat → Int32)) (f : (Nat → Int64)) (u : (Nat → Int64)) : ∀ a, fx_D_grows p1 p2 m = some a → kv_C kM_D_grows (d + 2) [.ref 84, .int p1, .int p2] (c, m, f, u) (some (.int a), (c, m, f, u)) := by
  refine kv_entryX (E := fun a : Int32 => (some (.int a), (c, m, f, u))) rfl (Nat.le_of_ble_eq_true rfl) (fun o => ?_)
  unfold fx_D_grows
  show kv_X _ _ _ _ _ 0 [(0, .ref 84), (1, .int p1), (2, .int p2)] [] (c, m, f, u)
  refine kv_aload_n (pc := 0) 0 rfl rfl dk_D_grows_0 ?_
  refine kv_iload_n (pc := 1) 1 rfl rfl dk_D_grows_1 ?_
  refine kv_cV_mZ (pc := 2) (as := [.int p1]) (st := []) ko_D_isLump kc_11 rfl rfl kr_84 kw_1362 (Nat.le_of_ble_eq_true rfl) rfl dk_D_grows_2 (cx_D_isLump d p1 c m f u) (fun b1 => ?_)
  refine kv_zif_eq (pc := 5) (tgt := 24) dk_D_grows_5 rfl ?_ ?_
  · refine kv_ldc (pc := 24) (v := (-1000000001 : Int32)) kw_1354 dk_D_grows_24 ?_
    exact kv_iret (pc := 26) (fun h => h) rfl dk_D_grows_26
  · refine kv_iload_n (pc := 8) 2 rfl rfl dk_D_grows_8 ?_
    refine kv_cS_mZ (pc := 9) (as := [.int p2]) (st := []) ko_D_isYear rfl kw_1385 (Nat.le_of_ble_eq_true rfl) rfl dk_D_grows_9 (cx_D_isYear d p2 c m f u) (fun b2 => ?_)
    refine kv_zif_eq (pc := 12) (tgt := 24) dk_D_grows_12 rfl ?_ ?_
    · refine kv_ldc (pc := 24) (v := (-1000000001 : Int32)) kw_1354 dk_D_grows_24 ?_
      exact kv_iret (pc := 26) (fun h => h) rfl dk_D_grows_26
    · refine kv_aload_n (pc := 15) 0 rfl rfl dk_D_grows_15 ?_
      refine kv_iload_n (pc := 16) 1 rfl rfl dk_D_grows_16 ?_
      refine kv_iload_n (pc := 17) 2 rfl rfl dk_D_grows_17 ?_
      refine kv_cV_mI (pc := 18) (as := [.int p1, .int p2]) (st := []) ko_D_growth kc_11 rfl rfl kr_84 kw_1376 (Nat.le_of_ble_eq_true rfl) rfl dk_D_grows_18 (cx_D_growth d p1 p2 c m f u) (fun v3 => ?_)
      refine kv_goto (pc := 21) (tgt := 26) dk_D_grows_21 rfl ?_
      exact kv_iret (pc := 26) (fun h => h) rfl dk_D_grows_26
theorem dk_K_seed_0 : decode prog_1_method_8_code 0 = .ok (.aload_n 0, 1) := by decide +kernel
theorem dk_K_seed_1 : decode prog_1_method_8_code 1 = .ok (.getfield 10, 3) := by decide +kernel
theorem dk_K_seed_4 : decode prog_1_method_8_code 4 = .ok (.getfield 142, 3) := by decide +kernel
theorem dk_K_seed_7 : decode prog_1_method_8_code 7 = .ok (.istore_n 2, 1) := by decide +kernel
theorem dk_K_seed_8 : decode prog_1_method_8_code 8 = .ok (.aload_n 0, 1) := by decide +kernel
theorem dk_K_seed_9 : decode prog_1_method_8_code 9 = .ok (.getfield 10, 3) := by decide +kernel
theorem dk_K_seed_12 : decode prog_1_method_8_code 12 = .ok (.iload_n 1, 1) := by decide +kernel
theorem dk_K_seed_13 : decode prog_1_method_8_code 13 = .ok (.putfield 142, 3) := by decide +kernel
theorem dk_K_seed_16 : decode prog_1_method_8_code 16 = .ok (.iload_n 2, 1) := by decide +kernel
theorem dk_K_seed_17 : decode prog_1_method_8_code 17 = .ok (.ireturn, 1) := by decide +kernel
noncomputable def fx_K_seed (p1 : Int32) (c : (Nat → Nat → Int32)) : Option (Int32 × (Nat → Nat → Int32)) :=
  kv_let (c 1 6) (fun v1 =>
  kv_let (kv_st c 1 6 p1) (fun c2 =>
  some (v1, c2)))
set_option maxRecDepth 20000 in
theorem cx_K_seed (d : Nat) (p1 : Int32) (c : (Nat → Nat → Int32)) (y : (Nat → Nat → Int32) × (Nat → Int64) × (Nat → Int64)) : ∀ a, fx_K_seed p1 c = some a → kv_C kM_K_seed (d + 0) [.ref 0, .int p1] (c, y) (some (.int a.1), (a.2, y)) := by
  refine kv_entryX (E := fun a : (Int32 × (Nat → Nat → Int32)) => (some (.int a.1), (a.2, y))) rfl (Nat.le_of_ble_eq_true rfl) (fun o => ?_)
  unfold fx_K_seed
  show kv_X _ _ _ _ _ 0 [(0, .ref 0), (1, .int p1)] [] (c, y)
  refine kv_aload_n (pc := 0) 0 rfl rfl dk_K_seed_0 ?_
  refine kv_getR (pc := 1) kf_K_10 kr_0 rfl kt_0_0 dk_K_seed_1 ?_
  refine kv_getC (pc := 4) kf_K_142 kr_1 kn_1 rfl dk_K_seed_4 ?_
  refine kv_letI (fun v1 => ?_)
  refine kv_istore_n (pc := 7) (lv' := [(2, .int v1), (0, .ref 0), (1, .int p1)]) rfl (Nat.le_of_ble_eq_true rfl) rfl dk_K_seed_7 ?_
  refine kv_aload_n (pc := 8) 1 rfl rfl dk_K_seed_8 ?_
  refine kv_getR (pc := 9) kf_K_10 kr_0 rfl kt_0_0 dk_K_seed_9 ?_
  refine kv_iload_n (pc := 12) 2 rfl rfl dk_K_seed_12 ?_
  refine kv_putC (pc := 13) kf_K_142 kr_1 kn_1 rfl rfl rfl dk_K_seed_13 (fun c2 => ?_)
  refine kv_iload_n (pc := 16) 0 rfl rfl dk_K_seed_16 ?_
  exact kv_iret (pc := 17) (fun h => h) rfl dk_K_seed_17
theorem dk_D_seed_0 : decode prog_13_method_17_code 0 = .ok (.aload_n 0, 1) := by decide +kernel
theorem dk_D_seed_1 : decode prog_13_method_17_code 1 = .ok (.iconst 4, 1) := by decide +kernel
theorem dk_D_seed_2 : decode prog_13_method_17_code 2 = .ok (.iload_n 1, 1) := by decide +kernel
theorem dk_D_seed_3 : decode prog_13_method_17_code 3 = .ok (.invokevirtual 88, 3) := by decide +kernel
theorem dk_D_seed_6 : decode prog_13_method_17_code 6 = .ok (.ireturn, 1) := by decide +kernel
noncomputable def fx_D_seed (p1 : Int32) (m : (Nat → Nat → Int32)) : Option (Int32 × (Nat → Nat → Int32)) :=
  kv_bind2 (fx_D_becomes (4 : Int32) p1 m) (fun v1 m2 =>
  some (v1, m2))
set_option maxRecDepth 20000 in
theorem cx_D_seed (d : Nat) (p1 : Int32) (c : (Nat → Nat → Int32)) (m : (Nat → Nat → Int32)) (f : (Nat → Int64)) (u : (Nat → Int64)) : ∀ a, fx_D_seed p1 m = some a → kv_C kM_D_seed (d + 1) [.ref 84, .int p1] (c, m, f, u) (some (.int a.1), (c, a.2, f, u)) := by
  refine kv_entryX (E := fun a : (Int32 × (Nat → Nat → Int32)) => (some (.int a.1), (c, a.2, f, u))) rfl (Nat.le_of_ble_eq_true rfl) (fun o => ?_)
  unfold fx_D_seed
  show kv_X _ _ _ _ _ 0 [(0, .ref 84), (1, .int p1)] [] (c, m, f, u)
  refine kv_aload_n (pc := 0) 0 rfl rfl dk_D_seed_0 ?_
  refine kv_iconst (pc := 1) (v := (4 : Int32)) dk_D_seed_1 kki_4 ?_
  refine kv_iload_n (pc := 2) 1 rfl rfl dk_D_seed_2 ?_
  refine kv_cV_mIm (pc := 3) (as := [.int (4 : Int32), .int p1]) (st := []) ko_D_becomes kc_11 rfl rfl kr_84 kw_1350 (Nat.le_of_ble_eq_true rfl) rfl dk_D_seed_3 (cx_D_becomes d (4 : Int32) p1 c m f u) (fun v1 m2 => ?_)
  exact kv_iret (pc := 6) (fun h => h) rfl dk_D_seed_6
theorem dk_Lumps_hasPair_0 : decode prog_5_method_3_code 0 = .ok (.aload_n 0, 1) := by decide +kernel
theorem dk_Lumps_hasPair_1 : decode prog_5_method_3_code 1 = .ok (.iload_n 1, 1) := by decide +kernel
theorem dk_Lumps_hasPair_2 : decode prog_5_method_3_code 2 = .ok (.invokevirtual 37, 3) := by decide +kernel
theorem dk_Lumps_hasPair_5 : decode prog_5_method_3_code 5 = .ok (.ifCond .eq 20, 3) := by decide +kernel
theorem dk_Lumps_hasPair_8 : decode prog_5_method_3_code 8 = .ok (.aload_n 0, 1) := by decide +kernel
theorem dk_Lumps_hasPair_9 : decode prog_5_method_3_code 9 = .ok (.iload_n 2, 1) := by decide +kernel
theorem dk_Lumps_hasPair_10 : decode prog_5_method_3_code 10 = .ok (.invokevirtual 37, 3) := by decide +kernel
theorem dk_Lumps_hasPair_13 : decode prog_5_method_3_code 13 = .ok (.ifCond .eq 12, 3) := by decide +kernel
theorem dk_Lumps_hasPair_16 : decode prog_5_method_3_code 16 = .ok (.iload_n 1, 1) := by decide +kernel
theorem dk_Lumps_hasPair_17 : decode prog_5_method_3_code 17 = .ok (.iload_n 2, 1) := by decide +kernel
theorem dk_Lumps_hasPair_18 : decode prog_5_method_3_code 18 = .ok (.if_icmp .eq 7, 3) := by decide +kernel
theorem dk_Lumps_hasPair_21 : decode prog_5_method_3_code 21 = .ok (.iconst 1, 1) := by decide +kernel
theorem dk_Lumps_hasPair_22 : decode prog_5_method_3_code 22 = .ok (.goto 4, 3) := by decide +kernel
theorem dk_Lumps_hasPair_25 : decode prog_5_method_3_code 25 = .ok (.iconst 0, 1) := by decide +kernel
theorem dk_Lumps_hasPair_26 : decode prog_5_method_3_code 26 = .ok (.ireturn, 1) := by decide +kernel
noncomputable def fx_Lumps_hasPair (p1 : Int32) (p2 : Int32) (c : (Nat → Nat → Int32)) : Option Bool :=
  kv_bind1 (fx_Lumps_has p1 c) (fun b1 =>
  if b1 = true then
    kv_bind1 (fx_Lumps_has p2 c) (fun b2 =>
    if b2 = true then
      if p1 = p2 then
        some false
      else
        some true
    else
      some false)
  else
    some false)
set_option maxRecDepth 20000 in
theorem cx_Lumps_hasPair (d : Nat) (p1 : Int32) (p2 : Int32) (c : (Nat → Nat → Int32)) (y : (Nat → Nat → Int32) × (Nat → Int64) × (Nat → Int64)) : ∀ a, fx_Lumps_hasPair p1 p2 c = some a → kv_C kM_Lumps_hasPair (d + 1) [.ref 2, .int p1, .int p2] (c, y) (some (.int (kv_b a)), (c, y)) := by
  refine kv_entryX (E := fun a : Bool => (some (.int (kv_b a)), (c, y))) rfl (Nat.le_of_ble_eq_true rfl) (fun o => ?_)
  unfold fx_Lumps_hasPair
  show kv_X _ _ _ _ _ 0 [(0, .ref 2), (1, .int p1), (2, .int p2)] [] (c, y)
  refine kv_aload_n (pc := 0) 0 rfl rfl dk_Lumps_hasPair_0 ?_
  refine kv_iload_n (pc := 1) 1 rfl rfl dk_Lumps_hasPair_1 ?_
  refine kv_cV_cZ (pc := 2) (as := [.int p1]) (st := []) ko_Lumps_has kc_3 rfl rfl kr_2 kw_593 (Nat.le_of_ble_eq_true rfl) rfl dk_Lumps_hasPair_2 (cx_Lumps_has d p1 c y) (fun b1 => ?_)
  refine kv_zif_eq (pc := 5) (tgt := 25) dk_Lumps_hasPair_5 rfl ?_ ?_
  · refine kv_iconst (pc := 25) (v := (0 : Int32)) dk_Lumps_hasPair_25 kki_0 ?_
    exact kv_zret (pc := 26) (b := false) (fun h => h) rfl dk_Lumps_hasPair_26
  · refine kv_aload_n (pc := 8) 0 rfl rfl dk_Lumps_hasPair_8 ?_
    refine kv_iload_n (pc := 9) 2 rfl rfl dk_Lumps_hasPair_9 ?_
    refine kv_cV_cZ (pc := 10) (as := [.int p2]) (st := []) ko_Lumps_has kc_3 rfl rfl kr_2 kw_593 (Nat.le_of_ble_eq_true rfl) rfl dk_Lumps_hasPair_10 (cx_Lumps_has d p2 c y) (fun b2 => ?_)
    refine kv_zif_eq (pc := 13) (tgt := 25) dk_Lumps_hasPair_13 rfl ?_ ?_
    · refine kv_iconst (pc := 25) (v := (0 : Int32)) dk_Lumps_hasPair_25 kki_0 ?_
      exact kv_zret (pc := 26) (b := false) (fun h => h) rfl dk_Lumps_hasPair_26
    · refine kv_iload_n (pc := 16) 1 rfl rfl dk_Lumps_hasPair_16 ?_
      refine kv_iload_n (pc := 17) 2 rfl rfl dk_Lumps_hasPair_17 ?_
      refine kv_icmp_eq (pc := 18) (tgt := 25) dk_Lumps_hasPair_18 rfl ?_ ?_
      · refine kv_iconst (pc := 25) (v := (0 : Int32)) dk_Lumps_hasPair_25 kki_0 ?_
        exact kv_zret (pc := 26) (b := false) (fun h => h) rfl dk_Lumps_hasPair_26
      · refine kv_iconst (pc := 21) (v := (1 : Int32)) dk_Lumps_hasPair_21 kki_1 ?_
        refine kv_goto (pc := 22) (tgt := 26) dk_Lumps_hasPair_22 rfl ?_
        exact kv_zret (pc := 26) (b := true) (fun h => h) rfl dk_Lumps_hasPair_26
theorem dk_K_isDoubt_0 : decode prog_1_method_42_code 0 = .ok (.iload_n 0, 1) := by decide +kernel
theorem dk_K_isDoubt_1 : decode prog_1_method_42_code 1 = .ok (.iconst 0, 1) := by decide +kernel
theorem dk_K_isDoubt_2 : decode prog_1_method_42_code 2 = .ok (.bipush 99, 2) := by decide +kernel
theorem dk_K_isDoubt_4 : decode prog_1_method_42_code 4 = .ok (.invokestatic 54, 3) := by decide +kernel
theorem dk_K_isDoubt_7 : decode prog_1_method_42_code 7 = .ok (.ireturn, 1) := by decide +kernel
noncomputable def fx_K_isDoubt (p0 : Int32) : Option Bool :=
  kv_bind1 (fx_K_isWithin p0 (0 : Int32) (99 : Int32)) (fun b1 =>
  some b1)
set_option maxRecDepth 20000 in
theorem cx_K_isDoubt (d : Nat) (p0 : Int32) (c : (Nat → Nat → Int32)) (y : (Nat → Nat → Int32) × (Nat → Int64) × (Nat → Int64)) : ∀ a, fx_K_isDoubt p0 = some a → kv_C kM_K_isDoubt (d + 1) [.int p0] (c, y) (some (.int (kv_b a)), (c, y)) := by
  refine kv_entryX (E := fun a : Bool => (some (.int (kv_b a)), (c, y))) rfl (Nat.le_of_ble_eq_true rfl) (fun o => ?_)
  unfold fx_K_isDoubt
  show kv_X _ _ _ _ _ 0 [(0, .int p0)] [] (c, y)
  refine kv_iload_n (pc := 0) 0 rfl rfl dk_K_isDoubt_0 ?_
  refine kv_iconst (pc := 1) (v := (0 : Int32)) dk_K_isDoubt_1 kki_0 ?_
  refine kv_bipush (pc := 2) (v := (99 : Int32)) dk_K_isDoubt_2 kkb_99 ?_
  refine kv_cS_cZ (pc := 4) (as := [.int p0, .int (0 : Int32), .int (99 : Int32)]) (st := []) ko_K_isWithin rfl kw_512 (Nat.le_of_ble_eq_true rfl) rfl dk_K_isDoubt_4 (cx_K_isWithin d p0 (0 : Int32) (99 : Int32) c y) (fun b1 => ?_)
  exact kv_zret (pc := 7) (b := b1) (fun h => h) rfl dk_K_isDoubt_7
theorem dk_State_draw_0 : decode prog_10_method_4_code 0 = .ok (.aload_n 0, 1) := by decide +kernel
theorem dk_State_draw_1 : decode prog_10_method_4_code 1 = .ok (.aload_n 0, 1) := by decide +kernel
theorem dk_State_draw_2 : decode prog_10_method_4_code 2 = .ok (.getfield 43, 3) := by decide +kernel
theorem dk_State_draw_5 : decode prog_10_method_4_code 5 = .ok (.ldc 59, 2) := by decide +kernel
theorem dk_State_draw_7 : decode prog_10_method_4_code 7 = .ok (.imul, 1) := by decide +kernel
theorem dk_State_draw_8 : decode prog_10_method_4_code 8 = .ok (.sipush 12345, 3) := by decide +kernel
theorem dk_State_draw_11 : decode prog_10_method_4_code 11 = .ok (.iadd, 1) := by decide +kernel
theorem dk_State_draw_12 : decode prog_10_method_4_code 12 = .ok (.putfield 43, 3) := by decide +kernel
theorem dk_State_draw_15 : decode prog_10_method_4_code 15 = .ok (.aload_n 0, 1) := by decide +kernel
theorem dk_State_draw_16 : decode prog_10_method_4_code 16 = .ok (.getfield 43, 3) := by decide +kernel
theorem dk_State_draw_19 : decode prog_10_method_4_code 19 = .ok (.ldc 60, 2) := by decide +kernel
theorem dk_State_draw_21 : decode prog_10_method_4_code 21 = .ok (.iand, 1) := by decide +kernel
theorem dk_State_draw_22 : decode prog_10_method_4_code 22 = .ok (.ldc 61, 2) := by decide +kernel
theorem dk_State_draw_24 : decode prog_10_method_4_code 24 = .ok (.idiv, 1) := by decide +kernel
theorem dk_State_draw_25 : decode prog_10_method_4_code 25 = .ok (.iconst 2, 1) := by decide +kernel
theorem dk_State_draw_26 : decode prog_10_method_4_code 26 = .ok (.iload_n 1, 1) := by decide +kernel
theorem dk_State_draw_27 : decode prog_10_method_4_code 27 = .ok (.imul, 1) := by decide +kernel
theorem dk_State_draw_28 : decode prog_10_method_4_code 28 = .ok (.iconst 1, 1) := by decide +kernel
theorem dk_State_draw_29 : decode prog_10_method_4_code 29 = .ok (.iadd, 1) := by decide +kernel
theorem dk_State_draw_30 : decode prog_10_method_4_code 30 = .ok (.irem, 1) := by decide +kernel
theorem dk_State_draw_31 : decode prog_10_method_4_code 31 = .ok (.iload_n 1, 1) := by decide +kernel
theorem dk_State_draw_32 : decode prog_10_method_4_code 32 = .ok (.isub, 1) := by decide +kernel
theorem dk_State_draw_33 : decode prog_10_method_4_code 33 = .ok (.ireturn, 1) := by decide +kernel
noncomputable def fx_State_draw (p1 : Int32) (c : (Nat → Nat → Int32)) : Option (Int32 × (Nat → Nat → Int32)) :=
  kv_let (kv_st c 1 6 (((c 1 6) * (1103515245 : Int32)) + (12345 : Int32))) (fun c1 =>
  if (((2 : Int32) * p1) + (1 : Int32)) = 0 then none else
  some ((((((c1 1 6) &&& (2147483647 : Int32)) / (65536 : Int32)) - (((c1 1 6) &&& (2147483647 : Int32)) / (65536 : Int32)) / (((2 : Int32) * p1) + (1 : Int32)) * (((2 : Int32) * p1) + (1 : Int32))) - p1), c1))
set_option maxRecDepth 20000 in
theorem cx_State_draw (d : Nat) (p1 : Int32) (c : (Nat → Nat → Int32)) (y : (Nat → Nat → Int32) × (Nat → Int64) × (Nat → Int64)) : ∀ a, fx_State_draw p1 c = some a → kv_C kM_State_draw (d + 0) [.ref 1, .int p1] (c, y) (some (.int a.1), (a.2, y)) := by
  refine kv_entryX (E := fun a : (Int32 × (Nat → Nat → Int32)) => (some (.int a.1), (a.2, y))) rfl (Nat.le_of_ble_eq_true rfl) (fun o => ?_)
  unfold fx_State_draw
  show kv_X _ _ _ _ _ 0 [(0, .ref 1), (1, .int p1)] [] (c, y)
  refine kv_aload_n (pc := 0) 0 rfl rfl dk_State_draw_0 ?_
  refine kv_aload_n (pc := 1) 0 rfl rfl dk_State_draw_1 ?_
  refine kv_getC (pc := 2) kf_State_43 kr_1 kn_1 rfl dk_State_draw_2 ?_
  refine kv_ldc (pc := 5) (v := (1103515245 : Int32)) kw_605 dk_State_draw_5 ?_
  refine kv_imul (pc := 7) dk_State_draw_7 ?_
  refine kv_sipush (pc := 8) (v := (12345 : Int32)) dk_State_draw_8 kks_12345 ?_
  refine kv_iadd (pc := 11) dk_State_draw_11 ?_
  refine kv_putC (pc := 12) kf_State_43 kr_1 kn_1 rfl rfl rfl dk_State_draw_12 (fun c1 => ?_)
  refine kv_aload_n (pc := 15) 0 rfl rfl dk_State_draw_15 ?_
  refine kv_getC (pc := 16) kf_State_43 kr_1 kn_1 rfl dk_State_draw_16 ?_
  refine kv_ldc (pc := 19) (v := (2147483647 : Int32)) kw_606 dk_State_draw_19 ?_
  refine kv_iand (pc := 21) dk_State_draw_21 ?_
  refine kv_ldc (pc := 22) (v := (65536 : Int32)) kw_607 dk_State_draw_22 ?_
  refine kv_idiv (pc := 24) dk_State_draw_24 kkn_65536 ?_
  refine kv_iconst (pc := 25) (v := (2 : Int32)) dk_State_draw_25 kki_2 ?_
  refine kv_iload_n (pc := 26) 1 rfl rfl dk_State_draw_26 ?_
  refine kv_imul (pc := 27) dk_State_draw_27 ?_
  refine kv_iconst (pc := 28) (v := (1 : Int32)) dk_State_draw_28 kki_1 ?_
  refine kv_iadd (pc := 29) dk_State_draw_29 ?_
  refine kv_iremG (pc := 30) dk_State_draw_30 ?_
  refine kv_iload_n (pc := 31) 1 rfl rfl dk_State_draw_31 ?_
  refine kv_isub (pc := 32) dk_State_draw_32 ?_
  exact kv_iret (pc := 33) (fun h => h) rfl dk_State_draw_33
theorem dk_Weighings_add_0 : decode prog_11_method_3_code 0 = .ok (.aload_n 0, 1) := by decide +kernel
theorem dk_Weighings_add_1 : decode prog_11_method_3_code 1 = .ok (.getfield 34, 3) := by decide +kernel
theorem dk_Weighings_add_4 : decode prog_11_method_3_code 4 = .ok (.istore 6, 2) := by decide +kernel
theorem dk_Weighings_add_6 : decode prog_11_method_3_code 6 = .ok (.aload_n 0, 1) := by decide +kernel
theorem dk_Weighings_add_7 : decode prog_11_method_3_code 7 = .ok (.getfield 9, 3) := by decide +kernel
theorem dk_Weighings_add_10 : decode prog_11_method_3_code 10 = .ok (.iload 6, 2) := by decide +kernel
theorem dk_Weighings_add_12 : decode prog_11_method_3_code 12 = .ok (.iload_n 1, 1) := by decide +kernel
theorem dk_Weighings_add_13 : decode prog_11_method_3_code 13 = .ok (.iastore, 1) := by decide +kernel
theorem dk_Weighings_add_14 : decode prog_11_method_3_code 14 = .ok (.aload_n 0, 1) := by decide +kernel
theorem dk_Weighings_add_15 : decode prog_11_method_3_code 15 = .ok (.getfield 15, 3) := by decide +kernel
theorem dk_Weighings_add_18 : decode prog_11_method_3_code 18 = .ok (.iload 6, 2) := by decide +kernel
theorem dk_Weighings_add_20 : decode prog_11_method_3_code 20 = .ok (.iload_n 2, 1) := by decide +kernel
theorem dk_Weighings_add_21 : decode prog_11_method_3_code 21 = .ok (.iastore, 1) := by decide +kernel
theorem dk_Weighings_add_22 : decode prog_11_method_3_code 22 = .ok (.aload_n 0, 1) := by decide +kernel
theorem dk_Weighings_add_23 : decode prog_11_method_3_code 23 = .ok (.getfield 18, 3) := by decide +kernel
theorem dk_Weighings_add_26 : decode prog_11_method_3_code 26 = .ok (.iload 6, 2) := by decide +kernel
theorem dk_Weighings_add_28 : decode prog_11_method_3_code 28 = .ok (.iload_n 3, 1) := by decide +kernel
theorem dk_Weighings_add_29 : decode prog_11_method_3_code 29 = .ok (.iastore, 1) := by decide +kernel
theorem dk_Weighings_add_30 : decode prog_11_method_3_code 30 = .ok (.aload_n 0, 1) := by decide +kernel
theorem dk_Weighings_add_31 : decode prog_11_method_3_code 31 = .ok (.getfield 21, 3) := by decide +kernel
theorem dk_Weighings_add_34 : decode prog_11_method_3_code 34 = .ok (.iload 6, 2) := by decide +kernel
theorem dk_Weighings_add_36 : decode prog_11_method_3_code 36 = .ok (.iload 4, 2) := by decide +kernel
theorem dk_Weighings_add_38 : decode prog_11_method_3_code 38 = .ok (.iastore, 1) := by decide +kernel
theorem dk_Weighings_add_39 : decode prog_11_method_3_code 39 = .ok (.aload_n 0, 1) := by decide +kernel
theorem dk_Weighings_add_40 : decode prog_11_method_3_code 40 = .ok (.getfield 24, 3) := by decide +kernel
theorem dk_Weighings_add_43 : decode prog_11_method_3_code 43 = .ok (.iload 6, 2) := by decide +kernel
theorem dk_Weighings_add_45 : decode prog_11_method_3_code 45 = .ok (.iload 5, 2) := by decide +kernel
theorem dk_Weighings_add_47 : decode prog_11_method_3_code 47 = .ok (.iastore, 1) := by decide +kernel
theorem dk_Weighings_add_48 : decode prog_11_method_3_code 48 = .ok (.aload_n 0, 1) := by decide +kernel
theorem dk_Weighings_add_49 : decode prog_11_method_3_code 49 = .ok (.getfield 27, 3) := by decide +kernel
theorem dk_Weighings_add_52 : decode prog_11_method_3_code 52 = .ok (.iload 6, 2) := by decide +kernel
theorem dk_Weighings_add_54 : decode prog_11_method_3_code 54 = .ok (.iconst 0, 1) := by decide +kernel
theorem dk_Weighings_add_55 : decode prog_11_method_3_code 55 = .ok (.bastore, 1) := by decide +kernel
theorem dk_Weighings_add_56 : decode prog_11_method_3_code 56 = .ok (.aload_n 0, 1) := by decide +kernel
theorem dk_Weighings_add_57 : decode prog_11_method_3_code 57 = .ok (.dup, 1) := by decide +kernel
theorem dk_Weighings_add_58 : decode prog_11_method_3_code 58 = .ok (.getfield 34, 3) := by decide +kernel
theorem dk_Weighings_add_61 : decode prog_11_method_3_code 61 = .ok (.iconst 1, 1) := by decide +kernel
theorem dk_Weighings_add_62 : decode prog_11_method_3_code 62 = .ok (.iadd, 1) := by decide +kernel
theorem dk_Weighings_add_63 : decode prog_11_method_3_code 63 = .ok (.putfield 34, 3) := by decide +kernel
theorem dk_Weighings_add_66 : decode prog_11_method_3_code 66 = .ok (.iload 6, 2) := by decide +kernel
theorem dk_Weighings_add_68 : decode prog_11_method_3_code 68 = .ok (.ireturn, 1) := by decide +kernel
noncomputable def fx_Weighings_add (p1 : Int32) (p2 : Int32) (p3 : Int32) (p4 : Int32) (p5 : Int32) (c : (Nat → Nat → Int32)) : Option (Int32 × (Nat → Nat → Int32)) :=
  kv_let (c 10 7) (fun v1 =>
  kv_gd (kv_in v1 20) (
  kv_let (kv_st c 11 v1.toNatClampNeg p1) (fun c3 =>
  kv_let (kv_st c3 12 v1.toNatClampNeg p2) (fun c4 =>
  kv_let (kv_st c4 13 v1.toNatClampNeg p3) (fun c5 =>
  kv_let (kv_st c5 14 v1.toNatClampNeg p4) (fun c6 =>
  kv_let (kv_st c6 15 v1.toNatClampNeg p5) (fun c7 =>
  kv_let (kv_st c7 16 v1.toNatClampNeg (vp_nar .boolean (0 : Int32))) (fun c8 =>
  kv_let (kv_st c8 10 7 ((c8 10 7) + (1 : Int32))) (fun c9 =>
  some (v1, c9))))))))))
set_option maxRecDepth 20000 in
theorem cx_Weighings_add (d : Nat) (p1 : Int32) (p2 : Int32) (p3 : Int32) (p4 : Int32) (p5 : Int32) (c : (Nat → Nat → Int32)) (y : (Nat → Nat → Int32) × (Nat → Int64) × (Nat → Int64)) : ∀ a, fx_Weighings_add p1 p2 p3 p4 p5 c = some a → kv_C kM_Weighings_add (d + 0) [.ref 10, .int p1, .int p2, .int p3, .int p4, .int p5] (c, y) (some (.int a.1), (a.2, y)) := by
  refine kv_entryX (E := fun a : (Int32 × (Nat → Nat → Int32)) => (some (.int a.1), (a.2, y))) rfl (Nat.le_of_ble_eq_true rfl) (fun o => ?_)
  unfold fx_Weighings_add
  show kv_X _ _ _ _ _ 0 [(0, .ref 10), (1, .int p1), (2, .int p2), (3, .int p3), (4, .int p4), (5, .int p5)] [] (c, y)
  refine kv_aload_n (pc := 0) 0 rfl rfl dk_Weighings_add_0 ?_
  refine kv_getC (pc := 1) kf_Weighings_34 kr_10 kn_10 rfl dk_Weighings_add_1 ?_
  refine kv_letI (fun v1 => ?_)
  refine kv_istore (pc := 4) (lv' := [(6, .int v1), (0, .ref 10), (1, .int p1), (2, .int p2), (3, .int p3), (4, .int p4), (5, .int p5)]) rfl (Nat.le_of_ble_eq_true rfl) dk_Weighings_add_4 ?_
  refine kv_aload_n (pc := 6) 1 rfl rfl dk_Weighings_add_6 ?_
  refine kv_getR (pc := 7) kf_Weighings_9 kr_10 rfl kt_10_0 dk_Weighings_add_7 ?_
  refine kv_iload (pc := 10) 0 rfl dk_Weighings_add_10 ?_
  refine kv_iload_n (pc := 12) 2 rfl rfl dk_Weighings_add_12 ?_
  refine kv_guard (fun g2 => ?_)
  refine kv_astC (pc := 13) kr_11 kn_11 kl_11 g2 rfl dk_Weighings_add_13 (fun c3 => ?_)
  refine kv_aload_n (pc := 14) 1 rfl rfl dk_Weighings_add_14 ?_
  refine kv_getR (pc := 15) kf_Weighings_15 kr_10 rfl kt_10_1 dk_Weighings_add_15 ?_
  refine kv_iload (pc := 18) 0 rfl dk_Weighings_add_18 ?_
  refine kv_iload_n (pc := 20) 3 rfl rfl dk_Weighings_add_20 ?_
  refine kv_astC (pc := 21) kr_12 kn_12 kl_12 g2 rfl dk_Weighings_add_21 (fun c4 => ?_)
  refine kv_aload_n (pc := 22) 1 rfl rfl dk_Weighings_add_22 ?_
  refine kv_getR (pc := 23) kf_Weighings_18 kr_10 rfl kt_10_2 dk_Weighings_add_23 ?_
  refine kv_iload (pc := 26) 0 rfl dk_Weighings_add_26 ?_
  refine kv_iload_n (pc := 28) 4 rfl rfl dk_Weighings_add_28 ?_
  refine kv_astC (pc := 29) kr_13 kn_13 kl_13 g2 rfl dk_Weighings_add_29 (fun c5 => ?_)
  refine kv_aload_n (pc := 30) 1 rfl rfl dk_Weighings_add_30 ?_
  refine kv_getR (pc := 31) kf_Weighings_21 kr_10 rfl kt_10_3 dk_Weighings_add_31 ?_
  refine kv_iload (pc := 34) 0 rfl dk_Weighings_add_34 ?_
  refine kv_iload (pc := 36) 5 rfl dk_Weighings_add_36 ?_
  refine kv_astC (pc := 38) kr_14 kn_14 kl_14 g2 rfl dk_Weighings_add_38 (fun c6 => ?_)
  refine kv_aload_n (pc := 39) 1 rfl rfl dk_Weighings_add_39 ?_
  refine kv_getR (pc := 40) kf_Weighings_24 kr_10 rfl kt_10_4 dk_Weighings_add_40 ?_
  refine kv_iload (pc := 43) 0 rfl dk_Weighings_add_43 ?_
  refine kv_iload (pc := 45) 6 rfl dk_Weighings_add_45 ?_
  refine kv_astC (pc := 47) kr_15 kn_15 kl_15 g2 rfl dk_Weighings_add_47 (fun c7 => ?_)
  refine kv_aload_n (pc := 48) 1 rfl rfl dk_Weighings_add_48 ?_
  refine kv_getR (pc := 49) kf_Weighings_27 kr_10 rfl kt_10_5 dk_Weighings_add_49 ?_
  refine kv_iload (pc := 52) 0 rfl dk_Weighings_add_52 ?_
  refine kv_iconst (pc := 54) (v := (0 : Int32)) dk_Weighings_add_54 kki_0 ?_
  refine kv_astZC (pc := 55) kr_16 kn_16 kl_16 g2 rfl dk_Weighings_add_55 (fun c8 => ?_)
  refine kv_aload_n (pc := 56) 1 rfl rfl dk_Weighings_add_56 ?_
  refine kv_dupR (pc := 57) dk_Weighings_add_57 ?_
  refine kv_getC (pc := 58) kf_Weighings_34 kr_10 kn_10 rfl dk_Weighings_add_58 ?_
  refine kv_iconst (pc := 61) (v := (1 : Int32)) dk_Weighings_add_61 kki_1 ?_
  refine kv_iadd (pc := 62) dk_Weighings_add_62 ?_
  refine kv_putC (pc := 63) kf_Weighings_34 kr_10 kn_10 rfl rfl rfl dk_Weighings_add_63 (fun c9 => ?_)
  refine kv_iload (pc := 66) 0 rfl dk_Weighings_add_66 ?_
  exact kv_iret (pc := 68) (fun h => h) rfl dk_Weighings_add_68
theorem dk_Weighings_touch_0 : decode prog_11_method_7_code 0 = .ok (.aload_n 0, 1) := by decide +kernel
theorem dk_Weighings_touch_1 : decode prog_11_method_7_code 1 = .ok (.getfield 38, 3) := by decide +kernel
theorem dk_Weighings_touch_4 : decode prog_11_method_7_code 4 = .ok (.bipush 20, 2) := by decide +kernel
theorem dk_Weighings_touch_6 : decode prog_11_method_7_code 6 = .ok (.if_icmp .ge 23, 3) := by decide +kernel
theorem dk_Weighings_touch_9 : decode prog_11_method_7_code 9 = .ok (.aload_n 0, 1) := by decide +kernel
theorem dk_Weighings_touch_10 : decode prog_11_method_7_code 10 = .ok (.getfield 31, 3) := by decide +kernel
theorem dk_Weighings_touch_13 : decode prog_11_method_7_code 13 = .ok (.aload_n 0, 1) := by decide +kernel
theorem dk_Weighings_touch_14 : decode prog_11_method_7_code 14 = .ok (.getfield 38, 3) := by decide +kernel
theorem dk_Weighings_touch_17 : decode prog_11_method_7_code 17 = .ok (.iload_n 1, 1) := by decide +kernel
theorem dk_Weighings_touch_18 : decode prog_11_method_7_code 18 = .ok (.iastore, 1) := by decide +kernel
theorem dk_Weighings_touch_19 : decode prog_11_method_7_code 19 = .ok (.aload_n 0, 1) := by decide +kernel
theorem dk_Weighings_touch_20 : decode prog_11_method_7_code 20 = .ok (.dup, 1) := by decide +kernel
theorem dk_Weighings_touch_21 : decode prog_11_method_7_code 21 = .ok (.getfield 38, 3) := by decide +kernel
theorem dk_Weighings_touch_24 : decode prog_11_method_7_code 24 = .ok (.iconst 1, 1) := by decide +kernel
theorem dk_Weighings_touch_25 : decode prog_11_method_7_code 25 = .ok (.iadd, 1) := by decide +kernel
theorem dk_Weighings_touch_26 : decode prog_11_method_7_code 26 = .ok (.putfield 38, 3) := by decide +kernel
theorem dk_Weighings_touch_29 : decode prog_11_method_7_code 29 = .ok (.return_, 1) := by decide +kernel
noncomputable def fx_Weighings_touch (p1 : Int32) (c : (Nat → Nat → Int32)) : Option (Nat → Nat → Int32) :=
  if (20 : Int32) ≤ (c 10 8) then
    some c
  else
    kv_gd (kv_in (c 10 8) 20) (
    kv_let (kv_st c 17 (c 10 8).toNatClampNeg p1) (fun c2 =>
    kv_let (kv_st c2 10 8 ((c2 10 8) + (1 : Int32))) (fun c3 =>
    some c3)))
set_option maxRecDepth 20000 in
theorem cx_Weighings_touch (d : Nat) (p1 : Int32) (c : (Nat → Nat → Int32)) (y : (Nat → Nat → Int32) × (Nat → Int64) × (Nat → Int64)) : ∀ a, fx_Weighings_touch p1 c = some a → kv_C kM_Weighings_touch (d + 0) [.ref 10, .int p1] (c, y) (none, (a, y)) := by
  refine kv_entryX (E := fun a : (Nat → Nat → Int32) => (none, (a, y))) rfl (Nat.le_of_ble_eq_true rfl) (fun o => ?_)
  unfold fx_Weighings_touch
  show kv_X _ _ _ _ _ 0 [(0, .ref 10), (1, .int p1)] [] (c, y)
  refine kv_aload_n (pc := 0) 0 rfl rfl dk_Weighings_touch_0 ?_
  refine kv_getC (pc := 1) kf_Weighings_38 kr_10 kn_10 rfl dk_Weighings_touch_1 ?_
  refine kv_bipush (pc := 4) (v := (20 : Int32)) dk_Weighings_touch_4 kkb_20 ?_
  refine kv_icmp_ge (pc := 6) (tgt := 29) dk_Weighings_touch_6 rfl ?_ ?_
  · exact kv_vret (pc := 29) (fun h => h) rfl dk_Weighings_touch_29
  · refine kv_aload_n (pc := 9) 0 rfl rfl dk_Weighings_touch_9 ?_
    refine kv_getR (pc := 10) kf_Weighings_31 kr_10 rfl kt_10_6 dk_Weighings_touch_10 ?_
    refine kv_aload_n (pc := 13) 0 rfl rfl dk_Weighings_touch_13 ?_
    refine kv_getC (pc := 14) kf_Weighings_38 kr_10 kn_10 rfl dk_Weighings_touch_14 ?_
    refine kv_iload_n (pc := 17) 1 rfl rfl dk_Weighings_touch_17 ?_
    refine kv_guard (fun g1 => ?_)
    refine kv_astC (pc := 18) kr_17 kn_17 kl_17 g1 rfl dk_Weighings_touch_18 (fun c2 => ?_)
    refine kv_aload_n (pc := 19) 0 rfl rfl dk_Weighings_touch_19 ?_
    refine kv_dupR (pc := 20) dk_Weighings_touch_20 ?_
    refine kv_getC (pc := 21) kf_Weighings_38 kr_10 kn_10 rfl dk_Weighings_touch_21 ?_
    refine kv_iconst (pc := 24) (v := (1 : Int32)) dk_Weighings_touch_24 kki_1 ?_
    refine kv_iadd (pc := 25) dk_Weighings_touch_25 ?_
    refine kv_putC (pc := 26) kf_Weighings_38 kr_10 kn_10 rfl rfl rfl dk_Weighings_touch_26 (fun c3 => ?_)
    exact kv_vret (pc := 29) (fun h => h) rfl dk_Weighings_touch_29
theorem dk_Weighings_touchesLeft_0 : decode prog_11_method_8_code 0 = .ok (.iconst 3, 1) := by decide +kernel
theorem dk_Weighings_touchesLeft_1 : decode prog_11_method_8_code 1 = .ok (.istore_n 2, 1) := by decide +kernel
theorem dk_Weighings_touchesLeft_2 : decode prog_11_method_8_code 2 = .ok (.iconst 0, 1) := by decide +kernel
theorem dk_Weighings_touchesLeft_3 : decode prog_11_method_8_code 3 = .ok (.istore_n 3, 1) := by decide +kernel
theorem dk_Weighings_touchesLeft_4 : decode prog_11_method_8_code 4 = .ok (.iload_n 3, 1) := by decide +kernel
theorem dk_Weighings_touchesLeft_5 : decode prog_11_method_8_code 5 = .ok (.aload_n 0, 1) := by decide +kernel
theorem dk_Weighings_touchesLeft_6 : decode prog_11_method_8_code 6 = .ok (.getfield 38, 3) := by decide +kernel
theorem dk_Weighings_touchesLeft_9 : decode prog_11_method_8_code 9 = .ok (.if_icmp .ge 25, 3) := by decide +kernel
theorem dk_Weighings_touchesLeft_12 : decode prog_11_method_8_code 12 = .ok (.aload_n 0, 1) := by decide +kernel
theorem dk_Weighings_touchesLeft_13 : decode prog_11_method_8_code 13 = .ok (.getfield 31, 3) := by decide +kernel
theorem dk_Weighings_touchesLeft_16 : decode prog_11_method_8_code 16 = .ok (.iload_n 3, 1) := by decide +kernel
theorem dk_Weighings_touchesLeft_17 : decode prog_11_method_8_code 17 = .ok (.iaload, 1) := by decide +kernel
theorem dk_Weighings_touchesLeft_18 : decode prog_11_method_8_code 18 = .ok (.iload_n 1, 1) := by decide +kernel
theorem dk_Weighings_touchesLeft_19 : decode prog_11_method_8_code 19 = .ok (.bipush 99, 2) := by decide +kernel
theorem dk_Weighings_touchesLeft_21 : decode prog_11_method_8_code 21 = .ok (.isub, 1) := by decide +kernel
theorem dk_Weighings_touchesLeft_22 : decode prog_11_method_8_code 22 = .ok (.if_icmp .lt 6, 3) := by decide +kernel
theorem dk_Weighings_touchesLeft_25 : decode prog_11_method_8_code 25 = .ok (.iinc 2 (-1), 3) := by decide +kernel
theorem dk_Weighings_touchesLeft_28 : decode prog_11_method_8_code 28 = .ok (.iinc 3 1, 3) := by decide +kernel
theorem dk_Weighings_touchesLeft_31 : decode prog_11_method_8_code 31 = .ok (.goto (-27), 3) := by decide +kernel
theorem dk_Weighings_touchesLeft_34 : decode prog_11_method_8_code 34 = .ok (.iload_n 2, 1) := by decide +kernel
theorem dk_Weighings_touchesLeft_35 : decode prog_11_method_8_code 35 = .ok (.ireturn, 1) := by decide +kernel
noncomputable def fj_Weighings_touchesLeft_28 (x2 : Int32) (x5 : Int32) : Option ((Int32 × Int32) ⊕ Int32) :=
  some (.inl (x5, (x2 + (1 : Int32))))
noncomputable def fb_Weighings_touchesLeft_4 (c : (Nat → Nat → Int32)) (p1 : Int32) (x1 : Int32) (x2 : Int32) : Option ((Int32 × Int32) ⊕ Int32) :=
  if (c 10 8) ≤ x2 then
    some (.inr x1)
  else
    kv_gd (kv_in x2 20) (
    if (c 17 x2.toNatClampNeg) < (p1 - (99 : Int32)) then
      fj_Weighings_touchesLeft_28 x2 x1
    else
      fj_Weighings_touchesLeft_28 x2 (x1 + (-1 : Int32)))
noncomputable def fx_Weighings_touchesLeft (p1 : Int32) (c : (Nat → Nat → Int32)) : Option Int32 :=
  (kv_loop (kv_u2 (fb_Weighings_touchesLeft_4 c p1)) ((3 : Int32), (0 : Int32))).bind (kv_u1 (fun x3 =>
  some x3))
set_option maxRecDepth 20000 in
theorem cx_Weighings_touchesLeft (d : Nat) (p1 : Int32) (c : (Nat → Nat → Int32)) (y : (Nat → Nat → Int32) × (Nat → Int64) × (Nat → Int64)) : ∀ a, fx_Weighings_touchesLeft p1 c = some a → kv_C kM_Weighings_touchesLeft (d + 0) [.ref 10, .int p1] (c, y) (some (.int a), (c, y)) := by
  refine kv_entryX (E := fun a : Int32 => (some (.int a), (c, y))) rfl (Nat.le_of_ble_eq_true rfl) (fun o => ?_)
  unfold fx_Weighings_touchesLeft
  show kv_X _ _ _ _ _ 0 [(0, .ref 10), (1, .int p1)] [] (c, y)
  refine kv_iconst (pc := 0) (v := (3 : Int32)) dk_Weighings_touchesLeft_0 kki_3 ?_
  refine kv_istore_n (pc := 1) (lv' := [(2, .int (3 : Int32)), (0, .ref 10), (1, .int p1)]) rfl (Nat.le_of_ble_eq_true rfl) rfl dk_Weighings_touchesLeft_1 ?_
  refine kv_iconst (pc := 2) (v := (0 : Int32)) dk_Weighings_touchesLeft_2 kki_0 ?_
  refine kv_istore_n (pc := 3) (lv' := [(3, .int (0 : Int32)), (2, .int (3 : Int32)), (0, .ref 10), (1, .int p1)]) rfl (Nat.le_of_ble_eq_true rfl) rfl dk_Weighings_touchesLeft_3 ?_
  refine kv_sub (lv' := [(0, .ref 10), (1, .int p1), (2, .int (3 : Int32)), (3, .int (0 : Int32))]) [2, 3, 1, 0] rfl ?_
  refine kv_lp_2_1 (LV := fun x1 x2 => [(0, .ref 10), (1, .int p1), (2, .int x1), (3, .int x2)]) (WW := fun x1 x2 => (c, y)) (LE1 := fun x3 => [(2, .int x3)]) (WE1 := fun x3 => (c, y)) (pe1 := 34) ?_ ?_
  · intro x3
    show kv_X _ _ _ _ _ 34 [(2, .int x3)] [] (c, y)
    refine kv_iload_n (pc := 34) 0 rfl rfl dk_Weighings_touchesLeft_34 ?_
    exact kv_iret (pc := 35) (fun h => h) rfl dk_Weighings_touchesLeft_35
  · intro hx4_0 x1 x2
    show kv_X _ _ _ _ (fb_Weighings_touchesLeft_4 c p1 x1 x2) 4 [(0, .ref 10), (1, .int p1), (2, .int x1), (3, .int x2)] [] (c, y)
    unfold fb_Weighings_touchesLeft_4
    refine kv_iload_n (pc := 4) 3 rfl rfl dk_Weighings_touchesLeft_4 ?_
    refine kv_aload_n (pc := 5) 0 rfl rfl dk_Weighings_touchesLeft_5 ?_
    refine kv_getC (pc := 6) kf_Weighings_38 kr_10 kn_10 rfl dk_Weighings_touchesLeft_6 ?_
    refine kv_icmp_ge (pc := 9) (tgt := 34) dk_Weighings_touchesLeft_9 rfl ?_ ?_
    · exact kv_sub [2] rfl (kv_leaf (hx4_0 _))
    · refine kv_aload_n (pc := 12) 0 rfl rfl dk_Weighings_touchesLeft_12 ?_
      refine kv_getR (pc := 13) kf_Weighings_31 kr_10 rfl kt_10_6 dk_Weighings_touchesLeft_13 ?_
      refine kv_iload_n (pc := 16) 3 rfl rfl dk_Weighings_touchesLeft_16 ?_
      refine kv_guard (fun g4 => ?_)
      refine kv_aldC (pc := 17) kr_17 kn_17 kl_17 g4 rfl dk_Weighings_touchesLeft_17 ?_
      refine kv_iload_n (pc := 18) 1 rfl rfl dk_Weighings_touchesLeft_18 ?_
      refine kv_bipush (pc := 19) (v := (99 : Int32)) dk_Weighings_touchesLeft_19 kkb_99 ?_
      refine kv_isub (pc := 21) dk_Weighings_touchesLeft_21 ?_
      refine kv_cut_1 (J := fj_Weighings_touchesLeft_28 x2) (pcj := 28) (LJ := fun x5 => [(0, .ref 10), (1, .int p1), (2, .int x5), (3, .int x2)]) (SJ := fun x5 => []) (WJ := fun x5 => (c, y)) ?_ (fun hj28 => ?_)
      · intro x5
        show kv_X _ _ _ _ (fj_Weighings_touchesLeft_28 x2 x5) 28 [(0, .ref 10), (1, .int p1), (2, .int x5), (3, .int x2)] [] (c, y)
        unfold fj_Weighings_touchesLeft_28
        refine kv_iinc (pc := 28) (kk := (1 : Int32)) (lv' := [(3, .int (x2 + (1 : Int32))), (0, .ref 10), (1, .int p1), (2, .int x5)]) 3 rfl kki_1 rfl (Nat.le_of_ble_eq_true rfl) dk_Weighings_touchesLeft_28 ?_
        refine kv_goto (pc := 31) (tgt := 4) dk_Weighings_touchesLeft_31 rfl ?_
        exact kv_sub [1, 2, 3, 0] rfl (kv_leaf (fun h => h))
      refine kv_icmp_lt (pc := 22) (tgt := 28) dk_Weighings_touchesLeft_22 rfl ?_ ?_
      · exact hj28 x1
      · refine kv_iinc (pc := 25) (kk := (-1 : Int32)) (lv' := [(2, .int (x1 + (-1 : Int32))), (0, .ref 10), (1, .int p1), (3, .int x2)]) 2 rfl kki_m1 rfl (Nat.le_of_ble_eq_true rfl) dk_Weighings_touchesLeft_25 ?_
        exact kv_sub [1, 2, 0, 3] rfl (hj28 (x1 + (-1 : Int32)))
theorem dk_K_weigh_0 : decode prog_1_method_9_code 0 = .ok (.aload_n 0, 1) := by decide +kernel
theorem dk_K_weigh_1 : decode prog_1_method_9_code 1 = .ok (.getfield 10, 3) := by decide +kernel
theorem dk_K_weigh_4 : decode prog_1_method_9_code 4 = .ok (.getfield 58, 3) := by decide +kernel
theorem dk_K_weigh_7 : decode prog_1_method_9_code 7 = .ok (.astore 5, 2) := by decide +kernel
theorem dk_K_weigh_9 : decode prog_1_method_9_code 9 = .ok (.aload 5, 2) := by decide +kernel
theorem dk_K_weigh_11 : decode prog_1_method_9_code 11 = .ok (.iload_n 1, 1) := by decide +kernel
theorem dk_K_weigh_12 : decode prog_1_method_9_code 12 = .ok (.iload_n 2, 1) := by decide +kernel
theorem dk_K_weigh_13 : decode prog_1_method_9_code 13 = .ok (.invokevirtual 145, 3) := by decide +kernel
theorem dk_K_weigh_16 : decode prog_1_method_9_code 16 = .ok (.ifCond .eq 22, 3) := by decide +kernel
theorem dk_K_weigh_19 : decode prog_1_method_9_code 19 = .ok (.iload_n 3, 1) := by decide +kernel
theorem dk_K_weigh_20 : decode prog_1_method_9_code 20 = .ok (.bipush (-9), 2) := by decide +kernel
theorem dk_K_weigh_22 : decode prog_1_method_9_code 22 = .ok (.bipush 9, 2) := by decide +kernel
theorem dk_K_weigh_24 : decode prog_1_method_9_code 24 = .ok (.invokestatic 54, 3) := by decide +kernel
theorem dk_K_weigh_27 : decode prog_1_method_9_code 27 = .ok (.ifCond .eq 11, 3) := by decide +kernel
theorem dk_K_weigh_30 : decode prog_1_method_9_code 30 = .ok (.iload 4, 2) := by decide +kernel
theorem dk_K_weigh_32 : decode prog_1_method_9_code 32 = .ok (.invokestatic 149, 3) := by decide +kernel
theorem dk_K_weigh_35 : decode prog_1_method_9_code 35 = .ok (.ifCond .ne 5, 3) := by decide +kernel
theorem dk_K_weigh_38 : decode prog_1_method_9_code 38 = .ok (.iconst (-1), 1) := by decide +kernel
theorem dk_K_weigh_39 : decode prog_1_method_9_code 39 = .ok (.ireturn, 1) := by decide +kernel
theorem dk_K_weigh_40 : decode prog_1_method_9_code 40 = .ok (.aload_n 0, 1) := by decide +kernel
theorem dk_K_weigh_41 : decode prog_1_method_9_code 41 = .ok (.getfield 10, 3) := by decide +kernel
theorem dk_K_weigh_44 : decode prog_1_method_9_code 44 = .ok (.getfield 152, 3) := by decide +kernel
theorem dk_K_weigh_47 : decode prog_1_method_9_code 47 = .ok (.astore 6, 2) := by decide +kernel
theorem dk_K_weigh_49 : decode prog_1_method_9_code 49 = .ok (.aload 6, 2) := by decide +kernel
theorem dk_K_weigh_51 : decode prog_1_method_9_code 51 = .ok (.getfield 156, 3) := by decide +kernel
theorem dk_K_weigh_54 : decode prog_1_method_9_code 54 = .ok (.bipush 20, 2) := by decide +kernel
theorem dk_K_weigh_56 : decode prog_1_method_9_code 56 = .ok (.if_icmp .lt 6, 3) := by decide +kernel
theorem dk_K_weigh_59 : decode prog_1_method_9_code 59 = .ok (.bipush (-2), 2) := by decide +kernel
theorem dk_K_weigh_61 : decode prog_1_method_9_code 61 = .ok (.ireturn, 1) := by decide +kernel
theorem dk_K_weigh_62 : decode prog_1_method_9_code 62 = .ok (.aload 5, 2) := by decide +kernel
theorem dk_K_weigh_64 : decode prog_1_method_9_code 64 = .ok (.invokevirtual 68, 3) := by decide +kernel
theorem dk_K_weigh_67 : decode prog_1_method_9_code 67 = .ok (.istore 7, 2) := by decide +kernel
theorem dk_K_weigh_69 : decode prog_1_method_9_code 69 = .ok (.iload 7, 2) := by decide +kernel
theorem dk_K_weigh_71 : decode prog_1_method_9_code 71 = .ok (.ifCond .lt 19, 3) := by decide +kernel
theorem dk_K_weigh_74 : decode prog_1_method_9_code 74 = .ok (.iload_n 1, 1) := by decide +kernel
theorem dk_K_weigh_75 : decode prog_1_method_9_code 75 = .ok (.iload 7, 2) := by decide +kernel
theorem dk_K_weigh_77 : decode prog_1_method_9_code 77 = .ok (.if_icmp .eq 9, 3) := by decide +kernel
theorem dk_K_weigh_80 : decode prog_1_method_9_code 80 = .ok (.iload_n 2, 1) := by decide +kernel
theorem dk_K_weigh_81 : decode prog_1_method_9_code 81 = .ok (.iload 7, 2) := by decide +kernel
theorem dk_K_weigh_83 : decode prog_1_method_9_code 83 = .ok (.if_icmp .ne 7, 3) := by decide +kernel
theorem dk_K_weigh_86 : decode prog_1_method_9_code 86 = .ok (.iconst 1, 1) := by decide +kernel
theorem dk_K_weigh_87 : decode prog_1_method_9_code 87 = .ok (.goto 4, 3) := by decide +kernel
theorem dk_K_weigh_90 : decode prog_1_method_9_code 90 = .ok (.iconst 0, 1) := by decide +kernel
theorem dk_K_weigh_91 : decode prog_1_method_9_code 91 = .ok (.istore 8, 2) := by decide +kernel
theorem dk_K_weigh_93 : decode prog_1_method_9_code 93 = .ok (.iload 8, 2) := by decide +kernel
theorem dk_K_weigh_95 : decode prog_1_method_9_code 95 = .ok (.ifCond .eq 21, 3) := by decide +kernel
theorem dk_K_weigh_98 : decode prog_1_method_9_code 98 = .ok (.aload 6, 2) := by decide +kernel
theorem dk_K_weigh_100 : decode prog_1_method_9_code 100 = .ok (.aload_n 0, 1) := by decide +kernel
theorem dk_K_weigh_101 : decode prog_1_method_9_code 101 = .ok (.getfield 10, 3) := by decide +kernel
theorem dk_K_weigh_104 : decode prog_1_method_9_code 104 = .ok (.getfield 124, 3) := by decide +kernel
theorem dk_K_weigh_107 : decode prog_1_method_9_code 107 = .ok (.invokevirtual 159, 3) := by decide +kernel
theorem dk_K_weigh_110 : decode prog_1_method_9_code 110 = .ok (.ifCond .gt 6, 3) := by decide +kernel
theorem dk_K_weigh_113 : decode prog_1_method_9_code 113 = .ok (.bipush (-3), 2) := by decide +kernel
theorem dk_K_weigh_115 : decode prog_1_method_9_code 115 = .ok (.ireturn, 1) := by decide +kernel
theorem dk_K_weigh_116 : decode prog_1_method_9_code 116 = .ok (.aload 5, 2) := by decide +kernel
theorem dk_K_weigh_118 : decode prog_1_method_9_code 118 = .ok (.getfield 114, 3) := by decide +kernel
theorem dk_K_weigh_121 : decode prog_1_method_9_code 121 = .ok (.iload_n 1, 1) := by decide +kernel
theorem dk_K_weigh_122 : decode prog_1_method_9_code 122 = .ok (.iaload, 1) := by decide +kernel
theorem dk_K_weigh_123 : decode prog_1_method_9_code 123 = .ok (.aload 5, 2) := by decide +kernel
theorem dk_K_weigh_125 : decode prog_1_method_9_code 125 = .ok (.getfield 114, 3) := by decide +kernel
theorem dk_K_weigh_128 : decode prog_1_method_9_code 128 = .ok (.iload_n 2, 1) := by decide +kernel
theorem dk_K_weigh_129 : decode prog_1_method_9_code 129 = .ok (.iaload, 1) := by decide +kernel
theorem dk_K_weigh_130 : decode prog_1_method_9_code 130 = .ok (.isub, 1) := by decide +kernel
theorem dk_K_weigh_131 : decode prog_1_method_9_code 131 = .ok (.iload_n 3, 1) := by decide +kernel
theorem dk_K_weigh_132 : decode prog_1_method_9_code 132 = .ok (.iadd, 1) := by decide +kernel
theorem dk_K_weigh_133 : decode prog_1_method_9_code 133 = .ok (.aload_n 0, 1) := by decide +kernel
theorem dk_K_weigh_134 : decode prog_1_method_9_code 134 = .ok (.getfield 10, 3) := by decide +kernel
theorem dk_K_weigh_137 : decode prog_1_method_9_code 137 = .ok (.iload 4, 2) := by decide +kernel
theorem dk_K_weigh_139 : decode prog_1_method_9_code 139 = .ok (.invokevirtual 162, 3) := by decide +kernel
theorem dk_K_weigh_142 : decode prog_1_method_9_code 142 = .ok (.iadd, 1) := by decide +kernel
theorem dk_K_weigh_143 : decode prog_1_method_9_code 143 = .ok (.istore 9, 2) := by decide +kernel
theorem dk_K_weigh_145 : decode prog_1_method_9_code 145 = .ok (.aload 6, 2) := by decide +kernel
theorem dk_K_weigh_147 : decode prog_1_method_9_code 147 = .ok (.aload_n 0, 1) := by decide +kernel
theorem dk_K_weigh_148 : decode prog_1_method_9_code 148 = .ok (.getfield 10, 3) := by decide +kernel
theorem dk_K_weigh_151 : decode prog_1_method_9_code 151 = .ok (.getfield 124, 3) := by decide +kernel
theorem dk_K_weigh_154 : decode prog_1_method_9_code 154 = .ok (.iload_n 1, 1) := by decide +kernel
theorem dk_K_weigh_155 : decode prog_1_method_9_code 155 = .ok (.iload_n 2, 1) := by decide +kernel
theorem dk_K_weigh_156 : decode prog_1_method_9_code 156 = .ok (.iload 9, 2) := by decide +kernel
theorem dk_K_weigh_158 : decode prog_1_method_9_code 158 = .ok (.iload 4, 2) := by decide +kernel
theorem dk_K_weigh_160 : decode prog_1_method_9_code 160 = .ok (.invokevirtual 165, 3) := by decide +kernel
theorem dk_K_weigh_163 : decode prog_1_method_9_code 163 = .ok (.istore 10, 2) := by decide +kernel
theorem dk_K_weigh_165 : decode prog_1_method_9_code 165 = .ok (.iload 8, 2) := by decide +kernel
theorem dk_K_weigh_167 : decode prog_1_method_9_code 167 = .ok (.ifCond .eq 27, 3) := by decide +kernel
theorem dk_K_weigh_170 : decode prog_1_method_9_code 170 = .ok (.aload 6, 2) := by decide +kernel
theorem dk_K_weigh_172 : decode prog_1_method_9_code 172 = .ok (.aload_n 0, 1) := by decide +kernel
theorem dk_K_weigh_173 : decode prog_1_method_9_code 173 = .ok (.getfield 10, 3) := by decide +kernel
theorem dk_K_weigh_176 : decode prog_1_method_9_code 176 = .ok (.getfield 124, 3) := by decide +kernel
theorem dk_K_weigh_179 : decode prog_1_method_9_code 179 = .ok (.invokevirtual 168, 3) := by decide +kernel
theorem dk_K_weigh_182 : decode prog_1_method_9_code 182 = .ok (.aload 5, 2) := by decide +kernel
theorem dk_K_weigh_184 : decode prog_1_method_9_code 184 = .ok (.getfield 114, 3) := by decide +kernel
theorem dk_K_weigh_187 : decode prog_1_method_9_code 187 = .ok (.iload 7, 2) := by decide +kernel
theorem dk_K_weigh_189 : decode prog_1_method_9_code 189 = .ok (.dup2, 1) := by decide +kernel
theorem dk_K_weigh_190 : decode prog_1_method_9_code 190 = .ok (.iaload, 1) := by decide +kernel
theorem dk_K_weigh_191 : decode prog_1_method_9_code 191 = .ok (.iconst 1, 1) := by decide +kernel
theorem dk_K_weigh_192 : decode prog_1_method_9_code 192 = .ok (.isub, 1) := by decide +kernel
theorem dk_K_weigh_193 : decode prog_1_method_9_code 193 = .ok (.iastore, 1) := by decide +kernel
theorem dk_K_weigh_194 : decode prog_1_method_9_code 194 = .ok (.iload 10, 2) := by decide +kernel
theorem dk_K_weigh_196 : decode prog_1_method_9_code 196 = .ok (.ireturn, 1) := by decide +kernel
noncomputable def fj_K_weigh_116 (p1 : Int32) (p2 : Int32) (p4 : Int32) (c : (Nat → Nat → Int32)) (p3 : Int32) (x5 : Int32) (v4 : Int32) : Option (Int32 × (Nat → Nat → Int32)) :=
  kv_gd (kv_in p1 10) (
  kv_gd (kv_in p2 10) (
  kv_bind2 (fx_State_draw p4 c) (fun v8 c9 =>
  kv_let ((((c 6 p1.toNatClampNeg) - (c 6 p2.toNatClampNeg)) + p3) + v8) (fun v10 =>
  kv_bind2 (fx_Weighings_add (c9 1 5) p1 p2 v10 p4 c9) (fun v11 c12 =>
  if x5 = 0 then
    some (v11, c12)
  else
    kv_bind1 (fx_Weighings_touch (c12 1 5) c12) (fun c13 =>
    kv_gd (kv_in v4 10) (
    kv_let (kv_st c13 6 v4.toNatClampNeg ((c13 6 v4.toNatClampNeg) - (1 : Int32))) (fun c15 =>
    some (v11, c15)))))))))
noncomputable def fj_K_weigh_91 (p1 : Int32) (p2 : Int32) (p4 : Int32) (c : (Nat → Nat → Int32)) (p3 : Int32) (v4 : Int32) (x5 : Int32) : Option (Int32 × (Nat → Nat → Int32)) :=
  if x5 = 0 then
    fj_K_weigh_116 p1 p2 p4 c p3 x5 v4
  else
    kv_bind1 (fx_Weighings_touchesLeft (c 1 5) c) (fun v16 =>
    if 0 < v16 then
      fj_K_weigh_116 p1 p2 p4 c p3 x5 v4
    else
      some ((-3 : Int32), c))
noncomputable def fj_K_weigh_90 (p1 : Int32) (p2 : Int32) (p4 : Int32) (c : (Nat → Nat → Int32)) (p3 : Int32) (v4 : Int32) : Option (Int32 × (Nat → Nat → Int32)) :=
  fj_K_weigh_91 p1 p2 p4 c p3 v4 (0 : Int32)
noncomputable def fj_K_weigh_86 (p1 : Int32) (p2 : Int32) (p4 : Int32) (c : (Nat → Nat → Int32)) (p3 : Int32) (v4 : Int32) : Option (Int32 × (Nat → Nat → Int32)) :=
  fj_K_weigh_91 p1 p2 p4 c p3 v4 (1 : Int32)
noncomputable def fx_K_weigh (p1 : Int32) (p2 : Int32) (p3 : Int32) (p4 : Int32) (c : (Nat → Nat → Int32)) : Option (Int32 × (Nat → Nat → Int32)) :=
  kv_bind1 (fx_Lumps_hasPair p1 p2 c) (fun b1 =>
  if b1 = true then
    kv_bind1 (fx_K_isWithin p3 (-9 : Int32) (9 : Int32)) (fun b2 =>
    if b2 = true then
      kv_bind1 (fx_K_isDoubt p4) (fun b3 =>
      if b3 = true then
        if (c 10 7) < (20 : Int32) then
          kv_bind1 (fx_Lumps_primeAt c) (fun v4 =>
          if v4 < 0 then
            fj_K_weigh_90 p1 p2 p4 c p3 v4
          else
            if p1 = v4 then
              fj_K_weigh_86 p1 p2 p4 c p3 v4
            else
              if p2 = v4 then
                fj_K_weigh_86 p1 p2 p4 c p3 v4
              else
                fj_K_weigh_90 p1 p2 p4 c p3 v4)
        else
          some ((-2 : Int32), c)
      else
        some ((-1 : Int32), c))
    else
      some ((-1 : Int32), c))
  else
    some ((-1 : Int32), c))
set_option maxRecDepth 20000 in
theorem cx_K_weigh (d : Nat) (p1 : Int32) (p2 : Int32) (p3 : Int32) (p4 : Int32) (c : (Nat → Nat → Int32)) (y : (Nat → Nat → Int32) × (Nat → Int64) × (Nat → Int64)) : ∀ a, fx_K_weigh p1 p2 p3 p4 c = some a → kv_C kM_K_weigh (d + 2) [.ref 0, .int p1, .int p2, .int p3, .int p4] (c, y) (some (.int a.1), (a.2, y)) := by
  refine kv_entryX (E := fun a : (Int32 × (Nat → Nat → Int32)) => (some (.int a.1), (a.2, y))) rfl (Nat.le_of_ble_eq_true rfl) (fun o => ?_)
  unfold fx_K_weigh
  show kv_X _ _ _ _ _ 0 [(0, .ref 0), (1, .int p1), (2, .int p2), (3, .int p3), (4, .int p4)] [] (c, y)
  refine kv_aload_n (pc := 0) 0 rfl rfl dk_K_weigh_0 ?_
  refine kv_getR (pc := 1) kf_K_10 kr_0 rfl kt_0_0 dk_K_weigh_1 ?_
  refine kv_getR (pc := 4) kf_K_58 kr_1 rfl kt_1_0 dk_K_weigh_4 ?_
  refine kv_astore (pc := 7) (lv' := [(5, .ref 2), (0, .ref 0), (1, .int p1), (2, .int p2), (3, .int p3), (4, .int p4)]) rfl (Nat.le_of_ble_eq_true rfl) dk_K_weigh_7 ?_
  refine kv_aload (pc := 9) 0 rfl dk_K_weigh_9 ?_
  refine kv_iload_n (pc := 11) 2 rfl rfl dk_K_weigh_11 ?_
  refine kv_iload_n (pc := 12) 3 rfl rfl dk_K_weigh_12 ?_
  refine kv_cV_cZ (pc := 13) (as := [.int p1, .int p2]) (st := []) ko_Lumps_hasPair kc_3 rfl rfl kr_2 kw_589 (Nat.le_of_ble_eq_true rfl) rfl dk_K_weigh_13 (cx_Lumps_hasPair d p1 p2 c y) (fun b1 => ?_)
  refine kv_zif_eq (pc := 16) (tgt := 38) dk_K_weigh_16 rfl ?_ ?_
  · refine kv_iconst (pc := 38) (v := (-1 : Int32)) dk_K_weigh_38 kki_m1 ?_
    exact kv_iret (pc := 39) (fun h => h) rfl dk_K_weigh_39
  · refine kv_iload_n (pc := 19) 4 rfl rfl dk_K_weigh_19 ?_
    refine kv_bipush (pc := 20) (v := (-9 : Int32)) dk_K_weigh_20 kkb_m9 ?_
    refine kv_bipush (pc := 22) (v := (9 : Int32)) dk_K_weigh_22 kkb_9 ?_
    refine kv_cS_cZ (pc := 24) (as := [.int p3, .int (-9 : Int32), .int (9 : Int32)]) (st := []) ko_K_isWithin rfl kw_512 (Nat.le_of_ble_eq_true rfl) rfl dk_K_weigh_24 (cx_K_isWithin (d + 1) p3 (-9 : Int32) (9 : Int32) c y) (fun b2 => ?_)
    refine kv_zif_eq (pc := 27) (tgt := 38) dk_K_weigh_27 rfl ?_ ?_
    · refine kv_iconst (pc := 38) (v := (-1 : Int32)) dk_K_weigh_38 kki_m1 ?_
      exact kv_iret (pc := 39) (fun h => h) rfl dk_K_weigh_39
    · refine kv_iload (pc := 30) 5 rfl dk_K_weigh_30 ?_
      refine kv_cS_cZ (pc := 32) (as := [.int p4]) (st := []) ko_K_isDoubt rfl kw_594 (Nat.le_of_ble_eq_true rfl) rfl dk_K_weigh_32 (cx_K_isDoubt d p4 c y) (fun b3 => ?_)
      refine kv_zif_ne (pc := 35) (tgt := 40) dk_K_weigh_35 rfl ?_ ?_
      · refine kv_aload_n (pc := 40) 1 rfl rfl dk_K_weigh_40 ?_
        refine kv_getR (pc := 41) kf_K_10 kr_0 rfl kt_0_0 dk_K_weigh_41 ?_
        refine kv_getR (pc := 44) kf_K_152 kr_1 rfl kt_1_1 dk_K_weigh_44 ?_
        refine kv_astore (pc := 47) (lv' := [(6, .ref 10), (5, .ref 2), (0, .ref 0), (1, .int p1), (2, .int p2), (3, .int p3), (4, .int p4)]) rfl (Nat.le_of_ble_eq_true rfl) dk_K_weigh_47 ?_
        refine kv_aload (pc := 49) 0 rfl dk_K_weigh_49 ?_
        refine kv_getC (pc := 51) kf_K_156 kr_10 kn_10 rfl dk_K_weigh_51 ?_
        refine kv_bipush (pc := 54) (v := (20 : Int32)) dk_K_weigh_54 kkb_20 ?_
        refine kv_icmp_lt (pc := 56) (tgt := 62) dk_K_weigh_56 rfl ?_ ?_
        · refine kv_aload (pc := 62) 1 rfl dk_K_weigh_62 ?_
          refine kv_cV_cI (pc := 64) (as := []) (st := []) ko_Lumps_primeAt kc_3 rfl rfl kr_2 kw_515 (Nat.le_of_ble_eq_true rfl) rfl dk_K_weigh_64 (cx_Lumps_primeAt (d + 1) c y) (fun v4 => ?_)
          refine kv_istore (pc := 67) (lv' := [(7, .int v4), (6, .ref 10), (5, .ref 2), (0, .ref 0), (1, .int p1), (2, .int p2), (3, .int p3), (4, .int p4)]) rfl (Nat.le_of_ble_eq_true rfl) dk_K_weigh_67 ?_
          refine kv_iload (pc := 69) 0 rfl dk_K_weigh_69 ?_
          refine kv_cut_1 (J := fj_K_weigh_91 p1 p2 p4 c p3 v4) (pcj := 91) (LJ := fun x5 => [(0, .ref 0), (1, .int p1), (2, .int p2), (3, .int p3), (4, .int p4), (5, .ref 2), (6, .ref 10), (7, .int v4)]) (SJ := fun x5 => [.int x5]) (WJ := fun x5 => (c, y)) ?_ (fun hj91 => ?_)
          · intro x5
            show kv_X _ _ _ _ (fj_K_weigh_91 p1 p2 p4 c p3 v4 x5) 91 [(0, .ref 0), (1, .int p1), (2, .int p2), (3, .int p3), (4, .int p4), (5, .ref 2), (6, .ref 10), (7, .int v4)] [.int x5] (c, y)
            unfold fj_K_weigh_91
            refine kv_istore (pc := 91) (lv' := [(8, .int x5), (0, .ref 0), (1, .int p1), (2, .int p2), (3, .int p3), (4, .int p4), (5, .ref 2), (6, .ref 10), (7, .int v4)]) rfl (Nat.le_of_ble_eq_true rfl) dk_K_weigh_91 ?_
            refine kv_iload (pc := 93) 0 rfl dk_K_weigh_93 ?_
            refine kv_cut_0 (J := fj_K_weigh_116 p1 p2 p4 c p3 x5 v4) (pcj := 116) (LJ := [(0, .ref 0), (1, .int p1), (2, .int p2), (3, .int p3), (4, .int p4), (5, .ref 2), (6, .ref 10), (7, .int v4), (8, .int x5)]) (SJ := []) (WJ := (c, y)) ?_ (fun hj116 => ?_)
            · show kv_X _ _ _ _ (fj_K_weigh_116 p1 p2 p4 c p3 x5 v4) 116 [(0, .ref 0), (1, .int p1), (2, .int p2), (3, .int p3), (4, .int p4), (5, .ref 2), (6, .ref 10), (7, .int v4), (8, .int x5)] [] (c, y)
              unfold fj_K_weigh_116
              refine kv_aload (pc := 116) 5 rfl dk_K_weigh_116 ?_
              refine kv_getR (pc := 118) kf_K_114 kr_2 rfl kt_2_3 dk_K_weigh_118 ?_
              refine kv_iload_n (pc := 121) 1 rfl rfl dk_K_weigh_121 ?_
              refine kv_guard (fun g6 => ?_)
              refine kv_aldC (pc := 122) kr_6 kn_6 kl_6 g6 rfl dk_K_weigh_122 ?_
              refine kv_aload (pc := 123) 5 rfl dk_K_weigh_123 ?_
              refine kv_getR (pc := 125) kf_K_114 kr_2 rfl kt_2_3 dk_K_weigh_125 ?_
              refine kv_iload_n (pc := 128) 2 rfl rfl dk_K_weigh_128 ?_
              refine kv_guard (fun g7 => ?_)
              refine kv_aldC (pc := 129) kr_6 kn_6 kl_6 g7 rfl dk_K_weigh_129 ?_
              refine kv_isub (pc := 130) dk_K_weigh_130 ?_
              refine kv_iload_n (pc := 131) 3 rfl rfl dk_K_weigh_131 ?_
              refine kv_iadd (pc := 132) dk_K_weigh_132 ?_
              refine kv_aload_n (pc := 133) 0 rfl rfl dk_K_weigh_133 ?_
              refine kv_getR (pc := 134) kf_K_10 kr_0 rfl kt_0_0 dk_K_weigh_134 ?_
              refine kv_iload (pc := 137) 4 rfl dk_K_weigh_137 ?_
              refine kv_cV_cIc (pc := 139) (as := [.int p4]) (st := [.int (((c 6 p1.toNatClampNeg) - (c 6 p2.toNatClampNeg)) + p3)]) ko_State_draw kc_8 rfl rfl kr_1 kw_601 (Nat.le_of_ble_eq_true rfl) rfl dk_K_weigh_139 (cx_State_draw (d + 1) p4 c y) (fun v8 c9 => ?_)
              refine kv_iadd (pc := 142) dk_K_weigh_142 ?_
              refine kv_letI (fun v10 => ?_)
              refine kv_istore (pc := 143) (lv' := [(9, .int v10), (0, .ref 0), (1, .int p1), (2, .int p2), (3, .int p3), (4, .int p4), (5, .ref 2), (6, .ref 10), (7, .int v4), (8, .int x5)]) rfl (Nat.le_of_ble_eq_true rfl) dk_K_weigh_143 ?_
              refine kv_aload (pc := 145) 7 rfl dk_K_weigh_145 ?_
              refine kv_aload_n (pc := 147) 1 rfl rfl dk_K_weigh_147 ?_
              refine kv_getR (pc := 148) kf_K_10 kr_0 rfl kt_0_0 dk_K_weigh_148 ?_
              refine kv_getC (pc := 151) kf_K_124 kr_1 kn_1 rfl dk_K_weigh_151 ?_
              refine kv_iload_n (pc := 154) 2 rfl rfl dk_K_weigh_154 ?_
              refine kv_iload_n (pc := 155) 3 rfl rfl dk_K_weigh_155 ?_
              refine kv_iload (pc := 156) 0 rfl dk_K_weigh_156 ?_
              refine kv_iload (pc := 158) 5 rfl dk_K_weigh_158 ?_
              refine kv_cV_cIc (pc := 160) (as := [.int (c9 1 5), .int p1, .int p2, .int v10, .int p4]) (st := []) ko_Weighings_add kc_9 rfl rfl kr_10 kw_608 (Nat.le_of_ble_eq_true rfl) rfl dk_K_weigh_160 (cx_Weighings_add (d + 1) (c9 1 5) p1 p2 v10 p4 c9 y) (fun v11 c12 => ?_)
              refine kv_istore (pc := 163) (lv' := [(10, .int v11), (9, .int v10), (0, .ref 0), (1, .int p1), (2, .int p2), (3, .int p3), (4, .int p4), (5, .ref 2), (6, .ref 10), (7, .int v4), (8, .int x5)]) rfl (Nat.le_of_ble_eq_true rfl) dk_K_weigh_163 ?_
              refine kv_iload (pc := 165) 10 rfl dk_K_weigh_165 ?_
              refine kv_if_eq (pc := 167) (tgt := 194) dk_K_weigh_167 rfl ?_ ?_
              · refine kv_iload (pc := 194) 0 rfl dk_K_weigh_194 ?_
                exact kv_iret (pc := 196) (fun h => h) rfl dk_K_weigh_196
              · refine kv_aload (pc := 170) 8 rfl dk_K_weigh_170 ?_
                refine kv_aload_n (pc := 172) 2 rfl rfl dk_K_weigh_172 ?_
                refine kv_getR (pc := 173) kf_K_10 kr_0 rfl kt_0_0 dk_K_weigh_173 ?_
                refine kv_getC (pc := 176) kf_K_124 kr_1 kn_1 rfl dk_K_weigh_176 ?_
                refine kv_cV_cc (pc := 179) (as := [.int (c12 1 5)]) (st := []) ko_Weighings_touch kc_9 rfl rfl kr_10 kw_612 (Nat.le_of_ble_eq_true rfl) rfl dk_K_weigh_179 (cx_Weighings_touch (d + 1) (c12 1 5) c12 y) (fun c13 => ?_)
                refine kv_aload (pc := 182) 7 rfl dk_K_weigh_182 ?_
                refine kv_getR (pc := 184) kf_K_114 kr_2 rfl kt_2_3 dk_K_weigh_184 ?_
                refine kv_iload (pc := 187) 9 rfl dk_K_weigh_187 ?_
                refine kv_dup2RI (pc := 189) dk_K_weigh_189 ?_
                refine kv_guard (fun g14 => ?_)
                refine kv_aldC (pc := 190) kr_6 kn_6 kl_6 g14 rfl dk_K_weigh_190 ?_
                refine kv_iconst (pc := 191) (v := (1 : Int32)) dk_K_weigh_191 kki_1 ?_
                refine kv_isub (pc := 192) dk_K_weigh_192 ?_
                refine kv_astC (pc := 193) kr_6 kn_6 kl_6 g14 rfl dk_K_weigh_193 (fun c15 => ?_)
                refine kv_iload (pc := 194) 0 rfl dk_K_weigh_194 ?_
                exact kv_iret (pc := 196) (fun h => h) rfl dk_K_weigh_196
            refine kv_if_eq (pc := 95) (tgt := 116) dk_K_weigh_95 rfl ?_ ?_
            · exact kv_sub [1, 2, 3, 4, 5, 6, 7, 8, 0] rfl (hj116)
            · refine kv_aload (pc := 98) 7 rfl dk_K_weigh_98 ?_
              refine kv_aload_n (pc := 100) 1 rfl rfl dk_K_weigh_100 ?_
              refine kv_getR (pc := 101) kf_K_10 kr_0 rfl kt_0_0 dk_K_weigh_101 ?_
              refine kv_getC (pc := 104) kf_K_124 kr_1 kn_1 rfl dk_K_weigh_104 ?_
              refine kv_cV_cI (pc := 107) (as := [.int (c 1 5)]) (st := []) ko_Weighings_touchesLeft kc_9 rfl rfl kr_10 kw_597 (Nat.le_of_ble_eq_true rfl) rfl dk_K_weigh_107 (cx_Weighings_touchesLeft (d + 1) (c 1 5) c y) (fun v16 => ?_)
              refine kv_if_gt (pc := 110) (tgt := 116) dk_K_weigh_110 rfl ?_ ?_
              · exact kv_sub [1, 2, 3, 4, 5, 6, 7, 8, 0] rfl (hj116)
              · refine kv_bipush (pc := 113) (v := (-3 : Int32)) dk_K_weigh_113 kkb_m3 ?_
                exact kv_iret (pc := 115) (fun h => h) rfl dk_K_weigh_115
          refine kv_cut_0 (J := fj_K_weigh_90 p1 p2 p4 c p3 v4) (pcj := 90) (LJ := [(0, .ref 0), (1, .int p1), (2, .int p2), (3, .int p3), (4, .int p4), (5, .ref 2), (6, .ref 10), (7, .int v4)]) (SJ := []) (WJ := (c, y)) ?_ (fun hj90 => ?_)
          · show kv_X _ _ _ _ (fj_K_weigh_90 p1 p2 p4 c p3 v4) 90 [(0, .ref 0), (1, .int p1), (2, .int p2), (3, .int p3), (4, .int p4), (5, .ref 2), (6, .ref 10), (7, .int v4)] [] (c, y)
            unfold fj_K_weigh_90
            refine kv_iconst (pc := 90) (v := (0 : Int32)) dk_K_weigh_90 kki_0 ?_
            exact hj91 (0 : Int32)
          refine kv_if_lt (pc := 71) (tgt := 90) dk_K_weigh_71 rfl ?_ ?_
          · exact kv_sub [3, 4, 5, 6, 7, 2, 1, 0] rfl (hj90)
          · refine kv_iload_n (pc := 74) 4 rfl rfl dk_K_weigh_74 ?_
            refine kv_iload (pc := 75) 0 rfl dk_K_weigh_75 ?_
            refine kv_cut_0 (J := fj_K_weigh_86 p1 p2 p4 c p3 v4) (pcj := 86) (LJ := [(0, .ref 0), (1, .int p1), (2, .int p2), (3, .int p3), (4, .int p4), (5, .ref 2), (6, .ref 10), (7, .int v4)]) (SJ := []) (WJ := (c, y)) ?_ (fun hj86 => ?_)
            · show kv_X _ _ _ _ (fj_K_weigh_86 p1 p2 p4 c p3 v4) 86 [(0, .ref 0), (1, .int p1), (2, .int p2), (3, .int p3), (4, .int p4), (5, .ref 2), (6, .ref 10), (7, .int v4)] [] (c, y)
              unfold fj_K_weigh_86
              refine kv_iconst (pc := 86) (v := (1 : Int32)) dk_K_weigh_86 kki_1 ?_
              refine kv_goto (pc := 87) (tgt := 91) dk_K_weigh_87 rfl ?_
              exact hj91 (1 : Int32)
            refine kv_icmp_eq (pc := 77) (tgt := 86) dk_K_weigh_77 rfl ?_ ?_
            · exact kv_sub [3, 4, 5, 6, 7, 2, 1, 0] rfl (hj86)
            · refine kv_iload_n (pc := 80) 5 rfl rfl dk_K_weigh_80 ?_
              refine kv_iload (pc := 81) 0 rfl dk_K_weigh_81 ?_
              refine kv_icmp_ne (pc := 83) (tgt := 90) dk_K_weigh_83 rfl ?_ ?_
              · exact kv_sub [3, 4, 5, 6, 7, 2, 1, 0] rfl (hj90)
              · exact kv_sub [3, 4, 5, 6, 7, 2, 1, 0] rfl (hj86)
        · refine kv_bipush (pc := 59) (v := (-2 : Int32)) dk_K_weigh_59 kkb_m2 ?_
          exact kv_iret (pc := 61) (fun h => h) rfl dk_K_weigh_61
      · refine kv_iconst (pc := 38) (v := (-1 : Int32)) dk_K_weigh_38 kki_m1 ?_
        exact kv_iret (pc := 39) (fun h => h) rfl dk_K_weigh_39
theorem dk_D_tells_0 : decode prog_13_method_19_code 0 = .ok (.bipush 80, 2) := by decide +kernel
theorem dk_D_tells_2 : decode prog_13_method_19_code 2 = .ok (.bipush 6, 2) := by decide +kernel
theorem dk_D_tells_4 : decode prog_13_method_19_code 4 = .ok (.aload_n 0, 1) := by decide +kernel
theorem dk_D_tells_5 : decode prog_13_method_19_code 5 = .ok (.getfield 9, 3) := by decide +kernel
theorem dk_D_tells_8 : decode prog_13_method_19_code 8 = .ok (.iconst 2, 1) := by decide +kernel
theorem dk_D_tells_9 : decode prog_13_method_19_code 9 = .ok (.iaload, 1) := by decide +kernel
theorem dk_D_tells_10 : decode prog_13_method_19_code 10 = .ok (.imul, 1) := by decide +kernel
theorem dk_D_tells_11 : decode prog_13_method_19_code 11 = .ok (.iadd, 1) := by decide +kernel
theorem dk_D_tells_12 : decode prog_13_method_19_code 12 = .ok (.istore 6, 2) := by decide +kernel
theorem dk_D_tells_14 : decode prog_13_method_19_code 14 = .ok (.aload_n 0, 1) := by decide +kernel
theorem dk_D_tells_15 : decode prog_13_method_19_code 15 = .ok (.getfield 9, 3) := by decide +kernel
theorem dk_D_tells_18 : decode prog_13_method_19_code 18 = .ok (.iload 6, 2) := by decide +kernel
theorem dk_D_tells_20 : decode prog_13_method_19_code 20 = .ok (.iload_n 1, 1) := by decide +kernel
theorem dk_D_tells_21 : decode prog_13_method_19_code 21 = .ok (.iastore, 1) := by decide +kernel
theorem dk_D_tells_22 : decode prog_13_method_19_code 22 = .ok (.aload_n 0, 1) := by decide +kernel
theorem dk_D_tells_23 : decode prog_13_method_19_code 23 = .ok (.getfield 9, 3) := by decide +kernel
theorem dk_D_tells_26 : decode prog_13_method_19_code 26 = .ok (.iload 6, 2) := by decide +kernel
theorem dk_D_tells_28 : decode prog_13_method_19_code 28 = .ok (.iconst 1, 1) := by decide +kernel
theorem dk_D_tells_29 : decode prog_13_method_19_code 29 = .ok (.iadd, 1) := by decide +kernel
theorem dk_D_tells_30 : decode prog_13_method_19_code 30 = .ok (.iload_n 2, 1) := by decide +kernel
theorem dk_D_tells_31 : decode prog_13_method_19_code 31 = .ok (.iastore, 1) := by decide +kernel
theorem dk_D_tells_32 : decode prog_13_method_19_code 32 = .ok (.aload_n 0, 1) := by decide +kernel
theorem dk_D_tells_33 : decode prog_13_method_19_code 33 = .ok (.getfield 9, 3) := by decide +kernel
theorem dk_D_tells_36 : decode prog_13_method_19_code 36 = .ok (.iload 6, 2) := by decide +kernel
theorem dk_D_tells_38 : decode prog_13_method_19_code 38 = .ok (.iconst 2, 1) := by decide +kernel
theorem dk_D_tells_39 : decode prog_13_method_19_code 39 = .ok (.iadd, 1) := by decide +kernel
theorem dk_D_tells_40 : decode prog_13_method_19_code 40 = .ok (.iload_n 3, 1) := by decide +kernel
theorem dk_D_tells_41 : decode prog_13_method_19_code 41 = .ok (.iastore, 1) := by decide +kernel
theorem dk_D_tells_42 : decode prog_13_method_19_code 42 = .ok (.aload_n 0, 1) := by decide +kernel
theorem dk_D_tells_43 : decode prog_13_method_19_code 43 = .ok (.getfield 9, 3) := by decide +kernel
theorem dk_D_tells_46 : decode prog_13_method_19_code 46 = .ok (.iload 6, 2) := by decide +kernel
theorem dk_D_tells_48 : decode prog_13_method_19_code 48 = .ok (.iconst 3, 1) := by decide +kernel
theorem dk_D_tells_49 : decode prog_13_method_19_code 49 = .ok (.iadd, 1) := by decide +kernel
theorem dk_D_tells_50 : decode prog_13_method_19_code 50 = .ok (.iload 4, 2) := by decide +kernel
theorem dk_D_tells_52 : decode prog_13_method_19_code 52 = .ok (.iastore, 1) := by decide +kernel
theorem dk_D_tells_53 : decode prog_13_method_19_code 53 = .ok (.aload_n 0, 1) := by decide +kernel
theorem dk_D_tells_54 : decode prog_13_method_19_code 54 = .ok (.getfield 9, 3) := by decide +kernel
theorem dk_D_tells_57 : decode prog_13_method_19_code 57 = .ok (.iload 6, 2) := by decide +kernel
theorem dk_D_tells_59 : decode prog_13_method_19_code 59 = .ok (.iconst 4, 1) := by decide +kernel
theorem dk_D_tells_60 : decode prog_13_method_19_code 60 = .ok (.iadd, 1) := by decide +kernel
theorem dk_D_tells_61 : decode prog_13_method_19_code 61 = .ok (.iload 5, 2) := by decide +kernel
theorem dk_D_tells_63 : decode prog_13_method_19_code 63 = .ok (.iastore, 1) := by decide +kernel
theorem dk_D_tells_64 : decode prog_13_method_19_code 64 = .ok (.aload_n 0, 1) := by decide +kernel
theorem dk_D_tells_65 : decode prog_13_method_19_code 65 = .ok (.getfield 9, 3) := by decide +kernel
theorem dk_D_tells_68 : decode prog_13_method_19_code 68 = .ok (.iload 6, 2) := by decide +kernel
theorem dk_D_tells_70 : decode prog_13_method_19_code 70 = .ok (.iconst 5, 1) := by decide +kernel
theorem dk_D_tells_71 : decode prog_13_method_19_code 71 = .ok (.iadd, 1) := by decide +kernel
theorem dk_D_tells_72 : decode prog_13_method_19_code 72 = .ok (.iconst 0, 1) := by decide +kernel
theorem dk_D_tells_73 : decode prog_13_method_19_code 73 = .ok (.iastore, 1) := by decide +kernel
theorem dk_D_tells_74 : decode prog_13_method_19_code 74 = .ok (.aload_n 0, 1) := by decide +kernel
theorem dk_D_tells_75 : decode prog_13_method_19_code 75 = .ok (.getfield 9, 3) := by decide +kernel
theorem dk_D_tells_78 : decode prog_13_method_19_code 78 = .ok (.iconst 2, 1) := by decide +kernel
theorem dk_D_tells_79 : decode prog_13_method_19_code 79 = .ok (.dup2, 1) := by decide +kernel
theorem dk_D_tells_80 : decode prog_13_method_19_code 80 = .ok (.iaload, 1) := by decide +kernel
theorem dk_D_tells_81 : decode prog_13_method_19_code 81 = .ok (.iconst 1, 1) := by decide +kernel
theorem dk_D_tells_82 : decode prog_13_method_19_code 82 = .ok (.iadd, 1) := by decide +kernel
theorem dk_D_tells_83 : decode prog_13_method_19_code 83 = .ok (.iastore, 1) := by decide +kernel
theorem dk_D_tells_84 : decode prog_13_method_19_code 84 = .ok (.return_, 1) := by decide +kernel
noncomputable def fx_D_tells (p1 : Int32) (p2 : Int32) (p3 : Int32) (p4 : Int32) (p5 : Int32) (m : (Nat → Nat → Int32)) : Option (Nat → Nat → Int32) :=
  kv_let ((80 : Int32) + ((6 : Int32) * (m 85 2))) (fun v1 =>
  kv_gd (kv_in v1 444) (
  kv_let (kv_st m 85 v1.toNatClampNeg p1) (fun m3 =>
  kv_gd (kv_in (v1 + (1 : Int32)) 444) (
  kv_let (kv_st m3 85 (v1 + (1 : Int32)).toNatClampNeg p2) (fun m5 =>
  kv_gd (kv_in (v1 + (2 : Int32)) 444) (
  kv_let (kv_st m5 85 (v1 + (2 : Int32)).toNatClampNeg p3) (fun m7 =>
  kv_gd (kv_in (v1 + (3 : Int32)) 444) (
  kv_let (kv_st m7 85 (v1 + (3 : Int32)).toNatClampNeg p4) (fun m9 =>
  kv_gd (kv_in (v1 + (4 : Int32)) 444) (
  kv_let (kv_st m9 85 (v1 + (4 : Int32)).toNatClampNeg p5) (fun m11 =>
  kv_gd (kv_in (v1 + (5 : Int32)) 444) (
  kv_let (kv_st m11 85 (v1 + (5 : Int32)).toNatClampNeg (0 : Int32)) (fun m13 =>
  kv_let (kv_st m13 85 2 ((m13 85 2) + (1 : Int32))) (fun m14 =>
  some m14))))))))))))))
set_option maxRecDepth 20000 in
theorem cx_D_tells (d : Nat) (p1 : Int32) (p2 : Int32) (p3 : Int32) (p4 : Int32) (p5 : Int32) (c : (Nat → Nat → Int32)) (m : (Nat → Nat → Int32)) (f : (Nat → Int64)) (u : (Nat → Int64)) : ∀ a, fx_D_tells p1 p2 p3 p4 p5 m = some a → kv_C kM_D_tells (d + 0) [.ref 84, .int p1, .int p2, .int p3, .int p4, .int p5] (c, m, f, u) (none, (c, a, f, u)) := by
  refine kv_entryX (E := fun a : (Nat → Nat → Int32) => (none, (c, a, f, u))) rfl (Nat.le_of_ble_eq_true rfl) (fun o => ?_)
  unfold fx_D_tells
  show kv_X _ _ _ _ _ 0 [(0, .ref 84), (1, .int p1), (2, .int p2), (3, .int p3), (4, .int p4), (5, .int p5)] [] (c, m, f, u)
  refine kv_bipush (pc := 0) (v := (80 : Int32)) dk_D_tells_0 kkb_80 ?_
  refine kv_bipush (pc := 2) (v := (6 : Int32)) dk_D_tells_2 kkb_6 ?_
  refine kv_aload_n (pc := 4) 0 rfl rfl dk_D_tells_4 ?_
  refine kv_getR (pc := 5) kf_D_9 kr_84 rfl kt_84_0 dk_D_tells_5 ?_
  refine kv_iconst (pc := 8) (v := (2 : Int32)) dk_D_tells_8 kki_2 ?_
  refine kv_aldM (pc := 9) kr_85 kn_85 kl_85 kkg_2_444 (j := 2) kkx_2 dk_D_tells_9 ?_
  refine kv_imul (pc := 10) dk_D_tells_10 ?_
  refine kv_iadd (pc := 11) dk_D_tells_11 ?_
  refine kv_letI (fun v1 => ?_)
  refine kv_istore (pc := 12) (lv' := [(6, .int v1), (0, .ref 84), (1, .int p1), (2, .int p2), (3, .int p3), (4, .int p4), (5, .int p5)]) rfl (Nat.le_of_ble_eq_true rfl) dk_D_tells_12 ?_
  refine kv_aload_n (pc := 14) 1 rfl rfl dk_D_tells_14 ?_
  refine kv_getR (pc := 15) kf_D_9 kr_84 rfl kt_84_0 dk_D_tells_15 ?_
  refine kv_iload (pc := 18) 0 rfl dk_D_tells_18 ?_
  refine kv_iload_n (pc := 20) 2 rfl rfl dk_D_tells_20 ?_
  refine kv_guard (fun g2 => ?_)
  refine kv_astM (pc := 21) kr_85 kn_85 kl_85 g2 rfl dk_D_tells_21 (fun m3 => ?_)
  refine kv_aload_n (pc := 22) 1 rfl rfl dk_D_tells_22 ?_
  refine kv_getR (pc := 23) kf_D_9 kr_84 rfl kt_84_0 dk_D_tells_23 ?_
  refine kv_iload (pc := 26) 0 rfl dk_D_tells_26 ?_
  refine kv_iconst (pc := 28) (v := (1 : Int32)) dk_D_tells_28 kki_1 ?_
  refine kv_iadd (pc := 29) dk_D_tells_29 ?_
  refine kv_iload_n (pc := 30) 3 rfl rfl dk_D_tells_30 ?_
  refine kv_guard (fun g4 => ?_)
  refine kv_astM (pc := 31) kr_85 kn_85 kl_85 g4 rfl dk_D_tells_31 (fun m5 => ?_)
  refine kv_aload_n (pc := 32) 1 rfl rfl dk_D_tells_32 ?_
  refine kv_getR (pc := 33) kf_D_9 kr_84 rfl kt_84_0 dk_D_tells_33 ?_
  refine kv_iload (pc := 36) 0 rfl dk_D_tells_36 ?_
  refine kv_iconst (pc := 38) (v := (2 : Int32)) dk_D_tells_38 kki_2 ?_
  refine kv_iadd (pc := 39) dk_D_tells_39 ?_
  refine kv_iload_n (pc := 40) 4 rfl rfl dk_D_tells_40 ?_
  refine kv_guard (fun g6 => ?_)
  refine kv_astM (pc := 41) kr_85 kn_85 kl_85 g6 rfl dk_D_tells_41 (fun m7 => ?_)
  refine kv_aload_n (pc := 42) 1 rfl rfl dk_D_tells_42 ?_
  refine kv_getR (pc := 43) kf_D_9 kr_84 rfl kt_84_0 dk_D_tells_43 ?_
  refine kv_iload (pc := 46) 0 rfl dk_D_tells_46 ?_
  refine kv_iconst (pc := 48) (v := (3 : Int32)) dk_D_tells_48 kki_3 ?_
  refine kv_iadd (pc := 49) dk_D_tells_49 ?_
  refine kv_iload (pc := 50) 5 rfl dk_D_tells_50 ?_
  refine kv_guard (fun g8 => ?_)
  refine kv_astM (pc := 52) kr_85 kn_85 kl_85 g8 rfl dk_D_tells_52 (fun m9 => ?_)
  refine kv_aload_n (pc := 53) 1 rfl rfl dk_D_tells_53 ?_
  refine kv_getR (pc := 54) kf_D_9 kr_84 rfl kt_84_0 dk_D_tells_54 ?_
  refine kv_iload (pc := 57) 0 rfl dk_D_tells_57 ?_
  refine kv_iconst (pc := 59) (v := (4 : Int32)) dk_D_tells_59 kki_4 ?_
  refine kv_iadd (pc := 60) dk_D_tells_60 ?_
  refine kv_iload (pc := 61) 6 rfl dk_D_tells_61 ?_
  refine kv_guard (fun g10 => ?_)
  refine kv_astM (pc := 63) kr_85 kn_85 kl_85 g10 rfl dk_D_tells_63 (fun m11 => ?_)
  refine kv_aload_n (pc := 64) 1 rfl rfl dk_D_tells_64 ?_
  refine kv_getR (pc := 65) kf_D_9 kr_84 rfl kt_84_0 dk_D_tells_65 ?_
  refine kv_iload (pc := 68) 0 rfl dk_D_tells_68 ?_
  refine kv_iconst (pc := 70) (v := (5 : Int32)) dk_D_tells_70 kki_5 ?_
  refine kv_iadd (pc := 71) dk_D_tells_71 ?_
  refine kv_iconst (pc := 72) (v := (0 : Int32)) dk_D_tells_72 kki_0 ?_
  refine kv_guard (fun g12 => ?_)
  refine kv_astM (pc := 73) kr_85 kn_85 kl_85 g12 rfl dk_D_tells_73 (fun m13 => ?_)
  refine kv_aload_n (pc := 74) 1 rfl rfl dk_D_tells_74 ?_
  refine kv_getR (pc := 75) kf_D_9 kr_84 rfl kt_84_0 dk_D_tells_75 ?_
  refine kv_iconst (pc := 78) (v := (2 : Int32)) dk_D_tells_78 kki_2 ?_
  refine kv_dup2RI (pc := 79) dk_D_tells_79 ?_
  refine kv_aldM (pc := 80) kr_85 kn_85 kl_85 kkg_2_444 (j := 2) kkx_2 dk_D_tells_80 ?_
  refine kv_iconst (pc := 81) (v := (1 : Int32)) dk_D_tells_81 kki_1 ?_
  refine kv_iadd (pc := 82) dk_D_tells_82 ?_
  refine kv_astM (pc := 83) kr_85 kn_85 kl_85 kkg_2_444 (j := 2) kkx_2 dk_D_tells_83 (fun m14 => ?_)
  exact kv_vret (pc := 84) (fun h => h) rfl dk_D_tells_84
theorem dk_D_touchesLeft_0 : decode prog_13_method_18_code 0 = .ok (.iconst 3, 1) := by decide +kernel
theorem dk_D_touchesLeft_1 : decode prog_13_method_18_code 1 = .ok (.istore_n 1, 1) := by decide +kernel
theorem dk_D_touchesLeft_2 : decode prog_13_method_18_code 2 = .ok (.iconst 0, 1) := by decide +kernel
theorem dk_D_touchesLeft_3 : decode prog_13_method_18_code 3 = .ok (.istore_n 2, 1) := by decide +kernel
theorem dk_D_touchesLeft_4 : decode prog_13_method_18_code 4 = .ok (.iload_n 2, 1) := by decide +kernel
theorem dk_D_touchesLeft_5 : decode prog_13_method_18_code 5 = .ok (.aload_n 0, 1) := by decide +kernel
theorem dk_D_touchesLeft_6 : decode prog_13_method_18_code 6 = .ok (.getfield 9, 3) := by decide +kernel
theorem dk_D_touchesLeft_9 : decode prog_13_method_18_code 9 = .ok (.iconst 3, 1) := by decide +kernel
theorem dk_D_touchesLeft_10 : decode prog_13_method_18_code 10 = .ok (.iaload, 1) := by decide +kernel
theorem dk_D_touchesLeft_11 : decode prog_13_method_18_code 11 = .ok (.if_icmp .ge 39, 3) := by decide +kernel
theorem dk_D_touchesLeft_14 : decode prog_13_method_18_code 14 = .ok (.iload_n 1, 1) := by decide +kernel
theorem dk_D_touchesLeft_15 : decode prog_13_method_18_code 15 = .ok (.aload_n 0, 1) := by decide +kernel
theorem dk_D_touchesLeft_16 : decode prog_13_method_18_code 16 = .ok (.getfield 9, 3) := by decide +kernel
theorem dk_D_touchesLeft_19 : decode prog_13_method_18_code 19 = .ok (.sipush 200, 3) := by decide +kernel
theorem dk_D_touchesLeft_22 : decode prog_13_method_18_code 22 = .ok (.iload_n 2, 1) := by decide +kernel
theorem dk_D_touchesLeft_23 : decode prog_13_method_18_code 23 = .ok (.iadd, 1) := by decide +kernel
theorem dk_D_touchesLeft_24 : decode prog_13_method_18_code 24 = .ok (.iaload, 1) := by decide +kernel
theorem dk_D_touchesLeft_25 : decode prog_13_method_18_code 25 = .ok (.aload_n 0, 1) := by decide +kernel
theorem dk_D_touchesLeft_26 : decode prog_13_method_18_code 26 = .ok (.getfield 9, 3) := by decide +kernel
theorem dk_D_touchesLeft_29 : decode prog_13_method_18_code 29 = .ok (.iconst 0, 1) := by decide +kernel
theorem dk_D_touchesLeft_30 : decode prog_13_method_18_code 30 = .ok (.iaload, 1) := by decide +kernel
theorem dk_D_touchesLeft_31 : decode prog_13_method_18_code 31 = .ok (.bipush 99, 2) := by decide +kernel
theorem dk_D_touchesLeft_33 : decode prog_13_method_18_code 33 = .ok (.isub, 1) := by decide +kernel
theorem dk_D_touchesLeft_34 : decode prog_13_method_18_code 34 = .ok (.if_icmp .lt 7, 3) := by decide +kernel
theorem dk_D_touchesLeft_37 : decode prog_13_method_18_code 37 = .ok (.iconst 1, 1) := by decide +kernel
theorem dk_D_touchesLeft_38 : decode prog_13_method_18_code 38 = .ok (.goto 4, 3) := by decide +kernel
theorem dk_D_touchesLeft_41 : decode prog_13_method_18_code 41 = .ok (.iconst 0, 1) := by decide +kernel
theorem dk_D_touchesLeft_42 : decode prog_13_method_18_code 42 = .ok (.isub, 1) := by decide +kernel
theorem dk_D_touchesLeft_43 : decode prog_13_method_18_code 43 = .ok (.istore_n 1, 1) := by decide +kernel
theorem dk_D_touchesLeft_44 : decode prog_13_method_18_code 44 = .ok (.iinc 2 1, 3) := by decide +kernel
theorem dk_D_touchesLeft_47 : decode prog_13_method_18_code 47 = .ok (.goto (-43), 3) := by decide +kernel
theorem dk_D_touchesLeft_50 : decode prog_13_method_18_code 50 = .ok (.iload_n 1, 1) := by decide +kernel
theorem dk_D_touchesLeft_51 : decode prog_13_method_18_code 51 = .ok (.ireturn, 1) := by decide +kernel
noncomputable def fj_D_touchesLeft_42 (x1 : Int32) (x2 : Int32) (x5 : Int32) : Option ((Int32 × Int32) ⊕ Int32) :=
  kv_let (x1 - x5) (fun v6 =>
  some (.inl (v6, (x2 + (1 : Int32)))))
noncomputable def fb_D_touchesLeft_4 (m : (Nat → Nat → Int32)) (x1 : Int32) (x2 : Int32) : Option ((Int32 × Int32) ⊕ Int32) :=
  if (m 85 3) ≤ x2 then
    some (.inr x1)
  else
    kv_gd (kv_in ((200 : Int32) + x2) 444) (
    if (m 85 ((200 : Int32) + x2).toNatClampNeg) < ((m 85 0) - (99 : Int32)) then
      fj_D_touchesLeft_42 x1 x2 (0 : Int32)
    else
      fj_D_touchesLeft_42 x1 x2 (1 : Int32))
noncomputable def fx_D_touchesLeft (m : (Nat → Nat → Int32)) : Option Int32 :=
  (kv_loop (kv_u2 (fb_D_touchesLeft_4 m)) ((3 : Int32), (0 : Int32))).bind (kv_u1 (fun x3 =>
  some x3))
set_option maxRecDepth 20000 in
theorem cx_D_touchesLeft (d : Nat) (c : (Nat → Nat → Int32)) (m : (Nat → Nat → Int32)) (f : (Nat → Int64)) (u : (Nat → Int64)) : ∀ a, fx_D_touchesLeft m = some a → kv_C kM_D_touchesLeft (d + 0) [.ref 84] (c, m, f, u) (some (.int a), (c, m, f, u)) := by
  refine kv_entryX (E := fun a : Int32 => (some (.int a), (c, m, f, u))) rfl (Nat.le_of_ble_eq_true rfl) (fun o => ?_)
  unfold fx_D_touchesLeft
  show kv_X _ _ _ _ _ 0 [(0, .ref 84)] [] (c, m, f, u)
  refine kv_iconst (pc := 0) (v := (3 : Int32)) dk_D_touchesLeft_0 kki_3 ?_
  refine kv_istore_n (pc := 1) (lv' := [(1, .int (3 : Int32)), (0, .ref 84)]) rfl (Nat.le_of_ble_eq_true rfl) rfl dk_D_touchesLeft_1 ?_
  refine kv_iconst (pc := 2) (v := (0 : Int32)) dk_D_touchesLeft_2 kki_0 ?_
  refine kv_istore_n (pc := 3) (lv' := [(2, .int (0 : Int32)), (1, .int (3 : Int32)), (0, .ref 84)]) rfl (Nat.le_of_ble_eq_true rfl) rfl dk_D_touchesLeft_3 ?_
  refine kv_sub (lv' := [(0, .ref 84), (1, .int (3 : Int32)), (2, .int (0 : Int32))]) [2, 1, 0] rfl ?_
  refine kv_lp_2_1 (LV := fun x1 x2 => [(0, .ref 84), (1, .int x1), (2, .int x2)]) (WW := fun x1 x2 => (c, m, f, u)) (LE1 := fun x3 => [(1, .int x3)]) (WE1 := fun x3 => (c, m, f, u)) (pe1 := 50) ?_ ?_
  · intro x3
    show kv_X _ _ _ _ _ 50 [(1, .int x3)] [] (c, m, f, u)
    refine kv_iload_n (pc := 50) 0 rfl rfl dk_D_touchesLeft_50 ?_
    exact kv_iret (pc := 51) (fun h => h) rfl dk_D_touchesLeft_51
  · intro hx4_0 x1 x2
    show kv_X _ _ _ _ (fb_D_touchesLeft_4 m x1 x2) 4 [(0, .ref 84), (1, .int x1), (2, .int x2)] [] (c, m, f, u)
    unfold fb_D_touchesLeft_4
    refine kv_iload_n (pc := 4) 2 rfl rfl dk_D_touchesLeft_4 ?_
    refine kv_aload_n (pc := 5) 0 rfl rfl dk_D_touchesLeft_5 ?_
    refine kv_getR (pc := 6) kf_D_9 kr_84 rfl kt_84_0 dk_D_touchesLeft_6 ?_
    refine kv_iconst (pc := 9) (v := (3 : Int32)) dk_D_touchesLeft_9 kki_3 ?_
    refine kv_aldM (pc := 10) kr_85 kn_85 kl_85 kkg_3_444 (j := 3) kkx_3 dk_D_touchesLeft_10 ?_
    refine kv_icmp_ge (pc := 11) (tgt := 50) dk_D_touchesLeft_11 rfl ?_ ?_
    · exact kv_sub [1] rfl (kv_leaf (hx4_0 _))
    · refine kv_iload_n (pc := 14) 1 rfl rfl dk_D_touchesLeft_14 ?_
      refine kv_aload_n (pc := 15) 0 rfl rfl dk_D_touchesLeft_15 ?_
      refine kv_getR (pc := 16) kf_D_9 kr_84 rfl kt_84_0 dk_D_touchesLeft_16 ?_
      refine kv_sipush (pc := 19) (v := (200 : Int32)) dk_D_touchesLeft_19 kks_200 ?_
      refine kv_iload_n (pc := 22) 2 rfl rfl dk_D_touchesLeft_22 ?_
      refine kv_iadd (pc := 23) dk_D_touchesLeft_23 ?_
      refine kv_guard (fun g4 => ?_)
      refine kv_aldM (pc := 24) kr_85 kn_85 kl_85 g4 rfl dk_D_touchesLeft_24 ?_
      refine kv_aload_n (pc := 25) 0 rfl rfl dk_D_touchesLeft_25 ?_
      refine kv_getR (pc := 26) kf_D_9 kr_84 rfl kt_84_0 dk_D_touchesLeft_26 ?_
      refine kv_iconst (pc := 29) (v := (0 : Int32)) dk_D_touchesLeft_29 kki_0 ?_
      refine kv_aldM (pc := 30) kr_85 kn_85 kl_85 kkg_0_444 (j := 0) kkx_0 dk_D_touchesLeft_30 ?_
      refine kv_bipush (pc := 31) (v := (99 : Int32)) dk_D_touchesLeft_31 kkb_99 ?_
      refine kv_isub (pc := 33) dk_D_touchesLeft_33 ?_
      refine kv_cut_1 (J := fj_D_touchesLeft_42 x1 x2) (pcj := 42) (LJ := fun x5 => [(0, .ref 84), (2, .int x2)]) (SJ := fun x5 => [.int x5, .int x1]) (WJ := fun x5 => (c, m, f, u)) ?_ (fun hj42 => ?_)
      · intro x5
        show kv_X _ _ _ _ (fj_D_touchesLeft_42 x1 x2 x5) 42 [(0, .ref 84), (2, .int x2)] [.int x5, .int x1] (c, m, f, u)
        unfold fj_D_touchesLeft_42
        refine kv_isub (pc := 42) dk_D_touchesLeft_42 ?_
        refine kv_letI (fun v6 => ?_)
        refine kv_istore_n (pc := 43) (lv' := [(1, .int v6), (0, .ref 84), (2, .int x2)]) rfl (Nat.le_of_ble_eq_true rfl) rfl dk_D_touchesLeft_43 ?_
        refine kv_iinc (pc := 44) (kk := (1 : Int32)) (lv' := [(2, .int (x2 + (1 : Int32))), (1, .int v6), (0, .ref 84)]) 2 rfl kki_1 rfl (Nat.le_of_ble_eq_true rfl) dk_D_touchesLeft_44 ?_
        refine kv_goto (pc := 47) (tgt := 4) dk_D_touchesLeft_47 rfl ?_
        exact kv_sub [2, 1, 0] rfl (kv_leaf (fun h => h))
      refine kv_icmp_lt (pc := 34) (tgt := 41) dk_D_touchesLeft_34 rfl ?_ ?_
      · refine kv_iconst (pc := 41) (v := (0 : Int32)) dk_D_touchesLeft_41 kki_0 ?_
        exact kv_sub [0, 2] rfl (hj42 (0 : Int32))
      · refine kv_iconst (pc := 37) (v := (1 : Int32)) dk_D_touchesLeft_37 kki_1 ?_
        refine kv_goto (pc := 38) (tgt := 42) dk_D_touchesLeft_38 rfl ?_
        exact kv_sub [0, 2] rfl (hj42 (1 : Int32))
theorem dk_D_weigh_0 : decode prog_13_method_20_code 0 = .ok (.aload_n 0, 1) := by decide +kernel
theorem dk_D_weigh_1 : decode prog_13_method_20_code 1 = .ok (.iload_n 1, 1) := by decide +kernel
theorem dk_D_weigh_2 : decode prog_13_method_20_code 2 = .ok (.invokevirtual 98, 3) := by decide +kernel
theorem dk_D_weigh_5 : decode prog_13_method_20_code 5 = .ok (.ifCond .eq 43, 3) := by decide +kernel
theorem dk_D_weigh_8 : decode prog_13_method_20_code 8 = .ok (.aload_n 0, 1) := by decide +kernel
theorem dk_D_weigh_9 : decode prog_13_method_20_code 9 = .ok (.iload_n 2, 1) := by decide +kernel
theorem dk_D_weigh_10 : decode prog_13_method_20_code 10 = .ok (.invokevirtual 98, 3) := by decide +kernel
theorem dk_D_weigh_13 : decode prog_13_method_20_code 13 = .ok (.ifCond .eq 35, 3) := by decide +kernel
theorem dk_D_weigh_16 : decode prog_13_method_20_code 16 = .ok (.iload_n 1, 1) := by decide +kernel
theorem dk_D_weigh_17 : decode prog_13_method_20_code 17 = .ok (.iload_n 2, 1) := by decide +kernel
theorem dk_D_weigh_18 : decode prog_13_method_20_code 18 = .ok (.if_icmp .eq 30, 3) := by decide +kernel
theorem dk_D_weigh_21 : decode prog_13_method_20_code 21 = .ok (.iload_n 3, 1) := by decide +kernel
theorem dk_D_weigh_22 : decode prog_13_method_20_code 22 = .ok (.i2l, 1) := by decide +kernel
theorem dk_D_weigh_23 : decode prog_13_method_20_code 23 = .ok (.ldc2_w 74, 3) := by decide +kernel
theorem dk_D_weigh_26 : decode prog_13_method_20_code 26 = .ok (.ldc2_w 76, 3) := by decide +kernel
theorem dk_D_weigh_29 : decode prog_13_method_20_code 29 = .ok (.invokestatic 60, 3) := by decide +kernel
theorem dk_D_weigh_32 : decode prog_13_method_20_code 32 = .ok (.ifCond .eq 16, 3) := by decide +kernel
theorem dk_D_weigh_35 : decode prog_13_method_20_code 35 = .ok (.iload 4, 2) := by decide +kernel
theorem dk_D_weigh_37 : decode prog_13_method_20_code 37 = .ok (.i2l, 1) := by decide +kernel
theorem dk_D_weigh_38 : decode prog_13_method_20_code 38 = .ok (.lconst 0, 1) := by decide +kernel
theorem dk_D_weigh_39 : decode prog_13_method_20_code 39 = .ok (.ldc2_w 94, 3) := by decide +kernel
theorem dk_D_weigh_42 : decode prog_13_method_20_code 42 = .ok (.invokestatic 60, 3) := by decide +kernel
theorem dk_D_weigh_45 : decode prog_13_method_20_code 45 = .ok (.ifCond .ne 5, 3) := by decide +kernel
theorem dk_D_weigh_48 : decode prog_13_method_20_code 48 = .ok (.iconst (-1), 1) := by decide +kernel
theorem dk_D_weigh_49 : decode prog_13_method_20_code 49 = .ok (.ireturn, 1) := by decide +kernel
theorem dk_D_weigh_50 : decode prog_13_method_20_code 50 = .ok (.aload_n 0, 1) := by decide +kernel
theorem dk_D_weigh_51 : decode prog_13_method_20_code 51 = .ok (.getfield 9, 3) := by decide +kernel
theorem dk_D_weigh_54 : decode prog_13_method_20_code 54 = .ok (.iconst 2, 1) := by decide +kernel
theorem dk_D_weigh_55 : decode prog_13_method_20_code 55 = .ok (.iaload, 1) := by decide +kernel
theorem dk_D_weigh_56 : decode prog_13_method_20_code 56 = .ok (.bipush 20, 2) := by decide +kernel
theorem dk_D_weigh_58 : decode prog_13_method_20_code 58 = .ok (.if_icmp .ne 6, 3) := by decide +kernel
theorem dk_D_weigh_61 : decode prog_13_method_20_code 61 = .ok (.bipush (-2), 2) := by decide +kernel
theorem dk_D_weigh_63 : decode prog_13_method_20_code 63 = .ok (.ireturn, 1) := by decide +kernel
theorem dk_D_weigh_64 : decode prog_13_method_20_code 64 = .ok (.aload_n 0, 1) := by decide +kernel
theorem dk_D_weigh_65 : decode prog_13_method_20_code 65 = .ok (.iload_n 1, 1) := by decide +kernel
theorem dk_D_weigh_66 : decode prog_13_method_20_code 66 = .ok (.iconst 0, 1) := by decide +kernel
theorem dk_D_weigh_67 : decode prog_13_method_20_code 67 = .ok (.invokevirtual 68, 3) := by decide +kernel
theorem dk_D_weigh_70 : decode prog_13_method_20_code 70 = .ok (.iconst 1, 1) := by decide +kernel
theorem dk_D_weigh_71 : decode prog_13_method_20_code 71 = .ok (.if_icmp .ne 7, 3) := by decide +kernel
theorem dk_D_weigh_74 : decode prog_13_method_20_code 74 = .ok (.iload_n 1, 1) := by decide +kernel
theorem dk_D_weigh_75 : decode prog_13_method_20_code 75 = .ok (.goto 19, 3) := by decide +kernel
theorem dk_D_weigh_78 : decode prog_13_method_20_code 78 = .ok (.aload_n 0, 1) := by decide +kernel
theorem dk_D_weigh_79 : decode prog_13_method_20_code 79 = .ok (.iload_n 2, 1) := by decide +kernel
theorem dk_D_weigh_80 : decode prog_13_method_20_code 80 = .ok (.iconst 0, 1) := by decide +kernel
theorem dk_D_weigh_81 : decode prog_13_method_20_code 81 = .ok (.invokevirtual 68, 3) := by decide +kernel
theorem dk_D_weigh_84 : decode prog_13_method_20_code 84 = .ok (.iconst 1, 1) := by decide +kernel
theorem dk_D_weigh_85 : decode prog_13_method_20_code 85 = .ok (.if_icmp .ne 7, 3) := by decide +kernel
theorem dk_D_weigh_88 : decode prog_13_method_20_code 88 = .ok (.iload_n 2, 1) := by decide +kernel
theorem dk_D_weigh_89 : decode prog_13_method_20_code 89 = .ok (.goto 5, 3) := by decide +kernel
theorem dk_D_weigh_92 : decode prog_13_method_20_code 92 = .ok (.bipush (-4), 2) := by decide +kernel
theorem dk_D_weigh_94 : decode prog_13_method_20_code 94 = .ok (.istore 5, 2) := by decide +kernel
theorem dk_D_weigh_96 : decode prog_13_method_20_code 96 = .ok (.iload 5, 2) := by decide +kernel
theorem dk_D_weigh_98 : decode prog_13_method_20_code 98 = .ok (.ifCond .lt 13, 3) := by decide +kernel
theorem dk_D_weigh_101 : decode prog_13_method_20_code 101 = .ok (.aload_n 0, 1) := by decide +kernel
theorem dk_D_weigh_102 : decode prog_13_method_20_code 102 = .ok (.invokevirtual 113, 3) := by decide +kernel
theorem dk_D_weigh_105 : decode prog_13_method_20_code 105 = .ok (.ifCond .gt 6, 3) := by decide +kernel
theorem dk_D_weigh_108 : decode prog_13_method_20_code 108 = .ok (.bipush (-3), 2) := by decide +kernel
theorem dk_D_weigh_110 : decode prog_13_method_20_code 110 = .ok (.ireturn, 1) := by decide +kernel
theorem dk_D_weigh_111 : decode prog_13_method_20_code 111 = .ok (.aload_n 0, 1) := by decide +kernel
theorem dk_D_weigh_112 : decode prog_13_method_20_code 112 = .ok (.getfield 9, 3) := by decide +kernel
theorem dk_D_weigh_115 : decode prog_13_method_20_code 115 = .ok (.iconst 4, 1) := by decide +kernel
theorem dk_D_weigh_116 : decode prog_13_method_20_code 116 = .ok (.aload_n 0, 1) := by decide +kernel
theorem dk_D_weigh_117 : decode prog_13_method_20_code 117 = .ok (.getfield 9, 3) := by decide +kernel
theorem dk_D_weigh_120 : decode prog_13_method_20_code 120 = .ok (.iconst 4, 1) := by decide +kernel
theorem dk_D_weigh_121 : decode prog_13_method_20_code 121 = .ok (.iaload, 1) := by decide +kernel
theorem dk_D_weigh_122 : decode prog_13_method_20_code 122 = .ok (.ldc 116, 2) := by decide +kernel
theorem dk_D_weigh_124 : decode prog_13_method_20_code 124 = .ok (.imul, 1) := by decide +kernel
theorem dk_D_weigh_125 : decode prog_13_method_20_code 125 = .ok (.sipush 12345, 3) := by decide +kernel
theorem dk_D_weigh_128 : decode prog_13_method_20_code 128 = .ok (.iadd, 1) := by decide +kernel
theorem dk_D_weigh_129 : decode prog_13_method_20_code 129 = .ok (.iastore, 1) := by decide +kernel
theorem dk_D_weigh_130 : decode prog_13_method_20_code 130 = .ok (.aload_n 0, 1) := by decide +kernel
theorem dk_D_weigh_131 : decode prog_13_method_20_code 131 = .ok (.getfield 9, 3) := by decide +kernel
theorem dk_D_weigh_134 : decode prog_13_method_20_code 134 = .ok (.iconst 4, 1) := by decide +kernel
theorem dk_D_weigh_135 : decode prog_13_method_20_code 135 = .ok (.iaload, 1) := by decide +kernel
theorem dk_D_weigh_136 : decode prog_13_method_20_code 136 = .ok (.ldc 117, 2) := by decide +kernel
theorem dk_D_weigh_138 : decode prog_13_method_20_code 138 = .ok (.iand, 1) := by decide +kernel
theorem dk_D_weigh_139 : decode prog_13_method_20_code 139 = .ok (.ldc 118, 2) := by decide +kernel
theorem dk_D_weigh_141 : decode prog_13_method_20_code 141 = .ok (.idiv, 1) := by decide +kernel
theorem dk_D_weigh_142 : decode prog_13_method_20_code 142 = .ok (.iconst 2, 1) := by decide +kernel
theorem dk_D_weigh_143 : decode prog_13_method_20_code 143 = .ok (.iload 4, 2) := by decide +kernel
theorem dk_D_weigh_145 : decode prog_13_method_20_code 145 = .ok (.imul, 1) := by decide +kernel
theorem dk_D_weigh_146 : decode prog_13_method_20_code 146 = .ok (.iconst 1, 1) := by decide +kernel
theorem dk_D_weigh_147 : decode prog_13_method_20_code 147 = .ok (.iadd, 1) := by decide +kernel
theorem dk_D_weigh_148 : decode prog_13_method_20_code 148 = .ok (.irem, 1) := by decide +kernel
theorem dk_D_weigh_149 : decode prog_13_method_20_code 149 = .ok (.iload 4, 2) := by decide +kernel
theorem dk_D_weigh_151 : decode prog_13_method_20_code 151 = .ok (.isub, 1) := by decide +kernel
theorem dk_D_weigh_152 : decode prog_13_method_20_code 152 = .ok (.istore 6, 2) := by decide +kernel
theorem dk_D_weigh_154 : decode prog_13_method_20_code 154 = .ok (.aload_n 0, 1) := by decide +kernel
theorem dk_D_weigh_155 : decode prog_13_method_20_code 155 = .ok (.aload_n 0, 1) := by decide +kernel
theorem dk_D_weigh_156 : decode prog_13_method_20_code 156 = .ok (.getfield 9, 3) := by decide +kernel
theorem dk_D_weigh_159 : decode prog_13_method_20_code 159 = .ok (.iconst 0, 1) := by decide +kernel
theorem dk_D_weigh_160 : decode prog_13_method_20_code 160 = .ok (.iaload, 1) := by decide +kernel
theorem dk_D_weigh_161 : decode prog_13_method_20_code 161 = .ok (.iload_n 1, 1) := by decide +kernel
theorem dk_D_weigh_162 : decode prog_13_method_20_code 162 = .ok (.iload_n 2, 1) := by decide +kernel
theorem dk_D_weigh_163 : decode prog_13_method_20_code 163 = .ok (.aload_n 0, 1) := by decide +kernel
theorem dk_D_weigh_164 : decode prog_13_method_20_code 164 = .ok (.iload_n 1, 1) := by decide +kernel
theorem dk_D_weigh_165 : decode prog_13_method_20_code 165 = .ok (.iconst 3, 1) := by decide +kernel
theorem dk_D_weigh_166 : decode prog_13_method_20_code 166 = .ok (.invokevirtual 68, 3) := by decide +kernel
theorem dk_D_weigh_169 : decode prog_13_method_20_code 169 = .ok (.aload_n 0, 1) := by decide +kernel
theorem dk_D_weigh_170 : decode prog_13_method_20_code 170 = .ok (.iload_n 2, 1) := by decide +kernel
theorem dk_D_weigh_171 : decode prog_13_method_20_code 171 = .ok (.iconst 3, 1) := by decide +kernel
theorem dk_D_weigh_172 : decode prog_13_method_20_code 172 = .ok (.invokevirtual 68, 3) := by decide +kernel
theorem dk_D_weigh_175 : decode prog_13_method_20_code 175 = .ok (.isub, 1) := by decide +kernel
theorem dk_D_weigh_176 : decode prog_13_method_20_code 176 = .ok (.iload_n 3, 1) := by decide +kernel
theorem dk_D_weigh_177 : decode prog_13_method_20_code 177 = .ok (.iadd, 1) := by decide +kernel
theorem dk_D_weigh_178 : decode prog_13_method_20_code 178 = .ok (.iload 6, 2) := by decide +kernel
theorem dk_D_weigh_180 : decode prog_13_method_20_code 180 = .ok (.iadd, 1) := by decide +kernel
theorem dk_D_weigh_181 : decode prog_13_method_20_code 181 = .ok (.iload 4, 2) := by decide +kernel
theorem dk_D_weigh_183 : decode prog_13_method_20_code 183 = .ok (.invokevirtual 119, 3) := by decide +kernel
theorem dk_D_weigh_186 : decode prog_13_method_20_code 186 = .ok (.iload 5, 2) := by decide +kernel
theorem dk_D_weigh_188 : decode prog_13_method_20_code 188 = .ok (.ifCond .lt 53, 3) := by decide +kernel
theorem dk_D_weigh_191 : decode prog_13_method_20_code 191 = .ok (.aload_n 0, 1) := by decide +kernel
theorem dk_D_weigh_192 : decode prog_13_method_20_code 192 = .ok (.getfield 9, 3) := by decide +kernel
theorem dk_D_weigh_195 : decode prog_13_method_20_code 195 = .ok (.bipush 10, 2) := by decide +kernel
theorem dk_D_weigh_197 : decode prog_13_method_20_code 197 = .ok (.bipush 6, 2) := by decide +kernel
theorem dk_D_weigh_199 : decode prog_13_method_20_code 199 = .ok (.iload 5, 2) := by decide +kernel
theorem dk_D_weigh_201 : decode prog_13_method_20_code 201 = .ok (.imul, 1) := by decide +kernel
theorem dk_D_weigh_202 : decode prog_13_method_20_code 202 = .ok (.iadd, 1) := by decide +kernel
theorem dk_D_weigh_203 : decode prog_13_method_20_code 203 = .ok (.iconst 3, 1) := by decide +kernel
theorem dk_D_weigh_204 : decode prog_13_method_20_code 204 = .ok (.iadd, 1) := by decide +kernel
theorem dk_D_weigh_205 : decode prog_13_method_20_code 205 = .ok (.dup2, 1) := by decide +kernel
theorem dk_D_weigh_206 : decode prog_13_method_20_code 206 = .ok (.iaload, 1) := by decide +kernel
theorem dk_D_weigh_207 : decode prog_13_method_20_code 207 = .ok (.iconst 1, 1) := by decide +kernel
theorem dk_D_weigh_208 : decode prog_13_method_20_code 208 = .ok (.isub, 1) := by decide +kernel
theorem dk_D_weigh_209 : decode prog_13_method_20_code 209 = .ok (.iastore, 1) := by decide +kernel
theorem dk_D_weigh_210 : decode prog_13_method_20_code 210 = .ok (.aload_n 0, 1) := by decide +kernel
theorem dk_D_weigh_211 : decode prog_13_method_20_code 211 = .ok (.getfield 9, 3) := by decide +kernel
theorem dk_D_weigh_214 : decode prog_13_method_20_code 214 = .ok (.sipush 200, 3) := by decide +kernel
theorem dk_D_weigh_217 : decode prog_13_method_20_code 217 = .ok (.aload_n 0, 1) := by decide +kernel
theorem dk_D_weigh_218 : decode prog_13_method_20_code 218 = .ok (.getfield 9, 3) := by decide +kernel
theorem dk_D_weigh_221 : decode prog_13_method_20_code 221 = .ok (.iconst 3, 1) := by decide +kernel
theorem dk_D_weigh_222 : decode prog_13_method_20_code 222 = .ok (.iaload, 1) := by decide +kernel
theorem dk_D_weigh_223 : decode prog_13_method_20_code 223 = .ok (.iadd, 1) := by decide +kernel
theorem dk_D_weigh_224 : decode prog_13_method_20_code 224 = .ok (.aload_n 0, 1) := by decide +kernel
theorem dk_D_weigh_225 : decode prog_13_method_20_code 225 = .ok (.getfield 9, 3) := by decide +kernel
theorem dk_D_weigh_228 : decode prog_13_method_20_code 228 = .ok (.iconst 0, 1) := by decide +kernel
theorem dk_D_weigh_229 : decode prog_13_method_20_code 229 = .ok (.iaload, 1) := by decide +kernel
theorem dk_D_weigh_230 : decode prog_13_method_20_code 230 = .ok (.iastore, 1) := by decide +kernel
theorem dk_D_weigh_231 : decode prog_13_method_20_code 231 = .ok (.aload_n 0, 1) := by decide +kernel
theorem dk_D_weigh_232 : decode prog_13_method_20_code 232 = .ok (.getfield 9, 3) := by decide +kernel
theorem dk_D_weigh_235 : decode prog_13_method_20_code 235 = .ok (.iconst 3, 1) := by decide +kernel
theorem dk_D_weigh_236 : decode prog_13_method_20_code 236 = .ok (.dup2, 1) := by decide +kernel
theorem dk_D_weigh_237 : decode prog_13_method_20_code 237 = .ok (.iaload, 1) := by decide +kernel
theorem dk_D_weigh_238 : decode prog_13_method_20_code 238 = .ok (.iconst 1, 1) := by decide +kernel
theorem dk_D_weigh_239 : decode prog_13_method_20_code 239 = .ok (.iadd, 1) := by decide +kernel
theorem dk_D_weigh_240 : decode prog_13_method_20_code 240 = .ok (.iastore, 1) := by decide +kernel
theorem dk_D_weigh_241 : decode prog_13_method_20_code 241 = .ok (.aload_n 0, 1) := by decide +kernel
theorem dk_D_weigh_242 : decode prog_13_method_20_code 242 = .ok (.getfield 9, 3) := by decide +kernel
theorem dk_D_weigh_245 : decode prog_13_method_20_code 245 = .ok (.iconst 2, 1) := by decide +kernel
theorem dk_D_weigh_246 : decode prog_13_method_20_code 246 = .ok (.iaload, 1) := by decide +kernel
theorem dk_D_weigh_247 : decode prog_13_method_20_code 247 = .ok (.iconst 1, 1) := by decide +kernel
theorem dk_D_weigh_248 : decode prog_13_method_20_code 248 = .ok (.isub, 1) := by decide +kernel
theorem dk_D_weigh_249 : decode prog_13_method_20_code 249 = .ok (.ireturn, 1) := by decide +kernel
noncomputable def fj_D_weigh_241 (m12 : (Nat → Nat → Int32)) : Option (Int32 × (Nat → Nat → Int32)) :=
  some (((m12 85 2) - (1 : Int32)), m12)
noncomputable def fj_D_weigh_111 (m : (Nat → Nat → Int32)) (p4 : Int32) (p1 : Int32) (p2 : Int32) (p3 : Int32) (x6 : Int32) : Option (Int32 × (Nat → Nat → Int32)) :=
  kv_let (kv_st m 85 4 (((m 85 4) * (1103515245 : Int32)) + (12345 : Int32))) (fun m7 =>
  if (((2 : Int32) * p4) + (1 : Int32)) = 0 then none else
  kv_let (((((m7 85 4) &&& (2147483647 : Int32)) / (65536 : Int32)) - (((m7 85 4) &&& (2147483647 : Int32)) / (65536 : Int32)) / (((2 : Int32) * p4) + (1 : Int32)) * (((2 : Int32) * p4) + (1 : Int32))) - p4) (fun v8 =>
  kv_bind1 (fx_D_get p1 (3 : Int32) m7) (fun v9 =>
  kv_bind1 (fx_D_get p2 (3 : Int32) m7) (fun v10 =>
  kv_bind1 (fx_D_tells (m7 85 0) p1 p2 (((v9 - v10) + p3) + v8) p4 m7) (fun m11 =>
  if x6 < 0 then
    fj_D_weigh_241 m11
  else
    kv_gd (kv_in (((10 : Int32) + ((6 : Int32) * x6)) + (3 : Int32)) 444) (
    kv_let (kv_st m11 85 (((10 : Int32) + ((6 : Int32) * x6)) + (3 : Int32)).toNatClampNeg ((m11 85 (((10 : Int32) + ((6 : Int32) * x6)) + (3 : Int32)).toNatClampNeg) - (1 : Int32))) (fun m14 =>
    kv_gd (kv_in ((200 : Int32) + (m14 85 3)) 444) (
    kv_let (kv_st m14 85 ((200 : Int32) + (m14 85 3)).toNatClampNeg (m14 85 0)) (fun m16 =>
    kv_let (kv_st m16 85 3 ((m16 85 3) + (1 : Int32))) (fun m17 =>
    fj_D_weigh_241 m17))))))))))
noncomputable def fj_D_weigh_94 (m : (Nat → Nat → Int32)) (p4 : Int32) (p1 : Int32) (p2 : Int32) (p3 : Int32) (x6 : Int32) : Option (Int32 × (Nat → Nat → Int32)) :=
  if x6 < 0 then
    fj_D_weigh_111 m p4 p1 p2 p3 x6
  else
    kv_bind1 (fx_D_touchesLeft m) (fun v18 =>
    if 0 < v18 then
      fj_D_weigh_111 m p4 p1 p2 p3 x6
    else
      some ((-3 : Int32), m))
noncomputable def fx_D_weigh (p1 : Int32) (p2 : Int32) (p3 : Int32) (p4 : Int32) (m : (Nat → Nat → Int32)) : Option (Int32 × (Nat → Nat → Int32)) :=
  kv_bind1 (fx_D_isLump p1 m) (fun b1 =>
  if b1 = true then
    kv_bind1 (fx_D_isLump p2 m) (fun b2 =>
    if b2 = true then
      if p1 = p2 then
        some ((-1 : Int32), m)
      else
        kv_bind1 (fx_D_isIn p3.toInt64 (-9 : Int64) (9 : Int64)) (fun b3 =>
        if b3 = true then
          kv_bind1 (fx_D_isIn p4.toInt64 (0 : Int64) (99 : Int64)) (fun b4 =>
          if b4 = true then
            if (m 85 2) = (20 : Int32) then
              some ((-2 : Int32), m)
            else
              kv_bind1 (fx_D_get p1 (0 : Int32) m) (fun v5 =>
              if v5 = (1 : Int32) then
                fj_D_weigh_94 m p4 p1 p2 p3 p1
              else
                kv_bind1 (fx_D_get p2 (0 : Int32) m) (fun v19 =>
                if v19 = (1 : Int32) then
                  fj_D_weigh_94 m p4 p1 p2 p3 p2
                else
                  fj_D_weigh_94 m p4 p1 p2 p3 (-4 : Int32)))
          else
            some ((-1 : Int32), m))
        else
          some ((-1 : Int32), m))
    else
      some ((-1 : Int32), m))
  else
    some ((-1 : Int32), m))
set_option maxRecDepth 20000 in
theorem cx_D_weigh (d : Nat) (p1 : Int32) (p2 : Int32) (p3 : Int32) (p4 : Int32) (c : (Nat → Nat → Int32)) (m : (Nat → Nat → Int32)) (f : (Nat → Int64)) (u : (Nat → Int64)) : ∀ a, fx_D_weigh p1 p2 p3 p4 m = some a → kv_C kM_D_weigh (d + 2) [.ref 84, .int p1, .int p2, .int p3, .int p4] (c, m, f, u) (some (.int a.1), (c, a.2, f, u)) := by
  refine kv_entryX (E := fun a : (Int32 × (Nat → Nat → Int32)) => (some (.int a.1), (c, a.2, f, u))) rfl (Nat.le_of_ble_eq_true rfl) (fun o => ?_)
  unfold fx_D_weigh
  show kv_X _ _ _ _ _ 0 [(0, .ref 84), (1, .int p1), (2, .int p2), (3, .int p3), (4, .int p4)] [] (c, m, f, u)
  refine kv_aload_n (pc := 0) 0 rfl rfl dk_D_weigh_0 ?_
  refine kv_iload_n (pc := 1) 1 rfl rfl dk_D_weigh_1 ?_
  refine kv_cV_mZ (pc := 2) (as := [.int p1]) (st := []) ko_D_isLump kc_11 rfl rfl kr_84 kw_1362 (Nat.le_of_ble_eq_true rfl) rfl dk_D_weigh_2 (cx_D_isLump d p1 c m f u) (fun b1 => ?_)
  refine kv_zif_eq (pc := 5) (tgt := 48) dk_D_weigh_5 rfl ?_ ?_
  · refine kv_iconst (pc := 48) (v := (-1 : Int32)) dk_D_weigh_48 kki_m1 ?_
    exact kv_iret (pc := 49) (fun h => h) rfl dk_D_weigh_49
  · refine kv_aload_n (pc := 8) 0 rfl rfl dk_D_weigh_8 ?_
    refine kv_iload_n (pc := 9) 2 rfl rfl dk_D_weigh_9 ?_
    refine kv_cV_mZ (pc := 10) (as := [.int p2]) (st := []) ko_D_isLump kc_11 rfl rfl kr_84 kw_1362 (Nat.le_of_ble_eq_true rfl) rfl dk_D_weigh_10 (cx_D_isLump d p2 c m f u) (fun b2 => ?_)
    refine kv_zif_eq (pc := 13) (tgt := 48) dk_D_weigh_13 rfl ?_ ?_
    · refine kv_iconst (pc := 48) (v := (-1 : Int32)) dk_D_weigh_48 kki_m1 ?_
      exact kv_iret (pc := 49) (fun h => h) rfl dk_D_weigh_49
    · refine kv_iload_n (pc := 16) 1 rfl rfl dk_D_weigh_16 ?_
      refine kv_iload_n (pc := 17) 2 rfl rfl dk_D_weigh_17 ?_
      refine kv_icmp_eq (pc := 18) (tgt := 48) dk_D_weigh_18 rfl ?_ ?_
      · refine kv_iconst (pc := 48) (v := (-1 : Int32)) dk_D_weigh_48 kki_m1 ?_
        exact kv_iret (pc := 49) (fun h => h) rfl dk_D_weigh_49
      · refine kv_iload_n (pc := 21) 3 rfl rfl dk_D_weigh_21 ?_
        refine kv_i2l (pc := 22) dk_D_weigh_22 ?_
        refine kv_ldc2 (pc := 23) (v := (-9 : Int64)) kw_1333 dk_D_weigh_23 ?_
        refine kv_ldc2 (pc := 26) (v := (9 : Int64)) kw_1334 dk_D_weigh_26 ?_
        refine kv_cS_mZ (pc := 29) (as := [.long p3.toInt64, .long (-9 : Int64), .long (9 : Int64)]) (st := []) ko_D_isIn rfl kw_1330 (Nat.le_of_ble_eq_true rfl) rfl dk_D_weigh_29 (cx_D_isIn (d + 1) p3.toInt64 (-9 : Int64) (9 : Int64) c m f u) (fun b3 => ?_)
        refine kv_zif_eq (pc := 32) (tgt := 48) dk_D_weigh_32 rfl ?_ ?_
        · refine kv_iconst (pc := 48) (v := (-1 : Int32)) dk_D_weigh_48 kki_m1 ?_
          exact kv_iret (pc := 49) (fun h => h) rfl dk_D_weigh_49
        · refine kv_iload (pc := 35) 4 rfl dk_D_weigh_35 ?_
          refine kv_i2l (pc := 37) dk_D_weigh_37 ?_
          refine kv_lconst (pc := 38) (v := (0 : Int64)) dk_D_weigh_38 kkl_0 ?_
          refine kv_ldc2 (pc := 39) (v := (99 : Int64)) kw_1356 dk_D_weigh_39 ?_
          refine kv_cS_mZ (pc := 42) (as := [.long p4.toInt64, .long (0 : Int64), .long (99 : Int64)]) (st := []) ko_D_isIn rfl kw_1330 (Nat.le_of_ble_eq_true rfl) rfl dk_D_weigh_42 (cx_D_isIn (d + 1) p4.toInt64 (0 : Int64) (99 : Int64) c m f u) (fun b4 => ?_)
          refine kv_zif_ne (pc := 45) (tgt := 50) dk_D_weigh_45 rfl ?_ ?_
          · refine kv_aload_n (pc := 50) 0 rfl rfl dk_D_weigh_50 ?_
            refine kv_getR (pc := 51) kf_D_9 kr_84 rfl kt_84_0 dk_D_weigh_51 ?_
            refine kv_iconst (pc := 54) (v := (2 : Int32)) dk_D_weigh_54 kki_2 ?_
            refine kv_aldM (pc := 55) kr_85 kn_85 kl_85 kkg_2_444 (j := 2) kkx_2 dk_D_weigh_55 ?_
            refine kv_bipush (pc := 56) (v := (20 : Int32)) dk_D_weigh_56 kkb_20 ?_
            refine kv_icmp_ne (pc := 58) (tgt := 64) dk_D_weigh_58 rfl ?_ ?_
            · refine kv_aload_n (pc := 64) 0 rfl rfl dk_D_weigh_64 ?_
              refine kv_iload_n (pc := 65) 1 rfl rfl dk_D_weigh_65 ?_
              refine kv_iconst (pc := 66) (v := (0 : Int32)) dk_D_weigh_66 kki_0 ?_
              refine kv_cV_mI (pc := 67) (as := [.int p1, .int (0 : Int32)]) (st := []) ko_D_get kc_11 rfl rfl kr_84 kw_1341 (Nat.le_of_ble_eq_true rfl) rfl dk_D_weigh_67 (cx_D_get (d + 1) p1 (0 : Int32) c m f u) (fun v5 => ?_)
              refine kv_iconst (pc := 70) (v := (1 : Int32)) dk_D_weigh_70 kki_1 ?_
              refine kv_cut_1 (J := fj_D_weigh_94 m p4 p1 p2 p3) (pcj := 94) (LJ := fun x6 => [(0, .ref 84), (1, .int p1), (2, .int p2), (3, .int p3), (4, .int p4)]) (SJ := fun x6 => [.int x6]) (WJ := fun x6 => (c, m, f, u)) ?_ (fun hj94 => ?_)
              · intro x6
                show kv_X _ _ _ _ (fj_D_weigh_94 m p4 p1 p2 p3 x6) 94 [(0, .ref 84), (1, .int p1), (2, .int p2), (3, .int p3), (4, .int p4)] [.int x6] (c, m, f, u)
                unfold fj_D_weigh_94
                refine kv_istore (pc := 94) (lv' := [(5, .int x6), (0, .ref 84), (1, .int p1), (2, .int p2), (3, .int p3), (4, .int p4)]) rfl (Nat.le_of_ble_eq_true rfl) dk_D_weigh_94 ?_
                refine kv_iload (pc := 96) 0 rfl dk_D_weigh_96 ?_
                refine kv_cut_0 (J := fj_D_weigh_111 m p4 p1 p2 p3 x6) (pcj := 111) (LJ := [(0, .ref 84), (1, .int p1), (2, .int p2), (3, .int p3), (4, .int p4), (5, .int x6)]) (SJ := []) (WJ := (c, m, f, u)) ?_ (fun hj111 => ?_)
                · show kv_X _ _ _ _ (fj_D_weigh_111 m p4 p1 p2 p3 x6) 111 [(0, .ref 84), (1, .int p1), (2, .int p2), (3, .int p3), (4, .int p4), (5, .int x6)] [] (c, m, f, u)
                  unfold fj_D_weigh_111
                  refine kv_aload_n (pc := 111) 0 rfl rfl dk_D_weigh_111 ?_
                  refine kv_getR (pc := 112) kf_D_9 kr_84 rfl kt_84_0 dk_D_weigh_112 ?_
                  refine kv_iconst (pc := 115) (v := (4 : Int32)) dk_D_weigh_115 kki_4 ?_
                  refine kv_aload_n (pc := 116) 0 rfl rfl dk_D_weigh_116 ?_
                  refine kv_getR (pc := 117) kf_D_9 kr_84 rfl kt_84_0 dk_D_weigh_117 ?_
                  refine kv_iconst (pc := 120) (v := (4 : Int32)) dk_D_weigh_120 kki_4 ?_
                  refine kv_aldM (pc := 121) kr_85 kn_85 kl_85 kkg_4_444 (j := 4) kkx_4 dk_D_weigh_121 ?_
                  refine kv_ldc (pc := 122) (v := (1103515245 : Int32)) kw_1401 dk_D_weigh_122 ?_
                  refine kv_imul (pc := 124) dk_D_weigh_124 ?_
                  refine kv_sipush (pc := 125) (v := (12345 : Int32)) dk_D_weigh_125 kks_12345 ?_
                  refine kv_iadd (pc := 128) dk_D_weigh_128 ?_
                  refine kv_astM (pc := 129) kr_85 kn_85 kl_85 kkg_4_444 (j := 4) kkx_4 dk_D_weigh_129 (fun m7 => ?_)
                  refine kv_aload_n (pc := 130) 0 rfl rfl dk_D_weigh_130 ?_
                  refine kv_getR (pc := 131) kf_D_9 kr_84 rfl kt_84_0 dk_D_weigh_131 ?_
                  refine kv_iconst (pc := 134) (v := (4 : Int32)) dk_D_weigh_134 kki_4 ?_
                  refine kv_aldM (pc := 135) kr_85 kn_85 kl_85 kkg_4_444 (j := 4) kkx_4 dk_D_weigh_135 ?_
                  refine kv_ldc (pc := 136) (v := (2147483647 : Int32)) kw_1402 dk_D_weigh_136 ?_
                  refine kv_iand (pc := 138) dk_D_weigh_138 ?_
                  refine kv_ldc (pc := 139) (v := (65536 : Int32)) kw_1403 dk_D_weigh_139 ?_
                  refine kv_idiv (pc := 141) dk_D_weigh_141 kkn_65536 ?_
                  refine kv_iconst (pc := 142) (v := (2 : Int32)) dk_D_weigh_142 kki_2 ?_
                  refine kv_iload (pc := 143) 4 rfl dk_D_weigh_143 ?_
                  refine kv_imul (pc := 145) dk_D_weigh_145 ?_
                  refine kv_iconst (pc := 146) (v := (1 : Int32)) dk_D_weigh_146 kki_1 ?_
                  refine kv_iadd (pc := 147) dk_D_weigh_147 ?_
                  refine kv_iremG (pc := 148) dk_D_weigh_148 ?_
                  refine kv_iload (pc := 149) 4 rfl dk_D_weigh_149 ?_
                  refine kv_isub (pc := 151) dk_D_weigh_151 ?_
                  refine kv_letI (fun v8 => ?_)
                  refine kv_istore (pc := 152) (lv' := [(6, .int v8), (0, .ref 84), (1, .int p1), (2, .int p2), (3, .int p3), (4, .int p4), (5, .int x6)]) rfl (Nat.le_of_ble_eq_true rfl) dk_D_weigh_152 ?_
                  refine kv_aload_n (pc := 154) 1 rfl rfl dk_D_weigh_154 ?_
                  refine kv_aload_n (pc := 155) 1 rfl rfl dk_D_weigh_155 ?_
                  refine kv_getR (pc := 156) kf_D_9 kr_84 rfl kt_84_0 dk_D_weigh_156 ?_
                  refine kv_iconst (pc := 159) (v := (0 : Int32)) dk_D_weigh_159 kki_0 ?_
                  refine kv_aldM (pc := 160) kr_85 kn_85 kl_85 kkg_0_444 (j := 0) kkx_0 dk_D_weigh_160 ?_
                  refine kv_iload_n (pc := 161) 2 rfl rfl dk_D_weigh_161 ?_
                  refine kv_iload_n (pc := 162) 3 rfl rfl dk_D_weigh_162 ?_
                  refine kv_aload_n (pc := 163) 1 rfl rfl dk_D_weigh_163 ?_
                  refine kv_iload_n (pc := 164) 2 rfl rfl dk_D_weigh_164 ?_
                  refine kv_iconst (pc := 165) (v := (3 : Int32)) dk_D_weigh_165 kki_3 ?_
                  refine kv_cV_mI (pc := 166) (as := [.int p1, .int (3 : Int32)]) (st := [.int p2, .int p1, .int (m7 85 0), .ref 84]) ko_D_get kc_11 rfl rfl kr_84 kw_1341 (Nat.le_of_ble_eq_true rfl) rfl dk_D_weigh_166 (cx_D_get (d + 1) p1 (3 : Int32) c m7 f u) (fun v9 => ?_)
                  refine kv_aload_n (pc := 169) 1 rfl rfl dk_D_weigh_169 ?_
                  refine kv_iload_n (pc := 170) 3 rfl rfl dk_D_weigh_170 ?_
                  refine kv_iconst (pc := 171) (v := (3 : Int32)) dk_D_weigh_171 kki_3 ?_
                  refine kv_cV_mI (pc := 172) (as := [.int p2, .int (3 : Int32)]) (st := [.int v9, .int p2, .int p1, .int (m7 85 0), .ref 84]) ko_D_get kc_11 rfl rfl kr_84 kw_1341 (Nat.le_of_ble_eq_true rfl) rfl dk_D_weigh_172 (cx_D_get (d + 1) p2 (3 : Int32) c m7 f u) (fun v10 => ?_)
                  refine kv_isub (pc := 175) dk_D_weigh_175 ?_
                  refine kv_iload_n (pc := 176) 4 rfl rfl dk_D_weigh_176 ?_
                  refine kv_iadd (pc := 177) dk_D_weigh_177 ?_
                  refine kv_iload (pc := 178) 0 rfl dk_D_weigh_178 ?_
                  refine kv_iadd (pc := 180) dk_D_weigh_180 ?_
                  refine kv_iload (pc := 181) 5 rfl dk_D_weigh_181 ?_
                  refine kv_cV_mm (pc := 183) (as := [.int (m7 85 0), .int p1, .int p2, .int (((v9 - v10) + p3) + v8), .int p4]) (st := []) ko_D_tells kc_11 rfl rfl kr_84 kw_1404 (Nat.le_of_ble_eq_true rfl) rfl dk_D_weigh_183 (cx_D_tells (d + 1) (m7 85 0) p1 p2 (((v9 - v10) + p3) + v8) p4 c m7 f u) (fun m11 => ?_)
                  refine kv_iload (pc := 186) 6 rfl dk_D_weigh_186 ?_
                  refine kv_cut_1 (J := fj_D_weigh_241) (pcj := 241) (LJ := fun m12 => [(0, .ref 84)]) (SJ := fun m12 => []) (WJ := fun m12 => (c, m12, f, u)) ?_ (fun hj241 => ?_)
                  · intro m12
                    show kv_X _ _ _ _ (fj_D_weigh_241 m12) 241 [(0, .ref 84)] [] (c, m12, f, u)
                    unfold fj_D_weigh_241
                    refine kv_aload_n (pc := 241) 0 rfl rfl dk_D_weigh_241 ?_
                    refine kv_getR (pc := 242) kf_D_9 kr_84 rfl kt_84_0 dk_D_weigh_242 ?_
                    refine kv_iconst (pc := 245) (v := (2 : Int32)) dk_D_weigh_245 kki_2 ?_
                    refine kv_aldM (pc := 246) kr_85 kn_85 kl_85 kkg_2_444 (j := 2) kkx_2 dk_D_weigh_246 ?_
                    refine kv_iconst (pc := 247) (v := (1 : Int32)) dk_D_weigh_247 kki_1 ?_
                    refine kv_isub (pc := 248) dk_D_weigh_248 ?_
                    exact kv_iret (pc := 249) (fun h => h) rfl dk_D_weigh_249
                  refine kv_if_lt (pc := 188) (tgt := 241) dk_D_weigh_188 rfl ?_ ?_
                  · exact kv_sub [1] rfl (hj241 m11)
                  · refine kv_aload_n (pc := 191) 1 rfl rfl dk_D_weigh_191 ?_
                    refine kv_getR (pc := 192) kf_D_9 kr_84 rfl kt_84_0 dk_D_weigh_192 ?_
                    refine kv_bipush (pc := 195) (v := (10 : Int32)) dk_D_weigh_195 kkb_10 ?_
                    refine kv_bipush (pc := 197) (v := (6 : Int32)) dk_D_weigh_197 kkb_6 ?_
                    refine kv_iload (pc := 199) 6 rfl dk_D_weigh_199 ?_
                    refine kv_imul (pc := 201) dk_D_weigh_201 ?_
                    refine kv_iadd (pc := 202) dk_D_weigh_202 ?_
                    refine kv_iconst (pc := 203) (v := (3 : Int32)) dk_D_weigh_203 kki_3 ?_
                    refine kv_iadd (pc := 204) dk_D_weigh_204 ?_
                    refine kv_dup2RI (pc := 205) dk_D_weigh_205 ?_
                    refine kv_guard (fun g13 => ?_)
                    refine kv_aldM (pc := 206) kr_85 kn_85 kl_85 g13 rfl dk_D_weigh_206 ?_
                    refine kv_iconst (pc := 207) (v := (1 : Int32)) dk_D_weigh_207 kki_1 ?_
                    refine kv_isub (pc := 208) dk_D_weigh_208 ?_
                    refine kv_astM (pc := 209) kr_85 kn_85 kl_85 g13 rfl dk_D_weigh_209 (fun m14 => ?_)
                    refine kv_aload_n (pc := 210) 1 rfl rfl dk_D_weigh_210 ?_
                    refine kv_getR (pc := 211) kf_D_9 kr_84 rfl kt_84_0 dk_D_weigh_211 ?_
                    refine kv_sipush (pc := 214) (v := (200 : Int32)) dk_D_weigh_214 kks_200 ?_
                    refine kv_aload_n (pc := 217) 1 rfl rfl dk_D_weigh_217 ?_
                    refine kv_getR (pc := 218) kf_D_9 kr_84 rfl kt_84_0 dk_D_weigh_218 ?_
                    refine kv_iconst (pc := 221) (v := (3 : Int32)) dk_D_weigh_221 kki_3 ?_
                    refine kv_aldM (pc := 222) kr_85 kn_85 kl_85 kkg_3_444 (j := 3) kkx_3 dk_D_weigh_222 ?_
                    refine kv_iadd (pc := 223) dk_D_weigh_223 ?_
                    refine kv_aload_n (pc := 224) 1 rfl rfl dk_D_weigh_224 ?_
                    refine kv_getR (pc := 225) kf_D_9 kr_84 rfl kt_84_0 dk_D_weigh_225 ?_
                    refine kv_iconst (pc := 228) (v := (0 : Int32)) dk_D_weigh_228 kki_0 ?_
                    refine kv_aldM (pc := 229) kr_85 kn_85 kl_85 kkg_0_444 (j := 0) kkx_0 dk_D_weigh_229 ?_
                    refine kv_guard (fun g15 => ?_)
                    refine kv_astM (pc := 230) kr_85 kn_85 kl_85 g15 rfl dk_D_weigh_230 (fun m16 => ?_)
                    refine kv_aload_n (pc := 231) 1 rfl rfl dk_D_weigh_231 ?_
                    refine kv_getR (pc := 232) kf_D_9 kr_84 rfl kt_84_0 dk_D_weigh_232 ?_
                    refine kv_iconst (pc := 235) (v := (3 : Int32)) dk_D_weigh_235 kki_3 ?_
                    refine kv_dup2RI (pc := 236) dk_D_weigh_236 ?_
                    refine kv_aldM (pc := 237) kr_85 kn_85 kl_85 kkg_3_444 (j := 3) kkx_3 dk_D_weigh_237 ?_
                    refine kv_iconst (pc := 238) (v := (1 : Int32)) dk_D_weigh_238 kki_1 ?_
                    refine kv_iadd (pc := 239) dk_D_weigh_239 ?_
                    refine kv_astM (pc := 240) kr_85 kn_85 kl_85 kkg_3_444 (j := 3) kkx_3 dk_D_weigh_240 (fun m17 => ?_)
                    exact kv_sub [1] rfl (hj241 m17)
                refine kv_if_lt (pc := 98) (tgt := 111) dk_D_weigh_98 rfl ?_ ?_
                · exact kv_sub [1, 2, 3, 4, 5, 0] rfl (hj111)
                · refine kv_aload_n (pc := 101) 1 rfl rfl dk_D_weigh_101 ?_
                  refine kv_cV_mI (pc := 102) (as := []) (st := []) ko_D_touchesLeft kc_11 rfl rfl kr_84 kw_1397 (Nat.le_of_ble_eq_true rfl) rfl dk_D_weigh_102 (cx_D_touchesLeft (d + 1) c m f u) (fun v18 => ?_)
                  refine kv_if_gt (pc := 105) (tgt := 111) dk_D_weigh_105 rfl ?_ ?_
                  · exact kv_sub [1, 2, 3, 4, 5, 0] rfl (hj111)
                  · refine kv_bipush (pc := 108) (v := (-3 : Int32)) dk_D_weigh_108 kkb_m3 ?_
                    exact kv_iret (pc := 110) (fun h => h) rfl dk_D_weigh_110
              refine kv_icmp_ne (pc := 71) (tgt := 78) dk_D_weigh_71 rfl ?_ ?_
              · refine kv_aload_n (pc := 78) 0 rfl rfl dk_D_weigh_78 ?_
                refine kv_iload_n (pc := 79) 2 rfl rfl dk_D_weigh_79 ?_
                refine kv_iconst (pc := 80) (v := (0 : Int32)) dk_D_weigh_80 kki_0 ?_
                refine kv_cV_mI (pc := 81) (as := [.int p2, .int (0 : Int32)]) (st := []) ko_D_get kc_11 rfl rfl kr_84 kw_1341 (Nat.le_of_ble_eq_true rfl) rfl dk_D_weigh_81 (cx_D_get (d + 1) p2 (0 : Int32) c m f u) (fun v19 => ?_)
                refine kv_iconst (pc := 84) (v := (1 : Int32)) dk_D_weigh_84 kki_1 ?_
                refine kv_icmp_ne (pc := 85) (tgt := 92) dk_D_weigh_85 rfl ?_ ?_
                · refine kv_bipush (pc := 92) (v := (-4 : Int32)) dk_D_weigh_92 kkb_m4 ?_
                  exact hj94 (-4 : Int32)
                · refine kv_iload_n (pc := 88) 2 rfl rfl dk_D_weigh_88 ?_
                  refine kv_goto (pc := 89) (tgt := 94) dk_D_weigh_89 rfl ?_
                  exact hj94 p2
              · refine kv_iload_n (pc := 74) 1 rfl rfl dk_D_weigh_74 ?_
                refine kv_goto (pc := 75) (tgt := 94) dk_D_weigh_75 rfl ?_
                exact hj94 p1
            · refine kv_bipush (pc := 61) (v := (-2 : Int32)) dk_D_weigh_61 kkb_m2 ?_
              exact kv_iret (pc := 63) (fun h => h) rfl dk_D_weigh_63
          · refine kv_iconst (pc := 48) (v := (-1 : Int32)) dk_D_weigh_48 kki_m1 ?_
            exact kv_iret (pc := 49) (fun h => h) rfl dk_D_weigh_49
theorem dk_K_isShelf_0 : decode prog_1_method_44_code 0 = .ok (.iload_n 0, 1) := by decide +kernel
theorem dk_K_isShelf_1 : decode prog_1_method_44_code 1 = .ok (.iconst 0, 1) := by decide +kernel
theorem dk_K_isShelf_2 : decode prog_1_method_44_code 2 = .ok (.bipush 7, 2) := by decide +kernel
theorem dk_K_isShelf_4 : decode prog_1_method_44_code 4 = .ok (.invokestatic 54, 3) := by decide +kernel
theorem dk_K_isShelf_7 : decode prog_1_method_44_code 7 = .ok (.ireturn, 1) := by decide +kernel
noncomputable def fx_K_isShelf (p0 : Int32) : Option Bool :=
  kv_bind1 (fx_K_isWithin p0 (0 : Int32) (7 : Int32)) (fun b1 =>
  some b1)
set_option maxRecDepth 20000 in
theorem cx_K_isShelf (d : Nat) (p0 : Int32) (c : (Nat → Nat → Int32)) (y : (Nat → Nat → Int32) × (Nat → Int64) × (Nat → Int64)) : ∀ a, fx_K_isShelf p0 = some a → kv_C kM_K_isShelf (d + 1) [.int p0] (c, y) (some (.int (kv_b a)), (c, y)) := by
  refine kv_entryX (E := fun a : Bool => (some (.int (kv_b a)), (c, y))) rfl (Nat.le_of_ble_eq_true rfl) (fun o => ?_)
  unfold fx_K_isShelf
  show kv_X _ _ _ _ _ 0 [(0, .int p0)] [] (c, y)
  refine kv_iload_n (pc := 0) 0 rfl rfl dk_K_isShelf_0 ?_
  refine kv_iconst (pc := 1) (v := (0 : Int32)) dk_K_isShelf_1 kki_0 ?_
  refine kv_bipush (pc := 2) (v := (7 : Int32)) dk_K_isShelf_2 kkb_7 ?_
  refine kv_cS_cZ (pc := 4) (as := [.int p0, .int (0 : Int32), .int (7 : Int32)]) (st := []) ko_K_isWithin rfl kw_512 (Nat.le_of_ble_eq_true rfl) rfl dk_K_isShelf_4 (cx_K_isWithin d p0 (0 : Int32) (7 : Int32) c y) (fun b1 => ?_)
  exact kv_zret (pc := 7) (b := b1) (fun h => h) rfl dk_K_isShelf_7
theorem dk_Shelf_isEmpty_0 : decode prog_9_method_2_code 0 = .ok (.aload_n 0, 1) := by decide +kernel
theorem dk_Shelf_isEmpty_1 : decode prog_9_method_2_code 1 = .ok (.getfield 15, 3) := by decide +kernel
theorem dk_Shelf_isEmpty_4 : decode prog_9_method_2_code 4 = .ok (.ifCond .ne 7, 3) := by decide +kernel
theorem dk_Shelf_isEmpty_7 : decode prog_9_method_2_code 7 = .ok (.iconst 1, 1) := by decide +kernel
theorem dk_Shelf_isEmpty_8 : decode prog_9_method_2_code 8 = .ok (.goto 4, 3) := by decide +kernel
theorem dk_Shelf_isEmpty_11 : decode prog_9_method_2_code 11 = .ok (.iconst 0, 1) := by decide +kernel
theorem dk_Shelf_isEmpty_12 : decode prog_9_method_2_code 12 = .ok (.ireturn, 1) := by decide +kernel
noncomputable def fx_Shelf_isEmpty (r0 : Nat) (c : (Nat → Nat → Int32)) : Option Bool :=
  if (c r0 1) = 0 then
    some true
  else
    some false
set_option maxRecDepth 20000 in
theorem cx_Shelf_isEmpty (d : Nat) (r0 : Nat) (c : (Nat → Nat → Int32)) (y : (Nat → Nat → Int32) × (Nat → Int64) × (Nat → Int64)) (h0 : kv_kd r0 = 7) : ∀ a, fx_Shelf_isEmpty r0 c = some a → kv_C kM_Shelf_isEmpty (d + 0) [.ref r0] (c, y) (some (.int (kv_b a)), (c, y)) := by
  refine kv_entryX (E := fun a : Bool => (some (.int (kv_b a)), (c, y))) rfl (Nat.le_of_ble_eq_true rfl) (fun o => ?_)
  unfold fx_Shelf_isEmpty
  show kv_X _ _ _ _ _ 0 [(0, .ref r0)] [] (c, y)
  refine kv_aload_n (pc := 0) 0 rfl rfl dk_Shelf_isEmpty_0 ?_
  refine kv_getC (pc := 1) kf_Shelf_15 h0 (kv_7nc h0) rfl dk_Shelf_isEmpty_1 ?_
  refine kv_if_ne (pc := 4) (tgt := 11) dk_Shelf_isEmpty_4 rfl ?_ ?_
  · refine kv_iconst (pc := 11) (v := (0 : Int32)) dk_Shelf_isEmpty_11 kki_0 ?_
    exact kv_zret (pc := 12) (b := false) (fun h => h) rfl dk_Shelf_isEmpty_12
  · refine kv_iconst (pc := 7) (v := (1 : Int32)) dk_Shelf_isEmpty_7 kki_1 ?_
    refine kv_goto (pc := 8) (tgt := 12) dk_Shelf_isEmpty_8 rfl ?_
    exact kv_zret (pc := 12) (b := true) (fun h => h) rfl dk_Shelf_isEmpty_12
theorem dk_Shelf_isRow_0 : decode prog_9_method_3_code 0 = .ok (.aload_n 0, 1) := by decide +kernel
theorem dk_Shelf_isRow_1 : decode prog_9_method_3_code 1 = .ok (.getfield 15, 3) := by decide +kernel
theorem dk_Shelf_isRow_4 : decode prog_9_method_3_code 4 = .ok (.iconst 2, 1) := by decide +kernel
theorem dk_Shelf_isRow_5 : decode prog_9_method_3_code 5 = .ok (.if_icmp .ne 7, 3) := by decide +kernel
theorem dk_Shelf_isRow_8 : decode prog_9_method_3_code 8 = .ok (.iconst 1, 1) := by decide +kernel
theorem dk_Shelf_isRow_9 : decode prog_9_method_3_code 9 = .ok (.goto 4, 3) := by decide +kernel
theorem dk_Shelf_isRow_12 : decode prog_9_method_3_code 12 = .ok (.iconst 0, 1) := by decide +kernel
theorem dk_Shelf_isRow_13 : decode prog_9_method_3_code 13 = .ok (.ireturn, 1) := by decide +kernel
noncomputable def fx_Shelf_isRow (r0 : Nat) (c : (Nat → Nat → Int32)) : Option Bool :=
  if (c r0 1) = (2 : Int32) then
    some true
  else
    some false
set_option maxRecDepth 20000 in
theorem cx_Shelf_isRow (d : Nat) (r0 : Nat) (c : (Nat → Nat → Int32)) (y : (Nat → Nat → Int32) × (Nat → Int64) × (Nat → Int64)) (h0 : kv_kd r0 = 7) : ∀ a, fx_Shelf_isRow r0 c = some a → kv_C kM_Shelf_isRow (d + 0) [.ref r0] (c, y) (some (.int (kv_b a)), (c, y)) := by
  refine kv_entryX (E := fun a : Bool => (some (.int (kv_b a)), (c, y))) rfl (Nat.le_of_ble_eq_true rfl) (fun o => ?_)
  unfold fx_Shelf_isRow
  show kv_X _ _ _ _ _ 0 [(0, .ref r0)] [] (c, y)
  refine kv_aload_n (pc := 0) 0 rfl rfl dk_Shelf_isRow_0 ?_
  refine kv_getC (pc := 1) kf_Shelf_15 h0 (kv_7nc h0) rfl dk_Shelf_isRow_1 ?_
  refine kv_iconst (pc := 4) (v := (2 : Int32)) dk_Shelf_isRow_4 kki_2 ?_
  refine kv_icmp_ne (pc := 5) (tgt := 12) dk_Shelf_isRow_5 rfl ?_ ?_
  · refine kv_iconst (pc := 12) (v := (0 : Int32)) dk_Shelf_isRow_12 kki_0 ?_
    exact kv_zret (pc := 13) (b := false) (fun h => h) rfl dk_Shelf_isRow_13
  · refine kv_iconst (pc := 8) (v := (1 : Int32)) dk_Shelf_isRow_8 kki_1 ?_
    refine kv_goto (pc := 9) (tgt := 13) dk_Shelf_isRow_9 rfl ?_
    exact kv_zret (pc := 13) (b := true) (fun h => h) rfl dk_Shelf_isRow_13
