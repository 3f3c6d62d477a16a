theorem dk_K_longApart_0 : decode prog_1_method_15_code 0 = .ok (.aload_n 0, 1) := by decide +kernel
theorem dk_K_longApart_1 : decode prog_1_method_15_code 1 = .ok (.getfield 10, 3) := by decide +kernel
theorem dk_K_longApart_4 : decode prog_1_method_15_code 4 = .ok (.getfield 58, 3) := by decide +kernel
theorem dk_K_longApart_7 : decode prog_1_method_15_code 7 = .ok (.astore 6, 2) := by decide +kernel
theorem dk_K_longApart_9 : decode prog_1_method_15_code 9 = .ok (.aload 6, 2) := by decide +kernel
theorem dk_K_longApart_11 : decode prog_1_method_15_code 11 = .ok (.iload_n 1, 1) := by decide +kernel
theorem dk_K_longApart_12 : decode prog_1_method_15_code 12 = .ok (.invokevirtual 101, 3) := by decide +kernel
theorem dk_K_longApart_15 : decode prog_1_method_15_code 15 = .ok (.ifCond .eq 37, 3) := by decide +kernel
theorem dk_K_longApart_18 : decode prog_1_method_15_code 18 = .ok (.iload_n 2, 1) := by decide +kernel
theorem dk_K_longApart_19 : decode prog_1_method_15_code 19 = .ok (.invokestatic 135, 3) := by decide +kernel
theorem dk_K_longApart_22 : decode prog_1_method_15_code 22 = .ok (.ifCond .eq 30, 3) := by decide +kernel
theorem dk_K_longApart_25 : decode prog_1_method_15_code 25 = .ok (.aload 6, 2) := by decide +kernel
theorem dk_K_longApart_27 : decode prog_1_method_15_code 27 = .ok (.iload_n 3, 1) := by decide +kernel
theorem dk_K_longApart_28 : decode prog_1_method_15_code 28 = .ok (.invokevirtual 101, 3) := by decide +kernel
theorem dk_K_longApart_31 : decode prog_1_method_15_code 31 = .ok (.ifCond .eq 21, 3) := by decide +kernel
theorem dk_K_longApart_34 : decode prog_1_method_15_code 34 = .ok (.iload 4, 2) := by decide +kernel
theorem dk_K_longApart_36 : decode prog_1_method_15_code 36 = .ok (.invokestatic 135, 3) := by decide +kernel
theorem dk_K_longApart_39 : decode prog_1_method_15_code 39 = .ok (.ifCond .eq 13, 3) := by decide +kernel
theorem dk_K_longApart_42 : decode prog_1_method_15_code 42 = .ok (.iload 5, 2) := by decide +kernel
theorem dk_K_longApart_44 : decode prog_1_method_15_code 44 = .ok (.iconst 0, 1) := by decide +kernel
theorem dk_K_longApart_45 : decode prog_1_method_15_code 45 = .ok (.iconst 1, 1) := by decide +kernel
theorem dk_K_longApart_46 : decode prog_1_method_15_code 46 = .ok (.invokestatic 54, 3) := by decide +kernel
theorem dk_K_longApart_49 : decode prog_1_method_15_code 49 = .ok (.ifCond .ne 6, 3) := by decide +kernel
theorem dk_K_longApart_52 : decode prog_1_method_15_code 52 = .ok (.ldc 84, 2) := by decide +kernel
theorem dk_K_longApart_54 : decode prog_1_method_15_code 54 = .ok (.ireturn, 1) := by decide +kernel
theorem dk_K_longApart_55 : decode prog_1_method_15_code 55 = .ok (.aload_n 0, 1) := by decide +kernel
theorem dk_K_longApart_56 : decode prog_1_method_15_code 56 = .ok (.getfield 36, 3) := by decide +kernel
theorem dk_K_longApart_59 : decode prog_1_method_15_code 59 = .ok (.invokevirtual 221, 3) := by decide +kernel
theorem dk_K_longApart_62 : decode prog_1_method_15_code 62 = .ok (.aload_n 0, 1) := by decide +kernel
theorem dk_K_longApart_63 : decode prog_1_method_15_code 63 = .ok (.getfield 36, 3) := by decide +kernel
theorem dk_K_longApart_66 : decode prog_1_method_15_code 66 = .ok (.iload_n 1, 1) := by decide +kernel
theorem dk_K_longApart_67 : decode prog_1_method_15_code 67 = .ok (.iload_n 2, 1) := by decide +kernel
theorem dk_K_longApart_68 : decode prog_1_method_15_code 68 = .ok (.invokevirtual 223, 3) := by decide +kernel
theorem dk_K_longApart_71 : decode prog_1_method_15_code 71 = .ok (.aload_n 0, 1) := by decide +kernel
theorem dk_K_longApart_72 : decode prog_1_method_15_code 72 = .ok (.getfield 36, 3) := by decide +kernel
theorem dk_K_longApart_75 : decode prog_1_method_15_code 75 = .ok (.iload_n 3, 1) := by decide +kernel
theorem dk_K_longApart_76 : decode prog_1_method_15_code 76 = .ok (.iload 4, 2) := by decide +kernel
theorem dk_K_longApart_78 : decode prog_1_method_15_code 78 = .ok (.invokevirtual 223, 3) := by decide +kernel
theorem dk_K_longApart_81 : decode prog_1_method_15_code 81 = .ok (.aload_n 0, 1) := by decide +kernel
theorem dk_K_longApart_82 : decode prog_1_method_15_code 82 = .ok (.getfield 36, 3) := by decide +kernel
theorem dk_K_longApart_85 : decode prog_1_method_15_code 85 = .ok (.aload_n 0, 1) := by decide +kernel
theorem dk_K_longApart_86 : decode prog_1_method_15_code 86 = .ok (.getfield 10, 3) := by decide +kernel
theorem dk_K_longApart_89 : decode prog_1_method_15_code 89 = .ok (.aload_n 0, 1) := by decide +kernel
theorem dk_K_longApart_90 : decode prog_1_method_15_code 90 = .ok (.getfield 29, 3) := by decide +kernel
theorem dk_K_longApart_93 : decode prog_1_method_15_code 93 = .ok (.invokevirtual 226, 3) := by decide +kernel
theorem dk_K_longApart_96 : decode prog_1_method_15_code 96 = .ok (.aload_n 0, 1) := by decide +kernel
theorem dk_K_longApart_97 : decode prog_1_method_15_code 97 = .ok (.aload_n 0, 1) := by decide +kernel
theorem dk_K_longApart_98 : decode prog_1_method_15_code 98 = .ok (.getfield 36, 3) := by decide +kernel
theorem dk_K_longApart_101 : decode prog_1_method_15_code 101 = .ok (.iload_n 1, 1) := by decide +kernel
theorem dk_K_longApart_102 : decode prog_1_method_15_code 102 = .ok (.iload_n 2, 1) := by decide +kernel
theorem dk_K_longApart_103 : decode prog_1_method_15_code 103 = .ok (.invokevirtual 230, 3) := by decide +kernel
theorem dk_K_longApart_106 : decode prog_1_method_15_code 106 = .ok (.aload_n 0, 1) := by decide +kernel
theorem dk_K_longApart_107 : decode prog_1_method_15_code 107 = .ok (.getfield 36, 3) := by decide +kernel
theorem dk_K_longApart_110 : decode prog_1_method_15_code 110 = .ok (.iload_n 3, 1) := by decide +kernel
theorem dk_K_longApart_111 : decode prog_1_method_15_code 111 = .ok (.iload 4, 2) := by decide +kernel
theorem dk_K_longApart_113 : decode prog_1_method_15_code 113 = .ok (.invokevirtual 230, 3) := by decide +kernel
theorem dk_K_longApart_116 : decode prog_1_method_15_code 116 = .ok (.iload 5, 2) := by decide +kernel
theorem dk_K_longApart_118 : decode prog_1_method_15_code 118 = .ok (.invokevirtual 218, 3) := by decide +kernel
theorem dk_K_longApart_121 : decode prog_1_method_15_code 121 = .ok (.ireturn, 1) := by decide +kernel
noncomputable def fx_K_longApart (p1 : Int32) (p2 : Int32) (p3 : Int32) (p4 : Int32) (p5 : Int32) (c : (Nat → Nat → Int32)) : Option (Int32 × (Nat → Nat → Int32)) :=
  kv_bind1 (fx_Lumps_has p1 c) (fun b1 =>
  if b1 = true then
    kv_bind1 (fx_K_isYear p2) (fun b2 =>
    if b2 = true then
      kv_bind1 (fx_Lumps_has p3 c) (fun b3 =>
      if b3 = true then
        kv_bind1 (fx_K_isYear p4) (fun b4 =>
        if b4 = true then
          kv_bind1 (fx_K_isWithin p5 (0 : Int32) (1 : Int32)) (fun b5 =>
          if b5 = true then
            kv_bind1 (fx_LongNet_start c) (fun c6 =>
            kv_bind1 (fx_LongNet_addKnot p1 p2 c6) (fun c7 =>
            kv_bind1 (fx_LongNet_addKnot p3 p4 c7) (fun c8 =>
            kv_bind1 (fx_LongNet_build c8) (fun c9 =>
            kv_bind1 (fx_LongNet_knotAt p1 p2 c9) (fun v10 =>
            kv_bind1 (fx_LongNet_knotAt p3 p4 c9) (fun v11 =>
            kv_bind2 (fx_K_bounded v10 v11 p5 c9) (fun v12 c13 =>
            some (v12, c13))))))))
          else
            some ((-1000000001 : Int32), c))
        else
          some ((-1000000001 : Int32), c))
      else
        some ((-1000000001 : Int32), c))
    else
      some ((-1000000001 : Int32), c))
  else
    some ((-1000000001 : Int32), c))
set_option maxRecDepth 20000 in
theorem cx_K_longApart (d : Nat) (p1 : Int32) (p2 : Int32) (p3 : Int32) (p4 : Int32) (p5 : Int32) (c : (Nat → Nat → Int32)) (y : (Nat → Nat → Int32) × (Nat → Int64) × (Nat → Int64)) : ∀ a, fx_K_longApart p1 p2 p3 p4 p5 c = some a → kv_C kM_K_longApart (d + 5) [.ref 0, .int p1, .int p2, .int p3, .int p4, .int p5] (c, y) (some (.int a.1), (a.2, y)) := by
  refine kv_entryX (E := fun a : (Int32 × (Nat → Nat → Int32)) => (some (.int a.1), (a.2, y))) rfl (Nat.le_of_ble_eq_true rfl) (fun o => ?_)
  unfold fx_K_longApart
  show kv_X _ _ _ _ _ 0 [(0, .ref 0), (1, .int p1), (2, .int p2), (3, .int p3), (4, .int p4), (5, .int p5)] [] (c, y)
  refine kv_aload_n (pc := 0) 0 rfl rfl dk_K_longApart_0 ?_
  refine kv_getR (pc := 1) kf_K_10 kr_0 rfl kt_0_0 dk_K_longApart_1 ?_
  refine kv_getR (pc := 4) kf_K_58 kr_1 rfl kt_1_0 dk_K_longApart_4 ?_
  refine kv_astore (pc := 7) (lv' := [(6, .ref 2), (0, .ref 0), (1, .int p1), (2, .int p2), (3, .int p3), (4, .int p4), (5, .int p5)]) rfl (Nat.le_of_ble_eq_true rfl) dk_K_longApart_7 ?_
  refine kv_aload (pc := 9) 0 rfl dk_K_longApart_9 ?_
  refine kv_iload_n (pc := 11) 2 rfl rfl dk_K_longApart_11 ?_
  refine kv_cV_cZ (pc := 12) (as := [.int p1]) (st := []) ko_Lumps_has kc_3 rfl rfl kr_2 kw_543 (Nat.le_of_ble_eq_true rfl) rfl dk_K_longApart_12 (cx_Lumps_has (d + 4) p1 c y) (fun b1 => ?_)
  refine kv_zif_eq (pc := 15) (tgt := 52) dk_K_longApart_15 rfl ?_ ?_
  · refine kv_ldc (pc := 52) (v := (-1000000001 : Int32)) kw_530 dk_K_longApart_52 ?_
    exact kv_iret (pc := 54) (fun h => h) rfl dk_K_longApart_54
  · refine kv_iload_n (pc := 18) 3 rfl rfl dk_K_longApart_18 ?_
    refine kv_cS_cZ (pc := 19) (as := [.int p2]) (st := []) ko_K_isYear rfl kw_577 (Nat.le_of_ble_eq_true rfl) rfl dk_K_longApart_19 (cx_K_isYear (d + 3) p2 c y) (fun b2 => ?_)
    refine kv_zif_eq (pc := 22) (tgt := 52) dk_K_longApart_22 rfl ?_ ?_
    · refine kv_ldc (pc := 52) (v := (-1000000001 : Int32)) kw_530 dk_K_longApart_52 ?_
      exact kv_iret (pc := 54) (fun h => h) rfl dk_K_longApart_54
    · refine kv_aload (pc := 25) 0 rfl dk_K_longApart_25 ?_
      refine kv_iload_n (pc := 27) 4 rfl rfl dk_K_longApart_27 ?_
      refine kv_cV_cZ (pc := 28) (as := [.int p3]) (st := []) ko_Lumps_has kc_3 rfl rfl kr_2 kw_543 (Nat.le_of_ble_eq_true rfl) rfl dk_K_longApart_28 (cx_Lumps_has (d + 4) p3 c y) (fun b3 => ?_)
      refine kv_zif_eq (pc := 31) (tgt := 52) dk_K_longApart_31 rfl ?_ ?_
      · refine kv_ldc (pc := 52) (v := (-1000000001 : Int32)) kw_530 dk_K_longApart_52 ?_
        exact kv_iret (pc := 54) (fun h => h) rfl dk_K_longApart_54
      · refine kv_iload (pc := 34) 5 rfl dk_K_longApart_34 ?_
        refine kv_cS_cZ (pc := 36) (as := [.int p4]) (st := []) ko_K_isYear rfl kw_577 (Nat.le_of_ble_eq_true rfl) rfl dk_K_longApart_36 (cx_K_isYear (d + 3) p4 c y) (fun b4 => ?_)
        refine kv_zif_eq (pc := 39) (tgt := 52) dk_K_longApart_39 rfl ?_ ?_
        · refine kv_ldc (pc := 52) (v := (-1000000001 : Int32)) kw_530 dk_K_longApart_52 ?_
          exact kv_iret (pc := 54) (fun h => h) rfl dk_K_longApart_54
        · refine kv_iload (pc := 42) 6 rfl dk_K_longApart_42 ?_
          refine kv_iconst (pc := 44) (v := (0 : Int32)) dk_K_longApart_44 kki_0 ?_
          refine kv_iconst (pc := 45) (v := (1 : Int32)) dk_K_longApart_45 kki_1 ?_
          refine kv_cS_cZ (pc := 46) (as := [.int p5, .int (0 : Int32), .int (1 : Int32)]) (st := []) ko_K_isWithin rfl kw_512 (Nat.le_of_ble_eq_true rfl) rfl dk_K_longApart_46 (cx_K_isWithin (d + 4) p5 (0 : Int32) (1 : Int32) c y) (fun b5 => ?_)
          refine kv_zif_ne (pc := 49) (tgt := 55) dk_K_longApart_49 rfl ?_ ?_
          · refine kv_aload_n (pc := 55) 1 rfl rfl dk_K_longApart_55 ?_
            refine kv_getR (pc := 56) kf_K_36 kr_0 rfl kt_0_5 dk_K_longApart_56 ?_
            refine kv_cV_cc (pc := 59) (as := []) (st := []) ko_LongNet_start kc_2 rfl rfl kr_73 kw_734 (Nat.le_of_ble_eq_true rfl) rfl dk_K_longApart_59 (cx_LongNet_start (d + 3) c y) (fun c6 => ?_)
            refine kv_aload_n (pc := 62) 1 rfl rfl dk_K_longApart_62 ?_
            refine kv_getR (pc := 63) kf_K_36 kr_0 rfl kt_0_5 dk_K_longApart_63 ?_
            refine kv_iload_n (pc := 66) 2 rfl rfl dk_K_longApart_66 ?_
            refine kv_iload_n (pc := 67) 3 rfl rfl dk_K_longApart_67 ?_
            refine kv_cV_cc (pc := 68) (as := [.int p1, .int p2]) (st := []) ko_LongNet_addKnot kc_2 rfl rfl kr_73 kw_742 (Nat.le_of_ble_eq_true rfl) rfl dk_K_longApart_68 (cx_LongNet_addKnot (d + 3) p1 p2 c6 y) (fun c7 => ?_)
            refine kv_aload_n (pc := 71) 1 rfl rfl dk_K_longApart_71 ?_
            refine kv_getR (pc := 72) kf_K_36 kr_0 rfl kt_0_5 dk_K_longApart_72 ?_
            refine kv_iload_n (pc := 75) 4 rfl rfl dk_K_longApart_75 ?_
            refine kv_iload (pc := 76) 5 rfl dk_K_longApart_76 ?_
            refine kv_cV_cc (pc := 78) (as := [.int p3, .int p4]) (st := []) ko_LongNet_addKnot kc_2 rfl rfl kr_73 kw_742 (Nat.le_of_ble_eq_true rfl) rfl dk_K_longApart_78 (cx_LongNet_addKnot (d + 3) p3 p4 c7 y) (fun c8 => ?_)
            refine kv_aload_n (pc := 81) 1 rfl rfl dk_K_longApart_81 ?_
            refine kv_getR (pc := 82) kf_K_36 kr_0 rfl kt_0_5 dk_K_longApart_82 ?_
            refine kv_aload_n (pc := 85) 1 rfl rfl dk_K_longApart_85 ?_
            refine kv_getR (pc := 86) kf_K_10 kr_0 rfl kt_0_0 dk_K_longApart_86 ?_
            refine kv_aload_n (pc := 89) 1 rfl rfl dk_K_longApart_89 ?_
            refine kv_getR (pc := 90) kf_K_29 kr_0 rfl kt_0_4 dk_K_longApart_90 ?_
            refine kv_cV_cc (pc := 93) (as := [.ref 1, .ref 68]) (st := []) ko_LongNet_build kc_2 rfl rfl kr_73 kw_753 (Nat.le_of_ble_eq_true rfl) rfl dk_K_longApart_93 (cx_LongNet_build d c8 y) (fun c9 => ?_)
            refine kv_aload_n (pc := 96) 1 rfl rfl dk_K_longApart_96 ?_
            refine kv_aload_n (pc := 97) 1 rfl rfl dk_K_longApart_97 ?_
            refine kv_getR (pc := 98) kf_K_36 kr_0 rfl kt_0_5 dk_K_longApart_98 ?_
            refine kv_iload_n (pc := 101) 2 rfl rfl dk_K_longApart_101 ?_
            refine kv_iload_n (pc := 102) 3 rfl rfl dk_K_longApart_102 ?_
            refine kv_cV_cI (pc := 103) (as := [.int p1, .int p2]) (st := [.ref 0]) ko_LongNet_knotAt kc_2 rfl rfl kr_73 kw_782 (Nat.le_of_ble_eq_true rfl) rfl dk_K_longApart_103 (cx_LongNet_knotAt (d + 3) p1 p2 c9 y) (fun v10 => ?_)
            refine kv_aload_n (pc := 106) 1 rfl rfl dk_K_longApart_106 ?_
            refine kv_getR (pc := 107) kf_K_36 kr_0 rfl kt_0_5 dk_K_longApart_107 ?_
            refine kv_iload_n (pc := 110) 4 rfl rfl dk_K_longApart_110 ?_
            refine kv_iload (pc := 111) 5 rfl dk_K_longApart_111 ?_
            refine kv_cV_cI (pc := 113) (as := [.int p3, .int p4]) (st := [.int v10, .ref 0]) ko_LongNet_knotAt kc_2 rfl rfl kr_73 kw_782 (Nat.le_of_ble_eq_true rfl) rfl dk_K_longApart_113 (cx_LongNet_knotAt (d + 3) p3 p4 c9 y) (fun v11 => ?_)
            refine kv_iload (pc := 116) 6 rfl dk_K_longApart_116 ?_
            refine kv_cV_cIc (pc := 118) (as := [.int v10, .int v11, .int p5]) (st := []) ko_K_bounded kc_10 rfl rfl kr_0 kw_706 (Nat.le_of_ble_eq_true rfl) rfl dk_K_longApart_118 (cx_K_bounded (d + 1) v10 v11 p5 c9 y) (fun v12 c13 => ?_)
            exact kv_iret (pc := 121) (fun h => h) rfl dk_K_longApart_121
          · refine kv_ldc (pc := 52) (v := (-1000000001 : Int32)) kw_530 dk_K_longApart_52 ?_
            exact kv_iret (pc := 54) (fun h => h) rfl dk_K_longApart_54
theorem dk_D_isAsked_0 : decode prog_13_method_39_code 0 = .ok (.aload_n 0, 1) := by decide +kernel
theorem dk_D_isAsked_1 : decode prog_13_method_39_code 1 = .ok (.iload_n 1, 1) := by decide +kernel
theorem dk_D_isAsked_2 : decode prog_13_method_39_code 2 = .ok (.iconst 5, 1) := by decide +kernel
theorem dk_D_isAsked_3 : decode prog_13_method_39_code 3 = .ok (.invokevirtual 141, 3) := by decide +kernel
theorem dk_D_isAsked_6 : decode prog_13_method_39_code 6 = .ok (.ifCond .ne 15, 3) := by decide +kernel
theorem dk_D_isAsked_9 : decode prog_13_method_39_code 9 = .ok (.iload_n 1, 1) := by decide +kernel
theorem dk_D_isAsked_10 : decode prog_13_method_39_code 10 = .ok (.aload_n 0, 1) := by decide +kernel
theorem dk_D_isAsked_11 : decode prog_13_method_39_code 11 = .ok (.getfield 51, 3) := by decide +kernel
theorem dk_D_isAsked_14 : decode prog_13_method_39_code 14 = .ok (.if_icmp .eq 7, 3) := by decide +kernel
theorem dk_D_isAsked_17 : decode prog_13_method_39_code 17 = .ok (.iconst 1, 1) := by decide +kernel
theorem dk_D_isAsked_18 : decode prog_13_method_39_code 18 = .ok (.goto 4, 3) := by decide +kernel
theorem dk_D_isAsked_21 : decode prog_13_method_39_code 21 = .ok (.iconst 0, 1) := by decide +kernel
theorem dk_D_isAsked_22 : decode prog_13_method_39_code 22 = .ok (.ireturn, 1) := by decide +kernel
noncomputable def fx_D_isAsked (p1 : Int32) (m : (Nat → Nat → Int32)) : Option Bool :=
  kv_bind1 (fx_D_say p1 (5 : Int32) m) (fun v1 =>
  if v1 = 0 then
    if p1 = (m 84 17) then
      some false
    else
      some true
  else
    some false)
set_option maxRecDepth 20000 in
theorem cx_D_isAsked (d : Nat) (p1 : Int32) (c : (Nat → Nat → Int32)) (m : (Nat → Nat → Int32)) (f : (Nat → Int64)) (u : (Nat → Int64)) : ∀ a, fx_D_isAsked p1 m = some a → kv_C kM_D_isAsked (d + 1) [.ref 84, .int p1] (c, m, f, u) (some (.int (kv_b a)), (c, m, f, u)) := by
  refine kv_entryX (E := fun a : Bool => (some (.int (kv_b a)), (c, m, f, u))) rfl (Nat.le_of_ble_eq_true rfl) (fun o => ?_)
  unfold fx_D_isAsked
  show kv_X _ _ _ _ _ 0 [(0, .ref 84), (1, .int p1)] [] (c, m, f, u)
  refine kv_aload_n (pc := 0) 0 rfl rfl dk_D_isAsked_0 ?_
  refine kv_iload_n (pc := 1) 1 rfl rfl dk_D_isAsked_1 ?_
  refine kv_iconst (pc := 2) (v := (5 : Int32)) dk_D_isAsked_2 kki_5 ?_
  refine kv_cV_mI (pc := 3) (as := [.int p1, .int (5 : Int32)]) (st := []) ko_D_say kc_11 rfl rfl kr_84 kw_1435 (Nat.le_of_ble_eq_true rfl) rfl dk_D_isAsked_3 (cx_D_say d p1 (5 : Int32) c m f u) (fun v1 => ?_)
  refine kv_if_ne (pc := 6) (tgt := 21) dk_D_isAsked_6 rfl ?_ ?_
  · refine kv_iconst (pc := 21) (v := (0 : Int32)) dk_D_isAsked_21 kki_0 ?_
    exact kv_zret (pc := 22) (b := false) (fun h => h) rfl dk_D_isAsked_22
  · refine kv_iload_n (pc := 9) 1 rfl rfl dk_D_isAsked_9 ?_
    refine kv_aload_n (pc := 10) 0 rfl rfl dk_D_isAsked_10 ?_
    refine kv_getM (pc := 11) kf_D_51 kr_84 kn_84 rfl dk_D_isAsked_11 ?_
    refine kv_icmp_eq (pc := 14) (tgt := 21) dk_D_isAsked_14 rfl ?_ ?_
    · refine kv_iconst (pc := 21) (v := (0 : Int32)) dk_D_isAsked_21 kki_0 ?_
      exact kv_zret (pc := 22) (b := false) (fun h => h) rfl dk_D_isAsked_22
    · refine kv_iconst (pc := 17) (v := (1 : Int32)) dk_D_isAsked_17 kki_1 ?_
      refine kv_goto (pc := 18) (tgt := 22) dk_D_isAsked_18 rfl ?_
      exact kv_zret (pc := 22) (b := true) (fun h => h) rfl dk_D_isAsked_22
theorem dk_D_labelOf_0 : decode prog_13_method_38_code 0 = .ok (.iload_n 2, 1) := by decide +kernel
theorem dk_D_labelOf_1 : decode prog_13_method_38_code 1 = .ok (.aload_n 0, 1) := by decide +kernel
theorem dk_D_labelOf_2 : decode prog_13_method_38_code 2 = .ok (.getfield 177, 3) := by decide +kernel
theorem dk_D_labelOf_5 : decode prog_13_method_38_code 5 = .ok (.if_icmp .lt 19, 3) := by decide +kernel
theorem dk_D_labelOf_8 : decode prog_13_method_38_code 8 = .ok (.iload_n 1, 1) := by decide +kernel
theorem dk_D_labelOf_9 : decode prog_13_method_38_code 9 = .ok (.aload_n 0, 1) := by decide +kernel
theorem dk_D_labelOf_10 : decode prog_13_method_38_code 10 = .ok (.getfield 44, 3) := by decide +kernel
theorem dk_D_labelOf_13 : decode prog_13_method_38_code 13 = .ok (.if_icmp .eq 15, 3) := by decide +kernel
theorem dk_D_labelOf_16 : decode prog_13_method_38_code 16 = .ok (.iload_n 1, 1) := by decide +kernel
theorem dk_D_labelOf_17 : decode prog_13_method_38_code 17 = .ok (.aload_n 0, 1) := by decide +kernel
theorem dk_D_labelOf_18 : decode prog_13_method_38_code 18 = .ok (.getfield 48, 3) := by decide +kernel
theorem dk_D_labelOf_21 : decode prog_13_method_38_code 21 = .ok (.if_icmp .eq 7, 3) := by decide +kernel
theorem dk_D_labelOf_24 : decode prog_13_method_38_code 24 = .ok (.iload_n 1, 1) := by decide +kernel
theorem dk_D_labelOf_25 : decode prog_13_method_38_code 25 = .ok (.goto 22, 3) := by decide +kernel
theorem dk_D_labelOf_28 : decode prog_13_method_38_code 28 = .ok (.iload_n 1, 1) := by decide +kernel
theorem dk_D_labelOf_29 : decode prog_13_method_38_code 29 = .ok (.aload_n 0, 1) := by decide +kernel
theorem dk_D_labelOf_30 : decode prog_13_method_38_code 30 = .ok (.getfield 44, 3) := by decide +kernel
theorem dk_D_labelOf_33 : decode prog_13_method_38_code 33 = .ok (.if_icmp .ne 10, 3) := by decide +kernel
theorem dk_D_labelOf_36 : decode prog_13_method_38_code 36 = .ok (.aload_n 0, 1) := by decide +kernel
theorem dk_D_labelOf_37 : decode prog_13_method_38_code 37 = .ok (.getfield 48, 3) := by decide +kernel
theorem dk_D_labelOf_40 : decode prog_13_method_38_code 40 = .ok (.goto 7, 3) := by decide +kernel
theorem dk_D_labelOf_43 : decode prog_13_method_38_code 43 = .ok (.aload_n 0, 1) := by decide +kernel
theorem dk_D_labelOf_44 : decode prog_13_method_38_code 44 = .ok (.getfield 44, 3) := by decide +kernel
theorem dk_D_labelOf_47 : decode prog_13_method_38_code 47 = .ok (.ireturn, 1) := by decide +kernel
noncomputable def fj_D_labelOf_28 (p1 : Int32) (m : (Nat → Nat → Int32)) : Option Int32 :=
  if p1 = (m 84 14) then
    some (m 84 15)
  else
    some (m 84 14)
noncomputable def fx_D_labelOf (p1 : Int32) (p2 : Int32) (m : (Nat → Nat → Int32)) : Option Int32 :=
  if p2 < (m 84 16) then
    some p1
  else
    if p1 = (m 84 14) then
      fj_D_labelOf_28 p1 m
    else
      if p1 = (m 84 15) then
        fj_D_labelOf_28 p1 m
      else
        some p1
set_option maxRecDepth 20000 in
theorem cx_D_labelOf (d : Nat) (p1 : Int32) (p2 : Int32) (c : (Nat → Nat → Int32)) (m : (Nat → Nat → Int32)) (f : (Nat → Int64)) (u : (Nat → Int64)) : ∀ a, fx_D_labelOf p1 p2 m = some a → kv_C kM_D_labelOf (d + 0) [.ref 84, .int p1, .int p2] (c, m, f, u) (some (.int a), (c, m, f, u)) := by
  refine kv_entryX (E := fun a : Int32 => (some (.int a), (c, m, f, u))) rfl (Nat.le_of_ble_eq_true rfl) (fun o => ?_)
  unfold fx_D_labelOf
  show kv_X _ _ _ _ _ 0 [(0, .ref 84), (1, .int p1), (2, .int p2)] [] (c, m, f, u)
  refine kv_iload_n (pc := 0) 2 rfl rfl dk_D_labelOf_0 ?_
  refine kv_aload_n (pc := 1) 0 rfl rfl dk_D_labelOf_1 ?_
  refine kv_getM (pc := 2) kf_D_177 kr_84 kn_84 rfl dk_D_labelOf_2 ?_
  refine kv_icmp_lt (pc := 5) (tgt := 24) dk_D_labelOf_5 rfl ?_ ?_
  · refine kv_iload_n (pc := 24) 1 rfl rfl dk_D_labelOf_24 ?_
    refine kv_goto (pc := 25) (tgt := 47) dk_D_labelOf_25 rfl ?_
    exact kv_iret (pc := 47) (fun h => h) rfl dk_D_labelOf_47
  · refine kv_iload_n (pc := 8) 1 rfl rfl dk_D_labelOf_8 ?_
    refine kv_aload_n (pc := 9) 0 rfl rfl dk_D_labelOf_9 ?_
    refine kv_getM (pc := 10) kf_D_44 kr_84 kn_84 rfl dk_D_labelOf_10 ?_
    refine kv_cut_0 (J := fj_D_labelOf_28 p1 m) (pcj := 28) (LJ := [(0, .ref 84), (1, .int p1)]) (SJ := []) (WJ := (c, m, f, u)) ?_ (fun hj28 => ?_)
    · show kv_X _ _ _ _ (fj_D_labelOf_28 p1 m) 28 [(0, .ref 84), (1, .int p1)] [] (c, m, f, u)
      unfold fj_D_labelOf_28
      refine kv_iload_n (pc := 28) 1 rfl rfl dk_D_labelOf_28 ?_
      refine kv_aload_n (pc := 29) 0 rfl rfl dk_D_labelOf_29 ?_
      refine kv_getM (pc := 30) kf_D_44 kr_84 kn_84 rfl dk_D_labelOf_30 ?_
      refine kv_icmp_ne (pc := 33) (tgt := 43) dk_D_labelOf_33 rfl ?_ ?_
      · refine kv_aload_n (pc := 43) 0 rfl rfl dk_D_labelOf_43 ?_
        refine kv_getM (pc := 44) kf_D_44 kr_84 kn_84 rfl dk_D_labelOf_44 ?_
        exact kv_iret (pc := 47) (fun h => h) rfl dk_D_labelOf_47
      · refine kv_aload_n (pc := 36) 0 rfl rfl dk_D_labelOf_36 ?_
        refine kv_getM (pc := 37) kf_D_48 kr_84 kn_84 rfl dk_D_labelOf_37 ?_
        refine kv_goto (pc := 40) (tgt := 47) dk_D_labelOf_40 rfl ?_
        exact kv_iret (pc := 47) (fun h => h) rfl dk_D_labelOf_47
    refine kv_icmp_eq (pc := 13) (tgt := 28) dk_D_labelOf_13 rfl ?_ ?_
    · exact kv_sub [0, 1] rfl (hj28)
    · refine kv_iload_n (pc := 16) 1 rfl rfl dk_D_labelOf_16 ?_
      refine kv_aload_n (pc := 17) 0 rfl rfl dk_D_labelOf_17 ?_
      refine kv_getM (pc := 18) kf_D_48 kr_84 kn_84 rfl dk_D_labelOf_18 ?_
      refine kv_icmp_eq (pc := 21) (tgt := 28) dk_D_labelOf_21 rfl ?_ ?_
      · exact kv_sub [0, 1] rfl (hj28)
      · refine kv_iload_n (pc := 24) 1 rfl rfl dk_D_labelOf_24 ?_
        refine kv_goto (pc := 25) (tgt := 47) dk_D_labelOf_25 rfl ?_
        exact kv_iret (pc := 47) (fun h => h) rfl dk_D_labelOf_47
theorem dk_D_nodeOf_0 : decode prog_13_method_37_code 0 = .ok (.iconst 0, 1) := by decide +kernel
theorem dk_D_nodeOf_1 : decode prog_13_method_37_code 1 = .ok (.istore_n 3, 1) := by decide +kernel
theorem dk_D_nodeOf_2 : decode prog_13_method_37_code 2 = .ok (.iload_n 3, 1) := by decide +kernel
theorem dk_D_nodeOf_3 : decode prog_13_method_37_code 3 = .ok (.aload_n 0, 1) := by decide +kernel
theorem dk_D_nodeOf_4 : decode prog_13_method_37_code 4 = .ok (.getfield 144, 3) := by decide +kernel
theorem dk_D_nodeOf_7 : decode prog_13_method_37_code 7 = .ok (.if_icmp .ge 31, 3) := by decide +kernel
theorem dk_D_nodeOf_10 : decode prog_13_method_37_code 10 = .ok (.aload_n 0, 1) := by decide +kernel
theorem dk_D_nodeOf_11 : decode prog_13_method_37_code 11 = .ok (.getfield 38, 3) := by decide +kernel
theorem dk_D_nodeOf_14 : decode prog_13_method_37_code 14 = .ok (.iload_n 3, 1) := by decide +kernel
theorem dk_D_nodeOf_15 : decode prog_13_method_37_code 15 = .ok (.iaload, 1) := by decide +kernel
theorem dk_D_nodeOf_16 : decode prog_13_method_37_code 16 = .ok (.iload_n 1, 1) := by decide +kernel
theorem dk_D_nodeOf_17 : decode prog_13_method_37_code 17 = .ok (.if_icmp .ne 15, 3) := by decide +kernel
theorem dk_D_nodeOf_20 : decode prog_13_method_37_code 20 = .ok (.aload_n 0, 1) := by decide +kernel
theorem dk_D_nodeOf_21 : decode prog_13_method_37_code 21 = .ok (.getfield 41, 3) := by decide +kernel
theorem dk_D_nodeOf_24 : decode prog_13_method_37_code 24 = .ok (.iload_n 3, 1) := by decide +kernel
theorem dk_D_nodeOf_25 : decode prog_13_method_37_code 25 = .ok (.iaload, 1) := by decide +kernel
theorem dk_D_nodeOf_26 : decode prog_13_method_37_code 26 = .ok (.iload_n 2, 1) := by decide +kernel
theorem dk_D_nodeOf_27 : decode prog_13_method_37_code 27 = .ok (.if_icmp .ne 5, 3) := by decide +kernel
theorem dk_D_nodeOf_30 : decode prog_13_method_37_code 30 = .ok (.iload_n 3, 1) := by decide +kernel
theorem dk_D_nodeOf_31 : decode prog_13_method_37_code 31 = .ok (.ireturn, 1) := by decide +kernel
theorem dk_D_nodeOf_32 : decode prog_13_method_37_code 32 = .ok (.iinc 3 1, 3) := by decide +kernel
theorem dk_D_nodeOf_35 : decode prog_13_method_37_code 35 = .ok (.goto (-33), 3) := by decide +kernel
theorem dk_D_nodeOf_38 : decode prog_13_method_37_code 38 = .ok (.aload_n 0, 1) := by decide +kernel
theorem dk_D_nodeOf_39 : decode prog_13_method_37_code 39 = .ok (.getfield 38, 3) := by decide +kernel
theorem dk_D_nodeOf_42 : decode prog_13_method_37_code 42 = .ok (.aload_n 0, 1) := by decide +kernel
theorem dk_D_nodeOf_43 : decode prog_13_method_37_code 43 = .ok (.getfield 144, 3) := by decide +kernel
theorem dk_D_nodeOf_46 : decode prog_13_method_37_code 46 = .ok (.iload_n 1, 1) := by decide +kernel
theorem dk_D_nodeOf_47 : decode prog_13_method_37_code 47 = .ok (.iastore, 1) := by decide +kernel
theorem dk_D_nodeOf_48 : decode prog_13_method_37_code 48 = .ok (.aload_n 0, 1) := by decide +kernel
theorem dk_D_nodeOf_49 : decode prog_13_method_37_code 49 = .ok (.getfield 41, 3) := by decide +kernel
theorem dk_D_nodeOf_52 : decode prog_13_method_37_code 52 = .ok (.aload_n 0, 1) := by decide +kernel
theorem dk_D_nodeOf_53 : decode prog_13_method_37_code 53 = .ok (.getfield 144, 3) := by decide +kernel
theorem dk_D_nodeOf_56 : decode prog_13_method_37_code 56 = .ok (.iload_n 2, 1) := by decide +kernel
theorem dk_D_nodeOf_57 : decode prog_13_method_37_code 57 = .ok (.iastore, 1) := by decide +kernel
theorem dk_D_nodeOf_58 : decode prog_13_method_37_code 58 = .ok (.aload_n 0, 1) := by decide +kernel
theorem dk_D_nodeOf_59 : decode prog_13_method_37_code 59 = .ok (.dup, 1) := by decide +kernel
theorem dk_D_nodeOf_60 : decode prog_13_method_37_code 60 = .ok (.getfield 144, 3) := by decide +kernel
theorem dk_D_nodeOf_63 : decode prog_13_method_37_code 63 = .ok (.iconst 1, 1) := by decide +kernel
theorem dk_D_nodeOf_64 : decode prog_13_method_37_code 64 = .ok (.iadd, 1) := by decide +kernel
theorem dk_D_nodeOf_65 : decode prog_13_method_37_code 65 = .ok (.putfield 144, 3) := by decide +kernel
theorem dk_D_nodeOf_68 : decode prog_13_method_37_code 68 = .ok (.aload_n 0, 1) := by decide +kernel
theorem dk_D_nodeOf_69 : decode prog_13_method_37_code 69 = .ok (.getfield 144, 3) := by decide +kernel
theorem dk_D_nodeOf_72 : decode prog_13_method_37_code 72 = .ok (.iconst 1, 1) := by decide +kernel
theorem dk_D_nodeOf_73 : decode prog_13_method_37_code 73 = .ok (.isub, 1) := by decide +kernel
theorem dk_D_nodeOf_74 : decode prog_13_method_37_code 74 = .ok (.ireturn, 1) := by decide +kernel
noncomputable def fj_D_nodeOf_32 (x1 : Int32) : Option (Int32 ⊕ (Int32 ⊕ Unit)) :=
  some (.inl (x1 + (1 : Int32)))
noncomputable def fb_D_nodeOf_2 (m : (Nat → Nat → Int32)) (p1 : Int32) (p2 : Int32) (x1 : Int32) : Option (Int32 ⊕ (Int32 ⊕ Unit)) :=
  if (m 84 13) ≤ x1 then
    some (.inr (.inr ()))
  else
    kv_gd (kv_in x1 44) (
    if (m 94 x1.toNatClampNeg) = p1 then
      if (m 95 x1.toNatClampNeg) = p2 then
        some (.inr (.inl x1))
      else
        fj_D_nodeOf_32 x1
    else
      fj_D_nodeOf_32 x1)
noncomputable def fx_D_nodeOf (p1 : Int32) (p2 : Int32) (m : (Nat → Nat → Int32)) : Option (Int32 × (Nat → Nat → Int32)) :=
  (kv_loop (kv_u1 (fb_D_nodeOf_2 m p1 p2)) (0 : Int32)).bind (Sum.elim (kv_u1 (fun x2 =>
  some (x2, m)))
   (kv_u0 (
  kv_gd (kv_in (m 84 13) 44) (
  kv_let (kv_st m 94 (m 84 13).toNatClampNeg p1) (fun m5 =>
  kv_gd (kv_in (m5 84 13) 44) (
  kv_let (kv_st m5 95 (m5 84 13).toNatClampNeg p2) (fun m7 =>
  kv_let (kv_st m7 84 13 ((m7 84 13) + (1 : Int32))) (fun m8 =>
  some (((m8 84 13) - (1 : Int32)), m8)))))))))
set_option maxRecDepth 20000 in
theorem cx_D_nodeOf (d : Nat) (p1 : Int32) (p2 : Int32) (c : (Nat → Nat → Int32)) (m : (Nat → Nat → Int32)) (f : (Nat → Int64)) (u : (Nat → Int64)) : ∀ a, fx_D_nodeOf p1 p2 m = some a → kv_C kM_D_nodeOf (d + 0) [.ref 84, .int p1, .int p2] (c, m, f, u) (some (.int a.1), (c, a.2, f, u)) := by
  refine kv_entryX (E := fun a : (Int32 × (Nat → Nat → Int32)) => (some (.int a.1), (c, a.2, f, u))) rfl (Nat.le_of_ble_eq_true rfl) (fun o => ?_)
  unfold fx_D_nodeOf
  show kv_X _ _ _ _ _ 0 [(0, .ref 84), (1, .int p1), (2, .int p2)] [] (c, m, f, u)
  refine kv_iconst (pc := 0) (v := (0 : Int32)) dk_D_nodeOf_0 kki_0 ?_
  refine kv_istore_n (pc := 1) (lv' := [(3, .int (0 : Int32)), (0, .ref 84), (1, .int p1), (2, .int p2)]) rfl (Nat.le_of_ble_eq_true rfl) rfl dk_D_nodeOf_1 ?_
  refine kv_sub (lv' := [(0, .ref 84), (1, .int p1), (2, .int p2), (3, .int (0 : Int32))]) [1, 2, 3, 0] rfl ?_
  refine kv_lp_1_1_0 (LV := fun x1 => [(0, .ref 84), (1, .int p1), (2, .int p2), (3, .int x1)]) (WW := fun x1 => (c, m, f, u)) (LE1 := fun x2 => [(3, .int x2)]) (WE1 := fun x2 => (c, m, f, u)) (pe1 := 30) (LE2 := [(0, .ref 84), (1, .int p1), (2, .int p2)]) (WE2 := (c, m, f, u)) (pe2 := 38) ?_ ?_ ?_
  · intro x2
    show kv_X _ _ _ _ _ 30 [(3, .int x2)] [] (c, m, f, u)
    refine kv_iload_n (pc := 30) 0 rfl rfl dk_D_nodeOf_30 ?_
    exact kv_iret (pc := 31) (fun h => h) rfl dk_D_nodeOf_31
  · show kv_X _ _ _ _ _ 38 [(0, .ref 84), (1, .int p1), (2, .int p2)] [] (c, m, f, u)
    refine kv_aload_n (pc := 38) 0 rfl rfl dk_D_nodeOf_38 ?_
    refine kv_getR (pc := 39) kf_D_38 kr_84 rfl kt_84_11 dk_D_nodeOf_39 ?_
    refine kv_aload_n (pc := 42) 0 rfl rfl dk_D_nodeOf_42 ?_
    refine kv_getM (pc := 43) kf_D_144 kr_84 kn_84 rfl dk_D_nodeOf_43 ?_
    refine kv_iload_n (pc := 46) 1 rfl rfl dk_D_nodeOf_46 ?_
    refine kv_guard (fun g4 => ?_)
    refine kv_astM (pc := 47) kr_94 kn_94 kl_94 g4 rfl dk_D_nodeOf_47 (fun m5 => ?_)
    refine kv_aload_n (pc := 48) 0 rfl rfl dk_D_nodeOf_48 ?_
    refine kv_getR (pc := 49) kf_D_41 kr_84 rfl kt_84_12 dk_D_nodeOf_49 ?_
    refine kv_aload_n (pc := 52) 0 rfl rfl dk_D_nodeOf_52 ?_
    refine kv_getM (pc := 53) kf_D_144 kr_84 kn_84 rfl dk_D_nodeOf_53 ?_
    refine kv_iload_n (pc := 56) 2 rfl rfl dk_D_nodeOf_56 ?_
    refine kv_guard (fun g6 => ?_)
    refine kv_astM (pc := 57) kr_95 kn_95 kl_95 g6 rfl dk_D_nodeOf_57 (fun m7 => ?_)
    refine kv_aload_n (pc := 58) 0 rfl rfl dk_D_nodeOf_58 ?_
    refine kv_dupR (pc := 59) dk_D_nodeOf_59 ?_
    refine kv_getM (pc := 60) kf_D_144 kr_84 kn_84 rfl dk_D_nodeOf_60 ?_
    refine kv_iconst (pc := 63) (v := (1 : Int32)) dk_D_nodeOf_63 kki_1 ?_
    refine kv_iadd (pc := 64) dk_D_nodeOf_64 ?_
    refine kv_putM (pc := 65) kf_D_144 kr_84 kn_84 rfl rfl rfl dk_D_nodeOf_65 (fun m8 => ?_)
    refine kv_aload_n (pc := 68) 0 rfl rfl dk_D_nodeOf_68 ?_
    refine kv_getM (pc := 69) kf_D_144 kr_84 kn_84 rfl dk_D_nodeOf_69 ?_
    refine kv_iconst (pc := 72) (v := (1 : Int32)) dk_D_nodeOf_72 kki_1 ?_
    refine kv_isub (pc := 73) dk_D_nodeOf_73 ?_
    exact kv_iret (pc := 74) (fun h => h) rfl dk_D_nodeOf_74
  · intro hx2_0 hx2_1 x1
    show kv_X _ _ _ _ (fb_D_nodeOf_2 m p1 p2 x1) 2 [(0, .ref 84), (1, .int p1), (2, .int p2), (3, .int x1)] [] (c, m, f, u)
    unfold fb_D_nodeOf_2
    refine kv_iload_n (pc := 2) 3 rfl rfl dk_D_nodeOf_2 ?_
    refine kv_aload_n (pc := 3) 0 rfl rfl dk_D_nodeOf_3 ?_
    refine kv_getM (pc := 4) kf_D_144 kr_84 kn_84 rfl dk_D_nodeOf_4 ?_
    refine kv_icmp_ge (pc := 7) (tgt := 38) dk_D_nodeOf_7 rfl ?_ ?_
    · exact kv_sub [0, 1, 2] rfl (kv_leaf (hx2_1))
    · refine kv_aload_n (pc := 10) 0 rfl rfl dk_D_nodeOf_10 ?_
      refine kv_getR (pc := 11) kf_D_38 kr_84 rfl kt_84_11 dk_D_nodeOf_11 ?_
      refine kv_iload_n (pc := 14) 3 rfl rfl dk_D_nodeOf_14 ?_
      refine kv_guard (fun g3 => ?_)
      refine kv_aldM (pc := 15) kr_94 kn_94 kl_94 g3 rfl dk_D_nodeOf_15 ?_
      refine kv_iload_n (pc := 16) 1 rfl rfl dk_D_nodeOf_16 ?_
      refine kv_cut_0 (J := fj_D_nodeOf_32 x1) (pcj := 32) (LJ := [(0, .ref 84), (1, .int p1), (2, .int p2), (3, .int x1)]) (SJ := []) (WJ := (c, m, f, u)) ?_ (fun hj32 => ?_)
      · show kv_X _ _ _ _ (fj_D_nodeOf_32 x1) 32 [(0, .ref 84), (1, .int p1), (2, .int p2), (3, .int x1)] [] (c, m, f, u)
        unfold fj_D_nodeOf_32
        refine kv_iinc (pc := 32) (kk := (1 : Int32)) (lv' := [(3, .int (x1 + (1 : Int32))), (0, .ref 84), (1, .int p1), (2, .int p2)]) 3 rfl kki_1 rfl (Nat.le_of_ble_eq_true rfl) dk_D_nodeOf_32 ?_
        refine kv_goto (pc := 35) (tgt := 2) dk_D_nodeOf_35 rfl ?_
        exact kv_sub [1, 2, 3, 0] rfl (kv_leaf (fun h => h))
      refine kv_icmp_ne (pc := 17) (tgt := 32) dk_D_nodeOf_17 rfl ?_ ?_
      · exact hj32
      · refine kv_aload_n (pc := 20) 0 rfl rfl dk_D_nodeOf_20 ?_
        refine kv_getR (pc := 21) kf_D_41 kr_84 rfl kt_84_12 dk_D_nodeOf_21 ?_
        refine kv_iload_n (pc := 24) 3 rfl rfl dk_D_nodeOf_24 ?_
        refine kv_aldM (pc := 25) kr_95 kn_95 kl_95 g3 rfl dk_D_nodeOf_25 ?_
        refine kv_iload_n (pc := 26) 2 rfl rfl dk_D_nodeOf_26 ?_
        refine kv_icmp_ne (pc := 27) (tgt := 32) dk_D_nodeOf_27 rfl ?_ ?_
        · exact hj32
        · exact kv_sub [3] rfl (kv_leaf (hx2_0 _))
theorem dk_D_fitsLong_0 : decode prog_13_method_40_code 0 = .ok (.aload_n 0, 1) := by decide +kernel
theorem dk_D_fitsLong_1 : decode prog_13_method_40_code 1 = .ok (.iconst 0, 1) := by decide +kernel
theorem dk_D_fitsLong_2 : decode prog_13_method_40_code 2 = .ok (.putfield 144, 3) := by decide +kernel
theorem dk_D_fitsLong_5 : decode prog_13_method_40_code 5 = .ok (.iload_n 1, 1) := by decide +kernel
theorem dk_D_fitsLong_6 : decode prog_13_method_40_code 6 = .ok (.ifCond .lt 20, 3) := by decide +kernel
theorem dk_D_fitsLong_9 : decode prog_13_method_40_code 9 = .ok (.aload_n 0, 1) := by decide +kernel
theorem dk_D_fitsLong_10 : decode prog_13_method_40_code 10 = .ok (.iload_n 1, 1) := by decide +kernel
theorem dk_D_fitsLong_11 : decode prog_13_method_40_code 11 = .ok (.iload_n 2, 1) := by decide +kernel
theorem dk_D_fitsLong_12 : decode prog_13_method_40_code 12 = .ok (.invokevirtual 180, 3) := by decide +kernel
theorem dk_D_fitsLong_15 : decode prog_13_method_40_code 15 = .ok (.istore 5, 2) := by decide +kernel
theorem dk_D_fitsLong_17 : decode prog_13_method_40_code 17 = .ok (.aload_n 0, 1) := by decide +kernel
theorem dk_D_fitsLong_18 : decode prog_13_method_40_code 18 = .ok (.iload_n 3, 1) := by decide +kernel
theorem dk_D_fitsLong_19 : decode prog_13_method_40_code 19 = .ok (.iload 4, 2) := by decide +kernel
theorem dk_D_fitsLong_21 : decode prog_13_method_40_code 21 = .ok (.invokevirtual 180, 3) := by decide +kernel
theorem dk_D_fitsLong_24 : decode prog_13_method_40_code 24 = .ok (.istore 5, 2) := by decide +kernel
theorem dk_D_fitsLong_26 : decode prog_13_method_40_code 26 = .ok (.iconst 0, 1) := by decide +kernel
theorem dk_D_fitsLong_27 : decode prog_13_method_40_code 27 = .ok (.istore 6, 2) := by decide +kernel
theorem dk_D_fitsLong_29 : decode prog_13_method_40_code 29 = .ok (.iload 6, 2) := by decide +kernel
theorem dk_D_fitsLong_31 : decode prog_13_method_40_code 31 = .ok (.aload_n 0, 1) := by decide +kernel
theorem dk_D_fitsLong_32 : decode prog_13_method_40_code 32 = .ok (.getfield 9, 3) := by decide +kernel
theorem dk_D_fitsLong_35 : decode prog_13_method_40_code 35 = .ok (.iconst 2, 1) := by decide +kernel
theorem dk_D_fitsLong_36 : decode prog_13_method_40_code 36 = .ok (.iaload, 1) := by decide +kernel
theorem dk_D_fitsLong_37 : decode prog_13_method_40_code 37 = .ok (.if_icmp .ge 83, 3) := by decide +kernel
theorem dk_D_fitsLong_40 : decode prog_13_method_40_code 40 = .ok (.aload_n 0, 1) := by decide +kernel
theorem dk_D_fitsLong_41 : decode prog_13_method_40_code 41 = .ok (.iload 6, 2) := by decide +kernel
theorem dk_D_fitsLong_43 : decode prog_13_method_40_code 43 = .ok (.invokevirtual 183, 3) := by decide +kernel
theorem dk_D_fitsLong_46 : decode prog_13_method_40_code 46 = .ok (.ifCond .ne 6, 3) := by decide +kernel
theorem dk_D_fitsLong_49 : decode prog_13_method_40_code 49 = .ok (.goto 65, 3) := by decide +kernel
theorem dk_D_fitsLong_52 : decode prog_13_method_40_code 52 = .ok (.aload_n 0, 1) := by decide +kernel
theorem dk_D_fitsLong_53 : decode prog_13_method_40_code 53 = .ok (.aload_n 0, 1) := by decide +kernel
theorem dk_D_fitsLong_54 : decode prog_13_method_40_code 54 = .ok (.aload_n 0, 1) := by decide +kernel
theorem dk_D_fitsLong_55 : decode prog_13_method_40_code 55 = .ok (.iload 6, 2) := by decide +kernel
theorem dk_D_fitsLong_57 : decode prog_13_method_40_code 57 = .ok (.iconst 1, 1) := by decide +kernel
theorem dk_D_fitsLong_58 : decode prog_13_method_40_code 58 = .ok (.invokevirtual 141, 3) := by decide +kernel
theorem dk_D_fitsLong_61 : decode prog_13_method_40_code 61 = .ok (.aload_n 0, 1) := by decide +kernel
theorem dk_D_fitsLong_62 : decode prog_13_method_40_code 62 = .ok (.iload 6, 2) := by decide +kernel
theorem dk_D_fitsLong_64 : decode prog_13_method_40_code 64 = .ok (.iconst 0, 1) := by decide +kernel
theorem dk_D_fitsLong_65 : decode prog_13_method_40_code 65 = .ok (.invokevirtual 141, 3) := by decide +kernel
theorem dk_D_fitsLong_68 : decode prog_13_method_40_code 68 = .ok (.invokevirtual 186, 3) := by decide +kernel
theorem dk_D_fitsLong_71 : decode prog_13_method_40_code 71 = .ok (.aload_n 0, 1) := by decide +kernel
theorem dk_D_fitsLong_72 : decode prog_13_method_40_code 72 = .ok (.iload 6, 2) := by decide +kernel
theorem dk_D_fitsLong_74 : decode prog_13_method_40_code 74 = .ok (.iconst 0, 1) := by decide +kernel
theorem dk_D_fitsLong_75 : decode prog_13_method_40_code 75 = .ok (.invokevirtual 141, 3) := by decide +kernel
theorem dk_D_fitsLong_78 : decode prog_13_method_40_code 78 = .ok (.invokevirtual 180, 3) := by decide +kernel
theorem dk_D_fitsLong_81 : decode prog_13_method_40_code 81 = .ok (.istore 5, 2) := by decide +kernel
theorem dk_D_fitsLong_83 : decode prog_13_method_40_code 83 = .ok (.aload_n 0, 1) := by decide +kernel
theorem dk_D_fitsLong_84 : decode prog_13_method_40_code 84 = .ok (.aload_n 0, 1) := by decide +kernel
theorem dk_D_fitsLong_85 : decode prog_13_method_40_code 85 = .ok (.aload_n 0, 1) := by decide +kernel
theorem dk_D_fitsLong_86 : decode prog_13_method_40_code 86 = .ok (.iload 6, 2) := by decide +kernel
theorem dk_D_fitsLong_88 : decode prog_13_method_40_code 88 = .ok (.iconst 2, 1) := by decide +kernel
theorem dk_D_fitsLong_89 : decode prog_13_method_40_code 89 = .ok (.invokevirtual 141, 3) := by decide +kernel
theorem dk_D_fitsLong_92 : decode prog_13_method_40_code 92 = .ok (.aload_n 0, 1) := by decide +kernel
theorem dk_D_fitsLong_93 : decode prog_13_method_40_code 93 = .ok (.iload 6, 2) := by decide +kernel
theorem dk_D_fitsLong_95 : decode prog_13_method_40_code 95 = .ok (.iconst 0, 1) := by decide +kernel
theorem dk_D_fitsLong_96 : decode prog_13_method_40_code 96 = .ok (.invokevirtual 141, 3) := by decide +kernel
theorem dk_D_fitsLong_99 : decode prog_13_method_40_code 99 = .ok (.invokevirtual 186, 3) := by decide +kernel
theorem dk_D_fitsLong_102 : decode prog_13_method_40_code 102 = .ok (.aload_n 0, 1) := by decide +kernel
theorem dk_D_fitsLong_103 : decode prog_13_method_40_code 103 = .ok (.iload 6, 2) := by decide +kernel
theorem dk_D_fitsLong_105 : decode prog_13_method_40_code 105 = .ok (.iconst 0, 1) := by decide +kernel
theorem dk_D_fitsLong_106 : decode prog_13_method_40_code 106 = .ok (.invokevirtual 141, 3) := by decide +kernel
theorem dk_D_fitsLong_109 : decode prog_13_method_40_code 109 = .ok (.invokevirtual 180, 3) := by decide +kernel
theorem dk_D_fitsLong_112 : decode prog_13_method_40_code 112 = .ok (.istore 5, 2) := by decide +kernel
theorem dk_D_fitsLong_114 : decode prog_13_method_40_code 114 = .ok (.iinc 6 1, 3) := by decide +kernel
theorem dk_D_fitsLong_117 : decode prog_13_method_40_code 117 = .ok (.goto (-88), 3) := by decide +kernel
theorem dk_D_fitsLong_120 : decode prog_13_method_40_code 120 = .ok (.aload_n 0, 1) := by decide +kernel
theorem dk_D_fitsLong_121 : decode prog_13_method_40_code 121 = .ok (.aload_n 0, 1) := by decide +kernel
theorem dk_D_fitsLong_122 : decode prog_13_method_40_code 122 = .ok (.getfield 144, 3) := by decide +kernel
theorem dk_D_fitsLong_125 : decode prog_13_method_40_code 125 = .ok (.invokevirtual 157, 3) := by decide +kernel
theorem dk_D_fitsLong_128 : decode prog_13_method_40_code 128 = .ok (.iconst 0, 1) := by decide +kernel
theorem dk_D_fitsLong_129 : decode prog_13_method_40_code 129 = .ok (.istore 6, 2) := by decide +kernel
theorem dk_D_fitsLong_131 : decode prog_13_method_40_code 131 = .ok (.iload 6, 2) := by decide +kernel
theorem dk_D_fitsLong_133 : decode prog_13_method_40_code 133 = .ok (.aload_n 0, 1) := by decide +kernel
theorem dk_D_fitsLong_134 : decode prog_13_method_40_code 134 = .ok (.getfield 9, 3) := by decide +kernel
theorem dk_D_fitsLong_137 : decode prog_13_method_40_code 137 = .ok (.iconst 2, 1) := by decide +kernel
theorem dk_D_fitsLong_138 : decode prog_13_method_40_code 138 = .ok (.iaload, 1) := by decide +kernel
theorem dk_D_fitsLong_139 : decode prog_13_method_40_code 139 = .ok (.if_icmp .ge 82, 3) := by decide +kernel
theorem dk_D_fitsLong_142 : decode prog_13_method_40_code 142 = .ok (.aload_n 0, 1) := by decide +kernel
theorem dk_D_fitsLong_143 : decode prog_13_method_40_code 143 = .ok (.iload 6, 2) := by decide +kernel
theorem dk_D_fitsLong_145 : decode prog_13_method_40_code 145 = .ok (.invokevirtual 183, 3) := by decide +kernel
theorem dk_D_fitsLong_148 : decode prog_13_method_40_code 148 = .ok (.ifCond .eq 67, 3) := by decide +kernel
theorem dk_D_fitsLong_151 : decode prog_13_method_40_code 151 = .ok (.aload_n 0, 1) := by decide +kernel
theorem dk_D_fitsLong_152 : decode prog_13_method_40_code 152 = .ok (.iload 6, 2) := by decide +kernel
theorem dk_D_fitsLong_154 : decode prog_13_method_40_code 154 = .ok (.aload_n 0, 1) := by decide +kernel
theorem dk_D_fitsLong_155 : decode prog_13_method_40_code 155 = .ok (.aload_n 0, 1) := by decide +kernel
theorem dk_D_fitsLong_156 : decode prog_13_method_40_code 156 = .ok (.aload_n 0, 1) := by decide +kernel
theorem dk_D_fitsLong_157 : decode prog_13_method_40_code 157 = .ok (.iload 6, 2) := by decide +kernel
theorem dk_D_fitsLong_159 : decode prog_13_method_40_code 159 = .ok (.iconst 1, 1) := by decide +kernel
theorem dk_D_fitsLong_160 : decode prog_13_method_40_code 160 = .ok (.invokevirtual 141, 3) := by decide +kernel
theorem dk_D_fitsLong_163 : decode prog_13_method_40_code 163 = .ok (.aload_n 0, 1) := by decide +kernel
theorem dk_D_fitsLong_164 : decode prog_13_method_40_code 164 = .ok (.iload 6, 2) := by decide +kernel
theorem dk_D_fitsLong_166 : decode prog_13_method_40_code 166 = .ok (.iconst 0, 1) := by decide +kernel
theorem dk_D_fitsLong_167 : decode prog_13_method_40_code 167 = .ok (.invokevirtual 141, 3) := by decide +kernel
theorem dk_D_fitsLong_170 : decode prog_13_method_40_code 170 = .ok (.invokevirtual 186, 3) := by decide +kernel
theorem dk_D_fitsLong_173 : decode prog_13_method_40_code 173 = .ok (.aload_n 0, 1) := by decide +kernel
theorem dk_D_fitsLong_174 : decode prog_13_method_40_code 174 = .ok (.iload 6, 2) := by decide +kernel
theorem dk_D_fitsLong_176 : decode prog_13_method_40_code 176 = .ok (.iconst 0, 1) := by decide +kernel
theorem dk_D_fitsLong_177 : decode prog_13_method_40_code 177 = .ok (.invokevirtual 141, 3) := by decide +kernel
theorem dk_D_fitsLong_180 : decode prog_13_method_40_code 180 = .ok (.invokevirtual 180, 3) := by decide +kernel
theorem dk_D_fitsLong_183 : decode prog_13_method_40_code 183 = .ok (.aload_n 0, 1) := by decide +kernel
theorem dk_D_fitsLong_184 : decode prog_13_method_40_code 184 = .ok (.aload_n 0, 1) := by decide +kernel
theorem dk_D_fitsLong_185 : decode prog_13_method_40_code 185 = .ok (.aload_n 0, 1) := by decide +kernel
theorem dk_D_fitsLong_186 : decode prog_13_method_40_code 186 = .ok (.iload 6, 2) := by decide +kernel
theorem dk_D_fitsLong_188 : decode prog_13_method_40_code 188 = .ok (.iconst 2, 1) := by decide +kernel
theorem dk_D_fitsLong_189 : decode prog_13_method_40_code 189 = .ok (.invokevirtual 141, 3) := by decide +kernel
theorem dk_D_fitsLong_192 : decode prog_13_method_40_code 192 = .ok (.aload_n 0, 1) := by decide +kernel
theorem dk_D_fitsLong_193 : decode prog_13_method_40_code 193 = .ok (.iload 6, 2) := by decide +kernel
theorem dk_D_fitsLong_195 : decode prog_13_method_40_code 195 = .ok (.iconst 0, 1) := by decide +kernel
theorem dk_D_fitsLong_196 : decode prog_13_method_40_code 196 = .ok (.invokevirtual 141, 3) := by decide +kernel
theorem dk_D_fitsLong_199 : decode prog_13_method_40_code 199 = .ok (.invokevirtual 186, 3) := by decide +kernel
theorem dk_D_fitsLong_202 : decode prog_13_method_40_code 202 = .ok (.aload_n 0, 1) := by decide +kernel
theorem dk_D_fitsLong_203 : decode prog_13_method_40_code 203 = .ok (.iload 6, 2) := by decide +kernel
theorem dk_D_fitsLong_205 : decode prog_13_method_40_code 205 = .ok (.iconst 0, 1) := by decide +kernel
theorem dk_D_fitsLong_206 : decode prog_13_method_40_code 206 = .ok (.invokevirtual 141, 3) := by decide +kernel
theorem dk_D_fitsLong_209 : decode prog_13_method_40_code 209 = .ok (.invokevirtual 180, 3) := by decide +kernel
theorem dk_D_fitsLong_212 : decode prog_13_method_40_code 212 = .ok (.invokevirtual 153, 3) := by decide +kernel
theorem dk_D_fitsLong_215 : decode prog_13_method_40_code 215 = .ok (.iinc 6 1, 3) := by decide +kernel
theorem dk_D_fitsLong_218 : decode prog_13_method_40_code 218 = .ok (.goto (-87), 3) := by decide +kernel
theorem dk_D_fitsLong_221 : decode prog_13_method_40_code 221 = .ok (.iconst 0, 1) := by decide +kernel
theorem dk_D_fitsLong_222 : decode prog_13_method_40_code 222 = .ok (.istore 6, 2) := by decide +kernel
theorem dk_D_fitsLong_224 : decode prog_13_method_40_code 224 = .ok (.iload 6, 2) := by decide +kernel
theorem dk_D_fitsLong_226 : decode prog_13_method_40_code 226 = .ok (.aload_n 0, 1) := by decide +kernel
theorem dk_D_fitsLong_227 : decode prog_13_method_40_code 227 = .ok (.getfield 144, 3) := by decide +kernel
theorem dk_D_fitsLong_230 : decode prog_13_method_40_code 230 = .ok (.if_icmp .ge 153, 3) := by decide +kernel
theorem dk_D_fitsLong_233 : decode prog_13_method_40_code 233 = .ok (.iconst 0, 1) := by decide +kernel
theorem dk_D_fitsLong_234 : decode prog_13_method_40_code 234 = .ok (.istore 7, 2) := by decide +kernel
theorem dk_D_fitsLong_236 : decode prog_13_method_40_code 236 = .ok (.iload 7, 2) := by decide +kernel
theorem dk_D_fitsLong_238 : decode prog_13_method_40_code 238 = .ok (.aload_n 0, 1) := by decide +kernel
theorem dk_D_fitsLong_239 : decode prog_13_method_40_code 239 = .ok (.getfield 144, 3) := by decide +kernel
theorem dk_D_fitsLong_242 : decode prog_13_method_40_code 242 = .ok (.if_icmp .ge 135, 3) := by decide +kernel
theorem dk_D_fitsLong_245 : decode prog_13_method_40_code 245 = .ok (.aload_n 0, 1) := by decide +kernel
theorem dk_D_fitsLong_246 : decode prog_13_method_40_code 246 = .ok (.getfield 38, 3) := by decide +kernel
theorem dk_D_fitsLong_249 : decode prog_13_method_40_code 249 = .ok (.iload 6, 2) := by decide +kernel
theorem dk_D_fitsLong_251 : decode prog_13_method_40_code 251 = .ok (.iaload, 1) := by decide +kernel
theorem dk_D_fitsLong_252 : decode prog_13_method_40_code 252 = .ok (.aload_n 0, 1) := by decide +kernel
theorem dk_D_fitsLong_253 : decode prog_13_method_40_code 253 = .ok (.getfield 38, 3) := by decide +kernel
theorem dk_D_fitsLong_256 : decode prog_13_method_40_code 256 = .ok (.iload 7, 2) := by decide +kernel
theorem dk_D_fitsLong_258 : decode prog_13_method_40_code 258 = .ok (.iaload, 1) := by decide +kernel
theorem dk_D_fitsLong_259 : decode prog_13_method_40_code 259 = .ok (.if_icmp .ne 112, 3) := by decide +kernel
theorem dk_D_fitsLong_262 : decode prog_13_method_40_code 262 = .ok (.aload_n 0, 1) := by decide +kernel
theorem dk_D_fitsLong_263 : decode prog_13_method_40_code 263 = .ok (.getfield 41, 3) := by decide +kernel
theorem dk_D_fitsLong_266 : decode prog_13_method_40_code 266 = .ok (.iload 7, 2) := by decide +kernel
theorem dk_D_fitsLong_268 : decode prog_13_method_40_code 268 = .ok (.iaload, 1) := by decide +kernel
theorem dk_D_fitsLong_269 : decode prog_13_method_40_code 269 = .ok (.aload_n 0, 1) := by decide +kernel
theorem dk_D_fitsLong_270 : decode prog_13_method_40_code 270 = .ok (.getfield 41, 3) := by decide +kernel
theorem dk_D_fitsLong_273 : decode prog_13_method_40_code 273 = .ok (.iload 6, 2) := by decide +kernel
theorem dk_D_fitsLong_275 : decode prog_13_method_40_code 275 = .ok (.iaload, 1) := by decide +kernel
theorem dk_D_fitsLong_276 : decode prog_13_method_40_code 276 = .ok (.if_icmp .gt 6, 3) := by decide +kernel
theorem dk_D_fitsLong_279 : decode prog_13_method_40_code 279 = .ok (.goto 92, 3) := by decide +kernel
theorem dk_D_fitsLong_282 : decode prog_13_method_40_code 282 = .ok (.aload_n 0, 1) := by decide +kernel
theorem dk_D_fitsLong_283 : decode prog_13_method_40_code 283 = .ok (.getfield 41, 3) := by decide +kernel
theorem dk_D_fitsLong_286 : decode prog_13_method_40_code 286 = .ok (.iload 7, 2) := by decide +kernel
theorem dk_D_fitsLong_288 : decode prog_13_method_40_code 288 = .ok (.iaload, 1) := by decide +kernel
theorem dk_D_fitsLong_289 : decode prog_13_method_40_code 289 = .ok (.aload_n 0, 1) := by decide +kernel
theorem dk_D_fitsLong_290 : decode prog_13_method_40_code 290 = .ok (.getfield 41, 3) := by decide +kernel
theorem dk_D_fitsLong_293 : decode prog_13_method_40_code 293 = .ok (.iload 6, 2) := by decide +kernel
theorem dk_D_fitsLong_295 : decode prog_13_method_40_code 295 = .ok (.iaload, 1) := by decide +kernel
theorem dk_D_fitsLong_296 : decode prog_13_method_40_code 296 = .ok (.isub, 1) := by decide +kernel
theorem dk_D_fitsLong_297 : decode prog_13_method_40_code 297 = .ok (.i2l, 1) := by decide +kernel
theorem dk_D_fitsLong_298 : decode prog_13_method_40_code 298 = .ok (.lstore 8, 2) := by decide +kernel
theorem dk_D_fitsLong_300 : decode prog_13_method_40_code 300 = .ok (.aload_n 0, 1) := by decide +kernel
theorem dk_D_fitsLong_301 : decode prog_13_method_40_code 301 = .ok (.aload_n 0, 1) := by decide +kernel
theorem dk_D_fitsLong_302 : decode prog_13_method_40_code 302 = .ok (.getfield 38, 3) := by decide +kernel
theorem dk_D_fitsLong_305 : decode prog_13_method_40_code 305 = .ok (.iload 6, 2) := by decide +kernel
theorem dk_D_fitsLong_307 : decode prog_13_method_40_code 307 = .ok (.iaload, 1) := by decide +kernel
theorem dk_D_fitsLong_308 : decode prog_13_method_40_code 308 = .ok (.iconst 0, 1) := by decide +kernel
theorem dk_D_fitsLong_309 : decode prog_13_method_40_code 309 = .ok (.invokevirtual 68, 3) := by decide +kernel
theorem dk_D_fitsLong_312 : decode prog_13_method_40_code 312 = .ok (.bipush 7, 2) := by decide +kernel
theorem dk_D_fitsLong_314 : decode prog_13_method_40_code 314 = .ok (.if_icmp .ne 7, 3) := by decide +kernel
theorem dk_D_fitsLong_317 : decode prog_13_method_40_code 317 = .ok (.iconst 1, 1) := by decide +kernel
theorem dk_D_fitsLong_318 : decode prog_13_method_40_code 318 = .ok (.goto 4, 3) := by decide +kernel
theorem dk_D_fitsLong_321 : decode prog_13_method_40_code 321 = .ok (.iconst 0, 1) := by decide +kernel
theorem dk_D_fitsLong_322 : decode prog_13_method_40_code 322 = .ok (.istore 10, 2) := by decide +kernel
theorem dk_D_fitsLong_324 : decode prog_13_method_40_code 324 = .ok (.aload_n 0, 1) := by decide +kernel
theorem dk_D_fitsLong_325 : decode prog_13_method_40_code 325 = .ok (.iload 7, 2) := by decide +kernel
theorem dk_D_fitsLong_327 : decode prog_13_method_40_code 327 = .ok (.iload 6, 2) := by decide +kernel
theorem dk_D_fitsLong_329 : decode prog_13_method_40_code 329 = .ok (.iload 10, 2) := by decide +kernel
theorem dk_D_fitsLong_331 : decode prog_13_method_40_code 331 = .ok (.ifCond .eq 7, 3) := by decide +kernel
theorem dk_D_fitsLong_334 : decode prog_13_method_40_code 334 = .ok (.lconst 0, 1) := by decide +kernel
theorem dk_D_fitsLong_335 : decode prog_13_method_40_code 335 = .ok (.goto 13, 3) := by decide +kernel
theorem dk_D_fitsLong_338 : decode prog_13_method_40_code 338 = .ok (.lload 8, 2) := by decide +kernel
theorem dk_D_fitsLong_340 : decode prog_13_method_40_code 340 = .ok (.aload_n 0, 1) := by decide +kernel
theorem dk_D_fitsLong_341 : decode prog_13_method_40_code 341 = .ok (.getfield 9, 3) := by decide +kernel
theorem dk_D_fitsLong_344 : decode prog_13_method_40_code 344 = .ok (.iconst 5, 1) := by decide +kernel
theorem dk_D_fitsLong_345 : decode prog_13_method_40_code 345 = .ok (.iaload, 1) := by decide +kernel
theorem dk_D_fitsLong_346 : decode prog_13_method_40_code 346 = .ok (.i2l, 1) := by decide +kernel
theorem dk_D_fitsLong_347 : decode prog_13_method_40_code 347 = .ok (.lmul, 1) := by decide +kernel
theorem dk_D_fitsLong_348 : decode prog_13_method_40_code 348 = .ok (.iload 10, 2) := by decide +kernel
theorem dk_D_fitsLong_350 : decode prog_13_method_40_code 350 = .ok (.ifCond .eq 7, 3) := by decide +kernel
theorem dk_D_fitsLong_353 : decode prog_13_method_40_code 353 = .ok (.lconst 0, 1) := by decide +kernel
theorem dk_D_fitsLong_354 : decode prog_13_method_40_code 354 = .ok (.goto 14, 3) := by decide +kernel
theorem dk_D_fitsLong_357 : decode prog_13_method_40_code 357 = .ok (.lload 8, 2) := by decide +kernel
theorem dk_D_fitsLong_359 : decode prog_13_method_40_code 359 = .ok (.aload_n 0, 1) := by decide +kernel
theorem dk_D_fitsLong_360 : decode prog_13_method_40_code 360 = .ok (.getfield 9, 3) := by decide +kernel
theorem dk_D_fitsLong_363 : decode prog_13_method_40_code 363 = .ok (.bipush 6, 2) := by decide +kernel
theorem dk_D_fitsLong_365 : decode prog_13_method_40_code 365 = .ok (.iaload, 1) := by decide +kernel
theorem dk_D_fitsLong_366 : decode prog_13_method_40_code 366 = .ok (.i2l, 1) := by decide +kernel
theorem dk_D_fitsLong_367 : decode prog_13_method_40_code 367 = .ok (.lmul, 1) := by decide +kernel
theorem dk_D_fitsLong_368 : decode prog_13_method_40_code 368 = .ok (.invokevirtual 149, 3) := by decide +kernel
theorem dk_D_fitsLong_371 : decode prog_13_method_40_code 371 = .ok (.iinc 7 1, 3) := by decide +kernel
theorem dk_D_fitsLong_374 : decode prog_13_method_40_code 374 = .ok (.goto (-138), 3) := by decide +kernel
theorem dk_D_fitsLong_377 : decode prog_13_method_40_code 377 = .ok (.iinc 6 1, 3) := by decide +kernel
theorem dk_D_fitsLong_380 : decode prog_13_method_40_code 380 = .ok (.goto (-156), 3) := by decide +kernel
theorem dk_D_fitsLong_383 : decode prog_13_method_40_code 383 = .ok (.aload_n 0, 1) := by decide +kernel
theorem dk_D_fitsLong_384 : decode prog_13_method_40_code 384 = .ok (.invokevirtual 165, 3) := by decide +kernel
theorem dk_D_fitsLong_387 : decode prog_13_method_40_code 387 = .ok (.ireturn, 1) := by decide +kernel
noncomputable def fj_D_fitsLong_114 (x3 : Int32) (m7 : (Nat → Nat → Int32)) : Option ((Int32 × (Nat → Nat → Int32)) ⊕ (Nat → Nat → Int32)) :=
  some (.inl ((x3 + (1 : Int32)), m7))
noncomputable def fb_D_fitsLong_29 (x3 : Int32) (m4 : (Nat → Nat → Int32)) : Option ((Int32 × (Nat → Nat → Int32)) ⊕ (Nat → Nat → Int32)) :=
  if (m4 85 2) ≤ x3 then
    some (.inr m4)
  else
    kv_bind1 (fx_D_isAsked x3 m4) (fun b6 =>
    if b6 = true then
      kv_bind1 (fx_D_say x3 (1 : Int32) m4) (fun v8 =>
      kv_bind1 (fx_D_say x3 (0 : Int32) m4) (fun v9 =>
      kv_bind1 (fx_D_labelOf v8 v9 m4) (fun v10 =>
      kv_bind1 (fx_D_say x3 (0 : Int32) m4) (fun v11 =>
      kv_bind2 (fx_D_nodeOf v10 v11 m4) (fun v12 m13 =>
      kv_bind1 (fx_D_say x3 (2 : Int32) m13) (fun v14 =>
      kv_bind1 (fx_D_say x3 (0 : Int32) m13) (fun v15 =>
      kv_bind1 (fx_D_labelOf v14 v15 m13) (fun v16 =>
      kv_bind1 (fx_D_say x3 (0 : Int32) m13) (fun v17 =>
      kv_bind2 (fx_D_nodeOf v16 v17 m13) (fun v18 m19 =>
      fj_D_fitsLong_114 x3 m19))))))))))
    else
      fj_D_fitsLong_114 x3 m4)
noncomputable def fj_D_fitsLong_215 (x22 : Int32) (m28 : (Nat → Nat → Int32)) (f29 : (Nat → Int64)) : Option ((Int32 × (Nat → Nat → Int32) × (Nat → Int64)) ⊕ ((Nat → Nat → Int32) × (Nat → Int64))) :=
  some (.inl ((x22 + (1 : Int32)), m28, f29))
noncomputable def fb_D_fitsLong_131 (x22 : Int32) (m23 : (Nat → Nat → Int32)) (f24 : (Nat → Int64)) : Option ((Int32 × (Nat → Nat → Int32) × (Nat → Int64)) ⊕ ((Nat → Nat → Int32) × (Nat → Int64))) :=
  if (m23 85 2) ≤ x22 then
    some (.inr (m23, f24))
  else
    kv_bind1 (fx_D_isAsked x22 m23) (fun b27 =>
    if b27 = true then
      kv_bind1 (fx_D_say x22 (1 : Int32) m23) (fun v30 =>
      kv_bind1 (fx_D_say x22 (0 : Int32) m23) (fun v31 =>
      kv_bind1 (fx_D_labelOf v30 v31 m23) (fun v32 =>
      kv_bind1 (fx_D_say x22 (0 : Int32) m23) (fun v33 =>
      kv_bind2 (fx_D_nodeOf v32 v33 m23) (fun v34 m35 =>
      kv_bind1 (fx_D_say x22 (2 : Int32) m35) (fun v36 =>
      kv_bind1 (fx_D_say x22 (0 : Int32) m35) (fun v37 =>
      kv_bind1 (fx_D_labelOf v36 v37 m35) (fun v38 =>
      kv_bind1 (fx_D_say x22 (0 : Int32) m35) (fun v39 =>
      kv_bind2 (fx_D_nodeOf v38 v39 m35) (fun v40 m41 =>
      kv_bind1 (fx_D_weighs x22 v34 v40 m41 f24) (fun f42 =>
      fj_D_fitsLong_215 x22 m41 f42)))))))))))
    else
      fj_D_fitsLong_215 x22 m23 f24)
noncomputable def fj_D_fitsLong_371 (x46 : Int32) (f51 : (Nat → Int64)) : Option ((Int32 × (Nat → Int64)) ⊕ (Nat → Int64)) :=
  some (.inl ((x46 + (1 : Int32)), f51))
noncomputable def fj_D_fitsLong_368 (x46 : Int32) (x43 : Int32) (x55 : Int64) (f47 : (Nat → Int64)) (x56 : Int64) : Option ((Int32 × (Nat → Int64)) ⊕ (Nat → Int64)) :=
  kv_bind1 (fx_D_binds x46 x43 x55 x56 f47) (fun f57 =>
  fj_D_fitsLong_371 x46 f57)
noncomputable def fj_D_fitsLong_348 (x54 : Int32) (x46 : Int32) (x43 : Int32) (f47 : (Nat → Int64)) (v52 : Int64) (m25 : (Nat → Nat → Int32)) (x55 : Int64) : Option ((Int32 × (Nat → Int64)) ⊕ (Nat → Int64)) :=
  if x54 = 0 then
    fj_D_fitsLong_368 x46 x43 x55 f47 (v52 * (m25 85 6).toInt64)
  else
    fj_D_fitsLong_368 x46 x43 x55 f47 (0 : Int64)
noncomputable def fj_D_fitsLong_322 (x46 : Int32) (x43 : Int32) (f47 : (Nat → Int64)) (v52 : Int64) (m25 : (Nat → Nat → Int32)) (x54 : Int32) : Option ((Int32 × (Nat → Int64)) ⊕ (Nat → Int64)) :=
  if x54 = 0 then
    fj_D_fitsLong_348 x54 x46 x43 f47 v52 m25 (v52 * (m25 85 5).toInt64)
  else
    fj_D_fitsLong_348 x54 x46 x43 f47 v52 m25 (0 : Int64)
noncomputable def fb_D_fitsLong_236 (m25 : (Nat → Nat → Int32)) (x43 : Int32) (x46 : Int32) (f47 : (Nat → Int64)) : Option ((Int32 × (Nat → Int64)) ⊕ (Nat → Int64)) :=
  if (m25 84 13) ≤ x46 then
    some (.inr f47)
  else
    kv_gd (kv_in x43 44) (
    kv_gd (kv_in x46 44) (
    if (m25 94 x43.toNatClampNeg) = (m25 94 x46.toNatClampNeg) then
      if (m25 95 x43.toNatClampNeg) < (m25 95 x46.toNatClampNeg) then
        kv_let ((m25 95 x46.toNatClampNeg) - (m25 95 x43.toNatClampNeg)).toInt64 (fun v52 =>
        kv_bind1 (fx_D_get (m25 94 x43.toNatClampNeg) (0 : Int32) m25) (fun v53 =>
        if v53 = (7 : Int32) then
          fj_D_fitsLong_322 x46 x43 f47 v52 m25 (1 : Int32)
        else
          fj_D_fitsLong_322 x46 x43 f47 v52 m25 (0 : Int32)))
      else
        fj_D_fitsLong_371 x46 f47
    else
      fj_D_fitsLong_371 x46 f47))
noncomputable def fb_D_fitsLong_224 (m25 : (Nat → Nat → Int32)) (x43 : Int32) (f44 : (Nat → Int64)) : Option ((Int32 × (Nat → Int64)) ⊕ (Nat → Int64)) :=
  if (m25 84 13) ≤ x43 then
    some (.inr f44)
  else
    (kv_loop (kv_u2 (fb_D_fitsLong_236 m25 x43)) ((0 : Int32), f44)).bind (kv_u1 (fun f48 =>
    some (.inl ((x43 + (1 : Int32)), f48))))
noncomputable def fj_D_fitsLong_26 (f : (Nat → Int64)) (m2 : (Nat → Nat → Int32)) : Option (Bool × (Nat → Nat → Int32) × (Nat → Int64)) :=
  (kv_loop (kv_u2 (fb_D_fitsLong_29)) ((0 : Int32), m2)).bind (kv_u1 (fun m5 =>
  kv_bind2 (fx_D_begins (m5 84 13) m5 f) (fun m20 f21 =>
  (kv_loop (kv_u3 (fb_D_fitsLong_131)) ((0 : Int32), m20, f21)).bind (kv_u2 (fun m25 f26 =>
  (kv_loop (kv_u2 (fb_D_fitsLong_224 m25)) ((0 : Int32), f26)).bind (kv_u1 (fun f45 =>
  kv_bind2 (fx_D_closes m25 f45) (fun b58 f59 =>
  some (b58, m25, f59)))))))))
noncomputable def fx_D_fitsLong (p1 : Int32) (p2 : Int32) (p3 : Int32) (p4 : Int32) (m : (Nat → Nat → Int32)) (f : (Nat → Int64)) : Option (Bool × (Nat → Nat → Int32) × (Nat → Int64)) :=
  kv_let (kv_st m 84 13 (0 : Int32)) (fun m1 =>
  if p1 < 0 then
    fj_D_fitsLong_26 f m1
  else
    kv_bind2 (fx_D_nodeOf p1 p2 m1) (fun v60 m61 =>
    kv_bind2 (fx_D_nodeOf p3 p4 m61) (fun v62 m63 =>
    fj_D_fitsLong_26 f m63)))
set_option maxRecDepth 20000 in
theorem cx_D_fitsLong (d : Nat) (p1 : Int32) (p2 : Int32) (p3 : Int32) (p4 : Int32) (c : (Nat → Nat → Int32)) (m : (Nat → Nat → Int32)) (f : (Nat → Int64)) (u : (Nat → Int64)) : ∀ a, fx_D_fitsLong p1 p2 p3 p4 m f = some a → kv_C kM_D_fitsLong (d + 2) [.ref 84, .int p1, .int p2, .int p3, .int p4] (c, m, f, u) (some (.int (kv_b a.1)), (c, a.2.1, a.2.2, u)) := by
  refine kv_entryX (E := fun a : (Bool × (Nat → Nat → Int32) × (Nat → Int64)) => (some (.int (kv_b a.1)), (c, a.2.1, a.2.2, u))) rfl (Nat.le_of_ble_eq_true rfl) (fun o => ?_)
  unfold fx_D_fitsLong
  show kv_X _ _ _ _ _ 0 [(0, .ref 84), (1, .int p1), (2, .int p2), (3, .int p3), (4, .int p4)] [] (c, m, f, u)
  refine kv_aload_n (pc := 0) 0 rfl rfl dk_D_fitsLong_0 ?_
  refine kv_iconst (pc := 1) (v := (0 : Int32)) dk_D_fitsLong_1 kki_0 ?_
  refine kv_putM (pc := 2) kf_D_144 kr_84 kn_84 rfl rfl rfl dk_D_fitsLong_2 (fun m1 => ?_)
  refine kv_iload_n (pc := 5) 1 rfl rfl dk_D_fitsLong_5 ?_
  refine kv_cut_1 (J := fj_D_fitsLong_26 f) (pcj := 26) (LJ := fun m2 => [(0, .ref 84)]) (SJ := fun m2 => []) (WJ := fun m2 => (c, m2, f, u)) ?_ (fun hj26 => ?_)
  · intro m2
    show kv_X _ _ _ _ (fj_D_fitsLong_26 f m2) 26 [(0, .ref 84)] [] (c, m2, f, u)
    unfold fj_D_fitsLong_26
    refine kv_iconst (pc := 26) (v := (0 : Int32)) dk_D_fitsLong_26 kki_0 ?_
    refine kv_istore (pc := 27) (lv' := [(6, .int (0 : Int32)), (0, .ref 84)]) rfl (Nat.le_of_ble_eq_true rfl) dk_D_fitsLong_27 ?_
    refine kv_sub (lv' := [(0, .ref 84), (6, .int (0 : Int32))]) [1, 0] rfl ?_
    refine kv_lp_2_1 (LV := fun x3 m4 => [(0, .ref 84), (6, .int x3)]) (WW := fun x3 m4 => (c, m4, f, u)) (LE1 := fun m5 => [(0, .ref 84)]) (WE1 := fun m5 => (c, m5, f, u)) (pe1 := 120) ?_ ?_
    · intro m5
      show kv_X _ _ _ _ _ 120 [(0, .ref 84)] [] (c, m5, f, u)
      refine kv_aload_n (pc := 120) 0 rfl rfl dk_D_fitsLong_120 ?_
      refine kv_aload_n (pc := 121) 0 rfl rfl dk_D_fitsLong_121 ?_
      refine kv_getM (pc := 122) kf_D_144 kr_84 kn_84 rfl dk_D_fitsLong_122 ?_
      refine kv_cV_mmf (pc := 125) (as := [.int (m5 84 13)]) (st := []) ko_D_begins kc_11 rfl rfl kr_84 kw_1455 (Nat.le_of_ble_eq_true rfl) rfl dk_D_fitsLong_125 (cx_D_begins (d + 1) (m5 84 13) c m5 f u) (fun m20 f21 => ?_)
      refine kv_iconst (pc := 128) (v := (0 : Int32)) dk_D_fitsLong_128 kki_0 ?_
      refine kv_istore (pc := 129) (lv' := [(6, .int (0 : Int32)), (0, .ref 84)]) rfl (Nat.le_of_ble_eq_true rfl) dk_D_fitsLong_129 ?_
      refine kv_sub (lv' := [(0, .ref 84), (6, .int (0 : Int32))]) [1, 0] rfl ?_
      refine kv_lp_3_2 (LV := fun x22 m23 f24 => [(0, .ref 84), (6, .int x22)]) (WW := fun x22 m23 f24 => (c, m23, f24, u)) (LE1 := fun m25 f26 => [(0, .ref 84)]) (WE1 := fun m25 f26 => (c, m25, f26, u)) (pe1 := 221) ?_ ?_
      · intro m25 f26
        show kv_X _ _ _ _ _ 221 [(0, .ref 84)] [] (c, m25, f26, u)
        refine kv_iconst (pc := 221) (v := (0 : Int32)) dk_D_fitsLong_221 kki_0 ?_
        refine kv_istore (pc := 222) (lv' := [(6, .int (0 : Int32)), (0, .ref 84)]) rfl (Nat.le_of_ble_eq_true rfl) dk_D_fitsLong_222 ?_
        refine kv_sub (lv' := [(0, .ref 84), (6, .int (0 : Int32))]) [1, 0] rfl ?_
        refine kv_lp_2_1 (LV := fun x43 f44 => [(0, .ref 84), (6, .int x43)]) (WW := fun x43 f44 => (c, m25, f44, u)) (LE1 := fun f45 => [(0, .ref 84)]) (WE1 := fun f45 => (c, m25, f45, u)) (pe1 := 383) ?_ ?_
        · intro f45
          show kv_X _ _ _ _ _ 383 [(0, .ref 84)] [] (c, m25, f45, u)
          refine kv_aload_n (pc := 383) 0 rfl rfl dk_D_fitsLong_383 ?_
          refine kv_cV_mZf (pc := 384) (as := []) (st := []) ko_D_closes kc_11 rfl rfl kr_84 kw_1472 (Nat.le_of_ble_eq_true rfl) rfl dk_D_fitsLong_384 (cx_D_closes (d + 1) c m25 f45 u) (fun b58 f59 => ?_)
          exact kv_zret (pc := 387) (b := b58) (fun h => h) rfl dk_D_fitsLong_387
        · intro hx224_0 x43 f44
          show kv_X _ _ _ _ (fb_D_fitsLong_224 m25 x43 f44) 224 [(0, .ref 84), (6, .int x43)] [] (c, m25, f44, u)
          unfold fb_D_fitsLong_224
          refine kv_iload (pc := 224) 1 rfl dk_D_fitsLong_224 ?_
          refine kv_aload_n (pc := 226) 0 rfl rfl dk_D_fitsLong_226 ?_
          refine kv_getM (pc := 227) kf_D_144 kr_84 kn_84 rfl dk_D_fitsLong_227 ?_
          refine kv_icmp_ge (pc := 230) (tgt := 383) dk_D_fitsLong_230 rfl ?_ ?_
          · exact kv_sub [0] rfl (kv_leaf (hx224_0 _))
          · refine kv_iconst (pc := 233) (v := (0 : Int32)) dk_D_fitsLong_233 kki_0 ?_
            refine kv_istore (pc := 234) (lv' := [(7, .int (0 : Int32)), (0, .ref 84), (6, .int x43)]) rfl (Nat.le_of_ble_eq_true rfl) dk_D_fitsLong_234 ?_
            refine kv_sub (lv' := [(0, .ref 84), (6, .int x43), (7, .int (0 : Int32))]) [1, 2, 0] rfl ?_
            refine kv_lp_2_1 (LV := fun x46 f47 => [(0, .ref 84), (6, .int x43), (7, .int x46)]) (WW := fun x46 f47 => (c, m25, f47, u)) (LE1 := fun f48 => [(0, .ref 84), (6, .int x43)]) (WE1 := fun f48 => (c, m25, f48, u)) (pe1 := 377) ?_ ?_
            · intro f48
              show kv_X _ _ _ _ _ 377 [(0, .ref 84), (6, .int x43)] [] (c, m25, f48, u)
              refine kv_iinc (pc := 377) (kk := (1 : Int32)) (lv' := [(6, .int (x43 + (1 : Int32))), (0, .ref 84)]) 1 rfl kki_1 rfl (Nat.le_of_ble_eq_true rfl) dk_D_fitsLong_377 ?_
              refine kv_goto (pc := 380) (tgt := 224) dk_D_fitsLong_380 rfl ?_
              exact kv_sub [1, 0] rfl (kv_leaf (fun h => h))
            · intro hx236_0 x46 f47
              show kv_X _ _ _ _ (fb_D_fitsLong_236 m25 x43 x46 f47) 236 [(0, .ref 84), (6, .int x43), (7, .int x46)] [] (c, m25, f47, u)
              unfold fb_D_fitsLong_236
              refine kv_iload (pc := 236) 2 rfl dk_D_fitsLong_236 ?_
              refine kv_aload_n (pc := 238) 0 rfl rfl dk_D_fitsLong_238 ?_
              refine kv_getM (pc := 239) kf_D_144 kr_84 kn_84 rfl dk_D_fitsLong_239 ?_
              refine kv_icmp_ge (pc := 242) (tgt := 377) dk_D_fitsLong_242 rfl ?_ ?_
              · exact kv_sub [0, 1] rfl (kv_leaf (hx236_0 _))
              · refine kv_aload_n (pc := 245) 0 rfl rfl dk_D_fitsLong_245 ?_
                refine kv_getR (pc := 246) kf_D_38 kr_84 rfl kt_84_11 dk_D_fitsLong_246 ?_
                refine kv_iload (pc := 249) 1 rfl dk_D_fitsLong_249 ?_
                refine kv_guard (fun g49 => ?_)
                refine kv_aldM (pc := 251) kr_94 kn_94 kl_94 g49 rfl dk_D_fitsLong_251 ?_
                refine kv_aload_n (pc := 252) 0 rfl rfl dk_D_fitsLong_252 ?_
                refine kv_getR (pc := 253) kf_D_38 kr_84 rfl kt_84_11 dk_D_fitsLong_253 ?_
                refine kv_iload (pc := 256) 2 rfl dk_D_fitsLong_256 ?_
                refine kv_guard (fun g50 => ?_)
                refine kv_aldM (pc := 258) kr_94 kn_94 kl_94 g50 rfl dk_D_fitsLong_258 ?_
                refine kv_cut_1 (J := fj_D_fitsLong_371 x46) (pcj := 371) (LJ := fun f51 => [(0, .ref 84), (6, .int x43), (7, .int x46)]) (SJ := fun f51 => []) (WJ := fun f51 => (c, m25, f51, u)) ?_ (fun hj371 => ?_)
                · intro f51
                  show kv_X _ _ _ _ (fj_D_fitsLong_371 x46 f51) 371 [(0, .ref 84), (6, .int x43), (7, .int x46)] [] (c, m25, f51, u)
                  unfold fj_D_fitsLong_371
                  refine kv_iinc (pc := 371) (kk := (1 : Int32)) (lv' := [(7, .int (x46 + (1 : Int32))), (0, .ref 84), (6, .int x43)]) 2 rfl kki_1 rfl (Nat.le_of_ble_eq_true rfl) dk_D_fitsLong_371 ?_
                  refine kv_goto (pc := 374) (tgt := 236) dk_D_fitsLong_374 rfl ?_
                  exact kv_sub [1, 2, 0] rfl (kv_leaf (fun h => h))
                refine kv_icmp_ne (pc := 259) (tgt := 371) dk_D_fitsLong_259 rfl ?_ ?_
                · exact hj371 f47
                · refine kv_aload_n (pc := 262) 0 rfl rfl dk_D_fitsLong_262 ?_
                  refine kv_getR (pc := 263) kf_D_41 kr_84 rfl kt_84_12 dk_D_fitsLong_263 ?_
                  refine kv_iload (pc := 266) 2 rfl dk_D_fitsLong_266 ?_
                  refine kv_aldM (pc := 268) kr_95 kn_95 kl_95 g50 rfl dk_D_fitsLong_268 ?_
                  refine kv_aload_n (pc := 269) 0 rfl rfl dk_D_fitsLong_269 ?_
                  refine kv_getR (pc := 270) kf_D_41 kr_84 rfl kt_84_12 dk_D_fitsLong_270 ?_
                  refine kv_iload (pc := 273) 1 rfl dk_D_fitsLong_273 ?_
                  refine kv_aldM (pc := 275) kr_95 kn_95 kl_95 g49 rfl dk_D_fitsLong_275 ?_
                  refine kv_icmp_gt (pc := 276) (tgt := 282) dk_D_fitsLong_276 rfl ?_ ?_
                  · refine kv_aload_n (pc := 282) 0 rfl rfl dk_D_fitsLong_282 ?_
                    refine kv_getR (pc := 283) kf_D_41 kr_84 rfl kt_84_12 dk_D_fitsLong_283 ?_
                    refine kv_iload (pc := 286) 2 rfl dk_D_fitsLong_286 ?_
                    refine kv_aldM (pc := 288) kr_95 kn_95 kl_95 g50 rfl dk_D_fitsLong_288 ?_
                    refine kv_aload_n (pc := 289) 0 rfl rfl dk_D_fitsLong_289 ?_
                    refine kv_getR (pc := 290) kf_D_41 kr_84 rfl kt_84_12 dk_D_fitsLong_290 ?_
                    refine kv_iload (pc := 293) 1 rfl dk_D_fitsLong_293 ?_
                    refine kv_aldM (pc := 295) kr_95 kn_95 kl_95 g49 rfl dk_D_fitsLong_295 ?_
                    refine kv_isub (pc := 296) dk_D_fitsLong_296 ?_
                    refine kv_i2l (pc := 297) dk_D_fitsLong_297 ?_
                    refine kv_letJ (fun v52 => ?_)
                    refine kv_lstore (pc := 298) (lv' := [(8, .long v52), (0, .ref 84), (6, .int x43), (7, .int x46)]) rfl (Nat.le_of_ble_eq_true rfl) dk_D_fitsLong_298 ?_
                    refine kv_aload_n (pc := 300) 1 rfl rfl dk_D_fitsLong_300 ?_
                    refine kv_aload_n (pc := 301) 1 rfl rfl dk_D_fitsLong_301 ?_
                    refine kv_getR (pc := 302) kf_D_38 kr_84 rfl kt_84_11 dk_D_fitsLong_302 ?_
                    refine kv_iload (pc := 305) 2 rfl dk_D_fitsLong_305 ?_
                    refine kv_aldM (pc := 307) kr_94 kn_94 kl_94 g49 rfl dk_D_fitsLong_307 ?_
                    refine kv_iconst (pc := 308) (v := (0 : Int32)) dk_D_fitsLong_308 kki_0 ?_
                    refine kv_cV_mI (pc := 309) (as := [.int (m25 94 x43.toNatClampNeg), .int (0 : Int32)]) (st := []) ko_D_get kc_11 rfl rfl kr_84 kw_1341 (Nat.le_of_ble_eq_true rfl) rfl dk_D_fitsLong_309 (cx_D_get (d + 1) (m25 94 x43.toNatClampNeg) (0 : Int32) c m25 f47 u) (fun v53 => ?_)
                    refine kv_bipush (pc := 312) (v := (7 : Int32)) dk_D_fitsLong_312 kkb_7 ?_
                    refine kv_cut_1 (J := fj_D_fitsLong_322 x46 x43 f47 v52 m25) (pcj := 322) (LJ := fun x54 => [(0, .ref 84), (6, .int x43), (7, .int x46), (8, .long v52)]) (SJ := fun x54 => [.int x54]) (WJ := fun x54 => (c, m25, f47, u)) ?_ (fun hj322 => ?_)
                    · intro x54
                      show kv_X _ _ _ _ (fj_D_fitsLong_322 x46 x43 f47 v52 m25 x54) 322 [(0, .ref 84), (6, .int x43), (7, .int x46), (8, .long v52)] [.int x54] (c, m25, f47, u)
                      unfold fj_D_fitsLong_322
                      refine kv_istore (pc := 322) (lv' := [(10, .int x54), (0, .ref 84), (6, .int x43), (7, .int x46), (8, .long v52)]) rfl (Nat.le_of_ble_eq_true rfl) dk_D_fitsLong_322 ?_
                      refine kv_aload_n (pc := 324) 1 rfl rfl dk_D_fitsLong_324 ?_
                      refine kv_iload (pc := 325) 3 rfl dk_D_fitsLong_325 ?_
                      refine kv_iload (pc := 327) 2 rfl dk_D_fitsLong_327 ?_
                      refine kv_iload (pc := 329) 0 rfl dk_D_fitsLong_329 ?_
                      refine kv_cut_1 (J := fj_D_fitsLong_348 x54 x46 x43 f47 v52 m25) (pcj := 348) (LJ := fun x55 => [(0, .ref 84), (6, .int x43), (7, .int x46), (8, .long v52), (10, .int x54)]) (SJ := fun x55 => [.long x55, .int x43, .int x46, .ref 84]) (WJ := fun x55 => (c, m25, f47, u)) ?_ (fun hj348 => ?_)
                      · intro x55
                        show kv_X _ _ _ _ (fj_D_fitsLong_348 x54 x46 x43 f47 v52 m25 x55) 348 [(0, .ref 84), (6, .int x43), (7, .int x46), (8, .long v52), (10, .int x54)] [.long x55, .int x43, .int x46, .ref 84] (c, m25, f47, u)
                        unfold fj_D_fitsLong_348
                        refine kv_iload (pc := 348) 4 rfl dk_D_fitsLong_348 ?_
                        refine kv_cut_1 (J := fj_D_fitsLong_368 x46 x43 x55 f47) (pcj := 368) (LJ := fun x56 => [(0, .ref 84), (6, .int x43), (7, .int x46)]) (SJ := fun x56 => [.long x56, .long x55, .int x43, .int x46, .ref 84]) (WJ := fun x56 => (c, m25, f47, u)) ?_ (fun hj368 => ?_)
                        · intro x56
                          show kv_X _ _ _ _ (fj_D_fitsLong_368 x46 x43 x55 f47 x56) 368 [(0, .ref 84), (6, .int x43), (7, .int x46)] [.long x56, .long x55, .int x43, .int x46, .ref 84] (c, m25, f47, u)
                          unfold fj_D_fitsLong_368
                          refine kv_cV_mf (pc := 368) (as := [.int x46, .int x43, .long x55, .long x56]) (st := []) ko_D_binds kc_11 rfl rfl kr_84 kw_1468 (Nat.le_of_ble_eq_true rfl) rfl dk_D_fitsLong_368 (cx_D_binds (d + 1) x46 x43 x55 x56 c m25 f47 u) (fun f57 => ?_)
                          exact hj371 f57
                        refine kv_if_eq (pc := 350) (tgt := 357) dk_D_fitsLong_350 rfl ?_ ?_
                        · refine kv_lload (pc := 357) 3 rfl dk_D_fitsLong_357 ?_
                          refine kv_aload_n (pc := 359) 0 rfl rfl dk_D_fitsLong_359 ?_
                          refine kv_getR (pc := 360) kf_D_9 kr_84 rfl kt_84_0 dk_D_fitsLong_360 ?_
                          refine kv_bipush (pc := 363) (v := (6 : Int32)) dk_D_fitsLong_363 kkb_6 ?_
                          refine kv_aldM (pc := 365) kr_85 kn_85 kl_85 kkg_6_444 (j := 6) kkx_6 dk_D_fitsLong_365 ?_
                          refine kv_i2l (pc := 366) dk_D_fitsLong_366 ?_
                          refine kv_lmul (pc := 367) dk_D_fitsLong_367 ?_
                          exact kv_sub [0, 1, 2] rfl (hj368 (v52 * (m25 85 6).toInt64))
                        · refine kv_lconst (pc := 353) (v := (0 : Int64)) dk_D_fitsLong_353 kkl_0 ?_
                          refine kv_goto (pc := 354) (tgt := 368) dk_D_fitsLong_354 rfl ?_
                          exact kv_sub [0, 1, 2] rfl (hj368 (0 : Int64))
                      refine kv_if_eq (pc := 331) (tgt := 338) dk_D_fitsLong_331 rfl ?_ ?_
                      · refine kv_lload (pc := 338) 4 rfl dk_D_fitsLong_338 ?_
                        refine kv_aload_n (pc := 340) 1 rfl rfl dk_D_fitsLong_340 ?_
                        refine kv_getR (pc := 341) kf_D_9 kr_84 rfl kt_84_0 dk_D_fitsLong_341 ?_
                        refine kv_iconst (pc := 344) (v := (5 : Int32)) dk_D_fitsLong_344 kki_5 ?_
                        refine kv_aldM (pc := 345) kr_85 kn_85 kl_85 kkg_5_444 (j := 5) kkx_5 dk_D_fitsLong_345 ?_
                        refine kv_i2l (pc := 346) dk_D_fitsLong_346 ?_
                        refine kv_lmul (pc := 347) dk_D_fitsLong_347 ?_
                        exact kv_sub [1, 2, 3, 4, 0] rfl (hj348 (v52 * (m25 85 5).toInt64))
                      · refine kv_lconst (pc := 334) (v := (0 : Int64)) dk_D_fitsLong_334 kkl_0 ?_
                        refine kv_goto (pc := 335) (tgt := 348) dk_D_fitsLong_335 rfl ?_
                        exact kv_sub [1, 2, 3, 4, 0] rfl (hj348 (0 : Int64))
                    refine kv_icmp_ne (pc := 314) (tgt := 321) dk_D_fitsLong_314 rfl ?_ ?_
                    · refine kv_iconst (pc := 321) (v := (0 : Int32)) dk_D_fitsLong_321 kki_0 ?_
                      exact kv_sub [1, 2, 3, 0] rfl (hj322 (0 : Int32))
                    · refine kv_iconst (pc := 317) (v := (1 : Int32)) dk_D_fitsLong_317 kki_1 ?_
                      refine kv_goto (pc := 318) (tgt := 322) dk_D_fitsLong_318 rfl ?_
                      exact kv_sub [1, 2, 3, 0] rfl (hj322 (1 : Int32))
                  · refine kv_goto (pc := 279) (tgt := 371) dk_D_fitsLong_279 rfl ?_
                    exact hj371 f47
      · intro hx131_0 x22 m23 f24
        show kv_X _ _ _ _ (fb_D_fitsLong_131 x22 m23 f24) 131 [(0, .ref 84), (6, .int x22)] [] (c, m23, f24, u)
        unfold fb_D_fitsLong_131
        refine kv_iload (pc := 131) 1 rfl dk_D_fitsLong_131 ?_
        refine kv_aload_n (pc := 133) 0 rfl rfl dk_D_fitsLong_133 ?_
        refine kv_getR (pc := 134) kf_D_9 kr_84 rfl kt_84_0 dk_D_fitsLong_134 ?_
        refine kv_iconst (pc := 137) (v := (2 : Int32)) dk_D_fitsLong_137 kki_2 ?_
        refine kv_aldM (pc := 138) kr_85 kn_85 kl_85 kkg_2_444 (j := 2) kkx_2 dk_D_fitsLong_138 ?_
        refine kv_icmp_ge (pc := 139) (tgt := 221) dk_D_fitsLong_139 rfl ?_ ?_
        · exact kv_sub [0] rfl (kv_leaf (hx131_0 _ _))
        · refine kv_aload_n (pc := 142) 0 rfl rfl dk_D_fitsLong_142 ?_
          refine kv_iload (pc := 143) 1 rfl dk_D_fitsLong_143 ?_
          refine kv_cV_mZ (pc := 145) (as := [.int x22]) (st := []) ko_D_isAsked kc_11 rfl rfl kr_84 kw_1493 (Nat.le_of_ble_eq_true rfl) rfl dk_D_fitsLong_145 (cx_D_isAsked d x22 c m23 f24 u) (fun b27 => ?_)
          refine kv_cut_2 (J := fj_D_fitsLong_215 x22) (pcj := 215) (LJ := fun m28 f29 => [(0, .ref 84), (6, .int x22)]) (SJ := fun m28 f29 => []) (WJ := fun m28 f29 => (c, m28, f29, u)) ?_ (fun hj215 => ?_)
          · intro m28 f29
            show kv_X _ _ _ _ (fj_D_fitsLong_215 x22 m28 f29) 215 [(0, .ref 84), (6, .int x22)] [] (c, m28, f29, u)
            unfold fj_D_fitsLong_215
            refine kv_iinc (pc := 215) (kk := (1 : Int32)) (lv' := [(6, .int (x22 + (1 : Int32))), (0, .ref 84)]) 1 rfl kki_1 rfl (Nat.le_of_ble_eq_true rfl) dk_D_fitsLong_215 ?_
            refine kv_goto (pc := 218) (tgt := 131) dk_D_fitsLong_218 rfl ?_
            exact kv_sub [1, 0] rfl (kv_leaf (fun h => h))
          refine kv_zif_eq (pc := 148) (tgt := 215) dk_D_fitsLong_148 rfl ?_ ?_
          · exact hj215 m23 f24
          · refine kv_aload_n (pc := 151) 0 rfl rfl dk_D_fitsLong_151 ?_
            refine kv_iload (pc := 152) 1 rfl dk_D_fitsLong_152 ?_
            refine kv_aload_n (pc := 154) 0 rfl rfl dk_D_fitsLong_154 ?_
            refine kv_aload_n (pc := 155) 0 rfl rfl dk_D_fitsLong_155 ?_
            refine kv_aload_n (pc := 156) 0 rfl rfl dk_D_fitsLong_156 ?_
            refine kv_iload (pc := 157) 1 rfl dk_D_fitsLong_157 ?_
            refine kv_iconst (pc := 159) (v := (1 : Int32)) dk_D_fitsLong_159 kki_1 ?_
            refine kv_cV_mI (pc := 160) (as := [.int x22, .int (1 : Int32)]) (st := [.ref 84, .ref 84, .int x22, .ref 84]) ko_D_say kc_11 rfl rfl kr_84 kw_1435 (Nat.le_of_ble_eq_true rfl) rfl dk_D_fitsLong_160 (cx_D_say (d + 1) x22 (1 : Int32) c m23 f24 u) (fun v30 => ?_)
            refine kv_aload_n (pc := 163) 0 rfl rfl dk_D_fitsLong_163 ?_
            refine kv_iload (pc := 164) 1 rfl dk_D_fitsLong_164 ?_
            refine kv_iconst (pc := 166) (v := (0 : Int32)) dk_D_fitsLong_166 kki_0 ?_
            refine kv_cV_mI (pc := 167) (as := [.int x22, .int (0 : Int32)]) (st := [.int v30, .ref 84, .ref 84, .int x22, .ref 84]) ko_D_say kc_11 rfl rfl kr_84 kw_1435 (Nat.le_of_ble_eq_true rfl) rfl dk_D_fitsLong_167 (cx_D_say (d + 1) x22 (0 : Int32) c m23 f24 u) (fun v31 => ?_)
            refine kv_cV_mI (pc := 170) (as := [.int v30, .int v31]) (st := [.ref 84, .int x22, .ref 84]) ko_D_labelOf kc_11 rfl rfl kr_84 kw_1497 (Nat.le_of_ble_eq_true rfl) rfl dk_D_fitsLong_170 (cx_D_labelOf (d + 1) v30 v31 c m23 f24 u) (fun v32 => ?_)
            refine kv_aload_n (pc := 173) 0 rfl rfl dk_D_fitsLong_173 ?_
            refine kv_iload (pc := 174) 1 rfl dk_D_fitsLong_174 ?_
            refine kv_iconst (pc := 176) (v := (0 : Int32)) dk_D_fitsLong_176 kki_0 ?_
            refine kv_cV_mI (pc := 177) (as := [.int x22, .int (0 : Int32)]) (st := [.int v32, .ref 84, .int x22, .ref 84]) ko_D_say kc_11 rfl rfl kr_84 kw_1435 (Nat.le_of_ble_eq_true rfl) rfl dk_D_fitsLong_177 (cx_D_say (d + 1) x22 (0 : Int32) c m23 f24 u) (fun v33 => ?_)
            refine kv_cV_mIm (pc := 180) (as := [.int v32, .int v33]) (st := [.int x22, .ref 84]) ko_D_nodeOf kc_11 rfl rfl kr_84 kw_1489 (Nat.le_of_ble_eq_true rfl) rfl dk_D_fitsLong_180 (cx_D_nodeOf (d + 1) v32 v33 c m23 f24 u) (fun v34 m35 => ?_)
            refine kv_aload_n (pc := 183) 0 rfl rfl dk_D_fitsLong_183 ?_
            refine kv_aload_n (pc := 184) 0 rfl rfl dk_D_fitsLong_184 ?_
            refine kv_aload_n (pc := 185) 0 rfl rfl dk_D_fitsLong_185 ?_
            refine kv_iload (pc := 186) 1 rfl dk_D_fitsLong_186 ?_
            refine kv_iconst (pc := 188) (v := (2 : Int32)) dk_D_fitsLong_188 kki_2 ?_
            refine kv_cV_mI (pc := 189) (as := [.int x22, .int (2 : Int32)]) (st := [.ref 84, .ref 84, .int v34, .int x22, .ref 84]) ko_D_say kc_11 rfl rfl kr_84 kw_1435 (Nat.le_of_ble_eq_true rfl) rfl dk_D_fitsLong_189 (cx_D_say (d + 1) x22 (2 : Int32) c m35 f24 u) (fun v36 => ?_)
            refine kv_aload_n (pc := 192) 0 rfl rfl dk_D_fitsLong_192 ?_
            refine kv_iload (pc := 193) 1 rfl dk_D_fitsLong_193 ?_
            refine kv_iconst (pc := 195) (v := (0 : Int32)) dk_D_fitsLong_195 kki_0 ?_
            refine kv_cV_mI (pc := 196) (as := [.int x22, .int (0 : Int32)]) (st := [.int v36, .ref 84, .ref 84, .int v34, .int x22, .ref 84]) ko_D_say kc_11 rfl rfl kr_84 kw_1435 (Nat.le_of_ble_eq_true rfl) rfl dk_D_fitsLong_196 (cx_D_say (d + 1) x22 (0 : Int32) c m35 f24 u) (fun v37 => ?_)
            refine kv_cV_mI (pc := 199) (as := [.int v36, .int v37]) (st := [.ref 84, .int v34, .int x22, .ref 84]) ko_D_labelOf kc_11 rfl rfl kr_84 kw_1497 (Nat.le_of_ble_eq_true rfl) rfl dk_D_fitsLong_199 (cx_D_labelOf (d + 1) v36 v37 c m35 f24 u) (fun v38 => ?_)
            refine kv_aload_n (pc := 202) 0 rfl rfl dk_D_fitsLong_202 ?_
            refine kv_iload (pc := 203) 1 rfl dk_D_fitsLong_203 ?_
            refine kv_iconst (pc := 205) (v := (0 : Int32)) dk_D_fitsLong_205 kki_0 ?_
            refine kv_cV_mI (pc := 206) (as := [.int x22, .int (0 : Int32)]) (st := [.int v38, .ref 84, .int v34, .int x22, .ref 84]) ko_D_say kc_11 rfl rfl kr_84 kw_1435 (Nat.le_of_ble_eq_true rfl) rfl dk_D_fitsLong_206 (cx_D_say (d + 1) x22 (0 : Int32) c m35 f24 u) (fun v39 => ?_)
            refine kv_cV_mIm (pc := 209) (as := [.int v38, .int v39]) (st := [.int v34, .int x22, .ref 84]) ko_D_nodeOf kc_11 rfl rfl kr_84 kw_1489 (Nat.le_of_ble_eq_true rfl) rfl dk_D_fitsLong_209 (cx_D_nodeOf (d + 1) v38 v39 c m35 f24 u) (fun v40 m41 => ?_)
            refine kv_cV_mf (pc := 212) (as := [.int x22, .int v34, .int v40]) (st := []) ko_D_weighs kc_11 rfl rfl kr_84 kw_1464 (Nat.le_of_ble_eq_true rfl) rfl dk_D_fitsLong_212 (cx_D_weighs d x22 v34 v40 c m41 f24 u) (fun f42 => ?_)
            exact hj215 m41 f42
    · intro hx29_0 x3 m4
      show kv_X _ _ _ _ (fb_D_fitsLong_29 x3 m4) 29 [(0, .ref 84), (6, .int x3)] [] (c, m4, f, u)
      unfold fb_D_fitsLong_29
      refine kv_iload (pc := 29) 1 rfl dk_D_fitsLong_29 ?_
      refine kv_aload_n (pc := 31) 0 rfl rfl dk_D_fitsLong_31 ?_
      refine kv_getR (pc := 32) kf_D_9 kr_84 rfl kt_84_0 dk_D_fitsLong_32 ?_
      refine kv_iconst (pc := 35) (v := (2 : Int32)) dk_D_fitsLong_35 kki_2 ?_
      refine kv_aldM (pc := 36) kr_85 kn_85 kl_85 kkg_2_444 (j := 2) kkx_2 dk_D_fitsLong_36 ?_
      refine kv_icmp_ge (pc := 37) (tgt := 120) dk_D_fitsLong_37 rfl ?_ ?_
      · exact kv_sub [0] rfl (kv_leaf (hx29_0 _))
      · refine kv_aload_n (pc := 40) 0 rfl rfl dk_D_fitsLong_40 ?_
        refine kv_iload (pc := 41) 1 rfl dk_D_fitsLong_41 ?_
        refine kv_cV_mZ (pc := 43) (as := [.int x3]) (st := []) ko_D_isAsked kc_11 rfl rfl kr_84 kw_1493 (Nat.le_of_ble_eq_true rfl) rfl dk_D_fitsLong_43 (cx_D_isAsked d x3 c m4 f u) (fun b6 => ?_)
        refine kv_cut_1 (J := fj_D_fitsLong_114 x3) (pcj := 114) (LJ := fun m7 => [(0, .ref 84), (6, .int x3)]) (SJ := fun m7 => []) (WJ := fun m7 => (c, m7, f, u)) ?_ (fun hj114 => ?_)
        · intro m7
          show kv_X _ _ _ _ (fj_D_fitsLong_114 x3 m7) 114 [(0, .ref 84), (6, .int x3)] [] (c, m7, f, u)
          unfold fj_D_fitsLong_114
          refine kv_iinc (pc := 114) (kk := (1 : Int32)) (lv' := [(6, .int (x3 + (1 : Int32))), (0, .ref 84)]) 1 rfl kki_1 rfl (Nat.le_of_ble_eq_true rfl) dk_D_fitsLong_114 ?_
          refine kv_goto (pc := 117) (tgt := 29) dk_D_fitsLong_117 rfl ?_
          exact kv_sub [1, 0] rfl (kv_leaf (fun h => h))
        refine kv_zif_ne (pc := 46) (tgt := 52) dk_D_fitsLong_46 rfl ?_ ?_
        · refine kv_aload_n (pc := 52) 0 rfl rfl dk_D_fitsLong_52 ?_
          refine kv_aload_n (pc := 53) 0 rfl rfl dk_D_fitsLong_53 ?_
          refine kv_aload_n (pc := 54) 0 rfl rfl dk_D_fitsLong_54 ?_
          refine kv_iload (pc := 55) 1 rfl dk_D_fitsLong_55 ?_
          refine kv_iconst (pc := 57) (v := (1 : Int32)) dk_D_fitsLong_57 kki_1 ?_
          refine kv_cV_mI (pc := 58) (as := [.int x3, .int (1 : Int32)]) (st := [.ref 84, .ref 84]) ko_D_say kc_11 rfl rfl kr_84 kw_1435 (Nat.le_of_ble_eq_true rfl) rfl dk_D_fitsLong_58 (cx_D_say (d + 1) x3 (1 : Int32) c m4 f u) (fun v8 => ?_)
          refine kv_aload_n (pc := 61) 0 rfl rfl dk_D_fitsLong_61 ?_
          refine kv_iload (pc := 62) 1 rfl dk_D_fitsLong_62 ?_
          refine kv_iconst (pc := 64) (v := (0 : Int32)) dk_D_fitsLong_64 kki_0 ?_
          refine kv_cV_mI (pc := 65) (as := [.int x3, .int (0 : Int32)]) (st := [.int v8, .ref 84, .ref 84]) ko_D_say kc_11 rfl rfl kr_84 kw_1435 (Nat.le_of_ble_eq_true rfl) rfl dk_D_fitsLong_65 (cx_D_say (d + 1) x3 (0 : Int32) c m4 f u) (fun v9 => ?_)
          refine kv_cV_mI (pc := 68) (as := [.int v8, .int v9]) (st := [.ref 84]) ko_D_labelOf kc_11 rfl rfl kr_84 kw_1497 (Nat.le_of_ble_eq_true rfl) rfl dk_D_fitsLong_68 (cx_D_labelOf (d + 1) v8 v9 c m4 f u) (fun v10 => ?_)
          refine kv_aload_n (pc := 71) 0 rfl rfl dk_D_fitsLong_71 ?_
          refine kv_iload (pc := 72) 1 rfl dk_D_fitsLong_72 ?_
          refine kv_iconst (pc := 74) (v := (0 : Int32)) dk_D_fitsLong_74 kki_0 ?_
          refine kv_cV_mI (pc := 75) (as := [.int x3, .int (0 : Int32)]) (st := [.int v10, .ref 84]) ko_D_say kc_11 rfl rfl kr_84 kw_1435 (Nat.le_of_ble_eq_true rfl) rfl dk_D_fitsLong_75 (cx_D_say (d + 1) x3 (0 : Int32) c m4 f u) (fun v11 => ?_)
          refine kv_cV_mIm (pc := 78) (as := [.int v10, .int v11]) (st := []) ko_D_nodeOf kc_11 rfl rfl kr_84 kw_1489 (Nat.le_of_ble_eq_true rfl) rfl dk_D_fitsLong_78 (cx_D_nodeOf (d + 1) v10 v11 c m4 f u) (fun v12 m13 => ?_)
          refine kv_istore (pc := 81) (lv' := [(5, .int v12), (0, .ref 84), (6, .int x3)]) rfl (Nat.le_of_ble_eq_true rfl) dk_D_fitsLong_81 ?_
          refine kv_aload_n (pc := 83) 1 rfl rfl dk_D_fitsLong_83 ?_
          refine kv_aload_n (pc := 84) 1 rfl rfl dk_D_fitsLong_84 ?_
          refine kv_aload_n (pc := 85) 1 rfl rfl dk_D_fitsLong_85 ?_
          refine kv_iload (pc := 86) 2 rfl dk_D_fitsLong_86 ?_
          refine kv_iconst (pc := 88) (v := (2 : Int32)) dk_D_fitsLong_88 kki_2 ?_
          refine kv_cV_mI (pc := 89) (as := [.int x3, .int (2 : Int32)]) (st := [.ref 84, .ref 84]) ko_D_say kc_11 rfl rfl kr_84 kw_1435 (Nat.le_of_ble_eq_true rfl) rfl dk_D_fitsLong_89 (cx_D_say (d + 1) x3 (2 : Int32) c m13 f u) (fun v14 => ?_)
          refine kv_aload_n (pc := 92) 1 rfl rfl dk_D_fitsLong_92 ?_
          refine kv_iload (pc := 93) 2 rfl dk_D_fitsLong_93 ?_
          refine kv_iconst (pc := 95) (v := (0 : Int32)) dk_D_fitsLong_95 kki_0 ?_
          refine kv_cV_mI (pc := 96) (as := [.int x3, .int (0 : Int32)]) (st := [.int v14, .ref 84, .ref 84]) ko_D_say kc_11 rfl rfl kr_84 kw_1435 (Nat.le_of_ble_eq_true rfl) rfl dk_D_fitsLong_96 (cx_D_say (d + 1) x3 (0 : Int32) c m13 f u) (fun v15 => ?_)
          refine kv_cV_mI (pc := 99) (as := [.int v14, .int v15]) (st := [.ref 84]) ko_D_labelOf kc_11 rfl rfl kr_84 kw_1497 (Nat.le_of_ble_eq_true rfl) rfl dk_D_fitsLong_99 (cx_D_labelOf (d + 1) v14 v15 c m13 f u) (fun v16 => ?_)
          refine kv_aload_n (pc := 102) 1 rfl rfl dk_D_fitsLong_102 ?_
          refine kv_iload (pc := 103) 2 rfl dk_D_fitsLong_103 ?_
          refine kv_iconst (pc := 105) (v := (0 : Int32)) dk_D_fitsLong_105 kki_0 ?_
          refine kv_cV_mI (pc := 106) (as := [.int x3, .int (0 : Int32)]) (st := [.int v16, .ref 84]) ko_D_say kc_11 rfl rfl kr_84 kw_1435 (Nat.le_of_ble_eq_true rfl) rfl dk_D_fitsLong_106 (cx_D_say (d + 1) x3 (0 : Int32) c m13 f u) (fun v17 => ?_)
          refine kv_cV_mIm (pc := 109) (as := [.int v16, .int v17]) (st := []) ko_D_nodeOf kc_11 rfl rfl kr_84 kw_1489 (Nat.le_of_ble_eq_true rfl) rfl dk_D_fitsLong_109 (cx_D_nodeOf (d + 1) v16 v17 c m13 f u) (fun v18 m19 => ?_)
          refine kv_istore (pc := 112) (lv' := [(5, .int v18), (0, .ref 84), (6, .int x3)]) rfl (Nat.le_of_ble_eq_true rfl) dk_D_fitsLong_112 ?_
          exact kv_sub [1, 2] rfl (hj114 m19)
        · refine kv_goto (pc := 49) (tgt := 114) dk_D_fitsLong_49 rfl ?_
          exact hj114 m4
  refine kv_if_lt (pc := 6) (tgt := 26) dk_D_fitsLong_6 rfl ?_ ?_
  · exact kv_sub [0] rfl (hj26 m1)
  · refine kv_aload_n (pc := 9) 0 rfl rfl dk_D_fitsLong_9 ?_
    refine kv_iload_n (pc := 10) 1 rfl rfl dk_D_fitsLong_10 ?_
    refine kv_iload_n (pc := 11) 2 rfl rfl dk_D_fitsLong_11 ?_
    refine kv_cV_mIm (pc := 12) (as := [.int p1, .int p2]) (st := []) ko_D_nodeOf kc_11 rfl rfl kr_84 kw_1489 (Nat.le_of_ble_eq_true rfl) rfl dk_D_fitsLong_12 (cx_D_nodeOf (d + 1) p1 p2 c m1 f u) (fun v60 m61 => ?_)
    refine kv_istore (pc := 15) (lv' := [(5, .int v60), (0, .ref 84), (1, .int p1), (2, .int p2), (3, .int p3), (4, .int p4)]) rfl (Nat.le_of_ble_eq_true rfl) dk_D_fitsLong_15 ?_
    refine kv_aload_n (pc := 17) 1 rfl rfl dk_D_fitsLong_17 ?_
    refine kv_iload_n (pc := 18) 4 rfl rfl dk_D_fitsLong_18 ?_
    refine kv_iload (pc := 19) 5 rfl dk_D_fitsLong_19 ?_
    refine kv_cV_mIm (pc := 21) (as := [.int p3, .int p4]) (st := []) ko_D_nodeOf kc_11 rfl rfl kr_84 kw_1489 (Nat.le_of_ble_eq_true rfl) rfl dk_D_fitsLong_21 (cx_D_nodeOf (d + 1) p3 p4 c m61 f u) (fun v62 m63 => ?_)
    refine kv_istore (pc := 24) (lv' := [(5, .int v62), (0, .ref 84), (1, .int p1), (2, .int p2), (3, .int p3), (4, .int p4)]) rfl (Nat.le_of_ble_eq_true rfl) dk_D_fitsLong_24 ?_
    exact kv_sub [1] rfl (hj26 m63)
theorem dk_D_longApart_0 : decode prog_13_method_42_code 0 = .ok (.aload_n 0, 1) := by decide +kernel
theorem dk_D_longApart_1 : decode prog_13_method_42_code 1 = .ok (.iload_n 1, 1) := by decide +kernel
theorem dk_D_longApart_2 : decode prog_13_method_42_code 2 = .ok (.invokevirtual 98, 3) := by decide +kernel
theorem dk_D_longApart_5 : decode prog_13_method_42_code 5 = .ok (.ifCond .eq 37, 3) := by decide +kernel
theorem dk_D_longApart_8 : decode prog_13_method_42_code 8 = .ok (.aload_n 0, 1) := by decide +kernel
theorem dk_D_longApart_9 : decode prog_13_method_42_code 9 = .ok (.iload_n 3, 1) := by decide +kernel
theorem dk_D_longApart_10 : decode prog_13_method_42_code 10 = .ok (.invokevirtual 98, 3) := by decide +kernel
theorem dk_D_longApart_13 : decode prog_13_method_42_code 13 = .ok (.ifCond .eq 29, 3) := by decide +kernel
theorem dk_D_longApart_16 : decode prog_13_method_42_code 16 = .ok (.iload_n 2, 1) := by decide +kernel
theorem dk_D_longApart_17 : decode prog_13_method_42_code 17 = .ok (.invokestatic 110, 3) := by decide +kernel
theorem dk_D_longApart_20 : decode prog_13_method_42_code 20 = .ok (.ifCond .eq 22, 3) := by decide +kernel
theorem dk_D_longApart_23 : decode prog_13_method_42_code 23 = .ok (.iload 4, 2) := by decide +kernel
theorem dk_D_longApart_25 : decode prog_13_method_42_code 25 = .ok (.invokestatic 110, 3) := by decide +kernel
theorem dk_D_longApart_28 : decode prog_13_method_42_code 28 = .ok (.ifCond .eq 14, 3) := by decide +kernel
theorem dk_D_longApart_31 : decode prog_13_method_42_code 31 = .ok (.iload 5, 2) := by decide +kernel
theorem dk_D_longApart_33 : decode prog_13_method_42_code 33 = .ok (.i2l, 1) := by decide +kernel
theorem dk_D_longApart_34 : decode prog_13_method_42_code 34 = .ok (.lconst 0, 1) := by decide +kernel
theorem dk_D_longApart_35 : decode prog_13_method_42_code 35 = .ok (.lconst 1, 1) := by decide +kernel
theorem dk_D_longApart_36 : decode prog_13_method_42_code 36 = .ok (.invokestatic 60, 3) := by decide +kernel
theorem dk_D_longApart_39 : decode prog_13_method_42_code 39 = .ok (.ifCond .ne 6, 3) := by decide +kernel
theorem dk_D_longApart_42 : decode prog_13_method_42_code 42 = .ok (.ldc 91, 2) := by decide +kernel
theorem dk_D_longApart_44 : decode prog_13_method_42_code 44 = .ok (.ireturn, 1) := by decide +kernel
theorem dk_D_longApart_45 : decode prog_13_method_42_code 45 = .ok (.aload_n 0, 1) := by decide +kernel
theorem dk_D_longApart_46 : decode prog_13_method_42_code 46 = .ok (.iload_n 1, 1) := by decide +kernel
theorem dk_D_longApart_47 : decode prog_13_method_42_code 47 = .ok (.iload_n 2, 1) := by decide +kernel
theorem dk_D_longApart_48 : decode prog_13_method_42_code 48 = .ok (.iload_n 3, 1) := by decide +kernel
theorem dk_D_longApart_49 : decode prog_13_method_42_code 49 = .ok (.iload 4, 2) := by decide +kernel
theorem dk_D_longApart_51 : decode prog_13_method_42_code 51 = .ok (.invokevirtual 189, 3) := by decide +kernel
theorem dk_D_longApart_54 : decode prog_13_method_42_code 54 = .ok (.ifCond .ne 6, 3) := by decide +kernel
theorem dk_D_longApart_57 : decode prog_13_method_42_code 57 = .ok (.ldc 176, 2) := by decide +kernel
theorem dk_D_longApart_59 : decode prog_13_method_42_code 59 = .ok (.ireturn, 1) := by decide +kernel
theorem dk_D_longApart_60 : decode prog_13_method_42_code 60 = .ok (.aload_n 0, 1) := by decide +kernel
theorem dk_D_longApart_61 : decode prog_13_method_42_code 61 = .ok (.aload_n 0, 1) := by decide +kernel
theorem dk_D_longApart_62 : decode prog_13_method_42_code 62 = .ok (.iload_n 1, 1) := by decide +kernel
theorem dk_D_longApart_63 : decode prog_13_method_42_code 63 = .ok (.iload_n 2, 1) := by decide +kernel
theorem dk_D_longApart_64 : decode prog_13_method_42_code 64 = .ok (.invokevirtual 180, 3) := by decide +kernel
theorem dk_D_longApart_67 : decode prog_13_method_42_code 67 = .ok (.aload_n 0, 1) := by decide +kernel
theorem dk_D_longApart_68 : decode prog_13_method_42_code 68 = .ok (.iload_n 3, 1) := by decide +kernel
theorem dk_D_longApart_69 : decode prog_13_method_42_code 69 = .ok (.iload 4, 2) := by decide +kernel
theorem dk_D_longApart_71 : decode prog_13_method_42_code 71 = .ok (.invokevirtual 180, 3) := by decide +kernel
theorem dk_D_longApart_74 : decode prog_13_method_42_code 74 = .ok (.iload 5, 2) := by decide +kernel
theorem dk_D_longApart_76 : decode prog_13_method_42_code 76 = .ok (.invokevirtual 172, 3) := by decide +kernel
theorem dk_D_longApart_79 : decode prog_13_method_42_code 79 = .ok (.ireturn, 1) := by decide +kernel
noncomputable def fx_D_longApart (p1 : Int32) (p2 : Int32) (p3 : Int32) (p4 : Int32) (p5 : Int32) (m : (Nat → Nat → Int32)) (f : (Nat → Int64)) : Option (Int32 × (Nat → Nat → Int32) × (Nat → Int64)) :=
  kv_bind1 (fx_D_isLump p1 m) (fun b1 =>
  if b1 = true then
    kv_bind1 (fx_D_isLump p3 m) (fun b2 =>
    if b2 = true then
      kv_bind1 (fx_D_isYear p2) (fun b3 =>
      if b3 = true then
        kv_bind1 (fx_D_isYear p4) (fun b4 =>
        if b4 = true then
          kv_bind1 (fx_D_isIn p5.toInt64 (0 : Int64) (1 : Int64)) (fun b5 =>
          if b5 = true then
            kv_bind3 (fx_D_fitsLong p1 p2 p3 p4 m f) (fun b6 m7 f8 =>
            if b6 = true then
              kv_bind2 (fx_D_nodeOf p1 p2 m7) (fun v9 m10 =>
              kv_bind2 (fx_D_nodeOf p3 p4 m10) (fun v11 m12 =>
              kv_bind1 (fx_D_answer v9 v11 p5 f8) (fun v13 =>
              some (v13, m12, f8))))
            else
              some ((-1000000005 : Int32), m7, f8))
          else
            some ((-1000000001 : Int32), m, f))
        else
          some ((-1000000001 : Int32), m, f))
      else
        some ((-1000000001 : Int32), m, f))
    else
      some ((-1000000001 : Int32), m, f))
  else
    some ((-1000000001 : Int32), m, f))
set_option maxRecDepth 20000 in
theorem cx_D_longApart (d : Nat) (p1 : Int32) (p2 : Int32) (p3 : Int32) (p4 : Int32) (p5 : Int32) (c : (Nat → Nat → Int32)) (m : (Nat → Nat → Int32)) (f : (Nat → Int64)) (u : (Nat → Int64)) : ∀ a, fx_D_longApart p1 p2 p3 p4 p5 m f = some a → kv_C kM_D_longApart (d + 3) [.ref 84, .int p1, .int p2, .int p3, .int p4, .int p5] (c, m, f, u) (some (.int a.1), (c, a.2.1, a.2.2, u)) := by
  refine kv_entryX (E := fun a : (Int32 × (Nat → Nat → Int32) × (Nat → Int64)) => (some (.int a.1), (c, a.2.1, a.2.2, u))) rfl (Nat.le_of_ble_eq_true rfl) (fun o => ?_)
  unfold fx_D_longApart
  show kv_X _ _ _ _ _ 0 [(0, .ref 84), (1, .int p1), (2, .int p2), (3, .int p3), (4, .int p4), (5, .int p5)] [] (c, m, f, u)
  refine kv_aload_n (pc := 0) 0 rfl rfl dk_D_longApart_0 ?_
  refine kv_iload_n (pc := 1) 1 rfl rfl dk_D_longApart_1 ?_
  refine kv_cV_mZ (pc := 2) (as := [.int p1]) (st := []) ko_D_isLump kc_11 rfl rfl kr_84 kw_1362 (Nat.le_of_ble_eq_true rfl) rfl dk_D_longApart_2 (cx_D_isLump (d + 1) p1 c m f u) (fun b1 => ?_)
  refine kv_zif_eq (pc := 5) (tgt := 42) dk_D_longApart_5 rfl ?_ ?_
  · refine kv_ldc (pc := 42) (v := (-1000000001 : Int32)) kw_1354 dk_D_longApart_42 ?_
    exact kv_iret (pc := 44) (fun h => h) rfl dk_D_longApart_44
  · refine kv_aload_n (pc := 8) 0 rfl rfl dk_D_longApart_8 ?_
    refine kv_iload_n (pc := 9) 3 rfl rfl dk_D_longApart_9 ?_
    refine kv_cV_mZ (pc := 10) (as := [.int p3]) (st := []) ko_D_isLump kc_11 rfl rfl kr_84 kw_1362 (Nat.le_of_ble_eq_true rfl) rfl dk_D_longApart_10 (cx_D_isLump (d + 1) p3 c m f u) (fun b2 => ?_)
    refine kv_zif_eq (pc := 13) (tgt := 42) dk_D_longApart_13 rfl ?_ ?_
    · refine kv_ldc (pc := 42) (v := (-1000000001 : Int32)) kw_1354 dk_D_longApart_42 ?_
      exact kv_iret (pc := 44) (fun h => h) rfl dk_D_longApart_44
    · refine kv_iload_n (pc := 16) 2 rfl rfl dk_D_longApart_16 ?_
      refine kv_cS_mZ (pc := 17) (as := [.int p2]) (st := []) ko_D_isYear rfl kw_1385 (Nat.le_of_ble_eq_true rfl) rfl dk_D_longApart_17 (cx_D_isYear (d + 1) p2 c m f u) (fun b3 => ?_)
      refine kv_zif_eq (pc := 20) (tgt := 42) dk_D_longApart_20 rfl ?_ ?_
      · refine kv_ldc (pc := 42) (v := (-1000000001 : Int32)) kw_1354 dk_D_longApart_42 ?_
        exact kv_iret (pc := 44) (fun h => h) rfl dk_D_longApart_44
      · refine kv_iload (pc := 23) 4 rfl dk_D_longApart_23 ?_
        refine kv_cS_mZ (pc := 25) (as := [.int p4]) (st := []) ko_D_isYear rfl kw_1385 (Nat.le_of_ble_eq_true rfl) rfl dk_D_longApart_25 (cx_D_isYear (d + 1) p4 c m f u) (fun b4 => ?_)
        refine kv_zif_eq (pc := 28) (tgt := 42) dk_D_longApart_28 rfl ?_ ?_
        · refine kv_ldc (pc := 42) (v := (-1000000001 : Int32)) kw_1354 dk_D_longApart_42 ?_
          exact kv_iret (pc := 44) (fun h => h) rfl dk_D_longApart_44
        · refine kv_iload (pc := 31) 5 rfl dk_D_longApart_31 ?_
          refine kv_i2l (pc := 33) dk_D_longApart_33 ?_
          refine kv_lconst (pc := 34) (v := (0 : Int64)) dk_D_longApart_34 kkl_0 ?_
          refine kv_lconst (pc := 35) (v := (1 : Int64)) dk_D_longApart_35 kkl_1 ?_
          refine kv_cS_mZ (pc := 36) (as := [.long p5.toInt64, .long (0 : Int64), .long (1 : Int64)]) (st := []) ko_D_isIn rfl kw_1330 (Nat.le_of_ble_eq_true rfl) rfl dk_D_longApart_36 (cx_D_isIn (d + 2) p5.toInt64 (0 : Int64) (1 : Int64) c m f u) (fun b5 => ?_)
          refine kv_zif_ne (pc := 39) (tgt := 45) dk_D_longApart_39 rfl ?_ ?_
          · refine kv_aload_n (pc := 45) 0 rfl rfl dk_D_longApart_45 ?_
            refine kv_iload_n (pc := 46) 1 rfl rfl dk_D_longApart_46 ?_
            refine kv_iload_n (pc := 47) 2 rfl rfl dk_D_longApart_47 ?_
            refine kv_iload_n (pc := 48) 3 rfl rfl dk_D_longApart_48 ?_
            refine kv_iload (pc := 49) 4 rfl dk_D_longApart_49 ?_
            refine kv_cV_mZmf (pc := 51) (as := [.int p1, .int p2, .int p3, .int p4]) (st := []) ko_D_fitsLong kc_11 rfl rfl kr_84 kw_1485 (Nat.le_of_ble_eq_true rfl) rfl dk_D_longApart_51 (cx_D_fitsLong d p1 p2 p3 p4 c m f u) (fun b6 m7 f8 => ?_)
            refine kv_zif_ne (pc := 54) (tgt := 60) dk_D_longApart_54 rfl ?_ ?_
            · refine kv_aload_n (pc := 60) 0 rfl rfl dk_D_longApart_60 ?_
              refine kv_aload_n (pc := 61) 0 rfl rfl dk_D_longApart_61 ?_
              refine kv_iload_n (pc := 62) 1 rfl rfl dk_D_longApart_62 ?_
              refine kv_iload_n (pc := 63) 2 rfl rfl dk_D_longApart_63 ?_
              refine kv_cV_mIm (pc := 64) (as := [.int p1, .int p2]) (st := [.ref 84]) ko_D_nodeOf kc_11 rfl rfl kr_84 kw_1489 (Nat.le_of_ble_eq_true rfl) rfl dk_D_longApart_64 (cx_D_nodeOf (d + 2) p1 p2 c m7 f8 u) (fun v9 m10 => ?_)
              refine kv_aload_n (pc := 67) 0 rfl rfl dk_D_longApart_67 ?_
              refine kv_iload_n (pc := 68) 3 rfl rfl dk_D_longApart_68 ?_
              refine kv_iload (pc := 69) 4 rfl dk_D_longApart_69 ?_
              refine kv_cV_mIm (pc := 71) (as := [.int p3, .int p4]) (st := [.int v9, .ref 84]) ko_D_nodeOf kc_11 rfl rfl kr_84 kw_1489 (Nat.le_of_ble_eq_true rfl) rfl dk_D_longApart_71 (cx_D_nodeOf (d + 2) p3 p4 c m10 f8 u) (fun v11 m12 => ?_)
              refine kv_iload (pc := 74) 5 rfl dk_D_longApart_74 ?_
              refine kv_cV_mI (pc := 76) (as := [.int v9, .int v11, .int p5]) (st := []) ko_D_answer kc_11 rfl rfl kr_84 kw_1476 (Nat.le_of_ble_eq_true rfl) rfl dk_D_longApart_76 (cx_D_answer (d + 2) v9 v11 p5 c m12 f8 u) (fun v13 => ?_)
              exact kv_iret (pc := 79) (fun h => h) rfl dk_D_longApart_79
            · refine kv_ldc (pc := 57) (v := (-1000000005 : Int32)) kw_1480 dk_D_longApart_57 ?_
              exact kv_iret (pc := 59) (fun h => h) rfl dk_D_longApart_59
          · refine kv_ldc (pc := 42) (v := (-1000000001 : Int32)) kw_1354 dk_D_longApart_42 ?_
            exact kv_iret (pc := 44) (fun h => h) rfl dk_D_longApart_44
theorem dk_K_longNetHolds_0 : decode prog_1_method_55_code 0 = .ok (.aload_n 0, 1) := by decide +kernel
theorem dk_K_longNetHolds_1 : decode prog_1_method_55_code 1 = .ok (.getfield 36, 3) := by decide +kernel
theorem dk_K_longNetHolds_4 : decode prog_1_method_55_code 4 = .ok (.invokevirtual 221, 3) := by decide +kernel
theorem dk_K_longNetHolds_7 : decode prog_1_method_55_code 7 = .ok (.aload_n 0, 1) := by decide +kernel
theorem dk_K_longNetHolds_8 : decode prog_1_method_55_code 8 = .ok (.getfield 36, 3) := by decide +kernel
theorem dk_K_longNetHolds_11 : decode prog_1_method_55_code 11 = .ok (.aload_n 0, 1) := by decide +kernel
theorem dk_K_longNetHolds_12 : decode prog_1_method_55_code 12 = .ok (.getfield 10, 3) := by decide +kernel
theorem dk_K_longNetHolds_15 : decode prog_1_method_55_code 15 = .ok (.aload_n 0, 1) := by decide +kernel
theorem dk_K_longNetHolds_16 : decode prog_1_method_55_code 16 = .ok (.getfield 29, 3) := by decide +kernel
theorem dk_K_longNetHolds_19 : decode prog_1_method_55_code 19 = .ok (.invokevirtual 226, 3) := by decide +kernel
theorem dk_K_longNetHolds_22 : decode prog_1_method_55_code 22 = .ok (.aload_n 0, 1) := by decide +kernel
theorem dk_K_longNetHolds_23 : decode prog_1_method_55_code 23 = .ok (.getfield 29, 3) := by decide +kernel
theorem dk_K_longNetHolds_26 : decode prog_1_method_55_code 26 = .ok (.invokevirtual 237, 3) := by decide +kernel
theorem dk_K_longNetHolds_29 : decode prog_1_method_55_code 29 = .ok (.ireturn, 1) := by decide +kernel
noncomputable def fx_K_longNetHolds (c : (Nat → Nat → Int32)) : Option (Bool × (Nat → Nat → Int32)) :=
  kv_bind1 (fx_LongNet_start c) (fun c1 =>
  kv_bind1 (fx_LongNet_build c1) (fun c2 =>
  kv_bind2 (fx_Net_holds c2) (fun b3 c4 =>
  some (b3, c4))))
set_option maxRecDepth 20000 in
theorem cx_K_longNetHolds (d : Nat) (c : (Nat → Nat → Int32)) (y : (Nat → Nat → Int32) × (Nat → Int64) × (Nat → Int64)) : ∀ a, fx_K_longNetHolds c = some a → kv_C kM_K_longNetHolds (d + 5) [.ref 0] (c, y) (some (.int (kv_b a.1)), (a.2, y)) := by
  refine kv_entryX (E := fun a : (Bool × (Nat → Nat → Int32)) => (some (.int (kv_b a.1)), (a.2, y))) rfl (Nat.le_of_ble_eq_true rfl) (fun o => ?_)
  unfold fx_K_longNetHolds
  show kv_X _ _ _ _ _ 0 [(0, .ref 0)] [] (c, y)
  refine kv_aload_n (pc := 0) 0 rfl rfl dk_K_longNetHolds_0 ?_
  refine kv_getR (pc := 1) kf_K_36 kr_0 rfl kt_0_5 dk_K_longNetHolds_1 ?_
  refine kv_cV_cc (pc := 4) (as := []) (st := []) ko_LongNet_start kc_2 rfl rfl kr_73 kw_734 (Nat.le_of_ble_eq_true rfl) rfl dk_K_longNetHolds_4 (cx_LongNet_start (d + 3) c y) (fun c1 => ?_)
  refine kv_aload_n (pc := 7) 0 rfl rfl dk_K_longNetHolds_7 ?_
  refine kv_getR (pc := 8) kf_K_36 kr_0 rfl kt_0_5 dk_K_longNetHolds_8 ?_
  refine kv_aload_n (pc := 11) 0 rfl rfl dk_K_longNetHolds_11 ?_
  refine kv_getR (pc := 12) kf_K_10 kr_0 rfl kt_0_0 dk_K_longNetHolds_12 ?_
  refine kv_aload_n (pc := 15) 0 rfl rfl dk_K_longNetHolds_15 ?_
  refine kv_getR (pc := 16) kf_K_29 kr_0 rfl kt_0_4 dk_K_longNetHolds_16 ?_
  refine kv_cV_cc (pc := 19) (as := [.ref 1, .ref 68]) (st := []) ko_LongNet_build kc_2 rfl rfl kr_73 kw_753 (Nat.le_of_ble_eq_true rfl) rfl dk_K_longNetHolds_19 (cx_LongNet_build d c1 y) (fun c2 => ?_)
  refine kv_aload_n (pc := 22) 0 rfl rfl dk_K_longNetHolds_22 ?_
  refine kv_getR (pc := 23) kf_K_29 kr_0 rfl kt_0_4 dk_K_longNetHolds_23 ?_
  refine kv_cV_cZc (pc := 26) (as := []) (st := []) ko_Net_holds kc_4 rfl rfl kr_68 kw_710 (Nat.le_of_ble_eq_true rfl) rfl dk_K_longNetHolds_26 (cx_Net_holds (d + 2) c2 y) (fun b3 c4 => ?_)
  exact kv_zret (pc := 29) (b := b3) (fun h => h) rfl dk_K_longNetHolds_29
theorem dk_K_fits_0 : decode prog_1_method_16_code 0 = .ok (.iload_n 1, 1) := by decide +kernel
theorem dk_K_fits_1 : decode prog_1_method_16_code 1 = .ok (.iconst (-1), 1) := by decide +kernel
theorem dk_K_fits_2 : decode prog_1_method_16_code 2 = .ok (.if_icmp .ne 16, 3) := by decide +kernel
theorem dk_K_fits_5 : decode prog_1_method_16_code 5 = .ok (.aload_n 0, 1) := by decide +kernel
theorem dk_K_fits_6 : decode prog_1_method_16_code 6 = .ok (.invokevirtual 233, 3) := by decide +kernel
theorem dk_K_fits_9 : decode prog_1_method_16_code 9 = .ok (.ifCond .eq 7, 3) := by decide +kernel
theorem dk_K_fits_12 : decode prog_1_method_16_code 12 = .ok (.iconst 1, 1) := by decide +kernel
theorem dk_K_fits_13 : decode prog_1_method_16_code 13 = .ok (.goto 4, 3) := by decide +kernel
theorem dk_K_fits_16 : decode prog_1_method_16_code 16 = .ok (.iconst 0, 1) := by decide +kernel
theorem dk_K_fits_17 : decode prog_1_method_16_code 17 = .ok (.ireturn, 1) := by decide +kernel
theorem dk_K_fits_18 : decode prog_1_method_16_code 18 = .ok (.iload_n 1, 1) := by decide +kernel
theorem dk_K_fits_19 : decode prog_1_method_16_code 19 = .ok (.invokestatic 135, 3) := by decide +kernel
theorem dk_K_fits_22 : decode prog_1_method_16_code 22 = .ok (.ifCond .ne 5, 3) := by decide +kernel
theorem dk_K_fits_25 : decode prog_1_method_16_code 25 = .ok (.iconst (-1), 1) := by decide +kernel
theorem dk_K_fits_26 : decode prog_1_method_16_code 26 = .ok (.ireturn, 1) := by decide +kernel
theorem dk_K_fits_27 : decode prog_1_method_16_code 27 = .ok (.aload_n 0, 1) := by decide +kernel
theorem dk_K_fits_28 : decode prog_1_method_16_code 28 = .ok (.getfield 29, 3) := by decide +kernel
theorem dk_K_fits_31 : decode prog_1_method_16_code 31 = .ok (.bipush 10, 2) := by decide +kernel
theorem dk_K_fits_33 : decode prog_1_method_16_code 33 = .ok (.invokevirtual 211, 3) := by decide +kernel
theorem dk_K_fits_36 : decode prog_1_method_16_code 36 = .ok (.aload_n 0, 1) := by decide +kernel
theorem dk_K_fits_37 : decode prog_1_method_16_code 37 = .ok (.iload_n 1, 1) := by decide +kernel
theorem dk_K_fits_38 : decode prog_1_method_16_code 38 = .ok (.iconst 0, 1) := by decide +kernel
theorem dk_K_fits_39 : decode prog_1_method_16_code 39 = .ok (.invokevirtual 214, 3) := by decide +kernel
theorem dk_K_fits_42 : decode prog_1_method_16_code 42 = .ok (.aload_n 0, 1) := by decide +kernel
theorem dk_K_fits_43 : decode prog_1_method_16_code 43 = .ok (.getfield 29, 3) := by decide +kernel
theorem dk_K_fits_46 : decode prog_1_method_16_code 46 = .ok (.invokevirtual 237, 3) := by decide +kernel
theorem dk_K_fits_49 : decode prog_1_method_16_code 49 = .ok (.ifCond .eq 7, 3) := by decide +kernel
theorem dk_K_fits_52 : decode prog_1_method_16_code 52 = .ok (.iconst 1, 1) := by decide +kernel
theorem dk_K_fits_53 : decode prog_1_method_16_code 53 = .ok (.goto 4, 3) := by decide +kernel
theorem dk_K_fits_56 : decode prog_1_method_16_code 56 = .ok (.iconst 0, 1) := by decide +kernel
theorem dk_K_fits_57 : decode prog_1_method_16_code 57 = .ok (.ireturn, 1) := by decide +kernel
noncomputable def fx_K_fits (p1 : Int32) (c : (Nat → Nat → Int32)) : Option (Int32 × (Nat → Nat → Int32)) :=
  if p1 = (-1 : Int32) then
    kv_bind2 (fx_K_longNetHolds c) (fun b6 c7 =>
    if b6 = true then
      some ((1 : Int32), c7)
    else
      some ((0 : Int32), c7))
  else
    kv_bind1 (fx_K_isYear p1) (fun b1 =>
    if b1 = true then
      kv_bind1 (fx_Net_start (10 : Int32) c) (fun c2 =>
      kv_bind1 (fx_K_boundByYear p1 (0 : Int32) c2) (fun c3 =>
      kv_bind2 (fx_Net_holds c3) (fun b4 c5 =>
      if b4 = true then
        some ((1 : Int32), c5)
      else
        some ((0 : Int32), c5))))
    else
      some ((-1 : Int32), c))
set_option maxRecDepth 20000 in
theorem cx_K_fits (d : Nat) (p1 : Int32) (c : (Nat → Nat → Int32)) (y : (Nat → Nat → Int32) × (Nat → Int64) × (Nat → Int64)) : ∀ a, fx_K_fits p1 c = some a → kv_C kM_K_fits (d + 6) [.ref 0, .int p1] (c, y) (some (.int a.1), (a.2, y)) := by
  refine kv_entryX (E := fun a : (Int32 × (Nat → Nat → Int32)) => (some (.int a.1), (a.2, y))) rfl (Nat.le_of_ble_eq_true rfl) (fun o => ?_)
  unfold fx_K_fits
  show kv_X _ _ _ _ _ 0 [(0, .ref 0), (1, .int p1)] [] (c, y)
  refine kv_iload_n (pc := 0) 1 rfl rfl dk_K_fits_0 ?_
  refine kv_iconst (pc := 1) (v := (-1 : Int32)) dk_K_fits_1 kki_m1 ?_
  refine kv_icmp_ne (pc := 2) (tgt := 18) dk_K_fits_2 rfl ?_ ?_
  · refine kv_iload_n (pc := 18) 1 rfl rfl dk_K_fits_18 ?_
    refine kv_cS_cZ (pc := 19) (as := [.int p1]) (st := []) ko_K_isYear rfl kw_577 (Nat.le_of_ble_eq_true rfl) rfl dk_K_fits_19 (cx_K_isYear (d + 4) p1 c y) (fun b1 => ?_)
    refine kv_zif_ne (pc := 22) (tgt := 27) dk_K_fits_22 rfl ?_ ?_
    · refine kv_aload_n (pc := 27) 0 rfl rfl dk_K_fits_27 ?_
      refine kv_getR (pc := 28) kf_K_29 kr_0 rfl kt_0_4 dk_K_fits_28 ?_
      refine kv_bipush (pc := 31) (v := (10 : Int32)) dk_K_fits_31 kkb_10 ?_
      refine kv_cV_cc (pc := 33) (as := [.int (10 : Int32)]) (st := []) ko_Net_start kc_4 rfl rfl kr_68 kw_674 (Nat.le_of_ble_eq_true rfl) rfl dk_K_fits_33 (cx_Net_start (d + 5) (10 : Int32) c y) (fun c2 => ?_)
      refine kv_aload_n (pc := 36) 0 rfl rfl dk_K_fits_36 ?_
      refine kv_iload_n (pc := 37) 1 rfl rfl dk_K_fits_37 ?_
      refine kv_iconst (pc := 38) (v := (0 : Int32)) dk_K_fits_38 kki_0 ?_
      refine kv_cV_cc (pc := 39) (as := [.int p1, .int (0 : Int32)]) (st := []) ko_K_boundByYear kc_10 rfl rfl kr_0 kw_678 (Nat.le_of_ble_eq_true rfl) rfl dk_K_fits_39 (cx_K_boundByYear (d + 2) p1 (0 : Int32) c2 y) (fun c3 => ?_)
      refine kv_aload_n (pc := 42) 0 rfl rfl dk_K_fits_42 ?_
      refine kv_getR (pc := 43) kf_K_29 kr_0 rfl kt_0_4 dk_K_fits_43 ?_
      refine kv_cV_cZc (pc := 46) (as := []) (st := []) ko_Net_holds kc_4 rfl rfl kr_68 kw_710 (Nat.le_of_ble_eq_true rfl) rfl dk_K_fits_46 (cx_Net_holds (d + 3) c3 y) (fun b4 c5 => ?_)
      refine kv_zif_eq (pc := 49) (tgt := 56) dk_K_fits_49 rfl ?_ ?_
      · refine kv_iconst (pc := 56) (v := (0 : Int32)) dk_K_fits_56 kki_0 ?_
        exact kv_iret (pc := 57) (fun h => h) rfl dk_K_fits_57
      · refine kv_iconst (pc := 52) (v := (1 : Int32)) dk_K_fits_52 kki_1 ?_
        refine kv_goto (pc := 53) (tgt := 57) dk_K_fits_53 rfl ?_
        exact kv_iret (pc := 57) (fun h => h) rfl dk_K_fits_57
    · refine kv_iconst (pc := 25) (v := (-1 : Int32)) dk_K_fits_25 kki_m1 ?_
      exact kv_iret (pc := 26) (fun h => h) rfl dk_K_fits_26
  · refine kv_aload_n (pc := 5) 0 rfl rfl dk_K_fits_5 ?_
    refine kv_cV_cZc (pc := 6) (as := []) (st := []) ko_K_longNetHolds kc_10 rfl rfl kr_0 kw_787 (Nat.le_of_ble_eq_true rfl) rfl dk_K_fits_6 (cx_K_longNetHolds d c y) (fun b6 c7 => ?_)
    refine kv_zif_eq (pc := 9) (tgt := 16) dk_K_fits_9 rfl ?_ ?_
    · refine kv_iconst (pc := 16) (v := (0 : Int32)) dk_K_fits_16 kki_0 ?_
      exact kv_iret (pc := 17) (fun h => h) rfl dk_K_fits_17
    · refine kv_iconst (pc := 12) (v := (1 : Int32)) dk_K_fits_12 kki_1 ?_
      refine kv_goto (pc := 13) (tgt := 17) dk_K_fits_13 rfl ?_
      exact kv_iret (pc := 17) (fun h => h) rfl dk_K_fits_17
theorem dk_D_fitsLongNow_0 : decode prog_13_method_41_code 0 = .ok (.aload_n 0, 1) := by decide +kernel
theorem dk_D_fitsLongNow_1 : decode prog_13_method_41_code 1 = .ok (.bipush (-4), 2) := by decide +kernel
theorem dk_D_fitsLongNow_3 : decode prog_13_method_41_code 3 = .ok (.iconst 0, 1) := by decide +kernel
theorem dk_D_fitsLongNow_4 : decode prog_13_method_41_code 4 = .ok (.bipush (-4), 2) := by decide +kernel
theorem dk_D_fitsLongNow_6 : decode prog_13_method_41_code 6 = .ok (.iconst 0, 1) := by decide +kernel
theorem dk_D_fitsLongNow_7 : decode prog_13_method_41_code 7 = .ok (.invokevirtual 189, 3) := by decide +kernel
theorem dk_D_fitsLongNow_10 : decode prog_13_method_41_code 10 = .ok (.ireturn, 1) := by decide +kernel
noncomputable def fx_D_fitsLongNow (m : (Nat → Nat → Int32)) (f : (Nat → Int64)) : Option (Bool × (Nat → Nat → Int32) × (Nat → Int64)) :=
  kv_bind3 (fx_D_fitsLong (-4 : Int32) (0 : Int32) (-4 : Int32) (0 : Int32) m f) (fun b1 m2 f3 =>
  some (b1, m2, f3))
set_option maxRecDepth 20000 in
theorem cx_D_fitsLongNow (d : Nat) (c : (Nat → Nat → Int32)) (m : (Nat → Nat → Int32)) (f : (Nat → Int64)) (u : (Nat → Int64)) : ∀ a, fx_D_fitsLongNow m f = some a → kv_C kM_D_fitsLongNow (d + 3) [.ref 84] (c, m, f, u) (some (.int (kv_b a.1)), (c, a.2.1, a.2.2, u)) := by
  refine kv_entryX (E := fun a : (Bool × (Nat → Nat → Int32) × (Nat → Int64)) => (some (.int (kv_b a.1)), (c, a.2.1, a.2.2, u))) rfl (Nat.le_of_ble_eq_true rfl) (fun o => ?_)
  unfold fx_D_fitsLongNow
  show kv_X _ _ _ _ _ 0 [(0, .ref 84)] [] (c, m, f, u)
  refine kv_aload_n (pc := 0) 0 rfl rfl dk_D_fitsLongNow_0 ?_
  refine kv_bipush (pc := 1) (v := (-4 : Int32)) dk_D_fitsLongNow_1 kkb_m4 ?_
  refine kv_iconst (pc := 3) (v := (0 : Int32)) dk_D_fitsLongNow_3 kki_0 ?_
  refine kv_bipush (pc := 4) (v := (-4 : Int32)) dk_D_fitsLongNow_4 kkb_m4 ?_
  refine kv_iconst (pc := 6) (v := (0 : Int32)) dk_D_fitsLongNow_6 kki_0 ?_
  refine kv_cV_mZmf (pc := 7) (as := [.int (-4 : Int32), .int (0 : Int32), .int (-4 : Int32), .int (0 : Int32)]) (st := []) ko_D_fitsLong kc_11 rfl rfl kr_84 kw_1485 (Nat.le_of_ble_eq_true rfl) rfl dk_D_fitsLongNow_7 (cx_D_fitsLong d (-4 : Int32) (0 : Int32) (-4 : Int32) (0 : Int32) c m f u) (fun b1 m2 f3 => ?_)
  exact kv_zret (pc := 10) (b := b1) (fun h => h) rfl dk_D_fitsLongNow_10
theorem dk_D_fits_0 : decode prog_13_method_43_code 0 = .ok (.iload_n 1, 1) := by decide +kernel
theorem dk_D_fits_1 : decode prog_13_method_43_code 1 = .ok (.iconst (-1), 1) := by decide +kernel
theorem dk_D_fits_2 : decode prog_13_method_43_code 2 = .ok (.if_icmp .eq 14, 3) := by decide +kernel
theorem dk_D_fits_5 : decode prog_13_method_43_code 5 = .ok (.iload_n 1, 1) := by decide +kernel
theorem dk_D_fits_6 : decode prog_13_method_43_code 6 = .ok (.invokestatic 110, 3) := by decide +kernel
theorem dk_D_fits_9 : decode prog_13_method_43_code 9 = .ok (.ifCond .ne 7, 3) := by decide +kernel
theorem dk_D_fits_12 : decode prog_13_method_43_code 12 = .ok (.iconst (-1), 1) := by decide +kernel
theorem dk_D_fits_13 : decode prog_13_method_43_code 13 = .ok (.goto 30, 3) := by decide +kernel
theorem dk_D_fits_16 : decode prog_13_method_43_code 16 = .ok (.iload_n 1, 1) := by decide +kernel
theorem dk_D_fits_17 : decode prog_13_method_43_code 17 = .ok (.ifCond .ge 13, 3) := by decide +kernel
theorem dk_D_fits_20 : decode prog_13_method_43_code 20 = .ok (.aload_n 0, 1) := by decide +kernel
theorem dk_D_fits_21 : decode prog_13_method_43_code 21 = .ok (.invokevirtual 193, 3) := by decide +kernel
theorem dk_D_fits_24 : decode prog_13_method_43_code 24 = .ok (.ifCond .eq 18, 3) := by decide +kernel
theorem dk_D_fits_27 : decode prog_13_method_43_code 27 = .ok (.goto 11, 3) := by decide +kernel
theorem dk_D_fits_30 : decode prog_13_method_43_code 30 = .ok (.aload_n 0, 1) := by decide +kernel
theorem dk_D_fits_31 : decode prog_13_method_43_code 31 = .ok (.iload_n 1, 1) := by decide +kernel
theorem dk_D_fits_32 : decode prog_13_method_43_code 32 = .ok (.invokevirtual 169, 3) := by decide +kernel
theorem dk_D_fits_35 : decode prog_13_method_43_code 35 = .ok (.ifCond .eq 7, 3) := by decide +kernel
theorem dk_D_fits_38 : decode prog_13_method_43_code 38 = .ok (.iconst 1, 1) := by decide +kernel
theorem dk_D_fits_39 : decode prog_13_method_43_code 39 = .ok (.goto 4, 3) := by decide +kernel
theorem dk_D_fits_42 : decode prog_13_method_43_code 42 = .ok (.iconst 0, 1) := by decide +kernel
theorem dk_D_fits_43 : decode prog_13_method_43_code 43 = .ok (.ireturn, 1) := by decide +kernel
noncomputable def fj_D_fits_16 (p1 : Int32) (m : (Nat → Nat → Int32)) (f : (Nat → Int64)) : Option (Int32 × (Nat → Nat → Int32) × (Nat → Int64)) :=
  if 0 ≤ p1 then
    kv_bind3 (fx_D_fitsYear p1 m f) (fun b1 m2 f3 =>
    if b1 = true then
      some ((1 : Int32), m2, f3)
    else
      some ((0 : Int32), m2, f3))
  else
    kv_bind3 (fx_D_fitsLongNow m f) (fun b4 m5 f6 =>
    if b4 = true then
      some ((1 : Int32), m5, f6)
    else
      some ((0 : Int32), m5, f6))
noncomputable def fx_D_fits (p1 : Int32) (m : (Nat → Nat → Int32)) (f : (Nat → Int64)) : Option (Int32 × (Nat → Nat → Int32) × (Nat → Int64)) :=
  if p1 = (-1 : Int32) then
    fj_D_fits_16 p1 m f
  else
    kv_bind1 (fx_D_isYear p1) (fun b7 =>
    if b7 = true then
      fj_D_fits_16 p1 m f
    else
      some ((-1 : Int32), m, f))
set_option maxRecDepth 20000 in
theorem cx_D_fits (d : Nat) (p1 : Int32) (c : (Nat → Nat → Int32)) (m : (Nat → Nat → Int32)) (f : (Nat → Int64)) (u : (Nat → Int64)) : ∀ a, fx_D_fits p1 m f = some a → kv_C kM_D_fits (d + 4) [.ref 84, .int p1] (c, m, f, u) (some (.int a.1), (c, a.2.1, a.2.2, u)) := by
  refine kv_entryX (E := fun a : (Int32 × (Nat → Nat → Int32) × (Nat → Int64)) => (some (.int a.1), (c, a.2.1, a.2.2, u))) rfl (Nat.le_of_ble_eq_true rfl) (fun o => ?_)
  unfold fx_D_fits
  show kv_X _ _ _ _ _ 0 [(0, .ref 84), (1, .int p1)] [] (c, m, f, u)
  refine kv_iload_n (pc := 0) 1 rfl rfl dk_D_fits_0 ?_
  refine kv_iconst (pc := 1) (v := (-1 : Int32)) dk_D_fits_1 kki_m1 ?_
  refine kv_cut_0 (J := fj_D_fits_16 p1 m f) (pcj := 16) (LJ := [(0, .ref 84), (1, .int p1)]) (SJ := []) (WJ := (c, m, f, u)) ?_ (fun hj16 => ?_)
  · show kv_X _ _ _ _ (fj_D_fits_16 p1 m f) 16 [(0, .ref 84), (1, .int p1)] [] (c, m, f, u)
    unfold fj_D_fits_16
    refine kv_iload_n (pc := 16) 1 rfl rfl dk_D_fits_16 ?_
    refine kv_if_ge (pc := 17) (tgt := 30) dk_D_fits_17 rfl ?_ ?_
    · refine kv_aload_n (pc := 30) 0 rfl rfl dk_D_fits_30 ?_
      refine kv_iload_n (pc := 31) 1 rfl rfl dk_D_fits_31 ?_
      refine kv_cV_mZmf (pc := 32) (as := [.int p1]) (st := []) ko_D_fitsYear kc_11 rfl rfl kr_84 kw_1451 (Nat.le_of_ble_eq_true rfl) rfl dk_D_fits_32 (cx_D_fitsYear d p1 c m f u) (fun b1 m2 f3 => ?_)
      refine kv_zif_eq (pc := 35) (tgt := 42) dk_D_fits_35 rfl ?_ ?_
      · refine kv_iconst (pc := 42) (v := (0 : Int32)) dk_D_fits_42 kki_0 ?_
        exact kv_iret (pc := 43) (fun h => h) rfl dk_D_fits_43
      · refine kv_iconst (pc := 38) (v := (1 : Int32)) dk_D_fits_38 kki_1 ?_
        refine kv_goto (pc := 39) (tgt := 43) dk_D_fits_39 rfl ?_
        exact kv_iret (pc := 43) (fun h => h) rfl dk_D_fits_43
    · refine kv_aload_n (pc := 20) 0 rfl rfl dk_D_fits_20 ?_
      refine kv_cV_mZmf (pc := 21) (as := []) (st := []) ko_D_fitsLongNow kc_11 rfl rfl kr_84 kw_1505 (Nat.le_of_ble_eq_true rfl) rfl dk_D_fits_21 (cx_D_fitsLongNow d c m f u) (fun b4 m5 f6 => ?_)
      refine kv_zif_eq (pc := 24) (tgt := 42) dk_D_fits_24 rfl ?_ ?_
      · refine kv_iconst (pc := 42) (v := (0 : Int32)) dk_D_fits_42 kki_0 ?_
        exact kv_iret (pc := 43) (fun h => h) rfl dk_D_fits_43
      · refine kv_goto (pc := 27) (tgt := 38) dk_D_fits_27 rfl ?_
        refine kv_iconst (pc := 38) (v := (1 : Int32)) dk_D_fits_38 kki_1 ?_
        refine kv_goto (pc := 39) (tgt := 43) dk_D_fits_39 rfl ?_
        exact kv_iret (pc := 43) (fun h => h) rfl dk_D_fits_43
  refine kv_icmp_eq (pc := 2) (tgt := 16) dk_D_fits_2 rfl ?_ ?_
  · exact hj16
  · refine kv_iload_n (pc := 5) 1 rfl rfl dk_D_fits_5 ?_
    refine kv_cS_mZ (pc := 6) (as := [.int p1]) (st := []) ko_D_isYear rfl kw_1385 (Nat.le_of_ble_eq_true rfl) rfl dk_D_fits_6 (cx_D_isYear (d + 2) p1 c m f u) (fun b7 => ?_)
    refine kv_zif_ne (pc := 9) (tgt := 16) dk_D_fits_9 rfl ?_ ?_
    · exact hj16
    · refine kv_iconst (pc := 12) (v := (-1 : Int32)) dk_D_fits_12 kki_m1 ?_
      refine kv_goto (pc := 13) (tgt := 43) dk_D_fits_13 rfl ?_
      exact kv_iret (pc := 43) (fun h => h) rfl dk_D_fits_43
theorem dk_K_longNetHoldsWithout_0 : decode prog_1_method_56_code 0 = .ok (.aload_n 0, 1) := by decide +kernel
theorem dk_K_longNetHoldsWithout_1 : decode prog_1_method_56_code 1 = .ok (.getfield 36, 3) := by decide +kernel
theorem dk_K_longNetHoldsWithout_4 : decode prog_1_method_56_code 4 = .ok (.invokevirtual 221, 3) := by decide +kernel
theorem dk_K_longNetHoldsWithout_7 : decode prog_1_method_56_code 7 = .ok (.aload_n 0, 1) := by decide +kernel
theorem dk_K_longNetHoldsWithout_8 : decode prog_1_method_56_code 8 = .ok (.getfield 36, 3) := by decide +kernel
theorem dk_K_longNetHoldsWithout_11 : decode prog_1_method_56_code 11 = .ok (.iload_n 1, 1) := by decide +kernel
theorem dk_K_longNetHoldsWithout_12 : decode prog_1_method_56_code 12 = .ok (.putfield 447, 3) := by decide +kernel
theorem dk_K_longNetHoldsWithout_15 : decode prog_1_method_56_code 15 = .ok (.aload_n 0, 1) := by decide +kernel
theorem dk_K_longNetHoldsWithout_16 : decode prog_1_method_56_code 16 = .ok (.getfield 36, 3) := by decide +kernel
theorem dk_K_longNetHoldsWithout_19 : decode prog_1_method_56_code 19 = .ok (.aload_n 0, 1) := by decide +kernel
theorem dk_K_longNetHoldsWithout_20 : decode prog_1_method_56_code 20 = .ok (.getfield 10, 3) := by decide +kernel
theorem dk_K_longNetHoldsWithout_23 : decode prog_1_method_56_code 23 = .ok (.aload_n 0, 1) := by decide +kernel
theorem dk_K_longNetHoldsWithout_24 : decode prog_1_method_56_code 24 = .ok (.getfield 29, 3) := by decide +kernel
theorem dk_K_longNetHoldsWithout_27 : decode prog_1_method_56_code 27 = .ok (.invokevirtual 226, 3) := by decide +kernel
theorem dk_K_longNetHoldsWithout_30 : decode prog_1_method_56_code 30 = .ok (.aload_n 0, 1) := by decide +kernel
theorem dk_K_longNetHoldsWithout_31 : decode prog_1_method_56_code 31 = .ok (.getfield 29, 3) := by decide +kernel
theorem dk_K_longNetHoldsWithout_34 : decode prog_1_method_56_code 34 = .ok (.invokevirtual 237, 3) := by decide +kernel
theorem dk_K_longNetHoldsWithout_37 : decode prog_1_method_56_code 37 = .ok (.ireturn, 1) := by decide +kernel
noncomputable def fx_K_longNetHoldsWithout (p1 : Int32) (c : (Nat → Nat → Int32)) : Option (Bool × (Nat → Nat → Int32)) :=
  kv_bind1 (fx_LongNet_start c) (fun c1 =>
  kv_let (kv_st c1 73 2 p1) (fun c2 =>
  kv_bind1 (fx_LongNet_build c2) (fun c3 =>
  kv_bind2 (fx_Net_holds c3) (fun b4 c5 =>
  some (b4, c5)))))
set_option maxRecDepth 20000 in
theorem cx_K_longNetHoldsWithout (d : Nat) (p1 : Int32) (c : (Nat → Nat → Int32)) (y : (Nat → Nat → Int32) × (Nat → Int64) × (Nat → Int64)) : ∀ a, fx_K_longNetHoldsWithout p1 c = some a → kv_C kM_K_longNetHoldsWithout (d + 5) [.ref 0, .int p1] (c, y) (some (.int (kv_b a.1)), (a.2, y)) := by
  refine kv_entryX (E := fun a : (Bool × (Nat → Nat → Int32)) => (some (.int (kv_b a.1)), (a.2, y))) rfl (Nat.le_of_ble_eq_true rfl) (fun o => ?_)
  unfold fx_K_longNetHoldsWithout
  show kv_X _ _ _ _ _ 0 [(0, .ref 0), (1, .int p1)] [] (c, y)
  refine kv_aload_n (pc := 0) 0 rfl rfl dk_K_longNetHoldsWithout_0 ?_
  refine kv_getR (pc := 1) kf_K_36 kr_0 rfl kt_0_5 dk_K_longNetHoldsWithout_1 ?_
  refine kv_cV_cc (pc := 4) (as := []) (st := []) ko_LongNet_start kc_2 rfl rfl kr_73 kw_734 (Nat.le_of_ble_eq_true rfl) rfl dk_K_longNetHoldsWithout_4 (cx_LongNet_start (d + 3) c y) (fun c1 => ?_)
  refine kv_aload_n (pc := 7) 0 rfl rfl dk_K_longNetHoldsWithout_7 ?_
  refine kv_getR (pc := 8) kf_K_36 kr_0 rfl kt_0_5 dk_K_longNetHoldsWithout_8 ?_
  refine kv_iload_n (pc := 11) 1 rfl rfl dk_K_longNetHoldsWithout_11 ?_
  refine kv_putC (pc := 12) kf_K_447 kr_73 kn_73 rfl rfl rfl dk_K_longNetHoldsWithout_12 (fun c2 => ?_)
  refine kv_aload_n (pc := 15) 0 rfl rfl dk_K_longNetHoldsWithout_15 ?_
  refine kv_getR (pc := 16) kf_K_36 kr_0 rfl kt_0_5 dk_K_longNetHoldsWithout_16 ?_
  refine kv_aload_n (pc := 19) 0 rfl rfl dk_K_longNetHoldsWithout_19 ?_
  refine kv_getR (pc := 20) kf_K_10 kr_0 rfl kt_0_0 dk_K_longNetHoldsWithout_20 ?_
  refine kv_aload_n (pc := 23) 0 rfl rfl dk_K_longNetHoldsWithout_23 ?_
  refine kv_getR (pc := 24) kf_K_29 kr_0 rfl kt_0_4 dk_K_longNetHoldsWithout_24 ?_
  refine kv_cV_cc (pc := 27) (as := [.ref 1, .ref 68]) (st := []) ko_LongNet_build kc_2 rfl rfl kr_73 kw_753 (Nat.le_of_ble_eq_true rfl) rfl dk_K_longNetHoldsWithout_27 (cx_LongNet_build d c2 y) (fun c3 => ?_)
  refine kv_aload_n (pc := 30) 0 rfl rfl dk_K_longNetHoldsWithout_30 ?_
  refine kv_getR (pc := 31) kf_K_29 kr_0 rfl kt_0_4 dk_K_longNetHoldsWithout_31 ?_
  refine kv_cV_cZc (pc := 34) (as := []) (st := []) ko_Net_holds kc_4 rfl rfl kr_68 kw_710 (Nat.le_of_ble_eq_true rfl) rfl dk_K_longNetHoldsWithout_34 (cx_Net_holds (d + 2) c3 y) (fun b4 c5 => ?_)
  exact kv_zret (pc := 37) (b := b4) (fun h => h) rfl dk_K_longNetHoldsWithout_37
theorem dk_K_needed_0 : decode prog_1_method_17_code 0 = .ok (.aload_n 0, 1) := by decide +kernel
theorem dk_K_needed_1 : decode prog_1_method_17_code 1 = .ok (.invokevirtual 233, 3) := by decide +kernel
theorem dk_K_needed_4 : decode prog_1_method_17_code 4 = .ok (.ifCond .eq 6, 3) := by decide +kernel
theorem dk_K_needed_7 : decode prog_1_method_17_code 7 = .ok (.bipush (-3), 2) := by decide +kernel
theorem dk_K_needed_9 : decode prog_1_method_17_code 9 = .ok (.ireturn, 1) := by decide +kernel
theorem dk_K_needed_10 : decode prog_1_method_17_code 10 = .ok (.aload_n 0, 1) := by decide +kernel
theorem dk_K_needed_11 : decode prog_1_method_17_code 11 = .ok (.getfield 10, 3) := by decide +kernel
theorem dk_K_needed_14 : decode prog_1_method_17_code 14 = .ok (.getfield 152, 3) := by decide +kernel
theorem dk_K_needed_17 : decode prog_1_method_17_code 17 = .ok (.astore_n 1, 1) := by decide +kernel
theorem dk_K_needed_18 : decode prog_1_method_17_code 18 = .ok (.iconst 0, 1) := by decide +kernel
theorem dk_K_needed_19 : decode prog_1_method_17_code 19 = .ok (.istore_n 2, 1) := by decide +kernel
theorem dk_K_needed_20 : decode prog_1_method_17_code 20 = .ok (.iload_n 2, 1) := by decide +kernel
theorem dk_K_needed_21 : decode prog_1_method_17_code 21 = .ok (.aload_n 1, 1) := by decide +kernel
theorem dk_K_needed_22 : decode prog_1_method_17_code 22 = .ok (.getfield 156, 3) := by decide +kernel
theorem dk_K_needed_25 : decode prog_1_method_17_code 25 = .ok (.if_icmp .ge 28, 3) := by decide +kernel
theorem dk_K_needed_28 : decode prog_1_method_17_code 28 = .ok (.aload_n 1, 1) := by decide +kernel
theorem dk_K_needed_29 : decode prog_1_method_17_code 29 = .ok (.getfield 207, 3) := by decide +kernel
theorem dk_K_needed_32 : decode prog_1_method_17_code 32 = .ok (.iload_n 2, 1) := by decide +kernel
theorem dk_K_needed_33 : decode prog_1_method_17_code 33 = .ok (.baload, 1) := by decide +kernel
theorem dk_K_needed_34 : decode prog_1_method_17_code 34 = .ok (.ifCond .ne 13, 3) := by decide +kernel
theorem dk_K_needed_37 : decode prog_1_method_17_code 37 = .ok (.aload_n 0, 1) := by decide +kernel
theorem dk_K_needed_38 : decode prog_1_method_17_code 38 = .ok (.iload_n 2, 1) := by decide +kernel
theorem dk_K_needed_39 : decode prog_1_method_17_code 39 = .ok (.invokevirtual 240, 3) := by decide +kernel
theorem dk_K_needed_42 : decode prog_1_method_17_code 42 = .ok (.ifCond .eq 5, 3) := by decide +kernel
theorem dk_K_needed_45 : decode prog_1_method_17_code 45 = .ok (.iload_n 2, 1) := by decide +kernel
theorem dk_K_needed_46 : decode prog_1_method_17_code 46 = .ok (.ireturn, 1) := by decide +kernel
theorem dk_K_needed_47 : decode prog_1_method_17_code 47 = .ok (.iinc 2 1, 3) := by decide +kernel
theorem dk_K_needed_50 : decode prog_1_method_17_code 50 = .ok (.goto (-30), 3) := by decide +kernel
theorem dk_K_needed_53 : decode prog_1_method_17_code 53 = .ok (.bipush (-4), 2) := by decide +kernel
theorem dk_K_needed_55 : decode prog_1_method_17_code 55 = .ok (.ireturn, 1) := by decide +kernel
noncomputable def fj_K_needed_47 (x3 : Int32) (c9 : (Nat → Nat → Int32)) : Option ((Int32 × (Nat → Nat → Int32)) ⊕ ((Int32 × (Nat → Nat → Int32)) ⊕ (Nat → Nat → Int32))) :=
  some (.inl ((x3 + (1 : Int32)), c9))
noncomputable def fb_K_needed_20 (x3 : Int32) (c4 : (Nat → Nat → Int32)) : Option ((Int32 × (Nat → Nat → Int32)) ⊕ ((Int32 × (Nat → Nat → Int32)) ⊕ (Nat → Nat → Int32))) :=
  if (c4 10 7) ≤ x3 then
    some (.inr (.inr c4))
  else
    kv_gd (kv_in x3 20) (
    if (c4 16 x3.toNatClampNeg) = 0 then
      kv_bind2 (fx_K_longNetHoldsWithout x3 c4) (fun b10 c11 =>
      if b10 = true then
        some (.inr (.inl (x3, c11)))
      else
        fj_K_needed_47 x3 c11)
    else
      fj_K_needed_47 x3 c4)
noncomputable def fx_K_needed (c : (Nat → Nat → Int32)) : Option (Int32 × (Nat → Nat → Int32)) :=
  kv_bind2 (fx_K_longNetHolds c) (fun b1 c2 =>
  if b1 = true then
    some ((-3 : Int32), c2)
  else
    (kv_loop (kv_u2 (fb_K_needed_20)) ((0 : Int32), c2)).bind (Sum.elim (kv_u2 (fun x5 c6 =>
    some (x5, c6)))
     (kv_u1 (fun c7 =>
    some ((-4 : Int32), c7)))))
set_option maxRecDepth 20000 in
theorem cx_K_needed (d : Nat) (c : (Nat → Nat → Int32)) (y : (Nat → Nat → Int32) × (Nat → Int64) × (Nat → Int64)) : ∀ a, fx_K_needed c = some a → kv_C kM_K_needed (d + 6) [.ref 0] (c, y) (some (.int a.1), (a.2, y)) := by
  refine kv_entryX (E := fun a : (Int32 × (Nat → Nat → Int32)) => (some (.int a.1), (a.2, y))) rfl (Nat.le_of_ble_eq_true rfl) (fun o => ?_)
  unfold fx_K_needed
  show kv_X _ _ _ _ _ 0 [(0, .ref 0)] [] (c, y)
  refine kv_aload_n (pc := 0) 0 rfl rfl dk_K_needed_0 ?_
  refine kv_cV_cZc (pc := 1) (as := []) (st := []) ko_K_longNetHolds kc_10 rfl rfl kr_0 kw_787 (Nat.le_of_ble_eq_true rfl) rfl dk_K_needed_1 (cx_K_longNetHolds d c y) (fun b1 c2 => ?_)
  refine kv_zif_eq (pc := 4) (tgt := 10) dk_K_needed_4 rfl ?_ ?_
  · refine kv_aload_n (pc := 10) 0 rfl rfl dk_K_needed_10 ?_
    refine kv_getR (pc := 11) kf_K_10 kr_0 rfl kt_0_0 dk_K_needed_11 ?_
    refine kv_getR (pc := 14) kf_K_152 kr_1 rfl kt_1_1 dk_K_needed_14 ?_
    refine kv_astore_n (pc := 17) (lv' := [(1, .ref 10), (0, .ref 0)]) rfl (Nat.le_of_ble_eq_true rfl) rfl dk_K_needed_17 ?_
    refine kv_iconst (pc := 18) (v := (0 : Int32)) dk_K_needed_18 kki_0 ?_
    refine kv_istore_n (pc := 19) (lv' := [(2, .int (0 : Int32)), (1, .ref 10), (0, .ref 0)]) rfl (Nat.le_of_ble_eq_true rfl) rfl dk_K_needed_19 ?_
    refine kv_sub (lv' := [(0, .ref 0), (1, .ref 10), (2, .int (0 : Int32))]) [2, 1, 0] rfl ?_
    refine kv_lp_2_2_1 (LV := fun x3 c4 => [(0, .ref 0), (1, .ref 10), (2, .int x3)]) (WW := fun x3 c4 => (c4, y)) (LE1 := fun x5 c6 => [(2, .int x5)]) (WE1 := fun x5 c6 => (c6, y)) (pe1 := 45) (LE2 := fun c7 => []) (WE2 := fun c7 => (c7, y)) (pe2 := 53) ?_ ?_ ?_
    · intro x5 c6
      show kv_X _ _ _ _ _ 45 [(2, .int x5)] [] (c6, y)
      refine kv_iload_n (pc := 45) 0 rfl rfl dk_K_needed_45 ?_
      exact kv_iret (pc := 46) (fun h => h) rfl dk_K_needed_46
    · intro c7
      show kv_X _ _ _ _ _ 53 [] [] (c7, y)
      refine kv_bipush (pc := 53) (v := (-4 : Int32)) dk_K_needed_53 kkb_m4 ?_
      exact kv_iret (pc := 55) (fun h => h) rfl dk_K_needed_55
    · intro hx20_0 hx20_1 x3 c4
      show kv_X _ _ _ _ (fb_K_needed_20 x3 c4) 20 [(0, .ref 0), (1, .ref 10), (2, .int x3)] [] (c4, y)
      unfold fb_K_needed_20
      refine kv_iload_n (pc := 20) 2 rfl rfl dk_K_needed_20 ?_
      refine kv_aload_n (pc := 21) 1 rfl rfl dk_K_needed_21 ?_
      refine kv_getC (pc := 22) kf_K_156 kr_10 kn_10 rfl dk_K_needed_22 ?_
      refine kv_icmp_ge (pc := 25) (tgt := 53) dk_K_needed_25 rfl ?_ ?_
      · exact kv_sub [] rfl (kv_leaf (hx20_1 _))
      · refine kv_aload_n (pc := 28) 1 rfl rfl dk_K_needed_28 ?_
        refine kv_getR (pc := 29) kf_K_207 kr_10 rfl kt_10_5 dk_K_needed_29 ?_
        refine kv_iload_n (pc := 32) 2 rfl rfl dk_K_needed_32 ?_
        refine kv_guard (fun g8 => ?_)
        refine kv_aldZC (pc := 33) kr_16 kn_16 kl_16 g8 rfl dk_K_needed_33 ?_
        refine kv_cut_1 (J := fj_K_needed_47 x3) (pcj := 47) (LJ := fun c9 => [(0, .ref 0), (1, .ref 10), (2, .int x3)]) (SJ := fun c9 => []) (WJ := fun c9 => (c9, y)) ?_ (fun hj47 => ?_)
        · intro c9
          show kv_X _ _ _ _ (fj_K_needed_47 x3 c9) 47 [(0, .ref 0), (1, .ref 10), (2, .int x3)] [] (c9, y)
          unfold fj_K_needed_47
          refine kv_iinc (pc := 47) (kk := (1 : Int32)) (lv' := [(2, .int (x3 + (1 : Int32))), (0, .ref 0), (1, .ref 10)]) 2 rfl kki_1 rfl (Nat.le_of_ble_eq_true rfl) dk_K_needed_47 ?_
          refine kv_goto (pc := 50) (tgt := 20) dk_K_needed_50 rfl ?_
          exact kv_sub [1, 2, 0] rfl (kv_leaf (fun h => h))
        refine kv_if_ne (pc := 34) (tgt := 47) dk_K_needed_34 rfl ?_ ?_
        · exact hj47 c4
        · refine kv_aload_n (pc := 37) 0 rfl rfl dk_K_needed_37 ?_
          refine kv_iload_n (pc := 38) 2 rfl rfl dk_K_needed_38 ?_
          refine kv_cV_cZc (pc := 39) (as := [.int x3]) (st := []) ko_K_longNetHoldsWithout kc_10 rfl rfl kr_0 kw_795 (Nat.le_of_ble_eq_true rfl) rfl dk_K_needed_39 (cx_K_longNetHoldsWithout d x3 c4 y) (fun b10 c11 => ?_)
          refine kv_zif_eq (pc := 42) (tgt := 47) dk_K_needed_42 rfl ?_ ?_
          · exact hj47 c11
          · exact kv_sub [2] rfl (kv_leaf (hx20_0 _ _))
  · refine kv_bipush (pc := 7) (v := (-3 : Int32)) dk_K_needed_7 kkb_m3 ?_
    exact kv_iret (pc := 9) (fun h => h) rfl dk_K_needed_9
theorem dk_D_needed_0 : decode prog_13_method_44_code 0 = .ok (.aload_n 0, 1) := by decide +kernel
theorem dk_D_needed_1 : decode prog_13_method_44_code 1 = .ok (.invokevirtual 193, 3) := by decide +kernel
theorem dk_D_needed_4 : decode prog_13_method_44_code 4 = .ok (.ifCond .eq 6, 3) := by decide +kernel
theorem dk_D_needed_7 : decode prog_13_method_44_code 7 = .ok (.bipush (-3), 2) := by decide +kernel
theorem dk_D_needed_9 : decode prog_13_method_44_code 9 = .ok (.ireturn, 1) := by decide +kernel
theorem dk_D_needed_10 : decode prog_13_method_44_code 10 = .ok (.bipush (-4), 2) := by decide +kernel
theorem dk_D_needed_12 : decode prog_13_method_44_code 12 = .ok (.istore_n 1, 1) := by decide +kernel
theorem dk_D_needed_13 : decode prog_13_method_44_code 13 = .ok (.iconst 0, 1) := by decide +kernel
theorem dk_D_needed_14 : decode prog_13_method_44_code 14 = .ok (.istore_n 2, 1) := by decide +kernel
theorem dk_D_needed_15 : decode prog_13_method_44_code 15 = .ok (.iload_n 2, 1) := by decide +kernel
theorem dk_D_needed_16 : decode prog_13_method_44_code 16 = .ok (.aload_n 0, 1) := by decide +kernel
theorem dk_D_needed_17 : decode prog_13_method_44_code 17 = .ok (.getfield 9, 3) := by decide +kernel
theorem dk_D_needed_20 : decode prog_13_method_44_code 20 = .ok (.iconst 2, 1) := by decide +kernel
theorem dk_D_needed_21 : decode prog_13_method_44_code 21 = .ok (.iaload, 1) := by decide +kernel
theorem dk_D_needed_22 : decode prog_13_method_44_code 22 = .ok (.if_icmp .ge 45, 3) := by decide +kernel
theorem dk_D_needed_25 : decode prog_13_method_44_code 25 = .ok (.iload_n 1, 1) := by decide +kernel
theorem dk_D_needed_26 : decode prog_13_method_44_code 26 = .ok (.ifCond .ge 41, 3) := by decide +kernel
theorem dk_D_needed_29 : decode prog_13_method_44_code 29 = .ok (.aload_n 0, 1) := by decide +kernel
theorem dk_D_needed_30 : decode prog_13_method_44_code 30 = .ok (.iload_n 2, 1) := by decide +kernel
theorem dk_D_needed_31 : decode prog_13_method_44_code 31 = .ok (.iconst 5, 1) := by decide +kernel
theorem dk_D_needed_32 : decode prog_13_method_44_code 32 = .ok (.invokevirtual 141, 3) := by decide +kernel
theorem dk_D_needed_35 : decode prog_13_method_44_code 35 = .ok (.iconst 1, 1) := by decide +kernel
theorem dk_D_needed_36 : decode prog_13_method_44_code 36 = .ok (.if_icmp .ne 6, 3) := by decide +kernel
theorem dk_D_needed_39 : decode prog_13_method_44_code 39 = .ok (.goto 22, 3) := by decide +kernel
theorem dk_D_needed_42 : decode prog_13_method_44_code 42 = .ok (.aload_n 0, 1) := by decide +kernel
theorem dk_D_needed_43 : decode prog_13_method_44_code 43 = .ok (.iload_n 2, 1) := by decide +kernel
theorem dk_D_needed_44 : decode prog_13_method_44_code 44 = .ok (.putfield 51, 3) := by decide +kernel
theorem dk_D_needed_47 : decode prog_13_method_44_code 47 = .ok (.aload_n 0, 1) := by decide +kernel
theorem dk_D_needed_48 : decode prog_13_method_44_code 48 = .ok (.invokevirtual 193, 3) := by decide +kernel
theorem dk_D_needed_51 : decode prog_13_method_44_code 51 = .ok (.ifCond .eq 7, 3) := by decide +kernel
theorem dk_D_needed_54 : decode prog_13_method_44_code 54 = .ok (.iload_n 2, 1) := by decide +kernel
theorem dk_D_needed_55 : decode prog_13_method_44_code 55 = .ok (.goto 5, 3) := by decide +kernel
theorem dk_D_needed_58 : decode prog_13_method_44_code 58 = .ok (.bipush (-4), 2) := by decide +kernel
theorem dk_D_needed_60 : decode prog_13_method_44_code 60 = .ok (.istore_n 1, 1) := by decide +kernel
theorem dk_D_needed_61 : decode prog_13_method_44_code 61 = .ok (.iinc 2 1, 3) := by decide +kernel
theorem dk_D_needed_64 : decode prog_13_method_44_code 64 = .ok (.goto (-49), 3) := by decide +kernel
theorem dk_D_needed_67 : decode prog_13_method_44_code 67 = .ok (.aload_n 0, 1) := by decide +kernel
theorem dk_D_needed_68 : decode prog_13_method_44_code 68 = .ok (.bipush (-4), 2) := by decide +kernel
theorem dk_D_needed_70 : decode prog_13_method_44_code 70 = .ok (.putfield 51, 3) := by decide +kernel
theorem dk_D_needed_73 : decode prog_13_method_44_code 73 = .ok (.iload_n 1, 1) := by decide +kernel
theorem dk_D_needed_74 : decode prog_13_method_44_code 74 = .ok (.ireturn, 1) := by decide +kernel
noncomputable def fj_D_needed_61 (x5 : Int32) (x12 : Int32) (m13 : (Nat → Nat → Int32)) (f14 : (Nat → Int64)) : Option ((Int32 × Int32 × (Nat → Nat → Int32) × (Nat → Int64)) ⊕ (Int32 × (Nat → Nat → Int32) × (Nat → Int64))) :=
  some (.inl (x12, (x5 + (1 : Int32)), m13, f14))
noncomputable def fj_D_needed_60 (x5 : Int32) (m17 : (Nat → Nat → Int32)) (f18 : (Nat → Int64)) (x19 : Int32) : Option ((Int32 × Int32 × (Nat → Nat → Int32) × (Nat → Int64)) ⊕ (Int32 × (Nat → Nat → Int32) × (Nat → Int64))) :=
  fj_D_needed_61 x5 x19 m17 f18
noncomputable def fb_D_needed_15 (x4 : Int32) (x5 : Int32) (m6 : (Nat → Nat → Int32)) (f7 : (Nat → Int64)) : Option ((Int32 × Int32 × (Nat → Nat → Int32) × (Nat → Int64)) ⊕ (Int32 × (Nat → Nat → Int32) × (Nat → Int64))) :=
  if (m6 85 2) ≤ x5 then
    some (.inr (x4, m6, f7))
  else
    if 0 ≤ x4 then
      some (.inr (x4, m6, f7))
    else
      kv_bind1 (fx_D_say x5 (5 : Int32) m6) (fun v11 =>
      if v11 = (1 : Int32) then
        fj_D_needed_61 x5 x4 m6 f7
      else
        kv_let (kv_st m6 84 17 x5) (fun m15 =>
        kv_bind3 (fx_D_fitsLongNow m15 f7) (fun b16 m17 f18 =>
        if b16 = true then
          fj_D_needed_60 x5 m17 f18 x5
        else
          fj_D_needed_60 x5 m17 f18 (-4 : Int32))))
noncomputable def fx_D_needed (m : (Nat → Nat → Int32)) (f : (Nat → Int64)) : Option (Int32 × (Nat → Nat → Int32) × (Nat → Int64)) :=
  kv_bind3 (fx_D_fitsLongNow m f) (fun b1 m2 f3 =>
  if b1 = true then
    some ((-3 : Int32), m2, f3)
  else
    (kv_loop (kv_u4 (fb_D_needed_15)) ((-4 : Int32), (0 : Int32), m2, f3)).bind (kv_u3 (fun x8 m9 f10 =>
    kv_let (kv_st m9 84 17 (-4 : Int32)) (fun m20 =>
    some (x8, m20, f10)))))
set_option maxRecDepth 20000 in
theorem cx_D_needed (d : Nat) (c : (Nat → Nat → Int32)) (m : (Nat → Nat → Int32)) (f : (Nat → Int64)) (u : (Nat → Int64)) : ∀ a, fx_D_needed m f = some a → kv_C kM_D_needed (d + 4) [.ref 84] (c, m, f, u) (some (.int a.1), (c, a.2.1, a.2.2, u)) := by
  refine kv_entryX (E := fun a : (Int32 × (Nat → Nat → Int32) × (Nat → Int64)) => (some (.int a.1), (c, a.2.1, a.2.2, u))) rfl (Nat.le_of_ble_eq_true rfl) (fun o => ?_)
  unfold fx_D_needed
  show kv_X _ _ _ _ _ 0 [(0, .ref 84)] [] (c, m, f, u)
  refine kv_aload_n (pc := 0) 0 rfl rfl dk_D_needed_0 ?_
  refine kv_cV_mZmf (pc := 1) (as := []) (st := []) ko_D_fitsLongNow kc_11 rfl rfl kr_84 kw_1505 (Nat.le_of_ble_eq_true rfl) rfl dk_D_needed_1 (cx_D_fitsLongNow d c m f u) (fun b1 m2 f3 => ?_)
  refine kv_zif_eq (pc := 4) (tgt := 10) dk_D_needed_4 rfl ?_ ?_
  · refine kv_bipush (pc := 10) (v := (-4 : Int32)) dk_D_needed_10 kkb_m4 ?_
    refine kv_istore_n (pc := 12) (lv' := [(1, .int (-4 : Int32)), (0, .ref 84)]) rfl (Nat.le_of_ble_eq_true rfl) rfl dk_D_needed_12 ?_
    refine kv_iconst (pc := 13) (v := (0 : Int32)) dk_D_needed_13 kki_0 ?_
    refine kv_istore_n (pc := 14) (lv' := [(2, .int (0 : Int32)), (1, .int (-4 : Int32)), (0, .ref 84)]) rfl (Nat.le_of_ble_eq_true rfl) rfl dk_D_needed_14 ?_
    refine kv_sub (lv' := [(0, .ref 84), (1, .int (-4 : Int32)), (2, .int (0 : Int32))]) [2, 1, 0] rfl ?_
    refine kv_lp_4_3 (LV := fun x4 x5 m6 f7 => [(0, .ref 84), (1, .int x4), (2, .int x5)]) (WW := fun x4 x5 m6 f7 => (c, m6, f7, u)) (LE1 := fun x8 m9 f10 => [(0, .ref 84), (1, .int x8)]) (WE1 := fun x8 m9 f10 => (c, m9, f10, u)) (pe1 := 67) ?_ ?_
    · intro x8 m9 f10
      show kv_X _ _ _ _ _ 67 [(0, .ref 84), (1, .int x8)] [] (c, m9, f10, u)
      refine kv_aload_n (pc := 67) 0 rfl rfl dk_D_needed_67 ?_
      refine kv_bipush (pc := 68) (v := (-4 : Int32)) dk_D_needed_68 kkb_m4 ?_
      refine kv_putM (pc := 70) kf_D_51 kr_84 kn_84 rfl rfl rfl dk_D_needed_70 (fun m20 => ?_)
      refine kv_iload_n (pc := 73) 1 rfl rfl dk_D_needed_73 ?_
      exact kv_iret (pc := 74) (fun h => h) rfl dk_D_needed_74
    · intro hx15_0 x4 x5 m6 f7
      show kv_X _ _ _ _ (fb_D_needed_15 x4 x5 m6 f7) 15 [(0, .ref 84), (1, .int x4), (2, .int x5)] [] (c, m6, f7, u)
      unfold fb_D_needed_15
      refine kv_iload_n (pc := 15) 2 rfl rfl dk_D_needed_15 ?_
      refine kv_aload_n (pc := 16) 0 rfl rfl dk_D_needed_16 ?_
      refine kv_getR (pc := 17) kf_D_9 kr_84 rfl kt_84_0 dk_D_needed_17 ?_
      refine kv_iconst (pc := 20) (v := (2 : Int32)) dk_D_needed_20 kki_2 ?_
      refine kv_aldM (pc := 21) kr_85 kn_85 kl_85 kkg_2_444 (j := 2) kkx_2 dk_D_needed_21 ?_
      refine kv_icmp_ge (pc := 22) (tgt := 67) dk_D_needed_22 rfl ?_ ?_
      · exact kv_sub [0, 1] rfl (kv_leaf (hx15_0 _ _ _))
      · refine kv_iload_n (pc := 25) 1 rfl rfl dk_D_needed_25 ?_
        refine kv_if_ge (pc := 26) (tgt := 67) dk_D_needed_26 rfl ?_ ?_
        · exact kv_sub [0, 1] rfl (kv_leaf (hx15_0 _ _ _))
        · refine kv_aload_n (pc := 29) 0 rfl rfl dk_D_needed_29 ?_
          refine kv_iload_n (pc := 30) 2 rfl rfl dk_D_needed_30 ?_
          refine kv_iconst (pc := 31) (v := (5 : Int32)) dk_D_needed_31 kki_5 ?_
          refine kv_cV_mI (pc := 32) (as := [.int x5, .int (5 : Int32)]) (st := []) ko_D_say kc_11 rfl rfl kr_84 kw_1435 (Nat.le_of_ble_eq_true rfl) rfl dk_D_needed_32 (cx_D_say (d + 3) x5 (5 : Int32) c m6 f7 u) (fun v11 => ?_)
          refine kv_iconst (pc := 35) (v := (1 : Int32)) dk_D_needed_35 kki_1 ?_
          refine kv_cut_3 (J := fj_D_needed_61 x5) (pcj := 61) (LJ := fun x12 m13 f14 => [(0, .ref 84), (1, .int x12), (2, .int x5)]) (SJ := fun x12 m13 f14 => []) (WJ := fun x12 m13 f14 => (c, m13, f14, u)) ?_ (fun hj61 => ?_)
          · intro x12 m13 f14
            show kv_X _ _ _ _ (fj_D_needed_61 x5 x12 m13 f14) 61 [(0, .ref 84), (1, .int x12), (2, .int x5)] [] (c, m13, f14, u)
            unfold fj_D_needed_61
            refine kv_iinc (pc := 61) (kk := (1 : Int32)) (lv' := [(2, .int (x5 + (1 : Int32))), (0, .ref 84), (1, .int x12)]) 2 rfl kki_1 rfl (Nat.le_of_ble_eq_true rfl) dk_D_needed_61 ?_
            refine kv_goto (pc := 64) (tgt := 15) dk_D_needed_64 rfl ?_
            exact kv_sub [1, 2, 0] rfl (kv_leaf (fun h => h))
          refine kv_icmp_ne (pc := 36) (tgt := 42) dk_D_needed_36 rfl ?_ ?_
          · refine kv_aload_n (pc := 42) 0 rfl rfl dk_D_needed_42 ?_
            refine kv_iload_n (pc := 43) 2 rfl rfl dk_D_needed_43 ?_
            refine kv_putM (pc := 44) kf_D_51 kr_84 kn_84 rfl rfl rfl dk_D_needed_44 (fun m15 => ?_)
            refine kv_aload_n (pc := 47) 0 rfl rfl dk_D_needed_47 ?_
            refine kv_cV_mZmf (pc := 48) (as := []) (st := []) ko_D_fitsLongNow kc_11 rfl rfl kr_84 kw_1505 (Nat.le_of_ble_eq_true rfl) rfl dk_D_needed_48 (cx_D_fitsLongNow d c m15 f7 u) (fun b16 m17 f18 => ?_)
            refine kv_cut_1 (J := fj_D_needed_60 x5 m17 f18) (pcj := 60) (LJ := fun x19 => [(0, .ref 84), (2, .int x5)]) (SJ := fun x19 => [.int x19]) (WJ := fun x19 => (c, m17, f18, u)) ?_ (fun hj60 => ?_)
            · intro x19
              show kv_X _ _ _ _ (fj_D_needed_60 x5 m17 f18 x19) 60 [(0, .ref 84), (2, .int x5)] [.int x19] (c, m17, f18, u)
              unfold fj_D_needed_60
              refine kv_istore_n (pc := 60) (lv' := [(1, .int x19), (0, .ref 84), (2, .int x5)]) rfl (Nat.le_of_ble_eq_true rfl) rfl dk_D_needed_60 ?_
              exact kv_sub [1, 0, 2] rfl (hj61 x19 m17 f18)
            refine kv_zif_eq (pc := 51) (tgt := 58) dk_D_needed_51 rfl ?_ ?_
            · refine kv_bipush (pc := 58) (v := (-4 : Int32)) dk_D_needed_58 kkb_m4 ?_
              exact kv_sub [0, 2] rfl (hj60 (-4 : Int32))
            · refine kv_iload_n (pc := 54) 2 rfl rfl dk_D_needed_54 ?_
              refine kv_goto (pc := 55) (tgt := 60) dk_D_needed_55 rfl ?_
              exact kv_sub [0, 2] rfl (hj60 x5)
          · refine kv_goto (pc := 39) (tgt := 61) dk_D_needed_39 rfl ?_
            exact hj61 x4 m6 f7
  · refine kv_bipush (pc := 7) (v := (-3 : Int32)) dk_D_needed_7 kkb_m3 ?_
    exact kv_iret (pc := 9) (fun h => h) rfl dk_D_needed_9
theorem dk_K_longNetHoldsSwapped_0 : decode prog_1_method_57_code 0 = .ok (.aload_n 0, 1) := by decide +kernel
theorem dk_K_longNetHoldsSwapped_1 : decode prog_1_method_57_code 1 = .ok (.getfield 36, 3) := by decide +kernel
theorem dk_K_longNetHoldsSwapped_4 : decode prog_1_method_57_code 4 = .ok (.invokevirtual 221, 3) := by decide +kernel
theorem dk_K_longNetHoldsSwapped_7 : decode prog_1_method_57_code 7 = .ok (.aload_n 0, 1) := by decide +kernel
theorem dk_K_longNetHoldsSwapped_8 : decode prog_1_method_57_code 8 = .ok (.getfield 36, 3) := by decide +kernel
theorem dk_K_longNetHoldsSwapped_11 : decode prog_1_method_57_code 11 = .ok (.iload_n 1, 1) := by decide +kernel
theorem dk_K_longNetHoldsSwapped_12 : decode prog_1_method_57_code 12 = .ok (.iload_n 2, 1) := by decide +kernel
theorem dk_K_longNetHoldsSwapped_13 : decode prog_1_method_57_code 13 = .ok (.iload_n 3, 1) := by decide +kernel
theorem dk_K_longNetHoldsSwapped_14 : decode prog_1_method_57_code 14 = .ok (.invokevirtual 450, 3) := by decide +kernel
theorem dk_K_longNetHoldsSwapped_17 : decode prog_1_method_57_code 17 = .ok (.aload_n 0, 1) := by decide +kernel
theorem dk_K_longNetHoldsSwapped_18 : decode prog_1_method_57_code 18 = .ok (.getfield 36, 3) := by decide +kernel
theorem dk_K_longNetHoldsSwapped_21 : decode prog_1_method_57_code 21 = .ok (.aload_n 0, 1) := by decide +kernel
theorem dk_K_longNetHoldsSwapped_22 : decode prog_1_method_57_code 22 = .ok (.getfield 10, 3) := by decide +kernel
theorem dk_K_longNetHoldsSwapped_25 : decode prog_1_method_57_code 25 = .ok (.aload_n 0, 1) := by decide +kernel
theorem dk_K_longNetHoldsSwapped_26 : decode prog_1_method_57_code 26 = .ok (.getfield 29, 3) := by decide +kernel
theorem dk_K_longNetHoldsSwapped_29 : decode prog_1_method_57_code 29 = .ok (.invokevirtual 226, 3) := by decide +kernel
theorem dk_K_longNetHoldsSwapped_32 : decode prog_1_method_57_code 32 = .ok (.aload_n 0, 1) := by decide +kernel
theorem dk_K_longNetHoldsSwapped_33 : decode prog_1_method_57_code 33 = .ok (.getfield 29, 3) := by decide +kernel
theorem dk_K_longNetHoldsSwapped_36 : decode prog_1_method_57_code 36 = .ok (.invokevirtual 237, 3) := by decide +kernel
theorem dk_K_longNetHoldsSwapped_39 : decode prog_1_method_57_code 39 = .ok (.ireturn, 1) := by decide +kernel
noncomputable def fx_K_longNetHoldsSwapped (p1 : Int32) (p2 : Int32) (p3 : Int32) (c : (Nat → Nat → Int32)) : Option (Bool × (Nat → Nat → Int32)) :=
  kv_bind1 (fx_LongNet_start c) (fun c1 =>
  kv_bind1 (fx_LongNet_swapFrom p1 p2 p3 c1) (fun c2 =>
  kv_bind1 (fx_LongNet_build c2) (fun c3 =>
  kv_bind2 (fx_Net_holds c3) (fun b4 c5 =>
  some (b4, c5)))))
set_option maxRecDepth 20000 in
theorem cx_K_longNetHoldsSwapped (d : Nat) (p1 : Int32) (p2 : Int32) (p3 : Int32) (c : (Nat → Nat → Int32)) (y : (Nat → Nat → Int32) × (Nat → Int64) × (Nat → Int64)) : ∀ a, fx_K_longNetHoldsSwapped p1 p2 p3 c = some a → kv_C kM_K_longNetHoldsSwapped (d + 5) [.ref 0, .int p1, .int p2, .int p3] (c, y) (some (.int (kv_b a.1)), (a.2, y)) := by
  refine kv_entryX (E := fun a : (Bool × (Nat → Nat → Int32)) => (some (.int (kv_b a.1)), (a.2, y))) rfl (Nat.le_of_ble_eq_true rfl) (fun o => ?_)
  unfold fx_K_longNetHoldsSwapped
  show kv_X _ _ _ _ _ 0 [(0, .ref 0), (1, .int p1), (2, .int p2), (3, .int p3)] [] (c, y)
  refine kv_aload_n (pc := 0) 0 rfl rfl dk_K_longNetHoldsSwapped_0 ?_
  refine kv_getR (pc := 1) kf_K_36 kr_0 rfl kt_0_5 dk_K_longNetHoldsSwapped_1 ?_
  refine kv_cV_cc (pc := 4) (as := []) (st := []) ko_LongNet_start kc_2 rfl rfl kr_73 kw_734 (Nat.le_of_ble_eq_true rfl) rfl dk_K_longNetHoldsSwapped_4 (cx_LongNet_start (d + 3) c y) (fun c1 => ?_)
  refine kv_aload_n (pc := 7) 0 rfl rfl dk_K_longNetHoldsSwapped_7 ?_
  refine kv_getR (pc := 8) kf_K_36 kr_0 rfl kt_0_5 dk_K_longNetHoldsSwapped_8 ?_
  refine kv_iload_n (pc := 11) 1 rfl rfl dk_K_longNetHoldsSwapped_11 ?_
  refine kv_iload_n (pc := 12) 2 rfl rfl dk_K_longNetHoldsSwapped_12 ?_
  refine kv_iload_n (pc := 13) 3 rfl rfl dk_K_longNetHoldsSwapped_13 ?_
  refine kv_cV_cc (pc := 14) (as := [.int p1, .int p2, .int p3]) (st := []) ko_LongNet_swapFrom kc_2 rfl rfl kr_73 kw_811 (Nat.le_of_ble_eq_true rfl) rfl dk_K_longNetHoldsSwapped_14 (cx_LongNet_swapFrom (d + 4) p1 p2 p3 c1 y) (fun c2 => ?_)
  refine kv_aload_n (pc := 17) 0 rfl rfl dk_K_longNetHoldsSwapped_17 ?_
  refine kv_getR (pc := 18) kf_K_36 kr_0 rfl kt_0_5 dk_K_longNetHoldsSwapped_18 ?_
  refine kv_aload_n (pc := 21) 0 rfl rfl dk_K_longNetHoldsSwapped_21 ?_
  refine kv_getR (pc := 22) kf_K_10 kr_0 rfl kt_0_0 dk_K_longNetHoldsSwapped_22 ?_
  refine kv_aload_n (pc := 25) 0 rfl rfl dk_K_longNetHoldsSwapped_25 ?_
  refine kv_getR (pc := 26) kf_K_29 kr_0 rfl kt_0_4 dk_K_longNetHoldsSwapped_26 ?_
  refine kv_cV_cc (pc := 29) (as := [.ref 1, .ref 68]) (st := []) ko_LongNet_build kc_2 rfl rfl kr_73 kw_753 (Nat.le_of_ble_eq_true rfl) rfl dk_K_longNetHoldsSwapped_29 (cx_LongNet_build d c2 y) (fun c3 => ?_)
  refine kv_aload_n (pc := 32) 0 rfl rfl dk_K_longNetHoldsSwapped_32 ?_
  refine kv_getR (pc := 33) kf_K_29 kr_0 rfl kt_0_4 dk_K_longNetHoldsSwapped_33 ?_
  refine kv_cV_cZc (pc := 36) (as := []) (st := []) ko_Net_holds kc_4 rfl rfl kr_68 kw_710 (Nat.le_of_ble_eq_true rfl) rfl dk_K_longNetHoldsSwapped_36 (cx_Net_holds (d + 2) c3 y) (fun b4 c5 => ?_)
  exact kv_zret (pc := 39) (b := b4) (fun h => h) rfl dk_K_longNetHoldsSwapped_39
theorem dk_K_isOrderedPair_0 : decode prog_1_method_46_code 0 = .ok (.iload_n 1, 1) := by decide +kernel
theorem dk_K_isOrderedPair_1 : decode prog_1_method_46_code 1 = .ok (.ifCond .lt 39, 3) := by decide +kernel
theorem dk_K_isOrderedPair_4 : decode prog_1_method_46_code 4 = .ok (.iload_n 1, 1) := by decide +kernel
theorem dk_K_isOrderedPair_5 : decode prog_1_method_46_code 5 = .ok (.bipush 10, 2) := by decide +kernel
theorem dk_K_isOrderedPair_7 : decode prog_1_method_46_code 7 = .ok (.idiv, 1) := by decide +kernel
theorem dk_K_isOrderedPair_8 : decode prog_1_method_46_code 8 = .ok (.iload_n 1, 1) := by decide +kernel
theorem dk_K_isOrderedPair_9 : decode prog_1_method_46_code 9 = .ok (.bipush 10, 2) := by decide +kernel
theorem dk_K_isOrderedPair_11 : decode prog_1_method_46_code 11 = .ok (.irem, 1) := by decide +kernel
theorem dk_K_isOrderedPair_12 : decode prog_1_method_46_code 12 = .ok (.if_icmp .ge 28, 3) := by decide +kernel
theorem dk_K_isOrderedPair_15 : decode prog_1_method_46_code 15 = .ok (.aload_n 0, 1) := by decide +kernel
theorem dk_K_isOrderedPair_16 : decode prog_1_method_46_code 16 = .ok (.getfield 10, 3) := by decide +kernel
theorem dk_K_isOrderedPair_19 : decode prog_1_method_46_code 19 = .ok (.getfield 58, 3) := by decide +kernel
theorem dk_K_isOrderedPair_22 : decode prog_1_method_46_code 22 = .ok (.iload_n 1, 1) := by decide +kernel
theorem dk_K_isOrderedPair_23 : decode prog_1_method_46_code 23 = .ok (.bipush 10, 2) := by decide +kernel
theorem dk_K_isOrderedPair_25 : decode prog_1_method_46_code 25 = .ok (.idiv, 1) := by decide +kernel
theorem dk_K_isOrderedPair_26 : decode prog_1_method_46_code 26 = .ok (.iload_n 1, 1) := by decide +kernel
theorem dk_K_isOrderedPair_27 : decode prog_1_method_46_code 27 = .ok (.bipush 10, 2) := by decide +kernel
theorem dk_K_isOrderedPair_29 : decode prog_1_method_46_code 29 = .ok (.irem, 1) := by decide +kernel
theorem dk_K_isOrderedPair_30 : decode prog_1_method_46_code 30 = .ok (.invokevirtual 145, 3) := by decide +kernel
theorem dk_K_isOrderedPair_33 : decode prog_1_method_46_code 33 = .ok (.ifCond .eq 7, 3) := by decide +kernel
theorem dk_K_isOrderedPair_36 : decode prog_1_method_46_code 36 = .ok (.iconst 1, 1) := by decide +kernel
theorem dk_K_isOrderedPair_37 : decode prog_1_method_46_code 37 = .ok (.goto 4, 3) := by decide +kernel
theorem dk_K_isOrderedPair_40 : decode prog_1_method_46_code 40 = .ok (.iconst 0, 1) := by decide +kernel
theorem dk_K_isOrderedPair_41 : decode prog_1_method_46_code 41 = .ok (.ireturn, 1) := by decide +kernel
noncomputable def fx_K_isOrderedPair (p1 : Int32) (c : (Nat → Nat → Int32)) : Option Bool :=
  if p1 < 0 then
    some false
  else
    if (p1 - p1 / (10 : Int32) * (10 : Int32)) ≤ (p1 / (10 : Int32)) then
      some false
    else
      kv_bind1 (fx_Lumps_hasPair (p1 / (10 : Int32)) (p1 - p1 / (10 : Int32) * (10 : Int32)) c) (fun b1 =>
      if b1 = true then
        some true
      else
        some false)
set_option maxRecDepth 20000 in
theorem cx_K_isOrderedPair (d : Nat) (p1 : Int32) (c : (Nat → Nat → Int32)) (y : (Nat → Nat → Int32) × (Nat → Int64) × (Nat → Int64)) : ∀ a, fx_K_isOrderedPair p1 c = some a → kv_C kM_K_isOrderedPair (d + 2) [.ref 0, .int p1] (c, y) (some (.int (kv_b a)), (c, y)) := by
  refine kv_entryX (E := fun a : Bool => (some (.int (kv_b a)), (c, y))) rfl (Nat.le_of_ble_eq_true rfl) (fun o => ?_)
  unfold fx_K_isOrderedPair
  show kv_X _ _ _ _ _ 0 [(0, .ref 0), (1, .int p1)] [] (c, y)
  refine kv_iload_n (pc := 0) 1 rfl rfl dk_K_isOrderedPair_0 ?_
  refine kv_if_lt (pc := 1) (tgt := 40) dk_K_isOrderedPair_1 rfl ?_ ?_
  · refine kv_iconst (pc := 40) (v := (0 : Int32)) dk_K_isOrderedPair_40 kki_0 ?_
    exact kv_zret (pc := 41) (b := false) (fun h => h) rfl dk_K_isOrderedPair_41
  · refine kv_iload_n (pc := 4) 1 rfl rfl dk_K_isOrderedPair_4 ?_
    refine kv_bipush (pc := 5) (v := (10 : Int32)) dk_K_isOrderedPair_5 kkb_10 ?_
    refine kv_idiv (pc := 7) dk_K_isOrderedPair_7 kkn_10 ?_
    refine kv_iload_n (pc := 8) 1 rfl rfl dk_K_isOrderedPair_8 ?_
    refine kv_bipush (pc := 9) (v := (10 : Int32)) dk_K_isOrderedPair_9 kkb_10 ?_
    refine kv_irem (pc := 11) dk_K_isOrderedPair_11 kkn_10 ?_
    refine kv_icmp_ge (pc := 12) (tgt := 40) dk_K_isOrderedPair_12 rfl ?_ ?_
    · refine kv_iconst (pc := 40) (v := (0 : Int32)) dk_K_isOrderedPair_40 kki_0 ?_
      exact kv_zret (pc := 41) (b := false) (fun h => h) rfl dk_K_isOrderedPair_41
    · refine kv_aload_n (pc := 15) 0 rfl rfl dk_K_isOrderedPair_15 ?_
      refine kv_getR (pc := 16) kf_K_10 kr_0 rfl kt_0_0 dk_K_isOrderedPair_16 ?_
      refine kv_getR (pc := 19) kf_K_58 kr_1 rfl kt_1_0 dk_K_isOrderedPair_19 ?_
      refine kv_iload_n (pc := 22) 1 rfl rfl dk_K_isOrderedPair_22 ?_
      refine kv_bipush (pc := 23) (v := (10 : Int32)) dk_K_isOrderedPair_23 kkb_10 ?_
      refine kv_idiv (pc := 25) dk_K_isOrderedPair_25 kkn_10 ?_
      refine kv_iload_n (pc := 26) 1 rfl rfl dk_K_isOrderedPair_26 ?_
      refine kv_bipush (pc := 27) (v := (10 : Int32)) dk_K_isOrderedPair_27 kkb_10 ?_
      refine kv_irem (pc := 29) dk_K_isOrderedPair_29 kkn_10 ?_
      refine kv_cV_cZ (pc := 30) (as := [.int (p1 / (10 : Int32)), .int (p1 - p1 / (10 : Int32) * (10 : Int32))]) (st := []) ko_Lumps_hasPair kc_3 rfl rfl kr_2 kw_589 (Nat.le_of_ble_eq_true rfl) rfl dk_K_isOrderedPair_30 (cx_Lumps_hasPair d (p1 / (10 : Int32)) (p1 - p1 / (10 : Int32) * (10 : Int32)) c y) (fun b1 => ?_)
      refine kv_zif_eq (pc := 33) (tgt := 40) dk_K_isOrderedPair_33 rfl ?_ ?_
      · refine kv_iconst (pc := 40) (v := (0 : Int32)) dk_K_isOrderedPair_40 kki_0 ?_
        exact kv_zret (pc := 41) (b := false) (fun h => h) rfl dk_K_isOrderedPair_41
      · refine kv_iconst (pc := 36) (v := (1 : Int32)) dk_K_isOrderedPair_36 kki_1 ?_
        refine kv_goto (pc := 37) (tgt := 41) dk_K_isOrderedPair_37 rfl ?_
        exact kv_zret (pc := 41) (b := true) (fun h => h) rfl dk_K_isOrderedPair_41
theorem dk_K_swapped_0 : decode prog_1_method_18_code 0 = .ok (.iload_n 1, 1) := by decide +kernel
theorem dk_K_swapped_1 : decode prog_1_method_18_code 1 = .ok (.invokestatic 135, 3) := by decide +kernel
theorem dk_K_swapped_4 : decode prog_1_method_18_code 4 = .ok (.ifCond .eq 16, 3) := by decide +kernel
theorem dk_K_swapped_7 : decode prog_1_method_18_code 7 = .ok (.iload_n 2, 1) := by decide +kernel
theorem dk_K_swapped_8 : decode prog_1_method_18_code 8 = .ok (.iconst (-1), 1) := by decide +kernel
theorem dk_K_swapped_9 : decode prog_1_method_18_code 9 = .ok (.if_icmp .eq 13, 3) := by decide +kernel
theorem dk_K_swapped_12 : decode prog_1_method_18_code 12 = .ok (.aload_n 0, 1) := by decide +kernel
theorem dk_K_swapped_13 : decode prog_1_method_18_code 13 = .ok (.iload_n 2, 1) := by decide +kernel
theorem dk_K_swapped_14 : decode prog_1_method_18_code 14 = .ok (.invokevirtual 243, 3) := by decide +kernel
theorem dk_K_swapped_17 : decode prog_1_method_18_code 17 = .ok (.ifCond .ne 5, 3) := by decide +kernel
theorem dk_K_swapped_20 : decode prog_1_method_18_code 20 = .ok (.iconst (-1), 1) := by decide +kernel
theorem dk_K_swapped_21 : decode prog_1_method_18_code 21 = .ok (.ireturn, 1) := by decide +kernel
theorem dk_K_swapped_22 : decode prog_1_method_18_code 22 = .ok (.aload_n 0, 1) := by decide +kernel
theorem dk_K_swapped_23 : decode prog_1_method_18_code 23 = .ok (.invokevirtual 233, 3) := by decide +kernel
theorem dk_K_swapped_26 : decode prog_1_method_18_code 26 = .ok (.ifCond .eq 6, 3) := by decide +kernel
theorem dk_K_swapped_29 : decode prog_1_method_18_code 29 = .ok (.bipush (-3), 2) := by decide +kernel
theorem dk_K_swapped_31 : decode prog_1_method_18_code 31 = .ok (.ireturn, 1) := by decide +kernel
theorem dk_K_swapped_32 : decode prog_1_method_18_code 32 = .ok (.aload_n 0, 1) := by decide +kernel
theorem dk_K_swapped_33 : decode prog_1_method_18_code 33 = .ok (.getfield 10, 3) := by decide +kernel
theorem dk_K_swapped_36 : decode prog_1_method_18_code 36 = .ok (.getfield 58, 3) := by decide +kernel
theorem dk_K_swapped_39 : decode prog_1_method_18_code 39 = .ok (.getfield 62, 3) := by decide +kernel
theorem dk_K_swapped_42 : decode prog_1_method_18_code 42 = .ok (.istore_n 3, 1) := by decide +kernel
theorem dk_K_swapped_43 : decode prog_1_method_18_code 43 = .ok (.iconst 0, 1) := by decide +kernel
theorem dk_K_swapped_44 : decode prog_1_method_18_code 44 = .ok (.istore 4, 2) := by decide +kernel
theorem dk_K_swapped_46 : decode prog_1_method_18_code 46 = .ok (.iload 4, 2) := by decide +kernel
theorem dk_K_swapped_48 : decode prog_1_method_18_code 48 = .ok (.iload_n 3, 1) := by decide +kernel
theorem dk_K_swapped_49 : decode prog_1_method_18_code 49 = .ok (.if_icmp .ge 60, 3) := by decide +kernel
theorem dk_K_swapped_52 : decode prog_1_method_18_code 52 = .ok (.iload 4, 2) := by decide +kernel
theorem dk_K_swapped_54 : decode prog_1_method_18_code 54 = .ok (.iconst 1, 1) := by decide +kernel
theorem dk_K_swapped_55 : decode prog_1_method_18_code 55 = .ok (.iadd, 1) := by decide +kernel
theorem dk_K_swapped_56 : decode prog_1_method_18_code 56 = .ok (.istore 5, 2) := by decide +kernel
theorem dk_K_swapped_58 : decode prog_1_method_18_code 58 = .ok (.iload 5, 2) := by decide +kernel
theorem dk_K_swapped_60 : decode prog_1_method_18_code 60 = .ok (.iload_n 3, 1) := by decide +kernel
theorem dk_K_swapped_61 : decode prog_1_method_18_code 61 = .ok (.if_icmp .ge 42, 3) := by decide +kernel
theorem dk_K_swapped_64 : decode prog_1_method_18_code 64 = .ok (.bipush 10, 2) := by decide +kernel
theorem dk_K_swapped_66 : decode prog_1_method_18_code 66 = .ok (.iload 4, 2) := by decide +kernel
theorem dk_K_swapped_68 : decode prog_1_method_18_code 68 = .ok (.imul, 1) := by decide +kernel
theorem dk_K_swapped_69 : decode prog_1_method_18_code 69 = .ok (.iload 5, 2) := by decide +kernel
theorem dk_K_swapped_71 : decode prog_1_method_18_code 71 = .ok (.iadd, 1) := by decide +kernel
theorem dk_K_swapped_72 : decode prog_1_method_18_code 72 = .ok (.iload_n 2, 1) := by decide +kernel
theorem dk_K_swapped_73 : decode prog_1_method_18_code 73 = .ok (.if_icmp .le 24, 3) := by decide +kernel
theorem dk_K_swapped_76 : decode prog_1_method_18_code 76 = .ok (.aload_n 0, 1) := by decide +kernel
theorem dk_K_swapped_77 : decode prog_1_method_18_code 77 = .ok (.iload_n 1, 1) := by decide +kernel
theorem dk_K_swapped_78 : decode prog_1_method_18_code 78 = .ok (.iload 4, 2) := by decide +kernel
theorem dk_K_swapped_80 : decode prog_1_method_18_code 80 = .ok (.iload 5, 2) := by decide +kernel
theorem dk_K_swapped_82 : decode prog_1_method_18_code 82 = .ok (.invokevirtual 246, 3) := by decide +kernel
theorem dk_K_swapped_85 : decode prog_1_method_18_code 85 = .ok (.ifCond .eq 12, 3) := by decide +kernel
theorem dk_K_swapped_88 : decode prog_1_method_18_code 88 = .ok (.bipush 10, 2) := by decide +kernel
theorem dk_K_swapped_90 : decode prog_1_method_18_code 90 = .ok (.iload 4, 2) := by decide +kernel
theorem dk_K_swapped_92 : decode prog_1_method_18_code 92 = .ok (.imul, 1) := by decide +kernel
theorem dk_K_swapped_93 : decode prog_1_method_18_code 93 = .ok (.iload 5, 2) := by decide +kernel
theorem dk_K_swapped_95 : decode prog_1_method_18_code 95 = .ok (.iadd, 1) := by decide +kernel
theorem dk_K_swapped_96 : decode prog_1_method_18_code 96 = .ok (.ireturn, 1) := by decide +kernel
theorem dk_K_swapped_97 : decode prog_1_method_18_code 97 = .ok (.iinc 5 1, 3) := by decide +kernel
theorem dk_K_swapped_100 : decode prog_1_method_18_code 100 = .ok (.goto (-42), 3) := by decide +kernel
theorem dk_K_swapped_103 : decode prog_1_method_18_code 103 = .ok (.iinc 4 1, 3) := by decide +kernel
theorem dk_K_swapped_106 : decode prog_1_method_18_code 106 = .ok (.goto (-60), 3) := by decide +kernel
theorem dk_K_swapped_109 : decode prog_1_method_18_code 109 = .ok (.bipush (-4), 2) := by decide +kernel
theorem dk_K_swapped_111 : decode prog_1_method_18_code 111 = .ok (.ireturn, 1) := by decide +kernel
noncomputable def fj_K_swapped_97 (x12 : Int32) (c17 : (Nat → Nat → Int32)) : Option ((Int32 × (Nat → Nat → Int32)) ⊕ ((Int32 × (Nat → Nat → Int32)) ⊕ (Nat → Nat → Int32))) :=
  some (.inl ((x12 + (1 : Int32)), c17))
noncomputable def fb_K_swapped_58 (v4 : Int32) (x5 : Int32) (p2 : Int32) (p1 : Int32) (x12 : Int32) (c13 : (Nat → Nat → Int32)) : Option ((Int32 × (Nat → Nat → Int32)) ⊕ ((Int32 × (Nat → Nat → Int32)) ⊕ (Nat → Nat → Int32))) :=
  if v4 ≤ x12 then
    some (.inr (.inr c13))
  else
    if (((10 : Int32) * x5) + x12) ≤ p2 then
      fj_K_swapped_97 x12 c13
    else
      kv_bind2 (fx_K_longNetHoldsSwapped p1 x5 x12 c13) (fun b18 c19 =>
      if b18 = true then
        some (.inr (.inl (x12, c19)))
      else
        fj_K_swapped_97 x12 c19)
noncomputable def fb_K_swapped_46 (v4 : Int32) (p2 : Int32) (p1 : Int32) (x5 : Int32) (c6 : (Nat → Nat → Int32)) : Option ((Int32 × (Nat → Nat → Int32)) ⊕ ((Int32 × Int32 × (Nat → Nat → Int32)) ⊕ (Nat → Nat → Int32))) :=
  if v4 ≤ x5 then
    some (.inr (.inr c6))
  else
    kv_let (x5 + (1 : Int32)) (fun v11 =>
    (kv_loop (kv_u2 (fb_K_swapped_58 v4 x5 p2 p1)) (v11, c6)).bind (Sum.elim (kv_u2 (fun x14 c15 =>
    some (.inr (.inl (x5, x14, c15)))))
     (kv_u1 (fun c16 =>
    some (.inl ((x5 + (1 : Int32)), c16))))))
noncomputable def fj_K_swapped_22 (c : (Nat → Nat → Int32)) (p2 : Int32) (p1 : Int32) : Option (Int32 × (Nat → Nat → Int32)) :=
  kv_bind2 (fx_K_longNetHolds c) (fun b2 c3 =>
  if b2 = true then
    some ((-3 : Int32), c3)
  else
    kv_let (c3 2 7) (fun v4 =>
    (kv_loop (kv_u2 (fb_K_swapped_46 v4 p2 p1)) ((0 : Int32), c3)).bind (Sum.elim (kv_u3 (fun x7 x8 c9 =>
    some ((((10 : Int32) * x7) + x8), c9)))
     (kv_u1 (fun c10 =>
    some ((-4 : Int32), c10))))))
noncomputable def fx_K_swapped (p1 : Int32) (p2 : Int32) (c : (Nat → Nat → Int32)) : Option (Int32 × (Nat → Nat → Int32)) :=
  kv_bind1 (fx_K_isYear p1) (fun b1 =>
  if b1 = true then
    if p2 = (-1 : Int32) then
      fj_K_swapped_22 c p2 p1
    else
      kv_bind1 (fx_K_isOrderedPair p2 c) (fun b20 =>
      if b20 = true then
        fj_K_swapped_22 c p2 p1
      else
        some ((-1 : Int32), c))
  else
    some ((-1 : Int32), c))
set_option maxRecDepth 20000 in
theorem cx_K_swapped (d : Nat) (p1 : Int32) (p2 : Int32) (c : (Nat → Nat → Int32)) (y : (Nat → Nat → Int32) × (Nat → Int64) × (Nat → Int64)) : ∀ a, fx_K_swapped p1 p2 c = some a → kv_C kM_K_swapped (d + 6) [.ref 0, .int p1, .int p2] (c, y) (some (.int a.1), (a.2, y)) := by
  refine kv_entryX (E := fun a : (Int32 × (Nat → Nat → Int32)) => (some (.int a.1), (a.2, y))) rfl (Nat.le_of_ble_eq_true rfl) (fun o => ?_)
  unfold fx_K_swapped
  show kv_X _ _ _ _ _ 0 [(0, .ref 0), (1, .int p1), (2, .int p2)] [] (c, y)
  refine kv_iload_n (pc := 0) 1 rfl rfl dk_K_swapped_0 ?_
  refine kv_cS_cZ (pc := 1) (as := [.int p1]) (st := []) ko_K_isYear rfl kw_577 (Nat.le_of_ble_eq_true rfl) rfl dk_K_swapped_1 (cx_K_isYear (d + 4) p1 c y) (fun b1 => ?_)
  refine kv_zif_eq (pc := 4) (tgt := 20) dk_K_swapped_4 rfl ?_ ?_
  · refine kv_iconst (pc := 20) (v := (-1 : Int32)) dk_K_swapped_20 kki_m1 ?_
    exact kv_iret (pc := 21) (fun h => h) rfl dk_K_swapped_21
  · refine kv_iload_n (pc := 7) 2 rfl rfl dk_K_swapped_7 ?_
    refine kv_iconst (pc := 8) (v := (-1 : Int32)) dk_K_swapped_8 kki_m1 ?_
    refine kv_cut_0 (J := fj_K_swapped_22 c p2 p1) (pcj := 22) (LJ := [(0, .ref 0), (1, .int p1), (2, .int p2)]) (SJ := []) (WJ := (c, y)) ?_ (fun hj22 => ?_)
    · show kv_X _ _ _ _ (fj_K_swapped_22 c p2 p1) 22 [(0, .ref 0), (1, .int p1), (2, .int p2)] [] (c, y)
      unfold fj_K_swapped_22
      refine kv_aload_n (pc := 22) 0 rfl rfl dk_K_swapped_22 ?_
      refine kv_cV_cZc (pc := 23) (as := []) (st := []) ko_K_longNetHolds kc_10 rfl rfl kr_0 kw_787 (Nat.le_of_ble_eq_true rfl) rfl dk_K_swapped_23 (cx_K_longNetHolds d c y) (fun b2 c3 => ?_)
      refine kv_zif_eq (pc := 26) (tgt := 32) dk_K_swapped_26 rfl ?_ ?_
      · refine kv_aload_n (pc := 32) 0 rfl rfl dk_K_swapped_32 ?_
        refine kv_getR (pc := 33) kf_K_10 kr_0 rfl kt_0_0 dk_K_swapped_33 ?_
        refine kv_getR (pc := 36) kf_K_58 kr_1 rfl kt_1_0 dk_K_swapped_36 ?_
        refine kv_getC (pc := 39) kf_K_62 kr_2 kn_2 rfl dk_K_swapped_39 ?_
        refine kv_letI (fun v4 => ?_)
        refine kv_istore_n (pc := 42) (lv' := [(3, .int v4), (0, .ref 0), (1, .int p1), (2, .int p2)]) rfl (Nat.le_of_ble_eq_true rfl) rfl dk_K_swapped_42 ?_
        refine kv_iconst (pc := 43) (v := (0 : Int32)) dk_K_swapped_43 kki_0 ?_
        refine kv_istore (pc := 44) (lv' := [(4, .int (0 : Int32)), (3, .int v4), (0, .ref 0), (1, .int p1), (2, .int p2)]) rfl (Nat.le_of_ble_eq_true rfl) dk_K_swapped_44 ?_
        refine kv_sub (lv' := [(0, .ref 0), (1, .int p1), (2, .int p2), (3, .int v4), (4, .int (0 : Int32))]) [2, 3, 4, 1, 0] rfl ?_
        refine kv_lp_2_3_1 (LV := fun x5 c6 => [(0, .ref 0), (1, .int p1), (2, .int p2), (3, .int v4), (4, .int x5)]) (WW := fun x5 c6 => (c6, y)) (LE1 := fun x7 x8 c9 => [(4, .int x7), (5, .int x8)]) (WE1 := fun x7 x8 c9 => (c9, y)) (pe1 := 88) (LE2 := fun c10 => []) (WE2 := fun c10 => (c10, y)) (pe2 := 109) ?_ ?_ ?_
        · intro x7 x8 c9
          show kv_X _ _ _ _ _ 88 [(4, .int x7), (5, .int x8)] [] (c9, y)
          refine kv_bipush (pc := 88) (v := (10 : Int32)) dk_K_swapped_88 kkb_10 ?_
          refine kv_iload (pc := 90) 0 rfl dk_K_swapped_90 ?_
          refine kv_imul (pc := 92) dk_K_swapped_92 ?_
          refine kv_iload (pc := 93) 1 rfl dk_K_swapped_93 ?_
          refine kv_iadd (pc := 95) dk_K_swapped_95 ?_
          exact kv_iret (pc := 96) (fun h => h) rfl dk_K_swapped_96
        · intro c10
          show kv_X _ _ _ _ _ 109 [] [] (c10, y)
          refine kv_bipush (pc := 109) (v := (-4 : Int32)) dk_K_swapped_109 kkb_m4 ?_
          exact kv_iret (pc := 111) (fun h => h) rfl dk_K_swapped_111
        · intro hx46_0 hx46_1 x5 c6
          show kv_X _ _ _ _ (fb_K_swapped_46 v4 p2 p1 x5 c6) 46 [(0, .ref 0), (1, .int p1), (2, .int p2), (3, .int v4), (4, .int x5)] [] (c6, y)
          unfold fb_K_swapped_46
          refine kv_iload (pc := 46) 4 rfl dk_K_swapped_46 ?_
          refine kv_iload_n (pc := 48) 3 rfl rfl dk_K_swapped_48 ?_
          refine kv_icmp_ge (pc := 49) (tgt := 109) dk_K_swapped_49 rfl ?_ ?_
          · exact kv_sub [] rfl (kv_leaf (hx46_1 _))
          · refine kv_iload (pc := 52) 4 rfl dk_K_swapped_52 ?_
            refine kv_iconst (pc := 54) (v := (1 : Int32)) dk_K_swapped_54 kki_1 ?_
            refine kv_iadd (pc := 55) dk_K_swapped_55 ?_
            refine kv_letI (fun v11 => ?_)
            refine kv_istore (pc := 56) (lv' := [(5, .int v11), (0, .ref 0), (1, .int p1), (2, .int p2), (3, .int v4), (4, .int x5)]) rfl (Nat.le_of_ble_eq_true rfl) dk_K_swapped_56 ?_
            refine kv_sub (lv' := [(0, .ref 0), (1, .int p1), (2, .int p2), (3, .int v4), (4, .int x5), (5, .int v11)]) [1, 2, 3, 4, 5, 0] rfl ?_
            refine kv_lp_2_2_1 (LV := fun x12 c13 => [(0, .ref 0), (1, .int p1), (2, .int p2), (3, .int v4), (4, .int x5), (5, .int x12)]) (WW := fun x12 c13 => (c13, y)) (LE1 := fun x14 c15 => [(4, .int x5), (5, .int x14)]) (WE1 := fun x14 c15 => (c15, y)) (pe1 := 88) (LE2 := fun c16 => [(0, .ref 0), (1, .int p1), (2, .int p2), (3, .int v4), (4, .int x5)]) (WE2 := fun c16 => (c16, y)) (pe2 := 103) ?_ ?_ ?_
            · intro x14 c15
              show kv_X _ _ _ _ _ 88 [(4, .int x5), (5, .int x14)] [] (c15, y)
              exact kv_leaf (hx46_0 _ _ _)
            · intro c16
              show kv_X _ _ _ _ _ 103 [(0, .ref 0), (1, .int p1), (2, .int p2), (3, .int v4), (4, .int x5)] [] (c16, y)
              refine kv_iinc (pc := 103) (kk := (1 : Int32)) (lv' := [(4, .int (x5 + (1 : Int32))), (0, .ref 0), (1, .int p1), (2, .int p2), (3, .int v4)]) 4 rfl kki_1 rfl (Nat.le_of_ble_eq_true rfl) dk_K_swapped_103 ?_
              refine kv_goto (pc := 106) (tgt := 46) dk_K_swapped_106 rfl ?_
              exact kv_sub [1, 2, 3, 4, 0] rfl (kv_leaf (fun h => h))
            · intro hx58_0 hx58_1 x12 c13
              show kv_X _ _ _ _ (fb_K_swapped_58 v4 x5 p2 p1 x12 c13) 58 [(0, .ref 0), (1, .int p1), (2, .int p2), (3, .int v4), (4, .int x5), (5, .int x12)] [] (c13, y)
              unfold fb_K_swapped_58
              refine kv_iload (pc := 58) 5 rfl dk_K_swapped_58 ?_
              refine kv_iload_n (pc := 60) 3 rfl rfl dk_K_swapped_60 ?_
              refine kv_icmp_ge (pc := 61) (tgt := 103) dk_K_swapped_61 rfl ?_ ?_
              · exact kv_sub [0, 1, 2, 3, 4] rfl (kv_leaf (hx58_1 _))
              · refine kv_bipush (pc := 64) (v := (10 : Int32)) dk_K_swapped_64 kkb_10 ?_
                refine kv_iload (pc := 66) 4 rfl dk_K_swapped_66 ?_
                refine kv_imul (pc := 68) dk_K_swapped_68 ?_
                refine kv_iload (pc := 69) 5 rfl dk_K_swapped_69 ?_
                refine kv_iadd (pc := 71) dk_K_swapped_71 ?_
                refine kv_iload_n (pc := 72) 2 rfl rfl dk_K_swapped_72 ?_
                refine kv_cut_1 (J := fj_K_swapped_97 x12) (pcj := 97) (LJ := fun c17 => [(0, .ref 0), (1, .int p1), (2, .int p2), (3, .int v4), (4, .int x5), (5, .int x12)]) (SJ := fun c17 => []) (WJ := fun c17 => (c17, y)) ?_ (fun hj97 => ?_)
                · intro c17
                  show kv_X _ _ _ _ (fj_K_swapped_97 x12 c17) 97 [(0, .ref 0), (1, .int p1), (2, .int p2), (3, .int v4), (4, .int x5), (5, .int x12)] [] (c17, y)
                  unfold fj_K_swapped_97
                  refine kv_iinc (pc := 97) (kk := (1 : Int32)) (lv' := [(5, .int (x12 + (1 : Int32))), (0, .ref 0), (1, .int p1), (2, .int p2), (3, .int v4), (4, .int x5)]) 5 rfl kki_1 rfl (Nat.le_of_ble_eq_true rfl) dk_K_swapped_97 ?_
                  refine kv_goto (pc := 100) (tgt := 58) dk_K_swapped_100 rfl ?_
                  exact kv_sub [1, 2, 3, 4, 5, 0] rfl (kv_leaf (fun h => h))
                refine kv_icmp_le (pc := 73) (tgt := 97) dk_K_swapped_73 rfl ?_ ?_
                · exact hj97 c13
                · refine kv_aload_n (pc := 76) 0 rfl rfl dk_K_swapped_76 ?_
                  refine kv_iload_n (pc := 77) 1 rfl rfl dk_K_swapped_77 ?_
                  refine kv_iload (pc := 78) 4 rfl dk_K_swapped_78 ?_
                  refine kv_iload (pc := 80) 5 rfl dk_K_swapped_80 ?_
                  refine kv_cV_cZc (pc := 82) (as := [.int p1, .int x5, .int x12]) (st := []) ko_K_longNetHoldsSwapped kc_10 rfl rfl kr_0 kw_807 (Nat.le_of_ble_eq_true rfl) rfl dk_K_swapped_82 (cx_K_longNetHoldsSwapped d p1 x5 x12 c13 y) (fun b18 c19 => ?_)
                  refine kv_zif_eq (pc := 85) (tgt := 97) dk_K_swapped_85 rfl ?_ ?_
                  · exact hj97 c19
                  · exact kv_sub [4, 5] rfl (kv_leaf (hx58_0 _ _))
      · refine kv_bipush (pc := 29) (v := (-3 : Int32)) dk_K_swapped_29 kkb_m3 ?_
        exact kv_iret (pc := 31) (fun h => h) rfl dk_K_swapped_31
    refine kv_icmp_eq (pc := 9) (tgt := 22) dk_K_swapped_9 rfl ?_ ?_
    · exact hj22
    · refine kv_aload_n (pc := 12) 0 rfl rfl dk_K_swapped_12 ?_
      refine kv_iload_n (pc := 13) 2 rfl rfl dk_K_swapped_13 ?_
      refine kv_cV_cZ (pc := 14) (as := [.int p2]) (st := []) ko_K_isOrderedPair kc_10 rfl rfl kr_0 kw_803 (Nat.le_of_ble_eq_true rfl) rfl dk_K_swapped_14 (cx_K_isOrderedPair (d + 3) p2 c y) (fun b20 => ?_)
      refine kv_zif_ne (pc := 17) (tgt := 22) dk_K_swapped_17 rfl ?_ ?_
      · exact hj22
      · refine kv_iconst (pc := 20) (v := (-1 : Int32)) dk_K_swapped_20 kki_m1 ?_
        exact kv_iret (pc := 21) (fun h => h) rfl dk_K_swapped_21
theorem dk_D_isPair_0 : decode prog_13_method_45_code 0 = .ok (.iload_n 1, 1) := by decide +kernel
theorem dk_D_isPair_1 : decode prog_13_method_45_code 1 = .ok (.i2l, 1) := by decide +kernel
theorem dk_D_isPair_2 : decode prog_13_method_45_code 2 = .ok (.lconst 0, 1) := by decide +kernel
theorem dk_D_isPair_3 : decode prog_13_method_45_code 3 = .ok (.ldc2_w 94, 3) := by decide +kernel
theorem dk_D_isPair_6 : decode prog_13_method_45_code 6 = .ok (.invokestatic 60, 3) := by decide +kernel
theorem dk_D_isPair_9 : decode prog_13_method_45_code 9 = .ok (.ifCond .eq 40, 3) := by decide +kernel
theorem dk_D_isPair_12 : decode prog_13_method_45_code 12 = .ok (.aload_n 0, 1) := by decide +kernel
theorem dk_D_isPair_13 : decode prog_13_method_45_code 13 = .ok (.iload_n 1, 1) := by decide +kernel
theorem dk_D_isPair_14 : decode prog_13_method_45_code 14 = .ok (.bipush 10, 2) := by decide +kernel
theorem dk_D_isPair_16 : decode prog_13_method_45_code 16 = .ok (.idiv, 1) := by decide +kernel
theorem dk_D_isPair_17 : decode prog_13_method_45_code 17 = .ok (.invokevirtual 98, 3) := by decide +kernel
theorem dk_D_isPair_20 : decode prog_13_method_45_code 20 = .ok (.ifCond .eq 29, 3) := by decide +kernel
theorem dk_D_isPair_23 : decode prog_13_method_45_code 23 = .ok (.aload_n 0, 1) := by decide +kernel
theorem dk_D_isPair_24 : decode prog_13_method_45_code 24 = .ok (.iload_n 1, 1) := by decide +kernel
theorem dk_D_isPair_25 : decode prog_13_method_45_code 25 = .ok (.bipush 10, 2) := by decide +kernel
theorem dk_D_isPair_27 : decode prog_13_method_45_code 27 = .ok (.irem, 1) := by decide +kernel
theorem dk_D_isPair_28 : decode prog_13_method_45_code 28 = .ok (.invokevirtual 98, 3) := by decide +kernel
theorem dk_D_isPair_31 : decode prog_13_method_45_code 31 = .ok (.ifCond .eq 18, 3) := by decide +kernel
theorem dk_D_isPair_34 : decode prog_13_method_45_code 34 = .ok (.iload_n 1, 1) := by decide +kernel
theorem dk_D_isPair_35 : decode prog_13_method_45_code 35 = .ok (.bipush 10, 2) := by decide +kernel
theorem dk_D_isPair_37 : decode prog_13_method_45_code 37 = .ok (.idiv, 1) := by decide +kernel
theorem dk_D_isPair_38 : decode prog_13_method_45_code 38 = .ok (.iload_n 1, 1) := by decide +kernel
theorem dk_D_isPair_39 : decode prog_13_method_45_code 39 = .ok (.bipush 10, 2) := by decide +kernel
theorem dk_D_isPair_41 : decode prog_13_method_45_code 41 = .ok (.irem, 1) := by decide +kernel
theorem dk_D_isPair_42 : decode prog_13_method_45_code 42 = .ok (.if_icmp .eq 7, 3) := by decide +kernel
theorem dk_D_isPair_45 : decode prog_13_method_45_code 45 = .ok (.iconst 1, 1) := by decide +kernel
theorem dk_D_isPair_46 : decode prog_13_method_45_code 46 = .ok (.goto 4, 3) := by decide +kernel
theorem dk_D_isPair_49 : decode prog_13_method_45_code 49 = .ok (.iconst 0, 1) := by decide +kernel
theorem dk_D_isPair_50 : decode prog_13_method_45_code 50 = .ok (.ireturn, 1) := by decide +kernel
noncomputable def fx_D_isPair (p1 : Int32) (m : (Nat → Nat → Int32)) : Option Bool :=
  kv_bind1 (fx_D_isIn p1.toInt64 (0 : Int64) (99 : Int64)) (fun b1 =>
  if b1 = true then
    kv_bind1 (fx_D_isLump (p1 / (10 : Int32)) m) (fun b2 =>
    if b2 = true then
      kv_bind1 (fx_D_isLump (p1 - p1 / (10 : Int32) * (10 : Int32)) m) (fun b3 =>
      if b3 = true then
        if (p1 / (10 : Int32)) = (p1 - p1 / (10 : Int32) * (10 : Int32)) then
          some false
        else
          some true
      else
        some false)
    else
      some false)
  else
    some false)
set_option maxRecDepth 20000 in
theorem cx_D_isPair (d : Nat) (p1 : Int32) (c : (Nat → Nat → Int32)) (m : (Nat → Nat → Int32)) (f : (Nat → Int64)) (u : (Nat → Int64)) : ∀ a, fx_D_isPair p1 m = some a → kv_C kM_D_isPair (d + 2) [.ref 84, .int p1] (c, m, f, u) (some (.int (kv_b a)), (c, m, f, u)) := by
  refine kv_entryX (E := fun a : Bool => (some (.int (kv_b a)), (c, m, f, u))) rfl (Nat.le_of_ble_eq_true rfl) (fun o => ?_)
  unfold fx_D_isPair
  show kv_X _ _ _ _ _ 0 [(0, .ref 84), (1, .int p1)] [] (c, m, f, u)
  refine kv_iload_n (pc := 0) 1 rfl rfl dk_D_isPair_0 ?_
  refine kv_i2l (pc := 1) dk_D_isPair_1 ?_
  refine kv_lconst (pc := 2) (v := (0 : Int64)) dk_D_isPair_2 kkl_0 ?_
  refine kv_ldc2 (pc := 3) (v := (99 : Int64)) kw_1356 dk_D_isPair_3 ?_
  refine kv_cS_mZ (pc := 6) (as := [.long p1.toInt64, .long (0 : Int64), .long (99 : Int64)]) (st := []) ko_D_isIn rfl kw_1330 (Nat.le_of_ble_eq_true rfl) rfl dk_D_isPair_6 (cx_D_isIn (d + 1) p1.toInt64 (0 : Int64) (99 : Int64) c m f u) (fun b1 => ?_)
  refine kv_zif_eq (pc := 9) (tgt := 49) dk_D_isPair_9 rfl ?_ ?_
  · refine kv_iconst (pc := 49) (v := (0 : Int32)) dk_D_isPair_49 kki_0 ?_
    exact kv_zret (pc := 50) (b := false) (fun h => h) rfl dk_D_isPair_50
  · refine kv_aload_n (pc := 12) 0 rfl rfl dk_D_isPair_12 ?_
    refine kv_iload_n (pc := 13) 1 rfl rfl dk_D_isPair_13 ?_
    refine kv_bipush (pc := 14) (v := (10 : Int32)) dk_D_isPair_14 kkb_10 ?_
    refine kv_idiv (pc := 16) dk_D_isPair_16 kkn_10 ?_
    refine kv_cV_mZ (pc := 17) (as := [.int (p1 / (10 : Int32))]) (st := []) ko_D_isLump kc_11 rfl rfl kr_84 kw_1362 (Nat.le_of_ble_eq_true rfl) rfl dk_D_isPair_17 (cx_D_isLump d (p1 / (10 : Int32)) c m f u) (fun b2 => ?_)
    refine kv_zif_eq (pc := 20) (tgt := 49) dk_D_isPair_20 rfl ?_ ?_
    · refine kv_iconst (pc := 49) (v := (0 : Int32)) dk_D_isPair_49 kki_0 ?_
      exact kv_zret (pc := 50) (b := false) (fun h => h) rfl dk_D_isPair_50
    · refine kv_aload_n (pc := 23) 0 rfl rfl dk_D_isPair_23 ?_
      refine kv_iload_n (pc := 24) 1 rfl rfl dk_D_isPair_24 ?_
      refine kv_bipush (pc := 25) (v := (10 : Int32)) dk_D_isPair_25 kkb_10 ?_
      refine kv_irem (pc := 27) dk_D_isPair_27 kkn_10 ?_
      refine kv_cV_mZ (pc := 28) (as := [.int (p1 - p1 / (10 : Int32) * (10 : Int32))]) (st := []) ko_D_isLump kc_11 rfl rfl kr_84 kw_1362 (Nat.le_of_ble_eq_true rfl) rfl dk_D_isPair_28 (cx_D_isLump d (p1 - p1 / (10 : Int32) * (10 : Int32)) c m f u) (fun b3 => ?_)
      refine kv_zif_eq (pc := 31) (tgt := 49) dk_D_isPair_31 rfl ?_ ?_
      · refine kv_iconst (pc := 49) (v := (0 : Int32)) dk_D_isPair_49 kki_0 ?_
        exact kv_zret (pc := 50) (b := false) (fun h => h) rfl dk_D_isPair_50
      · refine kv_iload_n (pc := 34) 1 rfl rfl dk_D_isPair_34 ?_
        refine kv_bipush (pc := 35) (v := (10 : Int32)) dk_D_isPair_35 kkb_10 ?_
        refine kv_idiv (pc := 37) dk_D_isPair_37 kkn_10 ?_
        refine kv_iload_n (pc := 38) 1 rfl rfl dk_D_isPair_38 ?_
        refine kv_bipush (pc := 39) (v := (10 : Int32)) dk_D_isPair_39 kkb_10 ?_
        refine kv_irem (pc := 41) dk_D_isPair_41 kkn_10 ?_
        refine kv_icmp_eq (pc := 42) (tgt := 49) dk_D_isPair_42 rfl ?_ ?_
        · refine kv_iconst (pc := 49) (v := (0 : Int32)) dk_D_isPair_49 kki_0 ?_
          exact kv_zret (pc := 50) (b := false) (fun h => h) rfl dk_D_isPair_50
        · refine kv_iconst (pc := 45) (v := (1 : Int32)) dk_D_isPair_45 kki_1 ?_
          refine kv_goto (pc := 46) (tgt := 50) dk_D_isPair_46 rfl ?_
          exact kv_zret (pc := 50) (b := true) (fun h => h) rfl dk_D_isPair_50
theorem dk_D_swapped_0 : decode prog_13_method_46_code 0 = .ok (.iload_n 1, 1) := by decide +kernel
theorem dk_D_swapped_1 : decode prog_13_method_46_code 1 = .ok (.invokestatic 110, 3) := by decide +kernel
theorem dk_D_swapped_4 : decode prog_13_method_46_code 4 = .ok (.ifCond .eq 27, 3) := by decide +kernel
theorem dk_D_swapped_7 : decode prog_13_method_46_code 7 = .ok (.iload_n 2, 1) := by decide +kernel
theorem dk_D_swapped_8 : decode prog_13_method_46_code 8 = .ok (.iconst (-1), 1) := by decide +kernel
theorem dk_D_swapped_9 : decode prog_13_method_46_code 9 = .ok (.if_icmp .eq 24, 3) := by decide +kernel
theorem dk_D_swapped_12 : decode prog_13_method_46_code 12 = .ok (.aload_n 0, 1) := by decide +kernel
theorem dk_D_swapped_13 : decode prog_13_method_46_code 13 = .ok (.iload_n 2, 1) := by decide +kernel
theorem dk_D_swapped_14 : decode prog_13_method_46_code 14 = .ok (.invokevirtual 196, 3) := by decide +kernel
theorem dk_D_swapped_17 : decode prog_13_method_46_code 17 = .ok (.ifCond .eq 14, 3) := by decide +kernel
theorem dk_D_swapped_20 : decode prog_13_method_46_code 20 = .ok (.iload_n 2, 1) := by decide +kernel
theorem dk_D_swapped_21 : decode prog_13_method_46_code 21 = .ok (.bipush 10, 2) := by decide +kernel
theorem dk_D_swapped_23 : decode prog_13_method_46_code 23 = .ok (.idiv, 1) := by decide +kernel
theorem dk_D_swapped_24 : decode prog_13_method_46_code 24 = .ok (.iload_n 2, 1) := by decide +kernel
theorem dk_D_swapped_25 : decode prog_13_method_46_code 25 = .ok (.bipush 10, 2) := by decide +kernel
theorem dk_D_swapped_27 : decode prog_13_method_46_code 27 = .ok (.irem, 1) := by decide +kernel
theorem dk_D_swapped_28 : decode prog_13_method_46_code 28 = .ok (.if_icmp .le 5, 3) := by decide +kernel
theorem dk_D_swapped_31 : decode prog_13_method_46_code 31 = .ok (.iconst (-1), 1) := by decide +kernel
theorem dk_D_swapped_32 : decode prog_13_method_46_code 32 = .ok (.ireturn, 1) := by decide +kernel
theorem dk_D_swapped_33 : decode prog_13_method_46_code 33 = .ok (.aload_n 0, 1) := by decide +kernel
theorem dk_D_swapped_34 : decode prog_13_method_46_code 34 = .ok (.invokevirtual 193, 3) := by decide +kernel
theorem dk_D_swapped_37 : decode prog_13_method_46_code 37 = .ok (.ifCond .eq 6, 3) := by decide +kernel
theorem dk_D_swapped_40 : decode prog_13_method_46_code 40 = .ok (.bipush (-3), 2) := by decide +kernel
theorem dk_D_swapped_42 : decode prog_13_method_46_code 42 = .ok (.ireturn, 1) := by decide +kernel
theorem dk_D_swapped_43 : decode prog_13_method_46_code 43 = .ok (.bipush (-4), 2) := by decide +kernel
theorem dk_D_swapped_45 : decode prog_13_method_46_code 45 = .ok (.istore_n 3, 1) := by decide +kernel
theorem dk_D_swapped_46 : decode prog_13_method_46_code 46 = .ok (.aload_n 0, 1) := by decide +kernel
theorem dk_D_swapped_47 : decode prog_13_method_46_code 47 = .ok (.iload_n 1, 1) := by decide +kernel
theorem dk_D_swapped_48 : decode prog_13_method_46_code 48 = .ok (.putfield 177, 3) := by decide +kernel
theorem dk_D_swapped_51 : decode prog_13_method_46_code 51 = .ok (.iload_n 2, 1) := by decide +kernel
theorem dk_D_swapped_52 : decode prog_13_method_46_code 52 = .ok (.iconst 1, 1) := by decide +kernel
theorem dk_D_swapped_53 : decode prog_13_method_46_code 53 = .ok (.iadd, 1) := by decide +kernel
theorem dk_D_swapped_54 : decode prog_13_method_46_code 54 = .ok (.istore 4, 2) := by decide +kernel
theorem dk_D_swapped_56 : decode prog_13_method_46_code 56 = .ok (.iload 4, 2) := by decide +kernel
theorem dk_D_swapped_58 : decode prog_13_method_46_code 58 = .ok (.bipush 100, 2) := by decide +kernel
theorem dk_D_swapped_60 : decode prog_13_method_46_code 60 = .ok (.if_icmp .ge 71, 3) := by decide +kernel
theorem dk_D_swapped_63 : decode prog_13_method_46_code 63 = .ok (.iload_n 3, 1) := by decide +kernel
theorem dk_D_swapped_64 : decode prog_13_method_46_code 64 = .ok (.ifCond .ge 67, 3) := by decide +kernel
theorem dk_D_swapped_67 : decode prog_13_method_46_code 67 = .ok (.aload_n 0, 1) := by decide +kernel
theorem dk_D_swapped_68 : decode prog_13_method_46_code 68 = .ok (.iload 4, 2) := by decide +kernel
theorem dk_D_swapped_70 : decode prog_13_method_46_code 70 = .ok (.invokevirtual 196, 3) := by decide +kernel
theorem dk_D_swapped_73 : decode prog_13_method_46_code 73 = .ok (.ifCond .eq 52, 3) := by decide +kernel
theorem dk_D_swapped_76 : decode prog_13_method_46_code 76 = .ok (.iload 4, 2) := by decide +kernel
theorem dk_D_swapped_78 : decode prog_13_method_46_code 78 = .ok (.bipush 10, 2) := by decide +kernel
theorem dk_D_swapped_80 : decode prog_13_method_46_code 80 = .ok (.idiv, 1) := by decide +kernel
theorem dk_D_swapped_81 : decode prog_13_method_46_code 81 = .ok (.iload 4, 2) := by decide +kernel
theorem dk_D_swapped_83 : decode prog_13_method_46_code 83 = .ok (.bipush 10, 2) := by decide +kernel
theorem dk_D_swapped_85 : decode prog_13_method_46_code 85 = .ok (.irem, 1) := by decide +kernel
theorem dk_D_swapped_86 : decode prog_13_method_46_code 86 = .ok (.if_icmp .le 6, 3) := by decide +kernel
theorem dk_D_swapped_89 : decode prog_13_method_46_code 89 = .ok (.goto 36, 3) := by decide +kernel
theorem dk_D_swapped_92 : decode prog_13_method_46_code 92 = .ok (.aload_n 0, 1) := by decide +kernel
theorem dk_D_swapped_93 : decode prog_13_method_46_code 93 = .ok (.iload 4, 2) := by decide +kernel
theorem dk_D_swapped_95 : decode prog_13_method_46_code 95 = .ok (.bipush 10, 2) := by decide +kernel
theorem dk_D_swapped_97 : decode prog_13_method_46_code 97 = .ok (.idiv, 1) := by decide +kernel
theorem dk_D_swapped_98 : decode prog_13_method_46_code 98 = .ok (.putfield 44, 3) := by decide +kernel
theorem dk_D_swapped_101 : decode prog_13_method_46_code 101 = .ok (.aload_n 0, 1) := by decide +kernel
theorem dk_D_swapped_102 : decode prog_13_method_46_code 102 = .ok (.iload 4, 2) := by decide +kernel
theorem dk_D_swapped_104 : decode prog_13_method_46_code 104 = .ok (.bipush 10, 2) := by decide +kernel
theorem dk_D_swapped_106 : decode prog_13_method_46_code 106 = .ok (.irem, 1) := by decide +kernel
theorem dk_D_swapped_107 : decode prog_13_method_46_code 107 = .ok (.putfield 48, 3) := by decide +kernel
theorem dk_D_swapped_110 : decode prog_13_method_46_code 110 = .ok (.aload_n 0, 1) := by decide +kernel
theorem dk_D_swapped_111 : decode prog_13_method_46_code 111 = .ok (.invokevirtual 193, 3) := by decide +kernel
theorem dk_D_swapped_114 : decode prog_13_method_46_code 114 = .ok (.ifCond .eq 8, 3) := by decide +kernel
theorem dk_D_swapped_117 : decode prog_13_method_46_code 117 = .ok (.iload 4, 2) := by decide +kernel
theorem dk_D_swapped_119 : decode prog_13_method_46_code 119 = .ok (.goto 5, 3) := by decide +kernel
theorem dk_D_swapped_122 : decode prog_13_method_46_code 122 = .ok (.bipush (-4), 2) := by decide +kernel
theorem dk_D_swapped_124 : decode prog_13_method_46_code 124 = .ok (.istore_n 3, 1) := by decide +kernel
theorem dk_D_swapped_125 : decode prog_13_method_46_code 125 = .ok (.iinc 4 1, 3) := by decide +kernel
theorem dk_D_swapped_128 : decode prog_13_method_46_code 128 = .ok (.goto (-72), 3) := by decide +kernel
theorem dk_D_swapped_131 : decode prog_13_method_46_code 131 = .ok (.aload_n 0, 1) := by decide +kernel
theorem dk_D_swapped_132 : decode prog_13_method_46_code 132 = .ok (.bipush (-4), 2) := by decide +kernel
theorem dk_D_swapped_134 : decode prog_13_method_46_code 134 = .ok (.putfield 44, 3) := by decide +kernel
theorem dk_D_swapped_137 : decode prog_13_method_46_code 137 = .ok (.aload_n 0, 1) := by decide +kernel
theorem dk_D_swapped_138 : decode prog_13_method_46_code 138 = .ok (.bipush (-4), 2) := by decide +kernel
theorem dk_D_swapped_140 : decode prog_13_method_46_code 140 = .ok (.putfield 48, 3) := by decide +kernel
theorem dk_D_swapped_143 : decode prog_13_method_46_code 143 = .ok (.iload_n 3, 1) := by decide +kernel
theorem dk_D_swapped_144 : decode prog_13_method_46_code 144 = .ok (.ireturn, 1) := by decide +kernel
noncomputable def fj_D_swapped_125 (x8 : Int32) (x15 : Int32) (m16 : (Nat → Nat → Int32)) (f17 : (Nat → Int64)) : Option ((Int32 × Int32 × (Nat → Nat → Int32) × (Nat → Int64)) ⊕ (Int32 × (Nat → Nat → Int32) × (Nat → Int64))) :=
  some (.inl (x15, (x8 + (1 : Int32)), m16, f17))
noncomputable def fj_D_swapped_124 (x8 : Int32) (m21 : (Nat → Nat → Int32)) (f22 : (Nat → Int64)) (x23 : Int32) : Option ((Int32 × Int32 × (Nat → Nat → Int32) × (Nat → Int64)) ⊕ (Int32 × (Nat → Nat → Int32) × (Nat → Int64))) :=
  fj_D_swapped_125 x8 x23 m21 f22
noncomputable def fb_D_swapped_56 (x7 : Int32) (x8 : Int32) (m9 : (Nat → Nat → Int32)) (f10 : (Nat → Int64)) : Option ((Int32 × Int32 × (Nat → Nat → Int32) × (Nat → Int64)) ⊕ (Int32 × (Nat → Nat → Int32) × (Nat → Int64))) :=
  if (100 : Int32) ≤ x8 then
    some (.inr (x7, m9, f10))
  else
    if 0 ≤ x7 then
      some (.inr (x7, m9, f10))
    else
      kv_bind1 (fx_D_isPair x8 m9) (fun b14 =>
      if b14 = true then
        if (x8 / (10 : Int32)) ≤ (x8 - x8 / (10 : Int32) * (10 : Int32)) then
          kv_let (kv_st m9 84 14 (x8 / (10 : Int32))) (fun m18 =>
          kv_let (kv_st m18 84 15 (x8 - x8 / (10 : Int32) * (10 : Int32))) (fun m19 =>
          kv_bind3 (fx_D_fitsLongNow m19 f10) (fun b20 m21 f22 =>
          if b20 = true then
            fj_D_swapped_124 x8 m21 f22 x8
          else
            fj_D_swapped_124 x8 m21 f22 (-4 : Int32))))
        else
          fj_D_swapped_125 x8 x7 m9 f10
      else
        fj_D_swapped_125 x8 x7 m9 f10)
noncomputable def fj_D_swapped_33 (m : (Nat → Nat → Int32)) (f : (Nat → Int64)) (p1 : Int32) (p2 : Int32) : Option (Int32 × (Nat → Nat → Int32) × (Nat → Int64)) :=
  kv_bind3 (fx_D_fitsLongNow m f) (fun b2 m3 f4 =>
  if b2 = true then
    some ((-3 : Int32), m3, f4)
  else
    kv_let (kv_st m3 84 16 p1) (fun m5 =>
    kv_let (p2 + (1 : Int32)) (fun v6 =>
    (kv_loop (kv_u4 (fb_D_swapped_56)) ((-4 : Int32), v6, m5, f4)).bind (kv_u3 (fun x11 m12 f13 =>
    kv_let (kv_st m12 84 14 (-4 : Int32)) (fun m24 =>
    kv_let (kv_st m24 84 15 (-4 : Int32)) (fun m25 =>
    some (x11, m25, f13))))))))
noncomputable def fx_D_swapped (p1 : Int32) (p2 : Int32) (m : (Nat → Nat → Int32)) (f : (Nat → Int64)) : Option (Int32 × (Nat → Nat → Int32) × (Nat → Int64)) :=
  kv_bind1 (fx_D_isYear p1) (fun b1 =>
  if b1 = true then
    if p2 = (-1 : Int32) then
      fj_D_swapped_33 m f p1 p2
    else
      kv_bind1 (fx_D_isPair p2 m) (fun b26 =>
      if b26 = true then
        if (p2 / (10 : Int32)) ≤ (p2 - p2 / (10 : Int32) * (10 : Int32)) then
          fj_D_swapped_33 m f p1 p2
        else
          some ((-1 : Int32), m, f)
      else
        some ((-1 : Int32), m, f))
  else
    some ((-1 : Int32), m, f))
set_option maxRecDepth 20000 in
theorem cx_D_swapped (d : Nat) (p1 : Int32) (p2 : Int32) (c : (Nat → Nat → Int32)) (m : (Nat → Nat → Int32)) (f : (Nat → Int64)) (u : (Nat → Int64)) : ∀ a, fx_D_swapped p1 p2 m f = some a → kv_C kM_D_swapped (d + 4) [.ref 84, .int p1, .int p2] (c, m, f, u) (some (.int a.1), (c, a.2.1, a.2.2, u)) := by
  refine kv_entryX (E := fun a : (Int32 × (Nat → Nat → Int32) × (Nat → Int64)) => (some (.int a.1), (c, a.2.1, a.2.2, u))) rfl (Nat.le_of_ble_eq_true rfl) (fun o => ?_)
  unfold fx_D_swapped
  show kv_X _ _ _ _ _ 0 [(0, .ref 84), (1, .int p1), (2, .int p2)] [] (c, m, f, u)
  refine kv_iload_n (pc := 0) 1 rfl rfl dk_D_swapped_0 ?_
  refine kv_cS_mZ (pc := 1) (as := [.int p1]) (st := []) ko_D_isYear rfl kw_1385 (Nat.le_of_ble_eq_true rfl) rfl dk_D_swapped_1 (cx_D_isYear (d + 2) p1 c m f u) (fun b1 => ?_)
  refine kv_zif_eq (pc := 4) (tgt := 31) dk_D_swapped_4 rfl ?_ ?_
  · refine kv_iconst (pc := 31) (v := (-1 : Int32)) dk_D_swapped_31 kki_m1 ?_
    exact kv_iret (pc := 32) (fun h => h) rfl dk_D_swapped_32
  · refine kv_iload_n (pc := 7) 2 rfl rfl dk_D_swapped_7 ?_
    refine kv_iconst (pc := 8) (v := (-1 : Int32)) dk_D_swapped_8 kki_m1 ?_
    refine kv_cut_0 (J := fj_D_swapped_33 m f p1 p2) (pcj := 33) (LJ := [(0, .ref 84), (1, .int p1), (2, .int p2)]) (SJ := []) (WJ := (c, m, f, u)) ?_ (fun hj33 => ?_)
    · show kv_X _ _ _ _ (fj_D_swapped_33 m f p1 p2) 33 [(0, .ref 84), (1, .int p1), (2, .int p2)] [] (c, m, f, u)
      unfold fj_D_swapped_33
      refine kv_aload_n (pc := 33) 0 rfl rfl dk_D_swapped_33 ?_
      refine kv_cV_mZmf (pc := 34) (as := []) (st := []) ko_D_fitsLongNow kc_11 rfl rfl kr_84 kw_1505 (Nat.le_of_ble_eq_true rfl) rfl dk_D_swapped_34 (cx_D_fitsLongNow d c m f u) (fun b2 m3 f4 => ?_)
      refine kv_zif_eq (pc := 37) (tgt := 43) dk_D_swapped_37 rfl ?_ ?_
      · refine kv_bipush (pc := 43) (v := (-4 : Int32)) dk_D_swapped_43 kkb_m4 ?_
        refine kv_istore_n (pc := 45) (lv' := [(3, .int (-4 : Int32)), (0, .ref 84), (1, .int p1), (2, .int p2)]) rfl (Nat.le_of_ble_eq_true rfl) rfl dk_D_swapped_45 ?_
        refine kv_aload_n (pc := 46) 1 rfl rfl dk_D_swapped_46 ?_
        refine kv_iload_n (pc := 47) 2 rfl rfl dk_D_swapped_47 ?_
        refine kv_putM (pc := 48) kf_D_177 kr_84 kn_84 rfl rfl rfl dk_D_swapped_48 (fun m5 => ?_)
        refine kv_iload_n (pc := 51) 3 rfl rfl dk_D_swapped_51 ?_
        refine kv_iconst (pc := 52) (v := (1 : Int32)) dk_D_swapped_52 kki_1 ?_
        refine kv_iadd (pc := 53) dk_D_swapped_53 ?_
        refine kv_letI (fun v6 => ?_)
        refine kv_istore (pc := 54) (lv' := [(4, .int v6), (3, .int (-4 : Int32)), (0, .ref 84), (1, .int p1), (2, .int p2)]) rfl (Nat.le_of_ble_eq_true rfl) dk_D_swapped_54 ?_
        refine kv_sub (lv' := [(0, .ref 84), (3, .int (-4 : Int32)), (4, .int v6)]) [2, 1, 0] rfl ?_
        refine kv_lp_4_3 (LV := fun x7 x8 m9 f10 => [(0, .ref 84), (3, .int x7), (4, .int x8)]) (WW := fun x7 x8 m9 f10 => (c, m9, f10, u)) (LE1 := fun x11 m12 f13 => [(0, .ref 84), (3, .int x11)]) (WE1 := fun x11 m12 f13 => (c, m12, f13, u)) (pe1 := 131) ?_ ?_
        · intro x11 m12 f13
          show kv_X _ _ _ _ _ 131 [(0, .ref 84), (3, .int x11)] [] (c, m12, f13, u)
          refine kv_aload_n (pc := 131) 0 rfl rfl dk_D_swapped_131 ?_
          refine kv_bipush (pc := 132) (v := (-4 : Int32)) dk_D_swapped_132 kkb_m4 ?_
          refine kv_putM (pc := 134) kf_D_44 kr_84 kn_84 rfl rfl rfl dk_D_swapped_134 (fun m24 => ?_)
          refine kv_aload_n (pc := 137) 0 rfl rfl dk_D_swapped_137 ?_
          refine kv_bipush (pc := 138) (v := (-4 : Int32)) dk_D_swapped_138 kkb_m4 ?_
          refine kv_putM (pc := 140) kf_D_48 kr_84 kn_84 rfl rfl rfl dk_D_swapped_140 (fun m25 => ?_)
          refine kv_iload_n (pc := 143) 1 rfl rfl dk_D_swapped_143 ?_
          exact kv_iret (pc := 144) (fun h => h) rfl dk_D_swapped_144
        · intro hx56_0 x7 x8 m9 f10
          show kv_X _ _ _ _ (fb_D_swapped_56 x7 x8 m9 f10) 56 [(0, .ref 84), (3, .int x7), (4, .int x8)] [] (c, m9, f10, u)
          unfold fb_D_swapped_56
          refine kv_iload (pc := 56) 2 rfl dk_D_swapped_56 ?_
          refine kv_bipush (pc := 58) (v := (100 : Int32)) dk_D_swapped_58 kkb_100 ?_
          refine kv_icmp_ge (pc := 60) (tgt := 131) dk_D_swapped_60 rfl ?_ ?_
          · exact kv_sub [0, 1] rfl (kv_leaf (hx56_0 _ _ _))
          · refine kv_iload_n (pc := 63) 1 rfl rfl dk_D_swapped_63 ?_
            refine kv_if_ge (pc := 64) (tgt := 131) dk_D_swapped_64 rfl ?_ ?_
            · exact kv_sub [0, 1] rfl (kv_leaf (hx56_0 _ _ _))
            · refine kv_aload_n (pc := 67) 0 rfl rfl dk_D_swapped_67 ?_
              refine kv_iload (pc := 68) 2 rfl dk_D_swapped_68 ?_
              refine kv_cV_mZ (pc := 70) (as := [.int x8]) (st := []) ko_D_isPair kc_11 rfl rfl kr_84 kw_1517 (Nat.le_of_ble_eq_true rfl) rfl dk_D_swapped_70 (cx_D_isPair (d + 1) x8 c m9 f10 u) (fun b14 => ?_)
              refine kv_cut_3 (J := fj_D_swapped_125 x8) (pcj := 125) (LJ := fun x15 m16 f17 => [(0, .ref 84), (3, .int x15), (4, .int x8)]) (SJ := fun x15 m16 f17 => []) (WJ := fun x15 m16 f17 => (c, m16, f17, u)) ?_ (fun hj125 => ?_)
              · intro x15 m16 f17
                show kv_X _ _ _ _ (fj_D_swapped_125 x8 x15 m16 f17) 125 [(0, .ref 84), (3, .int x15), (4, .int x8)] [] (c, m16, f17, u)
                unfold fj_D_swapped_125
                refine kv_iinc (pc := 125) (kk := (1 : Int32)) (lv' := [(4, .int (x8 + (1 : Int32))), (0, .ref 84), (3, .int x15)]) 2 rfl kki_1 rfl (Nat.le_of_ble_eq_true rfl) dk_D_swapped_125 ?_
                refine kv_goto (pc := 128) (tgt := 56) dk_D_swapped_128 rfl ?_
                exact kv_sub [1, 2, 0] rfl (kv_leaf (fun h => h))
              refine kv_zif_eq (pc := 73) (tgt := 125) dk_D_swapped_73 rfl ?_ ?_
              · exact hj125 x7 m9 f10
              · refine kv_iload (pc := 76) 2 rfl dk_D_swapped_76 ?_
                refine kv_bipush (pc := 78) (v := (10 : Int32)) dk_D_swapped_78 kkb_10 ?_
                refine kv_idiv (pc := 80) dk_D_swapped_80 kkn_10 ?_
                refine kv_iload (pc := 81) 2 rfl dk_D_swapped_81 ?_
                refine kv_bipush (pc := 83) (v := (10 : Int32)) dk_D_swapped_83 kkb_10 ?_
                refine kv_irem (pc := 85) dk_D_swapped_85 kkn_10 ?_
                refine kv_icmp_le (pc := 86) (tgt := 92) dk_D_swapped_86 rfl ?_ ?_
                · refine kv_aload_n (pc := 92) 0 rfl rfl dk_D_swapped_92 ?_
                  refine kv_iload (pc := 93) 2 rfl dk_D_swapped_93 ?_
                  refine kv_bipush (pc := 95) (v := (10 : Int32)) dk_D_swapped_95 kkb_10 ?_
                  refine kv_idiv (pc := 97) dk_D_swapped_97 kkn_10 ?_
                  refine kv_putM (pc := 98) kf_D_44 kr_84 kn_84 rfl rfl rfl dk_D_swapped_98 (fun m18 => ?_)
                  refine kv_aload_n (pc := 101) 0 rfl rfl dk_D_swapped_101 ?_
                  refine kv_iload (pc := 102) 2 rfl dk_D_swapped_102 ?_
                  refine kv_bipush (pc := 104) (v := (10 : Int32)) dk_D_swapped_104 kkb_10 ?_
                  refine kv_irem (pc := 106) dk_D_swapped_106 kkn_10 ?_
                  refine kv_putM (pc := 107) kf_D_48 kr_84 kn_84 rfl rfl rfl dk_D_swapped_107 (fun m19 => ?_)
                  refine kv_aload_n (pc := 110) 0 rfl rfl dk_D_swapped_110 ?_
                  refine kv_cV_mZmf (pc := 111) (as := []) (st := []) ko_D_fitsLongNow kc_11 rfl rfl kr_84 kw_1505 (Nat.le_of_ble_eq_true rfl) rfl dk_D_swapped_111 (cx_D_fitsLongNow d c m19 f10 u) (fun b20 m21 f22 => ?_)
                  refine kv_cut_1 (J := fj_D_swapped_124 x8 m21 f22) (pcj := 124) (LJ := fun x23 => [(0, .ref 84), (4, .int x8)]) (SJ := fun x23 => [.int x23]) (WJ := fun x23 => (c, m21, f22, u)) ?_ (fun hj124 => ?_)
                  · intro x23
                    show kv_X _ _ _ _ (fj_D_swapped_124 x8 m21 f22 x23) 124 [(0, .ref 84), (4, .int x8)] [.int x23] (c, m21, f22, u)
                    unfold fj_D_swapped_124
                    refine kv_istore_n (pc := 124) (lv' := [(3, .int x23), (0, .ref 84), (4, .int x8)]) rfl (Nat.le_of_ble_eq_true rfl) rfl dk_D_swapped_124 ?_
                    exact kv_sub [1, 0, 2] rfl (hj125 x23 m21 f22)
                  refine kv_zif_eq (pc := 114) (tgt := 122) dk_D_swapped_114 rfl ?_ ?_
                  · refine kv_bipush (pc := 122) (v := (-4 : Int32)) dk_D_swapped_122 kkb_m4 ?_
                    exact kv_sub [0, 2] rfl (hj124 (-4 : Int32))
                  · refine kv_iload (pc := 117) 2 rfl dk_D_swapped_117 ?_
                    refine kv_goto (pc := 119) (tgt := 124) dk_D_swapped_119 rfl ?_
                    exact kv_sub [0, 2] rfl (hj124 x8)
                · refine kv_goto (pc := 89) (tgt := 125) dk_D_swapped_89 rfl ?_
                  exact hj125 x7 m9 f10
      · refine kv_bipush (pc := 40) (v := (-3 : Int32)) dk_D_swapped_40 kkb_m3 ?_
        exact kv_iret (pc := 42) (fun h => h) rfl dk_D_swapped_42
    refine kv_icmp_eq (pc := 9) (tgt := 33) dk_D_swapped_9 rfl ?_ ?_
    · exact hj33
    · refine kv_aload_n (pc := 12) 0 rfl rfl dk_D_swapped_12 ?_
      refine kv_iload_n (pc := 13) 2 rfl rfl dk_D_swapped_13 ?_
      refine kv_cV_mZ (pc := 14) (as := [.int p2]) (st := []) ko_D_isPair kc_11 rfl rfl kr_84 kw_1517 (Nat.le_of_ble_eq_true rfl) rfl dk_D_swapped_14 (cx_D_isPair (d + 1) p2 c m f u) (fun b26 => ?_)
      refine kv_zif_eq (pc := 17) (tgt := 31) dk_D_swapped_17 rfl ?_ ?_
      · refine kv_iconst (pc := 31) (v := (-1 : Int32)) dk_D_swapped_31 kki_m1 ?_
        exact kv_iret (pc := 32) (fun h => h) rfl dk_D_swapped_32
      · refine kv_iload_n (pc := 20) 2 rfl rfl dk_D_swapped_20 ?_
        refine kv_bipush (pc := 21) (v := (10 : Int32)) dk_D_swapped_21 kkb_10 ?_
        refine kv_idiv (pc := 23) dk_D_swapped_23 kkn_10 ?_
        refine kv_iload_n (pc := 24) 2 rfl rfl dk_D_swapped_24 ?_
        refine kv_bipush (pc := 25) (v := (10 : Int32)) dk_D_swapped_25 kkb_10 ?_
        refine kv_irem (pc := 27) dk_D_swapped_27 kkn_10 ?_
        refine kv_icmp_le (pc := 28) (tgt := 33) dk_D_swapped_28 rfl ?_ ?_
        · exact hj33
        · refine kv_iconst (pc := 31) (v := (-1 : Int32)) dk_D_swapped_31 kki_m1 ?_
          exact kv_iret (pc := 32) (fun h => h) rfl dk_D_swapped_32
