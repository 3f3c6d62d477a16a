theorem dk_D_oneBy_0 : decode prog_13_method_64_code 0 = .ok (.aload_n 0, 1) := by decide +kernel
theorem dk_D_oneBy_1 : decode prog_13_method_64_code 1 = .ok (.aload_n 1, 1) := by decide +kernel
theorem dk_D_oneBy_2 : decode prog_13_method_64_code 2 = .ok (.putfield 54, 3) := by decide +kernel
theorem dk_D_oneBy_5 : decode prog_13_method_64_code 5 = .ok (.aload_n 0, 1) := by decide +kernel
theorem dk_D_oneBy_6 : decode prog_13_method_64_code 6 = .ok (.iload_n 2, 1) := by decide +kernel
theorem dk_D_oneBy_7 : decode prog_13_method_64_code 7 = .ok (.putfield 215, 3) := by decide +kernel
theorem dk_D_oneBy_10 : decode prog_13_method_64_code 10 = .ok (.aload_n 0, 1) := by decide +kernel
theorem dk_D_oneBy_11 : decode prog_13_method_64_code 11 = .ok (.iload_n 3, 1) := by decide +kernel
theorem dk_D_oneBy_12 : decode prog_13_method_64_code 12 = .ok (.putfield 212, 3) := by decide +kernel
theorem dk_D_oneBy_15 : decode prog_13_method_64_code 15 = .ok (.aload_n 0, 1) := by decide +kernel
theorem dk_D_oneBy_16 : decode prog_13_method_64_code 16 = .ok (.iconst 0, 1) := by decide +kernel
theorem dk_D_oneBy_17 : decode prog_13_method_64_code 17 = .ok (.putfield 209, 3) := by decide +kernel
theorem dk_D_oneBy_20 : decode prog_13_method_64_code 20 = .ok (.iconst (-1), 1) := by decide +kernel
theorem dk_D_oneBy_21 : decode prog_13_method_64_code 21 = .ok (.istore 4, 2) := by decide +kernel
theorem dk_D_oneBy_23 : decode prog_13_method_64_code 23 = .ok (.iconst 0, 1) := by decide +kernel
theorem dk_D_oneBy_24 : decode prog_13_method_64_code 24 = .ok (.istore 5, 2) := by decide +kernel
theorem dk_D_oneBy_26 : decode prog_13_method_64_code 26 = .ok (.aload_n 0, 1) := by decide +kernel
theorem dk_D_oneBy_27 : decode prog_13_method_64_code 27 = .ok (.getfield 209, 3) := by decide +kernel
theorem dk_D_oneBy_30 : decode prog_13_method_64_code 30 = .ok (.aload_n 0, 1) := by decide +kernel
theorem dk_D_oneBy_31 : decode prog_13_method_64_code 31 = .ok (.getfield 212, 3) := by decide +kernel
theorem dk_D_oneBy_34 : decode prog_13_method_64_code 34 = .ok (.if_icmp .ge 73, 3) := by decide +kernel
theorem dk_D_oneBy_37 : decode prog_13_method_64_code 37 = .ok (.aload_n 0, 1) := by decide +kernel
theorem dk_D_oneBy_38 : decode prog_13_method_64_code 38 = .ok (.invokevirtual 246, 3) := by decide +kernel
theorem dk_D_oneBy_41 : decode prog_13_method_64_code 41 = .ok (.istore 6, 2) := by decide +kernel
theorem dk_D_oneBy_43 : decode prog_13_method_64_code 43 = .ok (.aload_n 0, 1) := by decide +kernel
theorem dk_D_oneBy_44 : decode prog_13_method_64_code 44 = .ok (.getfield 225, 3) := by decide +kernel
theorem dk_D_oneBy_47 : decode prog_13_method_64_code 47 = .ok (.istore 7, 2) := by decide +kernel
theorem dk_D_oneBy_49 : decode prog_13_method_64_code 49 = .ok (.aload_n 0, 1) := by decide +kernel
theorem dk_D_oneBy_50 : decode prog_13_method_64_code 50 = .ok (.dup, 1) := by decide +kernel
theorem dk_D_oneBy_51 : decode prog_13_method_64_code 51 = .ok (.getfield 209, 3) := by decide +kernel
theorem dk_D_oneBy_54 : decode prog_13_method_64_code 54 = .ok (.iconst 1, 1) := by decide +kernel
theorem dk_D_oneBy_55 : decode prog_13_method_64_code 55 = .ok (.iadd, 1) := by decide +kernel
theorem dk_D_oneBy_56 : decode prog_13_method_64_code 56 = .ok (.putfield 209, 3) := by decide +kernel
theorem dk_D_oneBy_59 : decode prog_13_method_64_code 59 = .ok (.aload_n 0, 1) := by decide +kernel
theorem dk_D_oneBy_60 : decode prog_13_method_64_code 60 = .ok (.invokevirtual 264, 3) := by decide +kernel
theorem dk_D_oneBy_63 : decode prog_13_method_64_code 63 = .ok (.istore 8, 2) := by decide +kernel
theorem dk_D_oneBy_65 : decode prog_13_method_64_code 65 = .ok (.aload_n 0, 1) := by decide +kernel
theorem dk_D_oneBy_66 : decode prog_13_method_64_code 66 = .ok (.dup, 1) := by decide +kernel
theorem dk_D_oneBy_67 : decode prog_13_method_64_code 67 = .ok (.getfield 209, 3) := by decide +kernel
theorem dk_D_oneBy_70 : decode prog_13_method_64_code 70 = .ok (.iconst 1, 1) := by decide +kernel
theorem dk_D_oneBy_71 : decode prog_13_method_64_code 71 = .ok (.iadd, 1) := by decide +kernel
theorem dk_D_oneBy_72 : decode prog_13_method_64_code 72 = .ok (.putfield 209, 3) := by decide +kernel
theorem dk_D_oneBy_75 : decode prog_13_method_64_code 75 = .ok (.iload 7, 2) := by decide +kernel
theorem dk_D_oneBy_77 : decode prog_13_method_64_code 77 = .ok (.aload_n 0, 1) := by decide +kernel
theorem dk_D_oneBy_78 : decode prog_13_method_64_code 78 = .ok (.getfield 9, 3) := by decide +kernel
theorem dk_D_oneBy_81 : decode prog_13_method_64_code 81 = .ok (.iconst 0, 1) := by decide +kernel
theorem dk_D_oneBy_82 : decode prog_13_method_64_code 82 = .ok (.iaload, 1) := by decide +kernel
theorem dk_D_oneBy_83 : decode prog_13_method_64_code 83 = .ok (.if_icmp .gt (-57), 3) := by decide +kernel
theorem dk_D_oneBy_86 : decode prog_13_method_64_code 86 = .ok (.iload 7, 2) := by decide +kernel
theorem dk_D_oneBy_88 : decode prog_13_method_64_code 88 = .ok (.iload 4, 2) := by decide +kernel
theorem dk_D_oneBy_90 : decode prog_13_method_64_code 90 = .ok (.if_icmp .ge 6, 3) := by decide +kernel
theorem dk_D_oneBy_93 : decode prog_13_method_64_code 93 = .ok (.goto (-67), 3) := by decide +kernel
theorem dk_D_oneBy_96 : decode prog_13_method_64_code 96 = .ok (.iload 7, 2) := by decide +kernel
theorem dk_D_oneBy_98 : decode prog_13_method_64_code 98 = .ok (.istore 4, 2) := by decide +kernel
theorem dk_D_oneBy_100 : decode prog_13_method_64_code 100 = .ok (.iload 8, 2) := by decide +kernel
theorem dk_D_oneBy_102 : decode prog_13_method_64_code 102 = .ok (.istore 5, 2) := by decide +kernel
theorem dk_D_oneBy_104 : decode prog_13_method_64_code 104 = .ok (.goto (-78), 3) := by decide +kernel
theorem dk_D_oneBy_107 : decode prog_13_method_64_code 107 = .ok (.iload 5, 2) := by decide +kernel
theorem dk_D_oneBy_109 : decode prog_13_method_64_code 109 = .ok (.ireturn, 1) := by decide +kernel
noncomputable def fb_D_oneBy_26 (x5 : Int32) (x6 : Int32) (m7 : (Nat → Nat → Int32)) : Option ((Int32 × Int32 × (Nat → Nat → Int32)) ⊕ (Int32 × (Nat → Nat → Int32))) :=
  if (m7 84 20) ≤ (m7 84 18) then
    some (.inr (x6, m7))
  else
    kv_bind2 (fx_D_readsNumber m7) (fun b10 m11 =>
    kv_let (kv_b b10) (fun v12 =>
    kv_let (m11 84 22) (fun v13 =>
    kv_let (kv_st m11 84 18 ((m11 84 18) + (1 : Int32))) (fun m14 =>
    kv_bind2 (fg_O 24 0 m14) (fun v15 m16 =>
    kv_let (kv_st m16 84 18 ((m16 84 18) + (1 : Int32))) (fun m17 =>
    if (m17 85 0) < v13 then
      some (.inl (x5, x6, m17))
    else
      if x5 ≤ v13 then
        some (.inl (v13, v15, m17))
      else
        some (.inl (x5, x6, m17))))))))
noncomputable def fx_D_oneBy (p2 : Int32) (p3 : Int32) (m : (Nat → Nat → Int32)) : Option (Int32 × (Nat → Nat → Int32)) :=
  kv_let (kv_st m 84 23 (nI 85)) (fun m1 =>
  kv_let (kv_st m1 84 19 p2) (fun m2 =>
  kv_let (kv_st m2 84 20 p3) (fun m3 =>
  kv_let (kv_st m3 84 18 (0 : Int32)) (fun m4 =>
  (kv_loop (kv_u3 (fb_D_oneBy_26)) ((-1 : Int32), (0 : Int32), m4)).bind (kv_u2 (fun x8 m9 =>
  some (x8, m9)))))))
set_option maxRecDepth 20000 in
theorem cx_D_oneBy (d : Nat) (p2 : Int32) (p3 : Int32) (c : (Nat → Nat → Int32)) (m : (Nat → Nat → Int32)) (f : (Nat → Int64)) (u : (Nat → Int64)) : ∀ a, fx_D_oneBy p2 p3 m = some a → kv_C kM_D_oneBy (d + 26) [.ref 84, .ref 85, .int p2, .int p3] (c, m, f, u) (some (.int a.1), (c, a.2, f, u)) := by
  refine kv_entryX (E := fun a : (Int32 × (Nat → Nat → Int32)) => (some (.int a.1), (c, a.2, f, u))) rfl (Nat.le_of_ble_eq_true rfl) (fun o => ?_)
  unfold fx_D_oneBy
  show kv_X _ _ _ _ _ 0 [(0, .ref 84), (1, .ref 85), (2, .int p2), (3, .int p3)] [] (c, m, f, u)
  refine kv_aload_n (pc := 0) 0 rfl rfl dk_D_oneBy_0 ?_
  refine kv_aload_n (pc := 1) 1 rfl rfl dk_D_oneBy_1 ?_
  refine kv_putV (pc := 2) kf_D_54 kr_84 kn_84 rfl (Nat.le_of_ble_eq_true rfl) (fun _ => rfl) (fun _ => rfl) dk_D_oneBy_2 (fun m1 => ?_)
  refine kv_aload_n (pc := 5) 0 rfl rfl dk_D_oneBy_5 ?_
  refine kv_iload_n (pc := 6) 2 rfl rfl dk_D_oneBy_6 ?_
  refine kv_putM (pc := 7) kf_D_215 kr_84 kn_84 rfl rfl rfl dk_D_oneBy_7 (fun m2 => ?_)
  refine kv_aload_n (pc := 10) 0 rfl rfl dk_D_oneBy_10 ?_
  refine kv_iload_n (pc := 11) 3 rfl rfl dk_D_oneBy_11 ?_
  refine kv_putM (pc := 12) kf_D_212 kr_84 kn_84 rfl rfl rfl dk_D_oneBy_12 (fun m3 => ?_)
  refine kv_aload_n (pc := 15) 0 rfl rfl dk_D_oneBy_15 ?_
  refine kv_iconst (pc := 16) (v := (0 : Int32)) dk_D_oneBy_16 kki_0 ?_
  refine kv_putM (pc := 17) kf_D_209 kr_84 kn_84 rfl rfl rfl dk_D_oneBy_17 (fun m4 => ?_)
  refine kv_iconst (pc := 20) (v := (-1 : Int32)) dk_D_oneBy_20 kki_m1 ?_
  refine kv_istore (pc := 21) (lv' := [(4, .int (-1 : Int32)), (0, .ref 84), (1, .ref 85), (2, .int p2), (3, .int p3)]) rfl (Nat.le_of_ble_eq_true rfl) dk_D_oneBy_21 ?_
  refine kv_iconst (pc := 23) (v := (0 : Int32)) dk_D_oneBy_23 kki_0 ?_
  refine kv_istore (pc := 24) (lv' := [(5, .int (0 : Int32)), (4, .int (-1 : Int32)), (0, .ref 84), (1, .ref 85), (2, .int p2), (3, .int p3)]) rfl (Nat.le_of_ble_eq_true rfl) dk_D_oneBy_24 ?_
  refine kv_sub (lv' := [(0, .ref 84), (4, .int (-1 : Int32)), (5, .int (0 : Int32))]) [2, 1, 0] rfl ?_
  refine kv_lp_3_2 (LV := fun x5 x6 m7 => [(0, .ref 84), (4, .int x5), (5, .int x6)]) (WW := fun x5 x6 m7 => (c, m7, f, u)) (LE1 := fun x8 m9 => [(5, .int x8)]) (WE1 := fun x8 m9 => (c, m9, f, u)) (pe1 := 107) ?_ ?_
  · intro x8 m9
    show kv_X _ _ _ _ _ 107 [(5, .int x8)] [] (c, m9, f, u)
    refine kv_iload (pc := 107) 0 rfl dk_D_oneBy_107 ?_
    exact kv_iret (pc := 109) (fun h => h) rfl dk_D_oneBy_109
  · intro hx26_0 x5 x6 m7
    show kv_X _ _ _ _ (fb_D_oneBy_26 x5 x6 m7) 26 [(0, .ref 84), (4, .int x5), (5, .int x6)] [] (c, m7, f, u)
    unfold fb_D_oneBy_26
    refine kv_aload_n (pc := 26) 0 rfl rfl dk_D_oneBy_26 ?_
    refine kv_getM (pc := 27) kf_D_209 kr_84 kn_84 rfl dk_D_oneBy_27 ?_
    refine kv_aload_n (pc := 30) 0 rfl rfl dk_D_oneBy_30 ?_
    refine kv_getM (pc := 31) kf_D_212 kr_84 kn_84 rfl dk_D_oneBy_31 ?_
    refine kv_icmp_ge (pc := 34) (tgt := 107) dk_D_oneBy_34 rfl ?_ ?_
    · exact kv_sub [2] rfl (kv_leaf (hx26_0 _ _))
    · refine kv_aload_n (pc := 37) 0 rfl rfl dk_D_oneBy_37 ?_
      refine kv_cV_mZm (pc := 38) (as := []) (st := []) ko_D_readsNumber kc_11 rfl rfl kr_84 kw_1545 (Nat.le_of_ble_eq_true rfl) rfl dk_D_oneBy_38 (cx_D_readsNumber (d + 24) c m7 f u) (fun b10 m11 => ?_)
      refine kv_letI (fun v12 => ?_)
      refine kv_istore (pc := 41) (lv' := [(6, .int v12), (0, .ref 84), (4, .int x5), (5, .int x6)]) rfl (Nat.le_of_ble_eq_true rfl) dk_D_oneBy_41 ?_
      refine kv_aload_n (pc := 43) 1 rfl rfl dk_D_oneBy_43 ?_
      refine kv_getM (pc := 44) kf_D_225 kr_84 kn_84 rfl dk_D_oneBy_44 ?_
      refine kv_letI (fun v13 => ?_)
      refine kv_istore (pc := 47) (lv' := [(7, .int v13), (6, .int v12), (0, .ref 84), (4, .int x5), (5, .int x6)]) rfl (Nat.le_of_ble_eq_true rfl) dk_D_oneBy_47 ?_
      refine kv_aload_n (pc := 49) 2 rfl rfl dk_D_oneBy_49 ?_
      refine kv_dupR (pc := 50) dk_D_oneBy_50 ?_
      refine kv_getM (pc := 51) kf_D_209 kr_84 kn_84 rfl dk_D_oneBy_51 ?_
      refine kv_iconst (pc := 54) (v := (1 : Int32)) dk_D_oneBy_54 kki_1 ?_
      refine kv_iadd (pc := 55) dk_D_oneBy_55 ?_
      refine kv_putM (pc := 56) kf_D_209 kr_84 kn_84 rfl rfl rfl dk_D_oneBy_56 (fun m14 => ?_)
      refine kv_aload_n (pc := 59) 2 rfl rfl dk_D_oneBy_59 ?_
      refine kv_cV_mIm (pc := 60) (as := []) (st := []) ko_D_sumOf kc_11 rfl rfl kr_84 kw_1586 (Nat.le_of_ble_eq_true rfl) rfl dk_D_oneBy_60 (cx_fg_O_0 d c m14 f u) (fun v15 m16 => ?_)
      refine kv_istore (pc := 63) (lv' := [(8, .int v15), (7, .int v13), (6, .int v12), (0, .ref 84), (4, .int x5), (5, .int x6)]) rfl (Nat.le_of_ble_eq_true rfl) dk_D_oneBy_63 ?_
      refine kv_aload_n (pc := 65) 3 rfl rfl dk_D_oneBy_65 ?_
      refine kv_dupR (pc := 66) dk_D_oneBy_66 ?_
      refine kv_getM (pc := 67) kf_D_209 kr_84 kn_84 rfl dk_D_oneBy_67 ?_
      refine kv_iconst (pc := 70) (v := (1 : Int32)) dk_D_oneBy_70 kki_1 ?_
      refine kv_iadd (pc := 71) dk_D_oneBy_71 ?_
      refine kv_putM (pc := 72) kf_D_209 kr_84 kn_84 rfl rfl rfl dk_D_oneBy_72 (fun m17 => ?_)
      refine kv_iload (pc := 75) 1 rfl dk_D_oneBy_75 ?_
      refine kv_aload_n (pc := 77) 3 rfl rfl dk_D_oneBy_77 ?_
      refine kv_getR (pc := 78) kf_D_9 kr_84 rfl kt_84_0 dk_D_oneBy_78 ?_
      refine kv_iconst (pc := 81) (v := (0 : Int32)) dk_D_oneBy_81 kki_0 ?_
      refine kv_aldM (pc := 82) kr_85 kn_85 kl_85 kkg_0_444 (j := 0) kkx_0 dk_D_oneBy_82 ?_
      refine kv_icmp_gt (pc := 83) (tgt := 26) dk_D_oneBy_83 rfl ?_ ?_
      · exact kv_sub [3, 4, 5] rfl (kv_leaf (fun h => h))
      · refine kv_iload (pc := 86) 1 rfl dk_D_oneBy_86 ?_
        refine kv_iload (pc := 88) 4 rfl dk_D_oneBy_88 ?_
        refine kv_icmp_ge (pc := 90) (tgt := 96) dk_D_oneBy_90 rfl ?_ ?_
        · refine kv_iload (pc := 96) 1 rfl dk_D_oneBy_96 ?_
          refine kv_istore (pc := 98) (lv' := [(4, .int v13), (8, .int v15), (7, .int v13), (6, .int v12), (0, .ref 84), (5, .int x6)]) rfl (Nat.le_of_ble_eq_true rfl) dk_D_oneBy_98 ?_
          refine kv_iload (pc := 100) 1 rfl dk_D_oneBy_100 ?_
          refine kv_istore (pc := 102) (lv' := [(5, .int v15), (4, .int v13), (8, .int v15), (7, .int v13), (6, .int v12), (0, .ref 84)]) rfl (Nat.le_of_ble_eq_true rfl) dk_D_oneBy_102 ?_
          refine kv_goto (pc := 104) (tgt := 26) dk_D_oneBy_104 rfl ?_
          exact kv_sub [5, 1, 0] rfl (kv_leaf (fun h => h))
        · refine kv_goto (pc := 93) (tgt := 26) dk_D_oneBy_93 rfl ?_
          exact kv_sub [3, 4, 5] rfl (kv_leaf (fun h => h))
theorem dk_D_oneNow_0 : decode prog_13_method_65_code 0 = .ok (.aload_n 0, 1) := by decide +kernel
theorem dk_D_oneNow_1 : decode prog_13_method_65_code 1 = .ok (.aload_n 0, 1) := by decide +kernel
theorem dk_D_oneNow_2 : decode prog_13_method_65_code 2 = .ok (.getfield 9, 3) := by decide +kernel
theorem dk_D_oneNow_5 : decode prog_13_method_65_code 5 = .ok (.sipush 240, 3) := by decide +kernel
theorem dk_D_oneNow_8 : decode prog_13_method_65_code 8 = .ok (.aload_n 0, 1) := by decide +kernel
theorem dk_D_oneNow_9 : decode prog_13_method_65_code 9 = .ok (.getfield 9, 3) := by decide +kernel
theorem dk_D_oneNow_12 : decode prog_13_method_65_code 12 = .ok (.bipush 8, 2) := by decide +kernel
theorem dk_D_oneNow_14 : decode prog_13_method_65_code 14 = .ok (.iaload, 1) := by decide +kernel
theorem dk_D_oneNow_15 : decode prog_13_method_65_code 15 = .ok (.invokevirtual 270, 3) := by decide +kernel
theorem dk_D_oneNow_18 : decode prog_13_method_65_code 18 = .ok (.ireturn, 1) := by decide +kernel
noncomputable def fx_D_oneNow (m : (Nat → Nat → Int32)) : Option (Int32 × (Nat → Nat → Int32)) :=
  kv_bind2 (fx_D_oneBy (240 : Int32) (m 85 8) m) (fun v1 m2 =>
  some (v1, m2))
set_option maxRecDepth 20000 in
theorem cx_D_oneNow (d : Nat) (c : (Nat → Nat → Int32)) (m : (Nat → Nat → Int32)) (f : (Nat → Int64)) (u : (Nat → Int64)) : ∀ a, fx_D_oneNow m = some a → kv_C kM_D_oneNow (d + 27) [.ref 84] (c, m, f, u) (some (.int a.1), (c, a.2, f, u)) := by
  refine kv_entryX (E := fun a : (Int32 × (Nat → Nat → Int32)) => (some (.int a.1), (c, a.2, f, u))) rfl (Nat.le_of_ble_eq_true rfl) (fun o => ?_)
  unfold fx_D_oneNow
  show kv_X _ _ _ _ _ 0 [(0, .ref 84)] [] (c, m, f, u)
  refine kv_aload_n (pc := 0) 0 rfl rfl dk_D_oneNow_0 ?_
  refine kv_aload_n (pc := 1) 0 rfl rfl dk_D_oneNow_1 ?_
  refine kv_getR (pc := 2) kf_D_9 kr_84 rfl kt_84_0 dk_D_oneNow_2 ?_
  refine kv_sipush (pc := 5) (v := (240 : Int32)) dk_D_oneNow_5 kks_240 ?_
  refine kv_aload_n (pc := 8) 0 rfl rfl dk_D_oneNow_8 ?_
  refine kv_getR (pc := 9) kf_D_9 kr_84 rfl kt_84_0 dk_D_oneNow_9 ?_
  refine kv_bipush (pc := 12) (v := (8 : Int32)) dk_D_oneNow_12 kkb_8 ?_
  refine kv_aldM (pc := 14) kr_85 kn_85 kl_85 kkg_8_444 (j := 8) kkx_8 dk_D_oneNow_14 ?_
  refine kv_cV_mIm (pc := 15) (as := [.ref 85, .int (240 : Int32), .int (m 85 8)]) (st := []) ko_D_oneBy kc_11 rfl rfl kr_84 kw_1582 (Nat.le_of_ble_eq_true rfl) rfl dk_D_oneNow_15 (cx_D_oneBy d (240 : Int32) (m 85 8) c m f u) (fun v1 m2 => ?_)
  exact kv_iret (pc := 18) (fun h => h) rfl dk_D_oneNow_18
theorem dk_D_one_0 : decode prog_13_method_66_code 0 = .ok (.aload_n 0, 1) := by decide +kernel
theorem dk_D_one_1 : decode prog_13_method_66_code 1 = .ok (.invokevirtual 274, 3) := by decide +kernel
theorem dk_D_one_4 : decode prog_13_method_66_code 4 = .ok (.ireturn, 1) := by decide +kernel
noncomputable def fx_D_one (m : (Nat → Nat → Int32)) : Option (Int32 × (Nat → Nat → Int32)) :=
  kv_bind2 (fx_D_oneNow m) (fun v1 m2 =>
  some (v1, m2))
set_option maxRecDepth 20000 in
theorem cx_D_one (d : Nat) (c : (Nat → Nat → Int32)) (m : (Nat → Nat → Int32)) (f : (Nat → Int64)) (u : (Nat → Int64)) : ∀ a, fx_D_one m = some a → kv_C kM_D_one (d + 28) [.ref 84] (c, m, f, u) (some (.int a.1), (c, a.2, f, u)) := by
  refine kv_entryX (E := fun a : (Int32 × (Nat → Nat → Int32)) => (some (.int a.1), (c, a.2, f, u))) rfl (Nat.le_of_ble_eq_true rfl) (fun o => ?_)
  unfold fx_D_one
  show kv_X _ _ _ _ _ 0 [(0, .ref 84)] [] (c, m, f, u)
  refine kv_aload_n (pc := 0) 0 rfl rfl dk_D_one_0 ?_
  refine kv_cV_mIm (pc := 1) (as := []) (st := []) ko_D_oneNow kc_11 rfl rfl kr_84 kw_1578 (Nat.le_of_ble_eq_true rfl) rfl dk_D_one_1 (cx_D_oneNow d c m f u) (fun v1 m2 => ?_)
  exact kv_iret (pc := 4) (fun h => h) rfl dk_D_one_4
theorem dk_K_worth_0 : decode prog_1_method_22_code 0 = .ok (.aload_n 0, 1) := by decide +kernel
theorem dk_K_worth_1 : decode prog_1_method_22_code 1 = .ok (.getfield 10, 3) := by decide +kernel
theorem dk_K_worth_4 : decode prog_1_method_22_code 4 = .ok (.getfield 58, 3) := by decide +kernel
theorem dk_K_worth_7 : decode prog_1_method_22_code 7 = .ok (.iload_n 1, 1) := by decide +kernel
theorem dk_K_worth_8 : decode prog_1_method_22_code 8 = .ok (.invokevirtual 101, 3) := by decide +kernel
theorem dk_K_worth_11 : decode prog_1_method_22_code 11 = .ok (.ifCond .ne 6, 3) := by decide +kernel
theorem dk_K_worth_14 : decode prog_1_method_22_code 14 = .ok (.ldc 84, 2) := by decide +kernel
theorem dk_K_worth_16 : decode prog_1_method_22_code 16 = .ok (.ireturn, 1) := by decide +kernel
theorem dk_K_worth_17 : decode prog_1_method_22_code 17 = .ok (.aload_n 0, 1) := by decide +kernel
theorem dk_K_worth_18 : decode prog_1_method_22_code 18 = .ok (.getfield 10, 3) := by decide +kernel
theorem dk_K_worth_21 : decode prog_1_method_22_code 21 = .ok (.getfield 58, 3) := by decide +kernel
theorem dk_K_worth_24 : decode prog_1_method_22_code 24 = .ok (.getfield 114, 3) := by decide +kernel
theorem dk_K_worth_27 : decode prog_1_method_22_code 27 = .ok (.iload_n 1, 1) := by decide +kernel
theorem dk_K_worth_28 : decode prog_1_method_22_code 28 = .ok (.iaload, 1) := by decide +kernel
theorem dk_K_worth_29 : decode prog_1_method_22_code 29 = .ok (.aload_n 0, 1) := by decide +kernel
theorem dk_K_worth_30 : decode prog_1_method_22_code 30 = .ok (.getfield 43, 3) := by decide +kernel
theorem dk_K_worth_33 : decode prog_1_method_22_code 33 = .ok (.aload_n 0, 1) := by decide +kernel
theorem dk_K_worth_34 : decode prog_1_method_22_code 34 = .ok (.getfield 10, 3) := by decide +kernel
theorem dk_K_worth_37 : decode prog_1_method_22_code 37 = .ok (.getfield 275, 3) := by decide +kernel
theorem dk_K_worth_40 : decode prog_1_method_22_code 40 = .ok (.getfield 288, 3) := by decide +kernel
theorem dk_K_worth_43 : decode prog_1_method_22_code 43 = .ok (.aload_n 0, 1) := by decide +kernel
theorem dk_K_worth_44 : decode prog_1_method_22_code 44 = .ok (.getfield 10, 3) := by decide +kernel
theorem dk_K_worth_47 : decode prog_1_method_22_code 47 = .ok (.getfield 275, 3) := by decide +kernel
theorem dk_K_worth_50 : decode prog_1_method_22_code 50 = .ok (.getfield 291, 3) := by decide +kernel
theorem dk_K_worth_53 : decode prog_1_method_22_code 53 = .ok (.aload_n 0, 1) := by decide +kernel
theorem dk_K_worth_54 : decode prog_1_method_22_code 54 = .ok (.getfield 10, 3) := by decide +kernel
theorem dk_K_worth_57 : decode prog_1_method_22_code 57 = .ok (.invokevirtual 268, 3) := by decide +kernel
theorem dk_K_worth_60 : decode prog_1_method_22_code 60 = .ok (.isub, 1) := by decide +kernel
theorem dk_K_worth_61 : decode prog_1_method_22_code 61 = .ok (.ireturn, 1) := by decide +kernel
noncomputable def fx_K_worth (p1 : Int32) (c : (Nat → Nat → Int32)) : Option (Int32 × (Nat → Nat → Int32)) :=
  kv_bind1 (fx_Lumps_has p1 c) (fun b1 =>
  if b1 = true then
    kv_gd (kv_in p1 10) (
    kv_bind2 (fx_Reader_read_75_19_1 (c 18 1) c) (fun v3 c4 =>
    some (((c 6 p1.toNatClampNeg) - v3), c4)))
  else
    some ((-1000000001 : Int32), c))
set_option maxRecDepth 20000 in
theorem cx_K_worth (d : Nat) (p1 : Int32) (c : (Nat → Nat → Int32)) (y : (Nat → Nat → Int32) × (Nat → Int64) × (Nat → Int64)) : ∀ a, fx_K_worth p1 c = some a → kv_C kM_K_worth (d + 28) [.ref 0, .int p1] (c, y) (some (.int a.1), (a.2, y)) := by
  refine kv_entryX (E := fun a : (Int32 × (Nat → Nat → Int32)) => (some (.int a.1), (a.2, y))) rfl (Nat.le_of_ble_eq_true rfl) (fun o => ?_)
  unfold fx_K_worth
  show kv_X _ _ _ _ _ 0 [(0, .ref 0), (1, .int p1)] [] (c, y)
  refine kv_aload_n (pc := 0) 0 rfl rfl dk_K_worth_0 ?_
  refine kv_getR (pc := 1) kf_K_10 kr_0 rfl kt_0_0 dk_K_worth_1 ?_
  refine kv_getR (pc := 4) kf_K_58 kr_1 rfl kt_1_0 dk_K_worth_4 ?_
  refine kv_iload_n (pc := 7) 1 rfl rfl dk_K_worth_7 ?_
  refine kv_cV_cZ (pc := 8) (as := [.int p1]) (st := []) ko_Lumps_has kc_3 rfl rfl kr_2 kw_543 (Nat.le_of_ble_eq_true rfl) rfl dk_K_worth_8 (cx_Lumps_has (d + 27) p1 c y) (fun b1 => ?_)
  refine kv_zif_ne (pc := 11) (tgt := 17) dk_K_worth_11 rfl ?_ ?_
  · refine kv_aload_n (pc := 17) 0 rfl rfl dk_K_worth_17 ?_
    refine kv_getR (pc := 18) kf_K_10 kr_0 rfl kt_0_0 dk_K_worth_18 ?_
    refine kv_getR (pc := 21) kf_K_58 kr_1 rfl kt_1_0 dk_K_worth_21 ?_
    refine kv_getR (pc := 24) kf_K_114 kr_2 rfl kt_2_3 dk_K_worth_24 ?_
    refine kv_iload_n (pc := 27) 1 rfl rfl dk_K_worth_27 ?_
    refine kv_guard (fun g2 => ?_)
    refine kv_aldC (pc := 28) kr_6 kn_6 kl_6 g2 rfl dk_K_worth_28 ?_
    refine kv_aload_n (pc := 29) 0 rfl rfl dk_K_worth_29 ?_
    refine kv_getR (pc := 30) kf_K_43 kr_0 rfl kt_0_6 dk_K_worth_30 ?_
    refine kv_aload_n (pc := 33) 0 rfl rfl dk_K_worth_33 ?_
    refine kv_getR (pc := 34) kf_K_10 kr_0 rfl kt_0_0 dk_K_worth_34 ?_
    refine kv_getR (pc := 37) kf_K_275 kr_1 rfl kt_1_2 dk_K_worth_37 ?_
    refine kv_getR (pc := 40) kf_K_288 kr_18 rfl kt_18_0 dk_K_worth_40 ?_
    refine kv_aload_n (pc := 43) 0 rfl rfl dk_K_worth_43 ?_
    refine kv_getR (pc := 44) kf_K_10 kr_0 rfl kt_0_0 dk_K_worth_44 ?_
    refine kv_getR (pc := 47) kf_K_275 kr_1 rfl kt_1_2 dk_K_worth_47 ?_
    refine kv_getC (pc := 50) kf_K_291 kr_18 kn_18 rfl dk_K_worth_50 ?_
    refine kv_aload_n (pc := 53) 0 rfl rfl dk_K_worth_53 ?_
    refine kv_getR (pc := 54) kf_K_10 kr_0 rfl kt_0_0 dk_K_worth_54 ?_
    refine kv_cV_cIc (pc := 57) (as := [.ref 19, .int (c 18 1), .ref 1]) (st := [.int (c 6 p1.toNatClampNeg)]) ko_Reader_read kc_6 rfl rfl kr_75 kw_845 (Nat.le_of_ble_eq_true rfl) rfl dk_K_worth_57 (cx_Reader_read_75_19_1 d (c 18 1) c y) (fun v3 c4 => ?_)
    refine kv_isub (pc := 60) dk_K_worth_60 ?_
    exact kv_iret (pc := 61) (fun h => h) rfl dk_K_worth_61
  · refine kv_ldc (pc := 14) (v := (-1000000001 : Int32)) kw_530 dk_K_worth_14 ?_
    exact kv_iret (pc := 16) (fun h => h) rfl dk_K_worth_16
theorem dk_D_worth_0 : decode prog_13_method_67_code 0 = .ok (.aload_n 0, 1) := by decide +kernel
theorem dk_D_worth_1 : decode prog_13_method_67_code 1 = .ok (.iload_n 1, 1) := by decide +kernel
theorem dk_D_worth_2 : decode prog_13_method_67_code 2 = .ok (.invokevirtual 98, 3) := by decide +kernel
theorem dk_D_worth_5 : decode prog_13_method_67_code 5 = .ok (.ifCond .eq 17, 3) := by decide +kernel
theorem dk_D_worth_8 : decode prog_13_method_67_code 8 = .ok (.aload_n 0, 1) := by decide +kernel
theorem dk_D_worth_9 : decode prog_13_method_67_code 9 = .ok (.iload_n 1, 1) := by decide +kernel
theorem dk_D_worth_10 : decode prog_13_method_67_code 10 = .ok (.iconst 3, 1) := by decide +kernel
theorem dk_D_worth_11 : decode prog_13_method_67_code 11 = .ok (.invokevirtual 68, 3) := by decide +kernel
theorem dk_D_worth_14 : decode prog_13_method_67_code 14 = .ok (.aload_n 0, 1) := by decide +kernel
theorem dk_D_worth_15 : decode prog_13_method_67_code 15 = .ok (.invokevirtual 274, 3) := by decide +kernel
theorem dk_D_worth_18 : decode prog_13_method_67_code 18 = .ok (.isub, 1) := by decide +kernel
theorem dk_D_worth_19 : decode prog_13_method_67_code 19 = .ok (.goto 5, 3) := by decide +kernel
theorem dk_D_worth_22 : decode prog_13_method_67_code 22 = .ok (.ldc 91, 2) := by decide +kernel
theorem dk_D_worth_24 : decode prog_13_method_67_code 24 = .ok (.ireturn, 1) := by decide +kernel
noncomputable def fx_D_worth (p1 : Int32) (m : (Nat → Nat → Int32)) : Option (Int32 × (Nat → Nat → Int32)) :=
  kv_bind1 (fx_D_isLump p1 m) (fun b1 =>
  if b1 = true then
    kv_bind1 (fx_D_get p1 (3 : Int32) m) (fun v2 =>
    kv_bind2 (fx_D_oneNow m) (fun v3 m4 =>
    some ((v2 - v3), m4)))
  else
    some ((-1000000001 : Int32), m))
set_option maxRecDepth 20000 in
theorem cx_D_worth (d : Nat) (p1 : Int32) (c : (Nat → Nat → Int32)) (m : (Nat → Nat → Int32)) (f : (Nat → Int64)) (u : (Nat → Int64)) : ∀ a, fx_D_worth p1 m = some a → kv_C kM_D_worth (d + 28) [.ref 84, .int p1] (c, m, f, u) (some (.int a.1), (c, a.2, f, u)) := by
  refine kv_entryX (E := fun a : (Int32 × (Nat → Nat → Int32)) => (some (.int a.1), (c, a.2, f, u))) rfl (Nat.le_of_ble_eq_true rfl) (fun o => ?_)
  unfold fx_D_worth
  show kv_X _ _ _ _ _ 0 [(0, .ref 84), (1, .int p1)] [] (c, m, f, u)
  refine kv_aload_n (pc := 0) 0 rfl rfl dk_D_worth_0 ?_
  refine kv_iload_n (pc := 1) 1 rfl rfl dk_D_worth_1 ?_
  refine kv_cV_mZ (pc := 2) (as := [.int p1]) (st := []) ko_D_isLump kc_11 rfl rfl kr_84 kw_1362 (Nat.le_of_ble_eq_true rfl) rfl dk_D_worth_2 (cx_D_isLump (d + 26) p1 c m f u) (fun b1 => ?_)
  refine kv_zif_eq (pc := 5) (tgt := 22) dk_D_worth_5 rfl ?_ ?_
  · refine kv_ldc (pc := 22) (v := (-1000000001 : Int32)) kw_1354 dk_D_worth_22 ?_
    exact kv_iret (pc := 24) (fun h => h) rfl dk_D_worth_24
  · refine kv_aload_n (pc := 8) 0 rfl rfl dk_D_worth_8 ?_
    refine kv_iload_n (pc := 9) 1 rfl rfl dk_D_worth_9 ?_
    refine kv_iconst (pc := 10) (v := (3 : Int32)) dk_D_worth_10 kki_3 ?_
    refine kv_cV_mI (pc := 11) (as := [.int p1, .int (3 : Int32)]) (st := []) ko_D_get kc_11 rfl rfl kr_84 kw_1341 (Nat.le_of_ble_eq_true rfl) rfl dk_D_worth_11 (cx_D_get (d + 27) p1 (3 : Int32) c m f u) (fun v2 => ?_)
    refine kv_aload_n (pc := 14) 0 rfl rfl dk_D_worth_14 ?_
    refine kv_cV_mIm (pc := 15) (as := []) (st := [.int v2]) ko_D_oneNow kc_11 rfl rfl kr_84 kw_1578 (Nat.le_of_ble_eq_true rfl) rfl dk_D_worth_15 (cx_D_oneNow d c m f u) (fun v3 m4 => ?_)
    refine kv_isub (pc := 18) dk_D_worth_18 ?_
    refine kv_goto (pc := 19) (tgt := 24) dk_D_worth_19 rfl ?_
    exact kv_iret (pc := 24) (fun h => h) rfl dk_D_worth_24
theorem dk_K_moves_0 : decode prog_1_method_23_code 0 = .ok (.aload_n 0, 1) := by decide +kernel
theorem dk_K_moves_1 : decode prog_1_method_23_code 1 = .ok (.getfield 10, 3) := by decide +kernel
theorem dk_K_moves_4 : decode prog_1_method_23_code 4 = .ok (.getfield 58, 3) := by decide +kernel
theorem dk_K_moves_7 : decode prog_1_method_23_code 7 = .ok (.iload_n 1, 1) := by decide +kernel
theorem dk_K_moves_8 : decode prog_1_method_23_code 8 = .ok (.invokevirtual 101, 3) := by decide +kernel
theorem dk_K_moves_11 : decode prog_1_method_23_code 11 = .ok (.ifCond .ne 6, 3) := by decide +kernel
theorem dk_K_moves_14 : decode prog_1_method_23_code 14 = .ok (.ldc 84, 2) := by decide +kernel
theorem dk_K_moves_16 : decode prog_1_method_23_code 16 = .ok (.ireturn, 1) := by decide +kernel
theorem dk_K_moves_17 : decode prog_1_method_23_code 17 = .ok (.aload_n 0, 1) := by decide +kernel
theorem dk_K_moves_18 : decode prog_1_method_23_code 18 = .ok (.iload_n 2, 1) := by decide +kernel
theorem dk_K_moves_19 : decode prog_1_method_23_code 19 = .ok (.invokevirtual 265, 3) := by decide +kernel
theorem dk_K_moves_22 : decode prog_1_method_23_code 22 = .ok (.istore_n 3, 1) := by decide +kernel
theorem dk_K_moves_23 : decode prog_1_method_23_code 23 = .ok (.iload_n 3, 1) := by decide +kernel
theorem dk_K_moves_24 : decode prog_1_method_23_code 24 = .ok (.ifCond .eq 9, 3) := by decide +kernel
theorem dk_K_moves_27 : decode prog_1_method_23_code 27 = .ok (.ldc_w 292, 3) := by decide +kernel
theorem dk_K_moves_30 : decode prog_1_method_23_code 30 = .ok (.iload_n 3, 1) := by decide +kernel
theorem dk_K_moves_31 : decode prog_1_method_23_code 31 = .ok (.iadd, 1) := by decide +kernel
theorem dk_K_moves_32 : decode prog_1_method_23_code 32 = .ok (.ireturn, 1) := by decide +kernel
theorem dk_K_moves_33 : decode prog_1_method_23_code 33 = .ok (.aload_n 0, 1) := by decide +kernel
theorem dk_K_moves_34 : decode prog_1_method_23_code 34 = .ok (.getfield 21, 3) := by decide +kernel
theorem dk_K_moves_37 : decode prog_1_method_23_code 37 = .ok (.iload_n 2, 1) := by decide +kernel
theorem dk_K_moves_38 : decode prog_1_method_23_code 38 = .ok (.aaload, 1) := by decide +kernel
theorem dk_K_moves_39 : decode prog_1_method_23_code 39 = .ok (.astore 4, 2) := by decide +kernel
theorem dk_K_moves_41 : decode prog_1_method_23_code 41 = .ok (.aload_n 0, 1) := by decide +kernel
theorem dk_K_moves_42 : decode prog_1_method_23_code 42 = .ok (.getfield 43, 3) := by decide +kernel
theorem dk_K_moves_45 : decode prog_1_method_23_code 45 = .ok (.aload 4, 2) := by decide +kernel
theorem dk_K_moves_47 : decode prog_1_method_23_code 47 = .ok (.getfield 184, 3) := by decide +kernel
theorem dk_K_moves_50 : decode prog_1_method_23_code 50 = .ok (.aload 4, 2) := by decide +kernel
theorem dk_K_moves_52 : decode prog_1_method_23_code 52 = .ok (.getfield 174, 3) := by decide +kernel
theorem dk_K_moves_55 : decode prog_1_method_23_code 55 = .ok (.aload_n 0, 1) := by decide +kernel
theorem dk_K_moves_56 : decode prog_1_method_23_code 56 = .ok (.getfield 10, 3) := by decide +kernel
theorem dk_K_moves_59 : decode prog_1_method_23_code 59 = .ok (.invokevirtual 268, 3) := by decide +kernel
theorem dk_K_moves_62 : decode prog_1_method_23_code 62 = .ok (.istore 5, 2) := by decide +kernel
theorem dk_K_moves_64 : decode prog_1_method_23_code 64 = .ok (.aload_n 0, 1) := by decide +kernel
theorem dk_K_moves_65 : decode prog_1_method_23_code 65 = .ok (.getfield 43, 3) := by decide +kernel
theorem dk_K_moves_68 : decode prog_1_method_23_code 68 = .ok (.invokevirtual 272, 3) := by decide +kernel
theorem dk_K_moves_71 : decode prog_1_method_23_code 71 = .ok (.ifCond .eq 15, 3) := by decide +kernel
theorem dk_K_moves_74 : decode prog_1_method_23_code 74 = .ok (.ldc_w 292, 3) := by decide +kernel
theorem dk_K_moves_77 : decode prog_1_method_23_code 77 = .ok (.aload_n 0, 1) := by decide +kernel
theorem dk_K_moves_78 : decode prog_1_method_23_code 78 = .ok (.getfield 43, 3) := by decide +kernel
theorem dk_K_moves_81 : decode prog_1_method_23_code 81 = .ok (.invokevirtual 272, 3) := by decide +kernel
theorem dk_K_moves_84 : decode prog_1_method_23_code 84 = .ok (.iadd, 1) := by decide +kernel
theorem dk_K_moves_85 : decode prog_1_method_23_code 85 = .ok (.ireturn, 1) := by decide +kernel
theorem dk_K_moves_86 : decode prog_1_method_23_code 86 = .ok (.aload_n 0, 1) := by decide +kernel
theorem dk_K_moves_87 : decode prog_1_method_23_code 87 = .ok (.getfield 43, 3) := by decide +kernel
theorem dk_K_moves_90 : decode prog_1_method_23_code 90 = .ok (.aload_n 0, 1) := by decide +kernel
theorem dk_K_moves_91 : decode prog_1_method_23_code 91 = .ok (.getfield 10, 3) := by decide +kernel
theorem dk_K_moves_94 : decode prog_1_method_23_code 94 = .ok (.getfield 275, 3) := by decide +kernel
theorem dk_K_moves_97 : decode prog_1_method_23_code 97 = .ok (.getfield 288, 3) := by decide +kernel
theorem dk_K_moves_100 : decode prog_1_method_23_code 100 = .ok (.aload_n 0, 1) := by decide +kernel
theorem dk_K_moves_101 : decode prog_1_method_23_code 101 = .ok (.getfield 10, 3) := by decide +kernel
theorem dk_K_moves_104 : decode prog_1_method_23_code 104 = .ok (.getfield 275, 3) := by decide +kernel
theorem dk_K_moves_107 : decode prog_1_method_23_code 107 = .ok (.getfield 291, 3) := by decide +kernel
theorem dk_K_moves_110 : decode prog_1_method_23_code 110 = .ok (.aload_n 0, 1) := by decide +kernel
theorem dk_K_moves_111 : decode prog_1_method_23_code 111 = .ok (.getfield 10, 3) := by decide +kernel
theorem dk_K_moves_114 : decode prog_1_method_23_code 114 = .ok (.invokevirtual 268, 3) := by decide +kernel
theorem dk_K_moves_117 : decode prog_1_method_23_code 117 = .ok (.iload 5, 2) := by decide +kernel
theorem dk_K_moves_119 : decode prog_1_method_23_code 119 = .ok (.isub, 1) := by decide +kernel
theorem dk_K_moves_120 : decode prog_1_method_23_code 120 = .ok (.ireturn, 1) := by decide +kernel
noncomputable def fx_K_moves (p1 : Int32) (p2 : Int32) (c : (Nat → Nat → Int32)) : Option (Int32 × (Nat → Nat → Int32)) :=
  kv_bind1 (fx_Lumps_has p1 c) (fun b1 =>
  if b1 = true then
    kv_bind1 (fx_K_bytesRefusal p2 c) (fun v2 =>
    if v2 = 0 then
      kv_gd (kv_in p2 8) (
      kv_bind2 (fx_Reader_read (kv_tg (kv_tg 51 p2.toNatClampNeg) 0) (c (kv_tg 51 p2.toNatClampNeg) 3) c) (fun v4 c5 =>
      kv_bind1 (fx_Reader_faultTold c5) (fun v6 =>
      if v6 = 0 then
        kv_bind2 (fx_Reader_read_75_19_1 (c5 18 1) c5) (fun v7 c8 =>
        some ((v7 - v4), c8))
      else
        kv_bind1 (fx_Reader_faultTold c5) (fun v9 =>
        some (((-1000000000 : Int32) + v9), c5)))))
    else
      some (((-1000000000 : Int32) + v2), c))
  else
    some ((-1000000001 : Int32), c))
set_option maxRecDepth 20000 in
theorem cx_K_moves (d : Nat) (p1 : Int32) (p2 : Int32) (c : (Nat → Nat → Int32)) (y : (Nat → Nat → Int32) × (Nat → Int64) × (Nat → Int64)) : ∀ a, fx_K_moves p1 p2 c = some a → kv_C kM_K_moves (d + 28) [.ref 0, .int p1, .int p2] (c, y) (some (.int a.1), (a.2, y)) := by
  refine kv_entryX (E := fun a : (Int32 × (Nat → Nat → Int32)) => (some (.int a.1), (a.2, y))) rfl (Nat.le_of_ble_eq_true rfl) (fun o => ?_)
  unfold fx_K_moves
  show kv_X _ _ _ _ _ 0 [(0, .ref 0), (1, .int p1), (2, .int p2)] [] (c, y)
  refine kv_aload_n (pc := 0) 0 rfl rfl dk_K_moves_0 ?_
  refine kv_getR (pc := 1) kf_K_10 kr_0 rfl kt_0_0 dk_K_moves_1 ?_
  refine kv_getR (pc := 4) kf_K_58 kr_1 rfl kt_1_0 dk_K_moves_4 ?_
  refine kv_iload_n (pc := 7) 1 rfl rfl dk_K_moves_7 ?_
  refine kv_cV_cZ (pc := 8) (as := [.int p1]) (st := []) ko_Lumps_has kc_3 rfl rfl kr_2 kw_543 (Nat.le_of_ble_eq_true rfl) rfl dk_K_moves_8 (cx_Lumps_has (d + 27) p1 c y) (fun b1 => ?_)
  refine kv_zif_ne (pc := 11) (tgt := 17) dk_K_moves_11 rfl ?_ ?_
  · refine kv_aload_n (pc := 17) 0 rfl rfl dk_K_moves_17 ?_
    refine kv_iload_n (pc := 18) 2 rfl rfl dk_K_moves_18 ?_
    refine kv_cV_cI (pc := 19) (as := [.int p2]) (st := []) ko_K_bytesRefusal kc_10 rfl rfl kr_0 kw_841 (Nat.le_of_ble_eq_true rfl) rfl dk_K_moves_19 (cx_K_bytesRefusal (d + 24) p2 c y) (fun v2 => ?_)
    refine kv_istore_n (pc := 22) (lv' := [(3, .int v2), (0, .ref 0), (1, .int p1), (2, .int p2)]) rfl (Nat.le_of_ble_eq_true rfl) rfl dk_K_moves_22 ?_
    refine kv_iload_n (pc := 23) 0 rfl rfl dk_K_moves_23 ?_
    refine kv_if_eq (pc := 24) (tgt := 33) dk_K_moves_24 rfl ?_ ?_
    · refine kv_aload_n (pc := 33) 1 rfl rfl dk_K_moves_33 ?_
      refine kv_getR (pc := 34) kf_K_21 kr_0 rfl kt_0_3 dk_K_moves_34 ?_
      refine kv_iload_n (pc := 37) 3 rfl rfl dk_K_moves_37 ?_
      refine kv_guard (fun g3 => ?_)
      refine kv_aald (pc := 38) kr_51 kl_51 g3 rfl dk_K_moves_38 ?_
      refine kv_astore (pc := 39) (lv' := [(4, .ref (kv_tg 51 p2.toNatClampNeg)), (3, .int v2), (0, .ref 0), (1, .int p1), (2, .int p2)]) rfl (Nat.le_of_ble_eq_true rfl) dk_K_moves_39 ?_
      refine kv_aload_n (pc := 41) 2 rfl rfl dk_K_moves_41 ?_
      refine kv_getR (pc := 42) kf_K_43 kr_0 rfl kt_0_6 dk_K_moves_42 ?_
      refine kv_aload (pc := 45) 0 rfl dk_K_moves_45 ?_
      refine kv_getR (pc := 47) kf_K_184 (kv_sh g3) rfl rfl dk_K_moves_47 ?_
      refine kv_aload (pc := 50) 0 rfl dk_K_moves_50 ?_
      refine kv_getC (pc := 52) kf_K_174 (kv_sh g3) (kv_7nc (kv_sh g3)) rfl dk_K_moves_52 ?_
      refine kv_aload_n (pc := 55) 2 rfl rfl dk_K_moves_55 ?_
      refine kv_getR (pc := 56) kf_K_10 kr_0 rfl kt_0_0 dk_K_moves_56 ?_
      refine kv_cV_cIc (pc := 59) (as := [.ref (kv_tg (kv_tg 51 p2.toNatClampNeg) 0), .int (c (kv_tg 51 p2.toNatClampNeg) 3), .ref 1]) (st := []) ko_Reader_read kc_6 rfl rfl kr_75 kw_845 (Nat.le_of_ble_eq_true rfl) rfl dk_K_moves_59 (cx_Reader_read d (kv_tg (kv_tg 51 p2.toNatClampNeg) 0) (c (kv_tg 51 p2.toNatClampNeg) 3) c y (kv_7e (kv_sh g3)) (kv_7enc (kv_sh g3))) (fun v4 c5 => ?_)
      refine kv_istore (pc := 62) (lv' := [(5, .int v4), (4, .ref (kv_tg 51 p2.toNatClampNeg)), (3, .int v2), (0, .ref 0), (1, .int p1), (2, .int p2)]) rfl (Nat.le_of_ble_eq_true rfl) dk_K_moves_62 ?_
      refine kv_aload_n (pc := 64) 3 rfl rfl dk_K_moves_64 ?_
      refine kv_getR (pc := 65) kf_K_43 kr_0 rfl kt_0_6 dk_K_moves_65 ?_
      refine kv_cV_cI (pc := 68) (as := []) (st := []) ko_Reader_faultTold kc_6 rfl rfl kr_75 kw_898 (Nat.le_of_ble_eq_true rfl) rfl dk_K_moves_68 (cx_Reader_faultTold (d + 27) c5 y) (fun v6 => ?_)
      refine kv_if_eq (pc := 71) (tgt := 86) dk_K_moves_71 rfl ?_ ?_
      · refine kv_aload_n (pc := 86) 3 rfl rfl dk_K_moves_86 ?_
        refine kv_getR (pc := 87) kf_K_43 kr_0 rfl kt_0_6 dk_K_moves_87 ?_
        refine kv_aload_n (pc := 90) 3 rfl rfl dk_K_moves_90 ?_
        refine kv_getR (pc := 91) kf_K_10 kr_0 rfl kt_0_0 dk_K_moves_91 ?_
        refine kv_getR (pc := 94) kf_K_275 kr_1 rfl kt_1_2 dk_K_moves_94 ?_
        refine kv_getR (pc := 97) kf_K_288 kr_18 rfl kt_18_0 dk_K_moves_97 ?_
        refine kv_aload_n (pc := 100) 3 rfl rfl dk_K_moves_100 ?_
        refine kv_getR (pc := 101) kf_K_10 kr_0 rfl kt_0_0 dk_K_moves_101 ?_
        refine kv_getR (pc := 104) kf_K_275 kr_1 rfl kt_1_2 dk_K_moves_104 ?_
        refine kv_getC (pc := 107) kf_K_291 kr_18 kn_18 rfl dk_K_moves_107 ?_
        refine kv_aload_n (pc := 110) 3 rfl rfl dk_K_moves_110 ?_
        refine kv_getR (pc := 111) kf_K_10 kr_0 rfl kt_0_0 dk_K_moves_111 ?_
        refine kv_cV_cIc (pc := 114) (as := [.ref 19, .int (c5 18 1), .ref 1]) (st := []) ko_Reader_read kc_6 rfl rfl kr_75 kw_845 (Nat.le_of_ble_eq_true rfl) rfl dk_K_moves_114 (cx_Reader_read_75_19_1 d (c5 18 1) c5 y) (fun v7 c8 => ?_)
        refine kv_iload (pc := 117) 0 rfl dk_K_moves_117 ?_
        refine kv_isub (pc := 119) dk_K_moves_119 ?_
        exact kv_iret (pc := 120) (fun h => h) rfl dk_K_moves_120
      · refine kv_ldcw (pc := 74) (v := (-1000000000 : Int32)) kw_919 dk_K_moves_74 ?_
        refine kv_aload_n (pc := 77) 3 rfl rfl dk_K_moves_77 ?_
        refine kv_getR (pc := 78) kf_K_43 kr_0 rfl kt_0_6 dk_K_moves_78 ?_
        refine kv_cV_cI (pc := 81) (as := []) (st := [.int (-1000000000 : Int32)]) ko_Reader_faultTold kc_6 rfl rfl kr_75 kw_898 (Nat.le_of_ble_eq_true rfl) rfl dk_K_moves_81 (cx_Reader_faultTold (d + 27) c5 y) (fun v9 => ?_)
        refine kv_iadd (pc := 84) dk_K_moves_84 ?_
        exact kv_iret (pc := 85) (fun h => h) rfl dk_K_moves_85
    · refine kv_ldcw (pc := 27) (v := (-1000000000 : Int32)) kw_919 dk_K_moves_27 ?_
      refine kv_iload_n (pc := 30) 0 rfl rfl dk_K_moves_30 ?_
      refine kv_iadd (pc := 31) dk_K_moves_31 ?_
      exact kv_iret (pc := 32) (fun h => h) rfl dk_K_moves_32
  · refine kv_ldc (pc := 14) (v := (-1000000001 : Int32)) kw_530 dk_K_moves_14 ?_
    exact kv_iret (pc := 16) (fun h => h) rfl dk_K_moves_16
noncomputable def fb_D_oneBy_84_90_26 (x5 : Int32) (x6 : Int32) (m7 : (Nat → Nat → Int32)) : Option ((Int32 × Int32 × (Nat → Nat → Int32)) ⊕ (Int32 × (Nat → Nat → Int32))) :=
  if (m7 84 20) ≤ (m7 84 18) then
    some (.inr (x6, m7))
  else
    kv_bind2 (fx_D_readsNumber m7) (fun b10 m11 =>
    kv_let (kv_b b10) (fun v12 =>
    kv_let (m11 84 22) (fun v13 =>
    kv_let (kv_st m11 84 18 ((m11 84 18) + (1 : Int32))) (fun m14 =>
    kv_bind2 (fg_O 24 0 m14) (fun v15 m16 =>
    kv_let (kv_st m16 84 18 ((m16 84 18) + (1 : Int32))) (fun m17 =>
    if (m17 85 0) < v13 then
      some (.inl (x5, x6, m17))
    else
      if x5 ≤ v13 then
        some (.inl (v13, v15, m17))
      else
        some (.inl (x5, x6, m17))))))))
noncomputable def fx_D_oneBy_84_90 (p2 : Int32) (p3 : Int32) (m : (Nat → Nat → Int32)) : Option (Int32 × (Nat → Nat → Int32)) :=
  kv_let (kv_st m 84 23 (nI 90)) (fun m1 =>
  kv_let (kv_st m1 84 19 p2) (fun m2 =>
  kv_let (kv_st m2 84 20 p3) (fun m3 =>
  kv_let (kv_st m3 84 18 (0 : Int32)) (fun m4 =>
  (kv_loop (kv_u3 (fb_D_oneBy_84_90_26)) ((-1 : Int32), (0 : Int32), m4)).bind (kv_u2 (fun x8 m9 =>
  some (x8, m9)))))))
set_option maxRecDepth 20000 in
theorem cx_D_oneBy_84_90 (d : Nat) (p2 : Int32) (p3 : Int32) (c : (Nat → Nat → Int32)) (m : (Nat → Nat → Int32)) (f : (Nat → Int64)) (u : (Nat → Int64)) : ∀ a, fx_D_oneBy_84_90 p2 p3 m = some a → kv_C kM_D_oneBy (d + 26) [.ref 84, .ref 90, .int p2, .int p3] (c, m, f, u) (some (.int a.1), (c, a.2, f, u)) := by
  refine kv_entryX (E := fun a : (Int32 × (Nat → Nat → Int32)) => (some (.int a.1), (c, a.2, f, u))) rfl (Nat.le_of_ble_eq_true rfl) (fun o => ?_)
  unfold fx_D_oneBy_84_90
  show kv_X _ _ _ _ _ 0 [(0, .ref 84), (1, .ref 90), (2, .int p2), (3, .int p3)] [] (c, m, f, u)
  refine kv_aload_n (pc := 0) 0 rfl rfl dk_D_oneBy_0 ?_
  refine kv_aload_n (pc := 1) 1 rfl rfl dk_D_oneBy_1 ?_
  refine kv_putV (pc := 2) kf_D_54 kr_84 kn_84 rfl (Nat.le_of_ble_eq_true rfl) (fun _ => rfl) (fun _ => rfl) dk_D_oneBy_2 (fun m1 => ?_)
  refine kv_aload_n (pc := 5) 0 rfl rfl dk_D_oneBy_5 ?_
  refine kv_iload_n (pc := 6) 2 rfl rfl dk_D_oneBy_6 ?_
  refine kv_putM (pc := 7) kf_D_215 kr_84 kn_84 rfl rfl rfl dk_D_oneBy_7 (fun m2 => ?_)
  refine kv_aload_n (pc := 10) 0 rfl rfl dk_D_oneBy_10 ?_
  refine kv_iload_n (pc := 11) 3 rfl rfl dk_D_oneBy_11 ?_
  refine kv_putM (pc := 12) kf_D_212 kr_84 kn_84 rfl rfl rfl dk_D_oneBy_12 (fun m3 => ?_)
  refine kv_aload_n (pc := 15) 0 rfl rfl dk_D_oneBy_15 ?_
  refine kv_iconst (pc := 16) (v := (0 : Int32)) dk_D_oneBy_16 kki_0 ?_
  refine kv_putM (pc := 17) kf_D_209 kr_84 kn_84 rfl rfl rfl dk_D_oneBy_17 (fun m4 => ?_)
  refine kv_iconst (pc := 20) (v := (-1 : Int32)) dk_D_oneBy_20 kki_m1 ?_
  refine kv_istore (pc := 21) (lv' := [(4, .int (-1 : Int32)), (0, .ref 84), (1, .ref 90), (2, .int p2), (3, .int p3)]) rfl (Nat.le_of_ble_eq_true rfl) dk_D_oneBy_21 ?_
  refine kv_iconst (pc := 23) (v := (0 : Int32)) dk_D_oneBy_23 kki_0 ?_
  refine kv_istore (pc := 24) (lv' := [(5, .int (0 : Int32)), (4, .int (-1 : Int32)), (0, .ref 84), (1, .ref 90), (2, .int p2), (3, .int p3)]) rfl (Nat.le_of_ble_eq_true rfl) dk_D_oneBy_24 ?_
  refine kv_sub (lv' := [(0, .ref 84), (4, .int (-1 : Int32)), (5, .int (0 : Int32))]) [2, 1, 0] rfl ?_
  refine kv_lp_3_2 (LV := fun x5 x6 m7 => [(0, .ref 84), (4, .int x5), (5, .int x6)]) (WW := fun x5 x6 m7 => (c, m7, f, u)) (LE1 := fun x8 m9 => [(5, .int x8)]) (WE1 := fun x8 m9 => (c, m9, f, u)) (pe1 := 107) ?_ ?_
  · intro x8 m9
    show kv_X _ _ _ _ _ 107 [(5, .int x8)] [] (c, m9, f, u)
    refine kv_iload (pc := 107) 0 rfl dk_D_oneBy_107 ?_
    exact kv_iret (pc := 109) (fun h => h) rfl dk_D_oneBy_109
  · intro hx26_0 x5 x6 m7
    show kv_X _ _ _ _ (fb_D_oneBy_84_90_26 x5 x6 m7) 26 [(0, .ref 84), (4, .int x5), (5, .int x6)] [] (c, m7, f, u)
    unfold fb_D_oneBy_84_90_26
    refine kv_aload_n (pc := 26) 0 rfl rfl dk_D_oneBy_26 ?_
    refine kv_getM (pc := 27) kf_D_209 kr_84 kn_84 rfl dk_D_oneBy_27 ?_
    refine kv_aload_n (pc := 30) 0 rfl rfl dk_D_oneBy_30 ?_
    refine kv_getM (pc := 31) kf_D_212 kr_84 kn_84 rfl dk_D_oneBy_31 ?_
    refine kv_icmp_ge (pc := 34) (tgt := 107) dk_D_oneBy_34 rfl ?_ ?_
    · exact kv_sub [2] rfl (kv_leaf (hx26_0 _ _))
    · refine kv_aload_n (pc := 37) 0 rfl rfl dk_D_oneBy_37 ?_
      refine kv_cV_mZm (pc := 38) (as := []) (st := []) ko_D_readsNumber kc_11 rfl rfl kr_84 kw_1545 (Nat.le_of_ble_eq_true rfl) rfl dk_D_oneBy_38 (cx_D_readsNumber (d + 24) c m7 f u) (fun b10 m11 => ?_)
      refine kv_letI (fun v12 => ?_)
      refine kv_istore (pc := 41) (lv' := [(6, .int v12), (0, .ref 84), (4, .int x5), (5, .int x6)]) rfl (Nat.le_of_ble_eq_true rfl) dk_D_oneBy_41 ?_
      refine kv_aload_n (pc := 43) 1 rfl rfl dk_D_oneBy_43 ?_
      refine kv_getM (pc := 44) kf_D_225 kr_84 kn_84 rfl dk_D_oneBy_44 ?_
      refine kv_letI (fun v13 => ?_)
      refine kv_istore (pc := 47) (lv' := [(7, .int v13), (6, .int v12), (0, .ref 84), (4, .int x5), (5, .int x6)]) rfl (Nat.le_of_ble_eq_true rfl) dk_D_oneBy_47 ?_
      refine kv_aload_n (pc := 49) 2 rfl rfl dk_D_oneBy_49 ?_
      refine kv_dupR (pc := 50) dk_D_oneBy_50 ?_
      refine kv_getM (pc := 51) kf_D_209 kr_84 kn_84 rfl dk_D_oneBy_51 ?_
      refine kv_iconst (pc := 54) (v := (1 : Int32)) dk_D_oneBy_54 kki_1 ?_
      refine kv_iadd (pc := 55) dk_D_oneBy_55 ?_
      refine kv_putM (pc := 56) kf_D_209 kr_84 kn_84 rfl rfl rfl dk_D_oneBy_56 (fun m14 => ?_)
      refine kv_aload_n (pc := 59) 2 rfl rfl dk_D_oneBy_59 ?_
      refine kv_cV_mIm (pc := 60) (as := []) (st := []) ko_D_sumOf kc_11 rfl rfl kr_84 kw_1586 (Nat.le_of_ble_eq_true rfl) rfl dk_D_oneBy_60 (cx_fg_O_0 d c m14 f u) (fun v15 m16 => ?_)
      refine kv_istore (pc := 63) (lv' := [(8, .int v15), (7, .int v13), (6, .int v12), (0, .ref 84), (4, .int x5), (5, .int x6)]) rfl (Nat.le_of_ble_eq_true rfl) dk_D_oneBy_63 ?_
      refine kv_aload_n (pc := 65) 3 rfl rfl dk_D_oneBy_65 ?_
      refine kv_dupR (pc := 66) dk_D_oneBy_66 ?_
      refine kv_getM (pc := 67) kf_D_209 kr_84 kn_84 rfl dk_D_oneBy_67 ?_
      refine kv_iconst (pc := 70) (v := (1 : Int32)) dk_D_oneBy_70 kki_1 ?_
      refine kv_iadd (pc := 71) dk_D_oneBy_71 ?_
      refine kv_putM (pc := 72) kf_D_209 kr_84 kn_84 rfl rfl rfl dk_D_oneBy_72 (fun m17 => ?_)
      refine kv_iload (pc := 75) 1 rfl dk_D_oneBy_75 ?_
      refine kv_aload_n (pc := 77) 3 rfl rfl dk_D_oneBy_77 ?_
      refine kv_getR (pc := 78) kf_D_9 kr_84 rfl kt_84_0 dk_D_oneBy_78 ?_
      refine kv_iconst (pc := 81) (v := (0 : Int32)) dk_D_oneBy_81 kki_0 ?_
      refine kv_aldM (pc := 82) kr_85 kn_85 kl_85 kkg_0_444 (j := 0) kkx_0 dk_D_oneBy_82 ?_
      refine kv_icmp_gt (pc := 83) (tgt := 26) dk_D_oneBy_83 rfl ?_ ?_
      · exact kv_sub [3, 4, 5] rfl (kv_leaf (fun h => h))
      · refine kv_iload (pc := 86) 1 rfl dk_D_oneBy_86 ?_
        refine kv_iload (pc := 88) 4 rfl dk_D_oneBy_88 ?_
        refine kv_icmp_ge (pc := 90) (tgt := 96) dk_D_oneBy_90 rfl ?_ ?_
        · refine kv_iload (pc := 96) 1 rfl dk_D_oneBy_96 ?_
          refine kv_istore (pc := 98) (lv' := [(4, .int v13), (8, .int v15), (7, .int v13), (6, .int v12), (0, .ref 84), (5, .int x6)]) rfl (Nat.le_of_ble_eq_true rfl) dk_D_oneBy_98 ?_
          refine kv_iload (pc := 100) 1 rfl dk_D_oneBy_100 ?_
          refine kv_istore (pc := 102) (lv' := [(5, .int v15), (4, .int v13), (8, .int v15), (7, .int v13), (6, .int v12), (0, .ref 84)]) rfl (Nat.le_of_ble_eq_true rfl) dk_D_oneBy_102 ?_
          refine kv_goto (pc := 104) (tgt := 26) dk_D_oneBy_104 rfl ?_
          exact kv_sub [5, 1, 0] rfl (kv_leaf (fun h => h))
        · refine kv_goto (pc := 93) (tgt := 26) dk_D_oneBy_93 rfl ?_
          exact kv_sub [3, 4, 5] rfl (kv_leaf (fun h => h))
theorem dk_D_moves_0 : decode prog_13_method_68_code 0 = .ok (.aload_n 0, 1) := by decide +kernel
theorem dk_D_moves_1 : decode prog_13_method_68_code 1 = .ok (.iload_n 1, 1) := by decide +kernel
theorem dk_D_moves_2 : decode prog_13_method_68_code 2 = .ok (.invokevirtual 98, 3) := by decide +kernel
theorem dk_D_moves_5 : decode prog_13_method_68_code 5 = .ok (.ifCond .ne 6, 3) := by decide +kernel
theorem dk_D_moves_8 : decode prog_13_method_68_code 8 = .ok (.ldc 91, 2) := by decide +kernel
theorem dk_D_moves_10 : decode prog_13_method_68_code 10 = .ok (.ireturn, 1) := by decide +kernel
theorem dk_D_moves_11 : decode prog_13_method_68_code 11 = .ok (.aload_n 0, 1) := by decide +kernel
theorem dk_D_moves_12 : decode prog_13_method_68_code 12 = .ok (.iload_n 2, 1) := by decide +kernel
theorem dk_D_moves_13 : decode prog_13_method_68_code 13 = .ok (.iconst 0, 1) := by decide +kernel
theorem dk_D_moves_14 : decode prog_13_method_68_code 14 = .ok (.invokevirtual 127, 3) := by decide +kernel
theorem dk_D_moves_17 : decode prog_13_method_68_code 17 = .ok (.istore_n 3, 1) := by decide +kernel
theorem dk_D_moves_18 : decode prog_13_method_68_code 18 = .ok (.iload_n 3, 1) := by decide +kernel
theorem dk_D_moves_19 : decode prog_13_method_68_code 19 = .ok (.ifCond .eq 9, 3) := by decide +kernel
theorem dk_D_moves_22 : decode prog_13_method_68_code 22 = .ok (.ldc_w 277, 3) := by decide +kernel
theorem dk_D_moves_25 : decode prog_13_method_68_code 25 = .ok (.iload_n 3, 1) := by decide +kernel
theorem dk_D_moves_26 : decode prog_13_method_68_code 26 = .ok (.iadd, 1) := by decide +kernel
theorem dk_D_moves_27 : decode prog_13_method_68_code 27 = .ok (.ireturn, 1) := by decide +kernel
theorem dk_D_moves_28 : decode prog_13_method_68_code 28 = .ok (.aload_n 0, 1) := by decide +kernel
theorem dk_D_moves_29 : decode prog_13_method_68_code 29 = .ok (.iload_n 2, 1) := by decide +kernel
theorem dk_D_moves_30 : decode prog_13_method_68_code 30 = .ok (.invokevirtual 255, 3) := by decide +kernel
theorem dk_D_moves_33 : decode prog_13_method_68_code 33 = .ok (.istore 4, 2) := by decide +kernel
theorem dk_D_moves_35 : decode prog_13_method_68_code 35 = .ok (.iload 4, 2) := by decide +kernel
theorem dk_D_moves_37 : decode prog_13_method_68_code 37 = .ok (.ifCond .ge 10, 3) := by decide +kernel
theorem dk_D_moves_40 : decode prog_13_method_68_code 40 = .ok (.ldc_w 277, 3) := by decide +kernel
theorem dk_D_moves_43 : decode prog_13_method_68_code 43 = .ok (.iload 4, 2) := by decide +kernel
theorem dk_D_moves_45 : decode prog_13_method_68_code 45 = .ok (.iadd, 1) := by decide +kernel
theorem dk_D_moves_46 : decode prog_13_method_68_code 46 = .ok (.ireturn, 1) := by decide +kernel
theorem dk_D_moves_47 : decode prog_13_method_68_code 47 = .ok (.aload_n 0, 1) := by decide +kernel
theorem dk_D_moves_48 : decode prog_13_method_68_code 48 = .ok (.invokevirtual 274, 3) := by decide +kernel
theorem dk_D_moves_51 : decode prog_13_method_68_code 51 = .ok (.aload_n 0, 1) := by decide +kernel
theorem dk_D_moves_52 : decode prog_13_method_68_code 52 = .ok (.aload_n 0, 1) := by decide +kernel
theorem dk_D_moves_53 : decode prog_13_method_68_code 53 = .ok (.getfield 25, 3) := by decide +kernel
theorem dk_D_moves_56 : decode prog_13_method_68_code 56 = .ok (.bipush 100, 2) := by decide +kernel
theorem dk_D_moves_58 : decode prog_13_method_68_code 58 = .ok (.iload_n 2, 1) := by decide +kernel
theorem dk_D_moves_59 : decode prog_13_method_68_code 59 = .ok (.imul, 1) := by decide +kernel
theorem dk_D_moves_60 : decode prog_13_method_68_code 60 = .ok (.aload_n 0, 1) := by decide +kernel
theorem dk_D_moves_61 : decode prog_13_method_68_code 61 = .ok (.getfield 22, 3) := by decide +kernel
theorem dk_D_moves_64 : decode prog_13_method_68_code 64 = .ok (.iload_n 2, 1) := by decide +kernel
theorem dk_D_moves_65 : decode prog_13_method_68_code 65 = .ok (.iaload, 1) := by decide +kernel
theorem dk_D_moves_66 : decode prog_13_method_68_code 66 = .ok (.invokevirtual 270, 3) := by decide +kernel
theorem dk_D_moves_69 : decode prog_13_method_68_code 69 = .ok (.isub, 1) := by decide +kernel
theorem dk_D_moves_70 : decode prog_13_method_68_code 70 = .ok (.ireturn, 1) := by decide +kernel
noncomputable def fx_D_moves (p1 : Int32) (p2 : Int32) (m : (Nat → Nat → Int32)) : Option (Int32 × (Nat → Nat → Int32)) :=
  kv_bind1 (fx_D_isLump p1 m) (fun b1 =>
  if b1 = true then
    kv_bind1 (fx_D_wrongRow p2 (0 : Int32) m) (fun v2 =>
    if v2 = 0 then
      kv_bind2 (fx_D_reads p2 m) (fun v3 m4 =>
      if 0 ≤ v3 then
        kv_bind2 (fx_D_oneNow m4) (fun v5 m6 =>
        kv_gd (kv_in p2 8) (
        kv_bind2 (fx_D_oneBy_84_90 ((100 : Int32) * p2) (m6 89 p2.toNatClampNeg) m6) (fun v8 m9 =>
        some ((v5 - v8), m9))))
      else
        some (((-1000000000 : Int32) + v3), m4))
    else
      some (((-1000000000 : Int32) + v2), m))
  else
    some ((-1000000001 : Int32), m))
set_option maxRecDepth 20000 in
theorem cx_D_moves (d : Nat) (p1 : Int32) (p2 : Int32) (c : (Nat → Nat → Int32)) (m : (Nat → Nat → Int32)) (f : (Nat → Int64)) (u : (Nat → Int64)) : ∀ a, fx_D_moves p1 p2 m = some a → kv_C kM_D_moves (d + 28) [.ref 84, .int p1, .int p2] (c, m, f, u) (some (.int a.1), (c, a.2, f, u)) := by
  refine kv_entryX (E := fun a : (Int32 × (Nat → Nat → Int32)) => (some (.int a.1), (c, a.2, f, u))) rfl (Nat.le_of_ble_eq_true rfl) (fun o => ?_)
  unfold fx_D_moves
  show kv_X _ _ _ _ _ 0 [(0, .ref 84), (1, .int p1), (2, .int p2)] [] (c, m, f, u)
  refine kv_aload_n (pc := 0) 0 rfl rfl dk_D_moves_0 ?_
  refine kv_iload_n (pc := 1) 1 rfl rfl dk_D_moves_1 ?_
  refine kv_cV_mZ (pc := 2) (as := [.int p1]) (st := []) ko_D_isLump kc_11 rfl rfl kr_84 kw_1362 (Nat.le_of_ble_eq_true rfl) rfl dk_D_moves_2 (cx_D_isLump (d + 26) p1 c m f u) (fun b1 => ?_)
  refine kv_zif_ne (pc := 5) (tgt := 11) dk_D_moves_5 rfl ?_ ?_
  · refine kv_aload_n (pc := 11) 0 rfl rfl dk_D_moves_11 ?_
    refine kv_iload_n (pc := 12) 2 rfl rfl dk_D_moves_12 ?_
    refine kv_iconst (pc := 13) (v := (0 : Int32)) dk_D_moves_13 kki_0 ?_
    refine kv_cV_mI (pc := 14) (as := [.int p2, .int (0 : Int32)]) (st := []) ko_D_wrongRow kc_11 rfl rfl kr_84 kw_1412 (Nat.le_of_ble_eq_true rfl) rfl dk_D_moves_14 (cx_D_wrongRow (d + 25) p2 (0 : Int32) c m f u) (fun v2 => ?_)
    refine kv_istore_n (pc := 17) (lv' := [(3, .int v2), (0, .ref 84), (1, .int p1), (2, .int p2)]) rfl (Nat.le_of_ble_eq_true rfl) rfl dk_D_moves_17 ?_
    refine kv_iload_n (pc := 18) 0 rfl rfl dk_D_moves_18 ?_
    refine kv_if_eq (pc := 19) (tgt := 28) dk_D_moves_19 rfl ?_ ?_
    · refine kv_aload_n (pc := 28) 1 rfl rfl dk_D_moves_28 ?_
      refine kv_iload_n (pc := 29) 3 rfl rfl dk_D_moves_29 ?_
      refine kv_cV_mIm (pc := 30) (as := [.int p2]) (st := []) ko_D_reads kc_11 rfl rfl kr_84 kw_1537 (Nat.le_of_ble_eq_true rfl) rfl dk_D_moves_30 (cx_D_reads d p2 c m f u) (fun v3 m4 => ?_)
      refine kv_istore (pc := 33) (lv' := [(4, .int v3), (3, .int v2), (0, .ref 84), (1, .int p1), (2, .int p2)]) rfl (Nat.le_of_ble_eq_true rfl) dk_D_moves_33 ?_
      refine kv_iload (pc := 35) 0 rfl dk_D_moves_35 ?_
      refine kv_if_ge (pc := 37) (tgt := 47) dk_D_moves_37 rfl ?_ ?_
      · refine kv_aload_n (pc := 47) 2 rfl rfl dk_D_moves_47 ?_
        refine kv_cV_mIm (pc := 48) (as := []) (st := []) ko_D_oneNow kc_11 rfl rfl kr_84 kw_1578 (Nat.le_of_ble_eq_true rfl) rfl dk_D_moves_48 (cx_D_oneNow d c m4 f u) (fun v5 m6 => ?_)
        refine kv_aload_n (pc := 51) 2 rfl rfl dk_D_moves_51 ?_
        refine kv_aload_n (pc := 52) 2 rfl rfl dk_D_moves_52 ?_
        refine kv_getR (pc := 53) kf_D_25 kr_84 rfl kt_84_5 dk_D_moves_53 ?_
        refine kv_bipush (pc := 56) (v := (100 : Int32)) dk_D_moves_56 kkb_100 ?_
        refine kv_iload_n (pc := 58) 4 rfl rfl dk_D_moves_58 ?_
        refine kv_imul (pc := 59) dk_D_moves_59 ?_
        refine kv_aload_n (pc := 60) 2 rfl rfl dk_D_moves_60 ?_
        refine kv_getR (pc := 61) kf_D_22 kr_84 rfl kt_84_4 dk_D_moves_61 ?_
        refine kv_iload_n (pc := 64) 4 rfl rfl dk_D_moves_64 ?_
        refine kv_guard (fun g7 => ?_)
        refine kv_aldM (pc := 65) kr_89 kn_89 kl_89 g7 rfl dk_D_moves_65 ?_
        refine kv_cV_mIm (pc := 66) (as := [.ref 90, .int ((100 : Int32) * p2), .int (m6 89 p2.toNatClampNeg)]) (st := [.int v5]) ko_D_oneBy kc_11 rfl rfl kr_84 kw_1582 (Nat.le_of_ble_eq_true rfl) rfl dk_D_moves_66 (cx_D_oneBy_84_90 (d + 1) ((100 : Int32) * p2) (m6 89 p2.toNatClampNeg) c m6 f u) (fun v8 m9 => ?_)
        refine kv_isub (pc := 69) dk_D_moves_69 ?_
        exact kv_iret (pc := 70) (fun h => h) rfl dk_D_moves_70
      · refine kv_ldcw (pc := 40) (v := (-1000000000 : Int32)) kw_1610 dk_D_moves_40 ?_
        refine kv_iload (pc := 43) 0 rfl dk_D_moves_43 ?_
        refine kv_iadd (pc := 45) dk_D_moves_45 ?_
        exact kv_iret (pc := 46) (fun h => h) rfl dk_D_moves_46
    · refine kv_ldcw (pc := 22) (v := (-1000000000 : Int32)) kw_1610 dk_D_moves_22 ?_
      refine kv_iload_n (pc := 25) 0 rfl rfl dk_D_moves_25 ?_
      refine kv_iadd (pc := 26) dk_D_moves_26 ?_
      exact kv_iret (pc := 27) (fun h => h) rfl dk_D_moves_27
  · refine kv_ldc (pc := 8) (v := (-1000000001 : Int32)) kw_1354 dk_D_moves_8 ?_
    exact kv_iret (pc := 10) (fun h => h) rfl dk_D_moves_10
theorem dk_K_isChain_0 : decode prog_1_method_43_code 0 = .ok (.iload_n 0, 1) := by decide +kernel
theorem dk_K_isChain_1 : decode prog_1_method_43_code 1 = .ok (.iconst 0, 1) := by decide +kernel
theorem dk_K_isChain_2 : decode prog_1_method_43_code 2 = .ok (.iconst 3, 1) := by decide +kernel
theorem dk_K_isChain_3 : decode prog_1_method_43_code 3 = .ok (.invokestatic 54, 3) := by decide +kernel
theorem dk_K_isChain_6 : decode prog_1_method_43_code 6 = .ok (.ireturn, 1) := by decide +kernel
noncomputable def fx_K_isChain (p0 : Int32) : Option Bool :=
  kv_bind1 (fx_K_isWithin p0 (0 : Int32) (3 : Int32)) (fun b1 =>
  some b1)
set_option maxRecDepth 20000 in
theorem cx_K_isChain (d : Nat) (p0 : Int32) (c : (Nat → Nat → Int32)) (y : (Nat → Nat → Int32) × (Nat → Int64) × (Nat → Int64)) : ∀ a, fx_K_isChain p0 = some a → kv_C kM_K_isChain (d + 1) [.int p0] (c, y) (some (.int (kv_b a)), (c, y)) := by
  refine kv_entryX (E := fun a : Bool => (some (.int (kv_b a)), (c, y))) rfl (Nat.le_of_ble_eq_true rfl) (fun o => ?_)
  unfold fx_K_isChain
  show kv_X _ _ _ _ _ 0 [(0, .int p0)] [] (c, y)
  refine kv_iload_n (pc := 0) 0 rfl rfl dk_K_isChain_0 ?_
  refine kv_iconst (pc := 1) (v := (0 : Int32)) dk_K_isChain_1 kki_0 ?_
  refine kv_iconst (pc := 2) (v := (3 : Int32)) dk_K_isChain_2 kki_3 ?_
  refine kv_cS_cZ (pc := 3) (as := [.int p0, .int (0 : Int32), .int (3 : Int32)]) (st := []) ko_K_isWithin rfl kw_512 (Nat.le_of_ble_eq_true rfl) rfl dk_K_isChain_3 (cx_K_isWithin d p0 (0 : Int32) (3 : Int32) c y) (fun b1 => ?_)
  exact kv_zret (pc := 6) (b := b1) (fun h => h) rfl dk_K_isChain_6
theorem dk_Chains_add_0 : decode prog_2_method_2_code 0 = .ok (.iload_n 1, 1) := by decide +kernel
theorem dk_Chains_add_1 : decode prog_2_method_2_code 1 = .ok (.bipush 12, 2) := by decide +kernel
theorem dk_Chains_add_3 : decode prog_2_method_2_code 3 = .ok (.imul, 1) := by decide +kernel
theorem dk_Chains_add_4 : decode prog_2_method_2_code 4 = .ok (.aload_n 0, 1) := by decide +kernel
theorem dk_Chains_add_5 : decode prog_2_method_2_code 5 = .ok (.getfield 18, 3) := by decide +kernel
theorem dk_Chains_add_8 : decode prog_2_method_2_code 8 = .ok (.iload_n 1, 1) := by decide +kernel
theorem dk_Chains_add_9 : decode prog_2_method_2_code 9 = .ok (.iaload, 1) := by decide +kernel
theorem dk_Chains_add_10 : decode prog_2_method_2_code 10 = .ok (.iadd, 1) := by decide +kernel
theorem dk_Chains_add_11 : decode prog_2_method_2_code 11 = .ok (.istore 5, 2) := by decide +kernel
theorem dk_Chains_add_13 : decode prog_2_method_2_code 13 = .ok (.aload_n 0, 1) := by decide +kernel
theorem dk_Chains_add_14 : decode prog_2_method_2_code 14 = .ok (.getfield 9, 3) := by decide +kernel
theorem dk_Chains_add_17 : decode prog_2_method_2_code 17 = .ok (.iload 5, 2) := by decide +kernel
theorem dk_Chains_add_19 : decode prog_2_method_2_code 19 = .ok (.iload_n 2, 1) := by decide +kernel
theorem dk_Chains_add_20 : decode prog_2_method_2_code 20 = .ok (.iastore, 1) := by decide +kernel
theorem dk_Chains_add_21 : decode prog_2_method_2_code 21 = .ok (.aload_n 0, 1) := by decide +kernel
theorem dk_Chains_add_22 : decode prog_2_method_2_code 22 = .ok (.getfield 15, 3) := by decide +kernel
theorem dk_Chains_add_25 : decode prog_2_method_2_code 25 = .ok (.iload 5, 2) := by decide +kernel
theorem dk_Chains_add_27 : decode prog_2_method_2_code 27 = .ok (.iload_n 3, 1) := by decide +kernel
theorem dk_Chains_add_28 : decode prog_2_method_2_code 28 = .ok (.iastore, 1) := by decide +kernel
theorem dk_Chains_add_29 : decode prog_2_method_2_code 29 = .ok (.aload_n 0, 1) := by decide +kernel
theorem dk_Chains_add_30 : decode prog_2_method_2_code 30 = .ok (.getfield 21, 3) := by decide +kernel
theorem dk_Chains_add_33 : decode prog_2_method_2_code 33 = .ok (.iload_n 1, 1) := by decide +kernel
theorem dk_Chains_add_34 : decode prog_2_method_2_code 34 = .ok (.iload 4, 2) := by decide +kernel
theorem dk_Chains_add_36 : decode prog_2_method_2_code 36 = .ok (.iastore, 1) := by decide +kernel
theorem dk_Chains_add_37 : decode prog_2_method_2_code 37 = .ok (.aload_n 0, 1) := by decide +kernel
theorem dk_Chains_add_38 : decode prog_2_method_2_code 38 = .ok (.getfield 18, 3) := by decide +kernel
theorem dk_Chains_add_41 : decode prog_2_method_2_code 41 = .ok (.iload_n 1, 1) := by decide +kernel
theorem dk_Chains_add_42 : decode prog_2_method_2_code 42 = .ok (.dup2, 1) := by decide +kernel
theorem dk_Chains_add_43 : decode prog_2_method_2_code 43 = .ok (.iaload, 1) := by decide +kernel
theorem dk_Chains_add_44 : decode prog_2_method_2_code 44 = .ok (.iconst 1, 1) := by decide +kernel
theorem dk_Chains_add_45 : decode prog_2_method_2_code 45 = .ok (.iadd, 1) := by decide +kernel
theorem dk_Chains_add_46 : decode prog_2_method_2_code 46 = .ok (.iastore, 1) := by decide +kernel
theorem dk_Chains_add_47 : decode prog_2_method_2_code 47 = .ok (.aload_n 0, 1) := by decide +kernel
theorem dk_Chains_add_48 : decode prog_2_method_2_code 48 = .ok (.getfield 18, 3) := by decide +kernel
theorem dk_Chains_add_51 : decode prog_2_method_2_code 51 = .ok (.iload_n 1, 1) := by decide +kernel
theorem dk_Chains_add_52 : decode prog_2_method_2_code 52 = .ok (.iaload, 1) := by decide +kernel
theorem dk_Chains_add_53 : decode prog_2_method_2_code 53 = .ok (.ireturn, 1) := by decide +kernel
noncomputable def fx_Chains_add (p1 : Int32) (p2 : Int32) (p3 : Int32) (p4 : Int32) (c : (Nat → Nat → Int32)) : Option (Int32 × (Nat → Nat → Int32)) :=
  kv_gd (kv_in p1 4) (
  kv_let ((p1 * (12 : Int32)) + (c 23 p1.toNatClampNeg)) (fun v2 =>
  kv_gd (kv_in v2 48) (
  kv_let (kv_st c 21 v2.toNatClampNeg p2) (fun c4 =>
  kv_let (kv_st c4 22 v2.toNatClampNeg p3) (fun c5 =>
  kv_let (kv_st c5 24 p1.toNatClampNeg p4) (fun c6 =>
  kv_let (kv_st c6 23 p1.toNatClampNeg ((c6 23 p1.toNatClampNeg) + (1 : Int32))) (fun c7 =>
  some ((c7 23 p1.toNatClampNeg), c7))))))))
set_option maxRecDepth 20000 in
theorem cx_Chains_add (d : Nat) (p1 : Int32) (p2 : Int32) (p3 : Int32) (p4 : Int32) (c : (Nat → Nat → Int32)) (y : (Nat → Nat → Int32) × (Nat → Int64) × (Nat → Int64)) : ∀ a, fx_Chains_add p1 p2 p3 p4 c = some a → kv_C kM_Chains_add (d + 0) [.ref 20, .int p1, .int p2, .int p3, .int p4] (c, y) (some (.int a.1), (a.2, y)) := by
  refine kv_entryX (E := fun a : (Int32 × (Nat → Nat → Int32)) => (some (.int a.1), (a.2, y))) rfl (Nat.le_of_ble_eq_true rfl) (fun o => ?_)
  unfold fx_Chains_add
  show kv_X _ _ _ _ _ 0 [(0, .ref 20), (1, .int p1), (2, .int p2), (3, .int p3), (4, .int p4)] [] (c, y)
  refine kv_iload_n (pc := 0) 1 rfl rfl dk_Chains_add_0 ?_
  refine kv_bipush (pc := 1) (v := (12 : Int32)) dk_Chains_add_1 kkb_12 ?_
  refine kv_imul (pc := 3) dk_Chains_add_3 ?_
  refine kv_aload_n (pc := 4) 0 rfl rfl dk_Chains_add_4 ?_
  refine kv_getR (pc := 5) kf_Chains_18 kr_20 rfl kt_20_2 dk_Chains_add_5 ?_
  refine kv_iload_n (pc := 8) 1 rfl rfl dk_Chains_add_8 ?_
  refine kv_guard (fun g1 => ?_)
  refine kv_aldC (pc := 9) kr_23 kn_23 kl_23 g1 rfl dk_Chains_add_9 ?_
  refine kv_iadd (pc := 10) dk_Chains_add_10 ?_
  refine kv_letI (fun v2 => ?_)
  refine kv_istore (pc := 11) (lv' := [(5, .int v2), (0, .ref 20), (1, .int p1), (2, .int p2), (3, .int p3), (4, .int p4)]) rfl (Nat.le_of_ble_eq_true rfl) dk_Chains_add_11 ?_
  refine kv_aload_n (pc := 13) 1 rfl rfl dk_Chains_add_13 ?_
  refine kv_getR (pc := 14) kf_Chains_9 kr_20 rfl kt_20_0 dk_Chains_add_14 ?_
  refine kv_iload (pc := 17) 0 rfl dk_Chains_add_17 ?_
  refine kv_iload_n (pc := 19) 3 rfl rfl dk_Chains_add_19 ?_
  refine kv_guard (fun g3 => ?_)
  refine kv_astC (pc := 20) kr_21 kn_21 kl_21 g3 rfl dk_Chains_add_20 (fun c4 => ?_)
  refine kv_aload_n (pc := 21) 1 rfl rfl dk_Chains_add_21 ?_
  refine kv_getR (pc := 22) kf_Chains_15 kr_20 rfl kt_20_1 dk_Chains_add_22 ?_
  refine kv_iload (pc := 25) 0 rfl dk_Chains_add_25 ?_
  refine kv_iload_n (pc := 27) 4 rfl rfl dk_Chains_add_27 ?_
  refine kv_astC (pc := 28) kr_22 kn_22 kl_22 g3 rfl dk_Chains_add_28 (fun c5 => ?_)
  refine kv_aload_n (pc := 29) 1 rfl rfl dk_Chains_add_29 ?_
  refine kv_getR (pc := 30) kf_Chains_21 kr_20 rfl kt_20_3 dk_Chains_add_30 ?_
  refine kv_iload_n (pc := 33) 2 rfl rfl dk_Chains_add_33 ?_
  refine kv_iload (pc := 34) 5 rfl dk_Chains_add_34 ?_
  refine kv_astC (pc := 36) kr_24 kn_24 kl_24 g1 rfl dk_Chains_add_36 (fun c6 => ?_)
  refine kv_aload_n (pc := 37) 1 rfl rfl dk_Chains_add_37 ?_
  refine kv_getR (pc := 38) kf_Chains_18 kr_20 rfl kt_20_2 dk_Chains_add_38 ?_
  refine kv_iload_n (pc := 41) 2 rfl rfl dk_Chains_add_41 ?_
  refine kv_dup2RI (pc := 42) dk_Chains_add_42 ?_
  refine kv_aldC (pc := 43) kr_23 kn_23 kl_23 g1 rfl dk_Chains_add_43 ?_
  refine kv_iconst (pc := 44) (v := (1 : Int32)) dk_Chains_add_44 kki_1 ?_
  refine kv_iadd (pc := 45) dk_Chains_add_45 ?_
  refine kv_astC (pc := 46) kr_23 kn_23 kl_23 g1 rfl dk_Chains_add_46 (fun c7 => ?_)
  refine kv_aload_n (pc := 47) 1 rfl rfl dk_Chains_add_47 ?_
  refine kv_getR (pc := 48) kf_Chains_18 kr_20 rfl kt_20_2 dk_Chains_add_48 ?_
  refine kv_iload_n (pc := 51) 2 rfl rfl dk_Chains_add_51 ?_
  refine kv_aldC (pc := 52) kr_23 kn_23 kl_23 g1 rfl dk_Chains_add_52 ?_
  exact kv_iret (pc := 53) (fun h => h) rfl dk_Chains_add_53
theorem dk_K_link_0 : decode prog_1_method_24_code 0 = .ok (.iload_n 1, 1) := by decide +kernel
theorem dk_K_link_1 : decode prog_1_method_24_code 1 = .ok (.invokestatic 293, 3) := by decide +kernel
theorem dk_K_link_4 : decode prog_1_method_24_code 4 = .ok (.ifCond .eq 31, 3) := by decide +kernel
theorem dk_K_link_7 : decode prog_1_method_24_code 7 = .ok (.iload_n 2, 1) := by decide +kernel
theorem dk_K_link_8 : decode prog_1_method_24_code 8 = .ok (.sipush (-999), 3) := by decide +kernel
theorem dk_K_link_11 : decode prog_1_method_24_code 11 = .ok (.sipush 999, 3) := by decide +kernel
theorem dk_K_link_14 : decode prog_1_method_24_code 14 = .ok (.invokestatic 54, 3) := by decide +kernel
theorem dk_K_link_17 : decode prog_1_method_24_code 17 = .ok (.ifCond .eq 18, 3) := by decide +kernel
theorem dk_K_link_20 : decode prog_1_method_24_code 20 = .ok (.iload_n 3, 1) := by decide +kernel
theorem dk_K_link_21 : decode prog_1_method_24_code 21 = .ok (.invokestatic 149, 3) := by decide +kernel
theorem dk_K_link_24 : decode prog_1_method_24_code 24 = .ok (.ifCond .eq 11, 3) := by decide +kernel
theorem dk_K_link_27 : decode prog_1_method_24_code 27 = .ok (.iload 4, 2) := by decide +kernel
theorem dk_K_link_29 : decode prog_1_method_24_code 29 = .ok (.invokestatic 135, 3) := by decide +kernel
theorem dk_K_link_32 : decode prog_1_method_24_code 32 = .ok (.ifCond .ne 5, 3) := by decide +kernel
theorem dk_K_link_35 : decode prog_1_method_24_code 35 = .ok (.iconst (-1), 1) := by decide +kernel
theorem dk_K_link_36 : decode prog_1_method_24_code 36 = .ok (.ireturn, 1) := by decide +kernel
theorem dk_K_link_37 : decode prog_1_method_24_code 37 = .ok (.aload_n 0, 1) := by decide +kernel
theorem dk_K_link_38 : decode prog_1_method_24_code 38 = .ok (.getfield 10, 3) := by decide +kernel
theorem dk_K_link_41 : decode prog_1_method_24_code 41 = .ok (.getfield 296, 3) := by decide +kernel
theorem dk_K_link_44 : decode prog_1_method_24_code 44 = .ok (.getfield 300, 3) := by decide +kernel
theorem dk_K_link_47 : decode prog_1_method_24_code 47 = .ok (.iload_n 1, 1) := by decide +kernel
theorem dk_K_link_48 : decode prog_1_method_24_code 48 = .ok (.iaload, 1) := by decide +kernel
theorem dk_K_link_49 : decode prog_1_method_24_code 49 = .ok (.bipush 12, 2) := by decide +kernel
theorem dk_K_link_51 : decode prog_1_method_24_code 51 = .ok (.if_icmp .lt 6, 3) := by decide +kernel
theorem dk_K_link_54 : decode prog_1_method_24_code 54 = .ok (.bipush (-2), 2) := by decide +kernel
theorem dk_K_link_56 : decode prog_1_method_24_code 56 = .ok (.ireturn, 1) := by decide +kernel
theorem dk_K_link_57 : decode prog_1_method_24_code 57 = .ok (.aload_n 0, 1) := by decide +kernel
theorem dk_K_link_58 : decode prog_1_method_24_code 58 = .ok (.getfield 10, 3) := by decide +kernel
theorem dk_K_link_61 : decode prog_1_method_24_code 61 = .ok (.getfield 296, 3) := by decide +kernel
theorem dk_K_link_64 : decode prog_1_method_24_code 64 = .ok (.iload_n 1, 1) := by decide +kernel
theorem dk_K_link_65 : decode prog_1_method_24_code 65 = .ok (.iload_n 2, 1) := by decide +kernel
theorem dk_K_link_66 : decode prog_1_method_24_code 66 = .ok (.iload_n 3, 1) := by decide +kernel
theorem dk_K_link_67 : decode prog_1_method_24_code 67 = .ok (.iload 4, 2) := by decide +kernel
theorem dk_K_link_69 : decode prog_1_method_24_code 69 = .ok (.invokevirtual 304, 3) := by decide +kernel
theorem dk_K_link_72 : decode prog_1_method_24_code 72 = .ok (.ireturn, 1) := by decide +kernel
noncomputable def fx_K_link (p1 : Int32) (p2 : Int32) (p3 : Int32) (p4 : Int32) (c : (Nat → Nat → Int32)) : Option (Int32 × (Nat → Nat → Int32)) :=
  kv_bind1 (fx_K_isChain p1) (fun b1 =>
  if b1 = true then
    kv_bind1 (fx_K_isWithin p2 (-999 : Int32) (999 : Int32)) (fun b2 =>
    if b2 = true then
      kv_bind1 (fx_K_isDoubt p3) (fun b3 =>
      if b3 = true then
        kv_bind1 (fx_K_isYear p4) (fun b4 =>
        if b4 = true then
          kv_gd (kv_in p1 4) (
          if (c 23 p1.toNatClampNeg) < (12 : Int32) then
            kv_bind2 (fx_Chains_add p1 p2 p3 p4 c) (fun v6 c7 =>
            some (v6, c7))
          else
            some ((-2 : Int32), c))
        else
          some ((-1 : Int32), c))
      else
        some ((-1 : Int32), c))
    else
      some ((-1 : Int32), c))
  else
    some ((-1 : Int32), c))
set_option maxRecDepth 20000 in
theorem cx_K_link (d : Nat) (p1 : Int32) (p2 : Int32) (p3 : Int32) (p4 : Int32) (c : (Nat → Nat → Int32)) (y : (Nat → Nat → Int32) × (Nat → Int64) × (Nat → Int64)) : ∀ a, fx_K_link p1 p2 p3 p4 c = some a → kv_C kM_K_link (d + 2) [.ref 0, .int p1, .int p2, .int p3, .int p4] (c, y) (some (.int a.1), (a.2, y)) := by
  refine kv_entryX (E := fun a : (Int32 × (Nat → Nat → Int32)) => (some (.int a.1), (a.2, y))) rfl (Nat.le_of_ble_eq_true rfl) (fun o => ?_)
  unfold fx_K_link
  show kv_X _ _ _ _ _ 0 [(0, .ref 0), (1, .int p1), (2, .int p2), (3, .int p3), (4, .int p4)] [] (c, y)
  refine kv_iload_n (pc := 0) 1 rfl rfl dk_K_link_0 ?_
  refine kv_cS_cZ (pc := 1) (as := [.int p1]) (st := []) ko_K_isChain rfl kw_924 (Nat.le_of_ble_eq_true rfl) rfl dk_K_link_1 (cx_K_isChain d p1 c y) (fun b1 => ?_)
  refine kv_zif_eq (pc := 4) (tgt := 35) dk_K_link_4 rfl ?_ ?_
  · refine kv_iconst (pc := 35) (v := (-1 : Int32)) dk_K_link_35 kki_m1 ?_
    exact kv_iret (pc := 36) (fun h => h) rfl dk_K_link_36
  · refine kv_iload_n (pc := 7) 2 rfl rfl dk_K_link_7 ?_
    refine kv_sipush (pc := 8) (v := (-999 : Int32)) dk_K_link_8 kks_m999 ?_
    refine kv_sipush (pc := 11) (v := (999 : Int32)) dk_K_link_11 kks_999 ?_
    refine kv_cS_cZ (pc := 14) (as := [.int p2, .int (-999 : Int32), .int (999 : Int32)]) (st := []) ko_K_isWithin rfl kw_512 (Nat.le_of_ble_eq_true rfl) rfl dk_K_link_14 (cx_K_isWithin (d + 1) p2 (-999 : Int32) (999 : Int32) c y) (fun b2 => ?_)
    refine kv_zif_eq (pc := 17) (tgt := 35) dk_K_link_17 rfl ?_ ?_
    · refine kv_iconst (pc := 35) (v := (-1 : Int32)) dk_K_link_35 kki_m1 ?_
      exact kv_iret (pc := 36) (fun h => h) rfl dk_K_link_36
    · refine kv_iload_n (pc := 20) 3 rfl rfl dk_K_link_20 ?_
      refine kv_cS_cZ (pc := 21) (as := [.int p3]) (st := []) ko_K_isDoubt rfl kw_594 (Nat.le_of_ble_eq_true rfl) rfl dk_K_link_21 (cx_K_isDoubt d p3 c y) (fun b3 => ?_)
      refine kv_zif_eq (pc := 24) (tgt := 35) dk_K_link_24 rfl ?_ ?_
      · refine kv_iconst (pc := 35) (v := (-1 : Int32)) dk_K_link_35 kki_m1 ?_
        exact kv_iret (pc := 36) (fun h => h) rfl dk_K_link_36
      · refine kv_iload (pc := 27) 4 rfl dk_K_link_27 ?_
        refine kv_cS_cZ (pc := 29) (as := [.int p4]) (st := []) ko_K_isYear rfl kw_577 (Nat.le_of_ble_eq_true rfl) rfl dk_K_link_29 (cx_K_isYear d p4 c y) (fun b4 => ?_)
        refine kv_zif_ne (pc := 32) (tgt := 37) dk_K_link_32 rfl ?_ ?_
        · refine kv_aload_n (pc := 37) 0 rfl rfl dk_K_link_37 ?_
          refine kv_getR (pc := 38) kf_K_10 kr_0 rfl kt_0_0 dk_K_link_38 ?_
          refine kv_getR (pc := 41) kf_K_296 kr_1 rfl kt_1_3 dk_K_link_41 ?_
          refine kv_getR (pc := 44) kf_K_300 kr_20 rfl kt_20_2 dk_K_link_44 ?_
          refine kv_iload_n (pc := 47) 1 rfl rfl dk_K_link_47 ?_
          refine kv_guard (fun g5 => ?_)
          refine kv_aldC (pc := 48) kr_23 kn_23 kl_23 g5 rfl dk_K_link_48 ?_
          refine kv_bipush (pc := 49) (v := (12 : Int32)) dk_K_link_49 kkb_12 ?_
          refine kv_icmp_lt (pc := 51) (tgt := 57) dk_K_link_51 rfl ?_ ?_
          · refine kv_aload_n (pc := 57) 0 rfl rfl dk_K_link_57 ?_
            refine kv_getR (pc := 58) kf_K_10 kr_0 rfl kt_0_0 dk_K_link_58 ?_
            refine kv_getR (pc := 61) kf_K_296 kr_1 rfl kt_1_3 dk_K_link_61 ?_
            refine kv_iload_n (pc := 64) 1 rfl rfl dk_K_link_64 ?_
            refine kv_iload_n (pc := 65) 2 rfl rfl dk_K_link_65 ?_
            refine kv_iload_n (pc := 66) 3 rfl rfl dk_K_link_66 ?_
            refine kv_iload (pc := 67) 4 rfl dk_K_link_67 ?_
            refine kv_cV_cIc (pc := 69) (as := [.int p1, .int p2, .int p3, .int p4]) (st := []) ko_Chains_add kc_0 rfl rfl kr_20 kw_927 (Nat.le_of_ble_eq_true rfl) rfl dk_K_link_69 (cx_Chains_add (d + 1) p1 p2 p3 p4 c y) (fun v6 c7 => ?_)
            exact kv_iret (pc := 72) (fun h => h) rfl dk_K_link_72
          · refine kv_bipush (pc := 54) (v := (-2 : Int32)) dk_K_link_54 kkb_m2 ?_
            exact kv_iret (pc := 56) (fun h => h) rfl dk_K_link_56
        · refine kv_iconst (pc := 35) (v := (-1 : Int32)) dk_K_link_35 kki_m1 ?_
          exact kv_iret (pc := 36) (fun h => h) rfl dk_K_link_36
theorem dk_D_isChain_0 : decode prog_13_method_70_code 0 = .ok (.iload_n 0, 1) := by decide +kernel
theorem dk_D_isChain_1 : decode prog_13_method_70_code 1 = .ok (.i2l, 1) := by decide +kernel
theorem dk_D_isChain_2 : decode prog_13_method_70_code 2 = .ok (.lconst 0, 1) := by decide +kernel
theorem dk_D_isChain_3 : decode prog_13_method_70_code 3 = .ok (.ldc2_w 92, 3) := by decide +kernel
theorem dk_D_isChain_6 : decode prog_13_method_70_code 6 = .ok (.invokestatic 60, 3) := by decide +kernel
theorem dk_D_isChain_9 : decode prog_13_method_70_code 9 = .ok (.ireturn, 1) := by decide +kernel
noncomputable def fx_D_isChain (p0 : Int32) : Option Bool :=
  kv_bind1 (fx_D_isIn p0.toInt64 (0 : Int64) (3 : Int64)) (fun b1 =>
  some b1)
set_option maxRecDepth 20000 in
theorem cx_D_isChain (d : Nat) (p0 : Int32) (c : (Nat → Nat → Int32)) (m : (Nat → Nat → Int32)) (f : (Nat → Int64)) (u : (Nat → Int64)) : ∀ a, fx_D_isChain p0 = some a → kv_C kM_D_isChain (d + 1) [.int p0] (c, m, f, u) (some (.int (kv_b a)), (c, m, f, u)) := by
  refine kv_entryX (E := fun a : Bool => (some (.int (kv_b a)), (c, m, f, u))) rfl (Nat.le_of_ble_eq_true rfl) (fun o => ?_)
  unfold fx_D_isChain
  show kv_X _ _ _ _ _ 0 [(0, .int p0)] [] (c, m, f, u)
  refine kv_iload_n (pc := 0) 0 rfl rfl dk_D_isChain_0 ?_
  refine kv_i2l (pc := 1) dk_D_isChain_1 ?_
  refine kv_lconst (pc := 2) (v := (0 : Int64)) dk_D_isChain_2 kkl_0 ?_
  refine kv_ldc2 (pc := 3) (v := (3 : Int64)) kw_1355 dk_D_isChain_3 ?_
  refine kv_cS_mZ (pc := 6) (as := [.long p0.toInt64, .long (0 : Int64), .long (3 : Int64)]) (st := []) ko_D_isIn rfl kw_1330 (Nat.le_of_ble_eq_true rfl) rfl dk_D_isChain_6 (cx_D_isIn d p0.toInt64 (0 : Int64) (3 : Int64) c m f u) (fun b1 => ?_)
  exact kv_zret (pc := 9) (b := b1) (fun h => h) rfl dk_D_isChain_9
theorem dk_D_links_0 : decode prog_13_method_69_code 0 = .ok (.aload_n 0, 1) := by decide +kernel
theorem dk_D_links_1 : decode prog_13_method_69_code 1 = .ok (.getfield 9, 3) := by decide +kernel
theorem dk_D_links_4 : decode prog_13_method_69_code 4 = .ok (.sipush 340, 3) := by decide +kernel
theorem dk_D_links_7 : decode prog_13_method_69_code 7 = .ok (.bipush 26, 2) := by decide +kernel
theorem dk_D_links_9 : decode prog_13_method_69_code 9 = .ok (.iload_n 1, 1) := by decide +kernel
theorem dk_D_links_10 : decode prog_13_method_69_code 10 = .ok (.imul, 1) := by decide +kernel
theorem dk_D_links_11 : decode prog_13_method_69_code 11 = .ok (.iadd, 1) := by decide +kernel
theorem dk_D_links_12 : decode prog_13_method_69_code 12 = .ok (.iaload, 1) := by decide +kernel
theorem dk_D_links_13 : decode prog_13_method_69_code 13 = .ok (.ireturn, 1) := by decide +kernel
noncomputable def fx_D_links (p1 : Int32) (m : (Nat → Nat → Int32)) : Option Int32 :=
  kv_gd (kv_in ((340 : Int32) + ((26 : Int32) * p1)) 444) (
  some (m 85 ((340 : Int32) + ((26 : Int32) * p1)).toNatClampNeg))
set_option maxRecDepth 20000 in
theorem cx_D_links (d : Nat) (p1 : Int32) (c : (Nat → Nat → Int32)) (m : (Nat → Nat → Int32)) (f : (Nat → Int64)) (u : (Nat → Int64)) : ∀ a, fx_D_links p1 m = some a → kv_C kM_D_links (d + 0) [.ref 84, .int p1] (c, m, f, u) (some (.int a), (c, m, f, u)) := by
  refine kv_entryX (E := fun a : Int32 => (some (.int a), (c, m, f, u))) rfl (Nat.le_of_ble_eq_true rfl) (fun o => ?_)
  unfold fx_D_links
  show kv_X _ _ _ _ _ 0 [(0, .ref 84), (1, .int p1)] [] (c, m, f, u)
  refine kv_aload_n (pc := 0) 0 rfl rfl dk_D_links_0 ?_
  refine kv_getR (pc := 1) kf_D_9 kr_84 rfl kt_84_0 dk_D_links_1 ?_
  refine kv_sipush (pc := 4) (v := (340 : Int32)) dk_D_links_4 kks_340 ?_
  refine kv_bipush (pc := 7) (v := (26 : Int32)) dk_D_links_7 kkb_26 ?_
  refine kv_iload_n (pc := 9) 1 rfl rfl dk_D_links_9 ?_
  refine kv_imul (pc := 10) dk_D_links_10 ?_
  refine kv_iadd (pc := 11) dk_D_links_11 ?_
  refine kv_guard (fun g1 => ?_)
  refine kv_aldM (pc := 12) kr_85 kn_85 kl_85 g1 rfl dk_D_links_12 ?_
  exact kv_iret (pc := 13) (fun h => h) rfl dk_D_links_13
theorem dk_D_link_0 : decode prog_13_method_71_code 0 = .ok (.iload_n 1, 1) := by decide +kernel
theorem dk_D_link_1 : decode prog_13_method_71_code 1 = .ok (.invokestatic 278, 3) := by decide +kernel
theorem dk_D_link_4 : decode prog_13_method_71_code 4 = .ok (.ifCond .eq 37, 3) := by decide +kernel
theorem dk_D_link_7 : decode prog_13_method_71_code 7 = .ok (.iload_n 2, 1) := by decide +kernel
theorem dk_D_link_8 : decode prog_13_method_71_code 8 = .ok (.i2l, 1) := by decide +kernel
theorem dk_D_link_9 : decode prog_13_method_71_code 9 = .ok (.ldc2_w 281, 3) := by decide +kernel
theorem dk_D_link_12 : decode prog_13_method_71_code 12 = .ok (.ldc2_w 283, 3) := by decide +kernel
theorem dk_D_link_15 : decode prog_13_method_71_code 15 = .ok (.invokestatic 60, 3) := by decide +kernel
theorem dk_D_link_18 : decode prog_13_method_71_code 18 = .ok (.ifCond .eq 23, 3) := by decide +kernel
theorem dk_D_link_21 : decode prog_13_method_71_code 21 = .ok (.iload_n 3, 1) := by decide +kernel
theorem dk_D_link_22 : decode prog_13_method_71_code 22 = .ok (.i2l, 1) := by decide +kernel
theorem dk_D_link_23 : decode prog_13_method_71_code 23 = .ok (.lconst 0, 1) := by decide +kernel
theorem dk_D_link_24 : decode prog_13_method_71_code 24 = .ok (.ldc2_w 94, 3) := by decide +kernel
theorem dk_D_link_27 : decode prog_13_method_71_code 27 = .ok (.invokestatic 60, 3) := by decide +kernel
theorem dk_D_link_30 : decode prog_13_method_71_code 30 = .ok (.ifCond .eq 11, 3) := by decide +kernel
theorem dk_D_link_33 : decode prog_13_method_71_code 33 = .ok (.iload 4, 2) := by decide +kernel
theorem dk_D_link_35 : decode prog_13_method_71_code 35 = .ok (.invokestatic 110, 3) := by decide +kernel
theorem dk_D_link_38 : decode prog_13_method_71_code 38 = .ok (.ifCond .ne 5, 3) := by decide +kernel
theorem dk_D_link_41 : decode prog_13_method_71_code 41 = .ok (.iconst (-1), 1) := by decide +kernel
theorem dk_D_link_42 : decode prog_13_method_71_code 42 = .ok (.ireturn, 1) := by decide +kernel
theorem dk_D_link_43 : decode prog_13_method_71_code 43 = .ok (.aload_n 0, 1) := by decide +kernel
theorem dk_D_link_44 : decode prog_13_method_71_code 44 = .ok (.iload_n 1, 1) := by decide +kernel
theorem dk_D_link_45 : decode prog_13_method_71_code 45 = .ok (.invokevirtual 285, 3) := by decide +kernel
theorem dk_D_link_48 : decode prog_13_method_71_code 48 = .ok (.bipush 12, 2) := by decide +kernel
theorem dk_D_link_50 : decode prog_13_method_71_code 50 = .ok (.if_icmp .ne 6, 3) := by decide +kernel
theorem dk_D_link_53 : decode prog_13_method_71_code 53 = .ok (.bipush (-2), 2) := by decide +kernel
theorem dk_D_link_55 : decode prog_13_method_71_code 55 = .ok (.ireturn, 1) := by decide +kernel
theorem dk_D_link_56 : decode prog_13_method_71_code 56 = .ok (.sipush 340, 3) := by decide +kernel
theorem dk_D_link_59 : decode prog_13_method_71_code 59 = .ok (.bipush 26, 2) := by decide +kernel
theorem dk_D_link_61 : decode prog_13_method_71_code 61 = .ok (.iload_n 1, 1) := by decide +kernel
theorem dk_D_link_62 : decode prog_13_method_71_code 62 = .ok (.imul, 1) := by decide +kernel
theorem dk_D_link_63 : decode prog_13_method_71_code 63 = .ok (.iadd, 1) := by decide +kernel
theorem dk_D_link_64 : decode prog_13_method_71_code 64 = .ok (.istore 5, 2) := by decide +kernel
theorem dk_D_link_66 : decode prog_13_method_71_code 66 = .ok (.aload_n 0, 1) := by decide +kernel
theorem dk_D_link_67 : decode prog_13_method_71_code 67 = .ok (.getfield 9, 3) := by decide +kernel
theorem dk_D_link_70 : decode prog_13_method_71_code 70 = .ok (.iload 5, 2) := by decide +kernel
theorem dk_D_link_72 : decode prog_13_method_71_code 72 = .ok (.iconst 2, 1) := by decide +kernel
theorem dk_D_link_73 : decode prog_13_method_71_code 73 = .ok (.iadd, 1) := by decide +kernel
theorem dk_D_link_74 : decode prog_13_method_71_code 74 = .ok (.iconst 2, 1) := by decide +kernel
theorem dk_D_link_75 : decode prog_13_method_71_code 75 = .ok (.aload_n 0, 1) := by decide +kernel
theorem dk_D_link_76 : decode prog_13_method_71_code 76 = .ok (.iload_n 1, 1) := by decide +kernel
theorem dk_D_link_77 : decode prog_13_method_71_code 77 = .ok (.invokevirtual 285, 3) := by decide +kernel
theorem dk_D_link_80 : decode prog_13_method_71_code 80 = .ok (.imul, 1) := by decide +kernel
theorem dk_D_link_81 : decode prog_13_method_71_code 81 = .ok (.iadd, 1) := by decide +kernel
theorem dk_D_link_82 : decode prog_13_method_71_code 82 = .ok (.iload_n 2, 1) := by decide +kernel
theorem dk_D_link_83 : decode prog_13_method_71_code 83 = .ok (.iastore, 1) := by decide +kernel
theorem dk_D_link_84 : decode prog_13_method_71_code 84 = .ok (.aload_n 0, 1) := by decide +kernel
theorem dk_D_link_85 : decode prog_13_method_71_code 85 = .ok (.getfield 9, 3) := by decide +kernel
theorem dk_D_link_88 : decode prog_13_method_71_code 88 = .ok (.iload 5, 2) := by decide +kernel
theorem dk_D_link_90 : decode prog_13_method_71_code 90 = .ok (.iconst 3, 1) := by decide +kernel
theorem dk_D_link_91 : decode prog_13_method_71_code 91 = .ok (.iadd, 1) := by decide +kernel
theorem dk_D_link_92 : decode prog_13_method_71_code 92 = .ok (.iconst 2, 1) := by decide +kernel
theorem dk_D_link_93 : decode prog_13_method_71_code 93 = .ok (.aload_n 0, 1) := by decide +kernel
theorem dk_D_link_94 : decode prog_13_method_71_code 94 = .ok (.iload_n 1, 1) := by decide +kernel
theorem dk_D_link_95 : decode prog_13_method_71_code 95 = .ok (.invokevirtual 285, 3) := by decide +kernel
theorem dk_D_link_98 : decode prog_13_method_71_code 98 = .ok (.imul, 1) := by decide +kernel
theorem dk_D_link_99 : decode prog_13_method_71_code 99 = .ok (.iadd, 1) := by decide +kernel
theorem dk_D_link_100 : decode prog_13_method_71_code 100 = .ok (.iload_n 3, 1) := by decide +kernel
theorem dk_D_link_101 : decode prog_13_method_71_code 101 = .ok (.iastore, 1) := by decide +kernel
theorem dk_D_link_102 : decode prog_13_method_71_code 102 = .ok (.aload_n 0, 1) := by decide +kernel
theorem dk_D_link_103 : decode prog_13_method_71_code 103 = .ok (.getfield 9, 3) := by decide +kernel
theorem dk_D_link_106 : decode prog_13_method_71_code 106 = .ok (.iload 5, 2) := by decide +kernel
theorem dk_D_link_108 : decode prog_13_method_71_code 108 = .ok (.iconst 1, 1) := by decide +kernel
theorem dk_D_link_109 : decode prog_13_method_71_code 109 = .ok (.iadd, 1) := by decide +kernel
theorem dk_D_link_110 : decode prog_13_method_71_code 110 = .ok (.iload 4, 2) := by decide +kernel
theorem dk_D_link_112 : decode prog_13_method_71_code 112 = .ok (.iastore, 1) := by decide +kernel
theorem dk_D_link_113 : decode prog_13_method_71_code 113 = .ok (.aload_n 0, 1) := by decide +kernel
theorem dk_D_link_114 : decode prog_13_method_71_code 114 = .ok (.getfield 9, 3) := by decide +kernel
theorem dk_D_link_117 : decode prog_13_method_71_code 117 = .ok (.iload 5, 2) := by decide +kernel
theorem dk_D_link_119 : decode prog_13_method_71_code 119 = .ok (.dup2, 1) := by decide +kernel
theorem dk_D_link_120 : decode prog_13_method_71_code 120 = .ok (.iaload, 1) := by decide +kernel
theorem dk_D_link_121 : decode prog_13_method_71_code 121 = .ok (.iconst 1, 1) := by decide +kernel
theorem dk_D_link_122 : decode prog_13_method_71_code 122 = .ok (.iadd, 1) := by decide +kernel
theorem dk_D_link_123 : decode prog_13_method_71_code 123 = .ok (.iastore, 1) := by decide +kernel
theorem dk_D_link_124 : decode prog_13_method_71_code 124 = .ok (.aload_n 0, 1) := by decide +kernel
theorem dk_D_link_125 : decode prog_13_method_71_code 125 = .ok (.getfield 9, 3) := by decide +kernel
theorem dk_D_link_128 : decode prog_13_method_71_code 128 = .ok (.iload 5, 2) := by decide +kernel
theorem dk_D_link_130 : decode prog_13_method_71_code 130 = .ok (.iaload, 1) := by decide +kernel
theorem dk_D_link_131 : decode prog_13_method_71_code 131 = .ok (.ireturn, 1) := by decide +kernel
noncomputable def fx_D_link (p1 : Int32) (p2 : Int32) (p3 : Int32) (p4 : Int32) (m : (Nat → Nat → Int32)) : Option (Int32 × (Nat → Nat → Int32)) :=
  kv_bind1 (fx_D_isChain p1) (fun b1 =>
  if b1 = true then
    kv_bind1 (fx_D_isIn p2.toInt64 (-999 : Int64) (999 : Int64)) (fun b2 =>
    if b2 = true then
      kv_bind1 (fx_D_isIn p3.toInt64 (0 : Int64) (99 : Int64)) (fun b3 =>
      if b3 = true then
        kv_bind1 (fx_D_isYear p4) (fun b4 =>
        if b4 = true then
          kv_bind1 (fx_D_links p1 m) (fun v5 =>
          if v5 = (12 : Int32) then
            some ((-2 : Int32), m)
          else
            kv_let ((340 : Int32) + ((26 : Int32) * p1)) (fun v6 =>
            kv_bind1 (fx_D_links p1 m) (fun v7 =>
            kv_gd (kv_in ((v6 + (2 : Int32)) + ((2 : Int32) * v7)) 444) (
            kv_let (kv_st m 85 ((v6 + (2 : Int32)) + ((2 : Int32) * v7)).toNatClampNeg p2) (fun m9 =>
            kv_bind1 (fx_D_links p1 m9) (fun v10 =>
            kv_gd (kv_in ((v6 + (3 : Int32)) + ((2 : Int32) * v10)) 444) (
            kv_let (kv_st m9 85 ((v6 + (3 : Int32)) + ((2 : Int32) * v10)).toNatClampNeg p3) (fun m12 =>
            kv_gd (kv_in (v6 + (1 : Int32)) 444) (
            kv_let (kv_st m12 85 (v6 + (1 : Int32)).toNatClampNeg p4) (fun m14 =>
            kv_gd (kv_in v6 444) (
            kv_let (kv_st m14 85 v6.toNatClampNeg ((m14 85 v6.toNatClampNeg) + (1 : Int32))) (fun m16 =>
            some ((m16 85 v6.toNatClampNeg), m16)))))))))))))
        else
          some ((-1 : Int32), m))
      else
        some ((-1 : Int32), m))
    else
      some ((-1 : Int32), m))
  else
    some ((-1 : Int32), m))
set_option maxRecDepth 20000 in
theorem cx_D_link (d : Nat) (p1 : Int32) (p2 : Int32) (p3 : Int32) (p4 : Int32) (c : (Nat → Nat → Int32)) (m : (Nat → Nat → Int32)) (f : (Nat → Int64)) (u : (Nat → Int64)) : ∀ a, fx_D_link p1 p2 p3 p4 m = some a → kv_C kM_D_link (d + 2) [.ref 84, .int p1, .int p2, .int p3, .int p4] (c, m, f, u) (some (.int a.1), (c, a.2, f, u)) := by
  refine kv_entryX (E := fun a : (Int32 × (Nat → Nat → Int32)) => (some (.int a.1), (c, a.2, f, u))) rfl (Nat.le_of_ble_eq_true rfl) (fun o => ?_)
  unfold fx_D_link
  show kv_X _ _ _ _ _ 0 [(0, .ref 84), (1, .int p1), (2, .int p2), (3, .int p3), (4, .int p4)] [] (c, m, f, u)
  refine kv_iload_n (pc := 0) 1 rfl rfl dk_D_link_0 ?_
  refine kv_cS_mZ (pc := 1) (as := [.int p1]) (st := []) ko_D_isChain rfl kw_1615 (Nat.le_of_ble_eq_true rfl) rfl dk_D_link_1 (cx_D_isChain d p1 c m f u) (fun b1 => ?_)
  refine kv_zif_eq (pc := 4) (tgt := 41) dk_D_link_4 rfl ?_ ?_
  · refine kv_iconst (pc := 41) (v := (-1 : Int32)) dk_D_link_41 kki_m1 ?_
    exact kv_iret (pc := 42) (fun h => h) rfl dk_D_link_42
  · refine kv_iload_n (pc := 7) 2 rfl rfl dk_D_link_7 ?_
    refine kv_i2l (pc := 8) dk_D_link_8 ?_
    refine kv_ldc2 (pc := 9) (v := (-999 : Int64)) kw_1618 dk_D_link_9 ?_
    refine kv_ldc2 (pc := 12) (v := (999 : Int64)) kw_1619 dk_D_link_12 ?_
    refine kv_cS_mZ (pc := 15) (as := [.long p2.toInt64, .long (-999 : Int64), .long (999 : Int64)]) (st := []) ko_D_isIn rfl kw_1330 (Nat.le_of_ble_eq_true rfl) rfl dk_D_link_15 (cx_D_isIn (d + 1) p2.toInt64 (-999 : Int64) (999 : Int64) c m f u) (fun b2 => ?_)
    refine kv_zif_eq (pc := 18) (tgt := 41) dk_D_link_18 rfl ?_ ?_
    · refine kv_iconst (pc := 41) (v := (-1 : Int32)) dk_D_link_41 kki_m1 ?_
      exact kv_iret (pc := 42) (fun h => h) rfl dk_D_link_42
    · refine kv_iload_n (pc := 21) 3 rfl rfl dk_D_link_21 ?_
      refine kv_i2l (pc := 22) dk_D_link_22 ?_
      refine kv_lconst (pc := 23) (v := (0 : Int64)) dk_D_link_23 kkl_0 ?_
      refine kv_ldc2 (pc := 24) (v := (99 : Int64)) kw_1356 dk_D_link_24 ?_
      refine kv_cS_mZ (pc := 27) (as := [.long p3.toInt64, .long (0 : Int64), .long (99 : Int64)]) (st := []) ko_D_isIn rfl kw_1330 (Nat.le_of_ble_eq_true rfl) rfl dk_D_link_27 (cx_D_isIn (d + 1) p3.toInt64 (0 : Int64) (99 : Int64) c m f u) (fun b3 => ?_)
      refine kv_zif_eq (pc := 30) (tgt := 41) dk_D_link_30 rfl ?_ ?_
      · refine kv_iconst (pc := 41) (v := (-1 : Int32)) dk_D_link_41 kki_m1 ?_
        exact kv_iret (pc := 42) (fun h => h) rfl dk_D_link_42
      · refine kv_iload (pc := 33) 4 rfl dk_D_link_33 ?_
        refine kv_cS_mZ (pc := 35) (as := [.int p4]) (st := []) ko_D_isYear rfl kw_1385 (Nat.le_of_ble_eq_true rfl) rfl dk_D_link_35 (cx_D_isYear d p4 c m f u) (fun b4 => ?_)
        refine kv_zif_ne (pc := 38) (tgt := 43) dk_D_link_38 rfl ?_ ?_
        · refine kv_aload_n (pc := 43) 0 rfl rfl dk_D_link_43 ?_
          refine kv_iload_n (pc := 44) 1 rfl rfl dk_D_link_44 ?_
          refine kv_cV_mI (pc := 45) (as := [.int p1]) (st := []) ko_D_links kc_11 rfl rfl kr_84 kw_1620 (Nat.le_of_ble_eq_true rfl) rfl dk_D_link_45 (cx_D_links (d + 1) p1 c m f u) (fun v5 => ?_)
          refine kv_bipush (pc := 48) (v := (12 : Int32)) dk_D_link_48 kkb_12 ?_
          refine kv_icmp_ne (pc := 50) (tgt := 56) dk_D_link_50 rfl ?_ ?_
          · refine kv_sipush (pc := 56) (v := (340 : Int32)) dk_D_link_56 kks_340 ?_
            refine kv_bipush (pc := 59) (v := (26 : Int32)) dk_D_link_59 kkb_26 ?_
            refine kv_iload_n (pc := 61) 1 rfl rfl dk_D_link_61 ?_
            refine kv_imul (pc := 62) dk_D_link_62 ?_
            refine kv_iadd (pc := 63) dk_D_link_63 ?_
            refine kv_letI (fun v6 => ?_)
            refine kv_istore (pc := 64) (lv' := [(5, .int v6), (0, .ref 84), (1, .int p1), (2, .int p2), (3, .int p3), (4, .int p4)]) rfl (Nat.le_of_ble_eq_true rfl) dk_D_link_64 ?_
            refine kv_aload_n (pc := 66) 1 rfl rfl dk_D_link_66 ?_
            refine kv_getR (pc := 67) kf_D_9 kr_84 rfl kt_84_0 dk_D_link_67 ?_
            refine kv_iload (pc := 70) 0 rfl dk_D_link_70 ?_
            refine kv_iconst (pc := 72) (v := (2 : Int32)) dk_D_link_72 kki_2 ?_
            refine kv_iadd (pc := 73) dk_D_link_73 ?_
            refine kv_iconst (pc := 74) (v := (2 : Int32)) dk_D_link_74 kki_2 ?_
            refine kv_aload_n (pc := 75) 1 rfl rfl dk_D_link_75 ?_
            refine kv_iload_n (pc := 76) 2 rfl rfl dk_D_link_76 ?_
            refine kv_cV_mI (pc := 77) (as := [.int p1]) (st := [.int (2 : Int32), .int (v6 + (2 : Int32)), .ref 85]) ko_D_links kc_11 rfl rfl kr_84 kw_1620 (Nat.le_of_ble_eq_true rfl) rfl dk_D_link_77 (cx_D_links (d + 1) p1 c m f u) (fun v7 => ?_)
            refine kv_imul (pc := 80) dk_D_link_80 ?_
            refine kv_iadd (pc := 81) dk_D_link_81 ?_
            refine kv_iload_n (pc := 82) 3 rfl rfl dk_D_link_82 ?_
            refine kv_guard (fun g8 => ?_)
            refine kv_astM (pc := 83) kr_85 kn_85 kl_85 g8 rfl dk_D_link_83 (fun m9 => ?_)
            refine kv_aload_n (pc := 84) 1 rfl rfl dk_D_link_84 ?_
            refine kv_getR (pc := 85) kf_D_9 kr_84 rfl kt_84_0 dk_D_link_85 ?_
            refine kv_iload (pc := 88) 0 rfl dk_D_link_88 ?_
            refine kv_iconst (pc := 90) (v := (3 : Int32)) dk_D_link_90 kki_3 ?_
            refine kv_iadd (pc := 91) dk_D_link_91 ?_
            refine kv_iconst (pc := 92) (v := (2 : Int32)) dk_D_link_92 kki_2 ?_
            refine kv_aload_n (pc := 93) 1 rfl rfl dk_D_link_93 ?_
            refine kv_iload_n (pc := 94) 2 rfl rfl dk_D_link_94 ?_
            refine kv_cV_mI (pc := 95) (as := [.int p1]) (st := [.int (2 : Int32), .int (v6 + (3 : Int32)), .ref 85]) ko_D_links kc_11 rfl rfl kr_84 kw_1620 (Nat.le_of_ble_eq_true rfl) rfl dk_D_link_95 (cx_D_links (d + 1) p1 c m9 f u) (fun v10 => ?_)
            refine kv_imul (pc := 98) dk_D_link_98 ?_
            refine kv_iadd (pc := 99) dk_D_link_99 ?_
            refine kv_iload_n (pc := 100) 4 rfl rfl dk_D_link_100 ?_
            refine kv_guard (fun g11 => ?_)
            refine kv_astM (pc := 101) kr_85 kn_85 kl_85 g11 rfl dk_D_link_101 (fun m12 => ?_)
            refine kv_aload_n (pc := 102) 1 rfl rfl dk_D_link_102 ?_
            refine kv_getR (pc := 103) kf_D_9 kr_84 rfl kt_84_0 dk_D_link_103 ?_
            refine kv_iload (pc := 106) 0 rfl dk_D_link_106 ?_
            refine kv_iconst (pc := 108) (v := (1 : Int32)) dk_D_link_108 kki_1 ?_
            refine kv_iadd (pc := 109) dk_D_link_109 ?_
            refine kv_iload (pc := 110) 5 rfl dk_D_link_110 ?_
            refine kv_guard (fun g13 => ?_)
            refine kv_astM (pc := 112) kr_85 kn_85 kl_85 g13 rfl dk_D_link_112 (fun m14 => ?_)
            refine kv_aload_n (pc := 113) 1 rfl rfl dk_D_link_113 ?_
            refine kv_getR (pc := 114) kf_D_9 kr_84 rfl kt_84_0 dk_D_link_114 ?_
            refine kv_iload (pc := 117) 0 rfl dk_D_link_117 ?_
            refine kv_dup2RI (pc := 119) dk_D_link_119 ?_
            refine kv_guard (fun g15 => ?_)
            refine kv_aldM (pc := 120) kr_85 kn_85 kl_85 g15 rfl dk_D_link_120 ?_
            refine kv_iconst (pc := 121) (v := (1 : Int32)) dk_D_link_121 kki_1 ?_
            refine kv_iadd (pc := 122) dk_D_link_122 ?_
            refine kv_astM (pc := 123) kr_85 kn_85 kl_85 g15 rfl dk_D_link_123 (fun m16 => ?_)
            refine kv_aload_n (pc := 124) 1 rfl rfl dk_D_link_124 ?_
            refine kv_getR (pc := 125) kf_D_9 kr_84 rfl kt_84_0 dk_D_link_125 ?_
            refine kv_iload (pc := 128) 0 rfl dk_D_link_128 ?_
            refine kv_aldM (pc := 130) kr_85 kn_85 kl_85 g15 rfl dk_D_link_130 ?_
            exact kv_iret (pc := 131) (fun h => h) rfl dk_D_link_131
          · refine kv_bipush (pc := 53) (v := (-2 : Int32)) dk_D_link_53 kkb_m2 ?_
            exact kv_iret (pc := 55) (fun h => h) rfl dk_D_link_55
        · refine kv_iconst (pc := 41) (v := (-1 : Int32)) dk_D_link_41 kki_m1 ?_
          exact kv_iret (pc := 42) (fun h => h) rfl dk_D_link_42
theorem dk_Chains_doubtOf_0 : decode prog_2_method_4_code 0 = .ok (.iconst 0, 1) := by decide +kernel
theorem dk_Chains_doubtOf_1 : decode prog_2_method_4_code 1 = .ok (.istore_n 2, 1) := by decide +kernel
theorem dk_Chains_doubtOf_2 : decode prog_2_method_4_code 2 = .ok (.iconst 0, 1) := by decide +kernel
theorem dk_Chains_doubtOf_3 : decode prog_2_method_4_code 3 = .ok (.istore_n 3, 1) := by decide +kernel
theorem dk_Chains_doubtOf_4 : decode prog_2_method_4_code 4 = .ok (.iload_n 3, 1) := by decide +kernel
theorem dk_Chains_doubtOf_5 : decode prog_2_method_4_code 5 = .ok (.aload_n 0, 1) := by decide +kernel
theorem dk_Chains_doubtOf_6 : decode prog_2_method_4_code 6 = .ok (.getfield 18, 3) := by decide +kernel
theorem dk_Chains_doubtOf_9 : decode prog_2_method_4_code 9 = .ok (.iload_n 1, 1) := by decide +kernel
theorem dk_Chains_doubtOf_10 : decode prog_2_method_4_code 10 = .ok (.iaload, 1) := by decide +kernel
theorem dk_Chains_doubtOf_11 : decode prog_2_method_4_code 11 = .ok (.if_icmp .ge 23, 3) := by decide +kernel
theorem dk_Chains_doubtOf_14 : decode prog_2_method_4_code 14 = .ok (.iload_n 2, 1) := by decide +kernel
theorem dk_Chains_doubtOf_15 : decode prog_2_method_4_code 15 = .ok (.aload_n 0, 1) := by decide +kernel
theorem dk_Chains_doubtOf_16 : decode prog_2_method_4_code 16 = .ok (.getfield 15, 3) := by decide +kernel
theorem dk_Chains_doubtOf_19 : decode prog_2_method_4_code 19 = .ok (.iload_n 1, 1) := by decide +kernel
theorem dk_Chains_doubtOf_20 : decode prog_2_method_4_code 20 = .ok (.bipush 12, 2) := by decide +kernel
theorem dk_Chains_doubtOf_22 : decode prog_2_method_4_code 22 = .ok (.imul, 1) := by decide +kernel
theorem dk_Chains_doubtOf_23 : decode prog_2_method_4_code 23 = .ok (.iload_n 3, 1) := by decide +kernel
theorem dk_Chains_doubtOf_24 : decode prog_2_method_4_code 24 = .ok (.iadd, 1) := by decide +kernel
theorem dk_Chains_doubtOf_25 : decode prog_2_method_4_code 25 = .ok (.iaload, 1) := by decide +kernel
theorem dk_Chains_doubtOf_26 : decode prog_2_method_4_code 26 = .ok (.iadd, 1) := by decide +kernel
theorem dk_Chains_doubtOf_27 : decode prog_2_method_4_code 27 = .ok (.istore_n 2, 1) := by decide +kernel
theorem dk_Chains_doubtOf_28 : decode prog_2_method_4_code 28 = .ok (.iinc 3 1, 3) := by decide +kernel
theorem dk_Chains_doubtOf_31 : decode prog_2_method_4_code 31 = .ok (.goto (-27), 3) := by decide +kernel
theorem dk_Chains_doubtOf_34 : decode prog_2_method_4_code 34 = .ok (.iload_n 2, 1) := by decide +kernel
theorem dk_Chains_doubtOf_35 : decode prog_2_method_4_code 35 = .ok (.ireturn, 1) := by decide +kernel
noncomputable def fb_Chains_doubtOf_4 (p1 : Int32) (c : (Nat → Nat → Int32)) (x1 : Int32) (x2 : Int32) : Option ((Int32 × Int32) ⊕ Int32) :=
  kv_gd (kv_in p1 4) (
  if (c 23 p1.toNatClampNeg) ≤ x2 then
    some (.inr x1)
  else
    kv_gd (kv_in ((p1 * (12 : Int32)) + x2) 48) (
    kv_let (x1 + (c 22 ((p1 * (12 : Int32)) + x2).toNatClampNeg)) (fun v6 =>
    some (.inl (v6, (x2 + (1 : Int32)))))))
noncomputable def fx_Chains_doubtOf (p1 : Int32) (c : (Nat → Nat → Int32)) : Option Int32 :=
  (kv_loop (kv_u2 (fb_Chains_doubtOf_4 p1 c)) ((0 : Int32), (0 : Int32))).bind (kv_u1 (fun x3 =>
  some x3))
set_option maxRecDepth 20000 in
theorem cx_Chains_doubtOf (d : Nat) (p1 : Int32) (c : (Nat → Nat → Int32)) (y : (Nat → Nat → Int32) × (Nat → Int64) × (Nat → Int64)) : ∀ a, fx_Chains_doubtOf p1 c = some a → kv_C kM_Chains_doubtOf (d + 0) [.ref 20, .int p1] (c, y) (some (.int a), (c, y)) := by
  refine kv_entryX (E := fun a : Int32 => (some (.int a), (c, y))) rfl (Nat.le_of_ble_eq_true rfl) (fun o => ?_)
  unfold fx_Chains_doubtOf
  show kv_X _ _ _ _ _ 0 [(0, .ref 20), (1, .int p1)] [] (c, y)
  refine kv_iconst (pc := 0) (v := (0 : Int32)) dk_Chains_doubtOf_0 kki_0 ?_
  refine kv_istore_n (pc := 1) (lv' := [(2, .int (0 : Int32)), (0, .ref 20), (1, .int p1)]) rfl (Nat.le_of_ble_eq_true rfl) rfl dk_Chains_doubtOf_1 ?_
  refine kv_iconst (pc := 2) (v := (0 : Int32)) dk_Chains_doubtOf_2 kki_0 ?_
  refine kv_istore_n (pc := 3) (lv' := [(3, .int (0 : Int32)), (2, .int (0 : Int32)), (0, .ref 20), (1, .int p1)]) rfl (Nat.le_of_ble_eq_true rfl) rfl dk_Chains_doubtOf_3 ?_
  refine kv_sub (lv' := [(0, .ref 20), (1, .int p1), (2, .int (0 : Int32)), (3, .int (0 : Int32))]) [2, 3, 1, 0] rfl ?_
  refine kv_lp_2_1 (LV := fun x1 x2 => [(0, .ref 20), (1, .int p1), (2, .int x1), (3, .int x2)]) (WW := fun x1 x2 => (c, y)) (LE1 := fun x3 => [(2, .int x3)]) (WE1 := fun x3 => (c, y)) (pe1 := 34) ?_ ?_
  · intro x3
    show kv_X _ _ _ _ _ 34 [(2, .int x3)] [] (c, y)
    refine kv_iload_n (pc := 34) 0 rfl rfl dk_Chains_doubtOf_34 ?_
    exact kv_iret (pc := 35) (fun h => h) rfl dk_Chains_doubtOf_35
  · intro hx4_0 x1 x2
    show kv_X _ _ _ _ (fb_Chains_doubtOf_4 p1 c x1 x2) 4 [(0, .ref 20), (1, .int p1), (2, .int x1), (3, .int x2)] [] (c, y)
    unfold fb_Chains_doubtOf_4
    refine kv_iload_n (pc := 4) 3 rfl rfl dk_Chains_doubtOf_4 ?_
    refine kv_aload_n (pc := 5) 0 rfl rfl dk_Chains_doubtOf_5 ?_
    refine kv_getR (pc := 6) kf_Chains_18 kr_20 rfl kt_20_2 dk_Chains_doubtOf_6 ?_
    refine kv_iload_n (pc := 9) 1 rfl rfl dk_Chains_doubtOf_9 ?_
    refine kv_guard (fun g4 => ?_)
    refine kv_aldC (pc := 10) kr_23 kn_23 kl_23 g4 rfl dk_Chains_doubtOf_10 ?_
    refine kv_icmp_ge (pc := 11) (tgt := 34) dk_Chains_doubtOf_11 rfl ?_ ?_
    · exact kv_sub [2] rfl (kv_leaf (hx4_0 _))
    · refine kv_iload_n (pc := 14) 2 rfl rfl dk_Chains_doubtOf_14 ?_
      refine kv_aload_n (pc := 15) 0 rfl rfl dk_Chains_doubtOf_15 ?_
      refine kv_getR (pc := 16) kf_Chains_15 kr_20 rfl kt_20_1 dk_Chains_doubtOf_16 ?_
      refine kv_iload_n (pc := 19) 1 rfl rfl dk_Chains_doubtOf_19 ?_
      refine kv_bipush (pc := 20) (v := (12 : Int32)) dk_Chains_doubtOf_20 kkb_12 ?_
      refine kv_imul (pc := 22) dk_Chains_doubtOf_22 ?_
      refine kv_iload_n (pc := 23) 3 rfl rfl dk_Chains_doubtOf_23 ?_
      refine kv_iadd (pc := 24) dk_Chains_doubtOf_24 ?_
      refine kv_guard (fun g5 => ?_)
      refine kv_aldC (pc := 25) kr_22 kn_22 kl_22 g5 rfl dk_Chains_doubtOf_25 ?_
      refine kv_iadd (pc := 26) dk_Chains_doubtOf_26 ?_
      refine kv_letI (fun v6 => ?_)
      refine kv_istore_n (pc := 27) (lv' := [(2, .int v6), (0, .ref 20), (1, .int p1), (3, .int x2)]) rfl (Nat.le_of_ble_eq_true rfl) rfl dk_Chains_doubtOf_27 ?_
      refine kv_iinc (pc := 28) (kk := (1 : Int32)) (lv' := [(3, .int (x2 + (1 : Int32))), (2, .int v6), (0, .ref 20), (1, .int p1)]) 3 rfl kki_1 rfl (Nat.le_of_ble_eq_true rfl) dk_Chains_doubtOf_28 ?_
      refine kv_goto (pc := 31) (tgt := 4) dk_Chains_doubtOf_31 rfl ?_
      exact kv_sub [2, 3, 1, 0] rfl (kv_leaf (fun h => h))
theorem dk_Chains_sum_0 : decode prog_2_method_3_code 0 = .ok (.iconst 0, 1) := by decide +kernel
theorem dk_Chains_sum_1 : decode prog_2_method_3_code 1 = .ok (.istore_n 2, 1) := by decide +kernel
theorem dk_Chains_sum_2 : decode prog_2_method_3_code 2 = .ok (.iconst 0, 1) := by decide +kernel
theorem dk_Chains_sum_3 : decode prog_2_method_3_code 3 = .ok (.istore_n 3, 1) := by decide +kernel
theorem dk_Chains_sum_4 : decode prog_2_method_3_code 4 = .ok (.iload_n 3, 1) := by decide +kernel
theorem dk_Chains_sum_5 : decode prog_2_method_3_code 5 = .ok (.aload_n 0, 1) := by decide +kernel
theorem dk_Chains_sum_6 : decode prog_2_method_3_code 6 = .ok (.getfield 18, 3) := by decide +kernel
theorem dk_Chains_sum_9 : decode prog_2_method_3_code 9 = .ok (.iload_n 1, 1) := by decide +kernel
theorem dk_Chains_sum_10 : decode prog_2_method_3_code 10 = .ok (.iaload, 1) := by decide +kernel
theorem dk_Chains_sum_11 : decode prog_2_method_3_code 11 = .ok (.if_icmp .ge 23, 3) := by decide +kernel
theorem dk_Chains_sum_14 : decode prog_2_method_3_code 14 = .ok (.iload_n 2, 1) := by decide +kernel
theorem dk_Chains_sum_15 : decode prog_2_method_3_code 15 = .ok (.aload_n 0, 1) := by decide +kernel
theorem dk_Chains_sum_16 : decode prog_2_method_3_code 16 = .ok (.getfield 9, 3) := by decide +kernel
theorem dk_Chains_sum_19 : decode prog_2_method_3_code 19 = .ok (.iload_n 1, 1) := by decide +kernel
theorem dk_Chains_sum_20 : decode prog_2_method_3_code 20 = .ok (.bipush 12, 2) := by decide +kernel
theorem dk_Chains_sum_22 : decode prog_2_method_3_code 22 = .ok (.imul, 1) := by decide +kernel
theorem dk_Chains_sum_23 : decode prog_2_method_3_code 23 = .ok (.iload_n 3, 1) := by decide +kernel
theorem dk_Chains_sum_24 : decode prog_2_method_3_code 24 = .ok (.iadd, 1) := by decide +kernel
theorem dk_Chains_sum_25 : decode prog_2_method_3_code 25 = .ok (.iaload, 1) := by decide +kernel
theorem dk_Chains_sum_26 : decode prog_2_method_3_code 26 = .ok (.iadd, 1) := by decide +kernel
theorem dk_Chains_sum_27 : decode prog_2_method_3_code 27 = .ok (.istore_n 2, 1) := by decide +kernel
theorem dk_Chains_sum_28 : decode prog_2_method_3_code 28 = .ok (.iinc 3 1, 3) := by decide +kernel
theorem dk_Chains_sum_31 : decode prog_2_method_3_code 31 = .ok (.goto (-27), 3) := by decide +kernel
theorem dk_Chains_sum_34 : decode prog_2_method_3_code 34 = .ok (.iload_n 2, 1) := by decide +kernel
theorem dk_Chains_sum_35 : decode prog_2_method_3_code 35 = .ok (.ireturn, 1) := by decide +kernel
noncomputable def fb_Chains_sum_4 (p1 : Int32) (c : (Nat → Nat → Int32)) (x1 : Int32) (x2 : Int32) : Option ((Int32 × Int32) ⊕ Int32) :=
  kv_gd (kv_in p1 4) (
  if (c 23 p1.toNatClampNeg) ≤ x2 then
    some (.inr x1)
  else
    kv_gd (kv_in ((p1 * (12 : Int32)) + x2) 48) (
    kv_let (x1 + (c 21 ((p1 * (12 : Int32)) + x2).toNatClampNeg)) (fun v6 =>
    some (.inl (v6, (x2 + (1 : Int32)))))))
noncomputable def fx_Chains_sum (p1 : Int32) (c : (Nat → Nat → Int32)) : Option Int32 :=
  (kv_loop (kv_u2 (fb_Chains_sum_4 p1 c)) ((0 : Int32), (0 : Int32))).bind (kv_u1 (fun x3 =>
  some x3))
set_option maxRecDepth 20000 in
theorem cx_Chains_sum (d : Nat) (p1 : Int32) (c : (Nat → Nat → Int32)) (y : (Nat → Nat → Int32) × (Nat → Int64) × (Nat → Int64)) : ∀ a, fx_Chains_sum p1 c = some a → kv_C kM_Chains_sum (d + 0) [.ref 20, .int p1] (c, y) (some (.int a), (c, y)) := by
  refine kv_entryX (E := fun a : Int32 => (some (.int a), (c, y))) rfl (Nat.le_of_ble_eq_true rfl) (fun o => ?_)
  unfold fx_Chains_sum
  show kv_X _ _ _ _ _ 0 [(0, .ref 20), (1, .int p1)] [] (c, y)
  refine kv_iconst (pc := 0) (v := (0 : Int32)) dk_Chains_sum_0 kki_0 ?_
  refine kv_istore_n (pc := 1) (lv' := [(2, .int (0 : Int32)), (0, .ref 20), (1, .int p1)]) rfl (Nat.le_of_ble_eq_true rfl) rfl dk_Chains_sum_1 ?_
  refine kv_iconst (pc := 2) (v := (0 : Int32)) dk_Chains_sum_2 kki_0 ?_
  refine kv_istore_n (pc := 3) (lv' := [(3, .int (0 : Int32)), (2, .int (0 : Int32)), (0, .ref 20), (1, .int p1)]) rfl (Nat.le_of_ble_eq_true rfl) rfl dk_Chains_sum_3 ?_
  refine kv_sub (lv' := [(0, .ref 20), (1, .int p1), (2, .int (0 : Int32)), (3, .int (0 : Int32))]) [2, 3, 1, 0] rfl ?_
  refine kv_lp_2_1 (LV := fun x1 x2 => [(0, .ref 20), (1, .int p1), (2, .int x1), (3, .int x2)]) (WW := fun x1 x2 => (c, y)) (LE1 := fun x3 => [(2, .int x3)]) (WE1 := fun x3 => (c, y)) (pe1 := 34) ?_ ?_
  · intro x3
    show kv_X _ _ _ _ _ 34 [(2, .int x3)] [] (c, y)
    refine kv_iload_n (pc := 34) 0 rfl rfl dk_Chains_sum_34 ?_
    exact kv_iret (pc := 35) (fun h => h) rfl dk_Chains_sum_35
  · intro hx4_0 x1 x2
    show kv_X _ _ _ _ (fb_Chains_sum_4 p1 c x1 x2) 4 [(0, .ref 20), (1, .int p1), (2, .int x1), (3, .int x2)] [] (c, y)
    unfold fb_Chains_sum_4
    refine kv_iload_n (pc := 4) 3 rfl rfl dk_Chains_sum_4 ?_
    refine kv_aload_n (pc := 5) 0 rfl rfl dk_Chains_sum_5 ?_
    refine kv_getR (pc := 6) kf_Chains_18 kr_20 rfl kt_20_2 dk_Chains_sum_6 ?_
    refine kv_iload_n (pc := 9) 1 rfl rfl dk_Chains_sum_9 ?_
    refine kv_guard (fun g4 => ?_)
    refine kv_aldC (pc := 10) kr_23 kn_23 kl_23 g4 rfl dk_Chains_sum_10 ?_
    refine kv_icmp_ge (pc := 11) (tgt := 34) dk_Chains_sum_11 rfl ?_ ?_
    · exact kv_sub [2] rfl (kv_leaf (hx4_0 _))
    · refine kv_iload_n (pc := 14) 2 rfl rfl dk_Chains_sum_14 ?_
      refine kv_aload_n (pc := 15) 0 rfl rfl dk_Chains_sum_15 ?_
      refine kv_getR (pc := 16) kf_Chains_9 kr_20 rfl kt_20_0 dk_Chains_sum_16 ?_
      refine kv_iload_n (pc := 19) 1 rfl rfl dk_Chains_sum_19 ?_
      refine kv_bipush (pc := 20) (v := (12 : Int32)) dk_Chains_sum_20 kkb_12 ?_
      refine kv_imul (pc := 22) dk_Chains_sum_22 ?_
      refine kv_iload_n (pc := 23) 3 rfl rfl dk_Chains_sum_23 ?_
      refine kv_iadd (pc := 24) dk_Chains_sum_24 ?_
      refine kv_guard (fun g5 => ?_)
      refine kv_aldC (pc := 25) kr_21 kn_21 kl_21 g5 rfl dk_Chains_sum_25 ?_
      refine kv_iadd (pc := 26) dk_Chains_sum_26 ?_
      refine kv_letI (fun v6 => ?_)
      refine kv_istore_n (pc := 27) (lv' := [(2, .int v6), (0, .ref 20), (1, .int p1), (3, .int x2)]) rfl (Nat.le_of_ble_eq_true rfl) rfl dk_Chains_sum_27 ?_
      refine kv_iinc (pc := 28) (kk := (1 : Int32)) (lv' := [(3, .int (x2 + (1 : Int32))), (2, .int v6), (0, .ref 20), (1, .int p1)]) 3 rfl kki_1 rfl (Nat.le_of_ble_eq_true rfl) dk_Chains_sum_28 ?_
      refine kv_goto (pc := 31) (tgt := 4) dk_Chains_sum_31 rfl ?_
      exact kv_sub [2, 3, 1, 0] rfl (kv_leaf (fun h => h))
theorem dk_K_chain_0 : decode prog_1_method_25_code 0 = .ok (.iload_n 1, 1) := by decide +kernel
theorem dk_K_chain_1 : decode prog_1_method_25_code 1 = .ok (.invokestatic 293, 3) := by decide +kernel
theorem dk_K_chain_4 : decode prog_1_method_25_code 4 = .ok (.ifCond .eq 12, 3) := by decide +kernel
theorem dk_K_chain_7 : decode prog_1_method_25_code 7 = .ok (.iload_n 2, 1) := by decide +kernel
theorem dk_K_chain_8 : decode prog_1_method_25_code 8 = .ok (.iconst 0, 1) := by decide +kernel
theorem dk_K_chain_9 : decode prog_1_method_25_code 9 = .ok (.iconst 2, 1) := by decide +kernel
theorem dk_K_chain_10 : decode prog_1_method_25_code 10 = .ok (.invokestatic 54, 3) := by decide +kernel
theorem dk_K_chain_13 : decode prog_1_method_25_code 13 = .ok (.ifCond .ne 6, 3) := by decide +kernel
theorem dk_K_chain_16 : decode prog_1_method_25_code 16 = .ok (.ldc 84, 2) := by decide +kernel
theorem dk_K_chain_18 : decode prog_1_method_25_code 18 = .ok (.ireturn, 1) := by decide +kernel
theorem dk_K_chain_19 : decode prog_1_method_25_code 19 = .ok (.aload_n 0, 1) := by decide +kernel
theorem dk_K_chain_20 : decode prog_1_method_25_code 20 = .ok (.getfield 10, 3) := by decide +kernel
theorem dk_K_chain_23 : decode prog_1_method_25_code 23 = .ok (.getfield 296, 3) := by decide +kernel
theorem dk_K_chain_26 : decode prog_1_method_25_code 26 = .ok (.astore_n 3, 1) := by decide +kernel
theorem dk_K_chain_27 : decode prog_1_method_25_code 27 = .ok (.aload_n 3, 1) := by decide +kernel
theorem dk_K_chain_28 : decode prog_1_method_25_code 28 = .ok (.getfield 300, 3) := by decide +kernel
theorem dk_K_chain_31 : decode prog_1_method_25_code 31 = .ok (.iload_n 1, 1) := by decide +kernel
theorem dk_K_chain_32 : decode prog_1_method_25_code 32 = .ok (.iaload, 1) := by decide +kernel
theorem dk_K_chain_33 : decode prog_1_method_25_code 33 = .ok (.ifCond .ne 6, 3) := by decide +kernel
theorem dk_K_chain_36 : decode prog_1_method_25_code 36 = .ok (.ldc 123, 2) := by decide +kernel
theorem dk_K_chain_38 : decode prog_1_method_25_code 38 = .ok (.ireturn, 1) := by decide +kernel
theorem dk_K_chain_39 : decode prog_1_method_25_code 39 = .ok (.iload_n 2, 1) := by decide +kernel
theorem dk_K_chain_40 : decode prog_1_method_25_code 40 = .ok (.iconst 2, 1) := by decide +kernel
theorem dk_K_chain_41 : decode prog_1_method_25_code 41 = .ok (.if_icmp .ne 10, 3) := by decide +kernel
theorem dk_K_chain_44 : decode prog_1_method_25_code 44 = .ok (.aload_n 3, 1) := by decide +kernel
theorem dk_K_chain_45 : decode prog_1_method_25_code 45 = .ok (.getfield 305, 3) := by decide +kernel
theorem dk_K_chain_48 : decode prog_1_method_25_code 48 = .ok (.iload_n 1, 1) := by decide +kernel
theorem dk_K_chain_49 : decode prog_1_method_25_code 49 = .ok (.iaload, 1) := by decide +kernel
theorem dk_K_chain_50 : decode prog_1_method_25_code 50 = .ok (.ireturn, 1) := by decide +kernel
theorem dk_K_chain_51 : decode prog_1_method_25_code 51 = .ok (.iload_n 2, 1) := by decide +kernel
theorem dk_K_chain_52 : decode prog_1_method_25_code 52 = .ok (.ifCond .ne 11, 3) := by decide +kernel
theorem dk_K_chain_55 : decode prog_1_method_25_code 55 = .ok (.aload_n 3, 1) := by decide +kernel
theorem dk_K_chain_56 : decode prog_1_method_25_code 56 = .ok (.iload_n 1, 1) := by decide +kernel
theorem dk_K_chain_57 : decode prog_1_method_25_code 57 = .ok (.invokevirtual 306, 3) := by decide +kernel
theorem dk_K_chain_60 : decode prog_1_method_25_code 60 = .ok (.goto 8, 3) := by decide +kernel
theorem dk_K_chain_63 : decode prog_1_method_25_code 63 = .ok (.aload_n 3, 1) := by decide +kernel
theorem dk_K_chain_64 : decode prog_1_method_25_code 64 = .ok (.iload_n 1, 1) := by decide +kernel
theorem dk_K_chain_65 : decode prog_1_method_25_code 65 = .ok (.invokevirtual 309, 3) := by decide +kernel
theorem dk_K_chain_68 : decode prog_1_method_25_code 68 = .ok (.ireturn, 1) := by decide +kernel
noncomputable def fx_K_chain (p1 : Int32) (p2 : Int32) (c : (Nat → Nat → Int32)) : Option Int32 :=
  kv_bind1 (fx_K_isChain p1) (fun b1 =>
  if b1 = true then
    kv_bind1 (fx_K_isWithin p2 (0 : Int32) (2 : Int32)) (fun b2 =>
    if b2 = true then
      kv_gd (kv_in p1 4) (
      if (c 23 p1.toNatClampNeg) = 0 then
        some (-1000000004 : Int32)
      else
        if p2 = (2 : Int32) then
          some (c 24 p1.toNatClampNeg)
        else
          if p2 = 0 then
            kv_bind1 (fx_Chains_sum p1 c) (fun v5 =>
            some v5)
          else
            kv_bind1 (fx_Chains_doubtOf p1 c) (fun v4 =>
            some v4))
    else
      some (-1000000001 : Int32))
  else
    some (-1000000001 : Int32))
set_option maxRecDepth 20000 in
theorem cx_K_chain (d : Nat) (p1 : Int32) (p2 : Int32) (c : (Nat → Nat → Int32)) (y : (Nat → Nat → Int32) × (Nat → Int64) × (Nat → Int64)) : ∀ a, fx_K_chain p1 p2 c = some a → kv_C kM_K_chain (d + 2) [.ref 0, .int p1, .int p2] (c, y) (some (.int a), (c, y)) := by
  refine kv_entryX (E := fun a : Int32 => (some (.int a), (c, y))) rfl (Nat.le_of_ble_eq_true rfl) (fun o => ?_)
  unfold fx_K_chain
  show kv_X _ _ _ _ _ 0 [(0, .ref 0), (1, .int p1), (2, .int p2)] [] (c, y)
  refine kv_iload_n (pc := 0) 1 rfl rfl dk_K_chain_0 ?_
  refine kv_cS_cZ (pc := 1) (as := [.int p1]) (st := []) ko_K_isChain rfl kw_924 (Nat.le_of_ble_eq_true rfl) rfl dk_K_chain_1 (cx_K_isChain d p1 c y) (fun b1 => ?_)
  refine kv_zif_eq (pc := 4) (tgt := 16) dk_K_chain_4 rfl ?_ ?_
  · refine kv_ldc (pc := 16) (v := (-1000000001 : Int32)) kw_530 dk_K_chain_16 ?_
    exact kv_iret (pc := 18) (fun h => h) rfl dk_K_chain_18
  · refine kv_iload_n (pc := 7) 2 rfl rfl dk_K_chain_7 ?_
    refine kv_iconst (pc := 8) (v := (0 : Int32)) dk_K_chain_8 kki_0 ?_
    refine kv_iconst (pc := 9) (v := (2 : Int32)) dk_K_chain_9 kki_2 ?_
    refine kv_cS_cZ (pc := 10) (as := [.int p2, .int (0 : Int32), .int (2 : Int32)]) (st := []) ko_K_isWithin rfl kw_512 (Nat.le_of_ble_eq_true rfl) rfl dk_K_chain_10 (cx_K_isWithin (d + 1) p2 (0 : Int32) (2 : Int32) c y) (fun b2 => ?_)
    refine kv_zif_ne (pc := 13) (tgt := 19) dk_K_chain_13 rfl ?_ ?_
    · refine kv_aload_n (pc := 19) 0 rfl rfl dk_K_chain_19 ?_
      refine kv_getR (pc := 20) kf_K_10 kr_0 rfl kt_0_0 dk_K_chain_20 ?_
      refine kv_getR (pc := 23) kf_K_296 kr_1 rfl kt_1_3 dk_K_chain_23 ?_
      refine kv_astore_n (pc := 26) (lv' := [(3, .ref 20), (0, .ref 0), (1, .int p1), (2, .int p2)]) rfl (Nat.le_of_ble_eq_true rfl) rfl dk_K_chain_26 ?_
      refine kv_aload_n (pc := 27) 0 rfl rfl dk_K_chain_27 ?_
      refine kv_getR (pc := 28) kf_K_300 kr_20 rfl kt_20_2 dk_K_chain_28 ?_
      refine kv_iload_n (pc := 31) 2 rfl rfl dk_K_chain_31 ?_
      refine kv_guard (fun g3 => ?_)
      refine kv_aldC (pc := 32) kr_23 kn_23 kl_23 g3 rfl dk_K_chain_32 ?_
      refine kv_if_ne (pc := 33) (tgt := 39) dk_K_chain_33 rfl ?_ ?_
      · refine kv_iload_n (pc := 39) 3 rfl rfl dk_K_chain_39 ?_
        refine kv_iconst (pc := 40) (v := (2 : Int32)) dk_K_chain_40 kki_2 ?_
        refine kv_icmp_ne (pc := 41) (tgt := 51) dk_K_chain_41 rfl ?_ ?_
        · refine kv_iload_n (pc := 51) 3 rfl rfl dk_K_chain_51 ?_
          refine kv_if_ne (pc := 52) (tgt := 63) dk_K_chain_52 rfl ?_ ?_
          · refine kv_aload_n (pc := 63) 0 rfl rfl dk_K_chain_63 ?_
            refine kv_iload_n (pc := 64) 2 rfl rfl dk_K_chain_64 ?_
            refine kv_cV_cI (pc := 65) (as := [.int p1]) (st := []) ko_Chains_doubtOf kc_0 rfl rfl kr_20 kw_939 (Nat.le_of_ble_eq_true rfl) rfl dk_K_chain_65 (cx_Chains_doubtOf (d + 1) p1 c y) (fun v4 => ?_)
            exact kv_iret (pc := 68) (fun h => h) rfl dk_K_chain_68
          · refine kv_aload_n (pc := 55) 0 rfl rfl dk_K_chain_55 ?_
            refine kv_iload_n (pc := 56) 2 rfl rfl dk_K_chain_56 ?_
            refine kv_cV_cI (pc := 57) (as := [.int p1]) (st := []) ko_Chains_sum kc_0 rfl rfl kr_20 kw_935 (Nat.le_of_ble_eq_true rfl) rfl dk_K_chain_57 (cx_Chains_sum (d + 1) p1 c y) (fun v5 => ?_)
            refine kv_goto (pc := 60) (tgt := 68) dk_K_chain_60 rfl ?_
            exact kv_iret (pc := 68) (fun h => h) rfl dk_K_chain_68
        · refine kv_aload_n (pc := 44) 0 rfl rfl dk_K_chain_44 ?_
          refine kv_getR (pc := 45) kf_K_305 kr_20 rfl kt_20_3 dk_K_chain_45 ?_
          refine kv_iload_n (pc := 48) 2 rfl rfl dk_K_chain_48 ?_
          refine kv_aldC (pc := 49) kr_24 kn_24 kl_24 g3 rfl dk_K_chain_49 ?_
          exact kv_iret (pc := 50) (fun h => h) rfl dk_K_chain_50
      · refine kv_ldc (pc := 36) (v := (-1000000004 : Int32)) kw_547 dk_K_chain_36 ?_
        exact kv_iret (pc := 38) (fun h => h) rfl dk_K_chain_38
    · refine kv_ldc (pc := 16) (v := (-1000000001 : Int32)) kw_530 dk_K_chain_16 ?_
      exact kv_iret (pc := 18) (fun h => h) rfl dk_K_chain_18
theorem dk_D_chainOf_0 : decode prog_13_method_72_code 0 = .ok (.iload_n 2, 1) := by decide +kernel
theorem dk_D_chainOf_1 : decode prog_13_method_72_code 1 = .ok (.iconst 2, 1) := by decide +kernel
theorem dk_D_chainOf_2 : decode prog_13_method_72_code 2 = .ok (.if_icmp .ne 19, 3) := by decide +kernel
theorem dk_D_chainOf_5 : decode prog_13_method_72_code 5 = .ok (.aload_n 0, 1) := by decide +kernel
theorem dk_D_chainOf_6 : decode prog_13_method_72_code 6 = .ok (.getfield 9, 3) := by decide +kernel
theorem dk_D_chainOf_9 : decode prog_13_method_72_code 9 = .ok (.sipush 340, 3) := by decide +kernel
theorem dk_D_chainOf_12 : decode prog_13_method_72_code 12 = .ok (.bipush 26, 2) := by decide +kernel
theorem dk_D_chainOf_14 : decode prog_13_method_72_code 14 = .ok (.iload_n 1, 1) := by decide +kernel
theorem dk_D_chainOf_15 : decode prog_13_method_72_code 15 = .ok (.imul, 1) := by decide +kernel
theorem dk_D_chainOf_16 : decode prog_13_method_72_code 16 = .ok (.iadd, 1) := by decide +kernel
theorem dk_D_chainOf_17 : decode prog_13_method_72_code 17 = .ok (.iconst 1, 1) := by decide +kernel
theorem dk_D_chainOf_18 : decode prog_13_method_72_code 18 = .ok (.iadd, 1) := by decide +kernel
theorem dk_D_chainOf_19 : decode prog_13_method_72_code 19 = .ok (.iaload, 1) := by decide +kernel
theorem dk_D_chainOf_20 : decode prog_13_method_72_code 20 = .ok (.ireturn, 1) := by decide +kernel
theorem dk_D_chainOf_21 : decode prog_13_method_72_code 21 = .ok (.iconst 0, 1) := by decide +kernel
theorem dk_D_chainOf_22 : decode prog_13_method_72_code 22 = .ok (.istore_n 3, 1) := by decide +kernel
theorem dk_D_chainOf_23 : decode prog_13_method_72_code 23 = .ok (.iconst 0, 1) := by decide +kernel
theorem dk_D_chainOf_24 : decode prog_13_method_72_code 24 = .ok (.istore 4, 2) := by decide +kernel
theorem dk_D_chainOf_26 : decode prog_13_method_72_code 26 = .ok (.iload 4, 2) := by decide +kernel
theorem dk_D_chainOf_28 : decode prog_13_method_72_code 28 = .ok (.aload_n 0, 1) := by decide +kernel
theorem dk_D_chainOf_29 : decode prog_13_method_72_code 29 = .ok (.iload_n 1, 1) := by decide +kernel
theorem dk_D_chainOf_30 : decode prog_13_method_72_code 30 = .ok (.invokevirtual 285, 3) := by decide +kernel
theorem dk_D_chainOf_33 : decode prog_13_method_72_code 33 = .ok (.if_icmp .ge 34, 3) := by decide +kernel
theorem dk_D_chainOf_36 : decode prog_13_method_72_code 36 = .ok (.iload_n 3, 1) := by decide +kernel
theorem dk_D_chainOf_37 : decode prog_13_method_72_code 37 = .ok (.aload_n 0, 1) := by decide +kernel
theorem dk_D_chainOf_38 : decode prog_13_method_72_code 38 = .ok (.getfield 9, 3) := by decide +kernel
theorem dk_D_chainOf_41 : decode prog_13_method_72_code 41 = .ok (.sipush 340, 3) := by decide +kernel
theorem dk_D_chainOf_44 : decode prog_13_method_72_code 44 = .ok (.bipush 26, 2) := by decide +kernel
theorem dk_D_chainOf_46 : decode prog_13_method_72_code 46 = .ok (.iload_n 1, 1) := by decide +kernel
theorem dk_D_chainOf_47 : decode prog_13_method_72_code 47 = .ok (.imul, 1) := by decide +kernel
theorem dk_D_chainOf_48 : decode prog_13_method_72_code 48 = .ok (.iadd, 1) := by decide +kernel
theorem dk_D_chainOf_49 : decode prog_13_method_72_code 49 = .ok (.iconst 2, 1) := by decide +kernel
theorem dk_D_chainOf_50 : decode prog_13_method_72_code 50 = .ok (.iadd, 1) := by decide +kernel
theorem dk_D_chainOf_51 : decode prog_13_method_72_code 51 = .ok (.iconst 2, 1) := by decide +kernel
theorem dk_D_chainOf_52 : decode prog_13_method_72_code 52 = .ok (.iload 4, 2) := by decide +kernel
theorem dk_D_chainOf_54 : decode prog_13_method_72_code 54 = .ok (.imul, 1) := by decide +kernel
theorem dk_D_chainOf_55 : decode prog_13_method_72_code 55 = .ok (.iadd, 1) := by decide +kernel
theorem dk_D_chainOf_56 : decode prog_13_method_72_code 56 = .ok (.iload_n 2, 1) := by decide +kernel
theorem dk_D_chainOf_57 : decode prog_13_method_72_code 57 = .ok (.iadd, 1) := by decide +kernel
theorem dk_D_chainOf_58 : decode prog_13_method_72_code 58 = .ok (.iaload, 1) := by decide +kernel
theorem dk_D_chainOf_59 : decode prog_13_method_72_code 59 = .ok (.iadd, 1) := by decide +kernel
theorem dk_D_chainOf_60 : decode prog_13_method_72_code 60 = .ok (.istore_n 3, 1) := by decide +kernel
theorem dk_D_chainOf_61 : decode prog_13_method_72_code 61 = .ok (.iinc 4 1, 3) := by decide +kernel
theorem dk_D_chainOf_64 : decode prog_13_method_72_code 64 = .ok (.goto (-38), 3) := by decide +kernel
theorem dk_D_chainOf_67 : decode prog_13_method_72_code 67 = .ok (.iload_n 3, 1) := by decide +kernel
theorem dk_D_chainOf_68 : decode prog_13_method_72_code 68 = .ok (.ireturn, 1) := by decide +kernel
noncomputable def fb_D_chainOf_26 (p1 : Int32) (m : (Nat → Nat → Int32)) (p2 : Int32) (x1 : Int32) (x2 : Int32) : Option ((Int32 × Int32) ⊕ Int32) :=
  kv_bind1 (fx_D_links p1 m) (fun v4 =>
  if v4 ≤ x2 then
    some (.inr x1)
  else
    kv_gd (kv_in (((((340 : Int32) + ((26 : Int32) * p1)) + (2 : Int32)) + ((2 : Int32) * x2)) + p2) 444) (
    kv_let (x1 + (m 85 (((((340 : Int32) + ((26 : Int32) * p1)) + (2 : Int32)) + ((2 : Int32) * x2)) + p2).toNatClampNeg)) (fun v6 =>
    some (.inl (v6, (x2 + (1 : Int32)))))))
noncomputable def fx_D_chainOf (p1 : Int32) (p2 : Int32) (m : (Nat → Nat → Int32)) : Option Int32 :=
  if p2 = (2 : Int32) then
    kv_gd (kv_in (((340 : Int32) + ((26 : Int32) * p1)) + (1 : Int32)) 444) (
    some (m 85 (((340 : Int32) + ((26 : Int32) * p1)) + (1 : Int32)).toNatClampNeg))
  else
    (kv_loop (kv_u2 (fb_D_chainOf_26 p1 m p2)) ((0 : Int32), (0 : Int32))).bind (kv_u1 (fun x3 =>
    some x3))
set_option maxRecDepth 20000 in
theorem cx_D_chainOf (d : Nat) (p1 : Int32) (p2 : Int32) (c : (Nat → Nat → Int32)) (m : (Nat → Nat → Int32)) (f : (Nat → Int64)) (u : (Nat → Int64)) : ∀ a, fx_D_chainOf p1 p2 m = some a → kv_C kM_D_chainOf (d + 1) [.ref 84, .int p1, .int p2] (c, m, f, u) (some (.int a), (c, m, f, u)) := by
  refine kv_entryX (E := fun a : Int32 => (some (.int a), (c, m, f, u))) rfl (Nat.le_of_ble_eq_true rfl) (fun o => ?_)
  unfold fx_D_chainOf
  show kv_X _ _ _ _ _ 0 [(0, .ref 84), (1, .int p1), (2, .int p2)] [] (c, m, f, u)
  refine kv_iload_n (pc := 0) 2 rfl rfl dk_D_chainOf_0 ?_
  refine kv_iconst (pc := 1) (v := (2 : Int32)) dk_D_chainOf_1 kki_2 ?_
  refine kv_icmp_ne (pc := 2) (tgt := 21) dk_D_chainOf_2 rfl ?_ ?_
  · refine kv_iconst (pc := 21) (v := (0 : Int32)) dk_D_chainOf_21 kki_0 ?_
    refine kv_istore_n (pc := 22) (lv' := [(3, .int (0 : Int32)), (0, .ref 84), (1, .int p1), (2, .int p2)]) rfl (Nat.le_of_ble_eq_true rfl) rfl dk_D_chainOf_22 ?_
    refine kv_iconst (pc := 23) (v := (0 : Int32)) dk_D_chainOf_23 kki_0 ?_
    refine kv_istore (pc := 24) (lv' := [(4, .int (0 : Int32)), (3, .int (0 : Int32)), (0, .ref 84), (1, .int p1), (2, .int p2)]) rfl (Nat.le_of_ble_eq_true rfl) dk_D_chainOf_24 ?_
    refine kv_sub (lv' := [(0, .ref 84), (1, .int p1), (2, .int p2), (3, .int (0 : Int32)), (4, .int (0 : Int32))]) [2, 3, 4, 1, 0] rfl ?_
    refine kv_lp_2_1 (LV := fun x1 x2 => [(0, .ref 84), (1, .int p1), (2, .int p2), (3, .int x1), (4, .int x2)]) (WW := fun x1 x2 => (c, m, f, u)) (LE1 := fun x3 => [(3, .int x3)]) (WE1 := fun x3 => (c, m, f, u)) (pe1 := 67) ?_ ?_
    · intro x3
      show kv_X _ _ _ _ _ 67 [(3, .int x3)] [] (c, m, f, u)
      refine kv_iload_n (pc := 67) 0 rfl rfl dk_D_chainOf_67 ?_
      exact kv_iret (pc := 68) (fun h => h) rfl dk_D_chainOf_68
    · intro hx26_0 x1 x2
      show kv_X _ _ _ _ (fb_D_chainOf_26 p1 m p2 x1 x2) 26 [(0, .ref 84), (1, .int p1), (2, .int p2), (3, .int x1), (4, .int x2)] [] (c, m, f, u)
      unfold fb_D_chainOf_26
      refine kv_iload (pc := 26) 4 rfl dk_D_chainOf_26 ?_
      refine kv_aload_n (pc := 28) 0 rfl rfl dk_D_chainOf_28 ?_
      refine kv_iload_n (pc := 29) 1 rfl rfl dk_D_chainOf_29 ?_
      refine kv_cV_mI (pc := 30) (as := [.int p1]) (st := [.int x2]) ko_D_links kc_11 rfl rfl kr_84 kw_1620 (Nat.le_of_ble_eq_true rfl) rfl dk_D_chainOf_30 (cx_D_links d p1 c m f u) (fun v4 => ?_)
      refine kv_icmp_ge (pc := 33) (tgt := 67) dk_D_chainOf_33 rfl ?_ ?_
      · exact kv_sub [3] rfl (kv_leaf (hx26_0 _))
      · refine kv_iload_n (pc := 36) 3 rfl rfl dk_D_chainOf_36 ?_
        refine kv_aload_n (pc := 37) 0 rfl rfl dk_D_chainOf_37 ?_
        refine kv_getR (pc := 38) kf_D_9 kr_84 rfl kt_84_0 dk_D_chainOf_38 ?_
        refine kv_sipush (pc := 41) (v := (340 : Int32)) dk_D_chainOf_41 kks_340 ?_
        refine kv_bipush (pc := 44) (v := (26 : Int32)) dk_D_chainOf_44 kkb_26 ?_
        refine kv_iload_n (pc := 46) 1 rfl rfl dk_D_chainOf_46 ?_
        refine kv_imul (pc := 47) dk_D_chainOf_47 ?_
        refine kv_iadd (pc := 48) dk_D_chainOf_48 ?_
        refine kv_iconst (pc := 49) (v := (2 : Int32)) dk_D_chainOf_49 kki_2 ?_
        refine kv_iadd (pc := 50) dk_D_chainOf_50 ?_
        refine kv_iconst (pc := 51) (v := (2 : Int32)) dk_D_chainOf_51 kki_2 ?_
        refine kv_iload (pc := 52) 4 rfl dk_D_chainOf_52 ?_
        refine kv_imul (pc := 54) dk_D_chainOf_54 ?_
        refine kv_iadd (pc := 55) dk_D_chainOf_55 ?_
        refine kv_iload_n (pc := 56) 2 rfl rfl dk_D_chainOf_56 ?_
        refine kv_iadd (pc := 57) dk_D_chainOf_57 ?_
        refine kv_guard (fun g5 => ?_)
        refine kv_aldM (pc := 58) kr_85 kn_85 kl_85 g5 rfl dk_D_chainOf_58 ?_
        refine kv_iadd (pc := 59) dk_D_chainOf_59 ?_
        refine kv_letI (fun v6 => ?_)
        refine kv_istore_n (pc := 60) (lv' := [(3, .int v6), (0, .ref 84), (1, .int p1), (2, .int p2), (4, .int x2)]) rfl (Nat.le_of_ble_eq_true rfl) rfl dk_D_chainOf_60 ?_
        refine kv_iinc (pc := 61) (kk := (1 : Int32)) (lv' := [(4, .int (x2 + (1 : Int32))), (3, .int v6), (0, .ref 84), (1, .int p1), (2, .int p2)]) 4 rfl kki_1 rfl (Nat.le_of_ble_eq_true rfl) dk_D_chainOf_61 ?_
        refine kv_goto (pc := 64) (tgt := 26) dk_D_chainOf_64 rfl ?_
        exact kv_sub [2, 3, 4, 1, 0] rfl (kv_leaf (fun h => h))
  · refine kv_aload_n (pc := 5) 0 rfl rfl dk_D_chainOf_5 ?_
    refine kv_getR (pc := 6) kf_D_9 kr_84 rfl kt_84_0 dk_D_chainOf_6 ?_
    refine kv_sipush (pc := 9) (v := (340 : Int32)) dk_D_chainOf_9 kks_340 ?_
    refine kv_bipush (pc := 12) (v := (26 : Int32)) dk_D_chainOf_12 kkb_26 ?_
    refine kv_iload_n (pc := 14) 1 rfl rfl dk_D_chainOf_14 ?_
    refine kv_imul (pc := 15) dk_D_chainOf_15 ?_
    refine kv_iadd (pc := 16) dk_D_chainOf_16 ?_
    refine kv_iconst (pc := 17) (v := (1 : Int32)) dk_D_chainOf_17 kki_1 ?_
    refine kv_iadd (pc := 18) dk_D_chainOf_18 ?_
    refine kv_guard (fun g7 => ?_)
    refine kv_aldM (pc := 19) kr_85 kn_85 kl_85 g7 rfl dk_D_chainOf_19 ?_
    exact kv_iret (pc := 20) (fun h => h) rfl dk_D_chainOf_20
theorem dk_D_chain_0 : decode prog_13_method_73_code 0 = .ok (.iload_n 1, 1) := by decide +kernel
theorem dk_D_chain_1 : decode prog_13_method_73_code 1 = .ok (.invokestatic 278, 3) := by decide +kernel
theorem dk_D_chain_4 : decode prog_13_method_73_code 4 = .ok (.ifCond .eq 15, 3) := by decide +kernel
theorem dk_D_chain_7 : decode prog_13_method_73_code 7 = .ok (.iload_n 2, 1) := by decide +kernel
theorem dk_D_chain_8 : decode prog_13_method_73_code 8 = .ok (.i2l, 1) := by decide +kernel
theorem dk_D_chain_9 : decode prog_13_method_73_code 9 = .ok (.lconst 0, 1) := by decide +kernel
theorem dk_D_chain_10 : decode prog_13_method_73_code 10 = .ok (.ldc2_w 103, 3) := by decide +kernel
theorem dk_D_chain_13 : decode prog_13_method_73_code 13 = .ok (.invokestatic 60, 3) := by decide +kernel
theorem dk_D_chain_16 : decode prog_13_method_73_code 16 = .ok (.ifCond .ne 8, 3) := by decide +kernel
theorem dk_D_chain_19 : decode prog_13_method_73_code 19 = .ok (.ldc 91, 2) := by decide +kernel
theorem dk_D_chain_21 : decode prog_13_method_73_code 21 = .ok (.goto 22, 3) := by decide +kernel
theorem dk_D_chain_24 : decode prog_13_method_73_code 24 = .ok (.aload_n 0, 1) := by decide +kernel
theorem dk_D_chain_25 : decode prog_13_method_73_code 25 = .ok (.iload_n 1, 1) := by decide +kernel
theorem dk_D_chain_26 : decode prog_13_method_73_code 26 = .ok (.invokevirtual 285, 3) := by decide +kernel
theorem dk_D_chain_29 : decode prog_13_method_73_code 29 = .ok (.ifCond .ne 8, 3) := by decide +kernel
theorem dk_D_chain_32 : decode prog_13_method_73_code 32 = .ok (.ldc 102, 2) := by decide +kernel
theorem dk_D_chain_34 : decode prog_13_method_73_code 34 = .ok (.goto 9, 3) := by decide +kernel
theorem dk_D_chain_37 : decode prog_13_method_73_code 37 = .ok (.aload_n 0, 1) := by decide +kernel
theorem dk_D_chain_38 : decode prog_13_method_73_code 38 = .ok (.iload_n 1, 1) := by decide +kernel
theorem dk_D_chain_39 : decode prog_13_method_73_code 39 = .ok (.iload_n 2, 1) := by decide +kernel
theorem dk_D_chain_40 : decode prog_13_method_73_code 40 = .ok (.invokevirtual 288, 3) := by decide +kernel
theorem dk_D_chain_43 : decode prog_13_method_73_code 43 = .ok (.ireturn, 1) := by decide +kernel
noncomputable def fx_D_chain (p1 : Int32) (p2 : Int32) (m : (Nat → Nat → Int32)) : Option Int32 :=
  kv_bind1 (fx_D_isChain p1) (fun b1 =>
  if b1 = true then
    kv_bind1 (fx_D_isIn p2.toInt64 (0 : Int64) (2 : Int64)) (fun b2 =>
    if b2 = true then
      kv_bind1 (fx_D_links p1 m) (fun v3 =>
      if v3 = 0 then
        some (-1000000004 : Int32)
      else
        kv_bind1 (fx_D_chainOf p1 p2 m) (fun v4 =>
        some v4))
    else
      some (-1000000001 : Int32))
  else
    some (-1000000001 : Int32))
set_option maxRecDepth 20000 in
theorem cx_D_chain (d : Nat) (p1 : Int32) (p2 : Int32) (c : (Nat → Nat → Int32)) (m : (Nat → Nat → Int32)) (f : (Nat → Int64)) (u : (Nat → Int64)) : ∀ a, fx_D_chain p1 p2 m = some a → kv_C kM_D_chain (d + 2) [.ref 84, .int p1, .int p2] (c, m, f, u) (some (.int a), (c, m, f, u)) := by
  refine kv_entryX (E := fun a : Int32 => (some (.int a), (c, m, f, u))) rfl (Nat.le_of_ble_eq_true rfl) (fun o => ?_)
  unfold fx_D_chain
  show kv_X _ _ _ _ _ 0 [(0, .ref 84), (1, .int p1), (2, .int p2)] [] (c, m, f, u)
  refine kv_iload_n (pc := 0) 1 rfl rfl dk_D_chain_0 ?_
  refine kv_cS_mZ (pc := 1) (as := [.int p1]) (st := []) ko_D_isChain rfl kw_1615 (Nat.le_of_ble_eq_true rfl) rfl dk_D_chain_1 (cx_D_isChain d p1 c m f u) (fun b1 => ?_)
  refine kv_zif_eq (pc := 4) (tgt := 19) dk_D_chain_4 rfl ?_ ?_
  · refine kv_ldc (pc := 19) (v := (-1000000001 : Int32)) kw_1354 dk_D_chain_19 ?_
    refine kv_goto (pc := 21) (tgt := 43) dk_D_chain_21 rfl ?_
    exact kv_iret (pc := 43) (fun h => h) rfl dk_D_chain_43
  · refine kv_iload_n (pc := 7) 2 rfl rfl dk_D_chain_7 ?_
    refine kv_i2l (pc := 8) dk_D_chain_8 ?_
    refine kv_lconst (pc := 9) (v := (0 : Int64)) dk_D_chain_9 kkl_0 ?_
    refine kv_ldc2 (pc := 10) (v := (2 : Int64)) kw_1380 dk_D_chain_10 ?_
    refine kv_cS_mZ (pc := 13) (as := [.long p2.toInt64, .long (0 : Int64), .long (2 : Int64)]) (st := []) ko_D_isIn rfl kw_1330 (Nat.le_of_ble_eq_true rfl) rfl dk_D_chain_13 (cx_D_isIn (d + 1) p2.toInt64 (0 : Int64) (2 : Int64) c m f u) (fun b2 => ?_)
    refine kv_zif_ne (pc := 16) (tgt := 24) dk_D_chain_16 rfl ?_ ?_
    · refine kv_aload_n (pc := 24) 0 rfl rfl dk_D_chain_24 ?_
      refine kv_iload_n (pc := 25) 1 rfl rfl dk_D_chain_25 ?_
      refine kv_cV_mI (pc := 26) (as := [.int p1]) (st := []) ko_D_links kc_11 rfl rfl kr_84 kw_1620 (Nat.le_of_ble_eq_true rfl) rfl dk_D_chain_26 (cx_D_links (d + 1) p1 c m f u) (fun v3 => ?_)
      refine kv_if_ne (pc := 29) (tgt := 37) dk_D_chain_29 rfl ?_ ?_
      · refine kv_aload_n (pc := 37) 0 rfl rfl dk_D_chain_37 ?_
        refine kv_iload_n (pc := 38) 1 rfl rfl dk_D_chain_38 ?_
        refine kv_iload_n (pc := 39) 2 rfl rfl dk_D_chain_39 ?_
        refine kv_cV_mI (pc := 40) (as := [.int p1, .int p2]) (st := []) ko_D_chainOf kc_11 rfl rfl kr_84 kw_1628 (Nat.le_of_ble_eq_true rfl) rfl dk_D_chain_40 (cx_D_chainOf d p1 p2 c m f u) (fun v4 => ?_)
        exact kv_iret (pc := 43) (fun h => h) rfl dk_D_chain_43
      · refine kv_ldc (pc := 32) (v := (-1000000004 : Int32)) kw_1366 dk_D_chain_32 ?_
        refine kv_goto (pc := 34) (tgt := 43) dk_D_chain_34 rfl ?_
        exact kv_iret (pc := 43) (fun h => h) rfl dk_D_chain_43
    · refine kv_ldc (pc := 19) (v := (-1000000001 : Int32)) kw_1354 dk_D_chain_19 ?_
      refine kv_goto (pc := 21) (tgt := 43) dk_D_chain_21 rfl ?_
      exact kv_iret (pc := 43) (fun h => h) rfl dk_D_chain_43
theorem dk_K_chainsRefusal_0 : decode prog_1_method_50_code 0 = .ok (.iload_n 1, 1) := by decide +kernel
theorem dk_K_chainsRefusal_1 : decode prog_1_method_50_code 1 = .ok (.invokestatic 293, 3) := by decide +kernel
theorem dk_K_chainsRefusal_4 : decode prog_1_method_50_code 4 = .ok (.ifCond .eq 15, 3) := by decide +kernel
theorem dk_K_chainsRefusal_7 : decode prog_1_method_50_code 7 = .ok (.iload_n 2, 1) := by decide +kernel
theorem dk_K_chainsRefusal_8 : decode prog_1_method_50_code 8 = .ok (.invokestatic 293, 3) := by decide +kernel
theorem dk_K_chainsRefusal_11 : decode prog_1_method_50_code 11 = .ok (.ifCond .eq 8, 3) := by decide +kernel
theorem dk_K_chainsRefusal_14 : decode prog_1_method_50_code 14 = .ok (.iload_n 1, 1) := by decide +kernel
theorem dk_K_chainsRefusal_15 : decode prog_1_method_50_code 15 = .ok (.iload_n 2, 1) := by decide +kernel
theorem dk_K_chainsRefusal_16 : decode prog_1_method_50_code 16 = .ok (.if_icmp .ne 5, 3) := by decide +kernel
theorem dk_K_chainsRefusal_19 : decode prog_1_method_50_code 19 = .ok (.iconst (-1), 1) := by decide +kernel
theorem dk_K_chainsRefusal_20 : decode prog_1_method_50_code 20 = .ok (.ireturn, 1) := by decide +kernel
theorem dk_K_chainsRefusal_21 : decode prog_1_method_50_code 21 = .ok (.aload_n 0, 1) := by decide +kernel
theorem dk_K_chainsRefusal_22 : decode prog_1_method_50_code 22 = .ok (.getfield 10, 3) := by decide +kernel
theorem dk_K_chainsRefusal_25 : decode prog_1_method_50_code 25 = .ok (.getfield 296, 3) := by decide +kernel
theorem dk_K_chainsRefusal_28 : decode prog_1_method_50_code 28 = .ok (.getfield 300, 3) := by decide +kernel
theorem dk_K_chainsRefusal_31 : decode prog_1_method_50_code 31 = .ok (.iload_n 1, 1) := by decide +kernel
theorem dk_K_chainsRefusal_32 : decode prog_1_method_50_code 32 = .ok (.iaload, 1) := by decide +kernel
theorem dk_K_chainsRefusal_33 : decode prog_1_method_50_code 33 = .ok (.ifCond .eq 18, 3) := by decide +kernel
theorem dk_K_chainsRefusal_36 : decode prog_1_method_50_code 36 = .ok (.aload_n 0, 1) := by decide +kernel
theorem dk_K_chainsRefusal_37 : decode prog_1_method_50_code 37 = .ok (.getfield 10, 3) := by decide +kernel
theorem dk_K_chainsRefusal_40 : decode prog_1_method_50_code 40 = .ok (.getfield 296, 3) := by decide +kernel
theorem dk_K_chainsRefusal_43 : decode prog_1_method_50_code 43 = .ok (.getfield 300, 3) := by decide +kernel
theorem dk_K_chainsRefusal_46 : decode prog_1_method_50_code 46 = .ok (.iload_n 2, 1) := by decide +kernel
theorem dk_K_chainsRefusal_47 : decode prog_1_method_50_code 47 = .ok (.iaload, 1) := by decide +kernel
theorem dk_K_chainsRefusal_48 : decode prog_1_method_50_code 48 = .ok (.ifCond .ne 8, 3) := by decide +kernel
theorem dk_K_chainsRefusal_51 : decode prog_1_method_50_code 51 = .ok (.bipush (-4), 2) := by decide +kernel
theorem dk_K_chainsRefusal_53 : decode prog_1_method_50_code 53 = .ok (.goto 4, 3) := by decide +kernel
theorem dk_K_chainsRefusal_56 : decode prog_1_method_50_code 56 = .ok (.iconst 0, 1) := by decide +kernel
theorem dk_K_chainsRefusal_57 : decode prog_1_method_50_code 57 = .ok (.ireturn, 1) := by decide +kernel
noncomputable def fx_K_chainsRefusal (p1 : Int32) (p2 : Int32) (c : (Nat → Nat → Int32)) : Option Int32 :=
  kv_bind1 (fx_K_isChain p1) (fun b1 =>
  if b1 = true then
    kv_bind1 (fx_K_isChain p2) (fun b2 =>
    if b2 = true then
      if p1 = p2 then
        some (-1 : Int32)
      else
        kv_gd (kv_in p1 4) (
        if (c 23 p1.toNatClampNeg) = 0 then
          some (-4 : Int32)
        else
          kv_gd (kv_in p2 4) (
          if (c 23 p2.toNatClampNeg) = 0 then
            some (-4 : Int32)
          else
            some (0 : Int32)))
    else
      some (-1 : Int32))
  else
    some (-1 : Int32))
set_option maxRecDepth 20000 in
theorem cx_K_chainsRefusal (d : Nat) (p1 : Int32) (p2 : Int32) (c : (Nat → Nat → Int32)) (y : (Nat → Nat → Int32) × (Nat → Int64) × (Nat → Int64)) : ∀ a, fx_K_chainsRefusal p1 p2 c = some a → kv_C kM_K_chainsRefusal (d + 2) [.ref 0, .int p1, .int p2] (c, y) (some (.int a), (c, y)) := by
  refine kv_entryX (E := fun a : Int32 => (some (.int a), (c, y))) rfl (Nat.le_of_ble_eq_true rfl) (fun o => ?_)
  unfold fx_K_chainsRefusal
  show kv_X _ _ _ _ _ 0 [(0, .ref 0), (1, .int p1), (2, .int p2)] [] (c, y)
  refine kv_iload_n (pc := 0) 1 rfl rfl dk_K_chainsRefusal_0 ?_
  refine kv_cS_cZ (pc := 1) (as := [.int p1]) (st := []) ko_K_isChain rfl kw_924 (Nat.le_of_ble_eq_true rfl) rfl dk_K_chainsRefusal_1 (cx_K_isChain d p1 c y) (fun b1 => ?_)
  refine kv_zif_eq (pc := 4) (tgt := 19) dk_K_chainsRefusal_4 rfl ?_ ?_
  · refine kv_iconst (pc := 19) (v := (-1 : Int32)) dk_K_chainsRefusal_19 kki_m1 ?_
    exact kv_iret (pc := 20) (fun h => h) rfl dk_K_chainsRefusal_20
  · refine kv_iload_n (pc := 7) 2 rfl rfl dk_K_chainsRefusal_7 ?_
    refine kv_cS_cZ (pc := 8) (as := [.int p2]) (st := []) ko_K_isChain rfl kw_924 (Nat.le_of_ble_eq_true rfl) rfl dk_K_chainsRefusal_8 (cx_K_isChain d p2 c y) (fun b2 => ?_)
    refine kv_zif_eq (pc := 11) (tgt := 19) dk_K_chainsRefusal_11 rfl ?_ ?_
    · refine kv_iconst (pc := 19) (v := (-1 : Int32)) dk_K_chainsRefusal_19 kki_m1 ?_
      exact kv_iret (pc := 20) (fun h => h) rfl dk_K_chainsRefusal_20
    · refine kv_iload_n (pc := 14) 1 rfl rfl dk_K_chainsRefusal_14 ?_
      refine kv_iload_n (pc := 15) 2 rfl rfl dk_K_chainsRefusal_15 ?_
      refine kv_icmp_ne (pc := 16) (tgt := 21) dk_K_chainsRefusal_16 rfl ?_ ?_
      · refine kv_aload_n (pc := 21) 0 rfl rfl dk_K_chainsRefusal_21 ?_
        refine kv_getR (pc := 22) kf_K_10 kr_0 rfl kt_0_0 dk_K_chainsRefusal_22 ?_
        refine kv_getR (pc := 25) kf_K_296 kr_1 rfl kt_1_3 dk_K_chainsRefusal_25 ?_
        refine kv_getR (pc := 28) kf_K_300 kr_20 rfl kt_20_2 dk_K_chainsRefusal_28 ?_
        refine kv_iload_n (pc := 31) 1 rfl rfl dk_K_chainsRefusal_31 ?_
        refine kv_guard (fun g3 => ?_)
        refine kv_aldC (pc := 32) kr_23 kn_23 kl_23 g3 rfl dk_K_chainsRefusal_32 ?_
        refine kv_if_eq (pc := 33) (tgt := 51) dk_K_chainsRefusal_33 rfl ?_ ?_
        · refine kv_bipush (pc := 51) (v := (-4 : Int32)) dk_K_chainsRefusal_51 kkb_m4 ?_
          refine kv_goto (pc := 53) (tgt := 57) dk_K_chainsRefusal_53 rfl ?_
          exact kv_iret (pc := 57) (fun h => h) rfl dk_K_chainsRefusal_57
        · refine kv_aload_n (pc := 36) 0 rfl rfl dk_K_chainsRefusal_36 ?_
          refine kv_getR (pc := 37) kf_K_10 kr_0 rfl kt_0_0 dk_K_chainsRefusal_37 ?_
          refine kv_getR (pc := 40) kf_K_296 kr_1 rfl kt_1_3 dk_K_chainsRefusal_40 ?_
          refine kv_getR (pc := 43) kf_K_300 kr_20 rfl kt_20_2 dk_K_chainsRefusal_43 ?_
          refine kv_iload_n (pc := 46) 2 rfl rfl dk_K_chainsRefusal_46 ?_
          refine kv_guard (fun g4 => ?_)
          refine kv_aldC (pc := 47) kr_23 kn_23 kl_23 g4 rfl dk_K_chainsRefusal_47 ?_
          refine kv_if_ne (pc := 48) (tgt := 56) dk_K_chainsRefusal_48 rfl ?_ ?_
          · refine kv_iconst (pc := 56) (v := (0 : Int32)) dk_K_chainsRefusal_56 kki_0 ?_
            exact kv_iret (pc := 57) (fun h => h) rfl dk_K_chainsRefusal_57
          · refine kv_bipush (pc := 51) (v := (-4 : Int32)) dk_K_chainsRefusal_51 kkb_m4 ?_
            refine kv_goto (pc := 53) (tgt := 57) dk_K_chainsRefusal_53 rfl ?_
            exact kv_iret (pc := 57) (fun h => h) rfl dk_K_chainsRefusal_57
      · refine kv_iconst (pc := 19) (v := (-1 : Int32)) dk_K_chainsRefusal_19 kki_m1 ?_
        exact kv_iret (pc := 20) (fun h => h) rfl dk_K_chainsRefusal_20
theorem dk_Chains_lack_0 : decode prog_2_method_5_code 0 = .ok (.aload_n 0, 1) := by decide +kernel
theorem dk_Chains_lack_1 : decode prog_2_method_5_code 1 = .ok (.iload_n 1, 1) := by decide +kernel
theorem dk_Chains_lack_2 : decode prog_2_method_5_code 2 = .ok (.invokevirtual 24, 3) := by decide +kernel
theorem dk_Chains_lack_5 : decode prog_2_method_5_code 5 = .ok (.aload_n 0, 1) := by decide +kernel
theorem dk_Chains_lack_6 : decode prog_2_method_5_code 6 = .ok (.iload_n 2, 1) := by decide +kernel
theorem dk_Chains_lack_7 : decode prog_2_method_5_code 7 = .ok (.invokevirtual 24, 3) := by decide +kernel
theorem dk_Chains_lack_10 : decode prog_2_method_5_code 10 = .ok (.isub, 1) := by decide +kernel
theorem dk_Chains_lack_11 : decode prog_2_method_5_code 11 = .ok (.invokestatic 28, 3) := by decide +kernel
theorem dk_Chains_lack_14 : decode prog_2_method_5_code 14 = .ok (.aload_n 0, 1) := by decide +kernel
theorem dk_Chains_lack_15 : decode prog_2_method_5_code 15 = .ok (.iload_n 1, 1) := by decide +kernel
theorem dk_Chains_lack_16 : decode prog_2_method_5_code 16 = .ok (.invokevirtual 33, 3) := by decide +kernel
theorem dk_Chains_lack_19 : decode prog_2_method_5_code 19 = .ok (.isub, 1) := by decide +kernel
theorem dk_Chains_lack_20 : decode prog_2_method_5_code 20 = .ok (.aload_n 0, 1) := by decide +kernel
theorem dk_Chains_lack_21 : decode prog_2_method_5_code 21 = .ok (.iload_n 2, 1) := by decide +kernel
theorem dk_Chains_lack_22 : decode prog_2_method_5_code 22 = .ok (.invokevirtual 33, 3) := by decide +kernel
theorem dk_Chains_lack_25 : decode prog_2_method_5_code 25 = .ok (.isub, 1) := by decide +kernel
theorem dk_Chains_lack_26 : decode prog_2_method_5_code 26 = .ok (.ireturn, 1) := by decide +kernel
noncomputable def fx_Chains_lack (p1 : Int32) (p2 : Int32) (c : (Nat → Nat → Int32)) : Option Int32 :=
  kv_bind1 (fx_Chains_sum p1 c) (fun v1 =>
  kv_bind1 (fx_Chains_sum p2 c) (fun v2 =>
  kv_bind1 (fx_Chains_doubtOf p1 c) (fun v3 =>
  kv_bind1 (fx_Chains_doubtOf p2 c) (fun v4 =>
  some (((if 0 ≤ (v1 - v2) then (v1 - v2) else 0 - (v1 - v2)) - v3) - v4)))))
set_option maxRecDepth 20000 in
theorem cx_Chains_lack (d : Nat) (p1 : Int32) (p2 : Int32) (c : (Nat → Nat → Int32)) (y : (Nat → Nat → Int32) × (Nat → Int64) × (Nat → Int64)) : ∀ a, fx_Chains_lack p1 p2 c = some a → kv_C kM_Chains_lack (d + 1) [.ref 20, .int p1, .int p2] (c, y) (some (.int a), (c, y)) := by
  refine kv_entryX (E := fun a : Int32 => (some (.int a), (c, y))) rfl (Nat.le_of_ble_eq_true rfl) (fun o => ?_)
  unfold fx_Chains_lack
  show kv_X _ _ _ _ _ 0 [(0, .ref 20), (1, .int p1), (2, .int p2)] [] (c, y)
  refine kv_aload_n (pc := 0) 0 rfl rfl dk_Chains_lack_0 ?_
  refine kv_iload_n (pc := 1) 1 rfl rfl dk_Chains_lack_1 ?_
  refine kv_cV_cI (pc := 2) (as := [.int p1]) (st := []) ko_Chains_sum kc_0 rfl rfl kr_20 kw_955 (Nat.le_of_ble_eq_true rfl) rfl dk_Chains_lack_2 (cx_Chains_sum d p1 c y) (fun v1 => ?_)
  refine kv_aload_n (pc := 5) 0 rfl rfl dk_Chains_lack_5 ?_
  refine kv_iload_n (pc := 6) 2 rfl rfl dk_Chains_lack_6 ?_
  refine kv_cV_cI (pc := 7) (as := [.int p2]) (st := [.int v1]) ko_Chains_sum kc_0 rfl rfl kr_20 kw_955 (Nat.le_of_ble_eq_true rfl) rfl dk_Chains_lack_7 (cx_Chains_sum d p2 c y) (fun v2 => ?_)
  refine kv_isub (pc := 10) dk_Chains_lack_10 ?_
  refine kv_mabs (pc := 11) kw_956 kw_957 kw_84 kv_wmabs (Nat.le_of_ble_eq_true rfl) dk_Chains_lack_11 ?_
  refine kv_aload_n (pc := 14) 0 rfl rfl dk_Chains_lack_14 ?_
  refine kv_iload_n (pc := 15) 1 rfl rfl dk_Chains_lack_15 ?_
  refine kv_cV_cI (pc := 16) (as := [.int p1]) (st := [.int (if 0 ≤ (v1 - v2) then (v1 - v2) else 0 - (v1 - v2))]) ko_Chains_doubtOf kc_0 rfl rfl kr_20 kw_959 (Nat.le_of_ble_eq_true rfl) rfl dk_Chains_lack_16 (cx_Chains_doubtOf d p1 c y) (fun v3 => ?_)
  refine kv_isub (pc := 19) dk_Chains_lack_19 ?_
  refine kv_aload_n (pc := 20) 0 rfl rfl dk_Chains_lack_20 ?_
  refine kv_iload_n (pc := 21) 2 rfl rfl dk_Chains_lack_21 ?_
  refine kv_cV_cI (pc := 22) (as := [.int p2]) (st := [.int ((if 0 ≤ (v1 - v2) then (v1 - v2) else 0 - (v1 - v2)) - v3)]) ko_Chains_doubtOf kc_0 rfl rfl kr_20 kw_959 (Nat.le_of_ble_eq_true rfl) rfl dk_Chains_lack_22 (cx_Chains_doubtOf d p2 c y) (fun v4 => ?_)
  refine kv_isub (pc := 25) dk_Chains_lack_25 ?_
  exact kv_iret (pc := 26) (fun h => h) rfl dk_Chains_lack_26
theorem dk_K_agree_0 : decode prog_1_method_26_code 0 = .ok (.aload_n 0, 1) := by decide +kernel
theorem dk_K_agree_1 : decode prog_1_method_26_code 1 = .ok (.iload_n 1, 1) := by decide +kernel
theorem dk_K_agree_2 : decode prog_1_method_26_code 2 = .ok (.iload_n 2, 1) := by decide +kernel
theorem dk_K_agree_3 : decode prog_1_method_26_code 3 = .ok (.invokevirtual 312, 3) := by decide +kernel
theorem dk_K_agree_6 : decode prog_1_method_26_code 6 = .ok (.istore_n 3, 1) := by decide +kernel
theorem dk_K_agree_7 : decode prog_1_method_26_code 7 = .ok (.iload_n 3, 1) := by decide +kernel
theorem dk_K_agree_8 : decode prog_1_method_26_code 8 = .ok (.ifCond .eq 5, 3) := by decide +kernel
theorem dk_K_agree_11 : decode prog_1_method_26_code 11 = .ok (.iload_n 3, 1) := by decide +kernel
theorem dk_K_agree_12 : decode prog_1_method_26_code 12 = .ok (.ireturn, 1) := by decide +kernel
theorem dk_K_agree_13 : decode prog_1_method_26_code 13 = .ok (.aload_n 0, 1) := by decide +kernel
theorem dk_K_agree_14 : decode prog_1_method_26_code 14 = .ok (.getfield 10, 3) := by decide +kernel
theorem dk_K_agree_17 : decode prog_1_method_26_code 17 = .ok (.getfield 296, 3) := by decide +kernel
theorem dk_K_agree_20 : decode prog_1_method_26_code 20 = .ok (.iload_n 1, 1) := by decide +kernel
theorem dk_K_agree_21 : decode prog_1_method_26_code 21 = .ok (.iload_n 2, 1) := by decide +kernel
theorem dk_K_agree_22 : decode prog_1_method_26_code 22 = .ok (.invokevirtual 315, 3) := by decide +kernel
theorem dk_K_agree_25 : decode prog_1_method_26_code 25 = .ok (.ifCond .gt 7, 3) := by decide +kernel
theorem dk_K_agree_28 : decode prog_1_method_26_code 28 = .ok (.iconst 1, 1) := by decide +kernel
theorem dk_K_agree_29 : decode prog_1_method_26_code 29 = .ok (.goto 4, 3) := by decide +kernel
theorem dk_K_agree_32 : decode prog_1_method_26_code 32 = .ok (.iconst 0, 1) := by decide +kernel
theorem dk_K_agree_33 : decode prog_1_method_26_code 33 = .ok (.ireturn, 1) := by decide +kernel
noncomputable def fx_K_agree (p1 : Int32) (p2 : Int32) (c : (Nat → Nat → Int32)) : Option Int32 :=
  kv_bind1 (fx_K_chainsRefusal p1 p2 c) (fun v1 =>
  if v1 = 0 then
    kv_bind1 (fx_Chains_lack p1 p2 c) (fun v2 =>
    if 0 < v2 then
      some (0 : Int32)
    else
      some (1 : Int32))
  else
    some v1)
set_option maxRecDepth 20000 in
theorem cx_K_agree (d : Nat) (p1 : Int32) (p2 : Int32) (c : (Nat → Nat → Int32)) (y : (Nat → Nat → Int32) × (Nat → Int64) × (Nat → Int64)) : ∀ a, fx_K_agree p1 p2 c = some a → kv_C kM_K_agree (d + 3) [.ref 0, .int p1, .int p2] (c, y) (some (.int a), (c, y)) := by
  refine kv_entryX (E := fun a : Int32 => (some (.int a), (c, y))) rfl (Nat.le_of_ble_eq_true rfl) (fun o => ?_)
  unfold fx_K_agree
  show kv_X _ _ _ _ _ 0 [(0, .ref 0), (1, .int p1), (2, .int p2)] [] (c, y)
  refine kv_aload_n (pc := 0) 0 rfl rfl dk_K_agree_0 ?_
  refine kv_iload_n (pc := 1) 1 rfl rfl dk_K_agree_1 ?_
  refine kv_iload_n (pc := 2) 2 rfl rfl dk_K_agree_2 ?_
  refine kv_cV_cI (pc := 3) (as := [.int p1, .int p2]) (st := []) ko_K_chainsRefusal kc_10 rfl rfl kr_0 kw_947 (Nat.le_of_ble_eq_true rfl) rfl dk_K_agree_3 (cx_K_chainsRefusal d p1 p2 c y) (fun v1 => ?_)
  refine kv_istore_n (pc := 6) (lv' := [(3, .int v1), (0, .ref 0), (1, .int p1), (2, .int p2)]) rfl (Nat.le_of_ble_eq_true rfl) rfl dk_K_agree_6 ?_
  refine kv_iload_n (pc := 7) 0 rfl rfl dk_K_agree_7 ?_
  refine kv_if_eq (pc := 8) (tgt := 13) dk_K_agree_8 rfl ?_ ?_
  · refine kv_aload_n (pc := 13) 1 rfl rfl dk_K_agree_13 ?_
    refine kv_getR (pc := 14) kf_K_10 kr_0 rfl kt_0_0 dk_K_agree_14 ?_
    refine kv_getR (pc := 17) kf_K_296 kr_1 rfl kt_1_3 dk_K_agree_17 ?_
    refine kv_iload_n (pc := 20) 2 rfl rfl dk_K_agree_20 ?_
    refine kv_iload_n (pc := 21) 3 rfl rfl dk_K_agree_21 ?_
    refine kv_cV_cI (pc := 22) (as := [.int p1, .int p2]) (st := []) ko_Chains_lack kc_0 rfl rfl kr_20 kw_951 (Nat.le_of_ble_eq_true rfl) rfl dk_K_agree_22 (cx_Chains_lack (d + 1) p1 p2 c y) (fun v2 => ?_)
    refine kv_if_gt (pc := 25) (tgt := 32) dk_K_agree_25 rfl ?_ ?_
    · refine kv_iconst (pc := 32) (v := (0 : Int32)) dk_K_agree_32 kki_0 ?_
      exact kv_iret (pc := 33) (fun h => h) rfl dk_K_agree_33
    · refine kv_iconst (pc := 28) (v := (1 : Int32)) dk_K_agree_28 kki_1 ?_
      refine kv_goto (pc := 29) (tgt := 33) dk_K_agree_29 rfl ?_
      exact kv_iret (pc := 33) (fun h => h) rfl dk_K_agree_33
  · refine kv_iload_n (pc := 11) 0 rfl rfl dk_K_agree_11 ?_
    exact kv_iret (pc := 12) (fun h => h) rfl dk_K_agree_12
theorem dk_D_wrongChains_0 : decode prog_13_method_75_code 0 = .ok (.iload_n 1, 1) := by decide +kernel
theorem dk_D_wrongChains_1 : decode prog_13_method_75_code 1 = .ok (.invokestatic 278, 3) := by decide +kernel
theorem dk_D_wrongChains_4 : decode prog_13_method_75_code 4 = .ok (.ifCond .eq 15, 3) := by decide +kernel
theorem dk_D_wrongChains_7 : decode prog_13_method_75_code 7 = .ok (.iload_n 2, 1) := by decide +kernel
theorem dk_D_wrongChains_8 : decode prog_13_method_75_code 8 = .ok (.invokestatic 278, 3) := by decide +kernel
theorem dk_D_wrongChains_11 : decode prog_13_method_75_code 11 = .ok (.ifCond .eq 8, 3) := by decide +kernel
theorem dk_D_wrongChains_14 : decode prog_13_method_75_code 14 = .ok (.iload_n 1, 1) := by decide +kernel
theorem dk_D_wrongChains_15 : decode prog_13_method_75_code 15 = .ok (.iload_n 2, 1) := by decide +kernel
theorem dk_D_wrongChains_16 : decode prog_13_method_75_code 16 = .ok (.if_icmp .ne 7, 3) := by decide +kernel
theorem dk_D_wrongChains_19 : decode prog_13_method_75_code 19 = .ok (.iconst (-1), 1) := by decide +kernel
theorem dk_D_wrongChains_20 : decode prog_13_method_75_code 20 = .ok (.goto 25, 3) := by decide +kernel
theorem dk_D_wrongChains_23 : decode prog_13_method_75_code 23 = .ok (.aload_n 0, 1) := by decide +kernel
theorem dk_D_wrongChains_24 : decode prog_13_method_75_code 24 = .ok (.iload_n 1, 1) := by decide +kernel
theorem dk_D_wrongChains_25 : decode prog_13_method_75_code 25 = .ok (.invokevirtual 285, 3) := by decide +kernel
theorem dk_D_wrongChains_28 : decode prog_13_method_75_code 28 = .ok (.ifCond .eq 11, 3) := by decide +kernel
theorem dk_D_wrongChains_31 : decode prog_13_method_75_code 31 = .ok (.aload_n 0, 1) := by decide +kernel
theorem dk_D_wrongChains_32 : decode prog_13_method_75_code 32 = .ok (.iload_n 2, 1) := by decide +kernel
theorem dk_D_wrongChains_33 : decode prog_13_method_75_code 33 = .ok (.invokevirtual 285, 3) := by decide +kernel
theorem dk_D_wrongChains_36 : decode prog_13_method_75_code 36 = .ok (.ifCond .ne 8, 3) := by decide +kernel
theorem dk_D_wrongChains_39 : decode prog_13_method_75_code 39 = .ok (.bipush (-4), 2) := by decide +kernel
theorem dk_D_wrongChains_41 : decode prog_13_method_75_code 41 = .ok (.goto 4, 3) := by decide +kernel
theorem dk_D_wrongChains_44 : decode prog_13_method_75_code 44 = .ok (.iconst 0, 1) := by decide +kernel
theorem dk_D_wrongChains_45 : decode prog_13_method_75_code 45 = .ok (.ireturn, 1) := by decide +kernel
noncomputable def fx_D_wrongChains (p1 : Int32) (p2 : Int32) (m : (Nat → Nat → Int32)) : Option Int32 :=
  kv_bind1 (fx_D_isChain p1) (fun b1 =>
  if b1 = true then
    kv_bind1 (fx_D_isChain p2) (fun b2 =>
    if b2 = true then
      if p1 = p2 then
        some (-1 : Int32)
      else
        kv_bind1 (fx_D_links p1 m) (fun v3 =>
        if v3 = 0 then
          some (-4 : Int32)
        else
          kv_bind1 (fx_D_links p2 m) (fun v4 =>
          if v4 = 0 then
            some (-4 : Int32)
          else
            some (0 : Int32)))
    else
      some (-1 : Int32))
  else
    some (-1 : Int32))
set_option maxRecDepth 20000 in
theorem cx_D_wrongChains (d : Nat) (p1 : Int32) (p2 : Int32) (c : (Nat → Nat → Int32)) (m : (Nat → Nat → Int32)) (f : (Nat → Int64)) (u : (Nat → Int64)) : ∀ a, fx_D_wrongChains p1 p2 m = some a → kv_C kM_D_wrongChains (d + 2) [.ref 84, .int p1, .int p2] (c, m, f, u) (some (.int a), (c, m, f, u)) := by
  refine kv_entryX (E := fun a : Int32 => (some (.int a), (c, m, f, u))) rfl (Nat.le_of_ble_eq_true rfl) (fun o => ?_)
  unfold fx_D_wrongChains
  show kv_X _ _ _ _ _ 0 [(0, .ref 84), (1, .int p1), (2, .int p2)] [] (c, m, f, u)
  refine kv_iload_n (pc := 0) 1 rfl rfl dk_D_wrongChains_0 ?_
  refine kv_cS_mZ (pc := 1) (as := [.int p1]) (st := []) ko_D_isChain rfl kw_1615 (Nat.le_of_ble_eq_true rfl) rfl dk_D_wrongChains_1 (cx_D_isChain d p1 c m f u) (fun b1 => ?_)
  refine kv_zif_eq (pc := 4) (tgt := 19) dk_D_wrongChains_4 rfl ?_ ?_
  · refine kv_iconst (pc := 19) (v := (-1 : Int32)) dk_D_wrongChains_19 kki_m1 ?_
    refine kv_goto (pc := 20) (tgt := 45) dk_D_wrongChains_20 rfl ?_
    exact kv_iret (pc := 45) (fun h => h) rfl dk_D_wrongChains_45
  · refine kv_iload_n (pc := 7) 2 rfl rfl dk_D_wrongChains_7 ?_
    refine kv_cS_mZ (pc := 8) (as := [.int p2]) (st := []) ko_D_isChain rfl kw_1615 (Nat.le_of_ble_eq_true rfl) rfl dk_D_wrongChains_8 (cx_D_isChain d p2 c m f u) (fun b2 => ?_)
    refine kv_zif_eq (pc := 11) (tgt := 19) dk_D_wrongChains_11 rfl ?_ ?_
    · refine kv_iconst (pc := 19) (v := (-1 : Int32)) dk_D_wrongChains_19 kki_m1 ?_
      refine kv_goto (pc := 20) (tgt := 45) dk_D_wrongChains_20 rfl ?_
      exact kv_iret (pc := 45) (fun h => h) rfl dk_D_wrongChains_45
    · refine kv_iload_n (pc := 14) 1 rfl rfl dk_D_wrongChains_14 ?_
      refine kv_iload_n (pc := 15) 2 rfl rfl dk_D_wrongChains_15 ?_
      refine kv_icmp_ne (pc := 16) (tgt := 23) dk_D_wrongChains_16 rfl ?_ ?_
      · refine kv_aload_n (pc := 23) 0 rfl rfl dk_D_wrongChains_23 ?_
        refine kv_iload_n (pc := 24) 1 rfl rfl dk_D_wrongChains_24 ?_
        refine kv_cV_mI (pc := 25) (as := [.int p1]) (st := []) ko_D_links kc_11 rfl rfl kr_84 kw_1620 (Nat.le_of_ble_eq_true rfl) rfl dk_D_wrongChains_25 (cx_D_links (d + 1) p1 c m f u) (fun v3 => ?_)
        refine kv_if_eq (pc := 28) (tgt := 39) dk_D_wrongChains_28 rfl ?_ ?_
        · refine kv_bipush (pc := 39) (v := (-4 : Int32)) dk_D_wrongChains_39 kkb_m4 ?_
          refine kv_goto (pc := 41) (tgt := 45) dk_D_wrongChains_41 rfl ?_
          exact kv_iret (pc := 45) (fun h => h) rfl dk_D_wrongChains_45
        · refine kv_aload_n (pc := 31) 0 rfl rfl dk_D_wrongChains_31 ?_
          refine kv_iload_n (pc := 32) 2 rfl rfl dk_D_wrongChains_32 ?_
          refine kv_cV_mI (pc := 33) (as := [.int p2]) (st := []) ko_D_links kc_11 rfl rfl kr_84 kw_1620 (Nat.le_of_ble_eq_true rfl) rfl dk_D_wrongChains_33 (cx_D_links (d + 1) p2 c m f u) (fun v4 => ?_)
          refine kv_if_ne (pc := 36) (tgt := 44) dk_D_wrongChains_36 rfl ?_ ?_
          · refine kv_iconst (pc := 44) (v := (0 : Int32)) dk_D_wrongChains_44 kki_0 ?_
            exact kv_iret (pc := 45) (fun h => h) rfl dk_D_wrongChains_45
          · refine kv_bipush (pc := 39) (v := (-4 : Int32)) dk_D_wrongChains_39 kkb_m4 ?_
            refine kv_goto (pc := 41) (tgt := 45) dk_D_wrongChains_41 rfl ?_
            exact kv_iret (pc := 45) (fun h => h) rfl dk_D_wrongChains_45
      · refine kv_iconst (pc := 19) (v := (-1 : Int32)) dk_D_wrongChains_19 kki_m1 ?_
        refine kv_goto (pc := 20) (tgt := 45) dk_D_wrongChains_20 rfl ?_
        exact kv_iret (pc := 45) (fun h => h) rfl dk_D_wrongChains_45
theorem dk_D_agrees_0 : decode prog_13_method_74_code 0 = .ok (.aload_n 0, 1) := by decide +kernel
theorem dk_D_agrees_1 : decode prog_13_method_74_code 1 = .ok (.iload_n 1, 1) := by decide +kernel
theorem dk_D_agrees_2 : decode prog_13_method_74_code 2 = .ok (.iconst 0, 1) := by decide +kernel
theorem dk_D_agrees_3 : decode prog_13_method_74_code 3 = .ok (.invokevirtual 288, 3) := by decide +kernel
theorem dk_D_agrees_6 : decode prog_13_method_74_code 6 = .ok (.aload_n 0, 1) := by decide +kernel
theorem dk_D_agrees_7 : decode prog_13_method_74_code 7 = .ok (.iload_n 2, 1) := by decide +kernel
theorem dk_D_agrees_8 : decode prog_13_method_74_code 8 = .ok (.iconst 0, 1) := by decide +kernel
theorem dk_D_agrees_9 : decode prog_13_method_74_code 9 = .ok (.invokevirtual 288, 3) := by decide +kernel
theorem dk_D_agrees_12 : decode prog_13_method_74_code 12 = .ok (.isub, 1) := by decide +kernel
theorem dk_D_agrees_13 : decode prog_13_method_74_code 13 = .ok (.istore 4, 2) := by decide +kernel
theorem dk_D_agrees_15 : decode prog_13_method_74_code 15 = .ok (.iload 4, 2) := by decide +kernel
theorem dk_D_agrees_17 : decode prog_13_method_74_code 17 = .ok (.ifCond .ge 9, 3) := by decide +kernel
theorem dk_D_agrees_20 : decode prog_13_method_74_code 20 = .ok (.iload 4, 2) := by decide +kernel
theorem dk_D_agrees_22 : decode prog_13_method_74_code 22 = .ok (.ineg, 1) := by decide +kernel
theorem dk_D_agrees_23 : decode prog_13_method_74_code 23 = .ok (.goto 5, 3) := by decide +kernel
theorem dk_D_agrees_26 : decode prog_13_method_74_code 26 = .ok (.iload 4, 2) := by decide +kernel
theorem dk_D_agrees_28 : decode prog_13_method_74_code 28 = .ok (.aload_n 0, 1) := by decide +kernel
theorem dk_D_agrees_29 : decode prog_13_method_74_code 29 = .ok (.iload_n 1, 1) := by decide +kernel
theorem dk_D_agrees_30 : decode prog_13_method_74_code 30 = .ok (.iconst 1, 1) := by decide +kernel
theorem dk_D_agrees_31 : decode prog_13_method_74_code 31 = .ok (.invokevirtual 288, 3) := by decide +kernel
theorem dk_D_agrees_34 : decode prog_13_method_74_code 34 = .ok (.aload_n 0, 1) := by decide +kernel
theorem dk_D_agrees_35 : decode prog_13_method_74_code 35 = .ok (.iload_n 2, 1) := by decide +kernel
theorem dk_D_agrees_36 : decode prog_13_method_74_code 36 = .ok (.iconst 1, 1) := by decide +kernel
theorem dk_D_agrees_37 : decode prog_13_method_74_code 37 = .ok (.invokevirtual 288, 3) := by decide +kernel
theorem dk_D_agrees_40 : decode prog_13_method_74_code 40 = .ok (.iadd, 1) := by decide +kernel
theorem dk_D_agrees_41 : decode prog_13_method_74_code 41 = .ok (.iload_n 3, 1) := by decide +kernel
theorem dk_D_agrees_42 : decode prog_13_method_74_code 42 = .ok (.iadd, 1) := by decide +kernel
theorem dk_D_agrees_43 : decode prog_13_method_74_code 43 = .ok (.if_icmp .gt 7, 3) := by decide +kernel
theorem dk_D_agrees_46 : decode prog_13_method_74_code 46 = .ok (.iconst 1, 1) := by decide +kernel
theorem dk_D_agrees_47 : decode prog_13_method_74_code 47 = .ok (.goto 4, 3) := by decide +kernel
theorem dk_D_agrees_50 : decode prog_13_method_74_code 50 = .ok (.iconst 0, 1) := by decide +kernel
theorem dk_D_agrees_51 : decode prog_13_method_74_code 51 = .ok (.ireturn, 1) := by decide +kernel
noncomputable def fj_D_agrees_28 (p1 : Int32) (m : (Nat → Nat → Int32)) (p2 : Int32) (p3 : Int32) (x4 : Int32) : Option Bool :=
  kv_bind1 (fx_D_chainOf p1 (1 : Int32) m) (fun v5 =>
  kv_bind1 (fx_D_chainOf p2 (1 : Int32) m) (fun v6 =>
  if ((v5 + v6) + p3) < x4 then
    some false
  else
    some true))
noncomputable def fx_D_agrees (p1 : Int32) (p2 : Int32) (p3 : Int32) (m : (Nat → Nat → Int32)) : Option Bool :=
  kv_bind1 (fx_D_chainOf p1 (0 : Int32) m) (fun v1 =>
  kv_bind1 (fx_D_chainOf p2 (0 : Int32) m) (fun v2 =>
  kv_let (v1 - v2) (fun v3 =>
  if 0 ≤ v3 then
    fj_D_agrees_28 p1 m p2 p3 v3
  else
    fj_D_agrees_28 p1 m p2 p3 (-v3))))
set_option maxRecDepth 20000 in
theorem cx_D_agrees (d : Nat) (p1 : Int32) (p2 : Int32) (p3 : Int32) (c : (Nat → Nat → Int32)) (m : (Nat → Nat → Int32)) (f : (Nat → Int64)) (u : (Nat → Int64)) : ∀ a, fx_D_agrees p1 p2 p3 m = some a → kv_C kM_D_agrees (d + 2) [.ref 84, .int p1, .int p2, .int p3] (c, m, f, u) (some (.int (kv_b a)), (c, m, f, u)) := by
  refine kv_entryX (E := fun a : Bool => (some (.int (kv_b a)), (c, m, f, u))) rfl (Nat.le_of_ble_eq_true rfl) (fun o => ?_)
  unfold fx_D_agrees
  show kv_X _ _ _ _ _ 0 [(0, .ref 84), (1, .int p1), (2, .int p2), (3, .int p3)] [] (c, m, f, u)
  refine kv_aload_n (pc := 0) 0 rfl rfl dk_D_agrees_0 ?_
  refine kv_iload_n (pc := 1) 1 rfl rfl dk_D_agrees_1 ?_
  refine kv_iconst (pc := 2) (v := (0 : Int32)) dk_D_agrees_2 kki_0 ?_
  refine kv_cV_mI (pc := 3) (as := [.int p1, .int (0 : Int32)]) (st := []) ko_D_chainOf kc_11 rfl rfl kr_84 kw_1628 (Nat.le_of_ble_eq_true rfl) rfl dk_D_agrees_3 (cx_D_chainOf d p1 (0 : Int32) c m f u) (fun v1 => ?_)
  refine kv_aload_n (pc := 6) 0 rfl rfl dk_D_agrees_6 ?_
  refine kv_iload_n (pc := 7) 2 rfl rfl dk_D_agrees_7 ?_
  refine kv_iconst (pc := 8) (v := (0 : Int32)) dk_D_agrees_8 kki_0 ?_
  refine kv_cV_mI (pc := 9) (as := [.int p2, .int (0 : Int32)]) (st := [.int v1]) ko_D_chainOf kc_11 rfl rfl kr_84 kw_1628 (Nat.le_of_ble_eq_true rfl) rfl dk_D_agrees_9 (cx_D_chainOf d p2 (0 : Int32) c m f u) (fun v2 => ?_)
  refine kv_isub (pc := 12) dk_D_agrees_12 ?_
  refine kv_letI (fun v3 => ?_)
  refine kv_istore (pc := 13) (lv' := [(4, .int v3), (0, .ref 84), (1, .int p1), (2, .int p2), (3, .int p3)]) rfl (Nat.le_of_ble_eq_true rfl) dk_D_agrees_13 ?_
  refine kv_iload (pc := 15) 0 rfl dk_D_agrees_15 ?_
  refine kv_cut_1 (J := fj_D_agrees_28 p1 m p2 p3) (pcj := 28) (LJ := fun x4 => [(0, .ref 84), (1, .int p1), (2, .int p2), (3, .int p3)]) (SJ := fun x4 => [.int x4]) (WJ := fun x4 => (c, m, f, u)) ?_ (fun hj28 => ?_)
  · intro x4
    show kv_X _ _ _ _ (fj_D_agrees_28 p1 m p2 p3 x4) 28 [(0, .ref 84), (1, .int p1), (2, .int p2), (3, .int p3)] [.int x4] (c, m, f, u)
    unfold fj_D_agrees_28
    refine kv_aload_n (pc := 28) 0 rfl rfl dk_D_agrees_28 ?_
    refine kv_iload_n (pc := 29) 1 rfl rfl dk_D_agrees_29 ?_
    refine kv_iconst (pc := 30) (v := (1 : Int32)) dk_D_agrees_30 kki_1 ?_
    refine kv_cV_mI (pc := 31) (as := [.int p1, .int (1 : Int32)]) (st := [.int x4]) ko_D_chainOf kc_11 rfl rfl kr_84 kw_1628 (Nat.le_of_ble_eq_true rfl) rfl dk_D_agrees_31 (cx_D_chainOf d p1 (1 : Int32) c m f u) (fun v5 => ?_)
    refine kv_aload_n (pc := 34) 0 rfl rfl dk_D_agrees_34 ?_
    refine kv_iload_n (pc := 35) 2 rfl rfl dk_D_agrees_35 ?_
    refine kv_iconst (pc := 36) (v := (1 : Int32)) dk_D_agrees_36 kki_1 ?_
    refine kv_cV_mI (pc := 37) (as := [.int p2, .int (1 : Int32)]) (st := [.int v5, .int x4]) ko_D_chainOf kc_11 rfl rfl kr_84 kw_1628 (Nat.le_of_ble_eq_true rfl) rfl dk_D_agrees_37 (cx_D_chainOf d p2 (1 : Int32) c m f u) (fun v6 => ?_)
    refine kv_iadd (pc := 40) dk_D_agrees_40 ?_
    refine kv_iload_n (pc := 41) 3 rfl rfl dk_D_agrees_41 ?_
    refine kv_iadd (pc := 42) dk_D_agrees_42 ?_
    refine kv_icmp_gt (pc := 43) (tgt := 50) dk_D_agrees_43 rfl ?_ ?_
    · refine kv_iconst (pc := 50) (v := (0 : Int32)) dk_D_agrees_50 kki_0 ?_
      exact kv_zret (pc := 51) (b := false) (fun h => h) rfl dk_D_agrees_51
    · refine kv_iconst (pc := 46) (v := (1 : Int32)) dk_D_agrees_46 kki_1 ?_
      refine kv_goto (pc := 47) (tgt := 51) dk_D_agrees_47 rfl ?_
      exact kv_zret (pc := 51) (b := true) (fun h => h) rfl dk_D_agrees_51
  refine kv_if_ge (pc := 17) (tgt := 26) dk_D_agrees_17 rfl ?_ ?_
  · refine kv_iload (pc := 26) 0 rfl dk_D_agrees_26 ?_
    exact kv_sub [1, 2, 3, 4] rfl (hj28 v3)
  · refine kv_iload (pc := 20) 0 rfl dk_D_agrees_20 ?_
    refine kv_ineg (pc := 22) dk_D_agrees_22 ?_
    refine kv_goto (pc := 23) (tgt := 28) dk_D_agrees_23 rfl ?_
    exact kv_sub [1, 2, 3, 4] rfl (hj28 (-v3))
theorem dk_D_agree_0 : decode prog_13_method_76_code 0 = .ok (.aload_n 0, 1) := by decide +kernel
theorem dk_D_agree_1 : decode prog_13_method_76_code 1 = .ok (.iload_n 1, 1) := by decide +kernel
theorem dk_D_agree_2 : decode prog_13_method_76_code 2 = .ok (.iload_n 2, 1) := by decide +kernel
theorem dk_D_agree_3 : decode prog_13_method_76_code 3 = .ok (.invokevirtual 291, 3) := by decide +kernel
theorem dk_D_agree_6 : decode prog_13_method_76_code 6 = .ok (.istore_n 3, 1) := by decide +kernel
theorem dk_D_agree_7 : decode prog_13_method_76_code 7 = .ok (.iload_n 3, 1) := by decide +kernel
theorem dk_D_agree_8 : decode prog_13_method_76_code 8 = .ok (.ifCond .eq 7, 3) := by decide +kernel
theorem dk_D_agree_11 : decode prog_13_method_76_code 11 = .ok (.iload_n 3, 1) := by decide +kernel
theorem dk_D_agree_12 : decode prog_13_method_76_code 12 = .ok (.goto 18, 3) := by decide +kernel
theorem dk_D_agree_15 : decode prog_13_method_76_code 15 = .ok (.aload_n 0, 1) := by decide +kernel
theorem dk_D_agree_16 : decode prog_13_method_76_code 16 = .ok (.iload_n 1, 1) := by decide +kernel
theorem dk_D_agree_17 : decode prog_13_method_76_code 17 = .ok (.iload_n 2, 1) := by decide +kernel
theorem dk_D_agree_18 : decode prog_13_method_76_code 18 = .ok (.iconst 0, 1) := by decide +kernel
theorem dk_D_agree_19 : decode prog_13_method_76_code 19 = .ok (.invokevirtual 294, 3) := by decide +kernel
theorem dk_D_agree_22 : decode prog_13_method_76_code 22 = .ok (.ifCond .eq 7, 3) := by decide +kernel
theorem dk_D_agree_25 : decode prog_13_method_76_code 25 = .ok (.iconst 1, 1) := by decide +kernel
theorem dk_D_agree_26 : decode prog_13_method_76_code 26 = .ok (.goto 4, 3) := by decide +kernel
theorem dk_D_agree_29 : decode prog_13_method_76_code 29 = .ok (.iconst 0, 1) := by decide +kernel
theorem dk_D_agree_30 : decode prog_13_method_76_code 30 = .ok (.ireturn, 1) := by decide +kernel
noncomputable def fx_D_agree (p1 : Int32) (p2 : Int32) (m : (Nat → Nat → Int32)) : Option Int32 :=
  kv_bind1 (fx_D_wrongChains p1 p2 m) (fun v1 =>
  if v1 = 0 then
    kv_bind1 (fx_D_agrees p1 p2 (0 : Int32) m) (fun b2 =>
    if b2 = true then
      some (1 : Int32)
    else
      some (0 : Int32))
  else
    some v1)
set_option maxRecDepth 20000 in
theorem cx_D_agree (d : Nat) (p1 : Int32) (p2 : Int32) (c : (Nat → Nat → Int32)) (m : (Nat → Nat → Int32)) (f : (Nat → Int64)) (u : (Nat → Int64)) : ∀ a, fx_D_agree p1 p2 m = some a → kv_C kM_D_agree (d + 3) [.ref 84, .int p1, .int p2] (c, m, f, u) (some (.int a), (c, m, f, u)) := by
  refine kv_entryX (E := fun a : Int32 => (some (.int a), (c, m, f, u))) rfl (Nat.le_of_ble_eq_true rfl) (fun o => ?_)
  unfold fx_D_agree
  show kv_X _ _ _ _ _ 0 [(0, .ref 84), (1, .int p1), (2, .int p2)] [] (c, m, f, u)
  refine kv_aload_n (pc := 0) 0 rfl rfl dk_D_agree_0 ?_
  refine kv_iload_n (pc := 1) 1 rfl rfl dk_D_agree_1 ?_
  refine kv_iload_n (pc := 2) 2 rfl rfl dk_D_agree_2 ?_
  refine kv_cV_mI (pc := 3) (as := [.int p1, .int p2]) (st := []) ko_D_wrongChains kc_11 rfl rfl kr_84 kw_1636 (Nat.le_of_ble_eq_true rfl) rfl dk_D_agree_3 (cx_D_wrongChains d p1 p2 c m f u) (fun v1 => ?_)
  refine kv_istore_n (pc := 6) (lv' := [(3, .int v1), (0, .ref 84), (1, .int p1), (2, .int p2)]) rfl (Nat.le_of_ble_eq_true rfl) rfl dk_D_agree_6 ?_
  refine kv_iload_n (pc := 7) 0 rfl rfl dk_D_agree_7 ?_
  refine kv_if_eq (pc := 8) (tgt := 15) dk_D_agree_8 rfl ?_ ?_
  · refine kv_aload_n (pc := 15) 1 rfl rfl dk_D_agree_15 ?_
    refine kv_iload_n (pc := 16) 2 rfl rfl dk_D_agree_16 ?_
    refine kv_iload_n (pc := 17) 3 rfl rfl dk_D_agree_17 ?_
    refine kv_iconst (pc := 18) (v := (0 : Int32)) dk_D_agree_18 kki_0 ?_
    refine kv_cV_mZ (pc := 19) (as := [.int p1, .int p2, .int (0 : Int32)]) (st := []) ko_D_agrees kc_11 rfl rfl kr_84 kw_1640 (Nat.le_of_ble_eq_true rfl) rfl dk_D_agree_19 (cx_D_agrees d p1 p2 (0 : Int32) c m f u) (fun b2 => ?_)
    refine kv_zif_eq (pc := 22) (tgt := 29) dk_D_agree_22 rfl ?_ ?_
    · refine kv_iconst (pc := 29) (v := (0 : Int32)) dk_D_agree_29 kki_0 ?_
      exact kv_iret (pc := 30) (fun h => h) rfl dk_D_agree_30
    · refine kv_iconst (pc := 25) (v := (1 : Int32)) dk_D_agree_25 kki_1 ?_
      refine kv_goto (pc := 26) (tgt := 30) dk_D_agree_26 rfl ?_
      exact kv_iret (pc := 30) (fun h => h) rfl dk_D_agree_30
  · refine kv_iload_n (pc := 11) 0 rfl rfl dk_D_agree_11 ?_
    refine kv_goto (pc := 12) (tgt := 30) dk_D_agree_12 rfl ?_
    exact kv_iret (pc := 30) (fun h => h) rfl dk_D_agree_30
theorem dk_Chains_linksThatMend_0 : decode prog_2_method_6_code 0 = .ok (.iconst 0, 1) := by decide +kernel
theorem dk_Chains_linksThatMend_1 : decode prog_2_method_6_code 1 = .ok (.istore_n 3, 1) := by decide +kernel
theorem dk_Chains_linksThatMend_2 : decode prog_2_method_6_code 2 = .ok (.iconst 0, 1) := by decide +kernel
theorem dk_Chains_linksThatMend_3 : decode prog_2_method_6_code 3 = .ok (.istore 4, 2) := by decide +kernel
theorem dk_Chains_linksThatMend_5 : decode prog_2_method_6_code 5 = .ok (.iload 4, 2) := by decide +kernel
theorem dk_Chains_linksThatMend_7 : decode prog_2_method_6_code 7 = .ok (.aload_n 0, 1) := by decide +kernel
theorem dk_Chains_linksThatMend_8 : decode prog_2_method_6_code 8 = .ok (.getfield 18, 3) := by decide +kernel
theorem dk_Chains_linksThatMend_11 : decode prog_2_method_6_code 11 = .ok (.iload_n 1, 1) := by decide +kernel
theorem dk_Chains_linksThatMend_12 : decode prog_2_method_6_code 12 = .ok (.iaload, 1) := by decide +kernel
theorem dk_Chains_linksThatMend_13 : decode prog_2_method_6_code 13 = .ok (.if_icmp .ge 35, 3) := by decide +kernel
theorem dk_Chains_linksThatMend_16 : decode prog_2_method_6_code 16 = .ok (.bipush 9, 2) := by decide +kernel
theorem dk_Chains_linksThatMend_18 : decode prog_2_method_6_code 18 = .ok (.aload_n 0, 1) := by decide +kernel
theorem dk_Chains_linksThatMend_19 : decode prog_2_method_6_code 19 = .ok (.getfield 15, 3) := by decide +kernel
theorem dk_Chains_linksThatMend_22 : decode prog_2_method_6_code 22 = .ok (.iload_n 1, 1) := by decide +kernel
theorem dk_Chains_linksThatMend_23 : decode prog_2_method_6_code 23 = .ok (.bipush 12, 2) := by decide +kernel
theorem dk_Chains_linksThatMend_25 : decode prog_2_method_6_code 25 = .ok (.imul, 1) := by decide +kernel
theorem dk_Chains_linksThatMend_26 : decode prog_2_method_6_code 26 = .ok (.iload 4, 2) := by decide +kernel
theorem dk_Chains_linksThatMend_28 : decode prog_2_method_6_code 28 = .ok (.iadd, 1) := by decide +kernel
theorem dk_Chains_linksThatMend_29 : decode prog_2_method_6_code 29 = .ok (.iaload, 1) := by decide +kernel
theorem dk_Chains_linksThatMend_30 : decode prog_2_method_6_code 30 = .ok (.imul, 1) := by decide +kernel
theorem dk_Chains_linksThatMend_31 : decode prog_2_method_6_code 31 = .ok (.iload_n 2, 1) := by decide +kernel
theorem dk_Chains_linksThatMend_32 : decode prog_2_method_6_code 32 = .ok (.if_icmp .lt 10, 3) := by decide +kernel
theorem dk_Chains_linksThatMend_35 : decode prog_2_method_6_code 35 = .ok (.iload_n 3, 1) := by decide +kernel
theorem dk_Chains_linksThatMend_36 : decode prog_2_method_6_code 36 = .ok (.iconst 1, 1) := by decide +kernel
theorem dk_Chains_linksThatMend_37 : decode prog_2_method_6_code 37 = .ok (.iload 4, 2) := by decide +kernel
theorem dk_Chains_linksThatMend_39 : decode prog_2_method_6_code 39 = .ok (.ishl, 1) := by decide +kernel
theorem dk_Chains_linksThatMend_40 : decode prog_2_method_6_code 40 = .ok (.ior, 1) := by decide +kernel
theorem dk_Chains_linksThatMend_41 : decode prog_2_method_6_code 41 = .ok (.istore_n 3, 1) := by decide +kernel
theorem dk_Chains_linksThatMend_42 : decode prog_2_method_6_code 42 = .ok (.iinc 4 1, 3) := by decide +kernel
theorem dk_Chains_linksThatMend_45 : decode prog_2_method_6_code 45 = .ok (.goto (-40), 3) := by decide +kernel
theorem dk_Chains_linksThatMend_48 : decode prog_2_method_6_code 48 = .ok (.iload_n 3, 1) := by decide +kernel
theorem dk_Chains_linksThatMend_49 : decode prog_2_method_6_code 49 = .ok (.ireturn, 1) := by decide +kernel
noncomputable def fj_Chains_linksThatMend_42 (x2 : Int32) (x6 : Int32) : Option ((Int32 × Int32) ⊕ Int32) :=
  some (.inl (x6, (x2 + (1 : Int32))))
noncomputable def fb_Chains_linksThatMend_5 (p1 : Int32) (c : (Nat → Nat → Int32)) (p2 : Int32) (x1 : Int32) (x2 : Int32) : Option ((Int32 × Int32) ⊕ Int32) :=
  kv_gd (kv_in p1 4) (
  if (c 23 p1.toNatClampNeg) ≤ x2 then
    some (.inr x1)
  else
    kv_gd (kv_in ((p1 * (12 : Int32)) + x2) 48) (
    if ((9 : Int32) * (c 22 ((p1 * (12 : Int32)) + x2).toNatClampNeg)) < p2 then
      fj_Chains_linksThatMend_42 x2 x1
    else
      kv_let (x1 ||| ((1 : Int32) <<< (x2 &&& 31))) (fun v7 =>
      fj_Chains_linksThatMend_42 x2 v7)))
noncomputable def fx_Chains_linksThatMend (p1 : Int32) (p2 : Int32) (c : (Nat → Nat → Int32)) : Option Int32 :=
  (kv_loop (kv_u2 (fb_Chains_linksThatMend_5 p1 c p2)) ((0 : Int32), (0 : Int32))).bind (kv_u1 (fun x3 =>
  some x3))
set_option maxRecDepth 20000 in
theorem cx_Chains_linksThatMend (d : Nat) (p1 : Int32) (p2 : Int32) (c : (Nat → Nat → Int32)) (y : (Nat → Nat → Int32) × (Nat → Int64) × (Nat → Int64)) : ∀ a, fx_Chains_linksThatMend p1 p2 c = some a → kv_C kM_Chains_linksThatMend (d + 0) [.ref 20, .int p1, .int p2] (c, y) (some (.int a), (c, y)) := by
  refine kv_entryX (E := fun a : Int32 => (some (.int a), (c, y))) rfl (Nat.le_of_ble_eq_true rfl) (fun o => ?_)
  unfold fx_Chains_linksThatMend
  show kv_X _ _ _ _ _ 0 [(0, .ref 20), (1, .int p1), (2, .int p2)] [] (c, y)
  refine kv_iconst (pc := 0) (v := (0 : Int32)) dk_Chains_linksThatMend_0 kki_0 ?_
  refine kv_istore_n (pc := 1) (lv' := [(3, .int (0 : Int32)), (0, .ref 20), (1, .int p1), (2, .int p2)]) rfl (Nat.le_of_ble_eq_true rfl) rfl dk_Chains_linksThatMend_1 ?_
  refine kv_iconst (pc := 2) (v := (0 : Int32)) dk_Chains_linksThatMend_2 kki_0 ?_
  refine kv_istore (pc := 3) (lv' := [(4, .int (0 : Int32)), (3, .int (0 : Int32)), (0, .ref 20), (1, .int p1), (2, .int p2)]) rfl (Nat.le_of_ble_eq_true rfl) dk_Chains_linksThatMend_3 ?_
  refine kv_sub (lv' := [(0, .ref 20), (1, .int p1), (2, .int p2), (3, .int (0 : Int32)), (4, .int (0 : Int32))]) [2, 3, 4, 1, 0] rfl ?_
  refine kv_lp_2_1 (LV := fun x1 x2 => [(0, .ref 20), (1, .int p1), (2, .int p2), (3, .int x1), (4, .int x2)]) (WW := fun x1 x2 => (c, y)) (LE1 := fun x3 => [(3, .int x3)]) (WE1 := fun x3 => (c, y)) (pe1 := 48) ?_ ?_
  · intro x3
    show kv_X _ _ _ _ _ 48 [(3, .int x3)] [] (c, y)
    refine kv_iload_n (pc := 48) 0 rfl rfl dk_Chains_linksThatMend_48 ?_
    exact kv_iret (pc := 49) (fun h => h) rfl dk_Chains_linksThatMend_49
  · intro hx5_0 x1 x2
    show kv_X _ _ _ _ (fb_Chains_linksThatMend_5 p1 c p2 x1 x2) 5 [(0, .ref 20), (1, .int p1), (2, .int p2), (3, .int x1), (4, .int x2)] [] (c, y)
    unfold fb_Chains_linksThatMend_5
    refine kv_iload (pc := 5) 4 rfl dk_Chains_linksThatMend_5 ?_
    refine kv_aload_n (pc := 7) 0 rfl rfl dk_Chains_linksThatMend_7 ?_
    refine kv_getR (pc := 8) kf_Chains_18 kr_20 rfl kt_20_2 dk_Chains_linksThatMend_8 ?_
    refine kv_iload_n (pc := 11) 1 rfl rfl dk_Chains_linksThatMend_11 ?_
    refine kv_guard (fun g4 => ?_)
    refine kv_aldC (pc := 12) kr_23 kn_23 kl_23 g4 rfl dk_Chains_linksThatMend_12 ?_
    refine kv_icmp_ge (pc := 13) (tgt := 48) dk_Chains_linksThatMend_13 rfl ?_ ?_
    · exact kv_sub [3] rfl (kv_leaf (hx5_0 _))
    · refine kv_bipush (pc := 16) (v := (9 : Int32)) dk_Chains_linksThatMend_16 kkb_9 ?_
      refine kv_aload_n (pc := 18) 0 rfl rfl dk_Chains_linksThatMend_18 ?_
      refine kv_getR (pc := 19) kf_Chains_15 kr_20 rfl kt_20_1 dk_Chains_linksThatMend_19 ?_
      refine kv_iload_n (pc := 22) 1 rfl rfl dk_Chains_linksThatMend_22 ?_
      refine kv_bipush (pc := 23) (v := (12 : Int32)) dk_Chains_linksThatMend_23 kkb_12 ?_
      refine kv_imul (pc := 25) dk_Chains_linksThatMend_25 ?_
      refine kv_iload (pc := 26) 4 rfl dk_Chains_linksThatMend_26 ?_
      refine kv_iadd (pc := 28) dk_Chains_linksThatMend_28 ?_
      refine kv_guard (fun g5 => ?_)
      refine kv_aldC (pc := 29) kr_22 kn_22 kl_22 g5 rfl dk_Chains_linksThatMend_29 ?_
      refine kv_imul (pc := 30) dk_Chains_linksThatMend_30 ?_
      refine kv_iload_n (pc := 31) 2 rfl rfl dk_Chains_linksThatMend_31 ?_
      refine kv_cut_1 (J := fj_Chains_linksThatMend_42 x2) (pcj := 42) (LJ := fun x6 => [(0, .ref 20), (1, .int p1), (2, .int p2), (3, .int x6), (4, .int x2)]) (SJ := fun x6 => []) (WJ := fun x6 => (c, y)) ?_ (fun hj42 => ?_)
      · intro x6
        show kv_X _ _ _ _ (fj_Chains_linksThatMend_42 x2 x6) 42 [(0, .ref 20), (1, .int p1), (2, .int p2), (3, .int x6), (4, .int x2)] [] (c, y)
        unfold fj_Chains_linksThatMend_42
        refine kv_iinc (pc := 42) (kk := (1 : Int32)) (lv' := [(4, .int (x2 + (1 : Int32))), (0, .ref 20), (1, .int p1), (2, .int p2), (3, .int x6)]) 4 rfl kki_1 rfl (Nat.le_of_ble_eq_true rfl) dk_Chains_linksThatMend_42 ?_
        refine kv_goto (pc := 45) (tgt := 5) dk_Chains_linksThatMend_45 rfl ?_
        exact kv_sub [1, 2, 3, 4, 0] rfl (kv_leaf (fun h => h))
      refine kv_icmp_lt (pc := 32) (tgt := 42) dk_Chains_linksThatMend_32 rfl ?_ ?_
      · exact hj42 x1
      · refine kv_iload_n (pc := 35) 3 rfl rfl dk_Chains_linksThatMend_35 ?_
        refine kv_iconst (pc := 36) (v := (1 : Int32)) dk_Chains_linksThatMend_36 kki_1 ?_
        refine kv_iload (pc := 37) 4 rfl dk_Chains_linksThatMend_37 ?_
        refine kv_ishl (pc := 39) dk_Chains_linksThatMend_39 ?_
        refine kv_ior (pc := 40) dk_Chains_linksThatMend_40 ?_
        refine kv_letI (fun v7 => ?_)
        refine kv_istore_n (pc := 41) (lv' := [(3, .int v7), (0, .ref 20), (1, .int p1), (2, .int p2), (4, .int x2)]) rfl (Nat.le_of_ble_eq_true rfl) rfl dk_Chains_linksThatMend_41 ?_
        exact kv_sub [1, 2, 3, 0, 4] rfl (hj42 v7)
