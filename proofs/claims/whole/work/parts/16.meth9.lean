theorem dk_K_wrong_0 : decode prog_1_method_27_code 0 = .ok (.iload_n 3, 1) := by decide +kernel
theorem dk_K_wrong_1 : decode prog_1_method_27_code 1 = .ok (.iconst 0, 1) := by decide +kernel
theorem dk_K_wrong_2 : decode prog_1_method_27_code 2 = .ok (.iconst 1, 1) := by decide +kernel
theorem dk_K_wrong_3 : decode prog_1_method_27_code 3 = .ok (.invokestatic 54, 3) := by decide +kernel
theorem dk_K_wrong_6 : decode prog_1_method_27_code 6 = .ok (.ifCond .ne 5, 3) := by decide +kernel
theorem dk_K_wrong_9 : decode prog_1_method_27_code 9 = .ok (.iconst (-1), 1) := by decide +kernel
theorem dk_K_wrong_10 : decode prog_1_method_27_code 10 = .ok (.ireturn, 1) := by decide +kernel
theorem dk_K_wrong_11 : decode prog_1_method_27_code 11 = .ok (.aload_n 0, 1) := by decide +kernel
theorem dk_K_wrong_12 : decode prog_1_method_27_code 12 = .ok (.iload_n 1, 1) := by decide +kernel
theorem dk_K_wrong_13 : decode prog_1_method_27_code 13 = .ok (.iload_n 2, 1) := by decide +kernel
theorem dk_K_wrong_14 : decode prog_1_method_27_code 14 = .ok (.invokevirtual 312, 3) := by decide +kernel
theorem dk_K_wrong_17 : decode prog_1_method_27_code 17 = .ok (.istore 4, 2) := by decide +kernel
theorem dk_K_wrong_19 : decode prog_1_method_27_code 19 = .ok (.iload 4, 2) := by decide +kernel
theorem dk_K_wrong_21 : decode prog_1_method_27_code 21 = .ok (.ifCond .eq 6, 3) := by decide +kernel
theorem dk_K_wrong_24 : decode prog_1_method_27_code 24 = .ok (.iload 4, 2) := by decide +kernel
theorem dk_K_wrong_26 : decode prog_1_method_27_code 26 = .ok (.ireturn, 1) := by decide +kernel
theorem dk_K_wrong_27 : decode prog_1_method_27_code 27 = .ok (.aload_n 0, 1) := by decide +kernel
theorem dk_K_wrong_28 : decode prog_1_method_27_code 28 = .ok (.getfield 10, 3) := by decide +kernel
theorem dk_K_wrong_31 : decode prog_1_method_27_code 31 = .ok (.getfield 296, 3) := by decide +kernel
theorem dk_K_wrong_34 : decode prog_1_method_27_code 34 = .ok (.iload_n 1, 1) := by decide +kernel
theorem dk_K_wrong_35 : decode prog_1_method_27_code 35 = .ok (.iload_n 2, 1) := by decide +kernel
theorem dk_K_wrong_36 : decode prog_1_method_27_code 36 = .ok (.invokevirtual 315, 3) := by decide +kernel
theorem dk_K_wrong_39 : decode prog_1_method_27_code 39 = .ok (.istore 5, 2) := by decide +kernel
theorem dk_K_wrong_41 : decode prog_1_method_27_code 41 = .ok (.iload 5, 2) := by decide +kernel
theorem dk_K_wrong_43 : decode prog_1_method_27_code 43 = .ok (.ifCond .gt 6, 3) := by decide +kernel
theorem dk_K_wrong_46 : decode prog_1_method_27_code 46 = .ok (.bipush (-3), 2) := by decide +kernel
theorem dk_K_wrong_48 : decode prog_1_method_27_code 48 = .ok (.ireturn, 1) := by decide +kernel
theorem dk_K_wrong_49 : decode prog_1_method_27_code 49 = .ok (.aload_n 0, 1) := by decide +kernel
theorem dk_K_wrong_50 : decode prog_1_method_27_code 50 = .ok (.getfield 10, 3) := by decide +kernel
theorem dk_K_wrong_53 : decode prog_1_method_27_code 53 = .ok (.getfield 296, 3) := by decide +kernel
theorem dk_K_wrong_56 : decode prog_1_method_27_code 56 = .ok (.iload_n 3, 1) := by decide +kernel
theorem dk_K_wrong_57 : decode prog_1_method_27_code 57 = .ok (.ifCond .ne 7, 3) := by decide +kernel
theorem dk_K_wrong_60 : decode prog_1_method_27_code 60 = .ok (.iload_n 1, 1) := by decide +kernel
theorem dk_K_wrong_61 : decode prog_1_method_27_code 61 = .ok (.goto 4, 3) := by decide +kernel
theorem dk_K_wrong_64 : decode prog_1_method_27_code 64 = .ok (.iload_n 2, 1) := by decide +kernel
theorem dk_K_wrong_65 : decode prog_1_method_27_code 65 = .ok (.iload 5, 2) := by decide +kernel
theorem dk_K_wrong_67 : decode prog_1_method_27_code 67 = .ok (.invokevirtual 318, 3) := by decide +kernel
theorem dk_K_wrong_70 : decode prog_1_method_27_code 70 = .ok (.ireturn, 1) := by decide +kernel
noncomputable def fj_K_wrong_65 (v3 : Int32) (c : (Nat → Nat → Int32)) (x4 : Int32) : Option Int32 :=
  kv_bind1 (fx_Chains_linksThatMend x4 v3 c) (fun v5 =>
  some v5)
noncomputable def fx_K_wrong (p1 : Int32) (p2 : Int32) (p3 : Int32) (c : (Nat → Nat → Int32)) : Option Int32 :=
  kv_bind1 (fx_K_isWithin p3 (0 : Int32) (1 : Int32)) (fun b1 =>
  if b1 = true then
    kv_bind1 (fx_K_chainsRefusal p1 p2 c) (fun v2 =>
    if v2 = 0 then
      kv_bind1 (fx_Chains_lack p1 p2 c) (fun v3 =>
      if 0 < v3 then
        if p3 = 0 then
          fj_K_wrong_65 v3 c p1
        else
          fj_K_wrong_65 v3 c p2
      else
        some (-3 : Int32))
    else
      some v2)
  else
    some (-1 : Int32))
set_option maxRecDepth 20000 in
theorem cx_K_wrong (d : Nat) (p1 : Int32) (p2 : Int32) (p3 : Int32) (c : (Nat → Nat → Int32)) (y : (Nat → Nat → Int32) × (Nat → Int64) × (Nat → Int64)) : ∀ a, fx_K_wrong p1 p2 p3 c = some a → kv_C kM_K_wrong (d + 3) [.ref 0, .int p1, .int p2, .int p3] (c, y) (some (.int a), (c, y)) := by
  refine kv_entryX (E := fun a : Int32 => (some (.int a), (c, y))) rfl (Nat.le_of_ble_eq_true rfl) (fun o => ?_)
  unfold fx_K_wrong
  show kv_X _ _ _ _ _ 0 [(0, .ref 0), (1, .int p1), (2, .int p2), (3, .int p3)] [] (c, y)
  refine kv_iload_n (pc := 0) 3 rfl rfl dk_K_wrong_0 ?_
  refine kv_iconst (pc := 1) (v := (0 : Int32)) dk_K_wrong_1 kki_0 ?_
  refine kv_iconst (pc := 2) (v := (1 : Int32)) dk_K_wrong_2 kki_1 ?_
  refine kv_cS_cZ (pc := 3) (as := [.int p3, .int (0 : Int32), .int (1 : Int32)]) (st := []) ko_K_isWithin rfl kw_512 (Nat.le_of_ble_eq_true rfl) rfl dk_K_wrong_3 (cx_K_isWithin (d + 2) p3 (0 : Int32) (1 : Int32) c y) (fun b1 => ?_)
  refine kv_zif_ne (pc := 6) (tgt := 11) dk_K_wrong_6 rfl ?_ ?_
  · refine kv_aload_n (pc := 11) 0 rfl rfl dk_K_wrong_11 ?_
    refine kv_iload_n (pc := 12) 1 rfl rfl dk_K_wrong_12 ?_
    refine kv_iload_n (pc := 13) 2 rfl rfl dk_K_wrong_13 ?_
    refine kv_cV_cI (pc := 14) (as := [.int p1, .int p2]) (st := []) ko_K_chainsRefusal kc_10 rfl rfl kr_0 kw_947 (Nat.le_of_ble_eq_true rfl) rfl dk_K_wrong_14 (cx_K_chainsRefusal d p1 p2 c y) (fun v2 => ?_)
    refine kv_istore (pc := 17) (lv' := [(4, .int v2), (0, .ref 0), (1, .int p1), (2, .int p2), (3, .int p3)]) rfl (Nat.le_of_ble_eq_true rfl) dk_K_wrong_17 ?_
    refine kv_iload (pc := 19) 0 rfl dk_K_wrong_19 ?_
    refine kv_if_eq (pc := 21) (tgt := 27) dk_K_wrong_21 rfl ?_ ?_
    · refine kv_aload_n (pc := 27) 1 rfl rfl dk_K_wrong_27 ?_
      refine kv_getR (pc := 28) kf_K_10 kr_0 rfl kt_0_0 dk_K_wrong_28 ?_
      refine kv_getR (pc := 31) kf_K_296 kr_1 rfl kt_1_3 dk_K_wrong_31 ?_
      refine kv_iload_n (pc := 34) 2 rfl rfl dk_K_wrong_34 ?_
      refine kv_iload_n (pc := 35) 3 rfl rfl dk_K_wrong_35 ?_
      refine kv_cV_cI (pc := 36) (as := [.int p1, .int p2]) (st := []) ko_Chains_lack kc_0 rfl rfl kr_20 kw_951 (Nat.le_of_ble_eq_true rfl) rfl dk_K_wrong_36 (cx_Chains_lack (d + 1) p1 p2 c y) (fun v3 => ?_)
      refine kv_istore (pc := 39) (lv' := [(5, .int v3), (4, .int v2), (0, .ref 0), (1, .int p1), (2, .int p2), (3, .int p3)]) rfl (Nat.le_of_ble_eq_true rfl) dk_K_wrong_39 ?_
      refine kv_iload (pc := 41) 0 rfl dk_K_wrong_41 ?_
      refine kv_if_gt (pc := 43) (tgt := 49) dk_K_wrong_43 rfl ?_ ?_
      · refine kv_aload_n (pc := 49) 2 rfl rfl dk_K_wrong_49 ?_
        refine kv_getR (pc := 50) kf_K_10 kr_0 rfl kt_0_0 dk_K_wrong_50 ?_
        refine kv_getR (pc := 53) kf_K_296 kr_1 rfl kt_1_3 dk_K_wrong_53 ?_
        refine kv_iload_n (pc := 56) 5 rfl rfl dk_K_wrong_56 ?_
        refine kv_cut_1 (J := fj_K_wrong_65 v3 c) (pcj := 65) (LJ := fun x4 => [(5, .int v3)]) (SJ := fun x4 => [.int x4, .ref 20]) (WJ := fun x4 => (c, y)) ?_ (fun hj65 => ?_)
        · intro x4
          show kv_X _ _ _ _ (fj_K_wrong_65 v3 c x4) 65 [(5, .int v3)] [.int x4, .ref 20] (c, y)
          unfold fj_K_wrong_65
          refine kv_iload (pc := 65) 0 rfl dk_K_wrong_65 ?_
          refine kv_cV_cI (pc := 67) (as := [.int x4, .int v3]) (st := []) ko_Chains_linksThatMend kc_0 rfl rfl kr_20 kw_964 (Nat.le_of_ble_eq_true rfl) rfl dk_K_wrong_67 (cx_Chains_linksThatMend (d + 2) x4 v3 c y) (fun v5 => ?_)
          exact kv_iret (pc := 70) (fun h => h) rfl dk_K_wrong_70
        refine kv_if_ne (pc := 57) (tgt := 64) dk_K_wrong_57 rfl ?_ ?_
        · refine kv_iload_n (pc := 64) 4 rfl rfl dk_K_wrong_64 ?_
          exact kv_sub [0] rfl (hj65 p2)
        · refine kv_iload_n (pc := 60) 3 rfl rfl dk_K_wrong_60 ?_
          refine kv_goto (pc := 61) (tgt := 65) dk_K_wrong_61 rfl ?_
          exact kv_sub [0] rfl (hj65 p1)
      · refine kv_bipush (pc := 46) (v := (-3 : Int32)) dk_K_wrong_46 kkb_m3 ?_
        exact kv_iret (pc := 48) (fun h => h) rfl dk_K_wrong_48
    · refine kv_iload (pc := 24) 0 rfl dk_K_wrong_24 ?_
      exact kv_iret (pc := 26) (fun h => h) rfl dk_K_wrong_26
  · refine kv_iconst (pc := 9) (v := (-1 : Int32)) dk_K_wrong_9 kki_m1 ?_
    exact kv_iret (pc := 10) (fun h => h) rfl dk_K_wrong_10
theorem dk_D_wrong_0 : decode prog_13_method_77_code 0 = .ok (.iload_n 3, 1) := by decide +kernel
theorem dk_D_wrong_1 : decode prog_13_method_77_code 1 = .ok (.i2l, 1) := by decide +kernel
theorem dk_D_wrong_2 : decode prog_13_method_77_code 2 = .ok (.lconst 0, 1) := by decide +kernel
theorem dk_D_wrong_3 : decode prog_13_method_77_code 3 = .ok (.lconst 1, 1) := by decide +kernel
theorem dk_D_wrong_4 : decode prog_13_method_77_code 4 = .ok (.invokestatic 60, 3) := by decide +kernel
theorem dk_D_wrong_7 : decode prog_13_method_77_code 7 = .ok (.ifCond .ne 5, 3) := by decide +kernel
theorem dk_D_wrong_10 : decode prog_13_method_77_code 10 = .ok (.iconst (-1), 1) := by decide +kernel
theorem dk_D_wrong_11 : decode prog_13_method_77_code 11 = .ok (.ireturn, 1) := by decide +kernel
theorem dk_D_wrong_12 : decode prog_13_method_77_code 12 = .ok (.aload_n 0, 1) := by decide +kernel
theorem dk_D_wrong_13 : decode prog_13_method_77_code 13 = .ok (.iload_n 1, 1) := by decide +kernel
theorem dk_D_wrong_14 : decode prog_13_method_77_code 14 = .ok (.iload_n 2, 1) := by decide +kernel
theorem dk_D_wrong_15 : decode prog_13_method_77_code 15 = .ok (.invokevirtual 291, 3) := by decide +kernel
theorem dk_D_wrong_18 : decode prog_13_method_77_code 18 = .ok (.istore 4, 2) := by decide +kernel
theorem dk_D_wrong_20 : decode prog_13_method_77_code 20 = .ok (.iload 4, 2) := by decide +kernel
theorem dk_D_wrong_22 : decode prog_13_method_77_code 22 = .ok (.ifCond .ne 17, 3) := by decide +kernel
theorem dk_D_wrong_25 : decode prog_13_method_77_code 25 = .ok (.aload_n 0, 1) := by decide +kernel
theorem dk_D_wrong_26 : decode prog_13_method_77_code 26 = .ok (.iload_n 1, 1) := by decide +kernel
theorem dk_D_wrong_27 : decode prog_13_method_77_code 27 = .ok (.iload_n 2, 1) := by decide +kernel
theorem dk_D_wrong_28 : decode prog_13_method_77_code 28 = .ok (.iconst 0, 1) := by decide +kernel
theorem dk_D_wrong_29 : decode prog_13_method_77_code 29 = .ok (.invokevirtual 294, 3) := by decide +kernel
theorem dk_D_wrong_32 : decode prog_13_method_77_code 32 = .ok (.ifCond .eq 7, 3) := by decide +kernel
theorem dk_D_wrong_35 : decode prog_13_method_77_code 35 = .ok (.bipush (-3), 2) := by decide +kernel
theorem dk_D_wrong_37 : decode prog_13_method_77_code 37 = .ok (.istore 4, 2) := by decide +kernel
theorem dk_D_wrong_39 : decode prog_13_method_77_code 39 = .ok (.iload 4, 2) := by decide +kernel
theorem dk_D_wrong_41 : decode prog_13_method_77_code 41 = .ok (.ifCond .eq 6, 3) := by decide +kernel
theorem dk_D_wrong_44 : decode prog_13_method_77_code 44 = .ok (.iload 4, 2) := by decide +kernel
theorem dk_D_wrong_46 : decode prog_13_method_77_code 46 = .ok (.ireturn, 1) := by decide +kernel
theorem dk_D_wrong_47 : decode prog_13_method_77_code 47 = .ok (.iload_n 3, 1) := by decide +kernel
theorem dk_D_wrong_48 : decode prog_13_method_77_code 48 = .ok (.ifCond .ne 7, 3) := by decide +kernel
theorem dk_D_wrong_51 : decode prog_13_method_77_code 51 = .ok (.iload_n 1, 1) := by decide +kernel
theorem dk_D_wrong_52 : decode prog_13_method_77_code 52 = .ok (.goto 4, 3) := by decide +kernel
theorem dk_D_wrong_55 : decode prog_13_method_77_code 55 = .ok (.iload_n 2, 1) := by decide +kernel
theorem dk_D_wrong_56 : decode prog_13_method_77_code 56 = .ok (.istore 5, 2) := by decide +kernel
theorem dk_D_wrong_58 : decode prog_13_method_77_code 58 = .ok (.iconst 0, 1) := by decide +kernel
theorem dk_D_wrong_59 : decode prog_13_method_77_code 59 = .ok (.istore 6, 2) := by decide +kernel
theorem dk_D_wrong_61 : decode prog_13_method_77_code 61 = .ok (.iconst 0, 1) := by decide +kernel
theorem dk_D_wrong_62 : decode prog_13_method_77_code 62 = .ok (.istore 7, 2) := by decide +kernel
theorem dk_D_wrong_64 : decode prog_13_method_77_code 64 = .ok (.iload 7, 2) := by decide +kernel
theorem dk_D_wrong_66 : decode prog_13_method_77_code 66 = .ok (.aload_n 0, 1) := by decide +kernel
theorem dk_D_wrong_67 : decode prog_13_method_77_code 67 = .ok (.iload 5, 2) := by decide +kernel
theorem dk_D_wrong_69 : decode prog_13_method_77_code 69 = .ok (.invokevirtual 285, 3) := by decide +kernel
theorem dk_D_wrong_72 : decode prog_13_method_77_code 72 = .ok (.if_icmp .ge 55, 3) := by decide +kernel
theorem dk_D_wrong_75 : decode prog_13_method_77_code 75 = .ok (.iload 6, 2) := by decide +kernel
theorem dk_D_wrong_77 : decode prog_13_method_77_code 77 = .ok (.aload_n 0, 1) := by decide +kernel
theorem dk_D_wrong_78 : decode prog_13_method_77_code 78 = .ok (.iload_n 1, 1) := by decide +kernel
theorem dk_D_wrong_79 : decode prog_13_method_77_code 79 = .ok (.iload_n 2, 1) := by decide +kernel
theorem dk_D_wrong_80 : decode prog_13_method_77_code 80 = .ok (.bipush 9, 2) := by decide +kernel
theorem dk_D_wrong_82 : decode prog_13_method_77_code 82 = .ok (.aload_n 0, 1) := by decide +kernel
theorem dk_D_wrong_83 : decode prog_13_method_77_code 83 = .ok (.getfield 9, 3) := by decide +kernel
theorem dk_D_wrong_86 : decode prog_13_method_77_code 86 = .ok (.sipush 340, 3) := by decide +kernel
theorem dk_D_wrong_89 : decode prog_13_method_77_code 89 = .ok (.bipush 26, 2) := by decide +kernel
theorem dk_D_wrong_91 : decode prog_13_method_77_code 91 = .ok (.iload 5, 2) := by decide +kernel
theorem dk_D_wrong_93 : decode prog_13_method_77_code 93 = .ok (.imul, 1) := by decide +kernel
theorem dk_D_wrong_94 : decode prog_13_method_77_code 94 = .ok (.iadd, 1) := by decide +kernel
theorem dk_D_wrong_95 : decode prog_13_method_77_code 95 = .ok (.iconst 3, 1) := by decide +kernel
theorem dk_D_wrong_96 : decode prog_13_method_77_code 96 = .ok (.iadd, 1) := by decide +kernel
theorem dk_D_wrong_97 : decode prog_13_method_77_code 97 = .ok (.iconst 2, 1) := by decide +kernel
theorem dk_D_wrong_98 : decode prog_13_method_77_code 98 = .ok (.iload 7, 2) := by decide +kernel
theorem dk_D_wrong_100 : decode prog_13_method_77_code 100 = .ok (.imul, 1) := by decide +kernel
theorem dk_D_wrong_101 : decode prog_13_method_77_code 101 = .ok (.iadd, 1) := by decide +kernel
theorem dk_D_wrong_102 : decode prog_13_method_77_code 102 = .ok (.iaload, 1) := by decide +kernel
theorem dk_D_wrong_103 : decode prog_13_method_77_code 103 = .ok (.imul, 1) := by decide +kernel
theorem dk_D_wrong_104 : decode prog_13_method_77_code 104 = .ok (.invokevirtual 294, 3) := by decide +kernel
theorem dk_D_wrong_107 : decode prog_13_method_77_code 107 = .ok (.ifCond .eq 10, 3) := by decide +kernel
theorem dk_D_wrong_110 : decode prog_13_method_77_code 110 = .ok (.iconst 1, 1) := by decide +kernel
theorem dk_D_wrong_111 : decode prog_13_method_77_code 111 = .ok (.iload 7, 2) := by decide +kernel
theorem dk_D_wrong_113 : decode prog_13_method_77_code 113 = .ok (.ishl, 1) := by decide +kernel
theorem dk_D_wrong_114 : decode prog_13_method_77_code 114 = .ok (.goto 4, 3) := by decide +kernel
theorem dk_D_wrong_117 : decode prog_13_method_77_code 117 = .ok (.iconst 0, 1) := by decide +kernel
theorem dk_D_wrong_118 : decode prog_13_method_77_code 118 = .ok (.ior, 1) := by decide +kernel
theorem dk_D_wrong_119 : decode prog_13_method_77_code 119 = .ok (.istore 6, 2) := by decide +kernel
theorem dk_D_wrong_121 : decode prog_13_method_77_code 121 = .ok (.iinc 7 1, 3) := by decide +kernel
theorem dk_D_wrong_124 : decode prog_13_method_77_code 124 = .ok (.goto (-60), 3) := by decide +kernel
theorem dk_D_wrong_127 : decode prog_13_method_77_code 127 = .ok (.iload 6, 2) := by decide +kernel
theorem dk_D_wrong_129 : decode prog_13_method_77_code 129 = .ok (.ireturn, 1) := by decide +kernel
noncomputable def fj_D_wrong_118 (x5 : Int32) (x6 : Int32) (x11 : Int32) : Option ((Int32 × Int32) ⊕ Int32) :=
  kv_let (x5 ||| x11) (fun v12 =>
  some (.inl (v12, (x6 + (1 : Int32)))))
noncomputable def fb_D_wrong_64 (x4 : Int32) (m : (Nat → Nat → Int32)) (p1 : Int32) (p2 : Int32) (x5 : Int32) (x6 : Int32) : Option ((Int32 × Int32) ⊕ Int32) :=
  kv_bind1 (fx_D_links x4 m) (fun v8 =>
  if v8 ≤ x6 then
    some (.inr x5)
  else
    kv_gd (kv_in ((((340 : Int32) + ((26 : Int32) * x4)) + (3 : Int32)) + ((2 : Int32) * x6)) 444) (
    kv_bind1 (fx_D_agrees p1 p2 ((9 : Int32) * (m 85 ((((340 : Int32) + ((26 : Int32) * x4)) + (3 : Int32)) + ((2 : Int32) * x6)).toNatClampNeg)) m) (fun b10 =>
    if b10 = true then
      fj_D_wrong_118 x5 x6 ((1 : Int32) <<< (x6 &&& 31))
    else
      fj_D_wrong_118 x5 x6 (0 : Int32))))
noncomputable def fj_D_wrong_56 (m : (Nat → Nat → Int32)) (p1 : Int32) (p2 : Int32) (x4 : Int32) : Option Int32 :=
  (kv_loop (kv_u2 (fb_D_wrong_64 x4 m p1 p2)) ((0 : Int32), (0 : Int32))).bind (kv_u1 (fun x7 =>
  some x7))
noncomputable def fj_D_wrong_39 (p3 : Int32) (m : (Nat → Nat → Int32)) (p1 : Int32) (p2 : Int32) (x3 : Int32) : Option Int32 :=
  if x3 = 0 then
    if p3 = 0 then
      fj_D_wrong_56 m p1 p2 p1
    else
      fj_D_wrong_56 m p1 p2 p2
  else
    some x3
noncomputable def fx_D_wrong (p1 : Int32) (p2 : Int32) (p3 : Int32) (m : (Nat → Nat → Int32)) : Option Int32 :=
  kv_bind1 (fx_D_isIn p3.toInt64 (0 : Int64) (1 : Int64)) (fun b1 =>
  if b1 = true then
    kv_bind1 (fx_D_wrongChains p1 p2 m) (fun v2 =>
    if v2 = 0 then
      kv_bind1 (fx_D_agrees p1 p2 (0 : Int32) m) (fun b13 =>
      if b13 = true then
        fj_D_wrong_39 p3 m p1 p2 (-3 : Int32)
      else
        fj_D_wrong_39 p3 m p1 p2 v2)
    else
      fj_D_wrong_39 p3 m p1 p2 v2)
  else
    some (-1 : Int32))
set_option maxRecDepth 20000 in
theorem cx_D_wrong (d : Nat) (p1 : Int32) (p2 : Int32) (p3 : Int32) (c : (Nat → Nat → Int32)) (m : (Nat → Nat → Int32)) (f : (Nat → Int64)) (u : (Nat → Int64)) : ∀ a, fx_D_wrong p1 p2 p3 m = some a → kv_C kM_D_wrong (d + 3) [.ref 84, .int p1, .int p2, .int p3] (c, m, f, u) (some (.int a), (c, m, f, u)) := by
  refine kv_entryX (E := fun a : Int32 => (some (.int a), (c, m, f, u))) rfl (Nat.le_of_ble_eq_true rfl) (fun o => ?_)
  unfold fx_D_wrong
  show kv_X _ _ _ _ _ 0 [(0, .ref 84), (1, .int p1), (2, .int p2), (3, .int p3)] [] (c, m, f, u)
  refine kv_iload_n (pc := 0) 3 rfl rfl dk_D_wrong_0 ?_
  refine kv_i2l (pc := 1) dk_D_wrong_1 ?_
  refine kv_lconst (pc := 2) (v := (0 : Int64)) dk_D_wrong_2 kkl_0 ?_
  refine kv_lconst (pc := 3) (v := (1 : Int64)) dk_D_wrong_3 kkl_1 ?_
  refine kv_cS_mZ (pc := 4) (as := [.long p3.toInt64, .long (0 : Int64), .long (1 : Int64)]) (st := []) ko_D_isIn rfl kw_1330 (Nat.le_of_ble_eq_true rfl) rfl dk_D_wrong_4 (cx_D_isIn (d + 2) p3.toInt64 (0 : Int64) (1 : Int64) c m f u) (fun b1 => ?_)
  refine kv_zif_ne (pc := 7) (tgt := 12) dk_D_wrong_7 rfl ?_ ?_
  · refine kv_aload_n (pc := 12) 0 rfl rfl dk_D_wrong_12 ?_
    refine kv_iload_n (pc := 13) 1 rfl rfl dk_D_wrong_13 ?_
    refine kv_iload_n (pc := 14) 2 rfl rfl dk_D_wrong_14 ?_
    refine kv_cV_mI (pc := 15) (as := [.int p1, .int p2]) (st := []) ko_D_wrongChains kc_11 rfl rfl kr_84 kw_1636 (Nat.le_of_ble_eq_true rfl) rfl dk_D_wrong_15 (cx_D_wrongChains d p1 p2 c m f u) (fun v2 => ?_)
    refine kv_istore (pc := 18) (lv' := [(4, .int v2), (0, .ref 84), (1, .int p1), (2, .int p2), (3, .int p3)]) rfl (Nat.le_of_ble_eq_true rfl) dk_D_wrong_18 ?_
    refine kv_iload (pc := 20) 0 rfl dk_D_wrong_20 ?_
    refine kv_cut_1 (J := fj_D_wrong_39 p3 m p1 p2) (pcj := 39) (LJ := fun x3 => [(0, .ref 84), (1, .int p1), (2, .int p2), (3, .int p3), (4, .int x3)]) (SJ := fun x3 => []) (WJ := fun x3 => (c, m, f, u)) ?_ (fun hj39 => ?_)
    · intro x3
      show kv_X _ _ _ _ (fj_D_wrong_39 p3 m p1 p2 x3) 39 [(0, .ref 84), (1, .int p1), (2, .int p2), (3, .int p3), (4, .int x3)] [] (c, m, f, u)
      unfold fj_D_wrong_39
      refine kv_iload (pc := 39) 4 rfl dk_D_wrong_39 ?_
      refine kv_if_eq (pc := 41) (tgt := 47) dk_D_wrong_41 rfl ?_ ?_
      · refine kv_iload_n (pc := 47) 3 rfl rfl dk_D_wrong_47 ?_
        refine kv_cut_1 (J := fj_D_wrong_56 m p1 p2) (pcj := 56) (LJ := fun x4 => [(0, .ref 84), (1, .int p1), (2, .int p2)]) (SJ := fun x4 => [.int x4]) (WJ := fun x4 => (c, m, f, u)) ?_ (fun hj56 => ?_)
        · intro x4
          show kv_X _ _ _ _ (fj_D_wrong_56 m p1 p2 x4) 56 [(0, .ref 84), (1, .int p1), (2, .int p2)] [.int x4] (c, m, f, u)
          unfold fj_D_wrong_56
          refine kv_istore (pc := 56) (lv' := [(5, .int x4), (0, .ref 84), (1, .int p1), (2, .int p2)]) rfl (Nat.le_of_ble_eq_true rfl) dk_D_wrong_56 ?_
          refine kv_iconst (pc := 58) (v := (0 : Int32)) dk_D_wrong_58 kki_0 ?_
          refine kv_istore (pc := 59) (lv' := [(6, .int (0 : Int32)), (5, .int x4), (0, .ref 84), (1, .int p1), (2, .int p2)]) rfl (Nat.le_of_ble_eq_true rfl) dk_D_wrong_59 ?_
          refine kv_iconst (pc := 61) (v := (0 : Int32)) dk_D_wrong_61 kki_0 ?_
          refine kv_istore (pc := 62) (lv' := [(7, .int (0 : Int32)), (6, .int (0 : Int32)), (5, .int x4), (0, .ref 84), (1, .int p1), (2, .int p2)]) rfl (Nat.le_of_ble_eq_true rfl) dk_D_wrong_62 ?_
          refine kv_sub (lv' := [(0, .ref 84), (1, .int p1), (2, .int p2), (5, .int x4), (6, .int (0 : Int32)), (7, .int (0 : Int32))]) [3, 4, 5, 2, 1, 0] rfl ?_
          refine kv_lp_2_1 (LV := fun x5 x6 => [(0, .ref 84), (1, .int p1), (2, .int p2), (5, .int x4), (6, .int x5), (7, .int x6)]) (WW := fun x5 x6 => (c, m, f, u)) (LE1 := fun x7 => [(6, .int x7)]) (WE1 := fun x7 => (c, m, f, u)) (pe1 := 127) ?_ ?_
          · intro x7
            show kv_X _ _ _ _ _ 127 [(6, .int x7)] [] (c, m, f, u)
            refine kv_iload (pc := 127) 0 rfl dk_D_wrong_127 ?_
            exact kv_iret (pc := 129) (fun h => h) rfl dk_D_wrong_129
          · intro hx64_0 x5 x6
            show kv_X _ _ _ _ (fb_D_wrong_64 x4 m p1 p2 x5 x6) 64 [(0, .ref 84), (1, .int p1), (2, .int p2), (5, .int x4), (6, .int x5), (7, .int x6)] [] (c, m, f, u)
            unfold fb_D_wrong_64
            refine kv_iload (pc := 64) 5 rfl dk_D_wrong_64 ?_
            refine kv_aload_n (pc := 66) 0 rfl rfl dk_D_wrong_66 ?_
            refine kv_iload (pc := 67) 3 rfl dk_D_wrong_67 ?_
            refine kv_cV_mI (pc := 69) (as := [.int x4]) (st := [.int x6]) ko_D_links kc_11 rfl rfl kr_84 kw_1620 (Nat.le_of_ble_eq_true rfl) rfl dk_D_wrong_69 (cx_D_links (d + 2) x4 c m f u) (fun v8 => ?_)
            refine kv_icmp_ge (pc := 72) (tgt := 127) dk_D_wrong_72 rfl ?_ ?_
            · exact kv_sub [4] rfl (kv_leaf (hx64_0 _))
            · refine kv_iload (pc := 75) 4 rfl dk_D_wrong_75 ?_
              refine kv_aload_n (pc := 77) 0 rfl rfl dk_D_wrong_77 ?_
              refine kv_iload_n (pc := 78) 1 rfl rfl dk_D_wrong_78 ?_
              refine kv_iload_n (pc := 79) 2 rfl rfl dk_D_wrong_79 ?_
              refine kv_bipush (pc := 80) (v := (9 : Int32)) dk_D_wrong_80 kkb_9 ?_
              refine kv_aload_n (pc := 82) 0 rfl rfl dk_D_wrong_82 ?_
              refine kv_getR (pc := 83) kf_D_9 kr_84 rfl kt_84_0 dk_D_wrong_83 ?_
              refine kv_sipush (pc := 86) (v := (340 : Int32)) dk_D_wrong_86 kks_340 ?_
              refine kv_bipush (pc := 89) (v := (26 : Int32)) dk_D_wrong_89 kkb_26 ?_
              refine kv_iload (pc := 91) 3 rfl dk_D_wrong_91 ?_
              refine kv_imul (pc := 93) dk_D_wrong_93 ?_
              refine kv_iadd (pc := 94) dk_D_wrong_94 ?_
              refine kv_iconst (pc := 95) (v := (3 : Int32)) dk_D_wrong_95 kki_3 ?_
              refine kv_iadd (pc := 96) dk_D_wrong_96 ?_
              refine kv_iconst (pc := 97) (v := (2 : Int32)) dk_D_wrong_97 kki_2 ?_
              refine kv_iload (pc := 98) 5 rfl dk_D_wrong_98 ?_
              refine kv_imul (pc := 100) dk_D_wrong_100 ?_
              refine kv_iadd (pc := 101) dk_D_wrong_101 ?_
              refine kv_guard (fun g9 => ?_)
              refine kv_aldM (pc := 102) kr_85 kn_85 kl_85 g9 rfl dk_D_wrong_102 ?_
              refine kv_imul (pc := 103) dk_D_wrong_103 ?_
              refine kv_cV_mZ (pc := 104) (as := [.int p1, .int p2, .int ((9 : Int32) * (m 85 ((((340 : Int32) + ((26 : Int32) * x4)) + (3 : Int32)) + ((2 : Int32) * x6)).toNatClampNeg))]) (st := [.int x5]) ko_D_agrees kc_11 rfl rfl kr_84 kw_1640 (Nat.le_of_ble_eq_true rfl) rfl dk_D_wrong_104 (cx_D_agrees d p1 p2 ((9 : Int32) * (m 85 ((((340 : Int32) + ((26 : Int32) * x4)) + (3 : Int32)) + ((2 : Int32) * x6)).toNatClampNeg)) c m f u) (fun b10 => ?_)
              refine kv_cut_1 (J := fj_D_wrong_118 x5 x6) (pcj := 118) (LJ := fun x11 => [(0, .ref 84), (1, .int p1), (2, .int p2), (5, .int x4), (7, .int x6)]) (SJ := fun x11 => [.int x11, .int x5]) (WJ := fun x11 => (c, m, f, u)) ?_ (fun hj118 => ?_)
              · intro x11
                show kv_X _ _ _ _ (fj_D_wrong_118 x5 x6 x11) 118 [(0, .ref 84), (1, .int p1), (2, .int p2), (5, .int x4), (7, .int x6)] [.int x11, .int x5] (c, m, f, u)
                unfold fj_D_wrong_118
                refine kv_ior (pc := 118) dk_D_wrong_118 ?_
                refine kv_letI (fun v12 => ?_)
                refine kv_istore (pc := 119) (lv' := [(6, .int v12), (0, .ref 84), (1, .int p1), (2, .int p2), (5, .int x4), (7, .int x6)]) rfl (Nat.le_of_ble_eq_true rfl) dk_D_wrong_119 ?_
                refine kv_iinc (pc := 121) (kk := (1 : Int32)) (lv' := [(7, .int (x6 + (1 : Int32))), (6, .int v12), (0, .ref 84), (1, .int p1), (2, .int p2), (5, .int x4)]) 5 rfl kki_1 rfl (Nat.le_of_ble_eq_true rfl) dk_D_wrong_121 ?_
                refine kv_goto (pc := 124) (tgt := 64) dk_D_wrong_124 rfl ?_
                exact kv_sub [2, 3, 4, 5, 1, 0] rfl (kv_leaf (fun h => h))
              refine kv_zif_eq (pc := 107) (tgt := 117) dk_D_wrong_107 rfl ?_ ?_
              · refine kv_iconst (pc := 117) (v := (0 : Int32)) dk_D_wrong_117 kki_0 ?_
                exact kv_sub [0, 1, 2, 3, 5] rfl (hj118 (0 : Int32))
              · refine kv_iconst (pc := 110) (v := (1 : Int32)) dk_D_wrong_110 kki_1 ?_
                refine kv_iload (pc := 111) 5 rfl dk_D_wrong_111 ?_
                refine kv_ishl (pc := 113) dk_D_wrong_113 ?_
                refine kv_goto (pc := 114) (tgt := 118) dk_D_wrong_114 rfl ?_
                exact kv_sub [0, 1, 2, 3, 5] rfl (hj118 ((1 : Int32) <<< (x6 &&& 31)))
        refine kv_if_ne (pc := 48) (tgt := 55) dk_D_wrong_48 rfl ?_ ?_
        · refine kv_iload_n (pc := 55) 2 rfl rfl dk_D_wrong_55 ?_
          exact kv_sub [0, 1, 2] rfl (hj56 p2)
        · refine kv_iload_n (pc := 51) 1 rfl rfl dk_D_wrong_51 ?_
          refine kv_goto (pc := 52) (tgt := 56) dk_D_wrong_52 rfl ?_
          exact kv_sub [0, 1, 2] rfl (hj56 p1)
      · refine kv_iload (pc := 44) 4 rfl dk_D_wrong_44 ?_
        exact kv_iret (pc := 46) (fun h => h) rfl dk_D_wrong_46
    refine kv_if_ne (pc := 22) (tgt := 39) dk_D_wrong_22 rfl ?_ ?_
    · exact kv_sub [1, 2, 3, 4, 0] rfl (hj39 v2)
    · refine kv_aload_n (pc := 25) 1 rfl rfl dk_D_wrong_25 ?_
      refine kv_iload_n (pc := 26) 2 rfl rfl dk_D_wrong_26 ?_
      refine kv_iload_n (pc := 27) 3 rfl rfl dk_D_wrong_27 ?_
      refine kv_iconst (pc := 28) (v := (0 : Int32)) dk_D_wrong_28 kki_0 ?_
      refine kv_cV_mZ (pc := 29) (as := [.int p1, .int p2, .int (0 : Int32)]) (st := []) ko_D_agrees kc_11 rfl rfl kr_84 kw_1640 (Nat.le_of_ble_eq_true rfl) rfl dk_D_wrong_29 (cx_D_agrees d p1 p2 (0 : Int32) c m f u) (fun b13 => ?_)
      refine kv_zif_eq (pc := 32) (tgt := 39) dk_D_wrong_32 rfl ?_ ?_
      · exact kv_sub [1, 2, 3, 4, 0] rfl (hj39 v2)
      · refine kv_bipush (pc := 35) (v := (-3 : Int32)) dk_D_wrong_35 kkb_m3 ?_
        refine kv_istore (pc := 37) (lv' := [(4, .int (-3 : Int32)), (0, .ref 84), (1, .int p1), (2, .int p2), (3, .int p3)]) rfl (Nat.le_of_ble_eq_true rfl) dk_D_wrong_37 ?_
        exact kv_sub [1, 2, 3, 4, 0] rfl (hj39 (-3 : Int32))
  · refine kv_iconst (pc := 10) (v := (-1 : Int32)) dk_D_wrong_10 kki_m1 ?_
    exact kv_iret (pc := 11) (fun h => h) rfl dk_D_wrong_11
theorem dk_Chains_willDo_0 : decode prog_2_method_7_code 0 = .ok (.aload_n 0, 1) := by decide +kernel
theorem dk_Chains_willDo_1 : decode prog_2_method_7_code 1 = .ok (.getfield 18, 3) := by decide +kernel
theorem dk_Chains_willDo_4 : decode prog_2_method_7_code 4 = .ok (.iload_n 1, 1) := by decide +kernel
theorem dk_Chains_willDo_5 : decode prog_2_method_7_code 5 = .ok (.iaload, 1) := by decide +kernel
theorem dk_Chains_willDo_6 : decode prog_2_method_7_code 6 = .ok (.ifCond .le 16, 3) := by decide +kernel
theorem dk_Chains_willDo_9 : decode prog_2_method_7_code 9 = .ok (.aload_n 0, 1) := by decide +kernel
theorem dk_Chains_willDo_10 : decode prog_2_method_7_code 10 = .ok (.iload_n 1, 1) := by decide +kernel
theorem dk_Chains_willDo_11 : decode prog_2_method_7_code 11 = .ok (.invokevirtual 33, 3) := by decide +kernel
theorem dk_Chains_willDo_14 : decode prog_2_method_7_code 14 = .ok (.iload_n 2, 1) := by decide +kernel
theorem dk_Chains_willDo_15 : decode prog_2_method_7_code 15 = .ok (.if_icmp .gt 7, 3) := by decide +kernel
theorem dk_Chains_willDo_18 : decode prog_2_method_7_code 18 = .ok (.iconst 1, 1) := by decide +kernel
theorem dk_Chains_willDo_19 : decode prog_2_method_7_code 19 = .ok (.goto 4, 3) := by decide +kernel
theorem dk_Chains_willDo_22 : decode prog_2_method_7_code 22 = .ok (.iconst 0, 1) := by decide +kernel
theorem dk_Chains_willDo_23 : decode prog_2_method_7_code 23 = .ok (.ireturn, 1) := by decide +kernel
noncomputable def fx_Chains_willDo (p1 : Int32) (p2 : Int32) (c : (Nat → Nat → Int32)) : Option Bool :=
  kv_gd (kv_in p1 4) (
  if (c 23 p1.toNatClampNeg) ≤ 0 then
    some false
  else
    kv_bind1 (fx_Chains_doubtOf p1 c) (fun v2 =>
    if p2 < v2 then
      some false
    else
      some true))
set_option maxRecDepth 20000 in
theorem cx_Chains_willDo (d : Nat) (p1 : Int32) (p2 : Int32) (c : (Nat → Nat → Int32)) (y : (Nat → Nat → Int32) × (Nat → Int64) × (Nat → Int64)) : ∀ a, fx_Chains_willDo p1 p2 c = some a → kv_C kM_Chains_willDo (d + 1) [.ref 20, .int p1, .int p2] (c, y) (some (.int (kv_b a)), (c, y)) := by
  refine kv_entryX (E := fun a : Bool => (some (.int (kv_b a)), (c, y))) rfl (Nat.le_of_ble_eq_true rfl) (fun o => ?_)
  unfold fx_Chains_willDo
  show kv_X _ _ _ _ _ 0 [(0, .ref 20), (1, .int p1), (2, .int p2)] [] (c, y)
  refine kv_aload_n (pc := 0) 0 rfl rfl dk_Chains_willDo_0 ?_
  refine kv_getR (pc := 1) kf_Chains_18 kr_20 rfl kt_20_2 dk_Chains_willDo_1 ?_
  refine kv_iload_n (pc := 4) 1 rfl rfl dk_Chains_willDo_4 ?_
  refine kv_guard (fun g1 => ?_)
  refine kv_aldC (pc := 5) kr_23 kn_23 kl_23 g1 rfl dk_Chains_willDo_5 ?_
  refine kv_if_le (pc := 6) (tgt := 22) dk_Chains_willDo_6 rfl ?_ ?_
  · refine kv_iconst (pc := 22) (v := (0 : Int32)) dk_Chains_willDo_22 kki_0 ?_
    exact kv_zret (pc := 23) (b := false) (fun h => h) rfl dk_Chains_willDo_23
  · refine kv_aload_n (pc := 9) 0 rfl rfl dk_Chains_willDo_9 ?_
    refine kv_iload_n (pc := 10) 1 rfl rfl dk_Chains_willDo_10 ?_
    refine kv_cV_cI (pc := 11) (as := [.int p1]) (st := []) ko_Chains_doubtOf kc_0 rfl rfl kr_20 kw_959 (Nat.le_of_ble_eq_true rfl) rfl dk_Chains_willDo_11 (cx_Chains_doubtOf d p1 c y) (fun v2 => ?_)
    refine kv_iload_n (pc := 14) 2 rfl rfl dk_Chains_willDo_14 ?_
    refine kv_icmp_gt (pc := 15) (tgt := 22) dk_Chains_willDo_15 rfl ?_ ?_
    · refine kv_iconst (pc := 22) (v := (0 : Int32)) dk_Chains_willDo_22 kki_0 ?_
      exact kv_zret (pc := 23) (b := false) (fun h => h) rfl dk_Chains_willDo_23
    · refine kv_iconst (pc := 18) (v := (1 : Int32)) dk_Chains_willDo_18 kki_1 ?_
      refine kv_goto (pc := 19) (tgt := 23) dk_Chains_willDo_19 rfl ?_
      exact kv_zret (pc := 23) (b := true) (fun h => h) rfl dk_Chains_willDo_23
theorem dk_K_when_0 : decode prog_1_method_28_code 0 = .ok (.iload_n 1, 1) := by decide +kernel
theorem dk_K_when_1 : decode prog_1_method_28_code 1 = .ok (.ifCond .ge 5, 3) := by decide +kernel
theorem dk_K_when_4 : decode prog_1_method_28_code 4 = .ok (.iconst (-1), 1) := by decide +kernel
theorem dk_K_when_5 : decode prog_1_method_28_code 5 = .ok (.ireturn, 1) := by decide +kernel
theorem dk_K_when_6 : decode prog_1_method_28_code 6 = .ok (.aload_n 0, 1) := by decide +kernel
theorem dk_K_when_7 : decode prog_1_method_28_code 7 = .ok (.getfield 10, 3) := by decide +kernel
theorem dk_K_when_10 : decode prog_1_method_28_code 10 = .ok (.getfield 296, 3) := by decide +kernel
theorem dk_K_when_13 : decode prog_1_method_28_code 13 = .ok (.astore_n 2, 1) := by decide +kernel
theorem dk_K_when_14 : decode prog_1_method_28_code 14 = .ok (.sipush 141, 3) := by decide +kernel
theorem dk_K_when_17 : decode prog_1_method_28_code 17 = .ok (.istore_n 3, 1) := by decide +kernel
theorem dk_K_when_18 : decode prog_1_method_28_code 18 = .ok (.iconst 0, 1) := by decide +kernel
theorem dk_K_when_19 : decode prog_1_method_28_code 19 = .ok (.istore 4, 2) := by decide +kernel
theorem dk_K_when_21 : decode prog_1_method_28_code 21 = .ok (.iload 4, 2) := by decide +kernel
theorem dk_K_when_23 : decode prog_1_method_28_code 23 = .ok (.iconst 4, 1) := by decide +kernel
theorem dk_K_when_24 : decode prog_1_method_28_code 24 = .ok (.if_icmp .ge 80, 3) := by decide +kernel
theorem dk_K_when_27 : decode prog_1_method_28_code 27 = .ok (.iload 4, 2) := by decide +kernel
theorem dk_K_when_29 : decode prog_1_method_28_code 29 = .ok (.iconst 1, 1) := by decide +kernel
theorem dk_K_when_30 : decode prog_1_method_28_code 30 = .ok (.iadd, 1) := by decide +kernel
theorem dk_K_when_31 : decode prog_1_method_28_code 31 = .ok (.istore 5, 2) := by decide +kernel
theorem dk_K_when_33 : decode prog_1_method_28_code 33 = .ok (.iload 5, 2) := by decide +kernel
theorem dk_K_when_35 : decode prog_1_method_28_code 35 = .ok (.iconst 4, 1) := by decide +kernel
theorem dk_K_when_36 : decode prog_1_method_28_code 36 = .ok (.if_icmp .ge 62, 3) := by decide +kernel
theorem dk_K_when_39 : decode prog_1_method_28_code 39 = .ok (.aload_n 2, 1) := by decide +kernel
theorem dk_K_when_40 : decode prog_1_method_28_code 40 = .ok (.iload 4, 2) := by decide +kernel
theorem dk_K_when_42 : decode prog_1_method_28_code 42 = .ok (.iload_n 1, 1) := by decide +kernel
theorem dk_K_when_43 : decode prog_1_method_28_code 43 = .ok (.invokevirtual 321, 3) := by decide +kernel
theorem dk_K_when_46 : decode prog_1_method_28_code 46 = .ok (.ifCond .eq 46, 3) := by decide +kernel
theorem dk_K_when_49 : decode prog_1_method_28_code 49 = .ok (.aload_n 2, 1) := by decide +kernel
theorem dk_K_when_50 : decode prog_1_method_28_code 50 = .ok (.iload 5, 2) := by decide +kernel
theorem dk_K_when_52 : decode prog_1_method_28_code 52 = .ok (.iload_n 1, 1) := by decide +kernel
theorem dk_K_when_53 : decode prog_1_method_28_code 53 = .ok (.invokevirtual 321, 3) := by decide +kernel
theorem dk_K_when_56 : decode prog_1_method_28_code 56 = .ok (.ifCond .eq 36, 3) := by decide +kernel
theorem dk_K_when_59 : decode prog_1_method_28_code 59 = .ok (.aload_n 2, 1) := by decide +kernel
theorem dk_K_when_60 : decode prog_1_method_28_code 60 = .ok (.iload 4, 2) := by decide +kernel
theorem dk_K_when_62 : decode prog_1_method_28_code 62 = .ok (.iload 5, 2) := by decide +kernel
theorem dk_K_when_64 : decode prog_1_method_28_code 64 = .ok (.invokevirtual 315, 3) := by decide +kernel
theorem dk_K_when_67 : decode prog_1_method_28_code 67 = .ok (.ifCond .gt 25, 3) := by decide +kernel
theorem dk_K_when_70 : decode prog_1_method_28_code 70 = .ok (.iload_n 3, 1) := by decide +kernel
theorem dk_K_when_71 : decode prog_1_method_28_code 71 = .ok (.aload_n 2, 1) := by decide +kernel
theorem dk_K_when_72 : decode prog_1_method_28_code 72 = .ok (.getfield 305, 3) := by decide +kernel
theorem dk_K_when_75 : decode prog_1_method_28_code 75 = .ok (.iload 4, 2) := by decide +kernel
theorem dk_K_when_77 : decode prog_1_method_28_code 77 = .ok (.iaload, 1) := by decide +kernel
theorem dk_K_when_78 : decode prog_1_method_28_code 78 = .ok (.aload_n 2, 1) := by decide +kernel
theorem dk_K_when_79 : decode prog_1_method_28_code 79 = .ok (.getfield 305, 3) := by decide +kernel
theorem dk_K_when_82 : decode prog_1_method_28_code 82 = .ok (.iload 5, 2) := by decide +kernel
theorem dk_K_when_84 : decode prog_1_method_28_code 84 = .ok (.iaload, 1) := by decide +kernel
theorem dk_K_when_85 : decode prog_1_method_28_code 85 = .ok (.invokestatic 324, 3) := by decide +kernel
theorem dk_K_when_88 : decode prog_1_method_28_code 88 = .ok (.invokestatic 329, 3) := by decide +kernel
theorem dk_K_when_91 : decode prog_1_method_28_code 91 = .ok (.istore_n 3, 1) := by decide +kernel
theorem dk_K_when_92 : decode prog_1_method_28_code 92 = .ok (.iinc 5 1, 3) := by decide +kernel
theorem dk_K_when_95 : decode prog_1_method_28_code 95 = .ok (.goto (-62), 3) := by decide +kernel
theorem dk_K_when_98 : decode prog_1_method_28_code 98 = .ok (.iinc 4 1, 3) := by decide +kernel
theorem dk_K_when_101 : decode prog_1_method_28_code 101 = .ok (.goto (-80), 3) := by decide +kernel
theorem dk_K_when_104 : decode prog_1_method_28_code 104 = .ok (.iload_n 3, 1) := by decide +kernel
theorem dk_K_when_105 : decode prog_1_method_28_code 105 = .ok (.sipush 140, 3) := by decide +kernel
theorem dk_K_when_108 : decode prog_1_method_28_code 108 = .ok (.if_icmp .le 8, 3) := by decide +kernel
theorem dk_K_when_111 : decode prog_1_method_28_code 111 = .ok (.bipush (-4), 2) := by decide +kernel
theorem dk_K_when_113 : decode prog_1_method_28_code 113 = .ok (.goto 4, 3) := by decide +kernel
theorem dk_K_when_116 : decode prog_1_method_28_code 116 = .ok (.iload_n 3, 1) := by decide +kernel
theorem dk_K_when_117 : decode prog_1_method_28_code 117 = .ok (.ireturn, 1) := by decide +kernel
noncomputable def fj_K_when_92 (x6 : Int32) (x9 : Int32) : Option ((Int32 × Int32) ⊕ Int32) :=
  some (.inl (x9, (x6 + (1 : Int32))))
noncomputable def fb_K_when_33 (x2 : Int32) (p1 : Int32) (c : (Nat → Nat → Int32)) (x5 : Int32) (x6 : Int32) : Option ((Int32 × Int32) ⊕ Int32) :=
  if (4 : Int32) ≤ x6 then
    some (.inr x5)
  else
    kv_bind1 (fx_Chains_willDo x2 p1 c) (fun b8 =>
    if b8 = true then
      kv_bind1 (fx_Chains_willDo x6 p1 c) (fun b10 =>
      if b10 = true then
        kv_bind1 (fx_Chains_lack x2 x6 c) (fun v11 =>
        if 0 < v11 then
          fj_K_when_92 x6 x5
        else
          kv_gd (kv_in x2 4) (
          kv_gd (kv_in x6 4) (
          kv_let (if (if (c 24 x2.toNatClampNeg) < (c 24 x6.toNatClampNeg) then (c 24 x6.toNatClampNeg) else (c 24 x2.toNatClampNeg)) < x5 then (if (c 24 x2.toNatClampNeg) < (c 24 x6.toNatClampNeg) then (c 24 x6.toNatClampNeg) else (c 24 x2.toNatClampNeg)) else x5) (fun v14 =>
          fj_K_when_92 x6 v14))))
      else
        fj_K_when_92 x6 x5)
    else
      fj_K_when_92 x6 x5)
noncomputable def fb_K_when_21 (p1 : Int32) (c : (Nat → Nat → Int32)) (x1 : Int32) (x2 : Int32) : Option ((Int32 × Int32) ⊕ Int32) :=
  if (4 : Int32) ≤ x2 then
    some (.inr x1)
  else
    kv_let (x2 + (1 : Int32)) (fun v4 =>
    (kv_loop (kv_u2 (fb_K_when_33 x2 p1 c)) (x1, v4)).bind (kv_u1 (fun x7 =>
    some (.inl (x7, (x2 + (1 : Int32)))))))
noncomputable def fx_K_when (p1 : Int32) (c : (Nat → Nat → Int32)) : Option Int32 :=
  if 0 ≤ p1 then
    (kv_loop (kv_u2 (fb_K_when_21 p1 c)) ((141 : Int32), (0 : Int32))).bind (kv_u1 (fun x3 =>
    if x3 ≤ (140 : Int32) then
      some x3
    else
      some (-4 : Int32)))
  else
    some (-1 : Int32)
set_option maxRecDepth 20000 in
theorem cx_K_when (d : Nat) (p1 : Int32) (c : (Nat → Nat → Int32)) (y : (Nat → Nat → Int32) × (Nat → Int64) × (Nat → Int64)) : ∀ a, fx_K_when p1 c = some a → kv_C kM_K_when (d + 2) [.ref 0, .int p1] (c, y) (some (.int a), (c, y)) := by
  refine kv_entryX (E := fun a : Int32 => (some (.int a), (c, y))) rfl (Nat.le_of_ble_eq_true rfl) (fun o => ?_)
  unfold fx_K_when
  show kv_X _ _ _ _ _ 0 [(0, .ref 0), (1, .int p1)] [] (c, y)
  refine kv_iload_n (pc := 0) 1 rfl rfl dk_K_when_0 ?_
  refine kv_if_ge (pc := 1) (tgt := 6) dk_K_when_1 rfl ?_ ?_
  · refine kv_aload_n (pc := 6) 0 rfl rfl dk_K_when_6 ?_
    refine kv_getR (pc := 7) kf_K_10 kr_0 rfl kt_0_0 dk_K_when_7 ?_
    refine kv_getR (pc := 10) kf_K_296 kr_1 rfl kt_1_3 dk_K_when_10 ?_
    refine kv_astore_n (pc := 13) (lv' := [(2, .ref 20), (0, .ref 0), (1, .int p1)]) rfl (Nat.le_of_ble_eq_true rfl) rfl dk_K_when_13 ?_
    refine kv_sipush (pc := 14) (v := (141 : Int32)) dk_K_when_14 kks_141 ?_
    refine kv_istore_n (pc := 17) (lv' := [(3, .int (141 : Int32)), (2, .ref 20), (0, .ref 0), (1, .int p1)]) rfl (Nat.le_of_ble_eq_true rfl) rfl dk_K_when_17 ?_
    refine kv_iconst (pc := 18) (v := (0 : Int32)) dk_K_when_18 kki_0 ?_
    refine kv_istore (pc := 19) (lv' := [(4, .int (0 : Int32)), (3, .int (141 : Int32)), (2, .ref 20), (0, .ref 0), (1, .int p1)]) rfl (Nat.le_of_ble_eq_true rfl) dk_K_when_19 ?_
    refine kv_sub (lv' := [(1, .int p1), (2, .ref 20), (3, .int (141 : Int32)), (4, .int (0 : Int32))]) [4, 2, 1, 0] rfl ?_
    refine kv_lp_2_1 (LV := fun x1 x2 => [(1, .int p1), (2, .ref 20), (3, .int x1), (4, .int x2)]) (WW := fun x1 x2 => (c, y)) (LE1 := fun x3 => [(3, .int x3)]) (WE1 := fun x3 => (c, y)) (pe1 := 104) ?_ ?_
    · intro x3
      show kv_X _ _ _ _ _ 104 [(3, .int x3)] [] (c, y)
      refine kv_iload_n (pc := 104) 0 rfl rfl dk_K_when_104 ?_
      refine kv_sipush (pc := 105) (v := (140 : Int32)) dk_K_when_105 kks_140 ?_
      refine kv_icmp_le (pc := 108) (tgt := 116) dk_K_when_108 rfl ?_ ?_
      · refine kv_iload_n (pc := 116) 0 rfl rfl dk_K_when_116 ?_
        exact kv_iret (pc := 117) (fun h => h) rfl dk_K_when_117
      · refine kv_bipush (pc := 111) (v := (-4 : Int32)) dk_K_when_111 kkb_m4 ?_
        refine kv_goto (pc := 113) (tgt := 117) dk_K_when_113 rfl ?_
        exact kv_iret (pc := 117) (fun h => h) rfl dk_K_when_117
    · intro hx21_0 x1 x2
      show kv_X _ _ _ _ (fb_K_when_21 p1 c x1 x2) 21 [(1, .int p1), (2, .ref 20), (3, .int x1), (4, .int x2)] [] (c, y)
      unfold fb_K_when_21
      refine kv_iload (pc := 21) 3 rfl dk_K_when_21 ?_
      refine kv_iconst (pc := 23) (v := (4 : Int32)) dk_K_when_23 kki_4 ?_
      refine kv_icmp_ge (pc := 24) (tgt := 104) dk_K_when_24 rfl ?_ ?_
      · exact kv_sub [2] rfl (kv_leaf (hx21_0 _))
      · refine kv_iload (pc := 27) 3 rfl dk_K_when_27 ?_
        refine kv_iconst (pc := 29) (v := (1 : Int32)) dk_K_when_29 kki_1 ?_
        refine kv_iadd (pc := 30) dk_K_when_30 ?_
        refine kv_letI (fun v4 => ?_)
        refine kv_istore (pc := 31) (lv' := [(5, .int v4), (1, .int p1), (2, .ref 20), (3, .int x1), (4, .int x2)]) rfl (Nat.le_of_ble_eq_true rfl) dk_K_when_31 ?_
        refine kv_sub (lv' := [(1, .int p1), (2, .ref 20), (3, .int x1), (4, .int x2), (5, .int v4)]) [1, 2, 3, 4, 0] rfl ?_
        refine kv_lp_2_1 (LV := fun x5 x6 => [(1, .int p1), (2, .ref 20), (3, .int x5), (4, .int x2), (5, .int x6)]) (WW := fun x5 x6 => (c, y)) (LE1 := fun x7 => [(1, .int p1), (2, .ref 20), (3, .int x7), (4, .int x2)]) (WE1 := fun x7 => (c, y)) (pe1 := 98) ?_ ?_
        · intro x7
          show kv_X _ _ _ _ _ 98 [(1, .int p1), (2, .ref 20), (3, .int x7), (4, .int x2)] [] (c, y)
          refine kv_iinc (pc := 98) (kk := (1 : Int32)) (lv' := [(4, .int (x2 + (1 : Int32))), (1, .int p1), (2, .ref 20), (3, .int x7)]) 3 rfl kki_1 rfl (Nat.le_of_ble_eq_true rfl) dk_K_when_98 ?_
          refine kv_goto (pc := 101) (tgt := 21) dk_K_when_101 rfl ?_
          exact kv_sub [1, 2, 3, 0] rfl (kv_leaf (fun h => h))
        · intro hx33_0 x5 x6
          show kv_X _ _ _ _ (fb_K_when_33 x2 p1 c x5 x6) 33 [(1, .int p1), (2, .ref 20), (3, .int x5), (4, .int x2), (5, .int x6)] [] (c, y)
          unfold fb_K_when_33
          refine kv_iload (pc := 33) 4 rfl dk_K_when_33 ?_
          refine kv_iconst (pc := 35) (v := (4 : Int32)) dk_K_when_35 kki_4 ?_
          refine kv_icmp_ge (pc := 36) (tgt := 98) dk_K_when_36 rfl ?_ ?_
          · exact kv_sub [0, 1, 2, 3] rfl (kv_leaf (hx33_0 _))
          · refine kv_aload_n (pc := 39) 1 rfl rfl dk_K_when_39 ?_
            refine kv_iload (pc := 40) 3 rfl dk_K_when_40 ?_
            refine kv_iload_n (pc := 42) 0 rfl rfl dk_K_when_42 ?_
            refine kv_cV_cZ (pc := 43) (as := [.int x2, .int p1]) (st := []) ko_Chains_willDo kc_0 rfl rfl kr_20 kw_972 (Nat.le_of_ble_eq_true rfl) rfl dk_K_when_43 (cx_Chains_willDo d x2 p1 c y) (fun b8 => ?_)
            refine kv_cut_1 (J := fj_K_when_92 x6) (pcj := 92) (LJ := fun x9 => [(1, .int p1), (2, .ref 20), (3, .int x9), (4, .int x2), (5, .int x6)]) (SJ := fun x9 => []) (WJ := fun x9 => (c, y)) ?_ (fun hj92 => ?_)
            · intro x9
              show kv_X _ _ _ _ (fj_K_when_92 x6 x9) 92 [(1, .int p1), (2, .ref 20), (3, .int x9), (4, .int x2), (5, .int x6)] [] (c, y)
              unfold fj_K_when_92
              refine kv_iinc (pc := 92) (kk := (1 : Int32)) (lv' := [(5, .int (x6 + (1 : Int32))), (1, .int p1), (2, .ref 20), (3, .int x9), (4, .int x2)]) 4 rfl kki_1 rfl (Nat.le_of_ble_eq_true rfl) dk_K_when_92 ?_
              refine kv_goto (pc := 95) (tgt := 33) dk_K_when_95 rfl ?_
              exact kv_sub [1, 2, 3, 4, 0] rfl (kv_leaf (fun h => h))
            refine kv_zif_eq (pc := 46) (tgt := 92) dk_K_when_46 rfl ?_ ?_
            · exact hj92 x5
            · refine kv_aload_n (pc := 49) 1 rfl rfl dk_K_when_49 ?_
              refine kv_iload (pc := 50) 4 rfl dk_K_when_50 ?_
              refine kv_iload_n (pc := 52) 0 rfl rfl dk_K_when_52 ?_
              refine kv_cV_cZ (pc := 53) (as := [.int x6, .int p1]) (st := []) ko_Chains_willDo kc_0 rfl rfl kr_20 kw_972 (Nat.le_of_ble_eq_true rfl) rfl dk_K_when_53 (cx_Chains_willDo d x6 p1 c y) (fun b10 => ?_)
              refine kv_zif_eq (pc := 56) (tgt := 92) dk_K_when_56 rfl ?_ ?_
              · exact hj92 x5
              · refine kv_aload_n (pc := 59) 1 rfl rfl dk_K_when_59 ?_
                refine kv_iload (pc := 60) 3 rfl dk_K_when_60 ?_
                refine kv_iload (pc := 62) 4 rfl dk_K_when_62 ?_
                refine kv_cV_cI (pc := 64) (as := [.int x2, .int x6]) (st := []) ko_Chains_lack kc_0 rfl rfl kr_20 kw_951 (Nat.le_of_ble_eq_true rfl) rfl dk_K_when_64 (cx_Chains_lack d x2 x6 c y) (fun v11 => ?_)
                refine kv_if_gt (pc := 67) (tgt := 92) dk_K_when_67 rfl ?_ ?_
                · exact hj92 x5
                · refine kv_iload_n (pc := 70) 2 rfl rfl dk_K_when_70 ?_
                  refine kv_aload_n (pc := 71) 1 rfl rfl dk_K_when_71 ?_
                  refine kv_getR (pc := 72) kf_K_305 kr_20 rfl kt_20_3 dk_K_when_72 ?_
                  refine kv_iload (pc := 75) 3 rfl dk_K_when_75 ?_
                  refine kv_guard (fun g12 => ?_)
                  refine kv_aldC (pc := 77) kr_24 kn_24 kl_24 g12 rfl dk_K_when_77 ?_
                  refine kv_aload_n (pc := 78) 1 rfl rfl dk_K_when_78 ?_
                  refine kv_getR (pc := 79) kf_K_305 kr_20 rfl kt_20_3 dk_K_when_79 ?_
                  refine kv_iload (pc := 82) 4 rfl dk_K_when_82 ?_
                  refine kv_guard (fun g13 => ?_)
                  refine kv_aldC (pc := 84) kr_24 kn_24 kl_24 g13 rfl dk_K_when_84 ?_
                  refine kv_mmax (pc := 85) kw_976 kw_977 kw_84 kv_wmmax (Nat.le_of_ble_eq_true rfl) dk_K_when_85 ?_
                  refine kv_mmin (pc := 88) kw_979 kw_980 kw_84 kv_wmmin (Nat.le_of_ble_eq_true rfl) dk_K_when_88 ?_
                  refine kv_letI (fun v14 => ?_)
                  refine kv_istore_n (pc := 91) (lv' := [(3, .int v14), (1, .int p1), (2, .ref 20), (4, .int x2), (5, .int x6)]) rfl (Nat.le_of_ble_eq_true rfl) rfl dk_K_when_91 ?_
                  exact kv_sub [1, 2, 0, 3, 4] rfl (hj92 v14)
  · refine kv_iconst (pc := 4) (v := (-1 : Int32)) dk_K_when_4 kki_m1 ?_
    exact kv_iret (pc := 5) (fun h => h) rfl dk_K_when_5
theorem dk_D_when_0 : decode prog_13_method_78_code 0 = .ok (.iload_n 1, 1) := by decide +kernel
theorem dk_D_when_1 : decode prog_13_method_78_code 1 = .ok (.ifCond .ge 5, 3) := by decide +kernel
theorem dk_D_when_4 : decode prog_13_method_78_code 4 = .ok (.iconst (-1), 1) := by decide +kernel
theorem dk_D_when_5 : decode prog_13_method_78_code 5 = .ok (.ireturn, 1) := by decide +kernel
theorem dk_D_when_6 : decode prog_13_method_78_code 6 = .ok (.bipush (-4), 2) := by decide +kernel
theorem dk_D_when_8 : decode prog_13_method_78_code 8 = .ok (.istore_n 2, 1) := by decide +kernel
theorem dk_D_when_9 : decode prog_13_method_78_code 9 = .ok (.iconst 0, 1) := by decide +kernel
theorem dk_D_when_10 : decode prog_13_method_78_code 10 = .ok (.istore_n 3, 1) := by decide +kernel
theorem dk_D_when_11 : decode prog_13_method_78_code 11 = .ok (.iload_n 3, 1) := by decide +kernel
theorem dk_D_when_12 : decode prog_13_method_78_code 12 = .ok (.iconst 4, 1) := by decide +kernel
theorem dk_D_when_13 : decode prog_13_method_78_code 13 = .ok (.if_icmp .ge 127, 3) := by decide +kernel
theorem dk_D_when_16 : decode prog_13_method_78_code 16 = .ok (.iconst 0, 1) := by decide +kernel
theorem dk_D_when_17 : decode prog_13_method_78_code 17 = .ok (.istore 4, 2) := by decide +kernel
theorem dk_D_when_19 : decode prog_13_method_78_code 19 = .ok (.iload 4, 2) := by decide +kernel
theorem dk_D_when_21 : decode prog_13_method_78_code 21 = .ok (.iload_n 3, 1) := by decide +kernel
theorem dk_D_when_22 : decode prog_13_method_78_code 22 = .ok (.if_icmp .ge 112, 3) := by decide +kernel
theorem dk_D_when_25 : decode prog_13_method_78_code 25 = .ok (.aload_n 0, 1) := by decide +kernel
theorem dk_D_when_26 : decode prog_13_method_78_code 26 = .ok (.iload_n 3, 1) := by decide +kernel
theorem dk_D_when_27 : decode prog_13_method_78_code 27 = .ok (.invokevirtual 285, 3) := by decide +kernel
theorem dk_D_when_30 : decode prog_13_method_78_code 30 = .ok (.ifCond .eq 98, 3) := by decide +kernel
theorem dk_D_when_33 : decode prog_13_method_78_code 33 = .ok (.aload_n 0, 1) := by decide +kernel
theorem dk_D_when_34 : decode prog_13_method_78_code 34 = .ok (.iload 4, 2) := by decide +kernel
theorem dk_D_when_36 : decode prog_13_method_78_code 36 = .ok (.invokevirtual 285, 3) := by decide +kernel
theorem dk_D_when_39 : decode prog_13_method_78_code 39 = .ok (.ifCond .eq 89, 3) := by decide +kernel
theorem dk_D_when_42 : decode prog_13_method_78_code 42 = .ok (.aload_n 0, 1) := by decide +kernel
theorem dk_D_when_43 : decode prog_13_method_78_code 43 = .ok (.iload_n 3, 1) := by decide +kernel
theorem dk_D_when_44 : decode prog_13_method_78_code 44 = .ok (.iload 4, 2) := by decide +kernel
theorem dk_D_when_46 : decode prog_13_method_78_code 46 = .ok (.iconst 0, 1) := by decide +kernel
theorem dk_D_when_47 : decode prog_13_method_78_code 47 = .ok (.invokevirtual 294, 3) := by decide +kernel
theorem dk_D_when_50 : decode prog_13_method_78_code 50 = .ok (.ifCond .eq 78, 3) := by decide +kernel
theorem dk_D_when_53 : decode prog_13_method_78_code 53 = .ok (.aload_n 0, 1) := by decide +kernel
theorem dk_D_when_54 : decode prog_13_method_78_code 54 = .ok (.iload_n 3, 1) := by decide +kernel
theorem dk_D_when_55 : decode prog_13_method_78_code 55 = .ok (.iconst 1, 1) := by decide +kernel
theorem dk_D_when_56 : decode prog_13_method_78_code 56 = .ok (.invokevirtual 288, 3) := by decide +kernel
theorem dk_D_when_59 : decode prog_13_method_78_code 59 = .ok (.iload_n 1, 1) := by decide +kernel
theorem dk_D_when_60 : decode prog_13_method_78_code 60 = .ok (.if_icmp .gt 68, 3) := by decide +kernel
theorem dk_D_when_63 : decode prog_13_method_78_code 63 = .ok (.aload_n 0, 1) := by decide +kernel
theorem dk_D_when_64 : decode prog_13_method_78_code 64 = .ok (.iload 4, 2) := by decide +kernel
theorem dk_D_when_66 : decode prog_13_method_78_code 66 = .ok (.iconst 1, 1) := by decide +kernel
theorem dk_D_when_67 : decode prog_13_method_78_code 67 = .ok (.invokevirtual 288, 3) := by decide +kernel
theorem dk_D_when_70 : decode prog_13_method_78_code 70 = .ok (.iload_n 1, 1) := by decide +kernel
theorem dk_D_when_71 : decode prog_13_method_78_code 71 = .ok (.if_icmp .le 6, 3) := by decide +kernel
theorem dk_D_when_74 : decode prog_13_method_78_code 74 = .ok (.goto 54, 3) := by decide +kernel
theorem dk_D_when_77 : decode prog_13_method_78_code 77 = .ok (.aload_n 0, 1) := by decide +kernel
theorem dk_D_when_78 : decode prog_13_method_78_code 78 = .ok (.iload_n 3, 1) := by decide +kernel
theorem dk_D_when_79 : decode prog_13_method_78_code 79 = .ok (.iconst 2, 1) := by decide +kernel
theorem dk_D_when_80 : decode prog_13_method_78_code 80 = .ok (.invokevirtual 288, 3) := by decide +kernel
theorem dk_D_when_83 : decode prog_13_method_78_code 83 = .ok (.aload_n 0, 1) := by decide +kernel
theorem dk_D_when_84 : decode prog_13_method_78_code 84 = .ok (.iload 4, 2) := by decide +kernel
theorem dk_D_when_86 : decode prog_13_method_78_code 86 = .ok (.iconst 2, 1) := by decide +kernel
theorem dk_D_when_87 : decode prog_13_method_78_code 87 = .ok (.invokevirtual 288, 3) := by decide +kernel
theorem dk_D_when_90 : decode prog_13_method_78_code 90 = .ok (.if_icmp .le 12, 3) := by decide +kernel
theorem dk_D_when_93 : decode prog_13_method_78_code 93 = .ok (.aload_n 0, 1) := by decide +kernel
theorem dk_D_when_94 : decode prog_13_method_78_code 94 = .ok (.iload_n 3, 1) := by decide +kernel
theorem dk_D_when_95 : decode prog_13_method_78_code 95 = .ok (.iconst 2, 1) := by decide +kernel
theorem dk_D_when_96 : decode prog_13_method_78_code 96 = .ok (.invokevirtual 288, 3) := by decide +kernel
theorem dk_D_when_99 : decode prog_13_method_78_code 99 = .ok (.goto 10, 3) := by decide +kernel
theorem dk_D_when_102 : decode prog_13_method_78_code 102 = .ok (.aload_n 0, 1) := by decide +kernel
theorem dk_D_when_103 : decode prog_13_method_78_code 103 = .ok (.iload 4, 2) := by decide +kernel
theorem dk_D_when_105 : decode prog_13_method_78_code 105 = .ok (.iconst 2, 1) := by decide +kernel
theorem dk_D_when_106 : decode prog_13_method_78_code 106 = .ok (.invokevirtual 288, 3) := by decide +kernel
theorem dk_D_when_109 : decode prog_13_method_78_code 109 = .ok (.istore 5, 2) := by decide +kernel
theorem dk_D_when_111 : decode prog_13_method_78_code 111 = .ok (.iload_n 2, 1) := by decide +kernel
theorem dk_D_when_112 : decode prog_13_method_78_code 112 = .ok (.ifCond .lt 9, 3) := by decide +kernel
theorem dk_D_when_115 : decode prog_13_method_78_code 115 = .ok (.iload 5, 2) := by decide +kernel
theorem dk_D_when_117 : decode prog_13_method_78_code 117 = .ok (.iload_n 2, 1) := by decide +kernel
theorem dk_D_when_118 : decode prog_13_method_78_code 118 = .ok (.if_icmp .ge 8, 3) := by decide +kernel
theorem dk_D_when_121 : decode prog_13_method_78_code 121 = .ok (.iload 5, 2) := by decide +kernel
theorem dk_D_when_123 : decode prog_13_method_78_code 123 = .ok (.goto 4, 3) := by decide +kernel
theorem dk_D_when_126 : decode prog_13_method_78_code 126 = .ok (.iload_n 2, 1) := by decide +kernel
theorem dk_D_when_127 : decode prog_13_method_78_code 127 = .ok (.istore_n 2, 1) := by decide +kernel
theorem dk_D_when_128 : decode prog_13_method_78_code 128 = .ok (.iinc 4 1, 3) := by decide +kernel
theorem dk_D_when_131 : decode prog_13_method_78_code 131 = .ok (.goto (-112), 3) := by decide +kernel
theorem dk_D_when_134 : decode prog_13_method_78_code 134 = .ok (.iinc 3 1, 3) := by decide +kernel
theorem dk_D_when_137 : decode prog_13_method_78_code 137 = .ok (.goto (-126), 3) := by decide +kernel
theorem dk_D_when_140 : decode prog_13_method_78_code 140 = .ok (.iload_n 2, 1) := by decide +kernel
theorem dk_D_when_141 : decode prog_13_method_78_code 141 = .ok (.ireturn, 1) := by decide +kernel
noncomputable def fj_D_when_128 (x5 : Int32) (x8 : Int32) : Option ((Int32 × Int32) ⊕ Int32) :=
  some (.inl (x8, (x5 + (1 : Int32))))
noncomputable def fj_D_when_127 (x5 : Int32) (x16 : Int32) : Option ((Int32 × Int32) ⊕ Int32) :=
  fj_D_when_128 x5 x16
noncomputable def fj_D_when_121 (x5 : Int32) (x15 : Int32) : Option ((Int32 × Int32) ⊕ Int32) :=
  fj_D_when_127 x5 x15
noncomputable def fj_D_when_109 (x4 : Int32) (x5 : Int32) (x15 : Int32) : Option ((Int32 × Int32) ⊕ Int32) :=
  if x4 < 0 then
    fj_D_when_121 x5 x15
  else
    if x4 ≤ x15 then
      fj_D_when_127 x5 x4
    else
      fj_D_when_121 x5 x15
noncomputable def fb_D_when_19 (x2 : Int32) (m : (Nat → Nat → Int32)) (p1 : Int32) (x4 : Int32) (x5 : Int32) : Option ((Int32 × Int32) ⊕ Int32) :=
  if x2 ≤ x5 then
    some (.inr x4)
  else
    kv_bind1 (fx_D_links x2 m) (fun v7 =>
    if v7 = 0 then
      fj_D_when_128 x5 x4
    else
      kv_bind1 (fx_D_links x5 m) (fun v9 =>
      if v9 = 0 then
        fj_D_when_128 x5 x4
      else
        kv_bind1 (fx_D_agrees x2 x5 (0 : Int32) m) (fun b10 =>
        if b10 = true then
          kv_bind1 (fx_D_chainOf x2 (1 : Int32) m) (fun v11 =>
          if p1 < v11 then
            fj_D_when_128 x5 x4
          else
            kv_bind1 (fx_D_chainOf x5 (1 : Int32) m) (fun v12 =>
            if v12 ≤ p1 then
              kv_bind1 (fx_D_chainOf x2 (2 : Int32) m) (fun v13 =>
              kv_bind1 (fx_D_chainOf x5 (2 : Int32) m) (fun v14 =>
              if v13 ≤ v14 then
                kv_bind1 (fx_D_chainOf x5 (2 : Int32) m) (fun v17 =>
                fj_D_when_109 x4 x5 v17)
              else
                kv_bind1 (fx_D_chainOf x2 (2 : Int32) m) (fun v18 =>
                fj_D_when_109 x4 x5 v18)))
            else
              fj_D_when_128 x5 x4))
        else
          fj_D_when_128 x5 x4)))
noncomputable def fb_D_when_11 (m : (Nat → Nat → Int32)) (p1 : Int32) (x1 : Int32) (x2 : Int32) : Option ((Int32 × Int32) ⊕ Int32) :=
  if (4 : Int32) ≤ x2 then
    some (.inr x1)
  else
    (kv_loop (kv_u2 (fb_D_when_19 x2 m p1)) (x1, (0 : Int32))).bind (kv_u1 (fun x6 =>
    some (.inl (x6, (x2 + (1 : Int32))))))
noncomputable def fx_D_when (p1 : Int32) (m : (Nat → Nat → Int32)) : Option Int32 :=
  if 0 ≤ p1 then
    (kv_loop (kv_u2 (fb_D_when_11 m p1)) ((-4 : Int32), (0 : Int32))).bind (kv_u1 (fun x3 =>
    some x3))
  else
    some (-1 : Int32)
set_option maxRecDepth 20000 in
theorem cx_D_when (d : Nat) (p1 : Int32) (c : (Nat → Nat → Int32)) (m : (Nat → Nat → Int32)) (f : (Nat → Int64)) (u : (Nat → Int64)) : ∀ a, fx_D_when p1 m = some a → kv_C kM_D_when (d + 3) [.ref 84, .int p1] (c, m, f, u) (some (.int a), (c, m, f, u)) := by
  refine kv_entryX (E := fun a : Int32 => (some (.int a), (c, m, f, u))) rfl (Nat.le_of_ble_eq_true rfl) (fun o => ?_)
  unfold fx_D_when
  show kv_X _ _ _ _ _ 0 [(0, .ref 84), (1, .int p1)] [] (c, m, f, u)
  refine kv_iload_n (pc := 0) 1 rfl rfl dk_D_when_0 ?_
  refine kv_if_ge (pc := 1) (tgt := 6) dk_D_when_1 rfl ?_ ?_
  · refine kv_bipush (pc := 6) (v := (-4 : Int32)) dk_D_when_6 kkb_m4 ?_
    refine kv_istore_n (pc := 8) (lv' := [(2, .int (-4 : Int32)), (0, .ref 84), (1, .int p1)]) rfl (Nat.le_of_ble_eq_true rfl) rfl dk_D_when_8 ?_
    refine kv_iconst (pc := 9) (v := (0 : Int32)) dk_D_when_9 kki_0 ?_
    refine kv_istore_n (pc := 10) (lv' := [(3, .int (0 : Int32)), (2, .int (-4 : Int32)), (0, .ref 84), (1, .int p1)]) rfl (Nat.le_of_ble_eq_true rfl) rfl dk_D_when_10 ?_
    refine kv_sub (lv' := [(0, .ref 84), (1, .int p1), (2, .int (-4 : Int32)), (3, .int (0 : Int32))]) [2, 3, 1, 0] rfl ?_
    refine kv_lp_2_1 (LV := fun x1 x2 => [(0, .ref 84), (1, .int p1), (2, .int x1), (3, .int x2)]) (WW := fun x1 x2 => (c, m, f, u)) (LE1 := fun x3 => [(2, .int x3)]) (WE1 := fun x3 => (c, m, f, u)) (pe1 := 140) ?_ ?_
    · intro x3
      show kv_X _ _ _ _ _ 140 [(2, .int x3)] [] (c, m, f, u)
      refine kv_iload_n (pc := 140) 0 rfl rfl dk_D_when_140 ?_
      exact kv_iret (pc := 141) (fun h => h) rfl dk_D_when_141
    · intro hx11_0 x1 x2
      show kv_X _ _ _ _ (fb_D_when_11 m p1 x1 x2) 11 [(0, .ref 84), (1, .int p1), (2, .int x1), (3, .int x2)] [] (c, m, f, u)
      unfold fb_D_when_11
      refine kv_iload_n (pc := 11) 3 rfl rfl dk_D_when_11 ?_
      refine kv_iconst (pc := 12) (v := (4 : Int32)) dk_D_when_12 kki_4 ?_
      refine kv_icmp_ge (pc := 13) (tgt := 140) dk_D_when_13 rfl ?_ ?_
      · exact kv_sub [2] rfl (kv_leaf (hx11_0 _))
      · refine kv_iconst (pc := 16) (v := (0 : Int32)) dk_D_when_16 kki_0 ?_
        refine kv_istore (pc := 17) (lv' := [(4, .int (0 : Int32)), (0, .ref 84), (1, .int p1), (2, .int x1), (3, .int x2)]) rfl (Nat.le_of_ble_eq_true rfl) dk_D_when_17 ?_
        refine kv_sub (lv' := [(0, .ref 84), (1, .int p1), (2, .int x1), (3, .int x2), (4, .int (0 : Int32))]) [1, 2, 3, 4, 0] rfl ?_
        refine kv_lp_2_1 (LV := fun x4 x5 => [(0, .ref 84), (1, .int p1), (2, .int x4), (3, .int x2), (4, .int x5)]) (WW := fun x4 x5 => (c, m, f, u)) (LE1 := fun x6 => [(0, .ref 84), (1, .int p1), (2, .int x6), (3, .int x2)]) (WE1 := fun x6 => (c, m, f, u)) (pe1 := 134) ?_ ?_
        · intro x6
          show kv_X _ _ _ _ _ 134 [(0, .ref 84), (1, .int p1), (2, .int x6), (3, .int x2)] [] (c, m, f, u)
          refine kv_iinc (pc := 134) (kk := (1 : Int32)) (lv' := [(3, .int (x2 + (1 : Int32))), (0, .ref 84), (1, .int p1), (2, .int x6)]) 3 rfl kki_1 rfl (Nat.le_of_ble_eq_true rfl) dk_D_when_134 ?_
          refine kv_goto (pc := 137) (tgt := 11) dk_D_when_137 rfl ?_
          exact kv_sub [1, 2, 3, 0] rfl (kv_leaf (fun h => h))
        · intro hx19_0 x4 x5
          show kv_X _ _ _ _ (fb_D_when_19 x2 m p1 x4 x5) 19 [(0, .ref 84), (1, .int p1), (2, .int x4), (3, .int x2), (4, .int x5)] [] (c, m, f, u)
          unfold fb_D_when_19
          refine kv_iload (pc := 19) 4 rfl dk_D_when_19 ?_
          refine kv_iload_n (pc := 21) 3 rfl rfl dk_D_when_21 ?_
          refine kv_icmp_ge (pc := 22) (tgt := 134) dk_D_when_22 rfl ?_ ?_
          · exact kv_sub [0, 1, 2, 3] rfl (kv_leaf (hx19_0 _))
          · refine kv_aload_n (pc := 25) 0 rfl rfl dk_D_when_25 ?_
            refine kv_iload_n (pc := 26) 3 rfl rfl dk_D_when_26 ?_
            refine kv_cV_mI (pc := 27) (as := [.int x2]) (st := []) ko_D_links kc_11 rfl rfl kr_84 kw_1620 (Nat.le_of_ble_eq_true rfl) rfl dk_D_when_27 (cx_D_links (d + 2) x2 c m f u) (fun v7 => ?_)
            refine kv_cut_1 (J := fj_D_when_128 x5) (pcj := 128) (LJ := fun x8 => [(0, .ref 84), (1, .int p1), (2, .int x8), (3, .int x2), (4, .int x5)]) (SJ := fun x8 => []) (WJ := fun x8 => (c, m, f, u)) ?_ (fun hj128 => ?_)
            · intro x8
              show kv_X _ _ _ _ (fj_D_when_128 x5 x8) 128 [(0, .ref 84), (1, .int p1), (2, .int x8), (3, .int x2), (4, .int x5)] [] (c, m, f, u)
              unfold fj_D_when_128
              refine kv_iinc (pc := 128) (kk := (1 : Int32)) (lv' := [(4, .int (x5 + (1 : Int32))), (0, .ref 84), (1, .int p1), (2, .int x8), (3, .int x2)]) 4 rfl kki_1 rfl (Nat.le_of_ble_eq_true rfl) dk_D_when_128 ?_
              refine kv_goto (pc := 131) (tgt := 19) dk_D_when_131 rfl ?_
              exact kv_sub [1, 2, 3, 4, 0] rfl (kv_leaf (fun h => h))
            refine kv_if_eq (pc := 30) (tgt := 128) dk_D_when_30 rfl ?_ ?_
            · exact hj128 x4
            · refine kv_aload_n (pc := 33) 0 rfl rfl dk_D_when_33 ?_
              refine kv_iload (pc := 34) 4 rfl dk_D_when_34 ?_
              refine kv_cV_mI (pc := 36) (as := [.int x5]) (st := []) ko_D_links kc_11 rfl rfl kr_84 kw_1620 (Nat.le_of_ble_eq_true rfl) rfl dk_D_when_36 (cx_D_links (d + 2) x5 c m f u) (fun v9 => ?_)
              refine kv_if_eq (pc := 39) (tgt := 128) dk_D_when_39 rfl ?_ ?_
              · exact hj128 x4
              · refine kv_aload_n (pc := 42) 0 rfl rfl dk_D_when_42 ?_
                refine kv_iload_n (pc := 43) 3 rfl rfl dk_D_when_43 ?_
                refine kv_iload (pc := 44) 4 rfl dk_D_when_44 ?_
                refine kv_iconst (pc := 46) (v := (0 : Int32)) dk_D_when_46 kki_0 ?_
                refine kv_cV_mZ (pc := 47) (as := [.int x2, .int x5, .int (0 : Int32)]) (st := []) ko_D_agrees kc_11 rfl rfl kr_84 kw_1640 (Nat.le_of_ble_eq_true rfl) rfl dk_D_when_47 (cx_D_agrees d x2 x5 (0 : Int32) c m f u) (fun b10 => ?_)
                refine kv_zif_eq (pc := 50) (tgt := 128) dk_D_when_50 rfl ?_ ?_
                · exact hj128 x4
                · refine kv_aload_n (pc := 53) 0 rfl rfl dk_D_when_53 ?_
                  refine kv_iload_n (pc := 54) 3 rfl rfl dk_D_when_54 ?_
                  refine kv_iconst (pc := 55) (v := (1 : Int32)) dk_D_when_55 kki_1 ?_
                  refine kv_cV_mI (pc := 56) (as := [.int x2, .int (1 : Int32)]) (st := []) ko_D_chainOf kc_11 rfl rfl kr_84 kw_1628 (Nat.le_of_ble_eq_true rfl) rfl dk_D_when_56 (cx_D_chainOf (d + 1) x2 (1 : Int32) c m f u) (fun v11 => ?_)
                  refine kv_iload_n (pc := 59) 1 rfl rfl dk_D_when_59 ?_
                  refine kv_icmp_gt (pc := 60) (tgt := 128) dk_D_when_60 rfl ?_ ?_
                  · exact hj128 x4
                  · refine kv_aload_n (pc := 63) 0 rfl rfl dk_D_when_63 ?_
                    refine kv_iload (pc := 64) 4 rfl dk_D_when_64 ?_
                    refine kv_iconst (pc := 66) (v := (1 : Int32)) dk_D_when_66 kki_1 ?_
                    refine kv_cV_mI (pc := 67) (as := [.int x5, .int (1 : Int32)]) (st := []) ko_D_chainOf kc_11 rfl rfl kr_84 kw_1628 (Nat.le_of_ble_eq_true rfl) rfl dk_D_when_67 (cx_D_chainOf (d + 1) x5 (1 : Int32) c m f u) (fun v12 => ?_)
                    refine kv_iload_n (pc := 70) 1 rfl rfl dk_D_when_70 ?_
                    refine kv_icmp_le (pc := 71) (tgt := 77) dk_D_when_71 rfl ?_ ?_
                    · refine kv_aload_n (pc := 77) 0 rfl rfl dk_D_when_77 ?_
                      refine kv_iload_n (pc := 78) 3 rfl rfl dk_D_when_78 ?_
                      refine kv_iconst (pc := 79) (v := (2 : Int32)) dk_D_when_79 kki_2 ?_
                      refine kv_cV_mI (pc := 80) (as := [.int x2, .int (2 : Int32)]) (st := []) ko_D_chainOf kc_11 rfl rfl kr_84 kw_1628 (Nat.le_of_ble_eq_true rfl) rfl dk_D_when_80 (cx_D_chainOf (d + 1) x2 (2 : Int32) c m f u) (fun v13 => ?_)
                      refine kv_aload_n (pc := 83) 0 rfl rfl dk_D_when_83 ?_
                      refine kv_iload (pc := 84) 4 rfl dk_D_when_84 ?_
                      refine kv_iconst (pc := 86) (v := (2 : Int32)) dk_D_when_86 kki_2 ?_
                      refine kv_cV_mI (pc := 87) (as := [.int x5, .int (2 : Int32)]) (st := [.int v13]) ko_D_chainOf kc_11 rfl rfl kr_84 kw_1628 (Nat.le_of_ble_eq_true rfl) rfl dk_D_when_87 (cx_D_chainOf (d + 1) x5 (2 : Int32) c m f u) (fun v14 => ?_)
                      refine kv_cut_1 (J := fj_D_when_109 x4 x5) (pcj := 109) (LJ := fun x15 => [(0, .ref 84), (1, .int p1), (2, .int x4), (3, .int x2), (4, .int x5)]) (SJ := fun x15 => [.int x15]) (WJ := fun x15 => (c, m, f, u)) ?_ (fun hj109 => ?_)
                      · intro x15
                        show kv_X _ _ _ _ (fj_D_when_109 x4 x5 x15) 109 [(0, .ref 84), (1, .int p1), (2, .int x4), (3, .int x2), (4, .int x5)] [.int x15] (c, m, f, u)
                        unfold fj_D_when_109
                        refine kv_istore (pc := 109) (lv' := [(5, .int x15), (0, .ref 84), (1, .int p1), (2, .int x4), (3, .int x2), (4, .int x5)]) rfl (Nat.le_of_ble_eq_true rfl) dk_D_when_109 ?_
                        refine kv_iload_n (pc := 111) 3 rfl rfl dk_D_when_111 ?_
                        refine kv_cut_1 (J := fj_D_when_127 x5) (pcj := 127) (LJ := fun x16 => [(0, .ref 84), (1, .int p1), (3, .int x2), (4, .int x5)]) (SJ := fun x16 => [.int x16]) (WJ := fun x16 => (c, m, f, u)) ?_ (fun hj127 => ?_)
                        · intro x16
                          show kv_X _ _ _ _ (fj_D_when_127 x5 x16) 127 [(0, .ref 84), (1, .int p1), (3, .int x2), (4, .int x5)] [.int x16] (c, m, f, u)
                          unfold fj_D_when_127
                          refine kv_istore_n (pc := 127) (lv' := [(2, .int x16), (0, .ref 84), (1, .int p1), (3, .int x2), (4, .int x5)]) rfl (Nat.le_of_ble_eq_true rfl) rfl dk_D_when_127 ?_
                          exact kv_sub [1, 2, 0, 3, 4] rfl (hj128 x16)
                        refine kv_cut_0 (J := fj_D_when_121 x5 x15) (pcj := 121) (LJ := [(0, .ref 84), (1, .int p1), (3, .int x2), (4, .int x5), (5, .int x15)]) (SJ := []) (WJ := (c, m, f, u)) ?_ (fun hj121 => ?_)
                        · show kv_X _ _ _ _ (fj_D_when_121 x5 x15) 121 [(0, .ref 84), (1, .int p1), (3, .int x2), (4, .int x5), (5, .int x15)] [] (c, m, f, u)
                          unfold fj_D_when_121
                          refine kv_iload (pc := 121) 4 rfl dk_D_when_121 ?_
                          refine kv_goto (pc := 123) (tgt := 127) dk_D_when_123 rfl ?_
                          exact kv_sub [0, 1, 2, 3] rfl (hj127 x15)
                        refine kv_if_lt (pc := 112) (tgt := 121) dk_D_when_112 rfl ?_ ?_
                        · exact kv_sub [1, 2, 4, 5, 0] rfl (hj121)
                        · refine kv_iload (pc := 115) 0 rfl dk_D_when_115 ?_
                          refine kv_iload_n (pc := 117) 3 rfl rfl dk_D_when_117 ?_
                          refine kv_icmp_ge (pc := 118) (tgt := 126) dk_D_when_118 rfl ?_ ?_
                          · refine kv_iload_n (pc := 126) 3 rfl rfl dk_D_when_126 ?_
                            exact kv_sub [1, 2, 4, 5] rfl (hj127 x4)
                          · exact kv_sub [1, 2, 4, 5, 0] rfl (hj121)
                      refine kv_icmp_le (pc := 90) (tgt := 102) dk_D_when_90 rfl ?_ ?_
                      · refine kv_aload_n (pc := 102) 0 rfl rfl dk_D_when_102 ?_
                        refine kv_iload (pc := 103) 4 rfl dk_D_when_103 ?_
                        refine kv_iconst (pc := 105) (v := (2 : Int32)) dk_D_when_105 kki_2 ?_
                        refine kv_cV_mI (pc := 106) (as := [.int x5, .int (2 : Int32)]) (st := []) ko_D_chainOf kc_11 rfl rfl kr_84 kw_1628 (Nat.le_of_ble_eq_true rfl) rfl dk_D_when_106 (cx_D_chainOf (d + 1) x5 (2 : Int32) c m f u) (fun v17 => ?_)
                        exact hj109 v17
                      · refine kv_aload_n (pc := 93) 0 rfl rfl dk_D_when_93 ?_
                        refine kv_iload_n (pc := 94) 3 rfl rfl dk_D_when_94 ?_
                        refine kv_iconst (pc := 95) (v := (2 : Int32)) dk_D_when_95 kki_2 ?_
                        refine kv_cV_mI (pc := 96) (as := [.int x2, .int (2 : Int32)]) (st := []) ko_D_chainOf kc_11 rfl rfl kr_84 kw_1628 (Nat.le_of_ble_eq_true rfl) rfl dk_D_when_96 (cx_D_chainOf (d + 1) x2 (2 : Int32) c m f u) (fun v18 => ?_)
                        refine kv_goto (pc := 99) (tgt := 109) dk_D_when_99 rfl ?_
                        exact hj109 v18
                    · refine kv_goto (pc := 74) (tgt := 128) dk_D_when_74 rfl ?_
                      exact hj128 x4
  · refine kv_iconst (pc := 4) (v := (-1 : Int32)) dk_D_when_4 kki_m1 ?_
    exact kv_iret (pc := 5) (fun h => h) rfl dk_D_when_5
theorem dk_K_arePairs_0 : decode prog_1_method_61_code 0 = .ok (.aload_n 1, 1) := by decide +kernel
theorem dk_K_arePairs_1 : decode prog_1_method_61_code 1 = .ok (.getfield 174, 3) := by decide +kernel
theorem dk_K_arePairs_4 : decode prog_1_method_61_code 4 = .ok (.bipush 8, 2) := by decide +kernel
theorem dk_K_arePairs_6 : decode prog_1_method_61_code 6 = .ok (.if_icmp .le 5, 3) := by decide +kernel
theorem dk_K_arePairs_9 : decode prog_1_method_61_code 9 = .ok (.iconst 0, 1) := by decide +kernel
theorem dk_K_arePairs_10 : decode prog_1_method_61_code 10 = .ok (.ireturn, 1) := by decide +kernel
theorem dk_K_arePairs_11 : decode prog_1_method_61_code 11 = .ok (.iconst 0, 1) := by decide +kernel
theorem dk_K_arePairs_12 : decode prog_1_method_61_code 12 = .ok (.istore_n 2, 1) := by decide +kernel
theorem dk_K_arePairs_13 : decode prog_1_method_61_code 13 = .ok (.iload_n 2, 1) := by decide +kernel
theorem dk_K_arePairs_14 : decode prog_1_method_61_code 14 = .ok (.aload_n 1, 1) := by decide +kernel
theorem dk_K_arePairs_15 : decode prog_1_method_61_code 15 = .ok (.getfield 174, 3) := by decide +kernel
theorem dk_K_arePairs_18 : decode prog_1_method_61_code 18 = .ok (.if_icmp .ge 43, 3) := by decide +kernel
theorem dk_K_arePairs_21 : decode prog_1_method_61_code 21 = .ok (.aload_n 1, 1) := by decide +kernel
theorem dk_K_arePairs_22 : decode prog_1_method_61_code 22 = .ok (.getfield 184, 3) := by decide +kernel
theorem dk_K_arePairs_25 : decode prog_1_method_61_code 25 = .ok (.iload_n 2, 1) := by decide +kernel
theorem dk_K_arePairs_26 : decode prog_1_method_61_code 26 = .ok (.iaload, 1) := by decide +kernel
theorem dk_K_arePairs_27 : decode prog_1_method_61_code 27 = .ok (.istore_n 3, 1) := by decide +kernel
theorem dk_K_arePairs_28 : decode prog_1_method_61_code 28 = .ok (.iload_n 3, 1) := by decide +kernel
theorem dk_K_arePairs_29 : decode prog_1_method_61_code 29 = .ok (.ifCond .lt 24, 3) := by decide +kernel
theorem dk_K_arePairs_32 : decode prog_1_method_61_code 32 = .ok (.aload_n 0, 1) := by decide +kernel
theorem dk_K_arePairs_33 : decode prog_1_method_61_code 33 = .ok (.getfield 10, 3) := by decide +kernel
theorem dk_K_arePairs_36 : decode prog_1_method_61_code 36 = .ok (.getfield 58, 3) := by decide +kernel
theorem dk_K_arePairs_39 : decode prog_1_method_61_code 39 = .ok (.iload_n 3, 1) := by decide +kernel
theorem dk_K_arePairs_40 : decode prog_1_method_61_code 40 = .ok (.bipush 10, 2) := by decide +kernel
theorem dk_K_arePairs_42 : decode prog_1_method_61_code 42 = .ok (.idiv, 1) := by decide +kernel
theorem dk_K_arePairs_43 : decode prog_1_method_61_code 43 = .ok (.iload_n 3, 1) := by decide +kernel
theorem dk_K_arePairs_44 : decode prog_1_method_61_code 44 = .ok (.bipush 10, 2) := by decide +kernel
theorem dk_K_arePairs_46 : decode prog_1_method_61_code 46 = .ok (.irem, 1) := by decide +kernel
theorem dk_K_arePairs_47 : decode prog_1_method_61_code 47 = .ok (.invokevirtual 145, 3) := by decide +kernel
theorem dk_K_arePairs_50 : decode prog_1_method_61_code 50 = .ok (.ifCond .ne 5, 3) := by decide +kernel
theorem dk_K_arePairs_53 : decode prog_1_method_61_code 53 = .ok (.iconst 0, 1) := by decide +kernel
theorem dk_K_arePairs_54 : decode prog_1_method_61_code 54 = .ok (.ireturn, 1) := by decide +kernel
theorem dk_K_arePairs_55 : decode prog_1_method_61_code 55 = .ok (.iinc 2 1, 3) := by decide +kernel
theorem dk_K_arePairs_58 : decode prog_1_method_61_code 58 = .ok (.goto (-45), 3) := by decide +kernel
theorem dk_K_arePairs_61 : decode prog_1_method_61_code 61 = .ok (.iconst 1, 1) := by decide +kernel
theorem dk_K_arePairs_62 : decode prog_1_method_61_code 62 = .ok (.ireturn, 1) := by decide +kernel
noncomputable def fb_K_arePairs_13 (c : (Nat → Nat → Int32)) (r1 : Nat) (x1 : Int32) : Option (Int32 ⊕ (Unit ⊕ Unit)) :=
  if (c r1 3) ≤ x1 then
    some (.inr (.inr ()))
  else
    kv_gd (kv_in x1 100) (
    kv_let (c (kv_tg r1 0) x1.toNatClampNeg) (fun v3 =>
    if v3 < 0 then
      some (.inr (.inl ()))
    else
      kv_bind1 (fx_Lumps_hasPair (v3 / (10 : Int32)) (v3 - v3 / (10 : Int32) * (10 : Int32)) c) (fun b4 =>
      if b4 = true then
        some (.inl (x1 + (1 : Int32)))
      else
        some (.inr (.inl ())))))
noncomputable def fx_K_arePairs (r1 : Nat) (c : (Nat → Nat → Int32)) : Option Bool :=
  if (c r1 3) ≤ (8 : Int32) then
    (kv_loop (kv_u1 (fb_K_arePairs_13 c r1)) (0 : Int32)).bind (Sum.elim (kv_u0 (
    some false))
     (kv_u0 (
    some true)))
  else
    some false
set_option maxRecDepth 20000 in
theorem cx_K_arePairs (d : Nat) (r1 : Nat) (c : (Nat → Nat → Int32)) (y : (Nat → Nat → Int32) × (Nat → Int64) × (Nat → Int64)) (h1 : kv_kd r1 = 7) : ∀ a, fx_K_arePairs r1 c = some a → kv_C kM_K_arePairs (d + 2) [.ref 0, .ref r1] (c, y) (some (.int (kv_b a)), (c, y)) := by
  refine kv_entryX (E := fun a : Bool => (some (.int (kv_b a)), (c, y))) rfl (Nat.le_of_ble_eq_true rfl) (fun o => ?_)
  unfold fx_K_arePairs
  show kv_X _ _ _ _ _ 0 [(0, .ref 0), (1, .ref r1)] [] (c, y)
  refine kv_aload_n (pc := 0) 1 rfl rfl dk_K_arePairs_0 ?_
  refine kv_getC (pc := 1) kf_K_174 h1 (kv_7nc h1) rfl dk_K_arePairs_1 ?_
  refine kv_bipush (pc := 4) (v := (8 : Int32)) dk_K_arePairs_4 kkb_8 ?_
  refine kv_icmp_le (pc := 6) (tgt := 11) dk_K_arePairs_6 rfl ?_ ?_
  · refine kv_iconst (pc := 11) (v := (0 : Int32)) dk_K_arePairs_11 kki_0 ?_
    refine kv_istore_n (pc := 12) (lv' := [(2, .int (0 : Int32)), (0, .ref 0), (1, .ref r1)]) rfl (Nat.le_of_ble_eq_true rfl) rfl dk_K_arePairs_12 ?_
    refine kv_sub (lv' := [(0, .ref 0), (1, .ref r1), (2, .int (0 : Int32))]) [1, 2, 0] rfl ?_
    refine kv_lp_1_0_0 (LV := fun x1 => [(0, .ref 0), (1, .ref r1), (2, .int x1)]) (WW := fun x1 => (c, y)) (LE1 := []) (WE1 := (c, y)) (pe1 := 53) (LE2 := []) (WE2 := (c, y)) (pe2 := 61) ?_ ?_ ?_
    · show kv_X _ _ _ _ _ 53 [] [] (c, y)
      refine kv_iconst (pc := 53) (v := (0 : Int32)) dk_K_arePairs_53 kki_0 ?_
      exact kv_zret (pc := 54) (b := false) (fun h => h) rfl dk_K_arePairs_54
    · show kv_X _ _ _ _ _ 61 [] [] (c, y)
      refine kv_iconst (pc := 61) (v := (1 : Int32)) dk_K_arePairs_61 kki_1 ?_
      exact kv_zret (pc := 62) (b := true) (fun h => h) rfl dk_K_arePairs_62
    · intro hx13_0 hx13_1 x1
      show kv_X _ _ _ _ (fb_K_arePairs_13 c r1 x1) 13 [(0, .ref 0), (1, .ref r1), (2, .int x1)] [] (c, y)
      unfold fb_K_arePairs_13
      refine kv_iload_n (pc := 13) 2 rfl rfl dk_K_arePairs_13 ?_
      refine kv_aload_n (pc := 14) 1 rfl rfl dk_K_arePairs_14 ?_
      refine kv_getC (pc := 15) kf_K_174 h1 (kv_7nc h1) rfl dk_K_arePairs_15 ?_
      refine kv_icmp_ge (pc := 18) (tgt := 61) dk_K_arePairs_18 rfl ?_ ?_
      · exact kv_sub [] rfl (kv_leaf (hx13_1))
      · refine kv_aload_n (pc := 21) 1 rfl rfl dk_K_arePairs_21 ?_
        refine kv_getR (pc := 22) kf_K_184 h1 rfl rfl dk_K_arePairs_22 ?_
        refine kv_iload_n (pc := 25) 2 rfl rfl dk_K_arePairs_25 ?_
        refine kv_guard (fun g2 => ?_)
        refine kv_aldC (pc := 26) (kv_7e h1) (kv_7enc h1) (kv_7eln h1) g2 rfl dk_K_arePairs_26 ?_
        refine kv_letI (fun v3 => ?_)
        refine kv_istore_n (pc := 27) (lv' := [(3, .int v3), (0, .ref 0), (1, .ref r1), (2, .int x1)]) rfl (Nat.le_of_ble_eq_true rfl) rfl dk_K_arePairs_27 ?_
        refine kv_iload_n (pc := 28) 0 rfl rfl dk_K_arePairs_28 ?_
        refine kv_if_lt (pc := 29) (tgt := 53) dk_K_arePairs_29 rfl ?_ ?_
        · exact kv_sub [] rfl (kv_leaf (hx13_0))
        · refine kv_aload_n (pc := 32) 1 rfl rfl dk_K_arePairs_32 ?_
          refine kv_getR (pc := 33) kf_K_10 kr_0 rfl kt_0_0 dk_K_arePairs_33 ?_
          refine kv_getR (pc := 36) kf_K_58 kr_1 rfl kt_1_0 dk_K_arePairs_36 ?_
          refine kv_iload_n (pc := 39) 0 rfl rfl dk_K_arePairs_39 ?_
          refine kv_bipush (pc := 40) (v := (10 : Int32)) dk_K_arePairs_40 kkb_10 ?_
          refine kv_idiv (pc := 42) dk_K_arePairs_42 kkn_10 ?_
          refine kv_iload_n (pc := 43) 0 rfl rfl dk_K_arePairs_43 ?_
          refine kv_bipush (pc := 44) (v := (10 : Int32)) dk_K_arePairs_44 kkb_10 ?_
          refine kv_irem (pc := 46) dk_K_arePairs_46 kkn_10 ?_
          refine kv_cV_cZ (pc := 47) (as := [.int (v3 / (10 : Int32)), .int (v3 - v3 / (10 : Int32) * (10 : Int32))]) (st := []) ko_Lumps_hasPair kc_3 rfl rfl kr_2 kw_589 (Nat.le_of_ble_eq_true rfl) rfl dk_K_arePairs_47 (cx_Lumps_hasPair d (v3 / (10 : Int32)) (v3 - v3 / (10 : Int32) * (10 : Int32)) c y) (fun b4 => ?_)
          refine kv_zif_ne (pc := 50) (tgt := 55) dk_K_arePairs_50 rfl ?_ ?_
          · refine kv_iinc (pc := 55) (kk := (1 : Int32)) (lv' := [(2, .int (x1 + (1 : Int32))), (3, .int v3), (0, .ref 0), (1, .ref r1)]) 3 rfl kki_1 rfl (Nat.le_of_ble_eq_true rfl) dk_K_arePairs_55 ?_
            refine kv_goto (pc := 58) (tgt := 13) dk_K_arePairs_58 rfl ?_
            exact kv_sub [2, 3, 0] rfl (kv_leaf (fun h => h))
          · exact kv_sub [] rfl (kv_leaf (hx13_0))
  · refine kv_iconst (pc := 9) (v := (0 : Int32)) dk_K_arePairs_9 kki_0 ?_
    exact kv_zret (pc := 10) (b := false) (fun h => h) rfl dk_K_arePairs_10
theorem dk_Planner_tell_0 : decode prog_7_method_2_code 0 = .ok (.aload_n 0, 1) := by decide +kernel
theorem dk_Planner_tell_1 : decode prog_7_method_2_code 1 = .ok (.aload_n 2, 1) := by decide +kernel
theorem dk_Planner_tell_2 : decode prog_7_method_2_code 2 = .ok (.getfield 31, 3) := by decide +kernel
theorem dk_Planner_tell_5 : decode prog_7_method_2_code 5 = .ok (.bipush 8, 2) := by decide +kernel
theorem dk_Planner_tell_7 : decode prog_7_method_2_code 7 = .ok (.invokestatic 37, 3) := by decide +kernel
theorem dk_Planner_tell_10 : decode prog_7_method_2_code 10 = .ok (.putfield 43, 3) := by decide +kernel
theorem dk_Planner_tell_13 : decode prog_7_method_2_code 13 = .ok (.aload_n 0, 1) := by decide +kernel
theorem dk_Planner_tell_14 : decode prog_7_method_2_code 14 = .ok (.aload_n 1, 1) := by decide +kernel
theorem dk_Planner_tell_15 : decode prog_7_method_2_code 15 = .ok (.getfield 46, 3) := by decide +kernel
theorem dk_Planner_tell_18 : decode prog_7_method_2_code 18 = .ok (.putfield 51, 3) := by decide +kernel
theorem dk_Planner_tell_21 : decode prog_7_method_2_code 21 = .ok (.aload_n 0, 1) := by decide +kernel
theorem dk_Planner_tell_22 : decode prog_7_method_2_code 22 = .ok (.iload_n 3, 1) := by decide +kernel
theorem dk_Planner_tell_23 : decode prog_7_method_2_code 23 = .ok (.putfield 54, 3) := by decide +kernel
theorem dk_Planner_tell_26 : decode prog_7_method_2_code 26 = .ok (.aload_n 0, 1) := by decide +kernel
theorem dk_Planner_tell_27 : decode prog_7_method_2_code 27 = .ok (.iload 4, 2) := by decide +kernel
theorem dk_Planner_tell_29 : decode prog_7_method_2_code 29 = .ok (.putfield 57, 3) := by decide +kernel
theorem dk_Planner_tell_32 : decode prog_7_method_2_code 32 = .ok (.iconst 0, 1) := by decide +kernel
theorem dk_Planner_tell_33 : decode prog_7_method_2_code 33 = .ok (.istore 5, 2) := by decide +kernel
theorem dk_Planner_tell_35 : decode prog_7_method_2_code 35 = .ok (.iload 5, 2) := by decide +kernel
theorem dk_Planner_tell_37 : decode prog_7_method_2_code 37 = .ok (.aload_n 0, 1) := by decide +kernel
theorem dk_Planner_tell_38 : decode prog_7_method_2_code 38 = .ok (.getfield 43, 3) := by decide +kernel
theorem dk_Planner_tell_41 : decode prog_7_method_2_code 41 = .ok (.if_icmp .ge 107, 3) := by decide +kernel
theorem dk_Planner_tell_44 : decode prog_7_method_2_code 44 = .ok (.aload_n 2, 1) := by decide +kernel
theorem dk_Planner_tell_45 : decode prog_7_method_2_code 45 = .ok (.getfield 60, 3) := by decide +kernel
theorem dk_Planner_tell_48 : decode prog_7_method_2_code 48 = .ok (.iload 5, 2) := by decide +kernel
theorem dk_Planner_tell_50 : decode prog_7_method_2_code 50 = .ok (.iaload, 1) := by decide +kernel
theorem dk_Planner_tell_51 : decode prog_7_method_2_code 51 = .ok (.bipush 10, 2) := by decide +kernel
theorem dk_Planner_tell_53 : decode prog_7_method_2_code 53 = .ok (.idiv, 1) := by decide +kernel
theorem dk_Planner_tell_54 : decode prog_7_method_2_code 54 = .ok (.istore 6, 2) := by decide +kernel
theorem dk_Planner_tell_56 : decode prog_7_method_2_code 56 = .ok (.aload_n 2, 1) := by decide +kernel
theorem dk_Planner_tell_57 : decode prog_7_method_2_code 57 = .ok (.getfield 60, 3) := by decide +kernel
theorem dk_Planner_tell_60 : decode prog_7_method_2_code 60 = .ok (.iload 5, 2) := by decide +kernel
theorem dk_Planner_tell_62 : decode prog_7_method_2_code 62 = .ok (.iaload, 1) := by decide +kernel
theorem dk_Planner_tell_63 : decode prog_7_method_2_code 63 = .ok (.bipush 10, 2) := by decide +kernel
theorem dk_Planner_tell_65 : decode prog_7_method_2_code 65 = .ok (.irem, 1) := by decide +kernel
theorem dk_Planner_tell_66 : decode prog_7_method_2_code 66 = .ok (.istore 7, 2) := by decide +kernel
theorem dk_Planner_tell_68 : decode prog_7_method_2_code 68 = .ok (.aload_n 0, 1) := by decide +kernel
theorem dk_Planner_tell_69 : decode prog_7_method_2_code 69 = .ok (.getfield 18, 3) := by decide +kernel
theorem dk_Planner_tell_72 : decode prog_7_method_2_code 72 = .ok (.iload 5, 2) := by decide +kernel
theorem dk_Planner_tell_74 : decode prog_7_method_2_code 74 = .ok (.iload 6, 2) := by decide +kernel
theorem dk_Planner_tell_76 : decode prog_7_method_2_code 76 = .ok (.iastore, 1) := by decide +kernel
theorem dk_Planner_tell_77 : decode prog_7_method_2_code 77 = .ok (.aload_n 0, 1) := by decide +kernel
theorem dk_Planner_tell_78 : decode prog_7_method_2_code 78 = .ok (.getfield 21, 3) := by decide +kernel
theorem dk_Planner_tell_81 : decode prog_7_method_2_code 81 = .ok (.iload 5, 2) := by decide +kernel
theorem dk_Planner_tell_83 : decode prog_7_method_2_code 83 = .ok (.iload 7, 2) := by decide +kernel
theorem dk_Planner_tell_85 : decode prog_7_method_2_code 85 = .ok (.iastore, 1) := by decide +kernel
theorem dk_Planner_tell_86 : decode prog_7_method_2_code 86 = .ok (.aload_n 0, 1) := by decide +kernel
theorem dk_Planner_tell_87 : decode prog_7_method_2_code 87 = .ok (.getfield 24, 3) := by decide +kernel
theorem dk_Planner_tell_90 : decode prog_7_method_2_code 90 = .ok (.iload 5, 2) := by decide +kernel
theorem dk_Planner_tell_92 : decode prog_7_method_2_code 92 = .ok (.aload_n 1, 1) := by decide +kernel
theorem dk_Planner_tell_93 : decode prog_7_method_2_code 93 = .ok (.getfield 63, 3) := by decide +kernel
theorem dk_Planner_tell_96 : decode prog_7_method_2_code 96 = .ok (.iload 6, 2) := by decide +kernel
theorem dk_Planner_tell_98 : decode prog_7_method_2_code 98 = .ok (.iaload, 1) := by decide +kernel
theorem dk_Planner_tell_99 : decode prog_7_method_2_code 99 = .ok (.aload_n 1, 1) := by decide +kernel
theorem dk_Planner_tell_100 : decode prog_7_method_2_code 100 = .ok (.getfield 63, 3) := by decide +kernel
theorem dk_Planner_tell_103 : decode prog_7_method_2_code 103 = .ok (.iload 7, 2) := by decide +kernel
theorem dk_Planner_tell_105 : decode prog_7_method_2_code 105 = .ok (.iaload, 1) := by decide +kernel
theorem dk_Planner_tell_106 : decode prog_7_method_2_code 106 = .ok (.isub, 1) := by decide +kernel
theorem dk_Planner_tell_107 : decode prog_7_method_2_code 107 = .ok (.iastore, 1) := by decide +kernel
theorem dk_Planner_tell_108 : decode prog_7_method_2_code 108 = .ok (.aload_n 0, 1) := by decide +kernel
theorem dk_Planner_tell_109 : decode prog_7_method_2_code 109 = .ok (.getfield 27, 3) := by decide +kernel
theorem dk_Planner_tell_112 : decode prog_7_method_2_code 112 = .ok (.iload 5, 2) := by decide +kernel
theorem dk_Planner_tell_114 : decode prog_7_method_2_code 114 = .ok (.aload_n 1, 1) := by decide +kernel
theorem dk_Planner_tell_115 : decode prog_7_method_2_code 115 = .ok (.getfield 66, 3) := by decide +kernel
theorem dk_Planner_tell_118 : decode prog_7_method_2_code 118 = .ok (.iload 6, 2) := by decide +kernel
theorem dk_Planner_tell_120 : decode prog_7_method_2_code 120 = .ok (.iaload, 1) := by decide +kernel
theorem dk_Planner_tell_121 : decode prog_7_method_2_code 121 = .ok (.iconst 1, 1) := by decide +kernel
theorem dk_Planner_tell_122 : decode prog_7_method_2_code 122 = .ok (.if_icmp .eq 14, 3) := by decide +kernel
theorem dk_Planner_tell_125 : decode prog_7_method_2_code 125 = .ok (.aload_n 1, 1) := by decide +kernel
theorem dk_Planner_tell_126 : decode prog_7_method_2_code 126 = .ok (.getfield 66, 3) := by decide +kernel
theorem dk_Planner_tell_129 : decode prog_7_method_2_code 129 = .ok (.iload 7, 2) := by decide +kernel
theorem dk_Planner_tell_131 : decode prog_7_method_2_code 131 = .ok (.iaload, 1) := by decide +kernel
theorem dk_Planner_tell_132 : decode prog_7_method_2_code 132 = .ok (.iconst 1, 1) := by decide +kernel
theorem dk_Planner_tell_133 : decode prog_7_method_2_code 133 = .ok (.if_icmp .ne 7, 3) := by decide +kernel
theorem dk_Planner_tell_136 : decode prog_7_method_2_code 136 = .ok (.iconst 1, 1) := by decide +kernel
theorem dk_Planner_tell_137 : decode prog_7_method_2_code 137 = .ok (.goto 4, 3) := by decide +kernel
theorem dk_Planner_tell_140 : decode prog_7_method_2_code 140 = .ok (.iconst 0, 1) := by decide +kernel
theorem dk_Planner_tell_141 : decode prog_7_method_2_code 141 = .ok (.bastore, 1) := by decide +kernel
theorem dk_Planner_tell_142 : decode prog_7_method_2_code 142 = .ok (.iinc 5 1, 3) := by decide +kernel
theorem dk_Planner_tell_145 : decode prog_7_method_2_code 145 = .ok (.goto (-110), 3) := by decide +kernel
theorem dk_Planner_tell_148 : decode prog_7_method_2_code 148 = .ok (.return_, 1) := by decide +kernel
noncomputable def fj_Planner_tell_141 (c16 : (Nat → Nat → Int32)) (x5 : Int32) (x17 : Int32) : Option ((Int32 × (Nat → Nat → Int32)) ⊕ (Nat → Nat → Int32)) :=
  kv_let (kv_st c16 83 x5.toNatClampNeg (vp_nar .boolean x17)) (fun c18 =>
  some (.inl ((x5 + (1 : Int32)), c18)))
noncomputable def fj_Planner_tell_136 (c16 : (Nat → Nat → Int32)) (x5 : Int32) : Option ((Int32 × (Nat → Nat → Int32)) ⊕ (Nat → Nat → Int32)) :=
  fj_Planner_tell_141 c16 x5 (1 : Int32)
noncomputable def fb_Planner_tell_35 (r2 : Nat) (x5 : Int32) (c6 : (Nat → Nat → Int32)) : Option ((Int32 × (Nat → Nat → Int32)) ⊕ (Nat → Nat → Int32)) :=
  if (c6 77 6) ≤ x5 then
    some (.inr c6)
  else
    kv_gd (kv_in x5 100) (
    kv_let ((c6 (kv_tg r2 0) x5.toNatClampNeg) / (10 : Int32)) (fun v9 =>
    kv_let ((c6 (kv_tg r2 0) x5.toNatClampNeg) - (c6 (kv_tg r2 0) x5.toNatClampNeg) / (10 : Int32) * (10 : Int32)) (fun v10 =>
    kv_gd (kv_in x5 8) (
    kv_let (kv_st c6 80 x5.toNatClampNeg v9) (fun c12 =>
    kv_let (kv_st c12 81 x5.toNatClampNeg v10) (fun c13 =>
    kv_gd (kv_in v9 10) (
    kv_gd (kv_in v10 10) (
    kv_let (kv_st c13 82 x5.toNatClampNeg ((c13 6 v9.toNatClampNeg) - (c13 6 v10.toNatClampNeg))) (fun c16 =>
    if (c16 3 v9.toNatClampNeg) = (1 : Int32) then
      fj_Planner_tell_136 c16 x5
    else
      if (c16 3 v10.toNatClampNeg) = (1 : Int32) then
        fj_Planner_tell_136 c16 x5
      else
        fj_Planner_tell_141 c16 x5 (0 : Int32))))))))))
noncomputable def fx_Planner_tell (r2 : Nat) (p3 : Int32) (p4 : Int32) (c : (Nat → Nat → Int32)) : Option (Nat → Nat → Int32) :=
  kv_let (kv_st c 77 6 (if (8 : Int32) < (c r2 3) then (8 : Int32) else (c r2 3))) (fun c1 =>
  kv_let (kv_st c1 77 7 (c1 2 7)) (fun c2 =>
  kv_let (kv_st c2 77 8 p3) (fun c3 =>
  kv_let (kv_st c3 77 9 p4) (fun c4 =>
  (kv_loop (kv_u2 (fb_Planner_tell_35 r2)) ((0 : Int32), c4)).bind (kv_u1 (fun c7 =>
  some c7))))))
set_option maxRecDepth 20000 in
theorem cx_Planner_tell (d : Nat) (r2 : Nat) (p3 : Int32) (p4 : Int32) (c : (Nat → Nat → Int32)) (y : (Nat → Nat → Int32) × (Nat → Int64) × (Nat → Int64)) (h2 : kv_kd r2 = 7) : ∀ a, fx_Planner_tell r2 p3 p4 c = some a → kv_C kM_Planner_tell (d + 1) [.ref 77, .ref 2, .ref r2, .int p3, .int p4] (c, y) (none, (a, y)) := by
  refine kv_entryX (E := fun a : (Nat → Nat → Int32) => (none, (a, y))) rfl (Nat.le_of_ble_eq_true rfl) (fun o => ?_)
  unfold fx_Planner_tell
  show kv_X _ _ _ _ _ 0 [(0, .ref 77), (1, .ref 2), (2, .ref r2), (3, .int p3), (4, .int p4)] [] (c, y)
  refine kv_aload_n (pc := 0) 0 rfl rfl dk_Planner_tell_0 ?_
  refine kv_aload_n (pc := 1) 2 rfl rfl dk_Planner_tell_1 ?_
  refine kv_getC (pc := 2) kf_Planner_31 h2 (kv_7nc h2) rfl dk_Planner_tell_2 ?_
  refine kv_bipush (pc := 5) (v := (8 : Int32)) dk_Planner_tell_5 kkb_8 ?_
  refine kv_mmin (pc := 7) kw_994 kw_980 kw_84 kv_wmmin (Nat.le_of_ble_eq_true rfl) dk_Planner_tell_7 ?_
  refine kv_putC (pc := 10) kf_Planner_43 kr_77 kn_77 rfl rfl rfl dk_Planner_tell_10 (fun c1 => ?_)
  refine kv_aload_n (pc := 13) 0 rfl rfl dk_Planner_tell_13 ?_
  refine kv_aload_n (pc := 14) 1 rfl rfl dk_Planner_tell_14 ?_
  refine kv_getC (pc := 15) kf_Planner_46 kr_2 kn_2 rfl dk_Planner_tell_15 ?_
  refine kv_putC (pc := 18) kf_Planner_51 kr_77 kn_77 rfl rfl rfl dk_Planner_tell_18 (fun c2 => ?_)
  refine kv_aload_n (pc := 21) 0 rfl rfl dk_Planner_tell_21 ?_
  refine kv_iload_n (pc := 22) 3 rfl rfl dk_Planner_tell_22 ?_
  refine kv_putC (pc := 23) kf_Planner_54 kr_77 kn_77 rfl rfl rfl dk_Planner_tell_23 (fun c3 => ?_)
  refine kv_aload_n (pc := 26) 0 rfl rfl dk_Planner_tell_26 ?_
  refine kv_iload (pc := 27) 4 rfl dk_Planner_tell_27 ?_
  refine kv_putC (pc := 29) kf_Planner_57 kr_77 kn_77 rfl rfl rfl dk_Planner_tell_29 (fun c4 => ?_)
  refine kv_iconst (pc := 32) (v := (0 : Int32)) dk_Planner_tell_32 kki_0 ?_
  refine kv_istore (pc := 33) (lv' := [(5, .int (0 : Int32)), (0, .ref 77), (1, .ref 2), (2, .ref r2), (3, .int p3), (4, .int p4)]) rfl (Nat.le_of_ble_eq_true rfl) dk_Planner_tell_33 ?_
  refine kv_sub (lv' := [(0, .ref 77), (1, .ref 2), (2, .ref r2), (5, .int (0 : Int32))]) [1, 2, 3, 0] rfl ?_
  refine kv_lp_2_1 (LV := fun x5 c6 => [(0, .ref 77), (1, .ref 2), (2, .ref r2), (5, .int x5)]) (WW := fun x5 c6 => (c6, y)) (LE1 := fun c7 => []) (WE1 := fun c7 => (c7, y)) (pe1 := 148) ?_ ?_
  · intro c7
    show kv_X _ _ _ _ _ 148 [] [] (c7, y)
    exact kv_vret (pc := 148) (fun h => h) rfl dk_Planner_tell_148
  · intro hx35_0 x5 c6
    show kv_X _ _ _ _ (fb_Planner_tell_35 r2 x5 c6) 35 [(0, .ref 77), (1, .ref 2), (2, .ref r2), (5, .int x5)] [] (c6, y)
    unfold fb_Planner_tell_35
    refine kv_iload (pc := 35) 3 rfl dk_Planner_tell_35 ?_
    refine kv_aload_n (pc := 37) 0 rfl rfl dk_Planner_tell_37 ?_
    refine kv_getC (pc := 38) kf_Planner_43 kr_77 kn_77 rfl dk_Planner_tell_38 ?_
    refine kv_icmp_ge (pc := 41) (tgt := 148) dk_Planner_tell_41 rfl ?_ ?_
    · exact kv_sub [] rfl (kv_leaf (hx35_0 _))
    · refine kv_aload_n (pc := 44) 2 rfl rfl dk_Planner_tell_44 ?_
      refine kv_getR (pc := 45) kf_Planner_60 h2 rfl rfl dk_Planner_tell_45 ?_
      refine kv_iload (pc := 48) 3 rfl dk_Planner_tell_48 ?_
      refine kv_guard (fun g8 => ?_)
      refine kv_aldC (pc := 50) (kv_7e h2) (kv_7enc h2) (kv_7eln h2) g8 rfl dk_Planner_tell_50 ?_
      refine kv_bipush (pc := 51) (v := (10 : Int32)) dk_Planner_tell_51 kkb_10 ?_
      refine kv_idiv (pc := 53) dk_Planner_tell_53 kkn_10 ?_
      refine kv_letI (fun v9 => ?_)
      refine kv_istore (pc := 54) (lv' := [(6, .int v9), (0, .ref 77), (1, .ref 2), (2, .ref r2), (5, .int x5)]) rfl (Nat.le_of_ble_eq_true rfl) dk_Planner_tell_54 ?_
      refine kv_aload_n (pc := 56) 3 rfl rfl dk_Planner_tell_56 ?_
      refine kv_getR (pc := 57) kf_Planner_60 h2 rfl rfl dk_Planner_tell_57 ?_
      refine kv_iload (pc := 60) 4 rfl dk_Planner_tell_60 ?_
      refine kv_aldC (pc := 62) (kv_7e h2) (kv_7enc h2) (kv_7eln h2) g8 rfl dk_Planner_tell_62 ?_
      refine kv_bipush (pc := 63) (v := (10 : Int32)) dk_Planner_tell_63 kkb_10 ?_
      refine kv_irem (pc := 65) dk_Planner_tell_65 kkn_10 ?_
      refine kv_letI (fun v10 => ?_)
      refine kv_istore (pc := 66) (lv' := [(7, .int v10), (6, .int v9), (0, .ref 77), (1, .ref 2), (2, .ref r2), (5, .int x5)]) rfl (Nat.le_of_ble_eq_true rfl) dk_Planner_tell_66 ?_
      refine kv_aload_n (pc := 68) 2 rfl rfl dk_Planner_tell_68 ?_
      refine kv_getR (pc := 69) kf_Planner_18 kr_77 rfl kt_77_2 dk_Planner_tell_69 ?_
      refine kv_iload (pc := 72) 5 rfl dk_Planner_tell_72 ?_
      refine kv_iload (pc := 74) 1 rfl dk_Planner_tell_74 ?_
      refine kv_guard (fun g11 => ?_)
      refine kv_astC (pc := 76) kr_80 kn_80 kl_80 g11 rfl dk_Planner_tell_76 (fun c12 => ?_)
      refine kv_aload_n (pc := 77) 2 rfl rfl dk_Planner_tell_77 ?_
      refine kv_getR (pc := 78) kf_Planner_21 kr_77 rfl kt_77_3 dk_Planner_tell_78 ?_
      refine kv_iload (pc := 81) 5 rfl dk_Planner_tell_81 ?_
      refine kv_iload (pc := 83) 0 rfl dk_Planner_tell_83 ?_
      refine kv_astC (pc := 85) kr_81 kn_81 kl_81 g11 rfl dk_Planner_tell_85 (fun c13 => ?_)
      refine kv_aload_n (pc := 86) 2 rfl rfl dk_Planner_tell_86 ?_
      refine kv_getR (pc := 87) kf_Planner_24 kr_77 rfl kt_77_4 dk_Planner_tell_87 ?_
      refine kv_iload (pc := 90) 5 rfl dk_Planner_tell_90 ?_
      refine kv_aload_n (pc := 92) 3 rfl rfl dk_Planner_tell_92 ?_
      refine kv_getR (pc := 93) kf_Planner_63 kr_2 rfl kt_2_3 dk_Planner_tell_93 ?_
      refine kv_iload (pc := 96) 1 rfl dk_Planner_tell_96 ?_
      refine kv_guard (fun g14 => ?_)
      refine kv_aldC (pc := 98) kr_6 kn_6 kl_6 g14 rfl dk_Planner_tell_98 ?_
      refine kv_aload_n (pc := 99) 3 rfl rfl dk_Planner_tell_99 ?_
      refine kv_getR (pc := 100) kf_Planner_63 kr_2 rfl kt_2_3 dk_Planner_tell_100 ?_
      refine kv_iload (pc := 103) 0 rfl dk_Planner_tell_103 ?_
      refine kv_guard (fun g15 => ?_)
      refine kv_aldC (pc := 105) kr_6 kn_6 kl_6 g15 rfl dk_Planner_tell_105 ?_
      refine kv_isub (pc := 106) dk_Planner_tell_106 ?_
      refine kv_astC (pc := 107) kr_82 kn_82 kl_82 g11 rfl dk_Planner_tell_107 (fun c16 => ?_)
      refine kv_aload_n (pc := 108) 2 rfl rfl dk_Planner_tell_108 ?_
      refine kv_getR (pc := 109) kf_Planner_27 kr_77 rfl kt_77_5 dk_Planner_tell_109 ?_
      refine kv_iload (pc := 112) 5 rfl dk_Planner_tell_112 ?_
      refine kv_aload_n (pc := 114) 3 rfl rfl dk_Planner_tell_114 ?_
      refine kv_getR (pc := 115) kf_Planner_66 kr_2 rfl kt_2_0 dk_Planner_tell_115 ?_
      refine kv_iload (pc := 118) 1 rfl dk_Planner_tell_118 ?_
      refine kv_aldC (pc := 120) kr_3 kn_3 kl_3 g14 rfl dk_Planner_tell_120 ?_
      refine kv_iconst (pc := 121) (v := (1 : Int32)) dk_Planner_tell_121 kki_1 ?_
      refine kv_cut_1 (J := fj_Planner_tell_141 c16 x5) (pcj := 141) (LJ := fun x17 => [(0, .ref 77), (1, .ref 2), (2, .ref r2), (5, .int x5)]) (SJ := fun x17 => [.int x17, .int x5, .ref 83]) (WJ := fun x17 => (c16, y)) ?_ (fun hj141 => ?_)
      · intro x17
        show kv_X _ _ _ _ (fj_Planner_tell_141 c16 x5 x17) 141 [(0, .ref 77), (1, .ref 2), (2, .ref r2), (5, .int x5)] [.int x17, .int x5, .ref 83] (c16, y)
        unfold fj_Planner_tell_141
        refine kv_astZC (pc := 141) kr_83 kn_83 kl_83 g11 rfl dk_Planner_tell_141 (fun c18 => ?_)
        refine kv_iinc (pc := 142) (kk := (1 : Int32)) (lv' := [(5, .int (x5 + (1 : Int32))), (0, .ref 77), (1, .ref 2), (2, .ref r2)]) 3 rfl kki_1 rfl (Nat.le_of_ble_eq_true rfl) dk_Planner_tell_142 ?_
        refine kv_goto (pc := 145) (tgt := 35) dk_Planner_tell_145 rfl ?_
        exact kv_sub [1, 2, 3, 0] rfl (kv_leaf (fun h => h))
      refine kv_cut_0 (J := fj_Planner_tell_136 c16 x5) (pcj := 136) (LJ := [(0, .ref 77), (1, .ref 2), (2, .ref r2), (5, .int x5)]) (SJ := [.int x5, .ref 83]) (WJ := (c16, y)) ?_ (fun hj136 => ?_)
      · show kv_X _ _ _ _ (fj_Planner_tell_136 c16 x5) 136 [(0, .ref 77), (1, .ref 2), (2, .ref r2), (5, .int x5)] [.int x5, .ref 83] (c16, y)
        unfold fj_Planner_tell_136
        refine kv_iconst (pc := 136) (v := (1 : Int32)) dk_Planner_tell_136 kki_1 ?_
        refine kv_goto (pc := 137) (tgt := 141) dk_Planner_tell_137 rfl ?_
        exact hj141 (1 : Int32)
      refine kv_icmp_eq (pc := 122) (tgt := 136) dk_Planner_tell_122 rfl ?_ ?_
      · exact kv_sub [2, 3, 4, 5] rfl (hj136)
      · refine kv_aload_n (pc := 125) 3 rfl rfl dk_Planner_tell_125 ?_
        refine kv_getR (pc := 126) kf_Planner_66 kr_2 rfl kt_2_0 dk_Planner_tell_126 ?_
        refine kv_iload (pc := 129) 0 rfl dk_Planner_tell_129 ?_
        refine kv_aldC (pc := 131) kr_3 kn_3 kl_3 g15 rfl dk_Planner_tell_131 ?_
        refine kv_iconst (pc := 132) (v := (1 : Int32)) dk_Planner_tell_132 kki_1 ?_
        refine kv_icmp_ne (pc := 133) (tgt := 140) dk_Planner_tell_133 rfl ?_ ?_
        · refine kv_iconst (pc := 140) (v := (0 : Int32)) dk_Planner_tell_140 kki_0 ?_
          exact kv_sub [2, 3, 4, 5] rfl (hj141 (0 : Int32))
        · exact kv_sub [2, 3, 4, 5] rfl (hj136)
noncomputable def fb_Arr_fill_78_5 (p1 : Int32) (x1 : Int32) (c2 : (Nat → Nat → Int32)) : Option ((Int32 × (Nat → Nat → Int32)) ⊕ (Nat → Nat → Int32)) :=
  if (100 : Int32) ≤ x1 then
    some (.inr c2)
  else
    kv_gd (kv_in x1 100) (
    kv_let (kv_st c2 78 x1.toNatClampNeg p1) (fun c5 =>
    some (.inl ((x1 + (1 : Int32)), c5))))
noncomputable def fx_Arr_fill_78 (p1 : Int32) (c : (Nat → Nat → Int32)) : Option (Nat → Nat → Int32) :=
  (kv_loop (kv_u2 (fb_Arr_fill_78_5 p1)) ((0 : Int32), c)).bind (kv_u1 (fun c3 =>
  some c3))
set_option maxRecDepth 20000 in
theorem cx_Arr_fill_78 (d : Nat) (p1 : Int32) (c : (Nat → Nat → Int32)) (y : (Nat → Nat → Int32) × (Nat → Int64) × (Nat → Int64)) : ∀ a, fx_Arr_fill_78 p1 c = some a → kv_C kM_Arr_fill (d + 0) [.ref 78, .int p1] (c, y) (none, (a, y)) := by
  refine kv_entryX (E := fun a : (Nat → Nat → Int32) => (none, (a, y))) rfl (Nat.le_of_ble_eq_true rfl) (fun o => ?_)
  unfold fx_Arr_fill_78
  show kv_X _ _ _ _ _ 0 [(0, .ref 78), (1, .int p1)] [] (c, y)
  refine kv_iconst (pc := 0) (v := (0 : Int32)) dk_Arr_fill_0 kki_0 ?_
  refine kv_istore_n (pc := 1) (lv' := [(2, .int (0 : Int32)), (0, .ref 78), (1, .int p1)]) rfl (Nat.le_of_ble_eq_true rfl) rfl dk_Arr_fill_1 ?_
  refine kv_aload_n (pc := 2) 1 rfl rfl dk_Arr_fill_2 ?_
  refine kv_alen (pc := 3) kr_78 kl_78 (v := (100 : Int32)) (by decide) dk_Arr_fill_3 ?_
  refine kv_istore_n (pc := 4) (lv' := [(3, .int (100 : Int32)), (2, .int (0 : Int32)), (0, .ref 78), (1, .int p1)]) rfl (Nat.le_of_ble_eq_true rfl) rfl dk_Arr_fill_4 ?_
  refine kv_sub (lv' := [(0, .ref 78), (1, .int p1), (2, .int (0 : Int32)), (3, .int (100 : Int32))]) [2, 3, 1, 0] rfl ?_
  refine kv_lp_2_1 (LV := fun x1 c2 => [(0, .ref 78), (1, .int p1), (2, .int x1), (3, .int (100 : Int32))]) (WW := fun x1 c2 => (c2, y)) (LE1 := fun c3 => []) (WE1 := fun c3 => (c3, y)) (pe1 := 20) ?_ ?_
  · intro c3
    show kv_X _ _ _ _ _ 20 [] [] (c3, y)
    exact kv_vret (pc := 20) (fun h => h) rfl dk_Arr_fill_20
  · intro hx5_0 x1 c2
    show kv_X _ _ _ _ (fb_Arr_fill_78_5 p1 x1 c2) 5 [(0, .ref 78), (1, .int p1), (2, .int x1), (3, .int (100 : Int32))] [] (c2, y)
    unfold fb_Arr_fill_78_5
    refine kv_iload_n (pc := 5) 2 rfl rfl dk_Arr_fill_5 ?_
    refine kv_iload_n (pc := 6) 3 rfl rfl dk_Arr_fill_6 ?_
    refine kv_icmp_ge (pc := 7) (tgt := 20) dk_Arr_fill_7 rfl ?_ ?_
    · exact kv_sub [] rfl (kv_leaf (hx5_0 _))
    · refine kv_aload_n (pc := 10) 0 rfl rfl dk_Arr_fill_10 ?_
      refine kv_iload_n (pc := 11) 2 rfl rfl dk_Arr_fill_11 ?_
      refine kv_iload_n (pc := 12) 1 rfl rfl dk_Arr_fill_12 ?_
      refine kv_guard (fun g4 => ?_)
      refine kv_astC (pc := 13) kr_78 kn_78 kl_78 g4 rfl dk_Arr_fill_13 (fun c5 => ?_)
      refine kv_iinc (pc := 14) (kk := (1 : Int32)) (lv' := [(2, .int (x1 + (1 : Int32))), (0, .ref 78), (1, .int p1), (3, .int (100 : Int32))]) 2 rfl kki_1 rfl (Nat.le_of_ble_eq_true rfl) dk_Arr_fill_14 ?_
      refine kv_goto (pc := 17) (tgt := 5) dk_Arr_fill_17 rfl ?_
      exact kv_sub [1, 2, 0, 3] rfl (kv_leaf (fun h => h))
theorem dk_Planner_shortenFrom_0 : decode prog_7_method_6_code 0 = .ok (.iconst 0, 1) := by decide +kernel
theorem dk_Planner_shortenFrom_1 : decode prog_7_method_6_code 1 = .ok (.istore 5, 2) := by decide +kernel
theorem dk_Planner_shortenFrom_3 : decode prog_7_method_6_code 3 = .ok (.iload 5, 2) := by decide +kernel
theorem dk_Planner_shortenFrom_5 : decode prog_7_method_6_code 5 = .ok (.aload_n 0, 1) := by decide +kernel
theorem dk_Planner_shortenFrom_6 : decode prog_7_method_6_code 6 = .ok (.getfield 51, 3) := by decide +kernel
theorem dk_Planner_shortenFrom_9 : decode prog_7_method_6_code 9 = .ok (.if_icmp .ge 57, 3) := by decide +kernel
theorem dk_Planner_shortenFrom_12 : decode prog_7_method_6_code 12 = .ok (.aload_n 1, 1) := by decide +kernel
theorem dk_Planner_shortenFrom_13 : decode prog_7_method_6_code 13 = .ok (.iload 4, 2) := by decide +kernel
theorem dk_Planner_shortenFrom_15 : decode prog_7_method_6_code 15 = .ok (.bipush 10, 2) := by decide +kernel
theorem dk_Planner_shortenFrom_17 : decode prog_7_method_6_code 17 = .ok (.imul, 1) := by decide +kernel
theorem dk_Planner_shortenFrom_18 : decode prog_7_method_6_code 18 = .ok (.iload 5, 2) := by decide +kernel
theorem dk_Planner_shortenFrom_20 : decode prog_7_method_6_code 20 = .ok (.iadd, 1) := by decide +kernel
theorem dk_Planner_shortenFrom_21 : decode prog_7_method_6_code 21 = .ok (.iaload, 1) := by decide +kernel
theorem dk_Planner_shortenFrom_22 : decode prog_7_method_6_code 22 = .ok (.istore 6, 2) := by decide +kernel
theorem dk_Planner_shortenFrom_24 : decode prog_7_method_6_code 24 = .ok (.iload 6, 2) := by decide +kernel
theorem dk_Planner_shortenFrom_26 : decode prog_7_method_6_code 26 = .ok (.ldc 69, 2) := by decide +kernel
theorem dk_Planner_shortenFrom_28 : decode prog_7_method_6_code 28 = .ok (.if_icmp .eq 32, 3) := by decide +kernel
theorem dk_Planner_shortenFrom_31 : decode prog_7_method_6_code 31 = .ok (.iload_n 3, 1) := by decide +kernel
theorem dk_Planner_shortenFrom_32 : decode prog_7_method_6_code 32 = .ok (.iload 6, 2) := by decide +kernel
theorem dk_Planner_shortenFrom_34 : decode prog_7_method_6_code 34 = .ok (.iadd, 1) := by decide +kernel
theorem dk_Planner_shortenFrom_35 : decode prog_7_method_6_code 35 = .ok (.aload_n 1, 1) := by decide +kernel
theorem dk_Planner_shortenFrom_36 : decode prog_7_method_6_code 36 = .ok (.iload_n 2, 1) := by decide +kernel
theorem dk_Planner_shortenFrom_37 : decode prog_7_method_6_code 37 = .ok (.bipush 10, 2) := by decide +kernel
theorem dk_Planner_shortenFrom_39 : decode prog_7_method_6_code 39 = .ok (.imul, 1) := by decide +kernel
theorem dk_Planner_shortenFrom_40 : decode prog_7_method_6_code 40 = .ok (.iload 5, 2) := by decide +kernel
theorem dk_Planner_shortenFrom_42 : decode prog_7_method_6_code 42 = .ok (.iadd, 1) := by decide +kernel
theorem dk_Planner_shortenFrom_43 : decode prog_7_method_6_code 43 = .ok (.iaload, 1) := by decide +kernel
theorem dk_Planner_shortenFrom_44 : decode prog_7_method_6_code 44 = .ok (.if_icmp .ge 16, 3) := by decide +kernel
theorem dk_Planner_shortenFrom_47 : decode prog_7_method_6_code 47 = .ok (.aload_n 1, 1) := by decide +kernel
theorem dk_Planner_shortenFrom_48 : decode prog_7_method_6_code 48 = .ok (.iload_n 2, 1) := by decide +kernel
theorem dk_Planner_shortenFrom_49 : decode prog_7_method_6_code 49 = .ok (.bipush 10, 2) := by decide +kernel
theorem dk_Planner_shortenFrom_51 : decode prog_7_method_6_code 51 = .ok (.imul, 1) := by decide +kernel
theorem dk_Planner_shortenFrom_52 : decode prog_7_method_6_code 52 = .ok (.iload 5, 2) := by decide +kernel
theorem dk_Planner_shortenFrom_54 : decode prog_7_method_6_code 54 = .ok (.iadd, 1) := by decide +kernel
theorem dk_Planner_shortenFrom_55 : decode prog_7_method_6_code 55 = .ok (.iload_n 3, 1) := by decide +kernel
theorem dk_Planner_shortenFrom_56 : decode prog_7_method_6_code 56 = .ok (.iload 6, 2) := by decide +kernel
theorem dk_Planner_shortenFrom_58 : decode prog_7_method_6_code 58 = .ok (.iadd, 1) := by decide +kernel
theorem dk_Planner_shortenFrom_59 : decode prog_7_method_6_code 59 = .ok (.iastore, 1) := by decide +kernel
theorem dk_Planner_shortenFrom_60 : decode prog_7_method_6_code 60 = .ok (.iinc 5 1, 3) := by decide +kernel
theorem dk_Planner_shortenFrom_63 : decode prog_7_method_6_code 63 = .ok (.goto (-60), 3) := by decide +kernel
theorem dk_Planner_shortenFrom_66 : decode prog_7_method_6_code 66 = .ok (.return_, 1) := by decide +kernel
noncomputable def fj_Planner_shortenFrom_60 (x1 : Int32) (c6 : (Nat → Nat → Int32)) : Option ((Int32 × (Nat → Nat → Int32)) ⊕ (Nat → Nat → Int32)) :=
  some (.inl ((x1 + (1 : Int32)), c6))
noncomputable def fb_Planner_shortenFrom_3 (p4 : Int32) (p2 : Int32) (p3 : Int32) (x1 : Int32) (c2 : (Nat → Nat → Int32)) : Option ((Int32 × (Nat → Nat → Int32)) ⊕ (Nat → Nat → Int32)) :=
  if (c2 77 7) ≤ x1 then
    some (.inr c2)
  else
    kv_gd (kv_in ((p4 * (10 : Int32)) + x1) 100) (
    kv_let (c2 78 ((p4 * (10 : Int32)) + x1).toNatClampNeg) (fun v5 =>
    if v5 = (2147483647 : Int32) then
      fj_Planner_shortenFrom_60 x1 c2
    else
      kv_gd (kv_in ((p2 * (10 : Int32)) + x1) 100) (
      if (c2 78 ((p2 * (10 : Int32)) + x1).toNatClampNeg) ≤ (p3 + v5) then
        fj_Planner_shortenFrom_60 x1 c2
      else
        kv_let (kv_st c2 78 ((p2 * (10 : Int32)) + x1).toNatClampNeg (p3 + v5)) (fun c8 =>
        fj_Planner_shortenFrom_60 x1 c8))))
noncomputable def fx_Planner_shortenFrom (p2 : Int32) (p3 : Int32) (p4 : Int32) (c : (Nat → Nat → Int32)) : Option (Nat → Nat → Int32) :=
  (kv_loop (kv_u2 (fb_Planner_shortenFrom_3 p4 p2 p3)) ((0 : Int32), c)).bind (kv_u1 (fun c3 =>
  some c3))
set_option maxRecDepth 20000 in
theorem cx_Planner_shortenFrom (d : Nat) (p2 : Int32) (p3 : Int32) (p4 : Int32) (c : (Nat → Nat → Int32)) (y : (Nat → Nat → Int32) × (Nat → Int64) × (Nat → Int64)) : ∀ a, fx_Planner_shortenFrom p2 p3 p4 c = some a → kv_C kM_Planner_shortenFrom (d + 0) [.ref 77, .ref 78, .int p2, .int p3, .int p4] (c, y) (none, (a, y)) := by
  refine kv_entryX (E := fun a : (Nat → Nat → Int32) => (none, (a, y))) rfl (Nat.le_of_ble_eq_true rfl) (fun o => ?_)
  unfold fx_Planner_shortenFrom
  show kv_X _ _ _ _ _ 0 [(0, .ref 77), (1, .ref 78), (2, .int p2), (3, .int p3), (4, .int p4)] [] (c, y)
  refine kv_iconst (pc := 0) (v := (0 : Int32)) dk_Planner_shortenFrom_0 kki_0 ?_
  refine kv_istore (pc := 1) (lv' := [(5, .int (0 : Int32)), (0, .ref 77), (1, .ref 78), (2, .int p2), (3, .int p3), (4, .int p4)]) rfl (Nat.le_of_ble_eq_true rfl) dk_Planner_shortenFrom_1 ?_
  refine kv_sub (lv' := [(0, .ref 77), (1, .ref 78), (2, .int p2), (3, .int p3), (4, .int p4), (5, .int (0 : Int32))]) [1, 2, 3, 4, 5, 0] rfl ?_
  refine kv_lp_2_1 (LV := fun x1 c2 => [(0, .ref 77), (1, .ref 78), (2, .int p2), (3, .int p3), (4, .int p4), (5, .int x1)]) (WW := fun x1 c2 => (c2, y)) (LE1 := fun c3 => []) (WE1 := fun c3 => (c3, y)) (pe1 := 66) ?_ ?_
  · intro c3
    show kv_X _ _ _ _ _ 66 [] [] (c3, y)
    exact kv_vret (pc := 66) (fun h => h) rfl dk_Planner_shortenFrom_66
  · intro hx3_0 x1 c2
    show kv_X _ _ _ _ (fb_Planner_shortenFrom_3 p4 p2 p3 x1 c2) 3 [(0, .ref 77), (1, .ref 78), (2, .int p2), (3, .int p3), (4, .int p4), (5, .int x1)] [] (c2, y)
    unfold fb_Planner_shortenFrom_3
    refine kv_iload (pc := 3) 5 rfl dk_Planner_shortenFrom_3 ?_
    refine kv_aload_n (pc := 5) 0 rfl rfl dk_Planner_shortenFrom_5 ?_
    refine kv_getC (pc := 6) kf_Planner_51 kr_77 kn_77 rfl dk_Planner_shortenFrom_6 ?_
    refine kv_icmp_ge (pc := 9) (tgt := 66) dk_Planner_shortenFrom_9 rfl ?_ ?_
    · exact kv_sub [] rfl (kv_leaf (hx3_0 _))
    · refine kv_aload_n (pc := 12) 1 rfl rfl dk_Planner_shortenFrom_12 ?_
      refine kv_iload (pc := 13) 4 rfl dk_Planner_shortenFrom_13 ?_
      refine kv_bipush (pc := 15) (v := (10 : Int32)) dk_Planner_shortenFrom_15 kkb_10 ?_
      refine kv_imul (pc := 17) dk_Planner_shortenFrom_17 ?_
      refine kv_iload (pc := 18) 5 rfl dk_Planner_shortenFrom_18 ?_
      refine kv_iadd (pc := 20) dk_Planner_shortenFrom_20 ?_
      refine kv_guard (fun g4 => ?_)
      refine kv_aldC (pc := 21) kr_78 kn_78 kl_78 g4 rfl dk_Planner_shortenFrom_21 ?_
      refine kv_letI (fun v5 => ?_)
      refine kv_istore (pc := 22) (lv' := [(6, .int v5), (0, .ref 77), (1, .ref 78), (2, .int p2), (3, .int p3), (4, .int p4), (5, .int x1)]) rfl (Nat.le_of_ble_eq_true rfl) dk_Planner_shortenFrom_22 ?_
      refine kv_iload (pc := 24) 0 rfl dk_Planner_shortenFrom_24 ?_
      refine kv_ldc (pc := 26) (v := (2147483647 : Int32)) kw_999 dk_Planner_shortenFrom_26 ?_
      refine kv_cut_1 (J := fj_Planner_shortenFrom_60 x1) (pcj := 60) (LJ := fun c6 => [(0, .ref 77), (1, .ref 78), (2, .int p2), (3, .int p3), (4, .int p4), (5, .int x1)]) (SJ := fun c6 => []) (WJ := fun c6 => (c6, y)) ?_ (fun hj60 => ?_)
      · intro c6
        show kv_X _ _ _ _ (fj_Planner_shortenFrom_60 x1 c6) 60 [(0, .ref 77), (1, .ref 78), (2, .int p2), (3, .int p3), (4, .int p4), (5, .int x1)] [] (c6, y)
        unfold fj_Planner_shortenFrom_60
        refine kv_iinc (pc := 60) (kk := (1 : Int32)) (lv' := [(5, .int (x1 + (1 : Int32))), (0, .ref 77), (1, .ref 78), (2, .int p2), (3, .int p3), (4, .int p4)]) 5 rfl kki_1 rfl (Nat.le_of_ble_eq_true rfl) dk_Planner_shortenFrom_60 ?_
        refine kv_goto (pc := 63) (tgt := 3) dk_Planner_shortenFrom_63 rfl ?_
        exact kv_sub [1, 2, 3, 4, 5, 0] rfl (kv_leaf (fun h => h))
      refine kv_icmp_eq (pc := 28) (tgt := 60) dk_Planner_shortenFrom_28 rfl ?_ ?_
      · exact kv_sub [1, 2, 3, 4, 5, 6] rfl (hj60 c2)
      · refine kv_iload_n (pc := 31) 4 rfl rfl dk_Planner_shortenFrom_31 ?_
        refine kv_iload (pc := 32) 0 rfl dk_Planner_shortenFrom_32 ?_
        refine kv_iadd (pc := 34) dk_Planner_shortenFrom_34 ?_
        refine kv_aload_n (pc := 35) 2 rfl rfl dk_Planner_shortenFrom_35 ?_
        refine kv_iload_n (pc := 36) 3 rfl rfl dk_Planner_shortenFrom_36 ?_
        refine kv_bipush (pc := 37) (v := (10 : Int32)) dk_Planner_shortenFrom_37 kkb_10 ?_
        refine kv_imul (pc := 39) dk_Planner_shortenFrom_39 ?_
        refine kv_iload (pc := 40) 6 rfl dk_Planner_shortenFrom_40 ?_
        refine kv_iadd (pc := 42) dk_Planner_shortenFrom_42 ?_
        refine kv_guard (fun g7 => ?_)
        refine kv_aldC (pc := 43) kr_78 kn_78 kl_78 g7 rfl dk_Planner_shortenFrom_43 ?_
        refine kv_icmp_ge (pc := 44) (tgt := 60) dk_Planner_shortenFrom_44 rfl ?_ ?_
        · exact kv_sub [1, 2, 3, 4, 5, 6] rfl (hj60 c2)
        · refine kv_aload_n (pc := 47) 2 rfl rfl dk_Planner_shortenFrom_47 ?_
          refine kv_iload_n (pc := 48) 3 rfl rfl dk_Planner_shortenFrom_48 ?_
          refine kv_bipush (pc := 49) (v := (10 : Int32)) dk_Planner_shortenFrom_49 kkb_10 ?_
          refine kv_imul (pc := 51) dk_Planner_shortenFrom_51 ?_
          refine kv_iload (pc := 52) 6 rfl dk_Planner_shortenFrom_52 ?_
          refine kv_iadd (pc := 54) dk_Planner_shortenFrom_54 ?_
          refine kv_iload_n (pc := 55) 4 rfl rfl dk_Planner_shortenFrom_55 ?_
          refine kv_iload (pc := 56) 0 rfl dk_Planner_shortenFrom_56 ?_
          refine kv_iadd (pc := 58) dk_Planner_shortenFrom_58 ?_
          refine kv_astC (pc := 59) kr_78 kn_78 kl_78 g7 rfl dk_Planner_shortenFrom_59 (fun c8 => ?_)
          exact kv_sub [1, 2, 3, 4, 5, 6] rfl (hj60 c8)
theorem dk_Planner_narrow_0 : decode prog_7_method_5_code 0 = .ok (.aload_n 1, 1) := by decide +kernel
theorem dk_Planner_narrow_1 : decode prog_7_method_5_code 1 = .ok (.iload_n 3, 1) := by decide +kernel
theorem dk_Planner_narrow_2 : decode prog_7_method_5_code 2 = .ok (.bipush 10, 2) := by decide +kernel
theorem dk_Planner_narrow_4 : decode prog_7_method_5_code 4 = .ok (.imul, 1) := by decide +kernel
theorem dk_Planner_narrow_5 : decode prog_7_method_5_code 5 = .ok (.iload_n 2, 1) := by decide +kernel
theorem dk_Planner_narrow_6 : decode prog_7_method_5_code 6 = .ok (.iadd, 1) := by decide +kernel
theorem dk_Planner_narrow_7 : decode prog_7_method_5_code 7 = .ok (.iaload, 1) := by decide +kernel
theorem dk_Planner_narrow_8 : decode prog_7_method_5_code 8 = .ok (.istore 5, 2) := by decide +kernel
theorem dk_Planner_narrow_10 : decode prog_7_method_5_code 10 = .ok (.iload 5, 2) := by decide +kernel
theorem dk_Planner_narrow_12 : decode prog_7_method_5_code 12 = .ok (.ldc 69, 2) := by decide +kernel
theorem dk_Planner_narrow_14 : decode prog_7_method_5_code 14 = .ok (.if_icmp .eq 13, 3) := by decide +kernel
theorem dk_Planner_narrow_17 : decode prog_7_method_5_code 17 = .ok (.iload 5, 2) := by decide +kernel
theorem dk_Planner_narrow_19 : decode prog_7_method_5_code 19 = .ok (.iload 4, 2) := by decide +kernel
theorem dk_Planner_narrow_21 : decode prog_7_method_5_code 21 = .ok (.iadd, 1) := by decide +kernel
theorem dk_Planner_narrow_22 : decode prog_7_method_5_code 22 = .ok (.ifCond .ge 5, 3) := by decide +kernel
theorem dk_Planner_narrow_25 : decode prog_7_method_5_code 25 = .ok (.iconst 0, 1) := by decide +kernel
theorem dk_Planner_narrow_26 : decode prog_7_method_5_code 26 = .ok (.ireturn, 1) := by decide +kernel
theorem dk_Planner_narrow_27 : decode prog_7_method_5_code 27 = .ok (.aload_n 1, 1) := by decide +kernel
theorem dk_Planner_narrow_28 : decode prog_7_method_5_code 28 = .ok (.iload_n 2, 1) := by decide +kernel
theorem dk_Planner_narrow_29 : decode prog_7_method_5_code 29 = .ok (.bipush 10, 2) := by decide +kernel
theorem dk_Planner_narrow_31 : decode prog_7_method_5_code 31 = .ok (.imul, 1) := by decide +kernel
theorem dk_Planner_narrow_32 : decode prog_7_method_5_code 32 = .ok (.iload_n 3, 1) := by decide +kernel
theorem dk_Planner_narrow_33 : decode prog_7_method_5_code 33 = .ok (.iadd, 1) := by decide +kernel
theorem dk_Planner_narrow_34 : decode prog_7_method_5_code 34 = .ok (.iaload, 1) := by decide +kernel
theorem dk_Planner_narrow_35 : decode prog_7_method_5_code 35 = .ok (.iload 4, 2) := by decide +kernel
theorem dk_Planner_narrow_37 : decode prog_7_method_5_code 37 = .ok (.if_icmp .gt 5, 3) := by decide +kernel
theorem dk_Planner_narrow_40 : decode prog_7_method_5_code 40 = .ok (.iconst 1, 1) := by decide +kernel
theorem dk_Planner_narrow_41 : decode prog_7_method_5_code 41 = .ok (.ireturn, 1) := by decide +kernel
theorem dk_Planner_narrow_42 : decode prog_7_method_5_code 42 = .ok (.iconst 0, 1) := by decide +kernel
theorem dk_Planner_narrow_43 : decode prog_7_method_5_code 43 = .ok (.istore 6, 2) := by decide +kernel
theorem dk_Planner_narrow_45 : decode prog_7_method_5_code 45 = .ok (.iload 6, 2) := by decide +kernel
theorem dk_Planner_narrow_47 : decode prog_7_method_5_code 47 = .ok (.aload_n 0, 1) := by decide +kernel
theorem dk_Planner_narrow_48 : decode prog_7_method_5_code 48 = .ok (.getfield 51, 3) := by decide +kernel
theorem dk_Planner_narrow_51 : decode prog_7_method_5_code 51 = .ok (.if_icmp .ge 40, 3) := by decide +kernel
theorem dk_Planner_narrow_54 : decode prog_7_method_5_code 54 = .ok (.aload_n 1, 1) := by decide +kernel
theorem dk_Planner_narrow_55 : decode prog_7_method_5_code 55 = .ok (.iload 6, 2) := by decide +kernel
theorem dk_Planner_narrow_57 : decode prog_7_method_5_code 57 = .ok (.bipush 10, 2) := by decide +kernel
theorem dk_Planner_narrow_59 : decode prog_7_method_5_code 59 = .ok (.imul, 1) := by decide +kernel
theorem dk_Planner_narrow_60 : decode prog_7_method_5_code 60 = .ok (.iload_n 2, 1) := by decide +kernel
theorem dk_Planner_narrow_61 : decode prog_7_method_5_code 61 = .ok (.iadd, 1) := by decide +kernel
theorem dk_Planner_narrow_62 : decode prog_7_method_5_code 62 = .ok (.iaload, 1) := by decide +kernel
theorem dk_Planner_narrow_63 : decode prog_7_method_5_code 63 = .ok (.istore 7, 2) := by decide +kernel
theorem dk_Planner_narrow_65 : decode prog_7_method_5_code 65 = .ok (.iload 7, 2) := by decide +kernel
theorem dk_Planner_narrow_67 : decode prog_7_method_5_code 67 = .ok (.ldc 69, 2) := by decide +kernel
theorem dk_Planner_narrow_69 : decode prog_7_method_5_code 69 = .ok (.if_icmp .eq 16, 3) := by decide +kernel
theorem dk_Planner_narrow_72 : decode prog_7_method_5_code 72 = .ok (.aload_n 0, 1) := by decide +kernel
theorem dk_Planner_narrow_73 : decode prog_7_method_5_code 73 = .ok (.aload_n 1, 1) := by decide +kernel
theorem dk_Planner_narrow_74 : decode prog_7_method_5_code 74 = .ok (.iload 6, 2) := by decide +kernel
theorem dk_Planner_narrow_76 : decode prog_7_method_5_code 76 = .ok (.iload 7, 2) := by decide +kernel
theorem dk_Planner_narrow_78 : decode prog_7_method_5_code 78 = .ok (.iload 4, 2) := by decide +kernel
theorem dk_Planner_narrow_80 : decode prog_7_method_5_code 80 = .ok (.iadd, 1) := by decide +kernel
theorem dk_Planner_narrow_81 : decode prog_7_method_5_code 81 = .ok (.iload_n 3, 1) := by decide +kernel
theorem dk_Planner_narrow_82 : decode prog_7_method_5_code 82 = .ok (.invokevirtual 109, 3) := by decide +kernel
theorem dk_Planner_narrow_85 : decode prog_7_method_5_code 85 = .ok (.iinc 6 1, 3) := by decide +kernel
theorem dk_Planner_narrow_88 : decode prog_7_method_5_code 88 = .ok (.goto (-43), 3) := by decide +kernel
theorem dk_Planner_narrow_91 : decode prog_7_method_5_code 91 = .ok (.iconst 1, 1) := by decide +kernel
theorem dk_Planner_narrow_92 : decode prog_7_method_5_code 92 = .ok (.ireturn, 1) := by decide +kernel
noncomputable def fj_Planner_narrow_85 (x4 : Int32) (c9 : (Nat → Nat → Int32)) : Option ((Int32 × (Nat → Nat → Int32)) ⊕ (Nat → Nat → Int32)) :=
  some (.inl ((x4 + (1 : Int32)), c9))
noncomputable def fb_Planner_narrow_45 (p2 : Int32) (p4 : Int32) (p3 : Int32) (x4 : Int32) (c5 : (Nat → Nat → Int32)) : Option ((Int32 × (Nat → Nat → Int32)) ⊕ (Nat → Nat → Int32)) :=
  if (c5 77 7) ≤ x4 then
    some (.inr c5)
  else
    kv_gd (kv_in ((x4 * (10 : Int32)) + p2) 100) (
    kv_let (c5 78 ((x4 * (10 : Int32)) + p2).toNatClampNeg) (fun v8 =>
    if v8 = (2147483647 : Int32) then
      fj_Planner_narrow_85 x4 c5
    else
      kv_bind1 (fx_Planner_shortenFrom x4 (v8 + p4) p3 c5) (fun c10 =>
      fj_Planner_narrow_85 x4 c10)))
noncomputable def fj_Planner_narrow_27 (p2 : Int32) (p3 : Int32) (p4 : Int32) (c : (Nat → Nat → Int32)) : Option (Bool × (Nat → Nat → Int32)) :=
  kv_gd (kv_in ((p2 * (10 : Int32)) + p3) 100) (
  if p4 < (c 78 ((p2 * (10 : Int32)) + p3).toNatClampNeg) then
    (kv_loop (kv_u2 (fb_Planner_narrow_45 p2 p4 p3)) ((0 : Int32), c)).bind (kv_u1 (fun c6 =>
    some (true, c6)))
  else
    some (true, c))
noncomputable def fx_Planner_narrow (p2 : Int32) (p3 : Int32) (p4 : Int32) (c : (Nat → Nat → Int32)) : Option (Bool × (Nat → Nat → Int32)) :=
  kv_gd (kv_in ((p3 * (10 : Int32)) + p2) 100) (
  kv_let (c 78 ((p3 * (10 : Int32)) + p2).toNatClampNeg) (fun v2 =>
  if v2 = (2147483647 : Int32) then
    fj_Planner_narrow_27 p2 p3 p4 c
  else
    if 0 ≤ (v2 + p4) then
      fj_Planner_narrow_27 p2 p3 p4 c
    else
      some (false, c)))
set_option maxRecDepth 20000 in
theorem cx_Planner_narrow (d : Nat) (p2 : Int32) (p3 : Int32) (p4 : Int32) (c : (Nat → Nat → Int32)) (y : (Nat → Nat → Int32) × (Nat → Int64) × (Nat → Int64)) : ∀ a, fx_Planner_narrow p2 p3 p4 c = some a → kv_C kM_Planner_narrow (d + 1) [.ref 77, .ref 78, .int p2, .int p3, .int p4] (c, y) (some (.int (kv_b a.1)), (a.2, y)) := by
  refine kv_entryX (E := fun a : (Bool × (Nat → Nat → Int32)) => (some (.int (kv_b a.1)), (a.2, y))) rfl (Nat.le_of_ble_eq_true rfl) (fun o => ?_)
  unfold fx_Planner_narrow
  show kv_X _ _ _ _ _ 0 [(0, .ref 77), (1, .ref 78), (2, .int p2), (3, .int p3), (4, .int p4)] [] (c, y)
  refine kv_aload_n (pc := 0) 1 rfl rfl dk_Planner_narrow_0 ?_
  refine kv_iload_n (pc := 1) 3 rfl rfl dk_Planner_narrow_1 ?_
  refine kv_bipush (pc := 2) (v := (10 : Int32)) dk_Planner_narrow_2 kkb_10 ?_
  refine kv_imul (pc := 4) dk_Planner_narrow_4 ?_
  refine kv_iload_n (pc := 5) 2 rfl rfl dk_Planner_narrow_5 ?_
  refine kv_iadd (pc := 6) dk_Planner_narrow_6 ?_
  refine kv_guard (fun g1 => ?_)
  refine kv_aldC (pc := 7) kr_78 kn_78 kl_78 g1 rfl dk_Planner_narrow_7 ?_
  refine kv_letI (fun v2 => ?_)
  refine kv_istore (pc := 8) (lv' := [(5, .int v2), (0, .ref 77), (1, .ref 78), (2, .int p2), (3, .int p3), (4, .int p4)]) rfl (Nat.le_of_ble_eq_true rfl) dk_Planner_narrow_8 ?_
  refine kv_iload (pc := 10) 0 rfl dk_Planner_narrow_10 ?_
  refine kv_ldc (pc := 12) (v := (2147483647 : Int32)) kw_999 dk_Planner_narrow_12 ?_
  refine kv_cut_0 (J := fj_Planner_narrow_27 p2 p3 p4 c) (pcj := 27) (LJ := [(0, .ref 77), (1, .ref 78), (2, .int p2), (3, .int p3), (4, .int p4)]) (SJ := []) (WJ := (c, y)) ?_ (fun hj27 => ?_)
  · show kv_X _ _ _ _ (fj_Planner_narrow_27 p2 p3 p4 c) 27 [(0, .ref 77), (1, .ref 78), (2, .int p2), (3, .int p3), (4, .int p4)] [] (c, y)
    unfold fj_Planner_narrow_27
    refine kv_aload_n (pc := 27) 1 rfl rfl dk_Planner_narrow_27 ?_
    refine kv_iload_n (pc := 28) 2 rfl rfl dk_Planner_narrow_28 ?_
    refine kv_bipush (pc := 29) (v := (10 : Int32)) dk_Planner_narrow_29 kkb_10 ?_
    refine kv_imul (pc := 31) dk_Planner_narrow_31 ?_
    refine kv_iload_n (pc := 32) 3 rfl rfl dk_Planner_narrow_32 ?_
    refine kv_iadd (pc := 33) dk_Planner_narrow_33 ?_
    refine kv_guard (fun g3 => ?_)
    refine kv_aldC (pc := 34) kr_78 kn_78 kl_78 g3 rfl dk_Planner_narrow_34 ?_
    refine kv_iload (pc := 35) 4 rfl dk_Planner_narrow_35 ?_
    refine kv_icmp_gt (pc := 37) (tgt := 42) dk_Planner_narrow_37 rfl ?_ ?_
    · refine kv_iconst (pc := 42) (v := (0 : Int32)) dk_Planner_narrow_42 kki_0 ?_
      refine kv_istore (pc := 43) (lv' := [(6, .int (0 : Int32)), (0, .ref 77), (1, .ref 78), (2, .int p2), (3, .int p3), (4, .int p4)]) rfl (Nat.le_of_ble_eq_true rfl) dk_Planner_narrow_43 ?_
      refine kv_sub (lv' := [(0, .ref 77), (1, .ref 78), (2, .int p2), (3, .int p3), (4, .int p4), (6, .int (0 : Int32))]) [1, 2, 3, 4, 5, 0] rfl ?_
      refine kv_lp_2_1 (LV := fun x4 c5 => [(0, .ref 77), (1, .ref 78), (2, .int p2), (3, .int p3), (4, .int p4), (6, .int x4)]) (WW := fun x4 c5 => (c5, y)) (LE1 := fun c6 => []) (WE1 := fun c6 => (c6, y)) (pe1 := 91) ?_ ?_
      · intro c6
        show kv_X _ _ _ _ _ 91 [] [] (c6, y)
        refine kv_iconst (pc := 91) (v := (1 : Int32)) dk_Planner_narrow_91 kki_1 ?_
        exact kv_zret (pc := 92) (b := true) (fun h => h) rfl dk_Planner_narrow_92
      · intro hx45_0 x4 c5
        show kv_X _ _ _ _ (fb_Planner_narrow_45 p2 p4 p3 x4 c5) 45 [(0, .ref 77), (1, .ref 78), (2, .int p2), (3, .int p3), (4, .int p4), (6, .int x4)] [] (c5, y)
        unfold fb_Planner_narrow_45
        refine kv_iload (pc := 45) 5 rfl dk_Planner_narrow_45 ?_
        refine kv_aload_n (pc := 47) 0 rfl rfl dk_Planner_narrow_47 ?_
        refine kv_getC (pc := 48) kf_Planner_51 kr_77 kn_77 rfl dk_Planner_narrow_48 ?_
        refine kv_icmp_ge (pc := 51) (tgt := 91) dk_Planner_narrow_51 rfl ?_ ?_
        · exact kv_sub [] rfl (kv_leaf (hx45_0 _))
        · refine kv_aload_n (pc := 54) 1 rfl rfl dk_Planner_narrow_54 ?_
          refine kv_iload (pc := 55) 5 rfl dk_Planner_narrow_55 ?_
          refine kv_bipush (pc := 57) (v := (10 : Int32)) dk_Planner_narrow_57 kkb_10 ?_
          refine kv_imul (pc := 59) dk_Planner_narrow_59 ?_
          refine kv_iload_n (pc := 60) 2 rfl rfl dk_Planner_narrow_60 ?_
          refine kv_iadd (pc := 61) dk_Planner_narrow_61 ?_
          refine kv_guard (fun g7 => ?_)
          refine kv_aldC (pc := 62) kr_78 kn_78 kl_78 g7 rfl dk_Planner_narrow_62 ?_
          refine kv_letI (fun v8 => ?_)
          refine kv_istore (pc := 63) (lv' := [(7, .int v8), (0, .ref 77), (1, .ref 78), (2, .int p2), (3, .int p3), (4, .int p4), (6, .int x4)]) rfl (Nat.le_of_ble_eq_true rfl) dk_Planner_narrow_63 ?_
          refine kv_iload (pc := 65) 0 rfl dk_Planner_narrow_65 ?_
          refine kv_ldc (pc := 67) (v := (2147483647 : Int32)) kw_999 dk_Planner_narrow_67 ?_
          refine kv_cut_1 (J := fj_Planner_narrow_85 x4) (pcj := 85) (LJ := fun c9 => [(0, .ref 77), (1, .ref 78), (2, .int p2), (3, .int p3), (4, .int p4), (6, .int x4)]) (SJ := fun c9 => []) (WJ := fun c9 => (c9, y)) ?_ (fun hj85 => ?_)
          · intro c9
            show kv_X _ _ _ _ (fj_Planner_narrow_85 x4 c9) 85 [(0, .ref 77), (1, .ref 78), (2, .int p2), (3, .int p3), (4, .int p4), (6, .int x4)] [] (c9, y)
            unfold fj_Planner_narrow_85
            refine kv_iinc (pc := 85) (kk := (1 : Int32)) (lv' := [(6, .int (x4 + (1 : Int32))), (0, .ref 77), (1, .ref 78), (2, .int p2), (3, .int p3), (4, .int p4)]) 5 rfl kki_1 rfl (Nat.le_of_ble_eq_true rfl) dk_Planner_narrow_85 ?_
            refine kv_goto (pc := 88) (tgt := 45) dk_Planner_narrow_88 rfl ?_
            exact kv_sub [1, 2, 3, 4, 5, 0] rfl (kv_leaf (fun h => h))
          refine kv_icmp_eq (pc := 69) (tgt := 85) dk_Planner_narrow_69 rfl ?_ ?_
          · exact kv_sub [1, 2, 3, 4, 5, 6] rfl (hj85 c5)
          · refine kv_aload_n (pc := 72) 1 rfl rfl dk_Planner_narrow_72 ?_
            refine kv_aload_n (pc := 73) 2 rfl rfl dk_Planner_narrow_73 ?_
            refine kv_iload (pc := 74) 6 rfl dk_Planner_narrow_74 ?_
            refine kv_iload (pc := 76) 0 rfl dk_Planner_narrow_76 ?_
            refine kv_iload (pc := 78) 5 rfl dk_Planner_narrow_78 ?_
            refine kv_iadd (pc := 80) dk_Planner_narrow_80 ?_
            refine kv_iload_n (pc := 81) 4 rfl rfl dk_Planner_narrow_81 ?_
            refine kv_cV_cc (pc := 82) (as := [.ref 78, .int x4, .int (v8 + p4), .int p3]) (st := []) ko_Planner_shortenFrom kc_5 rfl rfl kr_77 kw_1011 (Nat.le_of_ble_eq_true rfl) rfl dk_Planner_narrow_82 (cx_Planner_shortenFrom d x4 (v8 + p4) p3 c5 y) (fun c10 => ?_)
            exact kv_sub [1, 2, 3, 4, 5, 6] rfl (hj85 c10)
    · refine kv_iconst (pc := 40) (v := (1 : Int32)) dk_Planner_narrow_40 kki_1 ?_
      exact kv_zret (pc := 41) (b := true) (fun h => h) rfl dk_Planner_narrow_41
  refine kv_icmp_eq (pc := 14) (tgt := 27) dk_Planner_narrow_14 rfl ?_ ?_
  · exact kv_sub [1, 2, 3, 4, 5] rfl (hj27)
  · refine kv_iload (pc := 17) 0 rfl dk_Planner_narrow_17 ?_
    refine kv_iload (pc := 19) 5 rfl dk_Planner_narrow_19 ?_
    refine kv_iadd (pc := 21) dk_Planner_narrow_21 ?_
    refine kv_if_ge (pc := 22) (tgt := 27) dk_Planner_narrow_22 rfl ?_ ?_
    · exact kv_sub [1, 2, 3, 4, 5] rfl (hj27)
    · refine kv_iconst (pc := 25) (v := (0 : Int32)) dk_Planner_narrow_25 kki_0 ?_
      exact kv_zret (pc := 26) (b := false) (fun h => h) rfl dk_Planner_narrow_26
theorem dk_Planner_learnOne_0 : decode prog_7_method_4_code 0 = .ok (.aload_n 1, 1) := by decide +kernel
theorem dk_Planner_learnOne_1 : decode prog_7_method_4_code 1 = .ok (.getfield 96, 3) := by decide +kernel
theorem dk_Planner_learnOne_4 : decode prog_7_method_4_code 4 = .ok (.iload_n 2, 1) := by decide +kernel
theorem dk_Planner_learnOne_5 : decode prog_7_method_4_code 5 = .ok (.iaload, 1) := by decide +kernel
theorem dk_Planner_learnOne_6 : decode prog_7_method_4_code 6 = .ok (.istore_n 3, 1) := by decide +kernel
theorem dk_Planner_learnOne_7 : decode prog_7_method_4_code 7 = .ok (.aload_n 1, 1) := by decide +kernel
theorem dk_Planner_learnOne_8 : decode prog_7_method_4_code 8 = .ok (.getfield 97, 3) := by decide +kernel
theorem dk_Planner_learnOne_11 : decode prog_7_method_4_code 11 = .ok (.iload_n 2, 1) := by decide +kernel
theorem dk_Planner_learnOne_12 : decode prog_7_method_4_code 12 = .ok (.iaload, 1) := by decide +kernel
theorem dk_Planner_learnOne_13 : decode prog_7_method_4_code 13 = .ok (.istore 4, 2) := by decide +kernel
theorem dk_Planner_learnOne_15 : decode prog_7_method_4_code 15 = .ok (.aload_n 0, 1) := by decide +kernel
theorem dk_Planner_learnOne_16 : decode prog_7_method_4_code 16 = .ok (.aload_n 0, 1) := by decide +kernel
theorem dk_Planner_learnOne_17 : decode prog_7_method_4_code 17 = .ok (.getfield 9, 3) := by decide +kernel
theorem dk_Planner_learnOne_20 : decode prog_7_method_4_code 20 = .ok (.iload 4, 2) := by decide +kernel
theorem dk_Planner_learnOne_22 : decode prog_7_method_4_code 22 = .ok (.iload_n 3, 1) := by decide +kernel
theorem dk_Planner_learnOne_23 : decode prog_7_method_4_code 23 = .ok (.aload_n 1, 1) := by decide +kernel
theorem dk_Planner_learnOne_24 : decode prog_7_method_4_code 24 = .ok (.iload_n 2, 1) := by decide +kernel
theorem dk_Planner_learnOne_25 : decode prog_7_method_4_code 25 = .ok (.invokevirtual 98, 3) := by decide +kernel
theorem dk_Planner_learnOne_28 : decode prog_7_method_4_code 28 = .ok (.invokevirtual 102, 3) := by decide +kernel
theorem dk_Planner_learnOne_31 : decode prog_7_method_4_code 31 = .ok (.ifCond .eq 27, 3) := by decide +kernel
theorem dk_Planner_learnOne_34 : decode prog_7_method_4_code 34 = .ok (.aload_n 0, 1) := by decide +kernel
theorem dk_Planner_learnOne_35 : decode prog_7_method_4_code 35 = .ok (.aload_n 0, 1) := by decide +kernel
theorem dk_Planner_learnOne_36 : decode prog_7_method_4_code 36 = .ok (.getfield 9, 3) := by decide +kernel
theorem dk_Planner_learnOne_39 : decode prog_7_method_4_code 39 = .ok (.iload_n 3, 1) := by decide +kernel
theorem dk_Planner_learnOne_40 : decode prog_7_method_4_code 40 = .ok (.iload 4, 2) := by decide +kernel
theorem dk_Planner_learnOne_42 : decode prog_7_method_4_code 42 = .ok (.aload_n 1, 1) := by decide +kernel
theorem dk_Planner_learnOne_43 : decode prog_7_method_4_code 43 = .ok (.iload_n 2, 1) := by decide +kernel
theorem dk_Planner_learnOne_44 : decode prog_7_method_4_code 44 = .ok (.invokevirtual 106, 3) := by decide +kernel
theorem dk_Planner_learnOne_47 : decode prog_7_method_4_code 47 = .ok (.ineg, 1) := by decide +kernel
theorem dk_Planner_learnOne_48 : decode prog_7_method_4_code 48 = .ok (.invokevirtual 102, 3) := by decide +kernel
theorem dk_Planner_learnOne_51 : decode prog_7_method_4_code 51 = .ok (.ifCond .eq 7, 3) := by decide +kernel
theorem dk_Planner_learnOne_54 : decode prog_7_method_4_code 54 = .ok (.iconst 1, 1) := by decide +kernel
theorem dk_Planner_learnOne_55 : decode prog_7_method_4_code 55 = .ok (.goto 4, 3) := by decide +kernel
theorem dk_Planner_learnOne_58 : decode prog_7_method_4_code 58 = .ok (.iconst 0, 1) := by decide +kernel
theorem dk_Planner_learnOne_59 : decode prog_7_method_4_code 59 = .ok (.ireturn, 1) := by decide +kernel
noncomputable def fx_Planner_learnOne (p2 : Int32) (c : (Nat → Nat → Int32)) : Option (Bool × (Nat → Nat → Int32)) :=
  kv_gd (kv_in p2 20) (
  kv_let (c 12 p2.toNatClampNeg) (fun v2 =>
  kv_let (c 13 p2.toNatClampNeg) (fun v3 =>
  kv_bind1 (fx_Weighings_greatest p2 c) (fun v4 =>
  kv_bind2 (fx_Planner_narrow v3 v2 v4 c) (fun b5 c6 =>
  if b5 = true then
    kv_bind1 (fx_Weighings_least p2 c6) (fun v7 =>
    kv_bind2 (fx_Planner_narrow v2 v3 (-v7) c6) (fun b8 c9 =>
    if b8 = true then
      some (true, c9)
    else
      some (false, c9)))
  else
    some (false, c6))))))
set_option maxRecDepth 20000 in
theorem cx_Planner_learnOne (d : Nat) (p2 : Int32) (c : (Nat → Nat → Int32)) (y : (Nat → Nat → Int32) × (Nat → Int64) × (Nat → Int64)) : ∀ a, fx_Planner_learnOne p2 c = some a → kv_C kM_Planner_learnOne (d + 2) [.ref 77, .ref 10, .int p2] (c, y) (some (.int (kv_b a.1)), (a.2, y)) := by
  refine kv_entryX (E := fun a : (Bool × (Nat → Nat → Int32)) => (some (.int (kv_b a.1)), (a.2, y))) rfl (Nat.le_of_ble_eq_true rfl) (fun o => ?_)
  unfold fx_Planner_learnOne
  show kv_X _ _ _ _ _ 0 [(0, .ref 77), (1, .ref 10), (2, .int p2)] [] (c, y)
  refine kv_aload_n (pc := 0) 1 rfl rfl dk_Planner_learnOne_0 ?_
  refine kv_getR (pc := 1) kf_Planner_96 kr_10 rfl kt_10_1 dk_Planner_learnOne_1 ?_
  refine kv_iload_n (pc := 4) 2 rfl rfl dk_Planner_learnOne_4 ?_
  refine kv_guard (fun g1 => ?_)
  refine kv_aldC (pc := 5) kr_12 kn_12 kl_12 g1 rfl dk_Planner_learnOne_5 ?_
  refine kv_letI (fun v2 => ?_)
  refine kv_istore_n (pc := 6) (lv' := [(3, .int v2), (0, .ref 77), (1, .ref 10), (2, .int p2)]) rfl (Nat.le_of_ble_eq_true rfl) rfl dk_Planner_learnOne_6 ?_
  refine kv_aload_n (pc := 7) 2 rfl rfl dk_Planner_learnOne_7 ?_
  refine kv_getR (pc := 8) kf_Planner_97 kr_10 rfl kt_10_2 dk_Planner_learnOne_8 ?_
  refine kv_iload_n (pc := 11) 3 rfl rfl dk_Planner_learnOne_11 ?_
  refine kv_aldC (pc := 12) kr_13 kn_13 kl_13 g1 rfl dk_Planner_learnOne_12 ?_
  refine kv_letI (fun v3 => ?_)
  refine kv_istore (pc := 13) (lv' := [(4, .int v3), (3, .int v2), (0, .ref 77), (1, .ref 10), (2, .int p2)]) rfl (Nat.le_of_ble_eq_true rfl) dk_Planner_learnOne_13 ?_
  refine kv_aload_n (pc := 15) 2 rfl rfl dk_Planner_learnOne_15 ?_
  refine kv_aload_n (pc := 16) 2 rfl rfl dk_Planner_learnOne_16 ?_
  refine kv_getR (pc := 17) kf_Planner_9 kr_77 rfl kt_77_0 dk_Planner_learnOne_17 ?_
  refine kv_iload (pc := 20) 0 rfl dk_Planner_learnOne_20 ?_
  refine kv_iload_n (pc := 22) 1 rfl rfl dk_Planner_learnOne_22 ?_
  refine kv_aload_n (pc := 23) 3 rfl rfl dk_Planner_learnOne_23 ?_
  refine kv_iload_n (pc := 24) 4 rfl rfl dk_Planner_learnOne_24 ?_
  refine kv_cV_cI (pc := 25) (as := [.int p2]) (st := [.int v2, .int v3, .ref 78, .ref 77]) ko_Weighings_greatest kc_9 rfl rfl kr_10 kw_1006 (Nat.le_of_ble_eq_true rfl) rfl dk_Planner_learnOne_25 (cx_Weighings_greatest (d + 1) p2 c y) (fun v4 => ?_)
  refine kv_cV_cZc (pc := 28) (as := [.ref 78, .int v3, .int v2, .int v4]) (st := []) ko_Planner_narrow kc_5 rfl rfl kr_77 kw_1007 (Nat.le_of_ble_eq_true rfl) rfl dk_Planner_learnOne_28 (cx_Planner_narrow d v3 v2 v4 c y) (fun b5 c6 => ?_)
  refine kv_zif_eq (pc := 31) (tgt := 58) dk_Planner_learnOne_31 rfl ?_ ?_
  · refine kv_iconst (pc := 58) (v := (0 : Int32)) dk_Planner_learnOne_58 kki_0 ?_
    exact kv_zret (pc := 59) (b := false) (fun h => h) rfl dk_Planner_learnOne_59
  · refine kv_aload_n (pc := 34) 2 rfl rfl dk_Planner_learnOne_34 ?_
    refine kv_aload_n (pc := 35) 2 rfl rfl dk_Planner_learnOne_35 ?_
    refine kv_getR (pc := 36) kf_Planner_9 kr_77 rfl kt_77_0 dk_Planner_learnOne_36 ?_
    refine kv_iload_n (pc := 39) 1 rfl rfl dk_Planner_learnOne_39 ?_
    refine kv_iload (pc := 40) 0 rfl dk_Planner_learnOne_40 ?_
    refine kv_aload_n (pc := 42) 3 rfl rfl dk_Planner_learnOne_42 ?_
    refine kv_iload_n (pc := 43) 4 rfl rfl dk_Planner_learnOne_43 ?_
    refine kv_cV_cI (pc := 44) (as := [.int p2]) (st := [.int v3, .int v2, .ref 78, .ref 77]) ko_Weighings_least kc_9 rfl rfl kr_10 kw_1015 (Nat.le_of_ble_eq_true rfl) rfl dk_Planner_learnOne_44 (cx_Weighings_least (d + 1) p2 c6 y) (fun v7 => ?_)
    refine kv_ineg (pc := 47) dk_Planner_learnOne_47 ?_
    refine kv_cV_cZc (pc := 48) (as := [.ref 78, .int v2, .int v3, .int (-v7)]) (st := []) ko_Planner_narrow kc_5 rfl rfl kr_77 kw_1007 (Nat.le_of_ble_eq_true rfl) rfl dk_Planner_learnOne_48 (cx_Planner_narrow d v2 v3 (-v7) c6 y) (fun b8 c9 => ?_)
    refine kv_zif_eq (pc := 51) (tgt := 58) dk_Planner_learnOne_51 rfl ?_ ?_
    · refine kv_iconst (pc := 58) (v := (0 : Int32)) dk_Planner_learnOne_58 kki_0 ?_
      exact kv_zret (pc := 59) (b := false) (fun h => h) rfl dk_Planner_learnOne_59
    · refine kv_iconst (pc := 54) (v := (1 : Int32)) dk_Planner_learnOne_54 kki_1 ?_
      refine kv_goto (pc := 55) (tgt := 59) dk_Planner_learnOne_55 rfl ?_
      exact kv_zret (pc := 59) (b := true) (fun h => h) rfl dk_Planner_learnOne_59
theorem dk_Planner_learn_0 : decode prog_7_method_3_code 0 = .ok (.aload_n 0, 1) := by decide +kernel
theorem dk_Planner_learn_1 : decode prog_7_method_3_code 1 = .ok (.getfield 9, 3) := by decide +kernel
theorem dk_Planner_learn_4 : decode prog_7_method_3_code 4 = .ok (.ldc 69, 2) := by decide +kernel
theorem dk_Planner_learn_6 : decode prog_7_method_3_code 6 = .ok (.invokestatic 70, 3) := by decide +kernel
theorem dk_Planner_learn_9 : decode prog_7_method_3_code 9 = .ok (.iconst 0, 1) := by decide +kernel
theorem dk_Planner_learn_10 : decode prog_7_method_3_code 10 = .ok (.istore_n 2, 1) := by decide +kernel
theorem dk_Planner_learn_11 : decode prog_7_method_3_code 11 = .ok (.iload_n 2, 1) := by decide +kernel
theorem dk_Planner_learn_12 : decode prog_7_method_3_code 12 = .ok (.bipush 10, 2) := by decide +kernel
theorem dk_Planner_learn_14 : decode prog_7_method_3_code 14 = .ok (.if_icmp .ge 21, 3) := by decide +kernel
theorem dk_Planner_learn_17 : decode prog_7_method_3_code 17 = .ok (.aload_n 0, 1) := by decide +kernel
theorem dk_Planner_learn_18 : decode prog_7_method_3_code 18 = .ok (.getfield 9, 3) := by decide +kernel
theorem dk_Planner_learn_21 : decode prog_7_method_3_code 21 = .ok (.iload_n 2, 1) := by decide +kernel
theorem dk_Planner_learn_22 : decode prog_7_method_3_code 22 = .ok (.bipush 10, 2) := by decide +kernel
theorem dk_Planner_learn_24 : decode prog_7_method_3_code 24 = .ok (.imul, 1) := by decide +kernel
theorem dk_Planner_learn_25 : decode prog_7_method_3_code 25 = .ok (.iload_n 2, 1) := by decide +kernel
theorem dk_Planner_learn_26 : decode prog_7_method_3_code 26 = .ok (.iadd, 1) := by decide +kernel
theorem dk_Planner_learn_27 : decode prog_7_method_3_code 27 = .ok (.iconst 0, 1) := by decide +kernel
theorem dk_Planner_learn_28 : decode prog_7_method_3_code 28 = .ok (.iastore, 1) := by decide +kernel
theorem dk_Planner_learn_29 : decode prog_7_method_3_code 29 = .ok (.iinc 2 1, 3) := by decide +kernel
theorem dk_Planner_learn_32 : decode prog_7_method_3_code 32 = .ok (.goto (-21), 3) := by decide +kernel
theorem dk_Planner_learn_35 : decode prog_7_method_3_code 35 = .ok (.aload_n 1, 1) := by decide +kernel
theorem dk_Planner_learn_36 : decode prog_7_method_3_code 36 = .ok (.getfield 76, 3) := by decide +kernel
theorem dk_Planner_learn_39 : decode prog_7_method_3_code 39 = .ok (.astore_n 2, 1) := by decide +kernel
theorem dk_Planner_learn_40 : decode prog_7_method_3_code 40 = .ok (.iconst 0, 1) := by decide +kernel
theorem dk_Planner_learn_41 : decode prog_7_method_3_code 41 = .ok (.istore_n 3, 1) := by decide +kernel
theorem dk_Planner_learn_42 : decode prog_7_method_3_code 42 = .ok (.iload_n 3, 1) := by decide +kernel
theorem dk_Planner_learn_43 : decode prog_7_method_3_code 43 = .ok (.aload_n 2, 1) := by decide +kernel
theorem dk_Planner_learn_44 : decode prog_7_method_3_code 44 = .ok (.getfield 82, 3) := by decide +kernel
theorem dk_Planner_learn_47 : decode prog_7_method_3_code 47 = .ok (.if_icmp .ge 32, 3) := by decide +kernel
theorem dk_Planner_learn_50 : decode prog_7_method_3_code 50 = .ok (.aload_n 2, 1) := by decide +kernel
theorem dk_Planner_learn_51 : decode prog_7_method_3_code 51 = .ok (.iload_n 3, 1) := by decide +kernel
theorem dk_Planner_learn_52 : decode prog_7_method_3_code 52 = .ok (.aload_n 1, 1) := by decide +kernel
theorem dk_Planner_learn_53 : decode prog_7_method_3_code 53 = .ok (.getfield 85, 3) := by decide +kernel
theorem dk_Planner_learn_56 : decode prog_7_method_3_code 56 = .ok (.invokevirtual 88, 3) := by decide +kernel
theorem dk_Planner_learn_59 : decode prog_7_method_3_code 59 = .ok (.ifCond .eq 14, 3) := by decide +kernel
theorem dk_Planner_learn_62 : decode prog_7_method_3_code 62 = .ok (.aload_n 0, 1) := by decide +kernel
theorem dk_Planner_learn_63 : decode prog_7_method_3_code 63 = .ok (.aload_n 2, 1) := by decide +kernel
theorem dk_Planner_learn_64 : decode prog_7_method_3_code 64 = .ok (.iload_n 3, 1) := by decide +kernel
theorem dk_Planner_learn_65 : decode prog_7_method_3_code 65 = .ok (.invokevirtual 92, 3) := by decide +kernel
theorem dk_Planner_learn_68 : decode prog_7_method_3_code 68 = .ok (.ifCond .ne 5, 3) := by decide +kernel
theorem dk_Planner_learn_71 : decode prog_7_method_3_code 71 = .ok (.iconst 0, 1) := by decide +kernel
theorem dk_Planner_learn_72 : decode prog_7_method_3_code 72 = .ok (.ireturn, 1) := by decide +kernel
theorem dk_Planner_learn_73 : decode prog_7_method_3_code 73 = .ok (.iinc 3 1, 3) := by decide +kernel
theorem dk_Planner_learn_76 : decode prog_7_method_3_code 76 = .ok (.goto (-34), 3) := by decide +kernel
theorem dk_Planner_learn_79 : decode prog_7_method_3_code 79 = .ok (.iconst 1, 1) := by decide +kernel
theorem dk_Planner_learn_80 : decode prog_7_method_3_code 80 = .ok (.ireturn, 1) := by decide +kernel
noncomputable def fb_Planner_learn_11 (x2 : Int32) (c3 : (Nat → Nat → Int32)) : Option ((Int32 × (Nat → Nat → Int32)) ⊕ (Nat → Nat → Int32)) :=
  if (10 : Int32) ≤ x2 then
    some (.inr c3)
  else
    kv_gd (kv_in ((x2 * (10 : Int32)) + x2) 100) (
    kv_let (kv_st c3 78 ((x2 * (10 : Int32)) + x2).toNatClampNeg (0 : Int32)) (fun c6 =>
    some (.inl ((x2 + (1 : Int32)), c6))))
noncomputable def fj_Planner_learn_73 (x7 : Int32) (c12 : (Nat → Nat → Int32)) : Option ((Int32 × (Nat → Nat → Int32)) ⊕ ((Nat → Nat → Int32) ⊕ (Nat → Nat → Int32))) :=
  some (.inl ((x7 + (1 : Int32)), c12))
noncomputable def fb_Planner_learn_42 (x7 : Int32) (c8 : (Nat → Nat → Int32)) : Option ((Int32 × (Nat → Nat → Int32)) ⊕ ((Nat → Nat → Int32) ⊕ (Nat → Nat → Int32))) :=
  if (c8 10 7) ≤ x7 then
    some (.inr (.inr c8))
  else
    kv_bind1 (fx_Weighings_counts x7 (c8 1 5) c8) (fun b11 =>
    if b11 = true then
      kv_bind2 (fx_Planner_learnOne x7 c8) (fun b13 c14 =>
      if b13 = true then
        fj_Planner_learn_73 x7 c14
      else
        some (.inr (.inl c14)))
    else
      fj_Planner_learn_73 x7 c8)
noncomputable def fx_Planner_learn (c : (Nat → Nat → Int32)) : Option (Bool × (Nat → Nat → Int32)) :=
  kv_bind1 (fx_Arr_fill_78 (2147483647 : Int32) c) (fun c1 =>
  (kv_loop (kv_u2 (fb_Planner_learn_11)) ((0 : Int32), c1)).bind (kv_u1 (fun c4 =>
  (kv_loop (kv_u2 (fb_Planner_learn_42)) ((0 : Int32), c4)).bind (Sum.elim (kv_u1 (fun c9 =>
  some (false, c9)))
   (kv_u1 (fun c10 =>
  some (true, c10)))))))
set_option maxRecDepth 20000 in
theorem cx_Planner_learn (d : Nat) (c : (Nat → Nat → Int32)) (y : (Nat → Nat → Int32) × (Nat → Int64) × (Nat → Int64)) : ∀ a, fx_Planner_learn c = some a → kv_C kM_Planner_learn (d + 3) [.ref 77, .ref 1] (c, y) (some (.int (kv_b a.1)), (a.2, y)) := by
  refine kv_entryX (E := fun a : (Bool × (Nat → Nat → Int32)) => (some (.int (kv_b a.1)), (a.2, y))) rfl (Nat.le_of_ble_eq_true rfl) (fun o => ?_)
  unfold fx_Planner_learn
  show kv_X _ _ _ _ _ 0 [(0, .ref 77), (1, .ref 1)] [] (c, y)
  refine kv_aload_n (pc := 0) 0 rfl rfl dk_Planner_learn_0 ?_
  refine kv_getR (pc := 1) kf_Planner_9 kr_77 rfl kt_77_0 dk_Planner_learn_1 ?_
  refine kv_ldc (pc := 4) (v := (2147483647 : Int32)) kw_999 dk_Planner_learn_4 ?_
  refine kv_cS_cc (pc := 6) (as := [.ref 78, .int (2147483647 : Int32)]) (st := []) ko_Arr_fill rfl kw_1000 (Nat.le_of_ble_eq_true rfl) rfl dk_Planner_learn_6 (cx_Arr_fill_78 (d + 2) (2147483647 : Int32) c y) (fun c1 => ?_)
  refine kv_iconst (pc := 9) (v := (0 : Int32)) dk_Planner_learn_9 kki_0 ?_
  refine kv_istore_n (pc := 10) (lv' := [(2, .int (0 : Int32)), (0, .ref 77), (1, .ref 1)]) rfl (Nat.le_of_ble_eq_true rfl) rfl dk_Planner_learn_10 ?_
  refine kv_sub (lv' := [(0, .ref 77), (1, .ref 1), (2, .int (0 : Int32))]) [1, 2, 0] rfl ?_
  refine kv_lp_2_1 (LV := fun x2 c3 => [(0, .ref 77), (1, .ref 1), (2, .int x2)]) (WW := fun x2 c3 => (c3, y)) (LE1 := fun c4 => [(0, .ref 77), (1, .ref 1)]) (WE1 := fun c4 => (c4, y)) (pe1 := 35) ?_ ?_
  · intro c4
    show kv_X _ _ _ _ _ 35 [(0, .ref 77), (1, .ref 1)] [] (c4, y)
    refine kv_aload_n (pc := 35) 1 rfl rfl dk_Planner_learn_35 ?_
    refine kv_getR (pc := 36) kf_Planner_76 kr_1 rfl kt_1_1 dk_Planner_learn_36 ?_
    refine kv_astore_n (pc := 39) (lv' := [(2, .ref 10), (0, .ref 77), (1, .ref 1)]) rfl (Nat.le_of_ble_eq_true rfl) rfl dk_Planner_learn_39 ?_
    refine kv_iconst (pc := 40) (v := (0 : Int32)) dk_Planner_learn_40 kki_0 ?_
    refine kv_istore_n (pc := 41) (lv' := [(3, .int (0 : Int32)), (2, .ref 10), (0, .ref 77), (1, .ref 1)]) rfl (Nat.le_of_ble_eq_true rfl) rfl dk_Planner_learn_41 ?_
    refine kv_sub (lv' := [(0, .ref 77), (1, .ref 1), (2, .ref 10), (3, .int (0 : Int32))]) [2, 3, 1, 0] rfl ?_
    refine kv_lp_2_1_1 (LV := fun x7 c8 => [(0, .ref 77), (1, .ref 1), (2, .ref 10), (3, .int x7)]) (WW := fun x7 c8 => (c8, y)) (LE1 := fun c9 => []) (WE1 := fun c9 => (c9, y)) (pe1 := 71) (LE2 := fun c10 => []) (WE2 := fun c10 => (c10, y)) (pe2 := 79) ?_ ?_ ?_
    · intro c9
      show kv_X _ _ _ _ _ 71 [] [] (c9, y)
      refine kv_iconst (pc := 71) (v := (0 : Int32)) dk_Planner_learn_71 kki_0 ?_
      exact kv_zret (pc := 72) (b := false) (fun h => h) rfl dk_Planner_learn_72
    · intro c10
      show kv_X _ _ _ _ _ 79 [] [] (c10, y)
      refine kv_iconst (pc := 79) (v := (1 : Int32)) dk_Planner_learn_79 kki_1 ?_
      exact kv_zret (pc := 80) (b := true) (fun h => h) rfl dk_Planner_learn_80
    · intro hx42_0 hx42_1 x7 c8
      show kv_X _ _ _ _ (fb_Planner_learn_42 x7 c8) 42 [(0, .ref 77), (1, .ref 1), (2, .ref 10), (3, .int x7)] [] (c8, y)
      unfold fb_Planner_learn_42
      refine kv_iload_n (pc := 42) 3 rfl rfl dk_Planner_learn_42 ?_
      refine kv_aload_n (pc := 43) 2 rfl rfl dk_Planner_learn_43 ?_
      refine kv_getC (pc := 44) kf_Planner_82 kr_10 kn_10 rfl dk_Planner_learn_44 ?_
      refine kv_icmp_ge (pc := 47) (tgt := 79) dk_Planner_learn_47 rfl ?_ ?_
      · exact kv_sub [] rfl (kv_leaf (hx42_1 _))
      · refine kv_aload_n (pc := 50) 2 rfl rfl dk_Planner_learn_50 ?_
        refine kv_iload_n (pc := 51) 3 rfl rfl dk_Planner_learn_51 ?_
        refine kv_aload_n (pc := 52) 1 rfl rfl dk_Planner_learn_52 ?_
        refine kv_getC (pc := 53) kf_Planner_85 kr_1 kn_1 rfl dk_Planner_learn_53 ?_
        refine kv_cV_cZ (pc := 56) (as := [.int x7, .int (c8 1 5)]) (st := []) ko_Weighings_counts kc_9 rfl rfl kr_10 kw_1001 (Nat.le_of_ble_eq_true rfl) rfl dk_Planner_learn_56 (cx_Weighings_counts (d + 2) x7 (c8 1 5) c8 y) (fun b11 => ?_)
        refine kv_cut_1 (J := fj_Planner_learn_73 x7) (pcj := 73) (LJ := fun c12 => [(0, .ref 77), (1, .ref 1), (2, .ref 10), (3, .int x7)]) (SJ := fun c12 => []) (WJ := fun c12 => (c12, y)) ?_ (fun hj73 => ?_)
        · intro c12
          show kv_X _ _ _ _ (fj_Planner_learn_73 x7 c12) 73 [(0, .ref 77), (1, .ref 1), (2, .ref 10), (3, .int x7)] [] (c12, y)
          unfold fj_Planner_learn_73
          refine kv_iinc (pc := 73) (kk := (1 : Int32)) (lv' := [(3, .int (x7 + (1 : Int32))), (0, .ref 77), (1, .ref 1), (2, .ref 10)]) 3 rfl kki_1 rfl (Nat.le_of_ble_eq_true rfl) dk_Planner_learn_73 ?_
          refine kv_goto (pc := 76) (tgt := 42) dk_Planner_learn_76 rfl ?_
          exact kv_sub [1, 2, 3, 0] rfl (kv_leaf (fun h => h))
        refine kv_zif_eq (pc := 59) (tgt := 73) dk_Planner_learn_59 rfl ?_ ?_
        · exact hj73 c8
        · refine kv_aload_n (pc := 62) 0 rfl rfl dk_Planner_learn_62 ?_
          refine kv_aload_n (pc := 63) 2 rfl rfl dk_Planner_learn_63 ?_
          refine kv_iload_n (pc := 64) 3 rfl rfl dk_Planner_learn_64 ?_
          refine kv_cV_cZc (pc := 65) (as := [.ref 10, .int x7]) (st := []) ko_Planner_learnOne kc_5 rfl rfl kr_77 kw_1002 (Nat.le_of_ble_eq_true rfl) rfl dk_Planner_learn_65 (cx_Planner_learnOne d x7 c8 y) (fun b13 c14 => ?_)
          refine kv_zif_ne (pc := 68) (tgt := 73) dk_Planner_learn_68 rfl ?_ ?_
          · exact hj73 c14
          · exact kv_sub [] rfl (kv_leaf (hx42_0 _))
  · intro hx11_0 x2 c3
    show kv_X _ _ _ _ (fb_Planner_learn_11 x2 c3) 11 [(0, .ref 77), (1, .ref 1), (2, .int x2)] [] (c3, y)
    unfold fb_Planner_learn_11
    refine kv_iload_n (pc := 11) 2 rfl rfl dk_Planner_learn_11 ?_
    refine kv_bipush (pc := 12) (v := (10 : Int32)) dk_Planner_learn_12 kkb_10 ?_
    refine kv_icmp_ge (pc := 14) (tgt := 35) dk_Planner_learn_14 rfl ?_ ?_
    · exact kv_sub [0, 1] rfl (kv_leaf (hx11_0 _))
    · refine kv_aload_n (pc := 17) 0 rfl rfl dk_Planner_learn_17 ?_
      refine kv_getR (pc := 18) kf_Planner_9 kr_77 rfl kt_77_0 dk_Planner_learn_18 ?_
      refine kv_iload_n (pc := 21) 2 rfl rfl dk_Planner_learn_21 ?_
      refine kv_bipush (pc := 22) (v := (10 : Int32)) dk_Planner_learn_22 kkb_10 ?_
      refine kv_imul (pc := 24) dk_Planner_learn_24 ?_
      refine kv_iload_n (pc := 25) 2 rfl rfl dk_Planner_learn_25 ?_
      refine kv_iadd (pc := 26) dk_Planner_learn_26 ?_
      refine kv_iconst (pc := 27) (v := (0 : Int32)) dk_Planner_learn_27 kki_0 ?_
      refine kv_guard (fun g5 => ?_)
      refine kv_astC (pc := 28) kr_78 kn_78 kl_78 g5 rfl dk_Planner_learn_28 (fun c6 => ?_)
      refine kv_iinc (pc := 29) (kk := (1 : Int32)) (lv' := [(2, .int (x2 + (1 : Int32))), (0, .ref 77), (1, .ref 1)]) 2 rfl kki_1 rfl (Nat.le_of_ble_eq_true rfl) dk_Planner_learn_29 ?_
      refine kv_goto (pc := 32) (tgt := 11) dk_Planner_learn_32 rfl ?_
      exact kv_sub [1, 2, 0] rfl (kv_leaf (fun h => h))
theorem dk_Planner_has_0 : decode prog_7_method_9_code 0 = .ok (.iload_n 1, 1) := by decide +kernel
theorem dk_Planner_has_1 : decode prog_7_method_9_code 1 = .ok (.iload_n 2, 1) := by decide +kernel
theorem dk_Planner_has_2 : decode prog_7_method_9_code 2 = .ok (.ishr, 1) := by decide +kernel
theorem dk_Planner_has_3 : decode prog_7_method_9_code 3 = .ok (.iconst 1, 1) := by decide +kernel
theorem dk_Planner_has_4 : decode prog_7_method_9_code 4 = .ok (.iand, 1) := by decide +kernel
theorem dk_Planner_has_5 : decode prog_7_method_9_code 5 = .ok (.iconst 1, 1) := by decide +kernel
theorem dk_Planner_has_6 : decode prog_7_method_9_code 6 = .ok (.if_icmp .ne 7, 3) := by decide +kernel
theorem dk_Planner_has_9 : decode prog_7_method_9_code 9 = .ok (.iconst 1, 1) := by decide +kernel
theorem dk_Planner_has_10 : decode prog_7_method_9_code 10 = .ok (.goto 4, 3) := by decide +kernel
theorem dk_Planner_has_13 : decode prog_7_method_9_code 13 = .ok (.iconst 0, 1) := by decide +kernel
theorem dk_Planner_has_14 : decode prog_7_method_9_code 14 = .ok (.ireturn, 1) := by decide +kernel
noncomputable def fx_Planner_has (p1 : Int32) (p2 : Int32) : Option Bool :=
  if ((p1 >>> (p2 &&& 31)) &&& (1 : Int32)) = (1 : Int32) then
    some true
  else
    some false
set_option maxRecDepth 20000 in
theorem cx_Planner_has (d : Nat) (p1 : Int32) (p2 : Int32) (c : (Nat → Nat → Int32)) (y : (Nat → Nat → Int32) × (Nat → Int64) × (Nat → Int64)) : ∀ a, fx_Planner_has p1 p2 = some a → kv_C kM_Planner_has (d + 0) [.ref 77, .int p1, .int p2] (c, y) (some (.int (kv_b a)), (c, y)) := by
  refine kv_entryX (E := fun a : Bool => (some (.int (kv_b a)), (c, y))) rfl (Nat.le_of_ble_eq_true rfl) (fun o => ?_)
  unfold fx_Planner_has
  show kv_X _ _ _ _ _ 0 [(0, .ref 77), (1, .int p1), (2, .int p2)] [] (c, y)
  refine kv_iload_n (pc := 0) 1 rfl rfl dk_Planner_has_0 ?_
  refine kv_iload_n (pc := 1) 2 rfl rfl dk_Planner_has_1 ?_
  refine kv_ishr (pc := 2) dk_Planner_has_2 ?_
  refine kv_iconst (pc := 3) (v := (1 : Int32)) dk_Planner_has_3 kki_1 ?_
  refine kv_iand (pc := 4) dk_Planner_has_4 ?_
  refine kv_iconst (pc := 5) (v := (1 : Int32)) dk_Planner_has_5 kki_1 ?_
  refine kv_icmp_ne (pc := 6) (tgt := 13) dk_Planner_has_6 rfl ?_ ?_
  · refine kv_iconst (pc := 13) (v := (0 : Int32)) dk_Planner_has_13 kki_0 ?_
    exact kv_zret (pc := 14) (b := false) (fun h => h) rfl dk_Planner_has_14
  · refine kv_iconst (pc := 9) (v := (1 : Int32)) dk_Planner_has_9 kki_1 ?_
    refine kv_goto (pc := 10) (tgt := 14) dk_Planner_has_10 rfl ?_
    exact kv_zret (pc := 14) (b := true) (fun h => h) rfl dk_Planner_has_14
theorem dk_Planner_isAllowed_0 : decode prog_7_method_8_code 0 = .ok (.iconst 0, 1) := by decide +kernel
theorem dk_Planner_isAllowed_1 : decode prog_7_method_8_code 1 = .ok (.istore_n 2, 1) := by decide +kernel
theorem dk_Planner_isAllowed_2 : decode prog_7_method_8_code 2 = .ok (.iconst 0, 1) := by decide +kernel
theorem dk_Planner_isAllowed_3 : decode prog_7_method_8_code 3 = .ok (.istore_n 3, 1) := by decide +kernel
theorem dk_Planner_isAllowed_4 : decode prog_7_method_8_code 4 = .ok (.iload_n 3, 1) := by decide +kernel
theorem dk_Planner_isAllowed_5 : decode prog_7_method_8_code 5 = .ok (.aload_n 0, 1) := by decide +kernel
theorem dk_Planner_isAllowed_6 : decode prog_7_method_8_code 6 = .ok (.getfield 43, 3) := by decide +kernel
theorem dk_Planner_isAllowed_9 : decode prog_7_method_8_code 9 = .ok (.if_icmp .ge 30, 3) := by decide +kernel
theorem dk_Planner_isAllowed_12 : decode prog_7_method_8_code 12 = .ok (.aload_n 0, 1) := by decide +kernel
theorem dk_Planner_isAllowed_13 : decode prog_7_method_8_code 13 = .ok (.iload_n 1, 1) := by decide +kernel
theorem dk_Planner_isAllowed_14 : decode prog_7_method_8_code 14 = .ok (.iload_n 3, 1) := by decide +kernel
theorem dk_Planner_isAllowed_15 : decode prog_7_method_8_code 15 = .ok (.invokevirtual 133, 3) := by decide +kernel
theorem dk_Planner_isAllowed_18 : decode prog_7_method_8_code 18 = .ok (.ifCond .eq 15, 3) := by decide +kernel
theorem dk_Planner_isAllowed_21 : decode prog_7_method_8_code 21 = .ok (.aload_n 0, 1) := by decide +kernel
theorem dk_Planner_isAllowed_22 : decode prog_7_method_8_code 22 = .ok (.getfield 27, 3) := by decide +kernel
theorem dk_Planner_isAllowed_25 : decode prog_7_method_8_code 25 = .ok (.iload_n 3, 1) := by decide +kernel
theorem dk_Planner_isAllowed_26 : decode prog_7_method_8_code 26 = .ok (.baload, 1) := by decide +kernel
theorem dk_Planner_isAllowed_27 : decode prog_7_method_8_code 27 = .ok (.ifCond .eq 6, 3) := by decide +kernel
theorem dk_Planner_isAllowed_30 : decode prog_7_method_8_code 30 = .ok (.iinc 2 1, 3) := by decide +kernel
theorem dk_Planner_isAllowed_33 : decode prog_7_method_8_code 33 = .ok (.iinc 3 1, 3) := by decide +kernel
theorem dk_Planner_isAllowed_36 : decode prog_7_method_8_code 36 = .ok (.goto (-32), 3) := by decide +kernel
theorem dk_Planner_isAllowed_39 : decode prog_7_method_8_code 39 = .ok (.iload_n 2, 1) := by decide +kernel
theorem dk_Planner_isAllowed_40 : decode prog_7_method_8_code 40 = .ok (.aload_n 0, 1) := by decide +kernel
theorem dk_Planner_isAllowed_41 : decode prog_7_method_8_code 41 = .ok (.getfield 57, 3) := by decide +kernel
theorem dk_Planner_isAllowed_44 : decode prog_7_method_8_code 44 = .ok (.if_icmp .gt 15, 3) := by decide +kernel
theorem dk_Planner_isAllowed_47 : decode prog_7_method_8_code 47 = .ok (.iload_n 1, 1) := by decide +kernel
theorem dk_Planner_isAllowed_48 : decode prog_7_method_8_code 48 = .ok (.invokestatic 136, 3) := by decide +kernel
theorem dk_Planner_isAllowed_51 : decode prog_7_method_8_code 51 = .ok (.iconst 4, 1) := by decide +kernel
theorem dk_Planner_isAllowed_52 : decode prog_7_method_8_code 52 = .ok (.if_icmp .gt 7, 3) := by decide +kernel
theorem dk_Planner_isAllowed_55 : decode prog_7_method_8_code 55 = .ok (.iconst 1, 1) := by decide +kernel
theorem dk_Planner_isAllowed_56 : decode prog_7_method_8_code 56 = .ok (.goto 4, 3) := by decide +kernel
theorem dk_Planner_isAllowed_59 : decode prog_7_method_8_code 59 = .ok (.iconst 0, 1) := by decide +kernel
theorem dk_Planner_isAllowed_60 : decode prog_7_method_8_code 60 = .ok (.ireturn, 1) := by decide +kernel
noncomputable def fj_Planner_isAllowed_33 (x2 : Int32) (x5 : Int32) : Option ((Int32 × Int32) ⊕ Int32) :=
  some (.inl (x5, (x2 + (1 : Int32))))
noncomputable def fb_Planner_isAllowed_4 (c : (Nat → Nat → Int32)) (p1 : Int32) (x1 : Int32) (x2 : Int32) : Option ((Int32 × Int32) ⊕ Int32) :=
  if (c 77 6) ≤ x2 then
    some (.inr x1)
  else
    kv_bind1 (fx_Planner_has p1 x2) (fun b4 =>
    if b4 = true then
      kv_gd (kv_in x2 8) (
      if (c 83 x2.toNatClampNeg) = 0 then
        fj_Planner_isAllowed_33 x2 x1
      else
        fj_Planner_isAllowed_33 x2 (x1 + (1 : Int32)))
    else
      fj_Planner_isAllowed_33 x2 x1)
noncomputable def fx_Planner_isAllowed (p1 : Int32) (c : (Nat → Nat → Int32)) : Option Bool :=
  (kv_loop (kv_u2 (fb_Planner_isAllowed_4 c p1)) ((0 : Int32), (0 : Int32))).bind (kv_u1 (fun x3 =>
  if (c 77 9) < x3 then
    some false
  else
    kv_bind1 (fx_Int_bitCount p1) (fun v7 =>
    if (4 : Int32) < v7 then
      some false
    else
      some true)))
set_option maxRecDepth 20000 in
theorem cx_Planner_isAllowed (d : Nat) (p1 : Int32) (c : (Nat → Nat → Int32)) (y : (Nat → Nat → Int32) × (Nat → Int64) × (Nat → Int64)) : ∀ a, fx_Planner_isAllowed p1 c = some a → kv_C kM_Planner_isAllowed (d + 1) [.ref 77, .int p1] (c, y) (some (.int (kv_b a)), (c, y)) := by
  refine kv_entryX (E := fun a : Bool => (some (.int (kv_b a)), (c, y))) rfl (Nat.le_of_ble_eq_true rfl) (fun o => ?_)
  unfold fx_Planner_isAllowed
  show kv_X _ _ _ _ _ 0 [(0, .ref 77), (1, .int p1)] [] (c, y)
  refine kv_iconst (pc := 0) (v := (0 : Int32)) dk_Planner_isAllowed_0 kki_0 ?_
  refine kv_istore_n (pc := 1) (lv' := [(2, .int (0 : Int32)), (0, .ref 77), (1, .int p1)]) rfl (Nat.le_of_ble_eq_true rfl) rfl dk_Planner_isAllowed_1 ?_
  refine kv_iconst (pc := 2) (v := (0 : Int32)) dk_Planner_isAllowed_2 kki_0 ?_
  refine kv_istore_n (pc := 3) (lv' := [(3, .int (0 : Int32)), (2, .int (0 : Int32)), (0, .ref 77), (1, .int p1)]) rfl (Nat.le_of_ble_eq_true rfl) rfl dk_Planner_isAllowed_3 ?_
  refine kv_sub (lv' := [(0, .ref 77), (1, .int p1), (2, .int (0 : Int32)), (3, .int (0 : Int32))]) [2, 3, 1, 0] rfl ?_
  refine kv_lp_2_1 (LV := fun x1 x2 => [(0, .ref 77), (1, .int p1), (2, .int x1), (3, .int x2)]) (WW := fun x1 x2 => (c, y)) (LE1 := fun x3 => [(0, .ref 77), (1, .int p1), (2, .int x3)]) (WE1 := fun x3 => (c, y)) (pe1 := 39) ?_ ?_
  · intro x3
    show kv_X _ _ _ _ _ 39 [(0, .ref 77), (1, .int p1), (2, .int x3)] [] (c, y)
    refine kv_iload_n (pc := 39) 2 rfl rfl dk_Planner_isAllowed_39 ?_
    refine kv_aload_n (pc := 40) 0 rfl rfl dk_Planner_isAllowed_40 ?_
    refine kv_getC (pc := 41) kf_Planner_57 kr_77 kn_77 rfl dk_Planner_isAllowed_41 ?_
    refine kv_icmp_gt (pc := 44) (tgt := 59) dk_Planner_isAllowed_44 rfl ?_ ?_
    · refine kv_iconst (pc := 59) (v := (0 : Int32)) dk_Planner_isAllowed_59 kki_0 ?_
      exact kv_zret (pc := 60) (b := false) (fun h => h) rfl dk_Planner_isAllowed_60
    · refine kv_iload_n (pc := 47) 1 rfl rfl dk_Planner_isAllowed_47 ?_
      refine kv_cS_cI (pc := 48) (as := [.int p1]) (st := []) ko_Int_bitCount rfl kw_1028 (Nat.le_of_ble_eq_true rfl) rfl dk_Planner_isAllowed_48 (cx_Int_bitCount d p1 c y) (fun v7 => ?_)
      refine kv_iconst (pc := 51) (v := (4 : Int32)) dk_Planner_isAllowed_51 kki_4 ?_
      refine kv_icmp_gt (pc := 52) (tgt := 59) dk_Planner_isAllowed_52 rfl ?_ ?_
      · refine kv_iconst (pc := 59) (v := (0 : Int32)) dk_Planner_isAllowed_59 kki_0 ?_
        exact kv_zret (pc := 60) (b := false) (fun h => h) rfl dk_Planner_isAllowed_60
      · refine kv_iconst (pc := 55) (v := (1 : Int32)) dk_Planner_isAllowed_55 kki_1 ?_
        refine kv_goto (pc := 56) (tgt := 60) dk_Planner_isAllowed_56 rfl ?_
        exact kv_zret (pc := 60) (b := true) (fun h => h) rfl dk_Planner_isAllowed_60
  · intro hx4_0 x1 x2
    show kv_X _ _ _ _ (fb_Planner_isAllowed_4 c p1 x1 x2) 4 [(0, .ref 77), (1, .int p1), (2, .int x1), (3, .int x2)] [] (c, y)
    unfold fb_Planner_isAllowed_4
    refine kv_iload_n (pc := 4) 3 rfl rfl dk_Planner_isAllowed_4 ?_
    refine kv_aload_n (pc := 5) 0 rfl rfl dk_Planner_isAllowed_5 ?_
    refine kv_getC (pc := 6) kf_Planner_43 kr_77 kn_77 rfl dk_Planner_isAllowed_6 ?_
    refine kv_icmp_ge (pc := 9) (tgt := 39) dk_Planner_isAllowed_9 rfl ?_ ?_
    · exact kv_sub [0, 1, 2] rfl (kv_leaf (hx4_0 _))
    · refine kv_aload_n (pc := 12) 0 rfl rfl dk_Planner_isAllowed_12 ?_
      refine kv_iload_n (pc := 13) 1 rfl rfl dk_Planner_isAllowed_13 ?_
      refine kv_iload_n (pc := 14) 3 rfl rfl dk_Planner_isAllowed_14 ?_
      refine kv_cV_cZ (pc := 15) (as := [.int p1, .int x2]) (st := []) ko_Planner_has kc_5 rfl rfl kr_77 kw_1024 (Nat.le_of_ble_eq_true rfl) rfl dk_Planner_isAllowed_15 (cx_Planner_has d p1 x2 c y) (fun b4 => ?_)
      refine kv_cut_1 (J := fj_Planner_isAllowed_33 x2) (pcj := 33) (LJ := fun x5 => [(0, .ref 77), (1, .int p1), (2, .int x5), (3, .int x2)]) (SJ := fun x5 => []) (WJ := fun x5 => (c, y)) ?_ (fun hj33 => ?_)
      · intro x5
        show kv_X _ _ _ _ (fj_Planner_isAllowed_33 x2 x5) 33 [(0, .ref 77), (1, .int p1), (2, .int x5), (3, .int x2)] [] (c, y)
        unfold fj_Planner_isAllowed_33
        refine kv_iinc (pc := 33) (kk := (1 : Int32)) (lv' := [(3, .int (x2 + (1 : Int32))), (0, .ref 77), (1, .int p1), (2, .int x5)]) 3 rfl kki_1 rfl (Nat.le_of_ble_eq_true rfl) dk_Planner_isAllowed_33 ?_
        refine kv_goto (pc := 36) (tgt := 4) dk_Planner_isAllowed_36 rfl ?_
        exact kv_sub [1, 2, 3, 0] rfl (kv_leaf (fun h => h))
      refine kv_zif_eq (pc := 18) (tgt := 33) dk_Planner_isAllowed_18 rfl ?_ ?_
      · exact hj33 x1
      · refine kv_aload_n (pc := 21) 0 rfl rfl dk_Planner_isAllowed_21 ?_
        refine kv_getR (pc := 22) kf_Planner_27 kr_77 rfl kt_77_5 dk_Planner_isAllowed_22 ?_
        refine kv_iload_n (pc := 25) 3 rfl rfl dk_Planner_isAllowed_25 ?_
        refine kv_guard (fun g6 => ?_)
        refine kv_aldZC (pc := 26) kr_83 kn_83 kl_83 g6 rfl dk_Planner_isAllowed_26 ?_
        refine kv_if_eq (pc := 27) (tgt := 33) dk_Planner_isAllowed_27 rfl ?_ ?_
        · exact hj33 x1
        · refine kv_iinc (pc := 30) (kk := (1 : Int32)) (lv' := [(2, .int (x1 + (1 : Int32))), (0, .ref 77), (1, .int p1), (3, .int x2)]) 2 rfl kki_1 rfl (Nat.le_of_ble_eq_true rfl) dk_Planner_isAllowed_30 ?_
          exact kv_sub [1, 2, 0, 3] rfl (hj33 (x1 + (1 : Int32)))
noncomputable def fj_Planner_shortenFrom_77_79_60 (x1 : Int32) (c6 : (Nat → Nat → Int32)) : Option ((Int32 × (Nat → Nat → Int32)) ⊕ (Nat → Nat → Int32)) :=
  some (.inl ((x1 + (1 : Int32)), c6))
noncomputable def fb_Planner_shortenFrom_77_79_3 (p4 : Int32) (p2 : Int32) (p3 : Int32) (x1 : Int32) (c2 : (Nat → Nat → Int32)) : Option ((Int32 × (Nat → Nat → Int32)) ⊕ (Nat → Nat → Int32)) :=
  if (c2 77 7) ≤ x1 then
    some (.inr c2)
  else
    kv_gd (kv_in ((p4 * (10 : Int32)) + x1) 100) (
    kv_let (c2 79 ((p4 * (10 : Int32)) + x1).toNatClampNeg) (fun v5 =>
    if v5 = (2147483647 : Int32) then
      fj_Planner_shortenFrom_77_79_60 x1 c2
    else
      kv_gd (kv_in ((p2 * (10 : Int32)) + x1) 100) (
      if (c2 79 ((p2 * (10 : Int32)) + x1).toNatClampNeg) ≤ (p3 + v5) then
        fj_Planner_shortenFrom_77_79_60 x1 c2
      else
        kv_let (kv_st c2 79 ((p2 * (10 : Int32)) + x1).toNatClampNeg (p3 + v5)) (fun c8 =>
        fj_Planner_shortenFrom_77_79_60 x1 c8))))
noncomputable def fx_Planner_shortenFrom_77_79 (p2 : Int32) (p3 : Int32) (p4 : Int32) (c : (Nat → Nat → Int32)) : Option (Nat → Nat → Int32) :=
  (kv_loop (kv_u2 (fb_Planner_shortenFrom_77_79_3 p4 p2 p3)) ((0 : Int32), c)).bind (kv_u1 (fun c3 =>
  some c3))
set_option maxRecDepth 20000 in
theorem cx_Planner_shortenFrom_77_79 (d : Nat) (p2 : Int32) (p3 : Int32) (p4 : Int32) (c : (Nat → Nat → Int32)) (y : (Nat → Nat → Int32) × (Nat → Int64) × (Nat → Int64)) : ∀ a, fx_Planner_shortenFrom_77_79 p2 p3 p4 c = some a → kv_C kM_Planner_shortenFrom (d + 0) [.ref 77, .ref 79, .int p2, .int p3, .int p4] (c, y) (none, (a, y)) := by
  refine kv_entryX (E := fun a : (Nat → Nat → Int32) => (none, (a, y))) rfl (Nat.le_of_ble_eq_true rfl) (fun o => ?_)
  unfold fx_Planner_shortenFrom_77_79
  show kv_X _ _ _ _ _ 0 [(0, .ref 77), (1, .ref 79), (2, .int p2), (3, .int p3), (4, .int p4)] [] (c, y)
  refine kv_iconst (pc := 0) (v := (0 : Int32)) dk_Planner_shortenFrom_0 kki_0 ?_
  refine kv_istore (pc := 1) (lv' := [(5, .int (0 : Int32)), (0, .ref 77), (1, .ref 79), (2, .int p2), (3, .int p3), (4, .int p4)]) rfl (Nat.le_of_ble_eq_true rfl) dk_Planner_shortenFrom_1 ?_
  refine kv_sub (lv' := [(0, .ref 77), (1, .ref 79), (2, .int p2), (3, .int p3), (4, .int p4), (5, .int (0 : Int32))]) [1, 2, 3, 4, 5, 0] rfl ?_
  refine kv_lp_2_1 (LV := fun x1 c2 => [(0, .ref 77), (1, .ref 79), (2, .int p2), (3, .int p3), (4, .int p4), (5, .int x1)]) (WW := fun x1 c2 => (c2, y)) (LE1 := fun c3 => []) (WE1 := fun c3 => (c3, y)) (pe1 := 66) ?_ ?_
  · intro c3
    show kv_X _ _ _ _ _ 66 [] [] (c3, y)
    exact kv_vret (pc := 66) (fun h => h) rfl dk_Planner_shortenFrom_66
  · intro hx3_0 x1 c2
    show kv_X _ _ _ _ (fb_Planner_shortenFrom_77_79_3 p4 p2 p3 x1 c2) 3 [(0, .ref 77), (1, .ref 79), (2, .int p2), (3, .int p3), (4, .int p4), (5, .int x1)] [] (c2, y)
    unfold fb_Planner_shortenFrom_77_79_3
    refine kv_iload (pc := 3) 5 rfl dk_Planner_shortenFrom_3 ?_
    refine kv_aload_n (pc := 5) 0 rfl rfl dk_Planner_shortenFrom_5 ?_
    refine kv_getC (pc := 6) kf_Planner_51 kr_77 kn_77 rfl dk_Planner_shortenFrom_6 ?_
    refine kv_icmp_ge (pc := 9) (tgt := 66) dk_Planner_shortenFrom_9 rfl ?_ ?_
    · exact kv_sub [] rfl (kv_leaf (hx3_0 _))
    · refine kv_aload_n (pc := 12) 1 rfl rfl dk_Planner_shortenFrom_12 ?_
      refine kv_iload (pc := 13) 4 rfl dk_Planner_shortenFrom_13 ?_
      refine kv_bipush (pc := 15) (v := (10 : Int32)) dk_Planner_shortenFrom_15 kkb_10 ?_
      refine kv_imul (pc := 17) dk_Planner_shortenFrom_17 ?_
      refine kv_iload (pc := 18) 5 rfl dk_Planner_shortenFrom_18 ?_
      refine kv_iadd (pc := 20) dk_Planner_shortenFrom_20 ?_
      refine kv_guard (fun g4 => ?_)
      refine kv_aldC (pc := 21) kr_79 kn_79 kl_79 g4 rfl dk_Planner_shortenFrom_21 ?_
      refine kv_letI (fun v5 => ?_)
      refine kv_istore (pc := 22) (lv' := [(6, .int v5), (0, .ref 77), (1, .ref 79), (2, .int p2), (3, .int p3), (4, .int p4), (5, .int x1)]) rfl (Nat.le_of_ble_eq_true rfl) dk_Planner_shortenFrom_22 ?_
      refine kv_iload (pc := 24) 0 rfl dk_Planner_shortenFrom_24 ?_
      refine kv_ldc (pc := 26) (v := (2147483647 : Int32)) kw_999 dk_Planner_shortenFrom_26 ?_
      refine kv_cut_1 (J := fj_Planner_shortenFrom_77_79_60 x1) (pcj := 60) (LJ := fun c6 => [(0, .ref 77), (1, .ref 79), (2, .int p2), (3, .int p3), (4, .int p4), (5, .int x1)]) (SJ := fun c6 => []) (WJ := fun c6 => (c6, y)) ?_ (fun hj60 => ?_)
      · intro c6
        show kv_X _ _ _ _ (fj_Planner_shortenFrom_77_79_60 x1 c6) 60 [(0, .ref 77), (1, .ref 79), (2, .int p2), (3, .int p3), (4, .int p4), (5, .int x1)] [] (c6, y)
        unfold fj_Planner_shortenFrom_77_79_60
        refine kv_iinc (pc := 60) (kk := (1 : Int32)) (lv' := [(5, .int (x1 + (1 : Int32))), (0, .ref 77), (1, .ref 79), (2, .int p2), (3, .int p3), (4, .int p4)]) 5 rfl kki_1 rfl (Nat.le_of_ble_eq_true rfl) dk_Planner_shortenFrom_60 ?_
        refine kv_goto (pc := 63) (tgt := 3) dk_Planner_shortenFrom_63 rfl ?_
        exact kv_sub [1, 2, 3, 4, 5, 0] rfl (kv_leaf (fun h => h))
      refine kv_icmp_eq (pc := 28) (tgt := 60) dk_Planner_shortenFrom_28 rfl ?_ ?_
      · exact kv_sub [1, 2, 3, 4, 5, 6] rfl (hj60 c2)
      · refine kv_iload_n (pc := 31) 4 rfl rfl dk_Planner_shortenFrom_31 ?_
        refine kv_iload (pc := 32) 0 rfl dk_Planner_shortenFrom_32 ?_
        refine kv_iadd (pc := 34) dk_Planner_shortenFrom_34 ?_
        refine kv_aload_n (pc := 35) 2 rfl rfl dk_Planner_shortenFrom_35 ?_
        refine kv_iload_n (pc := 36) 3 rfl rfl dk_Planner_shortenFrom_36 ?_
        refine kv_bipush (pc := 37) (v := (10 : Int32)) dk_Planner_shortenFrom_37 kkb_10 ?_
        refine kv_imul (pc := 39) dk_Planner_shortenFrom_39 ?_
        refine kv_iload (pc := 40) 6 rfl dk_Planner_shortenFrom_40 ?_
        refine kv_iadd (pc := 42) dk_Planner_shortenFrom_42 ?_
        refine kv_guard (fun g7 => ?_)
        refine kv_aldC (pc := 43) kr_79 kn_79 kl_79 g7 rfl dk_Planner_shortenFrom_43 ?_
        refine kv_icmp_ge (pc := 44) (tgt := 60) dk_Planner_shortenFrom_44 rfl ?_ ?_
        · exact kv_sub [1, 2, 3, 4, 5, 6] rfl (hj60 c2)
        · refine kv_aload_n (pc := 47) 2 rfl rfl dk_Planner_shortenFrom_47 ?_
          refine kv_iload_n (pc := 48) 3 rfl rfl dk_Planner_shortenFrom_48 ?_
          refine kv_bipush (pc := 49) (v := (10 : Int32)) dk_Planner_shortenFrom_49 kkb_10 ?_
          refine kv_imul (pc := 51) dk_Planner_shortenFrom_51 ?_
          refine kv_iload (pc := 52) 6 rfl dk_Planner_shortenFrom_52 ?_
          refine kv_iadd (pc := 54) dk_Planner_shortenFrom_54 ?_
          refine kv_iload_n (pc := 55) 4 rfl rfl dk_Planner_shortenFrom_55 ?_
          refine kv_iload (pc := 56) 0 rfl dk_Planner_shortenFrom_56 ?_
          refine kv_iadd (pc := 58) dk_Planner_shortenFrom_58 ?_
          refine kv_astC (pc := 59) kr_79 kn_79 kl_79 g7 rfl dk_Planner_shortenFrom_59 (fun c8 => ?_)
          exact kv_sub [1, 2, 3, 4, 5, 6] rfl (hj60 c8)
noncomputable def fj_Planner_narrow_77_79_85 (x4 : Int32) (c9 : (Nat → Nat → Int32)) : Option ((Int32 × (Nat → Nat → Int32)) ⊕ (Nat → Nat → Int32)) :=
  some (.inl ((x4 + (1 : Int32)), c9))
noncomputable def fb_Planner_narrow_77_79_45 (p2 : Int32) (p4 : Int32) (p3 : Int32) (x4 : Int32) (c5 : (Nat → Nat → Int32)) : Option ((Int32 × (Nat → Nat → Int32)) ⊕ (Nat → Nat → Int32)) :=
  if (c5 77 7) ≤ x4 then
    some (.inr c5)
  else
    kv_gd (kv_in ((x4 * (10 : Int32)) + p2) 100) (
    kv_let (c5 79 ((x4 * (10 : Int32)) + p2).toNatClampNeg) (fun v8 =>
    if v8 = (2147483647 : Int32) then
      fj_Planner_narrow_77_79_85 x4 c5
    else
      kv_bind1 (fx_Planner_shortenFrom_77_79 x4 (v8 + p4) p3 c5) (fun c10 =>
      fj_Planner_narrow_77_79_85 x4 c10)))
noncomputable def fj_Planner_narrow_77_79_27 (p2 : Int32) (p3 : Int32) (p4 : Int32) (c : (Nat → Nat → Int32)) : Option (Bool × (Nat → Nat → Int32)) :=
  kv_gd (kv_in ((p2 * (10 : Int32)) + p3) 100) (
  if p4 < (c 79 ((p2 * (10 : Int32)) + p3).toNatClampNeg) then
    (kv_loop (kv_u2 (fb_Planner_narrow_77_79_45 p2 p4 p3)) ((0 : Int32), c)).bind (kv_u1 (fun c6 =>
    some (true, c6)))
  else
    some (true, c))
noncomputable def fx_Planner_narrow_77_79 (p2 : Int32) (p3 : Int32) (p4 : Int32) (c : (Nat → Nat → Int32)) : Option (Bool × (Nat → Nat → Int32)) :=
  kv_gd (kv_in ((p3 * (10 : Int32)) + p2) 100) (
  kv_let (c 79 ((p3 * (10 : Int32)) + p2).toNatClampNeg) (fun v2 =>
  if v2 = (2147483647 : Int32) then
    fj_Planner_narrow_77_79_27 p2 p3 p4 c
  else
    if 0 ≤ (v2 + p4) then
      fj_Planner_narrow_77_79_27 p2 p3 p4 c
    else
      some (false, c)))
set_option maxRecDepth 20000 in
theorem cx_Planner_narrow_77_79 (d : Nat) (p2 : Int32) (p3 : Int32) (p4 : Int32) (c : (Nat → Nat → Int32)) (y : (Nat → Nat → Int32) × (Nat → Int64) × (Nat → Int64)) : ∀ a, fx_Planner_narrow_77_79 p2 p3 p4 c = some a → kv_C kM_Planner_narrow (d + 1) [.ref 77, .ref 79, .int p2, .int p3, .int p4] (c, y) (some (.int (kv_b a.1)), (a.2, y)) := by
  refine kv_entryX (E := fun a : (Bool × (Nat → Nat → Int32)) => (some (.int (kv_b a.1)), (a.2, y))) rfl (Nat.le_of_ble_eq_true rfl) (fun o => ?_)
  unfold fx_Planner_narrow_77_79
  show kv_X _ _ _ _ _ 0 [(0, .ref 77), (1, .ref 79), (2, .int p2), (3, .int p3), (4, .int p4)] [] (c, y)
  refine kv_aload_n (pc := 0) 1 rfl rfl dk_Planner_narrow_0 ?_
  refine kv_iload_n (pc := 1) 3 rfl rfl dk_Planner_narrow_1 ?_
  refine kv_bipush (pc := 2) (v := (10 : Int32)) dk_Planner_narrow_2 kkb_10 ?_
  refine kv_imul (pc := 4) dk_Planner_narrow_4 ?_
  refine kv_iload_n (pc := 5) 2 rfl rfl dk_Planner_narrow_5 ?_
  refine kv_iadd (pc := 6) dk_Planner_narrow_6 ?_
  refine kv_guard (fun g1 => ?_)
  refine kv_aldC (pc := 7) kr_79 kn_79 kl_79 g1 rfl dk_Planner_narrow_7 ?_
  refine kv_letI (fun v2 => ?_)
  refine kv_istore (pc := 8) (lv' := [(5, .int v2), (0, .ref 77), (1, .ref 79), (2, .int p2), (3, .int p3), (4, .int p4)]) rfl (Nat.le_of_ble_eq_true rfl) dk_Planner_narrow_8 ?_
  refine kv_iload (pc := 10) 0 rfl dk_Planner_narrow_10 ?_
  refine kv_ldc (pc := 12) (v := (2147483647 : Int32)) kw_999 dk_Planner_narrow_12 ?_
  refine kv_cut_0 (J := fj_Planner_narrow_77_79_27 p2 p3 p4 c) (pcj := 27) (LJ := [(0, .ref 77), (1, .ref 79), (2, .int p2), (3, .int p3), (4, .int p4)]) (SJ := []) (WJ := (c, y)) ?_ (fun hj27 => ?_)
  · show kv_X _ _ _ _ (fj_Planner_narrow_77_79_27 p2 p3 p4 c) 27 [(0, .ref 77), (1, .ref 79), (2, .int p2), (3, .int p3), (4, .int p4)] [] (c, y)
    unfold fj_Planner_narrow_77_79_27
    refine kv_aload_n (pc := 27) 1 rfl rfl dk_Planner_narrow_27 ?_
    refine kv_iload_n (pc := 28) 2 rfl rfl dk_Planner_narrow_28 ?_
    refine kv_bipush (pc := 29) (v := (10 : Int32)) dk_Planner_narrow_29 kkb_10 ?_
    refine kv_imul (pc := 31) dk_Planner_narrow_31 ?_
    refine kv_iload_n (pc := 32) 3 rfl rfl dk_Planner_narrow_32 ?_
    refine kv_iadd (pc := 33) dk_Planner_narrow_33 ?_
    refine kv_guard (fun g3 => ?_)
    refine kv_aldC (pc := 34) kr_79 kn_79 kl_79 g3 rfl dk_Planner_narrow_34 ?_
    refine kv_iload (pc := 35) 4 rfl dk_Planner_narrow_35 ?_
    refine kv_icmp_gt (pc := 37) (tgt := 42) dk_Planner_narrow_37 rfl ?_ ?_
    · refine kv_iconst (pc := 42) (v := (0 : Int32)) dk_Planner_narrow_42 kki_0 ?_
      refine kv_istore (pc := 43) (lv' := [(6, .int (0 : Int32)), (0, .ref 77), (1, .ref 79), (2, .int p2), (3, .int p3), (4, .int p4)]) rfl (Nat.le_of_ble_eq_true rfl) dk_Planner_narrow_43 ?_
      refine kv_sub (lv' := [(0, .ref 77), (1, .ref 79), (2, .int p2), (3, .int p3), (4, .int p4), (6, .int (0 : Int32))]) [1, 2, 3, 4, 5, 0] rfl ?_
      refine kv_lp_2_1 (LV := fun x4 c5 => [(0, .ref 77), (1, .ref 79), (2, .int p2), (3, .int p3), (4, .int p4), (6, .int x4)]) (WW := fun x4 c5 => (c5, y)) (LE1 := fun c6 => []) (WE1 := fun c6 => (c6, y)) (pe1 := 91) ?_ ?_
      · intro c6
        show kv_X _ _ _ _ _ 91 [] [] (c6, y)
        refine kv_iconst (pc := 91) (v := (1 : Int32)) dk_Planner_narrow_91 kki_1 ?_
        exact kv_zret (pc := 92) (b := true) (fun h => h) rfl dk_Planner_narrow_92
      · intro hx45_0 x4 c5
        show kv_X _ _ _ _ (fb_Planner_narrow_77_79_45 p2 p4 p3 x4 c5) 45 [(0, .ref 77), (1, .ref 79), (2, .int p2), (3, .int p3), (4, .int p4), (6, .int x4)] [] (c5, y)
        unfold fb_Planner_narrow_77_79_45
        refine kv_iload (pc := 45) 5 rfl dk_Planner_narrow_45 ?_
        refine kv_aload_n (pc := 47) 0 rfl rfl dk_Planner_narrow_47 ?_
        refine kv_getC (pc := 48) kf_Planner_51 kr_77 kn_77 rfl dk_Planner_narrow_48 ?_
        refine kv_icmp_ge (pc := 51) (tgt := 91) dk_Planner_narrow_51 rfl ?_ ?_
        · exact kv_sub [] rfl (kv_leaf (hx45_0 _))
        · refine kv_aload_n (pc := 54) 1 rfl rfl dk_Planner_narrow_54 ?_
          refine kv_iload (pc := 55) 5 rfl dk_Planner_narrow_55 ?_
          refine kv_bipush (pc := 57) (v := (10 : Int32)) dk_Planner_narrow_57 kkb_10 ?_
          refine kv_imul (pc := 59) dk_Planner_narrow_59 ?_
          refine kv_iload_n (pc := 60) 2 rfl rfl dk_Planner_narrow_60 ?_
          refine kv_iadd (pc := 61) dk_Planner_narrow_61 ?_
          refine kv_guard (fun g7 => ?_)
          refine kv_aldC (pc := 62) kr_79 kn_79 kl_79 g7 rfl dk_Planner_narrow_62 ?_
          refine kv_letI (fun v8 => ?_)
          refine kv_istore (pc := 63) (lv' := [(7, .int v8), (0, .ref 77), (1, .ref 79), (2, .int p2), (3, .int p3), (4, .int p4), (6, .int x4)]) rfl (Nat.le_of_ble_eq_true rfl) dk_Planner_narrow_63 ?_
          refine kv_iload (pc := 65) 0 rfl dk_Planner_narrow_65 ?_
          refine kv_ldc (pc := 67) (v := (2147483647 : Int32)) kw_999 dk_Planner_narrow_67 ?_
          refine kv_cut_1 (J := fj_Planner_narrow_77_79_85 x4) (pcj := 85) (LJ := fun c9 => [(0, .ref 77), (1, .ref 79), (2, .int p2), (3, .int p3), (4, .int p4), (6, .int x4)]) (SJ := fun c9 => []) (WJ := fun c9 => (c9, y)) ?_ (fun hj85 => ?_)
          · intro c9
            show kv_X _ _ _ _ (fj_Planner_narrow_77_79_85 x4 c9) 85 [(0, .ref 77), (1, .ref 79), (2, .int p2), (3, .int p3), (4, .int p4), (6, .int x4)] [] (c9, y)
            unfold fj_Planner_narrow_77_79_85
            refine kv_iinc (pc := 85) (kk := (1 : Int32)) (lv' := [(6, .int (x4 + (1 : Int32))), (0, .ref 77), (1, .ref 79), (2, .int p2), (3, .int p3), (4, .int p4)]) 5 rfl kki_1 rfl (Nat.le_of_ble_eq_true rfl) dk_Planner_narrow_85 ?_
            refine kv_goto (pc := 88) (tgt := 45) dk_Planner_narrow_88 rfl ?_
            exact kv_sub [1, 2, 3, 4, 5, 0] rfl (kv_leaf (fun h => h))
          refine kv_icmp_eq (pc := 69) (tgt := 85) dk_Planner_narrow_69 rfl ?_ ?_
          · exact kv_sub [1, 2, 3, 4, 5, 6] rfl (hj85 c5)
          · refine kv_aload_n (pc := 72) 1 rfl rfl dk_Planner_narrow_72 ?_
            refine kv_aload_n (pc := 73) 2 rfl rfl dk_Planner_narrow_73 ?_
            refine kv_iload (pc := 74) 6 rfl dk_Planner_narrow_74 ?_
            refine kv_iload (pc := 76) 0 rfl dk_Planner_narrow_76 ?_
            refine kv_iload (pc := 78) 5 rfl dk_Planner_narrow_78 ?_
            refine kv_iadd (pc := 80) dk_Planner_narrow_80 ?_
            refine kv_iload_n (pc := 81) 4 rfl rfl dk_Planner_narrow_81 ?_
            refine kv_cV_cc (pc := 82) (as := [.ref 79, .int x4, .int (v8 + p4), .int p3]) (st := []) ko_Planner_shortenFrom kc_5 rfl rfl kr_77 kw_1011 (Nat.le_of_ble_eq_true rfl) rfl dk_Planner_narrow_82 (cx_Planner_shortenFrom_77_79 d x4 (v8 + p4) p3 c5 y) (fun c10 => ?_)
            exact kv_sub [1, 2, 3, 4, 5, 6] rfl (hj85 c10)
    · refine kv_iconst (pc := 40) (v := (1 : Int32)) dk_Planner_narrow_40 kki_1 ?_
      exact kv_zret (pc := 41) (b := true) (fun h => h) rfl dk_Planner_narrow_41
  refine kv_icmp_eq (pc := 14) (tgt := 27) dk_Planner_narrow_14 rfl ?_ ?_
  · exact kv_sub [1, 2, 3, 4, 5] rfl (hj27)
  · refine kv_iload (pc := 17) 0 rfl dk_Planner_narrow_17 ?_
    refine kv_iload (pc := 19) 5 rfl dk_Planner_narrow_19 ?_
    refine kv_iadd (pc := 21) dk_Planner_narrow_21 ?_
    refine kv_if_ge (pc := 22) (tgt := 27) dk_Planner_narrow_22 rfl ?_ ?_
    · exact kv_sub [1, 2, 3, 4, 5] rfl (hj27)
    · refine kv_iconst (pc := 25) (v := (0 : Int32)) dk_Planner_narrow_25 kki_0 ?_
      exact kv_zret (pc := 26) (b := false) (fun h => h) rfl dk_Planner_narrow_26
theorem dk_Planner_tryOne_0 : decode prog_7_method_11_code 0 = .ok (.aload_n 0, 1) := by decide +kernel
theorem dk_Planner_tryOne_1 : decode prog_7_method_11_code 1 = .ok (.aload_n 0, 1) := by decide +kernel
theorem dk_Planner_tryOne_2 : decode prog_7_method_11_code 2 = .ok (.getfield 15, 3) := by decide +kernel
theorem dk_Planner_tryOne_5 : decode prog_7_method_11_code 5 = .ok (.aload_n 0, 1) := by decide +kernel
theorem dk_Planner_tryOne_6 : decode prog_7_method_11_code 6 = .ok (.getfield 21, 3) := by decide +kernel
theorem dk_Planner_tryOne_9 : decode prog_7_method_11_code 9 = .ok (.iload_n 1, 1) := by decide +kernel
theorem dk_Planner_tryOne_10 : decode prog_7_method_11_code 10 = .ok (.iaload, 1) := by decide +kernel
theorem dk_Planner_tryOne_11 : decode prog_7_method_11_code 11 = .ok (.aload_n 0, 1) := by decide +kernel
theorem dk_Planner_tryOne_12 : decode prog_7_method_11_code 12 = .ok (.getfield 18, 3) := by decide +kernel
theorem dk_Planner_tryOne_15 : decode prog_7_method_11_code 15 = .ok (.iload_n 1, 1) := by decide +kernel
theorem dk_Planner_tryOne_16 : decode prog_7_method_11_code 16 = .ok (.iaload, 1) := by decide +kernel
theorem dk_Planner_tryOne_17 : decode prog_7_method_11_code 17 = .ok (.aload_n 0, 1) := by decide +kernel
theorem dk_Planner_tryOne_18 : decode prog_7_method_11_code 18 = .ok (.getfield 24, 3) := by decide +kernel
theorem dk_Planner_tryOne_21 : decode prog_7_method_11_code 21 = .ok (.iload_n 1, 1) := by decide +kernel
theorem dk_Planner_tryOne_22 : decode prog_7_method_11_code 22 = .ok (.iaload, 1) := by decide +kernel
theorem dk_Planner_tryOne_23 : decode prog_7_method_11_code 23 = .ok (.aload_n 0, 1) := by decide +kernel
theorem dk_Planner_tryOne_24 : decode prog_7_method_11_code 24 = .ok (.getfield 54, 3) := by decide +kernel
theorem dk_Planner_tryOne_27 : decode prog_7_method_11_code 27 = .ok (.iadd, 1) := by decide +kernel
theorem dk_Planner_tryOne_28 : decode prog_7_method_11_code 28 = .ok (.invokevirtual 102, 3) := by decide +kernel
theorem dk_Planner_tryOne_31 : decode prog_7_method_11_code 31 = .ok (.ifCond .eq 41, 3) := by decide +kernel
theorem dk_Planner_tryOne_34 : decode prog_7_method_11_code 34 = .ok (.aload_n 0, 1) := by decide +kernel
theorem dk_Planner_tryOne_35 : decode prog_7_method_11_code 35 = .ok (.aload_n 0, 1) := by decide +kernel
theorem dk_Planner_tryOne_36 : decode prog_7_method_11_code 36 = .ok (.getfield 15, 3) := by decide +kernel
theorem dk_Planner_tryOne_39 : decode prog_7_method_11_code 39 = .ok (.aload_n 0, 1) := by decide +kernel
theorem dk_Planner_tryOne_40 : decode prog_7_method_11_code 40 = .ok (.getfield 18, 3) := by decide +kernel
theorem dk_Planner_tryOne_43 : decode prog_7_method_11_code 43 = .ok (.iload_n 1, 1) := by decide +kernel
theorem dk_Planner_tryOne_44 : decode prog_7_method_11_code 44 = .ok (.iaload, 1) := by decide +kernel
theorem dk_Planner_tryOne_45 : decode prog_7_method_11_code 45 = .ok (.aload_n 0, 1) := by decide +kernel
theorem dk_Planner_tryOne_46 : decode prog_7_method_11_code 46 = .ok (.getfield 21, 3) := by decide +kernel
theorem dk_Planner_tryOne_49 : decode prog_7_method_11_code 49 = .ok (.iload_n 1, 1) := by decide +kernel
theorem dk_Planner_tryOne_50 : decode prog_7_method_11_code 50 = .ok (.iaload, 1) := by decide +kernel
theorem dk_Planner_tryOne_51 : decode prog_7_method_11_code 51 = .ok (.aload_n 0, 1) := by decide +kernel
theorem dk_Planner_tryOne_52 : decode prog_7_method_11_code 52 = .ok (.getfield 54, 3) := by decide +kernel
theorem dk_Planner_tryOne_55 : decode prog_7_method_11_code 55 = .ok (.aload_n 0, 1) := by decide +kernel
theorem dk_Planner_tryOne_56 : decode prog_7_method_11_code 56 = .ok (.getfield 24, 3) := by decide +kernel
theorem dk_Planner_tryOne_59 : decode prog_7_method_11_code 59 = .ok (.iload_n 1, 1) := by decide +kernel
theorem dk_Planner_tryOne_60 : decode prog_7_method_11_code 60 = .ok (.iaload, 1) := by decide +kernel
theorem dk_Planner_tryOne_61 : decode prog_7_method_11_code 61 = .ok (.isub, 1) := by decide +kernel
theorem dk_Planner_tryOne_62 : decode prog_7_method_11_code 62 = .ok (.invokevirtual 102, 3) := by decide +kernel
theorem dk_Planner_tryOne_65 : decode prog_7_method_11_code 65 = .ok (.ifCond .eq 7, 3) := by decide +kernel
theorem dk_Planner_tryOne_68 : decode prog_7_method_11_code 68 = .ok (.iconst 1, 1) := by decide +kernel
theorem dk_Planner_tryOne_69 : decode prog_7_method_11_code 69 = .ok (.goto 4, 3) := by decide +kernel
theorem dk_Planner_tryOne_72 : decode prog_7_method_11_code 72 = .ok (.iconst 0, 1) := by decide +kernel
theorem dk_Planner_tryOne_73 : decode prog_7_method_11_code 73 = .ok (.ireturn, 1) := by decide +kernel
noncomputable def fx_Planner_tryOne (p1 : Int32) (c : (Nat → Nat → Int32)) : Option (Bool × (Nat → Nat → Int32)) :=
  kv_gd (kv_in p1 8) (
  kv_bind2 (fx_Planner_narrow_77_79 (c 81 p1.toNatClampNeg) (c 80 p1.toNatClampNeg) ((c 82 p1.toNatClampNeg) + (c 77 8)) c) (fun b2 c3 =>
  if b2 = true then
    kv_bind2 (fx_Planner_narrow_77_79 (c3 80 p1.toNatClampNeg) (c3 81 p1.toNatClampNeg) ((c3 77 8) - (c3 82 p1.toNatClampNeg)) c3) (fun b4 c5 =>
    if b4 = true then
      some (true, c5)
    else
      some (false, c5))
  else
    some (false, c3)))
set_option maxRecDepth 20000 in
theorem cx_Planner_tryOne (d : Nat) (p1 : Int32) (c : (Nat → Nat → Int32)) (y : (Nat → Nat → Int32) × (Nat → Int64) × (Nat → Int64)) : ∀ a, fx_Planner_tryOne p1 c = some a → kv_C kM_Planner_tryOne (d + 2) [.ref 77, .int p1] (c, y) (some (.int (kv_b a.1)), (a.2, y)) := by
  refine kv_entryX (E := fun a : (Bool × (Nat → Nat → Int32)) => (some (.int (kv_b a.1)), (a.2, y))) rfl (Nat.le_of_ble_eq_true rfl) (fun o => ?_)
  unfold fx_Planner_tryOne
  show kv_X _ _ _ _ _ 0 [(0, .ref 77), (1, .int p1)] [] (c, y)
  refine kv_aload_n (pc := 0) 0 rfl rfl dk_Planner_tryOne_0 ?_
  refine kv_aload_n (pc := 1) 0 rfl rfl dk_Planner_tryOne_1 ?_
  refine kv_getR (pc := 2) kf_Planner_15 kr_77 rfl kt_77_1 dk_Planner_tryOne_2 ?_
  refine kv_aload_n (pc := 5) 0 rfl rfl dk_Planner_tryOne_5 ?_
  refine kv_getR (pc := 6) kf_Planner_21 kr_77 rfl kt_77_3 dk_Planner_tryOne_6 ?_
  refine kv_iload_n (pc := 9) 1 rfl rfl dk_Planner_tryOne_9 ?_
  refine kv_guard (fun g1 => ?_)
  refine kv_aldC (pc := 10) kr_81 kn_81 kl_81 g1 rfl dk_Planner_tryOne_10 ?_
  refine kv_aload_n (pc := 11) 0 rfl rfl dk_Planner_tryOne_11 ?_
  refine kv_getR (pc := 12) kf_Planner_18 kr_77 rfl kt_77_2 dk_Planner_tryOne_12 ?_
  refine kv_iload_n (pc := 15) 1 rfl rfl dk_Planner_tryOne_15 ?_
  refine kv_aldC (pc := 16) kr_80 kn_80 kl_80 g1 rfl dk_Planner_tryOne_16 ?_
  refine kv_aload_n (pc := 17) 0 rfl rfl dk_Planner_tryOne_17 ?_
  refine kv_getR (pc := 18) kf_Planner_24 kr_77 rfl kt_77_4 dk_Planner_tryOne_18 ?_
  refine kv_iload_n (pc := 21) 1 rfl rfl dk_Planner_tryOne_21 ?_
  refine kv_aldC (pc := 22) kr_82 kn_82 kl_82 g1 rfl dk_Planner_tryOne_22 ?_
  refine kv_aload_n (pc := 23) 0 rfl rfl dk_Planner_tryOne_23 ?_
  refine kv_getC (pc := 24) kf_Planner_54 kr_77 kn_77 rfl dk_Planner_tryOne_24 ?_
  refine kv_iadd (pc := 27) dk_Planner_tryOne_27 ?_
  refine kv_cV_cZc (pc := 28) (as := [.ref 79, .int (c 81 p1.toNatClampNeg), .int (c 80 p1.toNatClampNeg), .int ((c 82 p1.toNatClampNeg) + (c 77 8))]) (st := []) ko_Planner_narrow kc_5 rfl rfl kr_77 kw_1007 (Nat.le_of_ble_eq_true rfl) rfl dk_Planner_tryOne_28 (cx_Planner_narrow_77_79 d (c 81 p1.toNatClampNeg) (c 80 p1.toNatClampNeg) ((c 82 p1.toNatClampNeg) + (c 77 8)) c y) (fun b2 c3 => ?_)
  refine kv_zif_eq (pc := 31) (tgt := 72) dk_Planner_tryOne_31 rfl ?_ ?_
  · refine kv_iconst (pc := 72) (v := (0 : Int32)) dk_Planner_tryOne_72 kki_0 ?_
    exact kv_zret (pc := 73) (b := false) (fun h => h) rfl dk_Planner_tryOne_73
  · refine kv_aload_n (pc := 34) 0 rfl rfl dk_Planner_tryOne_34 ?_
    refine kv_aload_n (pc := 35) 0 rfl rfl dk_Planner_tryOne_35 ?_
    refine kv_getR (pc := 36) kf_Planner_15 kr_77 rfl kt_77_1 dk_Planner_tryOne_36 ?_
    refine kv_aload_n (pc := 39) 0 rfl rfl dk_Planner_tryOne_39 ?_
    refine kv_getR (pc := 40) kf_Planner_18 kr_77 rfl kt_77_2 dk_Planner_tryOne_40 ?_
    refine kv_iload_n (pc := 43) 1 rfl rfl dk_Planner_tryOne_43 ?_
    refine kv_aldC (pc := 44) kr_80 kn_80 kl_80 g1 rfl dk_Planner_tryOne_44 ?_
    refine kv_aload_n (pc := 45) 0 rfl rfl dk_Planner_tryOne_45 ?_
    refine kv_getR (pc := 46) kf_Planner_21 kr_77 rfl kt_77_3 dk_Planner_tryOne_46 ?_
    refine kv_iload_n (pc := 49) 1 rfl rfl dk_Planner_tryOne_49 ?_
    refine kv_aldC (pc := 50) kr_81 kn_81 kl_81 g1 rfl dk_Planner_tryOne_50 ?_
    refine kv_aload_n (pc := 51) 0 rfl rfl dk_Planner_tryOne_51 ?_
    refine kv_getC (pc := 52) kf_Planner_54 kr_77 kn_77 rfl dk_Planner_tryOne_52 ?_
    refine kv_aload_n (pc := 55) 0 rfl rfl dk_Planner_tryOne_55 ?_
    refine kv_getR (pc := 56) kf_Planner_24 kr_77 rfl kt_77_4 dk_Planner_tryOne_56 ?_
    refine kv_iload_n (pc := 59) 1 rfl rfl dk_Planner_tryOne_59 ?_
    refine kv_aldC (pc := 60) kr_82 kn_82 kl_82 g1 rfl dk_Planner_tryOne_60 ?_
    refine kv_isub (pc := 61) dk_Planner_tryOne_61 ?_
    refine kv_cV_cZc (pc := 62) (as := [.ref 79, .int (c3 80 p1.toNatClampNeg), .int (c3 81 p1.toNatClampNeg), .int ((c3 77 8) - (c3 82 p1.toNatClampNeg))]) (st := []) ko_Planner_narrow kc_5 rfl rfl kr_77 kw_1007 (Nat.le_of_ble_eq_true rfl) rfl dk_Planner_tryOne_62 (cx_Planner_narrow_77_79 d (c3 80 p1.toNatClampNeg) (c3 81 p1.toNatClampNeg) ((c3 77 8) - (c3 82 p1.toNatClampNeg)) c3 y) (fun b4 c5 => ?_)
    refine kv_zif_eq (pc := 65) (tgt := 72) dk_Planner_tryOne_65 rfl ?_ ?_
    · refine kv_iconst (pc := 72) (v := (0 : Int32)) dk_Planner_tryOne_72 kki_0 ?_
      exact kv_zret (pc := 73) (b := false) (fun h => h) rfl dk_Planner_tryOne_73
    · refine kv_iconst (pc := 68) (v := (1 : Int32)) dk_Planner_tryOne_68 kki_1 ?_
      refine kv_goto (pc := 69) (tgt := 73) dk_Planner_tryOne_69 rfl ?_
      exact kv_zret (pc := 73) (b := true) (fun h => h) rfl dk_Planner_tryOne_73
