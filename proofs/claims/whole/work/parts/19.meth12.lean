theorem dk_D_put_0 : decode prog_13_method_89_code 0 = .ok (.aload_n 0, 1) := by decide +kernel
theorem dk_D_put_1 : decode prog_13_method_89_code 1 = .ok (.iload_n 1, 1) := by decide +kernel
theorem dk_D_put_2 : decode prog_13_method_89_code 2 = .ok (.iconst (-1), 1) := by decide +kernel
theorem dk_D_put_3 : decode prog_13_method_89_code 3 = .ok (.invokevirtual 127, 3) := by decide +kernel
theorem dk_D_put_6 : decode prog_13_method_89_code 6 = .ok (.istore 4, 2) := by decide +kernel
theorem dk_D_put_8 : decode prog_13_method_89_code 8 = .ok (.iload 4, 2) := by decide +kernel
theorem dk_D_put_10 : decode prog_13_method_89_code 10 = .ok (.ifCond .eq 6, 3) := by decide +kernel
theorem dk_D_put_13 : decode prog_13_method_89_code 13 = .ok (.iload 4, 2) := by decide +kernel
theorem dk_D_put_15 : decode prog_13_method_89_code 15 = .ok (.ireturn, 1) := by decide +kernel
theorem dk_D_put_16 : decode prog_13_method_89_code 16 = .ok (.iload_n 2, 1) := by decide +kernel
theorem dk_D_put_17 : decode prog_13_method_89_code 17 = .ok (.i2l, 1) := by decide +kernel
theorem dk_D_put_18 : decode prog_13_method_89_code 18 = .ok (.lconst 0, 1) := by decide +kernel
theorem dk_D_put_19 : decode prog_13_method_89_code 19 = .ok (.aload_n 0, 1) := by decide +kernel
theorem dk_D_put_20 : decode prog_13_method_89_code 20 = .ok (.getfield 22, 3) := by decide +kernel
theorem dk_D_put_23 : decode prog_13_method_89_code 23 = .ok (.iload_n 1, 1) := by decide +kernel
theorem dk_D_put_24 : decode prog_13_method_89_code 24 = .ok (.iaload, 1) := by decide +kernel
theorem dk_D_put_25 : decode prog_13_method_89_code 25 = .ok (.iconst 1, 1) := by decide +kernel
theorem dk_D_put_26 : decode prog_13_method_89_code 26 = .ok (.isub, 1) := by decide +kernel
theorem dk_D_put_27 : decode prog_13_method_89_code 27 = .ok (.i2l, 1) := by decide +kernel
theorem dk_D_put_28 : decode prog_13_method_89_code 28 = .ok (.invokestatic 60, 3) := by decide +kernel
theorem dk_D_put_31 : decode prog_13_method_89_code 31 = .ok (.ifCond .ne 6, 3) := by decide +kernel
theorem dk_D_put_34 : decode prog_13_method_89_code 34 = .ok (.bipush (-13), 2) := by decide +kernel
theorem dk_D_put_36 : decode prog_13_method_89_code 36 = .ok (.ireturn, 1) := by decide +kernel
theorem dk_D_put_37 : decode prog_13_method_89_code 37 = .ok (.aload_n 0, 1) := by decide +kernel
theorem dk_D_put_38 : decode prog_13_method_89_code 38 = .ok (.getfield 25, 3) := by decide +kernel
theorem dk_D_put_41 : decode prog_13_method_89_code 41 = .ok (.bipush 100, 2) := by decide +kernel
theorem dk_D_put_43 : decode prog_13_method_89_code 43 = .ok (.iload_n 1, 1) := by decide +kernel
theorem dk_D_put_44 : decode prog_13_method_89_code 44 = .ok (.imul, 1) := by decide +kernel
theorem dk_D_put_45 : decode prog_13_method_89_code 45 = .ok (.iload_n 2, 1) := by decide +kernel
theorem dk_D_put_46 : decode prog_13_method_89_code 46 = .ok (.iadd, 1) := by decide +kernel
theorem dk_D_put_47 : decode prog_13_method_89_code 47 = .ok (.aload_n 0, 1) := by decide +kernel
theorem dk_D_put_48 : decode prog_13_method_89_code 48 = .ok (.getfield 19, 3) := by decide +kernel
theorem dk_D_put_51 : decode prog_13_method_89_code 51 = .ok (.iload_n 1, 1) := by decide +kernel
theorem dk_D_put_52 : decode prog_13_method_89_code 52 = .ok (.iaload, 1) := by decide +kernel
theorem dk_D_put_53 : decode prog_13_method_89_code 53 = .ok (.ifCond .ne 8, 3) := by decide +kernel
theorem dk_D_put_56 : decode prog_13_method_89_code 56 = .ok (.iload_n 3, 1) := by decide +kernel
theorem dk_D_put_57 : decode prog_13_method_89_code 57 = .ok (.i2b, 1) := by decide +kernel
theorem dk_D_put_58 : decode prog_13_method_89_code 58 = .ok (.goto 19, 3) := by decide +kernel
theorem dk_D_put_61 : decode prog_13_method_89_code 61 = .ok (.aload_n 0, 1) := by decide +kernel
theorem dk_D_put_62 : decode prog_13_method_89_code 62 = .ok (.getfield 19, 3) := by decide +kernel
theorem dk_D_put_65 : decode prog_13_method_89_code 65 = .ok (.iload_n 1, 1) := by decide +kernel
theorem dk_D_put_66 : decode prog_13_method_89_code 66 = .ok (.iaload, 1) := by decide +kernel
theorem dk_D_put_67 : decode prog_13_method_89_code 67 = .ok (.iconst 1, 1) := by decide +kernel
theorem dk_D_put_68 : decode prog_13_method_89_code 68 = .ok (.if_icmp .ne 8, 3) := by decide +kernel
theorem dk_D_put_71 : decode prog_13_method_89_code 71 = .ok (.iload_n 3, 1) := by decide +kernel
theorem dk_D_put_72 : decode prog_13_method_89_code 72 = .ok (.i2s, 1) := by decide +kernel
theorem dk_D_put_73 : decode prog_13_method_89_code 73 = .ok (.goto 4, 3) := by decide +kernel
theorem dk_D_put_76 : decode prog_13_method_89_code 76 = .ok (.iload_n 3, 1) := by decide +kernel
theorem dk_D_put_77 : decode prog_13_method_89_code 77 = .ok (.iastore, 1) := by decide +kernel
theorem dk_D_put_78 : decode prog_13_method_89_code 78 = .ok (.iconst 0, 1) := by decide +kernel
theorem dk_D_put_79 : decode prog_13_method_89_code 79 = .ok (.ireturn, 1) := by decide +kernel
noncomputable def fj_D_put_77 (p1 : Int32) (p2 : Int32) (m : (Nat → Nat → Int32)) (x4 : Int32) : Option (Int32 × (Nat → Nat → Int32)) :=
  kv_gd (kv_in (((100 : Int32) * p1) + p2) 800) (
  kv_let (kv_st m 90 (((100 : Int32) * p1) + p2).toNatClampNeg x4) (fun m6 =>
  some ((0 : Int32), m6)))
noncomputable def fx_D_put (p1 : Int32) (p2 : Int32) (p3 : Int32) (m : (Nat → Nat → Int32)) : Option (Int32 × (Nat → Nat → Int32)) :=
  kv_bind1 (fx_D_wrongRow p1 (-1 : Int32) m) (fun v1 =>
  if v1 = 0 then
    kv_gd (kv_in p1 8) (
    kv_bind1 (fx_D_isIn p2.toInt64 (0 : Int64) ((m 89 p1.toNatClampNeg) - (1 : Int32)).toInt64) (fun b3 =>
    if b3 = true then
      if (m 88 p1.toNatClampNeg) = 0 then
        fj_D_put_77 p1 p2 m p3.toInt8.toInt32
      else
        if (m 88 p1.toNatClampNeg) = (1 : Int32) then
          fj_D_put_77 p1 p2 m p3.toInt16.toInt32
        else
          fj_D_put_77 p1 p2 m p3
    else
      some ((-13 : Int32), m)))
  else
    some (v1, m))
set_option maxRecDepth 20000 in
theorem cx_D_put (d : Nat) (p1 : Int32) (p2 : Int32) (p3 : Int32) (c : (Nat → Nat → Int32)) (m : (Nat → Nat → Int32)) (f : (Nat → Int64)) (u : (Nat → Int64)) : ∀ a, fx_D_put p1 p2 p3 m = some a → kv_C kM_D_put (d + 3) [.ref 84, .int p1, .int p2, .int p3] (c, m, f, u) (some (.int a.1), (c, a.2, f, u)) := by
  refine kv_entryX (E := fun a : (Int32 × (Nat → Nat → Int32)) => (some (.int a.1), (c, a.2, f, u))) rfl (Nat.le_of_ble_eq_true rfl) (fun o => ?_)
  unfold fx_D_put
  show kv_X _ _ _ _ _ 0 [(0, .ref 84), (1, .int p1), (2, .int p2), (3, .int p3)] [] (c, m, f, u)
  refine kv_aload_n (pc := 0) 0 rfl rfl dk_D_put_0 ?_
  refine kv_iload_n (pc := 1) 1 rfl rfl dk_D_put_1 ?_
  refine kv_iconst (pc := 2) (v := (-1 : Int32)) dk_D_put_2 kki_m1 ?_
  refine kv_cV_mI (pc := 3) (as := [.int p1, .int (-1 : Int32)]) (st := []) ko_D_wrongRow kc_11 rfl rfl kr_84 kw_1412 (Nat.le_of_ble_eq_true rfl) rfl dk_D_put_3 (cx_D_wrongRow d p1 (-1 : Int32) c m f u) (fun v1 => ?_)
  refine kv_istore (pc := 6) (lv' := [(4, .int v1), (0, .ref 84), (1, .int p1), (2, .int p2), (3, .int p3)]) rfl (Nat.le_of_ble_eq_true rfl) dk_D_put_6 ?_
  refine kv_iload (pc := 8) 0 rfl dk_D_put_8 ?_
  refine kv_if_eq (pc := 10) (tgt := 16) dk_D_put_10 rfl ?_ ?_
  · refine kv_iload_n (pc := 16) 3 rfl rfl dk_D_put_16 ?_
    refine kv_i2l (pc := 17) dk_D_put_17 ?_
    refine kv_lconst (pc := 18) (v := (0 : Int64)) dk_D_put_18 kkl_0 ?_
    refine kv_aload_n (pc := 19) 1 rfl rfl dk_D_put_19 ?_
    refine kv_getR (pc := 20) kf_D_22 kr_84 rfl kt_84_4 dk_D_put_20 ?_
    refine kv_iload_n (pc := 23) 2 rfl rfl dk_D_put_23 ?_
    refine kv_guard (fun g2 => ?_)
    refine kv_aldM (pc := 24) kr_89 kn_89 kl_89 g2 rfl dk_D_put_24 ?_
    refine kv_iconst (pc := 25) (v := (1 : Int32)) dk_D_put_25 kki_1 ?_
    refine kv_isub (pc := 26) dk_D_put_26 ?_
    refine kv_i2l (pc := 27) dk_D_put_27 ?_
    refine kv_cS_mZ (pc := 28) (as := [.long p2.toInt64, .long (0 : Int64), .long ((m 89 p1.toNatClampNeg) - (1 : Int32)).toInt64]) (st := []) ko_D_isIn rfl kw_1330 (Nat.le_of_ble_eq_true rfl) rfl dk_D_put_28 (cx_D_isIn (d + 2) p2.toInt64 (0 : Int64) ((m 89 p1.toNatClampNeg) - (1 : Int32)).toInt64 c m f u) (fun b3 => ?_)
    refine kv_zif_ne (pc := 31) (tgt := 37) dk_D_put_31 rfl ?_ ?_
    · refine kv_aload_n (pc := 37) 1 rfl rfl dk_D_put_37 ?_
      refine kv_getR (pc := 38) kf_D_25 kr_84 rfl kt_84_5 dk_D_put_38 ?_
      refine kv_bipush (pc := 41) (v := (100 : Int32)) dk_D_put_41 kkb_100 ?_
      refine kv_iload_n (pc := 43) 2 rfl rfl dk_D_put_43 ?_
      refine kv_imul (pc := 44) dk_D_put_44 ?_
      refine kv_iload_n (pc := 45) 3 rfl rfl dk_D_put_45 ?_
      refine kv_iadd (pc := 46) dk_D_put_46 ?_
      refine kv_aload_n (pc := 47) 1 rfl rfl dk_D_put_47 ?_
      refine kv_getR (pc := 48) kf_D_19 kr_84 rfl kt_84_3 dk_D_put_48 ?_
      refine kv_iload_n (pc := 51) 2 rfl rfl dk_D_put_51 ?_
      refine kv_aldM (pc := 52) kr_88 kn_88 kl_88 g2 rfl dk_D_put_52 ?_
      refine kv_cut_1 (J := fj_D_put_77 p1 p2 m) (pcj := 77) (LJ := fun x4 => []) (SJ := fun x4 => [.int x4, .int (((100 : Int32) * p1) + p2), .ref 90]) (WJ := fun x4 => (c, m, f, u)) ?_ (fun hj77 => ?_)
      · intro x4
        show kv_X _ _ _ _ (fj_D_put_77 p1 p2 m x4) 77 [] [.int x4, .int (((100 : Int32) * p1) + p2), .ref 90] (c, m, f, u)
        unfold fj_D_put_77
        refine kv_guard (fun g5 => ?_)
        refine kv_astM (pc := 77) kr_90 kn_90 kl_90 g5 rfl dk_D_put_77 (fun m6 => ?_)
        refine kv_iconst (pc := 78) (v := (0 : Int32)) dk_D_put_78 kki_0 ?_
        exact kv_iret (pc := 79) (fun h => h) rfl dk_D_put_79
      refine kv_if_ne (pc := 53) (tgt := 61) dk_D_put_53 rfl ?_ ?_
      · refine kv_aload_n (pc := 61) 1 rfl rfl dk_D_put_61 ?_
        refine kv_getR (pc := 62) kf_D_19 kr_84 rfl kt_84_3 dk_D_put_62 ?_
        refine kv_iload_n (pc := 65) 2 rfl rfl dk_D_put_65 ?_
        refine kv_aldM (pc := 66) kr_88 kn_88 kl_88 g2 rfl dk_D_put_66 ?_
        refine kv_iconst (pc := 67) (v := (1 : Int32)) dk_D_put_67 kki_1 ?_
        refine kv_icmp_ne (pc := 68) (tgt := 76) dk_D_put_68 rfl ?_ ?_
        · refine kv_iload_n (pc := 76) 4 rfl rfl dk_D_put_76 ?_
          exact kv_sub [] rfl (hj77 p3)
        · refine kv_iload_n (pc := 71) 4 rfl rfl dk_D_put_71 ?_
          refine kv_i2s (pc := 72) dk_D_put_72 ?_
          refine kv_goto (pc := 73) (tgt := 77) dk_D_put_73 rfl ?_
          exact kv_sub [] rfl (hj77 p3.toInt16.toInt32)
      · refine kv_iload_n (pc := 56) 4 rfl rfl dk_D_put_56 ?_
        refine kv_i2b (pc := 57) dk_D_put_57 ?_
        refine kv_goto (pc := 58) (tgt := 77) dk_D_put_58 rfl ?_
        exact kv_sub [] rfl (hj77 p3.toInt8.toInt32)
    · refine kv_bipush (pc := 34) (v := (-13 : Int32)) dk_D_put_34 kkb_m13 ?_
      exact kv_iret (pc := 36) (fun h => h) rfl dk_D_put_36
  · refine kv_iload (pc := 13) 0 rfl dk_D_put_13 ?_
    exact kv_iret (pc := 15) (fun h => h) rfl dk_D_put_15
theorem dk_D_element_0 : decode prog_13_method_90_code 0 = .ok (.aload_n 0, 1) := by decide +kernel
theorem dk_D_element_1 : decode prog_13_method_90_code 1 = .ok (.iload_n 1, 1) := by decide +kernel
theorem dk_D_element_2 : decode prog_13_method_90_code 2 = .ok (.invokestatic 123, 3) := by decide +kernel
theorem dk_D_element_5 : decode prog_13_method_90_code 5 = .ok (.ifCond .ne 7, 3) := by decide +kernel
theorem dk_D_element_8 : decode prog_13_method_90_code 8 = .ok (.iconst 1, 1) := by decide +kernel
theorem dk_D_element_9 : decode prog_13_method_90_code 9 = .ok (.goto 36, 3) := by decide +kernel
theorem dk_D_element_12 : decode prog_13_method_90_code 12 = .ok (.aload_n 0, 1) := by decide +kernel
theorem dk_D_element_13 : decode prog_13_method_90_code 13 = .ok (.getfield 16, 3) := by decide +kernel
theorem dk_D_element_16 : decode prog_13_method_90_code 16 = .ok (.iload_n 1, 1) := by decide +kernel
theorem dk_D_element_17 : decode prog_13_method_90_code 17 = .ok (.iaload, 1) := by decide +kernel
theorem dk_D_element_18 : decode prog_13_method_90_code 18 = .ok (.iconst 2, 1) := by decide +kernel
theorem dk_D_element_19 : decode prog_13_method_90_code 19 = .ok (.if_icmp .ne 21, 3) := by decide +kernel
theorem dk_D_element_22 : decode prog_13_method_90_code 22 = .ok (.iload_n 2, 1) := by decide +kernel
theorem dk_D_element_23 : decode prog_13_method_90_code 23 = .ok (.i2l, 1) := by decide +kernel
theorem dk_D_element_24 : decode prog_13_method_90_code 24 = .ok (.lconst 0, 1) := by decide +kernel
theorem dk_D_element_25 : decode prog_13_method_90_code 25 = .ok (.aload_n 0, 1) := by decide +kernel
theorem dk_D_element_26 : decode prog_13_method_90_code 26 = .ok (.getfield 22, 3) := by decide +kernel
theorem dk_D_element_29 : decode prog_13_method_90_code 29 = .ok (.iload_n 1, 1) := by decide +kernel
theorem dk_D_element_30 : decode prog_13_method_90_code 30 = .ok (.iaload, 1) := by decide +kernel
theorem dk_D_element_31 : decode prog_13_method_90_code 31 = .ok (.iconst 1, 1) := by decide +kernel
theorem dk_D_element_32 : decode prog_13_method_90_code 32 = .ok (.isub, 1) := by decide +kernel
theorem dk_D_element_33 : decode prog_13_method_90_code 33 = .ok (.i2l, 1) := by decide +kernel
theorem dk_D_element_34 : decode prog_13_method_90_code 34 = .ok (.invokestatic 60, 3) := by decide +kernel
theorem dk_D_element_37 : decode prog_13_method_90_code 37 = .ok (.ifCond .ne 7, 3) := by decide +kernel
theorem dk_D_element_40 : decode prog_13_method_90_code 40 = .ok (.iconst 2, 1) := by decide +kernel
theorem dk_D_element_41 : decode prog_13_method_90_code 41 = .ok (.goto 4, 3) := by decide +kernel
theorem dk_D_element_44 : decode prog_13_method_90_code 44 = .ok (.iconst 0, 1) := by decide +kernel
theorem dk_D_element_45 : decode prog_13_method_90_code 45 = .ok (.putfield 57, 3) := by decide +kernel
theorem dk_D_element_48 : decode prog_13_method_90_code 48 = .ok (.aload_n 0, 1) := by decide +kernel
theorem dk_D_element_49 : decode prog_13_method_90_code 49 = .ok (.getfield 57, 3) := by decide +kernel
theorem dk_D_element_52 : decode prog_13_method_90_code 52 = .ok (.ifCond .ne 18, 3) := by decide +kernel
theorem dk_D_element_55 : decode prog_13_method_90_code 55 = .ok (.aload_n 0, 1) := by decide +kernel
theorem dk_D_element_56 : decode prog_13_method_90_code 56 = .ok (.getfield 25, 3) := by decide +kernel
theorem dk_D_element_59 : decode prog_13_method_90_code 59 = .ok (.bipush 100, 2) := by decide +kernel
theorem dk_D_element_61 : decode prog_13_method_90_code 61 = .ok (.iload_n 1, 1) := by decide +kernel
theorem dk_D_element_62 : decode prog_13_method_90_code 62 = .ok (.imul, 1) := by decide +kernel
theorem dk_D_element_63 : decode prog_13_method_90_code 63 = .ok (.iload_n 2, 1) := by decide +kernel
theorem dk_D_element_64 : decode prog_13_method_90_code 64 = .ok (.iadd, 1) := by decide +kernel
theorem dk_D_element_65 : decode prog_13_method_90_code 65 = .ok (.iaload, 1) := by decide +kernel
theorem dk_D_element_66 : decode prog_13_method_90_code 66 = .ok (.i2l, 1) := by decide +kernel
theorem dk_D_element_67 : decode prog_13_method_90_code 67 = .ok (.goto 4, 3) := by decide +kernel
theorem dk_D_element_70 : decode prog_13_method_90_code 70 = .ok (.lconst 0, 1) := by decide +kernel
theorem dk_D_element_71 : decode prog_13_method_90_code 71 = .ok (.lreturn, 1) := by decide +kernel
noncomputable def fj_D_element_45 (m : (Nat → Nat → Int32)) (p1 : Int32) (p2 : Int32) (x2 : Int32) : Option (Int64 × (Nat → Nat → Int32)) :=
  kv_let (kv_st m 84 9 x2) (fun m3 =>
  if (m3 84 9) = 0 then
    kv_gd (kv_in (((100 : Int32) * p1) + p2) 800) (
    some ((m3 90 (((100 : Int32) * p1) + p2).toNatClampNeg).toInt64, m3))
  else
    some ((0 : Int64), m3))
noncomputable def fj_D_element_40 (m : (Nat → Nat → Int32)) (p1 : Int32) (p2 : Int32) : Option (Int64 × (Nat → Nat → Int32)) :=
  fj_D_element_45 m p1 p2 (2 : Int32)
noncomputable def fx_D_element (p1 : Int32) (p2 : Int32) (m : (Nat → Nat → Int32)) : Option (Int64 × (Nat → Nat → Int32)) :=
  kv_bind1 (fx_D_isShelf p1) (fun b1 =>
  if b1 = true then
    kv_gd (kv_in p1 8) (
    if (m 87 p1.toNatClampNeg) = (2 : Int32) then
      kv_bind1 (fx_D_isIn p2.toInt64 (0 : Int64) ((m 89 p1.toNatClampNeg) - (1 : Int32)).toInt64) (fun b6 =>
      if b6 = true then
        fj_D_element_45 m p1 p2 (0 : Int32)
      else
        fj_D_element_40 m p1 p2)
    else
      fj_D_element_40 m p1 p2)
  else
    fj_D_element_45 m p1 p2 (1 : Int32))
set_option maxRecDepth 20000 in
theorem cx_D_element (d : Nat) (p1 : Int32) (p2 : Int32) (c : (Nat → Nat → Int32)) (m : (Nat → Nat → Int32)) (f : (Nat → Int64)) (u : (Nat → Int64)) : ∀ a, fx_D_element p1 p2 m = some a → kv_C kM_D_element (d + 2) [.ref 84, .int p1, .int p2] (c, m, f, u) (some (.long a.1), (c, a.2, f, u)) := by
  refine kv_entryX (E := fun a : (Int64 × (Nat → Nat → Int32)) => (some (.long a.1), (c, a.2, f, u))) rfl (Nat.le_of_ble_eq_true rfl) (fun o => ?_)
  unfold fx_D_element
  show kv_X _ _ _ _ _ 0 [(0, .ref 84), (1, .int p1), (2, .int p2)] [] (c, m, f, u)
  refine kv_aload_n (pc := 0) 0 rfl rfl dk_D_element_0 ?_
  refine kv_iload_n (pc := 1) 1 rfl rfl dk_D_element_1 ?_
  refine kv_cS_mZ (pc := 2) (as := [.int p1]) (st := [.ref 84]) ko_D_isShelf rfl kw_1416 (Nat.le_of_ble_eq_true rfl) rfl dk_D_element_2 (cx_D_isShelf d p1 c m f u) (fun b1 => ?_)
  refine kv_cut_1 (J := fj_D_element_45 m p1 p2) (pcj := 45) (LJ := fun x2 => [(0, .ref 84), (1, .int p1), (2, .int p2)]) (SJ := fun x2 => [.int x2, .ref 84]) (WJ := fun x2 => (c, m, f, u)) ?_ (fun hj45 => ?_)
  · intro x2
    show kv_X _ _ _ _ (fj_D_element_45 m p1 p2 x2) 45 [(0, .ref 84), (1, .int p1), (2, .int p2)] [.int x2, .ref 84] (c, m, f, u)
    unfold fj_D_element_45
    refine kv_putM (pc := 45) kf_D_57 kr_84 kn_84 rfl rfl rfl dk_D_element_45 (fun m3 => ?_)
    refine kv_aload_n (pc := 48) 0 rfl rfl dk_D_element_48 ?_
    refine kv_getM (pc := 49) kf_D_57 kr_84 kn_84 rfl dk_D_element_49 ?_
    refine kv_if_ne (pc := 52) (tgt := 70) dk_D_element_52 rfl ?_ ?_
    · refine kv_lconst (pc := 70) (v := (0 : Int64)) dk_D_element_70 kkl_0 ?_
      exact kv_lret (pc := 71) (fun h => h) rfl dk_D_element_71
    · refine kv_aload_n (pc := 55) 0 rfl rfl dk_D_element_55 ?_
      refine kv_getR (pc := 56) kf_D_25 kr_84 rfl kt_84_5 dk_D_element_56 ?_
      refine kv_bipush (pc := 59) (v := (100 : Int32)) dk_D_element_59 kkb_100 ?_
      refine kv_iload_n (pc := 61) 1 rfl rfl dk_D_element_61 ?_
      refine kv_imul (pc := 62) dk_D_element_62 ?_
      refine kv_iload_n (pc := 63) 2 rfl rfl dk_D_element_63 ?_
      refine kv_iadd (pc := 64) dk_D_element_64 ?_
      refine kv_guard (fun g4 => ?_)
      refine kv_aldM (pc := 65) kr_90 kn_90 kl_90 g4 rfl dk_D_element_65 ?_
      refine kv_i2l (pc := 66) dk_D_element_66 ?_
      refine kv_goto (pc := 67) (tgt := 71) dk_D_element_67 rfl ?_
      exact kv_lret (pc := 71) (fun h => h) rfl dk_D_element_71
  refine kv_zif_ne (pc := 5) (tgt := 12) dk_D_element_5 rfl ?_ ?_
  · refine kv_aload_n (pc := 12) 0 rfl rfl dk_D_element_12 ?_
    refine kv_getR (pc := 13) kf_D_16 kr_84 rfl kt_84_2 dk_D_element_13 ?_
    refine kv_iload_n (pc := 16) 1 rfl rfl dk_D_element_16 ?_
    refine kv_guard (fun g5 => ?_)
    refine kv_aldM (pc := 17) kr_87 kn_87 kl_87 g5 rfl dk_D_element_17 ?_
    refine kv_iconst (pc := 18) (v := (2 : Int32)) dk_D_element_18 kki_2 ?_
    refine kv_cut_0 (J := fj_D_element_40 m p1 p2) (pcj := 40) (LJ := [(0, .ref 84), (1, .int p1), (2, .int p2)]) (SJ := [.ref 84]) (WJ := (c, m, f, u)) ?_ (fun hj40 => ?_)
    · show kv_X _ _ _ _ (fj_D_element_40 m p1 p2) 40 [(0, .ref 84), (1, .int p1), (2, .int p2)] [.ref 84] (c, m, f, u)
      unfold fj_D_element_40
      refine kv_iconst (pc := 40) (v := (2 : Int32)) dk_D_element_40 kki_2 ?_
      refine kv_goto (pc := 41) (tgt := 45) dk_D_element_41 rfl ?_
      exact hj45 (2 : Int32)
    refine kv_icmp_ne (pc := 19) (tgt := 40) dk_D_element_19 rfl ?_ ?_
    · exact hj40
    · refine kv_iload_n (pc := 22) 2 rfl rfl dk_D_element_22 ?_
      refine kv_i2l (pc := 23) dk_D_element_23 ?_
      refine kv_lconst (pc := 24) (v := (0 : Int64)) dk_D_element_24 kkl_0 ?_
      refine kv_aload_n (pc := 25) 0 rfl rfl dk_D_element_25 ?_
      refine kv_getR (pc := 26) kf_D_22 kr_84 rfl kt_84_4 dk_D_element_26 ?_
      refine kv_iload_n (pc := 29) 1 rfl rfl dk_D_element_29 ?_
      refine kv_aldM (pc := 30) kr_89 kn_89 kl_89 g5 rfl dk_D_element_30 ?_
      refine kv_iconst (pc := 31) (v := (1 : Int32)) dk_D_element_31 kki_1 ?_
      refine kv_isub (pc := 32) dk_D_element_32 ?_
      refine kv_i2l (pc := 33) dk_D_element_33 ?_
      refine kv_cS_mZ (pc := 34) (as := [.long p2.toInt64, .long (0 : Int64), .long ((m 89 p1.toNatClampNeg) - (1 : Int32)).toInt64]) (st := [.ref 84]) ko_D_isIn rfl kw_1330 (Nat.le_of_ble_eq_true rfl) rfl dk_D_element_34 (cx_D_isIn (d + 1) p2.toInt64 (0 : Int64) ((m 89 p1.toNatClampNeg) - (1 : Int32)).toInt64 c m f u) (fun b6 => ?_)
      refine kv_zif_ne (pc := 37) (tgt := 44) dk_D_element_37 rfl ?_ ?_
      · refine kv_iconst (pc := 44) (v := (0 : Int32)) dk_D_element_44 kki_0 ?_
        exact hj45 (0 : Int32)
      · exact hj40
  · refine kv_iconst (pc := 8) (v := (1 : Int32)) dk_D_element_8 kki_1 ?_
    refine kv_goto (pc := 9) (tgt := 45) dk_D_element_9 rfl ?_
    exact hj45 (1 : Int32)
theorem dk_D_thrown_0 : decode prog_13_method_2_code 0 = .ok (.aload_n 0, 1) := by decide +kernel
theorem dk_D_thrown_1 : decode prog_13_method_2_code 1 = .ok (.getfield 57, 3) := by decide +kernel
theorem dk_D_thrown_4 : decode prog_13_method_2_code 4 = .ok (.ireturn, 1) := by decide +kernel
noncomputable def fx_D_thrown (m : (Nat → Nat → Int32)) : Option Int32 :=
  some (m 84 9)
set_option maxRecDepth 20000 in
theorem cx_D_thrown (d : Nat) (c : (Nat → Nat → Int32)) (m : (Nat → Nat → Int32)) (f : (Nat → Int64)) (u : (Nat → Int64)) : ∀ a, fx_D_thrown m = some a → kv_C kM_D_thrown (d + 0) [.ref 84] (c, m, f, u) (some (.int a), (c, m, f, u)) := by
  refine kv_entryX (E := fun a : Int32 => (some (.int a), (c, m, f, u))) rfl (Nat.le_of_ble_eq_true rfl) (fun o => ?_)
  unfold fx_D_thrown
  show kv_X _ _ _ _ _ 0 [(0, .ref 84)] [] (c, m, f, u)
  refine kv_aload_n (pc := 0) 0 rfl rfl dk_D_thrown_0 ?_
  refine kv_getM (pc := 1) kf_D_57 kr_84 kn_84 rfl dk_D_thrown_1 ?_
  exact kv_iret (pc := 4) (fun h => h) rfl dk_D_thrown_4
theorem dk_Shelf_hasPart_0 : decode prog_9_method_10_code 0 = .ok (.iload_n 1, 1) := by decide +kernel
theorem dk_Shelf_hasPart_1 : decode prog_9_method_10_code 1 = .ok (.ifCond .lt 29, 3) := by decide +kernel
theorem dk_Shelf_hasPart_4 : decode prog_9_method_10_code 4 = .ok (.iload_n 2, 1) := by decide +kernel
theorem dk_Shelf_hasPart_5 : decode prog_9_method_10_code 5 = .ok (.ifCond .lt 25, 3) := by decide +kernel
theorem dk_Shelf_hasPart_8 : decode prog_9_method_10_code 8 = .ok (.iload_n 1, 1) := by decide +kernel
theorem dk_Shelf_hasPart_9 : decode prog_9_method_10_code 9 = .ok (.aload_n 0, 1) := by decide +kernel
theorem dk_Shelf_hasPart_10 : decode prog_9_method_10_code 10 = .ok (.getfield 42, 3) := by decide +kernel
theorem dk_Shelf_hasPart_13 : decode prog_9_method_10_code 13 = .ok (.if_icmp .gt 17, 3) := by decide +kernel
theorem dk_Shelf_hasPart_16 : decode prog_9_method_10_code 16 = .ok (.iload_n 2, 1) := by decide +kernel
theorem dk_Shelf_hasPart_17 : decode prog_9_method_10_code 17 = .ok (.aload_n 0, 1) := by decide +kernel
theorem dk_Shelf_hasPart_18 : decode prog_9_method_10_code 18 = .ok (.getfield 42, 3) := by decide +kernel
theorem dk_Shelf_hasPart_21 : decode prog_9_method_10_code 21 = .ok (.iload_n 1, 1) := by decide +kernel
theorem dk_Shelf_hasPart_22 : decode prog_9_method_10_code 22 = .ok (.isub, 1) := by decide +kernel
theorem dk_Shelf_hasPart_23 : decode prog_9_method_10_code 23 = .ok (.if_icmp .gt 7, 3) := by decide +kernel
theorem dk_Shelf_hasPart_26 : decode prog_9_method_10_code 26 = .ok (.iconst 1, 1) := by decide +kernel
theorem dk_Shelf_hasPart_27 : decode prog_9_method_10_code 27 = .ok (.goto 4, 3) := by decide +kernel
theorem dk_Shelf_hasPart_30 : decode prog_9_method_10_code 30 = .ok (.iconst 0, 1) := by decide +kernel
theorem dk_Shelf_hasPart_31 : decode prog_9_method_10_code 31 = .ok (.ireturn, 1) := by decide +kernel
noncomputable def fx_Shelf_hasPart (r0 : Nat) (p1 : Int32) (p2 : Int32) (c : (Nat → Nat → Int32)) : Option Bool :=
  if p1 < 0 then
    some false
  else
    if p2 < 0 then
      some false
    else
      if (c r0 3) < p1 then
        some false
      else
        if ((c r0 3) - p1) < p2 then
          some false
        else
          some true
set_option maxRecDepth 20000 in
theorem cx_Shelf_hasPart (d : Nat) (r0 : Nat) (p1 : Int32) (p2 : Int32) (c : (Nat → Nat → Int32)) (y : (Nat → Nat → Int32) × (Nat → Int64) × (Nat → Int64)) (h0 : kv_kd r0 = 7) : ∀ a, fx_Shelf_hasPart r0 p1 p2 c = some a → kv_C kM_Shelf_hasPart (d + 0) [.ref r0, .int p1, .int p2] (c, y) (some (.int (kv_b a)), (c, y)) := by
  refine kv_entryX (E := fun a : Bool => (some (.int (kv_b a)), (c, y))) rfl (Nat.le_of_ble_eq_true rfl) (fun o => ?_)
  unfold fx_Shelf_hasPart
  show kv_X _ _ _ _ _ 0 [(0, .ref r0), (1, .int p1), (2, .int p2)] [] (c, y)
  refine kv_iload_n (pc := 0) 1 rfl rfl dk_Shelf_hasPart_0 ?_
  refine kv_if_lt (pc := 1) (tgt := 30) dk_Shelf_hasPart_1 rfl ?_ ?_
  · refine kv_iconst (pc := 30) (v := (0 : Int32)) dk_Shelf_hasPart_30 kki_0 ?_
    exact kv_zret (pc := 31) (b := false) (fun h => h) rfl dk_Shelf_hasPart_31
  · refine kv_iload_n (pc := 4) 2 rfl rfl dk_Shelf_hasPart_4 ?_
    refine kv_if_lt (pc := 5) (tgt := 30) dk_Shelf_hasPart_5 rfl ?_ ?_
    · refine kv_iconst (pc := 30) (v := (0 : Int32)) dk_Shelf_hasPart_30 kki_0 ?_
      exact kv_zret (pc := 31) (b := false) (fun h => h) rfl dk_Shelf_hasPart_31
    · refine kv_iload_n (pc := 8) 1 rfl rfl dk_Shelf_hasPart_8 ?_
      refine kv_aload_n (pc := 9) 0 rfl rfl dk_Shelf_hasPart_9 ?_
      refine kv_getC (pc := 10) kf_Shelf_42 h0 (kv_7nc h0) rfl dk_Shelf_hasPart_10 ?_
      refine kv_icmp_gt (pc := 13) (tgt := 30) dk_Shelf_hasPart_13 rfl ?_ ?_
      · refine kv_iconst (pc := 30) (v := (0 : Int32)) dk_Shelf_hasPart_30 kki_0 ?_
        exact kv_zret (pc := 31) (b := false) (fun h => h) rfl dk_Shelf_hasPart_31
      · refine kv_iload_n (pc := 16) 2 rfl rfl dk_Shelf_hasPart_16 ?_
        refine kv_aload_n (pc := 17) 0 rfl rfl dk_Shelf_hasPart_17 ?_
        refine kv_getC (pc := 18) kf_Shelf_42 h0 (kv_7nc h0) rfl dk_Shelf_hasPart_18 ?_
        refine kv_iload_n (pc := 21) 1 rfl rfl dk_Shelf_hasPart_21 ?_
        refine kv_isub (pc := 22) dk_Shelf_hasPart_22 ?_
        refine kv_icmp_gt (pc := 23) (tgt := 30) dk_Shelf_hasPart_23 rfl ?_ ?_
        · refine kv_iconst (pc := 30) (v := (0 : Int32)) dk_Shelf_hasPart_30 kki_0 ?_
          exact kv_zret (pc := 31) (b := false) (fun h => h) rfl dk_Shelf_hasPart_31
        · refine kv_iconst (pc := 26) (v := (1 : Int32)) dk_Shelf_hasPart_26 kki_1 ?_
          refine kv_goto (pc := 27) (tgt := 31) dk_Shelf_hasPart_27 rfl ?_
          exact kv_zret (pc := 31) (b := true) (fun h => h) rfl dk_Shelf_hasPart_31
theorem dk_K_copy_0 : decode prog_1_method_37_code 0 = .ok (.iload_n 1, 1) := by decide +kernel
theorem dk_K_copy_1 : decode prog_1_method_37_code 1 = .ok (.invokestatic 368, 3) := by decide +kernel
theorem dk_K_copy_4 : decode prog_1_method_37_code 4 = .ok (.ifCond .eq 10, 3) := by decide +kernel
theorem dk_K_copy_7 : decode prog_1_method_37_code 7 = .ok (.iload_n 3, 1) := by decide +kernel
theorem dk_K_copy_8 : decode prog_1_method_37_code 8 = .ok (.invokestatic 368, 3) := by decide +kernel
theorem dk_K_copy_11 : decode prog_1_method_37_code 11 = .ok (.ifCond .ne 5, 3) := by decide +kernel
theorem dk_K_copy_14 : decode prog_1_method_37_code 14 = .ok (.iconst (-1), 1) := by decide +kernel
theorem dk_K_copy_15 : decode prog_1_method_37_code 15 = .ok (.ireturn, 1) := by decide +kernel
theorem dk_K_copy_16 : decode prog_1_method_37_code 16 = .ok (.aload_n 0, 1) := by decide +kernel
theorem dk_K_copy_17 : decode prog_1_method_37_code 17 = .ok (.getfield 21, 3) := by decide +kernel
theorem dk_K_copy_20 : decode prog_1_method_37_code 20 = .ok (.iload_n 1, 1) := by decide +kernel
theorem dk_K_copy_21 : decode prog_1_method_37_code 21 = .ok (.aaload, 1) := by decide +kernel
theorem dk_K_copy_22 : decode prog_1_method_37_code 22 = .ok (.astore 6, 2) := by decide +kernel
theorem dk_K_copy_24 : decode prog_1_method_37_code 24 = .ok (.aload_n 0, 1) := by decide +kernel
theorem dk_K_copy_25 : decode prog_1_method_37_code 25 = .ok (.getfield 21, 3) := by decide +kernel
theorem dk_K_copy_28 : decode prog_1_method_37_code 28 = .ok (.iload_n 3, 1) := by decide +kernel
theorem dk_K_copy_29 : decode prog_1_method_37_code 29 = .ok (.aaload, 1) := by decide +kernel
theorem dk_K_copy_30 : decode prog_1_method_37_code 30 = .ok (.astore 7, 2) := by decide +kernel
theorem dk_K_copy_32 : decode prog_1_method_37_code 32 = .ok (.aload 6, 2) := by decide +kernel
theorem dk_K_copy_34 : decode prog_1_method_37_code 34 = .ok (.invokevirtual 399, 3) := by decide +kernel
theorem dk_K_copy_37 : decode prog_1_method_37_code 37 = .ok (.ifCond .ne 11, 3) := by decide +kernel
theorem dk_K_copy_40 : decode prog_1_method_37_code 40 = .ok (.aload 7, 2) := by decide +kernel
theorem dk_K_copy_42 : decode prog_1_method_37_code 42 = .ok (.invokevirtual 399, 3) := by decide +kernel
theorem dk_K_copy_45 : decode prog_1_method_37_code 45 = .ok (.ifCond .eq 6, 3) := by decide +kernel
theorem dk_K_copy_48 : decode prog_1_method_37_code 48 = .ok (.bipush (-11), 2) := by decide +kernel
theorem dk_K_copy_50 : decode prog_1_method_37_code 50 = .ok (.ireturn, 1) := by decide +kernel
theorem dk_K_copy_51 : decode prog_1_method_37_code 51 = .ok (.aload 6, 2) := by decide +kernel
theorem dk_K_copy_53 : decode prog_1_method_37_code 53 = .ok (.invokevirtual 391, 3) := by decide +kernel
theorem dk_K_copy_56 : decode prog_1_method_37_code 56 = .ok (.ifCond .eq 24, 3) := by decide +kernel
theorem dk_K_copy_59 : decode prog_1_method_37_code 59 = .ok (.aload 7, 2) := by decide +kernel
theorem dk_K_copy_61 : decode prog_1_method_37_code 61 = .ok (.invokevirtual 391, 3) := by decide +kernel
theorem dk_K_copy_64 : decode prog_1_method_37_code 64 = .ok (.ifCond .eq 16, 3) := by decide +kernel
theorem dk_K_copy_67 : decode prog_1_method_37_code 67 = .ok (.aload 6, 2) := by decide +kernel
theorem dk_K_copy_69 : decode prog_1_method_37_code 69 = .ok (.getfield 402, 3) := by decide +kernel
theorem dk_K_copy_72 : decode prog_1_method_37_code 72 = .ok (.aload 7, 2) := by decide +kernel
theorem dk_K_copy_74 : decode prog_1_method_37_code 74 = .ok (.getfield 402, 3) := by decide +kernel
theorem dk_K_copy_77 : decode prog_1_method_37_code 77 = .ok (.if_icmp .eq 6, 3) := by decide +kernel
theorem dk_K_copy_80 : decode prog_1_method_37_code 80 = .ok (.bipush (-12), 2) := by decide +kernel
theorem dk_K_copy_82 : decode prog_1_method_37_code 82 = .ok (.ireturn, 1) := by decide +kernel
theorem dk_K_copy_83 : decode prog_1_method_37_code 83 = .ok (.aload 6, 2) := by decide +kernel
theorem dk_K_copy_85 : decode prog_1_method_37_code 85 = .ok (.iload_n 2, 1) := by decide +kernel
theorem dk_K_copy_86 : decode prog_1_method_37_code 86 = .ok (.iload 5, 2) := by decide +kernel
theorem dk_K_copy_88 : decode prog_1_method_37_code 88 = .ok (.invokevirtual 405, 3) := by decide +kernel
theorem dk_K_copy_91 : decode prog_1_method_37_code 91 = .ok (.ifCond .eq 15, 3) := by decide +kernel
theorem dk_K_copy_94 : decode prog_1_method_37_code 94 = .ok (.aload 7, 2) := by decide +kernel
theorem dk_K_copy_96 : decode prog_1_method_37_code 96 = .ok (.iload 4, 2) := by decide +kernel
theorem dk_K_copy_98 : decode prog_1_method_37_code 98 = .ok (.iload 5, 2) := by decide +kernel
theorem dk_K_copy_100 : decode prog_1_method_37_code 100 = .ok (.invokevirtual 405, 3) := by decide +kernel
theorem dk_K_copy_103 : decode prog_1_method_37_code 103 = .ok (.ifCond .ne 6, 3) := by decide +kernel
theorem dk_K_copy_106 : decode prog_1_method_37_code 106 = .ok (.bipush (-13), 2) := by decide +kernel
theorem dk_K_copy_108 : decode prog_1_method_37_code 108 = .ok (.ireturn, 1) := by decide +kernel
theorem dk_K_copy_109 : decode prog_1_method_37_code 109 = .ok (.aload 6, 2) := by decide +kernel
theorem dk_K_copy_111 : decode prog_1_method_37_code 111 = .ok (.getfield 184, 3) := by decide +kernel
theorem dk_K_copy_114 : decode prog_1_method_37_code 114 = .ok (.iload_n 2, 1) := by decide +kernel
theorem dk_K_copy_115 : decode prog_1_method_37_code 115 = .ok (.aload 7, 2) := by decide +kernel
theorem dk_K_copy_117 : decode prog_1_method_37_code 117 = .ok (.getfield 184, 3) := by decide +kernel
theorem dk_K_copy_120 : decode prog_1_method_37_code 120 = .ok (.iload 4, 2) := by decide +kernel
theorem dk_K_copy_122 : decode prog_1_method_37_code 122 = .ok (.iload 5, 2) := by decide +kernel
theorem dk_K_copy_124 : decode prog_1_method_37_code 124 = .ok (.invokestatic 408, 3) := by decide +kernel
theorem dk_K_copy_127 : decode prog_1_method_37_code 127 = .ok (.iload 5, 2) := by decide +kernel
theorem dk_K_copy_129 : decode prog_1_method_37_code 129 = .ok (.ireturn, 1) := by decide +kernel
noncomputable def fx_K_copy (p1 : Int32) (p2 : Int32) (p3 : Int32) (p4 : Int32) (p5 : Int32) (c : (Nat → Nat → Int32)) : Option (Int32 × (Nat → Nat → Int32)) :=
  kv_bind1 (fx_K_isShelf p1) (fun b1 =>
  if b1 = true then
    kv_bind1 (fx_K_isShelf p3) (fun b2 =>
    if b2 = true then
      kv_gd (kv_in p1 8) (
      kv_gd (kv_in p3 8) (
      kv_bind1 (fx_Shelf_isEmpty (kv_tg 51 p1.toNatClampNeg) c) (fun b5 =>
      if b5 = true then
        some ((-11 : Int32), c)
      else
        kv_bind1 (fx_Shelf_isEmpty (kv_tg 51 p3.toNatClampNeg) c) (fun b6 =>
        if b6 = true then
          some ((-11 : Int32), c)
        else
          kv_bind1 (fx_Shelf_isRow (kv_tg 51 p1.toNatClampNeg) c) (fun b7 =>
          if b7 = true then
            kv_bind1 (fx_Shelf_isRow (kv_tg 51 p3.toNatClampNeg) c) (fun b8 =>
            if b8 = true then
              if (c (kv_tg 51 p1.toNatClampNeg) 2) = (c (kv_tg 51 p3.toNatClampNeg) 2) then
                kv_bind1 (fx_Shelf_hasPart (kv_tg 51 p1.toNatClampNeg) p2 p5 c) (fun b9 =>
                if b9 = true then
                  kv_bind1 (fx_Shelf_hasPart (kv_tg 51 p3.toNatClampNeg) p4 p5 c) (fun b10 =>
                  if b10 = true then
                    kv_gd (kv_cp p2 p4 p5 100 100) (
                    kv_let (va_up c (kv_tg (kv_tg 51 p3.toNatClampNeg) 0) (va_cpy (c (kv_tg (kv_tg 51 p1.toNatClampNeg) 0)) (c (kv_tg (kv_tg 51 p3.toNatClampNeg) 0)) p2.toNatClampNeg p4.toNatClampNeg p5.toNatClampNeg)) (fun c12 =>
                    some (p5, c12)))
                  else
                    some ((-13 : Int32), c))
                else
                  some ((-13 : Int32), c))
              else
                some ((-12 : Int32), c)
            else
              some ((-12 : Int32), c))
          else
            some ((-12 : Int32), c))))))
    else
      some ((-1 : Int32), c))
  else
    some ((-1 : Int32), c))
set_option maxRecDepth 20000 in
theorem cx_K_copy (d : Nat) (p1 : Int32) (p2 : Int32) (p3 : Int32) (p4 : Int32) (p5 : Int32) (c : (Nat → Nat → Int32)) (y : (Nat → Nat → Int32) × (Nat → Int64) × (Nat → Int64)) : ∀ a, fx_K_copy p1 p2 p3 p4 p5 c = some a → kv_C kM_K_copy (d + 2) [.ref 0, .int p1, .int p2, .int p3, .int p4, .int p5] (c, y) (some (.int a.1), (a.2, y)) := by
  refine kv_entryX (E := fun a : (Int32 × (Nat → Nat → Int32)) => (some (.int a.1), (a.2, y))) rfl (Nat.le_of_ble_eq_true rfl) (fun o => ?_)
  unfold fx_K_copy
  show kv_X _ _ _ _ _ 0 [(0, .ref 0), (1, .int p1), (2, .int p2), (3, .int p3), (4, .int p4), (5, .int p5)] [] (c, y)
  refine kv_iload_n (pc := 0) 1 rfl rfl dk_K_copy_0 ?_
  refine kv_cS_cZ (pc := 1) (as := [.int p1]) (st := []) ko_K_isShelf rfl kw_624 (Nat.le_of_ble_eq_true rfl) rfl dk_K_copy_1 (cx_K_isShelf d p1 c y) (fun b1 => ?_)
  refine kv_zif_eq (pc := 4) (tgt := 14) dk_K_copy_4 rfl ?_ ?_
  · refine kv_iconst (pc := 14) (v := (-1 : Int32)) dk_K_copy_14 kki_m1 ?_
    exact kv_iret (pc := 15) (fun h => h) rfl dk_K_copy_15
  · refine kv_iload_n (pc := 7) 3 rfl rfl dk_K_copy_7 ?_
    refine kv_cS_cZ (pc := 8) (as := [.int p3]) (st := []) ko_K_isShelf rfl kw_624 (Nat.le_of_ble_eq_true rfl) rfl dk_K_copy_8 (cx_K_isShelf d p3 c y) (fun b2 => ?_)
    refine kv_zif_ne (pc := 11) (tgt := 16) dk_K_copy_11 rfl ?_ ?_
    · refine kv_aload_n (pc := 16) 0 rfl rfl dk_K_copy_16 ?_
      refine kv_getR (pc := 17) kf_K_21 kr_0 rfl kt_0_3 dk_K_copy_17 ?_
      refine kv_iload_n (pc := 20) 1 rfl rfl dk_K_copy_20 ?_
      refine kv_guard (fun g3 => ?_)
      refine kv_aald (pc := 21) kr_51 kl_51 g3 rfl dk_K_copy_21 ?_
      refine kv_astore (pc := 22) (lv' := [(6, .ref (kv_tg 51 p1.toNatClampNeg)), (0, .ref 0), (1, .int p1), (2, .int p2), (3, .int p3), (4, .int p4), (5, .int p5)]) rfl (Nat.le_of_ble_eq_true rfl) dk_K_copy_22 ?_
      refine kv_aload_n (pc := 24) 1 rfl rfl dk_K_copy_24 ?_
      refine kv_getR (pc := 25) kf_K_21 kr_0 rfl kt_0_3 dk_K_copy_25 ?_
      refine kv_iload_n (pc := 28) 4 rfl rfl dk_K_copy_28 ?_
      refine kv_guard (fun g4 => ?_)
      refine kv_aald (pc := 29) kr_51 kl_51 g4 rfl dk_K_copy_29 ?_
      refine kv_astore (pc := 30) (lv' := [(7, .ref (kv_tg 51 p3.toNatClampNeg)), (6, .ref (kv_tg 51 p1.toNatClampNeg)), (0, .ref 0), (1, .int p1), (2, .int p2), (3, .int p3), (4, .int p4), (5, .int p5)]) rfl (Nat.le_of_ble_eq_true rfl) dk_K_copy_30 ?_
      refine kv_aload (pc := 32) 1 rfl dk_K_copy_32 ?_
      refine kv_cV_cZ (pc := 34) (as := []) (st := []) ko_Shelf_isEmpty kc_7 rfl rfl (kv_sh g3) kw_627 (Nat.le_of_ble_eq_true rfl) rfl dk_K_copy_34 (cx_Shelf_isEmpty (d + 1) (kv_tg 51 p1.toNatClampNeg) c y (kv_sh g3)) (fun b5 => ?_)
      refine kv_zif_ne (pc := 37) (tgt := 48) dk_K_copy_37 rfl ?_ ?_
      · refine kv_bipush (pc := 48) (v := (-11 : Int32)) dk_K_copy_48 kkb_m11 ?_
        exact kv_iret (pc := 50) (fun h => h) rfl dk_K_copy_50
      · refine kv_aload (pc := 40) 0 rfl dk_K_copy_40 ?_
        refine kv_cV_cZ (pc := 42) (as := []) (st := []) ko_Shelf_isEmpty kc_7 rfl rfl (kv_sh g4) kw_627 (Nat.le_of_ble_eq_true rfl) rfl dk_K_copy_42 (cx_Shelf_isEmpty (d + 1) (kv_tg 51 p3.toNatClampNeg) c y (kv_sh g4)) (fun b6 => ?_)
        refine kv_zif_eq (pc := 45) (tgt := 51) dk_K_copy_45 rfl ?_ ?_
        · refine kv_aload (pc := 51) 1 rfl dk_K_copy_51 ?_
          refine kv_cV_cZ (pc := 53) (as := []) (st := []) ko_Shelf_isRow kc_7 rfl rfl (kv_sh g3) kw_631 (Nat.le_of_ble_eq_true rfl) rfl dk_K_copy_53 (cx_Shelf_isRow (d + 1) (kv_tg 51 p1.toNatClampNeg) c y (kv_sh g3)) (fun b7 => ?_)
          refine kv_zif_eq (pc := 56) (tgt := 80) dk_K_copy_56 rfl ?_ ?_
          · refine kv_bipush (pc := 80) (v := (-12 : Int32)) dk_K_copy_80 kkb_m12 ?_
            exact kv_iret (pc := 82) (fun h => h) rfl dk_K_copy_82
          · refine kv_aload (pc := 59) 0 rfl dk_K_copy_59 ?_
            refine kv_cV_cZ (pc := 61) (as := []) (st := []) ko_Shelf_isRow kc_7 rfl rfl (kv_sh g4) kw_631 (Nat.le_of_ble_eq_true rfl) rfl dk_K_copy_61 (cx_Shelf_isRow (d + 1) (kv_tg 51 p3.toNatClampNeg) c y (kv_sh g4)) (fun b8 => ?_)
            refine kv_zif_eq (pc := 64) (tgt := 80) dk_K_copy_64 rfl ?_ ?_
            · refine kv_bipush (pc := 80) (v := (-12 : Int32)) dk_K_copy_80 kkb_m12 ?_
              exact kv_iret (pc := 82) (fun h => h) rfl dk_K_copy_82
            · refine kv_aload (pc := 67) 1 rfl dk_K_copy_67 ?_
              refine kv_getC (pc := 69) kf_K_402 (kv_sh g3) (kv_7nc (kv_sh g3)) rfl dk_K_copy_69 ?_
              refine kv_aload (pc := 72) 0 rfl dk_K_copy_72 ?_
              refine kv_getC (pc := 74) kf_K_402 (kv_sh g4) (kv_7nc (kv_sh g4)) rfl dk_K_copy_74 ?_
              refine kv_icmp_eq (pc := 77) (tgt := 83) dk_K_copy_77 rfl ?_ ?_
              · refine kv_aload (pc := 83) 1 rfl dk_K_copy_83 ?_
                refine kv_iload_n (pc := 85) 4 rfl rfl dk_K_copy_85 ?_
                refine kv_iload (pc := 86) 7 rfl dk_K_copy_86 ?_
                refine kv_cV_cZ (pc := 88) (as := [.int p2, .int p5]) (st := []) ko_Shelf_hasPart kc_7 rfl rfl (kv_sh g3) kw_1120 (Nat.le_of_ble_eq_true rfl) rfl dk_K_copy_88 (cx_Shelf_hasPart (d + 1) (kv_tg 51 p1.toNatClampNeg) p2 p5 c y (kv_sh g3)) (fun b9 => ?_)
                refine kv_zif_eq (pc := 91) (tgt := 106) dk_K_copy_91 rfl ?_ ?_
                · refine kv_bipush (pc := 106) (v := (-13 : Int32)) dk_K_copy_106 kkb_m13 ?_
                  exact kv_iret (pc := 108) (fun h => h) rfl dk_K_copy_108
                · refine kv_aload (pc := 94) 0 rfl dk_K_copy_94 ?_
                  refine kv_iload (pc := 96) 6 rfl dk_K_copy_96 ?_
                  refine kv_iload (pc := 98) 7 rfl dk_K_copy_98 ?_
                  refine kv_cV_cZ (pc := 100) (as := [.int p4, .int p5]) (st := []) ko_Shelf_hasPart kc_7 rfl rfl (kv_sh g4) kw_1120 (Nat.le_of_ble_eq_true rfl) rfl dk_K_copy_100 (cx_Shelf_hasPart (d + 1) (kv_tg 51 p3.toNatClampNeg) p4 p5 c y (kv_sh g4)) (fun b10 => ?_)
                  refine kv_zif_ne (pc := 103) (tgt := 109) dk_K_copy_103 rfl ?_ ?_
                  · refine kv_aload (pc := 109) 1 rfl dk_K_copy_109 ?_
                    refine kv_getR (pc := 111) kf_K_184 (kv_sh g3) rfl rfl dk_K_copy_111 ?_
                    refine kv_iload_n (pc := 114) 4 rfl rfl dk_K_copy_114 ?_
                    refine kv_aload (pc := 115) 0 rfl dk_K_copy_115 ?_
                    refine kv_getR (pc := 117) kf_K_184 (kv_sh g4) rfl rfl dk_K_copy_117 ?_
                    refine kv_iload (pc := 120) 6 rfl dk_K_copy_120 ?_
                    refine kv_iload (pc := 122) 7 rfl dk_K_copy_122 ?_
                    refine kv_guard (fun g11 => ?_)
                    refine kv_copyC (pc := 124) (kv_7e (kv_sh g3)) (kv_7e (kv_sh g4)) (kv_7enc (kv_sh g3)) (kv_7enc (kv_sh g4)) (kv_7eln (kv_sh g3)) (kv_7eln (kv_sh g4)) g11 kw_1124 kw_752 kw_751 kw_82 (Nat.le_of_ble_eq_true rfl) dk_K_copy_124 (fun c12 => ?_)
                    refine kv_iload (pc := 127) 7 rfl dk_K_copy_127 ?_
                    exact kv_iret (pc := 129) (fun h => h) rfl dk_K_copy_129
                  · refine kv_bipush (pc := 106) (v := (-13 : Int32)) dk_K_copy_106 kkb_m13 ?_
                    exact kv_iret (pc := 108) (fun h => h) rfl dk_K_copy_108
              · refine kv_bipush (pc := 80) (v := (-12 : Int32)) dk_K_copy_80 kkb_m12 ?_
                exact kv_iret (pc := 82) (fun h => h) rfl dk_K_copy_82
        · refine kv_bipush (pc := 48) (v := (-11 : Int32)) dk_K_copy_48 kkb_m11 ?_
          exact kv_iret (pc := 50) (fun h => h) rfl dk_K_copy_50
    · refine kv_iconst (pc := 14) (v := (-1 : Int32)) dk_K_copy_14 kki_m1 ?_
      exact kv_iret (pc := 15) (fun h => h) rfl dk_K_copy_15
theorem dk_D_copy_0 : decode prog_13_method_91_code 0 = .ok (.iload_n 1, 1) := by decide +kernel
theorem dk_D_copy_1 : decode prog_13_method_91_code 1 = .ok (.invokestatic 123, 3) := by decide +kernel
theorem dk_D_copy_4 : decode prog_13_method_91_code 4 = .ok (.ifCond .eq 10, 3) := by decide +kernel
theorem dk_D_copy_7 : decode prog_13_method_91_code 7 = .ok (.iload_n 3, 1) := by decide +kernel
theorem dk_D_copy_8 : decode prog_13_method_91_code 8 = .ok (.invokestatic 123, 3) := by decide +kernel
theorem dk_D_copy_11 : decode prog_13_method_91_code 11 = .ok (.ifCond .ne 5, 3) := by decide +kernel
theorem dk_D_copy_14 : decode prog_13_method_91_code 14 = .ok (.iconst (-1), 1) := by decide +kernel
theorem dk_D_copy_15 : decode prog_13_method_91_code 15 = .ok (.ireturn, 1) := by decide +kernel
theorem dk_D_copy_16 : decode prog_13_method_91_code 16 = .ok (.aload_n 0, 1) := by decide +kernel
theorem dk_D_copy_17 : decode prog_13_method_91_code 17 = .ok (.getfield 16, 3) := by decide +kernel
theorem dk_D_copy_20 : decode prog_13_method_91_code 20 = .ok (.iload_n 1, 1) := by decide +kernel
theorem dk_D_copy_21 : decode prog_13_method_91_code 21 = .ok (.iaload, 1) := by decide +kernel
theorem dk_D_copy_22 : decode prog_13_method_91_code 22 = .ok (.ifCond .eq 12, 3) := by decide +kernel
theorem dk_D_copy_25 : decode prog_13_method_91_code 25 = .ok (.aload_n 0, 1) := by decide +kernel
theorem dk_D_copy_26 : decode prog_13_method_91_code 26 = .ok (.getfield 16, 3) := by decide +kernel
theorem dk_D_copy_29 : decode prog_13_method_91_code 29 = .ok (.iload_n 3, 1) := by decide +kernel
theorem dk_D_copy_30 : decode prog_13_method_91_code 30 = .ok (.iaload, 1) := by decide +kernel
theorem dk_D_copy_31 : decode prog_13_method_91_code 31 = .ok (.ifCond .ne 6, 3) := by decide +kernel
theorem dk_D_copy_34 : decode prog_13_method_91_code 34 = .ok (.bipush (-11), 2) := by decide +kernel
theorem dk_D_copy_36 : decode prog_13_method_91_code 36 = .ok (.ireturn, 1) := by decide +kernel
theorem dk_D_copy_37 : decode prog_13_method_91_code 37 = .ok (.aload_n 0, 1) := by decide +kernel
theorem dk_D_copy_38 : decode prog_13_method_91_code 38 = .ok (.getfield 16, 3) := by decide +kernel
theorem dk_D_copy_41 : decode prog_13_method_91_code 41 = .ok (.iload_n 1, 1) := by decide +kernel
theorem dk_D_copy_42 : decode prog_13_method_91_code 42 = .ok (.iaload, 1) := by decide +kernel
theorem dk_D_copy_43 : decode prog_13_method_91_code 43 = .ok (.iconst 2, 1) := by decide +kernel
theorem dk_D_copy_44 : decode prog_13_method_91_code 44 = .ok (.if_icmp .ne 28, 3) := by decide +kernel
theorem dk_D_copy_47 : decode prog_13_method_91_code 47 = .ok (.aload_n 0, 1) := by decide +kernel
theorem dk_D_copy_48 : decode prog_13_method_91_code 48 = .ok (.getfield 16, 3) := by decide +kernel
theorem dk_D_copy_51 : decode prog_13_method_91_code 51 = .ok (.iload_n 3, 1) := by decide +kernel
theorem dk_D_copy_52 : decode prog_13_method_91_code 52 = .ok (.iaload, 1) := by decide +kernel
theorem dk_D_copy_53 : decode prog_13_method_91_code 53 = .ok (.iconst 2, 1) := by decide +kernel
theorem dk_D_copy_54 : decode prog_13_method_91_code 54 = .ok (.if_icmp .ne 18, 3) := by decide +kernel
theorem dk_D_copy_57 : decode prog_13_method_91_code 57 = .ok (.aload_n 0, 1) := by decide +kernel
theorem dk_D_copy_58 : decode prog_13_method_91_code 58 = .ok (.getfield 19, 3) := by decide +kernel
theorem dk_D_copy_61 : decode prog_13_method_91_code 61 = .ok (.iload_n 1, 1) := by decide +kernel
theorem dk_D_copy_62 : decode prog_13_method_91_code 62 = .ok (.iaload, 1) := by decide +kernel
theorem dk_D_copy_63 : decode prog_13_method_91_code 63 = .ok (.aload_n 0, 1) := by decide +kernel
theorem dk_D_copy_64 : decode prog_13_method_91_code 64 = .ok (.getfield 19, 3) := by decide +kernel
theorem dk_D_copy_67 : decode prog_13_method_91_code 67 = .ok (.iload_n 3, 1) := by decide +kernel
theorem dk_D_copy_68 : decode prog_13_method_91_code 68 = .ok (.iaload, 1) := by decide +kernel
theorem dk_D_copy_69 : decode prog_13_method_91_code 69 = .ok (.if_icmp .eq 6, 3) := by decide +kernel
theorem dk_D_copy_72 : decode prog_13_method_91_code 72 = .ok (.bipush (-12), 2) := by decide +kernel
theorem dk_D_copy_74 : decode prog_13_method_91_code 74 = .ok (.ireturn, 1) := by decide +kernel
theorem dk_D_copy_75 : decode prog_13_method_91_code 75 = .ok (.iload 5, 2) := by decide +kernel
theorem dk_D_copy_77 : decode prog_13_method_91_code 77 = .ok (.ifCond .lt 39, 3) := by decide +kernel
theorem dk_D_copy_80 : decode prog_13_method_91_code 80 = .ok (.iload_n 2, 1) := by decide +kernel
theorem dk_D_copy_81 : decode prog_13_method_91_code 81 = .ok (.ifCond .lt 35, 3) := by decide +kernel
theorem dk_D_copy_84 : decode prog_13_method_91_code 84 = .ok (.iload 4, 2) := by decide +kernel
theorem dk_D_copy_86 : decode prog_13_method_91_code 86 = .ok (.ifCond .lt 30, 3) := by decide +kernel
theorem dk_D_copy_89 : decode prog_13_method_91_code 89 = .ok (.iload 5, 2) := by decide +kernel
theorem dk_D_copy_91 : decode prog_13_method_91_code 91 = .ok (.aload_n 0, 1) := by decide +kernel
theorem dk_D_copy_92 : decode prog_13_method_91_code 92 = .ok (.getfield 22, 3) := by decide +kernel
theorem dk_D_copy_95 : decode prog_13_method_91_code 95 = .ok (.iload_n 1, 1) := by decide +kernel
theorem dk_D_copy_96 : decode prog_13_method_91_code 96 = .ok (.iaload, 1) := by decide +kernel
theorem dk_D_copy_97 : decode prog_13_method_91_code 97 = .ok (.iload_n 2, 1) := by decide +kernel
theorem dk_D_copy_98 : decode prog_13_method_91_code 98 = .ok (.isub, 1) := by decide +kernel
theorem dk_D_copy_99 : decode prog_13_method_91_code 99 = .ok (.if_icmp .gt 17, 3) := by decide +kernel
theorem dk_D_copy_102 : decode prog_13_method_91_code 102 = .ok (.iload 5, 2) := by decide +kernel
theorem dk_D_copy_104 : decode prog_13_method_91_code 104 = .ok (.aload_n 0, 1) := by decide +kernel
theorem dk_D_copy_105 : decode prog_13_method_91_code 105 = .ok (.getfield 22, 3) := by decide +kernel
theorem dk_D_copy_108 : decode prog_13_method_91_code 108 = .ok (.iload_n 3, 1) := by decide +kernel
theorem dk_D_copy_109 : decode prog_13_method_91_code 109 = .ok (.iaload, 1) := by decide +kernel
theorem dk_D_copy_110 : decode prog_13_method_91_code 110 = .ok (.iload 4, 2) := by decide +kernel
theorem dk_D_copy_112 : decode prog_13_method_91_code 112 = .ok (.isub, 1) := by decide +kernel
theorem dk_D_copy_113 : decode prog_13_method_91_code 113 = .ok (.if_icmp .le 6, 3) := by decide +kernel
theorem dk_D_copy_116 : decode prog_13_method_91_code 116 = .ok (.bipush (-13), 2) := by decide +kernel
theorem dk_D_copy_118 : decode prog_13_method_91_code 118 = .ok (.ireturn, 1) := by decide +kernel
theorem dk_D_copy_119 : decode prog_13_method_91_code 119 = .ok (.iconst 0, 1) := by decide +kernel
theorem dk_D_copy_120 : decode prog_13_method_91_code 120 = .ok (.istore 6, 2) := by decide +kernel
theorem dk_D_copy_122 : decode prog_13_method_91_code 122 = .ok (.iload 6, 2) := by decide +kernel
theorem dk_D_copy_124 : decode prog_13_method_91_code 124 = .ok (.iload 5, 2) := by decide +kernel
theorem dk_D_copy_126 : decode prog_13_method_91_code 126 = .ok (.if_icmp .ge 58, 3) := by decide +kernel
theorem dk_D_copy_129 : decode prog_13_method_91_code 129 = .ok (.iload_n 2, 1) := by decide +kernel
theorem dk_D_copy_130 : decode prog_13_method_91_code 130 = .ok (.iload 4, 2) := by decide +kernel
theorem dk_D_copy_132 : decode prog_13_method_91_code 132 = .ok (.if_icmp .le 8, 3) := by decide +kernel
theorem dk_D_copy_135 : decode prog_13_method_91_code 135 = .ok (.iload 6, 2) := by decide +kernel
theorem dk_D_copy_137 : decode prog_13_method_91_code 137 = .ok (.goto 10, 3) := by decide +kernel
theorem dk_D_copy_140 : decode prog_13_method_91_code 140 = .ok (.iload 5, 2) := by decide +kernel
theorem dk_D_copy_142 : decode prog_13_method_91_code 142 = .ok (.iconst 1, 1) := by decide +kernel
theorem dk_D_copy_143 : decode prog_13_method_91_code 143 = .ok (.isub, 1) := by decide +kernel
theorem dk_D_copy_144 : decode prog_13_method_91_code 144 = .ok (.iload 6, 2) := by decide +kernel
theorem dk_D_copy_146 : decode prog_13_method_91_code 146 = .ok (.isub, 1) := by decide +kernel
theorem dk_D_copy_147 : decode prog_13_method_91_code 147 = .ok (.istore 7, 2) := by decide +kernel
theorem dk_D_copy_149 : decode prog_13_method_91_code 149 = .ok (.aload_n 0, 1) := by decide +kernel
theorem dk_D_copy_150 : decode prog_13_method_91_code 150 = .ok (.getfield 25, 3) := by decide +kernel
theorem dk_D_copy_153 : decode prog_13_method_91_code 153 = .ok (.bipush 100, 2) := by decide +kernel
theorem dk_D_copy_155 : decode prog_13_method_91_code 155 = .ok (.iload_n 3, 1) := by decide +kernel
theorem dk_D_copy_156 : decode prog_13_method_91_code 156 = .ok (.imul, 1) := by decide +kernel
theorem dk_D_copy_157 : decode prog_13_method_91_code 157 = .ok (.iload 4, 2) := by decide +kernel
theorem dk_D_copy_159 : decode prog_13_method_91_code 159 = .ok (.iadd, 1) := by decide +kernel
theorem dk_D_copy_160 : decode prog_13_method_91_code 160 = .ok (.iload 7, 2) := by decide +kernel
theorem dk_D_copy_162 : decode prog_13_method_91_code 162 = .ok (.iadd, 1) := by decide +kernel
theorem dk_D_copy_163 : decode prog_13_method_91_code 163 = .ok (.aload_n 0, 1) := by decide +kernel
theorem dk_D_copy_164 : decode prog_13_method_91_code 164 = .ok (.getfield 25, 3) := by decide +kernel
theorem dk_D_copy_167 : decode prog_13_method_91_code 167 = .ok (.bipush 100, 2) := by decide +kernel
theorem dk_D_copy_169 : decode prog_13_method_91_code 169 = .ok (.iload_n 1, 1) := by decide +kernel
theorem dk_D_copy_170 : decode prog_13_method_91_code 170 = .ok (.imul, 1) := by decide +kernel
theorem dk_D_copy_171 : decode prog_13_method_91_code 171 = .ok (.iload_n 2, 1) := by decide +kernel
theorem dk_D_copy_172 : decode prog_13_method_91_code 172 = .ok (.iadd, 1) := by decide +kernel
theorem dk_D_copy_173 : decode prog_13_method_91_code 173 = .ok (.iload 7, 2) := by decide +kernel
theorem dk_D_copy_175 : decode prog_13_method_91_code 175 = .ok (.iadd, 1) := by decide +kernel
theorem dk_D_copy_176 : decode prog_13_method_91_code 176 = .ok (.iaload, 1) := by decide +kernel
theorem dk_D_copy_177 : decode prog_13_method_91_code 177 = .ok (.iastore, 1) := by decide +kernel
theorem dk_D_copy_178 : decode prog_13_method_91_code 178 = .ok (.iinc 6 1, 3) := by decide +kernel
theorem dk_D_copy_181 : decode prog_13_method_91_code 181 = .ok (.goto (-59), 3) := by decide +kernel
theorem dk_D_copy_184 : decode prog_13_method_91_code 184 = .ok (.iload 5, 2) := by decide +kernel
theorem dk_D_copy_186 : decode prog_13_method_91_code 186 = .ok (.ireturn, 1) := by decide +kernel
noncomputable def fj_D_copy_147 (p1 : Int32) (p2 : Int32) (p3 : Int32) (p4 : Int32) (m6 : (Nat → Nat → Int32)) (x5 : Int32) (x8 : Int32) : Option ((Int32 × (Nat → Nat → Int32)) ⊕ (Nat → Nat → Int32)) :=
  kv_gd (kv_in ((((100 : Int32) * p1) + p2) + x8) 800) (
  kv_gd (kv_in ((((100 : Int32) * p3) + p4) + x8) 800) (
  kv_let (kv_st m6 90 ((((100 : Int32) * p3) + p4) + x8).toNatClampNeg (m6 90 ((((100 : Int32) * p1) + p2) + x8).toNatClampNeg)) (fun m11 =>
  some (.inl ((x5 + (1 : Int32)), m11)))))
noncomputable def fb_D_copy_122 (p5 : Int32) (p2 : Int32) (p4 : Int32) (p1 : Int32) (p3 : Int32) (x5 : Int32) (m6 : (Nat → Nat → Int32)) : Option ((Int32 × (Nat → Nat → Int32)) ⊕ (Nat → Nat → Int32)) :=
  if p5 ≤ x5 then
    some (.inr m6)
  else
    if p2 ≤ p4 then
      fj_D_copy_147 p1 p2 p3 p4 m6 x5 ((p5 - (1 : Int32)) - x5)
    else
      fj_D_copy_147 p1 p2 p3 p4 m6 x5 x5
noncomputable def fx_D_copy (p1 : Int32) (p2 : Int32) (p3 : Int32) (p4 : Int32) (p5 : Int32) (m : (Nat → Nat → Int32)) : Option (Int32 × (Nat → Nat → Int32)) :=
  kv_bind1 (fx_D_isShelf p1) (fun b1 =>
  if b1 = true then
    kv_bind1 (fx_D_isShelf p3) (fun b2 =>
    if b2 = true then
      kv_gd (kv_in p1 8) (
      if (m 87 p1.toNatClampNeg) = 0 then
        some ((-11 : Int32), m)
      else
        kv_gd (kv_in p3 8) (
        if (m 87 p3.toNatClampNeg) = 0 then
          some ((-11 : Int32), m)
        else
          if (m 87 p1.toNatClampNeg) = (2 : Int32) then
            if (m 87 p3.toNatClampNeg) = (2 : Int32) then
              if (m 88 p1.toNatClampNeg) = (m 88 p3.toNatClampNeg) then
                if p5 < 0 then
                  some ((-13 : Int32), m)
                else
                  if p2 < 0 then
                    some ((-13 : Int32), m)
                  else
                    if p4 < 0 then
                      some ((-13 : Int32), m)
                    else
                      if ((m 89 p1.toNatClampNeg) - p2) < p5 then
                        some ((-13 : Int32), m)
                      else
                        if p5 ≤ ((m 89 p3.toNatClampNeg) - p4) then
                          (kv_loop (kv_u2 (fb_D_copy_122 p5 p2 p4 p1 p3)) ((0 : Int32), m)).bind (kv_u1 (fun m7 =>
                          some (p5, m7)))
                        else
                          some ((-13 : Int32), m)
              else
                some ((-12 : Int32), m)
            else
              some ((-12 : Int32), m)
          else
            some ((-12 : Int32), m)))
    else
      some ((-1 : Int32), m))
  else
    some ((-1 : Int32), m))
set_option maxRecDepth 20000 in
theorem cx_D_copy (d : Nat) (p1 : Int32) (p2 : Int32) (p3 : Int32) (p4 : Int32) (p5 : Int32) (c : (Nat → Nat → Int32)) (m : (Nat → Nat → Int32)) (f : (Nat → Int64)) (u : (Nat → Int64)) : ∀ a, fx_D_copy p1 p2 p3 p4 p5 m = some a → kv_C kM_D_copy (d + 2) [.ref 84, .int p1, .int p2, .int p3, .int p4, .int p5] (c, m, f, u) (some (.int a.1), (c, a.2, f, u)) := by
  refine kv_entryX (E := fun a : (Int32 × (Nat → Nat → Int32)) => (some (.int a.1), (c, a.2, f, u))) rfl (Nat.le_of_ble_eq_true rfl) (fun o => ?_)
  unfold fx_D_copy
  show kv_X _ _ _ _ _ 0 [(0, .ref 84), (1, .int p1), (2, .int p2), (3, .int p3), (4, .int p4), (5, .int p5)] [] (c, m, f, u)
  refine kv_iload_n (pc := 0) 1 rfl rfl dk_D_copy_0 ?_
  refine kv_cS_mZ (pc := 1) (as := [.int p1]) (st := []) ko_D_isShelf rfl kw_1416 (Nat.le_of_ble_eq_true rfl) rfl dk_D_copy_1 (cx_D_isShelf d p1 c m f u) (fun b1 => ?_)
  refine kv_zif_eq (pc := 4) (tgt := 14) dk_D_copy_4 rfl ?_ ?_
  · refine kv_iconst (pc := 14) (v := (-1 : Int32)) dk_D_copy_14 kki_m1 ?_
    exact kv_iret (pc := 15) (fun h => h) rfl dk_D_copy_15
  · refine kv_iload_n (pc := 7) 3 rfl rfl dk_D_copy_7 ?_
    refine kv_cS_mZ (pc := 8) (as := [.int p3]) (st := []) ko_D_isShelf rfl kw_1416 (Nat.le_of_ble_eq_true rfl) rfl dk_D_copy_8 (cx_D_isShelf d p3 c m f u) (fun b2 => ?_)
    refine kv_zif_ne (pc := 11) (tgt := 16) dk_D_copy_11 rfl ?_ ?_
    · refine kv_aload_n (pc := 16) 0 rfl rfl dk_D_copy_16 ?_
      refine kv_getR (pc := 17) kf_D_16 kr_84 rfl kt_84_2 dk_D_copy_17 ?_
      refine kv_iload_n (pc := 20) 1 rfl rfl dk_D_copy_20 ?_
      refine kv_guard (fun g3 => ?_)
      refine kv_aldM (pc := 21) kr_87 kn_87 kl_87 g3 rfl dk_D_copy_21 ?_
      refine kv_if_eq (pc := 22) (tgt := 34) dk_D_copy_22 rfl ?_ ?_
      · refine kv_bipush (pc := 34) (v := (-11 : Int32)) dk_D_copy_34 kkb_m11 ?_
        exact kv_iret (pc := 36) (fun h => h) rfl dk_D_copy_36
      · refine kv_aload_n (pc := 25) 0 rfl rfl dk_D_copy_25 ?_
        refine kv_getR (pc := 26) kf_D_16 kr_84 rfl kt_84_2 dk_D_copy_26 ?_
        refine kv_iload_n (pc := 29) 3 rfl rfl dk_D_copy_29 ?_
        refine kv_guard (fun g4 => ?_)
        refine kv_aldM (pc := 30) kr_87 kn_87 kl_87 g4 rfl dk_D_copy_30 ?_
        refine kv_if_ne (pc := 31) (tgt := 37) dk_D_copy_31 rfl ?_ ?_
        · refine kv_aload_n (pc := 37) 0 rfl rfl dk_D_copy_37 ?_
          refine kv_getR (pc := 38) kf_D_16 kr_84 rfl kt_84_2 dk_D_copy_38 ?_
          refine kv_iload_n (pc := 41) 1 rfl rfl dk_D_copy_41 ?_
          refine kv_aldM (pc := 42) kr_87 kn_87 kl_87 g3 rfl dk_D_copy_42 ?_
          refine kv_iconst (pc := 43) (v := (2 : Int32)) dk_D_copy_43 kki_2 ?_
          refine kv_icmp_ne (pc := 44) (tgt := 72) dk_D_copy_44 rfl ?_ ?_
          · refine kv_bipush (pc := 72) (v := (-12 : Int32)) dk_D_copy_72 kkb_m12 ?_
            exact kv_iret (pc := 74) (fun h => h) rfl dk_D_copy_74
          · refine kv_aload_n (pc := 47) 0 rfl rfl dk_D_copy_47 ?_
            refine kv_getR (pc := 48) kf_D_16 kr_84 rfl kt_84_2 dk_D_copy_48 ?_
            refine kv_iload_n (pc := 51) 3 rfl rfl dk_D_copy_51 ?_
            refine kv_aldM (pc := 52) kr_87 kn_87 kl_87 g4 rfl dk_D_copy_52 ?_
            refine kv_iconst (pc := 53) (v := (2 : Int32)) dk_D_copy_53 kki_2 ?_
            refine kv_icmp_ne (pc := 54) (tgt := 72) dk_D_copy_54 rfl ?_ ?_
            · refine kv_bipush (pc := 72) (v := (-12 : Int32)) dk_D_copy_72 kkb_m12 ?_
              exact kv_iret (pc := 74) (fun h => h) rfl dk_D_copy_74
            · refine kv_aload_n (pc := 57) 0 rfl rfl dk_D_copy_57 ?_
              refine kv_getR (pc := 58) kf_D_19 kr_84 rfl kt_84_3 dk_D_copy_58 ?_
              refine kv_iload_n (pc := 61) 1 rfl rfl dk_D_copy_61 ?_
              refine kv_aldM (pc := 62) kr_88 kn_88 kl_88 g3 rfl dk_D_copy_62 ?_
              refine kv_aload_n (pc := 63) 0 rfl rfl dk_D_copy_63 ?_
              refine kv_getR (pc := 64) kf_D_19 kr_84 rfl kt_84_3 dk_D_copy_64 ?_
              refine kv_iload_n (pc := 67) 3 rfl rfl dk_D_copy_67 ?_
              refine kv_aldM (pc := 68) kr_88 kn_88 kl_88 g4 rfl dk_D_copy_68 ?_
              refine kv_icmp_eq (pc := 69) (tgt := 75) dk_D_copy_69 rfl ?_ ?_
              · refine kv_iload (pc := 75) 5 rfl dk_D_copy_75 ?_
                refine kv_if_lt (pc := 77) (tgt := 116) dk_D_copy_77 rfl ?_ ?_
                · refine kv_bipush (pc := 116) (v := (-13 : Int32)) dk_D_copy_116 kkb_m13 ?_
                  exact kv_iret (pc := 118) (fun h => h) rfl dk_D_copy_118
                · refine kv_iload_n (pc := 80) 2 rfl rfl dk_D_copy_80 ?_
                  refine kv_if_lt (pc := 81) (tgt := 116) dk_D_copy_81 rfl ?_ ?_
                  · refine kv_bipush (pc := 116) (v := (-13 : Int32)) dk_D_copy_116 kkb_m13 ?_
                    exact kv_iret (pc := 118) (fun h => h) rfl dk_D_copy_118
                  · refine kv_iload (pc := 84) 4 rfl dk_D_copy_84 ?_
                    refine kv_if_lt (pc := 86) (tgt := 116) dk_D_copy_86 rfl ?_ ?_
                    · refine kv_bipush (pc := 116) (v := (-13 : Int32)) dk_D_copy_116 kkb_m13 ?_
                      exact kv_iret (pc := 118) (fun h => h) rfl dk_D_copy_118
                    · refine kv_iload (pc := 89) 5 rfl dk_D_copy_89 ?_
                      refine kv_aload_n (pc := 91) 0 rfl rfl dk_D_copy_91 ?_
                      refine kv_getR (pc := 92) kf_D_22 kr_84 rfl kt_84_4 dk_D_copy_92 ?_
                      refine kv_iload_n (pc := 95) 1 rfl rfl dk_D_copy_95 ?_
                      refine kv_aldM (pc := 96) kr_89 kn_89 kl_89 g3 rfl dk_D_copy_96 ?_
                      refine kv_iload_n (pc := 97) 2 rfl rfl dk_D_copy_97 ?_
                      refine kv_isub (pc := 98) dk_D_copy_98 ?_
                      refine kv_icmp_gt (pc := 99) (tgt := 116) dk_D_copy_99 rfl ?_ ?_
                      · refine kv_bipush (pc := 116) (v := (-13 : Int32)) dk_D_copy_116 kkb_m13 ?_
                        exact kv_iret (pc := 118) (fun h => h) rfl dk_D_copy_118
                      · refine kv_iload (pc := 102) 5 rfl dk_D_copy_102 ?_
                        refine kv_aload_n (pc := 104) 0 rfl rfl dk_D_copy_104 ?_
                        refine kv_getR (pc := 105) kf_D_22 kr_84 rfl kt_84_4 dk_D_copy_105 ?_
                        refine kv_iload_n (pc := 108) 3 rfl rfl dk_D_copy_108 ?_
                        refine kv_aldM (pc := 109) kr_89 kn_89 kl_89 g4 rfl dk_D_copy_109 ?_
                        refine kv_iload (pc := 110) 4 rfl dk_D_copy_110 ?_
                        refine kv_isub (pc := 112) dk_D_copy_112 ?_
                        refine kv_icmp_le (pc := 113) (tgt := 119) dk_D_copy_113 rfl ?_ ?_
                        · refine kv_iconst (pc := 119) (v := (0 : Int32)) dk_D_copy_119 kki_0 ?_
                          refine kv_istore (pc := 120) (lv' := [(6, .int (0 : Int32)), (0, .ref 84), (1, .int p1), (2, .int p2), (3, .int p3), (4, .int p4), (5, .int p5)]) rfl (Nat.le_of_ble_eq_true rfl) dk_D_copy_120 ?_
                          refine kv_sub (lv' := [(0, .ref 84), (1, .int p1), (2, .int p2), (3, .int p3), (4, .int p4), (5, .int p5), (6, .int (0 : Int32))]) [1, 2, 3, 4, 5, 6, 0] rfl ?_
                          refine kv_lp_2_1 (LV := fun x5 m6 => [(0, .ref 84), (1, .int p1), (2, .int p2), (3, .int p3), (4, .int p4), (5, .int p5), (6, .int x5)]) (WW := fun x5 m6 => (c, m6, f, u)) (LE1 := fun m7 => [(5, .int p5)]) (WE1 := fun m7 => (c, m7, f, u)) (pe1 := 184) ?_ ?_
                          · intro m7
                            show kv_X _ _ _ _ _ 184 [(5, .int p5)] [] (c, m7, f, u)
                            refine kv_iload (pc := 184) 0 rfl dk_D_copy_184 ?_
                            exact kv_iret (pc := 186) (fun h => h) rfl dk_D_copy_186
                          · intro hx122_0 x5 m6
                            show kv_X _ _ _ _ (fb_D_copy_122 p5 p2 p4 p1 p3 x5 m6) 122 [(0, .ref 84), (1, .int p1), (2, .int p2), (3, .int p3), (4, .int p4), (5, .int p5), (6, .int x5)] [] (c, m6, f, u)
                            unfold fb_D_copy_122
                            refine kv_iload (pc := 122) 6 rfl dk_D_copy_122 ?_
                            refine kv_iload (pc := 124) 5 rfl dk_D_copy_124 ?_
                            refine kv_icmp_ge (pc := 126) (tgt := 184) dk_D_copy_126 rfl ?_ ?_
                            · exact kv_sub [5] rfl (kv_leaf (hx122_0 _))
                            · refine kv_iload_n (pc := 129) 2 rfl rfl dk_D_copy_129 ?_
                              refine kv_iload (pc := 130) 4 rfl dk_D_copy_130 ?_
                              refine kv_cut_1 (J := fj_D_copy_147 p1 p2 p3 p4 m6 x5) (pcj := 147) (LJ := fun x8 => [(0, .ref 84), (1, .int p1), (2, .int p2), (3, .int p3), (4, .int p4), (5, .int p5), (6, .int x5)]) (SJ := fun x8 => [.int x8]) (WJ := fun x8 => (c, m6, f, u)) ?_ (fun hj147 => ?_)
                              · intro x8
                                show kv_X _ _ _ _ (fj_D_copy_147 p1 p2 p3 p4 m6 x5 x8) 147 [(0, .ref 84), (1, .int p1), (2, .int p2), (3, .int p3), (4, .int p4), (5, .int p5), (6, .int x5)] [.int x8] (c, m6, f, u)
                                unfold fj_D_copy_147
                                refine kv_istore (pc := 147) (lv' := [(7, .int x8), (0, .ref 84), (1, .int p1), (2, .int p2), (3, .int p3), (4, .int p4), (5, .int p5), (6, .int x5)]) rfl (Nat.le_of_ble_eq_true rfl) dk_D_copy_147 ?_
                                refine kv_aload_n (pc := 149) 1 rfl rfl dk_D_copy_149 ?_
                                refine kv_getR (pc := 150) kf_D_25 kr_84 rfl kt_84_5 dk_D_copy_150 ?_
                                refine kv_bipush (pc := 153) (v := (100 : Int32)) dk_D_copy_153 kkb_100 ?_
                                refine kv_iload_n (pc := 155) 4 rfl rfl dk_D_copy_155 ?_
                                refine kv_imul (pc := 156) dk_D_copy_156 ?_
                                refine kv_iload (pc := 157) 5 rfl dk_D_copy_157 ?_
                                refine kv_iadd (pc := 159) dk_D_copy_159 ?_
                                refine kv_iload (pc := 160) 0 rfl dk_D_copy_160 ?_
                                refine kv_iadd (pc := 162) dk_D_copy_162 ?_
                                refine kv_aload_n (pc := 163) 1 rfl rfl dk_D_copy_163 ?_
                                refine kv_getR (pc := 164) kf_D_25 kr_84 rfl kt_84_5 dk_D_copy_164 ?_
                                refine kv_bipush (pc := 167) (v := (100 : Int32)) dk_D_copy_167 kkb_100 ?_
                                refine kv_iload_n (pc := 169) 2 rfl rfl dk_D_copy_169 ?_
                                refine kv_imul (pc := 170) dk_D_copy_170 ?_
                                refine kv_iload_n (pc := 171) 3 rfl rfl dk_D_copy_171 ?_
                                refine kv_iadd (pc := 172) dk_D_copy_172 ?_
                                refine kv_iload (pc := 173) 0 rfl dk_D_copy_173 ?_
                                refine kv_iadd (pc := 175) dk_D_copy_175 ?_
                                refine kv_guard (fun g9 => ?_)
                                refine kv_aldM (pc := 176) kr_90 kn_90 kl_90 g9 rfl dk_D_copy_176 ?_
                                refine kv_guard (fun g10 => ?_)
                                refine kv_astM (pc := 177) kr_90 kn_90 kl_90 g10 rfl dk_D_copy_177 (fun m11 => ?_)
                                refine kv_iinc (pc := 178) (kk := (1 : Int32)) (lv' := [(6, .int (x5 + (1 : Int32))), (7, .int x8), (0, .ref 84), (1, .int p1), (2, .int p2), (3, .int p3), (4, .int p4), (5, .int p5)]) 7 rfl kki_1 rfl (Nat.le_of_ble_eq_true rfl) dk_D_copy_178 ?_
                                refine kv_goto (pc := 181) (tgt := 122) dk_D_copy_181 rfl ?_
                                exact kv_sub [2, 3, 4, 5, 6, 7, 0] rfl (kv_leaf (fun h => h))
                              refine kv_icmp_le (pc := 132) (tgt := 140) dk_D_copy_132 rfl ?_ ?_
                              · refine kv_iload (pc := 140) 5 rfl dk_D_copy_140 ?_
                                refine kv_iconst (pc := 142) (v := (1 : Int32)) dk_D_copy_142 kki_1 ?_
                                refine kv_isub (pc := 143) dk_D_copy_143 ?_
                                refine kv_iload (pc := 144) 6 rfl dk_D_copy_144 ?_
                                refine kv_isub (pc := 146) dk_D_copy_146 ?_
                                exact hj147 ((p5 - (1 : Int32)) - x5)
                              · refine kv_iload (pc := 135) 6 rfl dk_D_copy_135 ?_
                                refine kv_goto (pc := 137) (tgt := 147) dk_D_copy_137 rfl ?_
                                exact hj147 x5
                        · refine kv_bipush (pc := 116) (v := (-13 : Int32)) dk_D_copy_116 kkb_m13 ?_
                          exact kv_iret (pc := 118) (fun h => h) rfl dk_D_copy_118
              · refine kv_bipush (pc := 72) (v := (-12 : Int32)) dk_D_copy_72 kkb_m12 ?_
                exact kv_iret (pc := 74) (fun h => h) rfl dk_D_copy_74
        · refine kv_bipush (pc := 34) (v := (-11 : Int32)) dk_D_copy_34 kkb_m11 ?_
          exact kv_iret (pc := 36) (fun h => h) rfl dk_D_copy_36
    · refine kv_iconst (pc := 14) (v := (-1 : Int32)) dk_D_copy_14 kki_m1 ?_
      exact kv_iret (pc := 15) (fun h => h) rfl dk_D_copy_15
theorem dk_K_lumpRefusal_0 : decode prog_1_method_49_code 0 = .ok (.iload_n 1, 1) := by decide +kernel
theorem dk_K_lumpRefusal_1 : decode prog_1_method_49_code 1 = .ok (.invokestatic 368, 3) := by decide +kernel
theorem dk_K_lumpRefusal_4 : decode prog_1_method_49_code 4 = .ok (.ifCond .ne 5, 3) := by decide +kernel
theorem dk_K_lumpRefusal_7 : decode prog_1_method_49_code 7 = .ok (.iconst (-1), 1) := by decide +kernel
theorem dk_K_lumpRefusal_8 : decode prog_1_method_49_code 8 = .ok (.ireturn, 1) := by decide +kernel
theorem dk_K_lumpRefusal_9 : decode prog_1_method_49_code 9 = .ok (.aload_n 0, 1) := by decide +kernel
theorem dk_K_lumpRefusal_10 : decode prog_1_method_49_code 10 = .ok (.getfield 21, 3) := by decide +kernel
theorem dk_K_lumpRefusal_13 : decode prog_1_method_49_code 13 = .ok (.iload_n 1, 1) := by decide +kernel
theorem dk_K_lumpRefusal_14 : decode prog_1_method_49_code 14 = .ok (.aaload, 1) := by decide +kernel
theorem dk_K_lumpRefusal_15 : decode prog_1_method_49_code 15 = .ok (.invokevirtual 399, 3) := by decide +kernel
theorem dk_K_lumpRefusal_18 : decode prog_1_method_49_code 18 = .ok (.ifCond .eq 6, 3) := by decide +kernel
theorem dk_K_lumpRefusal_21 : decode prog_1_method_49_code 21 = .ok (.bipush (-11), 2) := by decide +kernel
theorem dk_K_lumpRefusal_23 : decode prog_1_method_49_code 23 = .ok (.ireturn, 1) := by decide +kernel
theorem dk_K_lumpRefusal_24 : decode prog_1_method_49_code 24 = .ok (.aload_n 0, 1) := by decide +kernel
theorem dk_K_lumpRefusal_25 : decode prog_1_method_49_code 25 = .ok (.getfield 21, 3) := by decide +kernel
theorem dk_K_lumpRefusal_28 : decode prog_1_method_49_code 28 = .ok (.iload_n 1, 1) := by decide +kernel
theorem dk_K_lumpRefusal_29 : decode prog_1_method_49_code 29 = .ok (.aaload, 1) := by decide +kernel
theorem dk_K_lumpRefusal_30 : decode prog_1_method_49_code 30 = .ok (.invokevirtual 391, 3) := by decide +kernel
theorem dk_K_lumpRefusal_33 : decode prog_1_method_49_code 33 = .ok (.ifCond .eq 8, 3) := by decide +kernel
theorem dk_K_lumpRefusal_36 : decode prog_1_method_49_code 36 = .ok (.bipush (-12), 2) := by decide +kernel
theorem dk_K_lumpRefusal_38 : decode prog_1_method_49_code 38 = .ok (.goto 4, 3) := by decide +kernel
theorem dk_K_lumpRefusal_41 : decode prog_1_method_49_code 41 = .ok (.iconst 0, 1) := by decide +kernel
theorem dk_K_lumpRefusal_42 : decode prog_1_method_49_code 42 = .ok (.ireturn, 1) := by decide +kernel
noncomputable def fx_K_lumpRefusal (p1 : Int32) (c : (Nat → Nat → Int32)) : Option Int32 :=
  kv_bind1 (fx_K_isShelf p1) (fun b1 =>
  if b1 = true then
    kv_gd (kv_in p1 8) (
    kv_bind1 (fx_Shelf_isEmpty (kv_tg 51 p1.toNatClampNeg) c) (fun b3 =>
    if b3 = true then
      some (-11 : Int32)
    else
      kv_bind1 (fx_Shelf_isRow (kv_tg 51 p1.toNatClampNeg) c) (fun b4 =>
      if b4 = true then
        some (-12 : Int32)
      else
        some (0 : Int32))))
  else
    some (-1 : Int32))
set_option maxRecDepth 20000 in
theorem cx_K_lumpRefusal (d : Nat) (p1 : Int32) (c : (Nat → Nat → Int32)) (y : (Nat → Nat → Int32) × (Nat → Int64) × (Nat → Int64)) : ∀ a, fx_K_lumpRefusal p1 c = some a → kv_C kM_K_lumpRefusal (d + 2) [.ref 0, .int p1] (c, y) (some (.int a), (c, y)) := by
  refine kv_entryX (E := fun a : Int32 => (some (.int a), (c, y))) rfl (Nat.le_of_ble_eq_true rfl) (fun o => ?_)
  unfold fx_K_lumpRefusal
  show kv_X _ _ _ _ _ 0 [(0, .ref 0), (1, .int p1)] [] (c, y)
  refine kv_iload_n (pc := 0) 1 rfl rfl dk_K_lumpRefusal_0 ?_
  refine kv_cS_cZ (pc := 1) (as := [.int p1]) (st := []) ko_K_isShelf rfl kw_624 (Nat.le_of_ble_eq_true rfl) rfl dk_K_lumpRefusal_1 (cx_K_isShelf d p1 c y) (fun b1 => ?_)
  refine kv_zif_ne (pc := 4) (tgt := 9) dk_K_lumpRefusal_4 rfl ?_ ?_
  · refine kv_aload_n (pc := 9) 0 rfl rfl dk_K_lumpRefusal_9 ?_
    refine kv_getR (pc := 10) kf_K_21 kr_0 rfl kt_0_3 dk_K_lumpRefusal_10 ?_
    refine kv_iload_n (pc := 13) 1 rfl rfl dk_K_lumpRefusal_13 ?_
    refine kv_guard (fun g2 => ?_)
    refine kv_aald (pc := 14) kr_51 kl_51 g2 rfl dk_K_lumpRefusal_14 ?_
    refine kv_cV_cZ (pc := 15) (as := []) (st := []) ko_Shelf_isEmpty kc_7 rfl rfl (kv_sh g2) kw_627 (Nat.le_of_ble_eq_true rfl) rfl dk_K_lumpRefusal_15 (cx_Shelf_isEmpty (d + 1) (kv_tg 51 p1.toNatClampNeg) c y (kv_sh g2)) (fun b3 => ?_)
    refine kv_zif_eq (pc := 18) (tgt := 24) dk_K_lumpRefusal_18 rfl ?_ ?_
    · refine kv_aload_n (pc := 24) 0 rfl rfl dk_K_lumpRefusal_24 ?_
      refine kv_getR (pc := 25) kf_K_21 kr_0 rfl kt_0_3 dk_K_lumpRefusal_25 ?_
      refine kv_iload_n (pc := 28) 1 rfl rfl dk_K_lumpRefusal_28 ?_
      refine kv_aald (pc := 29) kr_51 kl_51 g2 rfl dk_K_lumpRefusal_29 ?_
      refine kv_cV_cZ (pc := 30) (as := []) (st := []) ko_Shelf_isRow kc_7 rfl rfl (kv_sh g2) kw_631 (Nat.le_of_ble_eq_true rfl) rfl dk_K_lumpRefusal_30 (cx_Shelf_isRow (d + 1) (kv_tg 51 p1.toNatClampNeg) c y (kv_sh g2)) (fun b4 => ?_)
      refine kv_zif_eq (pc := 33) (tgt := 41) dk_K_lumpRefusal_33 rfl ?_ ?_
      · refine kv_iconst (pc := 41) (v := (0 : Int32)) dk_K_lumpRefusal_41 kki_0 ?_
        exact kv_iret (pc := 42) (fun h => h) rfl dk_K_lumpRefusal_42
      · refine kv_bipush (pc := 36) (v := (-12 : Int32)) dk_K_lumpRefusal_36 kkb_m12 ?_
        refine kv_goto (pc := 38) (tgt := 42) dk_K_lumpRefusal_38 rfl ?_
        exact kv_iret (pc := 42) (fun h => h) rfl dk_K_lumpRefusal_42
    · refine kv_bipush (pc := 21) (v := (-11 : Int32)) dk_K_lumpRefusal_21 kkb_m11 ?_
      exact kv_iret (pc := 23) (fun h => h) rfl dk_K_lumpRefusal_23
  · refine kv_iconst (pc := 7) (v := (-1 : Int32)) dk_K_lumpRefusal_7 kki_m1 ?_
    exact kv_iret (pc := 8) (fun h => h) rfl dk_K_lumpRefusal_8
theorem dk_Shelf_careWanted_0 : decode prog_9_method_11_code 0 = .ok (.aload_n 0, 1) := by decide +kernel
theorem dk_Shelf_careWanted_1 : decode prog_9_method_11_code 1 = .ok (.getfield 32, 3) := by decide +kernel
theorem dk_Shelf_careWanted_4 : decode prog_9_method_11_code 4 = .ok (.iconst 1, 1) := by decide +kernel
theorem dk_Shelf_careWanted_5 : decode prog_9_method_11_code 5 = .ok (.iadd, 1) := by decide +kernel
theorem dk_Shelf_careWanted_6 : decode prog_9_method_11_code 6 = .ok (.istore_n 1, 1) := by decide +kernel
theorem dk_Shelf_careWanted_7 : decode prog_9_method_11_code 7 = .ok (.aload_n 0, 1) := by decide +kernel
theorem dk_Shelf_careWanted_8 : decode prog_9_method_11_code 8 = .ok (.getfield 27, 3) := by decide +kernel
theorem dk_Shelf_careWanted_11 : decode prog_9_method_11_code 11 = .ok (.tableswitch 76 1 7 #[41, 46, 50, 54, 63, 67, 72], 41) := by decide +kernel
theorem dk_Shelf_careWanted_52 : decode prog_9_method_11_code 52 = .ok (.bipush 10, 2) := by decide +kernel
theorem dk_Shelf_careWanted_54 : decode prog_9_method_11_code 54 = .ok (.iload_n 1, 1) := by decide +kernel
theorem dk_Shelf_careWanted_55 : decode prog_9_method_11_code 55 = .ok (.imul, 1) := by decide +kernel
theorem dk_Shelf_careWanted_56 : decode prog_9_method_11_code 56 = .ok (.ireturn, 1) := by decide +kernel
theorem dk_Shelf_careWanted_57 : decode prog_9_method_11_code 57 = .ok (.iload_n 1, 1) := by decide +kernel
theorem dk_Shelf_careWanted_58 : decode prog_9_method_11_code 58 = .ok (.iconst 5, 1) := by decide +kernel
theorem dk_Shelf_careWanted_59 : decode prog_9_method_11_code 59 = .ok (.iadd, 1) := by decide +kernel
theorem dk_Shelf_careWanted_60 : decode prog_9_method_11_code 60 = .ok (.ireturn, 1) := by decide +kernel
theorem dk_Shelf_careWanted_61 : decode prog_9_method_11_code 61 = .ok (.iconst 2, 1) := by decide +kernel
theorem dk_Shelf_careWanted_62 : decode prog_9_method_11_code 62 = .ok (.iload_n 1, 1) := by decide +kernel
theorem dk_Shelf_careWanted_63 : decode prog_9_method_11_code 63 = .ok (.imul, 1) := by decide +kernel
theorem dk_Shelf_careWanted_64 : decode prog_9_method_11_code 64 = .ok (.ireturn, 1) := by decide +kernel
theorem dk_Shelf_careWanted_65 : decode prog_9_method_11_code 65 = .ok (.iconst 2, 1) := by decide +kernel
theorem dk_Shelf_careWanted_66 : decode prog_9_method_11_code 66 = .ok (.iload_n 1, 1) := by decide +kernel
theorem dk_Shelf_careWanted_67 : decode prog_9_method_11_code 67 = .ok (.imul, 1) := by decide +kernel
theorem dk_Shelf_careWanted_68 : decode prog_9_method_11_code 68 = .ok (.aload_n 0, 1) := by decide +kernel
theorem dk_Shelf_careWanted_69 : decode prog_9_method_11_code 69 = .ok (.getfield 37, 3) := by decide +kernel
theorem dk_Shelf_careWanted_72 : decode prog_9_method_11_code 72 = .ok (.iadd, 1) := by decide +kernel
theorem dk_Shelf_careWanted_73 : decode prog_9_method_11_code 73 = .ok (.ireturn, 1) := by decide +kernel
theorem dk_Shelf_careWanted_74 : decode prog_9_method_11_code 74 = .ok (.iload_n 1, 1) := by decide +kernel
theorem dk_Shelf_careWanted_75 : decode prog_9_method_11_code 75 = .ok (.iconst 1, 1) := by decide +kernel
theorem dk_Shelf_careWanted_76 : decode prog_9_method_11_code 76 = .ok (.isub, 1) := by decide +kernel
theorem dk_Shelf_careWanted_77 : decode prog_9_method_11_code 77 = .ok (.ireturn, 1) := by decide +kernel
theorem dk_Shelf_careWanted_78 : decode prog_9_method_11_code 78 = .ok (.iload_n 1, 1) := by decide +kernel
theorem dk_Shelf_careWanted_79 : decode prog_9_method_11_code 79 = .ok (.bipush 50, 2) := by decide +kernel
theorem dk_Shelf_careWanted_81 : decode prog_9_method_11_code 81 = .ok (.iadd, 1) := by decide +kernel
theorem dk_Shelf_careWanted_82 : decode prog_9_method_11_code 82 = .ok (.ireturn, 1) := by decide +kernel
theorem dk_Shelf_careWanted_83 : decode prog_9_method_11_code 83 = .ok (.iload_n 1, 1) := by decide +kernel
theorem dk_Shelf_careWanted_84 : decode prog_9_method_11_code 84 = .ok (.iconst 3, 1) := by decide +kernel
theorem dk_Shelf_careWanted_85 : decode prog_9_method_11_code 85 = .ok (.iadd, 1) := by decide +kernel
theorem dk_Shelf_careWanted_86 : decode prog_9_method_11_code 86 = .ok (.ireturn, 1) := by decide +kernel
theorem dk_Shelf_careWanted_87 : decode prog_9_method_11_code 87 = .ok (.iload_n 1, 1) := by decide +kernel
theorem dk_Shelf_careWanted_88 : decode prog_9_method_11_code 88 = .ok (.ireturn, 1) := by decide +kernel
noncomputable def fx_Shelf_careWanted (r0 : Nat) (c : (Nat → Nat → Int32)) : Option Int32 :=
  kv_let ((c r0 6) + (1 : Int32)) (fun v1 =>
  if (c r0 5) = (1 : Int32) then
    some ((10 : Int32) * v1)
  else if (c r0 5) = (2 : Int32) then
    some (v1 + (5 : Int32))
  else if (c r0 5) = (3 : Int32) then
    some ((2 : Int32) * v1)
  else if (c r0 5) = (4 : Int32) then
    some (((2 : Int32) * v1) + (c r0 7))
  else if (c r0 5) = (5 : Int32) then
    some (v1 - (1 : Int32))
  else if (c r0 5) = (6 : Int32) then
    some (v1 + (50 : Int32))
  else if (c r0 5) = (7 : Int32) then
    some (v1 + (3 : Int32))
  else 
  some v1)
set_option maxRecDepth 20000 in
theorem cx_Shelf_careWanted (d : Nat) (r0 : Nat) (c : (Nat → Nat → Int32)) (y : (Nat → Nat → Int32) × (Nat → Int64) × (Nat → Int64)) (h0 : kv_kd r0 = 7) : ∀ a, fx_Shelf_careWanted r0 c = some a → kv_C kM_Shelf_careWanted (d + 0) [.ref r0] (c, y) (some (.int a), (c, y)) := by
  refine kv_entryX (E := fun a : Int32 => (some (.int a), (c, y))) rfl (Nat.le_of_ble_eq_true rfl) (fun o => ?_)
  unfold fx_Shelf_careWanted
  show kv_X _ _ _ _ _ 0 [(0, .ref r0)] [] (c, y)
  refine kv_aload_n (pc := 0) 0 rfl rfl dk_Shelf_careWanted_0 ?_
  refine kv_getC (pc := 1) kf_Shelf_32 h0 (kv_7nc h0) rfl dk_Shelf_careWanted_1 ?_
  refine kv_iconst (pc := 4) (v := (1 : Int32)) dk_Shelf_careWanted_4 kki_1 ?_
  refine kv_iadd (pc := 5) dk_Shelf_careWanted_5 ?_
  refine kv_letI (fun v1 => ?_)
  refine kv_istore_n (pc := 6) (lv' := [(1, .int v1), (0, .ref r0)]) rfl (Nat.le_of_ble_eq_true rfl) rfl dk_Shelf_careWanted_6 ?_
  refine kv_aload_n (pc := 7) 1 rfl rfl dk_Shelf_careWanted_7 ?_
  refine kv_getC (pc := 8) kf_Shelf_27 h0 (kv_7nc h0) rfl dk_Shelf_careWanted_8 ?_
  refine kv_swIn (pc := 11) (v := (1 : Int32)) (tgt := 52) dk_Shelf_careWanted_11 (by decide) (by decide) rfl (by decide) ?_ (fun n2 => ?_)
  · refine kv_bipush (pc := 52) (v := (10 : Int32)) dk_Shelf_careWanted_52 kkb_10 ?_
    refine kv_iload_n (pc := 54) 0 rfl rfl dk_Shelf_careWanted_54 ?_
    refine kv_imul (pc := 55) dk_Shelf_careWanted_55 ?_
    exact kv_iret (pc := 56) (fun h => h) rfl dk_Shelf_careWanted_56
  refine kv_swIn (pc := 11) (v := (2 : Int32)) (tgt := 57) dk_Shelf_careWanted_11 (by decide) (by decide) rfl (by decide) ?_ (fun n3 => ?_)
  · refine kv_iload_n (pc := 57) 0 rfl rfl dk_Shelf_careWanted_57 ?_
    refine kv_iconst (pc := 58) (v := (5 : Int32)) dk_Shelf_careWanted_58 kki_5 ?_
    refine kv_iadd (pc := 59) dk_Shelf_careWanted_59 ?_
    exact kv_iret (pc := 60) (fun h => h) rfl dk_Shelf_careWanted_60
  refine kv_swIn (pc := 11) (v := (3 : Int32)) (tgt := 61) dk_Shelf_careWanted_11 (by decide) (by decide) rfl (by decide) ?_ (fun n4 => ?_)
  · refine kv_iconst (pc := 61) (v := (2 : Int32)) dk_Shelf_careWanted_61 kki_2 ?_
    refine kv_iload_n (pc := 62) 0 rfl rfl dk_Shelf_careWanted_62 ?_
    refine kv_imul (pc := 63) dk_Shelf_careWanted_63 ?_
    exact kv_iret (pc := 64) (fun h => h) rfl dk_Shelf_careWanted_64
  refine kv_swIn (pc := 11) (v := (4 : Int32)) (tgt := 65) dk_Shelf_careWanted_11 (by decide) (by decide) rfl (by decide) ?_ (fun n5 => ?_)
  · refine kv_iconst (pc := 65) (v := (2 : Int32)) dk_Shelf_careWanted_65 kki_2 ?_
    refine kv_iload_n (pc := 66) 0 rfl rfl dk_Shelf_careWanted_66 ?_
    refine kv_imul (pc := 67) dk_Shelf_careWanted_67 ?_
    refine kv_aload_n (pc := 68) 1 rfl rfl dk_Shelf_careWanted_68 ?_
    refine kv_getC (pc := 69) kf_Shelf_37 h0 (kv_7nc h0) rfl dk_Shelf_careWanted_69 ?_
    refine kv_iadd (pc := 72) dk_Shelf_careWanted_72 ?_
    exact kv_iret (pc := 73) (fun h => h) rfl dk_Shelf_careWanted_73
  refine kv_swIn (pc := 11) (v := (5 : Int32)) (tgt := 74) dk_Shelf_careWanted_11 (by decide) (by decide) rfl (by decide) ?_ (fun n6 => ?_)
  · refine kv_iload_n (pc := 74) 0 rfl rfl dk_Shelf_careWanted_74 ?_
    refine kv_iconst (pc := 75) (v := (1 : Int32)) dk_Shelf_careWanted_75 kki_1 ?_
    refine kv_isub (pc := 76) dk_Shelf_careWanted_76 ?_
    exact kv_iret (pc := 77) (fun h => h) rfl dk_Shelf_careWanted_77
  refine kv_swIn (pc := 11) (v := (6 : Int32)) (tgt := 78) dk_Shelf_careWanted_11 (by decide) (by decide) rfl (by decide) ?_ (fun n7 => ?_)
  · refine kv_iload_n (pc := 78) 0 rfl rfl dk_Shelf_careWanted_78 ?_
    refine kv_bipush (pc := 79) (v := (50 : Int32)) dk_Shelf_careWanted_79 kkb_50 ?_
    refine kv_iadd (pc := 81) dk_Shelf_careWanted_81 ?_
    exact kv_iret (pc := 82) (fun h => h) rfl dk_Shelf_careWanted_82
  refine kv_swIn (pc := 11) (v := (7 : Int32)) (tgt := 83) dk_Shelf_careWanted_11 (by decide) (by decide) rfl (by decide) ?_ (fun n8 => ?_)
  · refine kv_iload_n (pc := 83) 0 rfl rfl dk_Shelf_careWanted_83 ?_
    refine kv_iconst (pc := 84) (v := (3 : Int32)) dk_Shelf_careWanted_84 kki_3 ?_
    refine kv_iadd (pc := 85) dk_Shelf_careWanted_85 ?_
    exact kv_iret (pc := 86) (fun h => h) rfl dk_Shelf_careWanted_86
  refine kv_swOut (pc := 11) (tgt := 87) dk_Shelf_careWanted_11 (by have qn2 := kv_ne (1 : Int32) (k := 1) rfl n2; have qn3 := kv_ne (2 : Int32) (k := 2) rfl n3; have qn4 := kv_ne (3 : Int32) (k := 3) rfl n4; have qn5 := kv_ne (4 : Int32) (k := 4) rfl n5; have qn6 := kv_ne (5 : Int32) (k := 5) rfl n6; have qn7 := kv_ne (6 : Int32) (k := 6) rfl n7; have qn8 := kv_ne (7 : Int32) (k := 7) rfl n8; omega) (by decide) ?_
  refine kv_iload_n (pc := 87) 0 rfl rfl dk_Shelf_careWanted_87 ?_
  exact kv_iret (pc := 88) (fun h => h) rfl dk_Shelf_careWanted_88
theorem dk_K_care_0 : decode prog_1_method_38_code 0 = .ok (.aload_n 0, 1) := by decide +kernel
theorem dk_K_care_1 : decode prog_1_method_38_code 1 = .ok (.iload_n 1, 1) := by decide +kernel
theorem dk_K_care_2 : decode prog_1_method_38_code 2 = .ok (.invokevirtual 414, 3) := by decide +kernel
theorem dk_K_care_5 : decode prog_1_method_38_code 5 = .ok (.istore_n 2, 1) := by decide +kernel
theorem dk_K_care_6 : decode prog_1_method_38_code 6 = .ok (.iload_n 2, 1) := by decide +kernel
theorem dk_K_care_7 : decode prog_1_method_38_code 7 = .ok (.ifCond .eq 11, 3) := by decide +kernel
theorem dk_K_care_10 : decode prog_1_method_38_code 10 = .ok (.ldc_w 292, 3) := by decide +kernel
theorem dk_K_care_13 : decode prog_1_method_38_code 13 = .ok (.iload_n 2, 1) := by decide +kernel
theorem dk_K_care_14 : decode prog_1_method_38_code 14 = .ok (.iadd, 1) := by decide +kernel
theorem dk_K_care_15 : decode prog_1_method_38_code 15 = .ok (.goto 12, 3) := by decide +kernel
theorem dk_K_care_18 : decode prog_1_method_38_code 18 = .ok (.aload_n 0, 1) := by decide +kernel
theorem dk_K_care_19 : decode prog_1_method_38_code 19 = .ok (.getfield 21, 3) := by decide +kernel
theorem dk_K_care_22 : decode prog_1_method_38_code 22 = .ok (.iload_n 1, 1) := by decide +kernel
theorem dk_K_care_23 : decode prog_1_method_38_code 23 = .ok (.aaload, 1) := by decide +kernel
theorem dk_K_care_24 : decode prog_1_method_38_code 24 = .ok (.invokevirtual 417, 3) := by decide +kernel
theorem dk_K_care_27 : decode prog_1_method_38_code 27 = .ok (.ireturn, 1) := by decide +kernel
noncomputable def fx_K_care (p1 : Int32) (c : (Nat → Nat → Int32)) : Option Int32 :=
  kv_bind1 (fx_K_lumpRefusal p1 c) (fun v1 =>
  if v1 = 0 then
    kv_gd (kv_in p1 8) (
    kv_bind1 (fx_Shelf_careWanted (kv_tg 51 p1.toNatClampNeg) c) (fun v3 =>
    some v3))
  else
    some ((-1000000000 : Int32) + v1))
set_option maxRecDepth 20000 in
theorem cx_K_care (d : Nat) (p1 : Int32) (c : (Nat → Nat → Int32)) (y : (Nat → Nat → Int32) × (Nat → Int64) × (Nat → Int64)) : ∀ a, fx_K_care p1 c = some a → kv_C kM_K_care (d + 3) [.ref 0, .int p1] (c, y) (some (.int a), (c, y)) := by
  refine kv_entryX (E := fun a : Int32 => (some (.int a), (c, y))) rfl (Nat.le_of_ble_eq_true rfl) (fun o => ?_)
  unfold fx_K_care
  show kv_X _ _ _ _ _ 0 [(0, .ref 0), (1, .int p1)] [] (c, y)
  refine kv_aload_n (pc := 0) 0 rfl rfl dk_K_care_0 ?_
  refine kv_iload_n (pc := 1) 1 rfl rfl dk_K_care_1 ?_
  refine kv_cV_cI (pc := 2) (as := [.int p1]) (st := []) ko_K_lumpRefusal kc_10 rfl rfl kr_0 kw_1129 (Nat.le_of_ble_eq_true rfl) rfl dk_K_care_2 (cx_K_lumpRefusal d p1 c y) (fun v1 => ?_)
  refine kv_istore_n (pc := 5) (lv' := [(2, .int v1), (0, .ref 0), (1, .int p1)]) rfl (Nat.le_of_ble_eq_true rfl) rfl dk_K_care_5 ?_
  refine kv_iload_n (pc := 6) 0 rfl rfl dk_K_care_6 ?_
  refine kv_if_eq (pc := 7) (tgt := 18) dk_K_care_7 rfl ?_ ?_
  · refine kv_aload_n (pc := 18) 1 rfl rfl dk_K_care_18 ?_
    refine kv_getR (pc := 19) kf_K_21 kr_0 rfl kt_0_3 dk_K_care_19 ?_
    refine kv_iload_n (pc := 22) 2 rfl rfl dk_K_care_22 ?_
    refine kv_guard (fun g2 => ?_)
    refine kv_aald (pc := 23) kr_51 kl_51 g2 rfl dk_K_care_23 ?_
    refine kv_cV_cI (pc := 24) (as := []) (st := []) ko_Shelf_careWanted kc_7 rfl rfl (kv_sh g2) kw_1133 (Nat.le_of_ble_eq_true rfl) rfl dk_K_care_24 (cx_Shelf_careWanted (d + 2) (kv_tg 51 p1.toNatClampNeg) c y (kv_sh g2)) (fun v3 => ?_)
    exact kv_iret (pc := 27) (fun h => h) rfl dk_K_care_27
  · refine kv_ldcw (pc := 10) (v := (-1000000000 : Int32)) kw_919 dk_K_care_10 ?_
    refine kv_iload_n (pc := 13) 0 rfl rfl dk_K_care_13 ?_
    refine kv_iadd (pc := 14) dk_K_care_14 ?_
    refine kv_goto (pc := 15) (tgt := 27) dk_K_care_15 rfl ?_
    exact kv_iret (pc := 27) (fun h => h) rfl dk_K_care_27
theorem dk_D_wrongKept_0 : decode prog_13_method_92_code 0 = .ok (.iload_n 1, 1) := by decide +kernel
theorem dk_D_wrongKept_1 : decode prog_13_method_92_code 1 = .ok (.invokestatic 123, 3) := by decide +kernel
theorem dk_D_wrongKept_4 : decode prog_13_method_92_code 4 = .ok (.ifCond .ne 7, 3) := by decide +kernel
theorem dk_D_wrongKept_7 : decode prog_13_method_92_code 7 = .ok (.iconst (-1), 1) := by decide +kernel
theorem dk_D_wrongKept_8 : decode prog_13_method_92_code 8 = .ok (.goto 33, 3) := by decide +kernel
theorem dk_D_wrongKept_11 : decode prog_13_method_92_code 11 = .ok (.aload_n 0, 1) := by decide +kernel
theorem dk_D_wrongKept_12 : decode prog_13_method_92_code 12 = .ok (.getfield 16, 3) := by decide +kernel
theorem dk_D_wrongKept_15 : decode prog_13_method_92_code 15 = .ok (.iload_n 1, 1) := by decide +kernel
theorem dk_D_wrongKept_16 : decode prog_13_method_92_code 16 = .ok (.iaload, 1) := by decide +kernel
theorem dk_D_wrongKept_17 : decode prog_13_method_92_code 17 = .ok (.ifCond .ne 8, 3) := by decide +kernel
theorem dk_D_wrongKept_20 : decode prog_13_method_92_code 20 = .ok (.bipush (-11), 2) := by decide +kernel
theorem dk_D_wrongKept_22 : decode prog_13_method_92_code 22 = .ok (.goto 19, 3) := by decide +kernel
theorem dk_D_wrongKept_25 : decode prog_13_method_92_code 25 = .ok (.aload_n 0, 1) := by decide +kernel
theorem dk_D_wrongKept_26 : decode prog_13_method_92_code 26 = .ok (.getfield 16, 3) := by decide +kernel
theorem dk_D_wrongKept_29 : decode prog_13_method_92_code 29 = .ok (.iload_n 1, 1) := by decide +kernel
theorem dk_D_wrongKept_30 : decode prog_13_method_92_code 30 = .ok (.iaload, 1) := by decide +kernel
theorem dk_D_wrongKept_31 : decode prog_13_method_92_code 31 = .ok (.iconst 1, 1) := by decide +kernel
theorem dk_D_wrongKept_32 : decode prog_13_method_92_code 32 = .ok (.if_icmp .ne 7, 3) := by decide +kernel
theorem dk_D_wrongKept_35 : decode prog_13_method_92_code 35 = .ok (.iconst 0, 1) := by decide +kernel
theorem dk_D_wrongKept_36 : decode prog_13_method_92_code 36 = .ok (.goto 5, 3) := by decide +kernel
theorem dk_D_wrongKept_39 : decode prog_13_method_92_code 39 = .ok (.bipush (-12), 2) := by decide +kernel
theorem dk_D_wrongKept_41 : decode prog_13_method_92_code 41 = .ok (.ireturn, 1) := by decide +kernel
noncomputable def fx_D_wrongKept (p1 : Int32) (m : (Nat → Nat → Int32)) : Option Int32 :=
  kv_bind1 (fx_D_isShelf p1) (fun b1 =>
  if b1 = true then
    kv_gd (kv_in p1 8) (
    if (m 87 p1.toNatClampNeg) = 0 then
      some (-11 : Int32)
    else
      if (m 87 p1.toNatClampNeg) = (1 : Int32) then
        some (0 : Int32)
      else
        some (-12 : Int32))
  else
    some (-1 : Int32))
set_option maxRecDepth 20000 in
theorem cx_D_wrongKept (d : Nat) (p1 : Int32) (c : (Nat → Nat → Int32)) (m : (Nat → Nat → Int32)) (f : (Nat → Int64)) (u : (Nat → Int64)) : ∀ a, fx_D_wrongKept p1 m = some a → kv_C kM_D_wrongKept (d + 2) [.ref 84, .int p1] (c, m, f, u) (some (.int a), (c, m, f, u)) := by
  refine kv_entryX (E := fun a : Int32 => (some (.int a), (c, m, f, u))) rfl (Nat.le_of_ble_eq_true rfl) (fun o => ?_)
  unfold fx_D_wrongKept
  show kv_X _ _ _ _ _ 0 [(0, .ref 84), (1, .int p1)] [] (c, m, f, u)
  refine kv_iload_n (pc := 0) 1 rfl rfl dk_D_wrongKept_0 ?_
  refine kv_cS_mZ (pc := 1) (as := [.int p1]) (st := []) ko_D_isShelf rfl kw_1416 (Nat.le_of_ble_eq_true rfl) rfl dk_D_wrongKept_1 (cx_D_isShelf d p1 c m f u) (fun b1 => ?_)
  refine kv_zif_ne (pc := 4) (tgt := 11) dk_D_wrongKept_4 rfl ?_ ?_
  · refine kv_aload_n (pc := 11) 0 rfl rfl dk_D_wrongKept_11 ?_
    refine kv_getR (pc := 12) kf_D_16 kr_84 rfl kt_84_2 dk_D_wrongKept_12 ?_
    refine kv_iload_n (pc := 15) 1 rfl rfl dk_D_wrongKept_15 ?_
    refine kv_guard (fun g2 => ?_)
    refine kv_aldM (pc := 16) kr_87 kn_87 kl_87 g2 rfl dk_D_wrongKept_16 ?_
    refine kv_if_ne (pc := 17) (tgt := 25) dk_D_wrongKept_17 rfl ?_ ?_
    · refine kv_aload_n (pc := 25) 0 rfl rfl dk_D_wrongKept_25 ?_
      refine kv_getR (pc := 26) kf_D_16 kr_84 rfl kt_84_2 dk_D_wrongKept_26 ?_
      refine kv_iload_n (pc := 29) 1 rfl rfl dk_D_wrongKept_29 ?_
      refine kv_aldM (pc := 30) kr_87 kn_87 kl_87 g2 rfl dk_D_wrongKept_30 ?_
      refine kv_iconst (pc := 31) (v := (1 : Int32)) dk_D_wrongKept_31 kki_1 ?_
      refine kv_icmp_ne (pc := 32) (tgt := 39) dk_D_wrongKept_32 rfl ?_ ?_
      · refine kv_bipush (pc := 39) (v := (-12 : Int32)) dk_D_wrongKept_39 kkb_m12 ?_
        exact kv_iret (pc := 41) (fun h => h) rfl dk_D_wrongKept_41
      · refine kv_iconst (pc := 35) (v := (0 : Int32)) dk_D_wrongKept_35 kki_0 ?_
        refine kv_goto (pc := 36) (tgt := 41) dk_D_wrongKept_36 rfl ?_
        exact kv_iret (pc := 41) (fun h => h) rfl dk_D_wrongKept_41
    · refine kv_bipush (pc := 20) (v := (-11 : Int32)) dk_D_wrongKept_20 kkb_m11 ?_
      refine kv_goto (pc := 22) (tgt := 41) dk_D_wrongKept_22 rfl ?_
      exact kv_iret (pc := 41) (fun h => h) rfl dk_D_wrongKept_41
  · refine kv_iconst (pc := 7) (v := (-1 : Int32)) dk_D_wrongKept_7 kki_m1 ?_
    refine kv_goto (pc := 8) (tgt := 41) dk_D_wrongKept_8 rfl ?_
    exact kv_iret (pc := 41) (fun h => h) rfl dk_D_wrongKept_41
theorem dk_D_care_0 : decode prog_13_method_93_code 0 = .ok (.aload_n 0, 1) := by decide +kernel
theorem dk_D_care_1 : decode prog_13_method_93_code 1 = .ok (.iload_n 1, 1) := by decide +kernel
theorem dk_D_care_2 : decode prog_13_method_93_code 2 = .ok (.invokevirtual 317, 3) := by decide +kernel
theorem dk_D_care_5 : decode prog_13_method_93_code 5 = .ok (.istore_n 2, 1) := by decide +kernel
theorem dk_D_care_6 : decode prog_13_method_93_code 6 = .ok (.iload_n 2, 1) := by decide +kernel
theorem dk_D_care_7 : decode prog_13_method_93_code 7 = .ok (.ifCond .eq 11, 3) := by decide +kernel
theorem dk_D_care_10 : decode prog_13_method_93_code 10 = .ok (.ldc_w 277, 3) := by decide +kernel
theorem dk_D_care_13 : decode prog_13_method_93_code 13 = .ok (.iload_n 2, 1) := by decide +kernel
theorem dk_D_care_14 : decode prog_13_method_93_code 14 = .ok (.iadd, 1) := by decide +kernel
theorem dk_D_care_15 : decode prog_13_method_93_code 15 = .ok (.goto 9, 3) := by decide +kernel
theorem dk_D_care_18 : decode prog_13_method_93_code 18 = .ok (.aload_n 0, 1) := by decide +kernel
theorem dk_D_care_19 : decode prog_13_method_93_code 19 = .ok (.getfield 28, 3) := by decide +kernel
theorem dk_D_care_22 : decode prog_13_method_93_code 22 = .ok (.iload_n 1, 1) := by decide +kernel
theorem dk_D_care_23 : decode prog_13_method_93_code 23 = .ok (.iaload, 1) := by decide +kernel
theorem dk_D_care_24 : decode prog_13_method_93_code 24 = .ok (.ireturn, 1) := by decide +kernel
noncomputable def fx_D_care (p1 : Int32) (m : (Nat → Nat → Int32)) : Option Int32 :=
  kv_bind1 (fx_D_wrongKept p1 m) (fun v1 =>
  if v1 = 0 then
    kv_gd (kv_in p1 8) (
    some (m 91 p1.toNatClampNeg))
  else
    some ((-1000000000 : Int32) + v1))
set_option maxRecDepth 20000 in
theorem cx_D_care (d : Nat) (p1 : Int32) (c : (Nat → Nat → Int32)) (m : (Nat → Nat → Int32)) (f : (Nat → Int64)) (u : (Nat → Int64)) : ∀ a, fx_D_care p1 m = some a → kv_C kM_D_care (d + 3) [.ref 84, .int p1] (c, m, f, u) (some (.int a), (c, m, f, u)) := by
  refine kv_entryX (E := fun a : Int32 => (some (.int a), (c, m, f, u))) rfl (Nat.le_of_ble_eq_true rfl) (fun o => ?_)
  unfold fx_D_care
  show kv_X _ _ _ _ _ 0 [(0, .ref 84), (1, .int p1)] [] (c, m, f, u)
  refine kv_aload_n (pc := 0) 0 rfl rfl dk_D_care_0 ?_
  refine kv_iload_n (pc := 1) 1 rfl rfl dk_D_care_1 ?_
  refine kv_cV_mI (pc := 2) (as := [.int p1]) (st := []) ko_D_wrongKept kc_11 rfl rfl kr_84 kw_1709 (Nat.le_of_ble_eq_true rfl) rfl dk_D_care_2 (cx_D_wrongKept d p1 c m f u) (fun v1 => ?_)
  refine kv_istore_n (pc := 5) (lv' := [(2, .int v1), (0, .ref 84), (1, .int p1)]) rfl (Nat.le_of_ble_eq_true rfl) rfl dk_D_care_5 ?_
  refine kv_iload_n (pc := 6) 0 rfl rfl dk_D_care_6 ?_
  refine kv_if_eq (pc := 7) (tgt := 18) dk_D_care_7 rfl ?_ ?_
  · refine kv_aload_n (pc := 18) 1 rfl rfl dk_D_care_18 ?_
    refine kv_getR (pc := 19) kf_D_28 kr_84 rfl kt_84_6 dk_D_care_19 ?_
    refine kv_iload_n (pc := 22) 2 rfl rfl dk_D_care_22 ?_
    refine kv_guard (fun g2 => ?_)
    refine kv_aldM (pc := 23) kr_91 kn_91 kl_91 g2 rfl dk_D_care_23 ?_
    exact kv_iret (pc := 24) (fun h => h) rfl dk_D_care_24
  · refine kv_ldcw (pc := 10) (v := (-1000000000 : Int32)) kw_1610 dk_D_care_10 ?_
    refine kv_iload_n (pc := 13) 0 rfl rfl dk_D_care_13 ?_
    refine kv_iadd (pc := 14) dk_D_care_14 ?_
    refine kv_goto (pc := 15) (tgt := 24) dk_D_care_15 rfl ?_
    exact kv_iret (pc := 24) (fun h => h) rfl dk_D_care_24
theorem dk_D_toss_0 : decode prog_13_method_94_code 0 = .ok (.aload_n 0, 1) := by decide +kernel
theorem dk_D_toss_1 : decode prog_13_method_94_code 1 = .ok (.iload_n 1, 1) := by decide +kernel
theorem dk_D_toss_2 : decode prog_13_method_94_code 2 = .ok (.invokevirtual 317, 3) := by decide +kernel
theorem dk_D_toss_5 : decode prog_13_method_94_code 5 = .ok (.istore_n 2, 1) := by decide +kernel
theorem dk_D_toss_6 : decode prog_13_method_94_code 6 = .ok (.iload_n 2, 1) := by decide +kernel
theorem dk_D_toss_7 : decode prog_13_method_94_code 7 = .ok (.ifCond .eq 7, 3) := by decide +kernel
theorem dk_D_toss_10 : decode prog_13_method_94_code 10 = .ok (.iload_n 2, 1) := by decide +kernel
theorem dk_D_toss_11 : decode prog_13_method_94_code 11 = .ok (.goto 9, 3) := by decide +kernel
theorem dk_D_toss_14 : decode prog_13_method_94_code 14 = .ok (.aload_n 0, 1) := by decide +kernel
theorem dk_D_toss_15 : decode prog_13_method_94_code 15 = .ok (.getfield 31, 3) := by decide +kernel
theorem dk_D_toss_18 : decode prog_13_method_94_code 18 = .ok (.iload_n 1, 1) := by decide +kernel
theorem dk_D_toss_19 : decode prog_13_method_94_code 19 = .ok (.iaload, 1) := by decide +kernel
theorem dk_D_toss_20 : decode prog_13_method_94_code 20 = .ok (.ireturn, 1) := by decide +kernel
noncomputable def fx_D_toss (p1 : Int32) (m : (Nat → Nat → Int32)) : Option Int32 :=
  kv_bind1 (fx_D_wrongKept p1 m) (fun v1 =>
  if v1 = 0 then
    kv_gd (kv_in p1 8) (
    some (m 92 p1.toNatClampNeg))
  else
    some v1)
set_option maxRecDepth 20000 in
theorem cx_D_toss (d : Nat) (p1 : Int32) (c : (Nat → Nat → Int32)) (m : (Nat → Nat → Int32)) (f : (Nat → Int64)) (u : (Nat → Int64)) : ∀ a, fx_D_toss p1 m = some a → kv_C kM_D_toss (d + 3) [.ref 84, .int p1] (c, m, f, u) (some (.int a), (c, m, f, u)) := by
  refine kv_entryX (E := fun a : Int32 => (some (.int a), (c, m, f, u))) rfl (Nat.le_of_ble_eq_true rfl) (fun o => ?_)
  unfold fx_D_toss
  show kv_X _ _ _ _ _ 0 [(0, .ref 84), (1, .int p1)] [] (c, m, f, u)
  refine kv_aload_n (pc := 0) 0 rfl rfl dk_D_toss_0 ?_
  refine kv_iload_n (pc := 1) 1 rfl rfl dk_D_toss_1 ?_
  refine kv_cV_mI (pc := 2) (as := [.int p1]) (st := []) ko_D_wrongKept kc_11 rfl rfl kr_84 kw_1709 (Nat.le_of_ble_eq_true rfl) rfl dk_D_toss_2 (cx_D_wrongKept d p1 c m f u) (fun v1 => ?_)
  refine kv_istore_n (pc := 5) (lv' := [(2, .int v1), (0, .ref 84), (1, .int p1)]) rfl (Nat.le_of_ble_eq_true rfl) rfl dk_D_toss_5 ?_
  refine kv_iload_n (pc := 6) 0 rfl rfl dk_D_toss_6 ?_
  refine kv_if_eq (pc := 7) (tgt := 14) dk_D_toss_7 rfl ?_ ?_
  · refine kv_aload_n (pc := 14) 1 rfl rfl dk_D_toss_14 ?_
    refine kv_getR (pc := 15) kf_D_31 kr_84 rfl kt_84_7 dk_D_toss_15 ?_
    refine kv_iload_n (pc := 18) 2 rfl rfl dk_D_toss_18 ?_
    refine kv_guard (fun g2 => ?_)
    refine kv_aldM (pc := 19) kr_92 kn_92 kl_92 g2 rfl dk_D_toss_19 ?_
    exact kv_iret (pc := 20) (fun h => h) rfl dk_D_toss_20
  · refine kv_iload_n (pc := 10) 0 rfl rfl dk_D_toss_10 ?_
    refine kv_goto (pc := 11) (tgt := 20) dk_D_toss_11 rfl ?_
    exact kv_iret (pc := 20) (fun h => h) rfl dk_D_toss_20
