theorem dk_Reader_statement_0 : decode prog_8_method_5_code 0 = .ok (.aload_n 0, 1) := by decide +kernel
theorem dk_Reader_statement_1 : decode prog_8_method_5_code 1 = .ok (.getfield 26, 3) := by decide +kernel
theorem dk_Reader_statement_4 : decode prog_8_method_5_code 4 = .ok (.istore_n 1, 1) := by decide +kernel
theorem dk_Reader_statement_5 : decode prog_8_method_5_code 5 = .ok (.aload_n 0, 1) := by decide +kernel
theorem dk_Reader_statement_6 : decode prog_8_method_5_code 6 = .ok (.invokevirtual 78, 3) := by decide +kernel
theorem dk_Reader_statement_9 : decode prog_8_method_5_code 9 = .ok (.istore_n 2, 1) := by decide +kernel
theorem dk_Reader_statement_10 : decode prog_8_method_5_code 10 = .ok (.aload_n 0, 1) := by decide +kernel
theorem dk_Reader_statement_11 : decode prog_8_method_5_code 11 = .ok (.bipush 58, 2) := by decide +kernel
theorem dk_Reader_statement_13 : decode prog_8_method_5_code 13 = .ok (.invokevirtual 82, 3) := by decide +kernel
theorem dk_Reader_statement_16 : decode prog_8_method_5_code 16 = .ok (.aload_n 0, 1) := by decide +kernel
theorem dk_Reader_statement_17 : decode prog_8_method_5_code 17 = .ok (.iconst 0, 1) := by decide +kernel
theorem dk_Reader_statement_18 : decode prog_8_method_5_code 18 = .ok (.invokevirtual 86, 3) := by decide +kernel
theorem dk_Reader_statement_21 : decode prog_8_method_5_code 21 = .ok (.istore_n 3, 1) := by decide +kernel
theorem dk_Reader_statement_22 : decode prog_8_method_5_code 22 = .ok (.aload_n 0, 1) := by decide +kernel
theorem dk_Reader_statement_23 : decode prog_8_method_5_code 23 = .ok (.bipush 59, 2) := by decide +kernel
theorem dk_Reader_statement_25 : decode prog_8_method_5_code 25 = .ok (.invokevirtual 82, 3) := by decide +kernel
theorem dk_Reader_statement_28 : decode prog_8_method_5_code 28 = .ok (.aload_n 0, 1) := by decide +kernel
theorem dk_Reader_statement_29 : decode prog_8_method_5_code 29 = .ok (.getfield 22, 3) := by decide +kernel
theorem dk_Reader_statement_32 : decode prog_8_method_5_code 32 = .ok (.ifCond .lt 4, 3) := by decide +kernel
theorem dk_Reader_statement_35 : decode prog_8_method_5_code 35 = .ok (.return_, 1) := by decide +kernel
theorem dk_Reader_statement_36 : decode prog_8_method_5_code 36 = .ok (.aload_n 0, 1) := by decide +kernel
theorem dk_Reader_statement_37 : decode prog_8_method_5_code 37 = .ok (.dup, 1) := by decide +kernel
theorem dk_Reader_statement_38 : decode prog_8_method_5_code 38 = .ok (.getfield 44, 3) := by decide +kernel
theorem dk_Reader_statement_41 : decode prog_8_method_5_code 41 = .ok (.iconst 1, 1) := by decide +kernel
theorem dk_Reader_statement_42 : decode prog_8_method_5_code 42 = .ok (.iadd, 1) := by decide +kernel
theorem dk_Reader_statement_43 : decode prog_8_method_5_code 43 = .ok (.putfield 44, 3) := by decide +kernel
theorem dk_Reader_statement_46 : decode prog_8_method_5_code 46 = .ok (.iload_n 2, 1) := by decide +kernel
theorem dk_Reader_statement_47 : decode prog_8_method_5_code 47 = .ok (.sipush 140, 3) := by decide +kernel
theorem dk_Reader_statement_50 : decode prog_8_method_5_code 50 = .ok (.if_icmp .le 15, 3) := by decide +kernel
theorem dk_Reader_statement_53 : decode prog_8_method_5_code 53 = .ok (.aload_n 0, 1) := by decide +kernel
theorem dk_Reader_statement_54 : decode prog_8_method_5_code 54 = .ok (.getfield 41, 3) := by decide +kernel
theorem dk_Reader_statement_57 : decode prog_8_method_5_code 57 = .ok (.ifCond .ge 8, 3) := by decide +kernel
theorem dk_Reader_statement_60 : decode prog_8_method_5_code 60 = .ok (.aload_n 0, 1) := by decide +kernel
theorem dk_Reader_statement_61 : decode prog_8_method_5_code 61 = .ok (.iload_n 1, 1) := by decide +kernel
theorem dk_Reader_statement_62 : decode prog_8_method_5_code 62 = .ok (.putfield 41, 3) := by decide +kernel
theorem dk_Reader_statement_65 : decode prog_8_method_5_code 65 = .ok (.iload_n 2, 1) := by decide +kernel
theorem dk_Reader_statement_66 : decode prog_8_method_5_code 66 = .ok (.aload_n 0, 1) := by decide +kernel
theorem dk_Reader_statement_67 : decode prog_8_method_5_code 67 = .ok (.getfield 52, 3) := by decide +kernel
theorem dk_Reader_statement_70 : decode prog_8_method_5_code 70 = .ok (.if_icmp .gt 21, 3) := by decide +kernel
theorem dk_Reader_statement_73 : decode prog_8_method_5_code 73 = .ok (.iload_n 2, 1) := by decide +kernel
theorem dk_Reader_statement_74 : decode prog_8_method_5_code 74 = .ok (.aload_n 0, 1) := by decide +kernel
theorem dk_Reader_statement_75 : decode prog_8_method_5_code 75 = .ok (.getfield 53, 3) := by decide +kernel
theorem dk_Reader_statement_78 : decode prog_8_method_5_code 78 = .ok (.if_icmp .lt 13, 3) := by decide +kernel
theorem dk_Reader_statement_81 : decode prog_8_method_5_code 81 = .ok (.aload_n 0, 1) := by decide +kernel
theorem dk_Reader_statement_82 : decode prog_8_method_5_code 82 = .ok (.iload_n 2, 1) := by decide +kernel
theorem dk_Reader_statement_83 : decode prog_8_method_5_code 83 = .ok (.putfield 53, 3) := by decide +kernel
theorem dk_Reader_statement_86 : decode prog_8_method_5_code 86 = .ok (.aload_n 0, 1) := by decide +kernel
theorem dk_Reader_statement_87 : decode prog_8_method_5_code 87 = .ok (.iload_n 3, 1) := by decide +kernel
theorem dk_Reader_statement_88 : decode prog_8_method_5_code 88 = .ok (.putfield 32, 3) := by decide +kernel
theorem dk_Reader_statement_91 : decode prog_8_method_5_code 91 = .ok (.return_, 1) := by decide +kernel
noncomputable def fj_Reader_statement_65 (v2 : Int32) (v5 : Int32) (c9 : (Nat → Nat → Int32)) : Option (Nat → Nat → Int32) :=
  if (c9 75 6) < v2 then
    some c9
  else
    if v2 < (c9 75 7) then
      some c9
    else
      kv_let (kv_st c9 75 7 v2) (fun c10 =>
      kv_let (kv_st c10 75 8 v5) (fun c11 =>
      some c11))
noncomputable def fx_Reader_statement (c : (Nat → Nat → Int32)) : Option (Nat → Nat → Int32) :=
  kv_let (c 75 2) (fun v1 =>
  kv_bind2 (fx_Reader_number c) (fun v2 c3 =>
  kv_bind1 (fx_Reader_expect (58 : Int32) c3) (fun c4 =>
  kv_bind2 (fg_R 24 0 (0 : Int32) c4) (fun v5 c6 =>
  kv_bind1 (fx_Reader_expect (59 : Int32) c6) (fun c7 =>
  if (c7 75 3) < 0 then
    kv_let (kv_st c7 75 5 ((c7 75 5) + (1 : Int32))) (fun c8 =>
    if v2 ≤ (140 : Int32) then
      fj_Reader_statement_65 v2 v5 c8
    else
      if 0 ≤ (c8 75 4) then
        fj_Reader_statement_65 v2 v5 c8
      else
        kv_let (kv_st c8 75 4 v1) (fun c12 =>
        fj_Reader_statement_65 v2 v5 c12))
  else
    some c7)))))
set_option maxRecDepth 20000 in
theorem cx_Reader_statement (d : Nat) (c : (Nat → Nat → Int32)) (y : (Nat → Nat → Int32) × (Nat → Int64) × (Nat → Int64)) : ∀ a, fx_Reader_statement c = some a → kv_C kM_Reader_statement (d + 26) [.ref 75] (c, y) (none, (a, y)) := by
  refine kv_entryX (E := fun a : (Nat → Nat → Int32) => (none, (a, y))) rfl (Nat.le_of_ble_eq_true rfl) (fun o => ?_)
  unfold fx_Reader_statement
  show kv_X _ _ _ _ _ 0 [(0, .ref 75)] [] (c, y)
  refine kv_aload_n (pc := 0) 0 rfl rfl dk_Reader_statement_0 ?_
  refine kv_getC (pc := 1) kf_Reader_26 kr_75 kn_75 rfl dk_Reader_statement_1 ?_
  refine kv_letI (fun v1 => ?_)
  refine kv_istore_n (pc := 4) (lv' := [(1, .int v1), (0, .ref 75)]) rfl (Nat.le_of_ble_eq_true rfl) rfl dk_Reader_statement_4 ?_
  refine kv_aload_n (pc := 5) 1 rfl rfl dk_Reader_statement_5 ?_
  refine kv_cV_cIc (pc := 6) (as := []) (st := []) ko_Reader_number kc_6 rfl rfl kr_75 kw_862 (Nat.le_of_ble_eq_true rfl) rfl dk_Reader_statement_6 (cx_Reader_number (d + 24) c y) (fun v2 c3 => ?_)
  refine kv_istore_n (pc := 9) (lv' := [(2, .int v2), (1, .int v1), (0, .ref 75)]) rfl (Nat.le_of_ble_eq_true rfl) rfl dk_Reader_statement_9 ?_
  refine kv_aload_n (pc := 10) 2 rfl rfl dk_Reader_statement_10 ?_
  refine kv_bipush (pc := 11) (v := (58 : Int32)) dk_Reader_statement_11 kkb_58 ?_
  refine kv_cV_cc (pc := 13) (as := [.int (58 : Int32)]) (st := []) ko_Reader_expect kc_6 rfl rfl kr_75 kw_878 (Nat.le_of_ble_eq_true rfl) rfl dk_Reader_statement_13 (cx_Reader_expect (d + 24) (58 : Int32) c3 y) (fun c4 => ?_)
  refine kv_aload_n (pc := 16) 2 rfl rfl dk_Reader_statement_16 ?_
  refine kv_iconst (pc := 17) (v := (0 : Int32)) dk_Reader_statement_17 kki_0 ?_
  refine kv_cV_cIc (pc := 18) (as := [.int (0 : Int32)]) (st := []) ko_Reader_sum kc_6 rfl rfl kr_75 kw_882 (Nat.le_of_ble_eq_true rfl) rfl dk_Reader_statement_18 (cx_fg_R_0 d (0 : Int32) c4 y) (fun v5 c6 => ?_)
  refine kv_istore_n (pc := 21) (lv' := [(3, .int v5), (2, .int v2), (1, .int v1), (0, .ref 75)]) rfl (Nat.le_of_ble_eq_true rfl) rfl dk_Reader_statement_21 ?_
  refine kv_aload_n (pc := 22) 3 rfl rfl dk_Reader_statement_22 ?_
  refine kv_bipush (pc := 23) (v := (59 : Int32)) dk_Reader_statement_23 kkb_59 ?_
  refine kv_cV_cc (pc := 25) (as := [.int (59 : Int32)]) (st := []) ko_Reader_expect kc_6 rfl rfl kr_75 kw_878 (Nat.le_of_ble_eq_true rfl) rfl dk_Reader_statement_25 (cx_Reader_expect (d + 24) (59 : Int32) c6 y) (fun c7 => ?_)
  refine kv_aload_n (pc := 28) 3 rfl rfl dk_Reader_statement_28 ?_
  refine kv_getC (pc := 29) kf_Reader_22 kr_75 kn_75 rfl dk_Reader_statement_29 ?_
  refine kv_if_lt (pc := 32) (tgt := 36) dk_Reader_statement_32 rfl ?_ ?_
  · refine kv_aload_n (pc := 36) 3 rfl rfl dk_Reader_statement_36 ?_
    refine kv_dupR (pc := 37) dk_Reader_statement_37 ?_
    refine kv_getC (pc := 38) kf_Reader_44 kr_75 kn_75 rfl dk_Reader_statement_38 ?_
    refine kv_iconst (pc := 41) (v := (1 : Int32)) dk_Reader_statement_41 kki_1 ?_
    refine kv_iadd (pc := 42) dk_Reader_statement_42 ?_
    refine kv_putC (pc := 43) kf_Reader_44 kr_75 kn_75 rfl rfl rfl dk_Reader_statement_43 (fun c8 => ?_)
    refine kv_iload_n (pc := 46) 1 rfl rfl dk_Reader_statement_46 ?_
    refine kv_sipush (pc := 47) (v := (140 : Int32)) dk_Reader_statement_47 kks_140 ?_
    refine kv_cut_1 (J := fj_Reader_statement_65 v2 v5) (pcj := 65) (LJ := fun c9 => [(0, .ref 75), (2, .int v2), (3, .int v5)]) (SJ := fun c9 => []) (WJ := fun c9 => (c9, y)) ?_ (fun hj65 => ?_)
    · intro c9
      show kv_X _ _ _ _ (fj_Reader_statement_65 v2 v5 c9) 65 [(0, .ref 75), (2, .int v2), (3, .int v5)] [] (c9, y)
      unfold fj_Reader_statement_65
      refine kv_iload_n (pc := 65) 1 rfl rfl dk_Reader_statement_65 ?_
      refine kv_aload_n (pc := 66) 0 rfl rfl dk_Reader_statement_66 ?_
      refine kv_getC (pc := 67) kf_Reader_52 kr_75 kn_75 rfl dk_Reader_statement_67 ?_
      refine kv_icmp_gt (pc := 70) (tgt := 91) dk_Reader_statement_70 rfl ?_ ?_
      · exact kv_vret (pc := 91) (fun h => h) rfl dk_Reader_statement_91
      · refine kv_iload_n (pc := 73) 1 rfl rfl dk_Reader_statement_73 ?_
        refine kv_aload_n (pc := 74) 0 rfl rfl dk_Reader_statement_74 ?_
        refine kv_getC (pc := 75) kf_Reader_53 kr_75 kn_75 rfl dk_Reader_statement_75 ?_
        refine kv_icmp_lt (pc := 78) (tgt := 91) dk_Reader_statement_78 rfl ?_ ?_
        · exact kv_vret (pc := 91) (fun h => h) rfl dk_Reader_statement_91
        · refine kv_aload_n (pc := 81) 0 rfl rfl dk_Reader_statement_81 ?_
          refine kv_iload_n (pc := 82) 1 rfl rfl dk_Reader_statement_82 ?_
          refine kv_putC (pc := 83) kf_Reader_53 kr_75 kn_75 rfl rfl rfl dk_Reader_statement_83 (fun c10 => ?_)
          refine kv_aload_n (pc := 86) 0 rfl rfl dk_Reader_statement_86 ?_
          refine kv_iload_n (pc := 87) 2 rfl rfl dk_Reader_statement_87 ?_
          refine kv_putC (pc := 88) kf_Reader_32 kr_75 kn_75 rfl rfl rfl dk_Reader_statement_88 (fun c11 => ?_)
          exact kv_vret (pc := 91) (fun h => h) rfl dk_Reader_statement_91
    refine kv_icmp_le (pc := 50) (tgt := 65) dk_Reader_statement_50 rfl ?_ ?_
    · exact kv_sub [3, 1, 0] rfl (hj65 c8)
    · refine kv_aload_n (pc := 53) 3 rfl rfl dk_Reader_statement_53 ?_
      refine kv_getC (pc := 54) kf_Reader_41 kr_75 kn_75 rfl dk_Reader_statement_54 ?_
      refine kv_if_ge (pc := 57) (tgt := 65) dk_Reader_statement_57 rfl ?_ ?_
      · exact kv_sub [3, 1, 0] rfl (hj65 c8)
      · refine kv_aload_n (pc := 60) 3 rfl rfl dk_Reader_statement_60 ?_
        refine kv_iload_n (pc := 61) 2 rfl rfl dk_Reader_statement_61 ?_
        refine kv_putC (pc := 62) kf_Reader_41 kr_75 kn_75 rfl rfl rfl dk_Reader_statement_62 (fun c12 => ?_)
        exact kv_sub [3, 1, 0] rfl (hj65 c12)
  · exact kv_vret (pc := 35) (fun h => h) rfl dk_Reader_statement_35
theorem dk_Reader_read_0 : decode prog_8_method_2_code 0 = .ok (.aload_n 0, 1) := by decide +kernel
theorem dk_Reader_read_1 : decode prog_8_method_2_code 1 = .ok (.aload_n 1, 1) := by decide +kernel
theorem dk_Reader_read_2 : decode prog_8_method_2_code 2 = .ok (.iload_n 2, 1) := by decide +kernel
theorem dk_Reader_read_3 : decode prog_8_method_2_code 3 = .ok (.aload_n 3, 1) := by decide +kernel
theorem dk_Reader_read_4 : decode prog_8_method_2_code 4 = .ok (.invokevirtual 15, 3) := by decide +kernel
theorem dk_Reader_read_7 : decode prog_8_method_2_code 7 = .ok (.aload_n 0, 1) := by decide +kernel
theorem dk_Reader_read_8 : decode prog_8_method_2_code 8 = .ok (.invokevirtual 19, 3) := by decide +kernel
theorem dk_Reader_read_11 : decode prog_8_method_2_code 11 = .ok (.iconst 0, 1) := by decide +kernel
theorem dk_Reader_read_12 : decode prog_8_method_2_code 12 = .ok (.istore 4, 2) := by decide +kernel
theorem dk_Reader_read_14 : decode prog_8_method_2_code 14 = .ok (.iload 4, 2) := by decide +kernel
theorem dk_Reader_read_16 : decode prog_8_method_2_code 16 = .ok (.bipush 100, 2) := by decide +kernel
theorem dk_Reader_read_18 : decode prog_8_method_2_code 18 = .ok (.if_icmp .ge 31, 3) := by decide +kernel
theorem dk_Reader_read_21 : decode prog_8_method_2_code 21 = .ok (.aload_n 0, 1) := by decide +kernel
theorem dk_Reader_read_22 : decode prog_8_method_2_code 22 = .ok (.getfield 22, 3) := by decide +kernel
theorem dk_Reader_read_25 : decode prog_8_method_2_code 25 = .ok (.ifCond .ge 24, 3) := by decide +kernel
theorem dk_Reader_read_28 : decode prog_8_method_2_code 28 = .ok (.aload_n 0, 1) := by decide +kernel
theorem dk_Reader_read_29 : decode prog_8_method_2_code 29 = .ok (.getfield 26, 3) := by decide +kernel
theorem dk_Reader_read_32 : decode prog_8_method_2_code 32 = .ok (.aload_n 0, 1) := by decide +kernel
theorem dk_Reader_read_33 : decode prog_8_method_2_code 33 = .ok (.getfield 29, 3) := by decide +kernel
theorem dk_Reader_read_36 : decode prog_8_method_2_code 36 = .ok (.if_icmp .ge 13, 3) := by decide +kernel
theorem dk_Reader_read_39 : decode prog_8_method_2_code 39 = .ok (.aload_n 0, 1) := by decide +kernel
theorem dk_Reader_read_40 : decode prog_8_method_2_code 40 = .ok (.invokevirtual 19, 3) := by decide +kernel
theorem dk_Reader_read_43 : decode prog_8_method_2_code 43 = .ok (.iinc 4 1, 3) := by decide +kernel
theorem dk_Reader_read_46 : decode prog_8_method_2_code 46 = .ok (.goto (-32), 3) := by decide +kernel
theorem dk_Reader_read_49 : decode prog_8_method_2_code 49 = .ok (.aload_n 0, 1) := by decide +kernel
theorem dk_Reader_read_50 : decode prog_8_method_2_code 50 = .ok (.getfield 32, 3) := by decide +kernel
theorem dk_Reader_read_53 : decode prog_8_method_2_code 53 = .ok (.ireturn, 1) := by decide +kernel
noncomputable def fb_Reader_read_14 (x3 : Int32) (c4 : (Nat → Nat → Int32)) : Option ((Int32 × (Nat → Nat → Int32)) ⊕ (Nat → Nat → Int32)) :=
  if (100 : Int32) ≤ x3 then
    some (.inr c4)
  else
    if 0 ≤ (c4 75 3) then
      some (.inr c4)
    else
      if (c4 75 1) ≤ (c4 75 2) then
        some (.inr c4)
      else
        kv_bind1 (fx_Reader_statement c4) (fun c6 =>
        some (.inl ((x3 + (1 : Int32)), c6)))
noncomputable def fx_Reader_read (r1 : Nat) (p2 : Int32) (c : (Nat → Nat → Int32)) : Option (Int32 × (Nat → Nat → Int32)) :=
  kv_bind1 (fx_Reader_start r1 p2 c) (fun c1 =>
  kv_bind1 (fx_Reader_statement c1) (fun c2 =>
  (kv_loop (kv_u2 (fb_Reader_read_14)) ((0 : Int32), c2)).bind (kv_u1 (fun c5 =>
  some ((c5 75 8), c5)))))
set_option maxRecDepth 20000 in
theorem cx_Reader_read (d : Nat) (r1 : Nat) (p2 : Int32) (c : (Nat → Nat → Int32)) (y : (Nat → Nat → Int32) × (Nat → Int64) × (Nat → Int64)) (h1 : kv_kd r1 = 12) (hc1 : r1 < kv_NC) : ∀ a, fx_Reader_read r1 p2 c = some a → kv_C kM_Reader_read (d + 27) [.ref 75, .ref r1, .int p2, .ref 1] (c, y) (some (.int a.1), (a.2, y)) := by
  refine kv_entryX (E := fun a : (Int32 × (Nat → Nat → Int32)) => (some (.int a.1), (a.2, y))) rfl (Nat.le_of_ble_eq_true rfl) (fun o => ?_)
  unfold fx_Reader_read
  show kv_X _ _ _ _ _ 0 [(0, .ref 75), (1, .ref r1), (2, .int p2), (3, .ref 1)] [] (c, y)
  refine kv_aload_n (pc := 0) 0 rfl rfl dk_Reader_read_0 ?_
  refine kv_aload_n (pc := 1) 1 rfl rfl dk_Reader_read_1 ?_
  refine kv_iload_n (pc := 2) 2 rfl rfl dk_Reader_read_2 ?_
  refine kv_aload_n (pc := 3) 3 rfl rfl dk_Reader_read_3 ?_
  refine kv_cV_cc (pc := 4) (as := [.ref r1, .int p2, .ref 1]) (st := []) ko_Reader_start kc_6 rfl rfl kr_75 kw_849 (Nat.le_of_ble_eq_true rfl) rfl dk_Reader_read_4 (cx_Reader_start (d + 25) r1 p2 c y h1 hc1) (fun c1 => ?_)
  refine kv_aload_n (pc := 7) 0 rfl rfl dk_Reader_read_7 ?_
  refine kv_cV_cc (pc := 8) (as := []) (st := []) ko_Reader_statement kc_6 rfl rfl kr_75 kw_858 (Nat.le_of_ble_eq_true rfl) rfl dk_Reader_read_8 (cx_Reader_statement d c1 y) (fun c2 => ?_)
  refine kv_iconst (pc := 11) (v := (0 : Int32)) dk_Reader_read_11 kki_0 ?_
  refine kv_istore (pc := 12) (lv' := [(4, .int (0 : Int32)), (0, .ref 75), (1, .ref r1), (2, .int p2), (3, .ref 1)]) rfl (Nat.le_of_ble_eq_true rfl) dk_Reader_read_12 ?_
  refine kv_sub (lv' := [(0, .ref 75), (4, .int (0 : Int32))]) [1, 0] rfl ?_
  refine kv_lp_2_1 (LV := fun x3 c4 => [(0, .ref 75), (4, .int x3)]) (WW := fun x3 c4 => (c4, y)) (LE1 := fun c5 => [(0, .ref 75)]) (WE1 := fun c5 => (c5, y)) (pe1 := 49) ?_ ?_
  · intro c5
    show kv_X _ _ _ _ _ 49 [(0, .ref 75)] [] (c5, y)
    refine kv_aload_n (pc := 49) 0 rfl rfl dk_Reader_read_49 ?_
    refine kv_getC (pc := 50) kf_Reader_32 kr_75 kn_75 rfl dk_Reader_read_50 ?_
    exact kv_iret (pc := 53) (fun h => h) rfl dk_Reader_read_53
  · intro hx14_0 x3 c4
    show kv_X _ _ _ _ (fb_Reader_read_14 x3 c4) 14 [(0, .ref 75), (4, .int x3)] [] (c4, y)
    unfold fb_Reader_read_14
    refine kv_iload (pc := 14) 1 rfl dk_Reader_read_14 ?_
    refine kv_bipush (pc := 16) (v := (100 : Int32)) dk_Reader_read_16 kkb_100 ?_
    refine kv_icmp_ge (pc := 18) (tgt := 49) dk_Reader_read_18 rfl ?_ ?_
    · exact kv_sub [0] rfl (kv_leaf (hx14_0 _))
    · refine kv_aload_n (pc := 21) 0 rfl rfl dk_Reader_read_21 ?_
      refine kv_getC (pc := 22) kf_Reader_22 kr_75 kn_75 rfl dk_Reader_read_22 ?_
      refine kv_if_ge (pc := 25) (tgt := 49) dk_Reader_read_25 rfl ?_ ?_
      · exact kv_sub [0] rfl (kv_leaf (hx14_0 _))
      · refine kv_aload_n (pc := 28) 0 rfl rfl dk_Reader_read_28 ?_
        refine kv_getC (pc := 29) kf_Reader_26 kr_75 kn_75 rfl dk_Reader_read_29 ?_
        refine kv_aload_n (pc := 32) 0 rfl rfl dk_Reader_read_32 ?_
        refine kv_getC (pc := 33) kf_Reader_29 kr_75 kn_75 rfl dk_Reader_read_33 ?_
        refine kv_icmp_ge (pc := 36) (tgt := 49) dk_Reader_read_36 rfl ?_ ?_
        · exact kv_sub [0] rfl (kv_leaf (hx14_0 _))
        · refine kv_aload_n (pc := 39) 0 rfl rfl dk_Reader_read_39 ?_
          refine kv_cV_cc (pc := 40) (as := []) (st := []) ko_Reader_statement kc_6 rfl rfl kr_75 kw_858 (Nat.le_of_ble_eq_true rfl) rfl dk_Reader_read_40 (cx_Reader_statement d c4 y) (fun c6 => ?_)
          refine kv_iinc (pc := 43) (kk := (1 : Int32)) (lv' := [(4, .int (x3 + (1 : Int32))), (0, .ref 75)]) 1 rfl kki_1 rfl (Nat.le_of_ble_eq_true rfl) dk_Reader_read_43 ?_
          refine kv_goto (pc := 46) (tgt := 14) dk_Reader_read_46 rfl ?_
          exact kv_sub [1, 0] rfl (kv_leaf (fun h => h))
theorem dk_Reader_faultTold_0 : decode prog_8_method_4_code 0 = .ok (.aload_n 0, 1) := by decide +kernel
theorem dk_Reader_faultTold_1 : decode prog_8_method_4_code 1 = .ok (.getfield 22, 3) := by decide +kernel
theorem dk_Reader_faultTold_4 : decode prog_8_method_4_code 4 = .ok (.ifCond .lt 12, 3) := by decide +kernel
theorem dk_Reader_faultTold_7 : decode prog_8_method_4_code 7 = .ok (.sipush (-1000), 3) := by decide +kernel
theorem dk_Reader_faultTold_10 : decode prog_8_method_4_code 10 = .ok (.aload_n 0, 1) := by decide +kernel
theorem dk_Reader_faultTold_11 : decode prog_8_method_4_code 11 = .ok (.getfield 22, 3) := by decide +kernel
theorem dk_Reader_faultTold_14 : decode prog_8_method_4_code 14 = .ok (.isub, 1) := by decide +kernel
theorem dk_Reader_faultTold_15 : decode prog_8_method_4_code 15 = .ok (.ireturn, 1) := by decide +kernel
theorem dk_Reader_faultTold_16 : decode prog_8_method_4_code 16 = .ok (.aload_n 0, 1) := by decide +kernel
theorem dk_Reader_faultTold_17 : decode prog_8_method_4_code 17 = .ok (.getfield 41, 3) := by decide +kernel
theorem dk_Reader_faultTold_20 : decode prog_8_method_4_code 20 = .ok (.ifCond .lt 14, 3) := by decide +kernel
theorem dk_Reader_faultTold_23 : decode prog_8_method_4_code 23 = .ok (.sipush (-2000), 3) := by decide +kernel
theorem dk_Reader_faultTold_26 : decode prog_8_method_4_code 26 = .ok (.aload_n 0, 1) := by decide +kernel
theorem dk_Reader_faultTold_27 : decode prog_8_method_4_code 27 = .ok (.getfield 41, 3) := by decide +kernel
theorem dk_Reader_faultTold_30 : decode prog_8_method_4_code 30 = .ok (.isub, 1) := by decide +kernel
theorem dk_Reader_faultTold_31 : decode prog_8_method_4_code 31 = .ok (.goto 4, 3) := by decide +kernel
theorem dk_Reader_faultTold_34 : decode prog_8_method_4_code 34 = .ok (.iconst 0, 1) := by decide +kernel
theorem dk_Reader_faultTold_35 : decode prog_8_method_4_code 35 = .ok (.ireturn, 1) := by decide +kernel
noncomputable def fx_Reader_faultTold (c : (Nat → Nat → Int32)) : Option Int32 :=
  if (c 75 3) < 0 then
    if (c 75 4) < 0 then
      some (0 : Int32)
    else
      some ((-2000 : Int32) - (c 75 4))
  else
    some ((-1000 : Int32) - (c 75 3))
set_option maxRecDepth 20000 in
theorem cx_Reader_faultTold (d : Nat) (c : (Nat → Nat → Int32)) (y : (Nat → Nat → Int32) × (Nat → Int64) × (Nat → Int64)) : ∀ a, fx_Reader_faultTold c = some a → kv_C kM_Reader_faultTold (d + 0) [.ref 75] (c, y) (some (.int a), (c, y)) := by
  refine kv_entryX (E := fun a : Int32 => (some (.int a), (c, y))) rfl (Nat.le_of_ble_eq_true rfl) (fun o => ?_)
  unfold fx_Reader_faultTold
  show kv_X _ _ _ _ _ 0 [(0, .ref 75)] [] (c, y)
  refine kv_aload_n (pc := 0) 0 rfl rfl dk_Reader_faultTold_0 ?_
  refine kv_getC (pc := 1) kf_Reader_22 kr_75 kn_75 rfl dk_Reader_faultTold_1 ?_
  refine kv_if_lt (pc := 4) (tgt := 16) dk_Reader_faultTold_4 rfl ?_ ?_
  · refine kv_aload_n (pc := 16) 0 rfl rfl dk_Reader_faultTold_16 ?_
    refine kv_getC (pc := 17) kf_Reader_41 kr_75 kn_75 rfl dk_Reader_faultTold_17 ?_
    refine kv_if_lt (pc := 20) (tgt := 34) dk_Reader_faultTold_20 rfl ?_ ?_
    · refine kv_iconst (pc := 34) (v := (0 : Int32)) dk_Reader_faultTold_34 kki_0 ?_
      exact kv_iret (pc := 35) (fun h => h) rfl dk_Reader_faultTold_35
    · refine kv_sipush (pc := 23) (v := (-2000 : Int32)) dk_Reader_faultTold_23 kks_m2000 ?_
      refine kv_aload_n (pc := 26) 0 rfl rfl dk_Reader_faultTold_26 ?_
      refine kv_getC (pc := 27) kf_Reader_41 kr_75 kn_75 rfl dk_Reader_faultTold_27 ?_
      refine kv_isub (pc := 30) dk_Reader_faultTold_30 ?_
      refine kv_goto (pc := 31) (tgt := 35) dk_Reader_faultTold_31 rfl ?_
      exact kv_iret (pc := 35) (fun h => h) rfl dk_Reader_faultTold_35
  · refine kv_sipush (pc := 7) (v := (-1000 : Int32)) dk_Reader_faultTold_7 kks_m1000 ?_
    refine kv_aload_n (pc := 10) 0 rfl rfl dk_Reader_faultTold_10 ?_
    refine kv_getC (pc := 11) kf_Reader_22 kr_75 kn_75 rfl dk_Reader_faultTold_11 ?_
    refine kv_isub (pc := 14) dk_Reader_faultTold_14 ?_
    exact kv_iret (pc := 15) (fun h => h) rfl dk_Reader_faultTold_15
theorem dk_Law_write_0 : decode prog_3_method_2_code 0 = .ok (.aload_n 1, 1) := by decide +kernel
theorem dk_Law_write_1 : decode prog_3_method_2_code 1 = .ok (.iconst 0, 1) := by decide +kernel
theorem dk_Law_write_2 : decode prog_3_method_2_code 2 = .ok (.aload_n 0, 1) := by decide +kernel
theorem dk_Law_write_3 : decode prog_3_method_2_code 3 = .ok (.getfield 9, 3) := by decide +kernel
theorem dk_Law_write_6 : decode prog_3_method_2_code 6 = .ok (.iconst 0, 1) := by decide +kernel
theorem dk_Law_write_7 : decode prog_3_method_2_code 7 = .ok (.iload_n 2, 1) := by decide +kernel
theorem dk_Law_write_8 : decode prog_3_method_2_code 8 = .ok (.invokestatic 22, 3) := by decide +kernel
theorem dk_Law_write_11 : decode prog_3_method_2_code 11 = .ok (.aload_n 0, 1) := by decide +kernel
theorem dk_Law_write_12 : decode prog_3_method_2_code 12 = .ok (.iload_n 2, 1) := by decide +kernel
theorem dk_Law_write_13 : decode prog_3_method_2_code 13 = .ok (.putfield 15, 3) := by decide +kernel
theorem dk_Law_write_16 : decode prog_3_method_2_code 16 = .ok (.aload_n 0, 1) := by decide +kernel
theorem dk_Law_write_17 : decode prog_3_method_2_code 17 = .ok (.iload_n 3, 1) := by decide +kernel
theorem dk_Law_write_18 : decode prog_3_method_2_code 18 = .ok (.putfield 19, 3) := by decide +kernel
theorem dk_Law_write_21 : decode prog_3_method_2_code 21 = .ok (.return_, 1) := by decide +kernel
noncomputable def fx_Law_write (r1 : Nat) (p2 : Int32) (p3 : Int32) (c : (Nat → Nat → Int32)) : Option (Nat → Nat → Int32) :=
  kv_gd (kv_cp (0 : Int32) (0 : Int32) p2 (kv_ln r1) 100) (
  kv_let (va_up c 19 (va_cpy (c r1) (c 19) (0 : Int32).toNatClampNeg (0 : Int32).toNatClampNeg p2.toNatClampNeg)) (fun c2 =>
  kv_let (kv_st c2 18 1 p2) (fun c3 =>
  kv_let (kv_st c3 18 2 p3) (fun c4 =>
  some c4))))
set_option maxRecDepth 20000 in
theorem cx_Law_write (d : Nat) (r1 : Nat) (p2 : Int32) (p3 : Int32) (c : (Nat → Nat → Int32)) (y : (Nat → Nat → Int32) × (Nat → Int64) × (Nat → Int64)) (h1 : kv_kd r1 = 12) (hc1 : r1 < kv_NC) : ∀ a, fx_Law_write r1 p2 p3 c = some a → kv_C kM_Law_write (d + 1) [.ref 18, .ref r1, .int p2, .int p3] (c, y) (none, (a, y)) := by
  refine kv_entryX (E := fun a : (Nat → Nat → Int32) => (none, (a, y))) rfl (Nat.le_of_ble_eq_true rfl) (fun o => ?_)
  unfold fx_Law_write
  show kv_X _ _ _ _ _ 0 [(0, .ref 18), (1, .ref r1), (2, .int p2), (3, .int p3)] [] (c, y)
  refine kv_aload_n (pc := 0) 1 rfl rfl dk_Law_write_0 ?_
  refine kv_iconst (pc := 1) (v := (0 : Int32)) dk_Law_write_1 kki_0 ?_
  refine kv_aload_n (pc := 2) 0 rfl rfl dk_Law_write_2 ?_
  refine kv_getR (pc := 3) kf_Law_9 kr_18 rfl kt_18_0 dk_Law_write_3 ?_
  refine kv_iconst (pc := 6) (v := (0 : Int32)) dk_Law_write_6 kki_0 ?_
  refine kv_iload_n (pc := 7) 2 rfl rfl dk_Law_write_7 ?_
  refine kv_guard (fun g1 => ?_)
  refine kv_copyC (pc := 8) h1 kr_19 hc1 kn_19 rfl kl_19 g1 kw_906 kw_752 kw_751 kw_82 (Nat.le_of_ble_eq_true rfl) dk_Law_write_8 (fun c2 => ?_)
  refine kv_aload_n (pc := 11) 0 rfl rfl dk_Law_write_11 ?_
  refine kv_iload_n (pc := 12) 2 rfl rfl dk_Law_write_12 ?_
  refine kv_putC (pc := 13) kf_Law_15 kr_18 kn_18 rfl rfl rfl dk_Law_write_13 (fun c3 => ?_)
  refine kv_aload_n (pc := 16) 0 rfl rfl dk_Law_write_16 ?_
  refine kv_iload_n (pc := 17) 3 rfl rfl dk_Law_write_17 ?_
  refine kv_putC (pc := 18) kf_Law_19 kr_18 kn_18 rfl rfl rfl dk_Law_write_18 (fun c4 => ?_)
  exact kv_vret (pc := 21) (fun h => h) rfl dk_Law_write_21
theorem dk_K_words_0 : decode prog_1_method_20_code 0 = .ok (.aload_n 0, 1) := by decide +kernel
theorem dk_K_words_1 : decode prog_1_method_20_code 1 = .ok (.iload_n 1, 1) := by decide +kernel
theorem dk_K_words_2 : decode prog_1_method_20_code 2 = .ok (.invokevirtual 265, 3) := by decide +kernel
theorem dk_K_words_5 : decode prog_1_method_20_code 5 = .ok (.istore_n 2, 1) := by decide +kernel
theorem dk_K_words_6 : decode prog_1_method_20_code 6 = .ok (.iload_n 2, 1) := by decide +kernel
theorem dk_K_words_7 : decode prog_1_method_20_code 7 = .ok (.ifCond .eq 5, 3) := by decide +kernel
theorem dk_K_words_10 : decode prog_1_method_20_code 10 = .ok (.iload_n 2, 1) := by decide +kernel
theorem dk_K_words_11 : decode prog_1_method_20_code 11 = .ok (.ireturn, 1) := by decide +kernel
theorem dk_K_words_12 : decode prog_1_method_20_code 12 = .ok (.aload_n 0, 1) := by decide +kernel
theorem dk_K_words_13 : decode prog_1_method_20_code 13 = .ok (.getfield 21, 3) := by decide +kernel
theorem dk_K_words_16 : decode prog_1_method_20_code 16 = .ok (.iload_n 1, 1) := by decide +kernel
theorem dk_K_words_17 : decode prog_1_method_20_code 17 = .ok (.aaload, 1) := by decide +kernel
theorem dk_K_words_18 : decode prog_1_method_20_code 18 = .ok (.astore_n 3, 1) := by decide +kernel
theorem dk_K_words_19 : decode prog_1_method_20_code 19 = .ok (.aload_n 0, 1) := by decide +kernel
theorem dk_K_words_20 : decode prog_1_method_20_code 20 = .ok (.getfield 43, 3) := by decide +kernel
theorem dk_K_words_23 : decode prog_1_method_20_code 23 = .ok (.aload_n 3, 1) := by decide +kernel
theorem dk_K_words_24 : decode prog_1_method_20_code 24 = .ok (.getfield 184, 3) := by decide +kernel
theorem dk_K_words_27 : decode prog_1_method_20_code 27 = .ok (.aload_n 3, 1) := by decide +kernel
theorem dk_K_words_28 : decode prog_1_method_20_code 28 = .ok (.getfield 174, 3) := by decide +kernel
theorem dk_K_words_31 : decode prog_1_method_20_code 31 = .ok (.aload_n 0, 1) := by decide +kernel
theorem dk_K_words_32 : decode prog_1_method_20_code 32 = .ok (.getfield 10, 3) := by decide +kernel
theorem dk_K_words_35 : decode prog_1_method_20_code 35 = .ok (.invokevirtual 268, 3) := by decide +kernel
theorem dk_K_words_38 : decode prog_1_method_20_code 38 = .ok (.pop, 1) := by decide +kernel
theorem dk_K_words_39 : decode prog_1_method_20_code 39 = .ok (.aload_n 0, 1) := by decide +kernel
theorem dk_K_words_40 : decode prog_1_method_20_code 40 = .ok (.getfield 43, 3) := by decide +kernel
theorem dk_K_words_43 : decode prog_1_method_20_code 43 = .ok (.invokevirtual 272, 3) := by decide +kernel
theorem dk_K_words_46 : decode prog_1_method_20_code 46 = .ok (.ifCond .eq 11, 3) := by decide +kernel
theorem dk_K_words_49 : decode prog_1_method_20_code 49 = .ok (.aload_n 0, 1) := by decide +kernel
theorem dk_K_words_50 : decode prog_1_method_20_code 50 = .ok (.getfield 43, 3) := by decide +kernel
theorem dk_K_words_53 : decode prog_1_method_20_code 53 = .ok (.invokevirtual 272, 3) := by decide +kernel
theorem dk_K_words_56 : decode prog_1_method_20_code 56 = .ok (.ireturn, 1) := by decide +kernel
theorem dk_K_words_57 : decode prog_1_method_20_code 57 = .ok (.aload_n 0, 1) := by decide +kernel
theorem dk_K_words_58 : decode prog_1_method_20_code 58 = .ok (.getfield 10, 3) := by decide +kernel
theorem dk_K_words_61 : decode prog_1_method_20_code 61 = .ok (.getfield 275, 3) := by decide +kernel
theorem dk_K_words_64 : decode prog_1_method_20_code 64 = .ok (.aload_n 3, 1) := by decide +kernel
theorem dk_K_words_65 : decode prog_1_method_20_code 65 = .ok (.getfield 184, 3) := by decide +kernel
theorem dk_K_words_68 : decode prog_1_method_20_code 68 = .ok (.aload_n 3, 1) := by decide +kernel
theorem dk_K_words_69 : decode prog_1_method_20_code 69 = .ok (.getfield 174, 3) := by decide +kernel
theorem dk_K_words_72 : decode prog_1_method_20_code 72 = .ok (.aload_n 0, 1) := by decide +kernel
theorem dk_K_words_73 : decode prog_1_method_20_code 73 = .ok (.getfield 43, 3) := by decide +kernel
theorem dk_K_words_76 : decode prog_1_method_20_code 76 = .ok (.getfield 279, 3) := by decide +kernel
theorem dk_K_words_79 : decode prog_1_method_20_code 79 = .ok (.invokevirtual 282, 3) := by decide +kernel
theorem dk_K_words_82 : decode prog_1_method_20_code 82 = .ok (.aload_n 0, 1) := by decide +kernel
theorem dk_K_words_83 : decode prog_1_method_20_code 83 = .ok (.getfield 43, 3) := by decide +kernel
theorem dk_K_words_86 : decode prog_1_method_20_code 86 = .ok (.getfield 279, 3) := by decide +kernel
theorem dk_K_words_89 : decode prog_1_method_20_code 89 = .ok (.ireturn, 1) := by decide +kernel
noncomputable def fx_K_words (p1 : Int32) (c : (Nat → Nat → Int32)) : Option (Int32 × (Nat → Nat → Int32)) :=
  kv_bind1 (fx_K_bytesRefusal p1 c) (fun v1 =>
  if v1 = 0 then
    kv_gd (kv_in p1 8) (
    kv_bind2 (fx_Reader_read (kv_tg (kv_tg 51 p1.toNatClampNeg) 0) (c (kv_tg 51 p1.toNatClampNeg) 3) c) (fun v3 c4 =>
    kv_bind1 (fx_Reader_faultTold c4) (fun v5 =>
    if v5 = 0 then
      kv_bind1 (fx_Law_write (kv_tg (kv_tg 51 p1.toNatClampNeg) 0) (c4 (kv_tg 51 p1.toNatClampNeg) 3) (c4 75 5) c4) (fun c6 =>
      some ((c6 75 5), c6))
    else
      kv_bind1 (fx_Reader_faultTold c4) (fun v7 =>
      some (v7, c4)))))
  else
    some (v1, c))
set_option maxRecDepth 20000 in
theorem cx_K_words (d : Nat) (p1 : Int32) (c : (Nat → Nat → Int32)) (y : (Nat → Nat → Int32) × (Nat → Int64) × (Nat → Int64)) : ∀ a, fx_K_words p1 c = some a → kv_C kM_K_words (d + 28) [.ref 0, .int p1] (c, y) (some (.int a.1), (a.2, y)) := by
  refine kv_entryX (E := fun a : (Int32 × (Nat → Nat → Int32)) => (some (.int a.1), (a.2, y))) rfl (Nat.le_of_ble_eq_true rfl) (fun o => ?_)
  unfold fx_K_words
  show kv_X _ _ _ _ _ 0 [(0, .ref 0), (1, .int p1)] [] (c, y)
  refine kv_aload_n (pc := 0) 0 rfl rfl dk_K_words_0 ?_
  refine kv_iload_n (pc := 1) 1 rfl rfl dk_K_words_1 ?_
  refine kv_cV_cI (pc := 2) (as := [.int p1]) (st := []) ko_K_bytesRefusal kc_10 rfl rfl kr_0 kw_841 (Nat.le_of_ble_eq_true rfl) rfl dk_K_words_2 (cx_K_bytesRefusal (d + 24) p1 c y) (fun v1 => ?_)
  refine kv_istore_n (pc := 5) (lv' := [(2, .int v1), (0, .ref 0), (1, .int p1)]) rfl (Nat.le_of_ble_eq_true rfl) rfl dk_K_words_5 ?_
  refine kv_iload_n (pc := 6) 0 rfl rfl dk_K_words_6 ?_
  refine kv_if_eq (pc := 7) (tgt := 12) dk_K_words_7 rfl ?_ ?_
  · refine kv_aload_n (pc := 12) 1 rfl rfl dk_K_words_12 ?_
    refine kv_getR (pc := 13) kf_K_21 kr_0 rfl kt_0_3 dk_K_words_13 ?_
    refine kv_iload_n (pc := 16) 2 rfl rfl dk_K_words_16 ?_
    refine kv_guard (fun g2 => ?_)
    refine kv_aald (pc := 17) kr_51 kl_51 g2 rfl dk_K_words_17 ?_
    refine kv_astore_n (pc := 18) (lv' := [(3, .ref (kv_tg 51 p1.toNatClampNeg)), (2, .int v1), (0, .ref 0), (1, .int p1)]) rfl (Nat.le_of_ble_eq_true rfl) rfl dk_K_words_18 ?_
    refine kv_aload_n (pc := 19) 2 rfl rfl dk_K_words_19 ?_
    refine kv_getR (pc := 20) kf_K_43 kr_0 rfl kt_0_6 dk_K_words_20 ?_
    refine kv_aload_n (pc := 23) 0 rfl rfl dk_K_words_23 ?_
    refine kv_getR (pc := 24) kf_K_184 (kv_sh g2) rfl rfl dk_K_words_24 ?_
    refine kv_aload_n (pc := 27) 0 rfl rfl dk_K_words_27 ?_
    refine kv_getC (pc := 28) kf_K_174 (kv_sh g2) (kv_7nc (kv_sh g2)) rfl dk_K_words_28 ?_
    refine kv_aload_n (pc := 31) 2 rfl rfl dk_K_words_31 ?_
    refine kv_getR (pc := 32) kf_K_10 kr_0 rfl kt_0_0 dk_K_words_32 ?_
    refine kv_cV_cIc (pc := 35) (as := [.ref (kv_tg (kv_tg 51 p1.toNatClampNeg) 0), .int (c (kv_tg 51 p1.toNatClampNeg) 3), .ref 1]) (st := []) ko_Reader_read kc_6 rfl rfl kr_75 kw_845 (Nat.le_of_ble_eq_true rfl) rfl dk_K_words_35 (cx_Reader_read d (kv_tg (kv_tg 51 p1.toNatClampNeg) 0) (c (kv_tg 51 p1.toNatClampNeg) 3) c y (kv_7e (kv_sh g2)) (kv_7enc (kv_sh g2))) (fun v3 c4 => ?_)
    refine kv_popI (pc := 38) dk_K_words_38 ?_
    refine kv_aload_n (pc := 39) 2 rfl rfl dk_K_words_39 ?_
    refine kv_getR (pc := 40) kf_K_43 kr_0 rfl kt_0_6 dk_K_words_40 ?_
    refine kv_cV_cI (pc := 43) (as := []) (st := []) ko_Reader_faultTold kc_6 rfl rfl kr_75 kw_898 (Nat.le_of_ble_eq_true rfl) rfl dk_K_words_43 (cx_Reader_faultTold (d + 27) c4 y) (fun v5 => ?_)
    refine kv_if_eq (pc := 46) (tgt := 57) dk_K_words_46 rfl ?_ ?_
    · refine kv_aload_n (pc := 57) 2 rfl rfl dk_K_words_57 ?_
      refine kv_getR (pc := 58) kf_K_10 kr_0 rfl kt_0_0 dk_K_words_58 ?_
      refine kv_getR (pc := 61) kf_K_275 kr_1 rfl kt_1_2 dk_K_words_61 ?_
      refine kv_aload_n (pc := 64) 0 rfl rfl dk_K_words_64 ?_
      refine kv_getR (pc := 65) kf_K_184 (kv_sh g2) rfl rfl dk_K_words_65 ?_
      refine kv_aload_n (pc := 68) 0 rfl rfl dk_K_words_68 ?_
      refine kv_getC (pc := 69) kf_K_174 (kv_sh g2) (kv_7nc (kv_sh g2)) rfl dk_K_words_69 ?_
      refine kv_aload_n (pc := 72) 2 rfl rfl dk_K_words_72 ?_
      refine kv_getR (pc := 73) kf_K_43 kr_0 rfl kt_0_6 dk_K_words_73 ?_
      refine kv_getC (pc := 76) kf_K_279 kr_75 kn_75 rfl dk_K_words_76 ?_
      refine kv_cV_cc (pc := 79) (as := [.ref (kv_tg (kv_tg 51 p1.toNatClampNeg) 0), .int (c4 (kv_tg 51 p1.toNatClampNeg) 3), .int (c4 75 5)]) (st := []) ko_Law_write kc_1 rfl rfl kr_18 kw_902 (Nat.le_of_ble_eq_true rfl) rfl dk_K_words_79 (cx_Law_write (d + 26) (kv_tg (kv_tg 51 p1.toNatClampNeg) 0) (c4 (kv_tg 51 p1.toNatClampNeg) 3) (c4 75 5) c4 y (kv_7e (kv_sh g2)) (kv_7enc (kv_sh g2))) (fun c6 => ?_)
      refine kv_aload_n (pc := 82) 2 rfl rfl dk_K_words_82 ?_
      refine kv_getR (pc := 83) kf_K_43 kr_0 rfl kt_0_6 dk_K_words_83 ?_
      refine kv_getC (pc := 86) kf_K_279 kr_75 kn_75 rfl dk_K_words_86 ?_
      exact kv_iret (pc := 89) (fun h => h) rfl dk_K_words_89
    · refine kv_aload_n (pc := 49) 2 rfl rfl dk_K_words_49 ?_
      refine kv_getR (pc := 50) kf_K_43 kr_0 rfl kt_0_6 dk_K_words_50 ?_
      refine kv_cV_cI (pc := 53) (as := []) (st := []) ko_Reader_faultTold kc_6 rfl rfl kr_75 kw_898 (Nat.le_of_ble_eq_true rfl) rfl dk_K_words_53 (cx_Reader_faultTold (d + 27) c4 y) (fun v7 => ?_)
      exact kv_iret (pc := 56) (fun h => h) rfl dk_K_words_56
  · refine kv_iload_n (pc := 10) 0 rfl rfl dk_K_words_10 ?_
    exact kv_iret (pc := 11) (fun h => h) rfl dk_K_words_11
theorem dk_D_sign_0 : decode prog_13_method_50_code 0 = .ok (.aload_n 0, 1) := by decide +kernel
theorem dk_D_sign_1 : decode prog_13_method_50_code 1 = .ok (.getfield 209, 3) := by decide +kernel
theorem dk_D_sign_4 : decode prog_13_method_50_code 4 = .ok (.aload_n 0, 1) := by decide +kernel
theorem dk_D_sign_5 : decode prog_13_method_50_code 5 = .ok (.getfield 212, 3) := by decide +kernel
theorem dk_D_sign_8 : decode prog_13_method_50_code 8 = .ok (.if_icmp .ge 20, 3) := by decide +kernel
theorem dk_D_sign_11 : decode prog_13_method_50_code 11 = .ok (.aload_n 0, 1) := by decide +kernel
theorem dk_D_sign_12 : decode prog_13_method_50_code 12 = .ok (.getfield 54, 3) := by decide +kernel
theorem dk_D_sign_15 : decode prog_13_method_50_code 15 = .ok (.aload_n 0, 1) := by decide +kernel
theorem dk_D_sign_16 : decode prog_13_method_50_code 16 = .ok (.getfield 215, 3) := by decide +kernel
theorem dk_D_sign_19 : decode prog_13_method_50_code 19 = .ok (.aload_n 0, 1) := by decide +kernel
theorem dk_D_sign_20 : decode prog_13_method_50_code 20 = .ok (.getfield 209, 3) := by decide +kernel
theorem dk_D_sign_23 : decode prog_13_method_50_code 23 = .ok (.iadd, 1) := by decide +kernel
theorem dk_D_sign_24 : decode prog_13_method_50_code 24 = .ok (.iaload, 1) := by decide +kernel
theorem dk_D_sign_25 : decode prog_13_method_50_code 25 = .ok (.goto 6, 3) := by decide +kernel
theorem dk_D_sign_28 : decode prog_13_method_50_code 28 = .ok (.sipush (-1000), 3) := by decide +kernel
theorem dk_D_sign_31 : decode prog_13_method_50_code 31 = .ok (.ireturn, 1) := by decide +kernel
noncomputable def fx_D_sign (m : (Nat → Nat → Int32)) : Option Int32 :=
  if (m 84 20) ≤ (m 84 18) then
    some (-1000 : Int32)
  else
    kv_tx (m 84 23).toNatClampNeg (fun t1 =>
    kv_gd (kv_in ((m 84 19) + (m 84 18)) (kv_ln t1)) (
    some (m t1 ((m 84 19) + (m 84 18)).toNatClampNeg)))
set_option maxRecDepth 20000 in
theorem cx_D_sign (d : Nat) (c : (Nat → Nat → Int32)) (m : (Nat → Nat → Int32)) (f : (Nat → Int64)) (u : (Nat → Int64)) : ∀ a, fx_D_sign m = some a → kv_C kM_D_sign (d + 0) [.ref 84] (c, m, f, u) (some (.int a), (c, m, f, u)) := by
  refine kv_entryX (E := fun a : Int32 => (some (.int a), (c, m, f, u))) rfl (Nat.le_of_ble_eq_true rfl) (fun o => ?_)
  unfold fx_D_sign
  show kv_X _ _ _ _ _ 0 [(0, .ref 84)] [] (c, m, f, u)
  refine kv_aload_n (pc := 0) 0 rfl rfl dk_D_sign_0 ?_
  refine kv_getM (pc := 1) kf_D_209 kr_84 kn_84 rfl dk_D_sign_1 ?_
  refine kv_aload_n (pc := 4) 0 rfl rfl dk_D_sign_4 ?_
  refine kv_getM (pc := 5) kf_D_212 kr_84 kn_84 rfl dk_D_sign_5 ?_
  refine kv_icmp_ge (pc := 8) (tgt := 28) dk_D_sign_8 rfl ?_ ?_
  · refine kv_sipush (pc := 28) (v := (-1000 : Int32)) dk_D_sign_28 kks_m1000 ?_
    exact kv_iret (pc := 31) (fun h => h) rfl dk_D_sign_31
  · refine kv_aload_n (pc := 11) 0 rfl rfl dk_D_sign_11 ?_
    refine kv_getV (pc := 12) kf_D_54 kr_84 kn_84 rfl dk_D_sign_12 (fun t1 ht1 hct1 => ?_)
    refine kv_aload_n (pc := 15) 0 rfl rfl dk_D_sign_15 ?_
    refine kv_getM (pc := 16) kf_D_215 kr_84 kn_84 rfl dk_D_sign_16 ?_
    refine kv_aload_n (pc := 19) 0 rfl rfl dk_D_sign_19 ?_
    refine kv_getM (pc := 20) kf_D_209 kr_84 kn_84 rfl dk_D_sign_20 ?_
    refine kv_iadd (pc := 23) dk_D_sign_23 ?_
    refine kv_guard (fun g2 => ?_)
    refine kv_aldM (pc := 24) ht1 hct1 rfl g2 rfl dk_D_sign_24 ?_
    refine kv_goto (pc := 25) (tgt := 31) dk_D_sign_25 rfl ?_
    exact kv_iret (pc := 31) (fun h => h) rfl dk_D_sign_31
theorem dk_D_readsNumber_0 : decode prog_13_method_52_code 0 = .ok (.aload_n 0, 1) := by decide +kernel
theorem dk_D_readsNumber_1 : decode prog_13_method_52_code 1 = .ok (.invokevirtual 218, 3) := by decide +kernel
theorem dk_D_readsNumber_4 : decode prog_13_method_52_code 4 = .ok (.i2l, 1) := by decide +kernel
theorem dk_D_readsNumber_5 : decode prog_13_method_52_code 5 = .ok (.ldc2_w 221, 3) := by decide +kernel
theorem dk_D_readsNumber_8 : decode prog_13_method_52_code 8 = .ok (.ldc2_w 223, 3) := by decide +kernel
theorem dk_D_readsNumber_11 : decode prog_13_method_52_code 11 = .ok (.invokestatic 60, 3) := by decide +kernel
theorem dk_D_readsNumber_14 : decode prog_13_method_52_code 14 = .ok (.ifCond .ne 5, 3) := by decide +kernel
theorem dk_D_readsNumber_17 : decode prog_13_method_52_code 17 = .ok (.iconst 0, 1) := by decide +kernel
theorem dk_D_readsNumber_18 : decode prog_13_method_52_code 18 = .ok (.ireturn, 1) := by decide +kernel
theorem dk_D_readsNumber_19 : decode prog_13_method_52_code 19 = .ok (.aload_n 0, 1) := by decide +kernel
theorem dk_D_readsNumber_20 : decode prog_13_method_52_code 20 = .ok (.aload_n 0, 1) := by decide +kernel
theorem dk_D_readsNumber_21 : decode prog_13_method_52_code 21 = .ok (.invokevirtual 218, 3) := by decide +kernel
theorem dk_D_readsNumber_24 : decode prog_13_method_52_code 24 = .ok (.bipush 48, 2) := by decide +kernel
theorem dk_D_readsNumber_26 : decode prog_13_method_52_code 26 = .ok (.isub, 1) := by decide +kernel
theorem dk_D_readsNumber_27 : decode prog_13_method_52_code 27 = .ok (.putfield 225, 3) := by decide +kernel
theorem dk_D_readsNumber_30 : decode prog_13_method_52_code 30 = .ok (.aload_n 0, 1) := by decide +kernel
theorem dk_D_readsNumber_31 : decode prog_13_method_52_code 31 = .ok (.dup, 1) := by decide +kernel
theorem dk_D_readsNumber_32 : decode prog_13_method_52_code 32 = .ok (.getfield 209, 3) := by decide +kernel
theorem dk_D_readsNumber_35 : decode prog_13_method_52_code 35 = .ok (.iconst 1, 1) := by decide +kernel
theorem dk_D_readsNumber_36 : decode prog_13_method_52_code 36 = .ok (.iadd, 1) := by decide +kernel
theorem dk_D_readsNumber_37 : decode prog_13_method_52_code 37 = .ok (.putfield 209, 3) := by decide +kernel
theorem dk_D_readsNumber_40 : decode prog_13_method_52_code 40 = .ok (.iconst 1, 1) := by decide +kernel
theorem dk_D_readsNumber_41 : decode prog_13_method_52_code 41 = .ok (.istore_n 1, 1) := by decide +kernel
theorem dk_D_readsNumber_42 : decode prog_13_method_52_code 42 = .ok (.iload_n 1, 1) := by decide +kernel
theorem dk_D_readsNumber_43 : decode prog_13_method_52_code 43 = .ok (.iconst 3, 1) := by decide +kernel
theorem dk_D_readsNumber_44 : decode prog_13_method_52_code 44 = .ok (.if_icmp .ge 62, 3) := by decide +kernel
theorem dk_D_readsNumber_47 : decode prog_13_method_52_code 47 = .ok (.aload_n 0, 1) := by decide +kernel
theorem dk_D_readsNumber_48 : decode prog_13_method_52_code 48 = .ok (.getfield 225, 3) := by decide +kernel
theorem dk_D_readsNumber_51 : decode prog_13_method_52_code 51 = .ok (.ifCond .le 55, 3) := by decide +kernel
theorem dk_D_readsNumber_54 : decode prog_13_method_52_code 54 = .ok (.aload_n 0, 1) := by decide +kernel
theorem dk_D_readsNumber_55 : decode prog_13_method_52_code 55 = .ok (.invokevirtual 218, 3) := by decide +kernel
theorem dk_D_readsNumber_58 : decode prog_13_method_52_code 58 = .ok (.i2l, 1) := by decide +kernel
theorem dk_D_readsNumber_59 : decode prog_13_method_52_code 59 = .ok (.ldc2_w 221, 3) := by decide +kernel
theorem dk_D_readsNumber_62 : decode prog_13_method_52_code 62 = .ok (.ldc2_w 223, 3) := by decide +kernel
theorem dk_D_readsNumber_65 : decode prog_13_method_52_code 65 = .ok (.invokestatic 60, 3) := by decide +kernel
theorem dk_D_readsNumber_68 : decode prog_13_method_52_code 68 = .ok (.ifCond .eq 38, 3) := by decide +kernel
theorem dk_D_readsNumber_71 : decode prog_13_method_52_code 71 = .ok (.aload_n 0, 1) := by decide +kernel
theorem dk_D_readsNumber_72 : decode prog_13_method_52_code 72 = .ok (.bipush 10, 2) := by decide +kernel
theorem dk_D_readsNumber_74 : decode prog_13_method_52_code 74 = .ok (.aload_n 0, 1) := by decide +kernel
theorem dk_D_readsNumber_75 : decode prog_13_method_52_code 75 = .ok (.getfield 225, 3) := by decide +kernel
theorem dk_D_readsNumber_78 : decode prog_13_method_52_code 78 = .ok (.imul, 1) := by decide +kernel
theorem dk_D_readsNumber_79 : decode prog_13_method_52_code 79 = .ok (.aload_n 0, 1) := by decide +kernel
theorem dk_D_readsNumber_80 : decode prog_13_method_52_code 80 = .ok (.invokevirtual 218, 3) := by decide +kernel
theorem dk_D_readsNumber_83 : decode prog_13_method_52_code 83 = .ok (.iadd, 1) := by decide +kernel
theorem dk_D_readsNumber_84 : decode prog_13_method_52_code 84 = .ok (.bipush 48, 2) := by decide +kernel
theorem dk_D_readsNumber_86 : decode prog_13_method_52_code 86 = .ok (.isub, 1) := by decide +kernel
theorem dk_D_readsNumber_87 : decode prog_13_method_52_code 87 = .ok (.putfield 225, 3) := by decide +kernel
theorem dk_D_readsNumber_90 : decode prog_13_method_52_code 90 = .ok (.aload_n 0, 1) := by decide +kernel
theorem dk_D_readsNumber_91 : decode prog_13_method_52_code 91 = .ok (.dup, 1) := by decide +kernel
theorem dk_D_readsNumber_92 : decode prog_13_method_52_code 92 = .ok (.getfield 209, 3) := by decide +kernel
theorem dk_D_readsNumber_95 : decode prog_13_method_52_code 95 = .ok (.iconst 1, 1) := by decide +kernel
theorem dk_D_readsNumber_96 : decode prog_13_method_52_code 96 = .ok (.iadd, 1) := by decide +kernel
theorem dk_D_readsNumber_97 : decode prog_13_method_52_code 97 = .ok (.putfield 209, 3) := by decide +kernel
theorem dk_D_readsNumber_100 : decode prog_13_method_52_code 100 = .ok (.iinc 1 1, 3) := by decide +kernel
theorem dk_D_readsNumber_103 : decode prog_13_method_52_code 103 = .ok (.goto (-61), 3) := by decide +kernel
theorem dk_D_readsNumber_106 : decode prog_13_method_52_code 106 = .ok (.iconst 1, 1) := by decide +kernel
theorem dk_D_readsNumber_107 : decode prog_13_method_52_code 107 = .ok (.ireturn, 1) := by decide +kernel
noncomputable def fb_D_readsNumber_42 (x6 : Int32) (m7 : (Nat → Nat → Int32)) : Option ((Int32 × (Nat → Nat → Int32)) ⊕ (Nat → Nat → Int32)) :=
  if (3 : Int32) ≤ x6 then
    some (.inr m7)
  else
    if (m7 84 22) ≤ 0 then
      some (.inr m7)
    else
      kv_bind1 (fx_D_sign m7) (fun v9 =>
      kv_bind1 (fx_D_isIn v9.toInt64 (48 : Int64) (57 : Int64)) (fun b10 =>
      if b10 = true then
        kv_bind1 (fx_D_sign m7) (fun v11 =>
        kv_let (kv_st m7 84 22 ((((10 : Int32) * (m7 84 22)) + v11) - (48 : Int32))) (fun m12 =>
        kv_let (kv_st m12 84 18 ((m12 84 18) + (1 : Int32))) (fun m13 =>
        some (.inl ((x6 + (1 : Int32)), m13)))))
      else
        some (.inr m7)))
noncomputable def fx_D_readsNumber (m : (Nat → Nat → Int32)) : Option (Bool × (Nat → Nat → Int32)) :=
  kv_bind1 (fx_D_sign m) (fun v1 =>
  kv_bind1 (fx_D_isIn v1.toInt64 (48 : Int64) (57 : Int64)) (fun b2 =>
  if b2 = true then
    kv_bind1 (fx_D_sign m) (fun v3 =>
    kv_let (kv_st m 84 22 (v3 - (48 : Int32))) (fun m4 =>
    kv_let (kv_st m4 84 18 ((m4 84 18) + (1 : Int32))) (fun m5 =>
    (kv_loop (kv_u2 (fb_D_readsNumber_42)) ((1 : Int32), m5)).bind (kv_u1 (fun m8 =>
    some (true, m8))))))
  else
    some (false, m)))
set_option maxRecDepth 20000 in
theorem cx_D_readsNumber (d : Nat) (c : (Nat → Nat → Int32)) (m : (Nat → Nat → Int32)) (f : (Nat → Int64)) (u : (Nat → Int64)) : ∀ a, fx_D_readsNumber m = some a → kv_C kM_D_readsNumber (d + 1) [.ref 84] (c, m, f, u) (some (.int (kv_b a.1)), (c, a.2, f, u)) := by
  refine kv_entryX (E := fun a : (Bool × (Nat → Nat → Int32)) => (some (.int (kv_b a.1)), (c, a.2, f, u))) rfl (Nat.le_of_ble_eq_true rfl) (fun o => ?_)
  unfold fx_D_readsNumber
  show kv_X _ _ _ _ _ 0 [(0, .ref 84)] [] (c, m, f, u)
  refine kv_aload_n (pc := 0) 0 rfl rfl dk_D_readsNumber_0 ?_
  refine kv_cV_mI (pc := 1) (as := []) (st := []) ko_D_sign kc_11 rfl rfl kr_84 kw_1549 (Nat.le_of_ble_eq_true rfl) rfl dk_D_readsNumber_1 (cx_D_sign d c m f u) (fun v1 => ?_)
  refine kv_i2l (pc := 4) dk_D_readsNumber_4 ?_
  refine kv_ldc2 (pc := 5) (v := (48 : Int64)) kw_1553 dk_D_readsNumber_5 ?_
  refine kv_ldc2 (pc := 8) (v := (57 : Int64)) kw_1554 dk_D_readsNumber_8 ?_
  refine kv_cS_mZ (pc := 11) (as := [.long v1.toInt64, .long (48 : Int64), .long (57 : Int64)]) (st := []) ko_D_isIn rfl kw_1330 (Nat.le_of_ble_eq_true rfl) rfl dk_D_readsNumber_11 (cx_D_isIn d v1.toInt64 (48 : Int64) (57 : Int64) c m f u) (fun b2 => ?_)
  refine kv_zif_ne (pc := 14) (tgt := 19) dk_D_readsNumber_14 rfl ?_ ?_
  · refine kv_aload_n (pc := 19) 0 rfl rfl dk_D_readsNumber_19 ?_
    refine kv_aload_n (pc := 20) 0 rfl rfl dk_D_readsNumber_20 ?_
    refine kv_cV_mI (pc := 21) (as := []) (st := [.ref 84]) ko_D_sign kc_11 rfl rfl kr_84 kw_1549 (Nat.le_of_ble_eq_true rfl) rfl dk_D_readsNumber_21 (cx_D_sign d c m f u) (fun v3 => ?_)
    refine kv_bipush (pc := 24) (v := (48 : Int32)) dk_D_readsNumber_24 kkb_48 ?_
    refine kv_isub (pc := 26) dk_D_readsNumber_26 ?_
    refine kv_putM (pc := 27) kf_D_225 kr_84 kn_84 rfl rfl rfl dk_D_readsNumber_27 (fun m4 => ?_)
    refine kv_aload_n (pc := 30) 0 rfl rfl dk_D_readsNumber_30 ?_
    refine kv_dupR (pc := 31) dk_D_readsNumber_31 ?_
    refine kv_getM (pc := 32) kf_D_209 kr_84 kn_84 rfl dk_D_readsNumber_32 ?_
    refine kv_iconst (pc := 35) (v := (1 : Int32)) dk_D_readsNumber_35 kki_1 ?_
    refine kv_iadd (pc := 36) dk_D_readsNumber_36 ?_
    refine kv_putM (pc := 37) kf_D_209 kr_84 kn_84 rfl rfl rfl dk_D_readsNumber_37 (fun m5 => ?_)
    refine kv_iconst (pc := 40) (v := (1 : Int32)) dk_D_readsNumber_40 kki_1 ?_
    refine kv_istore_n (pc := 41) (lv' := [(1, .int (1 : Int32)), (0, .ref 84)]) rfl (Nat.le_of_ble_eq_true rfl) rfl dk_D_readsNumber_41 ?_
    refine kv_sub (lv' := [(0, .ref 84), (1, .int (1 : Int32))]) [1, 0] rfl ?_
    refine kv_lp_2_1 (LV := fun x6 m7 => [(0, .ref 84), (1, .int x6)]) (WW := fun x6 m7 => (c, m7, f, u)) (LE1 := fun m8 => []) (WE1 := fun m8 => (c, m8, f, u)) (pe1 := 106) ?_ ?_
    · intro m8
      show kv_X _ _ _ _ _ 106 [] [] (c, m8, f, u)
      refine kv_iconst (pc := 106) (v := (1 : Int32)) dk_D_readsNumber_106 kki_1 ?_
      exact kv_zret (pc := 107) (b := true) (fun h => h) rfl dk_D_readsNumber_107
    · intro hx42_0 x6 m7
      show kv_X _ _ _ _ (fb_D_readsNumber_42 x6 m7) 42 [(0, .ref 84), (1, .int x6)] [] (c, m7, f, u)
      unfold fb_D_readsNumber_42
      refine kv_iload_n (pc := 42) 1 rfl rfl dk_D_readsNumber_42 ?_
      refine kv_iconst (pc := 43) (v := (3 : Int32)) dk_D_readsNumber_43 kki_3 ?_
      refine kv_icmp_ge (pc := 44) (tgt := 106) dk_D_readsNumber_44 rfl ?_ ?_
      · exact kv_sub [] rfl (kv_leaf (hx42_0 _))
      · refine kv_aload_n (pc := 47) 0 rfl rfl dk_D_readsNumber_47 ?_
        refine kv_getM (pc := 48) kf_D_225 kr_84 kn_84 rfl dk_D_readsNumber_48 ?_
        refine kv_if_le (pc := 51) (tgt := 106) dk_D_readsNumber_51 rfl ?_ ?_
        · exact kv_sub [] rfl (kv_leaf (hx42_0 _))
        · refine kv_aload_n (pc := 54) 0 rfl rfl dk_D_readsNumber_54 ?_
          refine kv_cV_mI (pc := 55) (as := []) (st := []) ko_D_sign kc_11 rfl rfl kr_84 kw_1549 (Nat.le_of_ble_eq_true rfl) rfl dk_D_readsNumber_55 (cx_D_sign d c m7 f u) (fun v9 => ?_)
          refine kv_i2l (pc := 58) dk_D_readsNumber_58 ?_
          refine kv_ldc2 (pc := 59) (v := (48 : Int64)) kw_1553 dk_D_readsNumber_59 ?_
          refine kv_ldc2 (pc := 62) (v := (57 : Int64)) kw_1554 dk_D_readsNumber_62 ?_
          refine kv_cS_mZ (pc := 65) (as := [.long v9.toInt64, .long (48 : Int64), .long (57 : Int64)]) (st := []) ko_D_isIn rfl kw_1330 (Nat.le_of_ble_eq_true rfl) rfl dk_D_readsNumber_65 (cx_D_isIn d v9.toInt64 (48 : Int64) (57 : Int64) c m7 f u) (fun b10 => ?_)
          refine kv_zif_eq (pc := 68) (tgt := 106) dk_D_readsNumber_68 rfl ?_ ?_
          · exact kv_sub [] rfl (kv_leaf (hx42_0 _))
          · refine kv_aload_n (pc := 71) 0 rfl rfl dk_D_readsNumber_71 ?_
            refine kv_bipush (pc := 72) (v := (10 : Int32)) dk_D_readsNumber_72 kkb_10 ?_
            refine kv_aload_n (pc := 74) 0 rfl rfl dk_D_readsNumber_74 ?_
            refine kv_getM (pc := 75) kf_D_225 kr_84 kn_84 rfl dk_D_readsNumber_75 ?_
            refine kv_imul (pc := 78) dk_D_readsNumber_78 ?_
            refine kv_aload_n (pc := 79) 0 rfl rfl dk_D_readsNumber_79 ?_
            refine kv_cV_mI (pc := 80) (as := []) (st := [.int ((10 : Int32) * (m7 84 22)), .ref 84]) ko_D_sign kc_11 rfl rfl kr_84 kw_1549 (Nat.le_of_ble_eq_true rfl) rfl dk_D_readsNumber_80 (cx_D_sign d c m7 f u) (fun v11 => ?_)
            refine kv_iadd (pc := 83) dk_D_readsNumber_83 ?_
            refine kv_bipush (pc := 84) (v := (48 : Int32)) dk_D_readsNumber_84 kkb_48 ?_
            refine kv_isub (pc := 86) dk_D_readsNumber_86 ?_
            refine kv_putM (pc := 87) kf_D_225 kr_84 kn_84 rfl rfl rfl dk_D_readsNumber_87 (fun m12 => ?_)
            refine kv_aload_n (pc := 90) 0 rfl rfl dk_D_readsNumber_90 ?_
            refine kv_dupR (pc := 91) dk_D_readsNumber_91 ?_
            refine kv_getM (pc := 92) kf_D_209 kr_84 kn_84 rfl dk_D_readsNumber_92 ?_
            refine kv_iconst (pc := 95) (v := (1 : Int32)) dk_D_readsNumber_95 kki_1 ?_
            refine kv_iadd (pc := 96) dk_D_readsNumber_96 ?_
            refine kv_putM (pc := 97) kf_D_209 kr_84 kn_84 rfl rfl rfl dk_D_readsNumber_97 (fun m13 => ?_)
            refine kv_iinc (pc := 100) (kk := (1 : Int32)) (lv' := [(1, .int (x6 + (1 : Int32))), (0, .ref 84)]) 1 rfl kki_1 rfl (Nat.le_of_ble_eq_true rfl) dk_D_readsNumber_100 ?_
            refine kv_goto (pc := 103) (tgt := 42) dk_D_readsNumber_103 rfl ?_
            exact kv_sub [1, 0] rfl (kv_leaf (fun h => h))
  · refine kv_iconst (pc := 17) (v := (0 : Int32)) dk_D_readsNumber_17 kki_0 ?_
    exact kv_zret (pc := 18) (b := false) (fun h => h) rfl dk_D_readsNumber_18
theorem dk_D_takes_0 : decode prog_13_method_51_code 0 = .ok (.aload_n 0, 1) := by decide +kernel
theorem dk_D_takes_1 : decode prog_13_method_51_code 1 = .ok (.invokevirtual 218, 3) := by decide +kernel
theorem dk_D_takes_4 : decode prog_13_method_51_code 4 = .ok (.iload_n 1, 1) := by decide +kernel
theorem dk_D_takes_5 : decode prog_13_method_51_code 5 = .ok (.if_icmp .eq 5, 3) := by decide +kernel
theorem dk_D_takes_8 : decode prog_13_method_51_code 8 = .ok (.iconst 0, 1) := by decide +kernel
theorem dk_D_takes_9 : decode prog_13_method_51_code 9 = .ok (.ireturn, 1) := by decide +kernel
theorem dk_D_takes_10 : decode prog_13_method_51_code 10 = .ok (.aload_n 0, 1) := by decide +kernel
theorem dk_D_takes_11 : decode prog_13_method_51_code 11 = .ok (.dup, 1) := by decide +kernel
theorem dk_D_takes_12 : decode prog_13_method_51_code 12 = .ok (.getfield 209, 3) := by decide +kernel
theorem dk_D_takes_15 : decode prog_13_method_51_code 15 = .ok (.iconst 1, 1) := by decide +kernel
theorem dk_D_takes_16 : decode prog_13_method_51_code 16 = .ok (.iadd, 1) := by decide +kernel
theorem dk_D_takes_17 : decode prog_13_method_51_code 17 = .ok (.putfield 209, 3) := by decide +kernel
theorem dk_D_takes_20 : decode prog_13_method_51_code 20 = .ok (.iconst 1, 1) := by decide +kernel
theorem dk_D_takes_21 : decode prog_13_method_51_code 21 = .ok (.ireturn, 1) := by decide +kernel
noncomputable def fx_D_takes (p1 : Int32) (m : (Nat → Nat → Int32)) : Option (Bool × (Nat → Nat → Int32)) :=
  kv_bind1 (fx_D_sign m) (fun v1 =>
  if v1 = p1 then
    kv_let (kv_st m 84 18 ((m 84 18) + (1 : Int32))) (fun m2 =>
    some (true, m2))
  else
    some (false, m))
set_option maxRecDepth 20000 in
theorem cx_D_takes (d : Nat) (p1 : Int32) (c : (Nat → Nat → Int32)) (m : (Nat → Nat → Int32)) (f : (Nat → Int64)) (u : (Nat → Int64)) : ∀ a, fx_D_takes p1 m = some a → kv_C kM_D_takes (d + 1) [.ref 84, .int p1] (c, m, f, u) (some (.int (kv_b a.1)), (c, a.2, f, u)) := by
  refine kv_entryX (E := fun a : (Bool × (Nat → Nat → Int32)) => (some (.int (kv_b a.1)), (c, a.2, f, u))) rfl (Nat.le_of_ble_eq_true rfl) (fun o => ?_)
  unfold fx_D_takes
  show kv_X _ _ _ _ _ 0 [(0, .ref 84), (1, .int p1)] [] (c, m, f, u)
  refine kv_aload_n (pc := 0) 0 rfl rfl dk_D_takes_0 ?_
  refine kv_cV_mI (pc := 1) (as := []) (st := []) ko_D_sign kc_11 rfl rfl kr_84 kw_1549 (Nat.le_of_ble_eq_true rfl) rfl dk_D_takes_1 (cx_D_sign d c m f u) (fun v1 => ?_)
  refine kv_iload_n (pc := 4) 1 rfl rfl dk_D_takes_4 ?_
  refine kv_icmp_eq (pc := 5) (tgt := 10) dk_D_takes_5 rfl ?_ ?_
  · refine kv_aload_n (pc := 10) 0 rfl rfl dk_D_takes_10 ?_
    refine kv_dupR (pc := 11) dk_D_takes_11 ?_
    refine kv_getM (pc := 12) kf_D_209 kr_84 kn_84 rfl dk_D_takes_12 ?_
    refine kv_iconst (pc := 15) (v := (1 : Int32)) dk_D_takes_15 kki_1 ?_
    refine kv_iadd (pc := 16) dk_D_takes_16 ?_
    refine kv_putM (pc := 17) kf_D_209 kr_84 kn_84 rfl rfl rfl dk_D_takes_17 (fun m2 => ?_)
    refine kv_iconst (pc := 20) (v := (1 : Int32)) dk_D_takes_20 kki_1 ?_
    exact kv_zret (pc := 21) (b := true) (fun h => h) rfl dk_D_takes_21
  · refine kv_iconst (pc := 8) (v := (0 : Int32)) dk_D_takes_8 kki_0 ?_
    exact kv_zret (pc := 9) (b := false) (fun h => h) rfl dk_D_takes_9
theorem dk_D_isField_0 : decode prog_13_method_55_code 0 = .ok (.iload_n 0, 1) := by decide +kernel
theorem dk_D_isField_1 : decode prog_13_method_55_code 1 = .ok (.bipush 80, 2) := by decide +kernel
theorem dk_D_isField_3 : decode prog_13_method_55_code 3 = .ok (.if_icmp .eq 21, 3) := by decide +kernel
theorem dk_D_isField_6 : decode prog_13_method_55_code 6 = .ok (.iload_n 0, 1) := by decide +kernel
theorem dk_D_isField_7 : decode prog_13_method_55_code 7 = .ok (.bipush 109, 2) := by decide +kernel
theorem dk_D_isField_9 : decode prog_13_method_55_code 9 = .ok (.if_icmp .eq 15, 3) := by decide +kernel
theorem dk_D_isField_12 : decode prog_13_method_55_code 12 = .ok (.iload_n 0, 1) := by decide +kernel
theorem dk_D_isField_13 : decode prog_13_method_55_code 13 = .ok (.bipush 111, 2) := by decide +kernel
theorem dk_D_isField_15 : decode prog_13_method_55_code 15 = .ok (.if_icmp .eq 9, 3) := by decide +kernel
theorem dk_D_isField_18 : decode prog_13_method_55_code 18 = .ok (.iload_n 0, 1) := by decide +kernel
theorem dk_D_isField_19 : decode prog_13_method_55_code 19 = .ok (.bipush 99, 2) := by decide +kernel
theorem dk_D_isField_21 : decode prog_13_method_55_code 21 = .ok (.if_icmp .ne 7, 3) := by decide +kernel
theorem dk_D_isField_24 : decode prog_13_method_55_code 24 = .ok (.iconst 1, 1) := by decide +kernel
theorem dk_D_isField_25 : decode prog_13_method_55_code 25 = .ok (.goto 4, 3) := by decide +kernel
theorem dk_D_isField_28 : decode prog_13_method_55_code 28 = .ok (.iconst 0, 1) := by decide +kernel
theorem dk_D_isField_29 : decode prog_13_method_55_code 29 = .ok (.ireturn, 1) := by decide +kernel
noncomputable def fx_D_isField (p0 : Int32) : Option Bool :=
  if p0 = (80 : Int32) then
    some true
  else
    if p0 = (109 : Int32) then
      some true
    else
      if p0 = (111 : Int32) then
        some true
      else
        if p0 = (99 : Int32) then
          some true
        else
          some false
set_option maxRecDepth 20000 in
theorem cx_D_isField (d : Nat) (p0 : Int32) (c : (Nat → Nat → Int32)) (m : (Nat → Nat → Int32)) (f : (Nat → Int64)) (u : (Nat → Int64)) : ∀ a, fx_D_isField p0 = some a → kv_C kM_D_isField (d + 0) [.int p0] (c, m, f, u) (some (.int (kv_b a)), (c, m, f, u)) := by
  refine kv_entryX (E := fun a : Bool => (some (.int (kv_b a)), (c, m, f, u))) rfl (Nat.le_of_ble_eq_true rfl) (fun o => ?_)
  unfold fx_D_isField
  show kv_X _ _ _ _ _ 0 [(0, .int p0)] [] (c, m, f, u)
  refine kv_iload_n (pc := 0) 0 rfl rfl dk_D_isField_0 ?_
  refine kv_bipush (pc := 1) (v := (80 : Int32)) dk_D_isField_1 kkb_80 ?_
  refine kv_icmp_eq (pc := 3) (tgt := 24) dk_D_isField_3 rfl ?_ ?_
  · refine kv_iconst (pc := 24) (v := (1 : Int32)) dk_D_isField_24 kki_1 ?_
    refine kv_goto (pc := 25) (tgt := 29) dk_D_isField_25 rfl ?_
    exact kv_zret (pc := 29) (b := true) (fun h => h) rfl dk_D_isField_29
  · refine kv_iload_n (pc := 6) 0 rfl rfl dk_D_isField_6 ?_
    refine kv_bipush (pc := 7) (v := (109 : Int32)) dk_D_isField_7 kkb_109 ?_
    refine kv_icmp_eq (pc := 9) (tgt := 24) dk_D_isField_9 rfl ?_ ?_
    · refine kv_iconst (pc := 24) (v := (1 : Int32)) dk_D_isField_24 kki_1 ?_
      refine kv_goto (pc := 25) (tgt := 29) dk_D_isField_25 rfl ?_
      exact kv_zret (pc := 29) (b := true) (fun h => h) rfl dk_D_isField_29
    · refine kv_iload_n (pc := 12) 0 rfl rfl dk_D_isField_12 ?_
      refine kv_bipush (pc := 13) (v := (111 : Int32)) dk_D_isField_13 kkb_111 ?_
      refine kv_icmp_eq (pc := 15) (tgt := 24) dk_D_isField_15 rfl ?_ ?_
      · refine kv_iconst (pc := 24) (v := (1 : Int32)) dk_D_isField_24 kki_1 ?_
        refine kv_goto (pc := 25) (tgt := 29) dk_D_isField_25 rfl ?_
        exact kv_zret (pc := 29) (b := true) (fun h => h) rfl dk_D_isField_29
      · refine kv_iload_n (pc := 18) 0 rfl rfl dk_D_isField_18 ?_
        refine kv_bipush (pc := 19) (v := (99 : Int32)) dk_D_isField_19 kkb_99 ?_
        refine kv_icmp_ne (pc := 21) (tgt := 28) dk_D_isField_21 rfl ?_ ?_
        · refine kv_iconst (pc := 28) (v := (0 : Int32)) dk_D_isField_28 kki_0 ?_
          exact kv_zret (pc := 29) (b := false) (fun h => h) rfl dk_D_isField_29
        · refine kv_iconst (pc := 24) (v := (1 : Int32)) dk_D_isField_24 kki_1 ?_
          refine kv_goto (pc := 25) (tgt := 29) dk_D_isField_25 rfl ?_
          exact kv_zret (pc := 29) (b := true) (fun h => h) rfl dk_D_isField_29
theorem dk_D_readsSum_0 : decode prog_13_method_53_code 0 = .ok (.aload_n 0, 1) := by decide +kernel
theorem dk_D_readsSum_1 : decode prog_13_method_53_code 1 = .ok (.invokevirtual 228, 3) := by decide +kernel
theorem dk_D_readsSum_4 : decode prog_13_method_53_code 4 = .ok (.ifCond .ne 5, 3) := by decide +kernel
theorem dk_D_readsSum_7 : decode prog_13_method_53_code 7 = .ok (.iconst 0, 1) := by decide +kernel
theorem dk_D_readsSum_8 : decode prog_13_method_53_code 8 = .ok (.ireturn, 1) := by decide +kernel
theorem dk_D_readsSum_9 : decode prog_13_method_53_code 9 = .ok (.aload_n 0, 1) := by decide +kernel
theorem dk_D_readsSum_10 : decode prog_13_method_53_code 10 = .ok (.bipush 43, 2) := by decide +kernel
theorem dk_D_readsSum_12 : decode prog_13_method_53_code 12 = .ok (.invokevirtual 231, 3) := by decide +kernel
theorem dk_D_readsSum_15 : decode prog_13_method_53_code 15 = .ok (.ifCond .ne (-15), 3) := by decide +kernel
theorem dk_D_readsSum_18 : decode prog_13_method_53_code 18 = .ok (.aload_n 0, 1) := by decide +kernel
theorem dk_D_readsSum_19 : decode prog_13_method_53_code 19 = .ok (.bipush 45, 2) := by decide +kernel
theorem dk_D_readsSum_21 : decode prog_13_method_53_code 21 = .ok (.invokevirtual 231, 3) := by decide +kernel
theorem dk_D_readsSum_24 : decode prog_13_method_53_code 24 = .ok (.ifCond .ne (-24), 3) := by decide +kernel
theorem dk_D_readsSum_27 : decode prog_13_method_53_code 27 = .ok (.iconst 1, 1) := by decide +kernel
theorem dk_D_readsSum_28 : decode prog_13_method_53_code 28 = .ok (.ireturn, 1) := by decide +kernel
noncomputable def fb_D_readsSum_0 (rq_readsProduct : (Nat → Nat → Int32) → Option (Bool × (Nat → Nat → Int32))) (m1 : (Nat → Nat → Int32)) : Option ((Nat → Nat → Int32) ⊕ ((Nat → Nat → Int32) ⊕ (Nat → Nat → Int32))) :=
  kv_bind2 (rq_readsProduct m1) (fun b4 m5 =>
  if b4 = true then
    kv_bind2 (fx_D_takes (43 : Int32) m5) (fun b6 m7 =>
    if b6 = true then
      some (.inl m7)
    else
      kv_bind2 (fx_D_takes (45 : Int32) m7) (fun b8 m9 =>
      if b8 = true then
        some (.inl m9)
      else
        some (.inr (.inr m9))))
  else
    some (.inr (.inl m5)))
noncomputable def fx_D_readsSum (rq_readsProduct : (Nat → Nat → Int32) → Option (Bool × (Nat → Nat → Int32))) (m : (Nat → Nat → Int32)) : Option (Bool × (Nat → Nat → Int32)) :=
  (kv_loop (kv_u1 (fb_D_readsSum_0 rq_readsProduct)) m).bind (Sum.elim (kv_u1 (fun m2 =>
  some (false, m2)))
   (kv_u1 (fun m3 =>
  some (true, m3))))
set_option maxRecDepth 20000 in
theorem cx_D_readsSum (d : Nat) (rq_readsProduct : (Nat → Nat → Int32) → Option (Bool × (Nat → Nat → Int32))) (hrq_readsProduct : ∀ (c : (Nat → Nat → Int32)) (m : (Nat → Nat → Int32)) (f : (Nat → Int64)) (u : (Nat → Int64)), ∀ a, rq_readsProduct m = some a → kv_C kM_D_readsProduct (d + 1) [.ref 84] (c, m, f, u) (some (.int (kv_b a.1)), (c, a.2, f, u))) (c : (Nat → Nat → Int32)) (m : (Nat → Nat → Int32)) (f : (Nat → Int64)) (u : (Nat → Int64)) : ∀ a, fx_D_readsSum rq_readsProduct m = some a → kv_C kM_D_readsSum (d + 2) [.ref 84] (c, m, f, u) (some (.int (kv_b a.1)), (c, a.2, f, u)) := by
  refine kv_entryX (E := fun a : (Bool × (Nat → Nat → Int32)) => (some (.int (kv_b a.1)), (c, a.2, f, u))) rfl (Nat.le_of_ble_eq_true rfl) (fun o => ?_)
  unfold fx_D_readsSum
  show kv_X _ _ _ _ _ 0 [(0, .ref 84)] [] (c, m, f, u)
  refine kv_lp_1_1_1 (LV := fun m1 => [(0, .ref 84)]) (WW := fun m1 => (c, m1, f, u)) (LE1 := fun m2 => []) (WE1 := fun m2 => (c, m2, f, u)) (pe1 := 7) (LE2 := fun m3 => []) (WE2 := fun m3 => (c, m3, f, u)) (pe2 := 27) ?_ ?_ ?_
  · intro m2
    show kv_X _ _ _ _ _ 7 [] [] (c, m2, f, u)
    refine kv_iconst (pc := 7) (v := (0 : Int32)) dk_D_readsSum_7 kki_0 ?_
    exact kv_zret (pc := 8) (b := false) (fun h => h) rfl dk_D_readsSum_8
  · intro m3
    show kv_X _ _ _ _ _ 27 [] [] (c, m3, f, u)
    refine kv_iconst (pc := 27) (v := (1 : Int32)) dk_D_readsSum_27 kki_1 ?_
    exact kv_zret (pc := 28) (b := true) (fun h => h) rfl dk_D_readsSum_28
  · intro hx0_0 hx0_1 m1
    show kv_X _ _ _ _ (fb_D_readsSum_0 rq_readsProduct m1) 0 [(0, .ref 84)] [] (c, m1, f, u)
    unfold fb_D_readsSum_0
    refine kv_aload_n (pc := 0) 0 rfl rfl dk_D_readsSum_0 ?_
    refine kv_cV_mZm (pc := 1) (as := []) (st := []) ko_D_readsProduct kc_11 rfl rfl kr_84 kw_1563 (Nat.le_of_ble_eq_true rfl) rfl dk_D_readsSum_1 (hrq_readsProduct c m1 f u) (fun b4 m5 => ?_)
    refine kv_zif_ne (pc := 4) (tgt := 9) dk_D_readsSum_4 rfl ?_ ?_
    · refine kv_aload_n (pc := 9) 0 rfl rfl dk_D_readsSum_9 ?_
      refine kv_bipush (pc := 10) (v := (43 : Int32)) dk_D_readsSum_10 kkb_43 ?_
      refine kv_cV_mZm (pc := 12) (as := [.int (43 : Int32)]) (st := []) ko_D_takes kc_11 rfl rfl kr_84 kw_1555 (Nat.le_of_ble_eq_true rfl) rfl dk_D_readsSum_12 (cx_D_takes d (43 : Int32) c m5 f u) (fun b6 m7 => ?_)
      refine kv_zif_ne (pc := 15) (tgt := 0) dk_D_readsSum_15 rfl ?_ ?_
      · exact kv_leaf (fun h => h)
      · refine kv_aload_n (pc := 18) 0 rfl rfl dk_D_readsSum_18 ?_
        refine kv_bipush (pc := 19) (v := (45 : Int32)) dk_D_readsSum_19 kkb_45 ?_
        refine kv_cV_mZm (pc := 21) (as := [.int (45 : Int32)]) (st := []) ko_D_takes kc_11 rfl rfl kr_84 kw_1555 (Nat.le_of_ble_eq_true rfl) rfl dk_D_readsSum_21 (cx_D_takes d (45 : Int32) c m7 f u) (fun b8 m9 => ?_)
        refine kv_zif_ne (pc := 24) (tgt := 0) dk_D_readsSum_24 rfl ?_ ?_
        · exact kv_leaf (fun h => h)
        · exact kv_sub [] rfl (kv_leaf (hx0_1 _))
    · exact kv_sub [] rfl (kv_leaf (hx0_0 _))
theorem dk_D_readsProduct_0 : decode prog_13_method_54_code 0 = .ok (.aload_n 0, 1) := by decide +kernel
theorem dk_D_readsProduct_1 : decode prog_13_method_54_code 1 = .ok (.invokevirtual 234, 3) := by decide +kernel
theorem dk_D_readsProduct_4 : decode prog_13_method_54_code 4 = .ok (.ifCond .ne 5, 3) := by decide +kernel
theorem dk_D_readsProduct_7 : decode prog_13_method_54_code 7 = .ok (.iconst 0, 1) := by decide +kernel
theorem dk_D_readsProduct_8 : decode prog_13_method_54_code 8 = .ok (.ireturn, 1) := by decide +kernel
theorem dk_D_readsProduct_9 : decode prog_13_method_54_code 9 = .ok (.aload_n 0, 1) := by decide +kernel
theorem dk_D_readsProduct_10 : decode prog_13_method_54_code 10 = .ok (.bipush 42, 2) := by decide +kernel
theorem dk_D_readsProduct_12 : decode prog_13_method_54_code 12 = .ok (.invokevirtual 231, 3) := by decide +kernel
theorem dk_D_readsProduct_15 : decode prog_13_method_54_code 15 = .ok (.ifCond .ne (-15), 3) := by decide +kernel
theorem dk_D_readsProduct_18 : decode prog_13_method_54_code 18 = .ok (.aload_n 0, 1) := by decide +kernel
theorem dk_D_readsProduct_19 : decode prog_13_method_54_code 19 = .ok (.bipush 47, 2) := by decide +kernel
theorem dk_D_readsProduct_21 : decode prog_13_method_54_code 21 = .ok (.invokevirtual 231, 3) := by decide +kernel
theorem dk_D_readsProduct_24 : decode prog_13_method_54_code 24 = .ok (.ifCond .ne (-24), 3) := by decide +kernel
theorem dk_D_readsProduct_27 : decode prog_13_method_54_code 27 = .ok (.iconst 1, 1) := by decide +kernel
theorem dk_D_readsProduct_28 : decode prog_13_method_54_code 28 = .ok (.ireturn, 1) := by decide +kernel
noncomputable def fb_D_readsProduct_0 (rq_readsAtom : (Nat → Nat → Int32) → Option (Bool × (Nat → Nat → Int32))) (m1 : (Nat → Nat → Int32)) : Option ((Nat → Nat → Int32) ⊕ ((Nat → Nat → Int32) ⊕ (Nat → Nat → Int32))) :=
  kv_bind2 (rq_readsAtom m1) (fun b4 m5 =>
  if b4 = true then
    kv_bind2 (fx_D_takes (42 : Int32) m5) (fun b6 m7 =>
    if b6 = true then
      some (.inl m7)
    else
      kv_bind2 (fx_D_takes (47 : Int32) m7) (fun b8 m9 =>
      if b8 = true then
        some (.inl m9)
      else
        some (.inr (.inr m9))))
  else
    some (.inr (.inl m5)))
noncomputable def fx_D_readsProduct (rq_readsAtom : (Nat → Nat → Int32) → Option (Bool × (Nat → Nat → Int32))) (m : (Nat → Nat → Int32)) : Option (Bool × (Nat → Nat → Int32)) :=
  (kv_loop (kv_u1 (fb_D_readsProduct_0 rq_readsAtom)) m).bind (Sum.elim (kv_u1 (fun m2 =>
  some (false, m2)))
   (kv_u1 (fun m3 =>
  some (true, m3))))
set_option maxRecDepth 20000 in
theorem cx_D_readsProduct (d : Nat) (rq_readsAtom : (Nat → Nat → Int32) → Option (Bool × (Nat → Nat → Int32))) (hrq_readsAtom : ∀ (c : (Nat → Nat → Int32)) (m : (Nat → Nat → Int32)) (f : (Nat → Int64)) (u : (Nat → Int64)), ∀ a, rq_readsAtom m = some a → kv_C kM_D_readsAtom (d + 1) [.ref 84] (c, m, f, u) (some (.int (kv_b a.1)), (c, a.2, f, u))) (c : (Nat → Nat → Int32)) (m : (Nat → Nat → Int32)) (f : (Nat → Int64)) (u : (Nat → Int64)) : ∀ a, fx_D_readsProduct rq_readsAtom m = some a → kv_C kM_D_readsProduct (d + 2) [.ref 84] (c, m, f, u) (some (.int (kv_b a.1)), (c, a.2, f, u)) := by
  refine kv_entryX (E := fun a : (Bool × (Nat → Nat → Int32)) => (some (.int (kv_b a.1)), (c, a.2, f, u))) rfl (Nat.le_of_ble_eq_true rfl) (fun o => ?_)
  unfold fx_D_readsProduct
  show kv_X _ _ _ _ _ 0 [(0, .ref 84)] [] (c, m, f, u)
  refine kv_lp_1_1_1 (LV := fun m1 => [(0, .ref 84)]) (WW := fun m1 => (c, m1, f, u)) (LE1 := fun m2 => []) (WE1 := fun m2 => (c, m2, f, u)) (pe1 := 7) (LE2 := fun m3 => []) (WE2 := fun m3 => (c, m3, f, u)) (pe2 := 27) ?_ ?_ ?_
  · intro m2
    show kv_X _ _ _ _ _ 7 [] [] (c, m2, f, u)
    refine kv_iconst (pc := 7) (v := (0 : Int32)) dk_D_readsProduct_7 kki_0 ?_
    exact kv_zret (pc := 8) (b := false) (fun h => h) rfl dk_D_readsProduct_8
  · intro m3
    show kv_X _ _ _ _ _ 27 [] [] (c, m3, f, u)
    refine kv_iconst (pc := 27) (v := (1 : Int32)) dk_D_readsProduct_27 kki_1 ?_
    exact kv_zret (pc := 28) (b := true) (fun h => h) rfl dk_D_readsProduct_28
  · intro hx0_0 hx0_1 m1
    show kv_X _ _ _ _ (fb_D_readsProduct_0 rq_readsAtom m1) 0 [(0, .ref 84)] [] (c, m1, f, u)
    unfold fb_D_readsProduct_0
    refine kv_aload_n (pc := 0) 0 rfl rfl dk_D_readsProduct_0 ?_
    refine kv_cV_mZm (pc := 1) (as := []) (st := []) ko_D_readsAtom kc_11 rfl rfl kr_84 kw_1567 (Nat.le_of_ble_eq_true rfl) rfl dk_D_readsProduct_1 (hrq_readsAtom c m1 f u) (fun b4 m5 => ?_)
    refine kv_zif_ne (pc := 4) (tgt := 9) dk_D_readsProduct_4 rfl ?_ ?_
    · refine kv_aload_n (pc := 9) 0 rfl rfl dk_D_readsProduct_9 ?_
      refine kv_bipush (pc := 10) (v := (42 : Int32)) dk_D_readsProduct_10 kkb_42 ?_
      refine kv_cV_mZm (pc := 12) (as := [.int (42 : Int32)]) (st := []) ko_D_takes kc_11 rfl rfl kr_84 kw_1555 (Nat.le_of_ble_eq_true rfl) rfl dk_D_readsProduct_12 (cx_D_takes d (42 : Int32) c m5 f u) (fun b6 m7 => ?_)
      refine kv_zif_ne (pc := 15) (tgt := 0) dk_D_readsProduct_15 rfl ?_ ?_
      · exact kv_leaf (fun h => h)
      · refine kv_aload_n (pc := 18) 0 rfl rfl dk_D_readsProduct_18 ?_
        refine kv_bipush (pc := 19) (v := (47 : Int32)) dk_D_readsProduct_19 kkb_47 ?_
        refine kv_cV_mZm (pc := 21) (as := [.int (47 : Int32)]) (st := []) ko_D_takes kc_11 rfl rfl kr_84 kw_1555 (Nat.le_of_ble_eq_true rfl) rfl dk_D_readsProduct_21 (cx_D_takes d (47 : Int32) c m7 f u) (fun b8 m9 => ?_)
        refine kv_zif_ne (pc := 24) (tgt := 0) dk_D_readsProduct_24 rfl ?_ ?_
        · exact kv_leaf (fun h => h)
        · exact kv_sub [] rfl (kv_leaf (hx0_1 _))
    · exact kv_sub [] rfl (kv_leaf (hx0_0 _))
theorem dk_D_readsAtom_0 : decode prog_13_method_56_code 0 = .ok (.aload_n 0, 1) := by decide +kernel
theorem dk_D_readsAtom_1 : decode prog_13_method_56_code 1 = .ok (.invokevirtual 218, 3) := by decide +kernel
theorem dk_D_readsAtom_4 : decode prog_13_method_56_code 4 = .ok (.bipush 40, 2) := by decide +kernel
theorem dk_D_readsAtom_6 : decode prog_13_method_56_code 6 = .ok (.if_icmp .ne 64, 3) := by decide +kernel
theorem dk_D_readsAtom_9 : decode prog_13_method_56_code 9 = .ok (.aload_n 0, 1) := by decide +kernel
theorem dk_D_readsAtom_10 : decode prog_13_method_56_code 10 = .ok (.getfield 237, 3) := by decide +kernel
theorem dk_D_readsAtom_13 : decode prog_13_method_56_code 13 = .ok (.bipush 6, 2) := by decide +kernel
theorem dk_D_readsAtom_15 : decode prog_13_method_56_code 15 = .ok (.if_icmp .ne 5, 3) := by decide +kernel
theorem dk_D_readsAtom_18 : decode prog_13_method_56_code 18 = .ok (.iconst 0, 1) := by decide +kernel
theorem dk_D_readsAtom_19 : decode prog_13_method_56_code 19 = .ok (.ireturn, 1) := by decide +kernel
theorem dk_D_readsAtom_20 : decode prog_13_method_56_code 20 = .ok (.aload_n 0, 1) := by decide +kernel
theorem dk_D_readsAtom_21 : decode prog_13_method_56_code 21 = .ok (.dup, 1) := by decide +kernel
theorem dk_D_readsAtom_22 : decode prog_13_method_56_code 22 = .ok (.getfield 209, 3) := by decide +kernel
theorem dk_D_readsAtom_25 : decode prog_13_method_56_code 25 = .ok (.iconst 1, 1) := by decide +kernel
theorem dk_D_readsAtom_26 : decode prog_13_method_56_code 26 = .ok (.iadd, 1) := by decide +kernel
theorem dk_D_readsAtom_27 : decode prog_13_method_56_code 27 = .ok (.putfield 209, 3) := by decide +kernel
theorem dk_D_readsAtom_30 : decode prog_13_method_56_code 30 = .ok (.aload_n 0, 1) := by decide +kernel
theorem dk_D_readsAtom_31 : decode prog_13_method_56_code 31 = .ok (.dup, 1) := by decide +kernel
theorem dk_D_readsAtom_32 : decode prog_13_method_56_code 32 = .ok (.getfield 237, 3) := by decide +kernel
theorem dk_D_readsAtom_35 : decode prog_13_method_56_code 35 = .ok (.iconst 1, 1) := by decide +kernel
theorem dk_D_readsAtom_36 : decode prog_13_method_56_code 36 = .ok (.iadd, 1) := by decide +kernel
theorem dk_D_readsAtom_37 : decode prog_13_method_56_code 37 = .ok (.putfield 237, 3) := by decide +kernel
theorem dk_D_readsAtom_40 : decode prog_13_method_56_code 40 = .ok (.aload_n 0, 1) := by decide +kernel
theorem dk_D_readsAtom_41 : decode prog_13_method_56_code 41 = .ok (.invokevirtual 240, 3) := by decide +kernel
theorem dk_D_readsAtom_44 : decode prog_13_method_56_code 44 = .ok (.ifCond .eq 12, 3) := by decide +kernel
theorem dk_D_readsAtom_47 : decode prog_13_method_56_code 47 = .ok (.aload_n 0, 1) := by decide +kernel
theorem dk_D_readsAtom_48 : decode prog_13_method_56_code 48 = .ok (.bipush 41, 2) := by decide +kernel
theorem dk_D_readsAtom_50 : decode prog_13_method_56_code 50 = .ok (.invokevirtual 231, 3) := by decide +kernel
theorem dk_D_readsAtom_53 : decode prog_13_method_56_code 53 = .ok (.ifCond .ne 5, 3) := by decide +kernel
theorem dk_D_readsAtom_56 : decode prog_13_method_56_code 56 = .ok (.iconst 0, 1) := by decide +kernel
theorem dk_D_readsAtom_57 : decode prog_13_method_56_code 57 = .ok (.ireturn, 1) := by decide +kernel
theorem dk_D_readsAtom_58 : decode prog_13_method_56_code 58 = .ok (.aload_n 0, 1) := by decide +kernel
theorem dk_D_readsAtom_59 : decode prog_13_method_56_code 59 = .ok (.dup, 1) := by decide +kernel
theorem dk_D_readsAtom_60 : decode prog_13_method_56_code 60 = .ok (.getfield 237, 3) := by decide +kernel
theorem dk_D_readsAtom_63 : decode prog_13_method_56_code 63 = .ok (.iconst 1, 1) := by decide +kernel
theorem dk_D_readsAtom_64 : decode prog_13_method_56_code 64 = .ok (.isub, 1) := by decide +kernel
theorem dk_D_readsAtom_65 : decode prog_13_method_56_code 65 = .ok (.putfield 237, 3) := by decide +kernel
theorem dk_D_readsAtom_68 : decode prog_13_method_56_code 68 = .ok (.iconst 1, 1) := by decide +kernel
theorem dk_D_readsAtom_69 : decode prog_13_method_56_code 69 = .ok (.ireturn, 1) := by decide +kernel
theorem dk_D_readsAtom_70 : decode prog_13_method_56_code 70 = .ok (.aload_n 0, 1) := by decide +kernel
theorem dk_D_readsAtom_71 : decode prog_13_method_56_code 71 = .ok (.invokevirtual 218, 3) := by decide +kernel
theorem dk_D_readsAtom_74 : decode prog_13_method_56_code 74 = .ok (.invokestatic 243, 3) := by decide +kernel
theorem dk_D_readsAtom_77 : decode prog_13_method_56_code 77 = .ok (.ifCond .eq 15, 3) := by decide +kernel
theorem dk_D_readsAtom_80 : decode prog_13_method_56_code 80 = .ok (.aload_n 0, 1) := by decide +kernel
theorem dk_D_readsAtom_81 : decode prog_13_method_56_code 81 = .ok (.dup, 1) := by decide +kernel
theorem dk_D_readsAtom_82 : decode prog_13_method_56_code 82 = .ok (.getfield 209, 3) := by decide +kernel
theorem dk_D_readsAtom_85 : decode prog_13_method_56_code 85 = .ok (.iconst 1, 1) := by decide +kernel
theorem dk_D_readsAtom_86 : decode prog_13_method_56_code 86 = .ok (.iadd, 1) := by decide +kernel
theorem dk_D_readsAtom_87 : decode prog_13_method_56_code 87 = .ok (.putfield 209, 3) := by decide +kernel
theorem dk_D_readsAtom_90 : decode prog_13_method_56_code 90 = .ok (.iconst 1, 1) := by decide +kernel
theorem dk_D_readsAtom_91 : decode prog_13_method_56_code 91 = .ok (.ireturn, 1) := by decide +kernel
theorem dk_D_readsAtom_92 : decode prog_13_method_56_code 92 = .ok (.aload_n 0, 1) := by decide +kernel
theorem dk_D_readsAtom_93 : decode prog_13_method_56_code 93 = .ok (.invokevirtual 246, 3) := by decide +kernel
theorem dk_D_readsAtom_96 : decode prog_13_method_56_code 96 = .ok (.ireturn, 1) := by decide +kernel
noncomputable def fx_D_readsAtom (rq_readsSum : (Nat → Nat → Int32) → Option (Bool × (Nat → Nat → Int32))) (m : (Nat → Nat → Int32)) : Option (Bool × (Nat → Nat → Int32)) :=
  kv_bind1 (fx_D_sign m) (fun v1 =>
  if v1 = (40 : Int32) then
    if (m 84 21) = (6 : Int32) then
      some (false, m)
    else
      kv_let (kv_st m 84 18 ((m 84 18) + (1 : Int32))) (fun m7 =>
      kv_let (kv_st m7 84 21 ((m7 84 21) + (1 : Int32))) (fun m8 =>
      kv_bind2 (rq_readsSum m8) (fun b9 m10 =>
      if b9 = true then
        kv_bind2 (fx_D_takes (41 : Int32) m10) (fun b11 m12 =>
        if b11 = true then
          kv_let (kv_st m12 84 21 ((m12 84 21) - (1 : Int32))) (fun m13 =>
          some (true, m13))
        else
          some (false, m12))
      else
        some (false, m10))))
  else
    kv_bind1 (fx_D_sign m) (fun v2 =>
    kv_bind1 (fx_D_isField v2) (fun b3 =>
    if b3 = true then
      kv_let (kv_st m 84 18 ((m 84 18) + (1 : Int32))) (fun m6 =>
      some (true, m6))
    else
      kv_bind2 (fx_D_readsNumber m) (fun b4 m5 =>
      some (b4, m5)))))
set_option maxRecDepth 20000 in
theorem cx_D_readsAtom (d : Nat) (rq_readsSum : (Nat → Nat → Int32) → Option (Bool × (Nat → Nat → Int32))) (hrq_readsSum : ∀ (c : (Nat → Nat → Int32)) (m : (Nat → Nat → Int32)) (f : (Nat → Int64)) (u : (Nat → Int64)), ∀ a, rq_readsSum m = some a → kv_C kM_D_readsSum (d + 1) [.ref 84] (c, m, f, u) (some (.int (kv_b a.1)), (c, a.2, f, u))) (c : (Nat → Nat → Int32)) (m : (Nat → Nat → Int32)) (f : (Nat → Int64)) (u : (Nat → Int64)) : ∀ a, fx_D_readsAtom rq_readsSum m = some a → kv_C kM_D_readsAtom (d + 2) [.ref 84] (c, m, f, u) (some (.int (kv_b a.1)), (c, a.2, f, u)) := by
  refine kv_entryX (E := fun a : (Bool × (Nat → Nat → Int32)) => (some (.int (kv_b a.1)), (c, a.2, f, u))) rfl (Nat.le_of_ble_eq_true rfl) (fun o => ?_)
  unfold fx_D_readsAtom
  show kv_X _ _ _ _ _ 0 [(0, .ref 84)] [] (c, m, f, u)
  refine kv_aload_n (pc := 0) 0 rfl rfl dk_D_readsAtom_0 ?_
  refine kv_cV_mI (pc := 1) (as := []) (st := []) ko_D_sign kc_11 rfl rfl kr_84 kw_1549 (Nat.le_of_ble_eq_true rfl) rfl dk_D_readsAtom_1 (cx_D_sign (d + 1) c m f u) (fun v1 => ?_)
  refine kv_bipush (pc := 4) (v := (40 : Int32)) dk_D_readsAtom_4 kkb_40 ?_
  refine kv_icmp_ne (pc := 6) (tgt := 70) dk_D_readsAtom_6 rfl ?_ ?_
  · refine kv_aload_n (pc := 70) 0 rfl rfl dk_D_readsAtom_70 ?_
    refine kv_cV_mI (pc := 71) (as := []) (st := []) ko_D_sign kc_11 rfl rfl kr_84 kw_1549 (Nat.le_of_ble_eq_true rfl) rfl dk_D_readsAtom_71 (cx_D_sign (d + 1) c m f u) (fun v2 => ?_)
    refine kv_cS_mZ (pc := 74) (as := [.int v2]) (st := []) ko_D_isField rfl kw_1571 (Nat.le_of_ble_eq_true rfl) rfl dk_D_readsAtom_74 (cx_D_isField (d + 1) v2 c m f u) (fun b3 => ?_)
    refine kv_zif_eq (pc := 77) (tgt := 92) dk_D_readsAtom_77 rfl ?_ ?_
    · refine kv_aload_n (pc := 92) 0 rfl rfl dk_D_readsAtom_92 ?_
      refine kv_cV_mZm (pc := 93) (as := []) (st := []) ko_D_readsNumber kc_11 rfl rfl kr_84 kw_1545 (Nat.le_of_ble_eq_true rfl) rfl dk_D_readsAtom_93 (cx_D_readsNumber d c m f u) (fun b4 m5 => ?_)
      exact kv_zret (pc := 96) (b := b4) (fun h => h) rfl dk_D_readsAtom_96
    · refine kv_aload_n (pc := 80) 0 rfl rfl dk_D_readsAtom_80 ?_
      refine kv_dupR (pc := 81) dk_D_readsAtom_81 ?_
      refine kv_getM (pc := 82) kf_D_209 kr_84 kn_84 rfl dk_D_readsAtom_82 ?_
      refine kv_iconst (pc := 85) (v := (1 : Int32)) dk_D_readsAtom_85 kki_1 ?_
      refine kv_iadd (pc := 86) dk_D_readsAtom_86 ?_
      refine kv_putM (pc := 87) kf_D_209 kr_84 kn_84 rfl rfl rfl dk_D_readsAtom_87 (fun m6 => ?_)
      refine kv_iconst (pc := 90) (v := (1 : Int32)) dk_D_readsAtom_90 kki_1 ?_
      exact kv_zret (pc := 91) (b := true) (fun h => h) rfl dk_D_readsAtom_91
  · refine kv_aload_n (pc := 9) 0 rfl rfl dk_D_readsAtom_9 ?_
    refine kv_getM (pc := 10) kf_D_237 kr_84 kn_84 rfl dk_D_readsAtom_10 ?_
    refine kv_bipush (pc := 13) (v := (6 : Int32)) dk_D_readsAtom_13 kkb_6 ?_
    refine kv_icmp_ne (pc := 15) (tgt := 20) dk_D_readsAtom_15 rfl ?_ ?_
    · refine kv_aload_n (pc := 20) 0 rfl rfl dk_D_readsAtom_20 ?_
      refine kv_dupR (pc := 21) dk_D_readsAtom_21 ?_
      refine kv_getM (pc := 22) kf_D_209 kr_84 kn_84 rfl dk_D_readsAtom_22 ?_
      refine kv_iconst (pc := 25) (v := (1 : Int32)) dk_D_readsAtom_25 kki_1 ?_
      refine kv_iadd (pc := 26) dk_D_readsAtom_26 ?_
      refine kv_putM (pc := 27) kf_D_209 kr_84 kn_84 rfl rfl rfl dk_D_readsAtom_27 (fun m7 => ?_)
      refine kv_aload_n (pc := 30) 0 rfl rfl dk_D_readsAtom_30 ?_
      refine kv_dupR (pc := 31) dk_D_readsAtom_31 ?_
      refine kv_getM (pc := 32) kf_D_237 kr_84 kn_84 rfl dk_D_readsAtom_32 ?_
      refine kv_iconst (pc := 35) (v := (1 : Int32)) dk_D_readsAtom_35 kki_1 ?_
      refine kv_iadd (pc := 36) dk_D_readsAtom_36 ?_
      refine kv_putM (pc := 37) kf_D_237 kr_84 kn_84 rfl rfl rfl dk_D_readsAtom_37 (fun m8 => ?_)
      refine kv_aload_n (pc := 40) 0 rfl rfl dk_D_readsAtom_40 ?_
      refine kv_cV_mZm (pc := 41) (as := []) (st := []) ko_D_readsSum kc_11 rfl rfl kr_84 kw_1559 (Nat.le_of_ble_eq_true rfl) rfl dk_D_readsAtom_41 (hrq_readsSum c m8 f u) (fun b9 m10 => ?_)
      refine kv_zif_eq (pc := 44) (tgt := 56) dk_D_readsAtom_44 rfl ?_ ?_
      · refine kv_iconst (pc := 56) (v := (0 : Int32)) dk_D_readsAtom_56 kki_0 ?_
        exact kv_zret (pc := 57) (b := false) (fun h => h) rfl dk_D_readsAtom_57
      · refine kv_aload_n (pc := 47) 0 rfl rfl dk_D_readsAtom_47 ?_
        refine kv_bipush (pc := 48) (v := (41 : Int32)) dk_D_readsAtom_48 kkb_41 ?_
        refine kv_cV_mZm (pc := 50) (as := [.int (41 : Int32)]) (st := []) ko_D_takes kc_11 rfl rfl kr_84 kw_1555 (Nat.le_of_ble_eq_true rfl) rfl dk_D_readsAtom_50 (cx_D_takes d (41 : Int32) c m10 f u) (fun b11 m12 => ?_)
        refine kv_zif_ne (pc := 53) (tgt := 58) dk_D_readsAtom_53 rfl ?_ ?_
        · refine kv_aload_n (pc := 58) 0 rfl rfl dk_D_readsAtom_58 ?_
          refine kv_dupR (pc := 59) dk_D_readsAtom_59 ?_
          refine kv_getM (pc := 60) kf_D_237 kr_84 kn_84 rfl dk_D_readsAtom_60 ?_
          refine kv_iconst (pc := 63) (v := (1 : Int32)) dk_D_readsAtom_63 kki_1 ?_
          refine kv_isub (pc := 64) dk_D_readsAtom_64 ?_
          refine kv_putM (pc := 65) kf_D_237 kr_84 kn_84 rfl rfl rfl dk_D_readsAtom_65 (fun m13 => ?_)
          refine kv_iconst (pc := 68) (v := (1 : Int32)) dk_D_readsAtom_68 kki_1 ?_
          exact kv_zret (pc := 69) (b := true) (fun h => h) rfl dk_D_readsAtom_69
        · refine kv_iconst (pc := 56) (v := (0 : Int32)) dk_D_readsAtom_56 kki_0 ?_
          exact kv_zret (pc := 57) (b := false) (fun h => h) rfl dk_D_readsAtom_57
    · refine kv_iconst (pc := 18) (v := (0 : Int32)) dk_D_readsAtom_18 kki_0 ?_
      exact kv_zret (pc := 19) (b := false) (fun h => h) rfl dk_D_readsAtom_19
noncomputable def fg_C : Nat → Nat → (Nat → Nat → Int32) → Option (Bool × (Nat → Nat → Int32))
  | 0 => fun _ _ => none
  | n + 1 => fun k m => if k = 0 then fx_D_readsSum (fg_C n 1) m else if k = 1 then fx_D_readsProduct (fg_C n 2) m else fx_D_readsAtom (fg_C n 0) m
theorem cg_fg_C (d : Nat) : ∀ n : Nat, (∀ (c : (Nat → Nat → Int32)) (m : (Nat → Nat → Int32)) (f : (Nat → Int64)) (u : (Nat → Int64)), ∀ a, fg_C n 0 m = some a → kv_C kM_D_readsSum (d + n + 1) [.ref 84] (c, m, f, u) (some (.int (kv_b a.1)), (c, a.2, f, u))) ∧ (∀ (c : (Nat → Nat → Int32)) (m : (Nat → Nat → Int32)) (f : (Nat → Int64)) (u : (Nat → Int64)), ∀ a, fg_C n 1 m = some a → kv_C kM_D_readsProduct (d + n + 1) [.ref 84] (c, m, f, u) (some (.int (kv_b a.1)), (c, a.2, f, u))) ∧ (∀ (c : (Nat → Nat → Int32)) (m : (Nat → Nat → Int32)) (f : (Nat → Int64)) (u : (Nat → Int64)), ∀ a, fg_C n 2 m = some a → kv_C kM_D_readsAtom (d + n + 1) [.ref 84] (c, m, f, u) (some (.int (kv_b a.1)), (c, a.2, f, u))) := by
  intro n
  induction n with
  | zero => exact ⟨fun c m f u a h => (by cases h), fun c m f u a h => (by cases h), fun c m f u a h => (by cases h)⟩
  | succ n ih =>
    have e : d + (n + 1) + 1 = d + n + 2 := by omega
    rw [e]
    exact ⟨fun c m f u => cx_D_readsSum (d + n) (fg_C n 1) ih.2.1 c m f u, fun c m f u => cx_D_readsProduct (d + n) (fg_C n 2) ih.2.2 c m f u, fun c m f u => cx_D_readsAtom (d + n) (fg_C n 0) ih.1 c m f u⟩
theorem cx_fg_C_0 (d : Nat) : ∀ (c : (Nat → Nat → Int32)) (m : (Nat → Nat → Int32)) (f : (Nat → Int64)) (u : (Nat → Int64)), ∀ a, fg_C 24 0 m = some a → kv_C kM_D_readsSum (d + 25) [.ref 84] (c, m, f, u) (some (.int (kv_b a.1)), (c, a.2, f, u)) := (cg_fg_C d 24).1
theorem cx_fg_C_1 (d : Nat) : ∀ (c : (Nat → Nat → Int32)) (m : (Nat → Nat → Int32)) (f : (Nat → Int64)) (u : (Nat → Int64)), ∀ a, fg_C 24 1 m = some a → kv_C kM_D_readsProduct (d + 25) [.ref 84] (c, m, f, u) (some (.int (kv_b a.1)), (c, a.2, f, u)) := (cg_fg_C d 24).2.1
theorem cx_fg_C_2 (d : Nat) : ∀ (c : (Nat → Nat → Int32)) (m : (Nat → Nat → Int32)) (f : (Nat → Int64)) (u : (Nat → Int64)), ∀ a, fg_C 24 2 m = some a → kv_C kM_D_readsAtom (d + 25) [.ref 84] (c, m, f, u) (some (.int (kv_b a.1)), (c, a.2, f, u)) := (cg_fg_C d 24).2.2
theorem dk_D_readsStatement_0 : decode prog_13_method_57_code 0 = .ok (.aload_n 0, 1) := by decide +kernel
theorem dk_D_readsStatement_1 : decode prog_13_method_57_code 1 = .ok (.invokevirtual 246, 3) := by decide +kernel
theorem dk_D_readsStatement_4 : decode prog_13_method_57_code 4 = .ok (.ifCond .ne 5, 3) := by decide +kernel
theorem dk_D_readsStatement_7 : decode prog_13_method_57_code 7 = .ok (.iconst 0, 1) := by decide +kernel
theorem dk_D_readsStatement_8 : decode prog_13_method_57_code 8 = .ok (.ireturn, 1) := by decide +kernel
theorem dk_D_readsStatement_9 : decode prog_13_method_57_code 9 = .ok (.aload_n 0, 1) := by decide +kernel
theorem dk_D_readsStatement_10 : decode prog_13_method_57_code 10 = .ok (.aload_n 0, 1) := by decide +kernel
theorem dk_D_readsStatement_11 : decode prog_13_method_57_code 11 = .ok (.getfield 225, 3) := by decide +kernel
theorem dk_D_readsStatement_14 : decode prog_13_method_57_code 14 = .ok (.putfield 249, 3) := by decide +kernel
theorem dk_D_readsStatement_17 : decode prog_13_method_57_code 17 = .ok (.aload_n 0, 1) := by decide +kernel
theorem dk_D_readsStatement_18 : decode prog_13_method_57_code 18 = .ok (.iconst 0, 1) := by decide +kernel
theorem dk_D_readsStatement_19 : decode prog_13_method_57_code 19 = .ok (.putfield 237, 3) := by decide +kernel
theorem dk_D_readsStatement_22 : decode prog_13_method_57_code 22 = .ok (.aload_n 0, 1) := by decide +kernel
theorem dk_D_readsStatement_23 : decode prog_13_method_57_code 23 = .ok (.bipush 58, 2) := by decide +kernel
theorem dk_D_readsStatement_25 : decode prog_13_method_57_code 25 = .ok (.invokevirtual 231, 3) := by decide +kernel
theorem dk_D_readsStatement_28 : decode prog_13_method_57_code 28 = .ok (.ifCond .eq 23, 3) := by decide +kernel
theorem dk_D_readsStatement_31 : decode prog_13_method_57_code 31 = .ok (.aload_n 0, 1) := by decide +kernel
theorem dk_D_readsStatement_32 : decode prog_13_method_57_code 32 = .ok (.invokevirtual 240, 3) := by decide +kernel
theorem dk_D_readsStatement_35 : decode prog_13_method_57_code 35 = .ok (.ifCond .eq 16, 3) := by decide +kernel
theorem dk_D_readsStatement_38 : decode prog_13_method_57_code 38 = .ok (.aload_n 0, 1) := by decide +kernel
theorem dk_D_readsStatement_39 : decode prog_13_method_57_code 39 = .ok (.bipush 59, 2) := by decide +kernel
theorem dk_D_readsStatement_41 : decode prog_13_method_57_code 41 = .ok (.invokevirtual 231, 3) := by decide +kernel
theorem dk_D_readsStatement_44 : decode prog_13_method_57_code 44 = .ok (.ifCond .eq 7, 3) := by decide +kernel
theorem dk_D_readsStatement_47 : decode prog_13_method_57_code 47 = .ok (.iconst 1, 1) := by decide +kernel
theorem dk_D_readsStatement_48 : decode prog_13_method_57_code 48 = .ok (.goto 4, 3) := by decide +kernel
theorem dk_D_readsStatement_51 : decode prog_13_method_57_code 51 = .ok (.iconst 0, 1) := by decide +kernel
theorem dk_D_readsStatement_52 : decode prog_13_method_57_code 52 = .ok (.ireturn, 1) := by decide +kernel
noncomputable def fx_D_readsStatement (m : (Nat → Nat → Int32)) : Option (Bool × (Nat → Nat → Int32)) :=
  kv_bind2 (fx_D_readsNumber m) (fun b1 m2 =>
  if b1 = true then
    kv_let (kv_st m2 84 24 (m2 84 22)) (fun m3 =>
    kv_let (kv_st m3 84 21 (0 : Int32)) (fun m4 =>
    kv_bind2 (fx_D_takes (58 : Int32) m4) (fun b5 m6 =>
    if b5 = true then
      kv_bind2 (fg_C 24 0 m6) (fun b7 m8 =>
      if b7 = true then
        kv_bind2 (fx_D_takes (59 : Int32) m8) (fun b9 m10 =>
        if b9 = true then
          some (true, m10)
        else
          some (false, m10))
      else
        some (false, m8))
    else
      some (false, m6))))
  else
    some (false, m2))
set_option maxRecDepth 20000 in
theorem cx_D_readsStatement (d : Nat) (c : (Nat → Nat → Int32)) (m : (Nat → Nat → Int32)) (f : (Nat → Int64)) (u : (Nat → Int64)) : ∀ a, fx_D_readsStatement m = some a → kv_C kM_D_readsStatement (d + 26) [.ref 84] (c, m, f, u) (some (.int (kv_b a.1)), (c, a.2, f, u)) := by
  refine kv_entryX (E := fun a : (Bool × (Nat → Nat → Int32)) => (some (.int (kv_b a.1)), (c, a.2, f, u))) rfl (Nat.le_of_ble_eq_true rfl) (fun o => ?_)
  unfold fx_D_readsStatement
  show kv_X _ _ _ _ _ 0 [(0, .ref 84)] [] (c, m, f, u)
  refine kv_aload_n (pc := 0) 0 rfl rfl dk_D_readsStatement_0 ?_
  refine kv_cV_mZm (pc := 1) (as := []) (st := []) ko_D_readsNumber kc_11 rfl rfl kr_84 kw_1545 (Nat.le_of_ble_eq_true rfl) rfl dk_D_readsStatement_1 (cx_D_readsNumber (d + 24) c m f u) (fun b1 m2 => ?_)
  refine kv_zif_ne (pc := 4) (tgt := 9) dk_D_readsStatement_4 rfl ?_ ?_
  · refine kv_aload_n (pc := 9) 0 rfl rfl dk_D_readsStatement_9 ?_
    refine kv_aload_n (pc := 10) 0 rfl rfl dk_D_readsStatement_10 ?_
    refine kv_getM (pc := 11) kf_D_225 kr_84 kn_84 rfl dk_D_readsStatement_11 ?_
    refine kv_putM (pc := 14) kf_D_249 kr_84 kn_84 rfl rfl rfl dk_D_readsStatement_14 (fun m3 => ?_)
    refine kv_aload_n (pc := 17) 0 rfl rfl dk_D_readsStatement_17 ?_
    refine kv_iconst (pc := 18) (v := (0 : Int32)) dk_D_readsStatement_18 kki_0 ?_
    refine kv_putM (pc := 19) kf_D_237 kr_84 kn_84 rfl rfl rfl dk_D_readsStatement_19 (fun m4 => ?_)
    refine kv_aload_n (pc := 22) 0 rfl rfl dk_D_readsStatement_22 ?_
    refine kv_bipush (pc := 23) (v := (58 : Int32)) dk_D_readsStatement_23 kkb_58 ?_
    refine kv_cV_mZm (pc := 25) (as := [.int (58 : Int32)]) (st := []) ko_D_takes kc_11 rfl rfl kr_84 kw_1555 (Nat.le_of_ble_eq_true rfl) rfl dk_D_readsStatement_25 (cx_D_takes (d + 24) (58 : Int32) c m4 f u) (fun b5 m6 => ?_)
    refine kv_zif_eq (pc := 28) (tgt := 51) dk_D_readsStatement_28 rfl ?_ ?_
    · refine kv_iconst (pc := 51) (v := (0 : Int32)) dk_D_readsStatement_51 kki_0 ?_
      exact kv_zret (pc := 52) (b := false) (fun h => h) rfl dk_D_readsStatement_52
    · refine kv_aload_n (pc := 31) 0 rfl rfl dk_D_readsStatement_31 ?_
      refine kv_cV_mZm (pc := 32) (as := []) (st := []) ko_D_readsSum kc_11 rfl rfl kr_84 kw_1559 (Nat.le_of_ble_eq_true rfl) rfl dk_D_readsStatement_32 (cx_fg_C_0 d c m6 f u) (fun b7 m8 => ?_)
      refine kv_zif_eq (pc := 35) (tgt := 51) dk_D_readsStatement_35 rfl ?_ ?_
      · refine kv_iconst (pc := 51) (v := (0 : Int32)) dk_D_readsStatement_51 kki_0 ?_
        exact kv_zret (pc := 52) (b := false) (fun h => h) rfl dk_D_readsStatement_52
      · refine kv_aload_n (pc := 38) 0 rfl rfl dk_D_readsStatement_38 ?_
        refine kv_bipush (pc := 39) (v := (59 : Int32)) dk_D_readsStatement_39 kkb_59 ?_
        refine kv_cV_mZm (pc := 41) (as := [.int (59 : Int32)]) (st := []) ko_D_takes kc_11 rfl rfl kr_84 kw_1555 (Nat.le_of_ble_eq_true rfl) rfl dk_D_readsStatement_41 (cx_D_takes (d + 24) (59 : Int32) c m8 f u) (fun b9 m10 => ?_)
        refine kv_zif_eq (pc := 44) (tgt := 51) dk_D_readsStatement_44 rfl ?_ ?_
        · refine kv_iconst (pc := 51) (v := (0 : Int32)) dk_D_readsStatement_51 kki_0 ?_
          exact kv_zret (pc := 52) (b := false) (fun h => h) rfl dk_D_readsStatement_52
        · refine kv_iconst (pc := 47) (v := (1 : Int32)) dk_D_readsStatement_47 kki_1 ?_
          refine kv_goto (pc := 48) (tgt := 52) dk_D_readsStatement_48 rfl ?_
          exact kv_zret (pc := 52) (b := true) (fun h => h) rfl dk_D_readsStatement_52
  · refine kv_iconst (pc := 7) (v := (0 : Int32)) dk_D_readsStatement_7 kki_0 ?_
    exact kv_zret (pc := 8) (b := false) (fun h => h) rfl dk_D_readsStatement_8
theorem dk_D_reads_0 : decode prog_13_method_58_code 0 = .ok (.aload_n 0, 1) := by decide +kernel
theorem dk_D_reads_1 : decode prog_13_method_58_code 1 = .ok (.aload_n 0, 1) := by decide +kernel
theorem dk_D_reads_2 : decode prog_13_method_58_code 2 = .ok (.getfield 25, 3) := by decide +kernel
theorem dk_D_reads_5 : decode prog_13_method_58_code 5 = .ok (.putfield 54, 3) := by decide +kernel
theorem dk_D_reads_8 : decode prog_13_method_58_code 8 = .ok (.aload_n 0, 1) := by decide +kernel
theorem dk_D_reads_9 : decode prog_13_method_58_code 9 = .ok (.bipush 100, 2) := by decide +kernel
theorem dk_D_reads_11 : decode prog_13_method_58_code 11 = .ok (.iload_n 1, 1) := by decide +kernel
theorem dk_D_reads_12 : decode prog_13_method_58_code 12 = .ok (.imul, 1) := by decide +kernel
theorem dk_D_reads_13 : decode prog_13_method_58_code 13 = .ok (.putfield 215, 3) := by decide +kernel
theorem dk_D_reads_16 : decode prog_13_method_58_code 16 = .ok (.aload_n 0, 1) := by decide +kernel
theorem dk_D_reads_17 : decode prog_13_method_58_code 17 = .ok (.aload_n 0, 1) := by decide +kernel
theorem dk_D_reads_18 : decode prog_13_method_58_code 18 = .ok (.getfield 22, 3) := by decide +kernel
theorem dk_D_reads_21 : decode prog_13_method_58_code 21 = .ok (.iload_n 1, 1) := by decide +kernel
theorem dk_D_reads_22 : decode prog_13_method_58_code 22 = .ok (.iaload, 1) := by decide +kernel
theorem dk_D_reads_23 : decode prog_13_method_58_code 23 = .ok (.putfield 212, 3) := by decide +kernel
theorem dk_D_reads_26 : decode prog_13_method_58_code 26 = .ok (.aload_n 0, 1) := by decide +kernel
theorem dk_D_reads_27 : decode prog_13_method_58_code 27 = .ok (.iconst 0, 1) := by decide +kernel
theorem dk_D_reads_28 : decode prog_13_method_58_code 28 = .ok (.putfield 209, 3) := by decide +kernel
theorem dk_D_reads_31 : decode prog_13_method_58_code 31 = .ok (.iconst 0, 1) := by decide +kernel
theorem dk_D_reads_32 : decode prog_13_method_58_code 32 = .ok (.istore_n 2, 1) := by decide +kernel
theorem dk_D_reads_33 : decode prog_13_method_58_code 33 = .ok (.bipush (-4), 2) := by decide +kernel
theorem dk_D_reads_35 : decode prog_13_method_58_code 35 = .ok (.istore_n 3, 1) := by decide +kernel
theorem dk_D_reads_36 : decode prog_13_method_58_code 36 = .ok (.aload_n 0, 1) := by decide +kernel
theorem dk_D_reads_37 : decode prog_13_method_58_code 37 = .ok (.getfield 209, 3) := by decide +kernel
theorem dk_D_reads_40 : decode prog_13_method_58_code 40 = .ok (.istore 4, 2) := by decide +kernel
theorem dk_D_reads_42 : decode prog_13_method_58_code 42 = .ok (.aload_n 0, 1) := by decide +kernel
theorem dk_D_reads_43 : decode prog_13_method_58_code 43 = .ok (.invokevirtual 252, 3) := by decide +kernel
theorem dk_D_reads_46 : decode prog_13_method_58_code 46 = .ok (.ifCond .ne 12, 3) := by decide +kernel
theorem dk_D_reads_49 : decode prog_13_method_58_code 49 = .ok (.sipush (-1000), 3) := by decide +kernel
theorem dk_D_reads_52 : decode prog_13_method_58_code 52 = .ok (.aload_n 0, 1) := by decide +kernel
theorem dk_D_reads_53 : decode prog_13_method_58_code 53 = .ok (.getfield 209, 3) := by decide +kernel
theorem dk_D_reads_56 : decode prog_13_method_58_code 56 = .ok (.isub, 1) := by decide +kernel
theorem dk_D_reads_57 : decode prog_13_method_58_code 57 = .ok (.ireturn, 1) := by decide +kernel
theorem dk_D_reads_58 : decode prog_13_method_58_code 58 = .ok (.aload_n 0, 1) := by decide +kernel
theorem dk_D_reads_59 : decode prog_13_method_58_code 59 = .ok (.getfield 249, 3) := by decide +kernel
theorem dk_D_reads_62 : decode prog_13_method_58_code 62 = .ok (.sipush 140, 3) := by decide +kernel
theorem dk_D_reads_65 : decode prog_13_method_58_code 65 = .ok (.if_icmp .le 10, 3) := by decide +kernel
theorem dk_D_reads_68 : decode prog_13_method_58_code 68 = .ok (.iload_n 3, 1) := by decide +kernel
theorem dk_D_reads_69 : decode prog_13_method_58_code 69 = .ok (.ifCond .ge 6, 3) := by decide +kernel
theorem dk_D_reads_72 : decode prog_13_method_58_code 72 = .ok (.iload 4, 2) := by decide +kernel
theorem dk_D_reads_74 : decode prog_13_method_58_code 74 = .ok (.istore_n 3, 1) := by decide +kernel
theorem dk_D_reads_75 : decode prog_13_method_58_code 75 = .ok (.iinc 2 1, 3) := by decide +kernel
theorem dk_D_reads_78 : decode prog_13_method_58_code 78 = .ok (.aload_n 0, 1) := by decide +kernel
theorem dk_D_reads_79 : decode prog_13_method_58_code 79 = .ok (.getfield 209, 3) := by decide +kernel
theorem dk_D_reads_82 : decode prog_13_method_58_code 82 = .ok (.aload_n 0, 1) := by decide +kernel
theorem dk_D_reads_83 : decode prog_13_method_58_code 83 = .ok (.getfield 212, 3) := by decide +kernel
theorem dk_D_reads_86 : decode prog_13_method_58_code 86 = .ok (.if_icmp .lt (-50), 3) := by decide +kernel
theorem dk_D_reads_89 : decode prog_13_method_58_code 89 = .ok (.iload_n 3, 1) := by decide +kernel
theorem dk_D_reads_90 : decode prog_13_method_58_code 90 = .ok (.ifCond .ge 7, 3) := by decide +kernel
theorem dk_D_reads_93 : decode prog_13_method_58_code 93 = .ok (.iload_n 2, 1) := by decide +kernel
theorem dk_D_reads_94 : decode prog_13_method_58_code 94 = .ok (.goto 8, 3) := by decide +kernel
theorem dk_D_reads_97 : decode prog_13_method_58_code 97 = .ok (.sipush (-2000), 3) := by decide +kernel
theorem dk_D_reads_100 : decode prog_13_method_58_code 100 = .ok (.iload_n 3, 1) := by decide +kernel
theorem dk_D_reads_101 : decode prog_13_method_58_code 101 = .ok (.isub, 1) := by decide +kernel
theorem dk_D_reads_102 : decode prog_13_method_58_code 102 = .ok (.ireturn, 1) := by decide +kernel
noncomputable def fj_D_reads_75 (m15 : (Nat → Nat → Int32)) (x6 : Int32) (x16 : Int32) : Option ((Int32 × Int32 × (Nat → Nat → Int32)) ⊕ ((Nat → Nat → Int32) ⊕ (Int32 × Int32 × (Nat → Nat → Int32)))) :=
  if (m15 84 18) < (m15 84 20) then
    some (.inl ((x6 + (1 : Int32)), x16, m15))
  else
    some (.inr (.inr ((x6 + (1 : Int32)), x16, m15)))
noncomputable def fb_D_reads_36 (x6 : Int32) (x7 : Int32) (m8 : (Nat → Nat → Int32)) : Option ((Int32 × Int32 × (Nat → Nat → Int32)) ⊕ ((Nat → Nat → Int32) ⊕ (Int32 × Int32 × (Nat → Nat → Int32)))) :=
  kv_let (m8 84 18) (fun v13 =>
  kv_bind2 (fx_D_readsStatement m8) (fun b14 m15 =>
  if b14 = true then
    if (m15 84 24) ≤ (140 : Int32) then
      fj_D_reads_75 m15 x6 x7
    else
      if 0 ≤ x7 then
        fj_D_reads_75 m15 x6 x7
      else
        fj_D_reads_75 m15 x6 v13
  else
    some (.inr (.inl m15))))
noncomputable def fx_D_reads (p1 : Int32) (m : (Nat → Nat → Int32)) : Option (Int32 × (Nat → Nat → Int32)) :=
  kv_let (kv_st m 84 23 (nI 90)) (fun m1 =>
  kv_let (kv_st m1 84 19 ((100 : Int32) * p1)) (fun m2 =>
  kv_gd (kv_in p1 8) (
  kv_let (kv_st m2 84 20 (m2 89 p1.toNatClampNeg)) (fun m4 =>
  kv_let (kv_st m4 84 18 (0 : Int32)) (fun m5 =>
  (kv_loop (kv_u3 (fb_D_reads_36)) ((0 : Int32), (-4 : Int32), m5)).bind (Sum.elim (kv_u1 (fun m9 =>
  some (((-1000 : Int32) - (m9 84 18)), m9)))
   (kv_u3 (fun x10 x11 m12 =>
  if 0 ≤ x11 then
    some (((-2000 : Int32) - x11), m12)
  else
    some (x10, m12)))))))))
set_option maxRecDepth 20000 in
theorem cx_D_reads (d : Nat) (p1 : Int32) (c : (Nat → Nat → Int32)) (m : (Nat → Nat → Int32)) (f : (Nat → Int64)) (u : (Nat → Int64)) : ∀ a, fx_D_reads p1 m = some a → kv_C kM_D_reads (d + 27) [.ref 84, .int p1] (c, m, f, u) (some (.int a.1), (c, a.2, f, u)) := by
  refine kv_entryX (E := fun a : (Int32 × (Nat → Nat → Int32)) => (some (.int a.1), (c, a.2, f, u))) rfl (Nat.le_of_ble_eq_true rfl) (fun o => ?_)
  unfold fx_D_reads
  show kv_X _ _ _ _ _ 0 [(0, .ref 84), (1, .int p1)] [] (c, m, f, u)
  refine kv_aload_n (pc := 0) 0 rfl rfl dk_D_reads_0 ?_
  refine kv_aload_n (pc := 1) 0 rfl rfl dk_D_reads_1 ?_
  refine kv_getR (pc := 2) kf_D_25 kr_84 rfl kt_84_5 dk_D_reads_2 ?_
  refine kv_putV (pc := 5) kf_D_54 kr_84 kn_84 rfl (Nat.le_of_ble_eq_true rfl) (fun _ => rfl) (fun _ => rfl) dk_D_reads_5 (fun m1 => ?_)
  refine kv_aload_n (pc := 8) 0 rfl rfl dk_D_reads_8 ?_
  refine kv_bipush (pc := 9) (v := (100 : Int32)) dk_D_reads_9 kkb_100 ?_
  refine kv_iload_n (pc := 11) 1 rfl rfl dk_D_reads_11 ?_
  refine kv_imul (pc := 12) dk_D_reads_12 ?_
  refine kv_putM (pc := 13) kf_D_215 kr_84 kn_84 rfl rfl rfl dk_D_reads_13 (fun m2 => ?_)
  refine kv_aload_n (pc := 16) 0 rfl rfl dk_D_reads_16 ?_
  refine kv_aload_n (pc := 17) 0 rfl rfl dk_D_reads_17 ?_
  refine kv_getR (pc := 18) kf_D_22 kr_84 rfl kt_84_4 dk_D_reads_18 ?_
  refine kv_iload_n (pc := 21) 1 rfl rfl dk_D_reads_21 ?_
  refine kv_guard (fun g3 => ?_)
  refine kv_aldM (pc := 22) kr_89 kn_89 kl_89 g3 rfl dk_D_reads_22 ?_
  refine kv_putM (pc := 23) kf_D_212 kr_84 kn_84 rfl rfl rfl dk_D_reads_23 (fun m4 => ?_)
  refine kv_aload_n (pc := 26) 0 rfl rfl dk_D_reads_26 ?_
  refine kv_iconst (pc := 27) (v := (0 : Int32)) dk_D_reads_27 kki_0 ?_
  refine kv_putM (pc := 28) kf_D_209 kr_84 kn_84 rfl rfl rfl dk_D_reads_28 (fun m5 => ?_)
  refine kv_iconst (pc := 31) (v := (0 : Int32)) dk_D_reads_31 kki_0 ?_
  refine kv_istore_n (pc := 32) (lv' := [(2, .int (0 : Int32)), (0, .ref 84), (1, .int p1)]) rfl (Nat.le_of_ble_eq_true rfl) rfl dk_D_reads_32 ?_
  refine kv_bipush (pc := 33) (v := (-4 : Int32)) dk_D_reads_33 kkb_m4 ?_
  refine kv_istore_n (pc := 35) (lv' := [(3, .int (-4 : Int32)), (2, .int (0 : Int32)), (0, .ref 84), (1, .int p1)]) rfl (Nat.le_of_ble_eq_true rfl) rfl dk_D_reads_35 ?_
  refine kv_sub (lv' := [(0, .ref 84), (2, .int (0 : Int32)), (3, .int (-4 : Int32))]) [2, 1, 0] rfl ?_
  refine kv_lp_3_1_3 (LV := fun x6 x7 m8 => [(0, .ref 84), (2, .int x6), (3, .int x7)]) (WW := fun x6 x7 m8 => (c, m8, f, u)) (LE1 := fun m9 => [(0, .ref 84)]) (WE1 := fun m9 => (c, m9, f, u)) (pe1 := 49) (LE2 := fun x10 x11 m12 => [(2, .int x10), (3, .int x11)]) (WE2 := fun x10 x11 m12 => (c, m12, f, u)) (pe2 := 89) ?_ ?_ ?_
  · intro m9
    show kv_X _ _ _ _ _ 49 [(0, .ref 84)] [] (c, m9, f, u)
    refine kv_sipush (pc := 49) (v := (-1000 : Int32)) dk_D_reads_49 kks_m1000 ?_
    refine kv_aload_n (pc := 52) 0 rfl rfl dk_D_reads_52 ?_
    refine kv_getM (pc := 53) kf_D_209 kr_84 kn_84 rfl dk_D_reads_53 ?_
    refine kv_isub (pc := 56) dk_D_reads_56 ?_
    exact kv_iret (pc := 57) (fun h => h) rfl dk_D_reads_57
  · intro x10 x11 m12
    show kv_X _ _ _ _ _ 89 [(2, .int x10), (3, .int x11)] [] (c, m12, f, u)
    refine kv_iload_n (pc := 89) 1 rfl rfl dk_D_reads_89 ?_
    refine kv_if_ge (pc := 90) (tgt := 97) dk_D_reads_90 rfl ?_ ?_
    · refine kv_sipush (pc := 97) (v := (-2000 : Int32)) dk_D_reads_97 kks_m2000 ?_
      refine kv_iload_n (pc := 100) 1 rfl rfl dk_D_reads_100 ?_
      refine kv_isub (pc := 101) dk_D_reads_101 ?_
      exact kv_iret (pc := 102) (fun h => h) rfl dk_D_reads_102
    · refine kv_iload_n (pc := 93) 0 rfl rfl dk_D_reads_93 ?_
      refine kv_goto (pc := 94) (tgt := 102) dk_D_reads_94 rfl ?_
      exact kv_iret (pc := 102) (fun h => h) rfl dk_D_reads_102
  · intro hx36_0 hx36_1 x6 x7 m8
    show kv_X _ _ _ _ (fb_D_reads_36 x6 x7 m8) 36 [(0, .ref 84), (2, .int x6), (3, .int x7)] [] (c, m8, f, u)
    unfold fb_D_reads_36
    refine kv_aload_n (pc := 36) 0 rfl rfl dk_D_reads_36 ?_
    refine kv_getM (pc := 37) kf_D_209 kr_84 kn_84 rfl dk_D_reads_37 ?_
    refine kv_letI (fun v13 => ?_)
    refine kv_istore (pc := 40) (lv' := [(4, .int v13), (0, .ref 84), (2, .int x6), (3, .int x7)]) rfl (Nat.le_of_ble_eq_true rfl) dk_D_reads_40 ?_
    refine kv_aload_n (pc := 42) 1 rfl rfl dk_D_reads_42 ?_
    refine kv_cV_mZm (pc := 43) (as := []) (st := []) ko_D_readsStatement kc_11 rfl rfl kr_84 kw_1541 (Nat.le_of_ble_eq_true rfl) rfl dk_D_reads_43 (cx_D_readsStatement d c m8 f u) (fun b14 m15 => ?_)
    refine kv_zif_ne (pc := 46) (tgt := 58) dk_D_reads_46 rfl ?_ ?_
    · refine kv_aload_n (pc := 58) 1 rfl rfl dk_D_reads_58 ?_
      refine kv_getM (pc := 59) kf_D_249 kr_84 kn_84 rfl dk_D_reads_59 ?_
      refine kv_sipush (pc := 62) (v := (140 : Int32)) dk_D_reads_62 kks_140 ?_
      refine kv_cut_1 (J := fj_D_reads_75 m15 x6) (pcj := 75) (LJ := fun x16 => [(0, .ref 84), (2, .int x6), (3, .int x16)]) (SJ := fun x16 => []) (WJ := fun x16 => (c, m15, f, u)) ?_ (fun hj75 => ?_)
      · intro x16
        show kv_X _ _ _ _ (fj_D_reads_75 m15 x6 x16) 75 [(0, .ref 84), (2, .int x6), (3, .int x16)] [] (c, m15, f, u)
        unfold fj_D_reads_75
        refine kv_iinc (pc := 75) (kk := (1 : Int32)) (lv' := [(2, .int (x6 + (1 : Int32))), (0, .ref 84), (3, .int x16)]) 1 rfl kki_1 rfl (Nat.le_of_ble_eq_true rfl) dk_D_reads_75 ?_
        refine kv_aload_n (pc := 78) 1 rfl rfl dk_D_reads_78 ?_
        refine kv_getM (pc := 79) kf_D_209 kr_84 kn_84 rfl dk_D_reads_79 ?_
        refine kv_aload_n (pc := 82) 1 rfl rfl dk_D_reads_82 ?_
        refine kv_getM (pc := 83) kf_D_212 kr_84 kn_84 rfl dk_D_reads_83 ?_
        refine kv_icmp_lt (pc := 86) (tgt := 36) dk_D_reads_86 rfl ?_ ?_
        · exact kv_sub [1, 0, 2] rfl (kv_leaf (fun h => h))
        · exact kv_sub [0, 2] rfl (kv_leaf (hx36_1 _ _ _))
      refine kv_icmp_le (pc := 65) (tgt := 75) dk_D_reads_65 rfl ?_ ?_
      · exact kv_sub [1, 2, 3] rfl (hj75 x7)
      · refine kv_iload_n (pc := 68) 3 rfl rfl dk_D_reads_68 ?_
        refine kv_if_ge (pc := 69) (tgt := 75) dk_D_reads_69 rfl ?_ ?_
        · exact kv_sub [1, 2, 3] rfl (hj75 x7)
        · refine kv_iload (pc := 72) 0 rfl dk_D_reads_72 ?_
          refine kv_istore_n (pc := 74) (lv' := [(3, .int v13), (4, .int v13), (0, .ref 84), (2, .int x6)]) rfl (Nat.le_of_ble_eq_true rfl) rfl dk_D_reads_74 ?_
          exact kv_sub [2, 3, 0] rfl (hj75 v13)
    · exact kv_sub [1] rfl (kv_leaf (hx36_0 _))
theorem dk_D_words_0 : decode prog_13_method_59_code 0 = .ok (.aload_n 0, 1) := by decide +kernel
theorem dk_D_words_1 : decode prog_13_method_59_code 1 = .ok (.iload_n 1, 1) := by decide +kernel
theorem dk_D_words_2 : decode prog_13_method_59_code 2 = .ok (.iconst 0, 1) := by decide +kernel
theorem dk_D_words_3 : decode prog_13_method_59_code 3 = .ok (.invokevirtual 127, 3) := by decide +kernel
theorem dk_D_words_6 : decode prog_13_method_59_code 6 = .ok (.istore_n 2, 1) := by decide +kernel
theorem dk_D_words_7 : decode prog_13_method_59_code 7 = .ok (.iload_n 2, 1) := by decide +kernel
theorem dk_D_words_8 : decode prog_13_method_59_code 8 = .ok (.ifCond .eq 5, 3) := by decide +kernel
theorem dk_D_words_11 : decode prog_13_method_59_code 11 = .ok (.iload_n 2, 1) := by decide +kernel
theorem dk_D_words_12 : decode prog_13_method_59_code 12 = .ok (.ireturn, 1) := by decide +kernel
theorem dk_D_words_13 : decode prog_13_method_59_code 13 = .ok (.aload_n 0, 1) := by decide +kernel
theorem dk_D_words_14 : decode prog_13_method_59_code 14 = .ok (.iload_n 1, 1) := by decide +kernel
theorem dk_D_words_15 : decode prog_13_method_59_code 15 = .ok (.invokevirtual 255, 3) := by decide +kernel
theorem dk_D_words_18 : decode prog_13_method_59_code 18 = .ok (.istore_n 3, 1) := by decide +kernel
theorem dk_D_words_19 : decode prog_13_method_59_code 19 = .ok (.iload_n 3, 1) := by decide +kernel
theorem dk_D_words_20 : decode prog_13_method_59_code 20 = .ok (.ifCond .ge 5, 3) := by decide +kernel
theorem dk_D_words_23 : decode prog_13_method_59_code 23 = .ok (.iload_n 3, 1) := by decide +kernel
theorem dk_D_words_24 : decode prog_13_method_59_code 24 = .ok (.ireturn, 1) := by decide +kernel
theorem dk_D_words_25 : decode prog_13_method_59_code 25 = .ok (.aload_n 0, 1) := by decide +kernel
theorem dk_D_words_26 : decode prog_13_method_59_code 26 = .ok (.getfield 9, 3) := by decide +kernel
theorem dk_D_words_29 : decode prog_13_method_59_code 29 = .ok (.bipush 7, 2) := by decide +kernel
theorem dk_D_words_31 : decode prog_13_method_59_code 31 = .ok (.iload_n 3, 1) := by decide +kernel
theorem dk_D_words_32 : decode prog_13_method_59_code 32 = .ok (.iastore, 1) := by decide +kernel
theorem dk_D_words_33 : decode prog_13_method_59_code 33 = .ok (.aload_n 0, 1) := by decide +kernel
theorem dk_D_words_34 : decode prog_13_method_59_code 34 = .ok (.getfield 9, 3) := by decide +kernel
theorem dk_D_words_37 : decode prog_13_method_59_code 37 = .ok (.bipush 8, 2) := by decide +kernel
theorem dk_D_words_39 : decode prog_13_method_59_code 39 = .ok (.aload_n 0, 1) := by decide +kernel
theorem dk_D_words_40 : decode prog_13_method_59_code 40 = .ok (.getfield 22, 3) := by decide +kernel
theorem dk_D_words_43 : decode prog_13_method_59_code 43 = .ok (.iload_n 1, 1) := by decide +kernel
theorem dk_D_words_44 : decode prog_13_method_59_code 44 = .ok (.iaload, 1) := by decide +kernel
theorem dk_D_words_45 : decode prog_13_method_59_code 45 = .ok (.iastore, 1) := by decide +kernel
theorem dk_D_words_46 : decode prog_13_method_59_code 46 = .ok (.iconst 0, 1) := by decide +kernel
theorem dk_D_words_47 : decode prog_13_method_59_code 47 = .ok (.istore 4, 2) := by decide +kernel
theorem dk_D_words_49 : decode prog_13_method_59_code 49 = .ok (.iload 4, 2) := by decide +kernel
theorem dk_D_words_51 : decode prog_13_method_59_code 51 = .ok (.aload_n 0, 1) := by decide +kernel
theorem dk_D_words_52 : decode prog_13_method_59_code 52 = .ok (.getfield 22, 3) := by decide +kernel
theorem dk_D_words_55 : decode prog_13_method_59_code 55 = .ok (.iload_n 1, 1) := by decide +kernel
theorem dk_D_words_56 : decode prog_13_method_59_code 56 = .ok (.iaload, 1) := by decide +kernel
theorem dk_D_words_57 : decode prog_13_method_59_code 57 = .ok (.if_icmp .ge 32, 3) := by decide +kernel
theorem dk_D_words_60 : decode prog_13_method_59_code 60 = .ok (.aload_n 0, 1) := by decide +kernel
theorem dk_D_words_61 : decode prog_13_method_59_code 61 = .ok (.getfield 9, 3) := by decide +kernel
theorem dk_D_words_64 : decode prog_13_method_59_code 64 = .ok (.sipush 240, 3) := by decide +kernel
theorem dk_D_words_67 : decode prog_13_method_59_code 67 = .ok (.iload 4, 2) := by decide +kernel
theorem dk_D_words_69 : decode prog_13_method_59_code 69 = .ok (.iadd, 1) := by decide +kernel
theorem dk_D_words_70 : decode prog_13_method_59_code 70 = .ok (.aload_n 0, 1) := by decide +kernel
theorem dk_D_words_71 : decode prog_13_method_59_code 71 = .ok (.getfield 25, 3) := by decide +kernel
theorem dk_D_words_74 : decode prog_13_method_59_code 74 = .ok (.bipush 100, 2) := by decide +kernel
theorem dk_D_words_76 : decode prog_13_method_59_code 76 = .ok (.iload_n 1, 1) := by decide +kernel
theorem dk_D_words_77 : decode prog_13_method_59_code 77 = .ok (.imul, 1) := by decide +kernel
theorem dk_D_words_78 : decode prog_13_method_59_code 78 = .ok (.iload 4, 2) := by decide +kernel
theorem dk_D_words_80 : decode prog_13_method_59_code 80 = .ok (.iadd, 1) := by decide +kernel
theorem dk_D_words_81 : decode prog_13_method_59_code 81 = .ok (.iaload, 1) := by decide +kernel
theorem dk_D_words_82 : decode prog_13_method_59_code 82 = .ok (.iastore, 1) := by decide +kernel
theorem dk_D_words_83 : decode prog_13_method_59_code 83 = .ok (.iinc 4 1, 3) := by decide +kernel
theorem dk_D_words_86 : decode prog_13_method_59_code 86 = .ok (.goto (-37), 3) := by decide +kernel
theorem dk_D_words_89 : decode prog_13_method_59_code 89 = .ok (.iload_n 3, 1) := by decide +kernel
theorem dk_D_words_90 : decode prog_13_method_59_code 90 = .ok (.ireturn, 1) := by decide +kernel
noncomputable def fb_D_words_49 (p1 : Int32) (x7 : Int32) (m8 : (Nat → Nat → Int32)) : Option ((Int32 × (Nat → Nat → Int32)) ⊕ (Nat → Nat → Int32)) :=
  if (m8 89 p1.toNatClampNeg) ≤ x7 then
    some (.inr m8)
  else
    kv_gd (kv_in (((100 : Int32) * p1) + x7) 800) (
    kv_gd (kv_in ((240 : Int32) + x7) 444) (
    kv_let (kv_st m8 85 ((240 : Int32) + x7).toNatClampNeg (m8 90 (((100 : Int32) * p1) + x7).toNatClampNeg)) (fun m12 =>
    some (.inl ((x7 + (1 : Int32)), m12)))))
noncomputable def fx_D_words (p1 : Int32) (m : (Nat → Nat → Int32)) : Option (Int32 × (Nat → Nat → Int32)) :=
  kv_bind1 (fx_D_wrongRow p1 (0 : Int32) m) (fun v1 =>
  if v1 = 0 then
    kv_bind2 (fx_D_reads p1 m) (fun v2 m3 =>
    if 0 ≤ v2 then
      kv_let (kv_st m3 85 7 v2) (fun m4 =>
      kv_gd (kv_in p1 8) (
      kv_let (kv_st m4 85 8 (m4 89 p1.toNatClampNeg)) (fun m6 =>
      (kv_loop (kv_u2 (fb_D_words_49 p1)) ((0 : Int32), m6)).bind (kv_u1 (fun m9 =>
      some (v2, m9))))))
    else
      some (v2, m3))
  else
    some (v1, m))
set_option maxRecDepth 20000 in
theorem cx_D_words (d : Nat) (p1 : Int32) (c : (Nat → Nat → Int32)) (m : (Nat → Nat → Int32)) (f : (Nat → Int64)) (u : (Nat → Int64)) : ∀ a, fx_D_words p1 m = some a → kv_C kM_D_words (d + 28) [.ref 84, .int p1] (c, m, f, u) (some (.int a.1), (c, a.2, f, u)) := by
  refine kv_entryX (E := fun a : (Int32 × (Nat → Nat → Int32)) => (some (.int a.1), (c, a.2, f, u))) rfl (Nat.le_of_ble_eq_true rfl) (fun o => ?_)
  unfold fx_D_words
  show kv_X _ _ _ _ _ 0 [(0, .ref 84), (1, .int p1)] [] (c, m, f, u)
  refine kv_aload_n (pc := 0) 0 rfl rfl dk_D_words_0 ?_
  refine kv_iload_n (pc := 1) 1 rfl rfl dk_D_words_1 ?_
  refine kv_iconst (pc := 2) (v := (0 : Int32)) dk_D_words_2 kki_0 ?_
  refine kv_cV_mI (pc := 3) (as := [.int p1, .int (0 : Int32)]) (st := []) ko_D_wrongRow kc_11 rfl rfl kr_84 kw_1412 (Nat.le_of_ble_eq_true rfl) rfl dk_D_words_3 (cx_D_wrongRow (d + 25) p1 (0 : Int32) c m f u) (fun v1 => ?_)
  refine kv_istore_n (pc := 6) (lv' := [(2, .int v1), (0, .ref 84), (1, .int p1)]) rfl (Nat.le_of_ble_eq_true rfl) rfl dk_D_words_6 ?_
  refine kv_iload_n (pc := 7) 0 rfl rfl dk_D_words_7 ?_
  refine kv_if_eq (pc := 8) (tgt := 13) dk_D_words_8 rfl ?_ ?_
  · refine kv_aload_n (pc := 13) 1 rfl rfl dk_D_words_13 ?_
    refine kv_iload_n (pc := 14) 2 rfl rfl dk_D_words_14 ?_
    refine kv_cV_mIm (pc := 15) (as := [.int p1]) (st := []) ko_D_reads kc_11 rfl rfl kr_84 kw_1537 (Nat.le_of_ble_eq_true rfl) rfl dk_D_words_15 (cx_D_reads d p1 c m f u) (fun v2 m3 => ?_)
    refine kv_istore_n (pc := 18) (lv' := [(3, .int v2), (2, .int v1), (0, .ref 84), (1, .int p1)]) rfl (Nat.le_of_ble_eq_true rfl) rfl dk_D_words_18 ?_
    refine kv_iload_n (pc := 19) 0 rfl rfl dk_D_words_19 ?_
    refine kv_if_ge (pc := 20) (tgt := 25) dk_D_words_20 rfl ?_ ?_
    · refine kv_aload_n (pc := 25) 2 rfl rfl dk_D_words_25 ?_
      refine kv_getR (pc := 26) kf_D_9 kr_84 rfl kt_84_0 dk_D_words_26 ?_
      refine kv_bipush (pc := 29) (v := (7 : Int32)) dk_D_words_29 kkb_7 ?_
      refine kv_iload_n (pc := 31) 0 rfl rfl dk_D_words_31 ?_
      refine kv_astM (pc := 32) kr_85 kn_85 kl_85 kkg_7_444 (j := 7) kkx_7 dk_D_words_32 (fun m4 => ?_)
      refine kv_aload_n (pc := 33) 2 rfl rfl dk_D_words_33 ?_
      refine kv_getR (pc := 34) kf_D_9 kr_84 rfl kt_84_0 dk_D_words_34 ?_
      refine kv_bipush (pc := 37) (v := (8 : Int32)) dk_D_words_37 kkb_8 ?_
      refine kv_aload_n (pc := 39) 2 rfl rfl dk_D_words_39 ?_
      refine kv_getR (pc := 40) kf_D_22 kr_84 rfl kt_84_4 dk_D_words_40 ?_
      refine kv_iload_n (pc := 43) 3 rfl rfl dk_D_words_43 ?_
      refine kv_guard (fun g5 => ?_)
      refine kv_aldM (pc := 44) kr_89 kn_89 kl_89 g5 rfl dk_D_words_44 ?_
      refine kv_astM (pc := 45) kr_85 kn_85 kl_85 kkg_8_444 (j := 8) kkx_8 dk_D_words_45 (fun m6 => ?_)
      refine kv_iconst (pc := 46) (v := (0 : Int32)) dk_D_words_46 kki_0 ?_
      refine kv_istore (pc := 47) (lv' := [(4, .int (0 : Int32)), (3, .int v2), (2, .int v1), (0, .ref 84), (1, .int p1)]) rfl (Nat.le_of_ble_eq_true rfl) dk_D_words_47 ?_
      refine kv_sub (lv' := [(0, .ref 84), (1, .int p1), (3, .int v2), (4, .int (0 : Int32))]) [3, 4, 1, 0] rfl ?_
      refine kv_lp_2_1 (LV := fun x7 m8 => [(0, .ref 84), (1, .int p1), (3, .int v2), (4, .int x7)]) (WW := fun x7 m8 => (c, m8, f, u)) (LE1 := fun m9 => [(3, .int v2)]) (WE1 := fun m9 => (c, m9, f, u)) (pe1 := 89) ?_ ?_
      · intro m9
        show kv_X _ _ _ _ _ 89 [(3, .int v2)] [] (c, m9, f, u)
        refine kv_iload_n (pc := 89) 0 rfl rfl dk_D_words_89 ?_
        exact kv_iret (pc := 90) (fun h => h) rfl dk_D_words_90
      · intro hx49_0 x7 m8
        show kv_X _ _ _ _ (fb_D_words_49 p1 x7 m8) 49 [(0, .ref 84), (1, .int p1), (3, .int v2), (4, .int x7)] [] (c, m8, f, u)
        unfold fb_D_words_49
        refine kv_iload (pc := 49) 3 rfl dk_D_words_49 ?_
        refine kv_aload_n (pc := 51) 0 rfl rfl dk_D_words_51 ?_
        refine kv_getR (pc := 52) kf_D_22 kr_84 rfl kt_84_4 dk_D_words_52 ?_
        refine kv_iload_n (pc := 55) 1 rfl rfl dk_D_words_55 ?_
        refine kv_aldM (pc := 56) kr_89 kn_89 kl_89 g5 rfl dk_D_words_56 ?_
        refine kv_icmp_ge (pc := 57) (tgt := 89) dk_D_words_57 rfl ?_ ?_
        · exact kv_sub [2] rfl (kv_leaf (hx49_0 _))
        · refine kv_aload_n (pc := 60) 0 rfl rfl dk_D_words_60 ?_
          refine kv_getR (pc := 61) kf_D_9 kr_84 rfl kt_84_0 dk_D_words_61 ?_
          refine kv_sipush (pc := 64) (v := (240 : Int32)) dk_D_words_64 kks_240 ?_
          refine kv_iload (pc := 67) 3 rfl dk_D_words_67 ?_
          refine kv_iadd (pc := 69) dk_D_words_69 ?_
          refine kv_aload_n (pc := 70) 0 rfl rfl dk_D_words_70 ?_
          refine kv_getR (pc := 71) kf_D_25 kr_84 rfl kt_84_5 dk_D_words_71 ?_
          refine kv_bipush (pc := 74) (v := (100 : Int32)) dk_D_words_74 kkb_100 ?_
          refine kv_iload_n (pc := 76) 1 rfl rfl dk_D_words_76 ?_
          refine kv_imul (pc := 77) dk_D_words_77 ?_
          refine kv_iload (pc := 78) 3 rfl dk_D_words_78 ?_
          refine kv_iadd (pc := 80) dk_D_words_80 ?_
          refine kv_guard (fun g10 => ?_)
          refine kv_aldM (pc := 81) kr_90 kn_90 kl_90 g10 rfl dk_D_words_81 ?_
          refine kv_guard (fun g11 => ?_)
          refine kv_astM (pc := 82) kr_85 kn_85 kl_85 g11 rfl dk_D_words_82 (fun m12 => ?_)
          refine kv_iinc (pc := 83) (kk := (1 : Int32)) (lv' := [(4, .int (x7 + (1 : Int32))), (0, .ref 84), (1, .int p1), (3, .int v2)]) 3 rfl kki_1 rfl (Nat.le_of_ble_eq_true rfl) dk_D_words_83 ?_
          refine kv_goto (pc := 86) (tgt := 49) dk_D_words_86 rfl ?_
          exact kv_sub [1, 2, 3, 0] rfl (kv_leaf (fun h => h))
    · refine kv_iload_n (pc := 23) 0 rfl rfl dk_D_words_23 ?_
      exact kv_iret (pc := 24) (fun h => h) rfl dk_D_words_24
  · refine kv_iload_n (pc := 11) 0 rfl rfl dk_D_words_11 ?_
    exact kv_iret (pc := 12) (fun h => h) rfl dk_D_words_12
noncomputable def fx_Reader_start_75_19_1 (p2 : Int32) (c : (Nat → Nat → Int32)) : Option (Nat → Nat → Int32) :=
  kv_gd (kv_cp (0 : Int32) (0 : Int32) p2 100 100) (
  kv_let (va_up c 76 (va_cpy (c 19) (c 76) (0 : Int32).toNatClampNeg (0 : Int32).toNatClampNeg p2.toNatClampNeg)) (fun c2 =>
  kv_let (kv_st c2 75 1 p2) (fun c3 =>
  kv_let (kv_st c3 75 2 (0 : Int32)) (fun c4 =>
  kv_let (kv_st c4 75 3 (-1 : Int32)) (fun c5 =>
  kv_let (kv_st c5 75 4 (-1 : Int32)) (fun c6 =>
  kv_let (kv_st c6 75 5 (0 : Int32)) (fun c7 =>
  kv_let (kv_st c7 75 6 (c7 1 5)) (fun c8 =>
  kv_let (kv_st c8 75 7 (-1 : Int32)) (fun c9 =>
  kv_let (kv_st c9 75 8 (0 : Int32)) (fun c10 =>
  kv_bind1 (fx_Lumps_mean (1 : Int32) (1 : Int32) c10) (fun v11 =>
  kv_let (kv_st c10 75 9 v11) (fun c12 =>
  kv_bind1 (fx_Lumps_mean (2 : Int32) (2 : Int32) c12) (fun v13 =>
  kv_let (kv_st c12 75 10 v13) (fun c14 =>
  kv_bind1 (fx_Lumps_mean (7 : Int32) (7 : Int32) c14) (fun v15 =>
  kv_let (kv_st c14 75 11 v15) (fun c16 =>
  kv_bind1 (fx_Lumps_mean (3 : Int32) (4 : Int32) c16) (fun v17 =>
  kv_let (kv_st c16 75 12 v17) (fun c18 =>
  some c18))))))))))))))))))
set_option maxRecDepth 20000 in
theorem cx_Reader_start_75_19_1 (d : Nat) (p2 : Int32) (c : (Nat → Nat → Int32)) (y : (Nat → Nat → Int32) × (Nat → Int64) × (Nat → Int64)) : ∀ a, fx_Reader_start_75_19_1 p2 c = some a → kv_C kM_Reader_start (d + 1) [.ref 75, .ref 19, .int p2, .ref 1] (c, y) (none, (a, y)) := by
  refine kv_entryX (E := fun a : (Nat → Nat → Int32) => (none, (a, y))) rfl (Nat.le_of_ble_eq_true rfl) (fun o => ?_)
  unfold fx_Reader_start_75_19_1
  show kv_X _ _ _ _ _ 0 [(0, .ref 75), (1, .ref 19), (2, .int p2), (3, .ref 1)] [] (c, y)
  refine kv_aload_n (pc := 0) 1 rfl rfl dk_Reader_start_0 ?_
  refine kv_iconst (pc := 1) (v := (0 : Int32)) dk_Reader_start_1 kki_0 ?_
  refine kv_aload_n (pc := 2) 0 rfl rfl dk_Reader_start_2 ?_
  refine kv_getR (pc := 3) kf_Reader_9 kr_75 rfl kt_75_0 dk_Reader_start_3 ?_
  refine kv_iconst (pc := 6) (v := (0 : Int32)) dk_Reader_start_6 kki_0 ?_
  refine kv_iload_n (pc := 7) 2 rfl rfl dk_Reader_start_7 ?_
  refine kv_guard (fun g1 => ?_)
  refine kv_copyC (pc := 8) kr_19 kr_76 kn_19 kn_76 kl_19 kl_76 g1 kw_853 kw_752 kw_751 kw_82 (Nat.le_of_ble_eq_true rfl) dk_Reader_start_8 (fun c2 => ?_)
  refine kv_aload_n (pc := 11) 0 rfl rfl dk_Reader_start_11 ?_
  refine kv_iload_n (pc := 12) 2 rfl rfl dk_Reader_start_12 ?_
  refine kv_putC (pc := 13) kf_Reader_29 kr_75 kn_75 rfl rfl rfl dk_Reader_start_13 (fun c3 => ?_)
  refine kv_aload_n (pc := 16) 0 rfl rfl dk_Reader_start_16 ?_
  refine kv_iconst (pc := 17) (v := (0 : Int32)) dk_Reader_start_17 kki_0 ?_
  refine kv_putC (pc := 18) kf_Reader_26 kr_75 kn_75 rfl rfl rfl dk_Reader_start_18 (fun c4 => ?_)
  refine kv_aload_n (pc := 21) 0 rfl rfl dk_Reader_start_21 ?_
  refine kv_iconst (pc := 22) (v := (-1 : Int32)) dk_Reader_start_22 kki_m1 ?_
  refine kv_putC (pc := 23) kf_Reader_22 kr_75 kn_75 rfl rfl rfl dk_Reader_start_23 (fun c5 => ?_)
  refine kv_aload_n (pc := 26) 0 rfl rfl dk_Reader_start_26 ?_
  refine kv_iconst (pc := 27) (v := (-1 : Int32)) dk_Reader_start_27 kki_m1 ?_
  refine kv_putC (pc := 28) kf_Reader_41 kr_75 kn_75 rfl rfl rfl dk_Reader_start_28 (fun c6 => ?_)
  refine kv_aload_n (pc := 31) 0 rfl rfl dk_Reader_start_31 ?_
  refine kv_iconst (pc := 32) (v := (0 : Int32)) dk_Reader_start_32 kki_0 ?_
  refine kv_putC (pc := 33) kf_Reader_44 kr_75 kn_75 rfl rfl rfl dk_Reader_start_33 (fun c7 => ?_)
  refine kv_aload_n (pc := 36) 0 rfl rfl dk_Reader_start_36 ?_
  refine kv_aload_n (pc := 37) 3 rfl rfl dk_Reader_start_37 ?_
  refine kv_getC (pc := 38) kf_Reader_47 kr_1 kn_1 rfl dk_Reader_start_38 ?_
  refine kv_putC (pc := 41) kf_Reader_52 kr_75 kn_75 rfl rfl rfl dk_Reader_start_41 (fun c8 => ?_)
  refine kv_aload_n (pc := 44) 0 rfl rfl dk_Reader_start_44 ?_
  refine kv_iconst (pc := 45) (v := (-1 : Int32)) dk_Reader_start_45 kki_m1 ?_
  refine kv_putC (pc := 46) kf_Reader_53 kr_75 kn_75 rfl rfl rfl dk_Reader_start_46 (fun c9 => ?_)
  refine kv_aload_n (pc := 49) 0 rfl rfl dk_Reader_start_49 ?_
  refine kv_iconst (pc := 50) (v := (0 : Int32)) dk_Reader_start_50 kki_0 ?_
  refine kv_putC (pc := 51) kf_Reader_32 kr_75 kn_75 rfl rfl rfl dk_Reader_start_51 (fun c10 => ?_)
  refine kv_aload_n (pc := 54) 0 rfl rfl dk_Reader_start_54 ?_
  refine kv_aload_n (pc := 55) 3 rfl rfl dk_Reader_start_55 ?_
  refine kv_getR (pc := 56) kf_Reader_56 kr_1 rfl kt_1_0 dk_Reader_start_56 ?_
  refine kv_iconst (pc := 59) (v := (1 : Int32)) dk_Reader_start_59 kki_1 ?_
  refine kv_iconst (pc := 60) (v := (1 : Int32)) dk_Reader_start_60 kki_1 ?_
  refine kv_cV_cI (pc := 61) (as := [.int (1 : Int32), .int (1 : Int32)]) (st := [.ref 75]) ko_Lumps_mean kc_3 rfl rfl kr_2 kw_854 (Nat.le_of_ble_eq_true rfl) rfl dk_Reader_start_61 (cx_Lumps_mean d (1 : Int32) (1 : Int32) c10 y) (fun v11 => ?_)
  refine kv_putC (pc := 64) kf_Reader_66 kr_75 kn_75 rfl rfl rfl dk_Reader_start_64 (fun c12 => ?_)
  refine kv_aload_n (pc := 67) 0 rfl rfl dk_Reader_start_67 ?_
  refine kv_aload_n (pc := 68) 3 rfl rfl dk_Reader_start_68 ?_
  refine kv_getR (pc := 69) kf_Reader_56 kr_1 rfl kt_1_0 dk_Reader_start_69 ?_
  refine kv_iconst (pc := 72) (v := (2 : Int32)) dk_Reader_start_72 kki_2 ?_
  refine kv_iconst (pc := 73) (v := (2 : Int32)) dk_Reader_start_73 kki_2 ?_
  refine kv_cV_cI (pc := 74) (as := [.int (2 : Int32), .int (2 : Int32)]) (st := [.ref 75]) ko_Lumps_mean kc_3 rfl rfl kr_2 kw_854 (Nat.le_of_ble_eq_true rfl) rfl dk_Reader_start_74 (cx_Lumps_mean d (2 : Int32) (2 : Int32) c12 y) (fun v13 => ?_)
  refine kv_putC (pc := 77) kf_Reader_69 kr_75 kn_75 rfl rfl rfl dk_Reader_start_77 (fun c14 => ?_)
  refine kv_aload_n (pc := 80) 0 rfl rfl dk_Reader_start_80 ?_
  refine kv_aload_n (pc := 81) 3 rfl rfl dk_Reader_start_81 ?_
  refine kv_getR (pc := 82) kf_Reader_56 kr_1 rfl kt_1_0 dk_Reader_start_82 ?_
  refine kv_bipush (pc := 85) (v := (7 : Int32)) dk_Reader_start_85 kkb_7 ?_
  refine kv_bipush (pc := 87) (v := (7 : Int32)) dk_Reader_start_87 kkb_7 ?_
  refine kv_cV_cI (pc := 89) (as := [.int (7 : Int32), .int (7 : Int32)]) (st := [.ref 75]) ko_Lumps_mean kc_3 rfl rfl kr_2 kw_854 (Nat.le_of_ble_eq_true rfl) rfl dk_Reader_start_89 (cx_Lumps_mean d (7 : Int32) (7 : Int32) c14 y) (fun v15 => ?_)
  refine kv_putC (pc := 92) kf_Reader_72 kr_75 kn_75 rfl rfl rfl dk_Reader_start_92 (fun c16 => ?_)
  refine kv_aload_n (pc := 95) 0 rfl rfl dk_Reader_start_95 ?_
  refine kv_aload_n (pc := 96) 3 rfl rfl dk_Reader_start_96 ?_
  refine kv_getR (pc := 97) kf_Reader_56 kr_1 rfl kt_1_0 dk_Reader_start_97 ?_
  refine kv_iconst (pc := 100) (v := (3 : Int32)) dk_Reader_start_100 kki_3 ?_
  refine kv_iconst (pc := 101) (v := (4 : Int32)) dk_Reader_start_101 kki_4 ?_
  refine kv_cV_cI (pc := 102) (as := [.int (3 : Int32), .int (4 : Int32)]) (st := [.ref 75]) ko_Lumps_mean kc_3 rfl rfl kr_2 kw_854 (Nat.le_of_ble_eq_true rfl) rfl dk_Reader_start_102 (cx_Lumps_mean d (3 : Int32) (4 : Int32) c16 y) (fun v17 => ?_)
  refine kv_putC (pc := 105) kf_Reader_75 kr_75 kn_75 rfl rfl rfl dk_Reader_start_105 (fun c18 => ?_)
  exact kv_vret (pc := 108) (fun h => h) rfl dk_Reader_start_108
noncomputable def fb_Reader_read_75_19_1_14 (x3 : Int32) (c4 : (Nat → Nat → Int32)) : Option ((Int32 × (Nat → Nat → Int32)) ⊕ (Nat → Nat → Int32)) :=
  if (100 : Int32) ≤ x3 then
    some (.inr c4)
  else
    if 0 ≤ (c4 75 3) then
      some (.inr c4)
    else
      if (c4 75 1) ≤ (c4 75 2) then
        some (.inr c4)
      else
        kv_bind1 (fx_Reader_statement c4) (fun c6 =>
        some (.inl ((x3 + (1 : Int32)), c6)))
noncomputable def fx_Reader_read_75_19_1 (p2 : Int32) (c : (Nat → Nat → Int32)) : Option (Int32 × (Nat → Nat → Int32)) :=
  kv_bind1 (fx_Reader_start_75_19_1 p2 c) (fun c1 =>
  kv_bind1 (fx_Reader_statement c1) (fun c2 =>
  (kv_loop (kv_u2 (fb_Reader_read_75_19_1_14)) ((0 : Int32), c2)).bind (kv_u1 (fun c5 =>
  some ((c5 75 8), c5)))))
set_option maxRecDepth 20000 in
theorem cx_Reader_read_75_19_1 (d : Nat) (p2 : Int32) (c : (Nat → Nat → Int32)) (y : (Nat → Nat → Int32) × (Nat → Int64) × (Nat → Int64)) : ∀ a, fx_Reader_read_75_19_1 p2 c = some a → kv_C kM_Reader_read (d + 27) [.ref 75, .ref 19, .int p2, .ref 1] (c, y) (some (.int a.1), (a.2, y)) := by
  refine kv_entryX (E := fun a : (Int32 × (Nat → Nat → Int32)) => (some (.int a.1), (a.2, y))) rfl (Nat.le_of_ble_eq_true rfl) (fun o => ?_)
  unfold fx_Reader_read_75_19_1
  show kv_X _ _ _ _ _ 0 [(0, .ref 75), (1, .ref 19), (2, .int p2), (3, .ref 1)] [] (c, y)
  refine kv_aload_n (pc := 0) 0 rfl rfl dk_Reader_read_0 ?_
  refine kv_aload_n (pc := 1) 1 rfl rfl dk_Reader_read_1 ?_
  refine kv_iload_n (pc := 2) 2 rfl rfl dk_Reader_read_2 ?_
  refine kv_aload_n (pc := 3) 3 rfl rfl dk_Reader_read_3 ?_
  refine kv_cV_cc (pc := 4) (as := [.ref 19, .int p2, .ref 1]) (st := []) ko_Reader_start kc_6 rfl rfl kr_75 kw_849 (Nat.le_of_ble_eq_true rfl) rfl dk_Reader_read_4 (cx_Reader_start_75_19_1 (d + 25) p2 c y) (fun c1 => ?_)
  refine kv_aload_n (pc := 7) 0 rfl rfl dk_Reader_read_7 ?_
  refine kv_cV_cc (pc := 8) (as := []) (st := []) ko_Reader_statement kc_6 rfl rfl kr_75 kw_858 (Nat.le_of_ble_eq_true rfl) rfl dk_Reader_read_8 (cx_Reader_statement d c1 y) (fun c2 => ?_)
  refine kv_iconst (pc := 11) (v := (0 : Int32)) dk_Reader_read_11 kki_0 ?_
  refine kv_istore (pc := 12) (lv' := [(4, .int (0 : Int32)), (0, .ref 75), (1, .ref 19), (2, .int p2), (3, .ref 1)]) rfl (Nat.le_of_ble_eq_true rfl) dk_Reader_read_12 ?_
  refine kv_sub (lv' := [(0, .ref 75), (4, .int (0 : Int32))]) [1, 0] rfl ?_
  refine kv_lp_2_1 (LV := fun x3 c4 => [(0, .ref 75), (4, .int x3)]) (WW := fun x3 c4 => (c4, y)) (LE1 := fun c5 => [(0, .ref 75)]) (WE1 := fun c5 => (c5, y)) (pe1 := 49) ?_ ?_
  · intro c5
    show kv_X _ _ _ _ _ 49 [(0, .ref 75)] [] (c5, y)
    refine kv_aload_n (pc := 49) 0 rfl rfl dk_Reader_read_49 ?_
    refine kv_getC (pc := 50) kf_Reader_32 kr_75 kn_75 rfl dk_Reader_read_50 ?_
    exact kv_iret (pc := 53) (fun h => h) rfl dk_Reader_read_53
  · intro hx14_0 x3 c4
    show kv_X _ _ _ _ (fb_Reader_read_75_19_1_14 x3 c4) 14 [(0, .ref 75), (4, .int x3)] [] (c4, y)
    unfold fb_Reader_read_75_19_1_14
    refine kv_iload (pc := 14) 1 rfl dk_Reader_read_14 ?_
    refine kv_bipush (pc := 16) (v := (100 : Int32)) dk_Reader_read_16 kkb_100 ?_
    refine kv_icmp_ge (pc := 18) (tgt := 49) dk_Reader_read_18 rfl ?_ ?_
    · exact kv_sub [0] rfl (kv_leaf (hx14_0 _))
    · refine kv_aload_n (pc := 21) 0 rfl rfl dk_Reader_read_21 ?_
      refine kv_getC (pc := 22) kf_Reader_22 kr_75 kn_75 rfl dk_Reader_read_22 ?_
      refine kv_if_ge (pc := 25) (tgt := 49) dk_Reader_read_25 rfl ?_ ?_
      · exact kv_sub [0] rfl (kv_leaf (hx14_0 _))
      · refine kv_aload_n (pc := 28) 0 rfl rfl dk_Reader_read_28 ?_
        refine kv_getC (pc := 29) kf_Reader_26 kr_75 kn_75 rfl dk_Reader_read_29 ?_
        refine kv_aload_n (pc := 32) 0 rfl rfl dk_Reader_read_32 ?_
        refine kv_getC (pc := 33) kf_Reader_29 kr_75 kn_75 rfl dk_Reader_read_33 ?_
        refine kv_icmp_ge (pc := 36) (tgt := 49) dk_Reader_read_36 rfl ?_ ?_
        · exact kv_sub [0] rfl (kv_leaf (hx14_0 _))
        · refine kv_aload_n (pc := 39) 0 rfl rfl dk_Reader_read_39 ?_
          refine kv_cV_cc (pc := 40) (as := []) (st := []) ko_Reader_statement kc_6 rfl rfl kr_75 kw_858 (Nat.le_of_ble_eq_true rfl) rfl dk_Reader_read_40 (cx_Reader_statement d c4 y) (fun c6 => ?_)
          refine kv_iinc (pc := 43) (kk := (1 : Int32)) (lv' := [(4, .int (x3 + (1 : Int32))), (0, .ref 75)]) 1 rfl kki_1 rfl (Nat.le_of_ble_eq_true rfl) dk_Reader_read_43 ?_
          refine kv_goto (pc := 46) (tgt := 14) dk_Reader_read_46 rfl ?_
          exact kv_sub [1, 0] rfl (kv_leaf (fun h => h))
theorem dk_K_one_0 : decode prog_1_method_21_code 0 = .ok (.aload_n 0, 1) := by decide +kernel
theorem dk_K_one_1 : decode prog_1_method_21_code 1 = .ok (.getfield 43, 3) := by decide +kernel
theorem dk_K_one_4 : decode prog_1_method_21_code 4 = .ok (.aload_n 0, 1) := by decide +kernel
theorem dk_K_one_5 : decode prog_1_method_21_code 5 = .ok (.getfield 10, 3) := by decide +kernel
theorem dk_K_one_8 : decode prog_1_method_21_code 8 = .ok (.getfield 275, 3) := by decide +kernel
theorem dk_K_one_11 : decode prog_1_method_21_code 11 = .ok (.getfield 288, 3) := by decide +kernel
theorem dk_K_one_14 : decode prog_1_method_21_code 14 = .ok (.aload_n 0, 1) := by decide +kernel
theorem dk_K_one_15 : decode prog_1_method_21_code 15 = .ok (.getfield 10, 3) := by decide +kernel
theorem dk_K_one_18 : decode prog_1_method_21_code 18 = .ok (.getfield 275, 3) := by decide +kernel
theorem dk_K_one_21 : decode prog_1_method_21_code 21 = .ok (.getfield 291, 3) := by decide +kernel
theorem dk_K_one_24 : decode prog_1_method_21_code 24 = .ok (.aload_n 0, 1) := by decide +kernel
theorem dk_K_one_25 : decode prog_1_method_21_code 25 = .ok (.getfield 10, 3) := by decide +kernel
theorem dk_K_one_28 : decode prog_1_method_21_code 28 = .ok (.invokevirtual 268, 3) := by decide +kernel
theorem dk_K_one_31 : decode prog_1_method_21_code 31 = .ok (.ireturn, 1) := by decide +kernel
noncomputable def fx_K_one (c : (Nat → Nat → Int32)) : Option (Int32 × (Nat → Nat → Int32)) :=
  kv_bind2 (fx_Reader_read_75_19_1 (c 18 1) c) (fun v1 c2 =>
  some (v1, c2))
set_option maxRecDepth 20000 in
theorem cx_K_one (d : Nat) (c : (Nat → Nat → Int32)) (y : (Nat → Nat → Int32) × (Nat → Int64) × (Nat → Int64)) : ∀ a, fx_K_one c = some a → kv_C kM_K_one (d + 28) [.ref 0] (c, y) (some (.int a.1), (a.2, y)) := by
  refine kv_entryX (E := fun a : (Int32 × (Nat → Nat → Int32)) => (some (.int a.1), (a.2, y))) rfl (Nat.le_of_ble_eq_true rfl) (fun o => ?_)
  unfold fx_K_one
  show kv_X _ _ _ _ _ 0 [(0, .ref 0)] [] (c, y)
  refine kv_aload_n (pc := 0) 0 rfl rfl dk_K_one_0 ?_
  refine kv_getR (pc := 1) kf_K_43 kr_0 rfl kt_0_6 dk_K_one_1 ?_
  refine kv_aload_n (pc := 4) 0 rfl rfl dk_K_one_4 ?_
  refine kv_getR (pc := 5) kf_K_10 kr_0 rfl kt_0_0 dk_K_one_5 ?_
  refine kv_getR (pc := 8) kf_K_275 kr_1 rfl kt_1_2 dk_K_one_8 ?_
  refine kv_getR (pc := 11) kf_K_288 kr_18 rfl kt_18_0 dk_K_one_11 ?_
  refine kv_aload_n (pc := 14) 0 rfl rfl dk_K_one_14 ?_
  refine kv_getR (pc := 15) kf_K_10 kr_0 rfl kt_0_0 dk_K_one_15 ?_
  refine kv_getR (pc := 18) kf_K_275 kr_1 rfl kt_1_2 dk_K_one_18 ?_
  refine kv_getC (pc := 21) kf_K_291 kr_18 kn_18 rfl dk_K_one_21 ?_
  refine kv_aload_n (pc := 24) 0 rfl rfl dk_K_one_24 ?_
  refine kv_getR (pc := 25) kf_K_10 kr_0 rfl kt_0_0 dk_K_one_25 ?_
  refine kv_cV_cIc (pc := 28) (as := [.ref 19, .int (c 18 1), .ref 1]) (st := []) ko_Reader_read kc_6 rfl rfl kr_75 kw_845 (Nat.le_of_ble_eq_true rfl) rfl dk_K_one_28 (cx_Reader_read_75_19_1 d (c 18 1) c y) (fun v1 c2 => ?_)
  exact kv_iret (pc := 31) (fun h => h) rfl dk_K_one_31
theorem dk_D_meanOf_0 : decode prog_13_method_60_code 0 = .ok (.iconst 0, 1) := by decide +kernel
theorem dk_D_meanOf_1 : decode prog_13_method_60_code 1 = .ok (.istore_n 3, 1) := by decide +kernel
theorem dk_D_meanOf_2 : decode prog_13_method_60_code 2 = .ok (.iconst 0, 1) := by decide +kernel
theorem dk_D_meanOf_3 : decode prog_13_method_60_code 3 = .ok (.istore 4, 2) := by decide +kernel
theorem dk_D_meanOf_5 : decode prog_13_method_60_code 5 = .ok (.iconst 0, 1) := by decide +kernel
theorem dk_D_meanOf_6 : decode prog_13_method_60_code 6 = .ok (.istore 5, 2) := by decide +kernel
theorem dk_D_meanOf_8 : decode prog_13_method_60_code 8 = .ok (.iload 5, 2) := by decide +kernel
theorem dk_D_meanOf_10 : decode prog_13_method_60_code 10 = .ok (.aload_n 0, 1) := by decide +kernel
theorem dk_D_meanOf_11 : decode prog_13_method_60_code 11 = .ok (.getfield 9, 3) := by decide +kernel
theorem dk_D_meanOf_14 : decode prog_13_method_60_code 14 = .ok (.iconst 1, 1) := by decide +kernel
theorem dk_D_meanOf_15 : decode prog_13_method_60_code 15 = .ok (.iaload, 1) := by decide +kernel
theorem dk_D_meanOf_16 : decode prog_13_method_60_code 16 = .ok (.if_icmp .ge 47, 3) := by decide +kernel
theorem dk_D_meanOf_19 : decode prog_13_method_60_code 19 = .ok (.aload_n 0, 1) := by decide +kernel
theorem dk_D_meanOf_20 : decode prog_13_method_60_code 20 = .ok (.iload 5, 2) := by decide +kernel
theorem dk_D_meanOf_22 : decode prog_13_method_60_code 22 = .ok (.iconst 0, 1) := by decide +kernel
theorem dk_D_meanOf_23 : decode prog_13_method_60_code 23 = .ok (.invokevirtual 68, 3) := by decide +kernel
theorem dk_D_meanOf_26 : decode prog_13_method_60_code 26 = .ok (.iload_n 1, 1) := by decide +kernel
theorem dk_D_meanOf_27 : decode prog_13_method_60_code 27 = .ok (.if_icmp .eq 17, 3) := by decide +kernel
theorem dk_D_meanOf_30 : decode prog_13_method_60_code 30 = .ok (.aload_n 0, 1) := by decide +kernel
theorem dk_D_meanOf_31 : decode prog_13_method_60_code 31 = .ok (.iload 5, 2) := by decide +kernel
theorem dk_D_meanOf_33 : decode prog_13_method_60_code 33 = .ok (.iconst 0, 1) := by decide +kernel
theorem dk_D_meanOf_34 : decode prog_13_method_60_code 34 = .ok (.invokevirtual 68, 3) := by decide +kernel
theorem dk_D_meanOf_37 : decode prog_13_method_60_code 37 = .ok (.iload_n 2, 1) := by decide +kernel
theorem dk_D_meanOf_38 : decode prog_13_method_60_code 38 = .ok (.if_icmp .eq 6, 3) := by decide +kernel
theorem dk_D_meanOf_41 : decode prog_13_method_60_code 41 = .ok (.goto 16, 3) := by decide +kernel
theorem dk_D_meanOf_44 : decode prog_13_method_60_code 44 = .ok (.iload_n 3, 1) := by decide +kernel
theorem dk_D_meanOf_45 : decode prog_13_method_60_code 45 = .ok (.aload_n 0, 1) := by decide +kernel
theorem dk_D_meanOf_46 : decode prog_13_method_60_code 46 = .ok (.iload 5, 2) := by decide +kernel
theorem dk_D_meanOf_48 : decode prog_13_method_60_code 48 = .ok (.iconst 3, 1) := by decide +kernel
theorem dk_D_meanOf_49 : decode prog_13_method_60_code 49 = .ok (.invokevirtual 68, 3) := by decide +kernel
theorem dk_D_meanOf_52 : decode prog_13_method_60_code 52 = .ok (.iadd, 1) := by decide +kernel
theorem dk_D_meanOf_53 : decode prog_13_method_60_code 53 = .ok (.istore_n 3, 1) := by decide +kernel
theorem dk_D_meanOf_54 : decode prog_13_method_60_code 54 = .ok (.iinc 4 1, 3) := by decide +kernel
theorem dk_D_meanOf_57 : decode prog_13_method_60_code 57 = .ok (.iinc 5 1, 3) := by decide +kernel
theorem dk_D_meanOf_60 : decode prog_13_method_60_code 60 = .ok (.goto (-52), 3) := by decide +kernel
theorem dk_D_meanOf_63 : decode prog_13_method_60_code 63 = .ok (.iload 4, 2) := by decide +kernel
theorem dk_D_meanOf_65 : decode prog_13_method_60_code 65 = .ok (.ifCond .ne 7, 3) := by decide +kernel
theorem dk_D_meanOf_68 : decode prog_13_method_60_code 68 = .ok (.iconst 0, 1) := by decide +kernel
theorem dk_D_meanOf_69 : decode prog_13_method_60_code 69 = .ok (.goto 7, 3) := by decide +kernel
theorem dk_D_meanOf_72 : decode prog_13_method_60_code 72 = .ok (.iload_n 3, 1) := by decide +kernel
theorem dk_D_meanOf_73 : decode prog_13_method_60_code 73 = .ok (.iload 4, 2) := by decide +kernel
theorem dk_D_meanOf_75 : decode prog_13_method_60_code 75 = .ok (.idiv, 1) := by decide +kernel
theorem dk_D_meanOf_76 : decode prog_13_method_60_code 76 = .ok (.ireturn, 1) := by decide +kernel
noncomputable def fj_D_meanOf_57 (x3 : Int32) (x7 : Int32) (x8 : Int32) : Option ((Int32 × Int32 × Int32) ⊕ (Int32 × Int32)) :=
  some (.inl (x7, x8, (x3 + (1 : Int32))))
noncomputable def fj_D_meanOf_44 (x3 : Int32) (m : (Nat → Nat → Int32)) (x1 : Int32) (x2 : Int32) : Option ((Int32 × Int32 × Int32) ⊕ (Int32 × Int32)) :=
  kv_bind1 (fx_D_get x3 (3 : Int32) m) (fun v9 =>
  kv_let (x1 + v9) (fun v10 =>
  fj_D_meanOf_57 x3 v10 (x2 + (1 : Int32))))
noncomputable def fb_D_meanOf_8 (m : (Nat → Nat → Int32)) (p1 : Int32) (p2 : Int32) (x1 : Int32) (x2 : Int32) (x3 : Int32) : Option ((Int32 × Int32 × Int32) ⊕ (Int32 × Int32)) :=
  if (m 85 1) ≤ x3 then
    some (.inr (x1, x2))
  else
    kv_bind1 (fx_D_get x3 (0 : Int32) m) (fun v6 =>
    if v6 = p1 then
      fj_D_meanOf_44 x3 m x1 x2
    else
      kv_bind1 (fx_D_get x3 (0 : Int32) m) (fun v11 =>
      if v11 = p2 then
        fj_D_meanOf_44 x3 m x1 x2
      else
        fj_D_meanOf_57 x3 x1 x2))
noncomputable def fx_D_meanOf (p1 : Int32) (p2 : Int32) (m : (Nat → Nat → Int32)) : Option Int32 :=
  (kv_loop (kv_u3 (fb_D_meanOf_8 m p1 p2)) ((0 : Int32), (0 : Int32), (0 : Int32))).bind (kv_u2 (fun x4 x5 =>
  if x5 = 0 then
    some (0 : Int32)
  else
    if x5 = 0 then none else
    some (x4 / x5)))
set_option maxRecDepth 20000 in
theorem cx_D_meanOf (d : Nat) (p1 : Int32) (p2 : Int32) (c : (Nat → Nat → Int32)) (m : (Nat → Nat → Int32)) (f : (Nat → Int64)) (u : (Nat → Int64)) : ∀ a, fx_D_meanOf p1 p2 m = some a → kv_C kM_D_meanOf (d + 1) [.ref 84, .int p1, .int p2] (c, m, f, u) (some (.int a), (c, m, f, u)) := by
  refine kv_entryX (E := fun a : Int32 => (some (.int a), (c, m, f, u))) rfl (Nat.le_of_ble_eq_true rfl) (fun o => ?_)
  unfold fx_D_meanOf
  show kv_X _ _ _ _ _ 0 [(0, .ref 84), (1, .int p1), (2, .int p2)] [] (c, m, f, u)
  refine kv_iconst (pc := 0) (v := (0 : Int32)) dk_D_meanOf_0 kki_0 ?_
  refine kv_istore_n (pc := 1) (lv' := [(3, .int (0 : Int32)), (0, .ref 84), (1, .int p1), (2, .int p2)]) rfl (Nat.le_of_ble_eq_true rfl) rfl dk_D_meanOf_1 ?_
  refine kv_iconst (pc := 2) (v := (0 : Int32)) dk_D_meanOf_2 kki_0 ?_
  refine kv_istore (pc := 3) (lv' := [(4, .int (0 : Int32)), (3, .int (0 : Int32)), (0, .ref 84), (1, .int p1), (2, .int p2)]) rfl (Nat.le_of_ble_eq_true rfl) dk_D_meanOf_3 ?_
  refine kv_iconst (pc := 5) (v := (0 : Int32)) dk_D_meanOf_5 kki_0 ?_
  refine kv_istore (pc := 6) (lv' := [(5, .int (0 : Int32)), (4, .int (0 : Int32)), (3, .int (0 : Int32)), (0, .ref 84), (1, .int p1), (2, .int p2)]) rfl (Nat.le_of_ble_eq_true rfl) dk_D_meanOf_6 ?_
  refine kv_sub (lv' := [(0, .ref 84), (1, .int p1), (2, .int p2), (3, .int (0 : Int32)), (4, .int (0 : Int32)), (5, .int (0 : Int32))]) [3, 4, 5, 2, 1, 0] rfl ?_
  refine kv_lp_3_2 (LV := fun x1 x2 x3 => [(0, .ref 84), (1, .int p1), (2, .int p2), (3, .int x1), (4, .int x2), (5, .int x3)]) (WW := fun x1 x2 x3 => (c, m, f, u)) (LE1 := fun x4 x5 => [(3, .int x4), (4, .int x5)]) (WE1 := fun x4 x5 => (c, m, f, u)) (pe1 := 63) ?_ ?_
  · intro x4 x5
    show kv_X _ _ _ _ _ 63 [(3, .int x4), (4, .int x5)] [] (c, m, f, u)
    refine kv_iload (pc := 63) 1 rfl dk_D_meanOf_63 ?_
    refine kv_if_ne (pc := 65) (tgt := 72) dk_D_meanOf_65 rfl ?_ ?_
    · refine kv_iload_n (pc := 72) 0 rfl rfl dk_D_meanOf_72 ?_
      refine kv_iload (pc := 73) 1 rfl dk_D_meanOf_73 ?_
      refine kv_idivG (pc := 75) dk_D_meanOf_75 ?_
      exact kv_iret (pc := 76) (fun h => h) rfl dk_D_meanOf_76
    · refine kv_iconst (pc := 68) (v := (0 : Int32)) dk_D_meanOf_68 kki_0 ?_
      refine kv_goto (pc := 69) (tgt := 76) dk_D_meanOf_69 rfl ?_
      exact kv_iret (pc := 76) (fun h => h) rfl dk_D_meanOf_76
  · intro hx8_0 x1 x2 x3
    show kv_X _ _ _ _ (fb_D_meanOf_8 m p1 p2 x1 x2 x3) 8 [(0, .ref 84), (1, .int p1), (2, .int p2), (3, .int x1), (4, .int x2), (5, .int x3)] [] (c, m, f, u)
    unfold fb_D_meanOf_8
    refine kv_iload (pc := 8) 5 rfl dk_D_meanOf_8 ?_
    refine kv_aload_n (pc := 10) 0 rfl rfl dk_D_meanOf_10 ?_
    refine kv_getR (pc := 11) kf_D_9 kr_84 rfl kt_84_0 dk_D_meanOf_11 ?_
    refine kv_iconst (pc := 14) (v := (1 : Int32)) dk_D_meanOf_14 kki_1 ?_
    refine kv_aldM (pc := 15) kr_85 kn_85 kl_85 kkg_1_444 (j := 1) kkx_1 dk_D_meanOf_15 ?_
    refine kv_icmp_ge (pc := 16) (tgt := 63) dk_D_meanOf_16 rfl ?_ ?_
    · exact kv_sub [3, 4] rfl (kv_leaf (hx8_0 _ _))
    · refine kv_aload_n (pc := 19) 0 rfl rfl dk_D_meanOf_19 ?_
      refine kv_iload (pc := 20) 5 rfl dk_D_meanOf_20 ?_
      refine kv_iconst (pc := 22) (v := (0 : Int32)) dk_D_meanOf_22 kki_0 ?_
      refine kv_cV_mI (pc := 23) (as := [.int x3, .int (0 : Int32)]) (st := []) ko_D_get kc_11 rfl rfl kr_84 kw_1341 (Nat.le_of_ble_eq_true rfl) rfl dk_D_meanOf_23 (cx_D_get d x3 (0 : Int32) c m f u) (fun v6 => ?_)
      refine kv_iload_n (pc := 26) 1 rfl rfl dk_D_meanOf_26 ?_
      refine kv_cut_2 (J := fj_D_meanOf_57 x3) (pcj := 57) (LJ := fun x7 x8 => [(0, .ref 84), (1, .int p1), (2, .int p2), (3, .int x7), (4, .int x8), (5, .int x3)]) (SJ := fun x7 x8 => []) (WJ := fun x7 x8 => (c, m, f, u)) ?_ (fun hj57 => ?_)
      · intro x7 x8
        show kv_X _ _ _ _ (fj_D_meanOf_57 x3 x7 x8) 57 [(0, .ref 84), (1, .int p1), (2, .int p2), (3, .int x7), (4, .int x8), (5, .int x3)] [] (c, m, f, u)
        unfold fj_D_meanOf_57
        refine kv_iinc (pc := 57) (kk := (1 : Int32)) (lv' := [(5, .int (x3 + (1 : Int32))), (0, .ref 84), (1, .int p1), (2, .int p2), (3, .int x7), (4, .int x8)]) 5 rfl kki_1 rfl (Nat.le_of_ble_eq_true rfl) dk_D_meanOf_57 ?_
        refine kv_goto (pc := 60) (tgt := 8) dk_D_meanOf_60 rfl ?_
        exact kv_sub [1, 2, 3, 4, 5, 0] rfl (kv_leaf (fun h => h))
      refine kv_cut_0 (J := fj_D_meanOf_44 x3 m x1 x2) (pcj := 44) (LJ := [(0, .ref 84), (1, .int p1), (2, .int p2), (3, .int x1), (4, .int x2), (5, .int x3)]) (SJ := []) (WJ := (c, m, f, u)) ?_ (fun hj44 => ?_)
      · show kv_X _ _ _ _ (fj_D_meanOf_44 x3 m x1 x2) 44 [(0, .ref 84), (1, .int p1), (2, .int p2), (3, .int x1), (4, .int x2), (5, .int x3)] [] (c, m, f, u)
        unfold fj_D_meanOf_44
        refine kv_iload_n (pc := 44) 3 rfl rfl dk_D_meanOf_44 ?_
        refine kv_aload_n (pc := 45) 0 rfl rfl dk_D_meanOf_45 ?_
        refine kv_iload (pc := 46) 5 rfl dk_D_meanOf_46 ?_
        refine kv_iconst (pc := 48) (v := (3 : Int32)) dk_D_meanOf_48 kki_3 ?_
        refine kv_cV_mI (pc := 49) (as := [.int x3, .int (3 : Int32)]) (st := [.int x1]) ko_D_get kc_11 rfl rfl kr_84 kw_1341 (Nat.le_of_ble_eq_true rfl) rfl dk_D_meanOf_49 (cx_D_get d x3 (3 : Int32) c m f u) (fun v9 => ?_)
        refine kv_iadd (pc := 52) dk_D_meanOf_52 ?_
        refine kv_letI (fun v10 => ?_)
        refine kv_istore_n (pc := 53) (lv' := [(3, .int v10), (0, .ref 84), (1, .int p1), (2, .int p2), (4, .int x2), (5, .int x3)]) rfl (Nat.le_of_ble_eq_true rfl) rfl dk_D_meanOf_53 ?_
        refine kv_iinc (pc := 54) (kk := (1 : Int32)) (lv' := [(4, .int (x2 + (1 : Int32))), (3, .int v10), (0, .ref 84), (1, .int p1), (2, .int p2), (5, .int x3)]) 4 rfl kki_1 rfl (Nat.le_of_ble_eq_true rfl) dk_D_meanOf_54 ?_
        exact kv_sub [2, 3, 4, 1, 0, 5] rfl (hj57 v10 (x2 + (1 : Int32)))
      refine kv_icmp_eq (pc := 27) (tgt := 44) dk_D_meanOf_27 rfl ?_ ?_
      · exact hj44
      · refine kv_aload_n (pc := 30) 0 rfl rfl dk_D_meanOf_30 ?_
        refine kv_iload (pc := 31) 5 rfl dk_D_meanOf_31 ?_
        refine kv_iconst (pc := 33) (v := (0 : Int32)) dk_D_meanOf_33 kki_0 ?_
        refine kv_cV_mI (pc := 34) (as := [.int x3, .int (0 : Int32)]) (st := []) ko_D_get kc_11 rfl rfl kr_84 kw_1341 (Nat.le_of_ble_eq_true rfl) rfl dk_D_meanOf_34 (cx_D_get d x3 (0 : Int32) c m f u) (fun v11 => ?_)
        refine kv_iload_n (pc := 37) 2 rfl rfl dk_D_meanOf_37 ?_
        refine kv_icmp_eq (pc := 38) (tgt := 44) dk_D_meanOf_38 rfl ?_ ?_
        · exact hj44
        · refine kv_goto (pc := 41) (tgt := 57) dk_D_meanOf_41 rfl ?_
          exact hj57 x1 x2
theorem dk_D_sumOf_0 : decode prog_13_method_61_code 0 = .ok (.aload_n 0, 1) := by decide +kernel
theorem dk_D_sumOf_1 : decode prog_13_method_61_code 1 = .ok (.invokevirtual 258, 3) := by decide +kernel
theorem dk_D_sumOf_4 : decode prog_13_method_61_code 4 = .ok (.istore_n 1, 1) := by decide +kernel
theorem dk_D_sumOf_5 : decode prog_13_method_61_code 5 = .ok (.aload_n 0, 1) := by decide +kernel
theorem dk_D_sumOf_6 : decode prog_13_method_61_code 6 = .ok (.invokevirtual 218, 3) := by decide +kernel
theorem dk_D_sumOf_9 : decode prog_13_method_61_code 9 = .ok (.bipush 43, 2) := by decide +kernel
theorem dk_D_sumOf_11 : decode prog_13_method_61_code 11 = .ok (.if_icmp .eq 12, 3) := by decide +kernel
theorem dk_D_sumOf_14 : decode prog_13_method_61_code 14 = .ok (.aload_n 0, 1) := by decide +kernel
theorem dk_D_sumOf_15 : decode prog_13_method_61_code 15 = .ok (.invokevirtual 218, 3) := by decide +kernel
theorem dk_D_sumOf_18 : decode prog_13_method_61_code 18 = .ok (.bipush 45, 2) := by decide +kernel
theorem dk_D_sumOf_20 : decode prog_13_method_61_code 20 = .ok (.if_icmp .ne 42, 3) := by decide +kernel
theorem dk_D_sumOf_23 : decode prog_13_method_61_code 23 = .ok (.aload_n 0, 1) := by decide +kernel
theorem dk_D_sumOf_24 : decode prog_13_method_61_code 24 = .ok (.invokevirtual 218, 3) := by decide +kernel
theorem dk_D_sumOf_27 : decode prog_13_method_61_code 27 = .ok (.istore_n 2, 1) := by decide +kernel
theorem dk_D_sumOf_28 : decode prog_13_method_61_code 28 = .ok (.aload_n 0, 1) := by decide +kernel
theorem dk_D_sumOf_29 : decode prog_13_method_61_code 29 = .ok (.dup, 1) := by decide +kernel
theorem dk_D_sumOf_30 : decode prog_13_method_61_code 30 = .ok (.getfield 209, 3) := by decide +kernel
theorem dk_D_sumOf_33 : decode prog_13_method_61_code 33 = .ok (.iconst 1, 1) := by decide +kernel
theorem dk_D_sumOf_34 : decode prog_13_method_61_code 34 = .ok (.iadd, 1) := by decide +kernel
theorem dk_D_sumOf_35 : decode prog_13_method_61_code 35 = .ok (.putfield 209, 3) := by decide +kernel
theorem dk_D_sumOf_38 : decode prog_13_method_61_code 38 = .ok (.aload_n 0, 1) := by decide +kernel
theorem dk_D_sumOf_39 : decode prog_13_method_61_code 39 = .ok (.invokevirtual 258, 3) := by decide +kernel
theorem dk_D_sumOf_42 : decode prog_13_method_61_code 42 = .ok (.istore_n 3, 1) := by decide +kernel
theorem dk_D_sumOf_43 : decode prog_13_method_61_code 43 = .ok (.iload_n 2, 1) := by decide +kernel
theorem dk_D_sumOf_44 : decode prog_13_method_61_code 44 = .ok (.bipush 43, 2) := by decide +kernel
theorem dk_D_sumOf_46 : decode prog_13_method_61_code 46 = .ok (.if_icmp .ne 9, 3) := by decide +kernel
theorem dk_D_sumOf_49 : decode prog_13_method_61_code 49 = .ok (.iload_n 1, 1) := by decide +kernel
theorem dk_D_sumOf_50 : decode prog_13_method_61_code 50 = .ok (.iload_n 3, 1) := by decide +kernel
theorem dk_D_sumOf_51 : decode prog_13_method_61_code 51 = .ok (.iadd, 1) := by decide +kernel
theorem dk_D_sumOf_52 : decode prog_13_method_61_code 52 = .ok (.goto 6, 3) := by decide +kernel
theorem dk_D_sumOf_55 : decode prog_13_method_61_code 55 = .ok (.iload_n 1, 1) := by decide +kernel
theorem dk_D_sumOf_56 : decode prog_13_method_61_code 56 = .ok (.iload_n 3, 1) := by decide +kernel
theorem dk_D_sumOf_57 : decode prog_13_method_61_code 57 = .ok (.isub, 1) := by decide +kernel
theorem dk_D_sumOf_58 : decode prog_13_method_61_code 58 = .ok (.istore_n 1, 1) := by decide +kernel
theorem dk_D_sumOf_59 : decode prog_13_method_61_code 59 = .ok (.goto (-54), 3) := by decide +kernel
theorem dk_D_sumOf_62 : decode prog_13_method_61_code 62 = .ok (.iload_n 1, 1) := by decide +kernel
theorem dk_D_sumOf_63 : decode prog_13_method_61_code 63 = .ok (.ireturn, 1) := by decide +kernel
noncomputable def fj_D_sumOf_58 (m11 : (Nat → Nat → Int32)) (x12 : Int32) : Option ((Int32 × (Nat → Nat → Int32)) ⊕ (Int32 × (Nat → Nat → Int32))) :=
  some (.inl (x12, m11))
noncomputable def fj_D_sumOf_23 (rq_product : (Nat → Nat → Int32) → Option (Int32 × (Nat → Nat → Int32))) (m4 : (Nat → Nat → Int32)) (x3 : Int32) : Option ((Int32 × (Nat → Nat → Int32)) ⊕ (Int32 × (Nat → Nat → Int32))) :=
  kv_bind1 (fx_D_sign m4) (fun v8 =>
  kv_let (kv_st m4 84 18 ((m4 84 18) + (1 : Int32))) (fun m9 =>
  kv_bind2 (rq_product m9) (fun v10 m11 =>
  if v8 = (43 : Int32) then
    fj_D_sumOf_58 m11 (x3 + v10)
  else
    fj_D_sumOf_58 m11 (x3 - v10))))
noncomputable def fb_D_sumOf_5 (rq_product : (Nat → Nat → Int32) → Option (Int32 × (Nat → Nat → Int32))) (x3 : Int32) (m4 : (Nat → Nat → Int32)) : Option ((Int32 × (Nat → Nat → Int32)) ⊕ (Int32 × (Nat → Nat → Int32))) :=
  kv_bind1 (fx_D_sign m4) (fun v7 =>
  if v7 = (43 : Int32) then
    fj_D_sumOf_23 rq_product m4 x3
  else
    kv_bind1 (fx_D_sign m4) (fun v13 =>
    if v13 = (45 : Int32) then
      fj_D_sumOf_23 rq_product m4 x3
    else
      some (.inr (x3, m4))))
noncomputable def fx_D_sumOf (rq_product : (Nat → Nat → Int32) → Option (Int32 × (Nat → Nat → Int32))) (m : (Nat → Nat → Int32)) : Option (Int32 × (Nat → Nat → Int32)) :=
  kv_bind2 (rq_product m) (fun v1 m2 =>
  (kv_loop (kv_u2 (fb_D_sumOf_5 rq_product)) (v1, m2)).bind (kv_u2 (fun x5 m6 =>
  some (x5, m6))))
set_option maxRecDepth 20000 in
theorem cx_D_sumOf (d : Nat) (rq_product : (Nat → Nat → Int32) → Option (Int32 × (Nat → Nat → Int32))) (hrq_product : ∀ (c : (Nat → Nat → Int32)) (m : (Nat → Nat → Int32)) (f : (Nat → Int64)) (u : (Nat → Int64)), ∀ a, rq_product m = some a → kv_C kM_D_product (d + 1) [.ref 84] (c, m, f, u) (some (.int a.1), (c, a.2, f, u))) (c : (Nat → Nat → Int32)) (m : (Nat → Nat → Int32)) (f : (Nat → Int64)) (u : (Nat → Int64)) : ∀ a, fx_D_sumOf rq_product m = some a → kv_C kM_D_sumOf (d + 2) [.ref 84] (c, m, f, u) (some (.int a.1), (c, a.2, f, u)) := by
  refine kv_entryX (E := fun a : (Int32 × (Nat → Nat → Int32)) => (some (.int a.1), (c, a.2, f, u))) rfl (Nat.le_of_ble_eq_true rfl) (fun o => ?_)
  unfold fx_D_sumOf
  show kv_X _ _ _ _ _ 0 [(0, .ref 84)] [] (c, m, f, u)
  refine kv_aload_n (pc := 0) 0 rfl rfl dk_D_sumOf_0 ?_
  refine kv_cV_mIm (pc := 1) (as := []) (st := []) ko_D_product kc_11 rfl rfl kr_84 kw_1590 (Nat.le_of_ble_eq_true rfl) rfl dk_D_sumOf_1 (hrq_product c m f u) (fun v1 m2 => ?_)
  refine kv_istore_n (pc := 4) (lv' := [(1, .int v1), (0, .ref 84)]) rfl (Nat.le_of_ble_eq_true rfl) rfl dk_D_sumOf_4 ?_
  refine kv_sub (lv' := [(0, .ref 84), (1, .int v1)]) [1, 0] rfl ?_
  refine kv_lp_2_2 (LV := fun x3 m4 => [(0, .ref 84), (1, .int x3)]) (WW := fun x3 m4 => (c, m4, f, u)) (LE1 := fun x5 m6 => [(1, .int x5)]) (WE1 := fun x5 m6 => (c, m6, f, u)) (pe1 := 62) ?_ ?_
  · intro x5 m6
    show kv_X _ _ _ _ _ 62 [(1, .int x5)] [] (c, m6, f, u)
    refine kv_iload_n (pc := 62) 0 rfl rfl dk_D_sumOf_62 ?_
    exact kv_iret (pc := 63) (fun h => h) rfl dk_D_sumOf_63
  · intro hx5_0 x3 m4
    show kv_X _ _ _ _ (fb_D_sumOf_5 rq_product x3 m4) 5 [(0, .ref 84), (1, .int x3)] [] (c, m4, f, u)
    unfold fb_D_sumOf_5
    refine kv_aload_n (pc := 5) 0 rfl rfl dk_D_sumOf_5 ?_
    refine kv_cV_mI (pc := 6) (as := []) (st := []) ko_D_sign kc_11 rfl rfl kr_84 kw_1549 (Nat.le_of_ble_eq_true rfl) rfl dk_D_sumOf_6 (cx_D_sign (d + 1) c m4 f u) (fun v7 => ?_)
    refine kv_bipush (pc := 9) (v := (43 : Int32)) dk_D_sumOf_9 kkb_43 ?_
    refine kv_cut_0 (J := fj_D_sumOf_23 rq_product m4 x3) (pcj := 23) (LJ := [(0, .ref 84), (1, .int x3)]) (SJ := []) (WJ := (c, m4, f, u)) ?_ (fun hj23 => ?_)
    · show kv_X _ _ _ _ (fj_D_sumOf_23 rq_product m4 x3) 23 [(0, .ref 84), (1, .int x3)] [] (c, m4, f, u)
      unfold fj_D_sumOf_23
      refine kv_aload_n (pc := 23) 0 rfl rfl dk_D_sumOf_23 ?_
      refine kv_cV_mI (pc := 24) (as := []) (st := []) ko_D_sign kc_11 rfl rfl kr_84 kw_1549 (Nat.le_of_ble_eq_true rfl) rfl dk_D_sumOf_24 (cx_D_sign (d + 1) c m4 f u) (fun v8 => ?_)
      refine kv_istore_n (pc := 27) (lv' := [(2, .int v8), (0, .ref 84), (1, .int x3)]) rfl (Nat.le_of_ble_eq_true rfl) rfl dk_D_sumOf_27 ?_
      refine kv_aload_n (pc := 28) 1 rfl rfl dk_D_sumOf_28 ?_
      refine kv_dupR (pc := 29) dk_D_sumOf_29 ?_
      refine kv_getM (pc := 30) kf_D_209 kr_84 kn_84 rfl dk_D_sumOf_30 ?_
      refine kv_iconst (pc := 33) (v := (1 : Int32)) dk_D_sumOf_33 kki_1 ?_
      refine kv_iadd (pc := 34) dk_D_sumOf_34 ?_
      refine kv_putM (pc := 35) kf_D_209 kr_84 kn_84 rfl rfl rfl dk_D_sumOf_35 (fun m9 => ?_)
      refine kv_aload_n (pc := 38) 1 rfl rfl dk_D_sumOf_38 ?_
      refine kv_cV_mIm (pc := 39) (as := []) (st := []) ko_D_product kc_11 rfl rfl kr_84 kw_1590 (Nat.le_of_ble_eq_true rfl) rfl dk_D_sumOf_39 (hrq_product c m9 f u) (fun v10 m11 => ?_)
      refine kv_istore_n (pc := 42) (lv' := [(3, .int v10), (2, .int v8), (0, .ref 84), (1, .int x3)]) rfl (Nat.le_of_ble_eq_true rfl) rfl dk_D_sumOf_42 ?_
      refine kv_iload_n (pc := 43) 1 rfl rfl dk_D_sumOf_43 ?_
      refine kv_bipush (pc := 44) (v := (43 : Int32)) dk_D_sumOf_44 kkb_43 ?_
      refine kv_cut_1 (J := fj_D_sumOf_58 m11) (pcj := 58) (LJ := fun x12 => [(0, .ref 84)]) (SJ := fun x12 => [.int x12]) (WJ := fun x12 => (c, m11, f, u)) ?_ (fun hj58 => ?_)
      · intro x12
        show kv_X _ _ _ _ (fj_D_sumOf_58 m11 x12) 58 [(0, .ref 84)] [.int x12] (c, m11, f, u)
        unfold fj_D_sumOf_58
        refine kv_istore_n (pc := 58) (lv' := [(1, .int x12), (0, .ref 84)]) rfl (Nat.le_of_ble_eq_true rfl) rfl dk_D_sumOf_58 ?_
        refine kv_goto (pc := 59) (tgt := 5) dk_D_sumOf_59 rfl ?_
        exact kv_sub [1, 0] rfl (kv_leaf (fun h => h))
      refine kv_icmp_ne (pc := 46) (tgt := 55) dk_D_sumOf_46 rfl ?_ ?_
      · refine kv_iload_n (pc := 55) 3 rfl rfl dk_D_sumOf_55 ?_
        refine kv_iload_n (pc := 56) 0 rfl rfl dk_D_sumOf_56 ?_
        refine kv_isub (pc := 57) dk_D_sumOf_57 ?_
        exact kv_sub [2] rfl (hj58 (x3 - v10))
      · refine kv_iload_n (pc := 49) 3 rfl rfl dk_D_sumOf_49 ?_
        refine kv_iload_n (pc := 50) 0 rfl rfl dk_D_sumOf_50 ?_
        refine kv_iadd (pc := 51) dk_D_sumOf_51 ?_
        refine kv_goto (pc := 52) (tgt := 58) dk_D_sumOf_52 rfl ?_
        exact kv_sub [2] rfl (hj58 (x3 + v10))
    refine kv_icmp_eq (pc := 11) (tgt := 23) dk_D_sumOf_11 rfl ?_ ?_
    · exact hj23
    · refine kv_aload_n (pc := 14) 0 rfl rfl dk_D_sumOf_14 ?_
      refine kv_cV_mI (pc := 15) (as := []) (st := []) ko_D_sign kc_11 rfl rfl kr_84 kw_1549 (Nat.le_of_ble_eq_true rfl) rfl dk_D_sumOf_15 (cx_D_sign (d + 1) c m4 f u) (fun v13 => ?_)
      refine kv_bipush (pc := 18) (v := (45 : Int32)) dk_D_sumOf_18 kkb_45 ?_
      refine kv_icmp_ne (pc := 20) (tgt := 62) dk_D_sumOf_20 rfl ?_ ?_
      · exact kv_sub [1] rfl (kv_leaf (hx5_0 _ _))
      · exact hj23
theorem dk_D_product_0 : decode prog_13_method_62_code 0 = .ok (.aload_n 0, 1) := by decide +kernel
theorem dk_D_product_1 : decode prog_13_method_62_code 1 = .ok (.invokevirtual 261, 3) := by decide +kernel
theorem dk_D_product_4 : decode prog_13_method_62_code 4 = .ok (.istore_n 1, 1) := by decide +kernel
theorem dk_D_product_5 : decode prog_13_method_62_code 5 = .ok (.aload_n 0, 1) := by decide +kernel
theorem dk_D_product_6 : decode prog_13_method_62_code 6 = .ok (.invokevirtual 218, 3) := by decide +kernel
theorem dk_D_product_9 : decode prog_13_method_62_code 9 = .ok (.bipush 42, 2) := by decide +kernel
theorem dk_D_product_11 : decode prog_13_method_62_code 11 = .ok (.if_icmp .eq 12, 3) := by decide +kernel
theorem dk_D_product_14 : decode prog_13_method_62_code 14 = .ok (.aload_n 0, 1) := by decide +kernel
theorem dk_D_product_15 : decode prog_13_method_62_code 15 = .ok (.invokevirtual 218, 3) := by decide +kernel
theorem dk_D_product_18 : decode prog_13_method_62_code 18 = .ok (.bipush 47, 2) := by decide +kernel
theorem dk_D_product_20 : decode prog_13_method_62_code 20 = .ok (.if_icmp .ne 50, 3) := by decide +kernel
theorem dk_D_product_23 : decode prog_13_method_62_code 23 = .ok (.aload_n 0, 1) := by decide +kernel
theorem dk_D_product_24 : decode prog_13_method_62_code 24 = .ok (.invokevirtual 218, 3) := by decide +kernel
theorem dk_D_product_27 : decode prog_13_method_62_code 27 = .ok (.istore_n 2, 1) := by decide +kernel
theorem dk_D_product_28 : decode prog_13_method_62_code 28 = .ok (.aload_n 0, 1) := by decide +kernel
theorem dk_D_product_29 : decode prog_13_method_62_code 29 = .ok (.dup, 1) := by decide +kernel
theorem dk_D_product_30 : decode prog_13_method_62_code 30 = .ok (.getfield 209, 3) := by decide +kernel
theorem dk_D_product_33 : decode prog_13_method_62_code 33 = .ok (.iconst 1, 1) := by decide +kernel
theorem dk_D_product_34 : decode prog_13_method_62_code 34 = .ok (.iadd, 1) := by decide +kernel
theorem dk_D_product_35 : decode prog_13_method_62_code 35 = .ok (.putfield 209, 3) := by decide +kernel
theorem dk_D_product_38 : decode prog_13_method_62_code 38 = .ok (.aload_n 0, 1) := by decide +kernel
theorem dk_D_product_39 : decode prog_13_method_62_code 39 = .ok (.invokevirtual 261, 3) := by decide +kernel
theorem dk_D_product_42 : decode prog_13_method_62_code 42 = .ok (.istore_n 3, 1) := by decide +kernel
theorem dk_D_product_43 : decode prog_13_method_62_code 43 = .ok (.iload_n 2, 1) := by decide +kernel
theorem dk_D_product_44 : decode prog_13_method_62_code 44 = .ok (.bipush 42, 2) := by decide +kernel
theorem dk_D_product_46 : decode prog_13_method_62_code 46 = .ok (.if_icmp .ne 9, 3) := by decide +kernel
theorem dk_D_product_49 : decode prog_13_method_62_code 49 = .ok (.iload_n 1, 1) := by decide +kernel
theorem dk_D_product_50 : decode prog_13_method_62_code 50 = .ok (.iload_n 3, 1) := by decide +kernel
theorem dk_D_product_51 : decode prog_13_method_62_code 51 = .ok (.imul, 1) := by decide +kernel
theorem dk_D_product_52 : decode prog_13_method_62_code 52 = .ok (.goto 14, 3) := by decide +kernel
theorem dk_D_product_55 : decode prog_13_method_62_code 55 = .ok (.iload_n 3, 1) := by decide +kernel
theorem dk_D_product_56 : decode prog_13_method_62_code 56 = .ok (.ifCond .ne 7, 3) := by decide +kernel
theorem dk_D_product_59 : decode prog_13_method_62_code 59 = .ok (.iconst 0, 1) := by decide +kernel
theorem dk_D_product_60 : decode prog_13_method_62_code 60 = .ok (.goto 6, 3) := by decide +kernel
theorem dk_D_product_63 : decode prog_13_method_62_code 63 = .ok (.iload_n 1, 1) := by decide +kernel
theorem dk_D_product_64 : decode prog_13_method_62_code 64 = .ok (.iload_n 3, 1) := by decide +kernel
theorem dk_D_product_65 : decode prog_13_method_62_code 65 = .ok (.idiv, 1) := by decide +kernel
theorem dk_D_product_66 : decode prog_13_method_62_code 66 = .ok (.istore_n 1, 1) := by decide +kernel
theorem dk_D_product_67 : decode prog_13_method_62_code 67 = .ok (.goto (-62), 3) := by decide +kernel
theorem dk_D_product_70 : decode prog_13_method_62_code 70 = .ok (.iload_n 1, 1) := by decide +kernel
theorem dk_D_product_71 : decode prog_13_method_62_code 71 = .ok (.ireturn, 1) := by decide +kernel
noncomputable def fj_D_product_66 (m11 : (Nat → Nat → Int32)) (x12 : Int32) : Option ((Int32 × (Nat → Nat → Int32)) ⊕ (Int32 × (Nat → Nat → Int32))) :=
  some (.inl (x12, m11))
noncomputable def fj_D_product_23 (rq_atom : (Nat → Nat → Int32) → Option (Int32 × (Nat → Nat → Int32))) (m4 : (Nat → Nat → Int32)) (x3 : Int32) : Option ((Int32 × (Nat → Nat → Int32)) ⊕ (Int32 × (Nat → Nat → Int32))) :=
  kv_bind1 (fx_D_sign m4) (fun v8 =>
  kv_let (kv_st m4 84 18 ((m4 84 18) + (1 : Int32))) (fun m9 =>
  kv_bind2 (rq_atom m9) (fun v10 m11 =>
  if v8 = (42 : Int32) then
    fj_D_product_66 m11 (x3 * v10)
  else
    if v10 = 0 then
      fj_D_product_66 m11 (0 : Int32)
    else
      if v10 = 0 then none else
      fj_D_product_66 m11 (x3 / v10))))
noncomputable def fb_D_product_5 (rq_atom : (Nat → Nat → Int32) → Option (Int32 × (Nat → Nat → Int32))) (x3 : Int32) (m4 : (Nat → Nat → Int32)) : Option ((Int32 × (Nat → Nat → Int32)) ⊕ (Int32 × (Nat → Nat → Int32))) :=
  kv_bind1 (fx_D_sign m4) (fun v7 =>
  if v7 = (42 : Int32) then
    fj_D_product_23 rq_atom m4 x3
  else
    kv_bind1 (fx_D_sign m4) (fun v13 =>
    if v13 = (47 : Int32) then
      fj_D_product_23 rq_atom m4 x3
    else
      some (.inr (x3, m4))))
noncomputable def fx_D_product (rq_atom : (Nat → Nat → Int32) → Option (Int32 × (Nat → Nat → Int32))) (m : (Nat → Nat → Int32)) : Option (Int32 × (Nat → Nat → Int32)) :=
  kv_bind2 (rq_atom m) (fun v1 m2 =>
  (kv_loop (kv_u2 (fb_D_product_5 rq_atom)) (v1, m2)).bind (kv_u2 (fun x5 m6 =>
  some (x5, m6))))
set_option maxRecDepth 20000 in
theorem cx_D_product (d : Nat) (rq_atom : (Nat → Nat → Int32) → Option (Int32 × (Nat → Nat → Int32))) (hrq_atom : ∀ (c : (Nat → Nat → Int32)) (m : (Nat → Nat → Int32)) (f : (Nat → Int64)) (u : (Nat → Int64)), ∀ a, rq_atom m = some a → kv_C kM_D_atom (d + 1) [.ref 84] (c, m, f, u) (some (.int a.1), (c, a.2, f, u))) (c : (Nat → Nat → Int32)) (m : (Nat → Nat → Int32)) (f : (Nat → Int64)) (u : (Nat → Int64)) : ∀ a, fx_D_product rq_atom m = some a → kv_C kM_D_product (d + 2) [.ref 84] (c, m, f, u) (some (.int a.1), (c, a.2, f, u)) := by
  refine kv_entryX (E := fun a : (Int32 × (Nat → Nat → Int32)) => (some (.int a.1), (c, a.2, f, u))) rfl (Nat.le_of_ble_eq_true rfl) (fun o => ?_)
  unfold fx_D_product
  show kv_X _ _ _ _ _ 0 [(0, .ref 84)] [] (c, m, f, u)
  refine kv_aload_n (pc := 0) 0 rfl rfl dk_D_product_0 ?_
  refine kv_cV_mIm (pc := 1) (as := []) (st := []) ko_D_atom kc_11 rfl rfl kr_84 kw_1594 (Nat.le_of_ble_eq_true rfl) rfl dk_D_product_1 (hrq_atom c m f u) (fun v1 m2 => ?_)
  refine kv_istore_n (pc := 4) (lv' := [(1, .int v1), (0, .ref 84)]) rfl (Nat.le_of_ble_eq_true rfl) rfl dk_D_product_4 ?_
  refine kv_sub (lv' := [(0, .ref 84), (1, .int v1)]) [1, 0] rfl ?_
  refine kv_lp_2_2 (LV := fun x3 m4 => [(0, .ref 84), (1, .int x3)]) (WW := fun x3 m4 => (c, m4, f, u)) (LE1 := fun x5 m6 => [(1, .int x5)]) (WE1 := fun x5 m6 => (c, m6, f, u)) (pe1 := 70) ?_ ?_
  · intro x5 m6
    show kv_X _ _ _ _ _ 70 [(1, .int x5)] [] (c, m6, f, u)
    refine kv_iload_n (pc := 70) 0 rfl rfl dk_D_product_70 ?_
    exact kv_iret (pc := 71) (fun h => h) rfl dk_D_product_71
  · intro hx5_0 x3 m4
    show kv_X _ _ _ _ (fb_D_product_5 rq_atom x3 m4) 5 [(0, .ref 84), (1, .int x3)] [] (c, m4, f, u)
    unfold fb_D_product_5
    refine kv_aload_n (pc := 5) 0 rfl rfl dk_D_product_5 ?_
    refine kv_cV_mI (pc := 6) (as := []) (st := []) ko_D_sign kc_11 rfl rfl kr_84 kw_1549 (Nat.le_of_ble_eq_true rfl) rfl dk_D_product_6 (cx_D_sign (d + 1) c m4 f u) (fun v7 => ?_)
    refine kv_bipush (pc := 9) (v := (42 : Int32)) dk_D_product_9 kkb_42 ?_
    refine kv_cut_0 (J := fj_D_product_23 rq_atom m4 x3) (pcj := 23) (LJ := [(0, .ref 84), (1, .int x3)]) (SJ := []) (WJ := (c, m4, f, u)) ?_ (fun hj23 => ?_)
    · show kv_X _ _ _ _ (fj_D_product_23 rq_atom m4 x3) 23 [(0, .ref 84), (1, .int x3)] [] (c, m4, f, u)
      unfold fj_D_product_23
      refine kv_aload_n (pc := 23) 0 rfl rfl dk_D_product_23 ?_
      refine kv_cV_mI (pc := 24) (as := []) (st := []) ko_D_sign kc_11 rfl rfl kr_84 kw_1549 (Nat.le_of_ble_eq_true rfl) rfl dk_D_product_24 (cx_D_sign (d + 1) c m4 f u) (fun v8 => ?_)
      refine kv_istore_n (pc := 27) (lv' := [(2, .int v8), (0, .ref 84), (1, .int x3)]) rfl (Nat.le_of_ble_eq_true rfl) rfl dk_D_product_27 ?_
      refine kv_aload_n (pc := 28) 1 rfl rfl dk_D_product_28 ?_
      refine kv_dupR (pc := 29) dk_D_product_29 ?_
      refine kv_getM (pc := 30) kf_D_209 kr_84 kn_84 rfl dk_D_product_30 ?_
      refine kv_iconst (pc := 33) (v := (1 : Int32)) dk_D_product_33 kki_1 ?_
      refine kv_iadd (pc := 34) dk_D_product_34 ?_
      refine kv_putM (pc := 35) kf_D_209 kr_84 kn_84 rfl rfl rfl dk_D_product_35 (fun m9 => ?_)
      refine kv_aload_n (pc := 38) 1 rfl rfl dk_D_product_38 ?_
      refine kv_cV_mIm (pc := 39) (as := []) (st := []) ko_D_atom kc_11 rfl rfl kr_84 kw_1594 (Nat.le_of_ble_eq_true rfl) rfl dk_D_product_39 (hrq_atom c m9 f u) (fun v10 m11 => ?_)
      refine kv_istore_n (pc := 42) (lv' := [(3, .int v10), (2, .int v8), (0, .ref 84), (1, .int x3)]) rfl (Nat.le_of_ble_eq_true rfl) rfl dk_D_product_42 ?_
      refine kv_iload_n (pc := 43) 1 rfl rfl dk_D_product_43 ?_
      refine kv_bipush (pc := 44) (v := (42 : Int32)) dk_D_product_44 kkb_42 ?_
      refine kv_cut_1 (J := fj_D_product_66 m11) (pcj := 66) (LJ := fun x12 => [(0, .ref 84)]) (SJ := fun x12 => [.int x12]) (WJ := fun x12 => (c, m11, f, u)) ?_ (fun hj66 => ?_)
      · intro x12
        show kv_X _ _ _ _ (fj_D_product_66 m11 x12) 66 [(0, .ref 84)] [.int x12] (c, m11, f, u)
        unfold fj_D_product_66
        refine kv_istore_n (pc := 66) (lv' := [(1, .int x12), (0, .ref 84)]) rfl (Nat.le_of_ble_eq_true rfl) rfl dk_D_product_66 ?_
        refine kv_goto (pc := 67) (tgt := 5) dk_D_product_67 rfl ?_
        exact kv_sub [1, 0] rfl (kv_leaf (fun h => h))
      refine kv_icmp_ne (pc := 46) (tgt := 55) dk_D_product_46 rfl ?_ ?_
      · refine kv_iload_n (pc := 55) 0 rfl rfl dk_D_product_55 ?_
        refine kv_if_ne (pc := 56) (tgt := 63) dk_D_product_56 rfl ?_ ?_
        · refine kv_iload_n (pc := 63) 3 rfl rfl dk_D_product_63 ?_
          refine kv_iload_n (pc := 64) 0 rfl rfl dk_D_product_64 ?_
          refine kv_idivG (pc := 65) dk_D_product_65 ?_
          exact kv_sub [2] rfl (hj66 (x3 / v10))
        · refine kv_iconst (pc := 59) (v := (0 : Int32)) dk_D_product_59 kki_0 ?_
          refine kv_goto (pc := 60) (tgt := 66) dk_D_product_60 rfl ?_
          exact kv_sub [2] rfl (hj66 (0 : Int32))
      · refine kv_iload_n (pc := 49) 3 rfl rfl dk_D_product_49 ?_
        refine kv_iload_n (pc := 50) 0 rfl rfl dk_D_product_50 ?_
        refine kv_imul (pc := 51) dk_D_product_51 ?_
        refine kv_goto (pc := 52) (tgt := 66) dk_D_product_52 rfl ?_
        exact kv_sub [2] rfl (hj66 (x3 * v10))
    refine kv_icmp_eq (pc := 11) (tgt := 23) dk_D_product_11 rfl ?_ ?_
    · exact hj23
    · refine kv_aload_n (pc := 14) 0 rfl rfl dk_D_product_14 ?_
      refine kv_cV_mI (pc := 15) (as := []) (st := []) ko_D_sign kc_11 rfl rfl kr_84 kw_1549 (Nat.le_of_ble_eq_true rfl) rfl dk_D_product_15 (cx_D_sign (d + 1) c m4 f u) (fun v13 => ?_)
      refine kv_bipush (pc := 18) (v := (47 : Int32)) dk_D_product_18 kkb_47 ?_
      refine kv_icmp_ne (pc := 20) (tgt := 70) dk_D_product_20 rfl ?_ ?_
      · exact kv_sub [1] rfl (kv_leaf (hx5_0 _ _))
      · exact hj23
theorem dk_D_atom_0 : decode prog_13_method_63_code 0 = .ok (.aload_n 0, 1) := by decide +kernel
theorem dk_D_atom_1 : decode prog_13_method_63_code 1 = .ok (.invokevirtual 218, 3) := by decide +kernel
theorem dk_D_atom_4 : decode prog_13_method_63_code 4 = .ok (.istore_n 1, 1) := by decide +kernel
theorem dk_D_atom_5 : decode prog_13_method_63_code 5 = .ok (.iload_n 1, 1) := by decide +kernel
theorem dk_D_atom_6 : decode prog_13_method_63_code 6 = .ok (.i2l, 1) := by decide +kernel
theorem dk_D_atom_7 : decode prog_13_method_63_code 7 = .ok (.ldc2_w 221, 3) := by decide +kernel
theorem dk_D_atom_10 : decode prog_13_method_63_code 10 = .ok (.ldc2_w 223, 3) := by decide +kernel
theorem dk_D_atom_13 : decode prog_13_method_63_code 13 = .ok (.invokestatic 60, 3) := by decide +kernel
theorem dk_D_atom_16 : decode prog_13_method_63_code 16 = .ok (.ifCond .eq 13, 3) := by decide +kernel
theorem dk_D_atom_19 : decode prog_13_method_63_code 19 = .ok (.aload_n 0, 1) := by decide +kernel
theorem dk_D_atom_20 : decode prog_13_method_63_code 20 = .ok (.invokevirtual 246, 3) := by decide +kernel
theorem dk_D_atom_23 : decode prog_13_method_63_code 23 = .ok (.istore_n 2, 1) := by decide +kernel
theorem dk_D_atom_24 : decode prog_13_method_63_code 24 = .ok (.aload_n 0, 1) := by decide +kernel
theorem dk_D_atom_25 : decode prog_13_method_63_code 25 = .ok (.getfield 225, 3) := by decide +kernel
theorem dk_D_atom_28 : decode prog_13_method_63_code 28 = .ok (.ireturn, 1) := by decide +kernel
theorem dk_D_atom_29 : decode prog_13_method_63_code 29 = .ok (.aload_n 0, 1) := by decide +kernel
theorem dk_D_atom_30 : decode prog_13_method_63_code 30 = .ok (.dup, 1) := by decide +kernel
theorem dk_D_atom_31 : decode prog_13_method_63_code 31 = .ok (.getfield 209, 3) := by decide +kernel
theorem dk_D_atom_34 : decode prog_13_method_63_code 34 = .ok (.iconst 1, 1) := by decide +kernel
theorem dk_D_atom_35 : decode prog_13_method_63_code 35 = .ok (.iadd, 1) := by decide +kernel
theorem dk_D_atom_36 : decode prog_13_method_63_code 36 = .ok (.putfield 209, 3) := by decide +kernel
theorem dk_D_atom_39 : decode prog_13_method_63_code 39 = .ok (.iload_n 1, 1) := by decide +kernel
theorem dk_D_atom_40 : decode prog_13_method_63_code 40 = .ok (.lookupswitch 98 #[(40, 44), (80, 61), (109, 82), (111, 89)], 44) := by decide +kernel
theorem dk_D_atom_84 : decode prog_13_method_63_code 84 = .ok (.aload_n 0, 1) := by decide +kernel
theorem dk_D_atom_85 : decode prog_13_method_63_code 85 = .ok (.invokevirtual 264, 3) := by decide +kernel
theorem dk_D_atom_88 : decode prog_13_method_63_code 88 = .ok (.istore_n 2, 1) := by decide +kernel
theorem dk_D_atom_89 : decode prog_13_method_63_code 89 = .ok (.aload_n 0, 1) := by decide +kernel
theorem dk_D_atom_90 : decode prog_13_method_63_code 90 = .ok (.dup, 1) := by decide +kernel
theorem dk_D_atom_91 : decode prog_13_method_63_code 91 = .ok (.getfield 209, 3) := by decide +kernel
theorem dk_D_atom_94 : decode prog_13_method_63_code 94 = .ok (.iconst 1, 1) := by decide +kernel
theorem dk_D_atom_95 : decode prog_13_method_63_code 95 = .ok (.iadd, 1) := by decide +kernel
theorem dk_D_atom_96 : decode prog_13_method_63_code 96 = .ok (.putfield 209, 3) := by decide +kernel
theorem dk_D_atom_99 : decode prog_13_method_63_code 99 = .ok (.iload_n 2, 1) := by decide +kernel
theorem dk_D_atom_100 : decode prog_13_method_63_code 100 = .ok (.ireturn, 1) := by decide +kernel
theorem dk_D_atom_101 : decode prog_13_method_63_code 101 = .ok (.aload_n 0, 1) := by decide +kernel
theorem dk_D_atom_102 : decode prog_13_method_63_code 102 = .ok (.invokevirtual 82, 3) := by decide +kernel
theorem dk_D_atom_105 : decode prog_13_method_63_code 105 = .ok (.ifCond .ge 7, 3) := by decide +kernel
theorem dk_D_atom_108 : decode prog_13_method_63_code 108 = .ok (.iconst 0, 1) := by decide +kernel
theorem dk_D_atom_109 : decode prog_13_method_63_code 109 = .ok (.goto 12, 3) := by decide +kernel
theorem dk_D_atom_112 : decode prog_13_method_63_code 112 = .ok (.aload_n 0, 1) := by decide +kernel
theorem dk_D_atom_113 : decode prog_13_method_63_code 113 = .ok (.aload_n 0, 1) := by decide +kernel
theorem dk_D_atom_114 : decode prog_13_method_63_code 114 = .ok (.invokevirtual 82, 3) := by decide +kernel
theorem dk_D_atom_117 : decode prog_13_method_63_code 117 = .ok (.iconst 3, 1) := by decide +kernel
theorem dk_D_atom_118 : decode prog_13_method_63_code 118 = .ok (.invokevirtual 68, 3) := by decide +kernel
theorem dk_D_atom_121 : decode prog_13_method_63_code 121 = .ok (.ireturn, 1) := by decide +kernel
theorem dk_D_atom_122 : decode prog_13_method_63_code 122 = .ok (.aload_n 0, 1) := by decide +kernel
theorem dk_D_atom_123 : decode prog_13_method_63_code 123 = .ok (.iconst 2, 1) := by decide +kernel
theorem dk_D_atom_124 : decode prog_13_method_63_code 124 = .ok (.iconst 2, 1) := by decide +kernel
theorem dk_D_atom_125 : decode prog_13_method_63_code 125 = .ok (.invokevirtual 267, 3) := by decide +kernel
theorem dk_D_atom_128 : decode prog_13_method_63_code 128 = .ok (.ireturn, 1) := by decide +kernel
theorem dk_D_atom_129 : decode prog_13_method_63_code 129 = .ok (.aload_n 0, 1) := by decide +kernel
theorem dk_D_atom_130 : decode prog_13_method_63_code 130 = .ok (.bipush 7, 2) := by decide +kernel
theorem dk_D_atom_132 : decode prog_13_method_63_code 132 = .ok (.bipush 7, 2) := by decide +kernel
theorem dk_D_atom_134 : decode prog_13_method_63_code 134 = .ok (.invokevirtual 267, 3) := by decide +kernel
theorem dk_D_atom_137 : decode prog_13_method_63_code 137 = .ok (.ireturn, 1) := by decide +kernel
theorem dk_D_atom_138 : decode prog_13_method_63_code 138 = .ok (.aload_n 0, 1) := by decide +kernel
theorem dk_D_atom_139 : decode prog_13_method_63_code 139 = .ok (.iconst 3, 1) := by decide +kernel
theorem dk_D_atom_140 : decode prog_13_method_63_code 140 = .ok (.iconst 4, 1) := by decide +kernel
theorem dk_D_atom_141 : decode prog_13_method_63_code 141 = .ok (.invokevirtual 267, 3) := by decide +kernel
theorem dk_D_atom_144 : decode prog_13_method_63_code 144 = .ok (.ireturn, 1) := by decide +kernel
noncomputable def fx_D_atom (rq_sumOf : (Nat → Nat → Int32) → Option (Int32 × (Nat → Nat → Int32))) (m : (Nat → Nat → Int32)) : Option (Int32 × (Nat → Nat → Int32)) :=
  kv_bind1 (fx_D_sign m) (fun v1 =>
  kv_bind1 (fx_D_isIn v1.toInt64 (48 : Int64) (57 : Int64)) (fun b2 =>
  if b2 = true then
    kv_bind2 (fx_D_readsNumber m) (fun b17 m18 =>
    kv_let (kv_b b17) (fun v19 =>
    some ((m18 84 22), m18)))
  else
    kv_let (kv_st m 84 18 ((m 84 18) + (1 : Int32))) (fun m3 =>
    if v1 = (40 : Int32) then
      kv_bind2 (rq_sumOf m3) (fun v5 m6 =>
      kv_let (kv_st m6 84 18 ((m6 84 18) + (1 : Int32))) (fun m7 =>
      some (v5, m7)))
    else if v1 = (80 : Int32) then
      kv_bind1 (fx_D_primeOf m3) (fun v9 =>
      if 0 ≤ v9 then
        kv_bind1 (fx_D_primeOf m3) (fun v10 =>
        kv_bind1 (fx_D_get v10 (3 : Int32) m3) (fun v11 =>
        some (v11, m3)))
      else
        some ((0 : Int32), m3))
    else if v1 = (109 : Int32) then
      kv_bind1 (fx_D_meanOf (2 : Int32) (2 : Int32) m3) (fun v13 =>
      some (v13, m3))
    else if v1 = (111 : Int32) then
      kv_bind1 (fx_D_meanOf (7 : Int32) (7 : Int32) m3) (fun v15 =>
      some (v15, m3))
    else 
    kv_bind1 (fx_D_meanOf (3 : Int32) (4 : Int32) m3) (fun v16 =>
    some (v16, m3)))))
set_option maxRecDepth 20000 in
theorem cx_D_atom (d : Nat) (rq_sumOf : (Nat → Nat → Int32) → Option (Int32 × (Nat → Nat → Int32))) (hrq_sumOf : ∀ (c : (Nat → Nat → Int32)) (m : (Nat → Nat → Int32)) (f : (Nat → Int64)) (u : (Nat → Int64)), ∀ a, rq_sumOf m = some a → kv_C kM_D_sumOf (d + 1) [.ref 84] (c, m, f, u) (some (.int a.1), (c, a.2, f, u))) (c : (Nat → Nat → Int32)) (m : (Nat → Nat → Int32)) (f : (Nat → Int64)) (u : (Nat → Int64)) : ∀ a, fx_D_atom rq_sumOf m = some a → kv_C kM_D_atom (d + 2) [.ref 84] (c, m, f, u) (some (.int a.1), (c, a.2, f, u)) := by
  refine kv_entryX (E := fun a : (Int32 × (Nat → Nat → Int32)) => (some (.int a.1), (c, a.2, f, u))) rfl (Nat.le_of_ble_eq_true rfl) (fun o => ?_)
  unfold fx_D_atom
  show kv_X _ _ _ _ _ 0 [(0, .ref 84)] [] (c, m, f, u)
  refine kv_aload_n (pc := 0) 0 rfl rfl dk_D_atom_0 ?_
  refine kv_cV_mI (pc := 1) (as := []) (st := []) ko_D_sign kc_11 rfl rfl kr_84 kw_1549 (Nat.le_of_ble_eq_true rfl) rfl dk_D_atom_1 (cx_D_sign (d + 1) c m f u) (fun v1 => ?_)
  refine kv_istore_n (pc := 4) (lv' := [(1, .int v1), (0, .ref 84)]) rfl (Nat.le_of_ble_eq_true rfl) rfl dk_D_atom_4 ?_
  refine kv_iload_n (pc := 5) 0 rfl rfl dk_D_atom_5 ?_
  refine kv_i2l (pc := 6) dk_D_atom_6 ?_
  refine kv_ldc2 (pc := 7) (v := (48 : Int64)) kw_1553 dk_D_atom_7 ?_
  refine kv_ldc2 (pc := 10) (v := (57 : Int64)) kw_1554 dk_D_atom_10 ?_
  refine kv_cS_mZ (pc := 13) (as := [.long v1.toInt64, .long (48 : Int64), .long (57 : Int64)]) (st := []) ko_D_isIn rfl kw_1330 (Nat.le_of_ble_eq_true rfl) rfl dk_D_atom_13 (cx_D_isIn (d + 1) v1.toInt64 (48 : Int64) (57 : Int64) c m f u) (fun b2 => ?_)
  refine kv_zif_eq (pc := 16) (tgt := 29) dk_D_atom_16 rfl ?_ ?_
  · refine kv_aload_n (pc := 29) 1 rfl rfl dk_D_atom_29 ?_
    refine kv_dupR (pc := 30) dk_D_atom_30 ?_
    refine kv_getM (pc := 31) kf_D_209 kr_84 kn_84 rfl dk_D_atom_31 ?_
    refine kv_iconst (pc := 34) (v := (1 : Int32)) dk_D_atom_34 kki_1 ?_
    refine kv_iadd (pc := 35) dk_D_atom_35 ?_
    refine kv_putM (pc := 36) kf_D_209 kr_84 kn_84 rfl rfl rfl dk_D_atom_36 (fun m3 => ?_)
    refine kv_iload_n (pc := 39) 0 rfl rfl dk_D_atom_39 ?_
    refine kv_lkIn (pc := 40) (v := (40 : Int32)) (off := 44) (tgt := 84) dk_D_atom_40 (by decide) (by decide) rfl ?_ (fun n4 => ?_)
    · refine kv_aload_n (pc := 84) 1 rfl rfl dk_D_atom_84 ?_
      refine kv_cV_mIm (pc := 85) (as := []) (st := []) ko_D_sumOf kc_11 rfl rfl kr_84 kw_1586 (Nat.le_of_ble_eq_true rfl) rfl dk_D_atom_85 (hrq_sumOf c m3 f u) (fun v5 m6 => ?_)
      refine kv_istore_n (pc := 88) (lv' := [(2, .int v5), (1, .int v1), (0, .ref 84)]) rfl (Nat.le_of_ble_eq_true rfl) rfl dk_D_atom_88 ?_
      refine kv_aload_n (pc := 89) 2 rfl rfl dk_D_atom_89 ?_
      refine kv_dupR (pc := 90) dk_D_atom_90 ?_
      refine kv_getM (pc := 91) kf_D_209 kr_84 kn_84 rfl dk_D_atom_91 ?_
      refine kv_iconst (pc := 94) (v := (1 : Int32)) dk_D_atom_94 kki_1 ?_
      refine kv_iadd (pc := 95) dk_D_atom_95 ?_
      refine kv_putM (pc := 96) kf_D_209 kr_84 kn_84 rfl rfl rfl dk_D_atom_96 (fun m7 => ?_)
      refine kv_iload_n (pc := 99) 0 rfl rfl dk_D_atom_99 ?_
      exact kv_iret (pc := 100) (fun h => h) rfl dk_D_atom_100
    refine kv_lkIn (pc := 40) (v := (80 : Int32)) (off := 61) (tgt := 101) dk_D_atom_40 (by decide) (by decide) rfl ?_ (fun n8 => ?_)
    · refine kv_aload_n (pc := 101) 1 rfl rfl dk_D_atom_101 ?_
      refine kv_cV_mI (pc := 102) (as := []) (st := []) ko_D_primeOf kc_11 rfl rfl kr_84 kw_1337 (Nat.le_of_ble_eq_true rfl) rfl dk_D_atom_102 (cx_D_primeOf d c m3 f u) (fun v9 => ?_)
      refine kv_if_ge (pc := 105) (tgt := 112) dk_D_atom_105 rfl ?_ ?_
      · refine kv_aload_n (pc := 112) 1 rfl rfl dk_D_atom_112 ?_
        refine kv_aload_n (pc := 113) 1 rfl rfl dk_D_atom_113 ?_
        refine kv_cV_mI (pc := 114) (as := []) (st := [.ref 84]) ko_D_primeOf kc_11 rfl rfl kr_84 kw_1337 (Nat.le_of_ble_eq_true rfl) rfl dk_D_atom_114 (cx_D_primeOf d c m3 f u) (fun v10 => ?_)
        refine kv_iconst (pc := 117) (v := (3 : Int32)) dk_D_atom_117 kki_3 ?_
        refine kv_cV_mI (pc := 118) (as := [.int v10, .int (3 : Int32)]) (st := []) ko_D_get kc_11 rfl rfl kr_84 kw_1341 (Nat.le_of_ble_eq_true rfl) rfl dk_D_atom_118 (cx_D_get (d + 1) v10 (3 : Int32) c m3 f u) (fun v11 => ?_)
        exact kv_iret (pc := 121) (fun h => h) rfl dk_D_atom_121
      · refine kv_iconst (pc := 108) (v := (0 : Int32)) dk_D_atom_108 kki_0 ?_
        refine kv_goto (pc := 109) (tgt := 121) dk_D_atom_109 rfl ?_
        exact kv_iret (pc := 121) (fun h => h) rfl dk_D_atom_121
    refine kv_lkIn (pc := 40) (v := (109 : Int32)) (off := 82) (tgt := 122) dk_D_atom_40 (by decide) (by decide) rfl ?_ (fun n12 => ?_)
    · refine kv_aload_n (pc := 122) 1 rfl rfl dk_D_atom_122 ?_
      refine kv_iconst (pc := 123) (v := (2 : Int32)) dk_D_atom_123 kki_2 ?_
      refine kv_iconst (pc := 124) (v := (2 : Int32)) dk_D_atom_124 kki_2 ?_
      refine kv_cV_mI (pc := 125) (as := [.int (2 : Int32), .int (2 : Int32)]) (st := []) ko_D_meanOf kc_11 rfl rfl kr_84 kw_1598 (Nat.le_of_ble_eq_true rfl) rfl dk_D_atom_125 (cx_D_meanOf d (2 : Int32) (2 : Int32) c m3 f u) (fun v13 => ?_)
      exact kv_iret (pc := 128) (fun h => h) rfl dk_D_atom_128
    refine kv_lkIn (pc := 40) (v := (111 : Int32)) (off := 89) (tgt := 129) dk_D_atom_40 (by decide) (by decide) rfl ?_ (fun n14 => ?_)
    · refine kv_aload_n (pc := 129) 1 rfl rfl dk_D_atom_129 ?_
      refine kv_bipush (pc := 130) (v := (7 : Int32)) dk_D_atom_130 kkb_7 ?_
      refine kv_bipush (pc := 132) (v := (7 : Int32)) dk_D_atom_132 kkb_7 ?_
      refine kv_cV_mI (pc := 134) (as := [.int (7 : Int32), .int (7 : Int32)]) (st := []) ko_D_meanOf kc_11 rfl rfl kr_84 kw_1598 (Nat.le_of_ble_eq_true rfl) rfl dk_D_atom_134 (cx_D_meanOf d (7 : Int32) (7 : Int32) c m3 f u) (fun v15 => ?_)
      exact kv_iret (pc := 137) (fun h => h) rfl dk_D_atom_137
    refine kv_lkOut (pc := 40) (tgt := 138) dk_D_atom_40 (by decide) (by have qn4 := kv_ne (40 : Int32) (k := 40) rfl n4; have qn8 := kv_ne (80 : Int32) (k := 80) rfl n8; have qn12 := kv_ne (109 : Int32) (k := 109) rfl n12; have qn14 := kv_ne (111 : Int32) (k := 111) rfl n14; exact kv_lkd qn4 qn8 qn12 qn14) rfl ?_
    refine kv_aload_n (pc := 138) 1 rfl rfl dk_D_atom_138 ?_
    refine kv_iconst (pc := 139) (v := (3 : Int32)) dk_D_atom_139 kki_3 ?_
    refine kv_iconst (pc := 140) (v := (4 : Int32)) dk_D_atom_140 kki_4 ?_
    refine kv_cV_mI (pc := 141) (as := [.int (3 : Int32), .int (4 : Int32)]) (st := []) ko_D_meanOf kc_11 rfl rfl kr_84 kw_1598 (Nat.le_of_ble_eq_true rfl) rfl dk_D_atom_141 (cx_D_meanOf d (3 : Int32) (4 : Int32) c m3 f u) (fun v16 => ?_)
    exact kv_iret (pc := 144) (fun h => h) rfl dk_D_atom_144
  · refine kv_aload_n (pc := 19) 1 rfl rfl dk_D_atom_19 ?_
    refine kv_cV_mZm (pc := 20) (as := []) (st := []) ko_D_readsNumber kc_11 rfl rfl kr_84 kw_1545 (Nat.le_of_ble_eq_true rfl) rfl dk_D_atom_20 (cx_D_readsNumber d c m f u) (fun b17 m18 => ?_)
    refine kv_letI (fun v19 => ?_)
    refine kv_istore_n (pc := 23) (lv' := [(2, .int v19), (1, .int v1), (0, .ref 84)]) rfl (Nat.le_of_ble_eq_true rfl) rfl dk_D_atom_23 ?_
    refine kv_aload_n (pc := 24) 2 rfl rfl dk_D_atom_24 ?_
    refine kv_getM (pc := 25) kf_D_225 kr_84 kn_84 rfl dk_D_atom_25 ?_
    exact kv_iret (pc := 28) (fun h => h) rfl dk_D_atom_28
noncomputable def fg_O : Nat → Nat → (Nat → Nat → Int32) → Option (Int32 × (Nat → Nat → Int32))
  | 0 => fun _ _ => none
  | n + 1 => fun k m => if k = 0 then fx_D_sumOf (fg_O n 1) m else if k = 1 then fx_D_product (fg_O n 2) m else fx_D_atom (fg_O n 0) m
theorem cg_fg_O (d : Nat) : ∀ n : Nat, (∀ (c : (Nat → Nat → Int32)) (m : (Nat → Nat → Int32)) (f : (Nat → Int64)) (u : (Nat → Int64)), ∀ a, fg_O n 0 m = some a → kv_C kM_D_sumOf (d + n + 1) [.ref 84] (c, m, f, u) (some (.int a.1), (c, a.2, f, u))) ∧ (∀ (c : (Nat → Nat → Int32)) (m : (Nat → Nat → Int32)) (f : (Nat → Int64)) (u : (Nat → Int64)), ∀ a, fg_O n 1 m = some a → kv_C kM_D_product (d + n + 1) [.ref 84] (c, m, f, u) (some (.int a.1), (c, a.2, f, u))) ∧ (∀ (c : (Nat → Nat → Int32)) (m : (Nat → Nat → Int32)) (f : (Nat → Int64)) (u : (Nat → Int64)), ∀ a, fg_O n 2 m = some a → kv_C kM_D_atom (d + n + 1) [.ref 84] (c, m, f, u) (some (.int a.1), (c, a.2, f, u))) := by
  intro n
  induction n with
  | zero => exact ⟨fun c m f u a h => (by cases h), fun c m f u a h => (by cases h), fun c m f u a h => (by cases h)⟩
  | succ n ih =>
    have e : d + (n + 1) + 1 = d + n + 2 := by omega
    rw [e]
    exact ⟨fun c m f u => cx_D_sumOf (d + n) (fg_O n 1) ih.2.1 c m f u, fun c m f u => cx_D_product (d + n) (fg_O n 2) ih.2.2 c m f u, fun c m f u => cx_D_atom (d + n) (fg_O n 0) ih.1 c m f u⟩
theorem cx_fg_O_0 (d : Nat) : ∀ (c : (Nat → Nat → Int32)) (m : (Nat → Nat → Int32)) (f : (Nat → Int64)) (u : (Nat → Int64)), ∀ a, fg_O 24 0 m = some a → kv_C kM_D_sumOf (d + 25) [.ref 84] (c, m, f, u) (some (.int a.1), (c, a.2, f, u)) := (cg_fg_O d 24).1
theorem cx_fg_O_1 (d : Nat) : ∀ (c : (Nat → Nat → Int32)) (m : (Nat → Nat → Int32)) (f : (Nat → Int64)) (u : (Nat → Int64)), ∀ a, fg_O 24 1 m = some a → kv_C kM_D_product (d + 25) [.ref 84] (c, m, f, u) (some (.int a.1), (c, a.2, f, u)) := (cg_fg_O d 24).2.1
theorem cx_fg_O_2 (d : Nat) : ∀ (c : (Nat → Nat → Int32)) (m : (Nat → Nat → Int32)) (f : (Nat → Int64)) (u : (Nat → Int64)), ∀ a, fg_O 24 2 m = some a → kv_C kM_D_atom (d + 25) [.ref 84] (c, m, f, u) (some (.int a.1), (c, a.2, f, u)) := (cg_fg_O d 24).2.2
