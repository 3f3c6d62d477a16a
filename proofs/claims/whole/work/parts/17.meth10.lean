theorem dk_Planner_tries_0 : decode prog_7_method_10_code 0 = .ok (.aload_n 0, 1) := by decide +kernel
theorem dk_Planner_tries_1 : decode prog_7_method_10_code 1 = .ok (.getfield 9, 3) := by decide +kernel
theorem dk_Planner_tries_4 : decode prog_7_method_10_code 4 = .ok (.iconst 0, 1) := by decide +kernel
theorem dk_Planner_tries_5 : decode prog_7_method_10_code 5 = .ok (.aload_n 0, 1) := by decide +kernel
theorem dk_Planner_tries_6 : decode prog_7_method_10_code 6 = .ok (.getfield 15, 3) := by decide +kernel
theorem dk_Planner_tries_9 : decode prog_7_method_10_code 9 = .ok (.iconst 0, 1) := by decide +kernel
theorem dk_Planner_tries_10 : decode prog_7_method_10_code 10 = .ok (.bipush 100, 2) := by decide +kernel
theorem dk_Planner_tries_12 : decode prog_7_method_10_code 12 = .ok (.invokestatic 141, 3) := by decide +kernel
theorem dk_Planner_tries_15 : decode prog_7_method_10_code 15 = .ok (.iconst 0, 1) := by decide +kernel
theorem dk_Planner_tries_16 : decode prog_7_method_10_code 16 = .ok (.istore_n 2, 1) := by decide +kernel
theorem dk_Planner_tries_17 : decode prog_7_method_10_code 17 = .ok (.iload_n 2, 1) := by decide +kernel
theorem dk_Planner_tries_18 : decode prog_7_method_10_code 18 = .ok (.aload_n 0, 1) := by decide +kernel
theorem dk_Planner_tries_19 : decode prog_7_method_10_code 19 = .ok (.getfield 43, 3) := by decide +kernel
theorem dk_Planner_tries_22 : decode prog_7_method_10_code 22 = .ok (.if_icmp .ge 28, 3) := by decide +kernel
theorem dk_Planner_tries_25 : decode prog_7_method_10_code 25 = .ok (.aload_n 0, 1) := by decide +kernel
theorem dk_Planner_tries_26 : decode prog_7_method_10_code 26 = .ok (.iload_n 1, 1) := by decide +kernel
theorem dk_Planner_tries_27 : decode prog_7_method_10_code 27 = .ok (.iload_n 2, 1) := by decide +kernel
theorem dk_Planner_tries_28 : decode prog_7_method_10_code 28 = .ok (.invokevirtual 133, 3) := by decide +kernel
theorem dk_Planner_tries_31 : decode prog_7_method_10_code 31 = .ok (.ifCond .eq 13, 3) := by decide +kernel
theorem dk_Planner_tries_34 : decode prog_7_method_10_code 34 = .ok (.aload_n 0, 1) := by decide +kernel
theorem dk_Planner_tries_35 : decode prog_7_method_10_code 35 = .ok (.iload_n 2, 1) := by decide +kernel
theorem dk_Planner_tries_36 : decode prog_7_method_10_code 36 = .ok (.invokevirtual 147, 3) := by decide +kernel
theorem dk_Planner_tries_39 : decode prog_7_method_10_code 39 = .ok (.ifCond .ne 5, 3) := by decide +kernel
theorem dk_Planner_tries_42 : decode prog_7_method_10_code 42 = .ok (.iconst 0, 1) := by decide +kernel
theorem dk_Planner_tries_43 : decode prog_7_method_10_code 43 = .ok (.ireturn, 1) := by decide +kernel
theorem dk_Planner_tries_44 : decode prog_7_method_10_code 44 = .ok (.iinc 2 1, 3) := by decide +kernel
theorem dk_Planner_tries_47 : decode prog_7_method_10_code 47 = .ok (.goto (-30), 3) := by decide +kernel
theorem dk_Planner_tries_50 : decode prog_7_method_10_code 50 = .ok (.iconst 1, 1) := by decide +kernel
theorem dk_Planner_tries_51 : decode prog_7_method_10_code 51 = .ok (.ireturn, 1) := by decide +kernel
noncomputable def fj_Planner_tries_44 (x3 : Int32) (c8 : (Nat → Nat → Int32)) : Option ((Int32 × (Nat → Nat → Int32)) ⊕ ((Nat → Nat → Int32) ⊕ (Nat → Nat → Int32))) :=
  some (.inl ((x3 + (1 : Int32)), c8))
noncomputable def fb_Planner_tries_17 (p1 : Int32) (x3 : Int32) (c4 : (Nat → Nat → Int32)) : Option ((Int32 × (Nat → Nat → Int32)) ⊕ ((Nat → Nat → Int32) ⊕ (Nat → Nat → Int32))) :=
  if (c4 77 6) ≤ x3 then
    some (.inr (.inr c4))
  else
    kv_bind1 (fx_Planner_has p1 x3) (fun b7 =>
    if b7 = true then
      kv_bind2 (fx_Planner_tryOne x3 c4) (fun b9 c10 =>
      if b9 = true then
        fj_Planner_tries_44 x3 c10
      else
        some (.inr (.inl c10)))
    else
      fj_Planner_tries_44 x3 c4)
noncomputable def fx_Planner_tries (p1 : Int32) (c : (Nat → Nat → Int32)) : Option (Bool × (Nat → Nat → Int32)) :=
  kv_let (va_up c 79 (va_cpy (c 78) (c 79) (0 : Int32).toNatClampNeg (0 : Int32).toNatClampNeg (100 : Int32).toNatClampNeg)) (fun c2 =>
  (kv_loop (kv_u2 (fb_Planner_tries_17 p1)) ((0 : Int32), c2)).bind (Sum.elim (kv_u1 (fun c5 =>
  some (false, c5)))
   (kv_u1 (fun c6 =>
  some (true, c6)))))
set_option maxRecDepth 20000 in
theorem cx_Planner_tries (d : Nat) (p1 : Int32) (c : (Nat → Nat → Int32)) (y : (Nat → Nat → Int32) × (Nat → Int64) × (Nat → Int64)) : ∀ a, fx_Planner_tries p1 c = some a → kv_C kM_Planner_tries (d + 3) [.ref 77, .int p1] (c, y) (some (.int (kv_b a.1)), (a.2, y)) := by
  refine kv_entryX (E := fun a : (Bool × (Nat → Nat → Int32)) => (some (.int (kv_b a.1)), (a.2, y))) rfl (Nat.le_of_ble_eq_true rfl) (fun o => ?_)
  unfold fx_Planner_tries
  show kv_X _ _ _ _ _ 0 [(0, .ref 77), (1, .int p1)] [] (c, y)
  refine kv_aload_n (pc := 0) 0 rfl rfl dk_Planner_tries_0 ?_
  refine kv_getR (pc := 1) kf_Planner_9 kr_77 rfl kt_77_0 dk_Planner_tries_1 ?_
  refine kv_iconst (pc := 4) (v := (0 : Int32)) dk_Planner_tries_4 kki_0 ?_
  refine kv_aload_n (pc := 5) 0 rfl rfl dk_Planner_tries_5 ?_
  refine kv_getR (pc := 6) kf_Planner_15 kr_77 rfl kt_77_1 dk_Planner_tries_6 ?_
  refine kv_iconst (pc := 9) (v := (0 : Int32)) dk_Planner_tries_9 kki_0 ?_
  refine kv_bipush (pc := 10) (v := (100 : Int32)) dk_Planner_tries_10 kkb_100 ?_
  refine kv_copyC (pc := 12) kr_78 kr_79 kn_78 kn_79 kl_78 kl_79 (by decide) kw_1033 kw_752 kw_751 kw_82 (Nat.le_of_ble_eq_true rfl) dk_Planner_tries_12 (fun c2 => ?_)
  refine kv_iconst (pc := 15) (v := (0 : Int32)) dk_Planner_tries_15 kki_0 ?_
  refine kv_istore_n (pc := 16) (lv' := [(2, .int (0 : Int32)), (0, .ref 77), (1, .int p1)]) rfl (Nat.le_of_ble_eq_true rfl) rfl dk_Planner_tries_16 ?_
  refine kv_sub (lv' := [(0, .ref 77), (1, .int p1), (2, .int (0 : Int32))]) [1, 2, 0] rfl ?_
  refine kv_lp_2_1_1 (LV := fun x3 c4 => [(0, .ref 77), (1, .int p1), (2, .int x3)]) (WW := fun x3 c4 => (c4, y)) (LE1 := fun c5 => []) (WE1 := fun c5 => (c5, y)) (pe1 := 42) (LE2 := fun c6 => []) (WE2 := fun c6 => (c6, y)) (pe2 := 50) ?_ ?_ ?_
  · intro c5
    show kv_X _ _ _ _ _ 42 [] [] (c5, y)
    refine kv_iconst (pc := 42) (v := (0 : Int32)) dk_Planner_tries_42 kki_0 ?_
    exact kv_zret (pc := 43) (b := false) (fun h => h) rfl dk_Planner_tries_43
  · intro c6
    show kv_X _ _ _ _ _ 50 [] [] (c6, y)
    refine kv_iconst (pc := 50) (v := (1 : Int32)) dk_Planner_tries_50 kki_1 ?_
    exact kv_zret (pc := 51) (b := true) (fun h => h) rfl dk_Planner_tries_51
  · intro hx17_0 hx17_1 x3 c4
    show kv_X _ _ _ _ (fb_Planner_tries_17 p1 x3 c4) 17 [(0, .ref 77), (1, .int p1), (2, .int x3)] [] (c4, y)
    unfold fb_Planner_tries_17
    refine kv_iload_n (pc := 17) 2 rfl rfl dk_Planner_tries_17 ?_
    refine kv_aload_n (pc := 18) 0 rfl rfl dk_Planner_tries_18 ?_
    refine kv_getC (pc := 19) kf_Planner_43 kr_77 kn_77 rfl dk_Planner_tries_19 ?_
    refine kv_icmp_ge (pc := 22) (tgt := 50) dk_Planner_tries_22 rfl ?_ ?_
    · exact kv_sub [] rfl (kv_leaf (hx17_1 _))
    · refine kv_aload_n (pc := 25) 0 rfl rfl dk_Planner_tries_25 ?_
      refine kv_iload_n (pc := 26) 1 rfl rfl dk_Planner_tries_26 ?_
      refine kv_iload_n (pc := 27) 2 rfl rfl dk_Planner_tries_27 ?_
      refine kv_cV_cZ (pc := 28) (as := [.int p1, .int x3]) (st := []) ko_Planner_has kc_5 rfl rfl kr_77 kw_1024 (Nat.le_of_ble_eq_true rfl) rfl dk_Planner_tries_28 (cx_Planner_has (d + 2) p1 x3 c4 y) (fun b7 => ?_)
      refine kv_cut_1 (J := fj_Planner_tries_44 x3) (pcj := 44) (LJ := fun c8 => [(0, .ref 77), (1, .int p1), (2, .int x3)]) (SJ := fun c8 => []) (WJ := fun c8 => (c8, y)) ?_ (fun hj44 => ?_)
      · intro c8
        show kv_X _ _ _ _ (fj_Planner_tries_44 x3 c8) 44 [(0, .ref 77), (1, .int p1), (2, .int x3)] [] (c8, y)
        unfold fj_Planner_tries_44
        refine kv_iinc (pc := 44) (kk := (1 : Int32)) (lv' := [(2, .int (x3 + (1 : Int32))), (0, .ref 77), (1, .int p1)]) 2 rfl kki_1 rfl (Nat.le_of_ble_eq_true rfl) dk_Planner_tries_44 ?_
        refine kv_goto (pc := 47) (tgt := 17) dk_Planner_tries_47 rfl ?_
        exact kv_sub [1, 2, 0] rfl (kv_leaf (fun h => h))
      refine kv_zif_eq (pc := 31) (tgt := 44) dk_Planner_tries_31 rfl ?_ ?_
      · exact hj44 c4
      · refine kv_aload_n (pc := 34) 0 rfl rfl dk_Planner_tries_34 ?_
        refine kv_iload_n (pc := 35) 2 rfl rfl dk_Planner_tries_35 ?_
        refine kv_cV_cZc (pc := 36) (as := [.int x3]) (st := []) ko_Planner_tryOne kc_5 rfl rfl kr_77 kw_1034 (Nat.le_of_ble_eq_true rfl) rfl dk_Planner_tries_36 (cx_Planner_tryOne d x3 c4 y) (fun b9 c10 => ?_)
        refine kv_zif_ne (pc := 39) (tgt := 44) dk_Planner_tries_39 rfl ?_ ?_
        · exact hj44 c10
        · exact kv_sub [] rfl (kv_leaf (hx17_0 _))
theorem dk_Planner_widths_0 : decode prog_7_method_13_code 0 = .ok (.iconst 0, 1) := by decide +kernel
theorem dk_Planner_widths_1 : decode prog_7_method_13_code 1 = .ok (.istore_n 1, 1) := by decide +kernel
theorem dk_Planner_widths_2 : decode prog_7_method_13_code 2 = .ok (.iconst 0, 1) := by decide +kernel
theorem dk_Planner_widths_3 : decode prog_7_method_13_code 3 = .ok (.istore_n 2, 1) := by decide +kernel
theorem dk_Planner_widths_4 : decode prog_7_method_13_code 4 = .ok (.iload_n 2, 1) := by decide +kernel
theorem dk_Planner_widths_5 : decode prog_7_method_13_code 5 = .ok (.aload_n 0, 1) := by decide +kernel
theorem dk_Planner_widths_6 : decode prog_7_method_13_code 6 = .ok (.getfield 51, 3) := by decide +kernel
theorem dk_Planner_widths_9 : decode prog_7_method_13_code 9 = .ok (.if_icmp .ge 99, 3) := by decide +kernel
theorem dk_Planner_widths_12 : decode prog_7_method_13_code 12 = .ok (.iload_n 2, 1) := by decide +kernel
theorem dk_Planner_widths_13 : decode prog_7_method_13_code 13 = .ok (.iconst 1, 1) := by decide +kernel
theorem dk_Planner_widths_14 : decode prog_7_method_13_code 14 = .ok (.iadd, 1) := by decide +kernel
theorem dk_Planner_widths_15 : decode prog_7_method_13_code 15 = .ok (.istore_n 3, 1) := by decide +kernel
theorem dk_Planner_widths_16 : decode prog_7_method_13_code 16 = .ok (.iload_n 3, 1) := by decide +kernel
theorem dk_Planner_widths_17 : decode prog_7_method_13_code 17 = .ok (.aload_n 0, 1) := by decide +kernel
theorem dk_Planner_widths_18 : decode prog_7_method_13_code 18 = .ok (.getfield 51, 3) := by decide +kernel
theorem dk_Planner_widths_21 : decode prog_7_method_13_code 21 = .ok (.if_icmp .ge 81, 3) := by decide +kernel
theorem dk_Planner_widths_24 : decode prog_7_method_13_code 24 = .ok (.aload_n 0, 1) := by decide +kernel
theorem dk_Planner_widths_25 : decode prog_7_method_13_code 25 = .ok (.getfield 15, 3) := by decide +kernel
theorem dk_Planner_widths_28 : decode prog_7_method_13_code 28 = .ok (.iload_n 2, 1) := by decide +kernel
theorem dk_Planner_widths_29 : decode prog_7_method_13_code 29 = .ok (.bipush 10, 2) := by decide +kernel
theorem dk_Planner_widths_31 : decode prog_7_method_13_code 31 = .ok (.imul, 1) := by decide +kernel
theorem dk_Planner_widths_32 : decode prog_7_method_13_code 32 = .ok (.iload_n 3, 1) := by decide +kernel
theorem dk_Planner_widths_33 : decode prog_7_method_13_code 33 = .ok (.iadd, 1) := by decide +kernel
theorem dk_Planner_widths_34 : decode prog_7_method_13_code 34 = .ok (.iaload, 1) := by decide +kernel
theorem dk_Planner_widths_35 : decode prog_7_method_13_code 35 = .ok (.istore 4, 2) := by decide +kernel
theorem dk_Planner_widths_37 : decode prog_7_method_13_code 37 = .ok (.aload_n 0, 1) := by decide +kernel
theorem dk_Planner_widths_38 : decode prog_7_method_13_code 38 = .ok (.getfield 15, 3) := by decide +kernel
theorem dk_Planner_widths_41 : decode prog_7_method_13_code 41 = .ok (.iload_n 3, 1) := by decide +kernel
theorem dk_Planner_widths_42 : decode prog_7_method_13_code 42 = .ok (.bipush 10, 2) := by decide +kernel
theorem dk_Planner_widths_44 : decode prog_7_method_13_code 44 = .ok (.imul, 1) := by decide +kernel
theorem dk_Planner_widths_45 : decode prog_7_method_13_code 45 = .ok (.iload_n 2, 1) := by decide +kernel
theorem dk_Planner_widths_46 : decode prog_7_method_13_code 46 = .ok (.iadd, 1) := by decide +kernel
theorem dk_Planner_widths_47 : decode prog_7_method_13_code 47 = .ok (.iaload, 1) := by decide +kernel
theorem dk_Planner_widths_48 : decode prog_7_method_13_code 48 = .ok (.istore 5, 2) := by decide +kernel
theorem dk_Planner_widths_50 : decode prog_7_method_13_code 50 = .ok (.iload 4, 2) := by decide +kernel
theorem dk_Planner_widths_52 : decode prog_7_method_13_code 52 = .ok (.ldc 69, 2) := by decide +kernel
theorem dk_Planner_widths_54 : decode prog_7_method_13_code 54 = .ok (.if_icmp .eq 14, 3) := by decide +kernel
theorem dk_Planner_widths_57 : decode prog_7_method_13_code 57 = .ok (.iload 5, 2) := by decide +kernel
theorem dk_Planner_widths_59 : decode prog_7_method_13_code 59 = .ok (.ldc 69, 2) := by decide +kernel
theorem dk_Planner_widths_61 : decode prog_7_method_13_code 61 = .ok (.if_icmp .eq 7, 3) := by decide +kernel
theorem dk_Planner_widths_64 : decode prog_7_method_13_code 64 = .ok (.iconst 1, 1) := by decide +kernel
theorem dk_Planner_widths_65 : decode prog_7_method_13_code 65 = .ok (.goto 4, 3) := by decide +kernel
theorem dk_Planner_widths_68 : decode prog_7_method_13_code 68 = .ok (.iconst 0, 1) := by decide +kernel
theorem dk_Planner_widths_69 : decode prog_7_method_13_code 69 = .ok (.istore 6, 2) := by decide +kernel
theorem dk_Planner_widths_71 : decode prog_7_method_13_code 71 = .ok (.iload_n 1, 1) := by decide +kernel
theorem dk_Planner_widths_72 : decode prog_7_method_13_code 72 = .ok (.iload 6, 2) := by decide +kernel
theorem dk_Planner_widths_74 : decode prog_7_method_13_code 74 = .ok (.ifCond .eq 17, 3) := by decide +kernel
theorem dk_Planner_widths_77 : decode prog_7_method_13_code 77 = .ok (.iload 4, 2) := by decide +kernel
theorem dk_Planner_widths_79 : decode prog_7_method_13_code 79 = .ok (.iload 5, 2) := by decide +kernel
theorem dk_Planner_widths_81 : decode prog_7_method_13_code 81 = .ok (.iadd, 1) := by decide +kernel
theorem dk_Planner_widths_82 : decode prog_7_method_13_code 82 = .ok (.sipush 9999, 3) := by decide +kernel
theorem dk_Planner_widths_85 : decode prog_7_method_13_code 85 = .ok (.invokestatic 37, 3) := by decide +kernel
theorem dk_Planner_widths_88 : decode prog_7_method_13_code 88 = .ok (.goto 6, 3) := by decide +kernel
theorem dk_Planner_widths_91 : decode prog_7_method_13_code 91 = .ok (.sipush 9999, 3) := by decide +kernel
theorem dk_Planner_widths_94 : decode prog_7_method_13_code 94 = .ok (.iadd, 1) := by decide +kernel
theorem dk_Planner_widths_95 : decode prog_7_method_13_code 95 = .ok (.istore_n 1, 1) := by decide +kernel
theorem dk_Planner_widths_96 : decode prog_7_method_13_code 96 = .ok (.iinc 3 1, 3) := by decide +kernel
theorem dk_Planner_widths_99 : decode prog_7_method_13_code 99 = .ok (.goto (-83), 3) := by decide +kernel
theorem dk_Planner_widths_102 : decode prog_7_method_13_code 102 = .ok (.iinc 2 1, 3) := by decide +kernel
theorem dk_Planner_widths_105 : decode prog_7_method_13_code 105 = .ok (.goto (-101), 3) := by decide +kernel
theorem dk_Planner_widths_108 : decode prog_7_method_13_code 108 = .ok (.iload_n 1, 1) := by decide +kernel
theorem dk_Planner_widths_109 : decode prog_7_method_13_code 109 = .ok (.ireturn, 1) := by decide +kernel
noncomputable def fj_Planner_widths_94 (x5 : Int32) (x6 : Int32) (x13 : Int32) : Option ((Int32 × Int32) ⊕ Int32) :=
  kv_let (x5 + x13) (fun v14 =>
  some (.inl (v14, (x6 + (1 : Int32)))))
noncomputable def fj_Planner_widths_69 (x5 : Int32) (x6 : Int32) (v9 : Int32) (v11 : Int32) (x12 : Int32) : Option ((Int32 × Int32) ⊕ Int32) :=
  if x12 = 0 then
    fj_Planner_widths_94 x5 x6 (9999 : Int32)
  else
    fj_Planner_widths_94 x5 x6 (if (9999 : Int32) < (v9 + v11) then (9999 : Int32) else (v9 + v11))
noncomputable def fj_Planner_widths_68 (x5 : Int32) (x6 : Int32) (v9 : Int32) (v11 : Int32) : Option ((Int32 × Int32) ⊕ Int32) :=
  fj_Planner_widths_69 x5 x6 v9 v11 (0 : Int32)
noncomputable def fb_Planner_widths_16 (c : (Nat → Nat → Int32)) (x2 : Int32) (x5 : Int32) (x6 : Int32) : Option ((Int32 × Int32) ⊕ Int32) :=
  if (c 77 7) ≤ x6 then
    some (.inr x5)
  else
    kv_gd (kv_in ((x2 * (10 : Int32)) + x6) 100) (
    kv_let (c 79 ((x2 * (10 : Int32)) + x6).toNatClampNeg) (fun v9 =>
    kv_gd (kv_in ((x6 * (10 : Int32)) + x2) 100) (
    kv_let (c 79 ((x6 * (10 : Int32)) + x2).toNatClampNeg) (fun v11 =>
    if v9 = (2147483647 : Int32) then
      fj_Planner_widths_68 x5 x6 v9 v11
    else
      if v11 = (2147483647 : Int32) then
        fj_Planner_widths_68 x5 x6 v9 v11
      else
        fj_Planner_widths_69 x5 x6 v9 v11 (1 : Int32)))))
noncomputable def fb_Planner_widths_4 (c : (Nat → Nat → Int32)) (x1 : Int32) (x2 : Int32) : Option ((Int32 × Int32) ⊕ Int32) :=
  if (c 77 7) ≤ x2 then
    some (.inr x1)
  else
    kv_let (x2 + (1 : Int32)) (fun v4 =>
    (kv_loop (kv_u2 (fb_Planner_widths_16 c x2)) (x1, v4)).bind (kv_u1 (fun x7 =>
    some (.inl (x7, (x2 + (1 : Int32)))))))
noncomputable def fx_Planner_widths (c : (Nat → Nat → Int32)) : Option Int32 :=
  (kv_loop (kv_u2 (fb_Planner_widths_4 c)) ((0 : Int32), (0 : Int32))).bind (kv_u1 (fun x3 =>
  some x3))
set_option maxRecDepth 20000 in
theorem cx_Planner_widths (d : Nat) (c : (Nat → Nat → Int32)) (y : (Nat → Nat → Int32) × (Nat → Int64) × (Nat → Int64)) : ∀ a, fx_Planner_widths c = some a → kv_C kM_Planner_widths (d + 1) [.ref 77] (c, y) (some (.int a), (c, y)) := by
  refine kv_entryX (E := fun a : Int32 => (some (.int a), (c, y))) rfl (Nat.le_of_ble_eq_true rfl) (fun o => ?_)
  unfold fx_Planner_widths
  show kv_X _ _ _ _ _ 0 [(0, .ref 77)] [] (c, y)
  refine kv_iconst (pc := 0) (v := (0 : Int32)) dk_Planner_widths_0 kki_0 ?_
  refine kv_istore_n (pc := 1) (lv' := [(1, .int (0 : Int32)), (0, .ref 77)]) rfl (Nat.le_of_ble_eq_true rfl) rfl dk_Planner_widths_1 ?_
  refine kv_iconst (pc := 2) (v := (0 : Int32)) dk_Planner_widths_2 kki_0 ?_
  refine kv_istore_n (pc := 3) (lv' := [(2, .int (0 : Int32)), (1, .int (0 : Int32)), (0, .ref 77)]) rfl (Nat.le_of_ble_eq_true rfl) rfl dk_Planner_widths_3 ?_
  refine kv_sub (lv' := [(0, .ref 77), (1, .int (0 : Int32)), (2, .int (0 : Int32))]) [2, 1, 0] rfl ?_
  refine kv_lp_2_1 (LV := fun x1 x2 => [(0, .ref 77), (1, .int x1), (2, .int x2)]) (WW := fun x1 x2 => (c, y)) (LE1 := fun x3 => [(1, .int x3)]) (WE1 := fun x3 => (c, y)) (pe1 := 108) ?_ ?_
  · intro x3
    show kv_X _ _ _ _ _ 108 [(1, .int x3)] [] (c, y)
    refine kv_iload_n (pc := 108) 0 rfl rfl dk_Planner_widths_108 ?_
    exact kv_iret (pc := 109) (fun h => h) rfl dk_Planner_widths_109
  · intro hx4_0 x1 x2
    show kv_X _ _ _ _ (fb_Planner_widths_4 c x1 x2) 4 [(0, .ref 77), (1, .int x1), (2, .int x2)] [] (c, y)
    unfold fb_Planner_widths_4
    refine kv_iload_n (pc := 4) 2 rfl rfl dk_Planner_widths_4 ?_
    refine kv_aload_n (pc := 5) 0 rfl rfl dk_Planner_widths_5 ?_
    refine kv_getC (pc := 6) kf_Planner_51 kr_77 kn_77 rfl dk_Planner_widths_6 ?_
    refine kv_icmp_ge (pc := 9) (tgt := 108) dk_Planner_widths_9 rfl ?_ ?_
    · exact kv_sub [1] rfl (kv_leaf (hx4_0 _))
    · refine kv_iload_n (pc := 12) 2 rfl rfl dk_Planner_widths_12 ?_
      refine kv_iconst (pc := 13) (v := (1 : Int32)) dk_Planner_widths_13 kki_1 ?_
      refine kv_iadd (pc := 14) dk_Planner_widths_14 ?_
      refine kv_letI (fun v4 => ?_)
      refine kv_istore_n (pc := 15) (lv' := [(3, .int v4), (0, .ref 77), (1, .int x1), (2, .int x2)]) rfl (Nat.le_of_ble_eq_true rfl) rfl dk_Planner_widths_15 ?_
      refine kv_sub (lv' := [(0, .ref 77), (1, .int x1), (2, .int x2), (3, .int v4)]) [1, 2, 3, 0] rfl ?_
      refine kv_lp_2_1 (LV := fun x5 x6 => [(0, .ref 77), (1, .int x5), (2, .int x2), (3, .int x6)]) (WW := fun x5 x6 => (c, y)) (LE1 := fun x7 => [(0, .ref 77), (1, .int x7), (2, .int x2)]) (WE1 := fun x7 => (c, y)) (pe1 := 102) ?_ ?_
      · intro x7
        show kv_X _ _ _ _ _ 102 [(0, .ref 77), (1, .int x7), (2, .int x2)] [] (c, y)
        refine kv_iinc (pc := 102) (kk := (1 : Int32)) (lv' := [(2, .int (x2 + (1 : Int32))), (0, .ref 77), (1, .int x7)]) 2 rfl kki_1 rfl (Nat.le_of_ble_eq_true rfl) dk_Planner_widths_102 ?_
        refine kv_goto (pc := 105) (tgt := 4) dk_Planner_widths_105 rfl ?_
        exact kv_sub [1, 2, 0] rfl (kv_leaf (fun h => h))
      · intro hx16_0 x5 x6
        show kv_X _ _ _ _ (fb_Planner_widths_16 c x2 x5 x6) 16 [(0, .ref 77), (1, .int x5), (2, .int x2), (3, .int x6)] [] (c, y)
        unfold fb_Planner_widths_16
        refine kv_iload_n (pc := 16) 3 rfl rfl dk_Planner_widths_16 ?_
        refine kv_aload_n (pc := 17) 0 rfl rfl dk_Planner_widths_17 ?_
        refine kv_getC (pc := 18) kf_Planner_51 kr_77 kn_77 rfl dk_Planner_widths_18 ?_
        refine kv_icmp_ge (pc := 21) (tgt := 102) dk_Planner_widths_21 rfl ?_ ?_
        · exact kv_sub [0, 1, 2] rfl (kv_leaf (hx16_0 _))
        · refine kv_aload_n (pc := 24) 0 rfl rfl dk_Planner_widths_24 ?_
          refine kv_getR (pc := 25) kf_Planner_15 kr_77 rfl kt_77_1 dk_Planner_widths_25 ?_
          refine kv_iload_n (pc := 28) 2 rfl rfl dk_Planner_widths_28 ?_
          refine kv_bipush (pc := 29) (v := (10 : Int32)) dk_Planner_widths_29 kkb_10 ?_
          refine kv_imul (pc := 31) dk_Planner_widths_31 ?_
          refine kv_iload_n (pc := 32) 3 rfl rfl dk_Planner_widths_32 ?_
          refine kv_iadd (pc := 33) dk_Planner_widths_33 ?_
          refine kv_guard (fun g8 => ?_)
          refine kv_aldC (pc := 34) kr_79 kn_79 kl_79 g8 rfl dk_Planner_widths_34 ?_
          refine kv_letI (fun v9 => ?_)
          refine kv_istore (pc := 35) (lv' := [(4, .int v9), (0, .ref 77), (1, .int x5), (2, .int x2), (3, .int x6)]) rfl (Nat.le_of_ble_eq_true rfl) dk_Planner_widths_35 ?_
          refine kv_aload_n (pc := 37) 1 rfl rfl dk_Planner_widths_37 ?_
          refine kv_getR (pc := 38) kf_Planner_15 kr_77 rfl kt_77_1 dk_Planner_widths_38 ?_
          refine kv_iload_n (pc := 41) 4 rfl rfl dk_Planner_widths_41 ?_
          refine kv_bipush (pc := 42) (v := (10 : Int32)) dk_Planner_widths_42 kkb_10 ?_
          refine kv_imul (pc := 44) dk_Planner_widths_44 ?_
          refine kv_iload_n (pc := 45) 3 rfl rfl dk_Planner_widths_45 ?_
          refine kv_iadd (pc := 46) dk_Planner_widths_46 ?_
          refine kv_guard (fun g10 => ?_)
          refine kv_aldC (pc := 47) kr_79 kn_79 kl_79 g10 rfl dk_Planner_widths_47 ?_
          refine kv_letI (fun v11 => ?_)
          refine kv_istore (pc := 48) (lv' := [(5, .int v11), (4, .int v9), (0, .ref 77), (1, .int x5), (2, .int x2), (3, .int x6)]) rfl (Nat.le_of_ble_eq_true rfl) dk_Planner_widths_48 ?_
          refine kv_iload (pc := 50) 1 rfl dk_Planner_widths_50 ?_
          refine kv_ldc (pc := 52) (v := (2147483647 : Int32)) kw_999 dk_Planner_widths_52 ?_
          refine kv_cut_1 (J := fj_Planner_widths_69 x5 x6 v9 v11) (pcj := 69) (LJ := fun x12 => [(0, .ref 77), (1, .int x5), (2, .int x2), (3, .int x6), (4, .int v9), (5, .int v11)]) (SJ := fun x12 => [.int x12]) (WJ := fun x12 => (c, y)) ?_ (fun hj69 => ?_)
          · intro x12
            show kv_X _ _ _ _ (fj_Planner_widths_69 x5 x6 v9 v11 x12) 69 [(0, .ref 77), (1, .int x5), (2, .int x2), (3, .int x6), (4, .int v9), (5, .int v11)] [.int x12] (c, y)
            unfold fj_Planner_widths_69
            refine kv_istore (pc := 69) (lv' := [(6, .int x12), (0, .ref 77), (1, .int x5), (2, .int x2), (3, .int x6), (4, .int v9), (5, .int v11)]) rfl (Nat.le_of_ble_eq_true rfl) dk_Planner_widths_69 ?_
            refine kv_iload_n (pc := 71) 2 rfl rfl dk_Planner_widths_71 ?_
            refine kv_iload (pc := 72) 0 rfl dk_Planner_widths_72 ?_
            refine kv_cut_1 (J := fj_Planner_widths_94 x5 x6) (pcj := 94) (LJ := fun x13 => [(0, .ref 77), (2, .int x2), (3, .int x6)]) (SJ := fun x13 => [.int x13, .int x5]) (WJ := fun x13 => (c, y)) ?_ (fun hj94 => ?_)
            · intro x13
              show kv_X _ _ _ _ (fj_Planner_widths_94 x5 x6 x13) 94 [(0, .ref 77), (2, .int x2), (3, .int x6)] [.int x13, .int x5] (c, y)
              unfold fj_Planner_widths_94
              refine kv_iadd (pc := 94) dk_Planner_widths_94 ?_
              refine kv_letI (fun v14 => ?_)
              refine kv_istore_n (pc := 95) (lv' := [(1, .int v14), (0, .ref 77), (2, .int x2), (3, .int x6)]) rfl (Nat.le_of_ble_eq_true rfl) rfl dk_Planner_widths_95 ?_
              refine kv_iinc (pc := 96) (kk := (1 : Int32)) (lv' := [(3, .int (x6 + (1 : Int32))), (1, .int v14), (0, .ref 77), (2, .int x2)]) 3 rfl kki_1 rfl (Nat.le_of_ble_eq_true rfl) dk_Planner_widths_96 ?_
              refine kv_goto (pc := 99) (tgt := 16) dk_Planner_widths_99 rfl ?_
              exact kv_sub [2, 1, 3, 0] rfl (kv_leaf (fun h => h))
            refine kv_if_eq (pc := 74) (tgt := 91) dk_Planner_widths_74 rfl ?_ ?_
            · refine kv_sipush (pc := 91) (v := (9999 : Int32)) dk_Planner_widths_91 kks_9999 ?_
              exact kv_sub [1, 3, 4] rfl (hj94 (9999 : Int32))
            · refine kv_iload (pc := 77) 5 rfl dk_Planner_widths_77 ?_
              refine kv_iload (pc := 79) 6 rfl dk_Planner_widths_79 ?_
              refine kv_iadd (pc := 81) dk_Planner_widths_81 ?_
              refine kv_sipush (pc := 82) (v := (9999 : Int32)) dk_Planner_widths_82 kks_9999 ?_
              refine kv_mmin (pc := 85) kw_994 kw_980 kw_84 kv_wmmin (Nat.le_of_ble_eq_true rfl) dk_Planner_widths_85 ?_
              refine kv_goto (pc := 88) (tgt := 94) dk_Planner_widths_88 rfl ?_
              exact kv_sub [1, 3, 4] rfl (hj94 (if (9999 : Int32) < (v9 + v11) then (9999 : Int32) else (v9 + v11)))
          refine kv_cut_0 (J := fj_Planner_widths_68 x5 x6 v9 v11) (pcj := 68) (LJ := [(0, .ref 77), (1, .int x5), (2, .int x2), (3, .int x6), (4, .int v9), (5, .int v11)]) (SJ := []) (WJ := (c, y)) ?_ (fun hj68 => ?_)
          · show kv_X _ _ _ _ (fj_Planner_widths_68 x5 x6 v9 v11) 68 [(0, .ref 77), (1, .int x5), (2, .int x2), (3, .int x6), (4, .int v9), (5, .int v11)] [] (c, y)
            unfold fj_Planner_widths_68
            refine kv_iconst (pc := 68) (v := (0 : Int32)) dk_Planner_widths_68 kki_0 ?_
            exact hj69 (0 : Int32)
          refine kv_icmp_eq (pc := 54) (tgt := 68) dk_Planner_widths_54 rfl ?_ ?_
          · exact kv_sub [2, 3, 4, 5, 1, 0] rfl (hj68)
          · refine kv_iload (pc := 57) 0 rfl dk_Planner_widths_57 ?_
            refine kv_ldc (pc := 59) (v := (2147483647 : Int32)) kw_999 dk_Planner_widths_59 ?_
            refine kv_icmp_eq (pc := 61) (tgt := 68) dk_Planner_widths_61 rfl ?_ ?_
            · exact kv_sub [2, 3, 4, 5, 1, 0] rfl (hj68)
            · refine kv_iconst (pc := 64) (v := (1 : Int32)) dk_Planner_widths_64 kki_1 ?_
              refine kv_goto (pc := 65) (tgt := 69) dk_Planner_widths_65 rfl ?_
              exact kv_sub [2, 3, 4, 5, 1, 0] rfl (hj69 (1 : Int32))
theorem dk_Planner_judge_0 : decode prog_7_method_12_code 0 = .ok (.aload_n 0, 1) := by decide +kernel
theorem dk_Planner_judge_1 : decode prog_7_method_12_code 1 = .ok (.invokevirtual 150, 3) := by decide +kernel
theorem dk_Planner_judge_4 : decode prog_7_method_12_code 4 = .ok (.istore_n 2, 1) := by decide +kernel
theorem dk_Planner_judge_5 : decode prog_7_method_12_code 5 = .ok (.iload_n 1, 1) := by decide +kernel
theorem dk_Planner_judge_6 : decode prog_7_method_12_code 6 = .ok (.invokestatic 136, 3) := by decide +kernel
theorem dk_Planner_judge_9 : decode prog_7_method_12_code 9 = .ok (.istore_n 3, 1) := by decide +kernel
theorem dk_Planner_judge_10 : decode prog_7_method_12_code 10 = .ok (.iload_n 2, 1) := by decide +kernel
theorem dk_Planner_judge_11 : decode prog_7_method_12_code 11 = .ok (.aload_n 0, 1) := by decide +kernel
theorem dk_Planner_judge_12 : decode prog_7_method_12_code 12 = .ok (.getfield 113, 3) := by decide +kernel
theorem dk_Planner_judge_15 : decode prog_7_method_12_code 15 = .ok (.if_icmp .lt 19, 3) := by decide +kernel
theorem dk_Planner_judge_18 : decode prog_7_method_12_code 18 = .ok (.iload_n 2, 1) := by decide +kernel
theorem dk_Planner_judge_19 : decode prog_7_method_12_code 19 = .ok (.aload_n 0, 1) := by decide +kernel
theorem dk_Planner_judge_20 : decode prog_7_method_12_code 20 = .ok (.getfield 113, 3) := by decide +kernel
theorem dk_Planner_judge_23 : decode prog_7_method_12_code 23 = .ok (.if_icmp .ne 26, 3) := by decide +kernel
theorem dk_Planner_judge_26 : decode prog_7_method_12_code 26 = .ok (.iload_n 3, 1) := by decide +kernel
theorem dk_Planner_judge_27 : decode prog_7_method_12_code 27 = .ok (.aload_n 0, 1) := by decide +kernel
theorem dk_Planner_judge_28 : decode prog_7_method_12_code 28 = .ok (.getfield 116, 3) := by decide +kernel
theorem dk_Planner_judge_31 : decode prog_7_method_12_code 31 = .ok (.if_icmp .ge 18, 3) := by decide +kernel
theorem dk_Planner_judge_34 : decode prog_7_method_12_code 34 = .ok (.aload_n 0, 1) := by decide +kernel
theorem dk_Planner_judge_35 : decode prog_7_method_12_code 35 = .ok (.iload_n 2, 1) := by decide +kernel
theorem dk_Planner_judge_36 : decode prog_7_method_12_code 36 = .ok (.putfield 113, 3) := by decide +kernel
theorem dk_Planner_judge_39 : decode prog_7_method_12_code 39 = .ok (.aload_n 0, 1) := by decide +kernel
theorem dk_Planner_judge_40 : decode prog_7_method_12_code 40 = .ok (.iload_n 3, 1) := by decide +kernel
theorem dk_Planner_judge_41 : decode prog_7_method_12_code 41 = .ok (.putfield 116, 3) := by decide +kernel
theorem dk_Planner_judge_44 : decode prog_7_method_12_code 44 = .ok (.aload_n 0, 1) := by decide +kernel
theorem dk_Planner_judge_45 : decode prog_7_method_12_code 45 = .ok (.iload_n 1, 1) := by decide +kernel
theorem dk_Planner_judge_46 : decode prog_7_method_12_code 46 = .ok (.putfield 119, 3) := by decide +kernel
theorem dk_Planner_judge_49 : decode prog_7_method_12_code 49 = .ok (.return_, 1) := by decide +kernel
noncomputable def fj_Planner_judge_34 (c : (Nat → Nat → Int32)) (v1 : Int32) (v2 : Int32) (p1 : Int32) : Option (Nat → Nat → Int32) :=
  kv_let (kv_st c 77 10 v1) (fun c3 =>
  kv_let (kv_st c3 77 11 v2) (fun c4 =>
  kv_let (kv_st c4 77 12 p1) (fun c5 =>
  some c5)))
noncomputable def fx_Planner_judge (p1 : Int32) (c : (Nat → Nat → Int32)) : Option (Nat → Nat → Int32) :=
  kv_bind1 (fx_Planner_widths c) (fun v1 =>
  kv_bind1 (fx_Int_bitCount p1) (fun v2 =>
  if v1 < (c 77 10) then
    fj_Planner_judge_34 c v1 v2 p1
  else
    if v1 = (c 77 10) then
      if (c 77 11) ≤ v2 then
        some c
      else
        fj_Planner_judge_34 c v1 v2 p1
    else
      some c))
set_option maxRecDepth 20000 in
theorem cx_Planner_judge (d : Nat) (p1 : Int32) (c : (Nat → Nat → Int32)) (y : (Nat → Nat → Int32) × (Nat → Int64) × (Nat → Int64)) : ∀ a, fx_Planner_judge p1 c = some a → kv_C kM_Planner_judge (d + 2) [.ref 77, .int p1] (c, y) (none, (a, y)) := by
  refine kv_entryX (E := fun a : (Nat → Nat → Int32) => (none, (a, y))) rfl (Nat.le_of_ble_eq_true rfl) (fun o => ?_)
  unfold fx_Planner_judge
  show kv_X _ _ _ _ _ 0 [(0, .ref 77), (1, .int p1)] [] (c, y)
  refine kv_aload_n (pc := 0) 0 rfl rfl dk_Planner_judge_0 ?_
  refine kv_cV_cI (pc := 1) (as := []) (st := []) ko_Planner_widths kc_5 rfl rfl kr_77 kw_1042 (Nat.le_of_ble_eq_true rfl) rfl dk_Planner_judge_1 (cx_Planner_widths d c y) (fun v1 => ?_)
  refine kv_istore_n (pc := 4) (lv' := [(2, .int v1), (0, .ref 77), (1, .int p1)]) rfl (Nat.le_of_ble_eq_true rfl) rfl dk_Planner_judge_4 ?_
  refine kv_iload_n (pc := 5) 2 rfl rfl dk_Planner_judge_5 ?_
  refine kv_cS_cI (pc := 6) (as := [.int p1]) (st := []) ko_Int_bitCount rfl kw_1028 (Nat.le_of_ble_eq_true rfl) rfl dk_Planner_judge_6 (cx_Int_bitCount (d + 1) p1 c y) (fun v2 => ?_)
  refine kv_istore_n (pc := 9) (lv' := [(3, .int v2), (2, .int v1), (0, .ref 77), (1, .int p1)]) rfl (Nat.le_of_ble_eq_true rfl) rfl dk_Planner_judge_9 ?_
  refine kv_iload_n (pc := 10) 1 rfl rfl dk_Planner_judge_10 ?_
  refine kv_aload_n (pc := 11) 2 rfl rfl dk_Planner_judge_11 ?_
  refine kv_getC (pc := 12) kf_Planner_113 kr_77 kn_77 rfl dk_Planner_judge_12 ?_
  refine kv_cut_0 (J := fj_Planner_judge_34 c v1 v2 p1) (pcj := 34) (LJ := [(0, .ref 77), (1, .int p1), (2, .int v1), (3, .int v2)]) (SJ := []) (WJ := (c, y)) ?_ (fun hj34 => ?_)
  · show kv_X _ _ _ _ (fj_Planner_judge_34 c v1 v2 p1) 34 [(0, .ref 77), (1, .int p1), (2, .int v1), (3, .int v2)] [] (c, y)
    unfold fj_Planner_judge_34
    refine kv_aload_n (pc := 34) 0 rfl rfl dk_Planner_judge_34 ?_
    refine kv_iload_n (pc := 35) 2 rfl rfl dk_Planner_judge_35 ?_
    refine kv_putC (pc := 36) kf_Planner_113 kr_77 kn_77 rfl rfl rfl dk_Planner_judge_36 (fun c3 => ?_)
    refine kv_aload_n (pc := 39) 0 rfl rfl dk_Planner_judge_39 ?_
    refine kv_iload_n (pc := 40) 3 rfl rfl dk_Planner_judge_40 ?_
    refine kv_putC (pc := 41) kf_Planner_116 kr_77 kn_77 rfl rfl rfl dk_Planner_judge_41 (fun c4 => ?_)
    refine kv_aload_n (pc := 44) 0 rfl rfl dk_Planner_judge_44 ?_
    refine kv_iload_n (pc := 45) 1 rfl rfl dk_Planner_judge_45 ?_
    refine kv_putC (pc := 46) kf_Planner_119 kr_77 kn_77 rfl rfl rfl dk_Planner_judge_46 (fun c5 => ?_)
    exact kv_vret (pc := 49) (fun h => h) rfl dk_Planner_judge_49
  refine kv_icmp_lt (pc := 15) (tgt := 34) dk_Planner_judge_15 rfl ?_ ?_
  · exact kv_sub [2, 3, 1, 0] rfl (hj34)
  · refine kv_iload_n (pc := 18) 1 rfl rfl dk_Planner_judge_18 ?_
    refine kv_aload_n (pc := 19) 2 rfl rfl dk_Planner_judge_19 ?_
    refine kv_getC (pc := 20) kf_Planner_113 kr_77 kn_77 rfl dk_Planner_judge_20 ?_
    refine kv_icmp_ne (pc := 23) (tgt := 49) dk_Planner_judge_23 rfl ?_ ?_
    · exact kv_vret (pc := 49) (fun h => h) rfl dk_Planner_judge_49
    · refine kv_iload_n (pc := 26) 0 rfl rfl dk_Planner_judge_26 ?_
      refine kv_aload_n (pc := 27) 2 rfl rfl dk_Planner_judge_27 ?_
      refine kv_getC (pc := 28) kf_Planner_116 kr_77 kn_77 rfl dk_Planner_judge_28 ?_
      refine kv_icmp_ge (pc := 31) (tgt := 49) dk_Planner_judge_31 rfl ?_ ?_
      · exact kv_vret (pc := 49) (fun h => h) rfl dk_Planner_judge_49
      · exact kv_sub [2, 3, 1, 0] rfl (hj34)
theorem dk_Planner_choose_0 : decode prog_7_method_7_code 0 = .ok (.aload_n 0, 1) := by decide +kernel
theorem dk_Planner_choose_1 : decode prog_7_method_7_code 1 = .ok (.ldc 69, 2) := by decide +kernel
theorem dk_Planner_choose_3 : decode prog_7_method_7_code 3 = .ok (.putfield 113, 3) := by decide +kernel
theorem dk_Planner_choose_6 : decode prog_7_method_7_code 6 = .ok (.aload_n 0, 1) := by decide +kernel
theorem dk_Planner_choose_7 : decode prog_7_method_7_code 7 = .ok (.iconst 0, 1) := by decide +kernel
theorem dk_Planner_choose_8 : decode prog_7_method_7_code 8 = .ok (.putfield 116, 3) := by decide +kernel
theorem dk_Planner_choose_11 : decode prog_7_method_7_code 11 = .ok (.aload_n 0, 1) := by decide +kernel
theorem dk_Planner_choose_12 : decode prog_7_method_7_code 12 = .ok (.iconst 0, 1) := by decide +kernel
theorem dk_Planner_choose_13 : decode prog_7_method_7_code 13 = .ok (.putfield 119, 3) := by decide +kernel
theorem dk_Planner_choose_16 : decode prog_7_method_7_code 16 = .ok (.iconst 0, 1) := by decide +kernel
theorem dk_Planner_choose_17 : decode prog_7_method_7_code 17 = .ok (.istore_n 1, 1) := by decide +kernel
theorem dk_Planner_choose_18 : decode prog_7_method_7_code 18 = .ok (.iload_n 1, 1) := by decide +kernel
theorem dk_Planner_choose_19 : decode prog_7_method_7_code 19 = .ok (.iconst 1, 1) := by decide +kernel
theorem dk_Planner_choose_20 : decode prog_7_method_7_code 20 = .ok (.aload_n 0, 1) := by decide +kernel
theorem dk_Planner_choose_21 : decode prog_7_method_7_code 21 = .ok (.getfield 43, 3) := by decide +kernel
theorem dk_Planner_choose_24 : decode prog_7_method_7_code 24 = .ok (.ishl, 1) := by decide +kernel
theorem dk_Planner_choose_25 : decode prog_7_method_7_code 25 = .ok (.if_icmp .ge 30, 3) := by decide +kernel
theorem dk_Planner_choose_28 : decode prog_7_method_7_code 28 = .ok (.aload_n 0, 1) := by decide +kernel
theorem dk_Planner_choose_29 : decode prog_7_method_7_code 29 = .ok (.iload_n 1, 1) := by decide +kernel
theorem dk_Planner_choose_30 : decode prog_7_method_7_code 30 = .ok (.invokevirtual 122, 3) := by decide +kernel
theorem dk_Planner_choose_33 : decode prog_7_method_7_code 33 = .ok (.ifCond .eq 16, 3) := by decide +kernel
theorem dk_Planner_choose_36 : decode prog_7_method_7_code 36 = .ok (.aload_n 0, 1) := by decide +kernel
theorem dk_Planner_choose_37 : decode prog_7_method_7_code 37 = .ok (.iload_n 1, 1) := by decide +kernel
theorem dk_Planner_choose_38 : decode prog_7_method_7_code 38 = .ok (.invokevirtual 126, 3) := by decide +kernel
theorem dk_Planner_choose_41 : decode prog_7_method_7_code 41 = .ok (.ifCond .eq 8, 3) := by decide +kernel
theorem dk_Planner_choose_44 : decode prog_7_method_7_code 44 = .ok (.aload_n 0, 1) := by decide +kernel
theorem dk_Planner_choose_45 : decode prog_7_method_7_code 45 = .ok (.iload_n 1, 1) := by decide +kernel
theorem dk_Planner_choose_46 : decode prog_7_method_7_code 46 = .ok (.invokevirtual 129, 3) := by decide +kernel
theorem dk_Planner_choose_49 : decode prog_7_method_7_code 49 = .ok (.iinc 1 1, 3) := by decide +kernel
theorem dk_Planner_choose_52 : decode prog_7_method_7_code 52 = .ok (.goto (-34), 3) := by decide +kernel
theorem dk_Planner_choose_55 : decode prog_7_method_7_code 55 = .ok (.return_, 1) := by decide +kernel
noncomputable def fj_Planner_choose_49 (x4 : Int32) (c8 : (Nat → Nat → Int32)) : Option ((Int32 × (Nat → Nat → Int32)) ⊕ (Nat → Nat → Int32)) :=
  some (.inl ((x4 + (1 : Int32)), c8))
noncomputable def fb_Planner_choose_18 (x4 : Int32) (c5 : (Nat → Nat → Int32)) : Option ((Int32 × (Nat → Nat → Int32)) ⊕ (Nat → Nat → Int32)) :=
  if ((1 : Int32) <<< ((c5 77 6) &&& 31)) ≤ x4 then
    some (.inr c5)
  else
    kv_bind1 (fx_Planner_isAllowed x4 c5) (fun b7 =>
    if b7 = true then
      kv_bind2 (fx_Planner_tries x4 c5) (fun b9 c10 =>
      if b9 = true then
        kv_bind1 (fx_Planner_judge x4 c10) (fun c11 =>
        fj_Planner_choose_49 x4 c11)
      else
        fj_Planner_choose_49 x4 c10)
    else
      fj_Planner_choose_49 x4 c5)
noncomputable def fx_Planner_choose (c : (Nat → Nat → Int32)) : Option (Nat → Nat → Int32) :=
  kv_let (kv_st c 77 10 (2147483647 : Int32)) (fun c1 =>
  kv_let (kv_st c1 77 11 (0 : Int32)) (fun c2 =>
  kv_let (kv_st c2 77 12 (0 : Int32)) (fun c3 =>
  (kv_loop (kv_u2 (fb_Planner_choose_18)) ((0 : Int32), c3)).bind (kv_u1 (fun c6 =>
  some c6)))))
set_option maxRecDepth 20000 in
theorem cx_Planner_choose (d : Nat) (c : (Nat → Nat → Int32)) (y : (Nat → Nat → Int32) × (Nat → Int64) × (Nat → Int64)) : ∀ a, fx_Planner_choose c = some a → kv_C kM_Planner_choose (d + 4) [.ref 77] (c, y) (none, (a, y)) := by
  refine kv_entryX (E := fun a : (Nat → Nat → Int32) => (none, (a, y))) rfl (Nat.le_of_ble_eq_true rfl) (fun o => ?_)
  unfold fx_Planner_choose
  show kv_X _ _ _ _ _ 0 [(0, .ref 77)] [] (c, y)
  refine kv_aload_n (pc := 0) 0 rfl rfl dk_Planner_choose_0 ?_
  refine kv_ldc (pc := 1) (v := (2147483647 : Int32)) kw_999 dk_Planner_choose_1 ?_
  refine kv_putC (pc := 3) kf_Planner_113 kr_77 kn_77 rfl rfl rfl dk_Planner_choose_3 (fun c1 => ?_)
  refine kv_aload_n (pc := 6) 0 rfl rfl dk_Planner_choose_6 ?_
  refine kv_iconst (pc := 7) (v := (0 : Int32)) dk_Planner_choose_7 kki_0 ?_
  refine kv_putC (pc := 8) kf_Planner_116 kr_77 kn_77 rfl rfl rfl dk_Planner_choose_8 (fun c2 => ?_)
  refine kv_aload_n (pc := 11) 0 rfl rfl dk_Planner_choose_11 ?_
  refine kv_iconst (pc := 12) (v := (0 : Int32)) dk_Planner_choose_12 kki_0 ?_
  refine kv_putC (pc := 13) kf_Planner_119 kr_77 kn_77 rfl rfl rfl dk_Planner_choose_13 (fun c3 => ?_)
  refine kv_iconst (pc := 16) (v := (0 : Int32)) dk_Planner_choose_16 kki_0 ?_
  refine kv_istore_n (pc := 17) (lv' := [(1, .int (0 : Int32)), (0, .ref 77)]) rfl (Nat.le_of_ble_eq_true rfl) rfl dk_Planner_choose_17 ?_
  refine kv_sub (lv' := [(0, .ref 77), (1, .int (0 : Int32))]) [1, 0] rfl ?_
  refine kv_lp_2_1 (LV := fun x4 c5 => [(0, .ref 77), (1, .int x4)]) (WW := fun x4 c5 => (c5, y)) (LE1 := fun c6 => []) (WE1 := fun c6 => (c6, y)) (pe1 := 55) ?_ ?_
  · intro c6
    show kv_X _ _ _ _ _ 55 [] [] (c6, y)
    exact kv_vret (pc := 55) (fun h => h) rfl dk_Planner_choose_55
  · intro hx18_0 x4 c5
    show kv_X _ _ _ _ (fb_Planner_choose_18 x4 c5) 18 [(0, .ref 77), (1, .int x4)] [] (c5, y)
    unfold fb_Planner_choose_18
    refine kv_iload_n (pc := 18) 1 rfl rfl dk_Planner_choose_18 ?_
    refine kv_iconst (pc := 19) (v := (1 : Int32)) dk_Planner_choose_19 kki_1 ?_
    refine kv_aload_n (pc := 20) 0 rfl rfl dk_Planner_choose_20 ?_
    refine kv_getC (pc := 21) kf_Planner_43 kr_77 kn_77 rfl dk_Planner_choose_21 ?_
    refine kv_ishl (pc := 24) dk_Planner_choose_24 ?_
    refine kv_icmp_ge (pc := 25) (tgt := 55) dk_Planner_choose_25 rfl ?_ ?_
    · exact kv_sub [] rfl (kv_leaf (hx18_0 _))
    · refine kv_aload_n (pc := 28) 0 rfl rfl dk_Planner_choose_28 ?_
      refine kv_iload_n (pc := 29) 1 rfl rfl dk_Planner_choose_29 ?_
      refine kv_cV_cZ (pc := 30) (as := [.int x4]) (st := []) ko_Planner_isAllowed kc_5 rfl rfl kr_77 kw_1020 (Nat.le_of_ble_eq_true rfl) rfl dk_Planner_choose_30 (cx_Planner_isAllowed (d + 2) x4 c5 y) (fun b7 => ?_)
      refine kv_cut_1 (J := fj_Planner_choose_49 x4) (pcj := 49) (LJ := fun c8 => [(0, .ref 77), (1, .int x4)]) (SJ := fun c8 => []) (WJ := fun c8 => (c8, y)) ?_ (fun hj49 => ?_)
      · intro c8
        show kv_X _ _ _ _ (fj_Planner_choose_49 x4 c8) 49 [(0, .ref 77), (1, .int x4)] [] (c8, y)
        unfold fj_Planner_choose_49
        refine kv_iinc (pc := 49) (kk := (1 : Int32)) (lv' := [(1, .int (x4 + (1 : Int32))), (0, .ref 77)]) 1 rfl kki_1 rfl (Nat.le_of_ble_eq_true rfl) dk_Planner_choose_49 ?_
        refine kv_goto (pc := 52) (tgt := 18) dk_Planner_choose_52 rfl ?_
        exact kv_sub [1, 0] rfl (kv_leaf (fun h => h))
      refine kv_zif_eq (pc := 33) (tgt := 49) dk_Planner_choose_33 rfl ?_ ?_
      · exact hj49 c5
      · refine kv_aload_n (pc := 36) 0 rfl rfl dk_Planner_choose_36 ?_
        refine kv_iload_n (pc := 37) 1 rfl rfl dk_Planner_choose_37 ?_
        refine kv_cV_cZc (pc := 38) (as := [.int x4]) (st := []) ko_Planner_tries kc_5 rfl rfl kr_77 kw_1029 (Nat.le_of_ble_eq_true rfl) rfl dk_Planner_choose_38 (cx_Planner_tries d x4 c5 y) (fun b9 c10 => ?_)
        refine kv_zif_eq (pc := 41) (tgt := 49) dk_Planner_choose_41 rfl ?_ ?_
        · exact hj49 c10
        · refine kv_aload_n (pc := 44) 0 rfl rfl dk_Planner_choose_44 ?_
          refine kv_iload_n (pc := 45) 1 rfl rfl dk_Planner_choose_45 ?_
          refine kv_cV_cc (pc := 46) (as := [.int x4]) (st := []) ko_Planner_judge kc_5 rfl rfl kr_77 kw_1038 (Nat.le_of_ble_eq_true rfl) rfl dk_Planner_choose_46 (cx_Planner_judge (d + 1) x4 c10 y) (fun c11 => ?_)
          exact hj49 c11
theorem dk_K_plan_0 : decode prog_1_method_29_code 0 = .ok (.iload_n 2, 1) := by decide +kernel
theorem dk_K_plan_1 : decode prog_1_method_29_code 1 = .ok (.invokestatic 149, 3) := by decide +kernel
theorem dk_K_plan_4 : decode prog_1_method_29_code 4 = .ok (.ifCond .eq 22, 3) := by decide +kernel
theorem dk_K_plan_7 : decode prog_1_method_29_code 7 = .ok (.iload_n 3, 1) := by decide +kernel
theorem dk_K_plan_8 : decode prog_1_method_29_code 8 = .ok (.iconst 0, 1) := by decide +kernel
theorem dk_K_plan_9 : decode prog_1_method_29_code 9 = .ok (.iconst 4, 1) := by decide +kernel
theorem dk_K_plan_10 : decode prog_1_method_29_code 10 = .ok (.invokestatic 54, 3) := by decide +kernel
theorem dk_K_plan_13 : decode prog_1_method_29_code 13 = .ok (.ifCond .eq 13, 3) := by decide +kernel
theorem dk_K_plan_16 : decode prog_1_method_29_code 16 = .ok (.iload 4, 2) := by decide +kernel
theorem dk_K_plan_18 : decode prog_1_method_29_code 18 = .ok (.iconst 0, 1) := by decide +kernel
theorem dk_K_plan_19 : decode prog_1_method_29_code 19 = .ok (.iconst 1, 1) := by decide +kernel
theorem dk_K_plan_20 : decode prog_1_method_29_code 20 = .ok (.invokestatic 54, 3) := by decide +kernel
theorem dk_K_plan_23 : decode prog_1_method_29_code 23 = .ok (.ifCond .ne 5, 3) := by decide +kernel
theorem dk_K_plan_26 : decode prog_1_method_29_code 26 = .ok (.iconst (-1), 1) := by decide +kernel
theorem dk_K_plan_27 : decode prog_1_method_29_code 27 = .ok (.ireturn, 1) := by decide +kernel
theorem dk_K_plan_28 : decode prog_1_method_29_code 28 = .ok (.aload_n 0, 1) := by decide +kernel
theorem dk_K_plan_29 : decode prog_1_method_29_code 29 = .ok (.iload_n 1, 1) := by decide +kernel
theorem dk_K_plan_30 : decode prog_1_method_29_code 30 = .ok (.invokevirtual 265, 3) := by decide +kernel
theorem dk_K_plan_33 : decode prog_1_method_29_code 33 = .ok (.istore 5, 2) := by decide +kernel
theorem dk_K_plan_35 : decode prog_1_method_29_code 35 = .ok (.iload 5, 2) := by decide +kernel
theorem dk_K_plan_37 : decode prog_1_method_29_code 37 = .ok (.ifCond .eq 6, 3) := by decide +kernel
theorem dk_K_plan_40 : decode prog_1_method_29_code 40 = .ok (.iload 5, 2) := by decide +kernel
theorem dk_K_plan_42 : decode prog_1_method_29_code 42 = .ok (.ireturn, 1) := by decide +kernel
theorem dk_K_plan_43 : decode prog_1_method_29_code 43 = .ok (.aload_n 0, 1) := by decide +kernel
theorem dk_K_plan_44 : decode prog_1_method_29_code 44 = .ok (.getfield 21, 3) := by decide +kernel
theorem dk_K_plan_47 : decode prog_1_method_29_code 47 = .ok (.iload_n 1, 1) := by decide +kernel
theorem dk_K_plan_48 : decode prog_1_method_29_code 48 = .ok (.aaload, 1) := by decide +kernel
theorem dk_K_plan_49 : decode prog_1_method_29_code 49 = .ok (.astore 6, 2) := by decide +kernel
theorem dk_K_plan_51 : decode prog_1_method_29_code 51 = .ok (.aload_n 0, 1) := by decide +kernel
theorem dk_K_plan_52 : decode prog_1_method_29_code 52 = .ok (.aload 6, 2) := by decide +kernel
theorem dk_K_plan_54 : decode prog_1_method_29_code 54 = .ok (.invokevirtual 332, 3) := by decide +kernel
theorem dk_K_plan_57 : decode prog_1_method_29_code 57 = .ok (.ifCond .ne 6, 3) := by decide +kernel
theorem dk_K_plan_60 : decode prog_1_method_29_code 60 = .ok (.bipush (-13), 2) := by decide +kernel
theorem dk_K_plan_62 : decode prog_1_method_29_code 62 = .ok (.ireturn, 1) := by decide +kernel
theorem dk_K_plan_63 : decode prog_1_method_29_code 63 = .ok (.aload_n 0, 1) := by decide +kernel
theorem dk_K_plan_64 : decode prog_1_method_29_code 64 = .ok (.getfield 50, 3) := by decide +kernel
theorem dk_K_plan_67 : decode prog_1_method_29_code 67 = .ok (.aload_n 0, 1) := by decide +kernel
theorem dk_K_plan_68 : decode prog_1_method_29_code 68 = .ok (.getfield 10, 3) := by decide +kernel
theorem dk_K_plan_71 : decode prog_1_method_29_code 71 = .ok (.getfield 58, 3) := by decide +kernel
theorem dk_K_plan_74 : decode prog_1_method_29_code 74 = .ok (.aload 6, 2) := by decide +kernel
theorem dk_K_plan_76 : decode prog_1_method_29_code 76 = .ok (.iload_n 2, 1) := by decide +kernel
theorem dk_K_plan_77 : decode prog_1_method_29_code 77 = .ok (.iload_n 3, 1) := by decide +kernel
theorem dk_K_plan_78 : decode prog_1_method_29_code 78 = .ok (.invokevirtual 336, 3) := by decide +kernel
theorem dk_K_plan_81 : decode prog_1_method_29_code 81 = .ok (.aload_n 0, 1) := by decide +kernel
theorem dk_K_plan_82 : decode prog_1_method_29_code 82 = .ok (.getfield 50, 3) := by decide +kernel
theorem dk_K_plan_85 : decode prog_1_method_29_code 85 = .ok (.aload_n 0, 1) := by decide +kernel
theorem dk_K_plan_86 : decode prog_1_method_29_code 86 = .ok (.getfield 10, 3) := by decide +kernel
theorem dk_K_plan_89 : decode prog_1_method_29_code 89 = .ok (.invokevirtual 340, 3) := by decide +kernel
theorem dk_K_plan_92 : decode prog_1_method_29_code 92 = .ok (.ifCond .ne 6, 3) := by decide +kernel
theorem dk_K_plan_95 : decode prog_1_method_29_code 95 = .ok (.bipush (-3), 2) := by decide +kernel
theorem dk_K_plan_97 : decode prog_1_method_29_code 97 = .ok (.ireturn, 1) := by decide +kernel
theorem dk_K_plan_98 : decode prog_1_method_29_code 98 = .ok (.aload_n 0, 1) := by decide +kernel
theorem dk_K_plan_99 : decode prog_1_method_29_code 99 = .ok (.getfield 50, 3) := by decide +kernel
theorem dk_K_plan_102 : decode prog_1_method_29_code 102 = .ok (.invokevirtual 344, 3) := by decide +kernel
theorem dk_K_plan_105 : decode prog_1_method_29_code 105 = .ok (.iload 4, 2) := by decide +kernel
theorem dk_K_plan_107 : decode prog_1_method_29_code 107 = .ok (.ifCond .ne 13, 3) := by decide +kernel
theorem dk_K_plan_110 : decode prog_1_method_29_code 110 = .ok (.aload_n 0, 1) := by decide +kernel
theorem dk_K_plan_111 : decode prog_1_method_29_code 111 = .ok (.getfield 50, 3) := by decide +kernel
theorem dk_K_plan_114 : decode prog_1_method_29_code 114 = .ok (.getfield 347, 3) := by decide +kernel
theorem dk_K_plan_117 : decode prog_1_method_29_code 117 = .ok (.goto 10, 3) := by decide +kernel
theorem dk_K_plan_120 : decode prog_1_method_29_code 120 = .ok (.aload_n 0, 1) := by decide +kernel
theorem dk_K_plan_121 : decode prog_1_method_29_code 121 = .ok (.getfield 50, 3) := by decide +kernel
theorem dk_K_plan_124 : decode prog_1_method_29_code 124 = .ok (.getfield 350, 3) := by decide +kernel
theorem dk_K_plan_127 : decode prog_1_method_29_code 127 = .ok (.ireturn, 1) := by decide +kernel
noncomputable def fx_K_plan (p1 : Int32) (p2 : Int32) (p3 : Int32) (p4 : Int32) (c : (Nat → Nat → Int32)) : Option (Int32 × (Nat → Nat → Int32)) :=
  kv_bind1 (fx_K_isDoubt p2) (fun b1 =>
  if b1 = true then
    kv_bind1 (fx_K_isWithin p3 (0 : Int32) (4 : Int32)) (fun b2 =>
    if b2 = true then
      kv_bind1 (fx_K_isWithin p4 (0 : Int32) (1 : Int32)) (fun b3 =>
      if b3 = true then
        kv_bind1 (fx_K_bytesRefusal p1 c) (fun v4 =>
        if v4 = 0 then
          kv_gd (kv_in p1 8) (
          kv_bind1 (fx_K_arePairs (kv_tg 51 p1.toNatClampNeg) c) (fun b6 =>
          if b6 = true then
            kv_bind1 (fx_Planner_tell (kv_tg 51 p1.toNatClampNeg) p2 p3 c) (fun c7 =>
            kv_bind2 (fx_Planner_learn c7) (fun b8 c9 =>
            if b8 = true then
              kv_bind1 (fx_Planner_choose c9) (fun c10 =>
              if p4 = 0 then
                some ((c10 77 12), c10)
              else
                some ((c10 77 10), c10))
            else
              some ((-3 : Int32), c9)))
          else
            some ((-13 : Int32), c)))
        else
          some (v4, c))
      else
        some ((-1 : Int32), c))
    else
      some ((-1 : Int32), c))
  else
    some ((-1 : Int32), c))
set_option maxRecDepth 20000 in
theorem cx_K_plan (d : Nat) (p1 : Int32) (p2 : Int32) (p3 : Int32) (p4 : Int32) (c : (Nat → Nat → Int32)) (y : (Nat → Nat → Int32) × (Nat → Int64) × (Nat → Int64)) : ∀ a, fx_K_plan p1 p2 p3 p4 c = some a → kv_C kM_K_plan (d + 5) [.ref 0, .int p1, .int p2, .int p3, .int p4] (c, y) (some (.int a.1), (a.2, y)) := by
  refine kv_entryX (E := fun a : (Int32 × (Nat → Nat → Int32)) => (some (.int a.1), (a.2, y))) rfl (Nat.le_of_ble_eq_true rfl) (fun o => ?_)
  unfold fx_K_plan
  show kv_X _ _ _ _ _ 0 [(0, .ref 0), (1, .int p1), (2, .int p2), (3, .int p3), (4, .int p4)] [] (c, y)
  refine kv_iload_n (pc := 0) 2 rfl rfl dk_K_plan_0 ?_
  refine kv_cS_cZ (pc := 1) (as := [.int p2]) (st := []) ko_K_isDoubt rfl kw_594 (Nat.le_of_ble_eq_true rfl) rfl dk_K_plan_1 (cx_K_isDoubt (d + 3) p2 c y) (fun b1 => ?_)
  refine kv_zif_eq (pc := 4) (tgt := 26) dk_K_plan_4 rfl ?_ ?_
  · refine kv_iconst (pc := 26) (v := (-1 : Int32)) dk_K_plan_26 kki_m1 ?_
    exact kv_iret (pc := 27) (fun h => h) rfl dk_K_plan_27
  · refine kv_iload_n (pc := 7) 3 rfl rfl dk_K_plan_7 ?_
    refine kv_iconst (pc := 8) (v := (0 : Int32)) dk_K_plan_8 kki_0 ?_
    refine kv_iconst (pc := 9) (v := (4 : Int32)) dk_K_plan_9 kki_4 ?_
    refine kv_cS_cZ (pc := 10) (as := [.int p3, .int (0 : Int32), .int (4 : Int32)]) (st := []) ko_K_isWithin rfl kw_512 (Nat.le_of_ble_eq_true rfl) rfl dk_K_plan_10 (cx_K_isWithin (d + 4) p3 (0 : Int32) (4 : Int32) c y) (fun b2 => ?_)
    refine kv_zif_eq (pc := 13) (tgt := 26) dk_K_plan_13 rfl ?_ ?_
    · refine kv_iconst (pc := 26) (v := (-1 : Int32)) dk_K_plan_26 kki_m1 ?_
      exact kv_iret (pc := 27) (fun h => h) rfl dk_K_plan_27
    · refine kv_iload (pc := 16) 4 rfl dk_K_plan_16 ?_
      refine kv_iconst (pc := 18) (v := (0 : Int32)) dk_K_plan_18 kki_0 ?_
      refine kv_iconst (pc := 19) (v := (1 : Int32)) dk_K_plan_19 kki_1 ?_
      refine kv_cS_cZ (pc := 20) (as := [.int p4, .int (0 : Int32), .int (1 : Int32)]) (st := []) ko_K_isWithin rfl kw_512 (Nat.le_of_ble_eq_true rfl) rfl dk_K_plan_20 (cx_K_isWithin (d + 4) p4 (0 : Int32) (1 : Int32) c y) (fun b3 => ?_)
      refine kv_zif_ne (pc := 23) (tgt := 28) dk_K_plan_23 rfl ?_ ?_
      · refine kv_aload_n (pc := 28) 0 rfl rfl dk_K_plan_28 ?_
        refine kv_iload_n (pc := 29) 1 rfl rfl dk_K_plan_29 ?_
        refine kv_cV_cI (pc := 30) (as := [.int p1]) (st := []) ko_K_bytesRefusal kc_10 rfl rfl kr_0 kw_841 (Nat.le_of_ble_eq_true rfl) rfl dk_K_plan_30 (cx_K_bytesRefusal (d + 1) p1 c y) (fun v4 => ?_)
        refine kv_istore (pc := 33) (lv' := [(5, .int v4), (0, .ref 0), (1, .int p1), (2, .int p2), (3, .int p3), (4, .int p4)]) rfl (Nat.le_of_ble_eq_true rfl) dk_K_plan_33 ?_
        refine kv_iload (pc := 35) 0 rfl dk_K_plan_35 ?_
        refine kv_if_eq (pc := 37) (tgt := 43) dk_K_plan_37 rfl ?_ ?_
        · refine kv_aload_n (pc := 43) 1 rfl rfl dk_K_plan_43 ?_
          refine kv_getR (pc := 44) kf_K_21 kr_0 rfl kt_0_3 dk_K_plan_44 ?_
          refine kv_iload_n (pc := 47) 2 rfl rfl dk_K_plan_47 ?_
          refine kv_guard (fun g5 => ?_)
          refine kv_aald (pc := 48) kr_51 kl_51 g5 rfl dk_K_plan_48 ?_
          refine kv_astore (pc := 49) (lv' := [(6, .ref (kv_tg 51 p1.toNatClampNeg)), (5, .int v4), (0, .ref 0), (1, .int p1), (2, .int p2), (3, .int p3), (4, .int p4)]) rfl (Nat.le_of_ble_eq_true rfl) dk_K_plan_49 ?_
          refine kv_aload_n (pc := 51) 2 rfl rfl dk_K_plan_51 ?_
          refine kv_aload (pc := 52) 0 rfl dk_K_plan_52 ?_
          refine kv_cV_cZ (pc := 54) (as := [.ref (kv_tg 51 p1.toNatClampNeg)]) (st := []) ko_K_arePairs kc_10 rfl rfl kr_0 kw_986 (Nat.le_of_ble_eq_true rfl) rfl dk_K_plan_54 (cx_K_arePairs (d + 2) (kv_tg 51 p1.toNatClampNeg) c y (kv_sh g5)) (fun b6 => ?_)
          refine kv_zif_ne (pc := 57) (tgt := 63) dk_K_plan_57 rfl ?_ ?_
          · refine kv_aload_n (pc := 63) 2 rfl rfl dk_K_plan_63 ?_
            refine kv_getR (pc := 64) kf_K_50 kr_0 rfl kt_0_7 dk_K_plan_64 ?_
            refine kv_aload_n (pc := 67) 2 rfl rfl dk_K_plan_67 ?_
            refine kv_getR (pc := 68) kf_K_10 kr_0 rfl kt_0_0 dk_K_plan_68 ?_
            refine kv_getR (pc := 71) kf_K_58 kr_1 rfl kt_1_0 dk_K_plan_71 ?_
            refine kv_aload (pc := 74) 0 rfl dk_K_plan_74 ?_
            refine kv_iload_n (pc := 76) 4 rfl rfl dk_K_plan_76 ?_
            refine kv_iload_n (pc := 77) 5 rfl rfl dk_K_plan_77 ?_
            refine kv_cV_cc (pc := 78) (as := [.ref 2, .ref (kv_tg 51 p1.toNatClampNeg), .int p2, .int p3]) (st := []) ko_Planner_tell kc_5 rfl rfl kr_77 kw_990 (Nat.le_of_ble_eq_true rfl) rfl dk_K_plan_78 (cx_Planner_tell (d + 3) (kv_tg 51 p1.toNatClampNeg) p2 p3 c y (kv_sh g5)) (fun c7 => ?_)
            refine kv_aload_n (pc := 81) 2 rfl rfl dk_K_plan_81 ?_
            refine kv_getR (pc := 82) kf_K_50 kr_0 rfl kt_0_7 dk_K_plan_82 ?_
            refine kv_aload_n (pc := 85) 2 rfl rfl dk_K_plan_85 ?_
            refine kv_getR (pc := 86) kf_K_10 kr_0 rfl kt_0_0 dk_K_plan_86 ?_
            refine kv_cV_cZc (pc := 89) (as := [.ref 1]) (st := []) ko_Planner_learn kc_5 rfl rfl kr_77 kw_995 (Nat.le_of_ble_eq_true rfl) rfl dk_K_plan_89 (cx_Planner_learn (d + 1) c7 y) (fun b8 c9 => ?_)
            refine kv_zif_ne (pc := 92) (tgt := 98) dk_K_plan_92 rfl ?_ ?_
            · refine kv_aload_n (pc := 98) 2 rfl rfl dk_K_plan_98 ?_
              refine kv_getR (pc := 99) kf_K_50 kr_0 rfl kt_0_7 dk_K_plan_99 ?_
              refine kv_cV_cc (pc := 102) (as := []) (st := []) ko_Planner_choose kc_5 rfl rfl kr_77 kw_1016 (Nat.le_of_ble_eq_true rfl) rfl dk_K_plan_102 (cx_Planner_choose d c9 y) (fun c10 => ?_)
              refine kv_iload (pc := 105) 6 rfl dk_K_plan_105 ?_
              refine kv_if_ne (pc := 107) (tgt := 120) dk_K_plan_107 rfl ?_ ?_
              · refine kv_aload_n (pc := 120) 2 rfl rfl dk_K_plan_120 ?_
                refine kv_getR (pc := 121) kf_K_50 kr_0 rfl kt_0_7 dk_K_plan_121 ?_
                refine kv_getC (pc := 124) kf_K_350 kr_77 kn_77 rfl dk_K_plan_124 ?_
                exact kv_iret (pc := 127) (fun h => h) rfl dk_K_plan_127
              · refine kv_aload_n (pc := 110) 2 rfl rfl dk_K_plan_110 ?_
                refine kv_getR (pc := 111) kf_K_50 kr_0 rfl kt_0_7 dk_K_plan_111 ?_
                refine kv_getC (pc := 114) kf_K_347 kr_77 kn_77 rfl dk_K_plan_114 ?_
                refine kv_goto (pc := 117) (tgt := 127) dk_K_plan_117 rfl ?_
                exact kv_iret (pc := 127) (fun h => h) rfl dk_K_plan_127
            · refine kv_bipush (pc := 95) (v := (-3 : Int32)) dk_K_plan_95 kkb_m3 ?_
              exact kv_iret (pc := 97) (fun h => h) rfl dk_K_plan_97
          · refine kv_bipush (pc := 60) (v := (-13 : Int32)) dk_K_plan_60 kkb_m13 ?_
            exact kv_iret (pc := 62) (fun h => h) rfl dk_K_plan_62
        · refine kv_iload (pc := 40) 0 rfl dk_K_plan_40 ?_
          exact kv_iret (pc := 42) (fun h => h) rfl dk_K_plan_42
      · refine kv_iconst (pc := 26) (v := (-1 : Int32)) dk_K_plan_26 kki_m1 ?_
        exact kv_iret (pc := 27) (fun h => h) rfl dk_K_plan_27
theorem dk_D_pairAt_0 : decode prog_13_method_79_code 0 = .ok (.aload_n 0, 1) := by decide +kernel
theorem dk_D_pairAt_1 : decode prog_13_method_79_code 1 = .ok (.getfield 25, 3) := by decide +kernel
theorem dk_D_pairAt_4 : decode prog_13_method_79_code 4 = .ok (.bipush 100, 2) := by decide +kernel
theorem dk_D_pairAt_6 : decode prog_13_method_79_code 6 = .ok (.iload_n 1, 1) := by decide +kernel
theorem dk_D_pairAt_7 : decode prog_13_method_79_code 7 = .ok (.imul, 1) := by decide +kernel
theorem dk_D_pairAt_8 : decode prog_13_method_79_code 8 = .ok (.iload_n 2, 1) := by decide +kernel
theorem dk_D_pairAt_9 : decode prog_13_method_79_code 9 = .ok (.iadd, 1) := by decide +kernel
theorem dk_D_pairAt_10 : decode prog_13_method_79_code 10 = .ok (.iaload, 1) := by decide +kernel
theorem dk_D_pairAt_11 : decode prog_13_method_79_code 11 = .ok (.ireturn, 1) := by decide +kernel
noncomputable def fx_D_pairAt (p1 : Int32) (p2 : Int32) (m : (Nat → Nat → Int32)) : Option Int32 :=
  kv_gd (kv_in (((100 : Int32) * p1) + p2) 800) (
  some (m 90 (((100 : Int32) * p1) + p2).toNatClampNeg))
set_option maxRecDepth 20000 in
theorem cx_D_pairAt (d : Nat) (p1 : Int32) (p2 : Int32) (c : (Nat → Nat → Int32)) (m : (Nat → Nat → Int32)) (f : (Nat → Int64)) (u : (Nat → Int64)) : ∀ a, fx_D_pairAt p1 p2 m = some a → kv_C kM_D_pairAt (d + 0) [.ref 84, .int p1, .int p2] (c, m, f, u) (some (.int a), (c, m, f, u)) := by
  refine kv_entryX (E := fun a : Int32 => (some (.int a), (c, m, f, u))) rfl (Nat.le_of_ble_eq_true rfl) (fun o => ?_)
  unfold fx_D_pairAt
  show kv_X _ _ _ _ _ 0 [(0, .ref 84), (1, .int p1), (2, .int p2)] [] (c, m, f, u)
  refine kv_aload_n (pc := 0) 0 rfl rfl dk_D_pairAt_0 ?_
  refine kv_getR (pc := 1) kf_D_25 kr_84 rfl kt_84_5 dk_D_pairAt_1 ?_
  refine kv_bipush (pc := 4) (v := (100 : Int32)) dk_D_pairAt_4 kkb_100 ?_
  refine kv_iload_n (pc := 6) 1 rfl rfl dk_D_pairAt_6 ?_
  refine kv_imul (pc := 7) dk_D_pairAt_7 ?_
  refine kv_iload_n (pc := 8) 2 rfl rfl dk_D_pairAt_8 ?_
  refine kv_iadd (pc := 9) dk_D_pairAt_9 ?_
  refine kv_guard (fun g1 => ?_)
  refine kv_aldM (pc := 10) kr_90 kn_90 kl_90 g1 rfl dk_D_pairAt_10 ?_
  exact kv_iret (pc := 11) (fun h => h) rfl dk_D_pairAt_11
theorem dk_D_primesIn_0 : decode prog_13_method_81_code 0 = .ok (.iconst 0, 1) := by decide +kernel
theorem dk_D_primesIn_1 : decode prog_13_method_81_code 1 = .ok (.istore_n 3, 1) := by decide +kernel
theorem dk_D_primesIn_2 : decode prog_13_method_81_code 2 = .ok (.iconst 0, 1) := by decide +kernel
theorem dk_D_primesIn_3 : decode prog_13_method_81_code 3 = .ok (.istore 4, 2) := by decide +kernel
theorem dk_D_primesIn_5 : decode prog_13_method_81_code 5 = .ok (.iload 4, 2) := by decide +kernel
theorem dk_D_primesIn_7 : decode prog_13_method_81_code 7 = .ok (.aload_n 0, 1) := by decide +kernel
theorem dk_D_primesIn_8 : decode prog_13_method_81_code 8 = .ok (.getfield 22, 3) := by decide +kernel
theorem dk_D_primesIn_11 : decode prog_13_method_81_code 11 = .ok (.iload_n 1, 1) := by decide +kernel
theorem dk_D_primesIn_12 : decode prog_13_method_81_code 12 = .ok (.iaload, 1) := by decide +kernel
theorem dk_D_primesIn_13 : decode prog_13_method_81_code 13 = .ok (.if_icmp .ge 65, 3) := by decide +kernel
theorem dk_D_primesIn_16 : decode prog_13_method_81_code 16 = .ok (.iload_n 3, 1) := by decide +kernel
theorem dk_D_primesIn_17 : decode prog_13_method_81_code 17 = .ok (.iload_n 2, 1) := by decide +kernel
theorem dk_D_primesIn_18 : decode prog_13_method_81_code 18 = .ok (.iload 4, 2) := by decide +kernel
theorem dk_D_primesIn_20 : decode prog_13_method_81_code 20 = .ok (.ishr, 1) := by decide +kernel
theorem dk_D_primesIn_21 : decode prog_13_method_81_code 21 = .ok (.iconst 1, 1) := by decide +kernel
theorem dk_D_primesIn_22 : decode prog_13_method_81_code 22 = .ok (.iand, 1) := by decide +kernel
theorem dk_D_primesIn_23 : decode prog_13_method_81_code 23 = .ok (.iconst 1, 1) := by decide +kernel
theorem dk_D_primesIn_24 : decode prog_13_method_81_code 24 = .ok (.if_icmp .ne 45, 3) := by decide +kernel
theorem dk_D_primesIn_27 : decode prog_13_method_81_code 27 = .ok (.aload_n 0, 1) := by decide +kernel
theorem dk_D_primesIn_28 : decode prog_13_method_81_code 28 = .ok (.aload_n 0, 1) := by decide +kernel
theorem dk_D_primesIn_29 : decode prog_13_method_81_code 29 = .ok (.iload_n 1, 1) := by decide +kernel
theorem dk_D_primesIn_30 : decode prog_13_method_81_code 30 = .ok (.iload 4, 2) := by decide +kernel
theorem dk_D_primesIn_32 : decode prog_13_method_81_code 32 = .ok (.invokevirtual 298, 3) := by decide +kernel
theorem dk_D_primesIn_35 : decode prog_13_method_81_code 35 = .ok (.bipush 10, 2) := by decide +kernel
theorem dk_D_primesIn_37 : decode prog_13_method_81_code 37 = .ok (.idiv, 1) := by decide +kernel
theorem dk_D_primesIn_38 : decode prog_13_method_81_code 38 = .ok (.iconst 0, 1) := by decide +kernel
theorem dk_D_primesIn_39 : decode prog_13_method_81_code 39 = .ok (.invokevirtual 68, 3) := by decide +kernel
theorem dk_D_primesIn_42 : decode prog_13_method_81_code 42 = .ok (.iconst 1, 1) := by decide +kernel
theorem dk_D_primesIn_43 : decode prog_13_method_81_code 43 = .ok (.if_icmp .eq 22, 3) := by decide +kernel
theorem dk_D_primesIn_46 : decode prog_13_method_81_code 46 = .ok (.aload_n 0, 1) := by decide +kernel
theorem dk_D_primesIn_47 : decode prog_13_method_81_code 47 = .ok (.aload_n 0, 1) := by decide +kernel
theorem dk_D_primesIn_48 : decode prog_13_method_81_code 48 = .ok (.iload_n 1, 1) := by decide +kernel
theorem dk_D_primesIn_49 : decode prog_13_method_81_code 49 = .ok (.iload 4, 2) := by decide +kernel
theorem dk_D_primesIn_51 : decode prog_13_method_81_code 51 = .ok (.invokevirtual 298, 3) := by decide +kernel
theorem dk_D_primesIn_54 : decode prog_13_method_81_code 54 = .ok (.bipush 10, 2) := by decide +kernel
theorem dk_D_primesIn_56 : decode prog_13_method_81_code 56 = .ok (.irem, 1) := by decide +kernel
theorem dk_D_primesIn_57 : decode prog_13_method_81_code 57 = .ok (.iconst 0, 1) := by decide +kernel
theorem dk_D_primesIn_58 : decode prog_13_method_81_code 58 = .ok (.invokevirtual 68, 3) := by decide +kernel
theorem dk_D_primesIn_61 : decode prog_13_method_81_code 61 = .ok (.iconst 1, 1) := by decide +kernel
theorem dk_D_primesIn_62 : decode prog_13_method_81_code 62 = .ok (.if_icmp .ne 7, 3) := by decide +kernel
theorem dk_D_primesIn_65 : decode prog_13_method_81_code 65 = .ok (.iconst 1, 1) := by decide +kernel
theorem dk_D_primesIn_66 : decode prog_13_method_81_code 66 = .ok (.goto 4, 3) := by decide +kernel
theorem dk_D_primesIn_69 : decode prog_13_method_81_code 69 = .ok (.iconst 0, 1) := by decide +kernel
theorem dk_D_primesIn_70 : decode prog_13_method_81_code 70 = .ok (.iadd, 1) := by decide +kernel
theorem dk_D_primesIn_71 : decode prog_13_method_81_code 71 = .ok (.istore_n 3, 1) := by decide +kernel
theorem dk_D_primesIn_72 : decode prog_13_method_81_code 72 = .ok (.iinc 4 1, 3) := by decide +kernel
theorem dk_D_primesIn_75 : decode prog_13_method_81_code 75 = .ok (.goto (-70), 3) := by decide +kernel
theorem dk_D_primesIn_78 : decode prog_13_method_81_code 78 = .ok (.iload_n 3, 1) := by decide +kernel
theorem dk_D_primesIn_79 : decode prog_13_method_81_code 79 = .ok (.ireturn, 1) := by decide +kernel
noncomputable def fj_D_primesIn_70 (x1 : Int32) (x2 : Int32) (x5 : Int32) : Option ((Int32 × Int32) ⊕ Int32) :=
  kv_let (x1 + x5) (fun v6 =>
  some (.inl (v6, (x2 + (1 : Int32)))))
noncomputable def fj_D_primesIn_69 (x1 : Int32) (x2 : Int32) : Option ((Int32 × Int32) ⊕ Int32) :=
  fj_D_primesIn_70 x1 x2 (0 : Int32)
noncomputable def fj_D_primesIn_65 (x1 : Int32) (x2 : Int32) : Option ((Int32 × Int32) ⊕ Int32) :=
  fj_D_primesIn_70 x1 x2 (1 : Int32)
noncomputable def fb_D_primesIn_5 (p1 : Int32) (m : (Nat → Nat → Int32)) (p2 : Int32) (x1 : Int32) (x2 : Int32) : Option ((Int32 × Int32) ⊕ Int32) :=
  kv_gd (kv_in p1 8) (
  if (m 89 p1.toNatClampNeg) ≤ x2 then
    some (.inr x1)
  else
    if ((p2 >>> (x2 &&& 31)) &&& (1 : Int32)) = (1 : Int32) then
      kv_bind1 (fx_D_pairAt p1 x2 m) (fun v7 =>
      kv_bind1 (fx_D_get (v7 / (10 : Int32)) (0 : Int32) m) (fun v8 =>
      if v8 = (1 : Int32) then
        fj_D_primesIn_65 x1 x2
      else
        kv_bind1 (fx_D_pairAt p1 x2 m) (fun v9 =>
        kv_bind1 (fx_D_get (v9 - v9 / (10 : Int32) * (10 : Int32)) (0 : Int32) m) (fun v10 =>
        if v10 = (1 : Int32) then
          fj_D_primesIn_65 x1 x2
        else
          fj_D_primesIn_69 x1 x2))))
    else
      fj_D_primesIn_69 x1 x2)
noncomputable def fx_D_primesIn (p1 : Int32) (p2 : Int32) (m : (Nat → Nat → Int32)) : Option Int32 :=
  (kv_loop (kv_u2 (fb_D_primesIn_5 p1 m p2)) ((0 : Int32), (0 : Int32))).bind (kv_u1 (fun x3 =>
  some x3))
set_option maxRecDepth 20000 in
theorem cx_D_primesIn (d : Nat) (p1 : Int32) (p2 : Int32) (c : (Nat → Nat → Int32)) (m : (Nat → Nat → Int32)) (f : (Nat → Int64)) (u : (Nat → Int64)) : ∀ a, fx_D_primesIn p1 p2 m = some a → kv_C kM_D_primesIn (d + 1) [.ref 84, .int p1, .int p2] (c, m, f, u) (some (.int a), (c, m, f, u)) := by
  refine kv_entryX (E := fun a : Int32 => (some (.int a), (c, m, f, u))) rfl (Nat.le_of_ble_eq_true rfl) (fun o => ?_)
  unfold fx_D_primesIn
  show kv_X _ _ _ _ _ 0 [(0, .ref 84), (1, .int p1), (2, .int p2)] [] (c, m, f, u)
  refine kv_iconst (pc := 0) (v := (0 : Int32)) dk_D_primesIn_0 kki_0 ?_
  refine kv_istore_n (pc := 1) (lv' := [(3, .int (0 : Int32)), (0, .ref 84), (1, .int p1), (2, .int p2)]) rfl (Nat.le_of_ble_eq_true rfl) rfl dk_D_primesIn_1 ?_
  refine kv_iconst (pc := 2) (v := (0 : Int32)) dk_D_primesIn_2 kki_0 ?_
  refine kv_istore (pc := 3) (lv' := [(4, .int (0 : Int32)), (3, .int (0 : Int32)), (0, .ref 84), (1, .int p1), (2, .int p2)]) rfl (Nat.le_of_ble_eq_true rfl) dk_D_primesIn_3 ?_
  refine kv_sub (lv' := [(0, .ref 84), (1, .int p1), (2, .int p2), (3, .int (0 : Int32)), (4, .int (0 : Int32))]) [2, 3, 4, 1, 0] rfl ?_
  refine kv_lp_2_1 (LV := fun x1 x2 => [(0, .ref 84), (1, .int p1), (2, .int p2), (3, .int x1), (4, .int x2)]) (WW := fun x1 x2 => (c, m, f, u)) (LE1 := fun x3 => [(3, .int x3)]) (WE1 := fun x3 => (c, m, f, u)) (pe1 := 78) ?_ ?_
  · intro x3
    show kv_X _ _ _ _ _ 78 [(3, .int x3)] [] (c, m, f, u)
    refine kv_iload_n (pc := 78) 0 rfl rfl dk_D_primesIn_78 ?_
    exact kv_iret (pc := 79) (fun h => h) rfl dk_D_primesIn_79
  · intro hx5_0 x1 x2
    show kv_X _ _ _ _ (fb_D_primesIn_5 p1 m p2 x1 x2) 5 [(0, .ref 84), (1, .int p1), (2, .int p2), (3, .int x1), (4, .int x2)] [] (c, m, f, u)
    unfold fb_D_primesIn_5
    refine kv_iload (pc := 5) 4 rfl dk_D_primesIn_5 ?_
    refine kv_aload_n (pc := 7) 0 rfl rfl dk_D_primesIn_7 ?_
    refine kv_getR (pc := 8) kf_D_22 kr_84 rfl kt_84_4 dk_D_primesIn_8 ?_
    refine kv_iload_n (pc := 11) 1 rfl rfl dk_D_primesIn_11 ?_
    refine kv_guard (fun g4 => ?_)
    refine kv_aldM (pc := 12) kr_89 kn_89 kl_89 g4 rfl dk_D_primesIn_12 ?_
    refine kv_icmp_ge (pc := 13) (tgt := 78) dk_D_primesIn_13 rfl ?_ ?_
    · exact kv_sub [3] rfl (kv_leaf (hx5_0 _))
    · refine kv_iload_n (pc := 16) 3 rfl rfl dk_D_primesIn_16 ?_
      refine kv_iload_n (pc := 17) 2 rfl rfl dk_D_primesIn_17 ?_
      refine kv_iload (pc := 18) 4 rfl dk_D_primesIn_18 ?_
      refine kv_ishr (pc := 20) dk_D_primesIn_20 ?_
      refine kv_iconst (pc := 21) (v := (1 : Int32)) dk_D_primesIn_21 kki_1 ?_
      refine kv_iand (pc := 22) dk_D_primesIn_22 ?_
      refine kv_iconst (pc := 23) (v := (1 : Int32)) dk_D_primesIn_23 kki_1 ?_
      refine kv_cut_1 (J := fj_D_primesIn_70 x1 x2) (pcj := 70) (LJ := fun x5 => [(0, .ref 84), (1, .int p1), (2, .int p2), (4, .int x2)]) (SJ := fun x5 => [.int x5, .int x1]) (WJ := fun x5 => (c, m, f, u)) ?_ (fun hj70 => ?_)
      · intro x5
        show kv_X _ _ _ _ (fj_D_primesIn_70 x1 x2 x5) 70 [(0, .ref 84), (1, .int p1), (2, .int p2), (4, .int x2)] [.int x5, .int x1] (c, m, f, u)
        unfold fj_D_primesIn_70
        refine kv_iadd (pc := 70) dk_D_primesIn_70 ?_
        refine kv_letI (fun v6 => ?_)
        refine kv_istore_n (pc := 71) (lv' := [(3, .int v6), (0, .ref 84), (1, .int p1), (2, .int p2), (4, .int x2)]) rfl (Nat.le_of_ble_eq_true rfl) rfl dk_D_primesIn_71 ?_
        refine kv_iinc (pc := 72) (kk := (1 : Int32)) (lv' := [(4, .int (x2 + (1 : Int32))), (3, .int v6), (0, .ref 84), (1, .int p1), (2, .int p2)]) 4 rfl kki_1 rfl (Nat.le_of_ble_eq_true rfl) dk_D_primesIn_72 ?_
        refine kv_goto (pc := 75) (tgt := 5) dk_D_primesIn_75 rfl ?_
        exact kv_sub [2, 3, 4, 1, 0] rfl (kv_leaf (fun h => h))
      refine kv_cut_0 (J := fj_D_primesIn_69 x1 x2) (pcj := 69) (LJ := [(0, .ref 84), (1, .int p1), (2, .int p2), (4, .int x2)]) (SJ := [.int x1]) (WJ := (c, m, f, u)) ?_ (fun hj69 => ?_)
      · show kv_X _ _ _ _ (fj_D_primesIn_69 x1 x2) 69 [(0, .ref 84), (1, .int p1), (2, .int p2), (4, .int x2)] [.int x1] (c, m, f, u)
        unfold fj_D_primesIn_69
        refine kv_iconst (pc := 69) (v := (0 : Int32)) dk_D_primesIn_69 kki_0 ?_
        exact hj70 (0 : Int32)
      refine kv_icmp_ne (pc := 24) (tgt := 69) dk_D_primesIn_24 rfl ?_ ?_
      · exact kv_sub [0, 1, 2, 4] rfl (hj69)
      · refine kv_aload_n (pc := 27) 0 rfl rfl dk_D_primesIn_27 ?_
        refine kv_aload_n (pc := 28) 0 rfl rfl dk_D_primesIn_28 ?_
        refine kv_iload_n (pc := 29) 1 rfl rfl dk_D_primesIn_29 ?_
        refine kv_iload (pc := 30) 4 rfl dk_D_primesIn_30 ?_
        refine kv_cV_mI (pc := 32) (as := [.int p1, .int x2]) (st := [.ref 84, .int x1]) ko_D_pairAt kc_11 rfl rfl kr_84 kw_1657 (Nat.le_of_ble_eq_true rfl) rfl dk_D_primesIn_32 (cx_D_pairAt d p1 x2 c m f u) (fun v7 => ?_)
        refine kv_bipush (pc := 35) (v := (10 : Int32)) dk_D_primesIn_35 kkb_10 ?_
        refine kv_idiv (pc := 37) dk_D_primesIn_37 kkn_10 ?_
        refine kv_iconst (pc := 38) (v := (0 : Int32)) dk_D_primesIn_38 kki_0 ?_
        refine kv_cV_mI (pc := 39) (as := [.int (v7 / (10 : Int32)), .int (0 : Int32)]) (st := [.int x1]) ko_D_get kc_11 rfl rfl kr_84 kw_1341 (Nat.le_of_ble_eq_true rfl) rfl dk_D_primesIn_39 (cx_D_get d (v7 / (10 : Int32)) (0 : Int32) c m f u) (fun v8 => ?_)
        refine kv_iconst (pc := 42) (v := (1 : Int32)) dk_D_primesIn_42 kki_1 ?_
        refine kv_cut_0 (J := fj_D_primesIn_65 x1 x2) (pcj := 65) (LJ := [(0, .ref 84), (1, .int p1), (2, .int p2), (4, .int x2)]) (SJ := [.int x1]) (WJ := (c, m, f, u)) ?_ (fun hj65 => ?_)
        · show kv_X _ _ _ _ (fj_D_primesIn_65 x1 x2) 65 [(0, .ref 84), (1, .int p1), (2, .int p2), (4, .int x2)] [.int x1] (c, m, f, u)
          unfold fj_D_primesIn_65
          refine kv_iconst (pc := 65) (v := (1 : Int32)) dk_D_primesIn_65 kki_1 ?_
          refine kv_goto (pc := 66) (tgt := 70) dk_D_primesIn_66 rfl ?_
          exact hj70 (1 : Int32)
        refine kv_icmp_eq (pc := 43) (tgt := 65) dk_D_primesIn_43 rfl ?_ ?_
        · exact kv_sub [0, 1, 2, 4] rfl (hj65)
        · refine kv_aload_n (pc := 46) 0 rfl rfl dk_D_primesIn_46 ?_
          refine kv_aload_n (pc := 47) 0 rfl rfl dk_D_primesIn_47 ?_
          refine kv_iload_n (pc := 48) 1 rfl rfl dk_D_primesIn_48 ?_
          refine kv_iload (pc := 49) 4 rfl dk_D_primesIn_49 ?_
          refine kv_cV_mI (pc := 51) (as := [.int p1, .int x2]) (st := [.ref 84, .int x1]) ko_D_pairAt kc_11 rfl rfl kr_84 kw_1657 (Nat.le_of_ble_eq_true rfl) rfl dk_D_primesIn_51 (cx_D_pairAt d p1 x2 c m f u) (fun v9 => ?_)
          refine kv_bipush (pc := 54) (v := (10 : Int32)) dk_D_primesIn_54 kkb_10 ?_
          refine kv_irem (pc := 56) dk_D_primesIn_56 kkn_10 ?_
          refine kv_iconst (pc := 57) (v := (0 : Int32)) dk_D_primesIn_57 kki_0 ?_
          refine kv_cV_mI (pc := 58) (as := [.int (v9 - v9 / (10 : Int32) * (10 : Int32)), .int (0 : Int32)]) (st := [.int x1]) ko_D_get kc_11 rfl rfl kr_84 kw_1341 (Nat.le_of_ble_eq_true rfl) rfl dk_D_primesIn_58 (cx_D_get d (v9 - v9 / (10 : Int32) * (10 : Int32)) (0 : Int32) c m f u) (fun v10 => ?_)
          refine kv_iconst (pc := 61) (v := (1 : Int32)) dk_D_primesIn_61 kki_1 ?_
          refine kv_icmp_ne (pc := 62) (tgt := 69) dk_D_primesIn_62 rfl ?_ ?_
          · exact kv_sub [0, 1, 2, 4] rfl (hj69)
          · exact kv_sub [0, 1, 2, 4] rfl (hj65)
theorem dk_D_spreadBy_0 : decode prog_13_method_80_code 0 = .ok (.aload_n 0, 1) := by decide +kernel
theorem dk_D_spreadBy_1 : decode prog_13_method_80_code 1 = .ok (.aload_n 0, 1) := by decide +kernel
theorem dk_D_spreadBy_2 : decode prog_13_method_80_code 2 = .ok (.getfield 9, 3) := by decide +kernel
theorem dk_D_spreadBy_5 : decode prog_13_method_80_code 5 = .ok (.iconst 1, 1) := by decide +kernel
theorem dk_D_spreadBy_6 : decode prog_13_method_80_code 6 = .ok (.iaload, 1) := by decide +kernel
theorem dk_D_spreadBy_7 : decode prog_13_method_80_code 7 = .ok (.invokevirtual 157, 3) := by decide +kernel
theorem dk_D_spreadBy_10 : decode prog_13_method_80_code 10 = .ok (.aload_n 0, 1) := by decide +kernel
theorem dk_D_spreadBy_11 : decode prog_13_method_80_code 11 = .ok (.aload_n 0, 1) := by decide +kernel
theorem dk_D_spreadBy_12 : decode prog_13_method_80_code 12 = .ok (.getfield 9, 3) := by decide +kernel
theorem dk_D_spreadBy_15 : decode prog_13_method_80_code 15 = .ok (.iconst 0, 1) := by decide +kernel
theorem dk_D_spreadBy_16 : decode prog_13_method_80_code 16 = .ok (.iaload, 1) := by decide +kernel
theorem dk_D_spreadBy_17 : decode prog_13_method_80_code 17 = .ok (.iconst 0, 1) := by decide +kernel
theorem dk_D_spreadBy_18 : decode prog_13_method_80_code 18 = .ok (.invokevirtual 161, 3) := by decide +kernel
theorem dk_D_spreadBy_21 : decode prog_13_method_80_code 21 = .ok (.iconst 0, 1) := by decide +kernel
theorem dk_D_spreadBy_22 : decode prog_13_method_80_code 22 = .ok (.istore 4, 2) := by decide +kernel
theorem dk_D_spreadBy_24 : decode prog_13_method_80_code 24 = .ok (.iload 4, 2) := by decide +kernel
theorem dk_D_spreadBy_26 : decode prog_13_method_80_code 26 = .ok (.aload_n 0, 1) := by decide +kernel
theorem dk_D_spreadBy_27 : decode prog_13_method_80_code 27 = .ok (.getfield 22, 3) := by decide +kernel
theorem dk_D_spreadBy_30 : decode prog_13_method_80_code 30 = .ok (.iload_n 1, 1) := by decide +kernel
theorem dk_D_spreadBy_31 : decode prog_13_method_80_code 31 = .ok (.iaload, 1) := by decide +kernel
theorem dk_D_spreadBy_32 : decode prog_13_method_80_code 32 = .ok (.if_icmp .ge 82, 3) := by decide +kernel
theorem dk_D_spreadBy_35 : decode prog_13_method_80_code 35 = .ok (.iload_n 2, 1) := by decide +kernel
theorem dk_D_spreadBy_36 : decode prog_13_method_80_code 36 = .ok (.iload 4, 2) := by decide +kernel
theorem dk_D_spreadBy_38 : decode prog_13_method_80_code 38 = .ok (.ishr, 1) := by decide +kernel
theorem dk_D_spreadBy_39 : decode prog_13_method_80_code 39 = .ok (.iconst 1, 1) := by decide +kernel
theorem dk_D_spreadBy_40 : decode prog_13_method_80_code 40 = .ok (.iand, 1) := by decide +kernel
theorem dk_D_spreadBy_41 : decode prog_13_method_80_code 41 = .ok (.ifCond .ne 6, 3) := by decide +kernel
theorem dk_D_spreadBy_44 : decode prog_13_method_80_code 44 = .ok (.goto 64, 3) := by decide +kernel
theorem dk_D_spreadBy_47 : decode prog_13_method_80_code 47 = .ok (.aload_n 0, 1) := by decide +kernel
theorem dk_D_spreadBy_48 : decode prog_13_method_80_code 48 = .ok (.iload_n 1, 1) := by decide +kernel
theorem dk_D_spreadBy_49 : decode prog_13_method_80_code 49 = .ok (.iload 4, 2) := by decide +kernel
theorem dk_D_spreadBy_51 : decode prog_13_method_80_code 51 = .ok (.invokevirtual 298, 3) := by decide +kernel
theorem dk_D_spreadBy_54 : decode prog_13_method_80_code 54 = .ok (.bipush 10, 2) := by decide +kernel
theorem dk_D_spreadBy_56 : decode prog_13_method_80_code 56 = .ok (.idiv, 1) := by decide +kernel
theorem dk_D_spreadBy_57 : decode prog_13_method_80_code 57 = .ok (.istore 5, 2) := by decide +kernel
theorem dk_D_spreadBy_59 : decode prog_13_method_80_code 59 = .ok (.aload_n 0, 1) := by decide +kernel
theorem dk_D_spreadBy_60 : decode prog_13_method_80_code 60 = .ok (.iload_n 1, 1) := by decide +kernel
theorem dk_D_spreadBy_61 : decode prog_13_method_80_code 61 = .ok (.iload 4, 2) := by decide +kernel
theorem dk_D_spreadBy_63 : decode prog_13_method_80_code 63 = .ok (.invokevirtual 298, 3) := by decide +kernel
theorem dk_D_spreadBy_66 : decode prog_13_method_80_code 66 = .ok (.bipush 10, 2) := by decide +kernel
theorem dk_D_spreadBy_68 : decode prog_13_method_80_code 68 = .ok (.irem, 1) := by decide +kernel
theorem dk_D_spreadBy_69 : decode prog_13_method_80_code 69 = .ok (.istore 6, 2) := by decide +kernel
theorem dk_D_spreadBy_71 : decode prog_13_method_80_code 71 = .ok (.aload_n 0, 1) := by decide +kernel
theorem dk_D_spreadBy_72 : decode prog_13_method_80_code 72 = .ok (.iload 5, 2) := by decide +kernel
theorem dk_D_spreadBy_74 : decode prog_13_method_80_code 74 = .ok (.iconst 3, 1) := by decide +kernel
theorem dk_D_spreadBy_75 : decode prog_13_method_80_code 75 = .ok (.invokevirtual 68, 3) := by decide +kernel
theorem dk_D_spreadBy_78 : decode prog_13_method_80_code 78 = .ok (.i2l, 1) := by decide +kernel
theorem dk_D_spreadBy_79 : decode prog_13_method_80_code 79 = .ok (.aload_n 0, 1) := by decide +kernel
theorem dk_D_spreadBy_80 : decode prog_13_method_80_code 80 = .ok (.iload 6, 2) := by decide +kernel
theorem dk_D_spreadBy_82 : decode prog_13_method_80_code 82 = .ok (.iconst 3, 1) := by decide +kernel
theorem dk_D_spreadBy_83 : decode prog_13_method_80_code 83 = .ok (.invokevirtual 68, 3) := by decide +kernel
theorem dk_D_spreadBy_86 : decode prog_13_method_80_code 86 = .ok (.i2l, 1) := by decide +kernel
theorem dk_D_spreadBy_87 : decode prog_13_method_80_code 87 = .ok (.lsub, 1) := by decide +kernel
theorem dk_D_spreadBy_88 : decode prog_13_method_80_code 88 = .ok (.lstore 7, 2) := by decide +kernel
theorem dk_D_spreadBy_90 : decode prog_13_method_80_code 90 = .ok (.aload_n 0, 1) := by decide +kernel
theorem dk_D_spreadBy_91 : decode prog_13_method_80_code 91 = .ok (.iload 5, 2) := by decide +kernel
theorem dk_D_spreadBy_93 : decode prog_13_method_80_code 93 = .ok (.iload 6, 2) := by decide +kernel
theorem dk_D_spreadBy_95 : decode prog_13_method_80_code 95 = .ok (.lload 7, 2) := by decide +kernel
theorem dk_D_spreadBy_97 : decode prog_13_method_80_code 97 = .ok (.iload_n 3, 1) := by decide +kernel
theorem dk_D_spreadBy_98 : decode prog_13_method_80_code 98 = .ok (.i2l, 1) := by decide +kernel
theorem dk_D_spreadBy_99 : decode prog_13_method_80_code 99 = .ok (.lsub, 1) := by decide +kernel
theorem dk_D_spreadBy_100 : decode prog_13_method_80_code 100 = .ok (.lload 7, 2) := by decide +kernel
theorem dk_D_spreadBy_102 : decode prog_13_method_80_code 102 = .ok (.iload_n 3, 1) := by decide +kernel
theorem dk_D_spreadBy_103 : decode prog_13_method_80_code 103 = .ok (.i2l, 1) := by decide +kernel
theorem dk_D_spreadBy_104 : decode prog_13_method_80_code 104 = .ok (.ladd, 1) := by decide +kernel
theorem dk_D_spreadBy_105 : decode prog_13_method_80_code 105 = .ok (.invokevirtual 149, 3) := by decide +kernel
theorem dk_D_spreadBy_108 : decode prog_13_method_80_code 108 = .ok (.iinc 4 1, 3) := by decide +kernel
theorem dk_D_spreadBy_111 : decode prog_13_method_80_code 111 = .ok (.goto (-87), 3) := by decide +kernel
theorem dk_D_spreadBy_114 : decode prog_13_method_80_code 114 = .ok (.aload_n 0, 1) := by decide +kernel
theorem dk_D_spreadBy_115 : decode prog_13_method_80_code 115 = .ok (.invokevirtual 165, 3) := by decide +kernel
theorem dk_D_spreadBy_118 : decode prog_13_method_80_code 118 = .ok (.ifCond .ne 7, 3) := by decide +kernel
theorem dk_D_spreadBy_121 : decode prog_13_method_80_code 121 = .ok (.ldc2_w 199, 3) := by decide +kernel
theorem dk_D_spreadBy_124 : decode prog_13_method_80_code 124 = .ok (.lreturn, 1) := by decide +kernel
theorem dk_D_spreadBy_125 : decode prog_13_method_80_code 125 = .ok (.lconst 0, 1) := by decide +kernel
theorem dk_D_spreadBy_126 : decode prog_13_method_80_code 126 = .ok (.lstore 4, 2) := by decide +kernel
theorem dk_D_spreadBy_128 : decode prog_13_method_80_code 128 = .ok (.iconst 0, 1) := by decide +kernel
theorem dk_D_spreadBy_129 : decode prog_13_method_80_code 129 = .ok (.istore 6, 2) := by decide +kernel
theorem dk_D_spreadBy_131 : decode prog_13_method_80_code 131 = .ok (.iload 6, 2) := by decide +kernel
theorem dk_D_spreadBy_133 : decode prog_13_method_80_code 133 = .ok (.aload_n 0, 1) := by decide +kernel
theorem dk_D_spreadBy_134 : decode prog_13_method_80_code 134 = .ok (.getfield 9, 3) := by decide +kernel
theorem dk_D_spreadBy_137 : decode prog_13_method_80_code 137 = .ok (.iconst 1, 1) := by decide +kernel
theorem dk_D_spreadBy_138 : decode prog_13_method_80_code 138 = .ok (.iaload, 1) := by decide +kernel
theorem dk_D_spreadBy_139 : decode prog_13_method_80_code 139 = .ok (.if_icmp .ge 109, 3) := by decide +kernel
theorem dk_D_spreadBy_142 : decode prog_13_method_80_code 142 = .ok (.iload 6, 2) := by decide +kernel
theorem dk_D_spreadBy_144 : decode prog_13_method_80_code 144 = .ok (.iconst 1, 1) := by decide +kernel
theorem dk_D_spreadBy_145 : decode prog_13_method_80_code 145 = .ok (.iadd, 1) := by decide +kernel
theorem dk_D_spreadBy_146 : decode prog_13_method_80_code 146 = .ok (.istore 7, 2) := by decide +kernel
theorem dk_D_spreadBy_148 : decode prog_13_method_80_code 148 = .ok (.iload 7, 2) := by decide +kernel
theorem dk_D_spreadBy_150 : decode prog_13_method_80_code 150 = .ok (.aload_n 0, 1) := by decide +kernel
theorem dk_D_spreadBy_151 : decode prog_13_method_80_code 151 = .ok (.getfield 9, 3) := by decide +kernel
theorem dk_D_spreadBy_154 : decode prog_13_method_80_code 154 = .ok (.iconst 1, 1) := by decide +kernel
theorem dk_D_spreadBy_155 : decode prog_13_method_80_code 155 = .ok (.iaload, 1) := by decide +kernel
theorem dk_D_spreadBy_156 : decode prog_13_method_80_code 156 = .ok (.if_icmp .ge 86, 3) := by decide +kernel
theorem dk_D_spreadBy_159 : decode prog_13_method_80_code 159 = .ok (.aload_n 0, 1) := by decide +kernel
theorem dk_D_spreadBy_160 : decode prog_13_method_80_code 160 = .ok (.getfield 34, 3) := by decide +kernel
theorem dk_D_spreadBy_163 : decode prog_13_method_80_code 163 = .ok (.bipush 44, 2) := by decide +kernel
theorem dk_D_spreadBy_165 : decode prog_13_method_80_code 165 = .ok (.iload 6, 2) := by decide +kernel
theorem dk_D_spreadBy_167 : decode prog_13_method_80_code 167 = .ok (.imul, 1) := by decide +kernel
theorem dk_D_spreadBy_168 : decode prog_13_method_80_code 168 = .ok (.iload 7, 2) := by decide +kernel
theorem dk_D_spreadBy_170 : decode prog_13_method_80_code 170 = .ok (.iadd, 1) := by decide +kernel
theorem dk_D_spreadBy_171 : decode prog_13_method_80_code 171 = .ok (.laload, 1) := by decide +kernel
theorem dk_D_spreadBy_172 : decode prog_13_method_80_code 172 = .ok (.ldc2_w 147, 3) := by decide +kernel
theorem dk_D_spreadBy_175 : decode prog_13_method_80_code 175 = .ok (.lcmp, 1) := by decide +kernel
theorem dk_D_spreadBy_176 : decode prog_13_method_80_code 176 = .ok (.ifCond .ne 9, 3) := by decide +kernel
theorem dk_D_spreadBy_179 : decode prog_13_method_80_code 179 = .ok (.ldc2_w 80, 3) := by decide +kernel
theorem dk_D_spreadBy_182 : decode prog_13_method_80_code 182 = .ok (.goto 30, 3) := by decide +kernel
theorem dk_D_spreadBy_185 : decode prog_13_method_80_code 185 = .ok (.aload_n 0, 1) := by decide +kernel
theorem dk_D_spreadBy_186 : decode prog_13_method_80_code 186 = .ok (.getfield 34, 3) := by decide +kernel
theorem dk_D_spreadBy_189 : decode prog_13_method_80_code 189 = .ok (.bipush 44, 2) := by decide +kernel
theorem dk_D_spreadBy_191 : decode prog_13_method_80_code 191 = .ok (.iload 6, 2) := by decide +kernel
theorem dk_D_spreadBy_193 : decode prog_13_method_80_code 193 = .ok (.imul, 1) := by decide +kernel
theorem dk_D_spreadBy_194 : decode prog_13_method_80_code 194 = .ok (.iload 7, 2) := by decide +kernel
theorem dk_D_spreadBy_196 : decode prog_13_method_80_code 196 = .ok (.iadd, 1) := by decide +kernel
theorem dk_D_spreadBy_197 : decode prog_13_method_80_code 197 = .ok (.laload, 1) := by decide +kernel
theorem dk_D_spreadBy_198 : decode prog_13_method_80_code 198 = .ok (.aload_n 0, 1) := by decide +kernel
theorem dk_D_spreadBy_199 : decode prog_13_method_80_code 199 = .ok (.getfield 34, 3) := by decide +kernel
theorem dk_D_spreadBy_202 : decode prog_13_method_80_code 202 = .ok (.bipush 44, 2) := by decide +kernel
theorem dk_D_spreadBy_204 : decode prog_13_method_80_code 204 = .ok (.iload 7, 2) := by decide +kernel
theorem dk_D_spreadBy_206 : decode prog_13_method_80_code 206 = .ok (.imul, 1) := by decide +kernel
theorem dk_D_spreadBy_207 : decode prog_13_method_80_code 207 = .ok (.iload 6, 2) := by decide +kernel
theorem dk_D_spreadBy_209 : decode prog_13_method_80_code 209 = .ok (.iadd, 1) := by decide +kernel
theorem dk_D_spreadBy_210 : decode prog_13_method_80_code 210 = .ok (.laload, 1) := by decide +kernel
theorem dk_D_spreadBy_211 : decode prog_13_method_80_code 211 = .ok (.ladd, 1) := by decide +kernel
theorem dk_D_spreadBy_212 : decode prog_13_method_80_code 212 = .ok (.lstore 8, 2) := by decide +kernel
theorem dk_D_spreadBy_214 : decode prog_13_method_80_code 214 = .ok (.lload 4, 2) := by decide +kernel
theorem dk_D_spreadBy_216 : decode prog_13_method_80_code 216 = .ok (.lload 8, 2) := by decide +kernel
theorem dk_D_spreadBy_218 : decode prog_13_method_80_code 218 = .ok (.ldc2_w 80, 3) := by decide +kernel
theorem dk_D_spreadBy_221 : decode prog_13_method_80_code 221 = .ok (.lcmp, 1) := by decide +kernel
theorem dk_D_spreadBy_222 : decode prog_13_method_80_code 222 = .ok (.ifCond .le 9, 3) := by decide +kernel
theorem dk_D_spreadBy_225 : decode prog_13_method_80_code 225 = .ok (.ldc2_w 80, 3) := by decide +kernel
theorem dk_D_spreadBy_228 : decode prog_13_method_80_code 228 = .ok (.goto 5, 3) := by decide +kernel
theorem dk_D_spreadBy_231 : decode prog_13_method_80_code 231 = .ok (.lload 8, 2) := by decide +kernel
theorem dk_D_spreadBy_233 : decode prog_13_method_80_code 233 = .ok (.ladd, 1) := by decide +kernel
theorem dk_D_spreadBy_234 : decode prog_13_method_80_code 234 = .ok (.lstore 4, 2) := by decide +kernel
theorem dk_D_spreadBy_236 : decode prog_13_method_80_code 236 = .ok (.iinc 7 1, 3) := by decide +kernel
theorem dk_D_spreadBy_239 : decode prog_13_method_80_code 239 = .ok (.goto (-91), 3) := by decide +kernel
theorem dk_D_spreadBy_242 : decode prog_13_method_80_code 242 = .ok (.iinc 6 1, 3) := by decide +kernel
theorem dk_D_spreadBy_245 : decode prog_13_method_80_code 245 = .ok (.goto (-114), 3) := by decide +kernel
theorem dk_D_spreadBy_248 : decode prog_13_method_80_code 248 = .ok (.lload 4, 2) := by decide +kernel
theorem dk_D_spreadBy_250 : decode prog_13_method_80_code 250 = .ok (.lreturn, 1) := by decide +kernel
noncomputable def fj_D_spreadBy_108 (x4 : Int32) (f8 : (Nat → Int64)) : Option ((Int32 × (Nat → Int64)) ⊕ (Nat → Int64)) :=
  some (.inl ((x4 + (1 : Int32)), f8))
noncomputable def fb_D_spreadBy_24 (p1 : Int32) (m1 : (Nat → Nat → Int32)) (p2 : Int32) (p3 : Int32) (x4 : Int32) (f5 : (Nat → Int64)) : Option ((Int32 × (Nat → Int64)) ⊕ (Nat → Int64)) :=
  kv_gd (kv_in p1 8) (
  if (m1 89 p1.toNatClampNeg) ≤ x4 then
    some (.inr f5)
  else
    if ((p2 >>> (x4 &&& 31)) &&& (1 : Int32)) = 0 then
      fj_D_spreadBy_108 x4 f5
    else
      kv_bind1 (fx_D_pairAt p1 x4 m1) (fun v9 =>
      kv_let (v9 / (10 : Int32)) (fun v10 =>
      kv_bind1 (fx_D_pairAt p1 x4 m1) (fun v11 =>
      kv_let (v11 - v11 / (10 : Int32) * (10 : Int32)) (fun v12 =>
      kv_bind1 (fx_D_get v10 (3 : Int32) m1) (fun v13 =>
      kv_bind1 (fx_D_get v12 (3 : Int32) m1) (fun v14 =>
      kv_let (v13.toInt64 - v14.toInt64) (fun v15 =>
      kv_bind1 (fx_D_binds v10 v12 (v15 - p3.toInt64) (v15 + p3.toInt64) f5) (fun f16 =>
      fj_D_spreadBy_108 x4 f16)))))))))
noncomputable def fj_D_spreadBy_233 (x23 : Int64) (x24 : Int32) (x28 : Int64) : Option ((Int64 × Int32) ⊕ Int64) :=
  kv_let (x23 + x28) (fun v29 =>
  some (.inl (v29, (x24 + (1 : Int32)))))
noncomputable def fj_D_spreadBy_212 (x23 : Int64) (x24 : Int32) (x27 : Int64) : Option ((Int64 × Int32) ⊕ Int64) :=
  if x27 ≤ (9999 : Int64) then
    fj_D_spreadBy_233 x23 x24 x27
  else
    fj_D_spreadBy_233 x23 x24 (9999 : Int64)
noncomputable def fb_D_spreadBy_148 (m1 : (Nat → Nat → Int32)) (x20 : Int32) (f18 : (Nat → Int64)) (x23 : Int64) (x24 : Int32) : Option ((Int64 × Int32) ⊕ Int64) :=
  if (m1 85 1) ≤ x24 then
    some (.inr x23)
  else
    kv_gd (kv_in (((44 : Int32) * x20) + x24) 1936) (
    if (f18 (((44 : Int32) * x20) + x24).toNatClampNeg) = (1000000000000 : Int64) then
      fj_D_spreadBy_212 x23 x24 (9999 : Int64)
    else
      kv_gd (kv_in (((44 : Int32) * x24) + x20) 1936) (
      fj_D_spreadBy_212 x23 x24 ((f18 (((44 : Int32) * x20) + x24).toNatClampNeg) + (f18 (((44 : Int32) * x24) + x20).toNatClampNeg))))
noncomputable def fb_D_spreadBy_131 (m1 : (Nat → Nat → Int32)) (f18 : (Nat → Int64)) (x19 : Int64) (x20 : Int32) : Option ((Int64 × Int32) ⊕ Int64) :=
  if (m1 85 1) ≤ x20 then
    some (.inr x19)
  else
    kv_let (x20 + (1 : Int32)) (fun v22 =>
    (kv_loop (kv_u2 (fb_D_spreadBy_148 m1 x20 f18)) (x19, v22)).bind (kv_u1 (fun x25 =>
    some (.inl (x25, (x20 + (1 : Int32)))))))
noncomputable def fx_D_spreadBy (p1 : Int32) (p2 : Int32) (p3 : Int32) (m : (Nat → Nat → Int32)) (f : (Nat → Int64)) : Option (Int64 × (Nat → Nat → Int32) × (Nat → Int64)) :=
  kv_bind2 (fx_D_begins (m 85 1) m f) (fun m1 f2 =>
  kv_bind1 (fx_D_bindsYear (m1 85 0) (0 : Int32) m1 f2) (fun f3 =>
  (kv_loop (kv_u2 (fb_D_spreadBy_24 p1 m1 p2 p3)) ((0 : Int32), f3)).bind (kv_u1 (fun f6 =>
  kv_bind2 (fx_D_closes m1 f6) (fun b17 f18 =>
  if b17 = true then
    (kv_loop (kv_u2 (fb_D_spreadBy_131 m1 f18)) ((0 : Int64), (0 : Int32))).bind (kv_u1 (fun x21 =>
    some (x21, m1, f18)))
  else
    some ((-1 : Int64), m1, f18))))))
set_option maxRecDepth 20000 in
theorem cx_D_spreadBy (d : Nat) (p1 : Int32) (p2 : Int32) (p3 : Int32) (c : (Nat → Nat → Int32)) (m : (Nat → Nat → Int32)) (f : (Nat → Int64)) (u : (Nat → Int64)) : ∀ a, fx_D_spreadBy p1 p2 p3 m f = some a → kv_C kM_D_spreadBy (d + 3) [.ref 84, .int p1, .int p2, .int p3] (c, m, f, u) (some (.long a.1), (c, a.2.1, a.2.2, u)) := by
  refine kv_entryX (E := fun a : (Int64 × (Nat → Nat → Int32) × (Nat → Int64)) => (some (.long a.1), (c, a.2.1, a.2.2, u))) rfl (Nat.le_of_ble_eq_true rfl) (fun o => ?_)
  unfold fx_D_spreadBy
  show kv_X _ _ _ _ _ 0 [(0, .ref 84), (1, .int p1), (2, .int p2), (3, .int p3)] [] (c, m, f, u)
  refine kv_aload_n (pc := 0) 0 rfl rfl dk_D_spreadBy_0 ?_
  refine kv_aload_n (pc := 1) 0 rfl rfl dk_D_spreadBy_1 ?_
  refine kv_getR (pc := 2) kf_D_9 kr_84 rfl kt_84_0 dk_D_spreadBy_2 ?_
  refine kv_iconst (pc := 5) (v := (1 : Int32)) dk_D_spreadBy_5 kki_1 ?_
  refine kv_aldM (pc := 6) kr_85 kn_85 kl_85 kkg_1_444 (j := 1) kkx_1 dk_D_spreadBy_6 ?_
  refine kv_cV_mmf (pc := 7) (as := [.int (m 85 1)]) (st := []) ko_D_begins kc_11 rfl rfl kr_84 kw_1455 (Nat.le_of_ble_eq_true rfl) rfl dk_D_spreadBy_7 (cx_D_begins (d + 2) (m 85 1) c m f u) (fun m1 f2 => ?_)
  refine kv_aload_n (pc := 10) 0 rfl rfl dk_D_spreadBy_10 ?_
  refine kv_aload_n (pc := 11) 0 rfl rfl dk_D_spreadBy_11 ?_
  refine kv_getR (pc := 12) kf_D_9 kr_84 rfl kt_84_0 dk_D_spreadBy_12 ?_
  refine kv_iconst (pc := 15) (v := (0 : Int32)) dk_D_spreadBy_15 kki_0 ?_
  refine kv_aldM (pc := 16) kr_85 kn_85 kl_85 kkg_0_444 (j := 0) kkx_0 dk_D_spreadBy_16 ?_
  refine kv_iconst (pc := 17) (v := (0 : Int32)) dk_D_spreadBy_17 kki_0 ?_
  refine kv_cV_mf (pc := 18) (as := [.int (m1 85 0), .int (0 : Int32)]) (st := []) ko_D_bindsYear kc_11 rfl rfl kr_84 kw_1460 (Nat.le_of_ble_eq_true rfl) rfl dk_D_spreadBy_18 (cx_D_bindsYear d (m1 85 0) (0 : Int32) c m1 f2 u) (fun f3 => ?_)
  refine kv_iconst (pc := 21) (v := (0 : Int32)) dk_D_spreadBy_21 kki_0 ?_
  refine kv_istore (pc := 22) (lv' := [(4, .int (0 : Int32)), (0, .ref 84), (1, .int p1), (2, .int p2), (3, .int p3)]) rfl (Nat.le_of_ble_eq_true rfl) dk_D_spreadBy_22 ?_
  refine kv_sub (lv' := [(0, .ref 84), (1, .int p1), (2, .int p2), (3, .int p3), (4, .int (0 : Int32))]) [1, 2, 3, 4, 0] rfl ?_
  refine kv_lp_2_1 (LV := fun x4 f5 => [(0, .ref 84), (1, .int p1), (2, .int p2), (3, .int p3), (4, .int x4)]) (WW := fun x4 f5 => (c, m1, f5, u)) (LE1 := fun f6 => [(0, .ref 84)]) (WE1 := fun f6 => (c, m1, f6, u)) (pe1 := 114) ?_ ?_
  · intro f6
    show kv_X _ _ _ _ _ 114 [(0, .ref 84)] [] (c, m1, f6, u)
    refine kv_aload_n (pc := 114) 0 rfl rfl dk_D_spreadBy_114 ?_
    refine kv_cV_mZf (pc := 115) (as := []) (st := []) ko_D_closes kc_11 rfl rfl kr_84 kw_1472 (Nat.le_of_ble_eq_true rfl) rfl dk_D_spreadBy_115 (cx_D_closes (d + 2) c m1 f6 u) (fun b17 f18 => ?_)
    refine kv_zif_ne (pc := 118) (tgt := 125) dk_D_spreadBy_118 rfl ?_ ?_
    · refine kv_lconst (pc := 125) (v := (0 : Int64)) dk_D_spreadBy_125 kkl_0 ?_
      refine kv_lstore (pc := 126) (lv' := [(4, .long (0 : Int64)), (0, .ref 84)]) rfl (Nat.le_of_ble_eq_true rfl) dk_D_spreadBy_126 ?_
      refine kv_iconst (pc := 128) (v := (0 : Int32)) dk_D_spreadBy_128 kki_0 ?_
      refine kv_istore (pc := 129) (lv' := [(6, .int (0 : Int32)), (4, .long (0 : Int64)), (0, .ref 84)]) rfl (Nat.le_of_ble_eq_true rfl) dk_D_spreadBy_129 ?_
      refine kv_sub (lv' := [(0, .ref 84), (4, .long (0 : Int64)), (6, .int (0 : Int32))]) [2, 1, 0] rfl ?_
      refine kv_lp_2_1 (LV := fun x19 x20 => [(0, .ref 84), (4, .long x19), (6, .int x20)]) (WW := fun x19 x20 => (c, m1, f18, u)) (LE1 := fun x21 => [(4, .long x21)]) (WE1 := fun x21 => (c, m1, f18, u)) (pe1 := 248) ?_ ?_
      · intro x21
        show kv_X _ _ _ _ _ 248 [(4, .long x21)] [] (c, m1, f18, u)
        refine kv_lload (pc := 248) 0 rfl dk_D_spreadBy_248 ?_
        exact kv_lret (pc := 250) (fun h => h) rfl dk_D_spreadBy_250
      · intro hx131_0 x19 x20
        show kv_X _ _ _ _ (fb_D_spreadBy_131 m1 f18 x19 x20) 131 [(0, .ref 84), (4, .long x19), (6, .int x20)] [] (c, m1, f18, u)
        unfold fb_D_spreadBy_131
        refine kv_iload (pc := 131) 2 rfl dk_D_spreadBy_131 ?_
        refine kv_aload_n (pc := 133) 0 rfl rfl dk_D_spreadBy_133 ?_
        refine kv_getR (pc := 134) kf_D_9 kr_84 rfl kt_84_0 dk_D_spreadBy_134 ?_
        refine kv_iconst (pc := 137) (v := (1 : Int32)) dk_D_spreadBy_137 kki_1 ?_
        refine kv_aldM (pc := 138) kr_85 kn_85 kl_85 kkg_1_444 (j := 1) kkx_1 dk_D_spreadBy_138 ?_
        refine kv_icmp_ge (pc := 139) (tgt := 248) dk_D_spreadBy_139 rfl ?_ ?_
        · exact kv_sub [1] rfl (kv_leaf (hx131_0 _))
        · refine kv_iload (pc := 142) 2 rfl dk_D_spreadBy_142 ?_
          refine kv_iconst (pc := 144) (v := (1 : Int32)) dk_D_spreadBy_144 kki_1 ?_
          refine kv_iadd (pc := 145) dk_D_spreadBy_145 ?_
          refine kv_letI (fun v22 => ?_)
          refine kv_istore (pc := 146) (lv' := [(7, .int v22), (0, .ref 84), (4, .long x19), (6, .int x20)]) rfl (Nat.le_of_ble_eq_true rfl) dk_D_spreadBy_146 ?_
          refine kv_sub (lv' := [(0, .ref 84), (4, .long x19), (6, .int x20), (7, .int v22)]) [1, 2, 3, 0] rfl ?_
          refine kv_lp_2_1 (LV := fun x23 x24 => [(0, .ref 84), (4, .long x23), (6, .int x20), (7, .int x24)]) (WW := fun x23 x24 => (c, m1, f18, u)) (LE1 := fun x25 => [(0, .ref 84), (4, .long x25), (6, .int x20)]) (WE1 := fun x25 => (c, m1, f18, u)) (pe1 := 242) ?_ ?_
          · intro x25
            show kv_X _ _ _ _ _ 242 [(0, .ref 84), (4, .long x25), (6, .int x20)] [] (c, m1, f18, u)
            refine kv_iinc (pc := 242) (kk := (1 : Int32)) (lv' := [(6, .int (x20 + (1 : Int32))), (0, .ref 84), (4, .long x25)]) 2 rfl kki_1 rfl (Nat.le_of_ble_eq_true rfl) dk_D_spreadBy_242 ?_
            refine kv_goto (pc := 245) (tgt := 131) dk_D_spreadBy_245 rfl ?_
            exact kv_sub [1, 2, 0] rfl (kv_leaf (fun h => h))
          · intro hx148_0 x23 x24
            show kv_X _ _ _ _ (fb_D_spreadBy_148 m1 x20 f18 x23 x24) 148 [(0, .ref 84), (4, .long x23), (6, .int x20), (7, .int x24)] [] (c, m1, f18, u)
            unfold fb_D_spreadBy_148
            refine kv_iload (pc := 148) 3 rfl dk_D_spreadBy_148 ?_
            refine kv_aload_n (pc := 150) 0 rfl rfl dk_D_spreadBy_150 ?_
            refine kv_getR (pc := 151) kf_D_9 kr_84 rfl kt_84_0 dk_D_spreadBy_151 ?_
            refine kv_iconst (pc := 154) (v := (1 : Int32)) dk_D_spreadBy_154 kki_1 ?_
            refine kv_aldM (pc := 155) kr_85 kn_85 kl_85 kkg_1_444 (j := 1) kkx_1 dk_D_spreadBy_155 ?_
            refine kv_icmp_ge (pc := 156) (tgt := 242) dk_D_spreadBy_156 rfl ?_ ?_
            · exact kv_sub [0, 1, 2] rfl (kv_leaf (hx148_0 _))
            · refine kv_aload_n (pc := 159) 0 rfl rfl dk_D_spreadBy_159 ?_
              refine kv_getR (pc := 160) kf_D_34 kr_84 rfl kt_84_10 dk_D_spreadBy_160 ?_
              refine kv_bipush (pc := 163) (v := (44 : Int32)) dk_D_spreadBy_163 kkb_44 ?_
              refine kv_iload (pc := 165) 2 rfl dk_D_spreadBy_165 ?_
              refine kv_imul (pc := 167) dk_D_spreadBy_167 ?_
              refine kv_iload (pc := 168) 3 rfl dk_D_spreadBy_168 ?_
              refine kv_iadd (pc := 170) dk_D_spreadBy_170 ?_
              refine kv_guard (fun g26 => ?_)
              refine kv_aldJ (pc := 171) rfl kr_93 kl_93 g26 rfl dk_D_spreadBy_171 ?_
              refine kv_ldc2 (pc := 172) (v := (1000000000000 : Int64)) kw_1459 dk_D_spreadBy_172 ?_
              refine kv_cut_1 (J := fj_D_spreadBy_212 x23 x24) (pcj := 212) (LJ := fun x27 => [(0, .ref 84), (4, .long x23), (6, .int x20), (7, .int x24)]) (SJ := fun x27 => [.long x27]) (WJ := fun x27 => (c, m1, f18, u)) ?_ (fun hj212 => ?_)
              · intro x27
                show kv_X _ _ _ _ (fj_D_spreadBy_212 x23 x24 x27) 212 [(0, .ref 84), (4, .long x23), (6, .int x20), (7, .int x24)] [.long x27] (c, m1, f18, u)
                unfold fj_D_spreadBy_212
                refine kv_lstore (pc := 212) (lv' := [(8, .long x27), (0, .ref 84), (4, .long x23), (6, .int x20), (7, .int x24)]) rfl (Nat.le_of_ble_eq_true rfl) dk_D_spreadBy_212 ?_
                refine kv_lload (pc := 214) 2 rfl dk_D_spreadBy_214 ?_
                refine kv_lload (pc := 216) 0 rfl dk_D_spreadBy_216 ?_
                refine kv_ldc2 (pc := 218) (v := (9999 : Int64)) kw_1336 dk_D_spreadBy_218 ?_
                refine kv_cut_1 (J := fj_D_spreadBy_233 x23 x24) (pcj := 233) (LJ := fun x28 => [(0, .ref 84), (6, .int x20), (7, .int x24)]) (SJ := fun x28 => [.long x28, .long x23]) (WJ := fun x28 => (c, m1, f18, u)) ?_ (fun hj233 => ?_)
                · intro x28
                  show kv_X _ _ _ _ (fj_D_spreadBy_233 x23 x24 x28) 233 [(0, .ref 84), (6, .int x20), (7, .int x24)] [.long x28, .long x23] (c, m1, f18, u)
                  unfold fj_D_spreadBy_233
                  refine kv_ladd (pc := 233) dk_D_spreadBy_233 ?_
                  refine kv_letJ (fun v29 => ?_)
                  refine kv_lstore (pc := 234) (lv' := [(4, .long v29), (0, .ref 84), (6, .int x20), (7, .int x24)]) rfl (Nat.le_of_ble_eq_true rfl) dk_D_spreadBy_234 ?_
                  refine kv_iinc (pc := 236) (kk := (1 : Int32)) (lv' := [(7, .int (x24 + (1 : Int32))), (4, .long v29), (0, .ref 84), (6, .int x20)]) 3 rfl kki_1 rfl (Nat.le_of_ble_eq_true rfl) dk_D_spreadBy_236 ?_
                  refine kv_goto (pc := 239) (tgt := 148) dk_D_spreadBy_239 rfl ?_
                  exact kv_sub [2, 1, 3, 0] rfl (kv_leaf (fun h => h))
                refine kv_lcmp_le (pc := 221) (tgt := 231) dk_D_spreadBy_221 dk_D_spreadBy_222 rfl ?_ ?_
                · refine kv_lload (pc := 231) 0 rfl dk_D_spreadBy_231 ?_
                  exact kv_sub [1, 3, 4] rfl (hj233 x27)
                · refine kv_ldc2 (pc := 225) (v := (9999 : Int64)) kw_1336 dk_D_spreadBy_225 ?_
                  refine kv_goto (pc := 228) (tgt := 233) dk_D_spreadBy_228 rfl ?_
                  exact kv_sub [1, 3, 4] rfl (hj233 (9999 : Int64))
              refine kv_lcmp_ne (pc := 175) (tgt := 185) dk_D_spreadBy_175 dk_D_spreadBy_176 rfl ?_ ?_
              · refine kv_aload_n (pc := 185) 0 rfl rfl dk_D_spreadBy_185 ?_
                refine kv_getR (pc := 186) kf_D_34 kr_84 rfl kt_84_10 dk_D_spreadBy_186 ?_
                refine kv_bipush (pc := 189) (v := (44 : Int32)) dk_D_spreadBy_189 kkb_44 ?_
                refine kv_iload (pc := 191) 2 rfl dk_D_spreadBy_191 ?_
                refine kv_imul (pc := 193) dk_D_spreadBy_193 ?_
                refine kv_iload (pc := 194) 3 rfl dk_D_spreadBy_194 ?_
                refine kv_iadd (pc := 196) dk_D_spreadBy_196 ?_
                refine kv_aldJ (pc := 197) rfl kr_93 kl_93 g26 rfl dk_D_spreadBy_197 ?_
                refine kv_aload_n (pc := 198) 0 rfl rfl dk_D_spreadBy_198 ?_
                refine kv_getR (pc := 199) kf_D_34 kr_84 rfl kt_84_10 dk_D_spreadBy_199 ?_
                refine kv_bipush (pc := 202) (v := (44 : Int32)) dk_D_spreadBy_202 kkb_44 ?_
                refine kv_iload (pc := 204) 3 rfl dk_D_spreadBy_204 ?_
                refine kv_imul (pc := 206) dk_D_spreadBy_206 ?_
                refine kv_iload (pc := 207) 2 rfl dk_D_spreadBy_207 ?_
                refine kv_iadd (pc := 209) dk_D_spreadBy_209 ?_
                refine kv_guard (fun g30 => ?_)
                refine kv_aldJ (pc := 210) rfl kr_93 kl_93 g30 rfl dk_D_spreadBy_210 ?_
                refine kv_ladd (pc := 211) dk_D_spreadBy_211 ?_
                exact hj212 ((f18 (((44 : Int32) * x20) + x24).toNatClampNeg) + (f18 (((44 : Int32) * x24) + x20).toNatClampNeg))
              · refine kv_ldc2 (pc := 179) (v := (9999 : Int64)) kw_1336 dk_D_spreadBy_179 ?_
                refine kv_goto (pc := 182) (tgt := 212) dk_D_spreadBy_182 rfl ?_
                exact hj212 (9999 : Int64)
    · refine kv_ldc2 (pc := 121) (v := (-1 : Int64)) kw_1532 dk_D_spreadBy_121 ?_
      exact kv_lret (pc := 124) (fun h => h) rfl dk_D_spreadBy_124
  · intro hx24_0 x4 f5
    show kv_X _ _ _ _ (fb_D_spreadBy_24 p1 m1 p2 p3 x4 f5) 24 [(0, .ref 84), (1, .int p1), (2, .int p2), (3, .int p3), (4, .int x4)] [] (c, m1, f5, u)
    unfold fb_D_spreadBy_24
    refine kv_iload (pc := 24) 4 rfl dk_D_spreadBy_24 ?_
    refine kv_aload_n (pc := 26) 0 rfl rfl dk_D_spreadBy_26 ?_
    refine kv_getR (pc := 27) kf_D_22 kr_84 rfl kt_84_4 dk_D_spreadBy_27 ?_
    refine kv_iload_n (pc := 30) 1 rfl rfl dk_D_spreadBy_30 ?_
    refine kv_guard (fun g7 => ?_)
    refine kv_aldM (pc := 31) kr_89 kn_89 kl_89 g7 rfl dk_D_spreadBy_31 ?_
    refine kv_icmp_ge (pc := 32) (tgt := 114) dk_D_spreadBy_32 rfl ?_ ?_
    · exact kv_sub [0] rfl (kv_leaf (hx24_0 _))
    · refine kv_iload_n (pc := 35) 2 rfl rfl dk_D_spreadBy_35 ?_
      refine kv_iload (pc := 36) 4 rfl dk_D_spreadBy_36 ?_
      refine kv_ishr (pc := 38) dk_D_spreadBy_38 ?_
      refine kv_iconst (pc := 39) (v := (1 : Int32)) dk_D_spreadBy_39 kki_1 ?_
      refine kv_iand (pc := 40) dk_D_spreadBy_40 ?_
      refine kv_cut_1 (J := fj_D_spreadBy_108 x4) (pcj := 108) (LJ := fun f8 => [(0, .ref 84), (1, .int p1), (2, .int p2), (3, .int p3), (4, .int x4)]) (SJ := fun f8 => []) (WJ := fun f8 => (c, m1, f8, u)) ?_ (fun hj108 => ?_)
      · intro f8
        show kv_X _ _ _ _ (fj_D_spreadBy_108 x4 f8) 108 [(0, .ref 84), (1, .int p1), (2, .int p2), (3, .int p3), (4, .int x4)] [] (c, m1, f8, u)
        unfold fj_D_spreadBy_108
        refine kv_iinc (pc := 108) (kk := (1 : Int32)) (lv' := [(4, .int (x4 + (1 : Int32))), (0, .ref 84), (1, .int p1), (2, .int p2), (3, .int p3)]) 4 rfl kki_1 rfl (Nat.le_of_ble_eq_true rfl) dk_D_spreadBy_108 ?_
        refine kv_goto (pc := 111) (tgt := 24) dk_D_spreadBy_111 rfl ?_
        exact kv_sub [1, 2, 3, 4, 0] rfl (kv_leaf (fun h => h))
      refine kv_if_ne (pc := 41) (tgt := 47) dk_D_spreadBy_41 rfl ?_ ?_
      · refine kv_aload_n (pc := 47) 0 rfl rfl dk_D_spreadBy_47 ?_
        refine kv_iload_n (pc := 48) 1 rfl rfl dk_D_spreadBy_48 ?_
        refine kv_iload (pc := 49) 4 rfl dk_D_spreadBy_49 ?_
        refine kv_cV_mI (pc := 51) (as := [.int p1, .int x4]) (st := []) ko_D_pairAt kc_11 rfl rfl kr_84 kw_1657 (Nat.le_of_ble_eq_true rfl) rfl dk_D_spreadBy_51 (cx_D_pairAt (d + 2) p1 x4 c m1 f5 u) (fun v9 => ?_)
        refine kv_bipush (pc := 54) (v := (10 : Int32)) dk_D_spreadBy_54 kkb_10 ?_
        refine kv_idiv (pc := 56) dk_D_spreadBy_56 kkn_10 ?_
        refine kv_letI (fun v10 => ?_)
        refine kv_istore (pc := 57) (lv' := [(5, .int v10), (0, .ref 84), (1, .int p1), (2, .int p2), (3, .int p3), (4, .int x4)]) rfl (Nat.le_of_ble_eq_true rfl) dk_D_spreadBy_57 ?_
        refine kv_aload_n (pc := 59) 1 rfl rfl dk_D_spreadBy_59 ?_
        refine kv_iload_n (pc := 60) 2 rfl rfl dk_D_spreadBy_60 ?_
        refine kv_iload (pc := 61) 5 rfl dk_D_spreadBy_61 ?_
        refine kv_cV_mI (pc := 63) (as := [.int p1, .int x4]) (st := []) ko_D_pairAt kc_11 rfl rfl kr_84 kw_1657 (Nat.le_of_ble_eq_true rfl) rfl dk_D_spreadBy_63 (cx_D_pairAt (d + 2) p1 x4 c m1 f5 u) (fun v11 => ?_)
        refine kv_bipush (pc := 66) (v := (10 : Int32)) dk_D_spreadBy_66 kkb_10 ?_
        refine kv_irem (pc := 68) dk_D_spreadBy_68 kkn_10 ?_
        refine kv_letI (fun v12 => ?_)
        refine kv_istore (pc := 69) (lv' := [(6, .int v12), (5, .int v10), (0, .ref 84), (1, .int p1), (2, .int p2), (3, .int p3), (4, .int x4)]) rfl (Nat.le_of_ble_eq_true rfl) dk_D_spreadBy_69 ?_
        refine kv_aload_n (pc := 71) 2 rfl rfl dk_D_spreadBy_71 ?_
        refine kv_iload (pc := 72) 1 rfl dk_D_spreadBy_72 ?_
        refine kv_iconst (pc := 74) (v := (3 : Int32)) dk_D_spreadBy_74 kki_3 ?_
        refine kv_cV_mI (pc := 75) (as := [.int v10, .int (3 : Int32)]) (st := []) ko_D_get kc_11 rfl rfl kr_84 kw_1341 (Nat.le_of_ble_eq_true rfl) rfl dk_D_spreadBy_75 (cx_D_get (d + 2) v10 (3 : Int32) c m1 f5 u) (fun v13 => ?_)
        refine kv_i2l (pc := 78) dk_D_spreadBy_78 ?_
        refine kv_aload_n (pc := 79) 2 rfl rfl dk_D_spreadBy_79 ?_
        refine kv_iload (pc := 80) 0 rfl dk_D_spreadBy_80 ?_
        refine kv_iconst (pc := 82) (v := (3 : Int32)) dk_D_spreadBy_82 kki_3 ?_
        refine kv_cV_mI (pc := 83) (as := [.int v12, .int (3 : Int32)]) (st := [.long v13.toInt64]) ko_D_get kc_11 rfl rfl kr_84 kw_1341 (Nat.le_of_ble_eq_true rfl) rfl dk_D_spreadBy_83 (cx_D_get (d + 2) v12 (3 : Int32) c m1 f5 u) (fun v14 => ?_)
        refine kv_i2l (pc := 86) dk_D_spreadBy_86 ?_
        refine kv_lsub (pc := 87) dk_D_spreadBy_87 ?_
        refine kv_letJ (fun v15 => ?_)
        refine kv_lstore (pc := 88) (lv' := [(7, .long v15), (6, .int v12), (5, .int v10), (0, .ref 84), (1, .int p1), (2, .int p2), (3, .int p3), (4, .int x4)]) rfl (Nat.le_of_ble_eq_true rfl) dk_D_spreadBy_88 ?_
        refine kv_aload_n (pc := 90) 3 rfl rfl dk_D_spreadBy_90 ?_
        refine kv_iload (pc := 91) 2 rfl dk_D_spreadBy_91 ?_
        refine kv_iload (pc := 93) 1 rfl dk_D_spreadBy_93 ?_
        refine kv_lload (pc := 95) 0 rfl dk_D_spreadBy_95 ?_
        refine kv_iload_n (pc := 97) 6 rfl rfl dk_D_spreadBy_97 ?_
        refine kv_i2l (pc := 98) dk_D_spreadBy_98 ?_
        refine kv_lsub (pc := 99) dk_D_spreadBy_99 ?_
        refine kv_lload (pc := 100) 0 rfl dk_D_spreadBy_100 ?_
        refine kv_iload_n (pc := 102) 6 rfl rfl dk_D_spreadBy_102 ?_
        refine kv_i2l (pc := 103) dk_D_spreadBy_103 ?_
        refine kv_ladd (pc := 104) dk_D_spreadBy_104 ?_
        refine kv_cV_mf (pc := 105) (as := [.int v10, .int v12, .long (v15 - p3.toInt64), .long (v15 + p3.toInt64)]) (st := []) ko_D_binds kc_11 rfl rfl kr_84 kw_1468 (Nat.le_of_ble_eq_true rfl) rfl dk_D_spreadBy_105 (cx_D_binds (d + 2) v10 v12 (v15 - p3.toInt64) (v15 + p3.toInt64) c m1 f5 u) (fun f16 => ?_)
        exact kv_sub [3, 4, 5, 6, 7] rfl (hj108 f16)
      · refine kv_goto (pc := 44) (tgt := 108) dk_D_spreadBy_44 rfl ?_
        exact hj108 f5
theorem dk_D_plan_0 : decode prog_13_method_82_code 0 = .ok (.iload_n 1, 1) := by decide +kernel
theorem dk_D_plan_1 : decode prog_13_method_82_code 1 = .ok (.invokestatic 123, 3) := by decide +kernel
theorem dk_D_plan_4 : decode prog_13_method_82_code 4 = .ok (.ifCond .eq 38, 3) := by decide +kernel
theorem dk_D_plan_7 : decode prog_13_method_82_code 7 = .ok (.iload_n 2, 1) := by decide +kernel
theorem dk_D_plan_8 : decode prog_13_method_82_code 8 = .ok (.i2l, 1) := by decide +kernel
theorem dk_D_plan_9 : decode prog_13_method_82_code 9 = .ok (.lconst 0, 1) := by decide +kernel
theorem dk_D_plan_10 : decode prog_13_method_82_code 10 = .ok (.ldc2_w 94, 3) := by decide +kernel
theorem dk_D_plan_13 : decode prog_13_method_82_code 13 = .ok (.invokestatic 60, 3) := by decide +kernel
theorem dk_D_plan_16 : decode prog_13_method_82_code 16 = .ok (.ifCond .eq 26, 3) := by decide +kernel
theorem dk_D_plan_19 : decode prog_13_method_82_code 19 = .ok (.iload_n 3, 1) := by decide +kernel
theorem dk_D_plan_20 : decode prog_13_method_82_code 20 = .ok (.i2l, 1) := by decide +kernel
theorem dk_D_plan_21 : decode prog_13_method_82_code 21 = .ok (.lconst 0, 1) := by decide +kernel
theorem dk_D_plan_22 : decode prog_13_method_82_code 22 = .ok (.ldc2_w 301, 3) := by decide +kernel
theorem dk_D_plan_25 : decode prog_13_method_82_code 25 = .ok (.invokestatic 60, 3) := by decide +kernel
theorem dk_D_plan_28 : decode prog_13_method_82_code 28 = .ok (.ifCond .eq 14, 3) := by decide +kernel
theorem dk_D_plan_31 : decode prog_13_method_82_code 31 = .ok (.iload 4, 2) := by decide +kernel
theorem dk_D_plan_33 : decode prog_13_method_82_code 33 = .ok (.i2l, 1) := by decide +kernel
theorem dk_D_plan_34 : decode prog_13_method_82_code 34 = .ok (.lconst 0, 1) := by decide +kernel
theorem dk_D_plan_35 : decode prog_13_method_82_code 35 = .ok (.lconst 1, 1) := by decide +kernel
theorem dk_D_plan_36 : decode prog_13_method_82_code 36 = .ok (.invokestatic 60, 3) := by decide +kernel
theorem dk_D_plan_39 : decode prog_13_method_82_code 39 = .ok (.ifCond .ne 5, 3) := by decide +kernel
theorem dk_D_plan_42 : decode prog_13_method_82_code 42 = .ok (.iconst (-1), 1) := by decide +kernel
theorem dk_D_plan_43 : decode prog_13_method_82_code 43 = .ok (.ireturn, 1) := by decide +kernel
theorem dk_D_plan_44 : decode prog_13_method_82_code 44 = .ok (.aload_n 0, 1) := by decide +kernel
theorem dk_D_plan_45 : decode prog_13_method_82_code 45 = .ok (.iload_n 1, 1) := by decide +kernel
theorem dk_D_plan_46 : decode prog_13_method_82_code 46 = .ok (.iconst 0, 1) := by decide +kernel
theorem dk_D_plan_47 : decode prog_13_method_82_code 47 = .ok (.invokevirtual 127, 3) := by decide +kernel
theorem dk_D_plan_50 : decode prog_13_method_82_code 50 = .ok (.istore 5, 2) := by decide +kernel
theorem dk_D_plan_52 : decode prog_13_method_82_code 52 = .ok (.iload 5, 2) := by decide +kernel
theorem dk_D_plan_54 : decode prog_13_method_82_code 54 = .ok (.ifCond .eq 6, 3) := by decide +kernel
theorem dk_D_plan_57 : decode prog_13_method_82_code 57 = .ok (.iload 5, 2) := by decide +kernel
theorem dk_D_plan_59 : decode prog_13_method_82_code 59 = .ok (.ireturn, 1) := by decide +kernel
theorem dk_D_plan_60 : decode prog_13_method_82_code 60 = .ok (.aload_n 0, 1) := by decide +kernel
theorem dk_D_plan_61 : decode prog_13_method_82_code 61 = .ok (.getfield 22, 3) := by decide +kernel
theorem dk_D_plan_64 : decode prog_13_method_82_code 64 = .ok (.iload_n 1, 1) := by decide +kernel
theorem dk_D_plan_65 : decode prog_13_method_82_code 65 = .ok (.iaload, 1) := by decide +kernel
theorem dk_D_plan_66 : decode prog_13_method_82_code 66 = .ok (.bipush 8, 2) := by decide +kernel
theorem dk_D_plan_68 : decode prog_13_method_82_code 68 = .ok (.if_icmp .le 6, 3) := by decide +kernel
theorem dk_D_plan_71 : decode prog_13_method_82_code 71 = .ok (.bipush (-13), 2) := by decide +kernel
theorem dk_D_plan_73 : decode prog_13_method_82_code 73 = .ok (.ireturn, 1) := by decide +kernel
theorem dk_D_plan_74 : decode prog_13_method_82_code 74 = .ok (.iconst 0, 1) := by decide +kernel
theorem dk_D_plan_75 : decode prog_13_method_82_code 75 = .ok (.istore 6, 2) := by decide +kernel
theorem dk_D_plan_77 : decode prog_13_method_82_code 77 = .ok (.iload 6, 2) := by decide +kernel
theorem dk_D_plan_79 : decode prog_13_method_82_code 79 = .ok (.aload_n 0, 1) := by decide +kernel
theorem dk_D_plan_80 : decode prog_13_method_82_code 80 = .ok (.getfield 22, 3) := by decide +kernel
theorem dk_D_plan_83 : decode prog_13_method_82_code 83 = .ok (.iload_n 1, 1) := by decide +kernel
theorem dk_D_plan_84 : decode prog_13_method_82_code 84 = .ok (.iaload, 1) := by decide +kernel
theorem dk_D_plan_85 : decode prog_13_method_82_code 85 = .ok (.if_icmp .ge 26, 3) := by decide +kernel
theorem dk_D_plan_88 : decode prog_13_method_82_code 88 = .ok (.aload_n 0, 1) := by decide +kernel
theorem dk_D_plan_89 : decode prog_13_method_82_code 89 = .ok (.aload_n 0, 1) := by decide +kernel
theorem dk_D_plan_90 : decode prog_13_method_82_code 90 = .ok (.iload_n 1, 1) := by decide +kernel
theorem dk_D_plan_91 : decode prog_13_method_82_code 91 = .ok (.iload 6, 2) := by decide +kernel
theorem dk_D_plan_93 : decode prog_13_method_82_code 93 = .ok (.invokevirtual 298, 3) := by decide +kernel
theorem dk_D_plan_96 : decode prog_13_method_82_code 96 = .ok (.invokevirtual 196, 3) := by decide +kernel
theorem dk_D_plan_99 : decode prog_13_method_82_code 99 = .ok (.ifCond .ne 6, 3) := by decide +kernel
theorem dk_D_plan_102 : decode prog_13_method_82_code 102 = .ok (.bipush (-13), 2) := by decide +kernel
theorem dk_D_plan_104 : decode prog_13_method_82_code 104 = .ok (.ireturn, 1) := by decide +kernel
theorem dk_D_plan_105 : decode prog_13_method_82_code 105 = .ok (.iinc 6 1, 3) := by decide +kernel
theorem dk_D_plan_108 : decode prog_13_method_82_code 108 = .ok (.goto (-31), 3) := by decide +kernel
theorem dk_D_plan_111 : decode prog_13_method_82_code 111 = .ok (.aload_n 0, 1) := by decide +kernel
theorem dk_D_plan_112 : decode prog_13_method_82_code 112 = .ok (.aload_n 0, 1) := by decide +kernel
theorem dk_D_plan_113 : decode prog_13_method_82_code 113 = .ok (.getfield 9, 3) := by decide +kernel
theorem dk_D_plan_116 : decode prog_13_method_82_code 116 = .ok (.iconst 0, 1) := by decide +kernel
theorem dk_D_plan_117 : decode prog_13_method_82_code 117 = .ok (.iaload, 1) := by decide +kernel
theorem dk_D_plan_118 : decode prog_13_method_82_code 118 = .ok (.invokevirtual 169, 3) := by decide +kernel
theorem dk_D_plan_121 : decode prog_13_method_82_code 121 = .ok (.ifCond .ne 6, 3) := by decide +kernel
theorem dk_D_plan_124 : decode prog_13_method_82_code 124 = .ok (.bipush (-3), 2) := by decide +kernel
theorem dk_D_plan_126 : decode prog_13_method_82_code 126 = .ok (.ireturn, 1) := by decide +kernel
theorem dk_D_plan_127 : decode prog_13_method_82_code 127 = .ok (.bipush (-4), 2) := by decide +kernel
theorem dk_D_plan_129 : decode prog_13_method_82_code 129 = .ok (.istore 6, 2) := by decide +kernel
theorem dk_D_plan_131 : decode prog_13_method_82_code 131 = .ok (.lconst 0, 1) := by decide +kernel
theorem dk_D_plan_132 : decode prog_13_method_82_code 132 = .ok (.lstore 7, 2) := by decide +kernel
theorem dk_D_plan_134 : decode prog_13_method_82_code 134 = .ok (.iconst 0, 1) := by decide +kernel
theorem dk_D_plan_135 : decode prog_13_method_82_code 135 = .ok (.istore 9, 2) := by decide +kernel
theorem dk_D_plan_137 : decode prog_13_method_82_code 137 = .ok (.iload 9, 2) := by decide +kernel
theorem dk_D_plan_139 : decode prog_13_method_82_code 139 = .ok (.iconst 1, 1) := by decide +kernel
theorem dk_D_plan_140 : decode prog_13_method_82_code 140 = .ok (.aload_n 0, 1) := by decide +kernel
theorem dk_D_plan_141 : decode prog_13_method_82_code 141 = .ok (.getfield 22, 3) := by decide +kernel
theorem dk_D_plan_144 : decode prog_13_method_82_code 144 = .ok (.iload_n 1, 1) := by decide +kernel
theorem dk_D_plan_145 : decode prog_13_method_82_code 145 = .ok (.iaload, 1) := by decide +kernel
theorem dk_D_plan_146 : decode prog_13_method_82_code 146 = .ok (.ishl, 1) := by decide +kernel
theorem dk_D_plan_147 : decode prog_13_method_82_code 147 = .ok (.if_icmp .ge 94, 3) := by decide +kernel
theorem dk_D_plan_150 : decode prog_13_method_82_code 150 = .ok (.iload 9, 2) := by decide +kernel
theorem dk_D_plan_152 : decode prog_13_method_82_code 152 = .ok (.invokestatic 201, 3) := by decide +kernel
theorem dk_D_plan_155 : decode prog_13_method_82_code 155 = .ok (.iconst 4, 1) := by decide +kernel
theorem dk_D_plan_156 : decode prog_13_method_82_code 156 = .ok (.if_icmp .gt 79, 3) := by decide +kernel
theorem dk_D_plan_159 : decode prog_13_method_82_code 159 = .ok (.aload_n 0, 1) := by decide +kernel
theorem dk_D_plan_160 : decode prog_13_method_82_code 160 = .ok (.iload_n 1, 1) := by decide +kernel
theorem dk_D_plan_161 : decode prog_13_method_82_code 161 = .ok (.iload 9, 2) := by decide +kernel
theorem dk_D_plan_163 : decode prog_13_method_82_code 163 = .ok (.invokevirtual 303, 3) := by decide +kernel
theorem dk_D_plan_166 : decode prog_13_method_82_code 166 = .ok (.iload_n 3, 1) := by decide +kernel
theorem dk_D_plan_167 : decode prog_13_method_82_code 167 = .ok (.if_icmp .le 6, 3) := by decide +kernel
theorem dk_D_plan_170 : decode prog_13_method_82_code 170 = .ok (.goto 65, 3) := by decide +kernel
theorem dk_D_plan_173 : decode prog_13_method_82_code 173 = .ok (.aload_n 0, 1) := by decide +kernel
theorem dk_D_plan_174 : decode prog_13_method_82_code 174 = .ok (.iload_n 1, 1) := by decide +kernel
theorem dk_D_plan_175 : decode prog_13_method_82_code 175 = .ok (.iload 9, 2) := by decide +kernel
theorem dk_D_plan_177 : decode prog_13_method_82_code 177 = .ok (.iload_n 2, 1) := by decide +kernel
theorem dk_D_plan_178 : decode prog_13_method_82_code 178 = .ok (.invokevirtual 306, 3) := by decide +kernel
theorem dk_D_plan_181 : decode prog_13_method_82_code 181 = .ok (.lstore 10, 2) := by decide +kernel
theorem dk_D_plan_183 : decode prog_13_method_82_code 183 = .ok (.lload 10, 2) := by decide +kernel
theorem dk_D_plan_185 : decode prog_13_method_82_code 185 = .ok (.lconst 0, 1) := by decide +kernel
theorem dk_D_plan_186 : decode prog_13_method_82_code 186 = .ok (.lcmp, 1) := by decide +kernel
theorem dk_D_plan_187 : decode prog_13_method_82_code 187 = .ok (.ifCond .lt 48, 3) := by decide +kernel
theorem dk_D_plan_190 : decode prog_13_method_82_code 190 = .ok (.iload 6, 2) := by decide +kernel
theorem dk_D_plan_192 : decode prog_13_method_82_code 192 = .ok (.ifCond .lt 35, 3) := by decide +kernel
theorem dk_D_plan_195 : decode prog_13_method_82_code 195 = .ok (.lload 10, 2) := by decide +kernel
theorem dk_D_plan_197 : decode prog_13_method_82_code 197 = .ok (.lload 7, 2) := by decide +kernel
theorem dk_D_plan_199 : decode prog_13_method_82_code 199 = .ok (.lcmp, 1) := by decide +kernel
theorem dk_D_plan_200 : decode prog_13_method_82_code 200 = .ok (.ifCond .gt 35, 3) := by decide +kernel
theorem dk_D_plan_203 : decode prog_13_method_82_code 203 = .ok (.lload 10, 2) := by decide +kernel
theorem dk_D_plan_205 : decode prog_13_method_82_code 205 = .ok (.lload 7, 2) := by decide +kernel
theorem dk_D_plan_207 : decode prog_13_method_82_code 207 = .ok (.lcmp, 1) := by decide +kernel
theorem dk_D_plan_208 : decode prog_13_method_82_code 208 = .ok (.ifCond .ne 19, 3) := by decide +kernel
theorem dk_D_plan_211 : decode prog_13_method_82_code 211 = .ok (.iload 9, 2) := by decide +kernel
theorem dk_D_plan_213 : decode prog_13_method_82_code 213 = .ok (.invokestatic 201, 3) := by decide +kernel
theorem dk_D_plan_216 : decode prog_13_method_82_code 216 = .ok (.iload 6, 2) := by decide +kernel
theorem dk_D_plan_218 : decode prog_13_method_82_code 218 = .ok (.invokestatic 201, 3) := by decide +kernel
theorem dk_D_plan_221 : decode prog_13_method_82_code 221 = .ok (.if_icmp .lt 6, 3) := by decide +kernel
theorem dk_D_plan_224 : decode prog_13_method_82_code 224 = .ok (.goto 11, 3) := by decide +kernel
theorem dk_D_plan_227 : decode prog_13_method_82_code 227 = .ok (.iload 9, 2) := by decide +kernel
theorem dk_D_plan_229 : decode prog_13_method_82_code 229 = .ok (.istore 6, 2) := by decide +kernel
theorem dk_D_plan_231 : decode prog_13_method_82_code 231 = .ok (.lload 10, 2) := by decide +kernel
theorem dk_D_plan_233 : decode prog_13_method_82_code 233 = .ok (.lstore 7, 2) := by decide +kernel
theorem dk_D_plan_235 : decode prog_13_method_82_code 235 = .ok (.iinc 9 1, 3) := by decide +kernel
theorem dk_D_plan_238 : decode prog_13_method_82_code 238 = .ok (.goto (-101), 3) := by decide +kernel
theorem dk_D_plan_241 : decode prog_13_method_82_code 241 = .ok (.iload 4, 2) := by decide +kernel
theorem dk_D_plan_243 : decode prog_13_method_82_code 243 = .ok (.ifCond .ne 8, 3) := by decide +kernel
theorem dk_D_plan_246 : decode prog_13_method_82_code 246 = .ok (.iload 6, 2) := by decide +kernel
theorem dk_D_plan_248 : decode prog_13_method_82_code 248 = .ok (.goto 6, 3) := by decide +kernel
theorem dk_D_plan_251 : decode prog_13_method_82_code 251 = .ok (.lload 7, 2) := by decide +kernel
theorem dk_D_plan_253 : decode prog_13_method_82_code 253 = .ok (.l2i, 1) := by decide +kernel
theorem dk_D_plan_254 : decode prog_13_method_82_code 254 = .ok (.ireturn, 1) := by decide +kernel
noncomputable def fb_D_plan_77 (m : (Nat → Nat → Int32)) (p1 : Int32) (x7 : Int32) : Option (Int32 ⊕ (Unit ⊕ Unit)) :=
  if (m 89 p1.toNatClampNeg) ≤ x7 then
    some (.inr (.inr ()))
  else
    kv_bind1 (fx_D_pairAt p1 x7 m) (fun v8 =>
    kv_bind1 (fx_D_isPair v8 m) (fun b9 =>
    if b9 = true then
      some (.inl (x7 + (1 : Int32)))
    else
      some (.inr (.inl ()))))
noncomputable def fj_D_plan_235 (x15 : Int32) (x23 : Int32) (x24 : Int64) (m25 : (Nat → Nat → Int32)) (f26 : (Nat → Int64)) : Option ((Int32 × Int64 × Int32 × (Nat → Nat → Int32) × (Nat → Int64)) ⊕ (Int32 × Int64 × (Nat → Nat → Int32) × (Nat → Int64))) :=
  some (.inl (x23, x24, (x15 + (1 : Int32)), m25, f26))
noncomputable def fj_D_plan_227 (x15 : Int32) (v28 : Int64) (m29 : (Nat → Nat → Int32)) (f30 : (Nat → Int64)) : Option ((Int32 × Int64 × Int32 × (Nat → Nat → Int32) × (Nat → Int64)) ⊕ (Int32 × Int64 × (Nat → Nat → Int32) × (Nat → Int64))) :=
  fj_D_plan_235 x15 x15 v28 m29 f30
noncomputable def fb_D_plan_137 (p1 : Int32) (p3 : Int32) (p2 : Int32) (x13 : Int32) (x14 : Int64) (x15 : Int32) (m16 : (Nat → Nat → Int32)) (f17 : (Nat → Int64)) : Option ((Int32 × Int64 × Int32 × (Nat → Nat → Int32) × (Nat → Int64)) ⊕ (Int32 × Int64 × (Nat → Nat → Int32) × (Nat → Int64))) :=
  if ((1 : Int32) <<< ((m16 89 p1.toNatClampNeg) &&& 31)) ≤ x15 then
    some (.inr (x13, x14, m16, f17))
  else
    kv_bind1 (fx_D_bits x15) (fun v22 =>
    if (4 : Int32) < v22 then
      fj_D_plan_235 x15 x13 x14 m16 f17
    else
      kv_bind1 (fx_D_primesIn p1 x15 m16) (fun v27 =>
      if v27 ≤ p3 then
        kv_bind3 (fx_D_spreadBy p1 x15 p2 m16 f17) (fun v28 m29 f30 =>
        if v28 < (0 : Int64) then
          fj_D_plan_235 x15 x13 x14 m29 f30
        else
          if x13 < 0 then
            fj_D_plan_227 x15 v28 m29 f30
          else
            if x14 < v28 then
              fj_D_plan_235 x15 x13 x14 m29 f30
            else
              if v28 = x14 then
                kv_bind1 (fx_D_bits x15) (fun v31 =>
                kv_bind1 (fx_D_bits x13) (fun v32 =>
                if v31 < v32 then
                  fj_D_plan_227 x15 v28 m29 f30
                else
                  fj_D_plan_235 x15 x13 x14 m29 f30))
              else
                fj_D_plan_227 x15 v28 m29 f30)
      else
        fj_D_plan_235 x15 x13 x14 m16 f17))
noncomputable def fx_D_plan (p1 : Int32) (p2 : Int32) (p3 : Int32) (p4 : Int32) (m : (Nat → Nat → Int32)) (f : (Nat → Int64)) : Option (Int32 × (Nat → Nat → Int32) × (Nat → Int64)) :=
  kv_bind1 (fx_D_isShelf p1) (fun b1 =>
  if b1 = true then
    kv_bind1 (fx_D_isIn p2.toInt64 (0 : Int64) (99 : Int64)) (fun b2 =>
    if b2 = true then
      kv_bind1 (fx_D_isIn p3.toInt64 (0 : Int64) (4 : Int64)) (fun b3 =>
      if b3 = true then
        kv_bind1 (fx_D_isIn p4.toInt64 (0 : Int64) (1 : Int64)) (fun b4 =>
        if b4 = true then
          kv_bind1 (fx_D_wrongRow p1 (0 : Int32) m) (fun v5 =>
          if v5 = 0 then
            kv_gd (kv_in p1 8) (
            if (m 89 p1.toNatClampNeg) ≤ (8 : Int32) then
              (kv_loop (kv_u1 (fb_D_plan_77 m p1)) (0 : Int32)).bind (Sum.elim (kv_u0 (
              some ((-13 : Int32), m, f)))
               (kv_u0 (
              kv_bind3 (fx_D_fitsYear (m 85 0) m f) (fun b10 m11 f12 =>
              if b10 = true then
                (kv_loop (kv_u5 (fb_D_plan_137 p1 p3 p2)) ((-4 : Int32), (0 : Int64), (0 : Int32), m11, f12)).bind (kv_u4 (fun x18 x19 m20 f21 =>
                if p4 = 0 then
                  some (x18, m20, f21)
                else
                  some (x19.toInt32, m20, f21)))
              else
                some ((-3 : Int32), m11, f12)))))
            else
              some ((-13 : Int32), m, f))
          else
            some (v5, m, f))
        else
          some ((-1 : Int32), m, f))
      else
        some ((-1 : Int32), m, f))
    else
      some ((-1 : Int32), m, f))
  else
    some ((-1 : Int32), m, f))
set_option maxRecDepth 20000 in
theorem cx_D_plan (d : Nat) (p1 : Int32) (p2 : Int32) (p3 : Int32) (p4 : Int32) (c : (Nat → Nat → Int32)) (m : (Nat → Nat → Int32)) (f : (Nat → Int64)) (u : (Nat → Int64)) : ∀ a, fx_D_plan p1 p2 p3 p4 m f = some a → kv_C kM_D_plan (d + 4) [.ref 84, .int p1, .int p2, .int p3, .int p4] (c, m, f, u) (some (.int a.1), (c, a.2.1, a.2.2, u)) := by
  refine kv_entryX (E := fun a : (Int32 × (Nat → Nat → Int32) × (Nat → Int64)) => (some (.int a.1), (c, a.2.1, a.2.2, u))) rfl (Nat.le_of_ble_eq_true rfl) (fun o => ?_)
  unfold fx_D_plan
  show kv_X _ _ _ _ _ 0 [(0, .ref 84), (1, .int p1), (2, .int p2), (3, .int p3), (4, .int p4)] [] (c, m, f, u)
  refine kv_iload_n (pc := 0) 1 rfl rfl dk_D_plan_0 ?_
  refine kv_cS_mZ (pc := 1) (as := [.int p1]) (st := []) ko_D_isShelf rfl kw_1416 (Nat.le_of_ble_eq_true rfl) rfl dk_D_plan_1 (cx_D_isShelf (d + 2) p1 c m f u) (fun b1 => ?_)
  refine kv_zif_eq (pc := 4) (tgt := 42) dk_D_plan_4 rfl ?_ ?_
  · refine kv_iconst (pc := 42) (v := (-1 : Int32)) dk_D_plan_42 kki_m1 ?_
    exact kv_iret (pc := 43) (fun h => h) rfl dk_D_plan_43
  · refine kv_iload_n (pc := 7) 2 rfl rfl dk_D_plan_7 ?_
    refine kv_i2l (pc := 8) dk_D_plan_8 ?_
    refine kv_lconst (pc := 9) (v := (0 : Int64)) dk_D_plan_9 kkl_0 ?_
    refine kv_ldc2 (pc := 10) (v := (99 : Int64)) kw_1356 dk_D_plan_10 ?_
    refine kv_cS_mZ (pc := 13) (as := [.long p2.toInt64, .long (0 : Int64), .long (99 : Int64)]) (st := []) ko_D_isIn rfl kw_1330 (Nat.le_of_ble_eq_true rfl) rfl dk_D_plan_13 (cx_D_isIn (d + 3) p2.toInt64 (0 : Int64) (99 : Int64) c m f u) (fun b2 => ?_)
    refine kv_zif_eq (pc := 16) (tgt := 42) dk_D_plan_16 rfl ?_ ?_
    · refine kv_iconst (pc := 42) (v := (-1 : Int32)) dk_D_plan_42 kki_m1 ?_
      exact kv_iret (pc := 43) (fun h => h) rfl dk_D_plan_43
    · refine kv_iload_n (pc := 19) 3 rfl rfl dk_D_plan_19 ?_
      refine kv_i2l (pc := 20) dk_D_plan_20 ?_
      refine kv_lconst (pc := 21) (v := (0 : Int64)) dk_D_plan_21 kkl_0 ?_
      refine kv_ldc2 (pc := 22) (v := (4 : Int64)) kw_1656 dk_D_plan_22 ?_
      refine kv_cS_mZ (pc := 25) (as := [.long p3.toInt64, .long (0 : Int64), .long (4 : Int64)]) (st := []) ko_D_isIn rfl kw_1330 (Nat.le_of_ble_eq_true rfl) rfl dk_D_plan_25 (cx_D_isIn (d + 3) p3.toInt64 (0 : Int64) (4 : Int64) c m f u) (fun b3 => ?_)
      refine kv_zif_eq (pc := 28) (tgt := 42) dk_D_plan_28 rfl ?_ ?_
      · refine kv_iconst (pc := 42) (v := (-1 : Int32)) dk_D_plan_42 kki_m1 ?_
        exact kv_iret (pc := 43) (fun h => h) rfl dk_D_plan_43
      · refine kv_iload (pc := 31) 4 rfl dk_D_plan_31 ?_
        refine kv_i2l (pc := 33) dk_D_plan_33 ?_
        refine kv_lconst (pc := 34) (v := (0 : Int64)) dk_D_plan_34 kkl_0 ?_
        refine kv_lconst (pc := 35) (v := (1 : Int64)) dk_D_plan_35 kkl_1 ?_
        refine kv_cS_mZ (pc := 36) (as := [.long p4.toInt64, .long (0 : Int64), .long (1 : Int64)]) (st := []) ko_D_isIn rfl kw_1330 (Nat.le_of_ble_eq_true rfl) rfl dk_D_plan_36 (cx_D_isIn (d + 3) p4.toInt64 (0 : Int64) (1 : Int64) c m f u) (fun b4 => ?_)
        refine kv_zif_ne (pc := 39) (tgt := 44) dk_D_plan_39 rfl ?_ ?_
        · refine kv_aload_n (pc := 44) 0 rfl rfl dk_D_plan_44 ?_
          refine kv_iload_n (pc := 45) 1 rfl rfl dk_D_plan_45 ?_
          refine kv_iconst (pc := 46) (v := (0 : Int32)) dk_D_plan_46 kki_0 ?_
          refine kv_cV_mI (pc := 47) (as := [.int p1, .int (0 : Int32)]) (st := []) ko_D_wrongRow kc_11 rfl rfl kr_84 kw_1412 (Nat.le_of_ble_eq_true rfl) rfl dk_D_plan_47 (cx_D_wrongRow (d + 1) p1 (0 : Int32) c m f u) (fun v5 => ?_)
          refine kv_istore (pc := 50) (lv' := [(5, .int v5), (0, .ref 84), (1, .int p1), (2, .int p2), (3, .int p3), (4, .int p4)]) rfl (Nat.le_of_ble_eq_true rfl) dk_D_plan_50 ?_
          refine kv_iload (pc := 52) 0 rfl dk_D_plan_52 ?_
          refine kv_if_eq (pc := 54) (tgt := 60) dk_D_plan_54 rfl ?_ ?_
          · refine kv_aload_n (pc := 60) 1 rfl rfl dk_D_plan_60 ?_
            refine kv_getR (pc := 61) kf_D_22 kr_84 rfl kt_84_4 dk_D_plan_61 ?_
            refine kv_iload_n (pc := 64) 2 rfl rfl dk_D_plan_64 ?_
            refine kv_guard (fun g6 => ?_)
            refine kv_aldM (pc := 65) kr_89 kn_89 kl_89 g6 rfl dk_D_plan_65 ?_
            refine kv_bipush (pc := 66) (v := (8 : Int32)) dk_D_plan_66 kkb_8 ?_
            refine kv_icmp_le (pc := 68) (tgt := 74) dk_D_plan_68 rfl ?_ ?_
            · refine kv_iconst (pc := 74) (v := (0 : Int32)) dk_D_plan_74 kki_0 ?_
              refine kv_istore (pc := 75) (lv' := [(6, .int (0 : Int32)), (5, .int v5), (0, .ref 84), (1, .int p1), (2, .int p2), (3, .int p3), (4, .int p4)]) rfl (Nat.le_of_ble_eq_true rfl) dk_D_plan_75 ?_
              refine kv_sub (lv' := [(0, .ref 84), (1, .int p1), (2, .int p2), (3, .int p3), (4, .int p4), (6, .int (0 : Int32))]) [2, 3, 4, 5, 6, 0] rfl ?_
              refine kv_lp_1_0_0 (LV := fun x7 => [(0, .ref 84), (1, .int p1), (2, .int p2), (3, .int p3), (4, .int p4), (6, .int x7)]) (WW := fun x7 => (c, m, f, u)) (LE1 := []) (WE1 := (c, m, f, u)) (pe1 := 102) (LE2 := [(0, .ref 84), (1, .int p1), (2, .int p2), (3, .int p3), (4, .int p4)]) (WE2 := (c, m, f, u)) (pe2 := 111) ?_ ?_ ?_
              · show kv_X _ _ _ _ _ 102 [] [] (c, m, f, u)
                refine kv_bipush (pc := 102) (v := (-13 : Int32)) dk_D_plan_102 kkb_m13 ?_
                exact kv_iret (pc := 104) (fun h => h) rfl dk_D_plan_104
              · show kv_X _ _ _ _ _ 111 [(0, .ref 84), (1, .int p1), (2, .int p2), (3, .int p3), (4, .int p4)] [] (c, m, f, u)
                refine kv_aload_n (pc := 111) 0 rfl rfl dk_D_plan_111 ?_
                refine kv_aload_n (pc := 112) 0 rfl rfl dk_D_plan_112 ?_
                refine kv_getR (pc := 113) kf_D_9 kr_84 rfl kt_84_0 dk_D_plan_113 ?_
                refine kv_iconst (pc := 116) (v := (0 : Int32)) dk_D_plan_116 kki_0 ?_
                refine kv_aldM (pc := 117) kr_85 kn_85 kl_85 kkg_0_444 (j := 0) kkx_0 dk_D_plan_117 ?_
                refine kv_cV_mZmf (pc := 118) (as := [.int (m 85 0)]) (st := []) ko_D_fitsYear kc_11 rfl rfl kr_84 kw_1451 (Nat.le_of_ble_eq_true rfl) rfl dk_D_plan_118 (cx_D_fitsYear d (m 85 0) c m f u) (fun b10 m11 f12 => ?_)
                refine kv_zif_ne (pc := 121) (tgt := 127) dk_D_plan_121 rfl ?_ ?_
                · refine kv_bipush (pc := 127) (v := (-4 : Int32)) dk_D_plan_127 kkb_m4 ?_
                  refine kv_istore (pc := 129) (lv' := [(6, .int (-4 : Int32)), (0, .ref 84), (1, .int p1), (2, .int p2), (3, .int p3), (4, .int p4)]) rfl (Nat.le_of_ble_eq_true rfl) dk_D_plan_129 ?_
                  refine kv_lconst (pc := 131) (v := (0 : Int64)) dk_D_plan_131 kkl_0 ?_
                  refine kv_lstore (pc := 132) (lv' := [(7, .long (0 : Int64)), (6, .int (-4 : Int32)), (0, .ref 84), (1, .int p1), (2, .int p2), (3, .int p3), (4, .int p4)]) rfl (Nat.le_of_ble_eq_true rfl) dk_D_plan_132 ?_
                  refine kv_iconst (pc := 134) (v := (0 : Int32)) dk_D_plan_134 kki_0 ?_
                  refine kv_istore (pc := 135) (lv' := [(9, .int (0 : Int32)), (7, .long (0 : Int64)), (6, .int (-4 : Int32)), (0, .ref 84), (1, .int p1), (2, .int p2), (3, .int p3), (4, .int p4)]) rfl (Nat.le_of_ble_eq_true rfl) dk_D_plan_135 ?_
                  refine kv_sub (lv' := [(0, .ref 84), (1, .int p1), (2, .int p2), (3, .int p3), (4, .int p4), (6, .int (-4 : Int32)), (7, .long (0 : Int64)), (9, .int (0 : Int32))]) [3, 4, 5, 6, 7, 2, 1, 0] rfl ?_
                  refine kv_lp_5_4 (LV := fun x13 x14 x15 m16 f17 => [(0, .ref 84), (1, .int p1), (2, .int p2), (3, .int p3), (4, .int p4), (6, .int x13), (7, .long x14), (9, .int x15)]) (WW := fun x13 x14 x15 m16 f17 => (c, m16, f17, u)) (LE1 := fun x18 x19 m20 f21 => [(4, .int p4), (6, .int x18), (7, .long x19)]) (WE1 := fun x18 x19 m20 f21 => (c, m20, f21, u)) (pe1 := 241) ?_ ?_
                  · intro x18 x19 m20 f21
                    show kv_X _ _ _ _ _ 241 [(4, .int p4), (6, .int x18), (7, .long x19)] [] (c, m20, f21, u)
                    refine kv_iload (pc := 241) 0 rfl dk_D_plan_241 ?_
                    refine kv_if_ne (pc := 243) (tgt := 251) dk_D_plan_243 rfl ?_ ?_
                    · refine kv_lload (pc := 251) 2 rfl dk_D_plan_251 ?_
                      refine kv_l2i (pc := 253) dk_D_plan_253 ?_
                      exact kv_iret (pc := 254) (fun h => h) rfl dk_D_plan_254
                    · refine kv_iload (pc := 246) 1 rfl dk_D_plan_246 ?_
                      refine kv_goto (pc := 248) (tgt := 254) dk_D_plan_248 rfl ?_
                      exact kv_iret (pc := 254) (fun h => h) rfl dk_D_plan_254
                  · intro hx137_0 x13 x14 x15 m16 f17
                    show kv_X _ _ _ _ (fb_D_plan_137 p1 p3 p2 x13 x14 x15 m16 f17) 137 [(0, .ref 84), (1, .int p1), (2, .int p2), (3, .int p3), (4, .int p4), (6, .int x13), (7, .long x14), (9, .int x15)] [] (c, m16, f17, u)
                    unfold fb_D_plan_137
                    refine kv_iload (pc := 137) 7 rfl dk_D_plan_137 ?_
                    refine kv_iconst (pc := 139) (v := (1 : Int32)) dk_D_plan_139 kki_1 ?_
                    refine kv_aload_n (pc := 140) 0 rfl rfl dk_D_plan_140 ?_
                    refine kv_getR (pc := 141) kf_D_22 kr_84 rfl kt_84_4 dk_D_plan_141 ?_
                    refine kv_iload_n (pc := 144) 1 rfl rfl dk_D_plan_144 ?_
                    refine kv_aldM (pc := 145) kr_89 kn_89 kl_89 g6 rfl dk_D_plan_145 ?_
                    refine kv_ishl (pc := 146) dk_D_plan_146 ?_
                    refine kv_icmp_ge (pc := 147) (tgt := 241) dk_D_plan_147 rfl ?_ ?_
                    · exact kv_sub [4, 5, 6] rfl (kv_leaf (hx137_0 _ _ _ _))
                    · refine kv_iload (pc := 150) 7 rfl dk_D_plan_150 ?_
                      refine kv_cS_mI (pc := 152) (as := [.int x15]) (st := []) ko_D_bits rfl kw_1525 (Nat.le_of_ble_eq_true rfl) rfl dk_D_plan_152 (cx_D_bits (d + 3) x15 c m16 f17 u) (fun v22 => ?_)
                      refine kv_iconst (pc := 155) (v := (4 : Int32)) dk_D_plan_155 kki_4 ?_
                      refine kv_cut_4 (J := fj_D_plan_235 x15) (pcj := 235) (LJ := fun x23 x24 m25 f26 => [(0, .ref 84), (1, .int p1), (2, .int p2), (3, .int p3), (4, .int p4), (6, .int x23), (7, .long x24), (9, .int x15)]) (SJ := fun x23 x24 m25 f26 => []) (WJ := fun x23 x24 m25 f26 => (c, m25, f26, u)) ?_ (fun hj235 => ?_)
                      · intro x23 x24 m25 f26
                        show kv_X _ _ _ _ (fj_D_plan_235 x15 x23 x24 m25 f26) 235 [(0, .ref 84), (1, .int p1), (2, .int p2), (3, .int p3), (4, .int p4), (6, .int x23), (7, .long x24), (9, .int x15)] [] (c, m25, f26, u)
                        unfold fj_D_plan_235
                        refine kv_iinc (pc := 235) (kk := (1 : Int32)) (lv' := [(9, .int (x15 + (1 : Int32))), (0, .ref 84), (1, .int p1), (2, .int p2), (3, .int p3), (4, .int p4), (6, .int x23), (7, .long x24)]) 7 rfl kki_1 rfl (Nat.le_of_ble_eq_true rfl) dk_D_plan_235 ?_
                        refine kv_goto (pc := 238) (tgt := 137) dk_D_plan_238 rfl ?_
                        exact kv_sub [1, 2, 3, 4, 5, 6, 7, 0] rfl (kv_leaf (fun h => h))
                      refine kv_icmp_gt (pc := 156) (tgt := 235) dk_D_plan_156 rfl ?_ ?_
                      · exact hj235 x13 x14 m16 f17
                      · refine kv_aload_n (pc := 159) 0 rfl rfl dk_D_plan_159 ?_
                        refine kv_iload_n (pc := 160) 1 rfl rfl dk_D_plan_160 ?_
                        refine kv_iload (pc := 161) 7 rfl dk_D_plan_161 ?_
                        refine kv_cV_mI (pc := 163) (as := [.int p1, .int x15]) (st := []) ko_D_primesIn kc_11 rfl rfl kr_84 kw_1661 (Nat.le_of_ble_eq_true rfl) rfl dk_D_plan_163 (cx_D_primesIn (d + 2) p1 x15 c m16 f17 u) (fun v27 => ?_)
                        refine kv_iload_n (pc := 166) 3 rfl rfl dk_D_plan_166 ?_
                        refine kv_icmp_le (pc := 167) (tgt := 173) dk_D_plan_167 rfl ?_ ?_
                        · refine kv_aload_n (pc := 173) 0 rfl rfl dk_D_plan_173 ?_
                          refine kv_iload_n (pc := 174) 1 rfl rfl dk_D_plan_174 ?_
                          refine kv_iload (pc := 175) 7 rfl dk_D_plan_175 ?_
                          refine kv_iload_n (pc := 177) 2 rfl rfl dk_D_plan_177 ?_
                          refine kv_cV_mJmf (pc := 178) (as := [.int p1, .int x15, .int p2]) (st := []) ko_D_spreadBy kc_11 rfl rfl kr_84 kw_1665 (Nat.le_of_ble_eq_true rfl) rfl dk_D_plan_178 (cx_D_spreadBy d p1 x15 p2 c m16 f17 u) (fun v28 m29 f30 => ?_)
                          refine kv_lstore (pc := 181) (lv' := [(10, .long v28), (0, .ref 84), (1, .int p1), (2, .int p2), (3, .int p3), (4, .int p4), (6, .int x13), (7, .long x14), (9, .int x15)]) rfl (Nat.le_of_ble_eq_true rfl) dk_D_plan_181 ?_
                          refine kv_lload (pc := 183) 0 rfl dk_D_plan_183 ?_
                          refine kv_lconst (pc := 185) (v := (0 : Int64)) dk_D_plan_185 kkl_0 ?_
                          refine kv_lcmp_lt (pc := 186) (tgt := 235) dk_D_plan_186 dk_D_plan_187 rfl ?_ ?_
                          · exact kv_sub [1, 2, 3, 4, 5, 6, 7, 8] rfl (hj235 x13 x14 m29 f30)
                          · refine kv_iload (pc := 190) 6 rfl dk_D_plan_190 ?_
                            refine kv_cut_0 (J := fj_D_plan_227 x15 v28 m29 f30) (pcj := 227) (LJ := [(0, .ref 84), (1, .int p1), (2, .int p2), (3, .int p3), (4, .int p4), (9, .int x15), (10, .long v28)]) (SJ := []) (WJ := (c, m29, f30, u)) ?_ (fun hj227 => ?_)
                            · show kv_X _ _ _ _ (fj_D_plan_227 x15 v28 m29 f30) 227 [(0, .ref 84), (1, .int p1), (2, .int p2), (3, .int p3), (4, .int p4), (9, .int x15), (10, .long v28)] [] (c, m29, f30, u)
                              unfold fj_D_plan_227
                              refine kv_iload (pc := 227) 5 rfl dk_D_plan_227 ?_
                              refine kv_istore (pc := 229) (lv' := [(6, .int x15), (0, .ref 84), (1, .int p1), (2, .int p2), (3, .int p3), (4, .int p4), (9, .int x15), (10, .long v28)]) rfl (Nat.le_of_ble_eq_true rfl) dk_D_plan_229 ?_
                              refine kv_lload (pc := 231) 7 rfl dk_D_plan_231 ?_
                              refine kv_lstore (pc := 233) (lv' := [(7, .long v28), (6, .int x15), (0, .ref 84), (1, .int p1), (2, .int p2), (3, .int p3), (4, .int p4), (9, .int x15), (10, .long v28)]) rfl (Nat.le_of_ble_eq_true rfl) dk_D_plan_233 ?_
                              exact kv_sub [2, 3, 4, 5, 6, 1, 0, 7] rfl (hj235 x15 v28 m29 f30)
                            refine kv_if_lt (pc := 192) (tgt := 227) dk_D_plan_192 rfl ?_ ?_
                            · exact kv_sub [1, 2, 3, 4, 5, 8, 0] rfl (hj227)
                            · refine kv_lload (pc := 195) 0 rfl dk_D_plan_195 ?_
                              refine kv_lload (pc := 197) 7 rfl dk_D_plan_197 ?_
                              refine kv_lcmp_gt (pc := 199) (tgt := 235) dk_D_plan_199 dk_D_plan_200 rfl ?_ ?_
                              · exact kv_sub [1, 2, 3, 4, 5, 6, 7, 8] rfl (hj235 x13 x14 m29 f30)
                              · refine kv_lload (pc := 203) 0 rfl dk_D_plan_203 ?_
                                refine kv_lload (pc := 205) 7 rfl dk_D_plan_205 ?_
                                refine kv_lcmp_ne (pc := 207) (tgt := 227) dk_D_plan_207 dk_D_plan_208 rfl ?_ ?_
                                · exact kv_sub [1, 2, 3, 4, 5, 8, 0] rfl (hj227)
                                · refine kv_iload (pc := 211) 8 rfl dk_D_plan_211 ?_
                                  refine kv_cS_mI (pc := 213) (as := [.int x15]) (st := []) ko_D_bits rfl kw_1525 (Nat.le_of_ble_eq_true rfl) rfl dk_D_plan_213 (cx_D_bits (d + 3) x15 c m29 f30 u) (fun v31 => ?_)
                                  refine kv_iload (pc := 216) 6 rfl dk_D_plan_216 ?_
                                  refine kv_cS_mI (pc := 218) (as := [.int x13]) (st := [.int v31]) ko_D_bits rfl kw_1525 (Nat.le_of_ble_eq_true rfl) rfl dk_D_plan_218 (cx_D_bits (d + 3) x13 c m29 f30 u) (fun v32 => ?_)
                                  refine kv_icmp_lt (pc := 221) (tgt := 227) dk_D_plan_221 rfl ?_ ?_
                                  · exact kv_sub [1, 2, 3, 4, 5, 8, 0] rfl (hj227)
                                  · refine kv_goto (pc := 224) (tgt := 235) dk_D_plan_224 rfl ?_
                                    exact kv_sub [1, 2, 3, 4, 5, 6, 7, 8] rfl (hj235 x13 x14 m29 f30)
                        · refine kv_goto (pc := 170) (tgt := 235) dk_D_plan_170 rfl ?_
                          exact hj235 x13 x14 m16 f17
                · refine kv_bipush (pc := 124) (v := (-3 : Int32)) dk_D_plan_124 kkb_m3 ?_
                  exact kv_iret (pc := 126) (fun h => h) rfl dk_D_plan_126
              · intro hx77_0 hx77_1 x7
                show kv_X _ _ _ _ (fb_D_plan_77 m p1 x7) 77 [(0, .ref 84), (1, .int p1), (2, .int p2), (3, .int p3), (4, .int p4), (6, .int x7)] [] (c, m, f, u)
                unfold fb_D_plan_77
                refine kv_iload (pc := 77) 5 rfl dk_D_plan_77 ?_
                refine kv_aload_n (pc := 79) 0 rfl rfl dk_D_plan_79 ?_
                refine kv_getR (pc := 80) kf_D_22 kr_84 rfl kt_84_4 dk_D_plan_80 ?_
                refine kv_iload_n (pc := 83) 1 rfl rfl dk_D_plan_83 ?_
                refine kv_aldM (pc := 84) kr_89 kn_89 kl_89 g6 rfl dk_D_plan_84 ?_
                refine kv_icmp_ge (pc := 85) (tgt := 111) dk_D_plan_85 rfl ?_ ?_
                · exact kv_sub [0, 1, 2, 3, 4] rfl (kv_leaf (hx77_1))
                · refine kv_aload_n (pc := 88) 0 rfl rfl dk_D_plan_88 ?_
                  refine kv_aload_n (pc := 89) 0 rfl rfl dk_D_plan_89 ?_
                  refine kv_iload_n (pc := 90) 1 rfl rfl dk_D_plan_90 ?_
                  refine kv_iload (pc := 91) 5 rfl dk_D_plan_91 ?_
                  refine kv_cV_mI (pc := 93) (as := [.int p1, .int x7]) (st := [.ref 84]) ko_D_pairAt kc_11 rfl rfl kr_84 kw_1657 (Nat.le_of_ble_eq_true rfl) rfl dk_D_plan_93 (cx_D_pairAt (d + 3) p1 x7 c m f u) (fun v8 => ?_)
                  refine kv_cV_mZ (pc := 96) (as := [.int v8]) (st := []) ko_D_isPair kc_11 rfl rfl kr_84 kw_1517 (Nat.le_of_ble_eq_true rfl) rfl dk_D_plan_96 (cx_D_isPair (d + 1) v8 c m f u) (fun b9 => ?_)
                  refine kv_zif_ne (pc := 99) (tgt := 105) dk_D_plan_99 rfl ?_ ?_
                  · refine kv_iinc (pc := 105) (kk := (1 : Int32)) (lv' := [(6, .int (x7 + (1 : Int32))), (0, .ref 84), (1, .int p1), (2, .int p2), (3, .int p3), (4, .int p4)]) 5 rfl kki_1 rfl (Nat.le_of_ble_eq_true rfl) dk_D_plan_105 ?_
                    refine kv_goto (pc := 108) (tgt := 77) dk_D_plan_108 rfl ?_
                    exact kv_sub [1, 2, 3, 4, 5, 0] rfl (kv_leaf (fun h => h))
                  · exact kv_sub [] rfl (kv_leaf (hx77_0))
            · refine kv_bipush (pc := 71) (v := (-13 : Int32)) dk_D_plan_71 kkb_m13 ?_
              exact kv_iret (pc := 73) (fun h => h) rfl dk_D_plan_73
          · refine kv_iload (pc := 57) 0 rfl dk_D_plan_57 ?_
            exact kv_iret (pc := 59) (fun h => h) rfl dk_D_plan_59
        · refine kv_iconst (pc := 42) (v := (-1 : Int32)) dk_D_plan_42 kki_m1 ?_
          exact kv_iret (pc := 43) (fun h => h) rfl dk_D_plan_43
theorem dk_Lumps_takeFrom_0 : decode prog_5_method_11_code 0 = .ok (.aload_n 1, 1) := by decide +kernel
theorem dk_Lumps_takeFrom_1 : decode prog_5_method_11_code 1 = .ok (.getfield 9, 3) := by decide +kernel
theorem dk_Lumps_takeFrom_4 : decode prog_5_method_11_code 4 = .ok (.iconst 0, 1) := by decide +kernel
theorem dk_Lumps_takeFrom_5 : decode prog_5_method_11_code 5 = .ok (.aload_n 0, 1) := by decide +kernel
theorem dk_Lumps_takeFrom_6 : decode prog_5_method_11_code 6 = .ok (.getfield 9, 3) := by decide +kernel
theorem dk_Lumps_takeFrom_9 : decode prog_5_method_11_code 9 = .ok (.iconst 0, 1) := by decide +kernel
theorem dk_Lumps_takeFrom_10 : decode prog_5_method_11_code 10 = .ok (.bipush 10, 2) := by decide +kernel
theorem dk_Lumps_takeFrom_12 : decode prog_5_method_11_code 12 = .ok (.invokestatic 53, 3) := by decide +kernel
theorem dk_Lumps_takeFrom_15 : decode prog_5_method_11_code 15 = .ok (.aload_n 1, 1) := by decide +kernel
theorem dk_Lumps_takeFrom_16 : decode prog_5_method_11_code 16 = .ok (.getfield 15, 3) := by decide +kernel
theorem dk_Lumps_takeFrom_19 : decode prog_5_method_11_code 19 = .ok (.iconst 0, 1) := by decide +kernel
theorem dk_Lumps_takeFrom_20 : decode prog_5_method_11_code 20 = .ok (.aload_n 0, 1) := by decide +kernel
theorem dk_Lumps_takeFrom_21 : decode prog_5_method_11_code 21 = .ok (.getfield 15, 3) := by decide +kernel
theorem dk_Lumps_takeFrom_24 : decode prog_5_method_11_code 24 = .ok (.iconst 0, 1) := by decide +kernel
theorem dk_Lumps_takeFrom_25 : decode prog_5_method_11_code 25 = .ok (.bipush 10, 2) := by decide +kernel
theorem dk_Lumps_takeFrom_27 : decode prog_5_method_11_code 27 = .ok (.invokestatic 53, 3) := by decide +kernel
theorem dk_Lumps_takeFrom_30 : decode prog_5_method_11_code 30 = .ok (.aload_n 1, 1) := by decide +kernel
theorem dk_Lumps_takeFrom_31 : decode prog_5_method_11_code 31 = .ok (.getfield 18, 3) := by decide +kernel
theorem dk_Lumps_takeFrom_34 : decode prog_5_method_11_code 34 = .ok (.iconst 0, 1) := by decide +kernel
theorem dk_Lumps_takeFrom_35 : decode prog_5_method_11_code 35 = .ok (.aload_n 0, 1) := by decide +kernel
theorem dk_Lumps_takeFrom_36 : decode prog_5_method_11_code 36 = .ok (.getfield 18, 3) := by decide +kernel
theorem dk_Lumps_takeFrom_39 : decode prog_5_method_11_code 39 = .ok (.iconst 0, 1) := by decide +kernel
theorem dk_Lumps_takeFrom_40 : decode prog_5_method_11_code 40 = .ok (.bipush 10, 2) := by decide +kernel
theorem dk_Lumps_takeFrom_42 : decode prog_5_method_11_code 42 = .ok (.invokestatic 53, 3) := by decide +kernel
theorem dk_Lumps_takeFrom_45 : decode prog_5_method_11_code 45 = .ok (.aload_n 1, 1) := by decide +kernel
theorem dk_Lumps_takeFrom_46 : decode prog_5_method_11_code 46 = .ok (.getfield 21, 3) := by decide +kernel
theorem dk_Lumps_takeFrom_49 : decode prog_5_method_11_code 49 = .ok (.iconst 0, 1) := by decide +kernel
theorem dk_Lumps_takeFrom_50 : decode prog_5_method_11_code 50 = .ok (.aload_n 0, 1) := by decide +kernel
theorem dk_Lumps_takeFrom_51 : decode prog_5_method_11_code 51 = .ok (.getfield 21, 3) := by decide +kernel
theorem dk_Lumps_takeFrom_54 : decode prog_5_method_11_code 54 = .ok (.iconst 0, 1) := by decide +kernel
theorem dk_Lumps_takeFrom_55 : decode prog_5_method_11_code 55 = .ok (.bipush 10, 2) := by decide +kernel
theorem dk_Lumps_takeFrom_57 : decode prog_5_method_11_code 57 = .ok (.invokestatic 53, 3) := by decide +kernel
theorem dk_Lumps_takeFrom_60 : decode prog_5_method_11_code 60 = .ok (.aload_n 1, 1) := by decide +kernel
theorem dk_Lumps_takeFrom_61 : decode prog_5_method_11_code 61 = .ok (.getfield 24, 3) := by decide +kernel
theorem dk_Lumps_takeFrom_64 : decode prog_5_method_11_code 64 = .ok (.iconst 0, 1) := by decide +kernel
theorem dk_Lumps_takeFrom_65 : decode prog_5_method_11_code 65 = .ok (.aload_n 0, 1) := by decide +kernel
theorem dk_Lumps_takeFrom_66 : decode prog_5_method_11_code 66 = .ok (.getfield 24, 3) := by decide +kernel
theorem dk_Lumps_takeFrom_69 : decode prog_5_method_11_code 69 = .ok (.iconst 0, 1) := by decide +kernel
theorem dk_Lumps_takeFrom_70 : decode prog_5_method_11_code 70 = .ok (.bipush 10, 2) := by decide +kernel
theorem dk_Lumps_takeFrom_72 : decode prog_5_method_11_code 72 = .ok (.invokestatic 53, 3) := by decide +kernel
theorem dk_Lumps_takeFrom_75 : decode prog_5_method_11_code 75 = .ok (.aload_n 1, 1) := by decide +kernel
theorem dk_Lumps_takeFrom_76 : decode prog_5_method_11_code 76 = .ok (.getfield 27, 3) := by decide +kernel
theorem dk_Lumps_takeFrom_79 : decode prog_5_method_11_code 79 = .ok (.iconst 0, 1) := by decide +kernel
theorem dk_Lumps_takeFrom_80 : decode prog_5_method_11_code 80 = .ok (.aload_n 0, 1) := by decide +kernel
theorem dk_Lumps_takeFrom_81 : decode prog_5_method_11_code 81 = .ok (.getfield 27, 3) := by decide +kernel
theorem dk_Lumps_takeFrom_84 : decode prog_5_method_11_code 84 = .ok (.iconst 0, 1) := by decide +kernel
theorem dk_Lumps_takeFrom_85 : decode prog_5_method_11_code 85 = .ok (.bipush 10, 2) := by decide +kernel
theorem dk_Lumps_takeFrom_87 : decode prog_5_method_11_code 87 = .ok (.invokestatic 53, 3) := by decide +kernel
theorem dk_Lumps_takeFrom_90 : decode prog_5_method_11_code 90 = .ok (.aload_n 1, 1) := by decide +kernel
theorem dk_Lumps_takeFrom_91 : decode prog_5_method_11_code 91 = .ok (.getfield 30, 3) := by decide +kernel
theorem dk_Lumps_takeFrom_94 : decode prog_5_method_11_code 94 = .ok (.iconst 0, 1) := by decide +kernel
theorem dk_Lumps_takeFrom_95 : decode prog_5_method_11_code 95 = .ok (.aload_n 0, 1) := by decide +kernel
theorem dk_Lumps_takeFrom_96 : decode prog_5_method_11_code 96 = .ok (.getfield 30, 3) := by decide +kernel
theorem dk_Lumps_takeFrom_99 : decode prog_5_method_11_code 99 = .ok (.iconst 0, 1) := by decide +kernel
theorem dk_Lumps_takeFrom_100 : decode prog_5_method_11_code 100 = .ok (.bipush 6, 2) := by decide +kernel
theorem dk_Lumps_takeFrom_102 : decode prog_5_method_11_code 102 = .ok (.invokestatic 53, 3) := by decide +kernel
theorem dk_Lumps_takeFrom_105 : decode prog_5_method_11_code 105 = .ok (.aload_n 0, 1) := by decide +kernel
theorem dk_Lumps_takeFrom_106 : decode prog_5_method_11_code 106 = .ok (.aload_n 1, 1) := by decide +kernel
theorem dk_Lumps_takeFrom_107 : decode prog_5_method_11_code 107 = .ok (.getfield 33, 3) := by decide +kernel
theorem dk_Lumps_takeFrom_110 : decode prog_5_method_11_code 110 = .ok (.putfield 33, 3) := by decide +kernel
theorem dk_Lumps_takeFrom_113 : decode prog_5_method_11_code 113 = .ok (.return_, 1) := by decide +kernel
noncomputable def fx_Lumps_takeFrom (c : (Nat → Nat → Int32)) : Option (Nat → Nat → Int32) :=
  kv_let (va_up c 28 (va_cpy (c 3) (c 28) (0 : Int32).toNatClampNeg (0 : Int32).toNatClampNeg (10 : Int32).toNatClampNeg)) (fun c2 =>
  kv_let (va_up c2 29 (va_cpy (c2 4) (c2 29) (0 : Int32).toNatClampNeg (0 : Int32).toNatClampNeg (10 : Int32).toNatClampNeg)) (fun c4 =>
  kv_let (va_up c4 30 (va_cpy (c4 5) (c4 30) (0 : Int32).toNatClampNeg (0 : Int32).toNatClampNeg (10 : Int32).toNatClampNeg)) (fun c6 =>
  kv_let (va_up c6 31 (va_cpy (c6 6) (c6 31) (0 : Int32).toNatClampNeg (0 : Int32).toNatClampNeg (10 : Int32).toNatClampNeg)) (fun c8 =>
  kv_let (va_up c8 32 (va_cpy (c8 7) (c8 32) (0 : Int32).toNatClampNeg (0 : Int32).toNatClampNeg (10 : Int32).toNatClampNeg)) (fun c10 =>
  kv_let (va_up c10 33 (va_cpy (c10 8) (c10 33) (0 : Int32).toNatClampNeg (0 : Int32).toNatClampNeg (10 : Int32).toNatClampNeg)) (fun c12 =>
  kv_let (va_up c12 34 (va_cpy (c12 9) (c12 34) (0 : Int32).toNatClampNeg (0 : Int32).toNatClampNeg (6 : Int32).toNatClampNeg)) (fun c14 =>
  kv_let (kv_st c14 27 7 (c14 2 7)) (fun c15 =>
  some c15))))))))
set_option maxRecDepth 20000 in
theorem cx_Lumps_takeFrom (d : Nat) (c : (Nat → Nat → Int32)) (y : (Nat → Nat → Int32) × (Nat → Int64) × (Nat → Int64)) : ∀ a, fx_Lumps_takeFrom c = some a → kv_C kM_Lumps_takeFrom (d + 1) [.ref 27, .ref 2] (c, y) (none, (a, y)) := by
  refine kv_entryX (E := fun a : (Nat → Nat → Int32) => (none, (a, y))) rfl (Nat.le_of_ble_eq_true rfl) (fun o => ?_)
  unfold fx_Lumps_takeFrom
  show kv_X _ _ _ _ _ 0 [(0, .ref 27), (1, .ref 2)] [] (c, y)
  refine kv_aload_n (pc := 0) 1 rfl rfl dk_Lumps_takeFrom_0 ?_
  refine kv_getR (pc := 1) kf_Lumps_9 kr_2 rfl kt_2_0 dk_Lumps_takeFrom_1 ?_
  refine kv_iconst (pc := 4) (v := (0 : Int32)) dk_Lumps_takeFrom_4 kki_0 ?_
  refine kv_aload_n (pc := 5) 0 rfl rfl dk_Lumps_takeFrom_5 ?_
  refine kv_getR (pc := 6) kf_Lumps_9 kr_27 rfl kt_27_0 dk_Lumps_takeFrom_6 ?_
  refine kv_iconst (pc := 9) (v := (0 : Int32)) dk_Lumps_takeFrom_9 kki_0 ?_
  refine kv_bipush (pc := 10) (v := (10 : Int32)) dk_Lumps_takeFrom_10 kkb_10 ?_
  refine kv_copyC (pc := 12) kr_3 kr_28 kn_3 kn_28 kl_3 kl_28 (by decide) kw_1058 kw_752 kw_751 kw_82 (Nat.le_of_ble_eq_true rfl) dk_Lumps_takeFrom_12 (fun c2 => ?_)
  refine kv_aload_n (pc := 15) 1 rfl rfl dk_Lumps_takeFrom_15 ?_
  refine kv_getR (pc := 16) kf_Lumps_15 kr_2 rfl kt_2_1 dk_Lumps_takeFrom_16 ?_
  refine kv_iconst (pc := 19) (v := (0 : Int32)) dk_Lumps_takeFrom_19 kki_0 ?_
  refine kv_aload_n (pc := 20) 0 rfl rfl dk_Lumps_takeFrom_20 ?_
  refine kv_getR (pc := 21) kf_Lumps_15 kr_27 rfl kt_27_1 dk_Lumps_takeFrom_21 ?_
  refine kv_iconst (pc := 24) (v := (0 : Int32)) dk_Lumps_takeFrom_24 kki_0 ?_
  refine kv_bipush (pc := 25) (v := (10 : Int32)) dk_Lumps_takeFrom_25 kkb_10 ?_
  refine kv_copyC (pc := 27) kr_4 kr_29 kn_4 kn_29 kl_4 kl_29 (by decide) kw_1058 kw_752 kw_751 kw_82 (Nat.le_of_ble_eq_true rfl) dk_Lumps_takeFrom_27 (fun c4 => ?_)
  refine kv_aload_n (pc := 30) 1 rfl rfl dk_Lumps_takeFrom_30 ?_
  refine kv_getR (pc := 31) kf_Lumps_18 kr_2 rfl kt_2_2 dk_Lumps_takeFrom_31 ?_
  refine kv_iconst (pc := 34) (v := (0 : Int32)) dk_Lumps_takeFrom_34 kki_0 ?_
  refine kv_aload_n (pc := 35) 0 rfl rfl dk_Lumps_takeFrom_35 ?_
  refine kv_getR (pc := 36) kf_Lumps_18 kr_27 rfl kt_27_2 dk_Lumps_takeFrom_36 ?_
  refine kv_iconst (pc := 39) (v := (0 : Int32)) dk_Lumps_takeFrom_39 kki_0 ?_
  refine kv_bipush (pc := 40) (v := (10 : Int32)) dk_Lumps_takeFrom_40 kkb_10 ?_
  refine kv_copyC (pc := 42) kr_5 kr_30 kn_5 kn_30 kl_5 kl_30 (by decide) kw_1058 kw_752 kw_751 kw_82 (Nat.le_of_ble_eq_true rfl) dk_Lumps_takeFrom_42 (fun c6 => ?_)
  refine kv_aload_n (pc := 45) 1 rfl rfl dk_Lumps_takeFrom_45 ?_
  refine kv_getR (pc := 46) kf_Lumps_21 kr_2 rfl kt_2_3 dk_Lumps_takeFrom_46 ?_
  refine kv_iconst (pc := 49) (v := (0 : Int32)) dk_Lumps_takeFrom_49 kki_0 ?_
  refine kv_aload_n (pc := 50) 0 rfl rfl dk_Lumps_takeFrom_50 ?_
  refine kv_getR (pc := 51) kf_Lumps_21 kr_27 rfl kt_27_3 dk_Lumps_takeFrom_51 ?_
  refine kv_iconst (pc := 54) (v := (0 : Int32)) dk_Lumps_takeFrom_54 kki_0 ?_
  refine kv_bipush (pc := 55) (v := (10 : Int32)) dk_Lumps_takeFrom_55 kkb_10 ?_
  refine kv_copyC (pc := 57) kr_6 kr_31 kn_6 kn_31 kl_6 kl_31 (by decide) kw_1058 kw_752 kw_751 kw_82 (Nat.le_of_ble_eq_true rfl) dk_Lumps_takeFrom_57 (fun c8 => ?_)
  refine kv_aload_n (pc := 60) 1 rfl rfl dk_Lumps_takeFrom_60 ?_
  refine kv_getR (pc := 61) kf_Lumps_24 kr_2 rfl kt_2_4 dk_Lumps_takeFrom_61 ?_
  refine kv_iconst (pc := 64) (v := (0 : Int32)) dk_Lumps_takeFrom_64 kki_0 ?_
  refine kv_aload_n (pc := 65) 0 rfl rfl dk_Lumps_takeFrom_65 ?_
  refine kv_getR (pc := 66) kf_Lumps_24 kr_27 rfl kt_27_4 dk_Lumps_takeFrom_66 ?_
  refine kv_iconst (pc := 69) (v := (0 : Int32)) dk_Lumps_takeFrom_69 kki_0 ?_
  refine kv_bipush (pc := 70) (v := (10 : Int32)) dk_Lumps_takeFrom_70 kkb_10 ?_
  refine kv_copyC (pc := 72) kr_7 kr_32 kn_7 kn_32 kl_7 kl_32 (by decide) kw_1058 kw_752 kw_751 kw_82 (Nat.le_of_ble_eq_true rfl) dk_Lumps_takeFrom_72 (fun c10 => ?_)
  refine kv_aload_n (pc := 75) 1 rfl rfl dk_Lumps_takeFrom_75 ?_
  refine kv_getR (pc := 76) kf_Lumps_27 kr_2 rfl kt_2_5 dk_Lumps_takeFrom_76 ?_
  refine kv_iconst (pc := 79) (v := (0 : Int32)) dk_Lumps_takeFrom_79 kki_0 ?_
  refine kv_aload_n (pc := 80) 0 rfl rfl dk_Lumps_takeFrom_80 ?_
  refine kv_getR (pc := 81) kf_Lumps_27 kr_27 rfl kt_27_5 dk_Lumps_takeFrom_81 ?_
  refine kv_iconst (pc := 84) (v := (0 : Int32)) dk_Lumps_takeFrom_84 kki_0 ?_
  refine kv_bipush (pc := 85) (v := (10 : Int32)) dk_Lumps_takeFrom_85 kkb_10 ?_
  refine kv_copyC (pc := 87) kr_8 kr_33 kn_8 kn_33 kl_8 kl_33 (by decide) kw_1058 kw_752 kw_751 kw_82 (Nat.le_of_ble_eq_true rfl) dk_Lumps_takeFrom_87 (fun c12 => ?_)
  refine kv_aload_n (pc := 90) 1 rfl rfl dk_Lumps_takeFrom_90 ?_
  refine kv_getR (pc := 91) kf_Lumps_30 kr_2 rfl kt_2_6 dk_Lumps_takeFrom_91 ?_
  refine kv_iconst (pc := 94) (v := (0 : Int32)) dk_Lumps_takeFrom_94 kki_0 ?_
  refine kv_aload_n (pc := 95) 0 rfl rfl dk_Lumps_takeFrom_95 ?_
  refine kv_getR (pc := 96) kf_Lumps_30 kr_27 rfl kt_27_6 dk_Lumps_takeFrom_96 ?_
  refine kv_iconst (pc := 99) (v := (0 : Int32)) dk_Lumps_takeFrom_99 kki_0 ?_
  refine kv_bipush (pc := 100) (v := (6 : Int32)) dk_Lumps_takeFrom_100 kkb_6 ?_
  refine kv_copyC (pc := 102) kr_9 kr_34 kn_9 kn_34 kl_9 kl_34 (by decide) kw_1058 kw_752 kw_751 kw_82 (Nat.le_of_ble_eq_true rfl) dk_Lumps_takeFrom_102 (fun c14 => ?_)
  refine kv_aload_n (pc := 105) 0 rfl rfl dk_Lumps_takeFrom_105 ?_
  refine kv_aload_n (pc := 106) 1 rfl rfl dk_Lumps_takeFrom_106 ?_
  refine kv_getC (pc := 107) kf_Lumps_33 kr_2 kn_2 rfl dk_Lumps_takeFrom_107 ?_
  refine kv_putC (pc := 110) kf_Lumps_33 kr_27 kn_27 rfl rfl rfl dk_Lumps_takeFrom_110 (fun c15 => ?_)
  exact kv_vret (pc := 113) (fun h => h) rfl dk_Lumps_takeFrom_113
theorem dk_Weighings_takeFrom_0 : decode prog_11_method_10_code 0 = .ok (.aload_n 1, 1) := by decide +kernel
theorem dk_Weighings_takeFrom_1 : decode prog_11_method_10_code 1 = .ok (.getfield 9, 3) := by decide +kernel
theorem dk_Weighings_takeFrom_4 : decode prog_11_method_10_code 4 = .ok (.iconst 0, 1) := by decide +kernel
theorem dk_Weighings_takeFrom_5 : decode prog_11_method_10_code 5 = .ok (.aload_n 0, 1) := by decide +kernel
theorem dk_Weighings_takeFrom_6 : decode prog_11_method_10_code 6 = .ok (.getfield 9, 3) := by decide +kernel
theorem dk_Weighings_takeFrom_9 : decode prog_11_method_10_code 9 = .ok (.iconst 0, 1) := by decide +kernel
theorem dk_Weighings_takeFrom_10 : decode prog_11_method_10_code 10 = .ok (.bipush 20, 2) := by decide +kernel
theorem dk_Weighings_takeFrom_12 : decode prog_11_method_10_code 12 = .ok (.invokestatic 41, 3) := by decide +kernel
theorem dk_Weighings_takeFrom_15 : decode prog_11_method_10_code 15 = .ok (.aload_n 1, 1) := by decide +kernel
theorem dk_Weighings_takeFrom_16 : decode prog_11_method_10_code 16 = .ok (.getfield 15, 3) := by decide +kernel
theorem dk_Weighings_takeFrom_19 : decode prog_11_method_10_code 19 = .ok (.iconst 0, 1) := by decide +kernel
theorem dk_Weighings_takeFrom_20 : decode prog_11_method_10_code 20 = .ok (.aload_n 0, 1) := by decide +kernel
theorem dk_Weighings_takeFrom_21 : decode prog_11_method_10_code 21 = .ok (.getfield 15, 3) := by decide +kernel
theorem dk_Weighings_takeFrom_24 : decode prog_11_method_10_code 24 = .ok (.iconst 0, 1) := by decide +kernel
theorem dk_Weighings_takeFrom_25 : decode prog_11_method_10_code 25 = .ok (.bipush 20, 2) := by decide +kernel
theorem dk_Weighings_takeFrom_27 : decode prog_11_method_10_code 27 = .ok (.invokestatic 41, 3) := by decide +kernel
theorem dk_Weighings_takeFrom_30 : decode prog_11_method_10_code 30 = .ok (.aload_n 1, 1) := by decide +kernel
theorem dk_Weighings_takeFrom_31 : decode prog_11_method_10_code 31 = .ok (.getfield 18, 3) := by decide +kernel
theorem dk_Weighings_takeFrom_34 : decode prog_11_method_10_code 34 = .ok (.iconst 0, 1) := by decide +kernel
theorem dk_Weighings_takeFrom_35 : decode prog_11_method_10_code 35 = .ok (.aload_n 0, 1) := by decide +kernel
theorem dk_Weighings_takeFrom_36 : decode prog_11_method_10_code 36 = .ok (.getfield 18, 3) := by decide +kernel
theorem dk_Weighings_takeFrom_39 : decode prog_11_method_10_code 39 = .ok (.iconst 0, 1) := by decide +kernel
theorem dk_Weighings_takeFrom_40 : decode prog_11_method_10_code 40 = .ok (.bipush 20, 2) := by decide +kernel
theorem dk_Weighings_takeFrom_42 : decode prog_11_method_10_code 42 = .ok (.invokestatic 41, 3) := by decide +kernel
theorem dk_Weighings_takeFrom_45 : decode prog_11_method_10_code 45 = .ok (.aload_n 1, 1) := by decide +kernel
theorem dk_Weighings_takeFrom_46 : decode prog_11_method_10_code 46 = .ok (.getfield 21, 3) := by decide +kernel
theorem dk_Weighings_takeFrom_49 : decode prog_11_method_10_code 49 = .ok (.iconst 0, 1) := by decide +kernel
theorem dk_Weighings_takeFrom_50 : decode prog_11_method_10_code 50 = .ok (.aload_n 0, 1) := by decide +kernel
theorem dk_Weighings_takeFrom_51 : decode prog_11_method_10_code 51 = .ok (.getfield 21, 3) := by decide +kernel
theorem dk_Weighings_takeFrom_54 : decode prog_11_method_10_code 54 = .ok (.iconst 0, 1) := by decide +kernel
theorem dk_Weighings_takeFrom_55 : decode prog_11_method_10_code 55 = .ok (.bipush 20, 2) := by decide +kernel
theorem dk_Weighings_takeFrom_57 : decode prog_11_method_10_code 57 = .ok (.invokestatic 41, 3) := by decide +kernel
theorem dk_Weighings_takeFrom_60 : decode prog_11_method_10_code 60 = .ok (.aload_n 1, 1) := by decide +kernel
theorem dk_Weighings_takeFrom_61 : decode prog_11_method_10_code 61 = .ok (.getfield 24, 3) := by decide +kernel
theorem dk_Weighings_takeFrom_64 : decode prog_11_method_10_code 64 = .ok (.iconst 0, 1) := by decide +kernel
theorem dk_Weighings_takeFrom_65 : decode prog_11_method_10_code 65 = .ok (.aload_n 0, 1) := by decide +kernel
theorem dk_Weighings_takeFrom_66 : decode prog_11_method_10_code 66 = .ok (.getfield 24, 3) := by decide +kernel
theorem dk_Weighings_takeFrom_69 : decode prog_11_method_10_code 69 = .ok (.iconst 0, 1) := by decide +kernel
theorem dk_Weighings_takeFrom_70 : decode prog_11_method_10_code 70 = .ok (.bipush 20, 2) := by decide +kernel
theorem dk_Weighings_takeFrom_72 : decode prog_11_method_10_code 72 = .ok (.invokestatic 41, 3) := by decide +kernel
theorem dk_Weighings_takeFrom_75 : decode prog_11_method_10_code 75 = .ok (.aload_n 1, 1) := by decide +kernel
theorem dk_Weighings_takeFrom_76 : decode prog_11_method_10_code 76 = .ok (.getfield 31, 3) := by decide +kernel
theorem dk_Weighings_takeFrom_79 : decode prog_11_method_10_code 79 = .ok (.iconst 0, 1) := by decide +kernel
theorem dk_Weighings_takeFrom_80 : decode prog_11_method_10_code 80 = .ok (.aload_n 0, 1) := by decide +kernel
theorem dk_Weighings_takeFrom_81 : decode prog_11_method_10_code 81 = .ok (.getfield 31, 3) := by decide +kernel
theorem dk_Weighings_takeFrom_84 : decode prog_11_method_10_code 84 = .ok (.iconst 0, 1) := by decide +kernel
theorem dk_Weighings_takeFrom_85 : decode prog_11_method_10_code 85 = .ok (.bipush 20, 2) := by decide +kernel
theorem dk_Weighings_takeFrom_87 : decode prog_11_method_10_code 87 = .ok (.invokestatic 41, 3) := by decide +kernel
theorem dk_Weighings_takeFrom_90 : decode prog_11_method_10_code 90 = .ok (.iconst 0, 1) := by decide +kernel
theorem dk_Weighings_takeFrom_91 : decode prog_11_method_10_code 91 = .ok (.istore_n 2, 1) := by decide +kernel
theorem dk_Weighings_takeFrom_92 : decode prog_11_method_10_code 92 = .ok (.iload_n 2, 1) := by decide +kernel
theorem dk_Weighings_takeFrom_93 : decode prog_11_method_10_code 93 = .ok (.bipush 20, 2) := by decide +kernel
theorem dk_Weighings_takeFrom_95 : decode prog_11_method_10_code 95 = .ok (.if_icmp .ge 21, 3) := by decide +kernel
theorem dk_Weighings_takeFrom_98 : decode prog_11_method_10_code 98 = .ok (.aload_n 0, 1) := by decide +kernel
theorem dk_Weighings_takeFrom_99 : decode prog_11_method_10_code 99 = .ok (.getfield 27, 3) := by decide +kernel
theorem dk_Weighings_takeFrom_102 : decode prog_11_method_10_code 102 = .ok (.iload_n 2, 1) := by decide +kernel
theorem dk_Weighings_takeFrom_103 : decode prog_11_method_10_code 103 = .ok (.aload_n 1, 1) := by decide +kernel
theorem dk_Weighings_takeFrom_104 : decode prog_11_method_10_code 104 = .ok (.getfield 27, 3) := by decide +kernel
theorem dk_Weighings_takeFrom_107 : decode prog_11_method_10_code 107 = .ok (.iload_n 2, 1) := by decide +kernel
theorem dk_Weighings_takeFrom_108 : decode prog_11_method_10_code 108 = .ok (.baload, 1) := by decide +kernel
theorem dk_Weighings_takeFrom_109 : decode prog_11_method_10_code 109 = .ok (.bastore, 1) := by decide +kernel
theorem dk_Weighings_takeFrom_110 : decode prog_11_method_10_code 110 = .ok (.iinc 2 1, 3) := by decide +kernel
theorem dk_Weighings_takeFrom_113 : decode prog_11_method_10_code 113 = .ok (.goto (-21), 3) := by decide +kernel
theorem dk_Weighings_takeFrom_116 : decode prog_11_method_10_code 116 = .ok (.aload_n 0, 1) := by decide +kernel
theorem dk_Weighings_takeFrom_117 : decode prog_11_method_10_code 117 = .ok (.aload_n 1, 1) := by decide +kernel
theorem dk_Weighings_takeFrom_118 : decode prog_11_method_10_code 118 = .ok (.getfield 34, 3) := by decide +kernel
theorem dk_Weighings_takeFrom_121 : decode prog_11_method_10_code 121 = .ok (.putfield 34, 3) := by decide +kernel
theorem dk_Weighings_takeFrom_124 : decode prog_11_method_10_code 124 = .ok (.aload_n 0, 1) := by decide +kernel
theorem dk_Weighings_takeFrom_125 : decode prog_11_method_10_code 125 = .ok (.aload_n 1, 1) := by decide +kernel
theorem dk_Weighings_takeFrom_126 : decode prog_11_method_10_code 126 = .ok (.getfield 38, 3) := by decide +kernel
theorem dk_Weighings_takeFrom_129 : decode prog_11_method_10_code 129 = .ok (.putfield 38, 3) := by decide +kernel
theorem dk_Weighings_takeFrom_132 : decode prog_11_method_10_code 132 = .ok (.return_, 1) := by decide +kernel
noncomputable def fb_Weighings_takeFrom_92 (x13 : Int32) (c14 : (Nat → Nat → Int32)) : Option ((Int32 × (Nat → Nat → Int32)) ⊕ (Nat → Nat → Int32)) :=
  if (20 : Int32) ≤ x13 then
    some (.inr c14)
  else
    kv_gd (kv_in x13 20) (
    kv_let (kv_st c14 41 x13.toNatClampNeg (vp_nar .boolean (c14 16 x13.toNatClampNeg))) (fun c17 =>
    some (.inl ((x13 + (1 : Int32)), c17))))
noncomputable def fx_Weighings_takeFrom (c : (Nat → Nat → Int32)) : Option (Nat → Nat → Int32) :=
  kv_let (va_up c 36 (va_cpy (c 11) (c 36) (0 : Int32).toNatClampNeg (0 : Int32).toNatClampNeg (20 : Int32).toNatClampNeg)) (fun c2 =>
  kv_let (va_up c2 37 (va_cpy (c2 12) (c2 37) (0 : Int32).toNatClampNeg (0 : Int32).toNatClampNeg (20 : Int32).toNatClampNeg)) (fun c4 =>
  kv_let (va_up c4 38 (va_cpy (c4 13) (c4 38) (0 : Int32).toNatClampNeg (0 : Int32).toNatClampNeg (20 : Int32).toNatClampNeg)) (fun c6 =>
  kv_let (va_up c6 39 (va_cpy (c6 14) (c6 39) (0 : Int32).toNatClampNeg (0 : Int32).toNatClampNeg (20 : Int32).toNatClampNeg)) (fun c8 =>
  kv_let (va_up c8 40 (va_cpy (c8 15) (c8 40) (0 : Int32).toNatClampNeg (0 : Int32).toNatClampNeg (20 : Int32).toNatClampNeg)) (fun c10 =>
  kv_let (va_up c10 42 (va_cpy (c10 17) (c10 42) (0 : Int32).toNatClampNeg (0 : Int32).toNatClampNeg (20 : Int32).toNatClampNeg)) (fun c12 =>
  (kv_loop (kv_u2 (fb_Weighings_takeFrom_92)) ((0 : Int32), c12)).bind (kv_u1 (fun c15 =>
  kv_let (kv_st c15 35 7 (c15 10 7)) (fun c18 =>
  kv_let (kv_st c18 35 8 (c18 10 8)) (fun c19 =>
  some c19))))))))))
set_option maxRecDepth 20000 in
theorem cx_Weighings_takeFrom (d : Nat) (c : (Nat → Nat → Int32)) (y : (Nat → Nat → Int32) × (Nat → Int64) × (Nat → Int64)) : ∀ a, fx_Weighings_takeFrom c = some a → kv_C kM_Weighings_takeFrom (d + 1) [.ref 35, .ref 10] (c, y) (none, (a, y)) := by
  refine kv_entryX (E := fun a : (Nat → Nat → Int32) => (none, (a, y))) rfl (Nat.le_of_ble_eq_true rfl) (fun o => ?_)
  unfold fx_Weighings_takeFrom
  show kv_X _ _ _ _ _ 0 [(0, .ref 35), (1, .ref 10)] [] (c, y)
  refine kv_aload_n (pc := 0) 1 rfl rfl dk_Weighings_takeFrom_0 ?_
  refine kv_getR (pc := 1) kf_Weighings_9 kr_10 rfl kt_10_0 dk_Weighings_takeFrom_1 ?_
  refine kv_iconst (pc := 4) (v := (0 : Int32)) dk_Weighings_takeFrom_4 kki_0 ?_
  refine kv_aload_n (pc := 5) 0 rfl rfl dk_Weighings_takeFrom_5 ?_
  refine kv_getR (pc := 6) kf_Weighings_9 kr_35 rfl kt_35_0 dk_Weighings_takeFrom_6 ?_
  refine kv_iconst (pc := 9) (v := (0 : Int32)) dk_Weighings_takeFrom_9 kki_0 ?_
  refine kv_bipush (pc := 10) (v := (20 : Int32)) dk_Weighings_takeFrom_10 kkb_20 ?_
  refine kv_copyC (pc := 12) kr_11 kr_36 kn_11 kn_36 kl_11 kl_36 (by decide) kw_1063 kw_752 kw_751 kw_82 (Nat.le_of_ble_eq_true rfl) dk_Weighings_takeFrom_12 (fun c2 => ?_)
  refine kv_aload_n (pc := 15) 1 rfl rfl dk_Weighings_takeFrom_15 ?_
  refine kv_getR (pc := 16) kf_Weighings_15 kr_10 rfl kt_10_1 dk_Weighings_takeFrom_16 ?_
  refine kv_iconst (pc := 19) (v := (0 : Int32)) dk_Weighings_takeFrom_19 kki_0 ?_
  refine kv_aload_n (pc := 20) 0 rfl rfl dk_Weighings_takeFrom_20 ?_
  refine kv_getR (pc := 21) kf_Weighings_15 kr_35 rfl kt_35_1 dk_Weighings_takeFrom_21 ?_
  refine kv_iconst (pc := 24) (v := (0 : Int32)) dk_Weighings_takeFrom_24 kki_0 ?_
  refine kv_bipush (pc := 25) (v := (20 : Int32)) dk_Weighings_takeFrom_25 kkb_20 ?_
  refine kv_copyC (pc := 27) kr_12 kr_37 kn_12 kn_37 kl_12 kl_37 (by decide) kw_1063 kw_752 kw_751 kw_82 (Nat.le_of_ble_eq_true rfl) dk_Weighings_takeFrom_27 (fun c4 => ?_)
  refine kv_aload_n (pc := 30) 1 rfl rfl dk_Weighings_takeFrom_30 ?_
  refine kv_getR (pc := 31) kf_Weighings_18 kr_10 rfl kt_10_2 dk_Weighings_takeFrom_31 ?_
  refine kv_iconst (pc := 34) (v := (0 : Int32)) dk_Weighings_takeFrom_34 kki_0 ?_
  refine kv_aload_n (pc := 35) 0 rfl rfl dk_Weighings_takeFrom_35 ?_
  refine kv_getR (pc := 36) kf_Weighings_18 kr_35 rfl kt_35_2 dk_Weighings_takeFrom_36 ?_
  refine kv_iconst (pc := 39) (v := (0 : Int32)) dk_Weighings_takeFrom_39 kki_0 ?_
  refine kv_bipush (pc := 40) (v := (20 : Int32)) dk_Weighings_takeFrom_40 kkb_20 ?_
  refine kv_copyC (pc := 42) kr_13 kr_38 kn_13 kn_38 kl_13 kl_38 (by decide) kw_1063 kw_752 kw_751 kw_82 (Nat.le_of_ble_eq_true rfl) dk_Weighings_takeFrom_42 (fun c6 => ?_)
  refine kv_aload_n (pc := 45) 1 rfl rfl dk_Weighings_takeFrom_45 ?_
  refine kv_getR (pc := 46) kf_Weighings_21 kr_10 rfl kt_10_3 dk_Weighings_takeFrom_46 ?_
  refine kv_iconst (pc := 49) (v := (0 : Int32)) dk_Weighings_takeFrom_49 kki_0 ?_
  refine kv_aload_n (pc := 50) 0 rfl rfl dk_Weighings_takeFrom_50 ?_
  refine kv_getR (pc := 51) kf_Weighings_21 kr_35 rfl kt_35_3 dk_Weighings_takeFrom_51 ?_
  refine kv_iconst (pc := 54) (v := (0 : Int32)) dk_Weighings_takeFrom_54 kki_0 ?_
  refine kv_bipush (pc := 55) (v := (20 : Int32)) dk_Weighings_takeFrom_55 kkb_20 ?_
  refine kv_copyC (pc := 57) kr_14 kr_39 kn_14 kn_39 kl_14 kl_39 (by decide) kw_1063 kw_752 kw_751 kw_82 (Nat.le_of_ble_eq_true rfl) dk_Weighings_takeFrom_57 (fun c8 => ?_)
  refine kv_aload_n (pc := 60) 1 rfl rfl dk_Weighings_takeFrom_60 ?_
  refine kv_getR (pc := 61) kf_Weighings_24 kr_10 rfl kt_10_4 dk_Weighings_takeFrom_61 ?_
  refine kv_iconst (pc := 64) (v := (0 : Int32)) dk_Weighings_takeFrom_64 kki_0 ?_
  refine kv_aload_n (pc := 65) 0 rfl rfl dk_Weighings_takeFrom_65 ?_
  refine kv_getR (pc := 66) kf_Weighings_24 kr_35 rfl kt_35_4 dk_Weighings_takeFrom_66 ?_
  refine kv_iconst (pc := 69) (v := (0 : Int32)) dk_Weighings_takeFrom_69 kki_0 ?_
  refine kv_bipush (pc := 70) (v := (20 : Int32)) dk_Weighings_takeFrom_70 kkb_20 ?_
  refine kv_copyC (pc := 72) kr_15 kr_40 kn_15 kn_40 kl_15 kl_40 (by decide) kw_1063 kw_752 kw_751 kw_82 (Nat.le_of_ble_eq_true rfl) dk_Weighings_takeFrom_72 (fun c10 => ?_)
  refine kv_aload_n (pc := 75) 1 rfl rfl dk_Weighings_takeFrom_75 ?_
  refine kv_getR (pc := 76) kf_Weighings_31 kr_10 rfl kt_10_6 dk_Weighings_takeFrom_76 ?_
  refine kv_iconst (pc := 79) (v := (0 : Int32)) dk_Weighings_takeFrom_79 kki_0 ?_
  refine kv_aload_n (pc := 80) 0 rfl rfl dk_Weighings_takeFrom_80 ?_
  refine kv_getR (pc := 81) kf_Weighings_31 kr_35 rfl kt_35_6 dk_Weighings_takeFrom_81 ?_
  refine kv_iconst (pc := 84) (v := (0 : Int32)) dk_Weighings_takeFrom_84 kki_0 ?_
  refine kv_bipush (pc := 85) (v := (20 : Int32)) dk_Weighings_takeFrom_85 kkb_20 ?_
  refine kv_copyC (pc := 87) kr_17 kr_42 kn_17 kn_42 kl_17 kl_42 (by decide) kw_1063 kw_752 kw_751 kw_82 (Nat.le_of_ble_eq_true rfl) dk_Weighings_takeFrom_87 (fun c12 => ?_)
  refine kv_iconst (pc := 90) (v := (0 : Int32)) dk_Weighings_takeFrom_90 kki_0 ?_
  refine kv_istore_n (pc := 91) (lv' := [(2, .int (0 : Int32)), (0, .ref 35), (1, .ref 10)]) rfl (Nat.le_of_ble_eq_true rfl) rfl dk_Weighings_takeFrom_91 ?_
  refine kv_sub (lv' := [(0, .ref 35), (1, .ref 10), (2, .int (0 : Int32))]) [1, 2, 0] rfl ?_
  refine kv_lp_2_1 (LV := fun x13 c14 => [(0, .ref 35), (1, .ref 10), (2, .int x13)]) (WW := fun x13 c14 => (c14, y)) (LE1 := fun c15 => [(0, .ref 35), (1, .ref 10)]) (WE1 := fun c15 => (c15, y)) (pe1 := 116) ?_ ?_
  · intro c15
    show kv_X _ _ _ _ _ 116 [(0, .ref 35), (1, .ref 10)] [] (c15, y)
    refine kv_aload_n (pc := 116) 0 rfl rfl dk_Weighings_takeFrom_116 ?_
    refine kv_aload_n (pc := 117) 1 rfl rfl dk_Weighings_takeFrom_117 ?_
    refine kv_getC (pc := 118) kf_Weighings_34 kr_10 kn_10 rfl dk_Weighings_takeFrom_118 ?_
    refine kv_putC (pc := 121) kf_Weighings_34 kr_35 kn_35 rfl rfl rfl dk_Weighings_takeFrom_121 (fun c18 => ?_)
    refine kv_aload_n (pc := 124) 0 rfl rfl dk_Weighings_takeFrom_124 ?_
    refine kv_aload_n (pc := 125) 1 rfl rfl dk_Weighings_takeFrom_125 ?_
    refine kv_getC (pc := 126) kf_Weighings_38 kr_10 kn_10 rfl dk_Weighings_takeFrom_126 ?_
    refine kv_putC (pc := 129) kf_Weighings_38 kr_35 kn_35 rfl rfl rfl dk_Weighings_takeFrom_129 (fun c19 => ?_)
    exact kv_vret (pc := 132) (fun h => h) rfl dk_Weighings_takeFrom_132
  · intro hx92_0 x13 c14
    show kv_X _ _ _ _ (fb_Weighings_takeFrom_92 x13 c14) 92 [(0, .ref 35), (1, .ref 10), (2, .int x13)] [] (c14, y)
    unfold fb_Weighings_takeFrom_92
    refine kv_iload_n (pc := 92) 2 rfl rfl dk_Weighings_takeFrom_92 ?_
    refine kv_bipush (pc := 93) (v := (20 : Int32)) dk_Weighings_takeFrom_93 kkb_20 ?_
    refine kv_icmp_ge (pc := 95) (tgt := 116) dk_Weighings_takeFrom_95 rfl ?_ ?_
    · exact kv_sub [0, 1] rfl (kv_leaf (hx92_0 _))
    · refine kv_aload_n (pc := 98) 0 rfl rfl dk_Weighings_takeFrom_98 ?_
      refine kv_getR (pc := 99) kf_Weighings_27 kr_35 rfl kt_35_5 dk_Weighings_takeFrom_99 ?_
      refine kv_iload_n (pc := 102) 2 rfl rfl dk_Weighings_takeFrom_102 ?_
      refine kv_aload_n (pc := 103) 1 rfl rfl dk_Weighings_takeFrom_103 ?_
      refine kv_getR (pc := 104) kf_Weighings_27 kr_10 rfl kt_10_5 dk_Weighings_takeFrom_104 ?_
      refine kv_iload_n (pc := 107) 2 rfl rfl dk_Weighings_takeFrom_107 ?_
      refine kv_guard (fun g16 => ?_)
      refine kv_aldZC (pc := 108) kr_16 kn_16 kl_16 g16 rfl dk_Weighings_takeFrom_108 ?_
      refine kv_astZC (pc := 109) kr_41 kn_41 kl_41 g16 rfl dk_Weighings_takeFrom_109 (fun c17 => ?_)
      refine kv_iinc (pc := 110) (kk := (1 : Int32)) (lv' := [(2, .int (x13 + (1 : Int32))), (0, .ref 35), (1, .ref 10)]) 2 rfl kki_1 rfl (Nat.le_of_ble_eq_true rfl) dk_Weighings_takeFrom_110 ?_
      refine kv_goto (pc := 113) (tgt := 92) dk_Weighings_takeFrom_113 rfl ?_
      exact kv_sub [1, 2, 0] rfl (kv_leaf (fun h => h))
noncomputable def fx_Law_write_43_19 (p2 : Int32) (p3 : Int32) (c : (Nat → Nat → Int32)) : Option (Nat → Nat → Int32) :=
  kv_gd (kv_cp (0 : Int32) (0 : Int32) p2 100 100) (
  kv_let (va_up c 44 (va_cpy (c 19) (c 44) (0 : Int32).toNatClampNeg (0 : Int32).toNatClampNeg p2.toNatClampNeg)) (fun c2 =>
  kv_let (kv_st c2 43 1 p2) (fun c3 =>
  kv_let (kv_st c3 43 2 p3) (fun c4 =>
  some c4))))
set_option maxRecDepth 20000 in
theorem cx_Law_write_43_19 (d : Nat) (p2 : Int32) (p3 : Int32) (c : (Nat → Nat → Int32)) (y : (Nat → Nat → Int32) × (Nat → Int64) × (Nat → Int64)) : ∀ a, fx_Law_write_43_19 p2 p3 c = some a → kv_C kM_Law_write (d + 1) [.ref 43, .ref 19, .int p2, .int p3] (c, y) (none, (a, y)) := by
  refine kv_entryX (E := fun a : (Nat → Nat → Int32) => (none, (a, y))) rfl (Nat.le_of_ble_eq_true rfl) (fun o => ?_)
  unfold fx_Law_write_43_19
  show kv_X _ _ _ _ _ 0 [(0, .ref 43), (1, .ref 19), (2, .int p2), (3, .int p3)] [] (c, y)
  refine kv_aload_n (pc := 0) 1 rfl rfl dk_Law_write_0 ?_
  refine kv_iconst (pc := 1) (v := (0 : Int32)) dk_Law_write_1 kki_0 ?_
  refine kv_aload_n (pc := 2) 0 rfl rfl dk_Law_write_2 ?_
  refine kv_getR (pc := 3) kf_Law_9 kr_43 rfl kt_43_0 dk_Law_write_3 ?_
  refine kv_iconst (pc := 6) (v := (0 : Int32)) dk_Law_write_6 kki_0 ?_
  refine kv_iload_n (pc := 7) 2 rfl rfl dk_Law_write_7 ?_
  refine kv_guard (fun g1 => ?_)
  refine kv_copyC (pc := 8) kr_19 kr_44 kn_19 kn_44 kl_19 kl_44 g1 kw_906 kw_752 kw_751 kw_82 (Nat.le_of_ble_eq_true rfl) dk_Law_write_8 (fun c2 => ?_)
  refine kv_aload_n (pc := 11) 0 rfl rfl dk_Law_write_11 ?_
  refine kv_iload_n (pc := 12) 2 rfl rfl dk_Law_write_12 ?_
  refine kv_putC (pc := 13) kf_Law_15 kr_43 kn_43 rfl rfl rfl dk_Law_write_13 (fun c3 => ?_)
  refine kv_aload_n (pc := 16) 0 rfl rfl dk_Law_write_16 ?_
  refine kv_iload_n (pc := 17) 3 rfl rfl dk_Law_write_17 ?_
  refine kv_putC (pc := 18) kf_Law_19 kr_43 kn_43 rfl rfl rfl dk_Law_write_18 (fun c4 => ?_)
  exact kv_vret (pc := 21) (fun h => h) rfl dk_Law_write_21
theorem dk_Chains_takeFrom_0 : decode prog_2_method_9_code 0 = .ok (.aload_n 1, 1) := by decide +kernel
theorem dk_Chains_takeFrom_1 : decode prog_2_method_9_code 1 = .ok (.getfield 9, 3) := by decide +kernel
theorem dk_Chains_takeFrom_4 : decode prog_2_method_9_code 4 = .ok (.iconst 0, 1) := by decide +kernel
theorem dk_Chains_takeFrom_5 : decode prog_2_method_9_code 5 = .ok (.aload_n 0, 1) := by decide +kernel
theorem dk_Chains_takeFrom_6 : decode prog_2_method_9_code 6 = .ok (.getfield 9, 3) := by decide +kernel
theorem dk_Chains_takeFrom_9 : decode prog_2_method_9_code 9 = .ok (.iconst 0, 1) := by decide +kernel
theorem dk_Chains_takeFrom_10 : decode prog_2_method_9_code 10 = .ok (.bipush 48, 2) := by decide +kernel
theorem dk_Chains_takeFrom_12 : decode prog_2_method_9_code 12 = .ok (.invokestatic 36, 3) := by decide +kernel
theorem dk_Chains_takeFrom_15 : decode prog_2_method_9_code 15 = .ok (.aload_n 1, 1) := by decide +kernel
theorem dk_Chains_takeFrom_16 : decode prog_2_method_9_code 16 = .ok (.getfield 15, 3) := by decide +kernel
theorem dk_Chains_takeFrom_19 : decode prog_2_method_9_code 19 = .ok (.iconst 0, 1) := by decide +kernel
theorem dk_Chains_takeFrom_20 : decode prog_2_method_9_code 20 = .ok (.aload_n 0, 1) := by decide +kernel
theorem dk_Chains_takeFrom_21 : decode prog_2_method_9_code 21 = .ok (.getfield 15, 3) := by decide +kernel
theorem dk_Chains_takeFrom_24 : decode prog_2_method_9_code 24 = .ok (.iconst 0, 1) := by decide +kernel
theorem dk_Chains_takeFrom_25 : decode prog_2_method_9_code 25 = .ok (.bipush 48, 2) := by decide +kernel
theorem dk_Chains_takeFrom_27 : decode prog_2_method_9_code 27 = .ok (.invokestatic 36, 3) := by decide +kernel
theorem dk_Chains_takeFrom_30 : decode prog_2_method_9_code 30 = .ok (.aload_n 1, 1) := by decide +kernel
theorem dk_Chains_takeFrom_31 : decode prog_2_method_9_code 31 = .ok (.getfield 18, 3) := by decide +kernel
theorem dk_Chains_takeFrom_34 : decode prog_2_method_9_code 34 = .ok (.iconst 0, 1) := by decide +kernel
theorem dk_Chains_takeFrom_35 : decode prog_2_method_9_code 35 = .ok (.aload_n 0, 1) := by decide +kernel
theorem dk_Chains_takeFrom_36 : decode prog_2_method_9_code 36 = .ok (.getfield 18, 3) := by decide +kernel
theorem dk_Chains_takeFrom_39 : decode prog_2_method_9_code 39 = .ok (.iconst 0, 1) := by decide +kernel
theorem dk_Chains_takeFrom_40 : decode prog_2_method_9_code 40 = .ok (.iconst 4, 1) := by decide +kernel
theorem dk_Chains_takeFrom_41 : decode prog_2_method_9_code 41 = .ok (.invokestatic 36, 3) := by decide +kernel
theorem dk_Chains_takeFrom_44 : decode prog_2_method_9_code 44 = .ok (.aload_n 1, 1) := by decide +kernel
theorem dk_Chains_takeFrom_45 : decode prog_2_method_9_code 45 = .ok (.getfield 21, 3) := by decide +kernel
theorem dk_Chains_takeFrom_48 : decode prog_2_method_9_code 48 = .ok (.iconst 0, 1) := by decide +kernel
theorem dk_Chains_takeFrom_49 : decode prog_2_method_9_code 49 = .ok (.aload_n 0, 1) := by decide +kernel
theorem dk_Chains_takeFrom_50 : decode prog_2_method_9_code 50 = .ok (.getfield 21, 3) := by decide +kernel
theorem dk_Chains_takeFrom_53 : decode prog_2_method_9_code 53 = .ok (.iconst 0, 1) := by decide +kernel
theorem dk_Chains_takeFrom_54 : decode prog_2_method_9_code 54 = .ok (.iconst 4, 1) := by decide +kernel
theorem dk_Chains_takeFrom_55 : decode prog_2_method_9_code 55 = .ok (.invokestatic 36, 3) := by decide +kernel
theorem dk_Chains_takeFrom_58 : decode prog_2_method_9_code 58 = .ok (.return_, 1) := by decide +kernel
noncomputable def fx_Chains_takeFrom (c : (Nat → Nat → Int32)) : Option (Nat → Nat → Int32) :=
  kv_let (va_up c 46 (va_cpy (c 21) (c 46) (0 : Int32).toNatClampNeg (0 : Int32).toNatClampNeg (48 : Int32).toNatClampNeg)) (fun c2 =>
  kv_let (va_up c2 47 (va_cpy (c2 22) (c2 47) (0 : Int32).toNatClampNeg (0 : Int32).toNatClampNeg (48 : Int32).toNatClampNeg)) (fun c4 =>
  kv_let (va_up c4 48 (va_cpy (c4 23) (c4 48) (0 : Int32).toNatClampNeg (0 : Int32).toNatClampNeg (4 : Int32).toNatClampNeg)) (fun c6 =>
  kv_let (va_up c6 49 (va_cpy (c6 24) (c6 49) (0 : Int32).toNatClampNeg (0 : Int32).toNatClampNeg (4 : Int32).toNatClampNeg)) (fun c8 =>
  some c8))))
set_option maxRecDepth 20000 in
theorem cx_Chains_takeFrom (d : Nat) (c : (Nat → Nat → Int32)) (y : (Nat → Nat → Int32) × (Nat → Int64) × (Nat → Int64)) : ∀ a, fx_Chains_takeFrom c = some a → kv_C kM_Chains_takeFrom (d + 1) [.ref 45, .ref 20] (c, y) (none, (a, y)) := by
  refine kv_entryX (E := fun a : (Nat → Nat → Int32) => (none, (a, y))) rfl (Nat.le_of_ble_eq_true rfl) (fun o => ?_)
  unfold fx_Chains_takeFrom
  show kv_X _ _ _ _ _ 0 [(0, .ref 45), (1, .ref 20)] [] (c, y)
  refine kv_aload_n (pc := 0) 1 rfl rfl dk_Chains_takeFrom_0 ?_
  refine kv_getR (pc := 1) kf_Chains_9 kr_20 rfl kt_20_0 dk_Chains_takeFrom_1 ?_
  refine kv_iconst (pc := 4) (v := (0 : Int32)) dk_Chains_takeFrom_4 kki_0 ?_
  refine kv_aload_n (pc := 5) 0 rfl rfl dk_Chains_takeFrom_5 ?_
  refine kv_getR (pc := 6) kf_Chains_9 kr_45 rfl kt_45_0 dk_Chains_takeFrom_6 ?_
  refine kv_iconst (pc := 9) (v := (0 : Int32)) dk_Chains_takeFrom_9 kki_0 ?_
  refine kv_bipush (pc := 10) (v := (48 : Int32)) dk_Chains_takeFrom_10 kkb_48 ?_
  refine kv_copyC (pc := 12) kr_21 kr_46 kn_21 kn_46 kl_21 kl_46 (by decide) kw_1069 kw_752 kw_751 kw_82 (Nat.le_of_ble_eq_true rfl) dk_Chains_takeFrom_12 (fun c2 => ?_)
  refine kv_aload_n (pc := 15) 1 rfl rfl dk_Chains_takeFrom_15 ?_
  refine kv_getR (pc := 16) kf_Chains_15 kr_20 rfl kt_20_1 dk_Chains_takeFrom_16 ?_
  refine kv_iconst (pc := 19) (v := (0 : Int32)) dk_Chains_takeFrom_19 kki_0 ?_
  refine kv_aload_n (pc := 20) 0 rfl rfl dk_Chains_takeFrom_20 ?_
  refine kv_getR (pc := 21) kf_Chains_15 kr_45 rfl kt_45_1 dk_Chains_takeFrom_21 ?_
  refine kv_iconst (pc := 24) (v := (0 : Int32)) dk_Chains_takeFrom_24 kki_0 ?_
  refine kv_bipush (pc := 25) (v := (48 : Int32)) dk_Chains_takeFrom_25 kkb_48 ?_
  refine kv_copyC (pc := 27) kr_22 kr_47 kn_22 kn_47 kl_22 kl_47 (by decide) kw_1069 kw_752 kw_751 kw_82 (Nat.le_of_ble_eq_true rfl) dk_Chains_takeFrom_27 (fun c4 => ?_)
  refine kv_aload_n (pc := 30) 1 rfl rfl dk_Chains_takeFrom_30 ?_
  refine kv_getR (pc := 31) kf_Chains_18 kr_20 rfl kt_20_2 dk_Chains_takeFrom_31 ?_
  refine kv_iconst (pc := 34) (v := (0 : Int32)) dk_Chains_takeFrom_34 kki_0 ?_
  refine kv_aload_n (pc := 35) 0 rfl rfl dk_Chains_takeFrom_35 ?_
  refine kv_getR (pc := 36) kf_Chains_18 kr_45 rfl kt_45_2 dk_Chains_takeFrom_36 ?_
  refine kv_iconst (pc := 39) (v := (0 : Int32)) dk_Chains_takeFrom_39 kki_0 ?_
  refine kv_iconst (pc := 40) (v := (4 : Int32)) dk_Chains_takeFrom_40 kki_4 ?_
  refine kv_copyC (pc := 41) kr_23 kr_48 kn_23 kn_48 kl_23 kl_48 (by decide) kw_1069 kw_752 kw_751 kw_82 (Nat.le_of_ble_eq_true rfl) dk_Chains_takeFrom_41 (fun c6 => ?_)
  refine kv_aload_n (pc := 44) 1 rfl rfl dk_Chains_takeFrom_44 ?_
  refine kv_getR (pc := 45) kf_Chains_21 kr_20 rfl kt_20_3 dk_Chains_takeFrom_45 ?_
  refine kv_iconst (pc := 48) (v := (0 : Int32)) dk_Chains_takeFrom_48 kki_0 ?_
  refine kv_aload_n (pc := 49) 0 rfl rfl dk_Chains_takeFrom_49 ?_
  refine kv_getR (pc := 50) kf_Chains_21 kr_45 rfl kt_45_3 dk_Chains_takeFrom_50 ?_
  refine kv_iconst (pc := 53) (v := (0 : Int32)) dk_Chains_takeFrom_53 kki_0 ?_
  refine kv_iconst (pc := 54) (v := (4 : Int32)) dk_Chains_takeFrom_54 kki_4 ?_
  refine kv_copyC (pc := 55) kr_24 kr_49 kn_24 kn_49 kl_24 kl_49 (by decide) kw_1069 kw_752 kw_751 kw_82 (Nat.le_of_ble_eq_true rfl) dk_Chains_takeFrom_55 (fun c8 => ?_)
  exact kv_vret (pc := 58) (fun h => h) rfl dk_Chains_takeFrom_58
theorem dk_State_takeFrom_0 : decode prog_10_method_5_code 0 = .ok (.aload_n 0, 1) := by decide +kernel
theorem dk_State_takeFrom_1 : decode prog_10_method_5_code 1 = .ok (.getfield 12, 3) := by decide +kernel
theorem dk_State_takeFrom_4 : decode prog_10_method_5_code 4 = .ok (.aload_n 1, 1) := by decide +kernel
theorem dk_State_takeFrom_5 : decode prog_10_method_5_code 5 = .ok (.getfield 12, 3) := by decide +kernel
theorem dk_State_takeFrom_8 : decode prog_10_method_5_code 8 = .ok (.invokevirtual 62, 3) := by decide +kernel
theorem dk_State_takeFrom_11 : decode prog_10_method_5_code 11 = .ok (.aload_n 0, 1) := by decide +kernel
theorem dk_State_takeFrom_12 : decode prog_10_method_5_code 12 = .ok (.getfield 21, 3) := by decide +kernel
theorem dk_State_takeFrom_15 : decode prog_10_method_5_code 15 = .ok (.aload_n 1, 1) := by decide +kernel
theorem dk_State_takeFrom_16 : decode prog_10_method_5_code 16 = .ok (.getfield 21, 3) := by decide +kernel
theorem dk_State_takeFrom_19 : decode prog_10_method_5_code 19 = .ok (.invokevirtual 66, 3) := by decide +kernel
theorem dk_State_takeFrom_22 : decode prog_10_method_5_code 22 = .ok (.aload_n 0, 1) := by decide +kernel
theorem dk_State_takeFrom_23 : decode prog_10_method_5_code 23 = .ok (.getfield 28, 3) := by decide +kernel
theorem dk_State_takeFrom_26 : decode prog_10_method_5_code 26 = .ok (.aload_n 1, 1) := by decide +kernel
theorem dk_State_takeFrom_27 : decode prog_10_method_5_code 27 = .ok (.getfield 28, 3) := by decide +kernel
theorem dk_State_takeFrom_30 : decode prog_10_method_5_code 30 = .ok (.getfield 69, 3) := by decide +kernel
theorem dk_State_takeFrom_33 : decode prog_10_method_5_code 33 = .ok (.aload_n 1, 1) := by decide +kernel
theorem dk_State_takeFrom_34 : decode prog_10_method_5_code 34 = .ok (.getfield 28, 3) := by decide +kernel
theorem dk_State_takeFrom_37 : decode prog_10_method_5_code 37 = .ok (.getfield 72, 3) := by decide +kernel
theorem dk_State_takeFrom_40 : decode prog_10_method_5_code 40 = .ok (.aload_n 1, 1) := by decide +kernel
theorem dk_State_takeFrom_41 : decode prog_10_method_5_code 41 = .ok (.getfield 28, 3) := by decide +kernel
theorem dk_State_takeFrom_44 : decode prog_10_method_5_code 44 = .ok (.getfield 75, 3) := by decide +kernel
theorem dk_State_takeFrom_47 : decode prog_10_method_5_code 47 = .ok (.invokevirtual 78, 3) := by decide +kernel
theorem dk_State_takeFrom_50 : decode prog_10_method_5_code 50 = .ok (.aload_n 0, 1) := by decide +kernel
theorem dk_State_takeFrom_51 : decode prog_10_method_5_code 51 = .ok (.getfield 35, 3) := by decide +kernel
theorem dk_State_takeFrom_54 : decode prog_10_method_5_code 54 = .ok (.aload_n 1, 1) := by decide +kernel
theorem dk_State_takeFrom_55 : decode prog_10_method_5_code 55 = .ok (.getfield 35, 3) := by decide +kernel
theorem dk_State_takeFrom_58 : decode prog_10_method_5_code 58 = .ok (.invokevirtual 82, 3) := by decide +kernel
theorem dk_State_takeFrom_61 : decode prog_10_method_5_code 61 = .ok (.aload_n 1, 1) := by decide +kernel
theorem dk_State_takeFrom_62 : decode prog_10_method_5_code 62 = .ok (.getfield 39, 3) := by decide +kernel
theorem dk_State_takeFrom_65 : decode prog_10_method_5_code 65 = .ok (.iconst 0, 1) := by decide +kernel
theorem dk_State_takeFrom_66 : decode prog_10_method_5_code 66 = .ok (.aload_n 0, 1) := by decide +kernel
theorem dk_State_takeFrom_67 : decode prog_10_method_5_code 67 = .ok (.getfield 39, 3) := by decide +kernel
theorem dk_State_takeFrom_70 : decode prog_10_method_5_code 70 = .ok (.iconst 0, 1) := by decide +kernel
theorem dk_State_takeFrom_71 : decode prog_10_method_5_code 71 = .ok (.iconst 4, 1) := by decide +kernel
theorem dk_State_takeFrom_72 : decode prog_10_method_5_code 72 = .ok (.invokestatic 85, 3) := by decide +kernel
theorem dk_State_takeFrom_75 : decode prog_10_method_5_code 75 = .ok (.aload_n 0, 1) := by decide +kernel
theorem dk_State_takeFrom_76 : decode prog_10_method_5_code 76 = .ok (.aload_n 1, 1) := by decide +kernel
theorem dk_State_takeFrom_77 : decode prog_10_method_5_code 77 = .ok (.getfield 91, 3) := by decide +kernel
theorem dk_State_takeFrom_80 : decode prog_10_method_5_code 80 = .ok (.putfield 91, 3) := by decide +kernel
theorem dk_State_takeFrom_83 : decode prog_10_method_5_code 83 = .ok (.aload_n 0, 1) := by decide +kernel
theorem dk_State_takeFrom_84 : decode prog_10_method_5_code 84 = .ok (.aload_n 1, 1) := by decide +kernel
theorem dk_State_takeFrom_85 : decode prog_10_method_5_code 85 = .ok (.getfield 43, 3) := by decide +kernel
theorem dk_State_takeFrom_88 : decode prog_10_method_5_code 88 = .ok (.putfield 43, 3) := by decide +kernel
theorem dk_State_takeFrom_91 : decode prog_10_method_5_code 91 = .ok (.aload_n 0, 1) := by decide +kernel
theorem dk_State_takeFrom_92 : decode prog_10_method_5_code 92 = .ok (.aload_n 1, 1) := by decide +kernel
theorem dk_State_takeFrom_93 : decode prog_10_method_5_code 93 = .ok (.getfield 47, 3) := by decide +kernel
theorem dk_State_takeFrom_96 : decode prog_10_method_5_code 96 = .ok (.putfield 47, 3) := by decide +kernel
theorem dk_State_takeFrom_99 : decode prog_10_method_5_code 99 = .ok (.aload_n 0, 1) := by decide +kernel
theorem dk_State_takeFrom_100 : decode prog_10_method_5_code 100 = .ok (.aload_n 1, 1) := by decide +kernel
theorem dk_State_takeFrom_101 : decode prog_10_method_5_code 101 = .ok (.getfield 50, 3) := by decide +kernel
theorem dk_State_takeFrom_104 : decode prog_10_method_5_code 104 = .ok (.putfield 50, 3) := by decide +kernel
theorem dk_State_takeFrom_107 : decode prog_10_method_5_code 107 = .ok (.return_, 1) := by decide +kernel
noncomputable def fx_State_takeFrom (c : (Nat → Nat → Int32)) : Option (Nat → Nat → Int32) :=
  kv_bind1 (fx_Lumps_takeFrom c) (fun c1 =>
  kv_bind1 (fx_Weighings_takeFrom c1) (fun c2 =>
  kv_bind1 (fx_Law_write_43_19 (c2 18 1) (c2 18 2) c2) (fun c3 =>
  kv_bind1 (fx_Chains_takeFrom c3) (fun c4 =>
  kv_let (va_up c4 50 (va_cpy (c4 25) (c4 50) (0 : Int32).toNatClampNeg (0 : Int32).toNatClampNeg (4 : Int32).toNatClampNeg)) (fun c6 =>
  kv_let (kv_st c6 26 5 (c6 1 5)) (fun c7 =>
  kv_let (kv_st c7 26 6 (c7 1 6)) (fun c8 =>
  kv_let (kv_st c8 26 7 (c8 1 7)) (fun c9 =>
  kv_let (kv_st c9 26 8 (c9 1 8)) (fun c10 =>
  some c10)))))))))
set_option maxRecDepth 20000 in
theorem cx_State_takeFrom (d : Nat) (c : (Nat → Nat → Int32)) (y : (Nat → Nat → Int32) × (Nat → Int64) × (Nat → Int64)) : ∀ a, fx_State_takeFrom c = some a → kv_C kM_State_takeFrom (d + 2) [.ref 26, .ref 1] (c, y) (none, (a, y)) := by
  refine kv_entryX (E := fun a : (Nat → Nat → Int32) => (none, (a, y))) rfl (Nat.le_of_ble_eq_true rfl) (fun o => ?_)
  unfold fx_State_takeFrom
  show kv_X _ _ _ _ _ 0 [(0, .ref 26), (1, .ref 1)] [] (c, y)
  refine kv_aload_n (pc := 0) 0 rfl rfl dk_State_takeFrom_0 ?_
  refine kv_getR (pc := 1) kf_State_12 kr_26 rfl kt_26_0 dk_State_takeFrom_1 ?_
  refine kv_aload_n (pc := 4) 1 rfl rfl dk_State_takeFrom_4 ?_
  refine kv_getR (pc := 5) kf_State_12 kr_1 rfl kt_1_0 dk_State_takeFrom_5 ?_
  refine kv_cV_cc (pc := 8) (as := [.ref 2]) (st := []) ko_Lumps_takeFrom kc_3 rfl rfl kr_27 kw_1054 (Nat.le_of_ble_eq_true rfl) rfl dk_State_takeFrom_8 (cx_Lumps_takeFrom d c y) (fun c1 => ?_)
  refine kv_aload_n (pc := 11) 0 rfl rfl dk_State_takeFrom_11 ?_
  refine kv_getR (pc := 12) kf_State_21 kr_26 rfl kt_26_1 dk_State_takeFrom_12 ?_
  refine kv_aload_n (pc := 15) 1 rfl rfl dk_State_takeFrom_15 ?_
  refine kv_getR (pc := 16) kf_State_21 kr_1 rfl kt_1_1 dk_State_takeFrom_16 ?_
  refine kv_cV_cc (pc := 19) (as := [.ref 10]) (st := []) ko_Weighings_takeFrom kc_9 rfl rfl kr_35 kw_1059 (Nat.le_of_ble_eq_true rfl) rfl dk_State_takeFrom_19 (cx_Weighings_takeFrom d c1 y) (fun c2 => ?_)
  refine kv_aload_n (pc := 22) 0 rfl rfl dk_State_takeFrom_22 ?_
  refine kv_getR (pc := 23) kf_State_28 kr_26 rfl kt_26_2 dk_State_takeFrom_23 ?_
  refine kv_aload_n (pc := 26) 1 rfl rfl dk_State_takeFrom_26 ?_
  refine kv_getR (pc := 27) kf_State_28 kr_1 rfl kt_1_2 dk_State_takeFrom_27 ?_
  refine kv_getR (pc := 30) kf_State_69 kr_18 rfl kt_18_0 dk_State_takeFrom_30 ?_
  refine kv_aload_n (pc := 33) 1 rfl rfl dk_State_takeFrom_33 ?_
  refine kv_getR (pc := 34) kf_State_28 kr_1 rfl kt_1_2 dk_State_takeFrom_34 ?_
  refine kv_getC (pc := 37) kf_State_72 kr_18 kn_18 rfl dk_State_takeFrom_37 ?_
  refine kv_aload_n (pc := 40) 1 rfl rfl dk_State_takeFrom_40 ?_
  refine kv_getR (pc := 41) kf_State_28 kr_1 rfl kt_1_2 dk_State_takeFrom_41 ?_
  refine kv_getC (pc := 44) kf_State_75 kr_18 kn_18 rfl dk_State_takeFrom_44 ?_
  refine kv_cV_cc (pc := 47) (as := [.ref 19, .int (c2 18 1), .int (c2 18 2)]) (st := []) ko_Law_write kc_1 rfl rfl kr_43 kw_1064 (Nat.le_of_ble_eq_true rfl) rfl dk_State_takeFrom_47 (cx_Law_write_43_19 d (c2 18 1) (c2 18 2) c2 y) (fun c3 => ?_)
  refine kv_aload_n (pc := 50) 0 rfl rfl dk_State_takeFrom_50 ?_
  refine kv_getR (pc := 51) kf_State_35 kr_26 rfl kt_26_3 dk_State_takeFrom_51 ?_
  refine kv_aload_n (pc := 54) 1 rfl rfl dk_State_takeFrom_54 ?_
  refine kv_getR (pc := 55) kf_State_35 kr_1 rfl kt_1_3 dk_State_takeFrom_55 ?_
  refine kv_cV_cc (pc := 58) (as := [.ref 20]) (st := []) ko_Chains_takeFrom kc_0 rfl rfl kr_45 kw_1065 (Nat.le_of_ble_eq_true rfl) rfl dk_State_takeFrom_58 (cx_Chains_takeFrom d c3 y) (fun c4 => ?_)
  refine kv_aload_n (pc := 61) 1 rfl rfl dk_State_takeFrom_61 ?_
  refine kv_getR (pc := 62) kf_State_39 kr_1 rfl kt_1_4 dk_State_takeFrom_62 ?_
  refine kv_iconst (pc := 65) (v := (0 : Int32)) dk_State_takeFrom_65 kki_0 ?_
  refine kv_aload_n (pc := 66) 0 rfl rfl dk_State_takeFrom_66 ?_
  refine kv_getR (pc := 67) kf_State_39 kr_26 rfl kt_26_4 dk_State_takeFrom_67 ?_
  refine kv_iconst (pc := 70) (v := (0 : Int32)) dk_State_takeFrom_70 kki_0 ?_
  refine kv_iconst (pc := 71) (v := (4 : Int32)) dk_State_takeFrom_71 kki_4 ?_
  refine kv_copyC (pc := 72) kr_25 kr_50 kn_25 kn_50 kl_25 kl_50 (by decide) kw_1070 kw_752 kw_751 kw_82 (Nat.le_of_ble_eq_true rfl) dk_State_takeFrom_72 (fun c6 => ?_)
  refine kv_aload_n (pc := 75) 0 rfl rfl dk_State_takeFrom_75 ?_
  refine kv_aload_n (pc := 76) 1 rfl rfl dk_State_takeFrom_76 ?_
  refine kv_getC (pc := 77) kf_State_91 kr_1 kn_1 rfl dk_State_takeFrom_77 ?_
  refine kv_putC (pc := 80) kf_State_91 kr_26 kn_26 rfl rfl rfl dk_State_takeFrom_80 (fun c7 => ?_)
  refine kv_aload_n (pc := 83) 0 rfl rfl dk_State_takeFrom_83 ?_
  refine kv_aload_n (pc := 84) 1 rfl rfl dk_State_takeFrom_84 ?_
  refine kv_getC (pc := 85) kf_State_43 kr_1 kn_1 rfl dk_State_takeFrom_85 ?_
  refine kv_putC (pc := 88) kf_State_43 kr_26 kn_26 rfl rfl rfl dk_State_takeFrom_88 (fun c8 => ?_)
  refine kv_aload_n (pc := 91) 0 rfl rfl dk_State_takeFrom_91 ?_
  refine kv_aload_n (pc := 92) 1 rfl rfl dk_State_takeFrom_92 ?_
  refine kv_getC (pc := 93) kf_State_47 kr_1 kn_1 rfl dk_State_takeFrom_93 ?_
  refine kv_putC (pc := 96) kf_State_47 kr_26 kn_26 rfl rfl rfl dk_State_takeFrom_96 (fun c9 => ?_)
  refine kv_aload_n (pc := 99) 0 rfl rfl dk_State_takeFrom_99 ?_
  refine kv_aload_n (pc := 100) 1 rfl rfl dk_State_takeFrom_100 ?_
  refine kv_getC (pc := 101) kf_State_50 kr_1 kn_1 rfl dk_State_takeFrom_101 ?_
  refine kv_putC (pc := 104) kf_State_50 kr_26 kn_26 rfl rfl rfl dk_State_takeFrom_104 (fun c10 => ?_)
  exact kv_vret (pc := 107) (fun h => h) rfl dk_State_takeFrom_107
