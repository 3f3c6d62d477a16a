theorem dk_Net_settles_0 : decode prog_6_method_9_code 0 = .ok (.iconst 0, 1) := by decide +kernel
theorem dk_Net_settles_1 : decode prog_6_method_9_code 1 = .ok (.istore_n 1, 1) := by decide +kernel
theorem dk_Net_settles_2 : decode prog_6_method_9_code 2 = .ok (.iload_n 1, 1) := by decide +kernel
theorem dk_Net_settles_3 : decode prog_6_method_9_code 3 = .ok (.aload_n 0, 1) := by decide +kernel
theorem dk_Net_settles_4 : decode prog_6_method_9_code 4 = .ok (.getfield 24, 3) := by decide +kernel
theorem dk_Net_settles_7 : decode prog_6_method_9_code 7 = .ok (.if_icmp .ge 18, 3) := by decide +kernel
theorem dk_Net_settles_10 : decode prog_6_method_9_code 10 = .ok (.aload_n 0, 1) := by decide +kernel
theorem dk_Net_settles_11 : decode prog_6_method_9_code 11 = .ok (.invokevirtual 50, 3) := by decide +kernel
theorem dk_Net_settles_14 : decode prog_6_method_9_code 14 = .ok (.ifCond .ne 5, 3) := by decide +kernel
theorem dk_Net_settles_17 : decode prog_6_method_9_code 17 = .ok (.iconst 1, 1) := by decide +kernel
theorem dk_Net_settles_18 : decode prog_6_method_9_code 18 = .ok (.ireturn, 1) := by decide +kernel
theorem dk_Net_settles_19 : decode prog_6_method_9_code 19 = .ok (.iinc 1 1, 3) := by decide +kernel
theorem dk_Net_settles_22 : decode prog_6_method_9_code 22 = .ok (.goto (-20), 3) := by decide +kernel
theorem dk_Net_settles_25 : decode prog_6_method_9_code 25 = .ok (.aload_n 0, 1) := by decide +kernel
theorem dk_Net_settles_26 : decode prog_6_method_9_code 26 = .ok (.invokevirtual 50, 3) := by decide +kernel
theorem dk_Net_settles_29 : decode prog_6_method_9_code 29 = .ok (.ifCond .ne 7, 3) := by decide +kernel
theorem dk_Net_settles_32 : decode prog_6_method_9_code 32 = .ok (.iconst 1, 1) := by decide +kernel
theorem dk_Net_settles_33 : decode prog_6_method_9_code 33 = .ok (.goto 4, 3) := by decide +kernel
theorem dk_Net_settles_36 : decode prog_6_method_9_code 36 = .ok (.iconst 0, 1) := by decide +kernel
theorem dk_Net_settles_37 : decode prog_6_method_9_code 37 = .ok (.ireturn, 1) := by decide +kernel
noncomputable def fb_Net_settles_2 (x1 : Int32) (c2 : (Nat → Nat → Int32)) : Option ((Int32 × (Nat → Nat → Int32)) ⊕ ((Nat → Nat → Int32) ⊕ (Nat → Nat → Int32))) :=
  if (c2 68 4) ≤ x1 then
    some (.inr (.inr c2))
  else
    kv_bind2 (fx_Net_shortens c2) (fun b5 c6 =>
    if b5 = true then
      some (.inl ((x1 + (1 : Int32)), c6))
    else
      some (.inr (.inl c6)))
noncomputable def fx_Net_settles (c : (Nat → Nat → Int32)) : Option (Bool × (Nat → Nat → Int32)) :=
  (kv_loop (kv_u2 (fb_Net_settles_2)) ((0 : Int32), c)).bind (Sum.elim (kv_u1 (fun c3 =>
  some (true, c3)))
   (kv_u1 (fun c4 =>
  kv_bind2 (fx_Net_shortens c4) (fun b7 c8 =>
  if b7 = true then
    some (false, c8)
  else
    some (true, c8)))))
set_option maxRecDepth 20000 in
theorem cx_Net_settles (d : Nat) (c : (Nat → Nat → Int32)) (y : (Nat → Nat → Int32) × (Nat → Int64) × (Nat → Int64)) : ∀ a, fx_Net_settles c = some a → kv_C kM_Net_settles (d + 1) [.ref 68] (c, y) (some (.int (kv_b a.1)), (a.2, y)) := by
  refine kv_entryX (E := fun a : (Bool × (Nat → Nat → Int32)) => (some (.int (kv_b a.1)), (a.2, y))) rfl (Nat.le_of_ble_eq_true rfl) (fun o => ?_)
  unfold fx_Net_settles
  show kv_X _ _ _ _ _ 0 [(0, .ref 68)] [] (c, y)
  refine kv_iconst (pc := 0) (v := (0 : Int32)) dk_Net_settles_0 kki_0 ?_
  refine kv_istore_n (pc := 1) (lv' := [(1, .int (0 : Int32)), (0, .ref 68)]) rfl (Nat.le_of_ble_eq_true rfl) rfl dk_Net_settles_1 ?_
  refine kv_sub (lv' := [(0, .ref 68), (1, .int (0 : Int32))]) [1, 0] rfl ?_
  refine kv_lp_2_1_1 (LV := fun x1 c2 => [(0, .ref 68), (1, .int x1)]) (WW := fun x1 c2 => (c2, y)) (LE1 := fun c3 => []) (WE1 := fun c3 => (c3, y)) (pe1 := 17) (LE2 := fun c4 => [(0, .ref 68)]) (WE2 := fun c4 => (c4, y)) (pe2 := 25) ?_ ?_ ?_
  · intro c3
    show kv_X _ _ _ _ _ 17 [] [] (c3, y)
    refine kv_iconst (pc := 17) (v := (1 : Int32)) dk_Net_settles_17 kki_1 ?_
    exact kv_zret (pc := 18) (b := true) (fun h => h) rfl dk_Net_settles_18
  · intro c4
    show kv_X _ _ _ _ _ 25 [(0, .ref 68)] [] (c4, y)
    refine kv_aload_n (pc := 25) 0 rfl rfl dk_Net_settles_25 ?_
    refine kv_cV_cZc (pc := 26) (as := []) (st := []) ko_Net_shortens kc_4 rfl rfl kr_68 kw_719 (Nat.le_of_ble_eq_true rfl) rfl dk_Net_settles_26 (cx_Net_shortens d c4 y) (fun b7 c8 => ?_)
    refine kv_zif_ne (pc := 29) (tgt := 36) dk_Net_settles_29 rfl ?_ ?_
    · refine kv_iconst (pc := 36) (v := (0 : Int32)) dk_Net_settles_36 kki_0 ?_
      exact kv_zret (pc := 37) (b := false) (fun h => h) rfl dk_Net_settles_37
    · refine kv_iconst (pc := 32) (v := (1 : Int32)) dk_Net_settles_32 kki_1 ?_
      refine kv_goto (pc := 33) (tgt := 37) dk_Net_settles_33 rfl ?_
      exact kv_zret (pc := 37) (b := true) (fun h => h) rfl dk_Net_settles_37
  · intro hx2_0 hx2_1 x1 c2
    show kv_X _ _ _ _ (fb_Net_settles_2 x1 c2) 2 [(0, .ref 68), (1, .int x1)] [] (c2, y)
    unfold fb_Net_settles_2
    refine kv_iload_n (pc := 2) 1 rfl rfl dk_Net_settles_2 ?_
    refine kv_aload_n (pc := 3) 0 rfl rfl dk_Net_settles_3 ?_
    refine kv_getC (pc := 4) kf_Net_24 kr_68 kn_68 rfl dk_Net_settles_4 ?_
    refine kv_icmp_ge (pc := 7) (tgt := 25) dk_Net_settles_7 rfl ?_ ?_
    · exact kv_sub [0] rfl (kv_leaf (hx2_1 _))
    · refine kv_aload_n (pc := 10) 0 rfl rfl dk_Net_settles_10 ?_
      refine kv_cV_cZc (pc := 11) (as := []) (st := []) ko_Net_shortens kc_4 rfl rfl kr_68 kw_719 (Nat.le_of_ble_eq_true rfl) rfl dk_Net_settles_11 (cx_Net_shortens d c2 y) (fun b5 c6 => ?_)
      refine kv_zif_ne (pc := 14) (tgt := 19) dk_Net_settles_14 rfl ?_ ?_
      · refine kv_iinc (pc := 19) (kk := (1 : Int32)) (lv' := [(1, .int (x1 + (1 : Int32))), (0, .ref 68)]) 1 rfl kki_1 rfl (Nat.le_of_ble_eq_true rfl) dk_Net_settles_19 ?_
        refine kv_goto (pc := 22) (tgt := 2) dk_Net_settles_22 rfl ?_
        exact kv_sub [1, 0] rfl (kv_leaf (fun h => h))
      · exact kv_sub [] rfl (kv_leaf (hx2_0 _))
theorem dk_Net_holds_0 : decode prog_6_method_7_code 0 = .ok (.aload_n 0, 1) := by decide +kernel
theorem dk_Net_holds_1 : decode prog_6_method_7_code 1 = .ok (.getfield 21, 3) := by decide +kernel
theorem dk_Net_holds_4 : decode prog_6_method_7_code 4 = .ok (.iconst 0, 1) := by decide +kernel
theorem dk_Net_holds_5 : decode prog_6_method_7_code 5 = .ok (.invokestatic 39, 3) := by decide +kernel
theorem dk_Net_holds_8 : decode prog_6_method_7_code 8 = .ok (.aload_n 0, 1) := by decide +kernel
theorem dk_Net_holds_9 : decode prog_6_method_7_code 9 = .ok (.invokevirtual 45, 3) := by decide +kernel
theorem dk_Net_holds_12 : decode prog_6_method_7_code 12 = .ok (.ireturn, 1) := by decide +kernel
noncomputable def fx_Net_holds (c : (Nat → Nat → Int32)) : Option (Bool × (Nat → Nat → Int32)) :=
  kv_bind1 (fx_Arr_fill (0 : Int32) c) (fun c1 =>
  kv_bind2 (fx_Net_settles c1) (fun b2 c3 =>
  some (b2, c3)))
set_option maxRecDepth 20000 in
theorem cx_Net_holds (d : Nat) (c : (Nat → Nat → Int32)) (y : (Nat → Nat → Int32) × (Nat → Int64) × (Nat → Int64)) : ∀ a, fx_Net_holds c = some a → kv_C kM_Net_holds (d + 2) [.ref 68] (c, y) (some (.int (kv_b a.1)), (a.2, y)) := by
  refine kv_entryX (E := fun a : (Bool × (Nat → Nat → Int32)) => (some (.int (kv_b a.1)), (a.2, y))) rfl (Nat.le_of_ble_eq_true rfl) (fun o => ?_)
  unfold fx_Net_holds
  show kv_X _ _ _ _ _ 0 [(0, .ref 68)] [] (c, y)
  refine kv_aload_n (pc := 0) 0 rfl rfl dk_Net_holds_0 ?_
  refine kv_getR (pc := 1) kf_Net_21 kr_68 rfl kt_68_3 dk_Net_holds_1 ?_
  refine kv_iconst (pc := 4) (v := (0 : Int32)) dk_Net_holds_4 kki_0 ?_
  refine kv_cS_cc (pc := 5) (as := [.ref 72, .int (0 : Int32)]) (st := []) ko_Arr_fill rfl kw_714 (Nat.le_of_ble_eq_true rfl) rfl dk_Net_holds_5 (cx_Arr_fill (d + 1) (0 : Int32) c y) (fun c1 => ?_)
  refine kv_aload_n (pc := 8) 0 rfl rfl dk_Net_holds_8 ?_
  refine kv_cV_cZc (pc := 9) (as := []) (st := []) ko_Net_settles kc_4 rfl rfl kr_68 kw_715 (Nat.le_of_ble_eq_true rfl) rfl dk_Net_holds_9 (cx_Net_settles d c1 y) (fun b2 c3 => ?_)
  exact kv_zret (pc := 12) (b := b2) (fun h => h) rfl dk_Net_holds_12
theorem dk_Net_greatestOf_0 : decode prog_6_method_8_code 0 = .ok (.aload_n 0, 1) := by decide +kernel
theorem dk_Net_greatestOf_1 : decode prog_6_method_8_code 1 = .ok (.iload_n 1, 1) := by decide +kernel
theorem dk_Net_greatestOf_2 : decode prog_6_method_8_code 2 = .ok (.invokevirtual 35, 3) := by decide +kernel
theorem dk_Net_greatestOf_5 : decode prog_6_method_8_code 5 = .ok (.ifCond .eq 11, 3) := by decide +kernel
theorem dk_Net_greatestOf_8 : decode prog_6_method_8_code 8 = .ok (.aload_n 0, 1) := by decide +kernel
theorem dk_Net_greatestOf_9 : decode prog_6_method_8_code 9 = .ok (.iload_n 2, 1) := by decide +kernel
theorem dk_Net_greatestOf_10 : decode prog_6_method_8_code 10 = .ok (.invokevirtual 35, 3) := by decide +kernel
theorem dk_Net_greatestOf_13 : decode prog_6_method_8_code 13 = .ok (.ifCond .ne 6, 3) := by decide +kernel
theorem dk_Net_greatestOf_16 : decode prog_6_method_8_code 16 = .ok (.ldc 49, 2) := by decide +kernel
theorem dk_Net_greatestOf_18 : decode prog_6_method_8_code 18 = .ok (.ireturn, 1) := by decide +kernel
theorem dk_Net_greatestOf_19 : decode prog_6_method_8_code 19 = .ok (.aload_n 0, 1) := by decide +kernel
theorem dk_Net_greatestOf_20 : decode prog_6_method_8_code 20 = .ok (.getfield 21, 3) := by decide +kernel
theorem dk_Net_greatestOf_23 : decode prog_6_method_8_code 23 = .ok (.ldc 49, 2) := by decide +kernel
theorem dk_Net_greatestOf_25 : decode prog_6_method_8_code 25 = .ok (.invokestatic 39, 3) := by decide +kernel
theorem dk_Net_greatestOf_28 : decode prog_6_method_8_code 28 = .ok (.aload_n 0, 1) := by decide +kernel
theorem dk_Net_greatestOf_29 : decode prog_6_method_8_code 29 = .ok (.getfield 21, 3) := by decide +kernel
theorem dk_Net_greatestOf_32 : decode prog_6_method_8_code 32 = .ok (.iload_n 2, 1) := by decide +kernel
theorem dk_Net_greatestOf_33 : decode prog_6_method_8_code 33 = .ok (.iconst 0, 1) := by decide +kernel
theorem dk_Net_greatestOf_34 : decode prog_6_method_8_code 34 = .ok (.iastore, 1) := by decide +kernel
theorem dk_Net_greatestOf_35 : decode prog_6_method_8_code 35 = .ok (.aload_n 0, 1) := by decide +kernel
theorem dk_Net_greatestOf_36 : decode prog_6_method_8_code 36 = .ok (.invokevirtual 45, 3) := by decide +kernel
theorem dk_Net_greatestOf_39 : decode prog_6_method_8_code 39 = .ok (.pop, 1) := by decide +kernel
theorem dk_Net_greatestOf_40 : decode prog_6_method_8_code 40 = .ok (.aload_n 0, 1) := by decide +kernel
theorem dk_Net_greatestOf_41 : decode prog_6_method_8_code 41 = .ok (.getfield 21, 3) := by decide +kernel
theorem dk_Net_greatestOf_44 : decode prog_6_method_8_code 44 = .ok (.iload_n 1, 1) := by decide +kernel
theorem dk_Net_greatestOf_45 : decode prog_6_method_8_code 45 = .ok (.iaload, 1) := by decide +kernel
theorem dk_Net_greatestOf_46 : decode prog_6_method_8_code 46 = .ok (.ireturn, 1) := by decide +kernel
noncomputable def fx_Net_greatestOf (p1 : Int32) (p2 : Int32) (c : (Nat → Nat → Int32)) : Option (Int32 × (Nat → Nat → Int32)) :=
  kv_bind1 (fx_Net_isKnot p1 c) (fun b1 =>
  if b1 = true then
    kv_bind1 (fx_Net_isKnot p2 c) (fun b2 =>
    if b2 = true then
      kv_bind1 (fx_Arr_fill (2147483647 : Int32) c) (fun c3 =>
      kv_gd (kv_in p2 42) (
      kv_let (kv_st c3 72 p2.toNatClampNeg (0 : Int32)) (fun c5 =>
      kv_bind2 (fx_Net_settles c5) (fun b6 c7 =>
      kv_gd (kv_in p1 42) (
      some ((c7 72 p1.toNatClampNeg), c7))))))
    else
      some ((2147483647 : Int32), c))
  else
    some ((2147483647 : Int32), c))
set_option maxRecDepth 20000 in
theorem cx_Net_greatestOf (d : Nat) (p1 : Int32) (p2 : Int32) (c : (Nat → Nat → Int32)) (y : (Nat → Nat → Int32) × (Nat → Int64) × (Nat → Int64)) : ∀ a, fx_Net_greatestOf p1 p2 c = some a → kv_C kM_Net_greatestOf (d + 2) [.ref 68, .int p1, .int p2] (c, y) (some (.int a.1), (a.2, y)) := by
  refine kv_entryX (E := fun a : (Int32 × (Nat → Nat → Int32)) => (some (.int a.1), (a.2, y))) rfl (Nat.le_of_ble_eq_true rfl) (fun o => ?_)
  unfold fx_Net_greatestOf
  show kv_X _ _ _ _ _ 0 [(0, .ref 68), (1, .int p1), (2, .int p2)] [] (c, y)
  refine kv_aload_n (pc := 0) 0 rfl rfl dk_Net_greatestOf_0 ?_
  refine kv_iload_n (pc := 1) 1 rfl rfl dk_Net_greatestOf_1 ?_
  refine kv_cV_cZ (pc := 2) (as := [.int p1]) (st := []) ko_Net_isKnot kc_4 rfl rfl kr_68 kw_702 (Nat.le_of_ble_eq_true rfl) rfl dk_Net_greatestOf_2 (cx_Net_isKnot (d + 1) p1 c y) (fun b1 => ?_)
  refine kv_zif_eq (pc := 5) (tgt := 16) dk_Net_greatestOf_5 rfl ?_ ?_
  · refine kv_ldc (pc := 16) (v := (2147483647 : Int32)) kw_723 dk_Net_greatestOf_16 ?_
    exact kv_iret (pc := 18) (fun h => h) rfl dk_Net_greatestOf_18
  · refine kv_aload_n (pc := 8) 0 rfl rfl dk_Net_greatestOf_8 ?_
    refine kv_iload_n (pc := 9) 2 rfl rfl dk_Net_greatestOf_9 ?_
    refine kv_cV_cZ (pc := 10) (as := [.int p2]) (st := []) ko_Net_isKnot kc_4 rfl rfl kr_68 kw_702 (Nat.le_of_ble_eq_true rfl) rfl dk_Net_greatestOf_10 (cx_Net_isKnot (d + 1) p2 c y) (fun b2 => ?_)
    refine kv_zif_ne (pc := 13) (tgt := 19) dk_Net_greatestOf_13 rfl ?_ ?_
    · refine kv_aload_n (pc := 19) 0 rfl rfl dk_Net_greatestOf_19 ?_
      refine kv_getR (pc := 20) kf_Net_21 kr_68 rfl kt_68_3 dk_Net_greatestOf_20 ?_
      refine kv_ldc (pc := 23) (v := (2147483647 : Int32)) kw_723 dk_Net_greatestOf_23 ?_
      refine kv_cS_cc (pc := 25) (as := [.ref 72, .int (2147483647 : Int32)]) (st := []) ko_Arr_fill rfl kw_714 (Nat.le_of_ble_eq_true rfl) rfl dk_Net_greatestOf_25 (cx_Arr_fill (d + 1) (2147483647 : Int32) c y) (fun c3 => ?_)
      refine kv_aload_n (pc := 28) 0 rfl rfl dk_Net_greatestOf_28 ?_
      refine kv_getR (pc := 29) kf_Net_21 kr_68 rfl kt_68_3 dk_Net_greatestOf_29 ?_
      refine kv_iload_n (pc := 32) 2 rfl rfl dk_Net_greatestOf_32 ?_
      refine kv_iconst (pc := 33) (v := (0 : Int32)) dk_Net_greatestOf_33 kki_0 ?_
      refine kv_guard (fun g4 => ?_)
      refine kv_astC (pc := 34) kr_72 kn_72 kl_72 g4 rfl dk_Net_greatestOf_34 (fun c5 => ?_)
      refine kv_aload_n (pc := 35) 0 rfl rfl dk_Net_greatestOf_35 ?_
      refine kv_cV_cZc (pc := 36) (as := []) (st := []) ko_Net_settles kc_4 rfl rfl kr_68 kw_715 (Nat.le_of_ble_eq_true rfl) rfl dk_Net_greatestOf_36 (cx_Net_settles d c5 y) (fun b6 c7 => ?_)
      refine kv_popI (pc := 39) dk_Net_greatestOf_39 ?_
      refine kv_aload_n (pc := 40) 0 rfl rfl dk_Net_greatestOf_40 ?_
      refine kv_getR (pc := 41) kf_Net_21 kr_68 rfl kt_68_3 dk_Net_greatestOf_41 ?_
      refine kv_iload_n (pc := 44) 1 rfl rfl dk_Net_greatestOf_44 ?_
      refine kv_guard (fun g8 => ?_)
      refine kv_aldC (pc := 45) kr_72 kn_72 kl_72 g8 rfl dk_Net_greatestOf_45 ?_
      exact kv_iret (pc := 46) (fun h => h) rfl dk_Net_greatestOf_46
    · refine kv_ldc (pc := 16) (v := (2147483647 : Int32)) kw_723 dk_Net_greatestOf_16 ?_
      exact kv_iret (pc := 18) (fun h => h) rfl dk_Net_greatestOf_18
theorem dk_K_bounded_0 : decode prog_1_method_54_code 0 = .ok (.aload_n 0, 1) := by decide +kernel
theorem dk_K_bounded_1 : decode prog_1_method_54_code 1 = .ok (.getfield 29, 3) := by decide +kernel
theorem dk_K_bounded_4 : decode prog_1_method_54_code 4 = .ok (.invokevirtual 237, 3) := by decide +kernel
theorem dk_K_bounded_7 : decode prog_1_method_54_code 7 = .ok (.ifCond .ne 7, 3) := by decide +kernel
theorem dk_K_bounded_10 : decode prog_1_method_54_code 10 = .ok (.ldc_w 442, 3) := by decide +kernel
theorem dk_K_bounded_13 : decode prog_1_method_54_code 13 = .ok (.ireturn, 1) := by decide +kernel
theorem dk_K_bounded_14 : decode prog_1_method_54_code 14 = .ok (.iload_n 3, 1) := by decide +kernel
theorem dk_K_bounded_15 : decode prog_1_method_54_code 15 = .ok (.iconst 1, 1) := by decide +kernel
theorem dk_K_bounded_16 : decode prog_1_method_54_code 16 = .ok (.if_icmp .ne 15, 3) := by decide +kernel
theorem dk_K_bounded_19 : decode prog_1_method_54_code 19 = .ok (.aload_n 0, 1) := by decide +kernel
theorem dk_K_bounded_20 : decode prog_1_method_54_code 20 = .ok (.getfield 29, 3) := by decide +kernel
theorem dk_K_bounded_23 : decode prog_1_method_54_code 23 = .ok (.iload_n 1, 1) := by decide +kernel
theorem dk_K_bounded_24 : decode prog_1_method_54_code 24 = .ok (.iload_n 2, 1) := by decide +kernel
theorem dk_K_bounded_25 : decode prog_1_method_54_code 25 = .ok (.invokevirtual 443, 3) := by decide +kernel
theorem dk_K_bounded_28 : decode prog_1_method_54_code 28 = .ok (.goto 12, 3) := by decide +kernel
theorem dk_K_bounded_31 : decode prog_1_method_54_code 31 = .ok (.aload_n 0, 1) := by decide +kernel
theorem dk_K_bounded_32 : decode prog_1_method_54_code 32 = .ok (.getfield 29, 3) := by decide +kernel
theorem dk_K_bounded_35 : decode prog_1_method_54_code 35 = .ok (.iload_n 2, 1) := by decide +kernel
theorem dk_K_bounded_36 : decode prog_1_method_54_code 36 = .ok (.iload_n 1, 1) := by decide +kernel
theorem dk_K_bounded_37 : decode prog_1_method_54_code 37 = .ok (.invokevirtual 443, 3) := by decide +kernel
theorem dk_K_bounded_40 : decode prog_1_method_54_code 40 = .ok (.istore 4, 2) := by decide +kernel
theorem dk_K_bounded_42 : decode prog_1_method_54_code 42 = .ok (.iload 4, 2) := by decide +kernel
theorem dk_K_bounded_44 : decode prog_1_method_54_code 44 = .ok (.ldc_w 446, 3) := by decide +kernel
theorem dk_K_bounded_47 : decode prog_1_method_54_code 47 = .ok (.if_icmp .ne 6, 3) := by decide +kernel
theorem dk_K_bounded_50 : decode prog_1_method_54_code 50 = .ok (.ldc 123, 2) := by decide +kernel
theorem dk_K_bounded_52 : decode prog_1_method_54_code 52 = .ok (.ireturn, 1) := by decide +kernel
theorem dk_K_bounded_53 : decode prog_1_method_54_code 53 = .ok (.iload_n 3, 1) := by decide +kernel
theorem dk_K_bounded_54 : decode prog_1_method_54_code 54 = .ok (.iconst 1, 1) := by decide +kernel
theorem dk_K_bounded_55 : decode prog_1_method_54_code 55 = .ok (.if_icmp .ne 8, 3) := by decide +kernel
theorem dk_K_bounded_58 : decode prog_1_method_54_code 58 = .ok (.iload 4, 2) := by decide +kernel
theorem dk_K_bounded_60 : decode prog_1_method_54_code 60 = .ok (.goto 6, 3) := by decide +kernel
theorem dk_K_bounded_63 : decode prog_1_method_54_code 63 = .ok (.iload 4, 2) := by decide +kernel
theorem dk_K_bounded_65 : decode prog_1_method_54_code 65 = .ok (.ineg, 1) := by decide +kernel
theorem dk_K_bounded_66 : decode prog_1_method_54_code 66 = .ok (.ireturn, 1) := by decide +kernel
noncomputable def fj_K_bounded_40 (p3 : Int32) (x3 : Int32) (c4 : (Nat → Nat → Int32)) : Option (Int32 × (Nat → Nat → Int32)) :=
  if x3 = (2147483647 : Int32) then
    some ((-1000000004 : Int32), c4)
  else
    if p3 = (1 : Int32) then
      some (x3, c4)
    else
      some ((-x3), c4)
noncomputable def fx_K_bounded (p1 : Int32) (p2 : Int32) (p3 : Int32) (c : (Nat → Nat → Int32)) : Option (Int32 × (Nat → Nat → Int32)) :=
  kv_bind2 (fx_Net_holds c) (fun b1 c2 =>
  if b1 = true then
    if p3 = (1 : Int32) then
      kv_bind2 (fx_Net_greatestOf p1 p2 c2) (fun v7 c8 =>
      fj_K_bounded_40 p3 v7 c8)
    else
      kv_bind2 (fx_Net_greatestOf p2 p1 c2) (fun v5 c6 =>
      fj_K_bounded_40 p3 v5 c6)
  else
    some ((-1000000005 : Int32), c2))
set_option maxRecDepth 20000 in
theorem cx_K_bounded (d : Nat) (p1 : Int32) (p2 : Int32) (p3 : Int32) (c : (Nat → Nat → Int32)) (y : (Nat → Nat → Int32) × (Nat → Int64) × (Nat → Int64)) : ∀ a, fx_K_bounded p1 p2 p3 c = some a → kv_C kM_K_bounded (d + 3) [.ref 0, .int p1, .int p2, .int p3] (c, y) (some (.int a.1), (a.2, y)) := by
  refine kv_entryX (E := fun a : (Int32 × (Nat → Nat → Int32)) => (some (.int a.1), (a.2, y))) rfl (Nat.le_of_ble_eq_true rfl) (fun o => ?_)
  unfold fx_K_bounded
  show kv_X _ _ _ _ _ 0 [(0, .ref 0), (1, .int p1), (2, .int p2), (3, .int p3)] [] (c, y)
  refine kv_aload_n (pc := 0) 0 rfl rfl dk_K_bounded_0 ?_
  refine kv_getR (pc := 1) kf_K_29 kr_0 rfl kt_0_4 dk_K_bounded_1 ?_
  refine kv_cV_cZc (pc := 4) (as := []) (st := []) ko_Net_holds kc_4 rfl rfl kr_68 kw_710 (Nat.le_of_ble_eq_true rfl) rfl dk_K_bounded_4 (cx_Net_holds d c y) (fun b1 c2 => ?_)
  refine kv_zif_ne (pc := 7) (tgt := 14) dk_K_bounded_7 rfl ?_ ?_
  · refine kv_iload_n (pc := 14) 3 rfl rfl dk_K_bounded_14 ?_
    refine kv_iconst (pc := 15) (v := (1 : Int32)) dk_K_bounded_15 kki_1 ?_
    refine kv_cut_2 (J := fj_K_bounded_40 p3) (pcj := 40) (LJ := fun x3 c4 => [(3, .int p3)]) (SJ := fun x3 c4 => [.int x3]) (WJ := fun x3 c4 => (c4, y)) ?_ (fun hj40 => ?_)
    · intro x3 c4
      show kv_X _ _ _ _ (fj_K_bounded_40 p3 x3 c4) 40 [(3, .int p3)] [.int x3] (c4, y)
      unfold fj_K_bounded_40
      refine kv_istore (pc := 40) (lv' := [(4, .int x3), (3, .int p3)]) rfl (Nat.le_of_ble_eq_true rfl) dk_K_bounded_40 ?_
      refine kv_iload (pc := 42) 0 rfl dk_K_bounded_42 ?_
      refine kv_ldcw (pc := 44) (v := (2147483647 : Int32)) kw_729 dk_K_bounded_44 ?_
      refine kv_icmp_ne (pc := 47) (tgt := 53) dk_K_bounded_47 rfl ?_ ?_
      · refine kv_iload_n (pc := 53) 1 rfl rfl dk_K_bounded_53 ?_
        refine kv_iconst (pc := 54) (v := (1 : Int32)) dk_K_bounded_54 kki_1 ?_
        refine kv_icmp_ne (pc := 55) (tgt := 63) dk_K_bounded_55 rfl ?_ ?_
        · refine kv_iload (pc := 63) 0 rfl dk_K_bounded_63 ?_
          refine kv_ineg (pc := 65) dk_K_bounded_65 ?_
          exact kv_iret (pc := 66) (fun h => h) rfl dk_K_bounded_66
        · refine kv_iload (pc := 58) 0 rfl dk_K_bounded_58 ?_
          refine kv_goto (pc := 60) (tgt := 66) dk_K_bounded_60 rfl ?_
          exact kv_iret (pc := 66) (fun h => h) rfl dk_K_bounded_66
      · refine kv_ldc (pc := 50) (v := (-1000000004 : Int32)) kw_547 dk_K_bounded_50 ?_
        exact kv_iret (pc := 52) (fun h => h) rfl dk_K_bounded_52
    refine kv_icmp_ne (pc := 16) (tgt := 31) dk_K_bounded_16 rfl ?_ ?_
    · refine kv_aload_n (pc := 31) 0 rfl rfl dk_K_bounded_31 ?_
      refine kv_getR (pc := 32) kf_K_29 kr_0 rfl kt_0_4 dk_K_bounded_32 ?_
      refine kv_iload_n (pc := 35) 2 rfl rfl dk_K_bounded_35 ?_
      refine kv_iload_n (pc := 36) 1 rfl rfl dk_K_bounded_36 ?_
      refine kv_cV_cIc (pc := 37) (as := [.int p2, .int p1]) (st := []) ko_Net_greatestOf kc_4 rfl rfl kr_68 kw_725 (Nat.le_of_ble_eq_true rfl) rfl dk_K_bounded_37 (cx_Net_greatestOf d p2 p1 c2 y) (fun v5 c6 => ?_)
      exact kv_sub [3] rfl (hj40 v5 c6)
    · refine kv_aload_n (pc := 19) 0 rfl rfl dk_K_bounded_19 ?_
      refine kv_getR (pc := 20) kf_K_29 kr_0 rfl kt_0_4 dk_K_bounded_20 ?_
      refine kv_iload_n (pc := 23) 1 rfl rfl dk_K_bounded_23 ?_
      refine kv_iload_n (pc := 24) 2 rfl rfl dk_K_bounded_24 ?_
      refine kv_cV_cIc (pc := 25) (as := [.int p1, .int p2]) (st := []) ko_Net_greatestOf kc_4 rfl rfl kr_68 kw_725 (Nat.le_of_ble_eq_true rfl) rfl dk_K_bounded_25 (cx_Net_greatestOf d p1 p2 c2 y) (fun v7 c8 => ?_)
      refine kv_goto (pc := 28) (tgt := 40) dk_K_bounded_28 rfl ?_
      exact kv_sub [3] rfl (hj40 v7 c8)
  · refine kv_ldcw (pc := 10) (v := (-1000000005 : Int32)) kw_724 dk_K_bounded_10 ?_
    exact kv_iret (pc := 13) (fun h => h) rfl dk_K_bounded_13
theorem dk_K_apart_0 : decode prog_1_method_14_code 0 = .ok (.aload_n 0, 1) := by decide +kernel
theorem dk_K_apart_1 : decode prog_1_method_14_code 1 = .ok (.getfield 10, 3) := by decide +kernel
theorem dk_K_apart_4 : decode prog_1_method_14_code 4 = .ok (.getfield 58, 3) := by decide +kernel
theorem dk_K_apart_7 : decode prog_1_method_14_code 7 = .ok (.astore 5, 2) := by decide +kernel
theorem dk_K_apart_9 : decode prog_1_method_14_code 9 = .ok (.aload 5, 2) := by decide +kernel
theorem dk_K_apart_11 : decode prog_1_method_14_code 11 = .ok (.iload_n 1, 1) := by decide +kernel
theorem dk_K_apart_12 : decode prog_1_method_14_code 12 = .ok (.invokevirtual 101, 3) := by decide +kernel
theorem dk_K_apart_15 : decode prog_1_method_14_code 15 = .ok (.ifCond .eq 29, 3) := by decide +kernel
theorem dk_K_apart_18 : decode prog_1_method_14_code 18 = .ok (.aload 5, 2) := by decide +kernel
theorem dk_K_apart_20 : decode prog_1_method_14_code 20 = .ok (.iload_n 2, 1) := by decide +kernel
theorem dk_K_apart_21 : decode prog_1_method_14_code 21 = .ok (.invokevirtual 101, 3) := by decide +kernel
theorem dk_K_apart_24 : decode prog_1_method_14_code 24 = .ok (.ifCond .eq 20, 3) := by decide +kernel
theorem dk_K_apart_27 : decode prog_1_method_14_code 27 = .ok (.iload_n 3, 1) := by decide +kernel
theorem dk_K_apart_28 : decode prog_1_method_14_code 28 = .ok (.invokestatic 135, 3) := by decide +kernel
theorem dk_K_apart_31 : decode prog_1_method_14_code 31 = .ok (.ifCond .eq 13, 3) := by decide +kernel
theorem dk_K_apart_34 : decode prog_1_method_14_code 34 = .ok (.iload 4, 2) := by decide +kernel
theorem dk_K_apart_36 : decode prog_1_method_14_code 36 = .ok (.iconst 0, 1) := by decide +kernel
theorem dk_K_apart_37 : decode prog_1_method_14_code 37 = .ok (.iconst 1, 1) := by decide +kernel
theorem dk_K_apart_38 : decode prog_1_method_14_code 38 = .ok (.invokestatic 54, 3) := by decide +kernel
theorem dk_K_apart_41 : decode prog_1_method_14_code 41 = .ok (.ifCond .ne 6, 3) := by decide +kernel
theorem dk_K_apart_44 : decode prog_1_method_14_code 44 = .ok (.ldc 84, 2) := by decide +kernel
theorem dk_K_apart_46 : decode prog_1_method_14_code 46 = .ok (.ireturn, 1) := by decide +kernel
theorem dk_K_apart_47 : decode prog_1_method_14_code 47 = .ok (.aload_n 0, 1) := by decide +kernel
theorem dk_K_apart_48 : decode prog_1_method_14_code 48 = .ok (.getfield 29, 3) := by decide +kernel
theorem dk_K_apart_51 : decode prog_1_method_14_code 51 = .ok (.bipush 10, 2) := by decide +kernel
theorem dk_K_apart_53 : decode prog_1_method_14_code 53 = .ok (.invokevirtual 211, 3) := by decide +kernel
theorem dk_K_apart_56 : decode prog_1_method_14_code 56 = .ok (.aload_n 0, 1) := by decide +kernel
theorem dk_K_apart_57 : decode prog_1_method_14_code 57 = .ok (.iload_n 3, 1) := by decide +kernel
theorem dk_K_apart_58 : decode prog_1_method_14_code 58 = .ok (.iconst 0, 1) := by decide +kernel
theorem dk_K_apart_59 : decode prog_1_method_14_code 59 = .ok (.invokevirtual 214, 3) := by decide +kernel
theorem dk_K_apart_62 : decode prog_1_method_14_code 62 = .ok (.aload_n 0, 1) := by decide +kernel
theorem dk_K_apart_63 : decode prog_1_method_14_code 63 = .ok (.iload_n 1, 1) := by decide +kernel
theorem dk_K_apart_64 : decode prog_1_method_14_code 64 = .ok (.iload_n 2, 1) := by decide +kernel
theorem dk_K_apart_65 : decode prog_1_method_14_code 65 = .ok (.iload 4, 2) := by decide +kernel
theorem dk_K_apart_67 : decode prog_1_method_14_code 67 = .ok (.invokevirtual 218, 3) := by decide +kernel
theorem dk_K_apart_70 : decode prog_1_method_14_code 70 = .ok (.ireturn, 1) := by decide +kernel
noncomputable def fx_K_apart (p1 : Int32) (p2 : Int32) (p3 : Int32) (p4 : Int32) (c : (Nat → Nat → Int32)) : Option (Int32 × (Nat → Nat → Int32)) :=
  kv_bind1 (fx_Lumps_has p1 c) (fun b1 =>
  if b1 = true then
    kv_bind1 (fx_Lumps_has p2 c) (fun b2 =>
    if b2 = true then
      kv_bind1 (fx_K_isYear p3) (fun b3 =>
      if b3 = true then
        kv_bind1 (fx_K_isWithin p4 (0 : Int32) (1 : Int32)) (fun b4 =>
        if b4 = true then
          kv_bind1 (fx_Net_start (10 : Int32) c) (fun c5 =>
          kv_bind1 (fx_K_boundByYear p3 (0 : Int32) c5) (fun c6 =>
          kv_bind2 (fx_K_bounded p1 p2 p4 c6) (fun v7 c8 =>
          some (v7, c8))))
        else
          some ((-1000000001 : Int32), c))
      else
        some ((-1000000001 : Int32), c))
    else
      some ((-1000000001 : Int32), c))
  else
    some ((-1000000001 : Int32), c))
set_option maxRecDepth 20000 in
theorem cx_K_apart (d : Nat) (p1 : Int32) (p2 : Int32) (p3 : Int32) (p4 : Int32) (c : (Nat → Nat → Int32)) (y : (Nat → Nat → Int32) × (Nat → Int64) × (Nat → Int64)) : ∀ a, fx_K_apart p1 p2 p3 p4 c = some a → kv_C kM_K_apart (d + 4) [.ref 0, .int p1, .int p2, .int p3, .int p4] (c, y) (some (.int a.1), (a.2, y)) := by
  refine kv_entryX (E := fun a : (Int32 × (Nat → Nat → Int32)) => (some (.int a.1), (a.2, y))) rfl (Nat.le_of_ble_eq_true rfl) (fun o => ?_)
  unfold fx_K_apart
  show kv_X _ _ _ _ _ 0 [(0, .ref 0), (1, .int p1), (2, .int p2), (3, .int p3), (4, .int p4)] [] (c, y)
  refine kv_aload_n (pc := 0) 0 rfl rfl dk_K_apart_0 ?_
  refine kv_getR (pc := 1) kf_K_10 kr_0 rfl kt_0_0 dk_K_apart_1 ?_
  refine kv_getR (pc := 4) kf_K_58 kr_1 rfl kt_1_0 dk_K_apart_4 ?_
  refine kv_astore (pc := 7) (lv' := [(5, .ref 2), (0, .ref 0), (1, .int p1), (2, .int p2), (3, .int p3), (4, .int p4)]) rfl (Nat.le_of_ble_eq_true rfl) dk_K_apart_7 ?_
  refine kv_aload (pc := 9) 0 rfl dk_K_apart_9 ?_
  refine kv_iload_n (pc := 11) 2 rfl rfl dk_K_apart_11 ?_
  refine kv_cV_cZ (pc := 12) (as := [.int p1]) (st := []) ko_Lumps_has kc_3 rfl rfl kr_2 kw_543 (Nat.le_of_ble_eq_true rfl) rfl dk_K_apart_12 (cx_Lumps_has (d + 3) p1 c y) (fun b1 => ?_)
  refine kv_zif_eq (pc := 15) (tgt := 44) dk_K_apart_15 rfl ?_ ?_
  · refine kv_ldc (pc := 44) (v := (-1000000001 : Int32)) kw_530 dk_K_apart_44 ?_
    exact kv_iret (pc := 46) (fun h => h) rfl dk_K_apart_46
  · refine kv_aload (pc := 18) 0 rfl dk_K_apart_18 ?_
    refine kv_iload_n (pc := 20) 3 rfl rfl dk_K_apart_20 ?_
    refine kv_cV_cZ (pc := 21) (as := [.int p2]) (st := []) ko_Lumps_has kc_3 rfl rfl kr_2 kw_543 (Nat.le_of_ble_eq_true rfl) rfl dk_K_apart_21 (cx_Lumps_has (d + 3) p2 c y) (fun b2 => ?_)
    refine kv_zif_eq (pc := 24) (tgt := 44) dk_K_apart_24 rfl ?_ ?_
    · refine kv_ldc (pc := 44) (v := (-1000000001 : Int32)) kw_530 dk_K_apart_44 ?_
      exact kv_iret (pc := 46) (fun h => h) rfl dk_K_apart_46
    · refine kv_iload_n (pc := 27) 4 rfl rfl dk_K_apart_27 ?_
      refine kv_cS_cZ (pc := 28) (as := [.int p3]) (st := []) ko_K_isYear rfl kw_577 (Nat.le_of_ble_eq_true rfl) rfl dk_K_apart_28 (cx_K_isYear (d + 2) p3 c y) (fun b3 => ?_)
      refine kv_zif_eq (pc := 31) (tgt := 44) dk_K_apart_31 rfl ?_ ?_
      · refine kv_ldc (pc := 44) (v := (-1000000001 : Int32)) kw_530 dk_K_apart_44 ?_
        exact kv_iret (pc := 46) (fun h => h) rfl dk_K_apart_46
      · refine kv_iload (pc := 34) 5 rfl dk_K_apart_34 ?_
        refine kv_iconst (pc := 36) (v := (0 : Int32)) dk_K_apart_36 kki_0 ?_
        refine kv_iconst (pc := 37) (v := (1 : Int32)) dk_K_apart_37 kki_1 ?_
        refine kv_cS_cZ (pc := 38) (as := [.int p4, .int (0 : Int32), .int (1 : Int32)]) (st := []) ko_K_isWithin rfl kw_512 (Nat.le_of_ble_eq_true rfl) rfl dk_K_apart_38 (cx_K_isWithin (d + 3) p4 (0 : Int32) (1 : Int32) c y) (fun b4 => ?_)
        refine kv_zif_ne (pc := 41) (tgt := 47) dk_K_apart_41 rfl ?_ ?_
        · refine kv_aload_n (pc := 47) 1 rfl rfl dk_K_apart_47 ?_
          refine kv_getR (pc := 48) kf_K_29 kr_0 rfl kt_0_4 dk_K_apart_48 ?_
          refine kv_bipush (pc := 51) (v := (10 : Int32)) dk_K_apart_51 kkb_10 ?_
          refine kv_cV_cc (pc := 53) (as := [.int (10 : Int32)]) (st := []) ko_Net_start kc_4 rfl rfl kr_68 kw_674 (Nat.le_of_ble_eq_true rfl) rfl dk_K_apart_53 (cx_Net_start (d + 3) (10 : Int32) c y) (fun c5 => ?_)
          refine kv_aload_n (pc := 56) 1 rfl rfl dk_K_apart_56 ?_
          refine kv_iload_n (pc := 57) 4 rfl rfl dk_K_apart_57 ?_
          refine kv_iconst (pc := 58) (v := (0 : Int32)) dk_K_apart_58 kki_0 ?_
          refine kv_cV_cc (pc := 59) (as := [.int p3, .int (0 : Int32)]) (st := []) ko_K_boundByYear kc_10 rfl rfl kr_0 kw_678 (Nat.le_of_ble_eq_true rfl) rfl dk_K_apart_59 (cx_K_boundByYear d p3 (0 : Int32) c5 y) (fun c6 => ?_)
          refine kv_aload_n (pc := 62) 1 rfl rfl dk_K_apart_62 ?_
          refine kv_iload_n (pc := 63) 2 rfl rfl dk_K_apart_63 ?_
          refine kv_iload_n (pc := 64) 3 rfl rfl dk_K_apart_64 ?_
          refine kv_iload (pc := 65) 5 rfl dk_K_apart_65 ?_
          refine kv_cV_cIc (pc := 67) (as := [.int p1, .int p2, .int p4]) (st := []) ko_K_bounded kc_10 rfl rfl kr_0 kw_706 (Nat.le_of_ble_eq_true rfl) rfl dk_K_apart_67 (cx_K_bounded d p1 p2 p4 c6 y) (fun v7 c8 => ?_)
          exact kv_iret (pc := 70) (fun h => h) rfl dk_K_apart_70
        · refine kv_ldc (pc := 44) (v := (-1000000001 : Int32)) kw_530 dk_K_apart_44 ?_
          exact kv_iret (pc := 46) (fun h => h) rfl dk_K_apart_46
theorem dk_D_begins_0 : decode prog_13_method_29_code 0 = .ok (.aload_n 0, 1) := by decide +kernel
theorem dk_D_begins_1 : decode prog_13_method_29_code 1 = .ok (.iload_n 1, 1) := by decide +kernel
theorem dk_D_begins_2 : decode prog_13_method_29_code 2 = .ok (.putfield 144, 3) := by decide +kernel
theorem dk_D_begins_5 : decode prog_13_method_29_code 5 = .ok (.iconst 0, 1) := by decide +kernel
theorem dk_D_begins_6 : decode prog_13_method_29_code 6 = .ok (.istore_n 2, 1) := by decide +kernel
theorem dk_D_begins_7 : decode prog_13_method_29_code 7 = .ok (.iload_n 2, 1) := by decide +kernel
theorem dk_D_begins_8 : decode prog_13_method_29_code 8 = .ok (.iload_n 1, 1) := by decide +kernel
theorem dk_D_begins_9 : decode prog_13_method_29_code 9 = .ok (.if_icmp .ge 45, 3) := by decide +kernel
theorem dk_D_begins_12 : decode prog_13_method_29_code 12 = .ok (.iconst 0, 1) := by decide +kernel
theorem dk_D_begins_13 : decode prog_13_method_29_code 13 = .ok (.istore_n 3, 1) := by decide +kernel
theorem dk_D_begins_14 : decode prog_13_method_29_code 14 = .ok (.iload_n 3, 1) := by decide +kernel
theorem dk_D_begins_15 : decode prog_13_method_29_code 15 = .ok (.iload_n 1, 1) := by decide +kernel
theorem dk_D_begins_16 : decode prog_13_method_29_code 16 = .ok (.if_icmp .ge 32, 3) := by decide +kernel
theorem dk_D_begins_19 : decode prog_13_method_29_code 19 = .ok (.aload_n 0, 1) := by decide +kernel
theorem dk_D_begins_20 : decode prog_13_method_29_code 20 = .ok (.getfield 34, 3) := by decide +kernel
theorem dk_D_begins_23 : decode prog_13_method_29_code 23 = .ok (.bipush 44, 2) := by decide +kernel
theorem dk_D_begins_25 : decode prog_13_method_29_code 25 = .ok (.iload_n 2, 1) := by decide +kernel
theorem dk_D_begins_26 : decode prog_13_method_29_code 26 = .ok (.imul, 1) := by decide +kernel
theorem dk_D_begins_27 : decode prog_13_method_29_code 27 = .ok (.iload_n 3, 1) := by decide +kernel
theorem dk_D_begins_28 : decode prog_13_method_29_code 28 = .ok (.iadd, 1) := by decide +kernel
theorem dk_D_begins_29 : decode prog_13_method_29_code 29 = .ok (.iload_n 2, 1) := by decide +kernel
theorem dk_D_begins_30 : decode prog_13_method_29_code 30 = .ok (.iload_n 3, 1) := by decide +kernel
theorem dk_D_begins_31 : decode prog_13_method_29_code 31 = .ok (.if_icmp .ne 7, 3) := by decide +kernel
theorem dk_D_begins_34 : decode prog_13_method_29_code 34 = .ok (.lconst 0, 1) := by decide +kernel
theorem dk_D_begins_35 : decode prog_13_method_29_code 35 = .ok (.goto 6, 3) := by decide +kernel
theorem dk_D_begins_38 : decode prog_13_method_29_code 38 = .ok (.ldc2_w 147, 3) := by decide +kernel
theorem dk_D_begins_41 : decode prog_13_method_29_code 41 = .ok (.lastore, 1) := by decide +kernel
theorem dk_D_begins_42 : decode prog_13_method_29_code 42 = .ok (.iinc 3 1, 3) := by decide +kernel
theorem dk_D_begins_45 : decode prog_13_method_29_code 45 = .ok (.goto (-31), 3) := by decide +kernel
theorem dk_D_begins_48 : decode prog_13_method_29_code 48 = .ok (.iinc 2 1, 3) := by decide +kernel
theorem dk_D_begins_51 : decode prog_13_method_29_code 51 = .ok (.goto (-44), 3) := by decide +kernel
theorem dk_D_begins_54 : decode prog_13_method_29_code 54 = .ok (.return_, 1) := by decide +kernel
noncomputable def fj_D_begins_41 (x2 : Int32) (x5 : Int32) (f6 : (Nat → Int64)) (x8 : Int64) : Option ((Int32 × (Nat → Int64)) ⊕ (Nat → Int64)) :=
  kv_gd (kv_in (((44 : Int32) * x2) + x5) 1936) (
  kv_let (vp_updL f6 (((44 : Int32) * x2) + x5).toNatClampNeg x8) (fun f10 =>
  some (.inl ((x5 + (1 : Int32)), f10))))
noncomputable def fb_D_begins_14 (p1 : Int32) (x2 : Int32) (x5 : Int32) (f6 : (Nat → Int64)) : Option ((Int32 × (Nat → Int64)) ⊕ (Nat → Int64)) :=
  if p1 ≤ x5 then
    some (.inr f6)
  else
    if x2 = x5 then
      fj_D_begins_41 x2 x5 f6 (0 : Int64)
    else
      fj_D_begins_41 x2 x5 f6 (1000000000000 : Int64)
noncomputable def fb_D_begins_7 (p1 : Int32) (x2 : Int32) (f3 : (Nat → Int64)) : Option ((Int32 × (Nat → Int64)) ⊕ (Nat → Int64)) :=
  if p1 ≤ x2 then
    some (.inr f3)
  else
    (kv_loop (kv_u2 (fb_D_begins_14 p1 x2)) ((0 : Int32), f3)).bind (kv_u1 (fun f7 =>
    some (.inl ((x2 + (1 : Int32)), f7))))
noncomputable def fx_D_begins (p1 : Int32) (m : (Nat → Nat → Int32)) (f : (Nat → Int64)) : Option ((Nat → Nat → Int32) × (Nat → Int64)) :=
  kv_let (kv_st m 84 13 p1) (fun m1 =>
  (kv_loop (kv_u2 (fb_D_begins_7 p1)) ((0 : Int32), f)).bind (kv_u1 (fun f4 =>
  some (m1, f4))))
set_option maxRecDepth 20000 in
theorem cx_D_begins (d : Nat) (p1 : Int32) (c : (Nat → Nat → Int32)) (m : (Nat → Nat → Int32)) (f : (Nat → Int64)) (u : (Nat → Int64)) : ∀ a, fx_D_begins p1 m f = some a → kv_C kM_D_begins (d + 0) [.ref 84, .int p1] (c, m, f, u) (none, (c, a.1, a.2, u)) := by
  refine kv_entryX (E := fun a : ((Nat → Nat → Int32) × (Nat → Int64)) => (none, (c, a.1, a.2, u))) rfl (Nat.le_of_ble_eq_true rfl) (fun o => ?_)
  unfold fx_D_begins
  show kv_X _ _ _ _ _ 0 [(0, .ref 84), (1, .int p1)] [] (c, m, f, u)
  refine kv_aload_n (pc := 0) 0 rfl rfl dk_D_begins_0 ?_
  refine kv_iload_n (pc := 1) 1 rfl rfl dk_D_begins_1 ?_
  refine kv_putM (pc := 2) kf_D_144 kr_84 kn_84 rfl rfl rfl dk_D_begins_2 (fun m1 => ?_)
  refine kv_iconst (pc := 5) (v := (0 : Int32)) dk_D_begins_5 kki_0 ?_
  refine kv_istore_n (pc := 6) (lv' := [(2, .int (0 : Int32)), (0, .ref 84), (1, .int p1)]) rfl (Nat.le_of_ble_eq_true rfl) rfl dk_D_begins_6 ?_
  refine kv_sub (lv' := [(0, .ref 84), (1, .int p1), (2, .int (0 : Int32))]) [1, 2, 0] rfl ?_
  refine kv_lp_2_1 (LV := fun x2 f3 => [(0, .ref 84), (1, .int p1), (2, .int x2)]) (WW := fun x2 f3 => (c, m1, f3, u)) (LE1 := fun f4 => []) (WE1 := fun f4 => (c, m1, f4, u)) (pe1 := 54) ?_ ?_
  · intro f4
    show kv_X _ _ _ _ _ 54 [] [] (c, m1, f4, u)
    exact kv_vret (pc := 54) (fun h => h) rfl dk_D_begins_54
  · intro hx7_0 x2 f3
    show kv_X _ _ _ _ (fb_D_begins_7 p1 x2 f3) 7 [(0, .ref 84), (1, .int p1), (2, .int x2)] [] (c, m1, f3, u)
    unfold fb_D_begins_7
    refine kv_iload_n (pc := 7) 2 rfl rfl dk_D_begins_7 ?_
    refine kv_iload_n (pc := 8) 1 rfl rfl dk_D_begins_8 ?_
    refine kv_icmp_ge (pc := 9) (tgt := 54) dk_D_begins_9 rfl ?_ ?_
    · exact kv_sub [] rfl (kv_leaf (hx7_0 _))
    · refine kv_iconst (pc := 12) (v := (0 : Int32)) dk_D_begins_12 kki_0 ?_
      refine kv_istore_n (pc := 13) (lv' := [(3, .int (0 : Int32)), (0, .ref 84), (1, .int p1), (2, .int x2)]) rfl (Nat.le_of_ble_eq_true rfl) rfl dk_D_begins_13 ?_
      refine kv_sub (lv' := [(0, .ref 84), (1, .int p1), (2, .int x2), (3, .int (0 : Int32))]) [1, 2, 3, 0] rfl ?_
      refine kv_lp_2_1 (LV := fun x5 f6 => [(0, .ref 84), (1, .int p1), (2, .int x2), (3, .int x5)]) (WW := fun x5 f6 => (c, m1, f6, u)) (LE1 := fun f7 => [(0, .ref 84), (1, .int p1), (2, .int x2)]) (WE1 := fun f7 => (c, m1, f7, u)) (pe1 := 48) ?_ ?_
      · intro f7
        show kv_X _ _ _ _ _ 48 [(0, .ref 84), (1, .int p1), (2, .int x2)] [] (c, m1, f7, u)
        refine kv_iinc (pc := 48) (kk := (1 : Int32)) (lv' := [(2, .int (x2 + (1 : Int32))), (0, .ref 84), (1, .int p1)]) 2 rfl kki_1 rfl (Nat.le_of_ble_eq_true rfl) dk_D_begins_48 ?_
        refine kv_goto (pc := 51) (tgt := 7) dk_D_begins_51 rfl ?_
        exact kv_sub [1, 2, 0] rfl (kv_leaf (fun h => h))
      · intro hx14_0 x5 f6
        show kv_X _ _ _ _ (fb_D_begins_14 p1 x2 x5 f6) 14 [(0, .ref 84), (1, .int p1), (2, .int x2), (3, .int x5)] [] (c, m1, f6, u)
        unfold fb_D_begins_14
        refine kv_iload_n (pc := 14) 3 rfl rfl dk_D_begins_14 ?_
        refine kv_iload_n (pc := 15) 1 rfl rfl dk_D_begins_15 ?_
        refine kv_icmp_ge (pc := 16) (tgt := 48) dk_D_begins_16 rfl ?_ ?_
        · exact kv_sub [0, 1, 2] rfl (kv_leaf (hx14_0 _))
        · refine kv_aload_n (pc := 19) 0 rfl rfl dk_D_begins_19 ?_
          refine kv_getR (pc := 20) kf_D_34 kr_84 rfl kt_84_10 dk_D_begins_20 ?_
          refine kv_bipush (pc := 23) (v := (44 : Int32)) dk_D_begins_23 kkb_44 ?_
          refine kv_iload_n (pc := 25) 2 rfl rfl dk_D_begins_25 ?_
          refine kv_imul (pc := 26) dk_D_begins_26 ?_
          refine kv_iload_n (pc := 27) 3 rfl rfl dk_D_begins_27 ?_
          refine kv_iadd (pc := 28) dk_D_begins_28 ?_
          refine kv_iload_n (pc := 29) 2 rfl rfl dk_D_begins_29 ?_
          refine kv_iload_n (pc := 30) 3 rfl rfl dk_D_begins_30 ?_
          refine kv_cut_1 (J := fj_D_begins_41 x2 x5 f6) (pcj := 41) (LJ := fun x8 => [(0, .ref 84), (1, .int p1), (2, .int x2), (3, .int x5)]) (SJ := fun x8 => [.long x8, .int (((44 : Int32) * x2) + x5), .ref 93]) (WJ := fun x8 => (c, m1, f6, u)) ?_ (fun hj41 => ?_)
          · intro x8
            show kv_X _ _ _ _ (fj_D_begins_41 x2 x5 f6 x8) 41 [(0, .ref 84), (1, .int p1), (2, .int x2), (3, .int x5)] [.long x8, .int (((44 : Int32) * x2) + x5), .ref 93] (c, m1, f6, u)
            unfold fj_D_begins_41
            refine kv_guard (fun g9 => ?_)
            refine kv_astJ (pc := 41) rfl kr_93 kl_93 g9 rfl dk_D_begins_41 (fun f10 => ?_)
            refine kv_iinc (pc := 42) (kk := (1 : Int32)) (lv' := [(3, .int (x5 + (1 : Int32))), (0, .ref 84), (1, .int p1), (2, .int x2)]) 3 rfl kki_1 rfl (Nat.le_of_ble_eq_true rfl) dk_D_begins_42 ?_
            refine kv_goto (pc := 45) (tgt := 14) dk_D_begins_45 rfl ?_
            exact kv_sub [1, 2, 3, 0] rfl (kv_leaf (fun h => h))
          refine kv_icmp_ne (pc := 31) (tgt := 38) dk_D_begins_31 rfl ?_ ?_
          · refine kv_ldc2 (pc := 38) (v := (1000000000000 : Int64)) kw_1459 dk_D_begins_38 ?_
            exact hj41 (1000000000000 : Int64)
          · refine kv_lconst (pc := 34) (v := (0 : Int64)) dk_D_begins_34 kkl_0 ?_
            refine kv_goto (pc := 35) (tgt := 41) dk_D_begins_35 rfl ?_
            exact hj41 (0 : Int64)
theorem dk_D_binds_0 : decode prog_13_method_30_code 0 = .ok (.lload 5, 2) := by decide +kernel
theorem dk_D_binds_2 : decode prog_13_method_30_code 2 = .ok (.aload_n 0, 1) := by decide +kernel
theorem dk_D_binds_3 : decode prog_13_method_30_code 3 = .ok (.getfield 34, 3) := by decide +kernel
theorem dk_D_binds_6 : decode prog_13_method_30_code 6 = .ok (.bipush 44, 2) := by decide +kernel
theorem dk_D_binds_8 : decode prog_13_method_30_code 8 = .ok (.iload_n 1, 1) := by decide +kernel
theorem dk_D_binds_9 : decode prog_13_method_30_code 9 = .ok (.imul, 1) := by decide +kernel
theorem dk_D_binds_10 : decode prog_13_method_30_code 10 = .ok (.iload_n 2, 1) := by decide +kernel
theorem dk_D_binds_11 : decode prog_13_method_30_code 11 = .ok (.iadd, 1) := by decide +kernel
theorem dk_D_binds_12 : decode prog_13_method_30_code 12 = .ok (.laload, 1) := by decide +kernel
theorem dk_D_binds_13 : decode prog_13_method_30_code 13 = .ok (.lcmp, 1) := by decide +kernel
theorem dk_D_binds_14 : decode prog_13_method_30_code 14 = .ok (.ifCond .ge 16, 3) := by decide +kernel
theorem dk_D_binds_17 : decode prog_13_method_30_code 17 = .ok (.aload_n 0, 1) := by decide +kernel
theorem dk_D_binds_18 : decode prog_13_method_30_code 18 = .ok (.getfield 34, 3) := by decide +kernel
theorem dk_D_binds_21 : decode prog_13_method_30_code 21 = .ok (.bipush 44, 2) := by decide +kernel
theorem dk_D_binds_23 : decode prog_13_method_30_code 23 = .ok (.iload_n 1, 1) := by decide +kernel
theorem dk_D_binds_24 : decode prog_13_method_30_code 24 = .ok (.imul, 1) := by decide +kernel
theorem dk_D_binds_25 : decode prog_13_method_30_code 25 = .ok (.iload_n 2, 1) := by decide +kernel
theorem dk_D_binds_26 : decode prog_13_method_30_code 26 = .ok (.iadd, 1) := by decide +kernel
theorem dk_D_binds_27 : decode prog_13_method_30_code 27 = .ok (.lload 5, 2) := by decide +kernel
theorem dk_D_binds_29 : decode prog_13_method_30_code 29 = .ok (.lastore, 1) := by decide +kernel
theorem dk_D_binds_30 : decode prog_13_method_30_code 30 = .ok (.lload_n 3, 1) := by decide +kernel
theorem dk_D_binds_31 : decode prog_13_method_30_code 31 = .ok (.lneg, 1) := by decide +kernel
theorem dk_D_binds_32 : decode prog_13_method_30_code 32 = .ok (.aload_n 0, 1) := by decide +kernel
theorem dk_D_binds_33 : decode prog_13_method_30_code 33 = .ok (.getfield 34, 3) := by decide +kernel
theorem dk_D_binds_36 : decode prog_13_method_30_code 36 = .ok (.bipush 44, 2) := by decide +kernel
theorem dk_D_binds_38 : decode prog_13_method_30_code 38 = .ok (.iload_n 2, 1) := by decide +kernel
theorem dk_D_binds_39 : decode prog_13_method_30_code 39 = .ok (.imul, 1) := by decide +kernel
theorem dk_D_binds_40 : decode prog_13_method_30_code 40 = .ok (.iload_n 1, 1) := by decide +kernel
theorem dk_D_binds_41 : decode prog_13_method_30_code 41 = .ok (.iadd, 1) := by decide +kernel
theorem dk_D_binds_42 : decode prog_13_method_30_code 42 = .ok (.laload, 1) := by decide +kernel
theorem dk_D_binds_43 : decode prog_13_method_30_code 43 = .ok (.lcmp, 1) := by decide +kernel
theorem dk_D_binds_44 : decode prog_13_method_30_code 44 = .ok (.ifCond .ge 16, 3) := by decide +kernel
theorem dk_D_binds_47 : decode prog_13_method_30_code 47 = .ok (.aload_n 0, 1) := by decide +kernel
theorem dk_D_binds_48 : decode prog_13_method_30_code 48 = .ok (.getfield 34, 3) := by decide +kernel
theorem dk_D_binds_51 : decode prog_13_method_30_code 51 = .ok (.bipush 44, 2) := by decide +kernel
theorem dk_D_binds_53 : decode prog_13_method_30_code 53 = .ok (.iload_n 2, 1) := by decide +kernel
theorem dk_D_binds_54 : decode prog_13_method_30_code 54 = .ok (.imul, 1) := by decide +kernel
theorem dk_D_binds_55 : decode prog_13_method_30_code 55 = .ok (.iload_n 1, 1) := by decide +kernel
theorem dk_D_binds_56 : decode prog_13_method_30_code 56 = .ok (.iadd, 1) := by decide +kernel
theorem dk_D_binds_57 : decode prog_13_method_30_code 57 = .ok (.lload_n 3, 1) := by decide +kernel
theorem dk_D_binds_58 : decode prog_13_method_30_code 58 = .ok (.lneg, 1) := by decide +kernel
theorem dk_D_binds_59 : decode prog_13_method_30_code 59 = .ok (.lastore, 1) := by decide +kernel
theorem dk_D_binds_60 : decode prog_13_method_30_code 60 = .ok (.return_, 1) := by decide +kernel
noncomputable def fj_D_binds_30 (p2 : Int32) (p1 : Int32) (p3 : Int64) (f2 : (Nat → Int64)) : Option (Nat → Int64) :=
  kv_gd (kv_in (((44 : Int32) * p2) + p1) 1936) (
  if (f2 (((44 : Int32) * p2) + p1).toNatClampNeg) ≤ (-p3) then
    some f2
  else
    kv_let (vp_updL f2 (((44 : Int32) * p2) + p1).toNatClampNeg (-p3)) (fun f4 =>
    some f4))
noncomputable def fx_D_binds (p1 : Int32) (p2 : Int32) (p3 : Int64) (p5 : Int64) (f : (Nat → Int64)) : Option (Nat → Int64) :=
  kv_gd (kv_in (((44 : Int32) * p1) + p2) 1936) (
  if (f (((44 : Int32) * p1) + p2).toNatClampNeg) ≤ p5 then
    fj_D_binds_30 p2 p1 p3 f
  else
    kv_let (vp_updL f (((44 : Int32) * p1) + p2).toNatClampNeg p5) (fun f5 =>
    fj_D_binds_30 p2 p1 p3 f5))
set_option maxRecDepth 20000 in
theorem cx_D_binds (d : Nat) (p1 : Int32) (p2 : Int32) (p3 : Int64) (p5 : Int64) (c : (Nat → Nat → Int32)) (m : (Nat → Nat → Int32)) (f : (Nat → Int64)) (u : (Nat → Int64)) : ∀ a, fx_D_binds p1 p2 p3 p5 f = some a → kv_C kM_D_binds (d + 0) [.ref 84, .int p1, .int p2, .long p3, .long p5] (c, m, f, u) (none, (c, m, a, u)) := by
  refine kv_entryX (E := fun a : (Nat → Int64) => (none, (c, m, a, u))) rfl (Nat.le_of_ble_eq_true rfl) (fun o => ?_)
  unfold fx_D_binds
  show kv_X _ _ _ _ _ 0 [(0, .ref 84), (1, .int p1), (2, .int p2), (3, .long p3), (5, .long p5)] [] (c, m, f, u)
  refine kv_lload (pc := 0) 4 rfl dk_D_binds_0 ?_
  refine kv_aload_n (pc := 2) 0 rfl rfl dk_D_binds_2 ?_
  refine kv_getR (pc := 3) kf_D_34 kr_84 rfl kt_84_10 dk_D_binds_3 ?_
  refine kv_bipush (pc := 6) (v := (44 : Int32)) dk_D_binds_6 kkb_44 ?_
  refine kv_iload_n (pc := 8) 1 rfl rfl dk_D_binds_8 ?_
  refine kv_imul (pc := 9) dk_D_binds_9 ?_
  refine kv_iload_n (pc := 10) 2 rfl rfl dk_D_binds_10 ?_
  refine kv_iadd (pc := 11) dk_D_binds_11 ?_
  refine kv_guard (fun g1 => ?_)
  refine kv_aldJ (pc := 12) rfl kr_93 kl_93 g1 rfl dk_D_binds_12 ?_
  refine kv_cut_1 (J := fj_D_binds_30 p2 p1 p3) (pcj := 30) (LJ := fun f2 => [(0, .ref 84), (1, .int p1), (2, .int p2), (3, .long p3)]) (SJ := fun f2 => []) (WJ := fun f2 => (c, m, f2, u)) ?_ (fun hj30 => ?_)
  · intro f2
    show kv_X _ _ _ _ (fj_D_binds_30 p2 p1 p3 f2) 30 [(0, .ref 84), (1, .int p1), (2, .int p2), (3, .long p3)] [] (c, m, f2, u)
    unfold fj_D_binds_30
    refine kv_lload_n (pc := 30) 3 rfl rfl dk_D_binds_30 ?_
    refine kv_lneg (pc := 31) dk_D_binds_31 ?_
    refine kv_aload_n (pc := 32) 0 rfl rfl dk_D_binds_32 ?_
    refine kv_getR (pc := 33) kf_D_34 kr_84 rfl kt_84_10 dk_D_binds_33 ?_
    refine kv_bipush (pc := 36) (v := (44 : Int32)) dk_D_binds_36 kkb_44 ?_
    refine kv_iload_n (pc := 38) 2 rfl rfl dk_D_binds_38 ?_
    refine kv_imul (pc := 39) dk_D_binds_39 ?_
    refine kv_iload_n (pc := 40) 1 rfl rfl dk_D_binds_40 ?_
    refine kv_iadd (pc := 41) dk_D_binds_41 ?_
    refine kv_guard (fun g3 => ?_)
    refine kv_aldJ (pc := 42) rfl kr_93 kl_93 g3 rfl dk_D_binds_42 ?_
    refine kv_lcmp_ge (pc := 43) (tgt := 60) dk_D_binds_43 dk_D_binds_44 rfl ?_ ?_
    · exact kv_vret (pc := 60) (fun h => h) rfl dk_D_binds_60
    · refine kv_aload_n (pc := 47) 0 rfl rfl dk_D_binds_47 ?_
      refine kv_getR (pc := 48) kf_D_34 kr_84 rfl kt_84_10 dk_D_binds_48 ?_
      refine kv_bipush (pc := 51) (v := (44 : Int32)) dk_D_binds_51 kkb_44 ?_
      refine kv_iload_n (pc := 53) 2 rfl rfl dk_D_binds_53 ?_
      refine kv_imul (pc := 54) dk_D_binds_54 ?_
      refine kv_iload_n (pc := 55) 1 rfl rfl dk_D_binds_55 ?_
      refine kv_iadd (pc := 56) dk_D_binds_56 ?_
      refine kv_lload_n (pc := 57) 3 rfl rfl dk_D_binds_57 ?_
      refine kv_lneg (pc := 58) dk_D_binds_58 ?_
      refine kv_astJ (pc := 59) rfl kr_93 kl_93 g3 rfl dk_D_binds_59 (fun f4 => ?_)
      exact kv_vret (pc := 60) (fun h => h) rfl dk_D_binds_60
  refine kv_lcmp_ge (pc := 13) (tgt := 30) dk_D_binds_13 dk_D_binds_14 rfl ?_ ?_
  · exact kv_sub [0, 1, 2, 3] rfl (hj30 f)
  · refine kv_aload_n (pc := 17) 0 rfl rfl dk_D_binds_17 ?_
    refine kv_getR (pc := 18) kf_D_34 kr_84 rfl kt_84_10 dk_D_binds_18 ?_
    refine kv_bipush (pc := 21) (v := (44 : Int32)) dk_D_binds_21 kkb_44 ?_
    refine kv_iload_n (pc := 23) 1 rfl rfl dk_D_binds_23 ?_
    refine kv_imul (pc := 24) dk_D_binds_24 ?_
    refine kv_iload_n (pc := 25) 2 rfl rfl dk_D_binds_25 ?_
    refine kv_iadd (pc := 26) dk_D_binds_26 ?_
    refine kv_lload (pc := 27) 4 rfl dk_D_binds_27 ?_
    refine kv_astJ (pc := 29) rfl kr_93 kl_93 g1 rfl dk_D_binds_29 (fun f5 => ?_)
    exact kv_sub [0, 1, 2, 3] rfl (hj30 f5)
theorem dk_D_weighs_0 : decode prog_13_method_32_code 0 = .ok (.aload_n 0, 1) := by decide +kernel
theorem dk_D_weighs_1 : decode prog_13_method_32_code 1 = .ok (.iload_n 2, 1) := by decide +kernel
theorem dk_D_weighs_2 : decode prog_13_method_32_code 2 = .ok (.iload_n 3, 1) := by decide +kernel
theorem dk_D_weighs_3 : decode prog_13_method_32_code 3 = .ok (.aload_n 0, 1) := by decide +kernel
theorem dk_D_weighs_4 : decode prog_13_method_32_code 4 = .ok (.iload_n 1, 1) := by decide +kernel
theorem dk_D_weighs_5 : decode prog_13_method_32_code 5 = .ok (.iconst 3, 1) := by decide +kernel
theorem dk_D_weighs_6 : decode prog_13_method_32_code 6 = .ok (.invokevirtual 141, 3) := by decide +kernel
theorem dk_D_weighs_9 : decode prog_13_method_32_code 9 = .ok (.i2l, 1) := by decide +kernel
theorem dk_D_weighs_10 : decode prog_13_method_32_code 10 = .ok (.aload_n 0, 1) := by decide +kernel
theorem dk_D_weighs_11 : decode prog_13_method_32_code 11 = .ok (.iload_n 1, 1) := by decide +kernel
theorem dk_D_weighs_12 : decode prog_13_method_32_code 12 = .ok (.iconst 4, 1) := by decide +kernel
theorem dk_D_weighs_13 : decode prog_13_method_32_code 13 = .ok (.invokevirtual 141, 3) := by decide +kernel
theorem dk_D_weighs_16 : decode prog_13_method_32_code 16 = .ok (.i2l, 1) := by decide +kernel
theorem dk_D_weighs_17 : decode prog_13_method_32_code 17 = .ok (.lsub, 1) := by decide +kernel
theorem dk_D_weighs_18 : decode prog_13_method_32_code 18 = .ok (.aload_n 0, 1) := by decide +kernel
theorem dk_D_weighs_19 : decode prog_13_method_32_code 19 = .ok (.iload_n 1, 1) := by decide +kernel
theorem dk_D_weighs_20 : decode prog_13_method_32_code 20 = .ok (.iconst 3, 1) := by decide +kernel
theorem dk_D_weighs_21 : decode prog_13_method_32_code 21 = .ok (.invokevirtual 141, 3) := by decide +kernel
theorem dk_D_weighs_24 : decode prog_13_method_32_code 24 = .ok (.i2l, 1) := by decide +kernel
theorem dk_D_weighs_25 : decode prog_13_method_32_code 25 = .ok (.aload_n 0, 1) := by decide +kernel
theorem dk_D_weighs_26 : decode prog_13_method_32_code 26 = .ok (.iload_n 1, 1) := by decide +kernel
theorem dk_D_weighs_27 : decode prog_13_method_32_code 27 = .ok (.iconst 4, 1) := by decide +kernel
theorem dk_D_weighs_28 : decode prog_13_method_32_code 28 = .ok (.invokevirtual 141, 3) := by decide +kernel
theorem dk_D_weighs_31 : decode prog_13_method_32_code 31 = .ok (.i2l, 1) := by decide +kernel
theorem dk_D_weighs_32 : decode prog_13_method_32_code 32 = .ok (.ladd, 1) := by decide +kernel
theorem dk_D_weighs_33 : decode prog_13_method_32_code 33 = .ok (.invokevirtual 149, 3) := by decide +kernel
theorem dk_D_weighs_36 : decode prog_13_method_32_code 36 = .ok (.return_, 1) := by decide +kernel
noncomputable def fx_D_weighs (p1 : Int32) (p2 : Int32) (p3 : Int32) (m : (Nat → Nat → Int32)) (f : (Nat → Int64)) : Option (Nat → Int64) :=
  kv_bind1 (fx_D_say p1 (3 : Int32) m) (fun v1 =>
  kv_bind1 (fx_D_say p1 (4 : Int32) m) (fun v2 =>
  kv_bind1 (fx_D_say p1 (3 : Int32) m) (fun v3 =>
  kv_bind1 (fx_D_say p1 (4 : Int32) m) (fun v4 =>
  kv_bind1 (fx_D_binds p2 p3 (v1.toInt64 - v2.toInt64) (v3.toInt64 + v4.toInt64) f) (fun f5 =>
  some f5)))))
set_option maxRecDepth 20000 in
theorem cx_D_weighs (d : Nat) (p1 : Int32) (p2 : Int32) (p3 : Int32) (c : (Nat → Nat → Int32)) (m : (Nat → Nat → Int32)) (f : (Nat → Int64)) (u : (Nat → Int64)) : ∀ a, fx_D_weighs p1 p2 p3 m f = some a → kv_C kM_D_weighs (d + 1) [.ref 84, .int p1, .int p2, .int p3] (c, m, f, u) (none, (c, m, a, u)) := by
  refine kv_entryX (E := fun a : (Nat → Int64) => (none, (c, m, a, u))) rfl (Nat.le_of_ble_eq_true rfl) (fun o => ?_)
  unfold fx_D_weighs
  show kv_X _ _ _ _ _ 0 [(0, .ref 84), (1, .int p1), (2, .int p2), (3, .int p3)] [] (c, m, f, u)
  refine kv_aload_n (pc := 0) 0 rfl rfl dk_D_weighs_0 ?_
  refine kv_iload_n (pc := 1) 2 rfl rfl dk_D_weighs_1 ?_
  refine kv_iload_n (pc := 2) 3 rfl rfl dk_D_weighs_2 ?_
  refine kv_aload_n (pc := 3) 0 rfl rfl dk_D_weighs_3 ?_
  refine kv_iload_n (pc := 4) 1 rfl rfl dk_D_weighs_4 ?_
  refine kv_iconst (pc := 5) (v := (3 : Int32)) dk_D_weighs_5 kki_3 ?_
  refine kv_cV_mI (pc := 6) (as := [.int p1, .int (3 : Int32)]) (st := [.int p3, .int p2, .ref 84]) ko_D_say kc_11 rfl rfl kr_84 kw_1435 (Nat.le_of_ble_eq_true rfl) rfl dk_D_weighs_6 (cx_D_say d p1 (3 : Int32) c m f u) (fun v1 => ?_)
  refine kv_i2l (pc := 9) dk_D_weighs_9 ?_
  refine kv_aload_n (pc := 10) 0 rfl rfl dk_D_weighs_10 ?_
  refine kv_iload_n (pc := 11) 1 rfl rfl dk_D_weighs_11 ?_
  refine kv_iconst (pc := 12) (v := (4 : Int32)) dk_D_weighs_12 kki_4 ?_
  refine kv_cV_mI (pc := 13) (as := [.int p1, .int (4 : Int32)]) (st := [.long v1.toInt64, .int p3, .int p2, .ref 84]) ko_D_say kc_11 rfl rfl kr_84 kw_1435 (Nat.le_of_ble_eq_true rfl) rfl dk_D_weighs_13 (cx_D_say d p1 (4 : Int32) c m f u) (fun v2 => ?_)
  refine kv_i2l (pc := 16) dk_D_weighs_16 ?_
  refine kv_lsub (pc := 17) dk_D_weighs_17 ?_
  refine kv_aload_n (pc := 18) 0 rfl rfl dk_D_weighs_18 ?_
  refine kv_iload_n (pc := 19) 1 rfl rfl dk_D_weighs_19 ?_
  refine kv_iconst (pc := 20) (v := (3 : Int32)) dk_D_weighs_20 kki_3 ?_
  refine kv_cV_mI (pc := 21) (as := [.int p1, .int (3 : Int32)]) (st := [.long (v1.toInt64 - v2.toInt64), .int p3, .int p2, .ref 84]) ko_D_say kc_11 rfl rfl kr_84 kw_1435 (Nat.le_of_ble_eq_true rfl) rfl dk_D_weighs_21 (cx_D_say d p1 (3 : Int32) c m f u) (fun v3 => ?_)
  refine kv_i2l (pc := 24) dk_D_weighs_24 ?_
  refine kv_aload_n (pc := 25) 0 rfl rfl dk_D_weighs_25 ?_
  refine kv_iload_n (pc := 26) 1 rfl rfl dk_D_weighs_26 ?_
  refine kv_iconst (pc := 27) (v := (4 : Int32)) dk_D_weighs_27 kki_4 ?_
  refine kv_cV_mI (pc := 28) (as := [.int p1, .int (4 : Int32)]) (st := [.long v3.toInt64, .long (v1.toInt64 - v2.toInt64), .int p3, .int p2, .ref 84]) ko_D_say kc_11 rfl rfl kr_84 kw_1435 (Nat.le_of_ble_eq_true rfl) rfl dk_D_weighs_28 (cx_D_say d p1 (4 : Int32) c m f u) (fun v4 => ?_)
  refine kv_i2l (pc := 31) dk_D_weighs_31 ?_
  refine kv_ladd (pc := 32) dk_D_weighs_32 ?_
  refine kv_cV_mf (pc := 33) (as := [.int p2, .int p3, .long (v1.toInt64 - v2.toInt64), .long (v3.toInt64 + v4.toInt64)]) (st := []) ko_D_binds kc_11 rfl rfl kr_84 kw_1468 (Nat.le_of_ble_eq_true rfl) rfl dk_D_weighs_33 (cx_D_binds d p2 p3 (v1.toInt64 - v2.toInt64) (v3.toInt64 + v4.toInt64) c m f u) (fun f5 => ?_)
  exact kv_vret (pc := 36) (fun h => h) rfl dk_D_weighs_36
theorem dk_D_bindsYear_0 : decode prog_13_method_33_code 0 = .ok (.iconst 0, 1) := by decide +kernel
theorem dk_D_bindsYear_1 : decode prog_13_method_33_code 1 = .ok (.istore_n 3, 1) := by decide +kernel
theorem dk_D_bindsYear_2 : decode prog_13_method_33_code 2 = .ok (.iload_n 3, 1) := by decide +kernel
theorem dk_D_bindsYear_3 : decode prog_13_method_33_code 3 = .ok (.aload_n 0, 1) := by decide +kernel
theorem dk_D_bindsYear_4 : decode prog_13_method_33_code 4 = .ok (.getfield 9, 3) := by decide +kernel
theorem dk_D_bindsYear_7 : decode prog_13_method_33_code 7 = .ok (.iconst 2, 1) := by decide +kernel
theorem dk_D_bindsYear_8 : decode prog_13_method_33_code 8 = .ok (.iaload, 1) := by decide +kernel
theorem dk_D_bindsYear_9 : decode prog_13_method_33_code 9 = .ok (.if_icmp .ge 49, 3) := by decide +kernel
theorem dk_D_bindsYear_12 : decode prog_13_method_33_code 12 = .ok (.aload_n 0, 1) := by decide +kernel
theorem dk_D_bindsYear_13 : decode prog_13_method_33_code 13 = .ok (.iload_n 3, 1) := by decide +kernel
theorem dk_D_bindsYear_14 : decode prog_13_method_33_code 14 = .ok (.iconst 5, 1) := by decide +kernel
theorem dk_D_bindsYear_15 : decode prog_13_method_33_code 15 = .ok (.invokevirtual 141, 3) := by decide +kernel
theorem dk_D_bindsYear_18 : decode prog_13_method_33_code 18 = .ok (.ifCond .ne 34, 3) := by decide +kernel
theorem dk_D_bindsYear_21 : decode prog_13_method_33_code 21 = .ok (.aload_n 0, 1) := by decide +kernel
theorem dk_D_bindsYear_22 : decode prog_13_method_33_code 22 = .ok (.iload_n 3, 1) := by decide +kernel
theorem dk_D_bindsYear_23 : decode prog_13_method_33_code 23 = .ok (.iconst 0, 1) := by decide +kernel
theorem dk_D_bindsYear_24 : decode prog_13_method_33_code 24 = .ok (.invokevirtual 141, 3) := by decide +kernel
theorem dk_D_bindsYear_27 : decode prog_13_method_33_code 27 = .ok (.iload_n 1, 1) := by decide +kernel
theorem dk_D_bindsYear_28 : decode prog_13_method_33_code 28 = .ok (.if_icmp .ne 24, 3) := by decide +kernel
theorem dk_D_bindsYear_31 : decode prog_13_method_33_code 31 = .ok (.aload_n 0, 1) := by decide +kernel
theorem dk_D_bindsYear_32 : decode prog_13_method_33_code 32 = .ok (.iload_n 3, 1) := by decide +kernel
theorem dk_D_bindsYear_33 : decode prog_13_method_33_code 33 = .ok (.iload_n 2, 1) := by decide +kernel
theorem dk_D_bindsYear_34 : decode prog_13_method_33_code 34 = .ok (.aload_n 0, 1) := by decide +kernel
theorem dk_D_bindsYear_35 : decode prog_13_method_33_code 35 = .ok (.iload_n 3, 1) := by decide +kernel
theorem dk_D_bindsYear_36 : decode prog_13_method_33_code 36 = .ok (.iconst 1, 1) := by decide +kernel
theorem dk_D_bindsYear_37 : decode prog_13_method_33_code 37 = .ok (.invokevirtual 141, 3) := by decide +kernel
theorem dk_D_bindsYear_40 : decode prog_13_method_33_code 40 = .ok (.iadd, 1) := by decide +kernel
theorem dk_D_bindsYear_41 : decode prog_13_method_33_code 41 = .ok (.iload_n 2, 1) := by decide +kernel
theorem dk_D_bindsYear_42 : decode prog_13_method_33_code 42 = .ok (.aload_n 0, 1) := by decide +kernel
theorem dk_D_bindsYear_43 : decode prog_13_method_33_code 43 = .ok (.iload_n 3, 1) := by decide +kernel
theorem dk_D_bindsYear_44 : decode prog_13_method_33_code 44 = .ok (.iconst 2, 1) := by decide +kernel
theorem dk_D_bindsYear_45 : decode prog_13_method_33_code 45 = .ok (.invokevirtual 141, 3) := by decide +kernel
theorem dk_D_bindsYear_48 : decode prog_13_method_33_code 48 = .ok (.iadd, 1) := by decide +kernel
theorem dk_D_bindsYear_49 : decode prog_13_method_33_code 49 = .ok (.invokevirtual 153, 3) := by decide +kernel
theorem dk_D_bindsYear_52 : decode prog_13_method_33_code 52 = .ok (.iinc 3 1, 3) := by decide +kernel
theorem dk_D_bindsYear_55 : decode prog_13_method_33_code 55 = .ok (.goto (-53), 3) := by decide +kernel
theorem dk_D_bindsYear_58 : decode prog_13_method_33_code 58 = .ok (.return_, 1) := by decide +kernel
noncomputable def fj_D_bindsYear_52 (x1 : Int32) (f5 : (Nat → Int64)) : Option ((Int32 × (Nat → Int64)) ⊕ (Nat → Int64)) :=
  some (.inl ((x1 + (1 : Int32)), f5))
noncomputable def fb_D_bindsYear_2 (m : (Nat → Nat → Int32)) (p1 : Int32) (p2 : Int32) (x1 : Int32) (f2 : (Nat → Int64)) : Option ((Int32 × (Nat → Int64)) ⊕ (Nat → Int64)) :=
  if (m 85 2) ≤ x1 then
    some (.inr f2)
  else
    kv_bind1 (fx_D_say x1 (5 : Int32) m) (fun v4 =>
    if v4 = 0 then
      kv_bind1 (fx_D_say x1 (0 : Int32) m) (fun v6 =>
      if v6 = p1 then
        kv_bind1 (fx_D_say x1 (1 : Int32) m) (fun v7 =>
        kv_bind1 (fx_D_say x1 (2 : Int32) m) (fun v8 =>
        kv_bind1 (fx_D_weighs x1 (p2 + v7) (p2 + v8) m f2) (fun f9 =>
        fj_D_bindsYear_52 x1 f9)))
      else
        fj_D_bindsYear_52 x1 f2)
    else
      fj_D_bindsYear_52 x1 f2)
noncomputable def fx_D_bindsYear (p1 : Int32) (p2 : Int32) (m : (Nat → Nat → Int32)) (f : (Nat → Int64)) : Option (Nat → Int64) :=
  (kv_loop (kv_u2 (fb_D_bindsYear_2 m p1 p2)) ((0 : Int32), f)).bind (kv_u1 (fun f3 =>
  some f3))
set_option maxRecDepth 20000 in
theorem cx_D_bindsYear (d : Nat) (p1 : Int32) (p2 : Int32) (c : (Nat → Nat → Int32)) (m : (Nat → Nat → Int32)) (f : (Nat → Int64)) (u : (Nat → Int64)) : ∀ a, fx_D_bindsYear p1 p2 m f = some a → kv_C kM_D_bindsYear (d + 2) [.ref 84, .int p1, .int p2] (c, m, f, u) (none, (c, m, a, u)) := by
  refine kv_entryX (E := fun a : (Nat → Int64) => (none, (c, m, a, u))) rfl (Nat.le_of_ble_eq_true rfl) (fun o => ?_)
  unfold fx_D_bindsYear
  show kv_X _ _ _ _ _ 0 [(0, .ref 84), (1, .int p1), (2, .int p2)] [] (c, m, f, u)
  refine kv_iconst (pc := 0) (v := (0 : Int32)) dk_D_bindsYear_0 kki_0 ?_
  refine kv_istore_n (pc := 1) (lv' := [(3, .int (0 : Int32)), (0, .ref 84), (1, .int p1), (2, .int p2)]) rfl (Nat.le_of_ble_eq_true rfl) rfl dk_D_bindsYear_1 ?_
  refine kv_sub (lv' := [(0, .ref 84), (1, .int p1), (2, .int p2), (3, .int (0 : Int32))]) [1, 2, 3, 0] rfl ?_
  refine kv_lp_2_1 (LV := fun x1 f2 => [(0, .ref 84), (1, .int p1), (2, .int p2), (3, .int x1)]) (WW := fun x1 f2 => (c, m, f2, u)) (LE1 := fun f3 => []) (WE1 := fun f3 => (c, m, f3, u)) (pe1 := 58) ?_ ?_
  · intro f3
    show kv_X _ _ _ _ _ 58 [] [] (c, m, f3, u)
    exact kv_vret (pc := 58) (fun h => h) rfl dk_D_bindsYear_58
  · intro hx2_0 x1 f2
    show kv_X _ _ _ _ (fb_D_bindsYear_2 m p1 p2 x1 f2) 2 [(0, .ref 84), (1, .int p1), (2, .int p2), (3, .int x1)] [] (c, m, f2, u)
    unfold fb_D_bindsYear_2
    refine kv_iload_n (pc := 2) 3 rfl rfl dk_D_bindsYear_2 ?_
    refine kv_aload_n (pc := 3) 0 rfl rfl dk_D_bindsYear_3 ?_
    refine kv_getR (pc := 4) kf_D_9 kr_84 rfl kt_84_0 dk_D_bindsYear_4 ?_
    refine kv_iconst (pc := 7) (v := (2 : Int32)) dk_D_bindsYear_7 kki_2 ?_
    refine kv_aldM (pc := 8) kr_85 kn_85 kl_85 kkg_2_444 (j := 2) kkx_2 dk_D_bindsYear_8 ?_
    refine kv_icmp_ge (pc := 9) (tgt := 58) dk_D_bindsYear_9 rfl ?_ ?_
    · exact kv_sub [] rfl (kv_leaf (hx2_0 _))
    · refine kv_aload_n (pc := 12) 0 rfl rfl dk_D_bindsYear_12 ?_
      refine kv_iload_n (pc := 13) 3 rfl rfl dk_D_bindsYear_13 ?_
      refine kv_iconst (pc := 14) (v := (5 : Int32)) dk_D_bindsYear_14 kki_5 ?_
      refine kv_cV_mI (pc := 15) (as := [.int x1, .int (5 : Int32)]) (st := []) ko_D_say kc_11 rfl rfl kr_84 kw_1435 (Nat.le_of_ble_eq_true rfl) rfl dk_D_bindsYear_15 (cx_D_say (d + 1) x1 (5 : Int32) c m f2 u) (fun v4 => ?_)
      refine kv_cut_1 (J := fj_D_bindsYear_52 x1) (pcj := 52) (LJ := fun f5 => [(0, .ref 84), (1, .int p1), (2, .int p2), (3, .int x1)]) (SJ := fun f5 => []) (WJ := fun f5 => (c, m, f5, u)) ?_ (fun hj52 => ?_)
      · intro f5
        show kv_X _ _ _ _ (fj_D_bindsYear_52 x1 f5) 52 [(0, .ref 84), (1, .int p1), (2, .int p2), (3, .int x1)] [] (c, m, f5, u)
        unfold fj_D_bindsYear_52
        refine kv_iinc (pc := 52) (kk := (1 : Int32)) (lv' := [(3, .int (x1 + (1 : Int32))), (0, .ref 84), (1, .int p1), (2, .int p2)]) 3 rfl kki_1 rfl (Nat.le_of_ble_eq_true rfl) dk_D_bindsYear_52 ?_
        refine kv_goto (pc := 55) (tgt := 2) dk_D_bindsYear_55 rfl ?_
        exact kv_sub [1, 2, 3, 0] rfl (kv_leaf (fun h => h))
      refine kv_if_ne (pc := 18) (tgt := 52) dk_D_bindsYear_18 rfl ?_ ?_
      · exact hj52 f2
      · refine kv_aload_n (pc := 21) 0 rfl rfl dk_D_bindsYear_21 ?_
        refine kv_iload_n (pc := 22) 3 rfl rfl dk_D_bindsYear_22 ?_
        refine kv_iconst (pc := 23) (v := (0 : Int32)) dk_D_bindsYear_23 kki_0 ?_
        refine kv_cV_mI (pc := 24) (as := [.int x1, .int (0 : Int32)]) (st := []) ko_D_say kc_11 rfl rfl kr_84 kw_1435 (Nat.le_of_ble_eq_true rfl) rfl dk_D_bindsYear_24 (cx_D_say (d + 1) x1 (0 : Int32) c m f2 u) (fun v6 => ?_)
        refine kv_iload_n (pc := 27) 1 rfl rfl dk_D_bindsYear_27 ?_
        refine kv_icmp_ne (pc := 28) (tgt := 52) dk_D_bindsYear_28 rfl ?_ ?_
        · exact hj52 f2
        · refine kv_aload_n (pc := 31) 0 rfl rfl dk_D_bindsYear_31 ?_
          refine kv_iload_n (pc := 32) 3 rfl rfl dk_D_bindsYear_32 ?_
          refine kv_iload_n (pc := 33) 2 rfl rfl dk_D_bindsYear_33 ?_
          refine kv_aload_n (pc := 34) 0 rfl rfl dk_D_bindsYear_34 ?_
          refine kv_iload_n (pc := 35) 3 rfl rfl dk_D_bindsYear_35 ?_
          refine kv_iconst (pc := 36) (v := (1 : Int32)) dk_D_bindsYear_36 kki_1 ?_
          refine kv_cV_mI (pc := 37) (as := [.int x1, .int (1 : Int32)]) (st := [.int p2, .int x1, .ref 84]) ko_D_say kc_11 rfl rfl kr_84 kw_1435 (Nat.le_of_ble_eq_true rfl) rfl dk_D_bindsYear_37 (cx_D_say (d + 1) x1 (1 : Int32) c m f2 u) (fun v7 => ?_)
          refine kv_iadd (pc := 40) dk_D_bindsYear_40 ?_
          refine kv_iload_n (pc := 41) 2 rfl rfl dk_D_bindsYear_41 ?_
          refine kv_aload_n (pc := 42) 0 rfl rfl dk_D_bindsYear_42 ?_
          refine kv_iload_n (pc := 43) 3 rfl rfl dk_D_bindsYear_43 ?_
          refine kv_iconst (pc := 44) (v := (2 : Int32)) dk_D_bindsYear_44 kki_2 ?_
          refine kv_cV_mI (pc := 45) (as := [.int x1, .int (2 : Int32)]) (st := [.int p2, .int (p2 + v7), .int x1, .ref 84]) ko_D_say kc_11 rfl rfl kr_84 kw_1435 (Nat.le_of_ble_eq_true rfl) rfl dk_D_bindsYear_45 (cx_D_say (d + 1) x1 (2 : Int32) c m f2 u) (fun v8 => ?_)
          refine kv_iadd (pc := 48) dk_D_bindsYear_48 ?_
          refine kv_cV_mf (pc := 49) (as := [.int x1, .int (p2 + v7), .int (p2 + v8)]) (st := []) ko_D_weighs kc_11 rfl rfl kr_84 kw_1464 (Nat.le_of_ble_eq_true rfl) rfl dk_D_bindsYear_49 (cx_D_weighs d x1 (p2 + v7) (p2 + v8) c m f2 u) (fun f9 => ?_)
          exact hj52 f9
theorem dk_D_closes_0 : decode prog_13_method_31_code 0 = .ok (.iconst 0, 1) := by decide +kernel
theorem dk_D_closes_1 : decode prog_13_method_31_code 1 = .ok (.istore_n 1, 1) := by decide +kernel
theorem dk_D_closes_2 : decode prog_13_method_31_code 2 = .ok (.iload_n 1, 1) := by decide +kernel
theorem dk_D_closes_3 : decode prog_13_method_31_code 3 = .ok (.aload_n 0, 1) := by decide +kernel
theorem dk_D_closes_4 : decode prog_13_method_31_code 4 = .ok (.getfield 144, 3) := by decide +kernel
theorem dk_D_closes_7 : decode prog_13_method_31_code 7 = .ok (.if_icmp .ge 125, 3) := by decide +kernel
theorem dk_D_closes_10 : decode prog_13_method_31_code 10 = .ok (.iconst 0, 1) := by decide +kernel
theorem dk_D_closes_11 : decode prog_13_method_31_code 11 = .ok (.istore_n 2, 1) := by decide +kernel
theorem dk_D_closes_12 : decode prog_13_method_31_code 12 = .ok (.iload_n 2, 1) := by decide +kernel
theorem dk_D_closes_13 : decode prog_13_method_31_code 13 = .ok (.aload_n 0, 1) := by decide +kernel
theorem dk_D_closes_14 : decode prog_13_method_31_code 14 = .ok (.getfield 144, 3) := by decide +kernel
theorem dk_D_closes_17 : decode prog_13_method_31_code 17 = .ok (.if_icmp .ge 109, 3) := by decide +kernel
theorem dk_D_closes_20 : decode prog_13_method_31_code 20 = .ok (.aload_n 0, 1) := by decide +kernel
theorem dk_D_closes_21 : decode prog_13_method_31_code 21 = .ok (.getfield 34, 3) := by decide +kernel
theorem dk_D_closes_24 : decode prog_13_method_31_code 24 = .ok (.bipush 44, 2) := by decide +kernel
theorem dk_D_closes_26 : decode prog_13_method_31_code 26 = .ok (.iload_n 2, 1) := by decide +kernel
theorem dk_D_closes_27 : decode prog_13_method_31_code 27 = .ok (.imul, 1) := by decide +kernel
theorem dk_D_closes_28 : decode prog_13_method_31_code 28 = .ok (.iload_n 1, 1) := by decide +kernel
theorem dk_D_closes_29 : decode prog_13_method_31_code 29 = .ok (.iadd, 1) := by decide +kernel
theorem dk_D_closes_30 : decode prog_13_method_31_code 30 = .ok (.laload, 1) := by decide +kernel
theorem dk_D_closes_31 : decode prog_13_method_31_code 31 = .ok (.lstore_n 3, 1) := by decide +kernel
theorem dk_D_closes_32 : decode prog_13_method_31_code 32 = .ok (.lload_n 3, 1) := by decide +kernel
theorem dk_D_closes_33 : decode prog_13_method_31_code 33 = .ok (.ldc2_w 147, 3) := by decide +kernel
theorem dk_D_closes_36 : decode prog_13_method_31_code 36 = .ok (.lcmp, 1) := by decide +kernel
theorem dk_D_closes_37 : decode prog_13_method_31_code 37 = .ok (.ifCond .ne 6, 3) := by decide +kernel
theorem dk_D_closes_40 : decode prog_13_method_31_code 40 = .ok (.goto 80, 3) := by decide +kernel
theorem dk_D_closes_43 : decode prog_13_method_31_code 43 = .ok (.iconst 0, 1) := by decide +kernel
theorem dk_D_closes_44 : decode prog_13_method_31_code 44 = .ok (.istore 5, 2) := by decide +kernel
theorem dk_D_closes_46 : decode prog_13_method_31_code 46 = .ok (.iload 5, 2) := by decide +kernel
theorem dk_D_closes_48 : decode prog_13_method_31_code 48 = .ok (.aload_n 0, 1) := by decide +kernel
theorem dk_D_closes_49 : decode prog_13_method_31_code 49 = .ok (.getfield 144, 3) := by decide +kernel
theorem dk_D_closes_52 : decode prog_13_method_31_code 52 = .ok (.if_icmp .ge 68, 3) := by decide +kernel
theorem dk_D_closes_55 : decode prog_13_method_31_code 55 = .ok (.aload_n 0, 1) := by decide +kernel
theorem dk_D_closes_56 : decode prog_13_method_31_code 56 = .ok (.getfield 34, 3) := by decide +kernel
theorem dk_D_closes_59 : decode prog_13_method_31_code 59 = .ok (.bipush 44, 2) := by decide +kernel
theorem dk_D_closes_61 : decode prog_13_method_31_code 61 = .ok (.iload_n 1, 1) := by decide +kernel
theorem dk_D_closes_62 : decode prog_13_method_31_code 62 = .ok (.imul, 1) := by decide +kernel
theorem dk_D_closes_63 : decode prog_13_method_31_code 63 = .ok (.iload 5, 2) := by decide +kernel
theorem dk_D_closes_65 : decode prog_13_method_31_code 65 = .ok (.iadd, 1) := by decide +kernel
theorem dk_D_closes_66 : decode prog_13_method_31_code 66 = .ok (.laload, 1) := by decide +kernel
theorem dk_D_closes_67 : decode prog_13_method_31_code 67 = .ok (.lstore 6, 2) := by decide +kernel
theorem dk_D_closes_69 : decode prog_13_method_31_code 69 = .ok (.lload 6, 2) := by decide +kernel
theorem dk_D_closes_71 : decode prog_13_method_31_code 71 = .ok (.ldc2_w 147, 3) := by decide +kernel
theorem dk_D_closes_74 : decode prog_13_method_31_code 74 = .ok (.lcmp, 1) := by decide +kernel
theorem dk_D_closes_75 : decode prog_13_method_31_code 75 = .ok (.ifCond .eq 39, 3) := by decide +kernel
theorem dk_D_closes_78 : decode prog_13_method_31_code 78 = .ok (.lload_n 3, 1) := by decide +kernel
theorem dk_D_closes_79 : decode prog_13_method_31_code 79 = .ok (.lload 6, 2) := by decide +kernel
theorem dk_D_closes_81 : decode prog_13_method_31_code 81 = .ok (.ladd, 1) := by decide +kernel
theorem dk_D_closes_82 : decode prog_13_method_31_code 82 = .ok (.aload_n 0, 1) := by decide +kernel
theorem dk_D_closes_83 : decode prog_13_method_31_code 83 = .ok (.getfield 34, 3) := by decide +kernel
theorem dk_D_closes_86 : decode prog_13_method_31_code 86 = .ok (.bipush 44, 2) := by decide +kernel
theorem dk_D_closes_88 : decode prog_13_method_31_code 88 = .ok (.iload_n 2, 1) := by decide +kernel
theorem dk_D_closes_89 : decode prog_13_method_31_code 89 = .ok (.imul, 1) := by decide +kernel
theorem dk_D_closes_90 : decode prog_13_method_31_code 90 = .ok (.iload 5, 2) := by decide +kernel
theorem dk_D_closes_92 : decode prog_13_method_31_code 92 = .ok (.iadd, 1) := by decide +kernel
theorem dk_D_closes_93 : decode prog_13_method_31_code 93 = .ok (.laload, 1) := by decide +kernel
theorem dk_D_closes_94 : decode prog_13_method_31_code 94 = .ok (.lcmp, 1) := by decide +kernel
theorem dk_D_closes_95 : decode prog_13_method_31_code 95 = .ok (.ifCond .ge 19, 3) := by decide +kernel
theorem dk_D_closes_98 : decode prog_13_method_31_code 98 = .ok (.aload_n 0, 1) := by decide +kernel
theorem dk_D_closes_99 : decode prog_13_method_31_code 99 = .ok (.getfield 34, 3) := by decide +kernel
theorem dk_D_closes_102 : decode prog_13_method_31_code 102 = .ok (.bipush 44, 2) := by decide +kernel
theorem dk_D_closes_104 : decode prog_13_method_31_code 104 = .ok (.iload_n 2, 1) := by decide +kernel
theorem dk_D_closes_105 : decode prog_13_method_31_code 105 = .ok (.imul, 1) := by decide +kernel
theorem dk_D_closes_106 : decode prog_13_method_31_code 106 = .ok (.iload 5, 2) := by decide +kernel
theorem dk_D_closes_108 : decode prog_13_method_31_code 108 = .ok (.iadd, 1) := by decide +kernel
theorem dk_D_closes_109 : decode prog_13_method_31_code 109 = .ok (.lload_n 3, 1) := by decide +kernel
theorem dk_D_closes_110 : decode prog_13_method_31_code 110 = .ok (.lload 6, 2) := by decide +kernel
theorem dk_D_closes_112 : decode prog_13_method_31_code 112 = .ok (.ladd, 1) := by decide +kernel
theorem dk_D_closes_113 : decode prog_13_method_31_code 113 = .ok (.lastore, 1) := by decide +kernel
theorem dk_D_closes_114 : decode prog_13_method_31_code 114 = .ok (.iinc 5 1, 3) := by decide +kernel
theorem dk_D_closes_117 : decode prog_13_method_31_code 117 = .ok (.goto (-71), 3) := by decide +kernel
theorem dk_D_closes_120 : decode prog_13_method_31_code 120 = .ok (.iinc 2 1, 3) := by decide +kernel
theorem dk_D_closes_123 : decode prog_13_method_31_code 123 = .ok (.goto (-111), 3) := by decide +kernel
theorem dk_D_closes_126 : decode prog_13_method_31_code 126 = .ok (.iinc 1 1, 3) := by decide +kernel
theorem dk_D_closes_129 : decode prog_13_method_31_code 129 = .ok (.goto (-127), 3) := by decide +kernel
theorem dk_D_closes_132 : decode prog_13_method_31_code 132 = .ok (.iconst 0, 1) := by decide +kernel
theorem dk_D_closes_133 : decode prog_13_method_31_code 133 = .ok (.istore_n 1, 1) := by decide +kernel
theorem dk_D_closes_134 : decode prog_13_method_31_code 134 = .ok (.iload_n 1, 1) := by decide +kernel
theorem dk_D_closes_135 : decode prog_13_method_31_code 135 = .ok (.aload_n 0, 1) := by decide +kernel
theorem dk_D_closes_136 : decode prog_13_method_31_code 136 = .ok (.getfield 144, 3) := by decide +kernel
theorem dk_D_closes_139 : decode prog_13_method_31_code 139 = .ok (.if_icmp .ge 27, 3) := by decide +kernel
theorem dk_D_closes_142 : decode prog_13_method_31_code 142 = .ok (.aload_n 0, 1) := by decide +kernel
theorem dk_D_closes_143 : decode prog_13_method_31_code 143 = .ok (.getfield 34, 3) := by decide +kernel
theorem dk_D_closes_146 : decode prog_13_method_31_code 146 = .ok (.bipush 44, 2) := by decide +kernel
theorem dk_D_closes_148 : decode prog_13_method_31_code 148 = .ok (.iload_n 1, 1) := by decide +kernel
theorem dk_D_closes_149 : decode prog_13_method_31_code 149 = .ok (.imul, 1) := by decide +kernel
theorem dk_D_closes_150 : decode prog_13_method_31_code 150 = .ok (.iload_n 1, 1) := by decide +kernel
theorem dk_D_closes_151 : decode prog_13_method_31_code 151 = .ok (.iadd, 1) := by decide +kernel
theorem dk_D_closes_152 : decode prog_13_method_31_code 152 = .ok (.laload, 1) := by decide +kernel
theorem dk_D_closes_153 : decode prog_13_method_31_code 153 = .ok (.lconst 0, 1) := by decide +kernel
theorem dk_D_closes_154 : decode prog_13_method_31_code 154 = .ok (.lcmp, 1) := by decide +kernel
theorem dk_D_closes_155 : decode prog_13_method_31_code 155 = .ok (.ifCond .ge 5, 3) := by decide +kernel
theorem dk_D_closes_158 : decode prog_13_method_31_code 158 = .ok (.iconst 0, 1) := by decide +kernel
theorem dk_D_closes_159 : decode prog_13_method_31_code 159 = .ok (.ireturn, 1) := by decide +kernel
theorem dk_D_closes_160 : decode prog_13_method_31_code 160 = .ok (.iinc 1 1, 3) := by decide +kernel
theorem dk_D_closes_163 : decode prog_13_method_31_code 163 = .ok (.goto (-29), 3) := by decide +kernel
theorem dk_D_closes_166 : decode prog_13_method_31_code 166 = .ok (.iconst 1, 1) := by decide +kernel
theorem dk_D_closes_167 : decode prog_13_method_31_code 167 = .ok (.ireturn, 1) := by decide +kernel
noncomputable def fj_D_closes_120 (x4 : Int32) (f9 : (Nat → Int64)) : Option ((Int32 × (Nat → Int64)) ⊕ (Nat → Int64)) :=
  some (.inl ((x4 + (1 : Int32)), f9))
noncomputable def fj_D_closes_114 (x10 : Int32) (f15 : (Nat → Int64)) : Option ((Int32 × (Nat → Int64)) ⊕ (Nat → Int64)) :=
  some (.inl ((x10 + (1 : Int32)), f15))
noncomputable def fb_D_closes_46 (m : (Nat → Nat → Int32)) (x1 : Int32) (x4 : Int32) (v8 : Int64) (x10 : Int32) (f11 : (Nat → Int64)) : Option ((Int32 × (Nat → Int64)) ⊕ (Nat → Int64)) :=
  if (m 84 13) ≤ x10 then
    some (.inr f11)
  else
    kv_gd (kv_in (((44 : Int32) * x1) + x10) 1936) (
    kv_let (f11 (((44 : Int32) * x1) + x10).toNatClampNeg) (fun v14 =>
    if v14 = (1000000000000 : Int64) then
      fj_D_closes_114 x10 f11
    else
      kv_gd (kv_in (((44 : Int32) * x4) + x10) 1936) (
      if (f11 (((44 : Int32) * x4) + x10).toNatClampNeg) ≤ (v8 + v14) then
        fj_D_closes_114 x10 f11
      else
        kv_let (vp_updL f11 (((44 : Int32) * x4) + x10).toNatClampNeg (v8 + v14)) (fun f17 =>
        fj_D_closes_114 x10 f17))))
noncomputable def fb_D_closes_12 (m : (Nat → Nat → Int32)) (x1 : Int32) (x4 : Int32) (f5 : (Nat → Int64)) : Option ((Int32 × (Nat → Int64)) ⊕ (Nat → Int64)) :=
  if (m 84 13) ≤ x4 then
    some (.inr f5)
  else
    kv_gd (kv_in (((44 : Int32) * x4) + x1) 1936) (
    kv_let (f5 (((44 : Int32) * x4) + x1).toNatClampNeg) (fun v8 =>
    if v8 = (1000000000000 : Int64) then
      fj_D_closes_120 x4 f5
    else
      (kv_loop (kv_u2 (fb_D_closes_46 m x1 x4 v8)) ((0 : Int32), f5)).bind (kv_u1 (fun f12 =>
      fj_D_closes_120 x4 f12))))
noncomputable def fb_D_closes_2 (m : (Nat → Nat → Int32)) (x1 : Int32) (f2 : (Nat → Int64)) : Option ((Int32 × (Nat → Int64)) ⊕ (Nat → Int64)) :=
  if (m 84 13) ≤ x1 then
    some (.inr f2)
  else
    (kv_loop (kv_u2 (fb_D_closes_12 m x1)) ((0 : Int32), f2)).bind (kv_u1 (fun f6 =>
    some (.inl ((x1 + (1 : Int32)), f6))))
noncomputable def fb_D_closes_134 (m : (Nat → Nat → Int32)) (f3 : (Nat → Int64)) (x18 : Int32) : Option (Int32 ⊕ (Unit ⊕ Unit)) :=
  if (m 84 13) ≤ x18 then
    some (.inr (.inr ()))
  else
    kv_gd (kv_in (((44 : Int32) * x18) + x18) 1936) (
    if (0 : Int64) ≤ (f3 (((44 : Int32) * x18) + x18).toNatClampNeg) then
      some (.inl (x18 + (1 : Int32)))
    else
      some (.inr (.inl ())))
noncomputable def fx_D_closes (m : (Nat → Nat → Int32)) (f : (Nat → Int64)) : Option (Bool × (Nat → Int64)) :=
  (kv_loop (kv_u2 (fb_D_closes_2 m)) ((0 : Int32), f)).bind (kv_u1 (fun f3 =>
  (kv_loop (kv_u1 (fb_D_closes_134 m f3)) (0 : Int32)).bind (Sum.elim (kv_u0 (
  some (false, f3)))
   (kv_u0 (
  some (true, f3))))))
set_option maxRecDepth 20000 in
theorem cx_D_closes (d : Nat) (c : (Nat → Nat → Int32)) (m : (Nat → Nat → Int32)) (f : (Nat → Int64)) (u : (Nat → Int64)) : ∀ a, fx_D_closes m f = some a → kv_C kM_D_closes (d + 0) [.ref 84] (c, m, f, u) (some (.int (kv_b a.1)), (c, m, a.2, u)) := by
  refine kv_entryX (E := fun a : (Bool × (Nat → Int64)) => (some (.int (kv_b a.1)), (c, m, a.2, u))) rfl (Nat.le_of_ble_eq_true rfl) (fun o => ?_)
  unfold fx_D_closes
  show kv_X _ _ _ _ _ 0 [(0, .ref 84)] [] (c, m, f, u)
  refine kv_iconst (pc := 0) (v := (0 : Int32)) dk_D_closes_0 kki_0 ?_
  refine kv_istore_n (pc := 1) (lv' := [(1, .int (0 : Int32)), (0, .ref 84)]) rfl (Nat.le_of_ble_eq_true rfl) rfl dk_D_closes_1 ?_
  refine kv_sub (lv' := [(0, .ref 84), (1, .int (0 : Int32))]) [1, 0] rfl ?_
  refine kv_lp_2_1 (LV := fun x1 f2 => [(0, .ref 84), (1, .int x1)]) (WW := fun x1 f2 => (c, m, f2, u)) (LE1 := fun f3 => [(0, .ref 84)]) (WE1 := fun f3 => (c, m, f3, u)) (pe1 := 132) ?_ ?_
  · intro f3
    show kv_X _ _ _ _ _ 132 [(0, .ref 84)] [] (c, m, f3, u)
    refine kv_iconst (pc := 132) (v := (0 : Int32)) dk_D_closes_132 kki_0 ?_
    refine kv_istore_n (pc := 133) (lv' := [(1, .int (0 : Int32)), (0, .ref 84)]) rfl (Nat.le_of_ble_eq_true rfl) rfl dk_D_closes_133 ?_
    refine kv_sub (lv' := [(0, .ref 84), (1, .int (0 : Int32))]) [1, 0] rfl ?_
    refine kv_lp_1_0_0 (LV := fun x18 => [(0, .ref 84), (1, .int x18)]) (WW := fun x18 => (c, m, f3, u)) (LE1 := []) (WE1 := (c, m, f3, u)) (pe1 := 158) (LE2 := []) (WE2 := (c, m, f3, u)) (pe2 := 166) ?_ ?_ ?_
    · show kv_X _ _ _ _ _ 158 [] [] (c, m, f3, u)
      refine kv_iconst (pc := 158) (v := (0 : Int32)) dk_D_closes_158 kki_0 ?_
      exact kv_zret (pc := 159) (b := false) (fun h => h) rfl dk_D_closes_159
    · show kv_X _ _ _ _ _ 166 [] [] (c, m, f3, u)
      refine kv_iconst (pc := 166) (v := (1 : Int32)) dk_D_closes_166 kki_1 ?_
      exact kv_zret (pc := 167) (b := true) (fun h => h) rfl dk_D_closes_167
    · intro hx134_0 hx134_1 x18
      show kv_X _ _ _ _ (fb_D_closes_134 m f3 x18) 134 [(0, .ref 84), (1, .int x18)] [] (c, m, f3, u)
      unfold fb_D_closes_134
      refine kv_iload_n (pc := 134) 1 rfl rfl dk_D_closes_134 ?_
      refine kv_aload_n (pc := 135) 0 rfl rfl dk_D_closes_135 ?_
      refine kv_getM (pc := 136) kf_D_144 kr_84 kn_84 rfl dk_D_closes_136 ?_
      refine kv_icmp_ge (pc := 139) (tgt := 166) dk_D_closes_139 rfl ?_ ?_
      · exact kv_sub [] rfl (kv_leaf (hx134_1))
      · refine kv_aload_n (pc := 142) 0 rfl rfl dk_D_closes_142 ?_
        refine kv_getR (pc := 143) kf_D_34 kr_84 rfl kt_84_10 dk_D_closes_143 ?_
        refine kv_bipush (pc := 146) (v := (44 : Int32)) dk_D_closes_146 kkb_44 ?_
        refine kv_iload_n (pc := 148) 1 rfl rfl dk_D_closes_148 ?_
        refine kv_imul (pc := 149) dk_D_closes_149 ?_
        refine kv_iload_n (pc := 150) 1 rfl rfl dk_D_closes_150 ?_
        refine kv_iadd (pc := 151) dk_D_closes_151 ?_
        refine kv_guard (fun g19 => ?_)
        refine kv_aldJ (pc := 152) rfl kr_93 kl_93 g19 rfl dk_D_closes_152 ?_
        refine kv_lconst (pc := 153) (v := (0 : Int64)) dk_D_closes_153 kkl_0 ?_
        refine kv_lcmp_ge (pc := 154) (tgt := 160) dk_D_closes_154 dk_D_closes_155 rfl ?_ ?_
        · refine kv_iinc (pc := 160) (kk := (1 : Int32)) (lv' := [(1, .int (x18 + (1 : Int32))), (0, .ref 84)]) 1 rfl kki_1 rfl (Nat.le_of_ble_eq_true rfl) dk_D_closes_160 ?_
          refine kv_goto (pc := 163) (tgt := 134) dk_D_closes_163 rfl ?_
          exact kv_sub [1, 0] rfl (kv_leaf (fun h => h))
        · exact kv_sub [] rfl (kv_leaf (hx134_0))
  · intro hx2_0 x1 f2
    show kv_X _ _ _ _ (fb_D_closes_2 m x1 f2) 2 [(0, .ref 84), (1, .int x1)] [] (c, m, f2, u)
    unfold fb_D_closes_2
    refine kv_iload_n (pc := 2) 1 rfl rfl dk_D_closes_2 ?_
    refine kv_aload_n (pc := 3) 0 rfl rfl dk_D_closes_3 ?_
    refine kv_getM (pc := 4) kf_D_144 kr_84 kn_84 rfl dk_D_closes_4 ?_
    refine kv_icmp_ge (pc := 7) (tgt := 132) dk_D_closes_7 rfl ?_ ?_
    · exact kv_sub [0] rfl (kv_leaf (hx2_0 _))
    · refine kv_iconst (pc := 10) (v := (0 : Int32)) dk_D_closes_10 kki_0 ?_
      refine kv_istore_n (pc := 11) (lv' := [(2, .int (0 : Int32)), (0, .ref 84), (1, .int x1)]) rfl (Nat.le_of_ble_eq_true rfl) rfl dk_D_closes_11 ?_
      refine kv_sub (lv' := [(0, .ref 84), (1, .int x1), (2, .int (0 : Int32))]) [1, 2, 0] rfl ?_
      refine kv_lp_2_1 (LV := fun x4 f5 => [(0, .ref 84), (1, .int x1), (2, .int x4)]) (WW := fun x4 f5 => (c, m, f5, u)) (LE1 := fun f6 => [(0, .ref 84), (1, .int x1)]) (WE1 := fun f6 => (c, m, f6, u)) (pe1 := 126) ?_ ?_
      · intro f6
        show kv_X _ _ _ _ _ 126 [(0, .ref 84), (1, .int x1)] [] (c, m, f6, u)
        refine kv_iinc (pc := 126) (kk := (1 : Int32)) (lv' := [(1, .int (x1 + (1 : Int32))), (0, .ref 84)]) 1 rfl kki_1 rfl (Nat.le_of_ble_eq_true rfl) dk_D_closes_126 ?_
        refine kv_goto (pc := 129) (tgt := 2) dk_D_closes_129 rfl ?_
        exact kv_sub [1, 0] rfl (kv_leaf (fun h => h))
      · intro hx12_0 x4 f5
        show kv_X _ _ _ _ (fb_D_closes_12 m x1 x4 f5) 12 [(0, .ref 84), (1, .int x1), (2, .int x4)] [] (c, m, f5, u)
        unfold fb_D_closes_12
        refine kv_iload_n (pc := 12) 2 rfl rfl dk_D_closes_12 ?_
        refine kv_aload_n (pc := 13) 0 rfl rfl dk_D_closes_13 ?_
        refine kv_getM (pc := 14) kf_D_144 kr_84 kn_84 rfl dk_D_closes_14 ?_
        refine kv_icmp_ge (pc := 17) (tgt := 126) dk_D_closes_17 rfl ?_ ?_
        · exact kv_sub [0, 1] rfl (kv_leaf (hx12_0 _))
        · refine kv_aload_n (pc := 20) 0 rfl rfl dk_D_closes_20 ?_
          refine kv_getR (pc := 21) kf_D_34 kr_84 rfl kt_84_10 dk_D_closes_21 ?_
          refine kv_bipush (pc := 24) (v := (44 : Int32)) dk_D_closes_24 kkb_44 ?_
          refine kv_iload_n (pc := 26) 2 rfl rfl dk_D_closes_26 ?_
          refine kv_imul (pc := 27) dk_D_closes_27 ?_
          refine kv_iload_n (pc := 28) 1 rfl rfl dk_D_closes_28 ?_
          refine kv_iadd (pc := 29) dk_D_closes_29 ?_
          refine kv_guard (fun g7 => ?_)
          refine kv_aldJ (pc := 30) rfl kr_93 kl_93 g7 rfl dk_D_closes_30 ?_
          refine kv_letJ (fun v8 => ?_)
          refine kv_lstore_n (pc := 31) (lv' := [(3, .long v8), (0, .ref 84), (1, .int x1), (2, .int x4)]) rfl (Nat.le_of_ble_eq_true rfl) rfl dk_D_closes_31 ?_
          refine kv_lload_n (pc := 32) 0 rfl rfl dk_D_closes_32 ?_
          refine kv_ldc2 (pc := 33) (v := (1000000000000 : Int64)) kw_1459 dk_D_closes_33 ?_
          refine kv_cut_1 (J := fj_D_closes_120 x4) (pcj := 120) (LJ := fun f9 => [(0, .ref 84), (1, .int x1), (2, .int x4)]) (SJ := fun f9 => []) (WJ := fun f9 => (c, m, f9, u)) ?_ (fun hj120 => ?_)
          · intro f9
            show kv_X _ _ _ _ (fj_D_closes_120 x4 f9) 120 [(0, .ref 84), (1, .int x1), (2, .int x4)] [] (c, m, f9, u)
            unfold fj_D_closes_120
            refine kv_iinc (pc := 120) (kk := (1 : Int32)) (lv' := [(2, .int (x4 + (1 : Int32))), (0, .ref 84), (1, .int x1)]) 2 rfl kki_1 rfl (Nat.le_of_ble_eq_true rfl) dk_D_closes_120 ?_
            refine kv_goto (pc := 123) (tgt := 12) dk_D_closes_123 rfl ?_
            exact kv_sub [1, 2, 0] rfl (kv_leaf (fun h => h))
          refine kv_lcmp_ne (pc := 36) (tgt := 43) dk_D_closes_36 dk_D_closes_37 rfl ?_ ?_
          · refine kv_iconst (pc := 43) (v := (0 : Int32)) dk_D_closes_43 kki_0 ?_
            refine kv_istore (pc := 44) (lv' := [(5, .int (0 : Int32)), (3, .long v8), (0, .ref 84), (1, .int x1), (2, .int x4)]) rfl (Nat.le_of_ble_eq_true rfl) dk_D_closes_44 ?_
            refine kv_sub (lv' := [(0, .ref 84), (1, .int x1), (2, .int x4), (3, .long v8), (5, .int (0 : Int32))]) [2, 3, 4, 1, 0] rfl ?_
            refine kv_lp_2_1 (LV := fun x10 f11 => [(0, .ref 84), (1, .int x1), (2, .int x4), (3, .long v8), (5, .int x10)]) (WW := fun x10 f11 => (c, m, f11, u)) (LE1 := fun f12 => [(0, .ref 84), (1, .int x1), (2, .int x4)]) (WE1 := fun f12 => (c, m, f12, u)) (pe1 := 120) ?_ ?_
            · intro f12
              show kv_X _ _ _ _ _ 120 [(0, .ref 84), (1, .int x1), (2, .int x4)] [] (c, m, f12, u)
              exact hj120 f12
            · intro hx46_0 x10 f11
              show kv_X _ _ _ _ (fb_D_closes_46 m x1 x4 v8 x10 f11) 46 [(0, .ref 84), (1, .int x1), (2, .int x4), (3, .long v8), (5, .int x10)] [] (c, m, f11, u)
              unfold fb_D_closes_46
              refine kv_iload (pc := 46) 4 rfl dk_D_closes_46 ?_
              refine kv_aload_n (pc := 48) 0 rfl rfl dk_D_closes_48 ?_
              refine kv_getM (pc := 49) kf_D_144 kr_84 kn_84 rfl dk_D_closes_49 ?_
              refine kv_icmp_ge (pc := 52) (tgt := 120) dk_D_closes_52 rfl ?_ ?_
              · exact kv_sub [0, 1, 2] rfl (kv_leaf (hx46_0 _))
              · refine kv_aload_n (pc := 55) 0 rfl rfl dk_D_closes_55 ?_
                refine kv_getR (pc := 56) kf_D_34 kr_84 rfl kt_84_10 dk_D_closes_56 ?_
                refine kv_bipush (pc := 59) (v := (44 : Int32)) dk_D_closes_59 kkb_44 ?_
                refine kv_iload_n (pc := 61) 1 rfl rfl dk_D_closes_61 ?_
                refine kv_imul (pc := 62) dk_D_closes_62 ?_
                refine kv_iload (pc := 63) 4 rfl dk_D_closes_63 ?_
                refine kv_iadd (pc := 65) dk_D_closes_65 ?_
                refine kv_guard (fun g13 => ?_)
                refine kv_aldJ (pc := 66) rfl kr_93 kl_93 g13 rfl dk_D_closes_66 ?_
                refine kv_letJ (fun v14 => ?_)
                refine kv_lstore (pc := 67) (lv' := [(6, .long v14), (0, .ref 84), (1, .int x1), (2, .int x4), (3, .long v8), (5, .int x10)]) rfl (Nat.le_of_ble_eq_true rfl) dk_D_closes_67 ?_
                refine kv_lload (pc := 69) 0 rfl dk_D_closes_69 ?_
                refine kv_ldc2 (pc := 71) (v := (1000000000000 : Int64)) kw_1459 dk_D_closes_71 ?_
                refine kv_cut_1 (J := fj_D_closes_114 x10) (pcj := 114) (LJ := fun f15 => [(0, .ref 84), (1, .int x1), (2, .int x4), (3, .long v8), (5, .int x10)]) (SJ := fun f15 => []) (WJ := fun f15 => (c, m, f15, u)) ?_ (fun hj114 => ?_)
                · intro f15
                  show kv_X _ _ _ _ (fj_D_closes_114 x10 f15) 114 [(0, .ref 84), (1, .int x1), (2, .int x4), (3, .long v8), (5, .int x10)] [] (c, m, f15, u)
                  unfold fj_D_closes_114
                  refine kv_iinc (pc := 114) (kk := (1 : Int32)) (lv' := [(5, .int (x10 + (1 : Int32))), (0, .ref 84), (1, .int x1), (2, .int x4), (3, .long v8)]) 4 rfl kki_1 rfl (Nat.le_of_ble_eq_true rfl) dk_D_closes_114 ?_
                  refine kv_goto (pc := 117) (tgt := 46) dk_D_closes_117 rfl ?_
                  exact kv_sub [1, 2, 3, 4, 0] rfl (kv_leaf (fun h => h))
                refine kv_lcmp_eq (pc := 74) (tgt := 114) dk_D_closes_74 dk_D_closes_75 rfl ?_ ?_
                · exact kv_sub [1, 2, 3, 4, 5] rfl (hj114 f11)
                · refine kv_lload_n (pc := 78) 4 rfl rfl dk_D_closes_78 ?_
                  refine kv_lload (pc := 79) 0 rfl dk_D_closes_79 ?_
                  refine kv_ladd (pc := 81) dk_D_closes_81 ?_
                  refine kv_aload_n (pc := 82) 1 rfl rfl dk_D_closes_82 ?_
                  refine kv_getR (pc := 83) kf_D_34 kr_84 rfl kt_84_10 dk_D_closes_83 ?_
                  refine kv_bipush (pc := 86) (v := (44 : Int32)) dk_D_closes_86 kkb_44 ?_
                  refine kv_iload_n (pc := 88) 3 rfl rfl dk_D_closes_88 ?_
                  refine kv_imul (pc := 89) dk_D_closes_89 ?_
                  refine kv_iload (pc := 90) 5 rfl dk_D_closes_90 ?_
                  refine kv_iadd (pc := 92) dk_D_closes_92 ?_
                  refine kv_guard (fun g16 => ?_)
                  refine kv_aldJ (pc := 93) rfl kr_93 kl_93 g16 rfl dk_D_closes_93 ?_
                  refine kv_lcmp_ge (pc := 94) (tgt := 114) dk_D_closes_94 dk_D_closes_95 rfl ?_ ?_
                  · exact kv_sub [1, 2, 3, 4, 5] rfl (hj114 f11)
                  · refine kv_aload_n (pc := 98) 1 rfl rfl dk_D_closes_98 ?_
                    refine kv_getR (pc := 99) kf_D_34 kr_84 rfl kt_84_10 dk_D_closes_99 ?_
                    refine kv_bipush (pc := 102) (v := (44 : Int32)) dk_D_closes_102 kkb_44 ?_
                    refine kv_iload_n (pc := 104) 3 rfl rfl dk_D_closes_104 ?_
                    refine kv_imul (pc := 105) dk_D_closes_105 ?_
                    refine kv_iload (pc := 106) 5 rfl dk_D_closes_106 ?_
                    refine kv_iadd (pc := 108) dk_D_closes_108 ?_
                    refine kv_lload_n (pc := 109) 4 rfl rfl dk_D_closes_109 ?_
                    refine kv_lload (pc := 110) 0 rfl dk_D_closes_110 ?_
                    refine kv_ladd (pc := 112) dk_D_closes_112 ?_
                    refine kv_astJ (pc := 113) rfl kr_93 kl_93 g16 rfl dk_D_closes_113 (fun f17 => ?_)
                    exact kv_sub [1, 2, 3, 4, 5] rfl (hj114 f17)
          · refine kv_goto (pc := 40) (tgt := 120) dk_D_closes_40 rfl ?_
            exact kv_sub [1, 2, 3] rfl (hj120 f5)
theorem dk_D_fitsYear_0 : decode prog_13_method_34_code 0 = .ok (.aload_n 0, 1) := by decide +kernel
theorem dk_D_fitsYear_1 : decode prog_13_method_34_code 1 = .ok (.aload_n 0, 1) := by decide +kernel
theorem dk_D_fitsYear_2 : decode prog_13_method_34_code 2 = .ok (.getfield 9, 3) := by decide +kernel
theorem dk_D_fitsYear_5 : decode prog_13_method_34_code 5 = .ok (.iconst 1, 1) := by decide +kernel
theorem dk_D_fitsYear_6 : decode prog_13_method_34_code 6 = .ok (.iaload, 1) := by decide +kernel
theorem dk_D_fitsYear_7 : decode prog_13_method_34_code 7 = .ok (.invokevirtual 157, 3) := by decide +kernel
theorem dk_D_fitsYear_10 : decode prog_13_method_34_code 10 = .ok (.aload_n 0, 1) := by decide +kernel
theorem dk_D_fitsYear_11 : decode prog_13_method_34_code 11 = .ok (.iload_n 1, 1) := by decide +kernel
theorem dk_D_fitsYear_12 : decode prog_13_method_34_code 12 = .ok (.iconst 0, 1) := by decide +kernel
theorem dk_D_fitsYear_13 : decode prog_13_method_34_code 13 = .ok (.invokevirtual 161, 3) := by decide +kernel
theorem dk_D_fitsYear_16 : decode prog_13_method_34_code 16 = .ok (.aload_n 0, 1) := by decide +kernel
theorem dk_D_fitsYear_17 : decode prog_13_method_34_code 17 = .ok (.invokevirtual 165, 3) := by decide +kernel
theorem dk_D_fitsYear_20 : decode prog_13_method_34_code 20 = .ok (.ireturn, 1) := by decide +kernel
noncomputable def fx_D_fitsYear (p1 : Int32) (m : (Nat → Nat → Int32)) (f : (Nat → Int64)) : Option (Bool × (Nat → Nat → Int32) × (Nat → Int64)) :=
  kv_bind2 (fx_D_begins (m 85 1) m f) (fun m1 f2 =>
  kv_bind1 (fx_D_bindsYear p1 (0 : Int32) m1 f2) (fun f3 =>
  kv_bind2 (fx_D_closes m1 f3) (fun b4 f5 =>
  some (b4, m1, f5))))
set_option maxRecDepth 20000 in
theorem cx_D_fitsYear (d : Nat) (p1 : Int32) (c : (Nat → Nat → Int32)) (m : (Nat → Nat → Int32)) (f : (Nat → Int64)) (u : (Nat → Int64)) : ∀ a, fx_D_fitsYear p1 m f = some a → kv_C kM_D_fitsYear (d + 3) [.ref 84, .int p1] (c, m, f, u) (some (.int (kv_b a.1)), (c, a.2.1, a.2.2, u)) := by
  refine kv_entryX (E := fun a : (Bool × (Nat → Nat → Int32) × (Nat → Int64)) => (some (.int (kv_b a.1)), (c, a.2.1, a.2.2, u))) rfl (Nat.le_of_ble_eq_true rfl) (fun o => ?_)
  unfold fx_D_fitsYear
  show kv_X _ _ _ _ _ 0 [(0, .ref 84), (1, .int p1)] [] (c, m, f, u)
  refine kv_aload_n (pc := 0) 0 rfl rfl dk_D_fitsYear_0 ?_
  refine kv_aload_n (pc := 1) 0 rfl rfl dk_D_fitsYear_1 ?_
  refine kv_getR (pc := 2) kf_D_9 kr_84 rfl kt_84_0 dk_D_fitsYear_2 ?_
  refine kv_iconst (pc := 5) (v := (1 : Int32)) dk_D_fitsYear_5 kki_1 ?_
  refine kv_aldM (pc := 6) kr_85 kn_85 kl_85 kkg_1_444 (j := 1) kkx_1 dk_D_fitsYear_6 ?_
  refine kv_cV_mmf (pc := 7) (as := [.int (m 85 1)]) (st := []) ko_D_begins kc_11 rfl rfl kr_84 kw_1455 (Nat.le_of_ble_eq_true rfl) rfl dk_D_fitsYear_7 (cx_D_begins (d + 2) (m 85 1) c m f u) (fun m1 f2 => ?_)
  refine kv_aload_n (pc := 10) 0 rfl rfl dk_D_fitsYear_10 ?_
  refine kv_iload_n (pc := 11) 1 rfl rfl dk_D_fitsYear_11 ?_
  refine kv_iconst (pc := 12) (v := (0 : Int32)) dk_D_fitsYear_12 kki_0 ?_
  refine kv_cV_mf (pc := 13) (as := [.int p1, .int (0 : Int32)]) (st := []) ko_D_bindsYear kc_11 rfl rfl kr_84 kw_1460 (Nat.le_of_ble_eq_true rfl) rfl dk_D_fitsYear_13 (cx_D_bindsYear d p1 (0 : Int32) c m1 f2 u) (fun f3 => ?_)
  refine kv_aload_n (pc := 16) 0 rfl rfl dk_D_fitsYear_16 ?_
  refine kv_cV_mZf (pc := 17) (as := []) (st := []) ko_D_closes kc_11 rfl rfl kr_84 kw_1472 (Nat.le_of_ble_eq_true rfl) rfl dk_D_fitsYear_17 (cx_D_closes (d + 2) c m1 f3 u) (fun b4 f5 => ?_)
  exact kv_zret (pc := 20) (b := b4) (fun h => h) rfl dk_D_fitsYear_20
theorem dk_D_answer_0 : decode prog_13_method_35_code 0 = .ok (.aload_n 0, 1) := by decide +kernel
theorem dk_D_answer_1 : decode prog_13_method_35_code 1 = .ok (.getfield 34, 3) := by decide +kernel
theorem dk_D_answer_4 : decode prog_13_method_35_code 4 = .ok (.bipush 44, 2) := by decide +kernel
theorem dk_D_answer_6 : decode prog_13_method_35_code 6 = .ok (.iload_n 1, 1) := by decide +kernel
theorem dk_D_answer_7 : decode prog_13_method_35_code 7 = .ok (.imul, 1) := by decide +kernel
theorem dk_D_answer_8 : decode prog_13_method_35_code 8 = .ok (.iload_n 2, 1) := by decide +kernel
theorem dk_D_answer_9 : decode prog_13_method_35_code 9 = .ok (.iadd, 1) := by decide +kernel
theorem dk_D_answer_10 : decode prog_13_method_35_code 10 = .ok (.laload, 1) := by decide +kernel
theorem dk_D_answer_11 : decode prog_13_method_35_code 11 = .ok (.ldc2_w 147, 3) := by decide +kernel
theorem dk_D_answer_14 : decode prog_13_method_35_code 14 = .ok (.lcmp, 1) := by decide +kernel
theorem dk_D_answer_15 : decode prog_13_method_35_code 15 = .ok (.ifCond .ne 8, 3) := by decide +kernel
theorem dk_D_answer_18 : decode prog_13_method_35_code 18 = .ok (.ldc 102, 2) := by decide +kernel
theorem dk_D_answer_20 : decode prog_13_method_35_code 20 = .ok (.goto 34, 3) := by decide +kernel
theorem dk_D_answer_23 : decode prog_13_method_35_code 23 = .ok (.iload_n 3, 1) := by decide +kernel
theorem dk_D_answer_24 : decode prog_13_method_35_code 24 = .ok (.ifCond .ne 18, 3) := by decide +kernel
theorem dk_D_answer_27 : decode prog_13_method_35_code 27 = .ok (.aload_n 0, 1) := by decide +kernel
theorem dk_D_answer_28 : decode prog_13_method_35_code 28 = .ok (.getfield 34, 3) := by decide +kernel
theorem dk_D_answer_31 : decode prog_13_method_35_code 31 = .ok (.bipush 44, 2) := by decide +kernel
theorem dk_D_answer_33 : decode prog_13_method_35_code 33 = .ok (.iload_n 2, 1) := by decide +kernel
theorem dk_D_answer_34 : decode prog_13_method_35_code 34 = .ok (.imul, 1) := by decide +kernel
theorem dk_D_answer_35 : decode prog_13_method_35_code 35 = .ok (.iload_n 1, 1) := by decide +kernel
theorem dk_D_answer_36 : decode prog_13_method_35_code 36 = .ok (.iadd, 1) := by decide +kernel
theorem dk_D_answer_37 : decode prog_13_method_35_code 37 = .ok (.laload, 1) := by decide +kernel
theorem dk_D_answer_38 : decode prog_13_method_35_code 38 = .ok (.lneg, 1) := by decide +kernel
theorem dk_D_answer_39 : decode prog_13_method_35_code 39 = .ok (.goto 14, 3) := by decide +kernel
theorem dk_D_answer_42 : decode prog_13_method_35_code 42 = .ok (.aload_n 0, 1) := by decide +kernel
theorem dk_D_answer_43 : decode prog_13_method_35_code 43 = .ok (.getfield 34, 3) := by decide +kernel
theorem dk_D_answer_46 : decode prog_13_method_35_code 46 = .ok (.bipush 44, 2) := by decide +kernel
theorem dk_D_answer_48 : decode prog_13_method_35_code 48 = .ok (.iload_n 1, 1) := by decide +kernel
theorem dk_D_answer_49 : decode prog_13_method_35_code 49 = .ok (.imul, 1) := by decide +kernel
theorem dk_D_answer_50 : decode prog_13_method_35_code 50 = .ok (.iload_n 2, 1) := by decide +kernel
theorem dk_D_answer_51 : decode prog_13_method_35_code 51 = .ok (.iadd, 1) := by decide +kernel
theorem dk_D_answer_52 : decode prog_13_method_35_code 52 = .ok (.laload, 1) := by decide +kernel
theorem dk_D_answer_53 : decode prog_13_method_35_code 53 = .ok (.l2i, 1) := by decide +kernel
theorem dk_D_answer_54 : decode prog_13_method_35_code 54 = .ok (.ireturn, 1) := by decide +kernel
noncomputable def fx_D_answer (p1 : Int32) (p2 : Int32) (p3 : Int32) (f : (Nat → Int64)) : Option Int32 :=
  kv_gd (kv_in (((44 : Int32) * p1) + p2) 1936) (
  if (f (((44 : Int32) * p1) + p2).toNatClampNeg) = (1000000000000 : Int64) then
    some (-1000000004 : Int32)
  else
    if p3 = 0 then
      kv_gd (kv_in (((44 : Int32) * p2) + p1) 1936) (
      some (-(f (((44 : Int32) * p2) + p1).toNatClampNeg)).toInt32)
    else
      some (f (((44 : Int32) * p1) + p2).toNatClampNeg).toInt32)
set_option maxRecDepth 20000 in
theorem cx_D_answer (d : Nat) (p1 : Int32) (p2 : Int32) (p3 : Int32) (c : (Nat → Nat → Int32)) (m : (Nat → Nat → Int32)) (f : (Nat → Int64)) (u : (Nat → Int64)) : ∀ a, fx_D_answer p1 p2 p3 f = some a → kv_C kM_D_answer (d + 0) [.ref 84, .int p1, .int p2, .int p3] (c, m, f, u) (some (.int a), (c, m, f, u)) := by
  refine kv_entryX (E := fun a : Int32 => (some (.int a), (c, m, f, u))) rfl (Nat.le_of_ble_eq_true rfl) (fun o => ?_)
  unfold fx_D_answer
  show kv_X _ _ _ _ _ 0 [(0, .ref 84), (1, .int p1), (2, .int p2), (3, .int p3)] [] (c, m, f, u)
  refine kv_aload_n (pc := 0) 0 rfl rfl dk_D_answer_0 ?_
  refine kv_getR (pc := 1) kf_D_34 kr_84 rfl kt_84_10 dk_D_answer_1 ?_
  refine kv_bipush (pc := 4) (v := (44 : Int32)) dk_D_answer_4 kkb_44 ?_
  refine kv_iload_n (pc := 6) 1 rfl rfl dk_D_answer_6 ?_
  refine kv_imul (pc := 7) dk_D_answer_7 ?_
  refine kv_iload_n (pc := 8) 2 rfl rfl dk_D_answer_8 ?_
  refine kv_iadd (pc := 9) dk_D_answer_9 ?_
  refine kv_guard (fun g1 => ?_)
  refine kv_aldJ (pc := 10) rfl kr_93 kl_93 g1 rfl dk_D_answer_10 ?_
  refine kv_ldc2 (pc := 11) (v := (1000000000000 : Int64)) kw_1459 dk_D_answer_11 ?_
  refine kv_lcmp_ne (pc := 14) (tgt := 23) dk_D_answer_14 dk_D_answer_15 rfl ?_ ?_
  · refine kv_iload_n (pc := 23) 3 rfl rfl dk_D_answer_23 ?_
    refine kv_if_ne (pc := 24) (tgt := 42) dk_D_answer_24 rfl ?_ ?_
    · refine kv_aload_n (pc := 42) 0 rfl rfl dk_D_answer_42 ?_
      refine kv_getR (pc := 43) kf_D_34 kr_84 rfl kt_84_10 dk_D_answer_43 ?_
      refine kv_bipush (pc := 46) (v := (44 : Int32)) dk_D_answer_46 kkb_44 ?_
      refine kv_iload_n (pc := 48) 1 rfl rfl dk_D_answer_48 ?_
      refine kv_imul (pc := 49) dk_D_answer_49 ?_
      refine kv_iload_n (pc := 50) 2 rfl rfl dk_D_answer_50 ?_
      refine kv_iadd (pc := 51) dk_D_answer_51 ?_
      refine kv_aldJ (pc := 52) rfl kr_93 kl_93 g1 rfl dk_D_answer_52 ?_
      refine kv_l2i (pc := 53) dk_D_answer_53 ?_
      exact kv_iret (pc := 54) (fun h => h) rfl dk_D_answer_54
    · refine kv_aload_n (pc := 27) 0 rfl rfl dk_D_answer_27 ?_
      refine kv_getR (pc := 28) kf_D_34 kr_84 rfl kt_84_10 dk_D_answer_28 ?_
      refine kv_bipush (pc := 31) (v := (44 : Int32)) dk_D_answer_31 kkb_44 ?_
      refine kv_iload_n (pc := 33) 2 rfl rfl dk_D_answer_33 ?_
      refine kv_imul (pc := 34) dk_D_answer_34 ?_
      refine kv_iload_n (pc := 35) 1 rfl rfl dk_D_answer_35 ?_
      refine kv_iadd (pc := 36) dk_D_answer_36 ?_
      refine kv_guard (fun g2 => ?_)
      refine kv_aldJ (pc := 37) rfl kr_93 kl_93 g2 rfl dk_D_answer_37 ?_
      refine kv_lneg (pc := 38) dk_D_answer_38 ?_
      refine kv_goto (pc := 39) (tgt := 53) dk_D_answer_39 rfl ?_
      refine kv_l2i (pc := 53) dk_D_answer_53 ?_
      exact kv_iret (pc := 54) (fun h => h) rfl dk_D_answer_54
  · refine kv_ldc (pc := 18) (v := (-1000000004 : Int32)) kw_1366 dk_D_answer_18 ?_
    refine kv_goto (pc := 20) (tgt := 54) dk_D_answer_20 rfl ?_
    exact kv_iret (pc := 54) (fun h => h) rfl dk_D_answer_54
theorem dk_D_apart_0 : decode prog_13_method_36_code 0 = .ok (.aload_n 0, 1) := by decide +kernel
theorem dk_D_apart_1 : decode prog_13_method_36_code 1 = .ok (.iload_n 1, 1) := by decide +kernel
theorem dk_D_apart_2 : decode prog_13_method_36_code 2 = .ok (.invokevirtual 98, 3) := by decide +kernel
theorem dk_D_apart_5 : decode prog_13_method_36_code 5 = .ok (.ifCond .eq 29, 3) := by decide +kernel
theorem dk_D_apart_8 : decode prog_13_method_36_code 8 = .ok (.aload_n 0, 1) := by decide +kernel
theorem dk_D_apart_9 : decode prog_13_method_36_code 9 = .ok (.iload_n 2, 1) := by decide +kernel
theorem dk_D_apart_10 : decode prog_13_method_36_code 10 = .ok (.invokevirtual 98, 3) := by decide +kernel
theorem dk_D_apart_13 : decode prog_13_method_36_code 13 = .ok (.ifCond .eq 21, 3) := by decide +kernel
theorem dk_D_apart_16 : decode prog_13_method_36_code 16 = .ok (.iload_n 3, 1) := by decide +kernel
theorem dk_D_apart_17 : decode prog_13_method_36_code 17 = .ok (.invokestatic 110, 3) := by decide +kernel
theorem dk_D_apart_20 : decode prog_13_method_36_code 20 = .ok (.ifCond .eq 14, 3) := by decide +kernel
theorem dk_D_apart_23 : decode prog_13_method_36_code 23 = .ok (.iload 4, 2) := by decide +kernel
theorem dk_D_apart_25 : decode prog_13_method_36_code 25 = .ok (.i2l, 1) := by decide +kernel
theorem dk_D_apart_26 : decode prog_13_method_36_code 26 = .ok (.lconst 0, 1) := by decide +kernel
theorem dk_D_apart_27 : decode prog_13_method_36_code 27 = .ok (.lconst 1, 1) := by decide +kernel
theorem dk_D_apart_28 : decode prog_13_method_36_code 28 = .ok (.invokestatic 60, 3) := by decide +kernel
theorem dk_D_apart_31 : decode prog_13_method_36_code 31 = .ok (.ifCond .ne 6, 3) := by decide +kernel
theorem dk_D_apart_34 : decode prog_13_method_36_code 34 = .ok (.ldc 91, 2) := by decide +kernel
theorem dk_D_apart_36 : decode prog_13_method_36_code 36 = .ok (.ireturn, 1) := by decide +kernel
theorem dk_D_apart_37 : decode prog_13_method_36_code 37 = .ok (.aload_n 0, 1) := by decide +kernel
theorem dk_D_apart_38 : decode prog_13_method_36_code 38 = .ok (.iload_n 3, 1) := by decide +kernel
theorem dk_D_apart_39 : decode prog_13_method_36_code 39 = .ok (.invokevirtual 169, 3) := by decide +kernel
theorem dk_D_apart_42 : decode prog_13_method_36_code 42 = .ok (.ifCond .eq 14, 3) := by decide +kernel
theorem dk_D_apart_45 : decode prog_13_method_36_code 45 = .ok (.aload_n 0, 1) := by decide +kernel
theorem dk_D_apart_46 : decode prog_13_method_36_code 46 = .ok (.iload_n 1, 1) := by decide +kernel
theorem dk_D_apart_47 : decode prog_13_method_36_code 47 = .ok (.iload_n 2, 1) := by decide +kernel
theorem dk_D_apart_48 : decode prog_13_method_36_code 48 = .ok (.iload 4, 2) := by decide +kernel
theorem dk_D_apart_50 : decode prog_13_method_36_code 50 = .ok (.invokevirtual 172, 3) := by decide +kernel
theorem dk_D_apart_53 : decode prog_13_method_36_code 53 = .ok (.goto 5, 3) := by decide +kernel
theorem dk_D_apart_56 : decode prog_13_method_36_code 56 = .ok (.ldc 176, 2) := by decide +kernel
theorem dk_D_apart_58 : decode prog_13_method_36_code 58 = .ok (.ireturn, 1) := by decide +kernel
noncomputable def fx_D_apart (p1 : Int32) (p2 : Int32) (p3 : Int32) (p4 : Int32) (m : (Nat → Nat → Int32)) (f : (Nat → Int64)) : Option (Int32 × (Nat → Nat → Int32) × (Nat → Int64)) :=
  kv_bind1 (fx_D_isLump p1 m) (fun b1 =>
  if b1 = true then
    kv_bind1 (fx_D_isLump p2 m) (fun b2 =>
    if b2 = true then
      kv_bind1 (fx_D_isYear p3) (fun b3 =>
      if b3 = true then
        kv_bind1 (fx_D_isIn p4.toInt64 (0 : Int64) (1 : Int64)) (fun b4 =>
        if b4 = true then
          kv_bind3 (fx_D_fitsYear p3 m f) (fun b5 m6 f7 =>
          if b5 = true then
            kv_bind1 (fx_D_answer p1 p2 p4 f7) (fun v8 =>
            some (v8, m6, f7))
          else
            some ((-1000000005 : Int32), m6, f7))
        else
          some ((-1000000001 : Int32), m, f))
      else
        some ((-1000000001 : Int32), m, f))
    else
      some ((-1000000001 : Int32), m, f))
  else
    some ((-1000000001 : Int32), m, f))
set_option maxRecDepth 20000 in
theorem cx_D_apart (d : Nat) (p1 : Int32) (p2 : Int32) (p3 : Int32) (p4 : Int32) (c : (Nat → Nat → Int32)) (m : (Nat → Nat → Int32)) (f : (Nat → Int64)) (u : (Nat → Int64)) : ∀ a, fx_D_apart p1 p2 p3 p4 m f = some a → kv_C kM_D_apart (d + 4) [.ref 84, .int p1, .int p2, .int p3, .int p4] (c, m, f, u) (some (.int a.1), (c, a.2.1, a.2.2, u)) := by
  refine kv_entryX (E := fun a : (Int32 × (Nat → Nat → Int32) × (Nat → Int64)) => (some (.int a.1), (c, a.2.1, a.2.2, u))) rfl (Nat.le_of_ble_eq_true rfl) (fun o => ?_)
  unfold fx_D_apart
  show kv_X _ _ _ _ _ 0 [(0, .ref 84), (1, .int p1), (2, .int p2), (3, .int p3), (4, .int p4)] [] (c, m, f, u)
  refine kv_aload_n (pc := 0) 0 rfl rfl dk_D_apart_0 ?_
  refine kv_iload_n (pc := 1) 1 rfl rfl dk_D_apart_1 ?_
  refine kv_cV_mZ (pc := 2) (as := [.int p1]) (st := []) ko_D_isLump kc_11 rfl rfl kr_84 kw_1362 (Nat.le_of_ble_eq_true rfl) rfl dk_D_apart_2 (cx_D_isLump (d + 2) p1 c m f u) (fun b1 => ?_)
  refine kv_zif_eq (pc := 5) (tgt := 34) dk_D_apart_5 rfl ?_ ?_
  · refine kv_ldc (pc := 34) (v := (-1000000001 : Int32)) kw_1354 dk_D_apart_34 ?_
    exact kv_iret (pc := 36) (fun h => h) rfl dk_D_apart_36
  · refine kv_aload_n (pc := 8) 0 rfl rfl dk_D_apart_8 ?_
    refine kv_iload_n (pc := 9) 2 rfl rfl dk_D_apart_9 ?_
    refine kv_cV_mZ (pc := 10) (as := [.int p2]) (st := []) ko_D_isLump kc_11 rfl rfl kr_84 kw_1362 (Nat.le_of_ble_eq_true rfl) rfl dk_D_apart_10 (cx_D_isLump (d + 2) p2 c m f u) (fun b2 => ?_)
    refine kv_zif_eq (pc := 13) (tgt := 34) dk_D_apart_13 rfl ?_ ?_
    · refine kv_ldc (pc := 34) (v := (-1000000001 : Int32)) kw_1354 dk_D_apart_34 ?_
      exact kv_iret (pc := 36) (fun h => h) rfl dk_D_apart_36
    · refine kv_iload_n (pc := 16) 3 rfl rfl dk_D_apart_16 ?_
      refine kv_cS_mZ (pc := 17) (as := [.int p3]) (st := []) ko_D_isYear rfl kw_1385 (Nat.le_of_ble_eq_true rfl) rfl dk_D_apart_17 (cx_D_isYear (d + 2) p3 c m f u) (fun b3 => ?_)
      refine kv_zif_eq (pc := 20) (tgt := 34) dk_D_apart_20 rfl ?_ ?_
      · refine kv_ldc (pc := 34) (v := (-1000000001 : Int32)) kw_1354 dk_D_apart_34 ?_
        exact kv_iret (pc := 36) (fun h => h) rfl dk_D_apart_36
      · refine kv_iload (pc := 23) 4 rfl dk_D_apart_23 ?_
        refine kv_i2l (pc := 25) dk_D_apart_25 ?_
        refine kv_lconst (pc := 26) (v := (0 : Int64)) dk_D_apart_26 kkl_0 ?_
        refine kv_lconst (pc := 27) (v := (1 : Int64)) dk_D_apart_27 kkl_1 ?_
        refine kv_cS_mZ (pc := 28) (as := [.long p4.toInt64, .long (0 : Int64), .long (1 : Int64)]) (st := []) ko_D_isIn rfl kw_1330 (Nat.le_of_ble_eq_true rfl) rfl dk_D_apart_28 (cx_D_isIn (d + 3) p4.toInt64 (0 : Int64) (1 : Int64) c m f u) (fun b4 => ?_)
        refine kv_zif_ne (pc := 31) (tgt := 37) dk_D_apart_31 rfl ?_ ?_
        · refine kv_aload_n (pc := 37) 0 rfl rfl dk_D_apart_37 ?_
          refine kv_iload_n (pc := 38) 3 rfl rfl dk_D_apart_38 ?_
          refine kv_cV_mZmf (pc := 39) (as := [.int p3]) (st := []) ko_D_fitsYear kc_11 rfl rfl kr_84 kw_1451 (Nat.le_of_ble_eq_true rfl) rfl dk_D_apart_39 (cx_D_fitsYear d p3 c m f u) (fun b5 m6 f7 => ?_)
          refine kv_zif_eq (pc := 42) (tgt := 56) dk_D_apart_42 rfl ?_ ?_
          · refine kv_ldc (pc := 56) (v := (-1000000005 : Int32)) kw_1480 dk_D_apart_56 ?_
            exact kv_iret (pc := 58) (fun h => h) rfl dk_D_apart_58
          · refine kv_aload_n (pc := 45) 0 rfl rfl dk_D_apart_45 ?_
            refine kv_iload_n (pc := 46) 1 rfl rfl dk_D_apart_46 ?_
            refine kv_iload_n (pc := 47) 2 rfl rfl dk_D_apart_47 ?_
            refine kv_iload (pc := 48) 4 rfl dk_D_apart_48 ?_
            refine kv_cV_mI (pc := 50) (as := [.int p1, .int p2, .int p4]) (st := []) ko_D_answer kc_11 rfl rfl kr_84 kw_1476 (Nat.le_of_ble_eq_true rfl) rfl dk_D_apart_50 (cx_D_answer (d + 3) p1 p2 p4 c m6 f7 u) (fun v8 => ?_)
            refine kv_goto (pc := 53) (tgt := 58) dk_D_apart_53 rfl ?_
            exact kv_iret (pc := 58) (fun h => h) rfl dk_D_apart_58
        · refine kv_ldc (pc := 34) (v := (-1000000001 : Int32)) kw_1354 dk_D_apart_34 ?_
          exact kv_iret (pc := 36) (fun h => h) rfl dk_D_apart_36
theorem dk_LongNet_swapFrom_0 : decode prog_4_method_3_code 0 = .ok (.aload_n 0, 1) := by decide +kernel
theorem dk_LongNet_swapFrom_1 : decode prog_4_method_3_code 1 = .ok (.iload_n 1, 1) := by decide +kernel
theorem dk_LongNet_swapFrom_2 : decode prog_4_method_3_code 2 = .ok (.putfield 28, 3) := by decide +kernel
theorem dk_LongNet_swapFrom_5 : decode prog_4_method_3_code 5 = .ok (.aload_n 0, 1) := by decide +kernel
theorem dk_LongNet_swapFrom_6 : decode prog_4_method_3_code 6 = .ok (.iload_n 2, 1) := by decide +kernel
theorem dk_LongNet_swapFrom_7 : decode prog_4_method_3_code 7 = .ok (.putfield 31, 3) := by decide +kernel
theorem dk_LongNet_swapFrom_10 : decode prog_4_method_3_code 10 = .ok (.aload_n 0, 1) := by decide +kernel
theorem dk_LongNet_swapFrom_11 : decode prog_4_method_3_code 11 = .ok (.iload_n 3, 1) := by decide +kernel
theorem dk_LongNet_swapFrom_12 : decode prog_4_method_3_code 12 = .ok (.putfield 34, 3) := by decide +kernel
theorem dk_LongNet_swapFrom_15 : decode prog_4_method_3_code 15 = .ok (.return_, 1) := by decide +kernel
noncomputable def fx_LongNet_swapFrom (p1 : Int32) (p2 : Int32) (p3 : Int32) (c : (Nat → Nat → Int32)) : Option (Nat → Nat → Int32) :=
  kv_let (kv_st c 73 3 p1) (fun c1 =>
  kv_let (kv_st c1 73 4 p2) (fun c2 =>
  kv_let (kv_st c2 73 5 p3) (fun c3 =>
  some c3)))
set_option maxRecDepth 20000 in
theorem cx_LongNet_swapFrom (d : Nat) (p1 : Int32) (p2 : Int32) (p3 : Int32) (c : (Nat → Nat → Int32)) (y : (Nat → Nat → Int32) × (Nat → Int64) × (Nat → Int64)) : ∀ a, fx_LongNet_swapFrom p1 p2 p3 c = some a → kv_C kM_LongNet_swapFrom (d + 0) [.ref 73, .int p1, .int p2, .int p3] (c, y) (none, (a, y)) := by
  refine kv_entryX (E := fun a : (Nat → Nat → Int32) => (none, (a, y))) rfl (Nat.le_of_ble_eq_true rfl) (fun o => ?_)
  unfold fx_LongNet_swapFrom
  show kv_X _ _ _ _ _ 0 [(0, .ref 73), (1, .int p1), (2, .int p2), (3, .int p3)] [] (c, y)
  refine kv_aload_n (pc := 0) 0 rfl rfl dk_LongNet_swapFrom_0 ?_
  refine kv_iload_n (pc := 1) 1 rfl rfl dk_LongNet_swapFrom_1 ?_
  refine kv_putC (pc := 2) kf_LongNet_28 kr_73 kn_73 rfl rfl rfl dk_LongNet_swapFrom_2 (fun c1 => ?_)
  refine kv_aload_n (pc := 5) 0 rfl rfl dk_LongNet_swapFrom_5 ?_
  refine kv_iload_n (pc := 6) 2 rfl rfl dk_LongNet_swapFrom_6 ?_
  refine kv_putC (pc := 7) kf_LongNet_31 kr_73 kn_73 rfl rfl rfl dk_LongNet_swapFrom_7 (fun c2 => ?_)
  refine kv_aload_n (pc := 10) 0 rfl rfl dk_LongNet_swapFrom_10 ?_
  refine kv_iload_n (pc := 11) 3 rfl rfl dk_LongNet_swapFrom_11 ?_
  refine kv_putC (pc := 12) kf_LongNet_34 kr_73 kn_73 rfl rfl rfl dk_LongNet_swapFrom_12 (fun c3 => ?_)
  exact kv_vret (pc := 15) (fun h => h) rfl dk_LongNet_swapFrom_15
theorem dk_LongNet_start_0 : decode prog_4_method_2_code 0 = .ok (.aload_n 0, 1) := by decide +kernel
theorem dk_LongNet_start_1 : decode prog_4_method_2_code 1 = .ok (.iconst 0, 1) := by decide +kernel
theorem dk_LongNet_start_2 : decode prog_4_method_2_code 2 = .ok (.putfield 17, 3) := by decide +kernel
theorem dk_LongNet_start_5 : decode prog_4_method_2_code 5 = .ok (.aload_n 0, 1) := by decide +kernel
theorem dk_LongNet_start_6 : decode prog_4_method_2_code 6 = .ok (.iconst (-1), 1) := by decide +kernel
theorem dk_LongNet_start_7 : decode prog_4_method_2_code 7 = .ok (.putfield 21, 3) := by decide +kernel
theorem dk_LongNet_start_10 : decode prog_4_method_2_code 10 = .ok (.aload_n 0, 1) := by decide +kernel
theorem dk_LongNet_start_11 : decode prog_4_method_2_code 11 = .ok (.sipush 141, 3) := by decide +kernel
theorem dk_LongNet_start_14 : decode prog_4_method_2_code 14 = .ok (.iconst (-1), 1) := by decide +kernel
theorem dk_LongNet_start_15 : decode prog_4_method_2_code 15 = .ok (.iconst (-1), 1) := by decide +kernel
theorem dk_LongNet_start_16 : decode prog_4_method_2_code 16 = .ok (.invokevirtual 24, 3) := by decide +kernel
theorem dk_LongNet_start_19 : decode prog_4_method_2_code 19 = .ok (.return_, 1) := by decide +kernel
noncomputable def fx_LongNet_start (c : (Nat → Nat → Int32)) : Option (Nat → Nat → Int32) :=
  kv_let (kv_st c 73 1 (0 : Int32)) (fun c1 =>
  kv_let (kv_st c1 73 2 (-1 : Int32)) (fun c2 =>
  kv_bind1 (fx_LongNet_swapFrom (141 : Int32) (-1 : Int32) (-1 : Int32) c2) (fun c3 =>
  some c3)))
set_option maxRecDepth 20000 in
theorem cx_LongNet_start (d : Nat) (c : (Nat → Nat → Int32)) (y : (Nat → Nat → Int32) × (Nat → Int64) × (Nat → Int64)) : ∀ a, fx_LongNet_start c = some a → kv_C kM_LongNet_start (d + 1) [.ref 73] (c, y) (none, (a, y)) := by
  refine kv_entryX (E := fun a : (Nat → Nat → Int32) => (none, (a, y))) rfl (Nat.le_of_ble_eq_true rfl) (fun o => ?_)
  unfold fx_LongNet_start
  show kv_X _ _ _ _ _ 0 [(0, .ref 73)] [] (c, y)
  refine kv_aload_n (pc := 0) 0 rfl rfl dk_LongNet_start_0 ?_
  refine kv_iconst (pc := 1) (v := (0 : Int32)) dk_LongNet_start_1 kki_0 ?_
  refine kv_putC (pc := 2) kf_LongNet_17 kr_73 kn_73 rfl rfl rfl dk_LongNet_start_2 (fun c1 => ?_)
  refine kv_aload_n (pc := 5) 0 rfl rfl dk_LongNet_start_5 ?_
  refine kv_iconst (pc := 6) (v := (-1 : Int32)) dk_LongNet_start_6 kki_m1 ?_
  refine kv_putC (pc := 7) kf_LongNet_21 kr_73 kn_73 rfl rfl rfl dk_LongNet_start_7 (fun c2 => ?_)
  refine kv_aload_n (pc := 10) 0 rfl rfl dk_LongNet_start_10 ?_
  refine kv_sipush (pc := 11) (v := (141 : Int32)) dk_LongNet_start_11 kks_141 ?_
  refine kv_iconst (pc := 14) (v := (-1 : Int32)) dk_LongNet_start_14 kki_m1 ?_
  refine kv_iconst (pc := 15) (v := (-1 : Int32)) dk_LongNet_start_15 kki_m1 ?_
  refine kv_cV_cc (pc := 16) (as := [.int (141 : Int32), .int (-1 : Int32), .int (-1 : Int32)]) (st := []) ko_LongNet_swapFrom kc_2 rfl rfl kr_73 kw_738 (Nat.le_of_ble_eq_true rfl) rfl dk_LongNet_start_16 (cx_LongNet_swapFrom d (141 : Int32) (-1 : Int32) (-1 : Int32) c2 y) (fun c3 => ?_)
  exact kv_vret (pc := 19) (fun h => h) rfl dk_LongNet_start_19
theorem dk_LongNet_placeOf_0 : decode prog_4_method_5_code 0 = .ok (.iconst 0, 1) := by decide +kernel
theorem dk_LongNet_placeOf_1 : decode prog_4_method_5_code 1 = .ok (.istore_n 2, 1) := by decide +kernel
theorem dk_LongNet_placeOf_2 : decode prog_4_method_5_code 2 = .ok (.iload_n 2, 1) := by decide +kernel
theorem dk_LongNet_placeOf_3 : decode prog_4_method_5_code 3 = .ok (.aload_n 0, 1) := by decide +kernel
theorem dk_LongNet_placeOf_4 : decode prog_4_method_5_code 4 = .ok (.getfield 17, 3) := by decide +kernel
theorem dk_LongNet_placeOf_7 : decode prog_4_method_5_code 7 = .ok (.if_icmp .ge 21, 3) := by decide +kernel
theorem dk_LongNet_placeOf_10 : decode prog_4_method_5_code 10 = .ok (.aload_n 0, 1) := by decide +kernel
theorem dk_LongNet_placeOf_11 : decode prog_4_method_5_code 11 = .ok (.getfield 11, 3) := by decide +kernel
theorem dk_LongNet_placeOf_14 : decode prog_4_method_5_code 14 = .ok (.iload_n 2, 1) := by decide +kernel
theorem dk_LongNet_placeOf_15 : decode prog_4_method_5_code 15 = .ok (.iaload, 1) := by decide +kernel
theorem dk_LongNet_placeOf_16 : decode prog_4_method_5_code 16 = .ok (.iload_n 1, 1) := by decide +kernel
theorem dk_LongNet_placeOf_17 : decode prog_4_method_5_code 17 = .ok (.if_icmp .lt 5, 3) := by decide +kernel
theorem dk_LongNet_placeOf_20 : decode prog_4_method_5_code 20 = .ok (.iload_n 2, 1) := by decide +kernel
theorem dk_LongNet_placeOf_21 : decode prog_4_method_5_code 21 = .ok (.ireturn, 1) := by decide +kernel
theorem dk_LongNet_placeOf_22 : decode prog_4_method_5_code 22 = .ok (.iinc 2 1, 3) := by decide +kernel
theorem dk_LongNet_placeOf_25 : decode prog_4_method_5_code 25 = .ok (.goto (-23), 3) := by decide +kernel
theorem dk_LongNet_placeOf_28 : decode prog_4_method_5_code 28 = .ok (.aload_n 0, 1) := by decide +kernel
theorem dk_LongNet_placeOf_29 : decode prog_4_method_5_code 29 = .ok (.getfield 17, 3) := by decide +kernel
theorem dk_LongNet_placeOf_32 : decode prog_4_method_5_code 32 = .ok (.ireturn, 1) := by decide +kernel
noncomputable def fb_LongNet_placeOf_2 (c : (Nat → Nat → Int32)) (p1 : Int32) (x1 : Int32) : Option (Int32 ⊕ (Int32 ⊕ Unit)) :=
  if (c 73 1) ≤ x1 then
    some (.inr (.inr ()))
  else
    kv_gd (kv_in x1 42) (
    if (c 74 x1.toNatClampNeg) < p1 then
      some (.inl (x1 + (1 : Int32)))
    else
      some (.inr (.inl x1)))
noncomputable def fx_LongNet_placeOf (p1 : Int32) (c : (Nat → Nat → Int32)) : Option Int32 :=
  (kv_loop (kv_u1 (fb_LongNet_placeOf_2 c p1)) (0 : Int32)).bind (Sum.elim (kv_u1 (fun x2 =>
  some x2))
   (kv_u0 (
  some (c 73 1))))
set_option maxRecDepth 20000 in
theorem cx_LongNet_placeOf (d : Nat) (p1 : Int32) (c : (Nat → Nat → Int32)) (y : (Nat → Nat → Int32) × (Nat → Int64) × (Nat → Int64)) : ∀ a, fx_LongNet_placeOf p1 c = some a → kv_C kM_LongNet_placeOf (d + 0) [.ref 73, .int p1] (c, y) (some (.int a), (c, y)) := by
  refine kv_entryX (E := fun a : Int32 => (some (.int a), (c, y))) rfl (Nat.le_of_ble_eq_true rfl) (fun o => ?_)
  unfold fx_LongNet_placeOf
  show kv_X _ _ _ _ _ 0 [(0, .ref 73), (1, .int p1)] [] (c, y)
  refine kv_iconst (pc := 0) (v := (0 : Int32)) dk_LongNet_placeOf_0 kki_0 ?_
  refine kv_istore_n (pc := 1) (lv' := [(2, .int (0 : Int32)), (0, .ref 73), (1, .int p1)]) rfl (Nat.le_of_ble_eq_true rfl) rfl dk_LongNet_placeOf_1 ?_
  refine kv_sub (lv' := [(0, .ref 73), (1, .int p1), (2, .int (0 : Int32))]) [1, 2, 0] rfl ?_
  refine kv_lp_1_1_0 (LV := fun x1 => [(0, .ref 73), (1, .int p1), (2, .int x1)]) (WW := fun x1 => (c, y)) (LE1 := fun x2 => [(2, .int x2)]) (WE1 := fun x2 => (c, y)) (pe1 := 20) (LE2 := [(0, .ref 73)]) (WE2 := (c, y)) (pe2 := 28) ?_ ?_ ?_
  · intro x2
    show kv_X _ _ _ _ _ 20 [(2, .int x2)] [] (c, y)
    refine kv_iload_n (pc := 20) 0 rfl rfl dk_LongNet_placeOf_20 ?_
    exact kv_iret (pc := 21) (fun h => h) rfl dk_LongNet_placeOf_21
  · show kv_X _ _ _ _ _ 28 [(0, .ref 73)] [] (c, y)
    refine kv_aload_n (pc := 28) 0 rfl rfl dk_LongNet_placeOf_28 ?_
    refine kv_getC (pc := 29) kf_LongNet_17 kr_73 kn_73 rfl dk_LongNet_placeOf_29 ?_
    exact kv_iret (pc := 32) (fun h => h) rfl dk_LongNet_placeOf_32
  · intro hx2_0 hx2_1 x1
    show kv_X _ _ _ _ (fb_LongNet_placeOf_2 c p1 x1) 2 [(0, .ref 73), (1, .int p1), (2, .int x1)] [] (c, y)
    unfold fb_LongNet_placeOf_2
    refine kv_iload_n (pc := 2) 2 rfl rfl dk_LongNet_placeOf_2 ?_
    refine kv_aload_n (pc := 3) 0 rfl rfl dk_LongNet_placeOf_3 ?_
    refine kv_getC (pc := 4) kf_LongNet_17 kr_73 kn_73 rfl dk_LongNet_placeOf_4 ?_
    refine kv_icmp_ge (pc := 7) (tgt := 28) dk_LongNet_placeOf_7 rfl ?_ ?_
    · exact kv_sub [0] rfl (kv_leaf (hx2_1))
    · refine kv_aload_n (pc := 10) 0 rfl rfl dk_LongNet_placeOf_10 ?_
      refine kv_getR (pc := 11) kf_LongNet_11 kr_73 rfl kt_73_0 dk_LongNet_placeOf_11 ?_
      refine kv_iload_n (pc := 14) 2 rfl rfl dk_LongNet_placeOf_14 ?_
      refine kv_guard (fun g3 => ?_)
      refine kv_aldC (pc := 15) kr_74 kn_74 kl_74 g3 rfl dk_LongNet_placeOf_15 ?_
      refine kv_iload_n (pc := 16) 1 rfl rfl dk_LongNet_placeOf_16 ?_
      refine kv_icmp_lt (pc := 17) (tgt := 22) dk_LongNet_placeOf_17 rfl ?_ ?_
      · refine kv_iinc (pc := 22) (kk := (1 : Int32)) (lv' := [(2, .int (x1 + (1 : Int32))), (0, .ref 73), (1, .int p1)]) 2 rfl kki_1 rfl (Nat.le_of_ble_eq_true rfl) dk_LongNet_placeOf_22 ?_
        refine kv_goto (pc := 25) (tgt := 2) dk_LongNet_placeOf_25 rfl ?_
        exact kv_sub [1, 2, 0] rfl (kv_leaf (fun h => h))
      · exact kv_sub [2] rfl (kv_leaf (hx2_0 _))
theorem dk_LongNet_addKnot_0 : decode prog_4_method_7_code 0 = .ok (.iload_n 1, 1) := by decide +kernel
theorem dk_LongNet_addKnot_1 : decode prog_4_method_7_code 1 = .ok (.sipush 141, 3) := by decide +kernel
theorem dk_LongNet_addKnot_4 : decode prog_4_method_7_code 4 = .ok (.imul, 1) := by decide +kernel
theorem dk_LongNet_addKnot_5 : decode prog_4_method_7_code 5 = .ok (.iload_n 2, 1) := by decide +kernel
theorem dk_LongNet_addKnot_6 : decode prog_4_method_7_code 6 = .ok (.iadd, 1) := by decide +kernel
theorem dk_LongNet_addKnot_7 : decode prog_4_method_7_code 7 = .ok (.istore_n 3, 1) := by decide +kernel
theorem dk_LongNet_addKnot_8 : decode prog_4_method_7_code 8 = .ok (.aload_n 0, 1) := by decide +kernel
theorem dk_LongNet_addKnot_9 : decode prog_4_method_7_code 9 = .ok (.iload_n 3, 1) := by decide +kernel
theorem dk_LongNet_addKnot_10 : decode prog_4_method_7_code 10 = .ok (.invokevirtual 37, 3) := by decide +kernel
theorem dk_LongNet_addKnot_13 : decode prog_4_method_7_code 13 = .ok (.istore 4, 2) := by decide +kernel
theorem dk_LongNet_addKnot_15 : decode prog_4_method_7_code 15 = .ok (.aload_n 0, 1) := by decide +kernel
theorem dk_LongNet_addKnot_16 : decode prog_4_method_7_code 16 = .ok (.getfield 17, 3) := by decide +kernel
theorem dk_LongNet_addKnot_19 : decode prog_4_method_7_code 19 = .ok (.bipush 42, 2) := by decide +kernel
theorem dk_LongNet_addKnot_21 : decode prog_4_method_7_code 21 = .ok (.if_icmp .ge 23, 3) := by decide +kernel
theorem dk_LongNet_addKnot_24 : decode prog_4_method_7_code 24 = .ok (.iload 4, 2) := by decide +kernel
theorem dk_LongNet_addKnot_26 : decode prog_4_method_7_code 26 = .ok (.aload_n 0, 1) := by decide +kernel
theorem dk_LongNet_addKnot_27 : decode prog_4_method_7_code 27 = .ok (.getfield 17, 3) := by decide +kernel
theorem dk_LongNet_addKnot_30 : decode prog_4_method_7_code 30 = .ok (.if_icmp .ge 15, 3) := by decide +kernel
theorem dk_LongNet_addKnot_33 : decode prog_4_method_7_code 33 = .ok (.aload_n 0, 1) := by decide +kernel
theorem dk_LongNet_addKnot_34 : decode prog_4_method_7_code 34 = .ok (.getfield 11, 3) := by decide +kernel
theorem dk_LongNet_addKnot_37 : decode prog_4_method_7_code 37 = .ok (.iload 4, 2) := by decide +kernel
theorem dk_LongNet_addKnot_39 : decode prog_4_method_7_code 39 = .ok (.iaload, 1) := by decide +kernel
theorem dk_LongNet_addKnot_40 : decode prog_4_method_7_code 40 = .ok (.iload_n 3, 1) := by decide +kernel
theorem dk_LongNet_addKnot_41 : decode prog_4_method_7_code 41 = .ok (.if_icmp .ne 4, 3) := by decide +kernel
theorem dk_LongNet_addKnot_44 : decode prog_4_method_7_code 44 = .ok (.return_, 1) := by decide +kernel
theorem dk_LongNet_addKnot_45 : decode prog_4_method_7_code 45 = .ok (.aload_n 0, 1) := by decide +kernel
theorem dk_LongNet_addKnot_46 : decode prog_4_method_7_code 46 = .ok (.getfield 11, 3) := by decide +kernel
theorem dk_LongNet_addKnot_49 : decode prog_4_method_7_code 49 = .ok (.iload 4, 2) := by decide +kernel
theorem dk_LongNet_addKnot_51 : decode prog_4_method_7_code 51 = .ok (.aload_n 0, 1) := by decide +kernel
theorem dk_LongNet_addKnot_52 : decode prog_4_method_7_code 52 = .ok (.getfield 11, 3) := by decide +kernel
theorem dk_LongNet_addKnot_55 : decode prog_4_method_7_code 55 = .ok (.iload 4, 2) := by decide +kernel
theorem dk_LongNet_addKnot_57 : decode prog_4_method_7_code 57 = .ok (.iconst 1, 1) := by decide +kernel
theorem dk_LongNet_addKnot_58 : decode prog_4_method_7_code 58 = .ok (.iadd, 1) := by decide +kernel
theorem dk_LongNet_addKnot_59 : decode prog_4_method_7_code 59 = .ok (.aload_n 0, 1) := by decide +kernel
theorem dk_LongNet_addKnot_60 : decode prog_4_method_7_code 60 = .ok (.getfield 17, 3) := by decide +kernel
theorem dk_LongNet_addKnot_63 : decode prog_4_method_7_code 63 = .ok (.iload 4, 2) := by decide +kernel
theorem dk_LongNet_addKnot_65 : decode prog_4_method_7_code 65 = .ok (.isub, 1) := by decide +kernel
theorem dk_LongNet_addKnot_66 : decode prog_4_method_7_code 66 = .ok (.invokestatic 41, 3) := by decide +kernel
theorem dk_LongNet_addKnot_69 : decode prog_4_method_7_code 69 = .ok (.aload_n 0, 1) := by decide +kernel
theorem dk_LongNet_addKnot_70 : decode prog_4_method_7_code 70 = .ok (.getfield 11, 3) := by decide +kernel
theorem dk_LongNet_addKnot_73 : decode prog_4_method_7_code 73 = .ok (.iload 4, 2) := by decide +kernel
theorem dk_LongNet_addKnot_75 : decode prog_4_method_7_code 75 = .ok (.iload_n 3, 1) := by decide +kernel
theorem dk_LongNet_addKnot_76 : decode prog_4_method_7_code 76 = .ok (.iastore, 1) := by decide +kernel
theorem dk_LongNet_addKnot_77 : decode prog_4_method_7_code 77 = .ok (.aload_n 0, 1) := by decide +kernel
theorem dk_LongNet_addKnot_78 : decode prog_4_method_7_code 78 = .ok (.dup, 1) := by decide +kernel
theorem dk_LongNet_addKnot_79 : decode prog_4_method_7_code 79 = .ok (.getfield 17, 3) := by decide +kernel
theorem dk_LongNet_addKnot_82 : decode prog_4_method_7_code 82 = .ok (.iconst 1, 1) := by decide +kernel
theorem dk_LongNet_addKnot_83 : decode prog_4_method_7_code 83 = .ok (.iadd, 1) := by decide +kernel
theorem dk_LongNet_addKnot_84 : decode prog_4_method_7_code 84 = .ok (.putfield 17, 3) := by decide +kernel
theorem dk_LongNet_addKnot_87 : decode prog_4_method_7_code 87 = .ok (.return_, 1) := by decide +kernel
noncomputable def fj_LongNet_addKnot_45 (v2 : Int32) (c : (Nat → Nat → Int32)) (v1 : Int32) : Option (Nat → Nat → Int32) :=
  kv_gd (kv_cp v2 (v2 + (1 : Int32)) ((c 73 1) - v2) 42 42) (
  kv_let (va_up c 74 (va_cpy (c 74) (c 74) v2.toNatClampNeg (v2 + (1 : Int32)).toNatClampNeg ((c 73 1) - v2).toNatClampNeg)) (fun c4 =>
  kv_gd (kv_in v2 42) (
  kv_let (kv_st c4 74 v2.toNatClampNeg v1) (fun c6 =>
  kv_let (kv_st c6 73 1 ((c6 73 1) + (1 : Int32))) (fun c7 =>
  some c7)))))
noncomputable def fx_LongNet_addKnot (p1 : Int32) (p2 : Int32) (c : (Nat → Nat → Int32)) : Option (Nat → Nat → Int32) :=
  kv_let ((p1 * (141 : Int32)) + p2) (fun v1 =>
  kv_bind1 (fx_LongNet_placeOf v1 c) (fun v2 =>
  if (42 : Int32) ≤ (c 73 1) then
    some c
  else
    if (c 73 1) ≤ v2 then
      fj_LongNet_addKnot_45 v2 c v1
    else
      kv_gd (kv_in v2 42) (
      if (c 74 v2.toNatClampNeg) = v1 then
        some c
      else
        fj_LongNet_addKnot_45 v2 c v1)))
set_option maxRecDepth 20000 in
theorem cx_LongNet_addKnot (d : Nat) (p1 : Int32) (p2 : Int32) (c : (Nat → Nat → Int32)) (y : (Nat → Nat → Int32) × (Nat → Int64) × (Nat → Int64)) : ∀ a, fx_LongNet_addKnot p1 p2 c = some a → kv_C kM_LongNet_addKnot (d + 1) [.ref 73, .int p1, .int p2] (c, y) (none, (a, y)) := by
  refine kv_entryX (E := fun a : (Nat → Nat → Int32) => (none, (a, y))) rfl (Nat.le_of_ble_eq_true rfl) (fun o => ?_)
  unfold fx_LongNet_addKnot
  show kv_X _ _ _ _ _ 0 [(0, .ref 73), (1, .int p1), (2, .int p2)] [] (c, y)
  refine kv_iload_n (pc := 0) 1 rfl rfl dk_LongNet_addKnot_0 ?_
  refine kv_sipush (pc := 1) (v := (141 : Int32)) dk_LongNet_addKnot_1 kks_141 ?_
  refine kv_imul (pc := 4) dk_LongNet_addKnot_4 ?_
  refine kv_iload_n (pc := 5) 2 rfl rfl dk_LongNet_addKnot_5 ?_
  refine kv_iadd (pc := 6) dk_LongNet_addKnot_6 ?_
  refine kv_letI (fun v1 => ?_)
  refine kv_istore_n (pc := 7) (lv' := [(3, .int v1), (0, .ref 73), (1, .int p1), (2, .int p2)]) rfl (Nat.le_of_ble_eq_true rfl) rfl dk_LongNet_addKnot_7 ?_
  refine kv_aload_n (pc := 8) 1 rfl rfl dk_LongNet_addKnot_8 ?_
  refine kv_iload_n (pc := 9) 0 rfl rfl dk_LongNet_addKnot_9 ?_
  refine kv_cV_cI (pc := 10) (as := [.int v1]) (st := []) ko_LongNet_placeOf kc_2 rfl rfl kr_73 kw_746 (Nat.le_of_ble_eq_true rfl) rfl dk_LongNet_addKnot_10 (cx_LongNet_placeOf d v1 c y) (fun v2 => ?_)
  refine kv_istore (pc := 13) (lv' := [(4, .int v2), (3, .int v1), (0, .ref 73), (1, .int p1), (2, .int p2)]) rfl (Nat.le_of_ble_eq_true rfl) dk_LongNet_addKnot_13 ?_
  refine kv_aload_n (pc := 15) 2 rfl rfl dk_LongNet_addKnot_15 ?_
  refine kv_getC (pc := 16) kf_LongNet_17 kr_73 kn_73 rfl dk_LongNet_addKnot_16 ?_
  refine kv_bipush (pc := 19) (v := (42 : Int32)) dk_LongNet_addKnot_19 kkb_42 ?_
  refine kv_icmp_ge (pc := 21) (tgt := 44) dk_LongNet_addKnot_21 rfl ?_ ?_
  · exact kv_vret (pc := 44) (fun h => h) rfl dk_LongNet_addKnot_44
  · refine kv_iload (pc := 24) 0 rfl dk_LongNet_addKnot_24 ?_
    refine kv_aload_n (pc := 26) 2 rfl rfl dk_LongNet_addKnot_26 ?_
    refine kv_getC (pc := 27) kf_LongNet_17 kr_73 kn_73 rfl dk_LongNet_addKnot_27 ?_
    refine kv_cut_0 (J := fj_LongNet_addKnot_45 v2 c v1) (pcj := 45) (LJ := [(0, .ref 73), (3, .int v1), (4, .int v2)]) (SJ := []) (WJ := (c, y)) ?_ (fun hj45 => ?_)
    · show kv_X _ _ _ _ (fj_LongNet_addKnot_45 v2 c v1) 45 [(0, .ref 73), (3, .int v1), (4, .int v2)] [] (c, y)
      unfold fj_LongNet_addKnot_45
      refine kv_aload_n (pc := 45) 0 rfl rfl dk_LongNet_addKnot_45 ?_
      refine kv_getR (pc := 46) kf_LongNet_11 kr_73 rfl kt_73_0 dk_LongNet_addKnot_46 ?_
      refine kv_iload (pc := 49) 2 rfl dk_LongNet_addKnot_49 ?_
      refine kv_aload_n (pc := 51) 0 rfl rfl dk_LongNet_addKnot_51 ?_
      refine kv_getR (pc := 52) kf_LongNet_11 kr_73 rfl kt_73_0 dk_LongNet_addKnot_52 ?_
      refine kv_iload (pc := 55) 2 rfl dk_LongNet_addKnot_55 ?_
      refine kv_iconst (pc := 57) (v := (1 : Int32)) dk_LongNet_addKnot_57 kki_1 ?_
      refine kv_iadd (pc := 58) dk_LongNet_addKnot_58 ?_
      refine kv_aload_n (pc := 59) 0 rfl rfl dk_LongNet_addKnot_59 ?_
      refine kv_getC (pc := 60) kf_LongNet_17 kr_73 kn_73 rfl dk_LongNet_addKnot_60 ?_
      refine kv_iload (pc := 63) 2 rfl dk_LongNet_addKnot_63 ?_
      refine kv_isub (pc := 65) dk_LongNet_addKnot_65 ?_
      refine kv_guard (fun g3 => ?_)
      refine kv_copyC (pc := 66) kr_74 kr_74 kn_74 kn_74 kl_74 kl_74 g3 kw_750 kw_752 kw_751 kw_82 (Nat.le_of_ble_eq_true rfl) dk_LongNet_addKnot_66 (fun c4 => ?_)
      refine kv_aload_n (pc := 69) 0 rfl rfl dk_LongNet_addKnot_69 ?_
      refine kv_getR (pc := 70) kf_LongNet_11 kr_73 rfl kt_73_0 dk_LongNet_addKnot_70 ?_
      refine kv_iload (pc := 73) 2 rfl dk_LongNet_addKnot_73 ?_
      refine kv_iload_n (pc := 75) 1 rfl rfl dk_LongNet_addKnot_75 ?_
      refine kv_guard (fun g5 => ?_)
      refine kv_astC (pc := 76) kr_74 kn_74 kl_74 g5 rfl dk_LongNet_addKnot_76 (fun c6 => ?_)
      refine kv_aload_n (pc := 77) 0 rfl rfl dk_LongNet_addKnot_77 ?_
      refine kv_dupR (pc := 78) dk_LongNet_addKnot_78 ?_
      refine kv_getC (pc := 79) kf_LongNet_17 kr_73 kn_73 rfl dk_LongNet_addKnot_79 ?_
      refine kv_iconst (pc := 82) (v := (1 : Int32)) dk_LongNet_addKnot_82 kki_1 ?_
      refine kv_iadd (pc := 83) dk_LongNet_addKnot_83 ?_
      refine kv_putC (pc := 84) kf_LongNet_17 kr_73 kn_73 rfl rfl rfl dk_LongNet_addKnot_84 (fun c7 => ?_)
      exact kv_vret (pc := 87) (fun h => h) rfl dk_LongNet_addKnot_87
    refine kv_icmp_ge (pc := 30) (tgt := 45) dk_LongNet_addKnot_30 rfl ?_ ?_
    · exact kv_sub [2, 1, 0] rfl (hj45)
    · refine kv_aload_n (pc := 33) 2 rfl rfl dk_LongNet_addKnot_33 ?_
      refine kv_getR (pc := 34) kf_LongNet_11 kr_73 rfl kt_73_0 dk_LongNet_addKnot_34 ?_
      refine kv_iload (pc := 37) 0 rfl dk_LongNet_addKnot_37 ?_
      refine kv_guard (fun g8 => ?_)
      refine kv_aldC (pc := 39) kr_74 kn_74 kl_74 g8 rfl dk_LongNet_addKnot_39 ?_
      refine kv_iload_n (pc := 40) 1 rfl rfl dk_LongNet_addKnot_40 ?_
      refine kv_icmp_ne (pc := 41) (tgt := 45) dk_LongNet_addKnot_41 rfl ?_ ?_
      · exact kv_sub [2, 1, 0] rfl (hj45)
      · exact kv_vret (pc := 44) (fun h => h) rfl dk_LongNet_addKnot_44
theorem dk_LongNet_isSaid_0 : decode prog_4_method_9_code 0 = .ok (.iload_n 2, 1) := by decide +kernel
theorem dk_LongNet_isSaid_1 : decode prog_4_method_9_code 1 = .ok (.aload_n 0, 1) := by decide +kernel
theorem dk_LongNet_isSaid_2 : decode prog_4_method_9_code 2 = .ok (.getfield 21, 3) := by decide +kernel
theorem dk_LongNet_isSaid_5 : decode prog_4_method_9_code 5 = .ok (.if_icmp .eq 16, 3) := by decide +kernel
theorem dk_LongNet_isSaid_8 : decode prog_4_method_9_code 8 = .ok (.aload_n 1, 1) := by decide +kernel
theorem dk_LongNet_isSaid_9 : decode prog_4_method_9_code 9 = .ok (.getfield 89, 3) := by decide +kernel
theorem dk_LongNet_isSaid_12 : decode prog_4_method_9_code 12 = .ok (.iload_n 2, 1) := by decide +kernel
theorem dk_LongNet_isSaid_13 : decode prog_4_method_9_code 13 = .ok (.baload, 1) := by decide +kernel
theorem dk_LongNet_isSaid_14 : decode prog_4_method_9_code 14 = .ok (.ifCond .ne 7, 3) := by decide +kernel
theorem dk_LongNet_isSaid_17 : decode prog_4_method_9_code 17 = .ok (.iconst 1, 1) := by decide +kernel
theorem dk_LongNet_isSaid_18 : decode prog_4_method_9_code 18 = .ok (.goto 4, 3) := by decide +kernel
theorem dk_LongNet_isSaid_21 : decode prog_4_method_9_code 21 = .ok (.iconst 0, 1) := by decide +kernel
theorem dk_LongNet_isSaid_22 : decode prog_4_method_9_code 22 = .ok (.ireturn, 1) := by decide +kernel
noncomputable def fx_LongNet_isSaid (p2 : Int32) (c : (Nat → Nat → Int32)) : Option Bool :=
  if p2 = (c 73 2) then
    some false
  else
    kv_gd (kv_in p2 20) (
    if (c 16 p2.toNatClampNeg) = 0 then
      some true
    else
      some false)
set_option maxRecDepth 20000 in
theorem cx_LongNet_isSaid (d : Nat) (p2 : Int32) (c : (Nat → Nat → Int32)) (y : (Nat → Nat → Int32) × (Nat → Int64) × (Nat → Int64)) : ∀ a, fx_LongNet_isSaid p2 c = some a → kv_C kM_LongNet_isSaid (d + 0) [.ref 73, .ref 10, .int p2] (c, y) (some (.int (kv_b a)), (c, y)) := by
  refine kv_entryX (E := fun a : Bool => (some (.int (kv_b a)), (c, y))) rfl (Nat.le_of_ble_eq_true rfl) (fun o => ?_)
  unfold fx_LongNet_isSaid
  show kv_X _ _ _ _ _ 0 [(0, .ref 73), (1, .ref 10), (2, .int p2)] [] (c, y)
  refine kv_iload_n (pc := 0) 2 rfl rfl dk_LongNet_isSaid_0 ?_
  refine kv_aload_n (pc := 1) 0 rfl rfl dk_LongNet_isSaid_1 ?_
  refine kv_getC (pc := 2) kf_LongNet_21 kr_73 kn_73 rfl dk_LongNet_isSaid_2 ?_
  refine kv_icmp_eq (pc := 5) (tgt := 21) dk_LongNet_isSaid_5 rfl ?_ ?_
  · refine kv_iconst (pc := 21) (v := (0 : Int32)) dk_LongNet_isSaid_21 kki_0 ?_
    exact kv_zret (pc := 22) (b := false) (fun h => h) rfl dk_LongNet_isSaid_22
  · refine kv_aload_n (pc := 8) 1 rfl rfl dk_LongNet_isSaid_8 ?_
    refine kv_getR (pc := 9) kf_LongNet_89 kr_10 rfl kt_10_5 dk_LongNet_isSaid_9 ?_
    refine kv_iload_n (pc := 12) 2 rfl rfl dk_LongNet_isSaid_12 ?_
    refine kv_guard (fun g1 => ?_)
    refine kv_aldZC (pc := 13) kr_16 kn_16 kl_16 g1 rfl dk_LongNet_isSaid_13 ?_
    refine kv_if_ne (pc := 14) (tgt := 21) dk_LongNet_isSaid_14 rfl ?_ ?_
    · refine kv_iconst (pc := 21) (v := (0 : Int32)) dk_LongNet_isSaid_21 kki_0 ?_
      exact kv_zret (pc := 22) (b := false) (fun h => h) rfl dk_LongNet_isSaid_22
    · refine kv_iconst (pc := 17) (v := (1 : Int32)) dk_LongNet_isSaid_17 kki_1 ?_
      refine kv_goto (pc := 18) (tgt := 22) dk_LongNet_isSaid_18 rfl ?_
      exact kv_zret (pc := 22) (b := true) (fun h => h) rfl dk_LongNet_isSaid_22
theorem dk_LongNet_meant_0 : decode prog_4_method_4_code 0 = .ok (.iload_n 2, 1) := by decide +kernel
theorem dk_LongNet_meant_1 : decode prog_4_method_4_code 1 = .ok (.aload_n 0, 1) := by decide +kernel
theorem dk_LongNet_meant_2 : decode prog_4_method_4_code 2 = .ok (.getfield 28, 3) := by decide +kernel
theorem dk_LongNet_meant_5 : decode prog_4_method_4_code 5 = .ok (.if_icmp .ge 5, 3) := by decide +kernel
theorem dk_LongNet_meant_8 : decode prog_4_method_4_code 8 = .ok (.iload_n 1, 1) := by decide +kernel
theorem dk_LongNet_meant_9 : decode prog_4_method_4_code 9 = .ok (.ireturn, 1) := by decide +kernel
theorem dk_LongNet_meant_10 : decode prog_4_method_4_code 10 = .ok (.iload_n 1, 1) := by decide +kernel
theorem dk_LongNet_meant_11 : decode prog_4_method_4_code 11 = .ok (.aload_n 0, 1) := by decide +kernel
theorem dk_LongNet_meant_12 : decode prog_4_method_4_code 12 = .ok (.getfield 31, 3) := by decide +kernel
theorem dk_LongNet_meant_15 : decode prog_4_method_4_code 15 = .ok (.if_icmp .ne 10, 3) := by decide +kernel
theorem dk_LongNet_meant_18 : decode prog_4_method_4_code 18 = .ok (.aload_n 0, 1) := by decide +kernel
theorem dk_LongNet_meant_19 : decode prog_4_method_4_code 19 = .ok (.getfield 34, 3) := by decide +kernel
theorem dk_LongNet_meant_22 : decode prog_4_method_4_code 22 = .ok (.goto 19, 3) := by decide +kernel
theorem dk_LongNet_meant_25 : decode prog_4_method_4_code 25 = .ok (.iload_n 1, 1) := by decide +kernel
theorem dk_LongNet_meant_26 : decode prog_4_method_4_code 26 = .ok (.aload_n 0, 1) := by decide +kernel
theorem dk_LongNet_meant_27 : decode prog_4_method_4_code 27 = .ok (.getfield 34, 3) := by decide +kernel
theorem dk_LongNet_meant_30 : decode prog_4_method_4_code 30 = .ok (.if_icmp .ne 10, 3) := by decide +kernel
theorem dk_LongNet_meant_33 : decode prog_4_method_4_code 33 = .ok (.aload_n 0, 1) := by decide +kernel
theorem dk_LongNet_meant_34 : decode prog_4_method_4_code 34 = .ok (.getfield 31, 3) := by decide +kernel
theorem dk_LongNet_meant_37 : decode prog_4_method_4_code 37 = .ok (.goto 4, 3) := by decide +kernel
theorem dk_LongNet_meant_40 : decode prog_4_method_4_code 40 = .ok (.iload_n 1, 1) := by decide +kernel
theorem dk_LongNet_meant_41 : decode prog_4_method_4_code 41 = .ok (.ireturn, 1) := by decide +kernel
noncomputable def fx_LongNet_meant (p1 : Int32) (p2 : Int32) (c : (Nat → Nat → Int32)) : Option Int32 :=
  if (c 73 3) ≤ p2 then
    if p1 = (c 73 4) then
      some (c 73 5)
    else
      if p1 = (c 73 5) then
        some (c 73 4)
      else
        some p1
  else
    some p1
set_option maxRecDepth 20000 in
theorem cx_LongNet_meant (d : Nat) (p1 : Int32) (p2 : Int32) (c : (Nat → Nat → Int32)) (y : (Nat → Nat → Int32) × (Nat → Int64) × (Nat → Int64)) : ∀ a, fx_LongNet_meant p1 p2 c = some a → kv_C kM_LongNet_meant (d + 0) [.ref 73, .int p1, .int p2] (c, y) (some (.int a), (c, y)) := by
  refine kv_entryX (E := fun a : Int32 => (some (.int a), (c, y))) rfl (Nat.le_of_ble_eq_true rfl) (fun o => ?_)
  unfold fx_LongNet_meant
  show kv_X _ _ _ _ _ 0 [(0, .ref 73), (1, .int p1), (2, .int p2)] [] (c, y)
  refine kv_iload_n (pc := 0) 2 rfl rfl dk_LongNet_meant_0 ?_
  refine kv_aload_n (pc := 1) 0 rfl rfl dk_LongNet_meant_1 ?_
  refine kv_getC (pc := 2) kf_LongNet_28 kr_73 kn_73 rfl dk_LongNet_meant_2 ?_
  refine kv_icmp_ge (pc := 5) (tgt := 10) dk_LongNet_meant_5 rfl ?_ ?_
  · refine kv_iload_n (pc := 10) 1 rfl rfl dk_LongNet_meant_10 ?_
    refine kv_aload_n (pc := 11) 0 rfl rfl dk_LongNet_meant_11 ?_
    refine kv_getC (pc := 12) kf_LongNet_31 kr_73 kn_73 rfl dk_LongNet_meant_12 ?_
    refine kv_icmp_ne (pc := 15) (tgt := 25) dk_LongNet_meant_15 rfl ?_ ?_
    · refine kv_iload_n (pc := 25) 1 rfl rfl dk_LongNet_meant_25 ?_
      refine kv_aload_n (pc := 26) 0 rfl rfl dk_LongNet_meant_26 ?_
      refine kv_getC (pc := 27) kf_LongNet_34 kr_73 kn_73 rfl dk_LongNet_meant_27 ?_
      refine kv_icmp_ne (pc := 30) (tgt := 40) dk_LongNet_meant_30 rfl ?_ ?_
      · refine kv_iload_n (pc := 40) 1 rfl rfl dk_LongNet_meant_40 ?_
        exact kv_iret (pc := 41) (fun h => h) rfl dk_LongNet_meant_41
      · refine kv_aload_n (pc := 33) 0 rfl rfl dk_LongNet_meant_33 ?_
        refine kv_getC (pc := 34) kf_LongNet_31 kr_73 kn_73 rfl dk_LongNet_meant_34 ?_
        refine kv_goto (pc := 37) (tgt := 41) dk_LongNet_meant_37 rfl ?_
        exact kv_iret (pc := 41) (fun h => h) rfl dk_LongNet_meant_41
    · refine kv_aload_n (pc := 18) 0 rfl rfl dk_LongNet_meant_18 ?_
      refine kv_getC (pc := 19) kf_LongNet_34 kr_73 kn_73 rfl dk_LongNet_meant_19 ?_
      refine kv_goto (pc := 22) (tgt := 41) dk_LongNet_meant_22 rfl ?_
      exact kv_iret (pc := 41) (fun h => h) rfl dk_LongNet_meant_41
  · refine kv_iload_n (pc := 8) 1 rfl rfl dk_LongNet_meant_8 ?_
    exact kv_iret (pc := 9) (fun h => h) rfl dk_LongNet_meant_9
theorem dk_LongNet_knotAt_0 : decode prog_4_method_6_code 0 = .ok (.aload_n 0, 1) := by decide +kernel
theorem dk_LongNet_knotAt_1 : decode prog_4_method_6_code 1 = .ok (.iload_n 1, 1) := by decide +kernel
theorem dk_LongNet_knotAt_2 : decode prog_4_method_6_code 2 = .ok (.sipush 141, 3) := by decide +kernel
theorem dk_LongNet_knotAt_5 : decode prog_4_method_6_code 5 = .ok (.imul, 1) := by decide +kernel
theorem dk_LongNet_knotAt_6 : decode prog_4_method_6_code 6 = .ok (.iload_n 2, 1) := by decide +kernel
theorem dk_LongNet_knotAt_7 : decode prog_4_method_6_code 7 = .ok (.iadd, 1) := by decide +kernel
theorem dk_LongNet_knotAt_8 : decode prog_4_method_6_code 8 = .ok (.invokevirtual 37, 3) := by decide +kernel
theorem dk_LongNet_knotAt_11 : decode prog_4_method_6_code 11 = .ok (.ireturn, 1) := by decide +kernel
noncomputable def fx_LongNet_knotAt (p1 : Int32) (p2 : Int32) (c : (Nat → Nat → Int32)) : Option Int32 :=
  kv_bind1 (fx_LongNet_placeOf ((p1 * (141 : Int32)) + p2) c) (fun v1 =>
  some v1)
set_option maxRecDepth 20000 in
theorem cx_LongNet_knotAt (d : Nat) (p1 : Int32) (p2 : Int32) (c : (Nat → Nat → Int32)) (y : (Nat → Nat → Int32) × (Nat → Int64) × (Nat → Int64)) : ∀ a, fx_LongNet_knotAt p1 p2 c = some a → kv_C kM_LongNet_knotAt (d + 1) [.ref 73, .int p1, .int p2] (c, y) (some (.int a), (c, y)) := by
  refine kv_entryX (E := fun a : Int32 => (some (.int a), (c, y))) rfl (Nat.le_of_ble_eq_true rfl) (fun o => ?_)
  unfold fx_LongNet_knotAt
  show kv_X _ _ _ _ _ 0 [(0, .ref 73), (1, .int p1), (2, .int p2)] [] (c, y)
  refine kv_aload_n (pc := 0) 0 rfl rfl dk_LongNet_knotAt_0 ?_
  refine kv_iload_n (pc := 1) 1 rfl rfl dk_LongNet_knotAt_1 ?_
  refine kv_sipush (pc := 2) (v := (141 : Int32)) dk_LongNet_knotAt_2 kks_141 ?_
  refine kv_imul (pc := 5) dk_LongNet_knotAt_5 ?_
  refine kv_iload_n (pc := 6) 2 rfl rfl dk_LongNet_knotAt_6 ?_
  refine kv_iadd (pc := 7) dk_LongNet_knotAt_7 ?_
  refine kv_cV_cI (pc := 8) (as := [.int ((p1 * (141 : Int32)) + p2)]) (st := []) ko_LongNet_placeOf kc_2 rfl rfl kr_73 kw_746 (Nat.le_of_ble_eq_true rfl) rfl dk_LongNet_knotAt_8 (cx_LongNet_placeOf d ((p1 * (141 : Int32)) + p2) c y) (fun v1 => ?_)
  exact kv_iret (pc := 11) (fun h => h) rfl dk_LongNet_knotAt_11
theorem dk_LongNet_boundByWeighing_0 : decode prog_4_method_10_code 0 = .ok (.aload_n 1, 1) := by decide +kernel
theorem dk_LongNet_boundByWeighing_1 : decode prog_4_method_10_code 1 = .ok (.getfield 60, 3) := by decide +kernel
theorem dk_LongNet_boundByWeighing_4 : decode prog_4_method_10_code 4 = .ok (.iload_n 2, 1) := by decide +kernel
theorem dk_LongNet_boundByWeighing_5 : decode prog_4_method_10_code 5 = .ok (.iaload, 1) := by decide +kernel
theorem dk_LongNet_boundByWeighing_6 : decode prog_4_method_10_code 6 = .ok (.istore 4, 2) := by decide +kernel
theorem dk_LongNet_boundByWeighing_8 : decode prog_4_method_10_code 8 = .ok (.aload_n 0, 1) := by decide +kernel
theorem dk_LongNet_boundByWeighing_9 : decode prog_4_method_10_code 9 = .ok (.aload_n 0, 1) := by decide +kernel
theorem dk_LongNet_boundByWeighing_10 : decode prog_4_method_10_code 10 = .ok (.aload_n 1, 1) := by decide +kernel
theorem dk_LongNet_boundByWeighing_11 : decode prog_4_method_10_code 11 = .ok (.getfield 63, 3) := by decide +kernel
theorem dk_LongNet_boundByWeighing_14 : decode prog_4_method_10_code 14 = .ok (.iload_n 2, 1) := by decide +kernel
theorem dk_LongNet_boundByWeighing_15 : decode prog_4_method_10_code 15 = .ok (.iaload, 1) := by decide +kernel
theorem dk_LongNet_boundByWeighing_16 : decode prog_4_method_10_code 16 = .ok (.iload 4, 2) := by decide +kernel
theorem dk_LongNet_boundByWeighing_18 : decode prog_4_method_10_code 18 = .ok (.invokevirtual 66, 3) := by decide +kernel
theorem dk_LongNet_boundByWeighing_21 : decode prog_4_method_10_code 21 = .ok (.iload 4, 2) := by decide +kernel
theorem dk_LongNet_boundByWeighing_23 : decode prog_4_method_10_code 23 = .ok (.invokevirtual 93, 3) := by decide +kernel
theorem dk_LongNet_boundByWeighing_26 : decode prog_4_method_10_code 26 = .ok (.istore 5, 2) := by decide +kernel
theorem dk_LongNet_boundByWeighing_28 : decode prog_4_method_10_code 28 = .ok (.aload_n 0, 1) := by decide +kernel
theorem dk_LongNet_boundByWeighing_29 : decode prog_4_method_10_code 29 = .ok (.aload_n 0, 1) := by decide +kernel
theorem dk_LongNet_boundByWeighing_30 : decode prog_4_method_10_code 30 = .ok (.aload_n 1, 1) := by decide +kernel
theorem dk_LongNet_boundByWeighing_31 : decode prog_4_method_10_code 31 = .ok (.getfield 74, 3) := by decide +kernel
theorem dk_LongNet_boundByWeighing_34 : decode prog_4_method_10_code 34 = .ok (.iload_n 2, 1) := by decide +kernel
theorem dk_LongNet_boundByWeighing_35 : decode prog_4_method_10_code 35 = .ok (.iaload, 1) := by decide +kernel
theorem dk_LongNet_boundByWeighing_36 : decode prog_4_method_10_code 36 = .ok (.iload 4, 2) := by decide +kernel
theorem dk_LongNet_boundByWeighing_38 : decode prog_4_method_10_code 38 = .ok (.invokevirtual 66, 3) := by decide +kernel
theorem dk_LongNet_boundByWeighing_41 : decode prog_4_method_10_code 41 = .ok (.iload 4, 2) := by decide +kernel
theorem dk_LongNet_boundByWeighing_43 : decode prog_4_method_10_code 43 = .ok (.invokevirtual 93, 3) := by decide +kernel
theorem dk_LongNet_boundByWeighing_46 : decode prog_4_method_10_code 46 = .ok (.istore 6, 2) := by decide +kernel
theorem dk_LongNet_boundByWeighing_48 : decode prog_4_method_10_code 48 = .ok (.aload_n 3, 1) := by decide +kernel
theorem dk_LongNet_boundByWeighing_49 : decode prog_4_method_10_code 49 = .ok (.iload 5, 2) := by decide +kernel
theorem dk_LongNet_boundByWeighing_51 : decode prog_4_method_10_code 51 = .ok (.iload 6, 2) := by decide +kernel
theorem dk_LongNet_boundByWeighing_53 : decode prog_4_method_10_code 53 = .ok (.aload_n 1, 1) := by decide +kernel
theorem dk_LongNet_boundByWeighing_54 : decode prog_4_method_10_code 54 = .ok (.iload_n 2, 1) := by decide +kernel
theorem dk_LongNet_boundByWeighing_55 : decode prog_4_method_10_code 55 = .ok (.invokevirtual 96, 3) := by decide +kernel
theorem dk_LongNet_boundByWeighing_58 : decode prog_4_method_10_code 58 = .ok (.aload_n 1, 1) := by decide +kernel
theorem dk_LongNet_boundByWeighing_59 : decode prog_4_method_10_code 59 = .ok (.iload_n 2, 1) := by decide +kernel
theorem dk_LongNet_boundByWeighing_60 : decode prog_4_method_10_code 60 = .ok (.invokevirtual 99, 3) := by decide +kernel
theorem dk_LongNet_boundByWeighing_63 : decode prog_4_method_10_code 63 = .ok (.invokevirtual 102, 3) := by decide +kernel
theorem dk_LongNet_boundByWeighing_66 : decode prog_4_method_10_code 66 = .ok (.return_, 1) := by decide +kernel
noncomputable def fx_LongNet_boundByWeighing (p2 : Int32) (c : (Nat → Nat → Int32)) : Option (Nat → Nat → Int32) :=
  kv_gd (kv_in p2 20) (
  kv_let (c 11 p2.toNatClampNeg) (fun v2 =>
  kv_bind1 (fx_LongNet_meant (c 12 p2.toNatClampNeg) v2 c) (fun v3 =>
  kv_bind1 (fx_LongNet_knotAt v3 v2 c) (fun v4 =>
  kv_bind1 (fx_LongNet_meant (c 13 p2.toNatClampNeg) v2 c) (fun v5 =>
  kv_bind1 (fx_LongNet_knotAt v5 v2 c) (fun v6 =>
  kv_bind1 (fx_Weighings_least p2 c) (fun v7 =>
  kv_bind1 (fx_Weighings_greatest p2 c) (fun v8 =>
  kv_bind1 (fx_Net_bound v4 v6 v7 v8 c) (fun c9 =>
  some c9)))))))))
set_option maxRecDepth 20000 in
theorem cx_LongNet_boundByWeighing (d : Nat) (p2 : Int32) (c : (Nat → Nat → Int32)) (y : (Nat → Nat → Int32) × (Nat → Int64) × (Nat → Int64)) : ∀ a, fx_LongNet_boundByWeighing p2 c = some a → kv_C kM_LongNet_boundByWeighing (d + 3) [.ref 73, .ref 10, .int p2, .ref 68] (c, y) (none, (a, y)) := by
  refine kv_entryX (E := fun a : (Nat → Nat → Int32) => (none, (a, y))) rfl (Nat.le_of_ble_eq_true rfl) (fun o => ?_)
  unfold fx_LongNet_boundByWeighing
  show kv_X _ _ _ _ _ 0 [(0, .ref 73), (1, .ref 10), (2, .int p2), (3, .ref 68)] [] (c, y)
  refine kv_aload_n (pc := 0) 1 rfl rfl dk_LongNet_boundByWeighing_0 ?_
  refine kv_getR (pc := 1) kf_LongNet_60 kr_10 rfl kt_10_0 dk_LongNet_boundByWeighing_1 ?_
  refine kv_iload_n (pc := 4) 2 rfl rfl dk_LongNet_boundByWeighing_4 ?_
  refine kv_guard (fun g1 => ?_)
  refine kv_aldC (pc := 5) kr_11 kn_11 kl_11 g1 rfl dk_LongNet_boundByWeighing_5 ?_
  refine kv_letI (fun v2 => ?_)
  refine kv_istore (pc := 6) (lv' := [(4, .int v2), (0, .ref 73), (1, .ref 10), (2, .int p2), (3, .ref 68)]) rfl (Nat.le_of_ble_eq_true rfl) dk_LongNet_boundByWeighing_6 ?_
  refine kv_aload_n (pc := 8) 1 rfl rfl dk_LongNet_boundByWeighing_8 ?_
  refine kv_aload_n (pc := 9) 1 rfl rfl dk_LongNet_boundByWeighing_9 ?_
  refine kv_aload_n (pc := 10) 2 rfl rfl dk_LongNet_boundByWeighing_10 ?_
  refine kv_getR (pc := 11) kf_LongNet_63 kr_10 rfl kt_10_1 dk_LongNet_boundByWeighing_11 ?_
  refine kv_iload_n (pc := 14) 3 rfl rfl dk_LongNet_boundByWeighing_14 ?_
  refine kv_aldC (pc := 15) kr_12 kn_12 kl_12 g1 rfl dk_LongNet_boundByWeighing_15 ?_
  refine kv_iload (pc := 16) 0 rfl dk_LongNet_boundByWeighing_16 ?_
  refine kv_cV_cI (pc := 18) (as := [.int (c 12 p2.toNatClampNeg), .int v2]) (st := [.ref 73]) ko_LongNet_meant kc_2 rfl rfl kr_73 kw_761 (Nat.le_of_ble_eq_true rfl) rfl dk_LongNet_boundByWeighing_18 (cx_LongNet_meant (d + 2) (c 12 p2.toNatClampNeg) v2 c y) (fun v3 => ?_)
  refine kv_iload (pc := 21) 0 rfl dk_LongNet_boundByWeighing_21 ?_
  refine kv_cV_cI (pc := 23) (as := [.int v3, .int v2]) (st := []) ko_LongNet_knotAt kc_2 rfl rfl kr_73 kw_771 (Nat.le_of_ble_eq_true rfl) rfl dk_LongNet_boundByWeighing_23 (cx_LongNet_knotAt (d + 1) v3 v2 c y) (fun v4 => ?_)
  refine kv_istore (pc := 26) (lv' := [(5, .int v4), (4, .int v2), (0, .ref 73), (1, .ref 10), (2, .int p2), (3, .ref 68)]) rfl (Nat.le_of_ble_eq_true rfl) dk_LongNet_boundByWeighing_26 ?_
  refine kv_aload_n (pc := 28) 2 rfl rfl dk_LongNet_boundByWeighing_28 ?_
  refine kv_aload_n (pc := 29) 2 rfl rfl dk_LongNet_boundByWeighing_29 ?_
  refine kv_aload_n (pc := 30) 3 rfl rfl dk_LongNet_boundByWeighing_30 ?_
  refine kv_getR (pc := 31) kf_LongNet_74 kr_10 rfl kt_10_2 dk_LongNet_boundByWeighing_31 ?_
  refine kv_iload_n (pc := 34) 4 rfl rfl dk_LongNet_boundByWeighing_34 ?_
  refine kv_aldC (pc := 35) kr_13 kn_13 kl_13 g1 rfl dk_LongNet_boundByWeighing_35 ?_
  refine kv_iload (pc := 36) 1 rfl dk_LongNet_boundByWeighing_36 ?_
  refine kv_cV_cI (pc := 38) (as := [.int (c 13 p2.toNatClampNeg), .int v2]) (st := [.ref 73]) ko_LongNet_meant kc_2 rfl rfl kr_73 kw_761 (Nat.le_of_ble_eq_true rfl) rfl dk_LongNet_boundByWeighing_38 (cx_LongNet_meant (d + 2) (c 13 p2.toNatClampNeg) v2 c y) (fun v5 => ?_)
  refine kv_iload (pc := 41) 1 rfl dk_LongNet_boundByWeighing_41 ?_
  refine kv_cV_cI (pc := 43) (as := [.int v5, .int v2]) (st := []) ko_LongNet_knotAt kc_2 rfl rfl kr_73 kw_771 (Nat.le_of_ble_eq_true rfl) rfl dk_LongNet_boundByWeighing_43 (cx_LongNet_knotAt (d + 1) v5 v2 c y) (fun v6 => ?_)
  refine kv_istore (pc := 46) (lv' := [(6, .int v6), (5, .int v4), (4, .int v2), (0, .ref 73), (1, .ref 10), (2, .int p2), (3, .ref 68)]) rfl (Nat.le_of_ble_eq_true rfl) dk_LongNet_boundByWeighing_46 ?_
  refine kv_aload_n (pc := 48) 6 rfl rfl dk_LongNet_boundByWeighing_48 ?_
  refine kv_iload (pc := 49) 1 rfl dk_LongNet_boundByWeighing_49 ?_
  refine kv_iload (pc := 51) 0 rfl dk_LongNet_boundByWeighing_51 ?_
  refine kv_aload_n (pc := 53) 4 rfl rfl dk_LongNet_boundByWeighing_53 ?_
  refine kv_iload_n (pc := 54) 5 rfl rfl dk_LongNet_boundByWeighing_54 ?_
  refine kv_cV_cI (pc := 55) (as := [.int p2]) (st := [.int v6, .int v4, .ref 68]) ko_Weighings_least kc_9 rfl rfl kr_10 kw_775 (Nat.le_of_ble_eq_true rfl) rfl dk_LongNet_boundByWeighing_55 (cx_Weighings_least (d + 2) p2 c y) (fun v7 => ?_)
  refine kv_aload_n (pc := 58) 4 rfl rfl dk_LongNet_boundByWeighing_58 ?_
  refine kv_iload_n (pc := 59) 5 rfl rfl dk_LongNet_boundByWeighing_59 ?_
  refine kv_cV_cI (pc := 60) (as := [.int p2]) (st := [.int v7, .int v6, .int v4, .ref 68]) ko_Weighings_greatest kc_9 rfl rfl kr_10 kw_776 (Nat.le_of_ble_eq_true rfl) rfl dk_LongNet_boundByWeighing_60 (cx_Weighings_greatest (d + 2) p2 c y) (fun v8 => ?_)
  refine kv_cV_cc (pc := 63) (as := [.int v4, .int v6, .int v7, .int v8]) (st := []) ko_Net_bound kc_4 rfl rfl kr_68 kw_777 (Nat.le_of_ble_eq_true rfl) rfl dk_LongNet_boundByWeighing_63 (cx_Net_bound d v4 v6 v7 v8 c y) (fun c9 => ?_)
  exact kv_vret (pc := 66) (fun h => h) rfl dk_LongNet_boundByWeighing_66
theorem dk_LongNet_boundByGrowth_0 : decode prog_4_method_11_code 0 = .ok (.iconst 0, 1) := by decide +kernel
theorem dk_LongNet_boundByGrowth_1 : decode prog_4_method_11_code 1 = .ok (.istore_n 3, 1) := by decide +kernel
theorem dk_LongNet_boundByGrowth_2 : decode prog_4_method_11_code 2 = .ok (.iload_n 3, 1) := by decide +kernel
theorem dk_LongNet_boundByGrowth_3 : decode prog_4_method_11_code 3 = .ok (.iconst 1, 1) := by decide +kernel
theorem dk_LongNet_boundByGrowth_4 : decode prog_4_method_11_code 4 = .ok (.iadd, 1) := by decide +kernel
theorem dk_LongNet_boundByGrowth_5 : decode prog_4_method_11_code 5 = .ok (.aload_n 0, 1) := by decide +kernel
theorem dk_LongNet_boundByGrowth_6 : decode prog_4_method_11_code 6 = .ok (.getfield 17, 3) := by decide +kernel
theorem dk_LongNet_boundByGrowth_9 : decode prog_4_method_11_code 9 = .ok (.if_icmp .ge 125, 3) := by decide +kernel
theorem dk_LongNet_boundByGrowth_12 : decode prog_4_method_11_code 12 = .ok (.aload_n 0, 1) := by decide +kernel
theorem dk_LongNet_boundByGrowth_13 : decode prog_4_method_11_code 13 = .ok (.getfield 11, 3) := by decide +kernel
theorem dk_LongNet_boundByGrowth_16 : decode prog_4_method_11_code 16 = .ok (.iload_n 3, 1) := by decide +kernel
theorem dk_LongNet_boundByGrowth_17 : decode prog_4_method_11_code 17 = .ok (.iaload, 1) := by decide +kernel
theorem dk_LongNet_boundByGrowth_18 : decode prog_4_method_11_code 18 = .ok (.sipush 141, 3) := by decide +kernel
theorem dk_LongNet_boundByGrowth_21 : decode prog_4_method_11_code 21 = .ok (.idiv, 1) := by decide +kernel
theorem dk_LongNet_boundByGrowth_22 : decode prog_4_method_11_code 22 = .ok (.istore 4, 2) := by decide +kernel
theorem dk_LongNet_boundByGrowth_24 : decode prog_4_method_11_code 24 = .ok (.aload_n 0, 1) := by decide +kernel
theorem dk_LongNet_boundByGrowth_25 : decode prog_4_method_11_code 25 = .ok (.getfield 11, 3) := by decide +kernel
theorem dk_LongNet_boundByGrowth_28 : decode prog_4_method_11_code 28 = .ok (.iload_n 3, 1) := by decide +kernel
theorem dk_LongNet_boundByGrowth_29 : decode prog_4_method_11_code 29 = .ok (.iconst 1, 1) := by decide +kernel
theorem dk_LongNet_boundByGrowth_30 : decode prog_4_method_11_code 30 = .ok (.iadd, 1) := by decide +kernel
theorem dk_LongNet_boundByGrowth_31 : decode prog_4_method_11_code 31 = .ok (.iaload, 1) := by decide +kernel
theorem dk_LongNet_boundByGrowth_32 : decode prog_4_method_11_code 32 = .ok (.sipush 141, 3) := by decide +kernel
theorem dk_LongNet_boundByGrowth_35 : decode prog_4_method_11_code 35 = .ok (.idiv, 1) := by decide +kernel
theorem dk_LongNet_boundByGrowth_36 : decode prog_4_method_11_code 36 = .ok (.iload 4, 2) := by decide +kernel
theorem dk_LongNet_boundByGrowth_38 : decode prog_4_method_11_code 38 = .ok (.if_icmp .ne 90, 3) := by decide +kernel
theorem dk_LongNet_boundByGrowth_41 : decode prog_4_method_11_code 41 = .ok (.aload_n 0, 1) := by decide +kernel
theorem dk_LongNet_boundByGrowth_42 : decode prog_4_method_11_code 42 = .ok (.getfield 11, 3) := by decide +kernel
theorem dk_LongNet_boundByGrowth_45 : decode prog_4_method_11_code 45 = .ok (.iload_n 3, 1) := by decide +kernel
theorem dk_LongNet_boundByGrowth_46 : decode prog_4_method_11_code 46 = .ok (.iconst 1, 1) := by decide +kernel
theorem dk_LongNet_boundByGrowth_47 : decode prog_4_method_11_code 47 = .ok (.iadd, 1) := by decide +kernel
theorem dk_LongNet_boundByGrowth_48 : decode prog_4_method_11_code 48 = .ok (.iaload, 1) := by decide +kernel
theorem dk_LongNet_boundByGrowth_49 : decode prog_4_method_11_code 49 = .ok (.aload_n 0, 1) := by decide +kernel
theorem dk_LongNet_boundByGrowth_50 : decode prog_4_method_11_code 50 = .ok (.getfield 11, 3) := by decide +kernel
theorem dk_LongNet_boundByGrowth_53 : decode prog_4_method_11_code 53 = .ok (.iload_n 3, 1) := by decide +kernel
theorem dk_LongNet_boundByGrowth_54 : decode prog_4_method_11_code 54 = .ok (.iaload, 1) := by decide +kernel
theorem dk_LongNet_boundByGrowth_55 : decode prog_4_method_11_code 55 = .ok (.isub, 1) := by decide +kernel
theorem dk_LongNet_boundByGrowth_56 : decode prog_4_method_11_code 56 = .ok (.istore 5, 2) := by decide +kernel
theorem dk_LongNet_boundByGrowth_58 : decode prog_4_method_11_code 58 = .ok (.aload_n 1, 1) := by decide +kernel
theorem dk_LongNet_boundByGrowth_59 : decode prog_4_method_11_code 59 = .ok (.getfield 106, 3) := by decide +kernel
theorem dk_LongNet_boundByGrowth_62 : decode prog_4_method_11_code 62 = .ok (.getfield 110, 3) := by decide +kernel
theorem dk_LongNet_boundByGrowth_65 : decode prog_4_method_11_code 65 = .ok (.iload 4, 2) := by decide +kernel
theorem dk_LongNet_boundByGrowth_67 : decode prog_4_method_11_code 67 = .ok (.iaload, 1) := by decide +kernel
theorem dk_LongNet_boundByGrowth_68 : decode prog_4_method_11_code 68 = .ok (.bipush 7, 2) := by decide +kernel
theorem dk_LongNet_boundByGrowth_70 : decode prog_4_method_11_code 70 = .ok (.if_icmp .ne 7, 3) := by decide +kernel
theorem dk_LongNet_boundByGrowth_73 : decode prog_4_method_11_code 73 = .ok (.iconst 1, 1) := by decide +kernel
theorem dk_LongNet_boundByGrowth_74 : decode prog_4_method_11_code 74 = .ok (.goto 4, 3) := by decide +kernel
theorem dk_LongNet_boundByGrowth_77 : decode prog_4_method_11_code 77 = .ok (.iconst 0, 1) := by decide +kernel
theorem dk_LongNet_boundByGrowth_78 : decode prog_4_method_11_code 78 = .ok (.istore 6, 2) := by decide +kernel
theorem dk_LongNet_boundByGrowth_80 : decode prog_4_method_11_code 80 = .ok (.iload 6, 2) := by decide +kernel
theorem dk_LongNet_boundByGrowth_82 : decode prog_4_method_11_code 82 = .ok (.ifCond .eq 7, 3) := by decide +kernel
theorem dk_LongNet_boundByGrowth_85 : decode prog_4_method_11_code 85 = .ok (.iconst 0, 1) := by decide +kernel
theorem dk_LongNet_boundByGrowth_86 : decode prog_4_method_11_code 86 = .ok (.goto 10, 3) := by decide +kernel
theorem dk_LongNet_boundByGrowth_89 : decode prog_4_method_11_code 89 = .ok (.aload_n 1, 1) := by decide +kernel
theorem dk_LongNet_boundByGrowth_90 : decode prog_4_method_11_code 90 = .ok (.getfield 115, 3) := by decide +kernel
theorem dk_LongNet_boundByGrowth_93 : decode prog_4_method_11_code 93 = .ok (.iload 5, 2) := by decide +kernel
theorem dk_LongNet_boundByGrowth_95 : decode prog_4_method_11_code 95 = .ok (.imul, 1) := by decide +kernel
theorem dk_LongNet_boundByGrowth_96 : decode prog_4_method_11_code 96 = .ok (.istore 7, 2) := by decide +kernel
theorem dk_LongNet_boundByGrowth_98 : decode prog_4_method_11_code 98 = .ok (.iload 6, 2) := by decide +kernel
theorem dk_LongNet_boundByGrowth_100 : decode prog_4_method_11_code 100 = .ok (.ifCond .eq 7, 3) := by decide +kernel
theorem dk_LongNet_boundByGrowth_103 : decode prog_4_method_11_code 103 = .ok (.iconst 0, 1) := by decide +kernel
theorem dk_LongNet_boundByGrowth_104 : decode prog_4_method_11_code 104 = .ok (.goto 10, 3) := by decide +kernel
theorem dk_LongNet_boundByGrowth_107 : decode prog_4_method_11_code 107 = .ok (.aload_n 1, 1) := by decide +kernel
theorem dk_LongNet_boundByGrowth_108 : decode prog_4_method_11_code 108 = .ok (.getfield 118, 3) := by decide +kernel
theorem dk_LongNet_boundByGrowth_111 : decode prog_4_method_11_code 111 = .ok (.iload 5, 2) := by decide +kernel
theorem dk_LongNet_boundByGrowth_113 : decode prog_4_method_11_code 113 = .ok (.imul, 1) := by decide +kernel
theorem dk_LongNet_boundByGrowth_114 : decode prog_4_method_11_code 114 = .ok (.istore 8, 2) := by decide +kernel
theorem dk_LongNet_boundByGrowth_116 : decode prog_4_method_11_code 116 = .ok (.aload_n 2, 1) := by decide +kernel
theorem dk_LongNet_boundByGrowth_117 : decode prog_4_method_11_code 117 = .ok (.iload_n 3, 1) := by decide +kernel
theorem dk_LongNet_boundByGrowth_118 : decode prog_4_method_11_code 118 = .ok (.iconst 1, 1) := by decide +kernel
theorem dk_LongNet_boundByGrowth_119 : decode prog_4_method_11_code 119 = .ok (.iadd, 1) := by decide +kernel
theorem dk_LongNet_boundByGrowth_120 : decode prog_4_method_11_code 120 = .ok (.iload_n 3, 1) := by decide +kernel
theorem dk_LongNet_boundByGrowth_121 : decode prog_4_method_11_code 121 = .ok (.iload 7, 2) := by decide +kernel
theorem dk_LongNet_boundByGrowth_123 : decode prog_4_method_11_code 123 = .ok (.iload 8, 2) := by decide +kernel
theorem dk_LongNet_boundByGrowth_125 : decode prog_4_method_11_code 125 = .ok (.invokevirtual 102, 3) := by decide +kernel
theorem dk_LongNet_boundByGrowth_128 : decode prog_4_method_11_code 128 = .ok (.iinc 3 1, 3) := by decide +kernel
theorem dk_LongNet_boundByGrowth_131 : decode prog_4_method_11_code 131 = .ok (.goto (-129), 3) := by decide +kernel
theorem dk_LongNet_boundByGrowth_134 : decode prog_4_method_11_code 134 = .ok (.return_, 1) := by decide +kernel
noncomputable def fj_LongNet_boundByGrowth_128 (x1 : Int32) (c7 : (Nat → Nat → Int32)) : Option ((Int32 × (Nat → Nat → Int32)) ⊕ (Nat → Nat → Int32)) :=
  some (.inl ((x1 + (1 : Int32)), c7))
noncomputable def fj_LongNet_boundByGrowth_114 (x1 : Int32) (x11 : Int32) (c2 : (Nat → Nat → Int32)) (x12 : Int32) : Option ((Int32 × (Nat → Nat → Int32)) ⊕ (Nat → Nat → Int32)) :=
  kv_bind1 (fx_Net_bound (x1 + (1 : Int32)) x1 x11 x12 c2) (fun c13 =>
  fj_LongNet_boundByGrowth_128 x1 c13)
noncomputable def fj_LongNet_boundByGrowth_96 (x10 : Int32) (x1 : Int32) (c2 : (Nat → Nat → Int32)) (v8 : Int32) (x11 : Int32) : Option ((Int32 × (Nat → Nat → Int32)) ⊕ (Nat → Nat → Int32)) :=
  if x10 = 0 then
    fj_LongNet_boundByGrowth_114 x1 x11 c2 ((c2 1 8) * v8)
  else
    fj_LongNet_boundByGrowth_114 x1 x11 c2 (0 : Int32)
noncomputable def fj_LongNet_boundByGrowth_78 (x1 : Int32) (c2 : (Nat → Nat → Int32)) (v8 : Int32) (x10 : Int32) : Option ((Int32 × (Nat → Nat → Int32)) ⊕ (Nat → Nat → Int32)) :=
  if x10 = 0 then
    fj_LongNet_boundByGrowth_96 x10 x1 c2 v8 ((c2 1 7) * v8)
  else
    fj_LongNet_boundByGrowth_96 x10 x1 c2 v8 (0 : Int32)
noncomputable def fb_LongNet_boundByGrowth_2 (x1 : Int32) (c2 : (Nat → Nat → Int32)) : Option ((Int32 × (Nat → Nat → Int32)) ⊕ (Nat → Nat → Int32)) :=
  if (c2 73 1) ≤ (x1 + (1 : Int32)) then
    some (.inr c2)
  else
    kv_gd (kv_in x1 42) (
    kv_let ((c2 74 x1.toNatClampNeg) / (141 : Int32)) (fun v5 =>
    kv_gd (kv_in (x1 + (1 : Int32)) 42) (
    if ((c2 74 (x1 + (1 : Int32)).toNatClampNeg) / (141 : Int32)) = v5 then
      kv_let ((c2 74 (x1 + (1 : Int32)).toNatClampNeg) - (c2 74 x1.toNatClampNeg)) (fun v8 =>
      kv_gd (kv_in v5 10) (
      if (c2 3 v5.toNatClampNeg) = (7 : Int32) then
        fj_LongNet_boundByGrowth_78 x1 c2 v8 (1 : Int32)
      else
        fj_LongNet_boundByGrowth_78 x1 c2 v8 (0 : Int32)))
    else
      fj_LongNet_boundByGrowth_128 x1 c2)))
noncomputable def fx_LongNet_boundByGrowth (c : (Nat → Nat → Int32)) : Option (Nat → Nat → Int32) :=
  (kv_loop (kv_u2 (fb_LongNet_boundByGrowth_2)) ((0 : Int32), c)).bind (kv_u1 (fun c3 =>
  some c3))
set_option maxRecDepth 20000 in
theorem cx_LongNet_boundByGrowth (d : Nat) (c : (Nat → Nat → Int32)) (y : (Nat → Nat → Int32) × (Nat → Int64) × (Nat → Int64)) : ∀ a, fx_LongNet_boundByGrowth c = some a → kv_C kM_LongNet_boundByGrowth (d + 3) [.ref 73, .ref 1, .ref 68] (c, y) (none, (a, y)) := by
  refine kv_entryX (E := fun a : (Nat → Nat → Int32) => (none, (a, y))) rfl (Nat.le_of_ble_eq_true rfl) (fun o => ?_)
  unfold fx_LongNet_boundByGrowth
  show kv_X _ _ _ _ _ 0 [(0, .ref 73), (1, .ref 1), (2, .ref 68)] [] (c, y)
  refine kv_iconst (pc := 0) (v := (0 : Int32)) dk_LongNet_boundByGrowth_0 kki_0 ?_
  refine kv_istore_n (pc := 1) (lv' := [(3, .int (0 : Int32)), (0, .ref 73), (1, .ref 1), (2, .ref 68)]) rfl (Nat.le_of_ble_eq_true rfl) rfl dk_LongNet_boundByGrowth_1 ?_
  refine kv_sub (lv' := [(0, .ref 73), (1, .ref 1), (2, .ref 68), (3, .int (0 : Int32))]) [1, 2, 3, 0] rfl ?_
  refine kv_lp_2_1 (LV := fun x1 c2 => [(0, .ref 73), (1, .ref 1), (2, .ref 68), (3, .int x1)]) (WW := fun x1 c2 => (c2, y)) (LE1 := fun c3 => []) (WE1 := fun c3 => (c3, y)) (pe1 := 134) ?_ ?_
  · intro c3
    show kv_X _ _ _ _ _ 134 [] [] (c3, y)
    exact kv_vret (pc := 134) (fun h => h) rfl dk_LongNet_boundByGrowth_134
  · intro hx2_0 x1 c2
    show kv_X _ _ _ _ (fb_LongNet_boundByGrowth_2 x1 c2) 2 [(0, .ref 73), (1, .ref 1), (2, .ref 68), (3, .int x1)] [] (c2, y)
    unfold fb_LongNet_boundByGrowth_2
    refine kv_iload_n (pc := 2) 3 rfl rfl dk_LongNet_boundByGrowth_2 ?_
    refine kv_iconst (pc := 3) (v := (1 : Int32)) dk_LongNet_boundByGrowth_3 kki_1 ?_
    refine kv_iadd (pc := 4) dk_LongNet_boundByGrowth_4 ?_
    refine kv_aload_n (pc := 5) 0 rfl rfl dk_LongNet_boundByGrowth_5 ?_
    refine kv_getC (pc := 6) kf_LongNet_17 kr_73 kn_73 rfl dk_LongNet_boundByGrowth_6 ?_
    refine kv_icmp_ge (pc := 9) (tgt := 134) dk_LongNet_boundByGrowth_9 rfl ?_ ?_
    · exact kv_sub [] rfl (kv_leaf (hx2_0 _))
    · refine kv_aload_n (pc := 12) 0 rfl rfl dk_LongNet_boundByGrowth_12 ?_
      refine kv_getR (pc := 13) kf_LongNet_11 kr_73 rfl kt_73_0 dk_LongNet_boundByGrowth_13 ?_
      refine kv_iload_n (pc := 16) 3 rfl rfl dk_LongNet_boundByGrowth_16 ?_
      refine kv_guard (fun g4 => ?_)
      refine kv_aldC (pc := 17) kr_74 kn_74 kl_74 g4 rfl dk_LongNet_boundByGrowth_17 ?_
      refine kv_sipush (pc := 18) (v := (141 : Int32)) dk_LongNet_boundByGrowth_18 kks_141 ?_
      refine kv_idiv (pc := 21) dk_LongNet_boundByGrowth_21 kkn_141 ?_
      refine kv_letI (fun v5 => ?_)
      refine kv_istore (pc := 22) (lv' := [(4, .int v5), (0, .ref 73), (1, .ref 1), (2, .ref 68), (3, .int x1)]) rfl (Nat.le_of_ble_eq_true rfl) dk_LongNet_boundByGrowth_22 ?_
      refine kv_aload_n (pc := 24) 1 rfl rfl dk_LongNet_boundByGrowth_24 ?_
      refine kv_getR (pc := 25) kf_LongNet_11 kr_73 rfl kt_73_0 dk_LongNet_boundByGrowth_25 ?_
      refine kv_iload_n (pc := 28) 4 rfl rfl dk_LongNet_boundByGrowth_28 ?_
      refine kv_iconst (pc := 29) (v := (1 : Int32)) dk_LongNet_boundByGrowth_29 kki_1 ?_
      refine kv_iadd (pc := 30) dk_LongNet_boundByGrowth_30 ?_
      refine kv_guard (fun g6 => ?_)
      refine kv_aldC (pc := 31) kr_74 kn_74 kl_74 g6 rfl dk_LongNet_boundByGrowth_31 ?_
      refine kv_sipush (pc := 32) (v := (141 : Int32)) dk_LongNet_boundByGrowth_32 kks_141 ?_
      refine kv_idiv (pc := 35) dk_LongNet_boundByGrowth_35 kkn_141 ?_
      refine kv_iload (pc := 36) 0 rfl dk_LongNet_boundByGrowth_36 ?_
      refine kv_cut_1 (J := fj_LongNet_boundByGrowth_128 x1) (pcj := 128) (LJ := fun c7 => [(0, .ref 73), (1, .ref 1), (2, .ref 68), (3, .int x1)]) (SJ := fun c7 => []) (WJ := fun c7 => (c7, y)) ?_ (fun hj128 => ?_)
      · intro c7
        show kv_X _ _ _ _ (fj_LongNet_boundByGrowth_128 x1 c7) 128 [(0, .ref 73), (1, .ref 1), (2, .ref 68), (3, .int x1)] [] (c7, y)
        unfold fj_LongNet_boundByGrowth_128
        refine kv_iinc (pc := 128) (kk := (1 : Int32)) (lv' := [(3, .int (x1 + (1 : Int32))), (0, .ref 73), (1, .ref 1), (2, .ref 68)]) 3 rfl kki_1 rfl (Nat.le_of_ble_eq_true rfl) dk_LongNet_boundByGrowth_128 ?_
        refine kv_goto (pc := 131) (tgt := 2) dk_LongNet_boundByGrowth_131 rfl ?_
        exact kv_sub [1, 2, 3, 0] rfl (kv_leaf (fun h => h))
      refine kv_icmp_ne (pc := 38) (tgt := 128) dk_LongNet_boundByGrowth_38 rfl ?_ ?_
      · exact kv_sub [1, 2, 3, 4] rfl (hj128 c2)
      · refine kv_aload_n (pc := 41) 1 rfl rfl dk_LongNet_boundByGrowth_41 ?_
        refine kv_getR (pc := 42) kf_LongNet_11 kr_73 rfl kt_73_0 dk_LongNet_boundByGrowth_42 ?_
        refine kv_iload_n (pc := 45) 4 rfl rfl dk_LongNet_boundByGrowth_45 ?_
        refine kv_iconst (pc := 46) (v := (1 : Int32)) dk_LongNet_boundByGrowth_46 kki_1 ?_
        refine kv_iadd (pc := 47) dk_LongNet_boundByGrowth_47 ?_
        refine kv_aldC (pc := 48) kr_74 kn_74 kl_74 g6 rfl dk_LongNet_boundByGrowth_48 ?_
        refine kv_aload_n (pc := 49) 1 rfl rfl dk_LongNet_boundByGrowth_49 ?_
        refine kv_getR (pc := 50) kf_LongNet_11 kr_73 rfl kt_73_0 dk_LongNet_boundByGrowth_50 ?_
        refine kv_iload_n (pc := 53) 4 rfl rfl dk_LongNet_boundByGrowth_53 ?_
        refine kv_aldC (pc := 54) kr_74 kn_74 kl_74 g4 rfl dk_LongNet_boundByGrowth_54 ?_
        refine kv_isub (pc := 55) dk_LongNet_boundByGrowth_55 ?_
        refine kv_letI (fun v8 => ?_)
        refine kv_istore (pc := 56) (lv' := [(5, .int v8), (4, .int v5), (0, .ref 73), (1, .ref 1), (2, .ref 68), (3, .int x1)]) rfl (Nat.le_of_ble_eq_true rfl) dk_LongNet_boundByGrowth_56 ?_
        refine kv_aload_n (pc := 58) 3 rfl rfl dk_LongNet_boundByGrowth_58 ?_
        refine kv_getR (pc := 59) kf_LongNet_106 kr_1 rfl kt_1_0 dk_LongNet_boundByGrowth_59 ?_
        refine kv_getR (pc := 62) kf_LongNet_110 kr_2 rfl kt_2_0 dk_LongNet_boundByGrowth_62 ?_
        refine kv_iload (pc := 65) 1 rfl dk_LongNet_boundByGrowth_65 ?_
        refine kv_guard (fun g9 => ?_)
        refine kv_aldC (pc := 67) kr_3 kn_3 kl_3 g9 rfl dk_LongNet_boundByGrowth_67 ?_
        refine kv_bipush (pc := 68) (v := (7 : Int32)) dk_LongNet_boundByGrowth_68 kkb_7 ?_
        refine kv_cut_1 (J := fj_LongNet_boundByGrowth_78 x1 c2 v8) (pcj := 78) (LJ := fun x10 => [(0, .ref 73), (1, .ref 1), (2, .ref 68), (3, .int x1), (5, .int v8)]) (SJ := fun x10 => [.int x10]) (WJ := fun x10 => (c2, y)) ?_ (fun hj78 => ?_)
        · intro x10
          show kv_X _ _ _ _ (fj_LongNet_boundByGrowth_78 x1 c2 v8 x10) 78 [(0, .ref 73), (1, .ref 1), (2, .ref 68), (3, .int x1), (5, .int v8)] [.int x10] (c2, y)
          unfold fj_LongNet_boundByGrowth_78
          refine kv_istore (pc := 78) (lv' := [(6, .int x10), (0, .ref 73), (1, .ref 1), (2, .ref 68), (3, .int x1), (5, .int v8)]) rfl (Nat.le_of_ble_eq_true rfl) dk_LongNet_boundByGrowth_78 ?_
          refine kv_iload (pc := 80) 0 rfl dk_LongNet_boundByGrowth_80 ?_
          refine kv_cut_1 (J := fj_LongNet_boundByGrowth_96 x10 x1 c2 v8) (pcj := 96) (LJ := fun x11 => [(0, .ref 73), (1, .ref 1), (2, .ref 68), (3, .int x1), (5, .int v8), (6, .int x10)]) (SJ := fun x11 => [.int x11]) (WJ := fun x11 => (c2, y)) ?_ (fun hj96 => ?_)
          · intro x11
            show kv_X _ _ _ _ (fj_LongNet_boundByGrowth_96 x10 x1 c2 v8 x11) 96 [(0, .ref 73), (1, .ref 1), (2, .ref 68), (3, .int x1), (5, .int v8), (6, .int x10)] [.int x11] (c2, y)
            unfold fj_LongNet_boundByGrowth_96
            refine kv_istore (pc := 96) (lv' := [(7, .int x11), (0, .ref 73), (1, .ref 1), (2, .ref 68), (3, .int x1), (5, .int v8), (6, .int x10)]) rfl (Nat.le_of_ble_eq_true rfl) dk_LongNet_boundByGrowth_96 ?_
            refine kv_iload (pc := 98) 6 rfl dk_LongNet_boundByGrowth_98 ?_
            refine kv_cut_1 (J := fj_LongNet_boundByGrowth_114 x1 x11 c2) (pcj := 114) (LJ := fun x12 => [(0, .ref 73), (1, .ref 1), (2, .ref 68), (3, .int x1), (7, .int x11)]) (SJ := fun x12 => [.int x12]) (WJ := fun x12 => (c2, y)) ?_ (fun hj114 => ?_)
            · intro x12
              show kv_X _ _ _ _ (fj_LongNet_boundByGrowth_114 x1 x11 c2 x12) 114 [(0, .ref 73), (1, .ref 1), (2, .ref 68), (3, .int x1), (7, .int x11)] [.int x12] (c2, y)
              unfold fj_LongNet_boundByGrowth_114
              refine kv_istore (pc := 114) (lv' := [(8, .int x12), (0, .ref 73), (1, .ref 1), (2, .ref 68), (3, .int x1), (7, .int x11)]) rfl (Nat.le_of_ble_eq_true rfl) dk_LongNet_boundByGrowth_114 ?_
              refine kv_aload_n (pc := 116) 3 rfl rfl dk_LongNet_boundByGrowth_116 ?_
              refine kv_iload_n (pc := 117) 4 rfl rfl dk_LongNet_boundByGrowth_117 ?_
              refine kv_iconst (pc := 118) (v := (1 : Int32)) dk_LongNet_boundByGrowth_118 kki_1 ?_
              refine kv_iadd (pc := 119) dk_LongNet_boundByGrowth_119 ?_
              refine kv_iload_n (pc := 120) 4 rfl rfl dk_LongNet_boundByGrowth_120 ?_
              refine kv_iload (pc := 121) 5 rfl dk_LongNet_boundByGrowth_121 ?_
              refine kv_iload (pc := 123) 0 rfl dk_LongNet_boundByGrowth_123 ?_
              refine kv_cV_cc (pc := 125) (as := [.int (x1 + (1 : Int32)), .int x1, .int x11, .int x12]) (st := []) ko_Net_bound kc_4 rfl rfl kr_68 kw_777 (Nat.le_of_ble_eq_true rfl) rfl dk_LongNet_boundByGrowth_125 (cx_Net_bound d (x1 + (1 : Int32)) x1 x11 x12 c2 y) (fun c13 => ?_)
              exact kv_sub [1, 2, 3, 4] rfl (hj128 c13)
            refine kv_if_eq (pc := 100) (tgt := 107) dk_LongNet_boundByGrowth_100 rfl ?_ ?_
            · refine kv_aload_n (pc := 107) 2 rfl rfl dk_LongNet_boundByGrowth_107 ?_
              refine kv_getC (pc := 108) kf_LongNet_118 kr_1 kn_1 rfl dk_LongNet_boundByGrowth_108 ?_
              refine kv_iload (pc := 111) 5 rfl dk_LongNet_boundByGrowth_111 ?_
              refine kv_imul (pc := 113) dk_LongNet_boundByGrowth_113 ?_
              exact kv_sub [1, 2, 3, 4, 0] rfl (hj114 ((c2 1 8) * v8))
            · refine kv_iconst (pc := 103) (v := (0 : Int32)) dk_LongNet_boundByGrowth_103 kki_0 ?_
              refine kv_goto (pc := 104) (tgt := 114) dk_LongNet_boundByGrowth_104 rfl ?_
              exact kv_sub [1, 2, 3, 4, 0] rfl (hj114 (0 : Int32))
          refine kv_if_eq (pc := 82) (tgt := 89) dk_LongNet_boundByGrowth_82 rfl ?_ ?_
          · refine kv_aload_n (pc := 89) 2 rfl rfl dk_LongNet_boundByGrowth_89 ?_
            refine kv_getC (pc := 90) kf_LongNet_115 kr_1 kn_1 rfl dk_LongNet_boundByGrowth_90 ?_
            refine kv_iload (pc := 93) 5 rfl dk_LongNet_boundByGrowth_93 ?_
            refine kv_imul (pc := 95) dk_LongNet_boundByGrowth_95 ?_
            exact kv_sub [1, 2, 3, 4, 5, 0] rfl (hj96 ((c2 1 7) * v8))
          · refine kv_iconst (pc := 85) (v := (0 : Int32)) dk_LongNet_boundByGrowth_85 kki_0 ?_
            refine kv_goto (pc := 86) (tgt := 96) dk_LongNet_boundByGrowth_86 rfl ?_
            exact kv_sub [1, 2, 3, 4, 5, 0] rfl (hj96 (0 : Int32))
        refine kv_icmp_ne (pc := 70) (tgt := 77) dk_LongNet_boundByGrowth_70 rfl ?_ ?_
        · refine kv_iconst (pc := 77) (v := (0 : Int32)) dk_LongNet_boundByGrowth_77 kki_0 ?_
          exact kv_sub [2, 3, 4, 5, 0] rfl (hj78 (0 : Int32))
        · refine kv_iconst (pc := 73) (v := (1 : Int32)) dk_LongNet_boundByGrowth_73 kki_1 ?_
          refine kv_goto (pc := 74) (tgt := 78) dk_LongNet_boundByGrowth_74 rfl ?_
          exact kv_sub [2, 3, 4, 5, 0] rfl (hj78 (1 : Int32))
theorem dk_LongNet_build_0 : decode prog_4_method_8_code 0 = .ok (.aload_n 1, 1) := by decide +kernel
theorem dk_LongNet_build_1 : decode prog_4_method_8_code 1 = .ok (.getfield 47, 3) := by decide +kernel
theorem dk_LongNet_build_4 : decode prog_4_method_8_code 4 = .ok (.astore_n 3, 1) := by decide +kernel
theorem dk_LongNet_build_5 : decode prog_4_method_8_code 5 = .ok (.iconst 0, 1) := by decide +kernel
theorem dk_LongNet_build_6 : decode prog_4_method_8_code 6 = .ok (.istore 4, 2) := by decide +kernel
theorem dk_LongNet_build_8 : decode prog_4_method_8_code 8 = .ok (.iload 4, 2) := by decide +kernel
theorem dk_LongNet_build_10 : decode prog_4_method_8_code 10 = .ok (.aload_n 3, 1) := by decide +kernel
theorem dk_LongNet_build_11 : decode prog_4_method_8_code 11 = .ok (.getfield 53, 3) := by decide +kernel
theorem dk_LongNet_build_14 : decode prog_4_method_8_code 14 = .ok (.if_icmp .ge 66, 3) := by decide +kernel
theorem dk_LongNet_build_17 : decode prog_4_method_8_code 17 = .ok (.aload_n 0, 1) := by decide +kernel
theorem dk_LongNet_build_18 : decode prog_4_method_8_code 18 = .ok (.aload_n 3, 1) := by decide +kernel
theorem dk_LongNet_build_19 : decode prog_4_method_8_code 19 = .ok (.iload 4, 2) := by decide +kernel
theorem dk_LongNet_build_21 : decode prog_4_method_8_code 21 = .ok (.invokevirtual 56, 3) := by decide +kernel
theorem dk_LongNet_build_24 : decode prog_4_method_8_code 24 = .ok (.ifCond .eq 50, 3) := by decide +kernel
theorem dk_LongNet_build_27 : decode prog_4_method_8_code 27 = .ok (.aload_n 3, 1) := by decide +kernel
theorem dk_LongNet_build_28 : decode prog_4_method_8_code 28 = .ok (.getfield 60, 3) := by decide +kernel
theorem dk_LongNet_build_31 : decode prog_4_method_8_code 31 = .ok (.iload 4, 2) := by decide +kernel
theorem dk_LongNet_build_33 : decode prog_4_method_8_code 33 = .ok (.iaload, 1) := by decide +kernel
theorem dk_LongNet_build_34 : decode prog_4_method_8_code 34 = .ok (.istore 5, 2) := by decide +kernel
theorem dk_LongNet_build_36 : decode prog_4_method_8_code 36 = .ok (.aload_n 0, 1) := by decide +kernel
theorem dk_LongNet_build_37 : decode prog_4_method_8_code 37 = .ok (.aload_n 0, 1) := by decide +kernel
theorem dk_LongNet_build_38 : decode prog_4_method_8_code 38 = .ok (.aload_n 3, 1) := by decide +kernel
theorem dk_LongNet_build_39 : decode prog_4_method_8_code 39 = .ok (.getfield 63, 3) := by decide +kernel
theorem dk_LongNet_build_42 : decode prog_4_method_8_code 42 = .ok (.iload 4, 2) := by decide +kernel
theorem dk_LongNet_build_44 : decode prog_4_method_8_code 44 = .ok (.iaload, 1) := by decide +kernel
theorem dk_LongNet_build_45 : decode prog_4_method_8_code 45 = .ok (.iload 5, 2) := by decide +kernel
theorem dk_LongNet_build_47 : decode prog_4_method_8_code 47 = .ok (.invokevirtual 66, 3) := by decide +kernel
theorem dk_LongNet_build_50 : decode prog_4_method_8_code 50 = .ok (.iload 5, 2) := by decide +kernel
theorem dk_LongNet_build_52 : decode prog_4_method_8_code 52 = .ok (.invokevirtual 70, 3) := by decide +kernel
theorem dk_LongNet_build_55 : decode prog_4_method_8_code 55 = .ok (.aload_n 0, 1) := by decide +kernel
theorem dk_LongNet_build_56 : decode prog_4_method_8_code 56 = .ok (.aload_n 0, 1) := by decide +kernel
theorem dk_LongNet_build_57 : decode prog_4_method_8_code 57 = .ok (.aload_n 3, 1) := by decide +kernel
theorem dk_LongNet_build_58 : decode prog_4_method_8_code 58 = .ok (.getfield 74, 3) := by decide +kernel
theorem dk_LongNet_build_61 : decode prog_4_method_8_code 61 = .ok (.iload 4, 2) := by decide +kernel
theorem dk_LongNet_build_63 : decode prog_4_method_8_code 63 = .ok (.iaload, 1) := by decide +kernel
theorem dk_LongNet_build_64 : decode prog_4_method_8_code 64 = .ok (.iload 5, 2) := by decide +kernel
theorem dk_LongNet_build_66 : decode prog_4_method_8_code 66 = .ok (.invokevirtual 66, 3) := by decide +kernel
theorem dk_LongNet_build_69 : decode prog_4_method_8_code 69 = .ok (.iload 5, 2) := by decide +kernel
theorem dk_LongNet_build_71 : decode prog_4_method_8_code 71 = .ok (.invokevirtual 70, 3) := by decide +kernel
theorem dk_LongNet_build_74 : decode prog_4_method_8_code 74 = .ok (.iinc 4 1, 3) := by decide +kernel
theorem dk_LongNet_build_77 : decode prog_4_method_8_code 77 = .ok (.goto (-69), 3) := by decide +kernel
theorem dk_LongNet_build_80 : decode prog_4_method_8_code 80 = .ok (.aload_n 2, 1) := by decide +kernel
theorem dk_LongNet_build_81 : decode prog_4_method_8_code 81 = .ok (.aload_n 0, 1) := by decide +kernel
theorem dk_LongNet_build_82 : decode prog_4_method_8_code 82 = .ok (.getfield 17, 3) := by decide +kernel
theorem dk_LongNet_build_85 : decode prog_4_method_8_code 85 = .ok (.invokevirtual 77, 3) := by decide +kernel
theorem dk_LongNet_build_88 : decode prog_4_method_8_code 88 = .ok (.iconst 0, 1) := by decide +kernel
theorem dk_LongNet_build_89 : decode prog_4_method_8_code 89 = .ok (.istore 4, 2) := by decide +kernel
theorem dk_LongNet_build_91 : decode prog_4_method_8_code 91 = .ok (.iload 4, 2) := by decide +kernel
theorem dk_LongNet_build_93 : decode prog_4_method_8_code 93 = .ok (.aload_n 3, 1) := by decide +kernel
theorem dk_LongNet_build_94 : decode prog_4_method_8_code 94 = .ok (.getfield 53, 3) := by decide +kernel
theorem dk_LongNet_build_97 : decode prog_4_method_8_code 97 = .ok (.if_icmp .ge 27, 3) := by decide +kernel
theorem dk_LongNet_build_100 : decode prog_4_method_8_code 100 = .ok (.aload_n 0, 1) := by decide +kernel
theorem dk_LongNet_build_101 : decode prog_4_method_8_code 101 = .ok (.aload_n 3, 1) := by decide +kernel
theorem dk_LongNet_build_102 : decode prog_4_method_8_code 102 = .ok (.iload 4, 2) := by decide +kernel
theorem dk_LongNet_build_104 : decode prog_4_method_8_code 104 = .ok (.invokevirtual 56, 3) := by decide +kernel
theorem dk_LongNet_build_107 : decode prog_4_method_8_code 107 = .ok (.ifCond .eq 11, 3) := by decide +kernel
theorem dk_LongNet_build_110 : decode prog_4_method_8_code 110 = .ok (.aload_n 0, 1) := by decide +kernel
theorem dk_LongNet_build_111 : decode prog_4_method_8_code 111 = .ok (.aload_n 3, 1) := by decide +kernel
theorem dk_LongNet_build_112 : decode prog_4_method_8_code 112 = .ok (.iload 4, 2) := by decide +kernel
theorem dk_LongNet_build_114 : decode prog_4_method_8_code 114 = .ok (.aload_n 2, 1) := by decide +kernel
theorem dk_LongNet_build_115 : decode prog_4_method_8_code 115 = .ok (.invokevirtual 81, 3) := by decide +kernel
theorem dk_LongNet_build_118 : decode prog_4_method_8_code 118 = .ok (.iinc 4 1, 3) := by decide +kernel
theorem dk_LongNet_build_121 : decode prog_4_method_8_code 121 = .ok (.goto (-30), 3) := by decide +kernel
theorem dk_LongNet_build_124 : decode prog_4_method_8_code 124 = .ok (.aload_n 0, 1) := by decide +kernel
theorem dk_LongNet_build_125 : decode prog_4_method_8_code 125 = .ok (.aload_n 1, 1) := by decide +kernel
theorem dk_LongNet_build_126 : decode prog_4_method_8_code 126 = .ok (.aload_n 2, 1) := by decide +kernel
theorem dk_LongNet_build_127 : decode prog_4_method_8_code 127 = .ok (.invokevirtual 85, 3) := by decide +kernel
theorem dk_LongNet_build_130 : decode prog_4_method_8_code 130 = .ok (.return_, 1) := by decide +kernel
noncomputable def fj_LongNet_build_74 (x1 : Int32) (c5 : (Nat → Nat → Int32)) : Option ((Int32 × (Nat → Nat → Int32)) ⊕ (Nat → Nat → Int32)) :=
  some (.inl ((x1 + (1 : Int32)), c5))
noncomputable def fb_LongNet_build_8 (x1 : Int32) (c2 : (Nat → Nat → Int32)) : Option ((Int32 × (Nat → Nat → Int32)) ⊕ (Nat → Nat → Int32)) :=
  if (c2 10 7) ≤ x1 then
    some (.inr c2)
  else
    kv_bind1 (fx_LongNet_isSaid x1 c2) (fun b4 =>
    if b4 = true then
      kv_gd (kv_in x1 20) (
      kv_let (c2 11 x1.toNatClampNeg) (fun v7 =>
      kv_bind1 (fx_LongNet_meant (c2 12 x1.toNatClampNeg) v7 c2) (fun v8 =>
      kv_bind1 (fx_LongNet_addKnot v8 v7 c2) (fun c9 =>
      kv_bind1 (fx_LongNet_meant (c9 13 x1.toNatClampNeg) v7 c9) (fun v10 =>
      kv_bind1 (fx_LongNet_addKnot v10 v7 c9) (fun c11 =>
      fj_LongNet_build_74 x1 c11))))))
    else
      fj_LongNet_build_74 x1 c2)
noncomputable def fj_LongNet_build_118 (x13 : Int32) (c17 : (Nat → Nat → Int32)) : Option ((Int32 × (Nat → Nat → Int32)) ⊕ (Nat → Nat → Int32)) :=
  some (.inl ((x13 + (1 : Int32)), c17))
noncomputable def fb_LongNet_build_91 (x13 : Int32) (c14 : (Nat → Nat → Int32)) : Option ((Int32 × (Nat → Nat → Int32)) ⊕ (Nat → Nat → Int32)) :=
  if (c14 10 7) ≤ x13 then
    some (.inr c14)
  else
    kv_bind1 (fx_LongNet_isSaid x13 c14) (fun b16 =>
    if b16 = true then
      kv_bind1 (fx_LongNet_boundByWeighing x13 c14) (fun c18 =>
      fj_LongNet_build_118 x13 c18)
    else
      fj_LongNet_build_118 x13 c14)
noncomputable def fx_LongNet_build (c : (Nat → Nat → Int32)) : Option (Nat → Nat → Int32) :=
  (kv_loop (kv_u2 (fb_LongNet_build_8)) ((0 : Int32), c)).bind (kv_u1 (fun c3 =>
  kv_bind1 (fx_Net_start (c3 73 1) c3) (fun c12 =>
  (kv_loop (kv_u2 (fb_LongNet_build_91)) ((0 : Int32), c12)).bind (kv_u1 (fun c15 =>
  kv_bind1 (fx_LongNet_boundByGrowth c15) (fun c19 =>
  some c19))))))
set_option maxRecDepth 20000 in
theorem cx_LongNet_build (d : Nat) (c : (Nat → Nat → Int32)) (y : (Nat → Nat → Int32) × (Nat → Int64) × (Nat → Int64)) : ∀ a, fx_LongNet_build c = some a → kv_C kM_LongNet_build (d + 4) [.ref 73, .ref 1, .ref 68] (c, y) (none, (a, y)) := by
  refine kv_entryX (E := fun a : (Nat → Nat → Int32) => (none, (a, y))) rfl (Nat.le_of_ble_eq_true rfl) (fun o => ?_)
  unfold fx_LongNet_build
  show kv_X _ _ _ _ _ 0 [(0, .ref 73), (1, .ref 1), (2, .ref 68)] [] (c, y)
  refine kv_aload_n (pc := 0) 1 rfl rfl dk_LongNet_build_0 ?_
  refine kv_getR (pc := 1) kf_LongNet_47 kr_1 rfl kt_1_1 dk_LongNet_build_1 ?_
  refine kv_astore_n (pc := 4) (lv' := [(3, .ref 10), (0, .ref 73), (1, .ref 1), (2, .ref 68)]) rfl (Nat.le_of_ble_eq_true rfl) rfl dk_LongNet_build_4 ?_
  refine kv_iconst (pc := 5) (v := (0 : Int32)) dk_LongNet_build_5 kki_0 ?_
  refine kv_istore (pc := 6) (lv' := [(4, .int (0 : Int32)), (3, .ref 10), (0, .ref 73), (1, .ref 1), (2, .ref 68)]) rfl (Nat.le_of_ble_eq_true rfl) dk_LongNet_build_6 ?_
  refine kv_sub (lv' := [(0, .ref 73), (1, .ref 1), (2, .ref 68), (3, .ref 10), (4, .int (0 : Int32))]) [2, 3, 4, 1, 0] rfl ?_
  refine kv_lp_2_1 (LV := fun x1 c2 => [(0, .ref 73), (1, .ref 1), (2, .ref 68), (3, .ref 10), (4, .int x1)]) (WW := fun x1 c2 => (c2, y)) (LE1 := fun c3 => [(0, .ref 73), (1, .ref 1), (2, .ref 68), (3, .ref 10)]) (WE1 := fun c3 => (c3, y)) (pe1 := 80) ?_ ?_
  · intro c3
    show kv_X _ _ _ _ _ 80 [(0, .ref 73), (1, .ref 1), (2, .ref 68), (3, .ref 10)] [] (c3, y)
    refine kv_aload_n (pc := 80) 2 rfl rfl dk_LongNet_build_80 ?_
    refine kv_aload_n (pc := 81) 0 rfl rfl dk_LongNet_build_81 ?_
    refine kv_getC (pc := 82) kf_LongNet_17 kr_73 kn_73 rfl dk_LongNet_build_82 ?_
    refine kv_cV_cc (pc := 85) (as := [.int (c3 73 1)]) (st := []) ko_Net_start kc_4 rfl rfl kr_68 kw_766 (Nat.le_of_ble_eq_true rfl) rfl dk_LongNet_build_85 (cx_Net_start (d + 3) (c3 73 1) c3 y) (fun c12 => ?_)
    refine kv_iconst (pc := 88) (v := (0 : Int32)) dk_LongNet_build_88 kki_0 ?_
    refine kv_istore (pc := 89) (lv' := [(4, .int (0 : Int32)), (0, .ref 73), (1, .ref 1), (2, .ref 68), (3, .ref 10)]) rfl (Nat.le_of_ble_eq_true rfl) dk_LongNet_build_89 ?_
    refine kv_sub (lv' := [(0, .ref 73), (1, .ref 1), (2, .ref 68), (3, .ref 10), (4, .int (0 : Int32))]) [1, 2, 3, 4, 0] rfl ?_
    refine kv_lp_2_1 (LV := fun x13 c14 => [(0, .ref 73), (1, .ref 1), (2, .ref 68), (3, .ref 10), (4, .int x13)]) (WW := fun x13 c14 => (c14, y)) (LE1 := fun c15 => [(0, .ref 73), (1, .ref 1), (2, .ref 68)]) (WE1 := fun c15 => (c15, y)) (pe1 := 124) ?_ ?_
    · intro c15
      show kv_X _ _ _ _ _ 124 [(0, .ref 73), (1, .ref 1), (2, .ref 68)] [] (c15, y)
      refine kv_aload_n (pc := 124) 0 rfl rfl dk_LongNet_build_124 ?_
      refine kv_aload_n (pc := 125) 1 rfl rfl dk_LongNet_build_125 ?_
      refine kv_aload_n (pc := 126) 2 rfl rfl dk_LongNet_build_126 ?_
      refine kv_cV_cc (pc := 127) (as := [.ref 1, .ref 68]) (st := []) ko_LongNet_boundByGrowth kc_2 rfl rfl kr_73 kw_778 (Nat.le_of_ble_eq_true rfl) rfl dk_LongNet_build_127 (cx_LongNet_boundByGrowth d c15 y) (fun c19 => ?_)
      exact kv_vret (pc := 130) (fun h => h) rfl dk_LongNet_build_130
    · intro hx91_0 x13 c14
      show kv_X _ _ _ _ (fb_LongNet_build_91 x13 c14) 91 [(0, .ref 73), (1, .ref 1), (2, .ref 68), (3, .ref 10), (4, .int x13)] [] (c14, y)
      unfold fb_LongNet_build_91
      refine kv_iload (pc := 91) 4 rfl dk_LongNet_build_91 ?_
      refine kv_aload_n (pc := 93) 3 rfl rfl dk_LongNet_build_93 ?_
      refine kv_getC (pc := 94) kf_LongNet_53 kr_10 kn_10 rfl dk_LongNet_build_94 ?_
      refine kv_icmp_ge (pc := 97) (tgt := 124) dk_LongNet_build_97 rfl ?_ ?_
      · exact kv_sub [0, 1, 2] rfl (kv_leaf (hx91_0 _))
      · refine kv_aload_n (pc := 100) 0 rfl rfl dk_LongNet_build_100 ?_
        refine kv_aload_n (pc := 101) 3 rfl rfl dk_LongNet_build_101 ?_
        refine kv_iload (pc := 102) 4 rfl dk_LongNet_build_102 ?_
        refine kv_cV_cZ (pc := 104) (as := [.ref 10, .int x13]) (st := []) ko_LongNet_isSaid kc_2 rfl rfl kr_73 kw_757 (Nat.le_of_ble_eq_true rfl) rfl dk_LongNet_build_104 (cx_LongNet_isSaid (d + 3) x13 c14 y) (fun b16 => ?_)
        refine kv_cut_1 (J := fj_LongNet_build_118 x13) (pcj := 118) (LJ := fun c17 => [(0, .ref 73), (1, .ref 1), (2, .ref 68), (3, .ref 10), (4, .int x13)]) (SJ := fun c17 => []) (WJ := fun c17 => (c17, y)) ?_ (fun hj118 => ?_)
        · intro c17
          show kv_X _ _ _ _ (fj_LongNet_build_118 x13 c17) 118 [(0, .ref 73), (1, .ref 1), (2, .ref 68), (3, .ref 10), (4, .int x13)] [] (c17, y)
          unfold fj_LongNet_build_118
          refine kv_iinc (pc := 118) (kk := (1 : Int32)) (lv' := [(4, .int (x13 + (1 : Int32))), (0, .ref 73), (1, .ref 1), (2, .ref 68), (3, .ref 10)]) 4 rfl kki_1 rfl (Nat.le_of_ble_eq_true rfl) dk_LongNet_build_118 ?_
          refine kv_goto (pc := 121) (tgt := 91) dk_LongNet_build_121 rfl ?_
          exact kv_sub [1, 2, 3, 4, 0] rfl (kv_leaf (fun h => h))
        refine kv_zif_eq (pc := 107) (tgt := 118) dk_LongNet_build_107 rfl ?_ ?_
        · exact hj118 c14
        · refine kv_aload_n (pc := 110) 0 rfl rfl dk_LongNet_build_110 ?_
          refine kv_aload_n (pc := 111) 3 rfl rfl dk_LongNet_build_111 ?_
          refine kv_iload (pc := 112) 4 rfl dk_LongNet_build_112 ?_
          refine kv_aload_n (pc := 114) 2 rfl rfl dk_LongNet_build_114 ?_
          refine kv_cV_cc (pc := 115) (as := [.ref 10, .int x13, .ref 68]) (st := []) ko_LongNet_boundByWeighing kc_2 rfl rfl kr_73 kw_767 (Nat.le_of_ble_eq_true rfl) rfl dk_LongNet_build_115 (cx_LongNet_boundByWeighing d x13 c14 y) (fun c18 => ?_)
          exact hj118 c18
  · intro hx8_0 x1 c2
    show kv_X _ _ _ _ (fb_LongNet_build_8 x1 c2) 8 [(0, .ref 73), (1, .ref 1), (2, .ref 68), (3, .ref 10), (4, .int x1)] [] (c2, y)
    unfold fb_LongNet_build_8
    refine kv_iload (pc := 8) 4 rfl dk_LongNet_build_8 ?_
    refine kv_aload_n (pc := 10) 3 rfl rfl dk_LongNet_build_10 ?_
    refine kv_getC (pc := 11) kf_LongNet_53 kr_10 kn_10 rfl dk_LongNet_build_11 ?_
    refine kv_icmp_ge (pc := 14) (tgt := 80) dk_LongNet_build_14 rfl ?_ ?_
    · exact kv_sub [0, 1, 2, 3] rfl (kv_leaf (hx8_0 _))
    · refine kv_aload_n (pc := 17) 0 rfl rfl dk_LongNet_build_17 ?_
      refine kv_aload_n (pc := 18) 3 rfl rfl dk_LongNet_build_18 ?_
      refine kv_iload (pc := 19) 4 rfl dk_LongNet_build_19 ?_
      refine kv_cV_cZ (pc := 21) (as := [.ref 10, .int x1]) (st := []) ko_LongNet_isSaid kc_2 rfl rfl kr_73 kw_757 (Nat.le_of_ble_eq_true rfl) rfl dk_LongNet_build_21 (cx_LongNet_isSaid (d + 3) x1 c2 y) (fun b4 => ?_)
      refine kv_cut_1 (J := fj_LongNet_build_74 x1) (pcj := 74) (LJ := fun c5 => [(0, .ref 73), (1, .ref 1), (2, .ref 68), (3, .ref 10), (4, .int x1)]) (SJ := fun c5 => []) (WJ := fun c5 => (c5, y)) ?_ (fun hj74 => ?_)
      · intro c5
        show kv_X _ _ _ _ (fj_LongNet_build_74 x1 c5) 74 [(0, .ref 73), (1, .ref 1), (2, .ref 68), (3, .ref 10), (4, .int x1)] [] (c5, y)
        unfold fj_LongNet_build_74
        refine kv_iinc (pc := 74) (kk := (1 : Int32)) (lv' := [(4, .int (x1 + (1 : Int32))), (0, .ref 73), (1, .ref 1), (2, .ref 68), (3, .ref 10)]) 4 rfl kki_1 rfl (Nat.le_of_ble_eq_true rfl) dk_LongNet_build_74 ?_
        refine kv_goto (pc := 77) (tgt := 8) dk_LongNet_build_77 rfl ?_
        exact kv_sub [1, 2, 3, 4, 0] rfl (kv_leaf (fun h => h))
      refine kv_zif_eq (pc := 24) (tgt := 74) dk_LongNet_build_24 rfl ?_ ?_
      · exact hj74 c2
      · refine kv_aload_n (pc := 27) 3 rfl rfl dk_LongNet_build_27 ?_
        refine kv_getR (pc := 28) kf_LongNet_60 kr_10 rfl kt_10_0 dk_LongNet_build_28 ?_
        refine kv_iload (pc := 31) 4 rfl dk_LongNet_build_31 ?_
        refine kv_guard (fun g6 => ?_)
        refine kv_aldC (pc := 33) kr_11 kn_11 kl_11 g6 rfl dk_LongNet_build_33 ?_
        refine kv_letI (fun v7 => ?_)
        refine kv_istore (pc := 34) (lv' := [(5, .int v7), (0, .ref 73), (1, .ref 1), (2, .ref 68), (3, .ref 10), (4, .int x1)]) rfl (Nat.le_of_ble_eq_true rfl) dk_LongNet_build_34 ?_
        refine kv_aload_n (pc := 36) 1 rfl rfl dk_LongNet_build_36 ?_
        refine kv_aload_n (pc := 37) 1 rfl rfl dk_LongNet_build_37 ?_
        refine kv_aload_n (pc := 38) 4 rfl rfl dk_LongNet_build_38 ?_
        refine kv_getR (pc := 39) kf_LongNet_63 kr_10 rfl kt_10_1 dk_LongNet_build_39 ?_
        refine kv_iload (pc := 42) 5 rfl dk_LongNet_build_42 ?_
        refine kv_aldC (pc := 44) kr_12 kn_12 kl_12 g6 rfl dk_LongNet_build_44 ?_
        refine kv_iload (pc := 45) 0 rfl dk_LongNet_build_45 ?_
        refine kv_cV_cI (pc := 47) (as := [.int (c2 12 x1.toNatClampNeg), .int v7]) (st := [.ref 73]) ko_LongNet_meant kc_2 rfl rfl kr_73 kw_761 (Nat.le_of_ble_eq_true rfl) rfl dk_LongNet_build_47 (cx_LongNet_meant (d + 3) (c2 12 x1.toNatClampNeg) v7 c2 y) (fun v8 => ?_)
        refine kv_iload (pc := 50) 0 rfl dk_LongNet_build_50 ?_
        refine kv_cV_cc (pc := 52) (as := [.int v8, .int v7]) (st := []) ko_LongNet_addKnot kc_2 rfl rfl kr_73 kw_765 (Nat.le_of_ble_eq_true rfl) rfl dk_LongNet_build_52 (cx_LongNet_addKnot (d + 2) v8 v7 c2 y) (fun c9 => ?_)
        refine kv_aload_n (pc := 55) 1 rfl rfl dk_LongNet_build_55 ?_
        refine kv_aload_n (pc := 56) 1 rfl rfl dk_LongNet_build_56 ?_
        refine kv_aload_n (pc := 57) 4 rfl rfl dk_LongNet_build_57 ?_
        refine kv_getR (pc := 58) kf_LongNet_74 kr_10 rfl kt_10_2 dk_LongNet_build_58 ?_
        refine kv_iload (pc := 61) 5 rfl dk_LongNet_build_61 ?_
        refine kv_aldC (pc := 63) kr_13 kn_13 kl_13 g6 rfl dk_LongNet_build_63 ?_
        refine kv_iload (pc := 64) 0 rfl dk_LongNet_build_64 ?_
        refine kv_cV_cI (pc := 66) (as := [.int (c9 13 x1.toNatClampNeg), .int v7]) (st := [.ref 73]) ko_LongNet_meant kc_2 rfl rfl kr_73 kw_761 (Nat.le_of_ble_eq_true rfl) rfl dk_LongNet_build_66 (cx_LongNet_meant (d + 3) (c9 13 x1.toNatClampNeg) v7 c9 y) (fun v10 => ?_)
        refine kv_iload (pc := 69) 0 rfl dk_LongNet_build_69 ?_
        refine kv_cV_cc (pc := 71) (as := [.int v10, .int v7]) (st := []) ko_LongNet_addKnot kc_2 rfl rfl kr_73 kw_765 (Nat.le_of_ble_eq_true rfl) rfl dk_LongNet_build_71 (cx_LongNet_addKnot (d + 2) v10 v7 c9 y) (fun c11 => ?_)
        exact kv_sub [1, 2, 3, 4, 5] rfl (hj74 c11)
