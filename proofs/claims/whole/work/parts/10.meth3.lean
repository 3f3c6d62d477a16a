theorem dk_K_rowRefusal_0 : decode prog_1_method_47_code 0 = .ok (.iload_n 1, 1) := by decide +kernel
theorem dk_K_rowRefusal_1 : decode prog_1_method_47_code 1 = .ok (.invokestatic 368, 3) := by decide +kernel
theorem dk_K_rowRefusal_4 : decode prog_1_method_47_code 4 = .ok (.ifCond .ne 5, 3) := by decide +kernel
theorem dk_K_rowRefusal_7 : decode prog_1_method_47_code 7 = .ok (.iconst (-1), 1) := by decide +kernel
theorem dk_K_rowRefusal_8 : decode prog_1_method_47_code 8 = .ok (.ireturn, 1) := by decide +kernel
theorem dk_K_rowRefusal_9 : decode prog_1_method_47_code 9 = .ok (.aload_n 0, 1) := by decide +kernel
theorem dk_K_rowRefusal_10 : decode prog_1_method_47_code 10 = .ok (.getfield 21, 3) := by decide +kernel
theorem dk_K_rowRefusal_13 : decode prog_1_method_47_code 13 = .ok (.iload_n 1, 1) := by decide +kernel
theorem dk_K_rowRefusal_14 : decode prog_1_method_47_code 14 = .ok (.aaload, 1) := by decide +kernel
theorem dk_K_rowRefusal_15 : decode prog_1_method_47_code 15 = .ok (.invokevirtual 399, 3) := by decide +kernel
theorem dk_K_rowRefusal_18 : decode prog_1_method_47_code 18 = .ok (.ifCond .eq 6, 3) := by decide +kernel
theorem dk_K_rowRefusal_21 : decode prog_1_method_47_code 21 = .ok (.bipush (-11), 2) := by decide +kernel
theorem dk_K_rowRefusal_23 : decode prog_1_method_47_code 23 = .ok (.ireturn, 1) := by decide +kernel
theorem dk_K_rowRefusal_24 : decode prog_1_method_47_code 24 = .ok (.aload_n 0, 1) := by decide +kernel
theorem dk_K_rowRefusal_25 : decode prog_1_method_47_code 25 = .ok (.getfield 21, 3) := by decide +kernel
theorem dk_K_rowRefusal_28 : decode prog_1_method_47_code 28 = .ok (.iload_n 1, 1) := by decide +kernel
theorem dk_K_rowRefusal_29 : decode prog_1_method_47_code 29 = .ok (.aaload, 1) := by decide +kernel
theorem dk_K_rowRefusal_30 : decode prog_1_method_47_code 30 = .ok (.invokevirtual 391, 3) := by decide +kernel
theorem dk_K_rowRefusal_33 : decode prog_1_method_47_code 33 = .ok (.ifCond .eq 7, 3) := by decide +kernel
theorem dk_K_rowRefusal_36 : decode prog_1_method_47_code 36 = .ok (.iconst 0, 1) := by decide +kernel
theorem dk_K_rowRefusal_37 : decode prog_1_method_47_code 37 = .ok (.goto 5, 3) := by decide +kernel
theorem dk_K_rowRefusal_40 : decode prog_1_method_47_code 40 = .ok (.bipush (-12), 2) := by decide +kernel
theorem dk_K_rowRefusal_42 : decode prog_1_method_47_code 42 = .ok (.ireturn, 1) := by decide +kernel
noncomputable def fx_K_rowRefusal (p1 : Int32) (c : (Nat → Nat → Int32)) : Option Int32 :=
  kv_bind1 (fx_K_isShelf p1) (fun b1 =>
  if b1 = true then
    kv_gd (kv_in p1 8) (
    kv_bind1 (fx_Shelf_isEmpty (kv_tg 51 p1.toNatClampNeg) c) (fun b3 =>
    if b3 = true then
      some (-11 : Int32)
    else
      kv_bind1 (fx_Shelf_isRow (kv_tg 51 p1.toNatClampNeg) c) (fun b4 =>
      if b4 = true then
        some (0 : Int32)
      else
        some (-12 : Int32))))
  else
    some (-1 : Int32))
set_option maxRecDepth 20000 in
theorem cx_K_rowRefusal (d : Nat) (p1 : Int32) (c : (Nat → Nat → Int32)) (y : (Nat → Nat → Int32) × (Nat → Int64) × (Nat → Int64)) : ∀ a, fx_K_rowRefusal p1 c = some a → kv_C kM_K_rowRefusal (d + 2) [.ref 0, .int p1] (c, y) (some (.int a), (c, y)) := by
  refine kv_entryX (E := fun a : Int32 => (some (.int a), (c, y))) rfl (Nat.le_of_ble_eq_true rfl) (fun o => ?_)
  unfold fx_K_rowRefusal
  show kv_X _ _ _ _ _ 0 [(0, .ref 0), (1, .int p1)] [] (c, y)
  refine kv_iload_n (pc := 0) 1 rfl rfl dk_K_rowRefusal_0 ?_
  refine kv_cS_cZ (pc := 1) (as := [.int p1]) (st := []) ko_K_isShelf rfl kw_624 (Nat.le_of_ble_eq_true rfl) rfl dk_K_rowRefusal_1 (cx_K_isShelf d p1 c y) (fun b1 => ?_)
  refine kv_zif_ne (pc := 4) (tgt := 9) dk_K_rowRefusal_4 rfl ?_ ?_
  · refine kv_aload_n (pc := 9) 0 rfl rfl dk_K_rowRefusal_9 ?_
    refine kv_getR (pc := 10) kf_K_21 kr_0 rfl kt_0_3 dk_K_rowRefusal_10 ?_
    refine kv_iload_n (pc := 13) 1 rfl rfl dk_K_rowRefusal_13 ?_
    refine kv_guard (fun g2 => ?_)
    refine kv_aald (pc := 14) kr_51 kl_51 g2 rfl dk_K_rowRefusal_14 ?_
    refine kv_cV_cZ (pc := 15) (as := []) (st := []) ko_Shelf_isEmpty kc_7 rfl rfl (kv_sh g2) kw_627 (Nat.le_of_ble_eq_true rfl) rfl dk_K_rowRefusal_15 (cx_Shelf_isEmpty (d + 1) (kv_tg 51 p1.toNatClampNeg) c y (kv_sh g2)) (fun b3 => ?_)
    refine kv_zif_eq (pc := 18) (tgt := 24) dk_K_rowRefusal_18 rfl ?_ ?_
    · refine kv_aload_n (pc := 24) 0 rfl rfl dk_K_rowRefusal_24 ?_
      refine kv_getR (pc := 25) kf_K_21 kr_0 rfl kt_0_3 dk_K_rowRefusal_25 ?_
      refine kv_iload_n (pc := 28) 1 rfl rfl dk_K_rowRefusal_28 ?_
      refine kv_aald (pc := 29) kr_51 kl_51 g2 rfl dk_K_rowRefusal_29 ?_
      refine kv_cV_cZ (pc := 30) (as := []) (st := []) ko_Shelf_isRow kc_7 rfl rfl (kv_sh g2) kw_631 (Nat.le_of_ble_eq_true rfl) rfl dk_K_rowRefusal_30 (cx_Shelf_isRow (d + 1) (kv_tg 51 p1.toNatClampNeg) c y (kv_sh g2)) (fun b4 => ?_)
      refine kv_zif_eq (pc := 33) (tgt := 40) dk_K_rowRefusal_33 rfl ?_ ?_
      · refine kv_bipush (pc := 40) (v := (-12 : Int32)) dk_K_rowRefusal_40 kkb_m12 ?_
        exact kv_iret (pc := 42) (fun h => h) rfl dk_K_rowRefusal_42
      · refine kv_iconst (pc := 36) (v := (0 : Int32)) dk_K_rowRefusal_36 kki_0 ?_
        refine kv_goto (pc := 37) (tgt := 42) dk_K_rowRefusal_37 rfl ?_
        exact kv_iret (pc := 42) (fun h => h) rfl dk_K_rowRefusal_42
    · refine kv_bipush (pc := 21) (v := (-11 : Int32)) dk_K_rowRefusal_21 kkb_m11 ?_
      exact kv_iret (pc := 23) (fun h => h) rfl dk_K_rowRefusal_23
  · refine kv_iconst (pc := 7) (v := (-1 : Int32)) dk_K_rowRefusal_7 kki_m1 ?_
    exact kv_iret (pc := 8) (fun h => h) rfl dk_K_rowRefusal_8
theorem dk_Shelf_leastNumber_0 : decode prog_9_method_8_code 0 = .ok (.aload_n 0, 1) := by decide +kernel
theorem dk_Shelf_leastNumber_1 : decode prog_9_method_8_code 1 = .ok (.getfield 39, 3) := by decide +kernel
theorem dk_Shelf_leastNumber_4 : decode prog_9_method_8_code 4 = .ok (.ifCond .ne 6, 3) := by decide +kernel
theorem dk_Shelf_leastNumber_7 : decode prog_9_method_8_code 7 = .ok (.bipush (-128), 2) := by decide +kernel
theorem dk_Shelf_leastNumber_9 : decode prog_9_method_8_code 9 = .ok (.ireturn, 1) := by decide +kernel
theorem dk_Shelf_leastNumber_10 : decode prog_9_method_8_code 10 = .ok (.aload_n 0, 1) := by decide +kernel
theorem dk_Shelf_leastNumber_11 : decode prog_9_method_8_code 11 = .ok (.getfield 39, 3) := by decide +kernel
theorem dk_Shelf_leastNumber_14 : decode prog_9_method_8_code 14 = .ok (.iconst 1, 1) := by decide +kernel
theorem dk_Shelf_leastNumber_15 : decode prog_9_method_8_code 15 = .ok (.if_icmp .ne 9, 3) := by decide +kernel
theorem dk_Shelf_leastNumber_18 : decode prog_9_method_8_code 18 = .ok (.sipush (-32768), 3) := by decide +kernel
theorem dk_Shelf_leastNumber_21 : decode prog_9_method_8_code 21 = .ok (.goto 5, 3) := by decide +kernel
theorem dk_Shelf_leastNumber_24 : decode prog_9_method_8_code 24 = .ok (.ldc 51, 2) := by decide +kernel
theorem dk_Shelf_leastNumber_26 : decode prog_9_method_8_code 26 = .ok (.ireturn, 1) := by decide +kernel
noncomputable def fx_Shelf_leastNumber (r0 : Nat) (c : (Nat → Nat → Int32)) : Option Int32 :=
  if (c r0 2) = 0 then
    some (-128 : Int32)
  else
    if (c r0 2) = (1 : Int32) then
      some (-32768 : Int32)
    else
      some (-2147483648 : Int32)
set_option maxRecDepth 20000 in
theorem cx_Shelf_leastNumber (d : Nat) (r0 : Nat) (c : (Nat → Nat → Int32)) (y : (Nat → Nat → Int32) × (Nat → Int64) × (Nat → Int64)) (h0 : kv_kd r0 = 7) : ∀ a, fx_Shelf_leastNumber r0 c = some a → kv_C kM_Shelf_leastNumber (d + 0) [.ref r0] (c, y) (some (.int a), (c, y)) := by
  refine kv_entryX (E := fun a : Int32 => (some (.int a), (c, y))) rfl (Nat.le_of_ble_eq_true rfl) (fun o => ?_)
  unfold fx_Shelf_leastNumber
  show kv_X _ _ _ _ _ 0 [(0, .ref r0)] [] (c, y)
  refine kv_aload_n (pc := 0) 0 rfl rfl dk_Shelf_leastNumber_0 ?_
  refine kv_getC (pc := 1) kf_Shelf_39 h0 (kv_7nc h0) rfl dk_Shelf_leastNumber_1 ?_
  refine kv_if_ne (pc := 4) (tgt := 10) dk_Shelf_leastNumber_4 rfl ?_ ?_
  · refine kv_aload_n (pc := 10) 0 rfl rfl dk_Shelf_leastNumber_10 ?_
    refine kv_getC (pc := 11) kf_Shelf_39 h0 (kv_7nc h0) rfl dk_Shelf_leastNumber_11 ?_
    refine kv_iconst (pc := 14) (v := (1 : Int32)) dk_Shelf_leastNumber_14 kki_1 ?_
    refine kv_icmp_ne (pc := 15) (tgt := 24) dk_Shelf_leastNumber_15 rfl ?_ ?_
    · refine kv_ldc (pc := 24) (v := (-2147483648 : Int32)) kw_643 dk_Shelf_leastNumber_24 ?_
      exact kv_iret (pc := 26) (fun h => h) rfl dk_Shelf_leastNumber_26
    · refine kv_sipush (pc := 18) (v := (-32768 : Int32)) dk_Shelf_leastNumber_18 kks_m32768 ?_
      refine kv_goto (pc := 21) (tgt := 26) dk_Shelf_leastNumber_21 rfl ?_
      exact kv_iret (pc := 26) (fun h => h) rfl dk_Shelf_leastNumber_26
  · refine kv_bipush (pc := 7) (v := (-128 : Int32)) dk_Shelf_leastNumber_7 kkb_m128 ?_
    exact kv_iret (pc := 9) (fun h => h) rfl dk_Shelf_leastNumber_9
theorem dk_Shelf_isLost_0 : decode prog_9_method_9_code 0 = .ok (.iconst 0, 1) := by decide +kernel
theorem dk_Shelf_isLost_1 : decode prog_9_method_9_code 1 = .ok (.istore_n 2, 1) := by decide +kernel
theorem dk_Shelf_isLost_2 : decode prog_9_method_9_code 2 = .ok (.iload_n 2, 1) := by decide +kernel
theorem dk_Shelf_isLost_3 : decode prog_9_method_9_code 3 = .ok (.iconst 5, 1) := by decide +kernel
theorem dk_Shelf_isLost_4 : decode prog_9_method_9_code 4 = .ok (.if_icmp .ge 26, 3) := by decide +kernel
theorem dk_Shelf_isLost_7 : decode prog_9_method_9_code 7 = .ok (.aload_n 0, 1) := by decide +kernel
theorem dk_Shelf_isLost_8 : decode prog_9_method_9_code 8 = .ok (.getfield 9, 3) := by decide +kernel
theorem dk_Shelf_isLost_11 : decode prog_9_method_9_code 11 = .ok (.iload_n 1, 1) := by decide +kernel
theorem dk_Shelf_isLost_12 : decode prog_9_method_9_code 12 = .ok (.iload_n 2, 1) := by decide +kernel
theorem dk_Shelf_isLost_13 : decode prog_9_method_9_code 13 = .ok (.iadd, 1) := by decide +kernel
theorem dk_Shelf_isLost_14 : decode prog_9_method_9_code 14 = .ok (.iaload, 1) := by decide +kernel
theorem dk_Shelf_isLost_15 : decode prog_9_method_9_code 15 = .ok (.aload_n 0, 1) := by decide +kernel
theorem dk_Shelf_isLost_16 : decode prog_9_method_9_code 16 = .ok (.invokevirtual 52, 3) := by decide +kernel
theorem dk_Shelf_isLost_19 : decode prog_9_method_9_code 19 = .ok (.if_icmp .ne 5, 3) := by decide +kernel
theorem dk_Shelf_isLost_22 : decode prog_9_method_9_code 22 = .ok (.iconst 1, 1) := by decide +kernel
theorem dk_Shelf_isLost_23 : decode prog_9_method_9_code 23 = .ok (.ireturn, 1) := by decide +kernel
theorem dk_Shelf_isLost_24 : decode prog_9_method_9_code 24 = .ok (.iinc 2 1, 3) := by decide +kernel
theorem dk_Shelf_isLost_27 : decode prog_9_method_9_code 27 = .ok (.goto (-25), 3) := by decide +kernel
theorem dk_Shelf_isLost_30 : decode prog_9_method_9_code 30 = .ok (.iconst 0, 1) := by decide +kernel
theorem dk_Shelf_isLost_31 : decode prog_9_method_9_code 31 = .ok (.ireturn, 1) := by decide +kernel
noncomputable def fb_Shelf_isLost_2 (p1 : Int32) (r0 : Nat) (c : (Nat → Nat → Int32)) (x1 : Int32) : Option (Int32 ⊕ (Unit ⊕ Unit)) :=
  if (5 : Int32) ≤ x1 then
    some (.inr (.inr ()))
  else
    kv_gd (kv_in (p1 + x1) 100) (
    kv_bind1 (fx_Shelf_leastNumber r0 c) (fun v3 =>
    if (c (kv_tg r0 0) (p1 + x1).toNatClampNeg) = v3 then
      some (.inr (.inl ()))
    else
      some (.inl (x1 + (1 : Int32)))))
noncomputable def fx_Shelf_isLost (r0 : Nat) (p1 : Int32) (c : (Nat → Nat → Int32)) : Option Bool :=
  (kv_loop (kv_u1 (fb_Shelf_isLost_2 p1 r0 c)) (0 : Int32)).bind (Sum.elim (kv_u0 (
  some true))
   (kv_u0 (
  some false)))
set_option maxRecDepth 20000 in
theorem cx_Shelf_isLost (d : Nat) (r0 : Nat) (p1 : Int32) (c : (Nat → Nat → Int32)) (y : (Nat → Nat → Int32) × (Nat → Int64) × (Nat → Int64)) (h0 : kv_kd r0 = 7) : ∀ a, fx_Shelf_isLost r0 p1 c = some a → kv_C kM_Shelf_isLost (d + 1) [.ref r0, .int p1] (c, y) (some (.int (kv_b a)), (c, y)) := by
  refine kv_entryX (E := fun a : Bool => (some (.int (kv_b a)), (c, y))) rfl (Nat.le_of_ble_eq_true rfl) (fun o => ?_)
  unfold fx_Shelf_isLost
  show kv_X _ _ _ _ _ 0 [(0, .ref r0), (1, .int p1)] [] (c, y)
  refine kv_iconst (pc := 0) (v := (0 : Int32)) dk_Shelf_isLost_0 kki_0 ?_
  refine kv_istore_n (pc := 1) (lv' := [(2, .int (0 : Int32)), (0, .ref r0), (1, .int p1)]) rfl (Nat.le_of_ble_eq_true rfl) rfl dk_Shelf_isLost_1 ?_
  refine kv_sub (lv' := [(0, .ref r0), (1, .int p1), (2, .int (0 : Int32))]) [1, 2, 0] rfl ?_
  refine kv_lp_1_0_0 (LV := fun x1 => [(0, .ref r0), (1, .int p1), (2, .int x1)]) (WW := fun x1 => (c, y)) (LE1 := []) (WE1 := (c, y)) (pe1 := 22) (LE2 := []) (WE2 := (c, y)) (pe2 := 30) ?_ ?_ ?_
  · show kv_X _ _ _ _ _ 22 [] [] (c, y)
    refine kv_iconst (pc := 22) (v := (1 : Int32)) dk_Shelf_isLost_22 kki_1 ?_
    exact kv_zret (pc := 23) (b := true) (fun h => h) rfl dk_Shelf_isLost_23
  · show kv_X _ _ _ _ _ 30 [] [] (c, y)
    refine kv_iconst (pc := 30) (v := (0 : Int32)) dk_Shelf_isLost_30 kki_0 ?_
    exact kv_zret (pc := 31) (b := false) (fun h => h) rfl dk_Shelf_isLost_31
  · intro hx2_0 hx2_1 x1
    show kv_X _ _ _ _ (fb_Shelf_isLost_2 p1 r0 c x1) 2 [(0, .ref r0), (1, .int p1), (2, .int x1)] [] (c, y)
    unfold fb_Shelf_isLost_2
    refine kv_iload_n (pc := 2) 2 rfl rfl dk_Shelf_isLost_2 ?_
    refine kv_iconst (pc := 3) (v := (5 : Int32)) dk_Shelf_isLost_3 kki_5 ?_
    refine kv_icmp_ge (pc := 4) (tgt := 30) dk_Shelf_isLost_4 rfl ?_ ?_
    · exact kv_sub [] rfl (kv_leaf (hx2_1))
    · refine kv_aload_n (pc := 7) 0 rfl rfl dk_Shelf_isLost_7 ?_
      refine kv_getR (pc := 8) kf_Shelf_9 h0 rfl rfl dk_Shelf_isLost_8 ?_
      refine kv_iload_n (pc := 11) 1 rfl rfl dk_Shelf_isLost_11 ?_
      refine kv_iload_n (pc := 12) 2 rfl rfl dk_Shelf_isLost_12 ?_
      refine kv_iadd (pc := 13) dk_Shelf_isLost_13 ?_
      refine kv_guard (fun g2 => ?_)
      refine kv_aldC (pc := 14) (kv_7e h0) (kv_7enc h0) (kv_7eln h0) g2 rfl dk_Shelf_isLost_14 ?_
      refine kv_aload_n (pc := 15) 0 rfl rfl dk_Shelf_isLost_15 ?_
      refine kv_cV_cI (pc := 16) (as := []) (st := [.int (c (kv_tg r0 0) (p1 + x1).toNatClampNeg)]) ko_Shelf_leastNumber kc_7 rfl rfl h0 kw_639 (Nat.le_of_ble_eq_true rfl) rfl dk_Shelf_isLost_16 (cx_Shelf_leastNumber d r0 c y h0) (fun v3 => ?_)
      refine kv_icmp_ne (pc := 19) (tgt := 24) dk_Shelf_isLost_19 rfl ?_ ?_
      · refine kv_iinc (pc := 24) (kk := (1 : Int32)) (lv' := [(2, .int (x1 + (1 : Int32))), (0, .ref r0), (1, .int p1)]) 2 rfl kki_1 rfl (Nat.le_of_ble_eq_true rfl) dk_Shelf_isLost_24 ?_
        refine kv_goto (pc := 27) (tgt := 2) dk_Shelf_isLost_27 rfl ?_
        exact kv_sub [1, 2, 0] rfl (kv_leaf (fun h => h))
      · exact kv_sub [] rfl (kv_leaf (hx2_0))
theorem dk_K_isTold_0 : decode prog_1_method_51_code 0 = .ok (.aload_n 1, 1) := by decide +kernel
theorem dk_K_isTold_1 : decode prog_1_method_51_code 1 = .ok (.getfield 184, 3) := by decide +kernel
theorem dk_K_isTold_4 : decode prog_1_method_51_code 4 = .ok (.astore_n 3, 1) := by decide +kernel
theorem dk_K_isTold_5 : decode prog_1_method_51_code 5 = .ok (.aload_n 0, 1) := by decide +kernel
theorem dk_K_isTold_6 : decode prog_1_method_51_code 6 = .ok (.getfield 10, 3) := by decide +kernel
theorem dk_K_isTold_9 : decode prog_1_method_51_code 9 = .ok (.getfield 152, 3) := by decide +kernel
theorem dk_K_isTold_12 : decode prog_1_method_51_code 12 = .ok (.getfield 156, 3) := by decide +kernel
theorem dk_K_isTold_15 : decode prog_1_method_51_code 15 = .ok (.bipush 20, 2) := by decide +kernel
theorem dk_K_isTold_17 : decode prog_1_method_51_code 17 = .ok (.if_icmp .ge 67, 3) := by decide +kernel
theorem dk_K_isTold_20 : decode prog_1_method_51_code 20 = .ok (.aload_n 3, 1) := by decide +kernel
theorem dk_K_isTold_21 : decode prog_1_method_51_code 21 = .ok (.iload_n 2, 1) := by decide +kernel
theorem dk_K_isTold_22 : decode prog_1_method_51_code 22 = .ok (.iaload, 1) := by decide +kernel
theorem dk_K_isTold_23 : decode prog_1_method_51_code 23 = .ok (.invokestatic 135, 3) := by decide +kernel
theorem dk_K_isTold_26 : decode prog_1_method_51_code 26 = .ok (.ifCond .eq 58, 3) := by decide +kernel
theorem dk_K_isTold_29 : decode prog_1_method_51_code 29 = .ok (.aload_n 0, 1) := by decide +kernel
theorem dk_K_isTold_30 : decode prog_1_method_51_code 30 = .ok (.getfield 10, 3) := by decide +kernel
theorem dk_K_isTold_33 : decode prog_1_method_51_code 33 = .ok (.getfield 58, 3) := by decide +kernel
theorem dk_K_isTold_36 : decode prog_1_method_51_code 36 = .ok (.aload_n 3, 1) := by decide +kernel
theorem dk_K_isTold_37 : decode prog_1_method_51_code 37 = .ok (.iload_n 2, 1) := by decide +kernel
theorem dk_K_isTold_38 : decode prog_1_method_51_code 38 = .ok (.iconst 1, 1) := by decide +kernel
theorem dk_K_isTold_39 : decode prog_1_method_51_code 39 = .ok (.iadd, 1) := by decide +kernel
theorem dk_K_isTold_40 : decode prog_1_method_51_code 40 = .ok (.iaload, 1) := by decide +kernel
theorem dk_K_isTold_41 : decode prog_1_method_51_code 41 = .ok (.aload_n 3, 1) := by decide +kernel
theorem dk_K_isTold_42 : decode prog_1_method_51_code 42 = .ok (.iload_n 2, 1) := by decide +kernel
theorem dk_K_isTold_43 : decode prog_1_method_51_code 43 = .ok (.iconst 2, 1) := by decide +kernel
theorem dk_K_isTold_44 : decode prog_1_method_51_code 44 = .ok (.iadd, 1) := by decide +kernel
theorem dk_K_isTold_45 : decode prog_1_method_51_code 45 = .ok (.iaload, 1) := by decide +kernel
theorem dk_K_isTold_46 : decode prog_1_method_51_code 46 = .ok (.invokevirtual 145, 3) := by decide +kernel
theorem dk_K_isTold_49 : decode prog_1_method_51_code 49 = .ok (.ifCond .eq 35, 3) := by decide +kernel
theorem dk_K_isTold_52 : decode prog_1_method_51_code 52 = .ok (.aload_n 3, 1) := by decide +kernel
theorem dk_K_isTold_53 : decode prog_1_method_51_code 53 = .ok (.iload_n 2, 1) := by decide +kernel
theorem dk_K_isTold_54 : decode prog_1_method_51_code 54 = .ok (.iconst 3, 1) := by decide +kernel
theorem dk_K_isTold_55 : decode prog_1_method_51_code 55 = .ok (.iadd, 1) := by decide +kernel
theorem dk_K_isTold_56 : decode prog_1_method_51_code 56 = .ok (.iaload, 1) := by decide +kernel
theorem dk_K_isTold_57 : decode prog_1_method_51_code 57 = .ok (.ldc_w 427, 3) := by decide +kernel
theorem dk_K_isTold_60 : decode prog_1_method_51_code 60 = .ok (.ldc_w 428, 3) := by decide +kernel
theorem dk_K_isTold_63 : decode prog_1_method_51_code 63 = .ok (.invokestatic 54, 3) := by decide +kernel
theorem dk_K_isTold_66 : decode prog_1_method_51_code 66 = .ok (.ifCond .eq 18, 3) := by decide +kernel
theorem dk_K_isTold_69 : decode prog_1_method_51_code 69 = .ok (.aload_n 3, 1) := by decide +kernel
theorem dk_K_isTold_70 : decode prog_1_method_51_code 70 = .ok (.iload_n 2, 1) := by decide +kernel
theorem dk_K_isTold_71 : decode prog_1_method_51_code 71 = .ok (.iconst 4, 1) := by decide +kernel
theorem dk_K_isTold_72 : decode prog_1_method_51_code 72 = .ok (.iadd, 1) := by decide +kernel
theorem dk_K_isTold_73 : decode prog_1_method_51_code 73 = .ok (.iaload, 1) := by decide +kernel
theorem dk_K_isTold_74 : decode prog_1_method_51_code 74 = .ok (.invokestatic 149, 3) := by decide +kernel
theorem dk_K_isTold_77 : decode prog_1_method_51_code 77 = .ok (.ifCond .eq 7, 3) := by decide +kernel
theorem dk_K_isTold_80 : decode prog_1_method_51_code 80 = .ok (.iconst 1, 1) := by decide +kernel
theorem dk_K_isTold_81 : decode prog_1_method_51_code 81 = .ok (.goto 4, 3) := by decide +kernel
theorem dk_K_isTold_84 : decode prog_1_method_51_code 84 = .ok (.iconst 0, 1) := by decide +kernel
theorem dk_K_isTold_85 : decode prog_1_method_51_code 85 = .ok (.ireturn, 1) := by decide +kernel
noncomputable def fx_K_isTold (r1 : Nat) (p2 : Int32) (c : (Nat → Nat → Int32)) : Option Bool :=
  if (20 : Int32) ≤ (c 10 7) then
    some false
  else
    kv_gd (kv_in p2 100) (
    kv_bind1 (fx_K_isYear (c (kv_tg r1 0) p2.toNatClampNeg)) (fun b2 =>
    if b2 = true then
      kv_gd (kv_in (p2 + (1 : Int32)) 100) (
      kv_gd (kv_in (p2 + (2 : Int32)) 100) (
      kv_bind1 (fx_Lumps_hasPair (c (kv_tg r1 0) (p2 + (1 : Int32)).toNatClampNeg) (c (kv_tg r1 0) (p2 + (2 : Int32)).toNatClampNeg) c) (fun b5 =>
      if b5 = true then
        kv_gd (kv_in (p2 + (3 : Int32)) 100) (
        kv_bind1 (fx_K_isWithin (c (kv_tg r1 0) (p2 + (3 : Int32)).toNatClampNeg) (-99999 : Int32) (99999 : Int32)) (fun b7 =>
        if b7 = true then
          kv_gd (kv_in (p2 + (4 : Int32)) 100) (
          kv_bind1 (fx_K_isDoubt (c (kv_tg r1 0) (p2 + (4 : Int32)).toNatClampNeg)) (fun b9 =>
          if b9 = true then
            some true
          else
            some false))
        else
          some false))
      else
        some false)))
    else
      some false))
set_option maxRecDepth 20000 in
theorem cx_K_isTold (d : Nat) (r1 : Nat) (p2 : Int32) (c : (Nat → Nat → Int32)) (y : (Nat → Nat → Int32) × (Nat → Int64) × (Nat → Int64)) (h1 : kv_kd r1 = 7) : ∀ a, fx_K_isTold r1 p2 c = some a → kv_C kM_K_isTold (d + 2) [.ref 0, .ref r1, .int p2] (c, y) (some (.int (kv_b a)), (c, y)) := by
  refine kv_entryX (E := fun a : Bool => (some (.int (kv_b a)), (c, y))) rfl (Nat.le_of_ble_eq_true rfl) (fun o => ?_)
  unfold fx_K_isTold
  show kv_X _ _ _ _ _ 0 [(0, .ref 0), (1, .ref r1), (2, .int p2)] [] (c, y)
  refine kv_aload_n (pc := 0) 1 rfl rfl dk_K_isTold_0 ?_
  refine kv_getR (pc := 1) kf_K_184 h1 rfl rfl dk_K_isTold_1 ?_
  refine kv_astore_n (pc := 4) (lv' := [(3, .ref (kv_tg r1 0)), (0, .ref 0), (1, .ref r1), (2, .int p2)]) rfl (Nat.le_of_ble_eq_true rfl) rfl dk_K_isTold_4 ?_
  refine kv_aload_n (pc := 5) 1 rfl rfl dk_K_isTold_5 ?_
  refine kv_getR (pc := 6) kf_K_10 kr_0 rfl kt_0_0 dk_K_isTold_6 ?_
  refine kv_getR (pc := 9) kf_K_152 kr_1 rfl kt_1_1 dk_K_isTold_9 ?_
  refine kv_getC (pc := 12) kf_K_156 kr_10 kn_10 rfl dk_K_isTold_12 ?_
  refine kv_bipush (pc := 15) (v := (20 : Int32)) dk_K_isTold_15 kkb_20 ?_
  refine kv_icmp_ge (pc := 17) (tgt := 84) dk_K_isTold_17 rfl ?_ ?_
  · refine kv_iconst (pc := 84) (v := (0 : Int32)) dk_K_isTold_84 kki_0 ?_
    exact kv_zret (pc := 85) (b := false) (fun h => h) rfl dk_K_isTold_85
  · refine kv_aload_n (pc := 20) 0 rfl rfl dk_K_isTold_20 ?_
    refine kv_iload_n (pc := 21) 3 rfl rfl dk_K_isTold_21 ?_
    refine kv_guard (fun g1 => ?_)
    refine kv_aldC (pc := 22) (kv_7e h1) (kv_7enc h1) (kv_7eln h1) g1 rfl dk_K_isTold_22 ?_
    refine kv_cS_cZ (pc := 23) (as := [.int (c (kv_tg r1 0) p2.toNatClampNeg)]) (st := []) ko_K_isYear rfl kw_577 (Nat.le_of_ble_eq_true rfl) rfl dk_K_isTold_23 (cx_K_isYear d (c (kv_tg r1 0) p2.toNatClampNeg) c y) (fun b2 => ?_)
    refine kv_zif_eq (pc := 26) (tgt := 84) dk_K_isTold_26 rfl ?_ ?_
    · refine kv_iconst (pc := 84) (v := (0 : Int32)) dk_K_isTold_84 kki_0 ?_
      exact kv_zret (pc := 85) (b := false) (fun h => h) rfl dk_K_isTold_85
    · refine kv_aload_n (pc := 29) 1 rfl rfl dk_K_isTold_29 ?_
      refine kv_getR (pc := 30) kf_K_10 kr_0 rfl kt_0_0 dk_K_isTold_30 ?_
      refine kv_getR (pc := 33) kf_K_58 kr_1 rfl kt_1_0 dk_K_isTold_33 ?_
      refine kv_aload_n (pc := 36) 0 rfl rfl dk_K_isTold_36 ?_
      refine kv_iload_n (pc := 37) 3 rfl rfl dk_K_isTold_37 ?_
      refine kv_iconst (pc := 38) (v := (1 : Int32)) dk_K_isTold_38 kki_1 ?_
      refine kv_iadd (pc := 39) dk_K_isTold_39 ?_
      refine kv_guard (fun g3 => ?_)
      refine kv_aldC (pc := 40) (kv_7e h1) (kv_7enc h1) (kv_7eln h1) g3 rfl dk_K_isTold_40 ?_
      refine kv_aload_n (pc := 41) 0 rfl rfl dk_K_isTold_41 ?_
      refine kv_iload_n (pc := 42) 3 rfl rfl dk_K_isTold_42 ?_
      refine kv_iconst (pc := 43) (v := (2 : Int32)) dk_K_isTold_43 kki_2 ?_
      refine kv_iadd (pc := 44) dk_K_isTold_44 ?_
      refine kv_guard (fun g4 => ?_)
      refine kv_aldC (pc := 45) (kv_7e h1) (kv_7enc h1) (kv_7eln h1) g4 rfl dk_K_isTold_45 ?_
      refine kv_cV_cZ (pc := 46) (as := [.int (c (kv_tg r1 0) (p2 + (1 : Int32)).toNatClampNeg), .int (c (kv_tg r1 0) (p2 + (2 : Int32)).toNatClampNeg)]) (st := []) ko_Lumps_hasPair kc_3 rfl rfl kr_2 kw_589 (Nat.le_of_ble_eq_true rfl) rfl dk_K_isTold_46 (cx_Lumps_hasPair d (c (kv_tg r1 0) (p2 + (1 : Int32)).toNatClampNeg) (c (kv_tg r1 0) (p2 + (2 : Int32)).toNatClampNeg) c y) (fun b5 => ?_)
      refine kv_zif_eq (pc := 49) (tgt := 84) dk_K_isTold_49 rfl ?_ ?_
      · refine kv_iconst (pc := 84) (v := (0 : Int32)) dk_K_isTold_84 kki_0 ?_
        exact kv_zret (pc := 85) (b := false) (fun h => h) rfl dk_K_isTold_85
      · refine kv_aload_n (pc := 52) 0 rfl rfl dk_K_isTold_52 ?_
        refine kv_iload_n (pc := 53) 3 rfl rfl dk_K_isTold_53 ?_
        refine kv_iconst (pc := 54) (v := (3 : Int32)) dk_K_isTold_54 kki_3 ?_
        refine kv_iadd (pc := 55) dk_K_isTold_55 ?_
        refine kv_guard (fun g6 => ?_)
        refine kv_aldC (pc := 56) (kv_7e h1) (kv_7enc h1) (kv_7eln h1) g6 rfl dk_K_isTold_56 ?_
        refine kv_ldcw (pc := 57) (v := (-99999 : Int32)) kw_648 dk_K_isTold_57 ?_
        refine kv_ldcw (pc := 60) (v := (99999 : Int32)) kw_649 dk_K_isTold_60 ?_
        refine kv_cS_cZ (pc := 63) (as := [.int (c (kv_tg r1 0) (p2 + (3 : Int32)).toNatClampNeg), .int (-99999 : Int32), .int (99999 : Int32)]) (st := []) ko_K_isWithin rfl kw_512 (Nat.le_of_ble_eq_true rfl) rfl dk_K_isTold_63 (cx_K_isWithin (d + 1) (c (kv_tg r1 0) (p2 + (3 : Int32)).toNatClampNeg) (-99999 : Int32) (99999 : Int32) c y) (fun b7 => ?_)
        refine kv_zif_eq (pc := 66) (tgt := 84) dk_K_isTold_66 rfl ?_ ?_
        · refine kv_iconst (pc := 84) (v := (0 : Int32)) dk_K_isTold_84 kki_0 ?_
          exact kv_zret (pc := 85) (b := false) (fun h => h) rfl dk_K_isTold_85
        · refine kv_aload_n (pc := 69) 0 rfl rfl dk_K_isTold_69 ?_
          refine kv_iload_n (pc := 70) 3 rfl rfl dk_K_isTold_70 ?_
          refine kv_iconst (pc := 71) (v := (4 : Int32)) dk_K_isTold_71 kki_4 ?_
          refine kv_iadd (pc := 72) dk_K_isTold_72 ?_
          refine kv_guard (fun g8 => ?_)
          refine kv_aldC (pc := 73) (kv_7e h1) (kv_7enc h1) (kv_7eln h1) g8 rfl dk_K_isTold_73 ?_
          refine kv_cS_cZ (pc := 74) (as := [.int (c (kv_tg r1 0) (p2 + (4 : Int32)).toNatClampNeg)]) (st := []) ko_K_isDoubt rfl kw_594 (Nat.le_of_ble_eq_true rfl) rfl dk_K_isTold_74 (cx_K_isDoubt d (c (kv_tg r1 0) (p2 + (4 : Int32)).toNatClampNeg) c y) (fun b9 => ?_)
          refine kv_zif_eq (pc := 77) (tgt := 84) dk_K_isTold_77 rfl ?_ ?_
          · refine kv_iconst (pc := 84) (v := (0 : Int32)) dk_K_isTold_84 kki_0 ?_
            exact kv_zret (pc := 85) (b := false) (fun h => h) rfl dk_K_isTold_85
          · refine kv_iconst (pc := 80) (v := (1 : Int32)) dk_K_isTold_80 kki_1 ?_
            refine kv_goto (pc := 81) (tgt := 85) dk_K_isTold_81 rfl ?_
            exact kv_zret (pc := 85) (b := true) (fun h => h) rfl dk_K_isTold_85
theorem dk_K_hearOne_0 : decode prog_1_method_52_code 0 = .ok (.aload_n 0, 1) := by decide +kernel
theorem dk_K_hearOne_1 : decode prog_1_method_52_code 1 = .ok (.getfield 10, 3) := by decide +kernel
theorem dk_K_hearOne_4 : decode prog_1_method_52_code 4 = .ok (.getfield 152, 3) := by decide +kernel
theorem dk_K_hearOne_7 : decode prog_1_method_52_code 7 = .ok (.aload_n 1, 1) := by decide +kernel
theorem dk_K_hearOne_8 : decode prog_1_method_52_code 8 = .ok (.iload_n 2, 1) := by decide +kernel
theorem dk_K_hearOne_9 : decode prog_1_method_52_code 9 = .ok (.iaload, 1) := by decide +kernel
theorem dk_K_hearOne_10 : decode prog_1_method_52_code 10 = .ok (.aload_n 1, 1) := by decide +kernel
theorem dk_K_hearOne_11 : decode prog_1_method_52_code 11 = .ok (.iload_n 2, 1) := by decide +kernel
theorem dk_K_hearOne_12 : decode prog_1_method_52_code 12 = .ok (.iconst 1, 1) := by decide +kernel
theorem dk_K_hearOne_13 : decode prog_1_method_52_code 13 = .ok (.iadd, 1) := by decide +kernel
theorem dk_K_hearOne_14 : decode prog_1_method_52_code 14 = .ok (.iaload, 1) := by decide +kernel
theorem dk_K_hearOne_15 : decode prog_1_method_52_code 15 = .ok (.aload_n 1, 1) := by decide +kernel
theorem dk_K_hearOne_16 : decode prog_1_method_52_code 16 = .ok (.iload_n 2, 1) := by decide +kernel
theorem dk_K_hearOne_17 : decode prog_1_method_52_code 17 = .ok (.iconst 2, 1) := by decide +kernel
theorem dk_K_hearOne_18 : decode prog_1_method_52_code 18 = .ok (.iadd, 1) := by decide +kernel
theorem dk_K_hearOne_19 : decode prog_1_method_52_code 19 = .ok (.iaload, 1) := by decide +kernel
theorem dk_K_hearOne_20 : decode prog_1_method_52_code 20 = .ok (.aload_n 1, 1) := by decide +kernel
theorem dk_K_hearOne_21 : decode prog_1_method_52_code 21 = .ok (.iload_n 2, 1) := by decide +kernel
theorem dk_K_hearOne_22 : decode prog_1_method_52_code 22 = .ok (.iconst 3, 1) := by decide +kernel
theorem dk_K_hearOne_23 : decode prog_1_method_52_code 23 = .ok (.iadd, 1) := by decide +kernel
theorem dk_K_hearOne_24 : decode prog_1_method_52_code 24 = .ok (.iaload, 1) := by decide +kernel
theorem dk_K_hearOne_25 : decode prog_1_method_52_code 25 = .ok (.aload_n 1, 1) := by decide +kernel
theorem dk_K_hearOne_26 : decode prog_1_method_52_code 26 = .ok (.iload_n 2, 1) := by decide +kernel
theorem dk_K_hearOne_27 : decode prog_1_method_52_code 27 = .ok (.iconst 4, 1) := by decide +kernel
theorem dk_K_hearOne_28 : decode prog_1_method_52_code 28 = .ok (.iadd, 1) := by decide +kernel
theorem dk_K_hearOne_29 : decode prog_1_method_52_code 29 = .ok (.iaload, 1) := by decide +kernel
theorem dk_K_hearOne_30 : decode prog_1_method_52_code 30 = .ok (.invokevirtual 165, 3) := by decide +kernel
theorem dk_K_hearOne_33 : decode prog_1_method_52_code 33 = .ok (.pop, 1) := by decide +kernel
theorem dk_K_hearOne_34 : decode prog_1_method_52_code 34 = .ok (.return_, 1) := by decide +kernel
noncomputable def fx_K_hearOne (r1 : Nat) (p2 : Int32) (c : (Nat → Nat → Int32)) : Option (Nat → Nat → Int32) :=
  kv_gd (kv_in p2 (kv_ln r1)) (
  kv_gd (kv_in (p2 + (1 : Int32)) (kv_ln r1)) (
  kv_gd (kv_in (p2 + (2 : Int32)) (kv_ln r1)) (
  kv_gd (kv_in (p2 + (3 : Int32)) (kv_ln r1)) (
  kv_gd (kv_in (p2 + (4 : Int32)) (kv_ln r1)) (
  kv_bind2 (fx_Weighings_add (c r1 p2.toNatClampNeg) (c r1 (p2 + (1 : Int32)).toNatClampNeg) (c r1 (p2 + (2 : Int32)).toNatClampNeg) (c r1 (p2 + (3 : Int32)).toNatClampNeg) (c r1 (p2 + (4 : Int32)).toNatClampNeg) c) (fun v6 c7 =>
  some c7))))))
set_option maxRecDepth 20000 in
theorem cx_K_hearOne (d : Nat) (r1 : Nat) (p2 : Int32) (c : (Nat → Nat → Int32)) (y : (Nat → Nat → Int32) × (Nat → Int64) × (Nat → Int64)) (h1 : kv_kd r1 = 12) (hc1 : r1 < kv_NC) : ∀ a, fx_K_hearOne r1 p2 c = some a → kv_C kM_K_hearOne (d + 1) [.ref 0, .ref r1, .int p2] (c, y) (none, (a, y)) := by
  refine kv_entryX (E := fun a : (Nat → Nat → Int32) => (none, (a, y))) rfl (Nat.le_of_ble_eq_true rfl) (fun o => ?_)
  unfold fx_K_hearOne
  show kv_X _ _ _ _ _ 0 [(0, .ref 0), (1, .ref r1), (2, .int p2)] [] (c, y)
  refine kv_aload_n (pc := 0) 0 rfl rfl dk_K_hearOne_0 ?_
  refine kv_getR (pc := 1) kf_K_10 kr_0 rfl kt_0_0 dk_K_hearOne_1 ?_
  refine kv_getR (pc := 4) kf_K_152 kr_1 rfl kt_1_1 dk_K_hearOne_4 ?_
  refine kv_aload_n (pc := 7) 1 rfl rfl dk_K_hearOne_7 ?_
  refine kv_iload_n (pc := 8) 2 rfl rfl dk_K_hearOne_8 ?_
  refine kv_guard (fun g1 => ?_)
  refine kv_aldC (pc := 9) h1 hc1 rfl g1 rfl dk_K_hearOne_9 ?_
  refine kv_aload_n (pc := 10) 1 rfl rfl dk_K_hearOne_10 ?_
  refine kv_iload_n (pc := 11) 2 rfl rfl dk_K_hearOne_11 ?_
  refine kv_iconst (pc := 12) (v := (1 : Int32)) dk_K_hearOne_12 kki_1 ?_
  refine kv_iadd (pc := 13) dk_K_hearOne_13 ?_
  refine kv_guard (fun g2 => ?_)
  refine kv_aldC (pc := 14) h1 hc1 rfl g2 rfl dk_K_hearOne_14 ?_
  refine kv_aload_n (pc := 15) 1 rfl rfl dk_K_hearOne_15 ?_
  refine kv_iload_n (pc := 16) 2 rfl rfl dk_K_hearOne_16 ?_
  refine kv_iconst (pc := 17) (v := (2 : Int32)) dk_K_hearOne_17 kki_2 ?_
  refine kv_iadd (pc := 18) dk_K_hearOne_18 ?_
  refine kv_guard (fun g3 => ?_)
  refine kv_aldC (pc := 19) h1 hc1 rfl g3 rfl dk_K_hearOne_19 ?_
  refine kv_aload_n (pc := 20) 1 rfl rfl dk_K_hearOne_20 ?_
  refine kv_iload_n (pc := 21) 2 rfl rfl dk_K_hearOne_21 ?_
  refine kv_iconst (pc := 22) (v := (3 : Int32)) dk_K_hearOne_22 kki_3 ?_
  refine kv_iadd (pc := 23) dk_K_hearOne_23 ?_
  refine kv_guard (fun g4 => ?_)
  refine kv_aldC (pc := 24) h1 hc1 rfl g4 rfl dk_K_hearOne_24 ?_
  refine kv_aload_n (pc := 25) 1 rfl rfl dk_K_hearOne_25 ?_
  refine kv_iload_n (pc := 26) 2 rfl rfl dk_K_hearOne_26 ?_
  refine kv_iconst (pc := 27) (v := (4 : Int32)) dk_K_hearOne_27 kki_4 ?_
  refine kv_iadd (pc := 28) dk_K_hearOne_28 ?_
  refine kv_guard (fun g5 => ?_)
  refine kv_aldC (pc := 29) h1 hc1 rfl g5 rfl dk_K_hearOne_29 ?_
  refine kv_cV_cIc (pc := 30) (as := [.int (c r1 p2.toNatClampNeg), .int (c r1 (p2 + (1 : Int32)).toNatClampNeg), .int (c r1 (p2 + (2 : Int32)).toNatClampNeg), .int (c r1 (p2 + (3 : Int32)).toNatClampNeg), .int (c r1 (p2 + (4 : Int32)).toNatClampNeg)]) (st := []) ko_Weighings_add kc_9 rfl rfl kr_10 kw_608 (Nat.le_of_ble_eq_true rfl) rfl dk_K_hearOne_30 (cx_Weighings_add d (c r1 p2.toNatClampNeg) (c r1 (p2 + (1 : Int32)).toNatClampNeg) (c r1 (p2 + (2 : Int32)).toNatClampNeg) (c r1 (p2 + (3 : Int32)).toNatClampNeg) (c r1 (p2 + (4 : Int32)).toNatClampNeg) c y) (fun v6 c7 => ?_)
  refine kv_popI (pc := 33) dk_K_hearOne_33 ?_
  exact kv_vret (pc := 34) (fun h => h) rfl dk_K_hearOne_34
theorem dk_K_hear_0 : decode prog_1_method_10_code 0 = .ok (.aload_n 0, 1) := by decide +kernel
theorem dk_K_hear_1 : decode prog_1_method_10_code 1 = .ok (.iload_n 1, 1) := by decide +kernel
theorem dk_K_hear_2 : decode prog_1_method_10_code 2 = .ok (.invokevirtual 171, 3) := by decide +kernel
theorem dk_K_hear_5 : decode prog_1_method_10_code 5 = .ok (.istore_n 2, 1) := by decide +kernel
theorem dk_K_hear_6 : decode prog_1_method_10_code 6 = .ok (.iload_n 2, 1) := by decide +kernel
theorem dk_K_hear_7 : decode prog_1_method_10_code 7 = .ok (.ifCond .eq 5, 3) := by decide +kernel
theorem dk_K_hear_10 : decode prog_1_method_10_code 10 = .ok (.iload_n 2, 1) := by decide +kernel
theorem dk_K_hear_11 : decode prog_1_method_10_code 11 = .ok (.ireturn, 1) := by decide +kernel
theorem dk_K_hear_12 : decode prog_1_method_10_code 12 = .ok (.aload_n 0, 1) := by decide +kernel
theorem dk_K_hear_13 : decode prog_1_method_10_code 13 = .ok (.getfield 21, 3) := by decide +kernel
theorem dk_K_hear_16 : decode prog_1_method_10_code 16 = .ok (.iload_n 1, 1) := by decide +kernel
theorem dk_K_hear_17 : decode prog_1_method_10_code 17 = .ok (.aaload, 1) := by decide +kernel
theorem dk_K_hear_18 : decode prog_1_method_10_code 18 = .ok (.astore_n 3, 1) := by decide +kernel
theorem dk_K_hear_19 : decode prog_1_method_10_code 19 = .ok (.iconst 0, 1) := by decide +kernel
theorem dk_K_hear_20 : decode prog_1_method_10_code 20 = .ok (.istore 4, 2) := by decide +kernel
theorem dk_K_hear_22 : decode prog_1_method_10_code 22 = .ok (.iconst 0, 1) := by decide +kernel
theorem dk_K_hear_23 : decode prog_1_method_10_code 23 = .ok (.istore 5, 2) := by decide +kernel
theorem dk_K_hear_25 : decode prog_1_method_10_code 25 = .ok (.iload 5, 2) := by decide +kernel
theorem dk_K_hear_27 : decode prog_1_method_10_code 27 = .ok (.iconst 5, 1) := by decide +kernel
theorem dk_K_hear_28 : decode prog_1_method_10_code 28 = .ok (.iadd, 1) := by decide +kernel
theorem dk_K_hear_29 : decode prog_1_method_10_code 29 = .ok (.aload_n 3, 1) := by decide +kernel
theorem dk_K_hear_30 : decode prog_1_method_10_code 30 = .ok (.getfield 174, 3) := by decide +kernel
theorem dk_K_hear_33 : decode prog_1_method_10_code 33 = .ok (.if_icmp .gt 44, 3) := by decide +kernel
theorem dk_K_hear_36 : decode prog_1_method_10_code 36 = .ok (.aload_n 3, 1) := by decide +kernel
theorem dk_K_hear_37 : decode prog_1_method_10_code 37 = .ok (.iload 5, 2) := by decide +kernel
theorem dk_K_hear_39 : decode prog_1_method_10_code 39 = .ok (.invokevirtual 177, 3) := by decide +kernel
theorem dk_K_hear_42 : decode prog_1_method_10_code 42 = .ok (.ifCond .ne 29, 3) := by decide +kernel
theorem dk_K_hear_45 : decode prog_1_method_10_code 45 = .ok (.aload_n 0, 1) := by decide +kernel
theorem dk_K_hear_46 : decode prog_1_method_10_code 46 = .ok (.aload_n 3, 1) := by decide +kernel
theorem dk_K_hear_47 : decode prog_1_method_10_code 47 = .ok (.iload 5, 2) := by decide +kernel
theorem dk_K_hear_49 : decode prog_1_method_10_code 49 = .ok (.invokevirtual 180, 3) := by decide +kernel
theorem dk_K_hear_52 : decode prog_1_method_10_code 52 = .ok (.ifCond .ne 6, 3) := by decide +kernel
theorem dk_K_hear_55 : decode prog_1_method_10_code 55 = .ok (.goto 22, 3) := by decide +kernel
theorem dk_K_hear_58 : decode prog_1_method_10_code 58 = .ok (.aload_n 0, 1) := by decide +kernel
theorem dk_K_hear_59 : decode prog_1_method_10_code 59 = .ok (.aload_n 3, 1) := by decide +kernel
theorem dk_K_hear_60 : decode prog_1_method_10_code 60 = .ok (.getfield 184, 3) := by decide +kernel
theorem dk_K_hear_63 : decode prog_1_method_10_code 63 = .ok (.iload 5, 2) := by decide +kernel
theorem dk_K_hear_65 : decode prog_1_method_10_code 65 = .ok (.invokevirtual 187, 3) := by decide +kernel
theorem dk_K_hear_68 : decode prog_1_method_10_code 68 = .ok (.iinc 4 1, 3) := by decide +kernel
theorem dk_K_hear_71 : decode prog_1_method_10_code 71 = .ok (.iinc 5 5, 3) := by decide +kernel
theorem dk_K_hear_74 : decode prog_1_method_10_code 74 = .ok (.goto (-49), 3) := by decide +kernel
theorem dk_K_hear_77 : decode prog_1_method_10_code 77 = .ok (.iload 4, 2) := by decide +kernel
theorem dk_K_hear_79 : decode prog_1_method_10_code 79 = .ok (.ireturn, 1) := by decide +kernel
noncomputable def fj_K_hear_71 (x4 : Int32) (x11 : Int32) (c12 : (Nat → Nat → Int32)) : Option ((Int32 × Int32 × (Nat → Nat → Int32)) ⊕ ((Int32 × (Nat → Nat → Int32)) ⊕ (Int32 × (Nat → Nat → Int32)))) :=
  some (.inl (x11, (x4 + (5 : Int32)), c12))
noncomputable def fb_K_hear_25 (p1 : Int32) (x3 : Int32) (x4 : Int32) (c5 : (Nat → Nat → Int32)) : Option ((Int32 × Int32 × (Nat → Nat → Int32)) ⊕ ((Int32 × (Nat → Nat → Int32)) ⊕ (Int32 × (Nat → Nat → Int32)))) :=
  if (c5 (kv_tg 51 p1.toNatClampNeg) 3) < (x4 + (5 : Int32)) then
    some (.inr (.inr (x3, c5)))
  else
    kv_bind1 (fx_Shelf_isLost (kv_tg 51 p1.toNatClampNeg) x4 c5) (fun b10 =>
    if b10 = true then
      fj_K_hear_71 x4 x3 c5
    else
      kv_bind1 (fx_K_isTold (kv_tg 51 p1.toNatClampNeg) x4 c5) (fun b13 =>
      if b13 = true then
        kv_bind1 (fx_K_hearOne (kv_tg (kv_tg 51 p1.toNatClampNeg) 0) x4 c5) (fun c14 =>
        fj_K_hear_71 x4 (x3 + (1 : Int32)) c14)
      else
        some (.inr (.inl (x3, c5)))))
noncomputable def fx_K_hear (p1 : Int32) (c : (Nat → Nat → Int32)) : Option (Int32 × (Nat → Nat → Int32)) :=
  kv_bind1 (fx_K_rowRefusal p1 c) (fun v1 =>
  if v1 = 0 then
    kv_gd (kv_in p1 8) (
    (kv_loop (kv_u3 (fb_K_hear_25 p1)) ((0 : Int32), (0 : Int32), c)).bind (Sum.elim (kv_u2 (fun x6 c7 =>
    some (x6, c7)))
     (kv_u2 (fun x8 c9 =>
    some (x8, c9)))))
  else
    some (v1, c))
set_option maxRecDepth 20000 in
theorem cx_K_hear (d : Nat) (p1 : Int32) (c : (Nat → Nat → Int32)) (y : (Nat → Nat → Int32) × (Nat → Int64) × (Nat → Int64)) : ∀ a, fx_K_hear p1 c = some a → kv_C kM_K_hear (d + 3) [.ref 0, .int p1] (c, y) (some (.int a.1), (a.2, y)) := by
  refine kv_entryX (E := fun a : (Int32 × (Nat → Nat → Int32)) => (some (.int a.1), (a.2, y))) rfl (Nat.le_of_ble_eq_true rfl) (fun o => ?_)
  unfold fx_K_hear
  show kv_X _ _ _ _ _ 0 [(0, .ref 0), (1, .int p1)] [] (c, y)
  refine kv_aload_n (pc := 0) 0 rfl rfl dk_K_hear_0 ?_
  refine kv_iload_n (pc := 1) 1 rfl rfl dk_K_hear_1 ?_
  refine kv_cV_cI (pc := 2) (as := [.int p1]) (st := []) ko_K_rowRefusal kc_10 rfl rfl kr_0 kw_620 (Nat.le_of_ble_eq_true rfl) rfl dk_K_hear_2 (cx_K_rowRefusal d p1 c y) (fun v1 => ?_)
  refine kv_istore_n (pc := 5) (lv' := [(2, .int v1), (0, .ref 0), (1, .int p1)]) rfl (Nat.le_of_ble_eq_true rfl) rfl dk_K_hear_5 ?_
  refine kv_iload_n (pc := 6) 0 rfl rfl dk_K_hear_6 ?_
  refine kv_if_eq (pc := 7) (tgt := 12) dk_K_hear_7 rfl ?_ ?_
  · refine kv_aload_n (pc := 12) 1 rfl rfl dk_K_hear_12 ?_
    refine kv_getR (pc := 13) kf_K_21 kr_0 rfl kt_0_3 dk_K_hear_13 ?_
    refine kv_iload_n (pc := 16) 2 rfl rfl dk_K_hear_16 ?_
    refine kv_guard (fun g2 => ?_)
    refine kv_aald (pc := 17) kr_51 kl_51 g2 rfl dk_K_hear_17 ?_
    refine kv_astore_n (pc := 18) (lv' := [(3, .ref (kv_tg 51 p1.toNatClampNeg)), (2, .int v1), (0, .ref 0), (1, .int p1)]) rfl (Nat.le_of_ble_eq_true rfl) rfl dk_K_hear_18 ?_
    refine kv_iconst (pc := 19) (v := (0 : Int32)) dk_K_hear_19 kki_0 ?_
    refine kv_istore (pc := 20) (lv' := [(4, .int (0 : Int32)), (3, .ref (kv_tg 51 p1.toNatClampNeg)), (2, .int v1), (0, .ref 0), (1, .int p1)]) rfl (Nat.le_of_ble_eq_true rfl) dk_K_hear_20 ?_
    refine kv_iconst (pc := 22) (v := (0 : Int32)) dk_K_hear_22 kki_0 ?_
    refine kv_istore (pc := 23) (lv' := [(5, .int (0 : Int32)), (4, .int (0 : Int32)), (3, .ref (kv_tg 51 p1.toNatClampNeg)), (2, .int v1), (0, .ref 0), (1, .int p1)]) rfl (Nat.le_of_ble_eq_true rfl) dk_K_hear_23 ?_
    refine kv_sub (lv' := [(0, .ref 0), (3, .ref (kv_tg 51 p1.toNatClampNeg)), (4, .int (0 : Int32)), (5, .int (0 : Int32))]) [4, 2, 1, 0] rfl ?_
    refine kv_lp_3_2_2 (LV := fun x3 x4 c5 => [(0, .ref 0), (3, .ref (kv_tg 51 p1.toNatClampNeg)), (4, .int x3), (5, .int x4)]) (WW := fun x3 x4 c5 => (c5, y)) (LE1 := fun x6 c7 => [(4, .int x6)]) (WE1 := fun x6 c7 => (c7, y)) (pe1 := 55) (LE2 := fun x8 c9 => [(4, .int x8)]) (WE2 := fun x8 c9 => (c9, y)) (pe2 := 77) ?_ ?_ ?_
    · intro x6 c7
      show kv_X _ _ _ _ _ 55 [(4, .int x6)] [] (c7, y)
      refine kv_goto (pc := 55) (tgt := 77) dk_K_hear_55 rfl ?_
      refine kv_iload (pc := 77) 0 rfl dk_K_hear_77 ?_
      exact kv_iret (pc := 79) (fun h => h) rfl dk_K_hear_79
    · intro x8 c9
      show kv_X _ _ _ _ _ 77 [(4, .int x8)] [] (c9, y)
      refine kv_iload (pc := 77) 0 rfl dk_K_hear_77 ?_
      exact kv_iret (pc := 79) (fun h => h) rfl dk_K_hear_79
    · intro hx25_0 hx25_1 x3 x4 c5
      show kv_X _ _ _ _ (fb_K_hear_25 p1 x3 x4 c5) 25 [(0, .ref 0), (3, .ref (kv_tg 51 p1.toNatClampNeg)), (4, .int x3), (5, .int x4)] [] (c5, y)
      unfold fb_K_hear_25
      refine kv_iload (pc := 25) 3 rfl dk_K_hear_25 ?_
      refine kv_iconst (pc := 27) (v := (5 : Int32)) dk_K_hear_27 kki_5 ?_
      refine kv_iadd (pc := 28) dk_K_hear_28 ?_
      refine kv_aload_n (pc := 29) 1 rfl rfl dk_K_hear_29 ?_
      refine kv_getC (pc := 30) kf_K_174 (kv_sh g2) (kv_7nc (kv_sh g2)) rfl dk_K_hear_30 ?_
      refine kv_icmp_gt (pc := 33) (tgt := 77) dk_K_hear_33 rfl ?_ ?_
      · exact kv_sub [2] rfl (kv_leaf (hx25_1 _ _))
      · refine kv_aload_n (pc := 36) 1 rfl rfl dk_K_hear_36 ?_
        refine kv_iload (pc := 37) 3 rfl dk_K_hear_37 ?_
        refine kv_cV_cZ (pc := 39) (as := [.int x4]) (st := []) ko_Shelf_isLost kc_7 rfl rfl (kv_sh g2) kw_635 (Nat.le_of_ble_eq_true rfl) rfl dk_K_hear_39 (cx_Shelf_isLost (d + 1) (kv_tg 51 p1.toNatClampNeg) x4 c5 y (kv_sh g2)) (fun b10 => ?_)
        refine kv_cut_2 (J := fj_K_hear_71 x4) (pcj := 71) (LJ := fun x11 c12 => [(0, .ref 0), (3, .ref (kv_tg 51 p1.toNatClampNeg)), (4, .int x11), (5, .int x4)]) (SJ := fun x11 c12 => []) (WJ := fun x11 c12 => (c12, y)) ?_ (fun hj71 => ?_)
        · intro x11 c12
          show kv_X _ _ _ _ (fj_K_hear_71 x4 x11 c12) 71 [(0, .ref 0), (3, .ref (kv_tg 51 p1.toNatClampNeg)), (4, .int x11), (5, .int x4)] [] (c12, y)
          unfold fj_K_hear_71
          refine kv_iinc (pc := 71) (kk := (5 : Int32)) (lv' := [(5, .int (x4 + (5 : Int32))), (0, .ref 0), (3, .ref (kv_tg 51 p1.toNatClampNeg)), (4, .int x11)]) 3 rfl kki_5 rfl (Nat.le_of_ble_eq_true rfl) dk_K_hear_71 ?_
          refine kv_goto (pc := 74) (tgt := 25) dk_K_hear_74 rfl ?_
          exact kv_sub [1, 2, 3, 0] rfl (kv_leaf (fun h => h))
        refine kv_zif_ne (pc := 42) (tgt := 71) dk_K_hear_42 rfl ?_ ?_
        · exact hj71 x3 c5
        · refine kv_aload_n (pc := 45) 0 rfl rfl dk_K_hear_45 ?_
          refine kv_aload_n (pc := 46) 1 rfl rfl dk_K_hear_46 ?_
          refine kv_iload (pc := 47) 3 rfl dk_K_hear_47 ?_
          refine kv_cV_cZ (pc := 49) (as := [.ref (kv_tg 51 p1.toNatClampNeg), .int x4]) (st := []) ko_K_isTold kc_10 rfl rfl kr_0 kw_644 (Nat.le_of_ble_eq_true rfl) rfl dk_K_hear_49 (cx_K_isTold d (kv_tg 51 p1.toNatClampNeg) x4 c5 y (kv_sh g2)) (fun b13 => ?_)
          refine kv_zif_ne (pc := 52) (tgt := 58) dk_K_hear_52 rfl ?_ ?_
          · refine kv_aload_n (pc := 58) 0 rfl rfl dk_K_hear_58 ?_
            refine kv_aload_n (pc := 59) 1 rfl rfl dk_K_hear_59 ?_
            refine kv_getR (pc := 60) kf_K_184 (kv_sh g2) rfl rfl dk_K_hear_60 ?_
            refine kv_iload (pc := 63) 3 rfl dk_K_hear_63 ?_
            refine kv_cV_cc (pc := 65) (as := [.ref (kv_tg (kv_tg 51 p1.toNatClampNeg) 0), .int x4]) (st := []) ko_K_hearOne kc_10 rfl rfl kr_0 kw_650 (Nat.le_of_ble_eq_true rfl) rfl dk_K_hear_65 (cx_K_hearOne (d + 1) (kv_tg (kv_tg 51 p1.toNatClampNeg) 0) x4 c5 y (kv_7e (kv_sh g2)) (kv_7enc (kv_sh g2))) (fun c14 => ?_)
            refine kv_iinc (pc := 68) (kk := (1 : Int32)) (lv' := [(4, .int (x3 + (1 : Int32))), (0, .ref 0), (3, .ref (kv_tg 51 p1.toNatClampNeg)), (5, .int x4)]) 2 rfl kki_1 rfl (Nat.le_of_ble_eq_true rfl) dk_K_hear_68 ?_
            exact kv_sub [1, 2, 0, 3] rfl (hj71 (x3 + (1 : Int32)) c14)
          · exact kv_sub [2] rfl (kv_leaf (hx25_0 _ _))
  · refine kv_iload_n (pc := 10) 0 rfl rfl dk_K_hear_10 ?_
    exact kv_iret (pc := 11) (fun h => h) rfl dk_K_hear_11
theorem dk_D_isShelf_0 : decode prog_13_method_6_code 0 = .ok (.iload_n 0, 1) := by decide +kernel
theorem dk_D_isShelf_1 : decode prog_13_method_6_code 1 = .ok (.i2l, 1) := by decide +kernel
theorem dk_D_isShelf_2 : decode prog_13_method_6_code 2 = .ok (.lconst 0, 1) := by decide +kernel
theorem dk_D_isShelf_3 : decode prog_13_method_6_code 3 = .ok (.ldc2_w 66, 3) := by decide +kernel
theorem dk_D_isShelf_6 : decode prog_13_method_6_code 6 = .ok (.invokestatic 60, 3) := by decide +kernel
theorem dk_D_isShelf_9 : decode prog_13_method_6_code 9 = .ok (.ireturn, 1) := by decide +kernel
noncomputable def fx_D_isShelf (p0 : Int32) : Option Bool :=
  kv_bind1 (fx_D_isIn p0.toInt64 (0 : Int64) (7 : Int64)) (fun b1 =>
  some b1)
set_option maxRecDepth 20000 in
theorem cx_D_isShelf (d : Nat) (p0 : Int32) (c : (Nat → Nat → Int32)) (m : (Nat → Nat → Int32)) (f : (Nat → Int64)) (u : (Nat → Int64)) : ∀ a, fx_D_isShelf p0 = some a → kv_C kM_D_isShelf (d + 1) [.int p0] (c, m, f, u) (some (.int (kv_b a)), (c, m, f, u)) := by
  refine kv_entryX (E := fun a : Bool => (some (.int (kv_b a)), (c, m, f, u))) rfl (Nat.le_of_ble_eq_true rfl) (fun o => ?_)
  unfold fx_D_isShelf
  show kv_X _ _ _ _ _ 0 [(0, .int p0)] [] (c, m, f, u)
  refine kv_iload_n (pc := 0) 0 rfl rfl dk_D_isShelf_0 ?_
  refine kv_i2l (pc := 1) dk_D_isShelf_1 ?_
  refine kv_lconst (pc := 2) (v := (0 : Int64)) dk_D_isShelf_2 kkl_0 ?_
  refine kv_ldc2 (pc := 3) (v := (7 : Int64)) kw_1419 dk_D_isShelf_3 ?_
  refine kv_cS_mZ (pc := 6) (as := [.long p0.toInt64, .long (0 : Int64), .long (7 : Int64)]) (st := []) ko_D_isIn rfl kw_1330 (Nat.le_of_ble_eq_true rfl) rfl dk_D_isShelf_6 (cx_D_isIn d p0.toInt64 (0 : Int64) (7 : Int64) c m f u) (fun b1 => ?_)
  exact kv_zret (pc := 9) (b := b1) (fun h => h) rfl dk_D_isShelf_9
theorem dk_D_wrongRow_0 : decode prog_13_method_21_code 0 = .ok (.iload_n 1, 1) := by decide +kernel
theorem dk_D_wrongRow_1 : decode prog_13_method_21_code 1 = .ok (.invokestatic 123, 3) := by decide +kernel
theorem dk_D_wrongRow_4 : decode prog_13_method_21_code 4 = .ok (.ifCond .ne 7, 3) := by decide +kernel
theorem dk_D_wrongRow_7 : decode prog_13_method_21_code 7 = .ok (.iconst (-1), 1) := by decide +kernel
theorem dk_D_wrongRow_8 : decode prog_13_method_21_code 8 = .ok (.goto 47, 3) := by decide +kernel
theorem dk_D_wrongRow_11 : decode prog_13_method_21_code 11 = .ok (.aload_n 0, 1) := by decide +kernel
theorem dk_D_wrongRow_12 : decode prog_13_method_21_code 12 = .ok (.getfield 16, 3) := by decide +kernel
theorem dk_D_wrongRow_15 : decode prog_13_method_21_code 15 = .ok (.iload_n 1, 1) := by decide +kernel
theorem dk_D_wrongRow_16 : decode prog_13_method_21_code 16 = .ok (.iaload, 1) := by decide +kernel
theorem dk_D_wrongRow_17 : decode prog_13_method_21_code 17 = .ok (.ifCond .ne 8, 3) := by decide +kernel
theorem dk_D_wrongRow_20 : decode prog_13_method_21_code 20 = .ok (.bipush (-11), 2) := by decide +kernel
theorem dk_D_wrongRow_22 : decode prog_13_method_21_code 22 = .ok (.goto 33, 3) := by decide +kernel
theorem dk_D_wrongRow_25 : decode prog_13_method_21_code 25 = .ok (.aload_n 0, 1) := by decide +kernel
theorem dk_D_wrongRow_26 : decode prog_13_method_21_code 26 = .ok (.getfield 16, 3) := by decide +kernel
theorem dk_D_wrongRow_29 : decode prog_13_method_21_code 29 = .ok (.iload_n 1, 1) := by decide +kernel
theorem dk_D_wrongRow_30 : decode prog_13_method_21_code 30 = .ok (.iaload, 1) := by decide +kernel
theorem dk_D_wrongRow_31 : decode prog_13_method_21_code 31 = .ok (.iconst 2, 1) := by decide +kernel
theorem dk_D_wrongRow_32 : decode prog_13_method_21_code 32 = .ok (.if_icmp .ne 17, 3) := by decide +kernel
theorem dk_D_wrongRow_35 : decode prog_13_method_21_code 35 = .ok (.iload_n 2, 1) := by decide +kernel
theorem dk_D_wrongRow_36 : decode prog_13_method_21_code 36 = .ok (.ifCond .lt 18, 3) := by decide +kernel
theorem dk_D_wrongRow_39 : decode prog_13_method_21_code 39 = .ok (.aload_n 0, 1) := by decide +kernel
theorem dk_D_wrongRow_40 : decode prog_13_method_21_code 40 = .ok (.getfield 19, 3) := by decide +kernel
theorem dk_D_wrongRow_43 : decode prog_13_method_21_code 43 = .ok (.iload_n 1, 1) := by decide +kernel
theorem dk_D_wrongRow_44 : decode prog_13_method_21_code 44 = .ok (.iaload, 1) := by decide +kernel
theorem dk_D_wrongRow_45 : decode prog_13_method_21_code 45 = .ok (.iload_n 2, 1) := by decide +kernel
theorem dk_D_wrongRow_46 : decode prog_13_method_21_code 46 = .ok (.if_icmp .eq 8, 3) := by decide +kernel
theorem dk_D_wrongRow_49 : decode prog_13_method_21_code 49 = .ok (.bipush (-12), 2) := by decide +kernel
theorem dk_D_wrongRow_51 : decode prog_13_method_21_code 51 = .ok (.goto 4, 3) := by decide +kernel
theorem dk_D_wrongRow_54 : decode prog_13_method_21_code 54 = .ok (.iconst 0, 1) := by decide +kernel
theorem dk_D_wrongRow_55 : decode prog_13_method_21_code 55 = .ok (.ireturn, 1) := by decide +kernel
noncomputable def fx_D_wrongRow (p1 : Int32) (p2 : Int32) (m : (Nat → Nat → Int32)) : Option Int32 :=
  kv_bind1 (fx_D_isShelf p1) (fun b1 =>
  if b1 = true then
    kv_gd (kv_in p1 8) (
    if (m 87 p1.toNatClampNeg) = 0 then
      some (-11 : Int32)
    else
      if (m 87 p1.toNatClampNeg) = (2 : Int32) then
        if p2 < 0 then
          some (0 : Int32)
        else
          if (m 88 p1.toNatClampNeg) = p2 then
            some (0 : Int32)
          else
            some (-12 : Int32)
      else
        some (-12 : Int32))
  else
    some (-1 : Int32))
set_option maxRecDepth 20000 in
theorem cx_D_wrongRow (d : Nat) (p1 : Int32) (p2 : Int32) (c : (Nat → Nat → Int32)) (m : (Nat → Nat → Int32)) (f : (Nat → Int64)) (u : (Nat → Int64)) : ∀ a, fx_D_wrongRow p1 p2 m = some a → kv_C kM_D_wrongRow (d + 2) [.ref 84, .int p1, .int p2] (c, m, f, u) (some (.int a), (c, m, f, u)) := by
  refine kv_entryX (E := fun a : Int32 => (some (.int a), (c, m, f, u))) rfl (Nat.le_of_ble_eq_true rfl) (fun o => ?_)
  unfold fx_D_wrongRow
  show kv_X _ _ _ _ _ 0 [(0, .ref 84), (1, .int p1), (2, .int p2)] [] (c, m, f, u)
  refine kv_iload_n (pc := 0) 1 rfl rfl dk_D_wrongRow_0 ?_
  refine kv_cS_mZ (pc := 1) (as := [.int p1]) (st := []) ko_D_isShelf rfl kw_1416 (Nat.le_of_ble_eq_true rfl) rfl dk_D_wrongRow_1 (cx_D_isShelf d p1 c m f u) (fun b1 => ?_)
  refine kv_zif_ne (pc := 4) (tgt := 11) dk_D_wrongRow_4 rfl ?_ ?_
  · refine kv_aload_n (pc := 11) 0 rfl rfl dk_D_wrongRow_11 ?_
    refine kv_getR (pc := 12) kf_D_16 kr_84 rfl kt_84_2 dk_D_wrongRow_12 ?_
    refine kv_iload_n (pc := 15) 1 rfl rfl dk_D_wrongRow_15 ?_
    refine kv_guard (fun g2 => ?_)
    refine kv_aldM (pc := 16) kr_87 kn_87 kl_87 g2 rfl dk_D_wrongRow_16 ?_
    refine kv_if_ne (pc := 17) (tgt := 25) dk_D_wrongRow_17 rfl ?_ ?_
    · refine kv_aload_n (pc := 25) 0 rfl rfl dk_D_wrongRow_25 ?_
      refine kv_getR (pc := 26) kf_D_16 kr_84 rfl kt_84_2 dk_D_wrongRow_26 ?_
      refine kv_iload_n (pc := 29) 1 rfl rfl dk_D_wrongRow_29 ?_
      refine kv_aldM (pc := 30) kr_87 kn_87 kl_87 g2 rfl dk_D_wrongRow_30 ?_
      refine kv_iconst (pc := 31) (v := (2 : Int32)) dk_D_wrongRow_31 kki_2 ?_
      refine kv_icmp_ne (pc := 32) (tgt := 49) dk_D_wrongRow_32 rfl ?_ ?_
      · refine kv_bipush (pc := 49) (v := (-12 : Int32)) dk_D_wrongRow_49 kkb_m12 ?_
        refine kv_goto (pc := 51) (tgt := 55) dk_D_wrongRow_51 rfl ?_
        exact kv_iret (pc := 55) (fun h => h) rfl dk_D_wrongRow_55
      · refine kv_iload_n (pc := 35) 2 rfl rfl dk_D_wrongRow_35 ?_
        refine kv_if_lt (pc := 36) (tgt := 54) dk_D_wrongRow_36 rfl ?_ ?_
        · refine kv_iconst (pc := 54) (v := (0 : Int32)) dk_D_wrongRow_54 kki_0 ?_
          exact kv_iret (pc := 55) (fun h => h) rfl dk_D_wrongRow_55
        · refine kv_aload_n (pc := 39) 0 rfl rfl dk_D_wrongRow_39 ?_
          refine kv_getR (pc := 40) kf_D_19 kr_84 rfl kt_84_3 dk_D_wrongRow_40 ?_
          refine kv_iload_n (pc := 43) 1 rfl rfl dk_D_wrongRow_43 ?_
          refine kv_aldM (pc := 44) kr_88 kn_88 kl_88 g2 rfl dk_D_wrongRow_44 ?_
          refine kv_iload_n (pc := 45) 2 rfl rfl dk_D_wrongRow_45 ?_
          refine kv_icmp_eq (pc := 46) (tgt := 54) dk_D_wrongRow_46 rfl ?_ ?_
          · refine kv_iconst (pc := 54) (v := (0 : Int32)) dk_D_wrongRow_54 kki_0 ?_
            exact kv_iret (pc := 55) (fun h => h) rfl dk_D_wrongRow_55
          · refine kv_bipush (pc := 49) (v := (-12 : Int32)) dk_D_wrongRow_49 kkb_m12 ?_
            refine kv_goto (pc := 51) (tgt := 55) dk_D_wrongRow_51 rfl ?_
            exact kv_iret (pc := 55) (fun h => h) rfl dk_D_wrongRow_55
    · refine kv_bipush (pc := 20) (v := (-11 : Int32)) dk_D_wrongRow_20 kkb_m11 ?_
      refine kv_goto (pc := 22) (tgt := 55) dk_D_wrongRow_22 rfl ?_
      exact kv_iret (pc := 55) (fun h => h) rfl dk_D_wrongRow_55
  · refine kv_iconst (pc := 7) (v := (-1 : Int32)) dk_D_wrongRow_7 kki_m1 ?_
    refine kv_goto (pc := 8) (tgt := 55) dk_D_wrongRow_8 rfl ?_
    exact kv_iret (pc := 55) (fun h => h) rfl dk_D_wrongRow_55
theorem dk_D_isLost_0 : decode prog_13_method_22_code 0 = .ok (.aload_n 0, 1) := by decide +kernel
theorem dk_D_isLost_1 : decode prog_13_method_22_code 1 = .ok (.getfield 19, 3) := by decide +kernel
theorem dk_D_isLost_4 : decode prog_13_method_22_code 4 = .ok (.iload_n 1, 1) := by decide +kernel
theorem dk_D_isLost_5 : decode prog_13_method_22_code 5 = .ok (.iaload, 1) := by decide +kernel
theorem dk_D_isLost_6 : decode prog_13_method_22_code 6 = .ok (.ifCond .ne 8, 3) := by decide +kernel
theorem dk_D_isLost_9 : decode prog_13_method_22_code 9 = .ok (.bipush (-128), 2) := by decide +kernel
theorem dk_D_isLost_11 : decode prog_13_method_22_code 11 = .ok (.goto 21, 3) := by decide +kernel
theorem dk_D_isLost_14 : decode prog_13_method_22_code 14 = .ok (.aload_n 0, 1) := by decide +kernel
theorem dk_D_isLost_15 : decode prog_13_method_22_code 15 = .ok (.getfield 19, 3) := by decide +kernel
theorem dk_D_isLost_18 : decode prog_13_method_22_code 18 = .ok (.iload_n 1, 1) := by decide +kernel
theorem dk_D_isLost_19 : decode prog_13_method_22_code 19 = .ok (.iaload, 1) := by decide +kernel
theorem dk_D_isLost_20 : decode prog_13_method_22_code 20 = .ok (.iconst 1, 1) := by decide +kernel
theorem dk_D_isLost_21 : decode prog_13_method_22_code 21 = .ok (.if_icmp .ne 9, 3) := by decide +kernel
theorem dk_D_isLost_24 : decode prog_13_method_22_code 24 = .ok (.sipush (-32768), 3) := by decide +kernel
theorem dk_D_isLost_27 : decode prog_13_method_22_code 27 = .ok (.goto 5, 3) := by decide +kernel
theorem dk_D_isLost_30 : decode prog_13_method_22_code 30 = .ok (.ldc 126, 2) := by decide +kernel
theorem dk_D_isLost_32 : decode prog_13_method_22_code 32 = .ok (.istore_n 3, 1) := by decide +kernel
theorem dk_D_isLost_33 : decode prog_13_method_22_code 33 = .ok (.iconst 0, 1) := by decide +kernel
theorem dk_D_isLost_34 : decode prog_13_method_22_code 34 = .ok (.istore 4, 2) := by decide +kernel
theorem dk_D_isLost_36 : decode prog_13_method_22_code 36 = .ok (.iload 4, 2) := by decide +kernel
theorem dk_D_isLost_38 : decode prog_13_method_22_code 38 = .ok (.iconst 5, 1) := by decide +kernel
theorem dk_D_isLost_39 : decode prog_13_method_22_code 39 = .ok (.if_icmp .ge 24, 3) := by decide +kernel
theorem dk_D_isLost_42 : decode prog_13_method_22_code 42 = .ok (.aload_n 0, 1) := by decide +kernel
theorem dk_D_isLost_43 : decode prog_13_method_22_code 43 = .ok (.getfield 25, 3) := by decide +kernel
theorem dk_D_isLost_46 : decode prog_13_method_22_code 46 = .ok (.iload_n 2, 1) := by decide +kernel
theorem dk_D_isLost_47 : decode prog_13_method_22_code 47 = .ok (.iload 4, 2) := by decide +kernel
theorem dk_D_isLost_49 : decode prog_13_method_22_code 49 = .ok (.iadd, 1) := by decide +kernel
theorem dk_D_isLost_50 : decode prog_13_method_22_code 50 = .ok (.iaload, 1) := by decide +kernel
theorem dk_D_isLost_51 : decode prog_13_method_22_code 51 = .ok (.iload_n 3, 1) := by decide +kernel
theorem dk_D_isLost_52 : decode prog_13_method_22_code 52 = .ok (.if_icmp .ne 5, 3) := by decide +kernel
theorem dk_D_isLost_55 : decode prog_13_method_22_code 55 = .ok (.iconst 1, 1) := by decide +kernel
theorem dk_D_isLost_56 : decode prog_13_method_22_code 56 = .ok (.ireturn, 1) := by decide +kernel
theorem dk_D_isLost_57 : decode prog_13_method_22_code 57 = .ok (.iinc 4 1, 3) := by decide +kernel
theorem dk_D_isLost_60 : decode prog_13_method_22_code 60 = .ok (.goto (-24), 3) := by decide +kernel
theorem dk_D_isLost_63 : decode prog_13_method_22_code 63 = .ok (.iconst 0, 1) := by decide +kernel
theorem dk_D_isLost_64 : decode prog_13_method_22_code 64 = .ok (.ireturn, 1) := by decide +kernel
noncomputable def fb_D_isLost_36 (p2 : Int32) (m : (Nat → Nat → Int32)) (x2 : Int32) (x3 : Int32) : Option (Int32 ⊕ (Unit ⊕ Unit)) :=
  if (5 : Int32) ≤ x3 then
    some (.inr (.inr ()))
  else
    kv_gd (kv_in (p2 + x3) 800) (
    if (m 90 (p2 + x3).toNatClampNeg) = x2 then
      some (.inr (.inl ()))
    else
      some (.inl (x3 + (1 : Int32))))
noncomputable def fj_D_isLost_32 (p2 : Int32) (m : (Nat → Nat → Int32)) (x2 : Int32) : Option Bool :=
  (kv_loop (kv_u1 (fb_D_isLost_36 p2 m x2)) (0 : Int32)).bind (Sum.elim (kv_u0 (
  some true))
   (kv_u0 (
  some false)))
noncomputable def fx_D_isLost (p1 : Int32) (p2 : Int32) (m : (Nat → Nat → Int32)) : Option Bool :=
  kv_gd (kv_in p1 8) (
  if (m 88 p1.toNatClampNeg) = 0 then
    fj_D_isLost_32 p2 m (-128 : Int32)
  else
    if (m 88 p1.toNatClampNeg) = (1 : Int32) then
      fj_D_isLost_32 p2 m (-32768 : Int32)
    else
      fj_D_isLost_32 p2 m (-2147483648 : Int32))
set_option maxRecDepth 20000 in
theorem cx_D_isLost (d : Nat) (p1 : Int32) (p2 : Int32) (c : (Nat → Nat → Int32)) (m : (Nat → Nat → Int32)) (f : (Nat → Int64)) (u : (Nat → Int64)) : ∀ a, fx_D_isLost p1 p2 m = some a → kv_C kM_D_isLost (d + 0) [.ref 84, .int p1, .int p2] (c, m, f, u) (some (.int (kv_b a)), (c, m, f, u)) := by
  refine kv_entryX (E := fun a : Bool => (some (.int (kv_b a)), (c, m, f, u))) rfl (Nat.le_of_ble_eq_true rfl) (fun o => ?_)
  unfold fx_D_isLost
  show kv_X _ _ _ _ _ 0 [(0, .ref 84), (1, .int p1), (2, .int p2)] [] (c, m, f, u)
  refine kv_aload_n (pc := 0) 0 rfl rfl dk_D_isLost_0 ?_
  refine kv_getR (pc := 1) kf_D_19 kr_84 rfl kt_84_3 dk_D_isLost_1 ?_
  refine kv_iload_n (pc := 4) 1 rfl rfl dk_D_isLost_4 ?_
  refine kv_guard (fun g1 => ?_)
  refine kv_aldM (pc := 5) kr_88 kn_88 kl_88 g1 rfl dk_D_isLost_5 ?_
  refine kv_cut_1 (J := fj_D_isLost_32 p2 m) (pcj := 32) (LJ := fun x2 => [(0, .ref 84), (2, .int p2)]) (SJ := fun x2 => [.int x2]) (WJ := fun x2 => (c, m, f, u)) ?_ (fun hj32 => ?_)
  · intro x2
    show kv_X _ _ _ _ (fj_D_isLost_32 p2 m x2) 32 [(0, .ref 84), (2, .int p2)] [.int x2] (c, m, f, u)
    unfold fj_D_isLost_32
    refine kv_istore_n (pc := 32) (lv' := [(3, .int x2), (0, .ref 84), (2, .int p2)]) rfl (Nat.le_of_ble_eq_true rfl) rfl dk_D_isLost_32 ?_
    refine kv_iconst (pc := 33) (v := (0 : Int32)) dk_D_isLost_33 kki_0 ?_
    refine kv_istore (pc := 34) (lv' := [(4, .int (0 : Int32)), (3, .int x2), (0, .ref 84), (2, .int p2)]) rfl (Nat.le_of_ble_eq_true rfl) dk_D_isLost_34 ?_
    refine kv_sub (lv' := [(0, .ref 84), (2, .int p2), (3, .int x2), (4, .int (0 : Int32))]) [2, 3, 1, 0] rfl ?_
    refine kv_lp_1_0_0 (LV := fun x3 => [(0, .ref 84), (2, .int p2), (3, .int x2), (4, .int x3)]) (WW := fun x3 => (c, m, f, u)) (LE1 := []) (WE1 := (c, m, f, u)) (pe1 := 55) (LE2 := []) (WE2 := (c, m, f, u)) (pe2 := 63) ?_ ?_ ?_
    · show kv_X _ _ _ _ _ 55 [] [] (c, m, f, u)
      refine kv_iconst (pc := 55) (v := (1 : Int32)) dk_D_isLost_55 kki_1 ?_
      exact kv_zret (pc := 56) (b := true) (fun h => h) rfl dk_D_isLost_56
    · show kv_X _ _ _ _ _ 63 [] [] (c, m, f, u)
      refine kv_iconst (pc := 63) (v := (0 : Int32)) dk_D_isLost_63 kki_0 ?_
      exact kv_zret (pc := 64) (b := false) (fun h => h) rfl dk_D_isLost_64
    · intro hx36_0 hx36_1 x3
      show kv_X _ _ _ _ (fb_D_isLost_36 p2 m x2 x3) 36 [(0, .ref 84), (2, .int p2), (3, .int x2), (4, .int x3)] [] (c, m, f, u)
      unfold fb_D_isLost_36
      refine kv_iload (pc := 36) 3 rfl dk_D_isLost_36 ?_
      refine kv_iconst (pc := 38) (v := (5 : Int32)) dk_D_isLost_38 kki_5 ?_
      refine kv_icmp_ge (pc := 39) (tgt := 63) dk_D_isLost_39 rfl ?_ ?_
      · exact kv_sub [] rfl (kv_leaf (hx36_1))
      · refine kv_aload_n (pc := 42) 0 rfl rfl dk_D_isLost_42 ?_
        refine kv_getR (pc := 43) kf_D_25 kr_84 rfl kt_84_5 dk_D_isLost_43 ?_
        refine kv_iload_n (pc := 46) 1 rfl rfl dk_D_isLost_46 ?_
        refine kv_iload (pc := 47) 3 rfl dk_D_isLost_47 ?_
        refine kv_iadd (pc := 49) dk_D_isLost_49 ?_
        refine kv_guard (fun g4 => ?_)
        refine kv_aldM (pc := 50) kr_90 kn_90 kl_90 g4 rfl dk_D_isLost_50 ?_
        refine kv_iload_n (pc := 51) 2 rfl rfl dk_D_isLost_51 ?_
        refine kv_icmp_ne (pc := 52) (tgt := 57) dk_D_isLost_52 rfl ?_ ?_
        · refine kv_iinc (pc := 57) (kk := (1 : Int32)) (lv' := [(4, .int (x3 + (1 : Int32))), (0, .ref 84), (2, .int p2), (3, .int x2)]) 3 rfl kki_1 rfl (Nat.le_of_ble_eq_true rfl) dk_D_isLost_57 ?_
          refine kv_goto (pc := 60) (tgt := 36) dk_D_isLost_60 rfl ?_
          exact kv_sub [1, 2, 3, 0] rfl (kv_leaf (fun h => h))
        · exact kv_sub [] rfl (kv_leaf (hx36_0))
  refine kv_if_ne (pc := 6) (tgt := 14) dk_D_isLost_6 rfl ?_ ?_
  · refine kv_aload_n (pc := 14) 0 rfl rfl dk_D_isLost_14 ?_
    refine kv_getR (pc := 15) kf_D_19 kr_84 rfl kt_84_3 dk_D_isLost_15 ?_
    refine kv_iload_n (pc := 18) 1 rfl rfl dk_D_isLost_18 ?_
    refine kv_aldM (pc := 19) kr_88 kn_88 kl_88 g1 rfl dk_D_isLost_19 ?_
    refine kv_iconst (pc := 20) (v := (1 : Int32)) dk_D_isLost_20 kki_1 ?_
    refine kv_icmp_ne (pc := 21) (tgt := 30) dk_D_isLost_21 rfl ?_ ?_
    · refine kv_ldc (pc := 30) (v := (-2147483648 : Int32)) kw_1424 dk_D_isLost_30 ?_
      exact kv_sub [0, 2] rfl (hj32 (-2147483648 : Int32))
    · refine kv_sipush (pc := 24) (v := (-32768 : Int32)) dk_D_isLost_24 kks_m32768 ?_
      refine kv_goto (pc := 27) (tgt := 32) dk_D_isLost_27 rfl ?_
      exact kv_sub [0, 2] rfl (hj32 (-32768 : Int32))
  · refine kv_bipush (pc := 9) (v := (-128 : Int32)) dk_D_isLost_9 kkb_m128 ?_
    refine kv_goto (pc := 11) (tgt := 32) dk_D_isLost_11 rfl ?_
    exact kv_sub [0, 2] rfl (hj32 (-128 : Int32))
theorem dk_D_hear_0 : decode prog_13_method_23_code 0 = .ok (.aload_n 0, 1) := by decide +kernel
theorem dk_D_hear_1 : decode prog_13_method_23_code 1 = .ok (.iload_n 1, 1) := by decide +kernel
theorem dk_D_hear_2 : decode prog_13_method_23_code 2 = .ok (.iconst (-1), 1) := by decide +kernel
theorem dk_D_hear_3 : decode prog_13_method_23_code 3 = .ok (.invokevirtual 127, 3) := by decide +kernel
theorem dk_D_hear_6 : decode prog_13_method_23_code 6 = .ok (.istore_n 2, 1) := by decide +kernel
theorem dk_D_hear_7 : decode prog_13_method_23_code 7 = .ok (.iload_n 2, 1) := by decide +kernel
theorem dk_D_hear_8 : decode prog_13_method_23_code 8 = .ok (.ifCond .eq 5, 3) := by decide +kernel
theorem dk_D_hear_11 : decode prog_13_method_23_code 11 = .ok (.iload_n 2, 1) := by decide +kernel
theorem dk_D_hear_12 : decode prog_13_method_23_code 12 = .ok (.ireturn, 1) := by decide +kernel
theorem dk_D_hear_13 : decode prog_13_method_23_code 13 = .ok (.iconst 0, 1) := by decide +kernel
theorem dk_D_hear_14 : decode prog_13_method_23_code 14 = .ok (.istore_n 3, 1) := by decide +kernel
theorem dk_D_hear_15 : decode prog_13_method_23_code 15 = .ok (.iconst 0, 1) := by decide +kernel
theorem dk_D_hear_16 : decode prog_13_method_23_code 16 = .ok (.istore 4, 2) := by decide +kernel
theorem dk_D_hear_18 : decode prog_13_method_23_code 18 = .ok (.iload 4, 2) := by decide +kernel
theorem dk_D_hear_20 : decode prog_13_method_23_code 20 = .ok (.iconst 5, 1) := by decide +kernel
theorem dk_D_hear_21 : decode prog_13_method_23_code 21 = .ok (.iadd, 1) := by decide +kernel
theorem dk_D_hear_22 : decode prog_13_method_23_code 22 = .ok (.aload_n 0, 1) := by decide +kernel
theorem dk_D_hear_23 : decode prog_13_method_23_code 23 = .ok (.getfield 22, 3) := by decide +kernel
theorem dk_D_hear_26 : decode prog_13_method_23_code 26 = .ok (.iload_n 1, 1) := by decide +kernel
theorem dk_D_hear_27 : decode prog_13_method_23_code 27 = .ok (.iaload, 1) := by decide +kernel
theorem dk_D_hear_28 : decode prog_13_method_23_code 28 = .ok (.if_icmp .gt 182, 3) := by decide +kernel
theorem dk_D_hear_31 : decode prog_13_method_23_code 31 = .ok (.bipush 100, 2) := by decide +kernel
theorem dk_D_hear_33 : decode prog_13_method_23_code 33 = .ok (.iload_n 1, 1) := by decide +kernel
theorem dk_D_hear_34 : decode prog_13_method_23_code 34 = .ok (.imul, 1) := by decide +kernel
theorem dk_D_hear_35 : decode prog_13_method_23_code 35 = .ok (.iload 4, 2) := by decide +kernel
theorem dk_D_hear_37 : decode prog_13_method_23_code 37 = .ok (.iadd, 1) := by decide +kernel
theorem dk_D_hear_38 : decode prog_13_method_23_code 38 = .ok (.istore 5, 2) := by decide +kernel
theorem dk_D_hear_40 : decode prog_13_method_23_code 40 = .ok (.aload_n 0, 1) := by decide +kernel
theorem dk_D_hear_41 : decode prog_13_method_23_code 41 = .ok (.iload_n 1, 1) := by decide +kernel
theorem dk_D_hear_42 : decode prog_13_method_23_code 42 = .ok (.iload 5, 2) := by decide +kernel
theorem dk_D_hear_44 : decode prog_13_method_23_code 44 = .ok (.invokevirtual 130, 3) := by decide +kernel
theorem dk_D_hear_47 : decode prog_13_method_23_code 47 = .ok (.ifCond .eq 6, 3) := by decide +kernel
theorem dk_D_hear_50 : decode prog_13_method_23_code 50 = .ok (.goto 154, 3) := by decide +kernel
theorem dk_D_hear_53 : decode prog_13_method_23_code 53 = .ok (.aload_n 0, 1) := by decide +kernel
theorem dk_D_hear_54 : decode prog_13_method_23_code 54 = .ok (.getfield 25, 3) := by decide +kernel
theorem dk_D_hear_57 : decode prog_13_method_23_code 57 = .ok (.iload 5, 2) := by decide +kernel
theorem dk_D_hear_59 : decode prog_13_method_23_code 59 = .ok (.iconst 1, 1) := by decide +kernel
theorem dk_D_hear_60 : decode prog_13_method_23_code 60 = .ok (.iadd, 1) := by decide +kernel
theorem dk_D_hear_61 : decode prog_13_method_23_code 61 = .ok (.iaload, 1) := by decide +kernel
theorem dk_D_hear_62 : decode prog_13_method_23_code 62 = .ok (.istore 6, 2) := by decide +kernel
theorem dk_D_hear_64 : decode prog_13_method_23_code 64 = .ok (.aload_n 0, 1) := by decide +kernel
theorem dk_D_hear_65 : decode prog_13_method_23_code 65 = .ok (.getfield 25, 3) := by decide +kernel
theorem dk_D_hear_68 : decode prog_13_method_23_code 68 = .ok (.iload 5, 2) := by decide +kernel
theorem dk_D_hear_70 : decode prog_13_method_23_code 70 = .ok (.iconst 2, 1) := by decide +kernel
theorem dk_D_hear_71 : decode prog_13_method_23_code 71 = .ok (.iadd, 1) := by decide +kernel
theorem dk_D_hear_72 : decode prog_13_method_23_code 72 = .ok (.iaload, 1) := by decide +kernel
theorem dk_D_hear_73 : decode prog_13_method_23_code 73 = .ok (.istore 7, 2) := by decide +kernel
theorem dk_D_hear_75 : decode prog_13_method_23_code 75 = .ok (.aload_n 0, 1) := by decide +kernel
theorem dk_D_hear_76 : decode prog_13_method_23_code 76 = .ok (.getfield 25, 3) := by decide +kernel
theorem dk_D_hear_79 : decode prog_13_method_23_code 79 = .ok (.iload 5, 2) := by decide +kernel
theorem dk_D_hear_81 : decode prog_13_method_23_code 81 = .ok (.iaload, 1) := by decide +kernel
theorem dk_D_hear_82 : decode prog_13_method_23_code 82 = .ok (.invokestatic 110, 3) := by decide +kernel
theorem dk_D_hear_85 : decode prog_13_method_23_code 85 = .ok (.ifCond .eq 81, 3) := by decide +kernel
theorem dk_D_hear_88 : decode prog_13_method_23_code 88 = .ok (.aload_n 0, 1) := by decide +kernel
theorem dk_D_hear_89 : decode prog_13_method_23_code 89 = .ok (.iload 6, 2) := by decide +kernel
theorem dk_D_hear_91 : decode prog_13_method_23_code 91 = .ok (.invokevirtual 98, 3) := by decide +kernel
theorem dk_D_hear_94 : decode prog_13_method_23_code 94 = .ok (.ifCond .eq 72, 3) := by decide +kernel
theorem dk_D_hear_97 : decode prog_13_method_23_code 97 = .ok (.aload_n 0, 1) := by decide +kernel
theorem dk_D_hear_98 : decode prog_13_method_23_code 98 = .ok (.iload 7, 2) := by decide +kernel
theorem dk_D_hear_100 : decode prog_13_method_23_code 100 = .ok (.invokevirtual 98, 3) := by decide +kernel
theorem dk_D_hear_103 : decode prog_13_method_23_code 103 = .ok (.ifCond .eq 63, 3) := by decide +kernel
theorem dk_D_hear_106 : decode prog_13_method_23_code 106 = .ok (.iload 6, 2) := by decide +kernel
theorem dk_D_hear_108 : decode prog_13_method_23_code 108 = .ok (.iload 7, 2) := by decide +kernel
theorem dk_D_hear_110 : decode prog_13_method_23_code 110 = .ok (.if_icmp .eq 56, 3) := by decide +kernel
theorem dk_D_hear_113 : decode prog_13_method_23_code 113 = .ok (.aload_n 0, 1) := by decide +kernel
theorem dk_D_hear_114 : decode prog_13_method_23_code 114 = .ok (.getfield 25, 3) := by decide +kernel
theorem dk_D_hear_117 : decode prog_13_method_23_code 117 = .ok (.iload 5, 2) := by decide +kernel
theorem dk_D_hear_119 : decode prog_13_method_23_code 119 = .ok (.iconst 3, 1) := by decide +kernel
theorem dk_D_hear_120 : decode prog_13_method_23_code 120 = .ok (.iadd, 1) := by decide +kernel
theorem dk_D_hear_121 : decode prog_13_method_23_code 121 = .ok (.iaload, 1) := by decide +kernel
theorem dk_D_hear_122 : decode prog_13_method_23_code 122 = .ok (.i2l, 1) := by decide +kernel
theorem dk_D_hear_123 : decode prog_13_method_23_code 123 = .ok (.ldc2_w 134, 3) := by decide +kernel
theorem dk_D_hear_126 : decode prog_13_method_23_code 126 = .ok (.ldc2_w 136, 3) := by decide +kernel
theorem dk_D_hear_129 : decode prog_13_method_23_code 129 = .ok (.invokestatic 60, 3) := by decide +kernel
theorem dk_D_hear_132 : decode prog_13_method_23_code 132 = .ok (.ifCond .eq 34, 3) := by decide +kernel
theorem dk_D_hear_135 : decode prog_13_method_23_code 135 = .ok (.aload_n 0, 1) := by decide +kernel
theorem dk_D_hear_136 : decode prog_13_method_23_code 136 = .ok (.getfield 25, 3) := by decide +kernel
theorem dk_D_hear_139 : decode prog_13_method_23_code 139 = .ok (.iload 5, 2) := by decide +kernel
theorem dk_D_hear_141 : decode prog_13_method_23_code 141 = .ok (.iconst 4, 1) := by decide +kernel
theorem dk_D_hear_142 : decode prog_13_method_23_code 142 = .ok (.iadd, 1) := by decide +kernel
theorem dk_D_hear_143 : decode prog_13_method_23_code 143 = .ok (.iaload, 1) := by decide +kernel
theorem dk_D_hear_144 : decode prog_13_method_23_code 144 = .ok (.i2l, 1) := by decide +kernel
theorem dk_D_hear_145 : decode prog_13_method_23_code 145 = .ok (.lconst 0, 1) := by decide +kernel
theorem dk_D_hear_146 : decode prog_13_method_23_code 146 = .ok (.ldc2_w 94, 3) := by decide +kernel
theorem dk_D_hear_149 : decode prog_13_method_23_code 149 = .ok (.invokestatic 60, 3) := by decide +kernel
theorem dk_D_hear_152 : decode prog_13_method_23_code 152 = .ok (.ifCond .eq 14, 3) := by decide +kernel
theorem dk_D_hear_155 : decode prog_13_method_23_code 155 = .ok (.aload_n 0, 1) := by decide +kernel
theorem dk_D_hear_156 : decode prog_13_method_23_code 156 = .ok (.getfield 9, 3) := by decide +kernel
theorem dk_D_hear_159 : decode prog_13_method_23_code 159 = .ok (.iconst 2, 1) := by decide +kernel
theorem dk_D_hear_160 : decode prog_13_method_23_code 160 = .ok (.iaload, 1) := by decide +kernel
theorem dk_D_hear_161 : decode prog_13_method_23_code 161 = .ok (.bipush 20, 2) := by decide +kernel
theorem dk_D_hear_163 : decode prog_13_method_23_code 163 = .ok (.if_icmp .ne 5, 3) := by decide +kernel
theorem dk_D_hear_166 : decode prog_13_method_23_code 166 = .ok (.iload_n 3, 1) := by decide +kernel
theorem dk_D_hear_167 : decode prog_13_method_23_code 167 = .ok (.ireturn, 1) := by decide +kernel
theorem dk_D_hear_168 : decode prog_13_method_23_code 168 = .ok (.aload_n 0, 1) := by decide +kernel
theorem dk_D_hear_169 : decode prog_13_method_23_code 169 = .ok (.aload_n 0, 1) := by decide +kernel
theorem dk_D_hear_170 : decode prog_13_method_23_code 170 = .ok (.getfield 25, 3) := by decide +kernel
theorem dk_D_hear_173 : decode prog_13_method_23_code 173 = .ok (.iload 5, 2) := by decide +kernel
theorem dk_D_hear_175 : decode prog_13_method_23_code 175 = .ok (.iaload, 1) := by decide +kernel
theorem dk_D_hear_176 : decode prog_13_method_23_code 176 = .ok (.iload 6, 2) := by decide +kernel
theorem dk_D_hear_178 : decode prog_13_method_23_code 178 = .ok (.iload 7, 2) := by decide +kernel
theorem dk_D_hear_180 : decode prog_13_method_23_code 180 = .ok (.aload_n 0, 1) := by decide +kernel
theorem dk_D_hear_181 : decode prog_13_method_23_code 181 = .ok (.getfield 25, 3) := by decide +kernel
theorem dk_D_hear_184 : decode prog_13_method_23_code 184 = .ok (.iload 5, 2) := by decide +kernel
theorem dk_D_hear_186 : decode prog_13_method_23_code 186 = .ok (.iconst 3, 1) := by decide +kernel
theorem dk_D_hear_187 : decode prog_13_method_23_code 187 = .ok (.iadd, 1) := by decide +kernel
theorem dk_D_hear_188 : decode prog_13_method_23_code 188 = .ok (.iaload, 1) := by decide +kernel
theorem dk_D_hear_189 : decode prog_13_method_23_code 189 = .ok (.aload_n 0, 1) := by decide +kernel
theorem dk_D_hear_190 : decode prog_13_method_23_code 190 = .ok (.getfield 25, 3) := by decide +kernel
theorem dk_D_hear_193 : decode prog_13_method_23_code 193 = .ok (.iload 5, 2) := by decide +kernel
theorem dk_D_hear_195 : decode prog_13_method_23_code 195 = .ok (.iconst 4, 1) := by decide +kernel
theorem dk_D_hear_196 : decode prog_13_method_23_code 196 = .ok (.iadd, 1) := by decide +kernel
theorem dk_D_hear_197 : decode prog_13_method_23_code 197 = .ok (.iaload, 1) := by decide +kernel
theorem dk_D_hear_198 : decode prog_13_method_23_code 198 = .ok (.invokevirtual 119, 3) := by decide +kernel
theorem dk_D_hear_201 : decode prog_13_method_23_code 201 = .ok (.iinc 3 1, 3) := by decide +kernel
theorem dk_D_hear_204 : decode prog_13_method_23_code 204 = .ok (.iinc 4 5, 3) := by decide +kernel
theorem dk_D_hear_207 : decode prog_13_method_23_code 207 = .ok (.goto (-189), 3) := by decide +kernel
theorem dk_D_hear_210 : decode prog_13_method_23_code 210 = .ok (.iload_n 3, 1) := by decide +kernel
theorem dk_D_hear_211 : decode prog_13_method_23_code 211 = .ok (.ireturn, 1) := by decide +kernel
noncomputable def fj_D_hear_204 (x3 : Int32) (x12 : Int32) (m13 : (Nat → Nat → Int32)) : Option ((Int32 × Int32 × (Nat → Nat → Int32)) ⊕ ((Int32 × (Nat → Nat → Int32)) ⊕ (Int32 × (Nat → Nat → Int32)))) :=
  some (.inl (x12, (x3 + (5 : Int32)), m13))
noncomputable def fb_D_hear_18 (p1 : Int32) (x2 : Int32) (x3 : Int32) (m4 : (Nat → Nat → Int32)) : Option ((Int32 × Int32 × (Nat → Nat → Int32)) ⊕ ((Int32 × (Nat → Nat → Int32)) ⊕ (Int32 × (Nat → Nat → Int32)))) :=
  kv_gd (kv_in p1 8) (
  if (m4 89 p1.toNatClampNeg) < (x3 + (5 : Int32)) then
    some (.inr (.inr (x2, m4)))
  else
    kv_let (((100 : Int32) * p1) + x3) (fun v10 =>
    kv_bind1 (fx_D_isLost p1 v10 m4) (fun b11 =>
    if b11 = true then
      fj_D_hear_204 x3 x2 m4
    else
      kv_gd (kv_in (v10 + (1 : Int32)) 800) (
      kv_let (m4 90 (v10 + (1 : Int32)).toNatClampNeg) (fun v15 =>
      kv_gd (kv_in (v10 + (2 : Int32)) 800) (
      kv_let (m4 90 (v10 + (2 : Int32)).toNatClampNeg) (fun v17 =>
      kv_gd (kv_in v10 800) (
      kv_bind1 (fx_D_isYear (m4 90 v10.toNatClampNeg)) (fun b19 =>
      if b19 = true then
        kv_bind1 (fx_D_isLump v15 m4) (fun b20 =>
        if b20 = true then
          kv_bind1 (fx_D_isLump v17 m4) (fun b21 =>
          if b21 = true then
            if v15 = v17 then
              some (.inr (.inl (x2, m4)))
            else
              kv_gd (kv_in (v10 + (3 : Int32)) 800) (
              kv_bind1 (fx_D_isIn (m4 90 (v10 + (3 : Int32)).toNatClampNeg).toInt64 (-99999 : Int64) (99999 : Int64)) (fun b23 =>
              if b23 = true then
                kv_gd (kv_in (v10 + (4 : Int32)) 800) (
                kv_bind1 (fx_D_isIn (m4 90 (v10 + (4 : Int32)).toNatClampNeg).toInt64 (0 : Int64) (99 : Int64)) (fun b25 =>
                if b25 = true then
                  if (m4 85 2) = (20 : Int32) then
                    some (.inr (.inl (x2, m4)))
                  else
                    kv_bind1 (fx_D_tells (m4 90 v10.toNatClampNeg) v15 v17 (m4 90 (v10 + (3 : Int32)).toNatClampNeg) (m4 90 (v10 + (4 : Int32)).toNatClampNeg) m4) (fun m26 =>
                    fj_D_hear_204 x3 (x2 + (1 : Int32)) m26)
                else
                  some (.inr (.inl (x2, m4)))))
              else
                some (.inr (.inl (x2, m4)))))
          else
            some (.inr (.inl (x2, m4))))
        else
          some (.inr (.inl (x2, m4))))
      else
        some (.inr (.inl (x2, m4))))))))))))
noncomputable def fx_D_hear (p1 : Int32) (m : (Nat → Nat → Int32)) : Option (Int32 × (Nat → Nat → Int32)) :=
  kv_bind1 (fx_D_wrongRow p1 (-1 : Int32) m) (fun v1 =>
  if v1 = 0 then
    (kv_loop (kv_u3 (fb_D_hear_18 p1)) ((0 : Int32), (0 : Int32), m)).bind (Sum.elim (kv_u2 (fun x5 m6 =>
    some (x5, m6)))
     (kv_u2 (fun x7 m8 =>
    some (x7, m8))))
  else
    some (v1, m))
set_option maxRecDepth 20000 in
theorem cx_D_hear (d : Nat) (p1 : Int32) (c : (Nat → Nat → Int32)) (m : (Nat → Nat → Int32)) (f : (Nat → Int64)) (u : (Nat → Int64)) : ∀ a, fx_D_hear p1 m = some a → kv_C kM_D_hear (d + 3) [.ref 84, .int p1] (c, m, f, u) (some (.int a.1), (c, a.2, f, u)) := by
  refine kv_entryX (E := fun a : (Int32 × (Nat → Nat → Int32)) => (some (.int a.1), (c, a.2, f, u))) rfl (Nat.le_of_ble_eq_true rfl) (fun o => ?_)
  unfold fx_D_hear
  show kv_X _ _ _ _ _ 0 [(0, .ref 84), (1, .int p1)] [] (c, m, f, u)
  refine kv_aload_n (pc := 0) 0 rfl rfl dk_D_hear_0 ?_
  refine kv_iload_n (pc := 1) 1 rfl rfl dk_D_hear_1 ?_
  refine kv_iconst (pc := 2) (v := (-1 : Int32)) dk_D_hear_2 kki_m1 ?_
  refine kv_cV_mI (pc := 3) (as := [.int p1, .int (-1 : Int32)]) (st := []) ko_D_wrongRow kc_11 rfl rfl kr_84 kw_1412 (Nat.le_of_ble_eq_true rfl) rfl dk_D_hear_3 (cx_D_wrongRow d p1 (-1 : Int32) c m f u) (fun v1 => ?_)
  refine kv_istore_n (pc := 6) (lv' := [(2, .int v1), (0, .ref 84), (1, .int p1)]) rfl (Nat.le_of_ble_eq_true rfl) rfl dk_D_hear_6 ?_
  refine kv_iload_n (pc := 7) 0 rfl rfl dk_D_hear_7 ?_
  refine kv_if_eq (pc := 8) (tgt := 13) dk_D_hear_8 rfl ?_ ?_
  · refine kv_iconst (pc := 13) (v := (0 : Int32)) dk_D_hear_13 kki_0 ?_
    refine kv_istore_n (pc := 14) (lv' := [(3, .int (0 : Int32)), (2, .int v1), (0, .ref 84), (1, .int p1)]) rfl (Nat.le_of_ble_eq_true rfl) rfl dk_D_hear_14 ?_
    refine kv_iconst (pc := 15) (v := (0 : Int32)) dk_D_hear_15 kki_0 ?_
    refine kv_istore (pc := 16) (lv' := [(4, .int (0 : Int32)), (3, .int (0 : Int32)), (2, .int v1), (0, .ref 84), (1, .int p1)]) rfl (Nat.le_of_ble_eq_true rfl) dk_D_hear_16 ?_
    refine kv_sub (lv' := [(0, .ref 84), (1, .int p1), (3, .int (0 : Int32)), (4, .int (0 : Int32))]) [3, 4, 1, 0] rfl ?_
    refine kv_lp_3_2_2 (LV := fun x2 x3 m4 => [(0, .ref 84), (1, .int p1), (3, .int x2), (4, .int x3)]) (WW := fun x2 x3 m4 => (c, m4, f, u)) (LE1 := fun x5 m6 => [(3, .int x5)]) (WE1 := fun x5 m6 => (c, m6, f, u)) (pe1 := 166) (LE2 := fun x7 m8 => [(3, .int x7)]) (WE2 := fun x7 m8 => (c, m8, f, u)) (pe2 := 210) ?_ ?_ ?_
    · intro x5 m6
      show kv_X _ _ _ _ _ 166 [(3, .int x5)] [] (c, m6, f, u)
      refine kv_iload_n (pc := 166) 0 rfl rfl dk_D_hear_166 ?_
      exact kv_iret (pc := 167) (fun h => h) rfl dk_D_hear_167
    · intro x7 m8
      show kv_X _ _ _ _ _ 210 [(3, .int x7)] [] (c, m8, f, u)
      refine kv_iload_n (pc := 210) 0 rfl rfl dk_D_hear_210 ?_
      exact kv_iret (pc := 211) (fun h => h) rfl dk_D_hear_211
    · intro hx18_0 hx18_1 x2 x3 m4
      show kv_X _ _ _ _ (fb_D_hear_18 p1 x2 x3 m4) 18 [(0, .ref 84), (1, .int p1), (3, .int x2), (4, .int x3)] [] (c, m4, f, u)
      unfold fb_D_hear_18
      refine kv_iload (pc := 18) 3 rfl dk_D_hear_18 ?_
      refine kv_iconst (pc := 20) (v := (5 : Int32)) dk_D_hear_20 kki_5 ?_
      refine kv_iadd (pc := 21) dk_D_hear_21 ?_
      refine kv_aload_n (pc := 22) 0 rfl rfl dk_D_hear_22 ?_
      refine kv_getR (pc := 23) kf_D_22 kr_84 rfl kt_84_4 dk_D_hear_23 ?_
      refine kv_iload_n (pc := 26) 1 rfl rfl dk_D_hear_26 ?_
      refine kv_guard (fun g9 => ?_)
      refine kv_aldM (pc := 27) kr_89 kn_89 kl_89 g9 rfl dk_D_hear_27 ?_
      refine kv_icmp_gt (pc := 28) (tgt := 210) dk_D_hear_28 rfl ?_ ?_
      · exact kv_sub [2] rfl (kv_leaf (hx18_1 _ _))
      · refine kv_bipush (pc := 31) (v := (100 : Int32)) dk_D_hear_31 kkb_100 ?_
        refine kv_iload_n (pc := 33) 1 rfl rfl dk_D_hear_33 ?_
        refine kv_imul (pc := 34) dk_D_hear_34 ?_
        refine kv_iload (pc := 35) 3 rfl dk_D_hear_35 ?_
        refine kv_iadd (pc := 37) dk_D_hear_37 ?_
        refine kv_letI (fun v10 => ?_)
        refine kv_istore (pc := 38) (lv' := [(5, .int v10), (0, .ref 84), (1, .int p1), (3, .int x2), (4, .int x3)]) rfl (Nat.le_of_ble_eq_true rfl) dk_D_hear_38 ?_
        refine kv_aload_n (pc := 40) 1 rfl rfl dk_D_hear_40 ?_
        refine kv_iload_n (pc := 41) 2 rfl rfl dk_D_hear_41 ?_
        refine kv_iload (pc := 42) 0 rfl dk_D_hear_42 ?_
        refine kv_cV_mZ (pc := 44) (as := [.int p1, .int v10]) (st := []) ko_D_isLost kc_11 rfl rfl kr_84 kw_1420 (Nat.le_of_ble_eq_true rfl) rfl dk_D_hear_44 (cx_D_isLost (d + 2) p1 v10 c m4 f u) (fun b11 => ?_)
        refine kv_cut_2 (J := fj_D_hear_204 x3) (pcj := 204) (LJ := fun x12 m13 => [(0, .ref 84), (1, .int p1), (3, .int x12), (4, .int x3)]) (SJ := fun x12 m13 => []) (WJ := fun x12 m13 => (c, m13, f, u)) ?_ (fun hj204 => ?_)
        · intro x12 m13
          show kv_X _ _ _ _ (fj_D_hear_204 x3 x12 m13) 204 [(0, .ref 84), (1, .int p1), (3, .int x12), (4, .int x3)] [] (c, m13, f, u)
          unfold fj_D_hear_204
          refine kv_iinc (pc := 204) (kk := (5 : Int32)) (lv' := [(4, .int (x3 + (5 : Int32))), (0, .ref 84), (1, .int p1), (3, .int x12)]) 3 rfl kki_5 rfl (Nat.le_of_ble_eq_true rfl) dk_D_hear_204 ?_
          refine kv_goto (pc := 207) (tgt := 18) dk_D_hear_207 rfl ?_
          exact kv_sub [1, 2, 3, 0] rfl (kv_leaf (fun h => h))
        refine kv_zif_eq (pc := 47) (tgt := 53) dk_D_hear_47 rfl ?_ ?_
        · refine kv_aload_n (pc := 53) 1 rfl rfl dk_D_hear_53 ?_
          refine kv_getR (pc := 54) kf_D_25 kr_84 rfl kt_84_5 dk_D_hear_54 ?_
          refine kv_iload (pc := 57) 0 rfl dk_D_hear_57 ?_
          refine kv_iconst (pc := 59) (v := (1 : Int32)) dk_D_hear_59 kki_1 ?_
          refine kv_iadd (pc := 60) dk_D_hear_60 ?_
          refine kv_guard (fun g14 => ?_)
          refine kv_aldM (pc := 61) kr_90 kn_90 kl_90 g14 rfl dk_D_hear_61 ?_
          refine kv_letI (fun v15 => ?_)
          refine kv_istore (pc := 62) (lv' := [(6, .int v15), (5, .int v10), (0, .ref 84), (1, .int p1), (3, .int x2), (4, .int x3)]) rfl (Nat.le_of_ble_eq_true rfl) dk_D_hear_62 ?_
          refine kv_aload_n (pc := 64) 2 rfl rfl dk_D_hear_64 ?_
          refine kv_getR (pc := 65) kf_D_25 kr_84 rfl kt_84_5 dk_D_hear_65 ?_
          refine kv_iload (pc := 68) 1 rfl dk_D_hear_68 ?_
          refine kv_iconst (pc := 70) (v := (2 : Int32)) dk_D_hear_70 kki_2 ?_
          refine kv_iadd (pc := 71) dk_D_hear_71 ?_
          refine kv_guard (fun g16 => ?_)
          refine kv_aldM (pc := 72) kr_90 kn_90 kl_90 g16 rfl dk_D_hear_72 ?_
          refine kv_letI (fun v17 => ?_)
          refine kv_istore (pc := 73) (lv' := [(7, .int v17), (6, .int v15), (5, .int v10), (0, .ref 84), (1, .int p1), (3, .int x2), (4, .int x3)]) rfl (Nat.le_of_ble_eq_true rfl) dk_D_hear_73 ?_
          refine kv_aload_n (pc := 75) 3 rfl rfl dk_D_hear_75 ?_
          refine kv_getR (pc := 76) kf_D_25 kr_84 rfl kt_84_5 dk_D_hear_76 ?_
          refine kv_iload (pc := 79) 2 rfl dk_D_hear_79 ?_
          refine kv_guard (fun g18 => ?_)
          refine kv_aldM (pc := 81) kr_90 kn_90 kl_90 g18 rfl dk_D_hear_81 ?_
          refine kv_cS_mZ (pc := 82) (as := [.int (m4 90 v10.toNatClampNeg)]) (st := []) ko_D_isYear rfl kw_1385 (Nat.le_of_ble_eq_true rfl) rfl dk_D_hear_82 (cx_D_isYear (d + 1) (m4 90 v10.toNatClampNeg) c m4 f u) (fun b19 => ?_)
          refine kv_zif_eq (pc := 85) (tgt := 166) dk_D_hear_85 rfl ?_ ?_
          · exact kv_sub [5] rfl (kv_leaf (hx18_0 _ _))
          · refine kv_aload_n (pc := 88) 3 rfl rfl dk_D_hear_88 ?_
            refine kv_iload (pc := 89) 1 rfl dk_D_hear_89 ?_
            refine kv_cV_mZ (pc := 91) (as := [.int v15]) (st := []) ko_D_isLump kc_11 rfl rfl kr_84 kw_1362 (Nat.le_of_ble_eq_true rfl) rfl dk_D_hear_91 (cx_D_isLump (d + 1) v15 c m4 f u) (fun b20 => ?_)
            refine kv_zif_eq (pc := 94) (tgt := 166) dk_D_hear_94 rfl ?_ ?_
            · exact kv_sub [5] rfl (kv_leaf (hx18_0 _ _))
            · refine kv_aload_n (pc := 97) 3 rfl rfl dk_D_hear_97 ?_
              refine kv_iload (pc := 98) 0 rfl dk_D_hear_98 ?_
              refine kv_cV_mZ (pc := 100) (as := [.int v17]) (st := []) ko_D_isLump kc_11 rfl rfl kr_84 kw_1362 (Nat.le_of_ble_eq_true rfl) rfl dk_D_hear_100 (cx_D_isLump (d + 1) v17 c m4 f u) (fun b21 => ?_)
              refine kv_zif_eq (pc := 103) (tgt := 166) dk_D_hear_103 rfl ?_ ?_
              · exact kv_sub [5] rfl (kv_leaf (hx18_0 _ _))
              · refine kv_iload (pc := 106) 1 rfl dk_D_hear_106 ?_
                refine kv_iload (pc := 108) 0 rfl dk_D_hear_108 ?_
                refine kv_icmp_eq (pc := 110) (tgt := 166) dk_D_hear_110 rfl ?_ ?_
                · exact kv_sub [5] rfl (kv_leaf (hx18_0 _ _))
                · refine kv_aload_n (pc := 113) 3 rfl rfl dk_D_hear_113 ?_
                  refine kv_getR (pc := 114) kf_D_25 kr_84 rfl kt_84_5 dk_D_hear_114 ?_
                  refine kv_iload (pc := 117) 2 rfl dk_D_hear_117 ?_
                  refine kv_iconst (pc := 119) (v := (3 : Int32)) dk_D_hear_119 kki_3 ?_
                  refine kv_iadd (pc := 120) dk_D_hear_120 ?_
                  refine kv_guard (fun g22 => ?_)
                  refine kv_aldM (pc := 121) kr_90 kn_90 kl_90 g22 rfl dk_D_hear_121 ?_
                  refine kv_i2l (pc := 122) dk_D_hear_122 ?_
                  refine kv_ldc2 (pc := 123) (v := (-99999 : Int64)) kw_1425 dk_D_hear_123 ?_
                  refine kv_ldc2 (pc := 126) (v := (99999 : Int64)) kw_1426 dk_D_hear_126 ?_
                  refine kv_cS_mZ (pc := 129) (as := [.long (m4 90 (v10 + (3 : Int32)).toNatClampNeg).toInt64, .long (-99999 : Int64), .long (99999 : Int64)]) (st := []) ko_D_isIn rfl kw_1330 (Nat.le_of_ble_eq_true rfl) rfl dk_D_hear_129 (cx_D_isIn (d + 2) (m4 90 (v10 + (3 : Int32)).toNatClampNeg).toInt64 (-99999 : Int64) (99999 : Int64) c m4 f u) (fun b23 => ?_)
                  refine kv_zif_eq (pc := 132) (tgt := 166) dk_D_hear_132 rfl ?_ ?_
                  · exact kv_sub [5] rfl (kv_leaf (hx18_0 _ _))
                  · refine kv_aload_n (pc := 135) 3 rfl rfl dk_D_hear_135 ?_
                    refine kv_getR (pc := 136) kf_D_25 kr_84 rfl kt_84_5 dk_D_hear_136 ?_
                    refine kv_iload (pc := 139) 2 rfl dk_D_hear_139 ?_
                    refine kv_iconst (pc := 141) (v := (4 : Int32)) dk_D_hear_141 kki_4 ?_
                    refine kv_iadd (pc := 142) dk_D_hear_142 ?_
                    refine kv_guard (fun g24 => ?_)
                    refine kv_aldM (pc := 143) kr_90 kn_90 kl_90 g24 rfl dk_D_hear_143 ?_
                    refine kv_i2l (pc := 144) dk_D_hear_144 ?_
                    refine kv_lconst (pc := 145) (v := (0 : Int64)) dk_D_hear_145 kkl_0 ?_
                    refine kv_ldc2 (pc := 146) (v := (99 : Int64)) kw_1356 dk_D_hear_146 ?_
                    refine kv_cS_mZ (pc := 149) (as := [.long (m4 90 (v10 + (4 : Int32)).toNatClampNeg).toInt64, .long (0 : Int64), .long (99 : Int64)]) (st := []) ko_D_isIn rfl kw_1330 (Nat.le_of_ble_eq_true rfl) rfl dk_D_hear_149 (cx_D_isIn (d + 2) (m4 90 (v10 + (4 : Int32)).toNatClampNeg).toInt64 (0 : Int64) (99 : Int64) c m4 f u) (fun b25 => ?_)
                    refine kv_zif_eq (pc := 152) (tgt := 166) dk_D_hear_152 rfl ?_ ?_
                    · exact kv_sub [5] rfl (kv_leaf (hx18_0 _ _))
                    · refine kv_aload_n (pc := 155) 3 rfl rfl dk_D_hear_155 ?_
                      refine kv_getR (pc := 156) kf_D_9 kr_84 rfl kt_84_0 dk_D_hear_156 ?_
                      refine kv_iconst (pc := 159) (v := (2 : Int32)) dk_D_hear_159 kki_2 ?_
                      refine kv_aldM (pc := 160) kr_85 kn_85 kl_85 kkg_2_444 (j := 2) kkx_2 dk_D_hear_160 ?_
                      refine kv_bipush (pc := 161) (v := (20 : Int32)) dk_D_hear_161 kkb_20 ?_
                      refine kv_icmp_ne (pc := 163) (tgt := 168) dk_D_hear_163 rfl ?_ ?_
                      · refine kv_aload_n (pc := 168) 3 rfl rfl dk_D_hear_168 ?_
                        refine kv_aload_n (pc := 169) 3 rfl rfl dk_D_hear_169 ?_
                        refine kv_getR (pc := 170) kf_D_25 kr_84 rfl kt_84_5 dk_D_hear_170 ?_
                        refine kv_iload (pc := 173) 2 rfl dk_D_hear_173 ?_
                        refine kv_aldM (pc := 175) kr_90 kn_90 kl_90 g18 rfl dk_D_hear_175 ?_
                        refine kv_iload (pc := 176) 1 rfl dk_D_hear_176 ?_
                        refine kv_iload (pc := 178) 0 rfl dk_D_hear_178 ?_
                        refine kv_aload_n (pc := 180) 3 rfl rfl dk_D_hear_180 ?_
                        refine kv_getR (pc := 181) kf_D_25 kr_84 rfl kt_84_5 dk_D_hear_181 ?_
                        refine kv_iload (pc := 184) 2 rfl dk_D_hear_184 ?_
                        refine kv_iconst (pc := 186) (v := (3 : Int32)) dk_D_hear_186 kki_3 ?_
                        refine kv_iadd (pc := 187) dk_D_hear_187 ?_
                        refine kv_aldM (pc := 188) kr_90 kn_90 kl_90 g22 rfl dk_D_hear_188 ?_
                        refine kv_aload_n (pc := 189) 3 rfl rfl dk_D_hear_189 ?_
                        refine kv_getR (pc := 190) kf_D_25 kr_84 rfl kt_84_5 dk_D_hear_190 ?_
                        refine kv_iload (pc := 193) 2 rfl dk_D_hear_193 ?_
                        refine kv_iconst (pc := 195) (v := (4 : Int32)) dk_D_hear_195 kki_4 ?_
                        refine kv_iadd (pc := 196) dk_D_hear_196 ?_
                        refine kv_aldM (pc := 197) kr_90 kn_90 kl_90 g24 rfl dk_D_hear_197 ?_
                        refine kv_cV_mm (pc := 198) (as := [.int (m4 90 v10.toNatClampNeg), .int v15, .int v17, .int (m4 90 (v10 + (3 : Int32)).toNatClampNeg), .int (m4 90 (v10 + (4 : Int32)).toNatClampNeg)]) (st := []) ko_D_tells kc_11 rfl rfl kr_84 kw_1404 (Nat.le_of_ble_eq_true rfl) rfl dk_D_hear_198 (cx_D_tells (d + 2) (m4 90 v10.toNatClampNeg) v15 v17 (m4 90 (v10 + (3 : Int32)).toNatClampNeg) (m4 90 (v10 + (4 : Int32)).toNatClampNeg) c m4 f u) (fun m26 => ?_)
                        refine kv_iinc (pc := 201) (kk := (1 : Int32)) (lv' := [(3, .int (x2 + (1 : Int32))), (7, .int v17), (6, .int v15), (5, .int v10), (0, .ref 84), (1, .int p1), (4, .int x3)]) 5 rfl kki_1 rfl (Nat.le_of_ble_eq_true rfl) dk_D_hear_201 ?_
                        exact kv_sub [4, 5, 0, 6] rfl (hj204 (x2 + (1 : Int32)) m26)
                      · exact kv_sub [5] rfl (kv_leaf (hx18_0 _ _))
        · refine kv_goto (pc := 50) (tgt := 204) dk_D_hear_50 rfl ?_
          exact kv_sub [1, 2, 3, 4] rfl (hj204 x2 m4)
  · refine kv_iload_n (pc := 11) 0 rfl rfl dk_D_hear_11 ?_
    exact kv_iret (pc := 12) (fun h => h) rfl dk_D_hear_12
theorem dk_Weighings_has_0 : decode prog_11_method_2_code 0 = .ok (.iload_n 1, 1) := by decide +kernel
theorem dk_Weighings_has_1 : decode prog_11_method_2_code 1 = .ok (.ifCond .lt 15, 3) := by decide +kernel
theorem dk_Weighings_has_4 : decode prog_11_method_2_code 4 = .ok (.iload_n 1, 1) := by decide +kernel
theorem dk_Weighings_has_5 : decode prog_11_method_2_code 5 = .ok (.aload_n 0, 1) := by decide +kernel
theorem dk_Weighings_has_6 : decode prog_11_method_2_code 6 = .ok (.getfield 34, 3) := by decide +kernel
theorem dk_Weighings_has_9 : decode prog_11_method_2_code 9 = .ok (.if_icmp .ge 7, 3) := by decide +kernel
theorem dk_Weighings_has_12 : decode prog_11_method_2_code 12 = .ok (.iconst 1, 1) := by decide +kernel
theorem dk_Weighings_has_13 : decode prog_11_method_2_code 13 = .ok (.goto 4, 3) := by decide +kernel
theorem dk_Weighings_has_16 : decode prog_11_method_2_code 16 = .ok (.iconst 0, 1) := by decide +kernel
theorem dk_Weighings_has_17 : decode prog_11_method_2_code 17 = .ok (.ireturn, 1) := by decide +kernel
noncomputable def fx_Weighings_has (p1 : Int32) (c : (Nat → Nat → Int32)) : Option Bool :=
  if p1 < 0 then
    some false
  else
    if (c 10 7) ≤ p1 then
      some false
    else
      some true
set_option maxRecDepth 20000 in
theorem cx_Weighings_has (d : Nat) (p1 : Int32) (c : (Nat → Nat → Int32)) (y : (Nat → Nat → Int32) × (Nat → Int64) × (Nat → Int64)) : ∀ a, fx_Weighings_has p1 c = some a → kv_C kM_Weighings_has (d + 0) [.ref 10, .int p1] (c, y) (some (.int (kv_b a)), (c, y)) := by
  refine kv_entryX (E := fun a : Bool => (some (.int (kv_b a)), (c, y))) rfl (Nat.le_of_ble_eq_true rfl) (fun o => ?_)
  unfold fx_Weighings_has
  show kv_X _ _ _ _ _ 0 [(0, .ref 10), (1, .int p1)] [] (c, y)
  refine kv_iload_n (pc := 0) 1 rfl rfl dk_Weighings_has_0 ?_
  refine kv_if_lt (pc := 1) (tgt := 16) dk_Weighings_has_1 rfl ?_ ?_
  · refine kv_iconst (pc := 16) (v := (0 : Int32)) dk_Weighings_has_16 kki_0 ?_
    exact kv_zret (pc := 17) (b := false) (fun h => h) rfl dk_Weighings_has_17
  · refine kv_iload_n (pc := 4) 1 rfl rfl dk_Weighings_has_4 ?_
    refine kv_aload_n (pc := 5) 0 rfl rfl dk_Weighings_has_5 ?_
    refine kv_getC (pc := 6) kf_Weighings_34 kr_10 kn_10 rfl dk_Weighings_has_6 ?_
    refine kv_icmp_ge (pc := 9) (tgt := 16) dk_Weighings_has_9 rfl ?_ ?_
    · refine kv_iconst (pc := 16) (v := (0 : Int32)) dk_Weighings_has_16 kki_0 ?_
      exact kv_zret (pc := 17) (b := false) (fun h => h) rfl dk_Weighings_has_17
    · refine kv_iconst (pc := 12) (v := (1 : Int32)) dk_Weighings_has_12 kki_1 ?_
      refine kv_goto (pc := 13) (tgt := 17) dk_Weighings_has_13 rfl ?_
      exact kv_zret (pc := 17) (b := true) (fun h => h) rfl dk_Weighings_has_17
theorem dk_K_weighing_0 : decode prog_1_method_11_code 0 = .ok (.aload_n 0, 1) := by decide +kernel
theorem dk_K_weighing_1 : decode prog_1_method_11_code 1 = .ok (.getfield 10, 3) := by decide +kernel
theorem dk_K_weighing_4 : decode prog_1_method_11_code 4 = .ok (.getfield 152, 3) := by decide +kernel
theorem dk_K_weighing_7 : decode prog_1_method_11_code 7 = .ok (.astore_n 3, 1) := by decide +kernel
theorem dk_K_weighing_8 : decode prog_1_method_11_code 8 = .ok (.aload_n 3, 1) := by decide +kernel
theorem dk_K_weighing_9 : decode prog_1_method_11_code 9 = .ok (.iload_n 1, 1) := by decide +kernel
theorem dk_K_weighing_10 : decode prog_1_method_11_code 10 = .ok (.invokevirtual 191, 3) := by decide +kernel
theorem dk_K_weighing_13 : decode prog_1_method_11_code 13 = .ok (.ifCond .ne 6, 3) := by decide +kernel
theorem dk_K_weighing_16 : decode prog_1_method_11_code 16 = .ok (.ldc 84, 2) := by decide +kernel
theorem dk_K_weighing_18 : decode prog_1_method_11_code 18 = .ok (.ireturn, 1) := by decide +kernel
theorem dk_K_weighing_19 : decode prog_1_method_11_code 19 = .ok (.iload_n 2, 1) := by decide +kernel
theorem dk_K_weighing_20 : decode prog_1_method_11_code 20 = .ok (.tableswitch 90 0 5 #[40, 47, 54, 61, 68, 75], 40) := by decide +kernel
theorem dk_K_weighing_60 : decode prog_1_method_11_code 60 = .ok (.aload_n 3, 1) := by decide +kernel
theorem dk_K_weighing_61 : decode prog_1_method_11_code 61 = .ok (.getfield 192, 3) := by decide +kernel
theorem dk_K_weighing_64 : decode prog_1_method_11_code 64 = .ok (.iload_n 1, 1) := by decide +kernel
theorem dk_K_weighing_65 : decode prog_1_method_11_code 65 = .ok (.iaload, 1) := by decide +kernel
theorem dk_K_weighing_66 : decode prog_1_method_11_code 66 = .ok (.ireturn, 1) := by decide +kernel
theorem dk_K_weighing_67 : decode prog_1_method_11_code 67 = .ok (.aload_n 3, 1) := by decide +kernel
theorem dk_K_weighing_68 : decode prog_1_method_11_code 68 = .ok (.getfield 195, 3) := by decide +kernel
theorem dk_K_weighing_71 : decode prog_1_method_11_code 71 = .ok (.iload_n 1, 1) := by decide +kernel
theorem dk_K_weighing_72 : decode prog_1_method_11_code 72 = .ok (.iaload, 1) := by decide +kernel
theorem dk_K_weighing_73 : decode prog_1_method_11_code 73 = .ok (.ireturn, 1) := by decide +kernel
theorem dk_K_weighing_74 : decode prog_1_method_11_code 74 = .ok (.aload_n 3, 1) := by decide +kernel
theorem dk_K_weighing_75 : decode prog_1_method_11_code 75 = .ok (.getfield 198, 3) := by decide +kernel
theorem dk_K_weighing_78 : decode prog_1_method_11_code 78 = .ok (.iload_n 1, 1) := by decide +kernel
theorem dk_K_weighing_79 : decode prog_1_method_11_code 79 = .ok (.iaload, 1) := by decide +kernel
theorem dk_K_weighing_80 : decode prog_1_method_11_code 80 = .ok (.ireturn, 1) := by decide +kernel
theorem dk_K_weighing_81 : decode prog_1_method_11_code 81 = .ok (.aload_n 3, 1) := by decide +kernel
theorem dk_K_weighing_82 : decode prog_1_method_11_code 82 = .ok (.getfield 201, 3) := by decide +kernel
theorem dk_K_weighing_85 : decode prog_1_method_11_code 85 = .ok (.iload_n 1, 1) := by decide +kernel
theorem dk_K_weighing_86 : decode prog_1_method_11_code 86 = .ok (.iaload, 1) := by decide +kernel
theorem dk_K_weighing_87 : decode prog_1_method_11_code 87 = .ok (.ireturn, 1) := by decide +kernel
theorem dk_K_weighing_88 : decode prog_1_method_11_code 88 = .ok (.aload_n 3, 1) := by decide +kernel
theorem dk_K_weighing_89 : decode prog_1_method_11_code 89 = .ok (.getfield 204, 3) := by decide +kernel
theorem dk_K_weighing_92 : decode prog_1_method_11_code 92 = .ok (.iload_n 1, 1) := by decide +kernel
theorem dk_K_weighing_93 : decode prog_1_method_11_code 93 = .ok (.iaload, 1) := by decide +kernel
theorem dk_K_weighing_94 : decode prog_1_method_11_code 94 = .ok (.ireturn, 1) := by decide +kernel
theorem dk_K_weighing_95 : decode prog_1_method_11_code 95 = .ok (.aload_n 3, 1) := by decide +kernel
theorem dk_K_weighing_96 : decode prog_1_method_11_code 96 = .ok (.getfield 207, 3) := by decide +kernel
theorem dk_K_weighing_99 : decode prog_1_method_11_code 99 = .ok (.iload_n 1, 1) := by decide +kernel
theorem dk_K_weighing_100 : decode prog_1_method_11_code 100 = .ok (.baload, 1) := by decide +kernel
theorem dk_K_weighing_101 : decode prog_1_method_11_code 101 = .ok (.ifCond .eq 7, 3) := by decide +kernel
theorem dk_K_weighing_104 : decode prog_1_method_11_code 104 = .ok (.iconst 1, 1) := by decide +kernel
theorem dk_K_weighing_105 : decode prog_1_method_11_code 105 = .ok (.goto 4, 3) := by decide +kernel
theorem dk_K_weighing_108 : decode prog_1_method_11_code 108 = .ok (.iconst 0, 1) := by decide +kernel
theorem dk_K_weighing_109 : decode prog_1_method_11_code 109 = .ok (.ireturn, 1) := by decide +kernel
theorem dk_K_weighing_110 : decode prog_1_method_11_code 110 = .ok (.ldc 84, 2) := by decide +kernel
theorem dk_K_weighing_112 : decode prog_1_method_11_code 112 = .ok (.ireturn, 1) := by decide +kernel
noncomputable def fx_K_weighing (p1 : Int32) (p2 : Int32) (c : (Nat → Nat → Int32)) : Option Int32 :=
  kv_bind1 (fx_Weighings_has p1 c) (fun b1 =>
  if b1 = true then
    if p2 = (0 : Int32) then
      kv_gd (kv_in p1 20) (
      some (c 11 p1.toNatClampNeg))
    else if p2 = (1 : Int32) then
      kv_gd (kv_in p1 20) (
      some (c 12 p1.toNatClampNeg))
    else if p2 = (2 : Int32) then
      kv_gd (kv_in p1 20) (
      some (c 13 p1.toNatClampNeg))
    else if p2 = (3 : Int32) then
      kv_gd (kv_in p1 20) (
      some (c 14 p1.toNatClampNeg))
    else if p2 = (4 : Int32) then
      kv_gd (kv_in p1 20) (
      some (c 15 p1.toNatClampNeg))
    else if p2 = (5 : Int32) then
      kv_gd (kv_in p1 20) (
      if (c 16 p1.toNatClampNeg) = 0 then
        some (0 : Int32)
      else
        some (1 : Int32))
    else 
    some (-1000000001 : Int32)
  else
    some (-1000000001 : Int32))
set_option maxRecDepth 20000 in
theorem cx_K_weighing (d : Nat) (p1 : Int32) (p2 : Int32) (c : (Nat → Nat → Int32)) (y : (Nat → Nat → Int32) × (Nat → Int64) × (Nat → Int64)) : ∀ a, fx_K_weighing p1 p2 c = some a → kv_C kM_K_weighing (d + 1) [.ref 0, .int p1, .int p2] (c, y) (some (.int a), (c, y)) := by
  refine kv_entryX (E := fun a : Int32 => (some (.int a), (c, y))) rfl (Nat.le_of_ble_eq_true rfl) (fun o => ?_)
  unfold fx_K_weighing
  show kv_X _ _ _ _ _ 0 [(0, .ref 0), (1, .int p1), (2, .int p2)] [] (c, y)
  refine kv_aload_n (pc := 0) 0 rfl rfl dk_K_weighing_0 ?_
  refine kv_getR (pc := 1) kf_K_10 kr_0 rfl kt_0_0 dk_K_weighing_1 ?_
  refine kv_getR (pc := 4) kf_K_152 kr_1 rfl kt_1_1 dk_K_weighing_4 ?_
  refine kv_astore_n (pc := 7) (lv' := [(3, .ref 10), (0, .ref 0), (1, .int p1), (2, .int p2)]) rfl (Nat.le_of_ble_eq_true rfl) rfl dk_K_weighing_7 ?_
  refine kv_aload_n (pc := 8) 0 rfl rfl dk_K_weighing_8 ?_
  refine kv_iload_n (pc := 9) 2 rfl rfl dk_K_weighing_9 ?_
  refine kv_cV_cZ (pc := 10) (as := [.int p1]) (st := []) ko_Weighings_has kc_9 rfl rfl kr_10 kw_658 (Nat.le_of_ble_eq_true rfl) rfl dk_K_weighing_10 (cx_Weighings_has d p1 c y) (fun b1 => ?_)
  refine kv_zif_ne (pc := 13) (tgt := 19) dk_K_weighing_13 rfl ?_ ?_
  · refine kv_iload_n (pc := 19) 3 rfl rfl dk_K_weighing_19 ?_
    refine kv_swIn (pc := 20) (v := (0 : Int32)) (tgt := 60) dk_K_weighing_20 (by decide) (by decide) rfl (by decide) ?_ (fun n2 => ?_)
    · refine kv_aload_n (pc := 60) 0 rfl rfl dk_K_weighing_60 ?_
      refine kv_getR (pc := 61) kf_K_192 kr_10 rfl kt_10_0 dk_K_weighing_61 ?_
      refine kv_iload_n (pc := 64) 2 rfl rfl dk_K_weighing_64 ?_
      refine kv_guard (fun g3 => ?_)
      refine kv_aldC (pc := 65) kr_11 kn_11 kl_11 g3 rfl dk_K_weighing_65 ?_
      exact kv_iret (pc := 66) (fun h => h) rfl dk_K_weighing_66
    refine kv_swIn (pc := 20) (v := (1 : Int32)) (tgt := 67) dk_K_weighing_20 (by decide) (by decide) rfl (by decide) ?_ (fun n4 => ?_)
    · refine kv_aload_n (pc := 67) 0 rfl rfl dk_K_weighing_67 ?_
      refine kv_getR (pc := 68) kf_K_195 kr_10 rfl kt_10_1 dk_K_weighing_68 ?_
      refine kv_iload_n (pc := 71) 2 rfl rfl dk_K_weighing_71 ?_
      refine kv_guard (fun g5 => ?_)
      refine kv_aldC (pc := 72) kr_12 kn_12 kl_12 g5 rfl dk_K_weighing_72 ?_
      exact kv_iret (pc := 73) (fun h => h) rfl dk_K_weighing_73
    refine kv_swIn (pc := 20) (v := (2 : Int32)) (tgt := 74) dk_K_weighing_20 (by decide) (by decide) rfl (by decide) ?_ (fun n6 => ?_)
    · refine kv_aload_n (pc := 74) 0 rfl rfl dk_K_weighing_74 ?_
      refine kv_getR (pc := 75) kf_K_198 kr_10 rfl kt_10_2 dk_K_weighing_75 ?_
      refine kv_iload_n (pc := 78) 2 rfl rfl dk_K_weighing_78 ?_
      refine kv_guard (fun g7 => ?_)
      refine kv_aldC (pc := 79) kr_13 kn_13 kl_13 g7 rfl dk_K_weighing_79 ?_
      exact kv_iret (pc := 80) (fun h => h) rfl dk_K_weighing_80
    refine kv_swIn (pc := 20) (v := (3 : Int32)) (tgt := 81) dk_K_weighing_20 (by decide) (by decide) rfl (by decide) ?_ (fun n8 => ?_)
    · refine kv_aload_n (pc := 81) 0 rfl rfl dk_K_weighing_81 ?_
      refine kv_getR (pc := 82) kf_K_201 kr_10 rfl kt_10_3 dk_K_weighing_82 ?_
      refine kv_iload_n (pc := 85) 2 rfl rfl dk_K_weighing_85 ?_
      refine kv_guard (fun g9 => ?_)
      refine kv_aldC (pc := 86) kr_14 kn_14 kl_14 g9 rfl dk_K_weighing_86 ?_
      exact kv_iret (pc := 87) (fun h => h) rfl dk_K_weighing_87
    refine kv_swIn (pc := 20) (v := (4 : Int32)) (tgt := 88) dk_K_weighing_20 (by decide) (by decide) rfl (by decide) ?_ (fun n10 => ?_)
    · refine kv_aload_n (pc := 88) 0 rfl rfl dk_K_weighing_88 ?_
      refine kv_getR (pc := 89) kf_K_204 kr_10 rfl kt_10_4 dk_K_weighing_89 ?_
      refine kv_iload_n (pc := 92) 2 rfl rfl dk_K_weighing_92 ?_
      refine kv_guard (fun g11 => ?_)
      refine kv_aldC (pc := 93) kr_15 kn_15 kl_15 g11 rfl dk_K_weighing_93 ?_
      exact kv_iret (pc := 94) (fun h => h) rfl dk_K_weighing_94
    refine kv_swIn (pc := 20) (v := (5 : Int32)) (tgt := 95) dk_K_weighing_20 (by decide) (by decide) rfl (by decide) ?_ (fun n12 => ?_)
    · refine kv_aload_n (pc := 95) 0 rfl rfl dk_K_weighing_95 ?_
      refine kv_getR (pc := 96) kf_K_207 kr_10 rfl kt_10_5 dk_K_weighing_96 ?_
      refine kv_iload_n (pc := 99) 2 rfl rfl dk_K_weighing_99 ?_
      refine kv_guard (fun g13 => ?_)
      refine kv_aldZC (pc := 100) kr_16 kn_16 kl_16 g13 rfl dk_K_weighing_100 ?_
      refine kv_if_eq (pc := 101) (tgt := 108) dk_K_weighing_101 rfl ?_ ?_
      · refine kv_iconst (pc := 108) (v := (0 : Int32)) dk_K_weighing_108 kki_0 ?_
        exact kv_iret (pc := 109) (fun h => h) rfl dk_K_weighing_109
      · refine kv_iconst (pc := 104) (v := (1 : Int32)) dk_K_weighing_104 kki_1 ?_
        refine kv_goto (pc := 105) (tgt := 109) dk_K_weighing_105 rfl ?_
        exact kv_iret (pc := 109) (fun h => h) rfl dk_K_weighing_109
    refine kv_swOut (pc := 20) (tgt := 110) dk_K_weighing_20 (by have qn2 := kv_ne (0 : Int32) (k := 0) rfl n2; have qn4 := kv_ne (1 : Int32) (k := 1) rfl n4; have qn6 := kv_ne (2 : Int32) (k := 2) rfl n6; have qn8 := kv_ne (3 : Int32) (k := 3) rfl n8; have qn10 := kv_ne (4 : Int32) (k := 4) rfl n10; have qn12 := kv_ne (5 : Int32) (k := 5) rfl n12; omega) (by decide) ?_
    refine kv_ldc (pc := 110) (v := (-1000000001 : Int32)) kw_530 dk_K_weighing_110 ?_
    exact kv_iret (pc := 112) (fun h => h) rfl dk_K_weighing_112
  · refine kv_ldc (pc := 16) (v := (-1000000001 : Int32)) kw_530 dk_K_weighing_16 ?_
    exact kv_iret (pc := 18) (fun h => h) rfl dk_K_weighing_18
theorem dk_D_isWeighing_0 : decode prog_13_method_24_code 0 = .ok (.iload_n 1, 1) := by decide +kernel
theorem dk_D_isWeighing_1 : decode prog_13_method_24_code 1 = .ok (.i2l, 1) := by decide +kernel
theorem dk_D_isWeighing_2 : decode prog_13_method_24_code 2 = .ok (.lconst 0, 1) := by decide +kernel
theorem dk_D_isWeighing_3 : decode prog_13_method_24_code 3 = .ok (.aload_n 0, 1) := by decide +kernel
theorem dk_D_isWeighing_4 : decode prog_13_method_24_code 4 = .ok (.getfield 9, 3) := by decide +kernel
theorem dk_D_isWeighing_7 : decode prog_13_method_24_code 7 = .ok (.iconst 2, 1) := by decide +kernel
theorem dk_D_isWeighing_8 : decode prog_13_method_24_code 8 = .ok (.iaload, 1) := by decide +kernel
theorem dk_D_isWeighing_9 : decode prog_13_method_24_code 9 = .ok (.iconst 1, 1) := by decide +kernel
theorem dk_D_isWeighing_10 : decode prog_13_method_24_code 10 = .ok (.isub, 1) := by decide +kernel
theorem dk_D_isWeighing_11 : decode prog_13_method_24_code 11 = .ok (.i2l, 1) := by decide +kernel
theorem dk_D_isWeighing_12 : decode prog_13_method_24_code 12 = .ok (.invokestatic 60, 3) := by decide +kernel
theorem dk_D_isWeighing_15 : decode prog_13_method_24_code 15 = .ok (.ireturn, 1) := by decide +kernel
noncomputable def fx_D_isWeighing (p1 : Int32) (m : (Nat → Nat → Int32)) : Option Bool :=
  kv_bind1 (fx_D_isIn p1.toInt64 (0 : Int64) ((m 85 2) - (1 : Int32)).toInt64) (fun b1 =>
  some b1)
set_option maxRecDepth 20000 in
theorem cx_D_isWeighing (d : Nat) (p1 : Int32) (c : (Nat → Nat → Int32)) (m : (Nat → Nat → Int32)) (f : (Nat → Int64)) (u : (Nat → Int64)) : ∀ a, fx_D_isWeighing p1 m = some a → kv_C kM_D_isWeighing (d + 1) [.ref 84, .int p1] (c, m, f, u) (some (.int (kv_b a)), (c, m, f, u)) := by
  refine kv_entryX (E := fun a : Bool => (some (.int (kv_b a)), (c, m, f, u))) rfl (Nat.le_of_ble_eq_true rfl) (fun o => ?_)
  unfold fx_D_isWeighing
  show kv_X _ _ _ _ _ 0 [(0, .ref 84), (1, .int p1)] [] (c, m, f, u)
  refine kv_iload_n (pc := 0) 1 rfl rfl dk_D_isWeighing_0 ?_
  refine kv_i2l (pc := 1) dk_D_isWeighing_1 ?_
  refine kv_lconst (pc := 2) (v := (0 : Int64)) dk_D_isWeighing_2 kkl_0 ?_
  refine kv_aload_n (pc := 3) 0 rfl rfl dk_D_isWeighing_3 ?_
  refine kv_getR (pc := 4) kf_D_9 kr_84 rfl kt_84_0 dk_D_isWeighing_4 ?_
  refine kv_iconst (pc := 7) (v := (2 : Int32)) dk_D_isWeighing_7 kki_2 ?_
  refine kv_aldM (pc := 8) kr_85 kn_85 kl_85 kkg_2_444 (j := 2) kkx_2 dk_D_isWeighing_8 ?_
  refine kv_iconst (pc := 9) (v := (1 : Int32)) dk_D_isWeighing_9 kki_1 ?_
  refine kv_isub (pc := 10) dk_D_isWeighing_10 ?_
  refine kv_i2l (pc := 11) dk_D_isWeighing_11 ?_
  refine kv_cS_mZ (pc := 12) (as := [.long p1.toInt64, .long (0 : Int64), .long ((m 85 2) - (1 : Int32)).toInt64]) (st := []) ko_D_isIn rfl kw_1330 (Nat.le_of_ble_eq_true rfl) rfl dk_D_isWeighing_12 (cx_D_isIn d p1.toInt64 (0 : Int64) ((m 85 2) - (1 : Int32)).toInt64 c m f u) (fun b1 => ?_)
  exact kv_zret (pc := 15) (b := b1) (fun h => h) rfl dk_D_isWeighing_15
theorem dk_D_say_0 : decode prog_13_method_25_code 0 = .ok (.aload_n 0, 1) := by decide +kernel
theorem dk_D_say_1 : decode prog_13_method_25_code 1 = .ok (.getfield 9, 3) := by decide +kernel
theorem dk_D_say_4 : decode prog_13_method_25_code 4 = .ok (.bipush 80, 2) := by decide +kernel
theorem dk_D_say_6 : decode prog_13_method_25_code 6 = .ok (.bipush 6, 2) := by decide +kernel
theorem dk_D_say_8 : decode prog_13_method_25_code 8 = .ok (.iload_n 1, 1) := by decide +kernel
theorem dk_D_say_9 : decode prog_13_method_25_code 9 = .ok (.imul, 1) := by decide +kernel
theorem dk_D_say_10 : decode prog_13_method_25_code 10 = .ok (.iadd, 1) := by decide +kernel
theorem dk_D_say_11 : decode prog_13_method_25_code 11 = .ok (.iload_n 2, 1) := by decide +kernel
theorem dk_D_say_12 : decode prog_13_method_25_code 12 = .ok (.iadd, 1) := by decide +kernel
theorem dk_D_say_13 : decode prog_13_method_25_code 13 = .ok (.iaload, 1) := by decide +kernel
theorem dk_D_say_14 : decode prog_13_method_25_code 14 = .ok (.ireturn, 1) := by decide +kernel
noncomputable def fx_D_say (p1 : Int32) (p2 : Int32) (m : (Nat → Nat → Int32)) : Option Int32 :=
  kv_gd (kv_in (((80 : Int32) + ((6 : Int32) * p1)) + p2) 444) (
  some (m 85 (((80 : Int32) + ((6 : Int32) * p1)) + p2).toNatClampNeg))
set_option maxRecDepth 20000 in
theorem cx_D_say (d : Nat) (p1 : Int32) (p2 : Int32) (c : (Nat → Nat → Int32)) (m : (Nat → Nat → Int32)) (f : (Nat → Int64)) (u : (Nat → Int64)) : ∀ a, fx_D_say p1 p2 m = some a → kv_C kM_D_say (d + 0) [.ref 84, .int p1, .int p2] (c, m, f, u) (some (.int a), (c, m, f, u)) := by
  refine kv_entryX (E := fun a : Int32 => (some (.int a), (c, m, f, u))) rfl (Nat.le_of_ble_eq_true rfl) (fun o => ?_)
  unfold fx_D_say
  show kv_X _ _ _ _ _ 0 [(0, .ref 84), (1, .int p1), (2, .int p2)] [] (c, m, f, u)
  refine kv_aload_n (pc := 0) 0 rfl rfl dk_D_say_0 ?_
  refine kv_getR (pc := 1) kf_D_9 kr_84 rfl kt_84_0 dk_D_say_1 ?_
  refine kv_bipush (pc := 4) (v := (80 : Int32)) dk_D_say_4 kkb_80 ?_
  refine kv_bipush (pc := 6) (v := (6 : Int32)) dk_D_say_6 kkb_6 ?_
  refine kv_iload_n (pc := 8) 1 rfl rfl dk_D_say_8 ?_
  refine kv_imul (pc := 9) dk_D_say_9 ?_
  refine kv_iadd (pc := 10) dk_D_say_10 ?_
  refine kv_iload_n (pc := 11) 2 rfl rfl dk_D_say_11 ?_
  refine kv_iadd (pc := 12) dk_D_say_12 ?_
  refine kv_guard (fun g1 => ?_)
  refine kv_aldM (pc := 13) kr_85 kn_85 kl_85 g1 rfl dk_D_say_13 ?_
  exact kv_iret (pc := 14) (fun h => h) rfl dk_D_say_14
theorem dk_D_weighing_0 : decode prog_13_method_26_code 0 = .ok (.aload_n 0, 1) := by decide +kernel
theorem dk_D_weighing_1 : decode prog_13_method_26_code 1 = .ok (.iload_n 1, 1) := by decide +kernel
theorem dk_D_weighing_2 : decode prog_13_method_26_code 2 = .ok (.invokevirtual 138, 3) := by decide +kernel
theorem dk_D_weighing_5 : decode prog_13_method_26_code 5 = .ok (.ifCond .eq 24, 3) := by decide +kernel
theorem dk_D_weighing_8 : decode prog_13_method_26_code 8 = .ok (.iload_n 2, 1) := by decide +kernel
theorem dk_D_weighing_9 : decode prog_13_method_26_code 9 = .ok (.i2l, 1) := by decide +kernel
theorem dk_D_weighing_10 : decode prog_13_method_26_code 10 = .ok (.lconst 0, 1) := by decide +kernel
theorem dk_D_weighing_11 : decode prog_13_method_26_code 11 = .ok (.ldc2_w 86, 3) := by decide +kernel
theorem dk_D_weighing_14 : decode prog_13_method_26_code 14 = .ok (.invokestatic 60, 3) := by decide +kernel
theorem dk_D_weighing_17 : decode prog_13_method_26_code 17 = .ok (.ifCond .eq 12, 3) := by decide +kernel
theorem dk_D_weighing_20 : decode prog_13_method_26_code 20 = .ok (.aload_n 0, 1) := by decide +kernel
theorem dk_D_weighing_21 : decode prog_13_method_26_code 21 = .ok (.iload_n 1, 1) := by decide +kernel
theorem dk_D_weighing_22 : decode prog_13_method_26_code 22 = .ok (.iload_n 2, 1) := by decide +kernel
theorem dk_D_weighing_23 : decode prog_13_method_26_code 23 = .ok (.invokevirtual 141, 3) := by decide +kernel
theorem dk_D_weighing_26 : decode prog_13_method_26_code 26 = .ok (.goto 5, 3) := by decide +kernel
theorem dk_D_weighing_29 : decode prog_13_method_26_code 29 = .ok (.ldc 91, 2) := by decide +kernel
theorem dk_D_weighing_31 : decode prog_13_method_26_code 31 = .ok (.ireturn, 1) := by decide +kernel
noncomputable def fx_D_weighing (p1 : Int32) (p2 : Int32) (m : (Nat → Nat → Int32)) : Option Int32 :=
  kv_bind1 (fx_D_isWeighing p1 m) (fun b1 =>
  if b1 = true then
    kv_bind1 (fx_D_isIn p2.toInt64 (0 : Int64) (5 : Int64)) (fun b2 =>
    if b2 = true then
      kv_bind1 (fx_D_say p1 p2 m) (fun v3 =>
      some v3)
    else
      some (-1000000001 : Int32))
  else
    some (-1000000001 : Int32))
set_option maxRecDepth 20000 in
theorem cx_D_weighing (d : Nat) (p1 : Int32) (p2 : Int32) (c : (Nat → Nat → Int32)) (m : (Nat → Nat → Int32)) (f : (Nat → Int64)) (u : (Nat → Int64)) : ∀ a, fx_D_weighing p1 p2 m = some a → kv_C kM_D_weighing (d + 2) [.ref 84, .int p1, .int p2] (c, m, f, u) (some (.int a), (c, m, f, u)) := by
  refine kv_entryX (E := fun a : Int32 => (some (.int a), (c, m, f, u))) rfl (Nat.le_of_ble_eq_true rfl) (fun o => ?_)
  unfold fx_D_weighing
  show kv_X _ _ _ _ _ 0 [(0, .ref 84), (1, .int p1), (2, .int p2)] [] (c, m, f, u)
  refine kv_aload_n (pc := 0) 0 rfl rfl dk_D_weighing_0 ?_
  refine kv_iload_n (pc := 1) 1 rfl rfl dk_D_weighing_1 ?_
  refine kv_cV_mZ (pc := 2) (as := [.int p1]) (st := []) ko_D_isWeighing kc_11 rfl rfl kr_84 kw_1431 (Nat.le_of_ble_eq_true rfl) rfl dk_D_weighing_2 (cx_D_isWeighing d p1 c m f u) (fun b1 => ?_)
  refine kv_zif_eq (pc := 5) (tgt := 29) dk_D_weighing_5 rfl ?_ ?_
  · refine kv_ldc (pc := 29) (v := (-1000000001 : Int32)) kw_1354 dk_D_weighing_29 ?_
    exact kv_iret (pc := 31) (fun h => h) rfl dk_D_weighing_31
  · refine kv_iload_n (pc := 8) 2 rfl rfl dk_D_weighing_8 ?_
    refine kv_i2l (pc := 9) dk_D_weighing_9 ?_
    refine kv_lconst (pc := 10) (v := (0 : Int64)) dk_D_weighing_10 kkl_0 ?_
    refine kv_ldc2 (pc := 11) (v := (5 : Int64)) kw_1349 dk_D_weighing_11 ?_
    refine kv_cS_mZ (pc := 14) (as := [.long p2.toInt64, .long (0 : Int64), .long (5 : Int64)]) (st := []) ko_D_isIn rfl kw_1330 (Nat.le_of_ble_eq_true rfl) rfl dk_D_weighing_14 (cx_D_isIn (d + 1) p2.toInt64 (0 : Int64) (5 : Int64) c m f u) (fun b2 => ?_)
    refine kv_zif_eq (pc := 17) (tgt := 29) dk_D_weighing_17 rfl ?_ ?_
    · refine kv_ldc (pc := 29) (v := (-1000000001 : Int32)) kw_1354 dk_D_weighing_29 ?_
      exact kv_iret (pc := 31) (fun h => h) rfl dk_D_weighing_31
    · refine kv_aload_n (pc := 20) 0 rfl rfl dk_D_weighing_20 ?_
      refine kv_iload_n (pc := 21) 1 rfl rfl dk_D_weighing_21 ?_
      refine kv_iload_n (pc := 22) 2 rfl rfl dk_D_weighing_22 ?_
      refine kv_cV_mI (pc := 23) (as := [.int p1, .int p2]) (st := []) ko_D_say kc_11 rfl rfl kr_84 kw_1435 (Nat.le_of_ble_eq_true rfl) rfl dk_D_weighing_23 (cx_D_say (d + 1) p1 p2 c m f u) (fun v3 => ?_)
      refine kv_goto (pc := 26) (tgt := 31) dk_D_weighing_26 rfl ?_
      exact kv_iret (pc := 31) (fun h => h) rfl dk_D_weighing_31
theorem dk_K_out_0 : decode prog_1_method_12_code 0 = .ok (.aload_n 0, 1) := by decide +kernel
theorem dk_K_out_1 : decode prog_1_method_12_code 1 = .ok (.getfield 10, 3) := by decide +kernel
theorem dk_K_out_4 : decode prog_1_method_12_code 4 = .ok (.getfield 152, 3) := by decide +kernel
theorem dk_K_out_7 : decode prog_1_method_12_code 7 = .ok (.astore_n 3, 1) := by decide +kernel
theorem dk_K_out_8 : decode prog_1_method_12_code 8 = .ok (.aload_n 3, 1) := by decide +kernel
theorem dk_K_out_9 : decode prog_1_method_12_code 9 = .ok (.iload_n 1, 1) := by decide +kernel
theorem dk_K_out_10 : decode prog_1_method_12_code 10 = .ok (.invokevirtual 191, 3) := by decide +kernel
theorem dk_K_out_13 : decode prog_1_method_12_code 13 = .ok (.ifCond .ne 5, 3) := by decide +kernel
theorem dk_K_out_16 : decode prog_1_method_12_code 16 = .ok (.iconst (-1), 1) := by decide +kernel
theorem dk_K_out_17 : decode prog_1_method_12_code 17 = .ok (.ireturn, 1) := by decide +kernel
theorem dk_K_out_18 : decode prog_1_method_12_code 18 = .ok (.aload_n 3, 1) := by decide +kernel
theorem dk_K_out_19 : decode prog_1_method_12_code 19 = .ok (.getfield 207, 3) := by decide +kernel
theorem dk_K_out_22 : decode prog_1_method_12_code 22 = .ok (.iload_n 1, 1) := by decide +kernel
theorem dk_K_out_23 : decode prog_1_method_12_code 23 = .ok (.baload, 1) := by decide +kernel
theorem dk_K_out_24 : decode prog_1_method_12_code 24 = .ok (.istore 4, 2) := by decide +kernel
theorem dk_K_out_26 : decode prog_1_method_12_code 26 = .ok (.aload_n 3, 1) := by decide +kernel
theorem dk_K_out_27 : decode prog_1_method_12_code 27 = .ok (.getfield 207, 3) := by decide +kernel
theorem dk_K_out_30 : decode prog_1_method_12_code 30 = .ok (.iload_n 1, 1) := by decide +kernel
theorem dk_K_out_31 : decode prog_1_method_12_code 31 = .ok (.iload_n 2, 1) := by decide +kernel
theorem dk_K_out_32 : decode prog_1_method_12_code 32 = .ok (.bastore, 1) := by decide +kernel
theorem dk_K_out_33 : decode prog_1_method_12_code 33 = .ok (.iload 4, 2) := by decide +kernel
theorem dk_K_out_35 : decode prog_1_method_12_code 35 = .ok (.iload_n 2, 1) := by decide +kernel
theorem dk_K_out_36 : decode prog_1_method_12_code 36 = .ok (.if_icmp .ne 7, 3) := by decide +kernel
theorem dk_K_out_39 : decode prog_1_method_12_code 39 = .ok (.iconst 0, 1) := by decide +kernel
theorem dk_K_out_40 : decode prog_1_method_12_code 40 = .ok (.goto 4, 3) := by decide +kernel
theorem dk_K_out_43 : decode prog_1_method_12_code 43 = .ok (.iconst 1, 1) := by decide +kernel
theorem dk_K_out_44 : decode prog_1_method_12_code 44 = .ok (.ireturn, 1) := by decide +kernel
noncomputable def fx_K_out (p1 : Int32) (p2 : Int32) (c : (Nat → Nat → Int32)) : Option (Int32 × (Nat → Nat → Int32)) :=
  kv_bind1 (fx_Weighings_has p1 c) (fun b1 =>
  if b1 = true then
    kv_gd (kv_in p1 20) (
    kv_let (c 16 p1.toNatClampNeg) (fun v3 =>
    kv_let (kv_st c 16 p1.toNatClampNeg (vp_nar .boolean p2)) (fun c4 =>
    if v3 = p2 then
      some ((0 : Int32), c4)
    else
      some ((1 : Int32), c4))))
  else
    some ((-1 : Int32), c))
set_option maxRecDepth 20000 in
theorem cx_K_out (d : Nat) (p1 : Int32) (p2 : Int32) (c : (Nat → Nat → Int32)) (y : (Nat → Nat → Int32) × (Nat → Int64) × (Nat → Int64)) : ∀ a, fx_K_out p1 p2 c = some a → kv_C kM_K_out (d + 1) [.ref 0, .int p1, .int p2] (c, y) (some (.int a.1), (a.2, y)) := by
  refine kv_entryX (E := fun a : (Int32 × (Nat → Nat → Int32)) => (some (.int a.1), (a.2, y))) rfl (Nat.le_of_ble_eq_true rfl) (fun o => ?_)
  unfold fx_K_out
  show kv_X _ _ _ _ _ 0 [(0, .ref 0), (1, .int p1), (2, .int p2)] [] (c, y)
  refine kv_aload_n (pc := 0) 0 rfl rfl dk_K_out_0 ?_
  refine kv_getR (pc := 1) kf_K_10 kr_0 rfl kt_0_0 dk_K_out_1 ?_
  refine kv_getR (pc := 4) kf_K_152 kr_1 rfl kt_1_1 dk_K_out_4 ?_
  refine kv_astore_n (pc := 7) (lv' := [(3, .ref 10), (0, .ref 0), (1, .int p1), (2, .int p2)]) rfl (Nat.le_of_ble_eq_true rfl) rfl dk_K_out_7 ?_
  refine kv_aload_n (pc := 8) 0 rfl rfl dk_K_out_8 ?_
  refine kv_iload_n (pc := 9) 2 rfl rfl dk_K_out_9 ?_
  refine kv_cV_cZ (pc := 10) (as := [.int p1]) (st := []) ko_Weighings_has kc_9 rfl rfl kr_10 kw_658 (Nat.le_of_ble_eq_true rfl) rfl dk_K_out_10 (cx_Weighings_has d p1 c y) (fun b1 => ?_)
  refine kv_zif_ne (pc := 13) (tgt := 18) dk_K_out_13 rfl ?_ ?_
  · refine kv_aload_n (pc := 18) 0 rfl rfl dk_K_out_18 ?_
    refine kv_getR (pc := 19) kf_K_207 kr_10 rfl kt_10_5 dk_K_out_19 ?_
    refine kv_iload_n (pc := 22) 2 rfl rfl dk_K_out_22 ?_
    refine kv_guard (fun g2 => ?_)
    refine kv_aldZC (pc := 23) kr_16 kn_16 kl_16 g2 rfl dk_K_out_23 ?_
    refine kv_letI (fun v3 => ?_)
    refine kv_istore (pc := 24) (lv' := [(4, .int v3), (3, .ref 10), (0, .ref 0), (1, .int p1), (2, .int p2)]) rfl (Nat.le_of_ble_eq_true rfl) dk_K_out_24 ?_
    refine kv_aload_n (pc := 26) 1 rfl rfl dk_K_out_26 ?_
    refine kv_getR (pc := 27) kf_K_207 kr_10 rfl kt_10_5 dk_K_out_27 ?_
    refine kv_iload_n (pc := 30) 3 rfl rfl dk_K_out_30 ?_
    refine kv_iload_n (pc := 31) 4 rfl rfl dk_K_out_31 ?_
    refine kv_astZC (pc := 32) kr_16 kn_16 kl_16 g2 rfl dk_K_out_32 (fun c4 => ?_)
    refine kv_iload (pc := 33) 0 rfl dk_K_out_33 ?_
    refine kv_iload_n (pc := 35) 4 rfl rfl dk_K_out_35 ?_
    refine kv_icmp_ne (pc := 36) (tgt := 43) dk_K_out_36 rfl ?_ ?_
    · refine kv_iconst (pc := 43) (v := (1 : Int32)) dk_K_out_43 kki_1 ?_
      exact kv_iret (pc := 44) (fun h => h) rfl dk_K_out_44
    · refine kv_iconst (pc := 39) (v := (0 : Int32)) dk_K_out_39 kki_0 ?_
      refine kv_goto (pc := 40) (tgt := 44) dk_K_out_40 rfl ?_
      exact kv_iret (pc := 44) (fun h => h) rfl dk_K_out_44
  · refine kv_iconst (pc := 16) (v := (-1 : Int32)) dk_K_out_16 kki_m1 ?_
    exact kv_iret (pc := 17) (fun h => h) rfl dk_K_out_17
theorem dk_D_out_0 : decode prog_13_method_27_code 0 = .ok (.aload_n 0, 1) := by decide +kernel
theorem dk_D_out_1 : decode prog_13_method_27_code 1 = .ok (.iload_n 1, 1) := by decide +kernel
theorem dk_D_out_2 : decode prog_13_method_27_code 2 = .ok (.invokevirtual 138, 3) := by decide +kernel
theorem dk_D_out_5 : decode prog_13_method_27_code 5 = .ok (.ifCond .ne 5, 3) := by decide +kernel
theorem dk_D_out_8 : decode prog_13_method_27_code 8 = .ok (.iconst (-1), 1) := by decide +kernel
theorem dk_D_out_9 : decode prog_13_method_27_code 9 = .ok (.ireturn, 1) := by decide +kernel
theorem dk_D_out_10 : decode prog_13_method_27_code 10 = .ok (.aload_n 0, 1) := by decide +kernel
theorem dk_D_out_11 : decode prog_13_method_27_code 11 = .ok (.bipush 80, 2) := by decide +kernel
theorem dk_D_out_13 : decode prog_13_method_27_code 13 = .ok (.bipush 6, 2) := by decide +kernel
theorem dk_D_out_15 : decode prog_13_method_27_code 15 = .ok (.iload_n 1, 1) := by decide +kernel
theorem dk_D_out_16 : decode prog_13_method_27_code 16 = .ok (.imul, 1) := by decide +kernel
theorem dk_D_out_17 : decode prog_13_method_27_code 17 = .ok (.iadd, 1) := by decide +kernel
theorem dk_D_out_18 : decode prog_13_method_27_code 18 = .ok (.iconst 5, 1) := by decide +kernel
theorem dk_D_out_19 : decode prog_13_method_27_code 19 = .ok (.iadd, 1) := by decide +kernel
theorem dk_D_out_20 : decode prog_13_method_27_code 20 = .ok (.iload_n 2, 1) := by decide +kernel
theorem dk_D_out_21 : decode prog_13_method_27_code 21 = .ok (.ifCond .eq 7, 3) := by decide +kernel
theorem dk_D_out_24 : decode prog_13_method_27_code 24 = .ok (.iconst 1, 1) := by decide +kernel
theorem dk_D_out_25 : decode prog_13_method_27_code 25 = .ok (.goto 4, 3) := by decide +kernel
theorem dk_D_out_28 : decode prog_13_method_27_code 28 = .ok (.iconst 0, 1) := by decide +kernel
theorem dk_D_out_29 : decode prog_13_method_27_code 29 = .ok (.invokevirtual 88, 3) := by decide +kernel
theorem dk_D_out_32 : decode prog_13_method_27_code 32 = .ok (.istore_n 3, 1) := by decide +kernel
theorem dk_D_out_33 : decode prog_13_method_27_code 33 = .ok (.iload_n 3, 1) := by decide +kernel
theorem dk_D_out_34 : decode prog_13_method_27_code 34 = .ok (.iload_n 2, 1) := by decide +kernel
theorem dk_D_out_35 : decode prog_13_method_27_code 35 = .ok (.ifCond .eq 7, 3) := by decide +kernel
theorem dk_D_out_38 : decode prog_13_method_27_code 38 = .ok (.iconst 1, 1) := by decide +kernel
theorem dk_D_out_39 : decode prog_13_method_27_code 39 = .ok (.goto 4, 3) := by decide +kernel
theorem dk_D_out_42 : decode prog_13_method_27_code 42 = .ok (.iconst 0, 1) := by decide +kernel
theorem dk_D_out_43 : decode prog_13_method_27_code 43 = .ok (.if_icmp .ne 7, 3) := by decide +kernel
theorem dk_D_out_46 : decode prog_13_method_27_code 46 = .ok (.iconst 0, 1) := by decide +kernel
theorem dk_D_out_47 : decode prog_13_method_27_code 47 = .ok (.goto 4, 3) := by decide +kernel
theorem dk_D_out_50 : decode prog_13_method_27_code 50 = .ok (.iconst 1, 1) := by decide +kernel
theorem dk_D_out_51 : decode prog_13_method_27_code 51 = .ok (.ireturn, 1) := by decide +kernel
noncomputable def fj_D_out_43 (v3 : Int32) (m4 : (Nat → Nat → Int32)) (x5 : Int32) : Option (Int32 × (Nat → Nat → Int32)) :=
  if v3 = x5 then
    some ((0 : Int32), m4)
  else
    some ((1 : Int32), m4)
noncomputable def fj_D_out_29 (p1 : Int32) (m : (Nat → Nat → Int32)) (p2 : Int32) (x2 : Int32) : Option (Int32 × (Nat → Nat → Int32)) :=
  kv_bind2 (fx_D_becomes (((80 : Int32) + ((6 : Int32) * p1)) + (5 : Int32)) x2 m) (fun v3 m4 =>
  if p2 = 0 then
    fj_D_out_43 v3 m4 (0 : Int32)
  else
    fj_D_out_43 v3 m4 (1 : Int32))
noncomputable def fx_D_out (p1 : Int32) (p2 : Int32) (m : (Nat → Nat → Int32)) : Option (Int32 × (Nat → Nat → Int32)) :=
  kv_bind1 (fx_D_isWeighing p1 m) (fun b1 =>
  if b1 = true then
    if p2 = 0 then
      fj_D_out_29 p1 m p2 (0 : Int32)
    else
      fj_D_out_29 p1 m p2 (1 : Int32)
  else
    some ((-1 : Int32), m))
set_option maxRecDepth 20000 in
theorem cx_D_out (d : Nat) (p1 : Int32) (p2 : Int32) (c : (Nat → Nat → Int32)) (m : (Nat → Nat → Int32)) (f : (Nat → Int64)) (u : (Nat → Int64)) : ∀ a, fx_D_out p1 p2 m = some a → kv_C kM_D_out (d + 2) [.ref 84, .int p1, .int p2] (c, m, f, u) (some (.int a.1), (c, a.2, f, u)) := by
  refine kv_entryX (E := fun a : (Int32 × (Nat → Nat → Int32)) => (some (.int a.1), (c, a.2, f, u))) rfl (Nat.le_of_ble_eq_true rfl) (fun o => ?_)
  unfold fx_D_out
  show kv_X _ _ _ _ _ 0 [(0, .ref 84), (1, .int p1), (2, .int p2)] [] (c, m, f, u)
  refine kv_aload_n (pc := 0) 0 rfl rfl dk_D_out_0 ?_
  refine kv_iload_n (pc := 1) 1 rfl rfl dk_D_out_1 ?_
  refine kv_cV_mZ (pc := 2) (as := [.int p1]) (st := []) ko_D_isWeighing kc_11 rfl rfl kr_84 kw_1431 (Nat.le_of_ble_eq_true rfl) rfl dk_D_out_2 (cx_D_isWeighing d p1 c m f u) (fun b1 => ?_)
  refine kv_zif_ne (pc := 5) (tgt := 10) dk_D_out_5 rfl ?_ ?_
  · refine kv_aload_n (pc := 10) 0 rfl rfl dk_D_out_10 ?_
    refine kv_bipush (pc := 11) (v := (80 : Int32)) dk_D_out_11 kkb_80 ?_
    refine kv_bipush (pc := 13) (v := (6 : Int32)) dk_D_out_13 kkb_6 ?_
    refine kv_iload_n (pc := 15) 1 rfl rfl dk_D_out_15 ?_
    refine kv_imul (pc := 16) dk_D_out_16 ?_
    refine kv_iadd (pc := 17) dk_D_out_17 ?_
    refine kv_iconst (pc := 18) (v := (5 : Int32)) dk_D_out_18 kki_5 ?_
    refine kv_iadd (pc := 19) dk_D_out_19 ?_
    refine kv_iload_n (pc := 20) 2 rfl rfl dk_D_out_20 ?_
    refine kv_cut_1 (J := fj_D_out_29 p1 m p2) (pcj := 29) (LJ := fun x2 => [(2, .int p2)]) (SJ := fun x2 => [.int x2, .int (((80 : Int32) + ((6 : Int32) * p1)) + (5 : Int32)), .ref 84]) (WJ := fun x2 => (c, m, f, u)) ?_ (fun hj29 => ?_)
    · intro x2
      show kv_X _ _ _ _ (fj_D_out_29 p1 m p2 x2) 29 [(2, .int p2)] [.int x2, .int (((80 : Int32) + ((6 : Int32) * p1)) + (5 : Int32)), .ref 84] (c, m, f, u)
      unfold fj_D_out_29
      refine kv_cV_mIm (pc := 29) (as := [.int (((80 : Int32) + ((6 : Int32) * p1)) + (5 : Int32)), .int x2]) (st := []) ko_D_becomes kc_11 rfl rfl kr_84 kw_1350 (Nat.le_of_ble_eq_true rfl) rfl dk_D_out_29 (cx_D_becomes (d + 1) (((80 : Int32) + ((6 : Int32) * p1)) + (5 : Int32)) x2 c m f u) (fun v3 m4 => ?_)
      refine kv_istore_n (pc := 32) (lv' := [(3, .int v3), (2, .int p2)]) rfl (Nat.le_of_ble_eq_true rfl) rfl dk_D_out_32 ?_
      refine kv_iload_n (pc := 33) 0 rfl rfl dk_D_out_33 ?_
      refine kv_iload_n (pc := 34) 1 rfl rfl dk_D_out_34 ?_
      refine kv_cut_1 (J := fj_D_out_43 v3 m4) (pcj := 43) (LJ := fun x5 => []) (SJ := fun x5 => [.int x5, .int v3]) (WJ := fun x5 => (c, m4, f, u)) ?_ (fun hj43 => ?_)
      · intro x5
        show kv_X _ _ _ _ (fj_D_out_43 v3 m4 x5) 43 [] [.int x5, .int v3] (c, m4, f, u)
        unfold fj_D_out_43
        refine kv_icmp_ne (pc := 43) (tgt := 50) dk_D_out_43 rfl ?_ ?_
        · refine kv_iconst (pc := 50) (v := (1 : Int32)) dk_D_out_50 kki_1 ?_
          exact kv_iret (pc := 51) (fun h => h) rfl dk_D_out_51
        · refine kv_iconst (pc := 46) (v := (0 : Int32)) dk_D_out_46 kki_0 ?_
          refine kv_goto (pc := 47) (tgt := 51) dk_D_out_47 rfl ?_
          exact kv_iret (pc := 51) (fun h => h) rfl dk_D_out_51
      refine kv_if_eq (pc := 35) (tgt := 42) dk_D_out_35 rfl ?_ ?_
      · refine kv_iconst (pc := 42) (v := (0 : Int32)) dk_D_out_42 kki_0 ?_
        exact kv_sub [] rfl (hj43 (0 : Int32))
      · refine kv_iconst (pc := 38) (v := (1 : Int32)) dk_D_out_38 kki_1 ?_
        refine kv_goto (pc := 39) (tgt := 43) dk_D_out_39 rfl ?_
        exact kv_sub [] rfl (hj43 (1 : Int32))
    refine kv_if_eq (pc := 21) (tgt := 28) dk_D_out_21 rfl ?_ ?_
    · refine kv_iconst (pc := 28) (v := (0 : Int32)) dk_D_out_28 kki_0 ?_
      exact kv_sub [2] rfl (hj29 (0 : Int32))
    · refine kv_iconst (pc := 24) (v := (1 : Int32)) dk_D_out_24 kki_1 ?_
      refine kv_goto (pc := 25) (tgt := 29) dk_D_out_25 rfl ?_
      exact kv_sub [2] rfl (hj29 (1 : Int32))
  · refine kv_iconst (pc := 8) (v := (-1 : Int32)) dk_D_out_8 kki_m1 ?_
    exact kv_iret (pc := 9) (fun h => h) rfl dk_D_out_9
theorem dk_K_touches_0 : decode prog_1_method_13_code 0 = .ok (.aload_n 0, 1) := by decide +kernel
theorem dk_K_touches_1 : decode prog_1_method_13_code 1 = .ok (.getfield 10, 3) := by decide +kernel
theorem dk_K_touches_4 : decode prog_1_method_13_code 4 = .ok (.getfield 58, 3) := by decide +kernel
theorem dk_K_touches_7 : decode prog_1_method_13_code 7 = .ok (.invokevirtual 68, 3) := by decide +kernel
theorem dk_K_touches_10 : decode prog_1_method_13_code 10 = .ok (.ifCond .ge 8, 3) := by decide +kernel
theorem dk_K_touches_13 : decode prog_1_method_13_code 13 = .ok (.bipush (-4), 2) := by decide +kernel
theorem dk_K_touches_15 : decode prog_1_method_13_code 15 = .ok (.goto 20, 3) := by decide +kernel
theorem dk_K_touches_18 : decode prog_1_method_13_code 18 = .ok (.aload_n 0, 1) := by decide +kernel
theorem dk_K_touches_19 : decode prog_1_method_13_code 19 = .ok (.getfield 10, 3) := by decide +kernel
theorem dk_K_touches_22 : decode prog_1_method_13_code 22 = .ok (.getfield 152, 3) := by decide +kernel
theorem dk_K_touches_25 : decode prog_1_method_13_code 25 = .ok (.aload_n 0, 1) := by decide +kernel
theorem dk_K_touches_26 : decode prog_1_method_13_code 26 = .ok (.getfield 10, 3) := by decide +kernel
theorem dk_K_touches_29 : decode prog_1_method_13_code 29 = .ok (.getfield 124, 3) := by decide +kernel
theorem dk_K_touches_32 : decode prog_1_method_13_code 32 = .ok (.invokevirtual 159, 3) := by decide +kernel
theorem dk_K_touches_35 : decode prog_1_method_13_code 35 = .ok (.ireturn, 1) := by decide +kernel
noncomputable def fx_K_touches (c : (Nat → Nat → Int32)) : Option Int32 :=
  kv_bind1 (fx_Lumps_primeAt c) (fun v1 =>
  if 0 ≤ v1 then
    kv_bind1 (fx_Weighings_touchesLeft (c 1 5) c) (fun v2 =>
    some v2)
  else
    some (-4 : Int32))
set_option maxRecDepth 20000 in
theorem cx_K_touches (d : Nat) (c : (Nat → Nat → Int32)) (y : (Nat → Nat → Int32) × (Nat → Int64) × (Nat → Int64)) : ∀ a, fx_K_touches c = some a → kv_C kM_K_touches (d + 1) [.ref 0] (c, y) (some (.int a), (c, y)) := by
  refine kv_entryX (E := fun a : Int32 => (some (.int a), (c, y))) rfl (Nat.le_of_ble_eq_true rfl) (fun o => ?_)
  unfold fx_K_touches
  show kv_X _ _ _ _ _ 0 [(0, .ref 0)] [] (c, y)
  refine kv_aload_n (pc := 0) 0 rfl rfl dk_K_touches_0 ?_
  refine kv_getR (pc := 1) kf_K_10 kr_0 rfl kt_0_0 dk_K_touches_1 ?_
  refine kv_getR (pc := 4) kf_K_58 kr_1 rfl kt_1_0 dk_K_touches_4 ?_
  refine kv_cV_cI (pc := 7) (as := []) (st := []) ko_Lumps_primeAt kc_3 rfl rfl kr_2 kw_515 (Nat.le_of_ble_eq_true rfl) rfl dk_K_touches_7 (cx_Lumps_primeAt d c y) (fun v1 => ?_)
  refine kv_if_ge (pc := 10) (tgt := 18) dk_K_touches_10 rfl ?_ ?_
  · refine kv_aload_n (pc := 18) 0 rfl rfl dk_K_touches_18 ?_
    refine kv_getR (pc := 19) kf_K_10 kr_0 rfl kt_0_0 dk_K_touches_19 ?_
    refine kv_getR (pc := 22) kf_K_152 kr_1 rfl kt_1_1 dk_K_touches_22 ?_
    refine kv_aload_n (pc := 25) 0 rfl rfl dk_K_touches_25 ?_
    refine kv_getR (pc := 26) kf_K_10 kr_0 rfl kt_0_0 dk_K_touches_26 ?_
    refine kv_getC (pc := 29) kf_K_124 kr_1 kn_1 rfl dk_K_touches_29 ?_
    refine kv_cV_cI (pc := 32) (as := [.int (c 1 5)]) (st := []) ko_Weighings_touchesLeft kc_9 rfl rfl kr_10 kw_597 (Nat.le_of_ble_eq_true rfl) rfl dk_K_touches_32 (cx_Weighings_touchesLeft d (c 1 5) c y) (fun v2 => ?_)
    exact kv_iret (pc := 35) (fun h => h) rfl dk_K_touches_35
  · refine kv_bipush (pc := 13) (v := (-4 : Int32)) dk_K_touches_13 kkb_m4 ?_
    refine kv_goto (pc := 15) (tgt := 35) dk_K_touches_15 rfl ?_
    exact kv_iret (pc := 35) (fun h => h) rfl dk_K_touches_35
theorem dk_D_touches_0 : decode prog_13_method_28_code 0 = .ok (.aload_n 0, 1) := by decide +kernel
theorem dk_D_touches_1 : decode prog_13_method_28_code 1 = .ok (.invokevirtual 82, 3) := by decide +kernel
theorem dk_D_touches_4 : decode prog_13_method_28_code 4 = .ok (.ifCond .ge 8, 3) := by decide +kernel
theorem dk_D_touches_7 : decode prog_13_method_28_code 7 = .ok (.bipush (-4), 2) := by decide +kernel
theorem dk_D_touches_9 : decode prog_13_method_28_code 9 = .ok (.goto 7, 3) := by decide +kernel
theorem dk_D_touches_12 : decode prog_13_method_28_code 12 = .ok (.aload_n 0, 1) := by decide +kernel
theorem dk_D_touches_13 : decode prog_13_method_28_code 13 = .ok (.invokevirtual 113, 3) := by decide +kernel
theorem dk_D_touches_16 : decode prog_13_method_28_code 16 = .ok (.ireturn, 1) := by decide +kernel
noncomputable def fx_D_touches (m : (Nat → Nat → Int32)) : Option Int32 :=
  kv_bind1 (fx_D_primeOf m) (fun v1 =>
  if 0 ≤ v1 then
    kv_bind1 (fx_D_touchesLeft m) (fun v2 =>
    some v2)
  else
    some (-4 : Int32))
set_option maxRecDepth 20000 in
theorem cx_D_touches (d : Nat) (c : (Nat → Nat → Int32)) (m : (Nat → Nat → Int32)) (f : (Nat → Int64)) (u : (Nat → Int64)) : ∀ a, fx_D_touches m = some a → kv_C kM_D_touches (d + 2) [.ref 84] (c, m, f, u) (some (.int a), (c, m, f, u)) := by
  refine kv_entryX (E := fun a : Int32 => (some (.int a), (c, m, f, u))) rfl (Nat.le_of_ble_eq_true rfl) (fun o => ?_)
  unfold fx_D_touches
  show kv_X _ _ _ _ _ 0 [(0, .ref 84)] [] (c, m, f, u)
  refine kv_aload_n (pc := 0) 0 rfl rfl dk_D_touches_0 ?_
  refine kv_cV_mI (pc := 1) (as := []) (st := []) ko_D_primeOf kc_11 rfl rfl kr_84 kw_1337 (Nat.le_of_ble_eq_true rfl) rfl dk_D_touches_1 (cx_D_primeOf d c m f u) (fun v1 => ?_)
  refine kv_if_ge (pc := 4) (tgt := 12) dk_D_touches_4 rfl ?_ ?_
  · refine kv_aload_n (pc := 12) 0 rfl rfl dk_D_touches_12 ?_
    refine kv_cV_mI (pc := 13) (as := []) (st := []) ko_D_touchesLeft kc_11 rfl rfl kr_84 kw_1397 (Nat.le_of_ble_eq_true rfl) rfl dk_D_touches_13 (cx_D_touchesLeft (d + 1) c m f u) (fun v2 => ?_)
    exact kv_iret (pc := 16) (fun h => h) rfl dk_D_touches_16
  · refine kv_bipush (pc := 7) (v := (-4 : Int32)) dk_D_touches_7 kkb_m4 ?_
    refine kv_goto (pc := 9) (tgt := 16) dk_D_touches_9 rfl ?_
    exact kv_iret (pc := 16) (fun h => h) rfl dk_D_touches_16
theorem dk_Net_start_0 : decode prog_6_method_2_code 0 = .ok (.aload_n 0, 1) := by decide +kernel
theorem dk_Net_start_1 : decode prog_6_method_2_code 1 = .ok (.iload_n 1, 1) := by decide +kernel
theorem dk_Net_start_2 : decode prog_6_method_2_code 2 = .ok (.putfield 24, 3) := by decide +kernel
theorem dk_Net_start_5 : decode prog_6_method_2_code 5 = .ok (.aload_n 0, 1) := by decide +kernel
theorem dk_Net_start_6 : decode prog_6_method_2_code 6 = .ok (.iconst 0, 1) := by decide +kernel
theorem dk_Net_start_7 : decode prog_6_method_2_code 7 = .ok (.putfield 28, 3) := by decide +kernel
theorem dk_Net_start_10 : decode prog_6_method_2_code 10 = .ok (.return_, 1) := by decide +kernel
noncomputable def fx_Net_start (p1 : Int32) (c : (Nat → Nat → Int32)) : Option (Nat → Nat → Int32) :=
  kv_let (kv_st c 68 4 p1) (fun c1 =>
  kv_let (kv_st c1 68 5 (0 : Int32)) (fun c2 =>
  some c2))
set_option maxRecDepth 20000 in
theorem cx_Net_start (d : Nat) (p1 : Int32) (c : (Nat → Nat → Int32)) (y : (Nat → Nat → Int32) × (Nat → Int64) × (Nat → Int64)) : ∀ a, fx_Net_start p1 c = some a → kv_C kM_Net_start (d + 0) [.ref 68, .int p1] (c, y) (none, (a, y)) := by
  refine kv_entryX (E := fun a : (Nat → Nat → Int32) => (none, (a, y))) rfl (Nat.le_of_ble_eq_true rfl) (fun o => ?_)
  unfold fx_Net_start
  show kv_X _ _ _ _ _ 0 [(0, .ref 68), (1, .int p1)] [] (c, y)
  refine kv_aload_n (pc := 0) 0 rfl rfl dk_Net_start_0 ?_
  refine kv_iload_n (pc := 1) 1 rfl rfl dk_Net_start_1 ?_
  refine kv_putC (pc := 2) kf_Net_24 kr_68 kn_68 rfl rfl rfl dk_Net_start_2 (fun c1 => ?_)
  refine kv_aload_n (pc := 5) 0 rfl rfl dk_Net_start_5 ?_
  refine kv_iconst (pc := 6) (v := (0 : Int32)) dk_Net_start_6 kki_0 ?_
  refine kv_putC (pc := 7) kf_Net_28 kr_68 kn_68 rfl rfl rfl dk_Net_start_7 (fun c2 => ?_)
  exact kv_vret (pc := 10) (fun h => h) rfl dk_Net_start_10
theorem dk_Weighings_counts_0 : decode prog_11_method_4_code 0 = .ok (.aload_n 0, 1) := by decide +kernel
theorem dk_Weighings_counts_1 : decode prog_11_method_4_code 1 = .ok (.getfield 27, 3) := by decide +kernel
theorem dk_Weighings_counts_4 : decode prog_11_method_4_code 4 = .ok (.iload_n 1, 1) := by decide +kernel
theorem dk_Weighings_counts_5 : decode prog_11_method_4_code 5 = .ok (.baload, 1) := by decide +kernel
theorem dk_Weighings_counts_6 : decode prog_11_method_4_code 6 = .ok (.ifCond .ne 17, 3) := by decide +kernel
theorem dk_Weighings_counts_9 : decode prog_11_method_4_code 9 = .ok (.aload_n 0, 1) := by decide +kernel
theorem dk_Weighings_counts_10 : decode prog_11_method_4_code 10 = .ok (.getfield 9, 3) := by decide +kernel
theorem dk_Weighings_counts_13 : decode prog_11_method_4_code 13 = .ok (.iload_n 1, 1) := by decide +kernel
theorem dk_Weighings_counts_14 : decode prog_11_method_4_code 14 = .ok (.iaload, 1) := by decide +kernel
theorem dk_Weighings_counts_15 : decode prog_11_method_4_code 15 = .ok (.iload_n 2, 1) := by decide +kernel
theorem dk_Weighings_counts_16 : decode prog_11_method_4_code 16 = .ok (.if_icmp .ne 7, 3) := by decide +kernel
theorem dk_Weighings_counts_19 : decode prog_11_method_4_code 19 = .ok (.iconst 1, 1) := by decide +kernel
theorem dk_Weighings_counts_20 : decode prog_11_method_4_code 20 = .ok (.goto 4, 3) := by decide +kernel
theorem dk_Weighings_counts_23 : decode prog_11_method_4_code 23 = .ok (.iconst 0, 1) := by decide +kernel
theorem dk_Weighings_counts_24 : decode prog_11_method_4_code 24 = .ok (.ireturn, 1) := by decide +kernel
noncomputable def fx_Weighings_counts (p1 : Int32) (p2 : Int32) (c : (Nat → Nat → Int32)) : Option Bool :=
  kv_gd (kv_in p1 20) (
  if (c 16 p1.toNatClampNeg) = 0 then
    if (c 11 p1.toNatClampNeg) = p2 then
      some true
    else
      some false
  else
    some false)
set_option maxRecDepth 20000 in
theorem cx_Weighings_counts (d : Nat) (p1 : Int32) (p2 : Int32) (c : (Nat → Nat → Int32)) (y : (Nat → Nat → Int32) × (Nat → Int64) × (Nat → Int64)) : ∀ a, fx_Weighings_counts p1 p2 c = some a → kv_C kM_Weighings_counts (d + 0) [.ref 10, .int p1, .int p2] (c, y) (some (.int (kv_b a)), (c, y)) := by
  refine kv_entryX (E := fun a : Bool => (some (.int (kv_b a)), (c, y))) rfl (Nat.le_of_ble_eq_true rfl) (fun o => ?_)
  unfold fx_Weighings_counts
  show kv_X _ _ _ _ _ 0 [(0, .ref 10), (1, .int p1), (2, .int p2)] [] (c, y)
  refine kv_aload_n (pc := 0) 0 rfl rfl dk_Weighings_counts_0 ?_
  refine kv_getR (pc := 1) kf_Weighings_27 kr_10 rfl kt_10_5 dk_Weighings_counts_1 ?_
  refine kv_iload_n (pc := 4) 1 rfl rfl dk_Weighings_counts_4 ?_
  refine kv_guard (fun g1 => ?_)
  refine kv_aldZC (pc := 5) kr_16 kn_16 kl_16 g1 rfl dk_Weighings_counts_5 ?_
  refine kv_if_ne (pc := 6) (tgt := 23) dk_Weighings_counts_6 rfl ?_ ?_
  · refine kv_iconst (pc := 23) (v := (0 : Int32)) dk_Weighings_counts_23 kki_0 ?_
    exact kv_zret (pc := 24) (b := false) (fun h => h) rfl dk_Weighings_counts_24
  · refine kv_aload_n (pc := 9) 0 rfl rfl dk_Weighings_counts_9 ?_
    refine kv_getR (pc := 10) kf_Weighings_9 kr_10 rfl kt_10_0 dk_Weighings_counts_10 ?_
    refine kv_iload_n (pc := 13) 1 rfl rfl dk_Weighings_counts_13 ?_
    refine kv_aldC (pc := 14) kr_11 kn_11 kl_11 g1 rfl dk_Weighings_counts_14 ?_
    refine kv_iload_n (pc := 15) 2 rfl rfl dk_Weighings_counts_15 ?_
    refine kv_icmp_ne (pc := 16) (tgt := 23) dk_Weighings_counts_16 rfl ?_ ?_
    · refine kv_iconst (pc := 23) (v := (0 : Int32)) dk_Weighings_counts_23 kki_0 ?_
      exact kv_zret (pc := 24) (b := false) (fun h => h) rfl dk_Weighings_counts_24
    · refine kv_iconst (pc := 19) (v := (1 : Int32)) dk_Weighings_counts_19 kki_1 ?_
      refine kv_goto (pc := 20) (tgt := 24) dk_Weighings_counts_20 rfl ?_
      exact kv_zret (pc := 24) (b := true) (fun h => h) rfl dk_Weighings_counts_24
theorem dk_Weighings_least_0 : decode prog_11_method_5_code 0 = .ok (.aload_n 0, 1) := by decide +kernel
theorem dk_Weighings_least_1 : decode prog_11_method_5_code 1 = .ok (.getfield 21, 3) := by decide +kernel
theorem dk_Weighings_least_4 : decode prog_11_method_5_code 4 = .ok (.iload_n 1, 1) := by decide +kernel
theorem dk_Weighings_least_5 : decode prog_11_method_5_code 5 = .ok (.iaload, 1) := by decide +kernel
theorem dk_Weighings_least_6 : decode prog_11_method_5_code 6 = .ok (.aload_n 0, 1) := by decide +kernel
theorem dk_Weighings_least_7 : decode prog_11_method_5_code 7 = .ok (.getfield 24, 3) := by decide +kernel
theorem dk_Weighings_least_10 : decode prog_11_method_5_code 10 = .ok (.iload_n 1, 1) := by decide +kernel
theorem dk_Weighings_least_11 : decode prog_11_method_5_code 11 = .ok (.iaload, 1) := by decide +kernel
theorem dk_Weighings_least_12 : decode prog_11_method_5_code 12 = .ok (.isub, 1) := by decide +kernel
theorem dk_Weighings_least_13 : decode prog_11_method_5_code 13 = .ok (.ireturn, 1) := by decide +kernel
noncomputable def fx_Weighings_least (p1 : Int32) (c : (Nat → Nat → Int32)) : Option Int32 :=
  kv_gd (kv_in p1 20) (
  some ((c 14 p1.toNatClampNeg) - (c 15 p1.toNatClampNeg)))
set_option maxRecDepth 20000 in
theorem cx_Weighings_least (d : Nat) (p1 : Int32) (c : (Nat → Nat → Int32)) (y : (Nat → Nat → Int32) × (Nat → Int64) × (Nat → Int64)) : ∀ a, fx_Weighings_least p1 c = some a → kv_C kM_Weighings_least (d + 0) [.ref 10, .int p1] (c, y) (some (.int a), (c, y)) := by
  refine kv_entryX (E := fun a : Int32 => (some (.int a), (c, y))) rfl (Nat.le_of_ble_eq_true rfl) (fun o => ?_)
  unfold fx_Weighings_least
  show kv_X _ _ _ _ _ 0 [(0, .ref 10), (1, .int p1)] [] (c, y)
  refine kv_aload_n (pc := 0) 0 rfl rfl dk_Weighings_least_0 ?_
  refine kv_getR (pc := 1) kf_Weighings_21 kr_10 rfl kt_10_3 dk_Weighings_least_1 ?_
  refine kv_iload_n (pc := 4) 1 rfl rfl dk_Weighings_least_4 ?_
  refine kv_guard (fun g1 => ?_)
  refine kv_aldC (pc := 5) kr_14 kn_14 kl_14 g1 rfl dk_Weighings_least_5 ?_
  refine kv_aload_n (pc := 6) 0 rfl rfl dk_Weighings_least_6 ?_
  refine kv_getR (pc := 7) kf_Weighings_24 kr_10 rfl kt_10_4 dk_Weighings_least_7 ?_
  refine kv_iload_n (pc := 10) 1 rfl rfl dk_Weighings_least_10 ?_
  refine kv_aldC (pc := 11) kr_15 kn_15 kl_15 g1 rfl dk_Weighings_least_11 ?_
  refine kv_isub (pc := 12) dk_Weighings_least_12 ?_
  exact kv_iret (pc := 13) (fun h => h) rfl dk_Weighings_least_13
theorem dk_Weighings_greatest_0 : decode prog_11_method_6_code 0 = .ok (.aload_n 0, 1) := by decide +kernel
theorem dk_Weighings_greatest_1 : decode prog_11_method_6_code 1 = .ok (.getfield 21, 3) := by decide +kernel
theorem dk_Weighings_greatest_4 : decode prog_11_method_6_code 4 = .ok (.iload_n 1, 1) := by decide +kernel
theorem dk_Weighings_greatest_5 : decode prog_11_method_6_code 5 = .ok (.iaload, 1) := by decide +kernel
theorem dk_Weighings_greatest_6 : decode prog_11_method_6_code 6 = .ok (.aload_n 0, 1) := by decide +kernel
theorem dk_Weighings_greatest_7 : decode prog_11_method_6_code 7 = .ok (.getfield 24, 3) := by decide +kernel
theorem dk_Weighings_greatest_10 : decode prog_11_method_6_code 10 = .ok (.iload_n 1, 1) := by decide +kernel
theorem dk_Weighings_greatest_11 : decode prog_11_method_6_code 11 = .ok (.iaload, 1) := by decide +kernel
theorem dk_Weighings_greatest_12 : decode prog_11_method_6_code 12 = .ok (.iadd, 1) := by decide +kernel
theorem dk_Weighings_greatest_13 : decode prog_11_method_6_code 13 = .ok (.ireturn, 1) := by decide +kernel
noncomputable def fx_Weighings_greatest (p1 : Int32) (c : (Nat → Nat → Int32)) : Option Int32 :=
  kv_gd (kv_in p1 20) (
  some ((c 14 p1.toNatClampNeg) + (c 15 p1.toNatClampNeg)))
set_option maxRecDepth 20000 in
theorem cx_Weighings_greatest (d : Nat) (p1 : Int32) (c : (Nat → Nat → Int32)) (y : (Nat → Nat → Int32) × (Nat → Int64) × (Nat → Int64)) : ∀ a, fx_Weighings_greatest p1 c = some a → kv_C kM_Weighings_greatest (d + 0) [.ref 10, .int p1] (c, y) (some (.int a), (c, y)) := by
  refine kv_entryX (E := fun a : Int32 => (some (.int a), (c, y))) rfl (Nat.le_of_ble_eq_true rfl) (fun o => ?_)
  unfold fx_Weighings_greatest
  show kv_X _ _ _ _ _ 0 [(0, .ref 10), (1, .int p1)] [] (c, y)
  refine kv_aload_n (pc := 0) 0 rfl rfl dk_Weighings_greatest_0 ?_
  refine kv_getR (pc := 1) kf_Weighings_21 kr_10 rfl kt_10_3 dk_Weighings_greatest_1 ?_
  refine kv_iload_n (pc := 4) 1 rfl rfl dk_Weighings_greatest_4 ?_
  refine kv_guard (fun g1 => ?_)
  refine kv_aldC (pc := 5) kr_14 kn_14 kl_14 g1 rfl dk_Weighings_greatest_5 ?_
  refine kv_aload_n (pc := 6) 0 rfl rfl dk_Weighings_greatest_6 ?_
  refine kv_getR (pc := 7) kf_Weighings_24 kr_10 rfl kt_10_4 dk_Weighings_greatest_7 ?_
  refine kv_iload_n (pc := 10) 1 rfl rfl dk_Weighings_greatest_10 ?_
  refine kv_aldC (pc := 11) kr_15 kn_15 kl_15 g1 rfl dk_Weighings_greatest_11 ?_
  refine kv_iadd (pc := 12) dk_Weighings_greatest_12 ?_
  exact kv_iret (pc := 13) (fun h => h) rfl dk_Weighings_greatest_13
theorem dk_Net_isKnot_0 : decode prog_6_method_5_code 0 = .ok (.iload_n 1, 1) := by decide +kernel
theorem dk_Net_isKnot_1 : decode prog_6_method_5_code 1 = .ok (.ifCond .lt 21, 3) := by decide +kernel
theorem dk_Net_isKnot_4 : decode prog_6_method_5_code 4 = .ok (.iload_n 1, 1) := by decide +kernel
theorem dk_Net_isKnot_5 : decode prog_6_method_5_code 5 = .ok (.aload_n 0, 1) := by decide +kernel
theorem dk_Net_isKnot_6 : decode prog_6_method_5_code 6 = .ok (.getfield 24, 3) := by decide +kernel
theorem dk_Net_isKnot_9 : decode prog_6_method_5_code 9 = .ok (.if_icmp .ge 13, 3) := by decide +kernel
theorem dk_Net_isKnot_12 : decode prog_6_method_5_code 12 = .ok (.iload_n 1, 1) := by decide +kernel
theorem dk_Net_isKnot_13 : decode prog_6_method_5_code 13 = .ok (.bipush 42, 2) := by decide +kernel
theorem dk_Net_isKnot_15 : decode prog_6_method_5_code 15 = .ok (.if_icmp .ge 7, 3) := by decide +kernel
theorem dk_Net_isKnot_18 : decode prog_6_method_5_code 18 = .ok (.iconst 1, 1) := by decide +kernel
theorem dk_Net_isKnot_19 : decode prog_6_method_5_code 19 = .ok (.goto 4, 3) := by decide +kernel
theorem dk_Net_isKnot_22 : decode prog_6_method_5_code 22 = .ok (.iconst 0, 1) := by decide +kernel
theorem dk_Net_isKnot_23 : decode prog_6_method_5_code 23 = .ok (.ireturn, 1) := by decide +kernel
noncomputable def fx_Net_isKnot (p1 : Int32) (c : (Nat → Nat → Int32)) : Option Bool :=
  if p1 < 0 then
    some false
  else
    if (c 68 4) ≤ p1 then
      some false
    else
      if (42 : Int32) ≤ p1 then
        some false
      else
        some true
set_option maxRecDepth 20000 in
theorem cx_Net_isKnot (d : Nat) (p1 : Int32) (c : (Nat → Nat → Int32)) (y : (Nat → Nat → Int32) × (Nat → Int64) × (Nat → Int64)) : ∀ a, fx_Net_isKnot p1 c = some a → kv_C kM_Net_isKnot (d + 0) [.ref 68, .int p1] (c, y) (some (.int (kv_b a)), (c, y)) := by
  refine kv_entryX (E := fun a : Bool => (some (.int (kv_b a)), (c, y))) rfl (Nat.le_of_ble_eq_true rfl) (fun o => ?_)
  unfold fx_Net_isKnot
  show kv_X _ _ _ _ _ 0 [(0, .ref 68), (1, .int p1)] [] (c, y)
  refine kv_iload_n (pc := 0) 1 rfl rfl dk_Net_isKnot_0 ?_
  refine kv_if_lt (pc := 1) (tgt := 22) dk_Net_isKnot_1 rfl ?_ ?_
  · refine kv_iconst (pc := 22) (v := (0 : Int32)) dk_Net_isKnot_22 kki_0 ?_
    exact kv_zret (pc := 23) (b := false) (fun h => h) rfl dk_Net_isKnot_23
  · refine kv_iload_n (pc := 4) 1 rfl rfl dk_Net_isKnot_4 ?_
    refine kv_aload_n (pc := 5) 0 rfl rfl dk_Net_isKnot_5 ?_
    refine kv_getC (pc := 6) kf_Net_24 kr_68 kn_68 rfl dk_Net_isKnot_6 ?_
    refine kv_icmp_ge (pc := 9) (tgt := 22) dk_Net_isKnot_9 rfl ?_ ?_
    · refine kv_iconst (pc := 22) (v := (0 : Int32)) dk_Net_isKnot_22 kki_0 ?_
      exact kv_zret (pc := 23) (b := false) (fun h => h) rfl dk_Net_isKnot_23
    · refine kv_iload_n (pc := 12) 1 rfl rfl dk_Net_isKnot_12 ?_
      refine kv_bipush (pc := 13) (v := (42 : Int32)) dk_Net_isKnot_13 kkb_42 ?_
      refine kv_icmp_ge (pc := 15) (tgt := 22) dk_Net_isKnot_15 rfl ?_ ?_
      · refine kv_iconst (pc := 22) (v := (0 : Int32)) dk_Net_isKnot_22 kki_0 ?_
        exact kv_zret (pc := 23) (b := false) (fun h => h) rfl dk_Net_isKnot_23
      · refine kv_iconst (pc := 18) (v := (1 : Int32)) dk_Net_isKnot_18 kki_1 ?_
        refine kv_goto (pc := 19) (tgt := 23) dk_Net_isKnot_19 rfl ?_
        exact kv_zret (pc := 23) (b := true) (fun h => h) rfl dk_Net_isKnot_23
theorem dk_Net_addEdge_0 : decode prog_6_method_6_code 0 = .ok (.aload_n 0, 1) := by decide +kernel
theorem dk_Net_addEdge_1 : decode prog_6_method_6_code 1 = .ok (.getfield 28, 3) := by decide +kernel
theorem dk_Net_addEdge_4 : decode prog_6_method_6_code 4 = .ok (.bipush 124, 2) := by decide +kernel
theorem dk_Net_addEdge_6 : decode prog_6_method_6_code 6 = .ok (.if_icmp .ge 59, 3) := by decide +kernel
theorem dk_Net_addEdge_9 : decode prog_6_method_6_code 9 = .ok (.aload_n 0, 1) := by decide +kernel
theorem dk_Net_addEdge_10 : decode prog_6_method_6_code 10 = .ok (.iload_n 1, 1) := by decide +kernel
theorem dk_Net_addEdge_11 : decode prog_6_method_6_code 11 = .ok (.invokevirtual 35, 3) := by decide +kernel
theorem dk_Net_addEdge_14 : decode prog_6_method_6_code 14 = .ok (.ifCond .eq 51, 3) := by decide +kernel
theorem dk_Net_addEdge_17 : decode prog_6_method_6_code 17 = .ok (.aload_n 0, 1) := by decide +kernel
theorem dk_Net_addEdge_18 : decode prog_6_method_6_code 18 = .ok (.iload_n 2, 1) := by decide +kernel
theorem dk_Net_addEdge_19 : decode prog_6_method_6_code 19 = .ok (.invokevirtual 35, 3) := by decide +kernel
theorem dk_Net_addEdge_22 : decode prog_6_method_6_code 22 = .ok (.ifCond .eq 43, 3) := by decide +kernel
theorem dk_Net_addEdge_25 : decode prog_6_method_6_code 25 = .ok (.aload_n 0, 1) := by decide +kernel
theorem dk_Net_addEdge_26 : decode prog_6_method_6_code 26 = .ok (.getfield 11, 3) := by decide +kernel
theorem dk_Net_addEdge_29 : decode prog_6_method_6_code 29 = .ok (.aload_n 0, 1) := by decide +kernel
theorem dk_Net_addEdge_30 : decode prog_6_method_6_code 30 = .ok (.getfield 28, 3) := by decide +kernel
theorem dk_Net_addEdge_33 : decode prog_6_method_6_code 33 = .ok (.iload_n 1, 1) := by decide +kernel
theorem dk_Net_addEdge_34 : decode prog_6_method_6_code 34 = .ok (.iastore, 1) := by decide +kernel
theorem dk_Net_addEdge_35 : decode prog_6_method_6_code 35 = .ok (.aload_n 0, 1) := by decide +kernel
theorem dk_Net_addEdge_36 : decode prog_6_method_6_code 36 = .ok (.getfield 15, 3) := by decide +kernel
theorem dk_Net_addEdge_39 : decode prog_6_method_6_code 39 = .ok (.aload_n 0, 1) := by decide +kernel
theorem dk_Net_addEdge_40 : decode prog_6_method_6_code 40 = .ok (.getfield 28, 3) := by decide +kernel
theorem dk_Net_addEdge_43 : decode prog_6_method_6_code 43 = .ok (.iload_n 2, 1) := by decide +kernel
theorem dk_Net_addEdge_44 : decode prog_6_method_6_code 44 = .ok (.iastore, 1) := by decide +kernel
theorem dk_Net_addEdge_45 : decode prog_6_method_6_code 45 = .ok (.aload_n 0, 1) := by decide +kernel
theorem dk_Net_addEdge_46 : decode prog_6_method_6_code 46 = .ok (.getfield 18, 3) := by decide +kernel
theorem dk_Net_addEdge_49 : decode prog_6_method_6_code 49 = .ok (.aload_n 0, 1) := by decide +kernel
theorem dk_Net_addEdge_50 : decode prog_6_method_6_code 50 = .ok (.getfield 28, 3) := by decide +kernel
theorem dk_Net_addEdge_53 : decode prog_6_method_6_code 53 = .ok (.iload_n 3, 1) := by decide +kernel
theorem dk_Net_addEdge_54 : decode prog_6_method_6_code 54 = .ok (.iastore, 1) := by decide +kernel
theorem dk_Net_addEdge_55 : decode prog_6_method_6_code 55 = .ok (.aload_n 0, 1) := by decide +kernel
theorem dk_Net_addEdge_56 : decode prog_6_method_6_code 56 = .ok (.dup, 1) := by decide +kernel
theorem dk_Net_addEdge_57 : decode prog_6_method_6_code 57 = .ok (.getfield 28, 3) := by decide +kernel
theorem dk_Net_addEdge_60 : decode prog_6_method_6_code 60 = .ok (.iconst 1, 1) := by decide +kernel
theorem dk_Net_addEdge_61 : decode prog_6_method_6_code 61 = .ok (.iadd, 1) := by decide +kernel
theorem dk_Net_addEdge_62 : decode prog_6_method_6_code 62 = .ok (.putfield 28, 3) := by decide +kernel
theorem dk_Net_addEdge_65 : decode prog_6_method_6_code 65 = .ok (.return_, 1) := by decide +kernel
noncomputable def fx_Net_addEdge (p1 : Int32) (p2 : Int32) (p3 : Int32) (c : (Nat → Nat → Int32)) : Option (Nat → Nat → Int32) :=
  if (124 : Int32) ≤ (c 68 5) then
    some c
  else
    kv_bind1 (fx_Net_isKnot p1 c) (fun b1 =>
    if b1 = true then
      kv_bind1 (fx_Net_isKnot p2 c) (fun b2 =>
      if b2 = true then
        kv_gd (kv_in (c 68 5) 124) (
        kv_let (kv_st c 69 (c 68 5).toNatClampNeg p1) (fun c4 =>
        kv_gd (kv_in (c4 68 5) 124) (
        kv_let (kv_st c4 70 (c4 68 5).toNatClampNeg p2) (fun c6 =>
        kv_gd (kv_in (c6 68 5) 124) (
        kv_let (kv_st c6 71 (c6 68 5).toNatClampNeg p3) (fun c8 =>
        kv_let (kv_st c8 68 5 ((c8 68 5) + (1 : Int32))) (fun c9 =>
        some c9)))))))
      else
        some c)
    else
      some c)
set_option maxRecDepth 20000 in
theorem cx_Net_addEdge (d : Nat) (p1 : Int32) (p2 : Int32) (p3 : Int32) (c : (Nat → Nat → Int32)) (y : (Nat → Nat → Int32) × (Nat → Int64) × (Nat → Int64)) : ∀ a, fx_Net_addEdge p1 p2 p3 c = some a → kv_C kM_Net_addEdge (d + 1) [.ref 68, .int p1, .int p2, .int p3] (c, y) (none, (a, y)) := by
  refine kv_entryX (E := fun a : (Nat → Nat → Int32) => (none, (a, y))) rfl (Nat.le_of_ble_eq_true rfl) (fun o => ?_)
  unfold fx_Net_addEdge
  show kv_X _ _ _ _ _ 0 [(0, .ref 68), (1, .int p1), (2, .int p2), (3, .int p3)] [] (c, y)
  refine kv_aload_n (pc := 0) 0 rfl rfl dk_Net_addEdge_0 ?_
  refine kv_getC (pc := 1) kf_Net_28 kr_68 kn_68 rfl dk_Net_addEdge_1 ?_
  refine kv_bipush (pc := 4) (v := (124 : Int32)) dk_Net_addEdge_4 kkb_124 ?_
  refine kv_icmp_ge (pc := 6) (tgt := 65) dk_Net_addEdge_6 rfl ?_ ?_
  · exact kv_vret (pc := 65) (fun h => h) rfl dk_Net_addEdge_65
  · refine kv_aload_n (pc := 9) 0 rfl rfl dk_Net_addEdge_9 ?_
    refine kv_iload_n (pc := 10) 1 rfl rfl dk_Net_addEdge_10 ?_
    refine kv_cV_cZ (pc := 11) (as := [.int p1]) (st := []) ko_Net_isKnot kc_4 rfl rfl kr_68 kw_702 (Nat.le_of_ble_eq_true rfl) rfl dk_Net_addEdge_11 (cx_Net_isKnot d p1 c y) (fun b1 => ?_)
    refine kv_zif_eq (pc := 14) (tgt := 65) dk_Net_addEdge_14 rfl ?_ ?_
    · exact kv_vret (pc := 65) (fun h => h) rfl dk_Net_addEdge_65
    · refine kv_aload_n (pc := 17) 0 rfl rfl dk_Net_addEdge_17 ?_
      refine kv_iload_n (pc := 18) 2 rfl rfl dk_Net_addEdge_18 ?_
      refine kv_cV_cZ (pc := 19) (as := [.int p2]) (st := []) ko_Net_isKnot kc_4 rfl rfl kr_68 kw_702 (Nat.le_of_ble_eq_true rfl) rfl dk_Net_addEdge_19 (cx_Net_isKnot d p2 c y) (fun b2 => ?_)
      refine kv_zif_eq (pc := 22) (tgt := 65) dk_Net_addEdge_22 rfl ?_ ?_
      · exact kv_vret (pc := 65) (fun h => h) rfl dk_Net_addEdge_65
      · refine kv_aload_n (pc := 25) 0 rfl rfl dk_Net_addEdge_25 ?_
        refine kv_getR (pc := 26) kf_Net_11 kr_68 rfl kt_68_0 dk_Net_addEdge_26 ?_
        refine kv_aload_n (pc := 29) 0 rfl rfl dk_Net_addEdge_29 ?_
        refine kv_getC (pc := 30) kf_Net_28 kr_68 kn_68 rfl dk_Net_addEdge_30 ?_
        refine kv_iload_n (pc := 33) 1 rfl rfl dk_Net_addEdge_33 ?_
        refine kv_guard (fun g3 => ?_)
        refine kv_astC (pc := 34) kr_69 kn_69 kl_69 g3 rfl dk_Net_addEdge_34 (fun c4 => ?_)
        refine kv_aload_n (pc := 35) 0 rfl rfl dk_Net_addEdge_35 ?_
        refine kv_getR (pc := 36) kf_Net_15 kr_68 rfl kt_68_1 dk_Net_addEdge_36 ?_
        refine kv_aload_n (pc := 39) 0 rfl rfl dk_Net_addEdge_39 ?_
        refine kv_getC (pc := 40) kf_Net_28 kr_68 kn_68 rfl dk_Net_addEdge_40 ?_
        refine kv_iload_n (pc := 43) 2 rfl rfl dk_Net_addEdge_43 ?_
        refine kv_guard (fun g5 => ?_)
        refine kv_astC (pc := 44) kr_70 kn_70 kl_70 g5 rfl dk_Net_addEdge_44 (fun c6 => ?_)
        refine kv_aload_n (pc := 45) 0 rfl rfl dk_Net_addEdge_45 ?_
        refine kv_getR (pc := 46) kf_Net_18 kr_68 rfl kt_68_2 dk_Net_addEdge_46 ?_
        refine kv_aload_n (pc := 49) 0 rfl rfl dk_Net_addEdge_49 ?_
        refine kv_getC (pc := 50) kf_Net_28 kr_68 kn_68 rfl dk_Net_addEdge_50 ?_
        refine kv_iload_n (pc := 53) 3 rfl rfl dk_Net_addEdge_53 ?_
        refine kv_guard (fun g7 => ?_)
        refine kv_astC (pc := 54) kr_71 kn_71 kl_71 g7 rfl dk_Net_addEdge_54 (fun c8 => ?_)
        refine kv_aload_n (pc := 55) 0 rfl rfl dk_Net_addEdge_55 ?_
        refine kv_dupR (pc := 56) dk_Net_addEdge_56 ?_
        refine kv_getC (pc := 57) kf_Net_28 kr_68 kn_68 rfl dk_Net_addEdge_57 ?_
        refine kv_iconst (pc := 60) (v := (1 : Int32)) dk_Net_addEdge_60 kki_1 ?_
        refine kv_iadd (pc := 61) dk_Net_addEdge_61 ?_
        refine kv_putC (pc := 62) kf_Net_28 kr_68 kn_68 rfl rfl rfl dk_Net_addEdge_62 (fun c9 => ?_)
        exact kv_vret (pc := 65) (fun h => h) rfl dk_Net_addEdge_65
theorem dk_Net_bound_0 : decode prog_6_method_4_code 0 = .ok (.aload_n 0, 1) := by decide +kernel
theorem dk_Net_bound_1 : decode prog_6_method_4_code 1 = .ok (.iload_n 2, 1) := by decide +kernel
theorem dk_Net_bound_2 : decode prog_6_method_4_code 2 = .ok (.iload_n 1, 1) := by decide +kernel
theorem dk_Net_bound_3 : decode prog_6_method_4_code 3 = .ok (.iload 4, 2) := by decide +kernel
theorem dk_Net_bound_5 : decode prog_6_method_4_code 5 = .ok (.invokevirtual 31, 3) := by decide +kernel
theorem dk_Net_bound_8 : decode prog_6_method_4_code 8 = .ok (.aload_n 0, 1) := by decide +kernel
theorem dk_Net_bound_9 : decode prog_6_method_4_code 9 = .ok (.iload_n 1, 1) := by decide +kernel
theorem dk_Net_bound_10 : decode prog_6_method_4_code 10 = .ok (.iload_n 2, 1) := by decide +kernel
theorem dk_Net_bound_11 : decode prog_6_method_4_code 11 = .ok (.iload_n 3, 1) := by decide +kernel
theorem dk_Net_bound_12 : decode prog_6_method_4_code 12 = .ok (.ineg, 1) := by decide +kernel
theorem dk_Net_bound_13 : decode prog_6_method_4_code 13 = .ok (.invokevirtual 31, 3) := by decide +kernel
theorem dk_Net_bound_16 : decode prog_6_method_4_code 16 = .ok (.return_, 1) := by decide +kernel
noncomputable def fx_Net_bound (p1 : Int32) (p2 : Int32) (p3 : Int32) (p4 : Int32) (c : (Nat → Nat → Int32)) : Option (Nat → Nat → Int32) :=
  kv_bind1 (fx_Net_addEdge p2 p1 p4 c) (fun c1 =>
  kv_bind1 (fx_Net_addEdge p1 p2 (-p3) c1) (fun c2 =>
  some c2))
set_option maxRecDepth 20000 in
theorem cx_Net_bound (d : Nat) (p1 : Int32) (p2 : Int32) (p3 : Int32) (p4 : Int32) (c : (Nat → Nat → Int32)) (y : (Nat → Nat → Int32) × (Nat → Int64) × (Nat → Int64)) : ∀ a, fx_Net_bound p1 p2 p3 p4 c = some a → kv_C kM_Net_bound (d + 2) [.ref 68, .int p1, .int p2, .int p3, .int p4] (c, y) (none, (a, y)) := by
  refine kv_entryX (E := fun a : (Nat → Nat → Int32) => (none, (a, y))) rfl (Nat.le_of_ble_eq_true rfl) (fun o => ?_)
  unfold fx_Net_bound
  show kv_X _ _ _ _ _ 0 [(0, .ref 68), (1, .int p1), (2, .int p2), (3, .int p3), (4, .int p4)] [] (c, y)
  refine kv_aload_n (pc := 0) 0 rfl rfl dk_Net_bound_0 ?_
  refine kv_iload_n (pc := 1) 2 rfl rfl dk_Net_bound_1 ?_
  refine kv_iload_n (pc := 2) 1 rfl rfl dk_Net_bound_2 ?_
  refine kv_iload (pc := 3) 4 rfl dk_Net_bound_3 ?_
  refine kv_cV_cc (pc := 5) (as := [.int p2, .int p1, .int p4]) (st := []) ko_Net_addEdge kc_4 rfl rfl kr_68 kw_698 (Nat.le_of_ble_eq_true rfl) rfl dk_Net_bound_5 (cx_Net_addEdge d p2 p1 p4 c y) (fun c1 => ?_)
  refine kv_aload_n (pc := 8) 0 rfl rfl dk_Net_bound_8 ?_
  refine kv_iload_n (pc := 9) 1 rfl rfl dk_Net_bound_9 ?_
  refine kv_iload_n (pc := 10) 2 rfl rfl dk_Net_bound_10 ?_
  refine kv_iload_n (pc := 11) 3 rfl rfl dk_Net_bound_11 ?_
  refine kv_ineg (pc := 12) dk_Net_bound_12 ?_
  refine kv_cV_cc (pc := 13) (as := [.int p1, .int p2, .int (-p3)]) (st := []) ko_Net_addEdge kc_4 rfl rfl kr_68 kw_698 (Nat.le_of_ble_eq_true rfl) rfl dk_Net_bound_13 (cx_Net_addEdge d p1 p2 (-p3) c1 y) (fun c2 => ?_)
  exact kv_vret (pc := 16) (fun h => h) rfl dk_Net_bound_16
theorem dk_K_boundByYear_0 : decode prog_1_method_53_code 0 = .ok (.aload_n 0, 1) := by decide +kernel
theorem dk_K_boundByYear_1 : decode prog_1_method_53_code 1 = .ok (.getfield 10, 3) := by decide +kernel
theorem dk_K_boundByYear_4 : decode prog_1_method_53_code 4 = .ok (.getfield 152, 3) := by decide +kernel
theorem dk_K_boundByYear_7 : decode prog_1_method_53_code 7 = .ok (.astore_n 3, 1) := by decide +kernel
theorem dk_K_boundByYear_8 : decode prog_1_method_53_code 8 = .ok (.iconst 0, 1) := by decide +kernel
theorem dk_K_boundByYear_9 : decode prog_1_method_53_code 9 = .ok (.istore 4, 2) := by decide +kernel
theorem dk_K_boundByYear_11 : decode prog_1_method_53_code 11 = .ok (.iload 4, 2) := by decide +kernel
theorem dk_K_boundByYear_13 : decode prog_1_method_53_code 13 = .ok (.aload_n 3, 1) := by decide +kernel
theorem dk_K_boundByYear_14 : decode prog_1_method_53_code 14 = .ok (.getfield 156, 3) := by decide +kernel
theorem dk_K_boundByYear_17 : decode prog_1_method_53_code 17 = .ok (.if_icmp .ge 64, 3) := by decide +kernel
theorem dk_K_boundByYear_20 : decode prog_1_method_53_code 20 = .ok (.aload_n 3, 1) := by decide +kernel
theorem dk_K_boundByYear_21 : decode prog_1_method_53_code 21 = .ok (.iload 4, 2) := by decide +kernel
theorem dk_K_boundByYear_23 : decode prog_1_method_53_code 23 = .ok (.iload_n 1, 1) := by decide +kernel
theorem dk_K_boundByYear_24 : decode prog_1_method_53_code 24 = .ok (.invokevirtual 429, 3) := by decide +kernel
theorem dk_K_boundByYear_27 : decode prog_1_method_53_code 27 = .ok (.ifCond .eq 48, 3) := by decide +kernel
theorem dk_K_boundByYear_30 : decode prog_1_method_53_code 30 = .ok (.iload_n 2, 1) := by decide +kernel
theorem dk_K_boundByYear_31 : decode prog_1_method_53_code 31 = .ok (.aload_n 3, 1) := by decide +kernel
theorem dk_K_boundByYear_32 : decode prog_1_method_53_code 32 = .ok (.getfield 195, 3) := by decide +kernel
theorem dk_K_boundByYear_35 : decode prog_1_method_53_code 35 = .ok (.iload 4, 2) := by decide +kernel
theorem dk_K_boundByYear_37 : decode prog_1_method_53_code 37 = .ok (.iaload, 1) := by decide +kernel
theorem dk_K_boundByYear_38 : decode prog_1_method_53_code 38 = .ok (.iadd, 1) := by decide +kernel
theorem dk_K_boundByYear_39 : decode prog_1_method_53_code 39 = .ok (.istore 5, 2) := by decide +kernel
theorem dk_K_boundByYear_41 : decode prog_1_method_53_code 41 = .ok (.iload_n 2, 1) := by decide +kernel
theorem dk_K_boundByYear_42 : decode prog_1_method_53_code 42 = .ok (.aload_n 3, 1) := by decide +kernel
theorem dk_K_boundByYear_43 : decode prog_1_method_53_code 43 = .ok (.getfield 198, 3) := by decide +kernel
theorem dk_K_boundByYear_46 : decode prog_1_method_53_code 46 = .ok (.iload 4, 2) := by decide +kernel
theorem dk_K_boundByYear_48 : decode prog_1_method_53_code 48 = .ok (.iaload, 1) := by decide +kernel
theorem dk_K_boundByYear_49 : decode prog_1_method_53_code 49 = .ok (.iadd, 1) := by decide +kernel
theorem dk_K_boundByYear_50 : decode prog_1_method_53_code 50 = .ok (.istore 6, 2) := by decide +kernel
theorem dk_K_boundByYear_52 : decode prog_1_method_53_code 52 = .ok (.aload_n 0, 1) := by decide +kernel
theorem dk_K_boundByYear_53 : decode prog_1_method_53_code 53 = .ok (.getfield 29, 3) := by decide +kernel
theorem dk_K_boundByYear_56 : decode prog_1_method_53_code 56 = .ok (.iload 5, 2) := by decide +kernel
theorem dk_K_boundByYear_58 : decode prog_1_method_53_code 58 = .ok (.iload 6, 2) := by decide +kernel
theorem dk_K_boundByYear_60 : decode prog_1_method_53_code 60 = .ok (.aload_n 3, 1) := by decide +kernel
theorem dk_K_boundByYear_61 : decode prog_1_method_53_code 61 = .ok (.iload 4, 2) := by decide +kernel
theorem dk_K_boundByYear_63 : decode prog_1_method_53_code 63 = .ok (.invokevirtual 432, 3) := by decide +kernel
theorem dk_K_boundByYear_66 : decode prog_1_method_53_code 66 = .ok (.aload_n 3, 1) := by decide +kernel
theorem dk_K_boundByYear_67 : decode prog_1_method_53_code 67 = .ok (.iload 4, 2) := by decide +kernel
theorem dk_K_boundByYear_69 : decode prog_1_method_53_code 69 = .ok (.invokevirtual 435, 3) := by decide +kernel
theorem dk_K_boundByYear_72 : decode prog_1_method_53_code 72 = .ok (.invokevirtual 438, 3) := by decide +kernel
theorem dk_K_boundByYear_75 : decode prog_1_method_53_code 75 = .ok (.iinc 4 1, 3) := by decide +kernel
theorem dk_K_boundByYear_78 : decode prog_1_method_53_code 78 = .ok (.goto (-67), 3) := by decide +kernel
theorem dk_K_boundByYear_81 : decode prog_1_method_53_code 81 = .ok (.return_, 1) := by decide +kernel
noncomputable def fj_K_boundByYear_75 (x1 : Int32) (c5 : (Nat → Nat → Int32)) : Option ((Int32 × (Nat → Nat → Int32)) ⊕ (Nat → Nat → Int32)) :=
  some (.inl ((x1 + (1 : Int32)), c5))
noncomputable def fb_K_boundByYear_11 (p1 : Int32) (p2 : Int32) (x1 : Int32) (c2 : (Nat → Nat → Int32)) : Option ((Int32 × (Nat → Nat → Int32)) ⊕ (Nat → Nat → Int32)) :=
  if (c2 10 7) ≤ x1 then
    some (.inr c2)
  else
    kv_bind1 (fx_Weighings_counts x1 p1 c2) (fun b4 =>
    if b4 = true then
      kv_gd (kv_in x1 20) (
      kv_let (p2 + (c2 12 x1.toNatClampNeg)) (fun v7 =>
      kv_let (p2 + (c2 13 x1.toNatClampNeg)) (fun v8 =>
      kv_bind1 (fx_Weighings_least x1 c2) (fun v9 =>
      kv_bind1 (fx_Weighings_greatest x1 c2) (fun v10 =>
      kv_bind1 (fx_Net_bound v7 v8 v9 v10 c2) (fun c11 =>
      fj_K_boundByYear_75 x1 c11))))))
    else
      fj_K_boundByYear_75 x1 c2)
noncomputable def fx_K_boundByYear (p1 : Int32) (p2 : Int32) (c : (Nat → Nat → Int32)) : Option (Nat → Nat → Int32) :=
  (kv_loop (kv_u2 (fb_K_boundByYear_11 p1 p2)) ((0 : Int32), c)).bind (kv_u1 (fun c3 =>
  some c3))
set_option maxRecDepth 20000 in
theorem cx_K_boundByYear (d : Nat) (p1 : Int32) (p2 : Int32) (c : (Nat → Nat → Int32)) (y : (Nat → Nat → Int32) × (Nat → Int64) × (Nat → Int64)) : ∀ a, fx_K_boundByYear p1 p2 c = some a → kv_C kM_K_boundByYear (d + 3) [.ref 0, .int p1, .int p2] (c, y) (none, (a, y)) := by
  refine kv_entryX (E := fun a : (Nat → Nat → Int32) => (none, (a, y))) rfl (Nat.le_of_ble_eq_true rfl) (fun o => ?_)
  unfold fx_K_boundByYear
  show kv_X _ _ _ _ _ 0 [(0, .ref 0), (1, .int p1), (2, .int p2)] [] (c, y)
  refine kv_aload_n (pc := 0) 0 rfl rfl dk_K_boundByYear_0 ?_
  refine kv_getR (pc := 1) kf_K_10 kr_0 rfl kt_0_0 dk_K_boundByYear_1 ?_
  refine kv_getR (pc := 4) kf_K_152 kr_1 rfl kt_1_1 dk_K_boundByYear_4 ?_
  refine kv_astore_n (pc := 7) (lv' := [(3, .ref 10), (0, .ref 0), (1, .int p1), (2, .int p2)]) rfl (Nat.le_of_ble_eq_true rfl) rfl dk_K_boundByYear_7 ?_
  refine kv_iconst (pc := 8) (v := (0 : Int32)) dk_K_boundByYear_8 kki_0 ?_
  refine kv_istore (pc := 9) (lv' := [(4, .int (0 : Int32)), (3, .ref 10), (0, .ref 0), (1, .int p1), (2, .int p2)]) rfl (Nat.le_of_ble_eq_true rfl) dk_K_boundByYear_9 ?_
  refine kv_sub (lv' := [(0, .ref 0), (1, .int p1), (2, .int p2), (3, .ref 10), (4, .int (0 : Int32))]) [2, 3, 4, 1, 0] rfl ?_
  refine kv_lp_2_1 (LV := fun x1 c2 => [(0, .ref 0), (1, .int p1), (2, .int p2), (3, .ref 10), (4, .int x1)]) (WW := fun x1 c2 => (c2, y)) (LE1 := fun c3 => []) (WE1 := fun c3 => (c3, y)) (pe1 := 81) ?_ ?_
  · intro c3
    show kv_X _ _ _ _ _ 81 [] [] (c3, y)
    exact kv_vret (pc := 81) (fun h => h) rfl dk_K_boundByYear_81
  · intro hx11_0 x1 c2
    show kv_X _ _ _ _ (fb_K_boundByYear_11 p1 p2 x1 c2) 11 [(0, .ref 0), (1, .int p1), (2, .int p2), (3, .ref 10), (4, .int x1)] [] (c2, y)
    unfold fb_K_boundByYear_11
    refine kv_iload (pc := 11) 4 rfl dk_K_boundByYear_11 ?_
    refine kv_aload_n (pc := 13) 3 rfl rfl dk_K_boundByYear_13 ?_
    refine kv_getC (pc := 14) kf_K_156 kr_10 kn_10 rfl dk_K_boundByYear_14 ?_
    refine kv_icmp_ge (pc := 17) (tgt := 81) dk_K_boundByYear_17 rfl ?_ ?_
    · exact kv_sub [] rfl (kv_leaf (hx11_0 _))
    · refine kv_aload_n (pc := 20) 3 rfl rfl dk_K_boundByYear_20 ?_
      refine kv_iload (pc := 21) 4 rfl dk_K_boundByYear_21 ?_
      refine kv_iload_n (pc := 23) 1 rfl rfl dk_K_boundByYear_23 ?_
      refine kv_cV_cZ (pc := 24) (as := [.int x1, .int p1]) (st := []) ko_Weighings_counts kc_9 rfl rfl kr_10 kw_682 (Nat.le_of_ble_eq_true rfl) rfl dk_K_boundByYear_24 (cx_Weighings_counts (d + 2) x1 p1 c2 y) (fun b4 => ?_)
      refine kv_cut_1 (J := fj_K_boundByYear_75 x1) (pcj := 75) (LJ := fun c5 => [(0, .ref 0), (1, .int p1), (2, .int p2), (3, .ref 10), (4, .int x1)]) (SJ := fun c5 => []) (WJ := fun c5 => (c5, y)) ?_ (fun hj75 => ?_)
      · intro c5
        show kv_X _ _ _ _ (fj_K_boundByYear_75 x1 c5) 75 [(0, .ref 0), (1, .int p1), (2, .int p2), (3, .ref 10), (4, .int x1)] [] (c5, y)
        unfold fj_K_boundByYear_75
        refine kv_iinc (pc := 75) (kk := (1 : Int32)) (lv' := [(4, .int (x1 + (1 : Int32))), (0, .ref 0), (1, .int p1), (2, .int p2), (3, .ref 10)]) 4 rfl kki_1 rfl (Nat.le_of_ble_eq_true rfl) dk_K_boundByYear_75 ?_
        refine kv_goto (pc := 78) (tgt := 11) dk_K_boundByYear_78 rfl ?_
        exact kv_sub [1, 2, 3, 4, 0] rfl (kv_leaf (fun h => h))
      refine kv_zif_eq (pc := 27) (tgt := 75) dk_K_boundByYear_27 rfl ?_ ?_
      · exact hj75 c2
      · refine kv_iload_n (pc := 30) 2 rfl rfl dk_K_boundByYear_30 ?_
        refine kv_aload_n (pc := 31) 3 rfl rfl dk_K_boundByYear_31 ?_
        refine kv_getR (pc := 32) kf_K_195 kr_10 rfl kt_10_1 dk_K_boundByYear_32 ?_
        refine kv_iload (pc := 35) 4 rfl dk_K_boundByYear_35 ?_
        refine kv_guard (fun g6 => ?_)
        refine kv_aldC (pc := 37) kr_12 kn_12 kl_12 g6 rfl dk_K_boundByYear_37 ?_
        refine kv_iadd (pc := 38) dk_K_boundByYear_38 ?_
        refine kv_letI (fun v7 => ?_)
        refine kv_istore (pc := 39) (lv' := [(5, .int v7), (0, .ref 0), (1, .int p1), (2, .int p2), (3, .ref 10), (4, .int x1)]) rfl (Nat.le_of_ble_eq_true rfl) dk_K_boundByYear_39 ?_
        refine kv_iload_n (pc := 41) 3 rfl rfl dk_K_boundByYear_41 ?_
        refine kv_aload_n (pc := 42) 4 rfl rfl dk_K_boundByYear_42 ?_
        refine kv_getR (pc := 43) kf_K_198 kr_10 rfl kt_10_2 dk_K_boundByYear_43 ?_
        refine kv_iload (pc := 46) 5 rfl dk_K_boundByYear_46 ?_
        refine kv_aldC (pc := 48) kr_13 kn_13 kl_13 g6 rfl dk_K_boundByYear_48 ?_
        refine kv_iadd (pc := 49) dk_K_boundByYear_49 ?_
        refine kv_letI (fun v8 => ?_)
        refine kv_istore (pc := 50) (lv' := [(6, .int v8), (5, .int v7), (0, .ref 0), (1, .int p1), (2, .int p2), (3, .ref 10), (4, .int x1)]) rfl (Nat.le_of_ble_eq_true rfl) dk_K_boundByYear_50 ?_
        refine kv_aload_n (pc := 52) 2 rfl rfl dk_K_boundByYear_52 ?_
        refine kv_getR (pc := 53) kf_K_29 kr_0 rfl kt_0_4 dk_K_boundByYear_53 ?_
        refine kv_iload (pc := 56) 1 rfl dk_K_boundByYear_56 ?_
        refine kv_iload (pc := 58) 0 rfl dk_K_boundByYear_58 ?_
        refine kv_aload_n (pc := 60) 5 rfl rfl dk_K_boundByYear_60 ?_
        refine kv_iload (pc := 61) 6 rfl dk_K_boundByYear_61 ?_
        refine kv_cV_cI (pc := 63) (as := [.int x1]) (st := [.int v8, .int v7, .ref 68]) ko_Weighings_least kc_9 rfl rfl kr_10 kw_686 (Nat.le_of_ble_eq_true rfl) rfl dk_K_boundByYear_63 (cx_Weighings_least (d + 2) x1 c2 y) (fun v9 => ?_)
        refine kv_aload_n (pc := 66) 5 rfl rfl dk_K_boundByYear_66 ?_
        refine kv_iload (pc := 67) 6 rfl dk_K_boundByYear_67 ?_
        refine kv_cV_cI (pc := 69) (as := [.int x1]) (st := [.int v9, .int v8, .int v7, .ref 68]) ko_Weighings_greatest kc_9 rfl rfl kr_10 kw_690 (Nat.le_of_ble_eq_true rfl) rfl dk_K_boundByYear_69 (cx_Weighings_greatest (d + 2) x1 c2 y) (fun v10 => ?_)
        refine kv_cV_cc (pc := 72) (as := [.int v7, .int v8, .int v9, .int v10]) (st := []) ko_Net_bound kc_4 rfl rfl kr_68 kw_694 (Nat.le_of_ble_eq_true rfl) rfl dk_K_boundByYear_72 (cx_Net_bound d v7 v8 v9 v10 c2 y) (fun c11 => ?_)
        exact kv_sub [2, 3, 4, 5, 6] rfl (hj75 c11)
theorem dk_Arr_fill_0 : decode prog_23_method_103_code 0 = .ok (.iconst 0, 1) := by decide +kernel
theorem dk_Arr_fill_1 : decode prog_23_method_103_code 1 = .ok (.istore_n 2, 1) := by decide +kernel
theorem dk_Arr_fill_2 : decode prog_23_method_103_code 2 = .ok (.aload_n 0, 1) := by decide +kernel
theorem dk_Arr_fill_3 : decode prog_23_method_103_code 3 = .ok (.arraylength, 1) := by decide +kernel
theorem dk_Arr_fill_4 : decode prog_23_method_103_code 4 = .ok (.istore_n 3, 1) := by decide +kernel
theorem dk_Arr_fill_5 : decode prog_23_method_103_code 5 = .ok (.iload_n 2, 1) := by decide +kernel
theorem dk_Arr_fill_6 : decode prog_23_method_103_code 6 = .ok (.iload_n 3, 1) := by decide +kernel
theorem dk_Arr_fill_7 : decode prog_23_method_103_code 7 = .ok (.if_icmp .ge 13, 3) := by decide +kernel
theorem dk_Arr_fill_10 : decode prog_23_method_103_code 10 = .ok (.aload_n 0, 1) := by decide +kernel
theorem dk_Arr_fill_11 : decode prog_23_method_103_code 11 = .ok (.iload_n 2, 1) := by decide +kernel
theorem dk_Arr_fill_12 : decode prog_23_method_103_code 12 = .ok (.iload_n 1, 1) := by decide +kernel
theorem dk_Arr_fill_13 : decode prog_23_method_103_code 13 = .ok (.iastore, 1) := by decide +kernel
theorem dk_Arr_fill_14 : decode prog_23_method_103_code 14 = .ok (.iinc 2 1, 3) := by decide +kernel
theorem dk_Arr_fill_17 : decode prog_23_method_103_code 17 = .ok (.goto (-12), 3) := by decide +kernel
theorem dk_Arr_fill_20 : decode prog_23_method_103_code 20 = .ok (.return_, 1) := by decide +kernel
noncomputable def fb_Arr_fill_5 (p1 : Int32) (x1 : Int32) (c2 : (Nat → Nat → Int32)) : Option ((Int32 × (Nat → Nat → Int32)) ⊕ (Nat → Nat → Int32)) :=
  if (42 : Int32) ≤ x1 then
    some (.inr c2)
  else
    kv_gd (kv_in x1 42) (
    kv_let (kv_st c2 72 x1.toNatClampNeg p1) (fun c5 =>
    some (.inl ((x1 + (1 : Int32)), c5))))
noncomputable def fx_Arr_fill (p1 : Int32) (c : (Nat → Nat → Int32)) : Option (Nat → Nat → Int32) :=
  (kv_loop (kv_u2 (fb_Arr_fill_5 p1)) ((0 : Int32), c)).bind (kv_u1 (fun c3 =>
  some c3))
set_option maxRecDepth 20000 in
theorem cx_Arr_fill (d : Nat) (p1 : Int32) (c : (Nat → Nat → Int32)) (y : (Nat → Nat → Int32) × (Nat → Int64) × (Nat → Int64)) : ∀ a, fx_Arr_fill p1 c = some a → kv_C kM_Arr_fill (d + 0) [.ref 72, .int p1] (c, y) (none, (a, y)) := by
  refine kv_entryX (E := fun a : (Nat → Nat → Int32) => (none, (a, y))) rfl (Nat.le_of_ble_eq_true rfl) (fun o => ?_)
  unfold fx_Arr_fill
  show kv_X _ _ _ _ _ 0 [(0, .ref 72), (1, .int p1)] [] (c, y)
  refine kv_iconst (pc := 0) (v := (0 : Int32)) dk_Arr_fill_0 kki_0 ?_
  refine kv_istore_n (pc := 1) (lv' := [(2, .int (0 : Int32)), (0, .ref 72), (1, .int p1)]) rfl (Nat.le_of_ble_eq_true rfl) rfl dk_Arr_fill_1 ?_
  refine kv_aload_n (pc := 2) 1 rfl rfl dk_Arr_fill_2 ?_
  refine kv_alen (pc := 3) kr_72 kl_72 (v := (42 : Int32)) (by decide) dk_Arr_fill_3 ?_
  refine kv_istore_n (pc := 4) (lv' := [(3, .int (42 : Int32)), (2, .int (0 : Int32)), (0, .ref 72), (1, .int p1)]) rfl (Nat.le_of_ble_eq_true rfl) rfl dk_Arr_fill_4 ?_
  refine kv_sub (lv' := [(0, .ref 72), (1, .int p1), (2, .int (0 : Int32)), (3, .int (42 : Int32))]) [2, 3, 1, 0] rfl ?_
  refine kv_lp_2_1 (LV := fun x1 c2 => [(0, .ref 72), (1, .int p1), (2, .int x1), (3, .int (42 : Int32))]) (WW := fun x1 c2 => (c2, y)) (LE1 := fun c3 => []) (WE1 := fun c3 => (c3, y)) (pe1 := 20) ?_ ?_
  · intro c3
    show kv_X _ _ _ _ _ 20 [] [] (c3, y)
    exact kv_vret (pc := 20) (fun h => h) rfl dk_Arr_fill_20
  · intro hx5_0 x1 c2
    show kv_X _ _ _ _ (fb_Arr_fill_5 p1 x1 c2) 5 [(0, .ref 72), (1, .int p1), (2, .int x1), (3, .int (42 : Int32))] [] (c2, y)
    unfold fb_Arr_fill_5
    refine kv_iload_n (pc := 5) 2 rfl rfl dk_Arr_fill_5 ?_
    refine kv_iload_n (pc := 6) 3 rfl rfl dk_Arr_fill_6 ?_
    refine kv_icmp_ge (pc := 7) (tgt := 20) dk_Arr_fill_7 rfl ?_ ?_
    · exact kv_sub [] rfl (kv_leaf (hx5_0 _))
    · refine kv_aload_n (pc := 10) 0 rfl rfl dk_Arr_fill_10 ?_
      refine kv_iload_n (pc := 11) 2 rfl rfl dk_Arr_fill_11 ?_
      refine kv_iload_n (pc := 12) 1 rfl rfl dk_Arr_fill_12 ?_
      refine kv_guard (fun g4 => ?_)
      refine kv_astC (pc := 13) kr_72 kn_72 kl_72 g4 rfl dk_Arr_fill_13 (fun c5 => ?_)
      refine kv_iinc (pc := 14) (kk := (1 : Int32)) (lv' := [(2, .int (x1 + (1 : Int32))), (0, .ref 72), (1, .int p1), (3, .int (42 : Int32))]) 2 rfl kki_1 rfl (Nat.le_of_ble_eq_true rfl) dk_Arr_fill_14 ?_
      refine kv_goto (pc := 17) (tgt := 5) dk_Arr_fill_17 rfl ?_
      exact kv_sub [1, 2, 0, 3] rfl (kv_leaf (fun h => h))
theorem dk_Net_shortens_0 : decode prog_6_method_10_code 0 = .ok (.iconst 0, 1) := by decide +kernel
theorem dk_Net_shortens_1 : decode prog_6_method_10_code 1 = .ok (.istore_n 1, 1) := by decide +kernel
theorem dk_Net_shortens_2 : decode prog_6_method_10_code 2 = .ok (.iconst 0, 1) := by decide +kernel
theorem dk_Net_shortens_3 : decode prog_6_method_10_code 3 = .ok (.istore_n 2, 1) := by decide +kernel
theorem dk_Net_shortens_4 : decode prog_6_method_10_code 4 = .ok (.iload_n 2, 1) := by decide +kernel
theorem dk_Net_shortens_5 : decode prog_6_method_10_code 5 = .ok (.aload_n 0, 1) := by decide +kernel
theorem dk_Net_shortens_6 : decode prog_6_method_10_code 6 = .ok (.getfield 28, 3) := by decide +kernel
theorem dk_Net_shortens_9 : decode prog_6_method_10_code 9 = .ok (.if_icmp .ge 70, 3) := by decide +kernel
theorem dk_Net_shortens_12 : decode prog_6_method_10_code 12 = .ok (.aload_n 0, 1) := by decide +kernel
theorem dk_Net_shortens_13 : decode prog_6_method_10_code 13 = .ok (.getfield 21, 3) := by decide +kernel
theorem dk_Net_shortens_16 : decode prog_6_method_10_code 16 = .ok (.aload_n 0, 1) := by decide +kernel
theorem dk_Net_shortens_17 : decode prog_6_method_10_code 17 = .ok (.getfield 11, 3) := by decide +kernel
theorem dk_Net_shortens_20 : decode prog_6_method_10_code 20 = .ok (.iload_n 2, 1) := by decide +kernel
theorem dk_Net_shortens_21 : decode prog_6_method_10_code 21 = .ok (.iaload, 1) := by decide +kernel
theorem dk_Net_shortens_22 : decode prog_6_method_10_code 22 = .ok (.iaload, 1) := by decide +kernel
theorem dk_Net_shortens_23 : decode prog_6_method_10_code 23 = .ok (.istore_n 3, 1) := by decide +kernel
theorem dk_Net_shortens_24 : decode prog_6_method_10_code 24 = .ok (.iload_n 3, 1) := by decide +kernel
theorem dk_Net_shortens_25 : decode prog_6_method_10_code 25 = .ok (.ldc 49, 2) := by decide +kernel
theorem dk_Net_shortens_27 : decode prog_6_method_10_code 27 = .ok (.if_icmp .eq 46, 3) := by decide +kernel
theorem dk_Net_shortens_30 : decode prog_6_method_10_code 30 = .ok (.iload_n 3, 1) := by decide +kernel
theorem dk_Net_shortens_31 : decode prog_6_method_10_code 31 = .ok (.aload_n 0, 1) := by decide +kernel
theorem dk_Net_shortens_32 : decode prog_6_method_10_code 32 = .ok (.getfield 18, 3) := by decide +kernel
theorem dk_Net_shortens_35 : decode prog_6_method_10_code 35 = .ok (.iload_n 2, 1) := by decide +kernel
theorem dk_Net_shortens_36 : decode prog_6_method_10_code 36 = .ok (.iaload, 1) := by decide +kernel
theorem dk_Net_shortens_37 : decode prog_6_method_10_code 37 = .ok (.iadd, 1) := by decide +kernel
theorem dk_Net_shortens_38 : decode prog_6_method_10_code 38 = .ok (.aload_n 0, 1) := by decide +kernel
theorem dk_Net_shortens_39 : decode prog_6_method_10_code 39 = .ok (.getfield 21, 3) := by decide +kernel
theorem dk_Net_shortens_42 : decode prog_6_method_10_code 42 = .ok (.aload_n 0, 1) := by decide +kernel
theorem dk_Net_shortens_43 : decode prog_6_method_10_code 43 = .ok (.getfield 15, 3) := by decide +kernel
theorem dk_Net_shortens_46 : decode prog_6_method_10_code 46 = .ok (.iload_n 2, 1) := by decide +kernel
theorem dk_Net_shortens_47 : decode prog_6_method_10_code 47 = .ok (.iaload, 1) := by decide +kernel
theorem dk_Net_shortens_48 : decode prog_6_method_10_code 48 = .ok (.iaload, 1) := by decide +kernel
theorem dk_Net_shortens_49 : decode prog_6_method_10_code 49 = .ok (.if_icmp .ge 24, 3) := by decide +kernel
theorem dk_Net_shortens_52 : decode prog_6_method_10_code 52 = .ok (.aload_n 0, 1) := by decide +kernel
theorem dk_Net_shortens_53 : decode prog_6_method_10_code 53 = .ok (.getfield 21, 3) := by decide +kernel
theorem dk_Net_shortens_56 : decode prog_6_method_10_code 56 = .ok (.aload_n 0, 1) := by decide +kernel
theorem dk_Net_shortens_57 : decode prog_6_method_10_code 57 = .ok (.getfield 15, 3) := by decide +kernel
theorem dk_Net_shortens_60 : decode prog_6_method_10_code 60 = .ok (.iload_n 2, 1) := by decide +kernel
theorem dk_Net_shortens_61 : decode prog_6_method_10_code 61 = .ok (.iaload, 1) := by decide +kernel
theorem dk_Net_shortens_62 : decode prog_6_method_10_code 62 = .ok (.iload_n 3, 1) := by decide +kernel
theorem dk_Net_shortens_63 : decode prog_6_method_10_code 63 = .ok (.aload_n 0, 1) := by decide +kernel
theorem dk_Net_shortens_64 : decode prog_6_method_10_code 64 = .ok (.getfield 18, 3) := by decide +kernel
theorem dk_Net_shortens_67 : decode prog_6_method_10_code 67 = .ok (.iload_n 2, 1) := by decide +kernel
theorem dk_Net_shortens_68 : decode prog_6_method_10_code 68 = .ok (.iaload, 1) := by decide +kernel
theorem dk_Net_shortens_69 : decode prog_6_method_10_code 69 = .ok (.iadd, 1) := by decide +kernel
theorem dk_Net_shortens_70 : decode prog_6_method_10_code 70 = .ok (.iastore, 1) := by decide +kernel
theorem dk_Net_shortens_71 : decode prog_6_method_10_code 71 = .ok (.iconst 1, 1) := by decide +kernel
theorem dk_Net_shortens_72 : decode prog_6_method_10_code 72 = .ok (.istore_n 1, 1) := by decide +kernel
theorem dk_Net_shortens_73 : decode prog_6_method_10_code 73 = .ok (.iinc 2 1, 3) := by decide +kernel
theorem dk_Net_shortens_76 : decode prog_6_method_10_code 76 = .ok (.goto (-72), 3) := by decide +kernel
theorem dk_Net_shortens_79 : decode prog_6_method_10_code 79 = .ok (.iload_n 1, 1) := by decide +kernel
theorem dk_Net_shortens_80 : decode prog_6_method_10_code 80 = .ok (.ireturn, 1) := by decide +kernel
noncomputable def fj_Net_shortens_73 (x2 : Int32) (x9 : Int32) (c10 : (Nat → Nat → Int32)) : Option ((Int32 × Int32 × (Nat → Nat → Int32)) ⊕ (Int32 × (Nat → Nat → Int32))) :=
  some (.inl (x9, (x2 + (1 : Int32)), c10))
noncomputable def fb_Net_shortens_4 (x1 : Int32) (x2 : Int32) (c3 : (Nat → Nat → Int32)) : Option ((Int32 × Int32 × (Nat → Nat → Int32)) ⊕ (Int32 × (Nat → Nat → Int32))) :=
  if (c3 68 5) ≤ x2 then
    some (.inr (x1, c3))
  else
    kv_gd (kv_in x2 124) (
    kv_gd (kv_in (c3 69 x2.toNatClampNeg) 42) (
    kv_let (c3 72 (c3 69 x2.toNatClampNeg).toNatClampNeg) (fun v8 =>
    if v8 = (2147483647 : Int32) then
      fj_Net_shortens_73 x2 x1 c3
    else
      kv_gd (kv_in (c3 70 x2.toNatClampNeg) 42) (
      if (c3 72 (c3 70 x2.toNatClampNeg).toNatClampNeg) ≤ (v8 + (c3 71 x2.toNatClampNeg)) then
        fj_Net_shortens_73 x2 x1 c3
      else
        kv_let (kv_st c3 72 (c3 70 x2.toNatClampNeg).toNatClampNeg (v8 + (c3 71 x2.toNatClampNeg))) (fun c12 =>
        fj_Net_shortens_73 x2 (1 : Int32) c12)))))
noncomputable def fx_Net_shortens (c : (Nat → Nat → Int32)) : Option (Bool × (Nat → Nat → Int32)) :=
  (kv_loop (kv_u3 (fb_Net_shortens_4)) ((0 : Int32), (0 : Int32), c)).bind (kv_u2 (fun x4 c5 =>
  kv_bind1 (kv_z x4) (fun b13 => some (b13, c5))))
set_option maxRecDepth 20000 in
theorem cx_Net_shortens (d : Nat) (c : (Nat → Nat → Int32)) (y : (Nat → Nat → Int32) × (Nat → Int64) × (Nat → Int64)) : ∀ a, fx_Net_shortens c = some a → kv_C kM_Net_shortens (d + 0) [.ref 68] (c, y) (some (.int (kv_b a.1)), (a.2, y)) := by
  refine kv_entryX (E := fun a : (Bool × (Nat → Nat → Int32)) => (some (.int (kv_b a.1)), (a.2, y))) rfl (Nat.le_of_ble_eq_true rfl) (fun o => ?_)
  unfold fx_Net_shortens
  show kv_X _ _ _ _ _ 0 [(0, .ref 68)] [] (c, y)
  refine kv_iconst (pc := 0) (v := (0 : Int32)) dk_Net_shortens_0 kki_0 ?_
  refine kv_istore_n (pc := 1) (lv' := [(1, .int (0 : Int32)), (0, .ref 68)]) rfl (Nat.le_of_ble_eq_true rfl) rfl dk_Net_shortens_1 ?_
  refine kv_iconst (pc := 2) (v := (0 : Int32)) dk_Net_shortens_2 kki_0 ?_
  refine kv_istore_n (pc := 3) (lv' := [(2, .int (0 : Int32)), (1, .int (0 : Int32)), (0, .ref 68)]) rfl (Nat.le_of_ble_eq_true rfl) rfl dk_Net_shortens_3 ?_
  refine kv_sub (lv' := [(0, .ref 68), (1, .int (0 : Int32)), (2, .int (0 : Int32))]) [2, 1, 0] rfl ?_
  refine kv_lp_3_2 (LV := fun x1 x2 c3 => [(0, .ref 68), (1, .int x1), (2, .int x2)]) (WW := fun x1 x2 c3 => (c3, y)) (LE1 := fun x4 c5 => [(1, .int x4)]) (WE1 := fun x4 c5 => (c5, y)) (pe1 := 79) ?_ ?_
  · intro x4 c5
    show kv_X _ _ _ _ _ 79 [(1, .int x4)] [] (c5, y)
    refine kv_iload_n (pc := 79) 0 rfl rfl dk_Net_shortens_79 ?_
    refine kv_zt (fun b13 => ?_)
    exact kv_zret (pc := 80) (b := b13) (fun h => h) rfl dk_Net_shortens_80
  · intro hx4_0 x1 x2 c3
    show kv_X _ _ _ _ (fb_Net_shortens_4 x1 x2 c3) 4 [(0, .ref 68), (1, .int x1), (2, .int x2)] [] (c3, y)
    unfold fb_Net_shortens_4
    refine kv_iload_n (pc := 4) 2 rfl rfl dk_Net_shortens_4 ?_
    refine kv_aload_n (pc := 5) 0 rfl rfl dk_Net_shortens_5 ?_
    refine kv_getC (pc := 6) kf_Net_28 kr_68 kn_68 rfl dk_Net_shortens_6 ?_
    refine kv_icmp_ge (pc := 9) (tgt := 79) dk_Net_shortens_9 rfl ?_ ?_
    · exact kv_sub [1] rfl (kv_leaf (hx4_0 _ _))
    · refine kv_aload_n (pc := 12) 0 rfl rfl dk_Net_shortens_12 ?_
      refine kv_getR (pc := 13) kf_Net_21 kr_68 rfl kt_68_3 dk_Net_shortens_13 ?_
      refine kv_aload_n (pc := 16) 0 rfl rfl dk_Net_shortens_16 ?_
      refine kv_getR (pc := 17) kf_Net_11 kr_68 rfl kt_68_0 dk_Net_shortens_17 ?_
      refine kv_iload_n (pc := 20) 2 rfl rfl dk_Net_shortens_20 ?_
      refine kv_guard (fun g6 => ?_)
      refine kv_aldC (pc := 21) kr_69 kn_69 kl_69 g6 rfl dk_Net_shortens_21 ?_
      refine kv_guard (fun g7 => ?_)
      refine kv_aldC (pc := 22) kr_72 kn_72 kl_72 g7 rfl dk_Net_shortens_22 ?_
      refine kv_letI (fun v8 => ?_)
      refine kv_istore_n (pc := 23) (lv' := [(3, .int v8), (0, .ref 68), (1, .int x1), (2, .int x2)]) rfl (Nat.le_of_ble_eq_true rfl) rfl dk_Net_shortens_23 ?_
      refine kv_iload_n (pc := 24) 0 rfl rfl dk_Net_shortens_24 ?_
      refine kv_ldc (pc := 25) (v := (2147483647 : Int32)) kw_723 dk_Net_shortens_25 ?_
      refine kv_cut_2 (J := fj_Net_shortens_73 x2) (pcj := 73) (LJ := fun x9 c10 => [(0, .ref 68), (1, .int x9), (2, .int x2)]) (SJ := fun x9 c10 => []) (WJ := fun x9 c10 => (c10, y)) ?_ (fun hj73 => ?_)
      · intro x9 c10
        show kv_X _ _ _ _ (fj_Net_shortens_73 x2 x9 c10) 73 [(0, .ref 68), (1, .int x9), (2, .int x2)] [] (c10, y)
        unfold fj_Net_shortens_73
        refine kv_iinc (pc := 73) (kk := (1 : Int32)) (lv' := [(2, .int (x2 + (1 : Int32))), (0, .ref 68), (1, .int x9)]) 2 rfl kki_1 rfl (Nat.le_of_ble_eq_true rfl) dk_Net_shortens_73 ?_
        refine kv_goto (pc := 76) (tgt := 4) dk_Net_shortens_76 rfl ?_
        exact kv_sub [1, 2, 0] rfl (kv_leaf (fun h => h))
      refine kv_icmp_eq (pc := 27) (tgt := 73) dk_Net_shortens_27 rfl ?_ ?_
      · exact kv_sub [1, 2, 3] rfl (hj73 x1 c3)
      · refine kv_iload_n (pc := 30) 0 rfl rfl dk_Net_shortens_30 ?_
        refine kv_aload_n (pc := 31) 1 rfl rfl dk_Net_shortens_31 ?_
        refine kv_getR (pc := 32) kf_Net_18 kr_68 rfl kt_68_2 dk_Net_shortens_32 ?_
        refine kv_iload_n (pc := 35) 3 rfl rfl dk_Net_shortens_35 ?_
        refine kv_aldC (pc := 36) kr_71 kn_71 kl_71 g6 rfl dk_Net_shortens_36 ?_
        refine kv_iadd (pc := 37) dk_Net_shortens_37 ?_
        refine kv_aload_n (pc := 38) 1 rfl rfl dk_Net_shortens_38 ?_
        refine kv_getR (pc := 39) kf_Net_21 kr_68 rfl kt_68_3 dk_Net_shortens_39 ?_
        refine kv_aload_n (pc := 42) 1 rfl rfl dk_Net_shortens_42 ?_
        refine kv_getR (pc := 43) kf_Net_15 kr_68 rfl kt_68_1 dk_Net_shortens_43 ?_
        refine kv_iload_n (pc := 46) 3 rfl rfl dk_Net_shortens_46 ?_
        refine kv_aldC (pc := 47) kr_70 kn_70 kl_70 g6 rfl dk_Net_shortens_47 ?_
        refine kv_guard (fun g11 => ?_)
        refine kv_aldC (pc := 48) kr_72 kn_72 kl_72 g11 rfl dk_Net_shortens_48 ?_
        refine kv_icmp_ge (pc := 49) (tgt := 73) dk_Net_shortens_49 rfl ?_ ?_
        · exact kv_sub [1, 2, 3] rfl (hj73 x1 c3)
        · refine kv_aload_n (pc := 52) 1 rfl rfl dk_Net_shortens_52 ?_
          refine kv_getR (pc := 53) kf_Net_21 kr_68 rfl kt_68_3 dk_Net_shortens_53 ?_
          refine kv_aload_n (pc := 56) 1 rfl rfl dk_Net_shortens_56 ?_
          refine kv_getR (pc := 57) kf_Net_15 kr_68 rfl kt_68_1 dk_Net_shortens_57 ?_
          refine kv_iload_n (pc := 60) 3 rfl rfl dk_Net_shortens_60 ?_
          refine kv_aldC (pc := 61) kr_70 kn_70 kl_70 g6 rfl dk_Net_shortens_61 ?_
          refine kv_iload_n (pc := 62) 0 rfl rfl dk_Net_shortens_62 ?_
          refine kv_aload_n (pc := 63) 1 rfl rfl dk_Net_shortens_63 ?_
          refine kv_getR (pc := 64) kf_Net_18 kr_68 rfl kt_68_2 dk_Net_shortens_64 ?_
          refine kv_iload_n (pc := 67) 3 rfl rfl dk_Net_shortens_67 ?_
          refine kv_aldC (pc := 68) kr_71 kn_71 kl_71 g6 rfl dk_Net_shortens_68 ?_
          refine kv_iadd (pc := 69) dk_Net_shortens_69 ?_
          refine kv_astC (pc := 70) kr_72 kn_72 kl_72 g11 rfl dk_Net_shortens_70 (fun c12 => ?_)
          refine kv_iconst (pc := 71) (v := (1 : Int32)) dk_Net_shortens_71 kki_1 ?_
          refine kv_istore_n (pc := 72) (lv' := [(1, .int (1 : Int32)), (3, .int v8), (0, .ref 68), (2, .int x2)]) rfl (Nat.le_of_ble_eq_true rfl) rfl dk_Net_shortens_72 ?_
          exact kv_sub [2, 0, 3] rfl (hj73 (1 : Int32) c12)
