theorem dk_K_isWithin_0 : decode prog_1_method_40_code 0 = .ok (.iload_n 0, 1) := by decide +kernel
theorem dk_K_isWithin_1 : decode prog_1_method_40_code 1 = .ok (.iload_n 1, 1) := by decide +kernel
theorem dk_K_isWithin_2 : decode prog_1_method_40_code 2 = .ok (.if_icmp .lt 12, 3) := by decide +kernel
theorem dk_K_isWithin_5 : decode prog_1_method_40_code 5 = .ok (.iload_n 0, 1) := by decide +kernel
theorem dk_K_isWithin_6 : decode prog_1_method_40_code 6 = .ok (.iload_n 2, 1) := by decide +kernel
theorem dk_K_isWithin_7 : decode prog_1_method_40_code 7 = .ok (.if_icmp .gt 7, 3) := by decide +kernel
theorem dk_K_isWithin_10 : decode prog_1_method_40_code 10 = .ok (.iconst 1, 1) := by decide +kernel
theorem dk_K_isWithin_11 : decode prog_1_method_40_code 11 = .ok (.goto 4, 3) := by decide +kernel
theorem dk_K_isWithin_14 : decode prog_1_method_40_code 14 = .ok (.iconst 0, 1) := by decide +kernel
theorem dk_K_isWithin_15 : decode prog_1_method_40_code 15 = .ok (.ireturn, 1) := by decide +kernel
noncomputable def fx_K_isWithin (p0 : Int32) (p1 : Int32) (p2 : Int32) : Option Bool :=
  if p0 < p1 then
    some false
  else
    if p2 < p0 then
      some false
    else
      some true
set_option maxRecDepth 20000 in
theorem cx_K_isWithin (d : Nat) (p0 : Int32) (p1 : Int32) (p2 : Int32) (c : (Nat → Nat → Int32)) (y : (Nat → Nat → Int32) × (Nat → Int64) × (Nat → Int64)) : ∀ a, fx_K_isWithin p0 p1 p2 = some a → kv_C kM_K_isWithin (d + 0) [.int p0, .int p1, .int p2] (c, y) (some (.int (kv_b a)), (c, y)) := by
  refine kv_entryX (E := fun a : Bool => (some (.int (kv_b a)), (c, y))) rfl (Nat.le_of_ble_eq_true rfl) (fun o => ?_)
  unfold fx_K_isWithin
  show kv_X _ _ _ _ _ 0 [(0, .int p0), (1, .int p1), (2, .int p2)] [] (c, y)
  refine kv_iload_n (pc := 0) 0 rfl rfl dk_K_isWithin_0 ?_
  refine kv_iload_n (pc := 1) 1 rfl rfl dk_K_isWithin_1 ?_
  refine kv_icmp_lt (pc := 2) (tgt := 14) dk_K_isWithin_2 rfl ?_ ?_
  · refine kv_iconst (pc := 14) (v := (0 : Int32)) dk_K_isWithin_14 kki_0 ?_
    exact kv_zret (pc := 15) (b := false) (fun h => h) rfl dk_K_isWithin_15
  · refine kv_iload_n (pc := 5) 0 rfl rfl dk_K_isWithin_5 ?_
    refine kv_iload_n (pc := 6) 2 rfl rfl dk_K_isWithin_6 ?_
    refine kv_icmp_gt (pc := 7) (tgt := 14) dk_K_isWithin_7 rfl ?_ ?_
    · refine kv_iconst (pc := 14) (v := (0 : Int32)) dk_K_isWithin_14 kki_0 ?_
      exact kv_zret (pc := 15) (b := false) (fun h => h) rfl dk_K_isWithin_15
    · refine kv_iconst (pc := 10) (v := (1 : Int32)) dk_K_isWithin_10 kki_1 ?_
      refine kv_goto (pc := 11) (tgt := 15) dk_K_isWithin_11 rfl ?_
      exact kv_zret (pc := 15) (b := true) (fun h => h) rfl dk_K_isWithin_15
theorem dk_Lumps_add_0 : decode prog_5_method_4_code 0 = .ok (.aload_n 0, 1) := by decide +kernel
theorem dk_Lumps_add_1 : decode prog_5_method_4_code 1 = .ok (.getfield 33, 3) := by decide +kernel
theorem dk_Lumps_add_4 : decode prog_5_method_4_code 4 = .ok (.istore 5, 2) := by decide +kernel
theorem dk_Lumps_add_6 : decode prog_5_method_4_code 6 = .ok (.aload_n 0, 1) := by decide +kernel
theorem dk_Lumps_add_7 : decode prog_5_method_4_code 7 = .ok (.getfield 9, 3) := by decide +kernel
theorem dk_Lumps_add_10 : decode prog_5_method_4_code 10 = .ok (.iload 5, 2) := by decide +kernel
theorem dk_Lumps_add_12 : decode prog_5_method_4_code 12 = .ok (.iload_n 1, 1) := by decide +kernel
theorem dk_Lumps_add_13 : decode prog_5_method_4_code 13 = .ok (.iastore, 1) := by decide +kernel
theorem dk_Lumps_add_14 : decode prog_5_method_4_code 14 = .ok (.aload_n 0, 1) := by decide +kernel
theorem dk_Lumps_add_15 : decode prog_5_method_4_code 15 = .ok (.getfield 15, 3) := by decide +kernel
theorem dk_Lumps_add_18 : decode prog_5_method_4_code 18 = .ok (.iload 5, 2) := by decide +kernel
theorem dk_Lumps_add_20 : decode prog_5_method_4_code 20 = .ok (.iload_n 2, 1) := by decide +kernel
theorem dk_Lumps_add_21 : decode prog_5_method_4_code 21 = .ok (.iastore, 1) := by decide +kernel
theorem dk_Lumps_add_22 : decode prog_5_method_4_code 22 = .ok (.aload_n 0, 1) := by decide +kernel
theorem dk_Lumps_add_23 : decode prog_5_method_4_code 23 = .ok (.getfield 18, 3) := by decide +kernel
theorem dk_Lumps_add_26 : decode prog_5_method_4_code 26 = .ok (.iload 5, 2) := by decide +kernel
theorem dk_Lumps_add_28 : decode prog_5_method_4_code 28 = .ok (.iload_n 3, 1) := by decide +kernel
theorem dk_Lumps_add_29 : decode prog_5_method_4_code 29 = .ok (.iastore, 1) := by decide +kernel
theorem dk_Lumps_add_30 : decode prog_5_method_4_code 30 = .ok (.aload_n 0, 1) := by decide +kernel
theorem dk_Lumps_add_31 : decode prog_5_method_4_code 31 = .ok (.getfield 21, 3) := by decide +kernel
theorem dk_Lumps_add_34 : decode prog_5_method_4_code 34 = .ok (.iload 5, 2) := by decide +kernel
theorem dk_Lumps_add_36 : decode prog_5_method_4_code 36 = .ok (.iload 4, 2) := by decide +kernel
theorem dk_Lumps_add_38 : decode prog_5_method_4_code 38 = .ok (.iastore, 1) := by decide +kernel
theorem dk_Lumps_add_39 : decode prog_5_method_4_code 39 = .ok (.aload_n 0, 1) := by decide +kernel
theorem dk_Lumps_add_40 : decode prog_5_method_4_code 40 = .ok (.getfield 27, 3) := by decide +kernel
theorem dk_Lumps_add_43 : decode prog_5_method_4_code 43 = .ok (.iload 5, 2) := by decide +kernel
theorem dk_Lumps_add_45 : decode prog_5_method_4_code 45 = .ok (.iconst 0, 1) := by decide +kernel
theorem dk_Lumps_add_46 : decode prog_5_method_4_code 46 = .ok (.iastore, 1) := by decide +kernel
theorem dk_Lumps_add_47 : decode prog_5_method_4_code 47 = .ok (.aload_n 0, 1) := by decide +kernel
theorem dk_Lumps_add_48 : decode prog_5_method_4_code 48 = .ok (.dup, 1) := by decide +kernel
theorem dk_Lumps_add_49 : decode prog_5_method_4_code 49 = .ok (.getfield 33, 3) := by decide +kernel
theorem dk_Lumps_add_52 : decode prog_5_method_4_code 52 = .ok (.iconst 1, 1) := by decide +kernel
theorem dk_Lumps_add_53 : decode prog_5_method_4_code 53 = .ok (.iadd, 1) := by decide +kernel
theorem dk_Lumps_add_54 : decode prog_5_method_4_code 54 = .ok (.putfield 33, 3) := by decide +kernel
theorem dk_Lumps_add_57 : decode prog_5_method_4_code 57 = .ok (.iload 5, 2) := by decide +kernel
theorem dk_Lumps_add_59 : decode prog_5_method_4_code 59 = .ok (.ireturn, 1) := by decide +kernel
noncomputable def fx_Lumps_add (p1 : Int32) (p2 : Int32) (p3 : Int32) (p4 : Int32) (c : (Nat → Nat → Int32)) : Option (Int32 × (Nat → Nat → Int32)) :=
  kv_let (c 2 7) (fun v1 =>
  kv_gd (kv_in v1 10) (
  kv_let (kv_st c 3 v1.toNatClampNeg p1) (fun c3 =>
  kv_let (kv_st c3 4 v1.toNatClampNeg p2) (fun c4 =>
  kv_let (kv_st c4 5 v1.toNatClampNeg p3) (fun c5 =>
  kv_let (kv_st c5 6 v1.toNatClampNeg p4) (fun c6 =>
  kv_let (kv_st c6 8 v1.toNatClampNeg (0 : Int32)) (fun c7 =>
  kv_let (kv_st c7 2 7 ((c7 2 7) + (1 : Int32))) (fun c8 =>
  some (v1, c8)))))))))
set_option maxRecDepth 20000 in
theorem cx_Lumps_add (d : Nat) (p1 : Int32) (p2 : Int32) (p3 : Int32) (p4 : Int32) (c : (Nat → Nat → Int32)) (y : (Nat → Nat → Int32) × (Nat → Int64) × (Nat → Int64)) : ∀ a, fx_Lumps_add p1 p2 p3 p4 c = some a → kv_C kM_Lumps_add (d + 0) [.ref 2, .int p1, .int p2, .int p3, .int p4] (c, y) (some (.int a.1), (a.2, y)) := by
  refine kv_entryX (E := fun a : (Int32 × (Nat → Nat → Int32)) => (some (.int a.1), (a.2, y))) rfl (Nat.le_of_ble_eq_true rfl) (fun o => ?_)
  unfold fx_Lumps_add
  show kv_X _ _ _ _ _ 0 [(0, .ref 2), (1, .int p1), (2, .int p2), (3, .int p3), (4, .int p4)] [] (c, y)
  refine kv_aload_n (pc := 0) 0 rfl rfl dk_Lumps_add_0 ?_
  refine kv_getC (pc := 1) kf_Lumps_33 kr_2 kn_2 rfl dk_Lumps_add_1 ?_
  refine kv_letI (fun v1 => ?_)
  refine kv_istore (pc := 4) (lv' := [(5, .int v1), (0, .ref 2), (1, .int p1), (2, .int p2), (3, .int p3), (4, .int p4)]) rfl (Nat.le_of_ble_eq_true rfl) dk_Lumps_add_4 ?_
  refine kv_aload_n (pc := 6) 1 rfl rfl dk_Lumps_add_6 ?_
  refine kv_getR (pc := 7) kf_Lumps_9 kr_2 rfl kt_2_0 dk_Lumps_add_7 ?_
  refine kv_iload (pc := 10) 0 rfl dk_Lumps_add_10 ?_
  refine kv_iload_n (pc := 12) 2 rfl rfl dk_Lumps_add_12 ?_
  refine kv_guard (fun g2 => ?_)
  refine kv_astC (pc := 13) kr_3 kn_3 kl_3 g2 rfl dk_Lumps_add_13 (fun c3 => ?_)
  refine kv_aload_n (pc := 14) 1 rfl rfl dk_Lumps_add_14 ?_
  refine kv_getR (pc := 15) kf_Lumps_15 kr_2 rfl kt_2_1 dk_Lumps_add_15 ?_
  refine kv_iload (pc := 18) 0 rfl dk_Lumps_add_18 ?_
  refine kv_iload_n (pc := 20) 3 rfl rfl dk_Lumps_add_20 ?_
  refine kv_astC (pc := 21) kr_4 kn_4 kl_4 g2 rfl dk_Lumps_add_21 (fun c4 => ?_)
  refine kv_aload_n (pc := 22) 1 rfl rfl dk_Lumps_add_22 ?_
  refine kv_getR (pc := 23) kf_Lumps_18 kr_2 rfl kt_2_2 dk_Lumps_add_23 ?_
  refine kv_iload (pc := 26) 0 rfl dk_Lumps_add_26 ?_
  refine kv_iload_n (pc := 28) 4 rfl rfl dk_Lumps_add_28 ?_
  refine kv_astC (pc := 29) kr_5 kn_5 kl_5 g2 rfl dk_Lumps_add_29 (fun c5 => ?_)
  refine kv_aload_n (pc := 30) 1 rfl rfl dk_Lumps_add_30 ?_
  refine kv_getR (pc := 31) kf_Lumps_21 kr_2 rfl kt_2_3 dk_Lumps_add_31 ?_
  refine kv_iload (pc := 34) 0 rfl dk_Lumps_add_34 ?_
  refine kv_iload (pc := 36) 5 rfl dk_Lumps_add_36 ?_
  refine kv_astC (pc := 38) kr_6 kn_6 kl_6 g2 rfl dk_Lumps_add_38 (fun c6 => ?_)
  refine kv_aload_n (pc := 39) 1 rfl rfl dk_Lumps_add_39 ?_
  refine kv_getR (pc := 40) kf_Lumps_27 kr_2 rfl kt_2_5 dk_Lumps_add_40 ?_
  refine kv_iload (pc := 43) 0 rfl dk_Lumps_add_43 ?_
  refine kv_iconst (pc := 45) (v := (0 : Int32)) dk_Lumps_add_45 kki_0 ?_
  refine kv_astC (pc := 46) kr_8 kn_8 kl_8 g2 rfl dk_Lumps_add_46 (fun c7 => ?_)
  refine kv_aload_n (pc := 47) 1 rfl rfl dk_Lumps_add_47 ?_
  refine kv_dupR (pc := 48) dk_Lumps_add_48 ?_
  refine kv_getC (pc := 49) kf_Lumps_33 kr_2 kn_2 rfl dk_Lumps_add_49 ?_
  refine kv_iconst (pc := 52) (v := (1 : Int32)) dk_Lumps_add_52 kki_1 ?_
  refine kv_iadd (pc := 53) dk_Lumps_add_53 ?_
  refine kv_putC (pc := 54) kf_Lumps_33 kr_2 kn_2 rfl rfl rfl dk_Lumps_add_54 (fun c8 => ?_)
  refine kv_iload (pc := 57) 0 rfl dk_Lumps_add_57 ?_
  exact kv_iret (pc := 59) (fun h => h) rfl dk_Lumps_add_59
theorem dk_Lumps_primeAt_0 : decode prog_5_method_5_code 0 = .ok (.iconst 0, 1) := by decide +kernel
theorem dk_Lumps_primeAt_1 : decode prog_5_method_5_code 1 = .ok (.istore_n 1, 1) := by decide +kernel
theorem dk_Lumps_primeAt_2 : decode prog_5_method_5_code 2 = .ok (.iload_n 1, 1) := by decide +kernel
theorem dk_Lumps_primeAt_3 : decode prog_5_method_5_code 3 = .ok (.aload_n 0, 1) := by decide +kernel
theorem dk_Lumps_primeAt_4 : decode prog_5_method_5_code 4 = .ok (.getfield 33, 3) := by decide +kernel
theorem dk_Lumps_primeAt_7 : decode prog_5_method_5_code 7 = .ok (.if_icmp .ge 21, 3) := by decide +kernel
theorem dk_Lumps_primeAt_10 : decode prog_5_method_5_code 10 = .ok (.aload_n 0, 1) := by decide +kernel
theorem dk_Lumps_primeAt_11 : decode prog_5_method_5_code 11 = .ok (.getfield 9, 3) := by decide +kernel
theorem dk_Lumps_primeAt_14 : decode prog_5_method_5_code 14 = .ok (.iload_n 1, 1) := by decide +kernel
theorem dk_Lumps_primeAt_15 : decode prog_5_method_5_code 15 = .ok (.iaload, 1) := by decide +kernel
theorem dk_Lumps_primeAt_16 : decode prog_5_method_5_code 16 = .ok (.iconst 1, 1) := by decide +kernel
theorem dk_Lumps_primeAt_17 : decode prog_5_method_5_code 17 = .ok (.if_icmp .ne 5, 3) := by decide +kernel
theorem dk_Lumps_primeAt_20 : decode prog_5_method_5_code 20 = .ok (.iload_n 1, 1) := by decide +kernel
theorem dk_Lumps_primeAt_21 : decode prog_5_method_5_code 21 = .ok (.ireturn, 1) := by decide +kernel
theorem dk_Lumps_primeAt_22 : decode prog_5_method_5_code 22 = .ok (.iinc 1 1, 3) := by decide +kernel
theorem dk_Lumps_primeAt_25 : decode prog_5_method_5_code 25 = .ok (.goto (-23), 3) := by decide +kernel
theorem dk_Lumps_primeAt_28 : decode prog_5_method_5_code 28 = .ok (.iconst (-1), 1) := by decide +kernel
theorem dk_Lumps_primeAt_29 : decode prog_5_method_5_code 29 = .ok (.ireturn, 1) := by decide +kernel
noncomputable def fb_Lumps_primeAt_2 (c : (Nat → Nat → Int32)) (x1 : Int32) : Option (Int32 ⊕ (Int32 ⊕ Unit)) :=
  if (c 2 7) ≤ x1 then
    some (.inr (.inr ()))
  else
    kv_gd (kv_in x1 10) (
    if (c 3 x1.toNatClampNeg) = (1 : Int32) then
      some (.inr (.inl x1))
    else
      some (.inl (x1 + (1 : Int32))))
noncomputable def fx_Lumps_primeAt (c : (Nat → Nat → Int32)) : Option Int32 :=
  (kv_loop (kv_u1 (fb_Lumps_primeAt_2 c)) (0 : Int32)).bind (Sum.elim (kv_u1 (fun x2 =>
  some x2))
   (kv_u0 (
  some (-1 : Int32))))
set_option maxRecDepth 20000 in
theorem cx_Lumps_primeAt (d : Nat) (c : (Nat → Nat → Int32)) (y : (Nat → Nat → Int32) × (Nat → Int64) × (Nat → Int64)) : ∀ a, fx_Lumps_primeAt c = some a → kv_C kM_Lumps_primeAt (d + 0) [.ref 2] (c, y) (some (.int a), (c, y)) := by
  refine kv_entryX (E := fun a : Int32 => (some (.int a), (c, y))) rfl (Nat.le_of_ble_eq_true rfl) (fun o => ?_)
  unfold fx_Lumps_primeAt
  show kv_X _ _ _ _ _ 0 [(0, .ref 2)] [] (c, y)
  refine kv_iconst (pc := 0) (v := (0 : Int32)) dk_Lumps_primeAt_0 kki_0 ?_
  refine kv_istore_n (pc := 1) (lv' := [(1, .int (0 : Int32)), (0, .ref 2)]) rfl (Nat.le_of_ble_eq_true rfl) rfl dk_Lumps_primeAt_1 ?_
  refine kv_sub (lv' := [(0, .ref 2), (1, .int (0 : Int32))]) [1, 0] rfl ?_
  refine kv_lp_1_1_0 (LV := fun x1 => [(0, .ref 2), (1, .int x1)]) (WW := fun x1 => (c, y)) (LE1 := fun x2 => [(1, .int x2)]) (WE1 := fun x2 => (c, y)) (pe1 := 20) (LE2 := []) (WE2 := (c, y)) (pe2 := 28) ?_ ?_ ?_
  · intro x2
    show kv_X _ _ _ _ _ 20 [(1, .int x2)] [] (c, y)
    refine kv_iload_n (pc := 20) 0 rfl rfl dk_Lumps_primeAt_20 ?_
    exact kv_iret (pc := 21) (fun h => h) rfl dk_Lumps_primeAt_21
  · show kv_X _ _ _ _ _ 28 [] [] (c, y)
    refine kv_iconst (pc := 28) (v := (-1 : Int32)) dk_Lumps_primeAt_28 kki_m1 ?_
    exact kv_iret (pc := 29) (fun h => h) rfl dk_Lumps_primeAt_29
  · intro hx2_0 hx2_1 x1
    show kv_X _ _ _ _ (fb_Lumps_primeAt_2 c x1) 2 [(0, .ref 2), (1, .int x1)] [] (c, y)
    unfold fb_Lumps_primeAt_2
    refine kv_iload_n (pc := 2) 1 rfl rfl dk_Lumps_primeAt_2 ?_
    refine kv_aload_n (pc := 3) 0 rfl rfl dk_Lumps_primeAt_3 ?_
    refine kv_getC (pc := 4) kf_Lumps_33 kr_2 kn_2 rfl dk_Lumps_primeAt_4 ?_
    refine kv_icmp_ge (pc := 7) (tgt := 28) dk_Lumps_primeAt_7 rfl ?_ ?_
    · exact kv_sub [] rfl (kv_leaf (hx2_1))
    · refine kv_aload_n (pc := 10) 0 rfl rfl dk_Lumps_primeAt_10 ?_
      refine kv_getR (pc := 11) kf_Lumps_9 kr_2 rfl kt_2_0 dk_Lumps_primeAt_11 ?_
      refine kv_iload_n (pc := 14) 1 rfl rfl dk_Lumps_primeAt_14 ?_
      refine kv_guard (fun g3 => ?_)
      refine kv_aldC (pc := 15) kr_3 kn_3 kl_3 g3 rfl dk_Lumps_primeAt_15 ?_
      refine kv_iconst (pc := 16) (v := (1 : Int32)) dk_Lumps_primeAt_16 kki_1 ?_
      refine kv_icmp_ne (pc := 17) (tgt := 22) dk_Lumps_primeAt_17 rfl ?_ ?_
      · refine kv_iinc (pc := 22) (kk := (1 : Int32)) (lv' := [(1, .int (x1 + (1 : Int32))), (0, .ref 2)]) 1 rfl kki_1 rfl (Nat.le_of_ble_eq_true rfl) dk_Lumps_primeAt_22 ?_
        refine kv_goto (pc := 25) (tgt := 2) dk_Lumps_primeAt_25 rfl ?_
        exact kv_sub [1, 0] rfl (kv_leaf (fun h => h))
      · exact kv_sub [1] rfl (kv_leaf (hx2_0 _))
theorem dk_K_lump_0 : decode prog_1_method_2_code 0 = .ok (.iload_n 1, 1) := by decide +kernel
theorem dk_K_lump_1 : decode prog_1_method_2_code 1 = .ok (.bipush 10, 2) := by decide +kernel
theorem dk_K_lump_3 : decode prog_1_method_2_code 3 = .ok (.idiv, 1) := by decide +kernel
theorem dk_K_lump_4 : decode prog_1_method_2_code 4 = .ok (.istore 4, 2) := by decide +kernel
theorem dk_K_lump_6 : decode prog_1_method_2_code 6 = .ok (.iload_n 1, 1) := by decide +kernel
theorem dk_K_lump_7 : decode prog_1_method_2_code 7 = .ok (.bipush 10, 2) := by decide +kernel
theorem dk_K_lump_9 : decode prog_1_method_2_code 9 = .ok (.irem, 1) := by decide +kernel
theorem dk_K_lump_10 : decode prog_1_method_2_code 10 = .ok (.istore 5, 2) := by decide +kernel
theorem dk_K_lump_12 : decode prog_1_method_2_code 12 = .ok (.iload_n 1, 1) := by decide +kernel
theorem dk_K_lump_13 : decode prog_1_method_2_code 13 = .ok (.ifCond .lt 17, 3) := by decide +kernel
theorem dk_K_lump_16 : decode prog_1_method_2_code 16 = .ok (.iload 4, 2) := by decide +kernel
theorem dk_K_lump_18 : decode prog_1_method_2_code 18 = .ok (.bipush 7, 2) := by decide +kernel
theorem dk_K_lump_20 : decode prog_1_method_2_code 20 = .ok (.if_icmp .gt 10, 3) := by decide +kernel
theorem dk_K_lump_23 : decode prog_1_method_2_code 23 = .ok (.iload 5, 2) := by decide +kernel
theorem dk_K_lump_25 : decode prog_1_method_2_code 25 = .ok (.bipush 6, 2) := by decide +kernel
theorem dk_K_lump_27 : decode prog_1_method_2_code 27 = .ok (.if_icmp .lt 5, 3) := by decide +kernel
theorem dk_K_lump_30 : decode prog_1_method_2_code 30 = .ok (.iconst (-1), 1) := by decide +kernel
theorem dk_K_lump_31 : decode prog_1_method_2_code 31 = .ok (.ireturn, 1) := by decide +kernel
theorem dk_K_lump_32 : decode prog_1_method_2_code 32 = .ok (.iload_n 2, 1) := by decide +kernel
theorem dk_K_lump_33 : decode prog_1_method_2_code 33 = .ok (.bipush (-9), 2) := by decide +kernel
theorem dk_K_lump_35 : decode prog_1_method_2_code 35 = .ok (.bipush 9, 2) := by decide +kernel
theorem dk_K_lump_37 : decode prog_1_method_2_code 37 = .ok (.invokestatic 54, 3) := by decide +kernel
theorem dk_K_lump_40 : decode prog_1_method_2_code 40 = .ok (.ifCond .eq 16, 3) := by decide +kernel
theorem dk_K_lump_43 : decode prog_1_method_2_code 43 = .ok (.iload_n 3, 1) := by decide +kernel
theorem dk_K_lump_44 : decode prog_1_method_2_code 44 = .ok (.sipush (-9999), 3) := by decide +kernel
theorem dk_K_lump_47 : decode prog_1_method_2_code 47 = .ok (.sipush 9999, 3) := by decide +kernel
theorem dk_K_lump_50 : decode prog_1_method_2_code 50 = .ok (.invokestatic 54, 3) := by decide +kernel
theorem dk_K_lump_53 : decode prog_1_method_2_code 53 = .ok (.ifCond .ne 5, 3) := by decide +kernel
theorem dk_K_lump_56 : decode prog_1_method_2_code 56 = .ok (.iconst (-1), 1) := by decide +kernel
theorem dk_K_lump_57 : decode prog_1_method_2_code 57 = .ok (.ireturn, 1) := by decide +kernel
theorem dk_K_lump_58 : decode prog_1_method_2_code 58 = .ok (.aload_n 0, 1) := by decide +kernel
theorem dk_K_lump_59 : decode prog_1_method_2_code 59 = .ok (.getfield 10, 3) := by decide +kernel
theorem dk_K_lump_62 : decode prog_1_method_2_code 62 = .ok (.getfield 58, 3) := by decide +kernel
theorem dk_K_lump_65 : decode prog_1_method_2_code 65 = .ok (.astore 6, 2) := by decide +kernel
theorem dk_K_lump_67 : decode prog_1_method_2_code 67 = .ok (.aload 6, 2) := by decide +kernel
theorem dk_K_lump_69 : decode prog_1_method_2_code 69 = .ok (.getfield 62, 3) := by decide +kernel
theorem dk_K_lump_72 : decode prog_1_method_2_code 72 = .ok (.bipush 10, 2) := by decide +kernel
theorem dk_K_lump_74 : decode prog_1_method_2_code 74 = .ok (.if_icmp .lt 6, 3) := by decide +kernel
theorem dk_K_lump_77 : decode prog_1_method_2_code 77 = .ok (.bipush (-2), 2) := by decide +kernel
theorem dk_K_lump_79 : decode prog_1_method_2_code 79 = .ok (.ireturn, 1) := by decide +kernel
theorem dk_K_lump_80 : decode prog_1_method_2_code 80 = .ok (.iload 4, 2) := by decide +kernel
theorem dk_K_lump_82 : decode prog_1_method_2_code 82 = .ok (.iconst 1, 1) := by decide +kernel
theorem dk_K_lump_83 : decode prog_1_method_2_code 83 = .ok (.if_icmp .ne 14, 3) := by decide +kernel
theorem dk_K_lump_86 : decode prog_1_method_2_code 86 = .ok (.aload 6, 2) := by decide +kernel
theorem dk_K_lump_88 : decode prog_1_method_2_code 88 = .ok (.invokevirtual 68, 3) := by decide +kernel
theorem dk_K_lump_91 : decode prog_1_method_2_code 91 = .ok (.ifCond .lt 6, 3) := by decide +kernel
theorem dk_K_lump_94 : decode prog_1_method_2_code 94 = .ok (.bipush (-3), 2) := by decide +kernel
theorem dk_K_lump_96 : decode prog_1_method_2_code 96 = .ok (.ireturn, 1) := by decide +kernel
theorem dk_K_lump_97 : decode prog_1_method_2_code 97 = .ok (.aload 6, 2) := by decide +kernel
theorem dk_K_lump_99 : decode prog_1_method_2_code 99 = .ok (.iload 4, 2) := by decide +kernel
theorem dk_K_lump_101 : decode prog_1_method_2_code 101 = .ok (.iload 5, 2) := by decide +kernel
theorem dk_K_lump_103 : decode prog_1_method_2_code 103 = .ok (.iload_n 2, 1) := by decide +kernel
theorem dk_K_lump_104 : decode prog_1_method_2_code 104 = .ok (.iload_n 3, 1) := by decide +kernel
theorem dk_K_lump_105 : decode prog_1_method_2_code 105 = .ok (.invokevirtual 72, 3) := by decide +kernel
theorem dk_K_lump_108 : decode prog_1_method_2_code 108 = .ok (.ireturn, 1) := by decide +kernel
noncomputable def fj_K_lump_97 (v1 : Int32) (v2 : Int32) (p2 : Int32) (p3 : Int32) (c : (Nat → Nat → Int32)) : Option (Int32 × (Nat → Nat → Int32)) :=
  kv_bind2 (fx_Lumps_add v1 v2 p2 p3 c) (fun v5 c6 =>
  some (v5, c6))
noncomputable def fx_K_lump (p1 : Int32) (p2 : Int32) (p3 : Int32) (c : (Nat → Nat → Int32)) : Option (Int32 × (Nat → Nat → Int32)) :=
  kv_let (p1 / (10 : Int32)) (fun v1 =>
  kv_let (p1 - p1 / (10 : Int32) * (10 : Int32)) (fun v2 =>
  if p1 < 0 then
    some ((-1 : Int32), c)
  else
    if (7 : Int32) < v1 then
      some ((-1 : Int32), c)
    else
      if v2 < (6 : Int32) then
        kv_bind1 (fx_K_isWithin p2 (-9 : Int32) (9 : Int32)) (fun b3 =>
        if b3 = true then
          kv_bind1 (fx_K_isWithin p3 (-9999 : Int32) (9999 : Int32)) (fun b4 =>
          if b4 = true then
            if (c 2 7) < (10 : Int32) then
              if v1 = (1 : Int32) then
                kv_bind1 (fx_Lumps_primeAt c) (fun v7 =>
                if v7 < 0 then
                  fj_K_lump_97 v1 v2 p2 p3 c
                else
                  some ((-3 : Int32), c))
              else
                fj_K_lump_97 v1 v2 p2 p3 c
            else
              some ((-2 : Int32), c)
          else
            some ((-1 : Int32), c))
        else
          some ((-1 : Int32), c))
      else
        some ((-1 : Int32), c)))
set_option maxRecDepth 20000 in
theorem cx_K_lump (d : Nat) (p1 : Int32) (p2 : Int32) (p3 : Int32) (c : (Nat → Nat → Int32)) (y : (Nat → Nat → Int32) × (Nat → Int64) × (Nat → Int64)) : ∀ a, fx_K_lump p1 p2 p3 c = some a → kv_C kM_K_lump (d + 1) [.ref 0, .int p1, .int p2, .int p3] (c, y) (some (.int a.1), (a.2, y)) := by
  refine kv_entryX (E := fun a : (Int32 × (Nat → Nat → Int32)) => (some (.int a.1), (a.2, y))) rfl (Nat.le_of_ble_eq_true rfl) (fun o => ?_)
  unfold fx_K_lump
  show kv_X _ _ _ _ _ 0 [(0, .ref 0), (1, .int p1), (2, .int p2), (3, .int p3)] [] (c, y)
  refine kv_iload_n (pc := 0) 1 rfl rfl dk_K_lump_0 ?_
  refine kv_bipush (pc := 1) (v := (10 : Int32)) dk_K_lump_1 kkb_10 ?_
  refine kv_idiv (pc := 3) dk_K_lump_3 kkn_10 ?_
  refine kv_letI (fun v1 => ?_)
  refine kv_istore (pc := 4) (lv' := [(4, .int v1), (0, .ref 0), (1, .int p1), (2, .int p2), (3, .int p3)]) rfl (Nat.le_of_ble_eq_true rfl) dk_K_lump_4 ?_
  refine kv_iload_n (pc := 6) 2 rfl rfl dk_K_lump_6 ?_
  refine kv_bipush (pc := 7) (v := (10 : Int32)) dk_K_lump_7 kkb_10 ?_
  refine kv_irem (pc := 9) dk_K_lump_9 kkn_10 ?_
  refine kv_letI (fun v2 => ?_)
  refine kv_istore (pc := 10) (lv' := [(5, .int v2), (4, .int v1), (0, .ref 0), (1, .int p1), (2, .int p2), (3, .int p3)]) rfl (Nat.le_of_ble_eq_true rfl) dk_K_lump_10 ?_
  refine kv_iload_n (pc := 12) 3 rfl rfl dk_K_lump_12 ?_
  refine kv_if_lt (pc := 13) (tgt := 30) dk_K_lump_13 rfl ?_ ?_
  · refine kv_iconst (pc := 30) (v := (-1 : Int32)) dk_K_lump_30 kki_m1 ?_
    exact kv_iret (pc := 31) (fun h => h) rfl dk_K_lump_31
  · refine kv_iload (pc := 16) 1 rfl dk_K_lump_16 ?_
    refine kv_bipush (pc := 18) (v := (7 : Int32)) dk_K_lump_18 kkb_7 ?_
    refine kv_icmp_gt (pc := 20) (tgt := 30) dk_K_lump_20 rfl ?_ ?_
    · refine kv_iconst (pc := 30) (v := (-1 : Int32)) dk_K_lump_30 kki_m1 ?_
      exact kv_iret (pc := 31) (fun h => h) rfl dk_K_lump_31
    · refine kv_iload (pc := 23) 0 rfl dk_K_lump_23 ?_
      refine kv_bipush (pc := 25) (v := (6 : Int32)) dk_K_lump_25 kkb_6 ?_
      refine kv_icmp_lt (pc := 27) (tgt := 32) dk_K_lump_27 rfl ?_ ?_
      · refine kv_iload_n (pc := 32) 4 rfl rfl dk_K_lump_32 ?_
        refine kv_bipush (pc := 33) (v := (-9 : Int32)) dk_K_lump_33 kkb_m9 ?_
        refine kv_bipush (pc := 35) (v := (9 : Int32)) dk_K_lump_35 kkb_9 ?_
        refine kv_cS_cZ (pc := 37) (as := [.int p2, .int (-9 : Int32), .int (9 : Int32)]) (st := []) ko_K_isWithin rfl kw_512 (Nat.le_of_ble_eq_true rfl) rfl dk_K_lump_37 (cx_K_isWithin d p2 (-9 : Int32) (9 : Int32) c y) (fun b3 => ?_)
        refine kv_zif_eq (pc := 40) (tgt := 56) dk_K_lump_40 rfl ?_ ?_
        · refine kv_iconst (pc := 56) (v := (-1 : Int32)) dk_K_lump_56 kki_m1 ?_
          exact kv_iret (pc := 57) (fun h => h) rfl dk_K_lump_57
        · refine kv_iload_n (pc := 43) 5 rfl rfl dk_K_lump_43 ?_
          refine kv_sipush (pc := 44) (v := (-9999 : Int32)) dk_K_lump_44 kks_m9999 ?_
          refine kv_sipush (pc := 47) (v := (9999 : Int32)) dk_K_lump_47 kks_9999 ?_
          refine kv_cS_cZ (pc := 50) (as := [.int p3, .int (-9999 : Int32), .int (9999 : Int32)]) (st := []) ko_K_isWithin rfl kw_512 (Nat.le_of_ble_eq_true rfl) rfl dk_K_lump_50 (cx_K_isWithin d p3 (-9999 : Int32) (9999 : Int32) c y) (fun b4 => ?_)
          refine kv_zif_ne (pc := 53) (tgt := 58) dk_K_lump_53 rfl ?_ ?_
          · refine kv_aload_n (pc := 58) 2 rfl rfl dk_K_lump_58 ?_
            refine kv_getR (pc := 59) kf_K_10 kr_0 rfl kt_0_0 dk_K_lump_59 ?_
            refine kv_getR (pc := 62) kf_K_58 kr_1 rfl kt_1_0 dk_K_lump_62 ?_
            refine kv_astore (pc := 65) (lv' := [(6, .ref 2), (5, .int v2), (4, .int v1), (0, .ref 0), (1, .int p1), (2, .int p2), (3, .int p3)]) rfl (Nat.le_of_ble_eq_true rfl) dk_K_lump_65 ?_
            refine kv_aload (pc := 67) 0 rfl dk_K_lump_67 ?_
            refine kv_getC (pc := 69) kf_K_62 kr_2 kn_2 rfl dk_K_lump_69 ?_
            refine kv_bipush (pc := 72) (v := (10 : Int32)) dk_K_lump_72 kkb_10 ?_
            refine kv_icmp_lt (pc := 74) (tgt := 80) dk_K_lump_74 rfl ?_ ?_
            · refine kv_iload (pc := 80) 2 rfl dk_K_lump_80 ?_
              refine kv_iconst (pc := 82) (v := (1 : Int32)) dk_K_lump_82 kki_1 ?_
              refine kv_cut_0 (J := fj_K_lump_97 v1 v2 p2 p3 c) (pcj := 97) (LJ := [(2, .int p2), (3, .int p3), (4, .int v1), (5, .int v2), (6, .ref 2)]) (SJ := []) (WJ := (c, y)) ?_ (fun hj97 => ?_)
              · show kv_X _ _ _ _ (fj_K_lump_97 v1 v2 p2 p3 c) 97 [(2, .int p2), (3, .int p3), (4, .int v1), (5, .int v2), (6, .ref 2)] [] (c, y)
                unfold fj_K_lump_97
                refine kv_aload (pc := 97) 4 rfl dk_K_lump_97 ?_
                refine kv_iload (pc := 99) 2 rfl dk_K_lump_99 ?_
                refine kv_iload (pc := 101) 3 rfl dk_K_lump_101 ?_
                refine kv_iload_n (pc := 103) 0 rfl rfl dk_K_lump_103 ?_
                refine kv_iload_n (pc := 104) 1 rfl rfl dk_K_lump_104 ?_
                refine kv_cV_cIc (pc := 105) (as := [.int v1, .int v2, .int p2, .int p3]) (st := []) ko_Lumps_add kc_3 rfl rfl kr_2 kw_519 (Nat.le_of_ble_eq_true rfl) rfl dk_K_lump_105 (cx_Lumps_add d v1 v2 p2 p3 c y) (fun v5 c6 => ?_)
                exact kv_iret (pc := 108) (fun h => h) rfl dk_K_lump_108
              refine kv_icmp_ne (pc := 83) (tgt := 97) dk_K_lump_83 rfl ?_ ?_
              · exact kv_sub [5, 6, 2, 1, 0] rfl (hj97)
              · refine kv_aload (pc := 86) 0 rfl dk_K_lump_86 ?_
                refine kv_cV_cI (pc := 88) (as := []) (st := []) ko_Lumps_primeAt kc_3 rfl rfl kr_2 kw_515 (Nat.le_of_ble_eq_true rfl) rfl dk_K_lump_88 (cx_Lumps_primeAt d c y) (fun v7 => ?_)
                refine kv_if_lt (pc := 91) (tgt := 97) dk_K_lump_91 rfl ?_ ?_
                · exact kv_sub [5, 6, 2, 1, 0] rfl (hj97)
                · refine kv_bipush (pc := 94) (v := (-3 : Int32)) dk_K_lump_94 kkb_m3 ?_
                  exact kv_iret (pc := 96) (fun h => h) rfl dk_K_lump_96
            · refine kv_bipush (pc := 77) (v := (-2 : Int32)) dk_K_lump_77 kkb_m2 ?_
              exact kv_iret (pc := 79) (fun h => h) rfl dk_K_lump_79
          · refine kv_iconst (pc := 56) (v := (-1 : Int32)) dk_K_lump_56 kki_m1 ?_
            exact kv_iret (pc := 57) (fun h => h) rfl dk_K_lump_57
      · refine kv_iconst (pc := 30) (v := (-1 : Int32)) dk_K_lump_30 kki_m1 ?_
        exact kv_iret (pc := 31) (fun h => h) rfl dk_K_lump_31
theorem dk_D_isIn_0 : decode prog_13_method_3_code 0 = .ok (.lload_n 0, 1) := by decide +kernel
theorem dk_D_isIn_1 : decode prog_13_method_3_code 1 = .ok (.lload_n 2, 1) := by decide +kernel
theorem dk_D_isIn_2 : decode prog_13_method_3_code 2 = .ok (.lcmp, 1) := by decide +kernel
theorem dk_D_isIn_3 : decode prog_13_method_3_code 3 = .ok (.ifCond .lt 14, 3) := by decide +kernel
theorem dk_D_isIn_6 : decode prog_13_method_3_code 6 = .ok (.lload_n 0, 1) := by decide +kernel
theorem dk_D_isIn_7 : decode prog_13_method_3_code 7 = .ok (.lload 4, 2) := by decide +kernel
theorem dk_D_isIn_9 : decode prog_13_method_3_code 9 = .ok (.lcmp, 1) := by decide +kernel
theorem dk_D_isIn_10 : decode prog_13_method_3_code 10 = .ok (.ifCond .gt 7, 3) := by decide +kernel
theorem dk_D_isIn_13 : decode prog_13_method_3_code 13 = .ok (.iconst 1, 1) := by decide +kernel
theorem dk_D_isIn_14 : decode prog_13_method_3_code 14 = .ok (.goto 4, 3) := by decide +kernel
theorem dk_D_isIn_17 : decode prog_13_method_3_code 17 = .ok (.iconst 0, 1) := by decide +kernel
theorem dk_D_isIn_18 : decode prog_13_method_3_code 18 = .ok (.ireturn, 1) := by decide +kernel
noncomputable def fx_D_isIn (p0 : Int64) (p2 : Int64) (p4 : Int64) : Option Bool :=
  if p0 < p2 then
    some false
  else
    if p4 < p0 then
      some false
    else
      some true
set_option maxRecDepth 20000 in
theorem cx_D_isIn (d : Nat) (p0 : Int64) (p2 : Int64) (p4 : Int64) (c : (Nat → Nat → Int32)) (m : (Nat → Nat → Int32)) (f : (Nat → Int64)) (u : (Nat → Int64)) : ∀ a, fx_D_isIn p0 p2 p4 = some a → kv_C kM_D_isIn (d + 0) [.long p0, .long p2, .long p4] (c, m, f, u) (some (.int (kv_b a)), (c, m, f, u)) := by
  refine kv_entryX (E := fun a : Bool => (some (.int (kv_b a)), (c, m, f, u))) rfl (Nat.le_of_ble_eq_true rfl) (fun o => ?_)
  unfold fx_D_isIn
  show kv_X _ _ _ _ _ 0 [(0, .long p0), (2, .long p2), (4, .long p4)] [] (c, m, f, u)
  refine kv_lload_n (pc := 0) 0 rfl rfl dk_D_isIn_0 ?_
  refine kv_lload_n (pc := 1) 1 rfl rfl dk_D_isIn_1 ?_
  refine kv_lcmp_lt (pc := 2) (tgt := 17) dk_D_isIn_2 dk_D_isIn_3 rfl ?_ ?_
  · refine kv_iconst (pc := 17) (v := (0 : Int32)) dk_D_isIn_17 kki_0 ?_
    exact kv_zret (pc := 18) (b := false) (fun h => h) rfl dk_D_isIn_18
  · refine kv_lload_n (pc := 6) 0 rfl rfl dk_D_isIn_6 ?_
    refine kv_lload (pc := 7) 2 rfl dk_D_isIn_7 ?_
    refine kv_lcmp_gt (pc := 9) (tgt := 17) dk_D_isIn_9 dk_D_isIn_10 rfl ?_ ?_
    · refine kv_iconst (pc := 17) (v := (0 : Int32)) dk_D_isIn_17 kki_0 ?_
      exact kv_zret (pc := 18) (b := false) (fun h => h) rfl dk_D_isIn_18
    · refine kv_iconst (pc := 13) (v := (1 : Int32)) dk_D_isIn_13 kki_1 ?_
      refine kv_goto (pc := 14) (tgt := 18) dk_D_isIn_14 rfl ?_
      exact kv_zret (pc := 18) (b := true) (fun h => h) rfl dk_D_isIn_18
theorem dk_D_get_0 : decode prog_13_method_7_code 0 = .ok (.aload_n 0, 1) := by decide +kernel
theorem dk_D_get_1 : decode prog_13_method_7_code 1 = .ok (.getfield 9, 3) := by decide +kernel
theorem dk_D_get_4 : decode prog_13_method_7_code 4 = .ok (.bipush 10, 2) := by decide +kernel
theorem dk_D_get_6 : decode prog_13_method_7_code 6 = .ok (.bipush 6, 2) := by decide +kernel
theorem dk_D_get_8 : decode prog_13_method_7_code 8 = .ok (.iload_n 1, 1) := by decide +kernel
theorem dk_D_get_9 : decode prog_13_method_7_code 9 = .ok (.imul, 1) := by decide +kernel
theorem dk_D_get_10 : decode prog_13_method_7_code 10 = .ok (.iadd, 1) := by decide +kernel
theorem dk_D_get_11 : decode prog_13_method_7_code 11 = .ok (.iload_n 2, 1) := by decide +kernel
theorem dk_D_get_12 : decode prog_13_method_7_code 12 = .ok (.iadd, 1) := by decide +kernel
theorem dk_D_get_13 : decode prog_13_method_7_code 13 = .ok (.iaload, 1) := by decide +kernel
theorem dk_D_get_14 : decode prog_13_method_7_code 14 = .ok (.ireturn, 1) := by decide +kernel
noncomputable def fx_D_get (p1 : Int32) (p2 : Int32) (m : (Nat → Nat → Int32)) : Option Int32 :=
  kv_gd (kv_in (((10 : Int32) + ((6 : Int32) * p1)) + p2) 444) (
  some (m 85 (((10 : Int32) + ((6 : Int32) * p1)) + p2).toNatClampNeg))
set_option maxRecDepth 20000 in
theorem cx_D_get (d : Nat) (p1 : Int32) (p2 : Int32) (c : (Nat → Nat → Int32)) (m : (Nat → Nat → Int32)) (f : (Nat → Int64)) (u : (Nat → Int64)) : ∀ a, fx_D_get p1 p2 m = some a → kv_C kM_D_get (d + 0) [.ref 84, .int p1, .int p2] (c, m, f, u) (some (.int a), (c, m, f, u)) := by
  refine kv_entryX (E := fun a : Int32 => (some (.int a), (c, m, f, u))) rfl (Nat.le_of_ble_eq_true rfl) (fun o => ?_)
  unfold fx_D_get
  show kv_X _ _ _ _ _ 0 [(0, .ref 84), (1, .int p1), (2, .int p2)] [] (c, m, f, u)
  refine kv_aload_n (pc := 0) 0 rfl rfl dk_D_get_0 ?_
  refine kv_getR (pc := 1) kf_D_9 kr_84 rfl kt_84_0 dk_D_get_1 ?_
  refine kv_bipush (pc := 4) (v := (10 : Int32)) dk_D_get_4 kkb_10 ?_
  refine kv_bipush (pc := 6) (v := (6 : Int32)) dk_D_get_6 kkb_6 ?_
  refine kv_iload_n (pc := 8) 1 rfl rfl dk_D_get_8 ?_
  refine kv_imul (pc := 9) dk_D_get_9 ?_
  refine kv_iadd (pc := 10) dk_D_get_10 ?_
  refine kv_iload_n (pc := 11) 2 rfl rfl dk_D_get_11 ?_
  refine kv_iadd (pc := 12) dk_D_get_12 ?_
  refine kv_guard (fun g1 => ?_)
  refine kv_aldM (pc := 13) kr_85 kn_85 kl_85 g1 rfl dk_D_get_13 ?_
  exact kv_iret (pc := 14) (fun h => h) rfl dk_D_get_14
theorem dk_D_primeOf_0 : decode prog_13_method_9_code 0 = .ok (.iconst 0, 1) := by decide +kernel
theorem dk_D_primeOf_1 : decode prog_13_method_9_code 1 = .ok (.istore_n 1, 1) := by decide +kernel
theorem dk_D_primeOf_2 : decode prog_13_method_9_code 2 = .ok (.iload_n 1, 1) := by decide +kernel
theorem dk_D_primeOf_3 : decode prog_13_method_9_code 3 = .ok (.aload_n 0, 1) := by decide +kernel
theorem dk_D_primeOf_4 : decode prog_13_method_9_code 4 = .ok (.getfield 9, 3) := by decide +kernel
theorem dk_D_primeOf_7 : decode prog_13_method_9_code 7 = .ok (.iconst 1, 1) := by decide +kernel
theorem dk_D_primeOf_8 : decode prog_13_method_9_code 8 = .ok (.iaload, 1) := by decide +kernel
theorem dk_D_primeOf_9 : decode prog_13_method_9_code 9 = .ok (.if_icmp .ge 21, 3) := by decide +kernel
theorem dk_D_primeOf_12 : decode prog_13_method_9_code 12 = .ok (.aload_n 0, 1) := by decide +kernel
theorem dk_D_primeOf_13 : decode prog_13_method_9_code 13 = .ok (.iload_n 1, 1) := by decide +kernel
theorem dk_D_primeOf_14 : decode prog_13_method_9_code 14 = .ok (.iconst 0, 1) := by decide +kernel
theorem dk_D_primeOf_15 : decode prog_13_method_9_code 15 = .ok (.invokevirtual 68, 3) := by decide +kernel
theorem dk_D_primeOf_18 : decode prog_13_method_9_code 18 = .ok (.iconst 1, 1) := by decide +kernel
theorem dk_D_primeOf_19 : decode prog_13_method_9_code 19 = .ok (.if_icmp .ne 5, 3) := by decide +kernel
theorem dk_D_primeOf_22 : decode prog_13_method_9_code 22 = .ok (.iload_n 1, 1) := by decide +kernel
theorem dk_D_primeOf_23 : decode prog_13_method_9_code 23 = .ok (.ireturn, 1) := by decide +kernel
theorem dk_D_primeOf_24 : decode prog_13_method_9_code 24 = .ok (.iinc 1 1, 3) := by decide +kernel
theorem dk_D_primeOf_27 : decode prog_13_method_9_code 27 = .ok (.goto (-25), 3) := by decide +kernel
theorem dk_D_primeOf_30 : decode prog_13_method_9_code 30 = .ok (.bipush (-4), 2) := by decide +kernel
theorem dk_D_primeOf_32 : decode prog_13_method_9_code 32 = .ok (.ireturn, 1) := by decide +kernel
noncomputable def fb_D_primeOf_2 (m : (Nat → Nat → Int32)) (x1 : Int32) : Option (Int32 ⊕ (Int32 ⊕ Unit)) :=
  if (m 85 1) ≤ x1 then
    some (.inr (.inr ()))
  else
    kv_bind1 (fx_D_get x1 (0 : Int32) m) (fun v3 =>
    if v3 = (1 : Int32) then
      some (.inr (.inl x1))
    else
      some (.inl (x1 + (1 : Int32))))
noncomputable def fx_D_primeOf (m : (Nat → Nat → Int32)) : Option Int32 :=
  (kv_loop (kv_u1 (fb_D_primeOf_2 m)) (0 : Int32)).bind (Sum.elim (kv_u1 (fun x2 =>
  some x2))
   (kv_u0 (
  some (-4 : Int32))))
set_option maxRecDepth 20000 in
theorem cx_D_primeOf (d : Nat) (c : (Nat → Nat → Int32)) (m : (Nat → Nat → Int32)) (f : (Nat → Int64)) (u : (Nat → Int64)) : ∀ a, fx_D_primeOf m = some a → kv_C kM_D_primeOf (d + 1) [.ref 84] (c, m, f, u) (some (.int a), (c, m, f, u)) := by
  refine kv_entryX (E := fun a : Int32 => (some (.int a), (c, m, f, u))) rfl (Nat.le_of_ble_eq_true rfl) (fun o => ?_)
  unfold fx_D_primeOf
  show kv_X _ _ _ _ _ 0 [(0, .ref 84)] [] (c, m, f, u)
  refine kv_iconst (pc := 0) (v := (0 : Int32)) dk_D_primeOf_0 kki_0 ?_
  refine kv_istore_n (pc := 1) (lv' := [(1, .int (0 : Int32)), (0, .ref 84)]) rfl (Nat.le_of_ble_eq_true rfl) rfl dk_D_primeOf_1 ?_
  refine kv_sub (lv' := [(0, .ref 84), (1, .int (0 : Int32))]) [1, 0] rfl ?_
  refine kv_lp_1_1_0 (LV := fun x1 => [(0, .ref 84), (1, .int x1)]) (WW := fun x1 => (c, m, f, u)) (LE1 := fun x2 => [(1, .int x2)]) (WE1 := fun x2 => (c, m, f, u)) (pe1 := 22) (LE2 := []) (WE2 := (c, m, f, u)) (pe2 := 30) ?_ ?_ ?_
  · intro x2
    show kv_X _ _ _ _ _ 22 [(1, .int x2)] [] (c, m, f, u)
    refine kv_iload_n (pc := 22) 0 rfl rfl dk_D_primeOf_22 ?_
    exact kv_iret (pc := 23) (fun h => h) rfl dk_D_primeOf_23
  · show kv_X _ _ _ _ _ 30 [] [] (c, m, f, u)
    refine kv_bipush (pc := 30) (v := (-4 : Int32)) dk_D_primeOf_30 kkb_m4 ?_
    exact kv_iret (pc := 32) (fun h => h) rfl dk_D_primeOf_32
  · intro hx2_0 hx2_1 x1
    show kv_X _ _ _ _ (fb_D_primeOf_2 m x1) 2 [(0, .ref 84), (1, .int x1)] [] (c, m, f, u)
    unfold fb_D_primeOf_2
    refine kv_iload_n (pc := 2) 1 rfl rfl dk_D_primeOf_2 ?_
    refine kv_aload_n (pc := 3) 0 rfl rfl dk_D_primeOf_3 ?_
    refine kv_getR (pc := 4) kf_D_9 kr_84 rfl kt_84_0 dk_D_primeOf_4 ?_
    refine kv_iconst (pc := 7) (v := (1 : Int32)) dk_D_primeOf_7 kki_1 ?_
    refine kv_aldM (pc := 8) kr_85 kn_85 kl_85 kkg_1_444 (j := 1) kkx_1 dk_D_primeOf_8 ?_
    refine kv_icmp_ge (pc := 9) (tgt := 30) dk_D_primeOf_9 rfl ?_ ?_
    · exact kv_sub [] rfl (kv_leaf (hx2_1))
    · refine kv_aload_n (pc := 12) 0 rfl rfl dk_D_primeOf_12 ?_
      refine kv_iload_n (pc := 13) 1 rfl rfl dk_D_primeOf_13 ?_
      refine kv_iconst (pc := 14) (v := (0 : Int32)) dk_D_primeOf_14 kki_0 ?_
      refine kv_cV_mI (pc := 15) (as := [.int x1, .int (0 : Int32)]) (st := []) ko_D_get kc_11 rfl rfl kr_84 kw_1341 (Nat.le_of_ble_eq_true rfl) rfl dk_D_primeOf_15 (cx_D_get d x1 (0 : Int32) c m f u) (fun v3 => ?_)
      refine kv_iconst (pc := 18) (v := (1 : Int32)) dk_D_primeOf_18 kki_1 ?_
      refine kv_icmp_ne (pc := 19) (tgt := 24) dk_D_primeOf_19 rfl ?_ ?_
      · refine kv_iinc (pc := 24) (kk := (1 : Int32)) (lv' := [(1, .int (x1 + (1 : Int32))), (0, .ref 84)]) 1 rfl kki_1 rfl (Nat.le_of_ble_eq_true rfl) dk_D_primeOf_24 ?_
        refine kv_goto (pc := 27) (tgt := 2) dk_D_primeOf_27 rfl ?_
        exact kv_sub [1, 0] rfl (kv_leaf (fun h => h))
      · exact kv_sub [1] rfl (kv_leaf (hx2_0 _))
theorem dk_D_lump_0 : decode prog_13_method_10_code 0 = .ok (.iload_n 1, 1) := by decide +kernel
theorem dk_D_lump_1 : decode prog_13_method_10_code 1 = .ok (.bipush 10, 2) := by decide +kernel
theorem dk_D_lump_3 : decode prog_13_method_10_code 3 = .ok (.idiv, 1) := by decide +kernel
theorem dk_D_lump_4 : decode prog_13_method_10_code 4 = .ok (.istore 4, 2) := by decide +kernel
theorem dk_D_lump_6 : decode prog_13_method_10_code 6 = .ok (.iload_n 1, 1) := by decide +kernel
theorem dk_D_lump_7 : decode prog_13_method_10_code 7 = .ok (.i2l, 1) := by decide +kernel
theorem dk_D_lump_8 : decode prog_13_method_10_code 8 = .ok (.lconst 0, 1) := by decide +kernel
theorem dk_D_lump_9 : decode prog_13_method_10_code 9 = .ok (.ldc2_w 72, 3) := by decide +kernel
theorem dk_D_lump_12 : decode prog_13_method_10_code 12 = .ok (.invokestatic 60, 3) := by decide +kernel
theorem dk_D_lump_15 : decode prog_13_method_10_code 15 = .ok (.ifCond .eq 39, 3) := by decide +kernel
theorem dk_D_lump_18 : decode prog_13_method_10_code 18 = .ok (.iload_n 1, 1) := by decide +kernel
theorem dk_D_lump_19 : decode prog_13_method_10_code 19 = .ok (.bipush 10, 2) := by decide +kernel
theorem dk_D_lump_21 : decode prog_13_method_10_code 21 = .ok (.irem, 1) := by decide +kernel
theorem dk_D_lump_22 : decode prog_13_method_10_code 22 = .ok (.iconst 5, 1) := by decide +kernel
theorem dk_D_lump_23 : decode prog_13_method_10_code 23 = .ok (.if_icmp .gt 31, 3) := by decide +kernel
theorem dk_D_lump_26 : decode prog_13_method_10_code 26 = .ok (.iload_n 2, 1) := by decide +kernel
theorem dk_D_lump_27 : decode prog_13_method_10_code 27 = .ok (.i2l, 1) := by decide +kernel
theorem dk_D_lump_28 : decode prog_13_method_10_code 28 = .ok (.ldc2_w 74, 3) := by decide +kernel
theorem dk_D_lump_31 : decode prog_13_method_10_code 31 = .ok (.ldc2_w 76, 3) := by decide +kernel
theorem dk_D_lump_34 : decode prog_13_method_10_code 34 = .ok (.invokestatic 60, 3) := by decide +kernel
theorem dk_D_lump_37 : decode prog_13_method_10_code 37 = .ok (.ifCond .eq 17, 3) := by decide +kernel
theorem dk_D_lump_40 : decode prog_13_method_10_code 40 = .ok (.iload_n 3, 1) := by decide +kernel
theorem dk_D_lump_41 : decode prog_13_method_10_code 41 = .ok (.i2l, 1) := by decide +kernel
theorem dk_D_lump_42 : decode prog_13_method_10_code 42 = .ok (.ldc2_w 78, 3) := by decide +kernel
theorem dk_D_lump_45 : decode prog_13_method_10_code 45 = .ok (.ldc2_w 80, 3) := by decide +kernel
theorem dk_D_lump_48 : decode prog_13_method_10_code 48 = .ok (.invokestatic 60, 3) := by decide +kernel
theorem dk_D_lump_51 : decode prog_13_method_10_code 51 = .ok (.ifCond .ne 5, 3) := by decide +kernel
theorem dk_D_lump_54 : decode prog_13_method_10_code 54 = .ok (.iconst (-1), 1) := by decide +kernel
theorem dk_D_lump_55 : decode prog_13_method_10_code 55 = .ok (.ireturn, 1) := by decide +kernel
theorem dk_D_lump_56 : decode prog_13_method_10_code 56 = .ok (.aload_n 0, 1) := by decide +kernel
theorem dk_D_lump_57 : decode prog_13_method_10_code 57 = .ok (.getfield 9, 3) := by decide +kernel
theorem dk_D_lump_60 : decode prog_13_method_10_code 60 = .ok (.iconst 1, 1) := by decide +kernel
theorem dk_D_lump_61 : decode prog_13_method_10_code 61 = .ok (.iaload, 1) := by decide +kernel
theorem dk_D_lump_62 : decode prog_13_method_10_code 62 = .ok (.bipush 10, 2) := by decide +kernel
theorem dk_D_lump_64 : decode prog_13_method_10_code 64 = .ok (.if_icmp .ne 6, 3) := by decide +kernel
theorem dk_D_lump_67 : decode prog_13_method_10_code 67 = .ok (.bipush (-2), 2) := by decide +kernel
theorem dk_D_lump_69 : decode prog_13_method_10_code 69 = .ok (.ireturn, 1) := by decide +kernel
theorem dk_D_lump_70 : decode prog_13_method_10_code 70 = .ok (.iload 4, 2) := by decide +kernel
theorem dk_D_lump_72 : decode prog_13_method_10_code 72 = .ok (.iconst 1, 1) := by decide +kernel
theorem dk_D_lump_73 : decode prog_13_method_10_code 73 = .ok (.if_icmp .ne 13, 3) := by decide +kernel
theorem dk_D_lump_76 : decode prog_13_method_10_code 76 = .ok (.aload_n 0, 1) := by decide +kernel
theorem dk_D_lump_77 : decode prog_13_method_10_code 77 = .ok (.invokevirtual 82, 3) := by decide +kernel
theorem dk_D_lump_80 : decode prog_13_method_10_code 80 = .ok (.ifCond .lt 6, 3) := by decide +kernel
theorem dk_D_lump_83 : decode prog_13_method_10_code 83 = .ok (.bipush (-3), 2) := by decide +kernel
theorem dk_D_lump_85 : decode prog_13_method_10_code 85 = .ok (.ireturn, 1) := by decide +kernel
theorem dk_D_lump_86 : decode prog_13_method_10_code 86 = .ok (.bipush 10, 2) := by decide +kernel
theorem dk_D_lump_88 : decode prog_13_method_10_code 88 = .ok (.bipush 6, 2) := by decide +kernel
theorem dk_D_lump_90 : decode prog_13_method_10_code 90 = .ok (.aload_n 0, 1) := by decide +kernel
theorem dk_D_lump_91 : decode prog_13_method_10_code 91 = .ok (.getfield 9, 3) := by decide +kernel
theorem dk_D_lump_94 : decode prog_13_method_10_code 94 = .ok (.iconst 1, 1) := by decide +kernel
theorem dk_D_lump_95 : decode prog_13_method_10_code 95 = .ok (.iaload, 1) := by decide +kernel
theorem dk_D_lump_96 : decode prog_13_method_10_code 96 = .ok (.imul, 1) := by decide +kernel
theorem dk_D_lump_97 : decode prog_13_method_10_code 97 = .ok (.iadd, 1) := by decide +kernel
theorem dk_D_lump_98 : decode prog_13_method_10_code 98 = .ok (.istore 5, 2) := by decide +kernel
theorem dk_D_lump_100 : decode prog_13_method_10_code 100 = .ok (.aload_n 0, 1) := by decide +kernel
theorem dk_D_lump_101 : decode prog_13_method_10_code 101 = .ok (.getfield 9, 3) := by decide +kernel
theorem dk_D_lump_104 : decode prog_13_method_10_code 104 = .ok (.iload 5, 2) := by decide +kernel
theorem dk_D_lump_106 : decode prog_13_method_10_code 106 = .ok (.iload 4, 2) := by decide +kernel
theorem dk_D_lump_108 : decode prog_13_method_10_code 108 = .ok (.iastore, 1) := by decide +kernel
theorem dk_D_lump_109 : decode prog_13_method_10_code 109 = .ok (.aload_n 0, 1) := by decide +kernel
theorem dk_D_lump_110 : decode prog_13_method_10_code 110 = .ok (.getfield 9, 3) := by decide +kernel
theorem dk_D_lump_113 : decode prog_13_method_10_code 113 = .ok (.iload 5, 2) := by decide +kernel
theorem dk_D_lump_115 : decode prog_13_method_10_code 115 = .ok (.iconst 1, 1) := by decide +kernel
theorem dk_D_lump_116 : decode prog_13_method_10_code 116 = .ok (.iadd, 1) := by decide +kernel
theorem dk_D_lump_117 : decode prog_13_method_10_code 117 = .ok (.iload_n 1, 1) := by decide +kernel
theorem dk_D_lump_118 : decode prog_13_method_10_code 118 = .ok (.bipush 10, 2) := by decide +kernel
theorem dk_D_lump_120 : decode prog_13_method_10_code 120 = .ok (.irem, 1) := by decide +kernel
theorem dk_D_lump_121 : decode prog_13_method_10_code 121 = .ok (.iastore, 1) := by decide +kernel
theorem dk_D_lump_122 : decode prog_13_method_10_code 122 = .ok (.aload_n 0, 1) := by decide +kernel
theorem dk_D_lump_123 : decode prog_13_method_10_code 123 = .ok (.getfield 9, 3) := by decide +kernel
theorem dk_D_lump_126 : decode prog_13_method_10_code 126 = .ok (.iload 5, 2) := by decide +kernel
theorem dk_D_lump_128 : decode prog_13_method_10_code 128 = .ok (.iconst 2, 1) := by decide +kernel
theorem dk_D_lump_129 : decode prog_13_method_10_code 129 = .ok (.iadd, 1) := by decide +kernel
theorem dk_D_lump_130 : decode prog_13_method_10_code 130 = .ok (.iload_n 2, 1) := by decide +kernel
theorem dk_D_lump_131 : decode prog_13_method_10_code 131 = .ok (.iastore, 1) := by decide +kernel
theorem dk_D_lump_132 : decode prog_13_method_10_code 132 = .ok (.aload_n 0, 1) := by decide +kernel
theorem dk_D_lump_133 : decode prog_13_method_10_code 133 = .ok (.getfield 9, 3) := by decide +kernel
theorem dk_D_lump_136 : decode prog_13_method_10_code 136 = .ok (.iload 5, 2) := by decide +kernel
theorem dk_D_lump_138 : decode prog_13_method_10_code 138 = .ok (.iconst 3, 1) := by decide +kernel
theorem dk_D_lump_139 : decode prog_13_method_10_code 139 = .ok (.iadd, 1) := by decide +kernel
theorem dk_D_lump_140 : decode prog_13_method_10_code 140 = .ok (.iload_n 3, 1) := by decide +kernel
theorem dk_D_lump_141 : decode prog_13_method_10_code 141 = .ok (.iastore, 1) := by decide +kernel
theorem dk_D_lump_142 : decode prog_13_method_10_code 142 = .ok (.aload_n 0, 1) := by decide +kernel
theorem dk_D_lump_143 : decode prog_13_method_10_code 143 = .ok (.getfield 9, 3) := by decide +kernel
theorem dk_D_lump_146 : decode prog_13_method_10_code 146 = .ok (.iload 5, 2) := by decide +kernel
theorem dk_D_lump_148 : decode prog_13_method_10_code 148 = .ok (.iconst 4, 1) := by decide +kernel
theorem dk_D_lump_149 : decode prog_13_method_10_code 149 = .ok (.iadd, 1) := by decide +kernel
theorem dk_D_lump_150 : decode prog_13_method_10_code 150 = .ok (.iconst 0, 1) := by decide +kernel
theorem dk_D_lump_151 : decode prog_13_method_10_code 151 = .ok (.iastore, 1) := by decide +kernel
theorem dk_D_lump_152 : decode prog_13_method_10_code 152 = .ok (.aload_n 0, 1) := by decide +kernel
theorem dk_D_lump_153 : decode prog_13_method_10_code 153 = .ok (.getfield 9, 3) := by decide +kernel
theorem dk_D_lump_156 : decode prog_13_method_10_code 156 = .ok (.iload 5, 2) := by decide +kernel
theorem dk_D_lump_158 : decode prog_13_method_10_code 158 = .ok (.iconst 5, 1) := by decide +kernel
theorem dk_D_lump_159 : decode prog_13_method_10_code 159 = .ok (.iadd, 1) := by decide +kernel
theorem dk_D_lump_160 : decode prog_13_method_10_code 160 = .ok (.iconst 0, 1) := by decide +kernel
theorem dk_D_lump_161 : decode prog_13_method_10_code 161 = .ok (.iastore, 1) := by decide +kernel
theorem dk_D_lump_162 : decode prog_13_method_10_code 162 = .ok (.aload_n 0, 1) := by decide +kernel
theorem dk_D_lump_163 : decode prog_13_method_10_code 163 = .ok (.getfield 9, 3) := by decide +kernel
theorem dk_D_lump_166 : decode prog_13_method_10_code 166 = .ok (.iconst 1, 1) := by decide +kernel
theorem dk_D_lump_167 : decode prog_13_method_10_code 167 = .ok (.dup2, 1) := by decide +kernel
theorem dk_D_lump_168 : decode prog_13_method_10_code 168 = .ok (.iaload, 1) := by decide +kernel
theorem dk_D_lump_169 : decode prog_13_method_10_code 169 = .ok (.iconst 1, 1) := by decide +kernel
theorem dk_D_lump_170 : decode prog_13_method_10_code 170 = .ok (.iadd, 1) := by decide +kernel
theorem dk_D_lump_171 : decode prog_13_method_10_code 171 = .ok (.iastore, 1) := by decide +kernel
theorem dk_D_lump_172 : decode prog_13_method_10_code 172 = .ok (.aload_n 0, 1) := by decide +kernel
theorem dk_D_lump_173 : decode prog_13_method_10_code 173 = .ok (.getfield 9, 3) := by decide +kernel
theorem dk_D_lump_176 : decode prog_13_method_10_code 176 = .ok (.iconst 1, 1) := by decide +kernel
theorem dk_D_lump_177 : decode prog_13_method_10_code 177 = .ok (.iaload, 1) := by decide +kernel
theorem dk_D_lump_178 : decode prog_13_method_10_code 178 = .ok (.iconst 1, 1) := by decide +kernel
theorem dk_D_lump_179 : decode prog_13_method_10_code 179 = .ok (.isub, 1) := by decide +kernel
theorem dk_D_lump_180 : decode prog_13_method_10_code 180 = .ok (.ireturn, 1) := by decide +kernel
noncomputable def fj_D_lump_86 (m : (Nat → Nat → Int32)) (v1 : Int32) (p1 : Int32) (p2 : Int32) (p3 : Int32) : Option (Int32 × (Nat → Nat → Int32)) :=
  kv_let ((10 : Int32) + ((6 : Int32) * (m 85 1))) (fun v5 =>
  kv_gd (kv_in v5 444) (
  kv_let (kv_st m 85 v5.toNatClampNeg v1) (fun m7 =>
  kv_gd (kv_in (v5 + (1 : Int32)) 444) (
  kv_let (kv_st m7 85 (v5 + (1 : Int32)).toNatClampNeg (p1 - p1 / (10 : Int32) * (10 : Int32))) (fun m9 =>
  kv_gd (kv_in (v5 + (2 : Int32)) 444) (
  kv_let (kv_st m9 85 (v5 + (2 : Int32)).toNatClampNeg p2) (fun m11 =>
  kv_gd (kv_in (v5 + (3 : Int32)) 444) (
  kv_let (kv_st m11 85 (v5 + (3 : Int32)).toNatClampNeg p3) (fun m13 =>
  kv_gd (kv_in (v5 + (4 : Int32)) 444) (
  kv_let (kv_st m13 85 (v5 + (4 : Int32)).toNatClampNeg (0 : Int32)) (fun m15 =>
  kv_gd (kv_in (v5 + (5 : Int32)) 444) (
  kv_let (kv_st m15 85 (v5 + (5 : Int32)).toNatClampNeg (0 : Int32)) (fun m17 =>
  kv_let (kv_st m17 85 1 ((m17 85 1) + (1 : Int32))) (fun m18 =>
  some (((m18 85 1) - (1 : Int32)), m18)))))))))))))))
noncomputable def fx_D_lump (p1 : Int32) (p2 : Int32) (p3 : Int32) (m : (Nat → Nat → Int32)) : Option (Int32 × (Nat → Nat → Int32)) :=
  kv_let (p1 / (10 : Int32)) (fun v1 =>
  kv_bind1 (fx_D_isIn p1.toInt64 (0 : Int64) (79 : Int64)) (fun b2 =>
  if b2 = true then
    if (5 : Int32) < (p1 - p1 / (10 : Int32) * (10 : Int32)) then
      some ((-1 : Int32), m)
    else
      kv_bind1 (fx_D_isIn p2.toInt64 (-9 : Int64) (9 : Int64)) (fun b3 =>
      if b3 = true then
        kv_bind1 (fx_D_isIn p3.toInt64 (-9999 : Int64) (9999 : Int64)) (fun b4 =>
        if b4 = true then
          if (m 85 1) = (10 : Int32) then
            some ((-2 : Int32), m)
          else
            if v1 = (1 : Int32) then
              kv_bind1 (fx_D_primeOf m) (fun v19 =>
              if v19 < 0 then
                fj_D_lump_86 m v1 p1 p2 p3
              else
                some ((-3 : Int32), m))
            else
              fj_D_lump_86 m v1 p1 p2 p3
        else
          some ((-1 : Int32), m))
      else
        some ((-1 : Int32), m))
  else
    some ((-1 : Int32), m)))
set_option maxRecDepth 20000 in
theorem cx_D_lump (d : Nat) (p1 : Int32) (p2 : Int32) (p3 : Int32) (c : (Nat → Nat → Int32)) (m : (Nat → Nat → Int32)) (f : (Nat → Int64)) (u : (Nat → Int64)) : ∀ a, fx_D_lump p1 p2 p3 m = some a → kv_C kM_D_lump (d + 2) [.ref 84, .int p1, .int p2, .int p3] (c, m, f, u) (some (.int a.1), (c, a.2, f, u)) := by
  refine kv_entryX (E := fun a : (Int32 × (Nat → Nat → Int32)) => (some (.int a.1), (c, a.2, f, u))) rfl (Nat.le_of_ble_eq_true rfl) (fun o => ?_)
  unfold fx_D_lump
  show kv_X _ _ _ _ _ 0 [(0, .ref 84), (1, .int p1), (2, .int p2), (3, .int p3)] [] (c, m, f, u)
  refine kv_iload_n (pc := 0) 1 rfl rfl dk_D_lump_0 ?_
  refine kv_bipush (pc := 1) (v := (10 : Int32)) dk_D_lump_1 kkb_10 ?_
  refine kv_idiv (pc := 3) dk_D_lump_3 kkn_10 ?_
  refine kv_letI (fun v1 => ?_)
  refine kv_istore (pc := 4) (lv' := [(4, .int v1), (0, .ref 84), (1, .int p1), (2, .int p2), (3, .int p3)]) rfl (Nat.le_of_ble_eq_true rfl) dk_D_lump_4 ?_
  refine kv_iload_n (pc := 6) 2 rfl rfl dk_D_lump_6 ?_
  refine kv_i2l (pc := 7) dk_D_lump_7 ?_
  refine kv_lconst (pc := 8) (v := (0 : Int64)) dk_D_lump_8 kkl_0 ?_
  refine kv_ldc2 (pc := 9) (v := (79 : Int64)) kw_1329 dk_D_lump_9 ?_
  refine kv_cS_mZ (pc := 12) (as := [.long p1.toInt64, .long (0 : Int64), .long (79 : Int64)]) (st := []) ko_D_isIn rfl kw_1330 (Nat.le_of_ble_eq_true rfl) rfl dk_D_lump_12 (cx_D_isIn (d + 1) p1.toInt64 (0 : Int64) (79 : Int64) c m f u) (fun b2 => ?_)
  refine kv_zif_eq (pc := 15) (tgt := 54) dk_D_lump_15 rfl ?_ ?_
  · refine kv_iconst (pc := 54) (v := (-1 : Int32)) dk_D_lump_54 kki_m1 ?_
    exact kv_iret (pc := 55) (fun h => h) rfl dk_D_lump_55
  · refine kv_iload_n (pc := 18) 2 rfl rfl dk_D_lump_18 ?_
    refine kv_bipush (pc := 19) (v := (10 : Int32)) dk_D_lump_19 kkb_10 ?_
    refine kv_irem (pc := 21) dk_D_lump_21 kkn_10 ?_
    refine kv_iconst (pc := 22) (v := (5 : Int32)) dk_D_lump_22 kki_5 ?_
    refine kv_icmp_gt (pc := 23) (tgt := 54) dk_D_lump_23 rfl ?_ ?_
    · refine kv_iconst (pc := 54) (v := (-1 : Int32)) dk_D_lump_54 kki_m1 ?_
      exact kv_iret (pc := 55) (fun h => h) rfl dk_D_lump_55
    · refine kv_iload_n (pc := 26) 3 rfl rfl dk_D_lump_26 ?_
      refine kv_i2l (pc := 27) dk_D_lump_27 ?_
      refine kv_ldc2 (pc := 28) (v := (-9 : Int64)) kw_1333 dk_D_lump_28 ?_
      refine kv_ldc2 (pc := 31) (v := (9 : Int64)) kw_1334 dk_D_lump_31 ?_
      refine kv_cS_mZ (pc := 34) (as := [.long p2.toInt64, .long (-9 : Int64), .long (9 : Int64)]) (st := []) ko_D_isIn rfl kw_1330 (Nat.le_of_ble_eq_true rfl) rfl dk_D_lump_34 (cx_D_isIn (d + 1) p2.toInt64 (-9 : Int64) (9 : Int64) c m f u) (fun b3 => ?_)
      refine kv_zif_eq (pc := 37) (tgt := 54) dk_D_lump_37 rfl ?_ ?_
      · refine kv_iconst (pc := 54) (v := (-1 : Int32)) dk_D_lump_54 kki_m1 ?_
        exact kv_iret (pc := 55) (fun h => h) rfl dk_D_lump_55
      · refine kv_iload_n (pc := 40) 4 rfl rfl dk_D_lump_40 ?_
        refine kv_i2l (pc := 41) dk_D_lump_41 ?_
        refine kv_ldc2 (pc := 42) (v := (-9999 : Int64)) kw_1335 dk_D_lump_42 ?_
        refine kv_ldc2 (pc := 45) (v := (9999 : Int64)) kw_1336 dk_D_lump_45 ?_
        refine kv_cS_mZ (pc := 48) (as := [.long p3.toInt64, .long (-9999 : Int64), .long (9999 : Int64)]) (st := []) ko_D_isIn rfl kw_1330 (Nat.le_of_ble_eq_true rfl) rfl dk_D_lump_48 (cx_D_isIn (d + 1) p3.toInt64 (-9999 : Int64) (9999 : Int64) c m f u) (fun b4 => ?_)
        refine kv_zif_ne (pc := 51) (tgt := 56) dk_D_lump_51 rfl ?_ ?_
        · refine kv_aload_n (pc := 56) 1 rfl rfl dk_D_lump_56 ?_
          refine kv_getR (pc := 57) kf_D_9 kr_84 rfl kt_84_0 dk_D_lump_57 ?_
          refine kv_iconst (pc := 60) (v := (1 : Int32)) dk_D_lump_60 kki_1 ?_
          refine kv_aldM (pc := 61) kr_85 kn_85 kl_85 kkg_1_444 (j := 1) kkx_1 dk_D_lump_61 ?_
          refine kv_bipush (pc := 62) (v := (10 : Int32)) dk_D_lump_62 kkb_10 ?_
          refine kv_icmp_ne (pc := 64) (tgt := 70) dk_D_lump_64 rfl ?_ ?_
          · refine kv_iload (pc := 70) 0 rfl dk_D_lump_70 ?_
            refine kv_iconst (pc := 72) (v := (1 : Int32)) dk_D_lump_72 kki_1 ?_
            refine kv_cut_0 (J := fj_D_lump_86 m v1 p1 p2 p3) (pcj := 86) (LJ := [(0, .ref 84), (1, .int p1), (2, .int p2), (3, .int p3), (4, .int v1)]) (SJ := []) (WJ := (c, m, f, u)) ?_ (fun hj86 => ?_)
            · show kv_X _ _ _ _ (fj_D_lump_86 m v1 p1 p2 p3) 86 [(0, .ref 84), (1, .int p1), (2, .int p2), (3, .int p3), (4, .int v1)] [] (c, m, f, u)
              unfold fj_D_lump_86
              refine kv_bipush (pc := 86) (v := (10 : Int32)) dk_D_lump_86 kkb_10 ?_
              refine kv_bipush (pc := 88) (v := (6 : Int32)) dk_D_lump_88 kkb_6 ?_
              refine kv_aload_n (pc := 90) 0 rfl rfl dk_D_lump_90 ?_
              refine kv_getR (pc := 91) kf_D_9 kr_84 rfl kt_84_0 dk_D_lump_91 ?_
              refine kv_iconst (pc := 94) (v := (1 : Int32)) dk_D_lump_94 kki_1 ?_
              refine kv_aldM (pc := 95) kr_85 kn_85 kl_85 kkg_1_444 (j := 1) kkx_1 dk_D_lump_95 ?_
              refine kv_imul (pc := 96) dk_D_lump_96 ?_
              refine kv_iadd (pc := 97) dk_D_lump_97 ?_
              refine kv_letI (fun v5 => ?_)
              refine kv_istore (pc := 98) (lv' := [(5, .int v5), (0, .ref 84), (1, .int p1), (2, .int p2), (3, .int p3), (4, .int v1)]) rfl (Nat.le_of_ble_eq_true rfl) dk_D_lump_98 ?_
              refine kv_aload_n (pc := 100) 1 rfl rfl dk_D_lump_100 ?_
              refine kv_getR (pc := 101) kf_D_9 kr_84 rfl kt_84_0 dk_D_lump_101 ?_
              refine kv_iload (pc := 104) 0 rfl dk_D_lump_104 ?_
              refine kv_iload (pc := 106) 5 rfl dk_D_lump_106 ?_
              refine kv_guard (fun g6 => ?_)
              refine kv_astM (pc := 108) kr_85 kn_85 kl_85 g6 rfl dk_D_lump_108 (fun m7 => ?_)
              refine kv_aload_n (pc := 109) 1 rfl rfl dk_D_lump_109 ?_
              refine kv_getR (pc := 110) kf_D_9 kr_84 rfl kt_84_0 dk_D_lump_110 ?_
              refine kv_iload (pc := 113) 0 rfl dk_D_lump_113 ?_
              refine kv_iconst (pc := 115) (v := (1 : Int32)) dk_D_lump_115 kki_1 ?_
              refine kv_iadd (pc := 116) dk_D_lump_116 ?_
              refine kv_iload_n (pc := 117) 2 rfl rfl dk_D_lump_117 ?_
              refine kv_bipush (pc := 118) (v := (10 : Int32)) dk_D_lump_118 kkb_10 ?_
              refine kv_irem (pc := 120) dk_D_lump_120 kkn_10 ?_
              refine kv_guard (fun g8 => ?_)
              refine kv_astM (pc := 121) kr_85 kn_85 kl_85 g8 rfl dk_D_lump_121 (fun m9 => ?_)
              refine kv_aload_n (pc := 122) 1 rfl rfl dk_D_lump_122 ?_
              refine kv_getR (pc := 123) kf_D_9 kr_84 rfl kt_84_0 dk_D_lump_123 ?_
              refine kv_iload (pc := 126) 0 rfl dk_D_lump_126 ?_
              refine kv_iconst (pc := 128) (v := (2 : Int32)) dk_D_lump_128 kki_2 ?_
              refine kv_iadd (pc := 129) dk_D_lump_129 ?_
              refine kv_iload_n (pc := 130) 3 rfl rfl dk_D_lump_130 ?_
              refine kv_guard (fun g10 => ?_)
              refine kv_astM (pc := 131) kr_85 kn_85 kl_85 g10 rfl dk_D_lump_131 (fun m11 => ?_)
              refine kv_aload_n (pc := 132) 1 rfl rfl dk_D_lump_132 ?_
              refine kv_getR (pc := 133) kf_D_9 kr_84 rfl kt_84_0 dk_D_lump_133 ?_
              refine kv_iload (pc := 136) 0 rfl dk_D_lump_136 ?_
              refine kv_iconst (pc := 138) (v := (3 : Int32)) dk_D_lump_138 kki_3 ?_
              refine kv_iadd (pc := 139) dk_D_lump_139 ?_
              refine kv_iload_n (pc := 140) 4 rfl rfl dk_D_lump_140 ?_
              refine kv_guard (fun g12 => ?_)
              refine kv_astM (pc := 141) kr_85 kn_85 kl_85 g12 rfl dk_D_lump_141 (fun m13 => ?_)
              refine kv_aload_n (pc := 142) 1 rfl rfl dk_D_lump_142 ?_
              refine kv_getR (pc := 143) kf_D_9 kr_84 rfl kt_84_0 dk_D_lump_143 ?_
              refine kv_iload (pc := 146) 0 rfl dk_D_lump_146 ?_
              refine kv_iconst (pc := 148) (v := (4 : Int32)) dk_D_lump_148 kki_4 ?_
              refine kv_iadd (pc := 149) dk_D_lump_149 ?_
              refine kv_iconst (pc := 150) (v := (0 : Int32)) dk_D_lump_150 kki_0 ?_
              refine kv_guard (fun g14 => ?_)
              refine kv_astM (pc := 151) kr_85 kn_85 kl_85 g14 rfl dk_D_lump_151 (fun m15 => ?_)
              refine kv_aload_n (pc := 152) 1 rfl rfl dk_D_lump_152 ?_
              refine kv_getR (pc := 153) kf_D_9 kr_84 rfl kt_84_0 dk_D_lump_153 ?_
              refine kv_iload (pc := 156) 0 rfl dk_D_lump_156 ?_
              refine kv_iconst (pc := 158) (v := (5 : Int32)) dk_D_lump_158 kki_5 ?_
              refine kv_iadd (pc := 159) dk_D_lump_159 ?_
              refine kv_iconst (pc := 160) (v := (0 : Int32)) dk_D_lump_160 kki_0 ?_
              refine kv_guard (fun g16 => ?_)
              refine kv_astM (pc := 161) kr_85 kn_85 kl_85 g16 rfl dk_D_lump_161 (fun m17 => ?_)
              refine kv_aload_n (pc := 162) 1 rfl rfl dk_D_lump_162 ?_
              refine kv_getR (pc := 163) kf_D_9 kr_84 rfl kt_84_0 dk_D_lump_163 ?_
              refine kv_iconst (pc := 166) (v := (1 : Int32)) dk_D_lump_166 kki_1 ?_
              refine kv_dup2RI (pc := 167) dk_D_lump_167 ?_
              refine kv_aldM (pc := 168) kr_85 kn_85 kl_85 kkg_1_444 (j := 1) kkx_1 dk_D_lump_168 ?_
              refine kv_iconst (pc := 169) (v := (1 : Int32)) dk_D_lump_169 kki_1 ?_
              refine kv_iadd (pc := 170) dk_D_lump_170 ?_
              refine kv_astM (pc := 171) kr_85 kn_85 kl_85 kkg_1_444 (j := 1) kkx_1 dk_D_lump_171 (fun m18 => ?_)
              refine kv_aload_n (pc := 172) 1 rfl rfl dk_D_lump_172 ?_
              refine kv_getR (pc := 173) kf_D_9 kr_84 rfl kt_84_0 dk_D_lump_173 ?_
              refine kv_iconst (pc := 176) (v := (1 : Int32)) dk_D_lump_176 kki_1 ?_
              refine kv_aldM (pc := 177) kr_85 kn_85 kl_85 kkg_1_444 (j := 1) kkx_1 dk_D_lump_177 ?_
              refine kv_iconst (pc := 178) (v := (1 : Int32)) dk_D_lump_178 kki_1 ?_
              refine kv_isub (pc := 179) dk_D_lump_179 ?_
              exact kv_iret (pc := 180) (fun h => h) rfl dk_D_lump_180
            refine kv_icmp_ne (pc := 73) (tgt := 86) dk_D_lump_73 rfl ?_ ?_
            · exact kv_sub [1, 2, 3, 4, 0] rfl (hj86)
            · refine kv_aload_n (pc := 76) 1 rfl rfl dk_D_lump_76 ?_
              refine kv_cV_mI (pc := 77) (as := []) (st := []) ko_D_primeOf kc_11 rfl rfl kr_84 kw_1337 (Nat.le_of_ble_eq_true rfl) rfl dk_D_lump_77 (cx_D_primeOf d c m f u) (fun v19 => ?_)
              refine kv_if_lt (pc := 80) (tgt := 86) dk_D_lump_80 rfl ?_ ?_
              · exact kv_sub [1, 2, 3, 4, 0] rfl (hj86)
              · refine kv_bipush (pc := 83) (v := (-3 : Int32)) dk_D_lump_83 kkb_m3 ?_
                exact kv_iret (pc := 85) (fun h => h) rfl dk_D_lump_85
          · refine kv_bipush (pc := 67) (v := (-2 : Int32)) dk_D_lump_67 kkb_m2 ?_
            exact kv_iret (pc := 69) (fun h => h) rfl dk_D_lump_69
        · refine kv_iconst (pc := 54) (v := (-1 : Int32)) dk_D_lump_54 kki_m1 ?_
          exact kv_iret (pc := 55) (fun h => h) rfl dk_D_lump_55
theorem dk_K_exchange_0 : decode prog_1_method_45_code 0 = .ok (.iload_n 1, 1) := by decide +kernel
theorem dk_K_exchange_1 : decode prog_1_method_45_code 1 = .ok (.iconst 0, 1) := by decide +kernel
theorem dk_K_exchange_2 : decode prog_1_method_45_code 2 = .ok (.aload_n 0, 1) := by decide +kernel
theorem dk_K_exchange_3 : decode prog_1_method_45_code 3 = .ok (.arraylength, 1) := by decide +kernel
theorem dk_K_exchange_4 : decode prog_1_method_45_code 4 = .ok (.iconst 1, 1) := by decide +kernel
theorem dk_K_exchange_5 : decode prog_1_method_45_code 5 = .ok (.isub, 1) := by decide +kernel
theorem dk_K_exchange_6 : decode prog_1_method_45_code 6 = .ok (.invokestatic 54, 3) := by decide +kernel
theorem dk_K_exchange_9 : decode prog_1_method_45_code 9 = .ok (.ifCond .ne 6, 3) := by decide +kernel
theorem dk_K_exchange_12 : decode prog_1_method_45_code 12 = .ok (.ldc 84, 2) := by decide +kernel
theorem dk_K_exchange_14 : decode prog_1_method_45_code 14 = .ok (.ireturn, 1) := by decide +kernel
theorem dk_K_exchange_15 : decode prog_1_method_45_code 15 = .ok (.aload_n 0, 1) := by decide +kernel
theorem dk_K_exchange_16 : decode prog_1_method_45_code 16 = .ok (.iload_n 1, 1) := by decide +kernel
theorem dk_K_exchange_17 : decode prog_1_method_45_code 17 = .ok (.iaload, 1) := by decide +kernel
theorem dk_K_exchange_18 : decode prog_1_method_45_code 18 = .ok (.istore_n 3, 1) := by decide +kernel
theorem dk_K_exchange_19 : decode prog_1_method_45_code 19 = .ok (.aload_n 0, 1) := by decide +kernel
theorem dk_K_exchange_20 : decode prog_1_method_45_code 20 = .ok (.iload_n 1, 1) := by decide +kernel
theorem dk_K_exchange_21 : decode prog_1_method_45_code 21 = .ok (.iload_n 2, 1) := by decide +kernel
theorem dk_K_exchange_22 : decode prog_1_method_45_code 22 = .ok (.iastore, 1) := by decide +kernel
theorem dk_K_exchange_23 : decode prog_1_method_45_code 23 = .ok (.iload_n 3, 1) := by decide +kernel
theorem dk_K_exchange_24 : decode prog_1_method_45_code 24 = .ok (.ireturn, 1) := by decide +kernel
noncomputable def fx_K_exchange (p1 : Int32) (p2 : Int32) (c : (Nat → Nat → Int32)) : Option (Int32 × (Nat → Nat → Int32)) :=
  kv_bind1 (fx_K_isWithin p1 (0 : Int32) ((6 : Int32) - (1 : Int32))) (fun b1 =>
  if b1 = true then
    kv_gd (kv_in p1 6) (
    kv_let (c 9 p1.toNatClampNeg) (fun v3 =>
    kv_let (kv_st c 9 p1.toNatClampNeg p2) (fun c4 =>
    some (v3, c4))))
  else
    some ((-1000000001 : Int32), c))
set_option maxRecDepth 20000 in
theorem cx_K_exchange (d : Nat) (p1 : Int32) (p2 : Int32) (c : (Nat → Nat → Int32)) (y : (Nat → Nat → Int32) × (Nat → Int64) × (Nat → Int64)) : ∀ a, fx_K_exchange p1 p2 c = some a → kv_C kM_K_exchange (d + 1) [.ref 9, .int p1, .int p2] (c, y) (some (.int a.1), (a.2, y)) := by
  refine kv_entryX (E := fun a : (Int32 × (Nat → Nat → Int32)) => (some (.int a.1), (a.2, y))) rfl (Nat.le_of_ble_eq_true rfl) (fun o => ?_)
  unfold fx_K_exchange
  show kv_X _ _ _ _ _ 0 [(0, .ref 9), (1, .int p1), (2, .int p2)] [] (c, y)
  refine kv_iload_n (pc := 0) 1 rfl rfl dk_K_exchange_0 ?_
  refine kv_iconst (pc := 1) (v := (0 : Int32)) dk_K_exchange_1 kki_0 ?_
  refine kv_aload_n (pc := 2) 0 rfl rfl dk_K_exchange_2 ?_
  refine kv_alen (pc := 3) kr_9 kl_9 (v := (6 : Int32)) (by decide) dk_K_exchange_3 ?_
  refine kv_iconst (pc := 4) (v := (1 : Int32)) dk_K_exchange_4 kki_1 ?_
  refine kv_isub (pc := 5) dk_K_exchange_5 ?_
  refine kv_cS_cZ (pc := 6) (as := [.int p1, .int (0 : Int32), .int ((6 : Int32) - (1 : Int32))]) (st := []) ko_K_isWithin rfl kw_512 (Nat.le_of_ble_eq_true rfl) rfl dk_K_exchange_6 (cx_K_isWithin d p1 (0 : Int32) ((6 : Int32) - (1 : Int32)) c y) (fun b1 => ?_)
  refine kv_zif_ne (pc := 9) (tgt := 15) dk_K_exchange_9 rfl ?_ ?_
  · refine kv_aload_n (pc := 15) 0 rfl rfl dk_K_exchange_15 ?_
    refine kv_iload_n (pc := 16) 1 rfl rfl dk_K_exchange_16 ?_
    refine kv_guard (fun g2 => ?_)
    refine kv_aldC (pc := 17) kr_9 kn_9 kl_9 g2 rfl dk_K_exchange_17 ?_
    refine kv_letI (fun v3 => ?_)
    refine kv_istore_n (pc := 18) (lv' := [(3, .int v3), (0, .ref 9), (1, .int p1), (2, .int p2)]) rfl (Nat.le_of_ble_eq_true rfl) rfl dk_K_exchange_18 ?_
    refine kv_aload_n (pc := 19) 1 rfl rfl dk_K_exchange_19 ?_
    refine kv_iload_n (pc := 20) 2 rfl rfl dk_K_exchange_20 ?_
    refine kv_iload_n (pc := 21) 3 rfl rfl dk_K_exchange_21 ?_
    refine kv_astC (pc := 22) kr_9 kn_9 kl_9 g2 rfl dk_K_exchange_22 (fun c4 => ?_)
    refine kv_iload_n (pc := 23) 0 rfl rfl dk_K_exchange_23 ?_
    exact kv_iret (pc := 24) (fun h => h) rfl dk_K_exchange_24
  · refine kv_ldc (pc := 12) (v := (-1000000001 : Int32)) kw_530 dk_K_exchange_12 ?_
    exact kv_iret (pc := 14) (fun h => h) rfl dk_K_exchange_14
noncomputable def fx_K_exchange_25 (p1 : Int32) (p2 : Int32) (c : (Nat → Nat → Int32)) : Option (Int32 × (Nat → Nat → Int32)) :=
  kv_bind1 (fx_K_isWithin p1 (0 : Int32) ((4 : Int32) - (1 : Int32))) (fun b1 =>
  if b1 = true then
    kv_gd (kv_in p1 4) (
    kv_let (c 25 p1.toNatClampNeg) (fun v3 =>
    kv_let (kv_st c 25 p1.toNatClampNeg p2) (fun c4 =>
    some (v3, c4))))
  else
    some ((-1000000001 : Int32), c))
set_option maxRecDepth 20000 in
theorem cx_K_exchange_25 (d : Nat) (p1 : Int32) (p2 : Int32) (c : (Nat → Nat → Int32)) (y : (Nat → Nat → Int32) × (Nat → Int64) × (Nat → Int64)) : ∀ a, fx_K_exchange_25 p1 p2 c = some a → kv_C kM_K_exchange (d + 1) [.ref 25, .int p1, .int p2] (c, y) (some (.int a.1), (a.2, y)) := by
  refine kv_entryX (E := fun a : (Int32 × (Nat → Nat → Int32)) => (some (.int a.1), (a.2, y))) rfl (Nat.le_of_ble_eq_true rfl) (fun o => ?_)
  unfold fx_K_exchange_25
  show kv_X _ _ _ _ _ 0 [(0, .ref 25), (1, .int p1), (2, .int p2)] [] (c, y)
  refine kv_iload_n (pc := 0) 1 rfl rfl dk_K_exchange_0 ?_
  refine kv_iconst (pc := 1) (v := (0 : Int32)) dk_K_exchange_1 kki_0 ?_
  refine kv_aload_n (pc := 2) 0 rfl rfl dk_K_exchange_2 ?_
  refine kv_alen (pc := 3) kr_25 kl_25 (v := (4 : Int32)) (by decide) dk_K_exchange_3 ?_
  refine kv_iconst (pc := 4) (v := (1 : Int32)) dk_K_exchange_4 kki_1 ?_
  refine kv_isub (pc := 5) dk_K_exchange_5 ?_
  refine kv_cS_cZ (pc := 6) (as := [.int p1, .int (0 : Int32), .int ((4 : Int32) - (1 : Int32))]) (st := []) ko_K_isWithin rfl kw_512 (Nat.le_of_ble_eq_true rfl) rfl dk_K_exchange_6 (cx_K_isWithin d p1 (0 : Int32) ((4 : Int32) - (1 : Int32)) c y) (fun b1 => ?_)
  refine kv_zif_ne (pc := 9) (tgt := 15) dk_K_exchange_9 rfl ?_ ?_
  · refine kv_aload_n (pc := 15) 0 rfl rfl dk_K_exchange_15 ?_
    refine kv_iload_n (pc := 16) 1 rfl rfl dk_K_exchange_16 ?_
    refine kv_guard (fun g2 => ?_)
    refine kv_aldC (pc := 17) kr_25 kn_25 kl_25 g2 rfl dk_K_exchange_17 ?_
    refine kv_letI (fun v3 => ?_)
    refine kv_istore_n (pc := 18) (lv' := [(3, .int v3), (0, .ref 25), (1, .int p1), (2, .int p2)]) rfl (Nat.le_of_ble_eq_true rfl) rfl dk_K_exchange_18 ?_
    refine kv_aload_n (pc := 19) 1 rfl rfl dk_K_exchange_19 ?_
    refine kv_iload_n (pc := 20) 2 rfl rfl dk_K_exchange_20 ?_
    refine kv_iload_n (pc := 21) 3 rfl rfl dk_K_exchange_21 ?_
    refine kv_astC (pc := 22) kr_25 kn_25 kl_25 g2 rfl dk_K_exchange_22 (fun c4 => ?_)
    refine kv_iload_n (pc := 23) 0 rfl rfl dk_K_exchange_23 ?_
    exact kv_iret (pc := 24) (fun h => h) rfl dk_K_exchange_24
  · refine kv_ldc (pc := 12) (v := (-1000000001 : Int32)) kw_530 dk_K_exchange_12 ?_
    exact kv_iret (pc := 14) (fun h => h) rfl dk_K_exchange_14
theorem dk_State_exchangeLow_0 : decode prog_10_method_2_code 0 = .ok (.aload_n 0, 1) := by decide +kernel
theorem dk_State_exchangeLow_1 : decode prog_10_method_2_code 1 = .ok (.getfield 47, 3) := by decide +kernel
theorem dk_State_exchangeLow_4 : decode prog_10_method_2_code 4 = .ok (.istore_n 2, 1) := by decide +kernel
theorem dk_State_exchangeLow_5 : decode prog_10_method_2_code 5 = .ok (.aload_n 0, 1) := by decide +kernel
theorem dk_State_exchangeLow_6 : decode prog_10_method_2_code 6 = .ok (.iload_n 1, 1) := by decide +kernel
theorem dk_State_exchangeLow_7 : decode prog_10_method_2_code 7 = .ok (.putfield 47, 3) := by decide +kernel
theorem dk_State_exchangeLow_10 : decode prog_10_method_2_code 10 = .ok (.iload_n 2, 1) := by decide +kernel
theorem dk_State_exchangeLow_11 : decode prog_10_method_2_code 11 = .ok (.ireturn, 1) := by decide +kernel
noncomputable def fx_State_exchangeLow (p1 : Int32) (c : (Nat → Nat → Int32)) : Option (Int32 × (Nat → Nat → Int32)) :=
  kv_let (c 1 7) (fun v1 =>
  kv_let (kv_st c 1 7 p1) (fun c2 =>
  some (v1, c2)))
set_option maxRecDepth 20000 in
theorem cx_State_exchangeLow (d : Nat) (p1 : Int32) (c : (Nat → Nat → Int32)) (y : (Nat → Nat → Int32) × (Nat → Int64) × (Nat → Int64)) : ∀ a, fx_State_exchangeLow p1 c = some a → kv_C kM_State_exchangeLow (d + 0) [.ref 1, .int p1] (c, y) (some (.int a.1), (a.2, y)) := by
  refine kv_entryX (E := fun a : (Int32 × (Nat → Nat → Int32)) => (some (.int a.1), (a.2, y))) rfl (Nat.le_of_ble_eq_true rfl) (fun o => ?_)
  unfold fx_State_exchangeLow
  show kv_X _ _ _ _ _ 0 [(0, .ref 1), (1, .int p1)] [] (c, y)
  refine kv_aload_n (pc := 0) 0 rfl rfl dk_State_exchangeLow_0 ?_
  refine kv_getC (pc := 1) kf_State_47 kr_1 kn_1 rfl dk_State_exchangeLow_1 ?_
  refine kv_letI (fun v1 => ?_)
  refine kv_istore_n (pc := 4) (lv' := [(2, .int v1), (0, .ref 1), (1, .int p1)]) rfl (Nat.le_of_ble_eq_true rfl) rfl dk_State_exchangeLow_4 ?_
  refine kv_aload_n (pc := 5) 1 rfl rfl dk_State_exchangeLow_5 ?_
  refine kv_iload_n (pc := 6) 2 rfl rfl dk_State_exchangeLow_6 ?_
  refine kv_putC (pc := 7) kf_State_47 kr_1 kn_1 rfl rfl rfl dk_State_exchangeLow_7 (fun c2 => ?_)
  refine kv_iload_n (pc := 10) 0 rfl rfl dk_State_exchangeLow_10 ?_
  exact kv_iret (pc := 11) (fun h => h) rfl dk_State_exchangeLow_11
theorem dk_State_exchangeHigh_0 : decode prog_10_method_3_code 0 = .ok (.aload_n 0, 1) := by decide +kernel
theorem dk_State_exchangeHigh_1 : decode prog_10_method_3_code 1 = .ok (.getfield 50, 3) := by decide +kernel
theorem dk_State_exchangeHigh_4 : decode prog_10_method_3_code 4 = .ok (.istore_n 2, 1) := by decide +kernel
theorem dk_State_exchangeHigh_5 : decode prog_10_method_3_code 5 = .ok (.aload_n 0, 1) := by decide +kernel
theorem dk_State_exchangeHigh_6 : decode prog_10_method_3_code 6 = .ok (.iload_n 1, 1) := by decide +kernel
theorem dk_State_exchangeHigh_7 : decode prog_10_method_3_code 7 = .ok (.putfield 50, 3) := by decide +kernel
theorem dk_State_exchangeHigh_10 : decode prog_10_method_3_code 10 = .ok (.iload_n 2, 1) := by decide +kernel
theorem dk_State_exchangeHigh_11 : decode prog_10_method_3_code 11 = .ok (.ireturn, 1) := by decide +kernel
noncomputable def fx_State_exchangeHigh (p1 : Int32) (c : (Nat → Nat → Int32)) : Option (Int32 × (Nat → Nat → Int32)) :=
  kv_let (c 1 8) (fun v1 =>
  kv_let (kv_st c 1 8 p1) (fun c2 =>
  some (v1, c2)))
set_option maxRecDepth 20000 in
theorem cx_State_exchangeHigh (d : Nat) (p1 : Int32) (c : (Nat → Nat → Int32)) (y : (Nat → Nat → Int32) × (Nat → Int64) × (Nat → Int64)) : ∀ a, fx_State_exchangeHigh p1 c = some a → kv_C kM_State_exchangeHigh (d + 0) [.ref 1, .int p1] (c, y) (some (.int a.1), (a.2, y)) := by
  refine kv_entryX (E := fun a : (Int32 × (Nat → Nat → Int32)) => (some (.int a.1), (a.2, y))) rfl (Nat.le_of_ble_eq_true rfl) (fun o => ?_)
  unfold fx_State_exchangeHigh
  show kv_X _ _ _ _ _ 0 [(0, .ref 1), (1, .int p1)] [] (c, y)
  refine kv_aload_n (pc := 0) 0 rfl rfl dk_State_exchangeHigh_0 ?_
  refine kv_getC (pc := 1) kf_State_50 kr_1 kn_1 rfl dk_State_exchangeHigh_1 ?_
  refine kv_letI (fun v1 => ?_)
  refine kv_istore_n (pc := 4) (lv' := [(2, .int v1), (0, .ref 1), (1, .int p1)]) rfl (Nat.le_of_ble_eq_true rfl) rfl dk_State_exchangeHigh_4 ?_
  refine kv_aload_n (pc := 5) 1 rfl rfl dk_State_exchangeHigh_5 ?_
  refine kv_iload_n (pc := 6) 2 rfl rfl dk_State_exchangeHigh_6 ?_
  refine kv_putC (pc := 7) kf_State_50 kr_1 kn_1 rfl rfl rfl dk_State_exchangeHigh_7 (fun c2 => ?_)
  refine kv_iload_n (pc := 10) 0 rfl rfl dk_State_exchangeHigh_10 ?_
  exact kv_iret (pc := 11) (fun h => h) rfl dk_State_exchangeHigh_11
theorem dk_K_set_0 : decode prog_1_method_3_code 0 = .ok (.iload_n 1, 1) := by decide +kernel
theorem dk_K_set_1 : decode prog_1_method_3_code 1 = .ok (.tableswitch 158 0 3 #[31, 62, 90, 124], 31) := by decide +kernel
theorem dk_K_set_32 : decode prog_1_method_3_code 32 = .ok (.iload_n 3, 1) := by decide +kernel
theorem dk_K_set_33 : decode prog_1_method_3_code 33 = .ok (.iconst 0, 1) := by decide +kernel
theorem dk_K_set_34 : decode prog_1_method_3_code 34 = .ok (.bipush 9, 2) := by decide +kernel
theorem dk_K_set_36 : decode prog_1_method_3_code 36 = .ok (.invokestatic 54, 3) := by decide +kernel
theorem dk_K_set_39 : decode prog_1_method_3_code 39 = .ok (.ifCond .eq 21, 3) := by decide +kernel
theorem dk_K_set_42 : decode prog_1_method_3_code 42 = .ok (.aload_n 0, 1) := by decide +kernel
theorem dk_K_set_43 : decode prog_1_method_3_code 43 = .ok (.getfield 10, 3) := by decide +kernel
theorem dk_K_set_46 : decode prog_1_method_3_code 46 = .ok (.getfield 58, 3) := by decide +kernel
theorem dk_K_set_49 : decode prog_1_method_3_code 49 = .ok (.getfield 76, 3) := by decide +kernel
theorem dk_K_set_52 : decode prog_1_method_3_code 52 = .ok (.iload_n 2, 1) := by decide +kernel
theorem dk_K_set_53 : decode prog_1_method_3_code 53 = .ok (.iload_n 3, 1) := by decide +kernel
theorem dk_K_set_54 : decode prog_1_method_3_code 54 = .ok (.invokestatic 80, 3) := by decide +kernel
theorem dk_K_set_57 : decode prog_1_method_3_code 57 = .ok (.goto 5, 3) := by decide +kernel
theorem dk_K_set_60 : decode prog_1_method_3_code 60 = .ok (.ldc 84, 2) := by decide +kernel
theorem dk_K_set_62 : decode prog_1_method_3_code 62 = .ok (.ireturn, 1) := by decide +kernel
theorem dk_K_set_63 : decode prog_1_method_3_code 63 = .ok (.iload_n 3, 1) := by decide +kernel
theorem dk_K_set_64 : decode prog_1_method_3_code 64 = .ok (.iconst 0, 1) := by decide +kernel
theorem dk_K_set_65 : decode prog_1_method_3_code 65 = .ok (.bipush 99, 2) := by decide +kernel
theorem dk_K_set_67 : decode prog_1_method_3_code 67 = .ok (.invokestatic 54, 3) := by decide +kernel
theorem dk_K_set_70 : decode prog_1_method_3_code 70 = .ok (.ifCond .eq 18, 3) := by decide +kernel
theorem dk_K_set_73 : decode prog_1_method_3_code 73 = .ok (.aload_n 0, 1) := by decide +kernel
theorem dk_K_set_74 : decode prog_1_method_3_code 74 = .ok (.getfield 10, 3) := by decide +kernel
theorem dk_K_set_77 : decode prog_1_method_3_code 77 = .ok (.getfield 85, 3) := by decide +kernel
theorem dk_K_set_80 : decode prog_1_method_3_code 80 = .ok (.iload_n 2, 1) := by decide +kernel
theorem dk_K_set_81 : decode prog_1_method_3_code 81 = .ok (.iload_n 3, 1) := by decide +kernel
theorem dk_K_set_82 : decode prog_1_method_3_code 82 = .ok (.invokestatic 80, 3) := by decide +kernel
theorem dk_K_set_85 : decode prog_1_method_3_code 85 = .ok (.goto 5, 3) := by decide +kernel
theorem dk_K_set_88 : decode prog_1_method_3_code 88 = .ok (.ldc 84, 2) := by decide +kernel
theorem dk_K_set_90 : decode prog_1_method_3_code 90 = .ok (.ireturn, 1) := by decide +kernel
theorem dk_K_set_91 : decode prog_1_method_3_code 91 = .ok (.iload_n 2, 1) := by decide +kernel
theorem dk_K_set_92 : decode prog_1_method_3_code 92 = .ok (.ifCond .ne 30, 3) := by decide +kernel
theorem dk_K_set_95 : decode prog_1_method_3_code 95 = .ok (.iload_n 3, 1) := by decide +kernel
theorem dk_K_set_96 : decode prog_1_method_3_code 96 = .ok (.bipush (-99), 2) := by decide +kernel
theorem dk_K_set_98 : decode prog_1_method_3_code 98 = .ok (.aload_n 0, 1) := by decide +kernel
theorem dk_K_set_99 : decode prog_1_method_3_code 99 = .ok (.getfield 10, 3) := by decide +kernel
theorem dk_K_set_102 : decode prog_1_method_3_code 102 = .ok (.getfield 88, 3) := by decide +kernel
theorem dk_K_set_105 : decode prog_1_method_3_code 105 = .ok (.invokestatic 54, 3) := by decide +kernel
theorem dk_K_set_108 : decode prog_1_method_3_code 108 = .ok (.ifCond .eq 14, 3) := by decide +kernel
theorem dk_K_set_111 : decode prog_1_method_3_code 111 = .ok (.aload_n 0, 1) := by decide +kernel
theorem dk_K_set_112 : decode prog_1_method_3_code 112 = .ok (.getfield 10, 3) := by decide +kernel
theorem dk_K_set_115 : decode prog_1_method_3_code 115 = .ok (.iload_n 3, 1) := by decide +kernel
theorem dk_K_set_116 : decode prog_1_method_3_code 116 = .ok (.invokevirtual 91, 3) := by decide +kernel
theorem dk_K_set_119 : decode prog_1_method_3_code 119 = .ok (.goto 5, 3) := by decide +kernel
theorem dk_K_set_122 : decode prog_1_method_3_code 122 = .ok (.ldc 84, 2) := by decide +kernel
theorem dk_K_set_124 : decode prog_1_method_3_code 124 = .ok (.ireturn, 1) := by decide +kernel
theorem dk_K_set_125 : decode prog_1_method_3_code 125 = .ok (.iload_n 2, 1) := by decide +kernel
theorem dk_K_set_126 : decode prog_1_method_3_code 126 = .ok (.ifCond .ne 30, 3) := by decide +kernel
theorem dk_K_set_129 : decode prog_1_method_3_code 129 = .ok (.iload_n 3, 1) := by decide +kernel
theorem dk_K_set_130 : decode prog_1_method_3_code 130 = .ok (.aload_n 0, 1) := by decide +kernel
theorem dk_K_set_131 : decode prog_1_method_3_code 131 = .ok (.getfield 10, 3) := by decide +kernel
theorem dk_K_set_134 : decode prog_1_method_3_code 134 = .ok (.getfield 95, 3) := by decide +kernel
theorem dk_K_set_137 : decode prog_1_method_3_code 137 = .ok (.bipush 99, 2) := by decide +kernel
theorem dk_K_set_139 : decode prog_1_method_3_code 139 = .ok (.invokestatic 54, 3) := by decide +kernel
theorem dk_K_set_142 : decode prog_1_method_3_code 142 = .ok (.ifCond .eq 14, 3) := by decide +kernel
theorem dk_K_set_145 : decode prog_1_method_3_code 145 = .ok (.aload_n 0, 1) := by decide +kernel
theorem dk_K_set_146 : decode prog_1_method_3_code 146 = .ok (.getfield 10, 3) := by decide +kernel
theorem dk_K_set_149 : decode prog_1_method_3_code 149 = .ok (.iload_n 3, 1) := by decide +kernel
theorem dk_K_set_150 : decode prog_1_method_3_code 150 = .ok (.invokevirtual 98, 3) := by decide +kernel
theorem dk_K_set_153 : decode prog_1_method_3_code 153 = .ok (.goto 5, 3) := by decide +kernel
theorem dk_K_set_156 : decode prog_1_method_3_code 156 = .ok (.ldc 84, 2) := by decide +kernel
theorem dk_K_set_158 : decode prog_1_method_3_code 158 = .ok (.ireturn, 1) := by decide +kernel
theorem dk_K_set_159 : decode prog_1_method_3_code 159 = .ok (.ldc 84, 2) := by decide +kernel
theorem dk_K_set_161 : decode prog_1_method_3_code 161 = .ok (.ireturn, 1) := by decide +kernel
noncomputable def fx_K_set (p1 : Int32) (p2 : Int32) (p3 : Int32) (c : (Nat → Nat → Int32)) : Option (Int32 × (Nat → Nat → Int32)) :=
  if p1 = (0 : Int32) then
    kv_bind1 (fx_K_isWithin p3 (0 : Int32) (9 : Int32)) (fun b2 =>
    if b2 = true then
      kv_bind2 (fx_K_exchange p2 p3 c) (fun v3 c4 =>
      some (v3, c4))
    else
      some ((-1000000001 : Int32), c))
  else if p1 = (1 : Int32) then
    kv_bind1 (fx_K_isWithin p3 (0 : Int32) (99 : Int32)) (fun b6 =>
    if b6 = true then
      kv_bind2 (fx_K_exchange_25 p2 p3 c) (fun v7 c8 =>
      some (v7, c8))
    else
      some ((-1000000001 : Int32), c))
  else if p1 = (2 : Int32) then
    if p2 = 0 then
      kv_bind1 (fx_K_isWithin p3 (-99 : Int32) (c 1 8)) (fun b10 =>
      if b10 = true then
        kv_bind2 (fx_State_exchangeLow p3 c) (fun v11 c12 =>
        some (v11, c12))
      else
        some ((-1000000001 : Int32), c))
    else
      some ((-1000000001 : Int32), c)
  else if p1 = (3 : Int32) then
    if p2 = 0 then
      kv_bind1 (fx_K_isWithin p3 (c 1 7) (99 : Int32)) (fun b14 =>
      if b14 = true then
        kv_bind2 (fx_State_exchangeHigh p3 c) (fun v15 c16 =>
        some (v15, c16))
      else
        some ((-1000000001 : Int32), c))
    else
      some ((-1000000001 : Int32), c)
  else 
  some ((-1000000001 : Int32), c)
set_option maxRecDepth 20000 in
theorem cx_K_set (d : Nat) (p1 : Int32) (p2 : Int32) (p3 : Int32) (c : (Nat → Nat → Int32)) (y : (Nat → Nat → Int32) × (Nat → Int64) × (Nat → Int64)) : ∀ a, fx_K_set p1 p2 p3 c = some a → kv_C kM_K_set (d + 2) [.ref 0, .int p1, .int p2, .int p3] (c, y) (some (.int a.1), (a.2, y)) := by
  refine kv_entryX (E := fun a : (Int32 × (Nat → Nat → Int32)) => (some (.int a.1), (a.2, y))) rfl (Nat.le_of_ble_eq_true rfl) (fun o => ?_)
  unfold fx_K_set
  show kv_X _ _ _ _ _ 0 [(0, .ref 0), (1, .int p1), (2, .int p2), (3, .int p3)] [] (c, y)
  refine kv_iload_n (pc := 0) 1 rfl rfl dk_K_set_0 ?_
  refine kv_swIn (pc := 1) (v := (0 : Int32)) (tgt := 32) dk_K_set_1 (by decide) (by decide) rfl (by decide) ?_ (fun n1 => ?_)
  · refine kv_iload_n (pc := 32) 3 rfl rfl dk_K_set_32 ?_
    refine kv_iconst (pc := 33) (v := (0 : Int32)) dk_K_set_33 kki_0 ?_
    refine kv_bipush (pc := 34) (v := (9 : Int32)) dk_K_set_34 kkb_9 ?_
    refine kv_cS_cZ (pc := 36) (as := [.int p3, .int (0 : Int32), .int (9 : Int32)]) (st := []) ko_K_isWithin rfl kw_512 (Nat.le_of_ble_eq_true rfl) rfl dk_K_set_36 (cx_K_isWithin (d + 1) p3 (0 : Int32) (9 : Int32) c y) (fun b2 => ?_)
    refine kv_zif_eq (pc := 39) (tgt := 60) dk_K_set_39 rfl ?_ ?_
    · refine kv_ldc (pc := 60) (v := (-1000000001 : Int32)) kw_530 dk_K_set_60 ?_
      exact kv_iret (pc := 62) (fun h => h) rfl dk_K_set_62
    · refine kv_aload_n (pc := 42) 0 rfl rfl dk_K_set_42 ?_
      refine kv_getR (pc := 43) kf_K_10 kr_0 rfl kt_0_0 dk_K_set_43 ?_
      refine kv_getR (pc := 46) kf_K_58 kr_1 rfl kt_1_0 dk_K_set_46 ?_
      refine kv_getR (pc := 49) kf_K_76 kr_2 rfl kt_2_6 dk_K_set_49 ?_
      refine kv_iload_n (pc := 52) 2 rfl rfl dk_K_set_52 ?_
      refine kv_iload_n (pc := 53) 3 rfl rfl dk_K_set_53 ?_
      refine kv_cS_cIc (pc := 54) (as := [.ref 9, .int p2, .int p3]) (st := []) ko_K_exchange rfl kw_527 (Nat.le_of_ble_eq_true rfl) rfl dk_K_set_54 (cx_K_exchange d p2 p3 c y) (fun v3 c4 => ?_)
      refine kv_goto (pc := 57) (tgt := 62) dk_K_set_57 rfl ?_
      exact kv_iret (pc := 62) (fun h => h) rfl dk_K_set_62
  refine kv_swIn (pc := 1) (v := (1 : Int32)) (tgt := 63) dk_K_set_1 (by decide) (by decide) rfl (by decide) ?_ (fun n5 => ?_)
  · refine kv_iload_n (pc := 63) 3 rfl rfl dk_K_set_63 ?_
    refine kv_iconst (pc := 64) (v := (0 : Int32)) dk_K_set_64 kki_0 ?_
    refine kv_bipush (pc := 65) (v := (99 : Int32)) dk_K_set_65 kkb_99 ?_
    refine kv_cS_cZ (pc := 67) (as := [.int p3, .int (0 : Int32), .int (99 : Int32)]) (st := []) ko_K_isWithin rfl kw_512 (Nat.le_of_ble_eq_true rfl) rfl dk_K_set_67 (cx_K_isWithin (d + 1) p3 (0 : Int32) (99 : Int32) c y) (fun b6 => ?_)
    refine kv_zif_eq (pc := 70) (tgt := 88) dk_K_set_70 rfl ?_ ?_
    · refine kv_ldc (pc := 88) (v := (-1000000001 : Int32)) kw_530 dk_K_set_88 ?_
      exact kv_iret (pc := 90) (fun h => h) rfl dk_K_set_90
    · refine kv_aload_n (pc := 73) 0 rfl rfl dk_K_set_73 ?_
      refine kv_getR (pc := 74) kf_K_10 kr_0 rfl kt_0_0 dk_K_set_74 ?_
      refine kv_getR (pc := 77) kf_K_85 kr_1 rfl kt_1_4 dk_K_set_77 ?_
      refine kv_iload_n (pc := 80) 2 rfl rfl dk_K_set_80 ?_
      refine kv_iload_n (pc := 81) 3 rfl rfl dk_K_set_81 ?_
      refine kv_cS_cIc (pc := 82) (as := [.ref 25, .int p2, .int p3]) (st := []) ko_K_exchange rfl kw_527 (Nat.le_of_ble_eq_true rfl) rfl dk_K_set_82 (cx_K_exchange_25 d p2 p3 c y) (fun v7 c8 => ?_)
      refine kv_goto (pc := 85) (tgt := 90) dk_K_set_85 rfl ?_
      exact kv_iret (pc := 90) (fun h => h) rfl dk_K_set_90
  refine kv_swIn (pc := 1) (v := (2 : Int32)) (tgt := 91) dk_K_set_1 (by decide) (by decide) rfl (by decide) ?_ (fun n9 => ?_)
  · refine kv_iload_n (pc := 91) 2 rfl rfl dk_K_set_91 ?_
    refine kv_if_ne (pc := 92) (tgt := 122) dk_K_set_92 rfl ?_ ?_
    · refine kv_ldc (pc := 122) (v := (-1000000001 : Int32)) kw_530 dk_K_set_122 ?_
      exact kv_iret (pc := 124) (fun h => h) rfl dk_K_set_124
    · refine kv_iload_n (pc := 95) 3 rfl rfl dk_K_set_95 ?_
      refine kv_bipush (pc := 96) (v := (-99 : Int32)) dk_K_set_96 kkb_m99 ?_
      refine kv_aload_n (pc := 98) 0 rfl rfl dk_K_set_98 ?_
      refine kv_getR (pc := 99) kf_K_10 kr_0 rfl kt_0_0 dk_K_set_99 ?_
      refine kv_getC (pc := 102) kf_K_88 kr_1 kn_1 rfl dk_K_set_102 ?_
      refine kv_cS_cZ (pc := 105) (as := [.int p3, .int (-99 : Int32), .int (c 1 8)]) (st := []) ko_K_isWithin rfl kw_512 (Nat.le_of_ble_eq_true rfl) rfl dk_K_set_105 (cx_K_isWithin (d + 1) p3 (-99 : Int32) (c 1 8) c y) (fun b10 => ?_)
      refine kv_zif_eq (pc := 108) (tgt := 122) dk_K_set_108 rfl ?_ ?_
      · refine kv_ldc (pc := 122) (v := (-1000000001 : Int32)) kw_530 dk_K_set_122 ?_
        exact kv_iret (pc := 124) (fun h => h) rfl dk_K_set_124
      · refine kv_aload_n (pc := 111) 0 rfl rfl dk_K_set_111 ?_
        refine kv_getR (pc := 112) kf_K_10 kr_0 rfl kt_0_0 dk_K_set_112 ?_
        refine kv_iload_n (pc := 115) 3 rfl rfl dk_K_set_115 ?_
        refine kv_cV_cIc (pc := 116) (as := [.int p3]) (st := []) ko_State_exchangeLow kc_8 rfl rfl kr_1 kw_531 (Nat.le_of_ble_eq_true rfl) rfl dk_K_set_116 (cx_State_exchangeLow (d + 1) p3 c y) (fun v11 c12 => ?_)
        refine kv_goto (pc := 119) (tgt := 124) dk_K_set_119 rfl ?_
        exact kv_iret (pc := 124) (fun h => h) rfl dk_K_set_124
  refine kv_swIn (pc := 1) (v := (3 : Int32)) (tgt := 125) dk_K_set_1 (by decide) (by decide) rfl (by decide) ?_ (fun n13 => ?_)
  · refine kv_iload_n (pc := 125) 2 rfl rfl dk_K_set_125 ?_
    refine kv_if_ne (pc := 126) (tgt := 156) dk_K_set_126 rfl ?_ ?_
    · refine kv_ldc (pc := 156) (v := (-1000000001 : Int32)) kw_530 dk_K_set_156 ?_
      exact kv_iret (pc := 158) (fun h => h) rfl dk_K_set_158
    · refine kv_iload_n (pc := 129) 3 rfl rfl dk_K_set_129 ?_
      refine kv_aload_n (pc := 130) 0 rfl rfl dk_K_set_130 ?_
      refine kv_getR (pc := 131) kf_K_10 kr_0 rfl kt_0_0 dk_K_set_131 ?_
      refine kv_getC (pc := 134) kf_K_95 kr_1 kn_1 rfl dk_K_set_134 ?_
      refine kv_bipush (pc := 137) (v := (99 : Int32)) dk_K_set_137 kkb_99 ?_
      refine kv_cS_cZ (pc := 139) (as := [.int p3, .int (c 1 7), .int (99 : Int32)]) (st := []) ko_K_isWithin rfl kw_512 (Nat.le_of_ble_eq_true rfl) rfl dk_K_set_139 (cx_K_isWithin (d + 1) p3 (c 1 7) (99 : Int32) c y) (fun b14 => ?_)
      refine kv_zif_eq (pc := 142) (tgt := 156) dk_K_set_142 rfl ?_ ?_
      · refine kv_ldc (pc := 156) (v := (-1000000001 : Int32)) kw_530 dk_K_set_156 ?_
        exact kv_iret (pc := 158) (fun h => h) rfl dk_K_set_158
      · refine kv_aload_n (pc := 145) 0 rfl rfl dk_K_set_145 ?_
        refine kv_getR (pc := 146) kf_K_10 kr_0 rfl kt_0_0 dk_K_set_146 ?_
        refine kv_iload_n (pc := 149) 3 rfl rfl dk_K_set_149 ?_
        refine kv_cV_cIc (pc := 150) (as := [.int p3]) (st := []) ko_State_exchangeHigh kc_8 rfl rfl kr_1 kw_535 (Nat.le_of_ble_eq_true rfl) rfl dk_K_set_150 (cx_State_exchangeHigh (d + 1) p3 c y) (fun v15 c16 => ?_)
        refine kv_goto (pc := 153) (tgt := 158) dk_K_set_153 rfl ?_
        exact kv_iret (pc := 158) (fun h => h) rfl dk_K_set_158
  refine kv_swOut (pc := 1) (tgt := 159) dk_K_set_1 (by have qn1 := kv_ne (0 : Int32) (k := 0) rfl n1; have qn5 := kv_ne (1 : Int32) (k := 1) rfl n5; have qn9 := kv_ne (2 : Int32) (k := 2) rfl n9; have qn13 := kv_ne (3 : Int32) (k := 3) rfl n13; omega) (by decide) ?_
  refine kv_ldc (pc := 159) (v := (-1000000001 : Int32)) kw_530 dk_K_set_159 ?_
  exact kv_iret (pc := 161) (fun h => h) rfl dk_K_set_161
theorem dk_D_becomes_0 : decode prog_13_method_8_code 0 = .ok (.aload_n 0, 1) := by decide +kernel
theorem dk_D_becomes_1 : decode prog_13_method_8_code 1 = .ok (.getfield 9, 3) := by decide +kernel
theorem dk_D_becomes_4 : decode prog_13_method_8_code 4 = .ok (.iload_n 1, 1) := by decide +kernel
theorem dk_D_becomes_5 : decode prog_13_method_8_code 5 = .ok (.iaload, 1) := by decide +kernel
theorem dk_D_becomes_6 : decode prog_13_method_8_code 6 = .ok (.istore_n 3, 1) := by decide +kernel
theorem dk_D_becomes_7 : decode prog_13_method_8_code 7 = .ok (.aload_n 0, 1) := by decide +kernel
theorem dk_D_becomes_8 : decode prog_13_method_8_code 8 = .ok (.getfield 9, 3) := by decide +kernel
theorem dk_D_becomes_11 : decode prog_13_method_8_code 11 = .ok (.iload_n 1, 1) := by decide +kernel
theorem dk_D_becomes_12 : decode prog_13_method_8_code 12 = .ok (.iload_n 2, 1) := by decide +kernel
theorem dk_D_becomes_13 : decode prog_13_method_8_code 13 = .ok (.iastore, 1) := by decide +kernel
theorem dk_D_becomes_14 : decode prog_13_method_8_code 14 = .ok (.iload_n 3, 1) := by decide +kernel
theorem dk_D_becomes_15 : decode prog_13_method_8_code 15 = .ok (.ireturn, 1) := by decide +kernel
noncomputable def fx_D_becomes (p1 : Int32) (p2 : Int32) (m : (Nat → Nat → Int32)) : Option (Int32 × (Nat → Nat → Int32)) :=
  kv_gd (kv_in p1 444) (
  kv_let (m 85 p1.toNatClampNeg) (fun v2 =>
  kv_let (kv_st m 85 p1.toNatClampNeg p2) (fun m3 =>
  some (v2, m3))))
set_option maxRecDepth 20000 in
theorem cx_D_becomes (d : Nat) (p1 : Int32) (p2 : Int32) (c : (Nat → Nat → Int32)) (m : (Nat → Nat → Int32)) (f : (Nat → Int64)) (u : (Nat → Int64)) : ∀ a, fx_D_becomes p1 p2 m = some a → kv_C kM_D_becomes (d + 0) [.ref 84, .int p1, .int p2] (c, m, f, u) (some (.int a.1), (c, a.2, f, u)) := by
  refine kv_entryX (E := fun a : (Int32 × (Nat → Nat → Int32)) => (some (.int a.1), (c, a.2, f, u))) rfl (Nat.le_of_ble_eq_true rfl) (fun o => ?_)
  unfold fx_D_becomes
  show kv_X _ _ _ _ _ 0 [(0, .ref 84), (1, .int p1), (2, .int p2)] [] (c, m, f, u)
  refine kv_aload_n (pc := 0) 0 rfl rfl dk_D_becomes_0 ?_
  refine kv_getR (pc := 1) kf_D_9 kr_84 rfl kt_84_0 dk_D_becomes_1 ?_
  refine kv_iload_n (pc := 4) 1 rfl rfl dk_D_becomes_4 ?_
  refine kv_guard (fun g1 => ?_)
  refine kv_aldM (pc := 5) kr_85 kn_85 kl_85 g1 rfl dk_D_becomes_5 ?_
  refine kv_letI (fun v2 => ?_)
  refine kv_istore_n (pc := 6) (lv' := [(3, .int v2), (0, .ref 84), (1, .int p1), (2, .int p2)]) rfl (Nat.le_of_ble_eq_true rfl) rfl dk_D_becomes_6 ?_
  refine kv_aload_n (pc := 7) 1 rfl rfl dk_D_becomes_7 ?_
  refine kv_getR (pc := 8) kf_D_9 kr_84 rfl kt_84_0 dk_D_becomes_8 ?_
  refine kv_iload_n (pc := 11) 2 rfl rfl dk_D_becomes_11 ?_
  refine kv_iload_n (pc := 12) 3 rfl rfl dk_D_becomes_12 ?_
  refine kv_astM (pc := 13) kr_85 kn_85 kl_85 g1 rfl dk_D_becomes_13 (fun m3 => ?_)
  refine kv_iload_n (pc := 14) 0 rfl rfl dk_D_becomes_14 ?_
  exact kv_iret (pc := 15) (fun h => h) rfl dk_D_becomes_15
theorem dk_D_set_0 : decode prog_13_method_11_code 0 = .ok (.iload_n 1, 1) := by decide +kernel
theorem dk_D_set_1 : decode prog_13_method_11_code 1 = .ok (.tableswitch 179 0 3 #[31, 70, 109, 144], 31) := by decide +kernel
theorem dk_D_set_32 : decode prog_13_method_11_code 32 = .ok (.iload_n 2, 1) := by decide +kernel
theorem dk_D_set_33 : decode prog_13_method_11_code 33 = .ok (.i2l, 1) := by decide +kernel
theorem dk_D_set_34 : decode prog_13_method_11_code 34 = .ok (.lconst 0, 1) := by decide +kernel
theorem dk_D_set_35 : decode prog_13_method_11_code 35 = .ok (.ldc2_w 86, 3) := by decide +kernel
theorem dk_D_set_38 : decode prog_13_method_11_code 38 = .ok (.invokestatic 60, 3) := by decide +kernel
theorem dk_D_set_41 : decode prog_13_method_11_code 41 = .ok (.ifCond .eq 27, 3) := by decide +kernel
theorem dk_D_set_44 : decode prog_13_method_11_code 44 = .ok (.iload_n 3, 1) := by decide +kernel
theorem dk_D_set_45 : decode prog_13_method_11_code 45 = .ok (.i2l, 1) := by decide +kernel
theorem dk_D_set_46 : decode prog_13_method_11_code 46 = .ok (.lconst 0, 1) := by decide +kernel
theorem dk_D_set_47 : decode prog_13_method_11_code 47 = .ok (.ldc2_w 76, 3) := by decide +kernel
theorem dk_D_set_50 : decode prog_13_method_11_code 50 = .ok (.invokestatic 60, 3) := by decide +kernel
theorem dk_D_set_53 : decode prog_13_method_11_code 53 = .ok (.ifCond .eq 15, 3) := by decide +kernel
theorem dk_D_set_56 : decode prog_13_method_11_code 56 = .ok (.aload_n 0, 1) := by decide +kernel
theorem dk_D_set_57 : decode prog_13_method_11_code 57 = .ok (.bipush 70, 2) := by decide +kernel
theorem dk_D_set_59 : decode prog_13_method_11_code 59 = .ok (.iload_n 2, 1) := by decide +kernel
theorem dk_D_set_60 : decode prog_13_method_11_code 60 = .ok (.iadd, 1) := by decide +kernel
theorem dk_D_set_61 : decode prog_13_method_11_code 61 = .ok (.iload_n 3, 1) := by decide +kernel
theorem dk_D_set_62 : decode prog_13_method_11_code 62 = .ok (.invokevirtual 88, 3) := by decide +kernel
theorem dk_D_set_65 : decode prog_13_method_11_code 65 = .ok (.goto 5, 3) := by decide +kernel
theorem dk_D_set_68 : decode prog_13_method_11_code 68 = .ok (.ldc 91, 2) := by decide +kernel
theorem dk_D_set_70 : decode prog_13_method_11_code 70 = .ok (.ireturn, 1) := by decide +kernel
theorem dk_D_set_71 : decode prog_13_method_11_code 71 = .ok (.iload_n 2, 1) := by decide +kernel
theorem dk_D_set_72 : decode prog_13_method_11_code 72 = .ok (.i2l, 1) := by decide +kernel
theorem dk_D_set_73 : decode prog_13_method_11_code 73 = .ok (.lconst 0, 1) := by decide +kernel
theorem dk_D_set_74 : decode prog_13_method_11_code 74 = .ok (.ldc2_w 92, 3) := by decide +kernel
theorem dk_D_set_77 : decode prog_13_method_11_code 77 = .ok (.invokestatic 60, 3) := by decide +kernel
theorem dk_D_set_80 : decode prog_13_method_11_code 80 = .ok (.ifCond .eq 27, 3) := by decide +kernel
theorem dk_D_set_83 : decode prog_13_method_11_code 83 = .ok (.iload_n 3, 1) := by decide +kernel
theorem dk_D_set_84 : decode prog_13_method_11_code 84 = .ok (.i2l, 1) := by decide +kernel
theorem dk_D_set_85 : decode prog_13_method_11_code 85 = .ok (.lconst 0, 1) := by decide +kernel
theorem dk_D_set_86 : decode prog_13_method_11_code 86 = .ok (.ldc2_w 94, 3) := by decide +kernel
theorem dk_D_set_89 : decode prog_13_method_11_code 89 = .ok (.invokestatic 60, 3) := by decide +kernel
theorem dk_D_set_92 : decode prog_13_method_11_code 92 = .ok (.ifCond .eq 15, 3) := by decide +kernel
theorem dk_D_set_95 : decode prog_13_method_11_code 95 = .ok (.aload_n 0, 1) := by decide +kernel
theorem dk_D_set_96 : decode prog_13_method_11_code 96 = .ok (.bipush 76, 2) := by decide +kernel
theorem dk_D_set_98 : decode prog_13_method_11_code 98 = .ok (.iload_n 2, 1) := by decide +kernel
theorem dk_D_set_99 : decode prog_13_method_11_code 99 = .ok (.iadd, 1) := by decide +kernel
theorem dk_D_set_100 : decode prog_13_method_11_code 100 = .ok (.iload_n 3, 1) := by decide +kernel
theorem dk_D_set_101 : decode prog_13_method_11_code 101 = .ok (.invokevirtual 88, 3) := by decide +kernel
theorem dk_D_set_104 : decode prog_13_method_11_code 104 = .ok (.goto 5, 3) := by decide +kernel
theorem dk_D_set_107 : decode prog_13_method_11_code 107 = .ok (.ldc 91, 2) := by decide +kernel
theorem dk_D_set_109 : decode prog_13_method_11_code 109 = .ok (.ireturn, 1) := by decide +kernel
theorem dk_D_set_110 : decode prog_13_method_11_code 110 = .ok (.iload_n 2, 1) := by decide +kernel
theorem dk_D_set_111 : decode prog_13_method_11_code 111 = .ok (.ifCond .ne 31, 3) := by decide +kernel
theorem dk_D_set_114 : decode prog_13_method_11_code 114 = .ok (.iload_n 3, 1) := by decide +kernel
theorem dk_D_set_115 : decode prog_13_method_11_code 115 = .ok (.i2l, 1) := by decide +kernel
theorem dk_D_set_116 : decode prog_13_method_11_code 116 = .ok (.ldc2_w 96, 3) := by decide +kernel
theorem dk_D_set_119 : decode prog_13_method_11_code 119 = .ok (.aload_n 0, 1) := by decide +kernel
theorem dk_D_set_120 : decode prog_13_method_11_code 120 = .ok (.getfield 9, 3) := by decide +kernel
theorem dk_D_set_123 : decode prog_13_method_11_code 123 = .ok (.bipush 6, 2) := by decide +kernel
theorem dk_D_set_125 : decode prog_13_method_11_code 125 = .ok (.iaload, 1) := by decide +kernel
theorem dk_D_set_126 : decode prog_13_method_11_code 126 = .ok (.i2l, 1) := by decide +kernel
theorem dk_D_set_127 : decode prog_13_method_11_code 127 = .ok (.invokestatic 60, 3) := by decide +kernel
theorem dk_D_set_130 : decode prog_13_method_11_code 130 = .ok (.ifCond .eq 12, 3) := by decide +kernel
theorem dk_D_set_133 : decode prog_13_method_11_code 133 = .ok (.aload_n 0, 1) := by decide +kernel
theorem dk_D_set_134 : decode prog_13_method_11_code 134 = .ok (.iconst 5, 1) := by decide +kernel
theorem dk_D_set_135 : decode prog_13_method_11_code 135 = .ok (.iload_n 3, 1) := by decide +kernel
theorem dk_D_set_136 : decode prog_13_method_11_code 136 = .ok (.invokevirtual 88, 3) := by decide +kernel
theorem dk_D_set_139 : decode prog_13_method_11_code 139 = .ok (.goto 5, 3) := by decide +kernel
theorem dk_D_set_142 : decode prog_13_method_11_code 142 = .ok (.ldc 91, 2) := by decide +kernel
theorem dk_D_set_144 : decode prog_13_method_11_code 144 = .ok (.ireturn, 1) := by decide +kernel
theorem dk_D_set_145 : decode prog_13_method_11_code 145 = .ok (.iload_n 2, 1) := by decide +kernel
theorem dk_D_set_146 : decode prog_13_method_11_code 146 = .ok (.ifCond .ne 31, 3) := by decide +kernel
theorem dk_D_set_149 : decode prog_13_method_11_code 149 = .ok (.iload_n 3, 1) := by decide +kernel
theorem dk_D_set_150 : decode prog_13_method_11_code 150 = .ok (.i2l, 1) := by decide +kernel
theorem dk_D_set_151 : decode prog_13_method_11_code 151 = .ok (.aload_n 0, 1) := by decide +kernel
theorem dk_D_set_152 : decode prog_13_method_11_code 152 = .ok (.getfield 9, 3) := by decide +kernel
theorem dk_D_set_155 : decode prog_13_method_11_code 155 = .ok (.iconst 5, 1) := by decide +kernel
theorem dk_D_set_156 : decode prog_13_method_11_code 156 = .ok (.iaload, 1) := by decide +kernel
theorem dk_D_set_157 : decode prog_13_method_11_code 157 = .ok (.i2l, 1) := by decide +kernel
theorem dk_D_set_158 : decode prog_13_method_11_code 158 = .ok (.ldc2_w 94, 3) := by decide +kernel
theorem dk_D_set_161 : decode prog_13_method_11_code 161 = .ok (.invokestatic 60, 3) := by decide +kernel
theorem dk_D_set_164 : decode prog_13_method_11_code 164 = .ok (.ifCond .eq 13, 3) := by decide +kernel
theorem dk_D_set_167 : decode prog_13_method_11_code 167 = .ok (.aload_n 0, 1) := by decide +kernel
theorem dk_D_set_168 : decode prog_13_method_11_code 168 = .ok (.bipush 6, 2) := by decide +kernel
theorem dk_D_set_170 : decode prog_13_method_11_code 170 = .ok (.iload_n 3, 1) := by decide +kernel
theorem dk_D_set_171 : decode prog_13_method_11_code 171 = .ok (.invokevirtual 88, 3) := by decide +kernel
theorem dk_D_set_174 : decode prog_13_method_11_code 174 = .ok (.goto 5, 3) := by decide +kernel
theorem dk_D_set_177 : decode prog_13_method_11_code 177 = .ok (.ldc 91, 2) := by decide +kernel
theorem dk_D_set_179 : decode prog_13_method_11_code 179 = .ok (.ireturn, 1) := by decide +kernel
theorem dk_D_set_180 : decode prog_13_method_11_code 180 = .ok (.ldc 91, 2) := by decide +kernel
theorem dk_D_set_182 : decode prog_13_method_11_code 182 = .ok (.ireturn, 1) := by decide +kernel
noncomputable def fx_D_set (p1 : Int32) (p2 : Int32) (p3 : Int32) (m : (Nat → Nat → Int32)) : Option (Int32 × (Nat → Nat → Int32)) :=
  if p1 = (0 : Int32) then
    kv_bind1 (fx_D_isIn p2.toInt64 (0 : Int64) (5 : Int64)) (fun b2 =>
    if b2 = true then
      kv_bind1 (fx_D_isIn p3.toInt64 (0 : Int64) (9 : Int64)) (fun b3 =>
      if b3 = true then
        kv_bind2 (fx_D_becomes ((70 : Int32) + p2) p3 m) (fun v4 m5 =>
        some (v4, m5))
      else
        some ((-1000000001 : Int32), m))
    else
      some ((-1000000001 : Int32), m))
  else if p1 = (1 : Int32) then
    kv_bind1 (fx_D_isIn p2.toInt64 (0 : Int64) (3 : Int64)) (fun b7 =>
    if b7 = true then
      kv_bind1 (fx_D_isIn p3.toInt64 (0 : Int64) (99 : Int64)) (fun b8 =>
      if b8 = true then
        kv_bind2 (fx_D_becomes ((76 : Int32) + p2) p3 m) (fun v9 m10 =>
        some (v9, m10))
      else
        some ((-1000000001 : Int32), m))
    else
      some ((-1000000001 : Int32), m))
  else if p1 = (2 : Int32) then
    if p2 = 0 then
      kv_bind1 (fx_D_isIn p3.toInt64 (-99 : Int64) (m 85 6).toInt64) (fun b12 =>
      if b12 = true then
        kv_bind2 (fx_D_becomes (5 : Int32) p3 m) (fun v13 m14 =>
        some (v13, m14))
      else
        some ((-1000000001 : Int32), m))
    else
      some ((-1000000001 : Int32), m)
  else if p1 = (3 : Int32) then
    if p2 = 0 then
      kv_bind1 (fx_D_isIn p3.toInt64 (m 85 5).toInt64 (99 : Int64)) (fun b16 =>
      if b16 = true then
        kv_bind2 (fx_D_becomes (6 : Int32) p3 m) (fun v17 m18 =>
        some (v17, m18))
      else
        some ((-1000000001 : Int32), m))
    else
      some ((-1000000001 : Int32), m)
  else 
  some ((-1000000001 : Int32), m)
set_option maxRecDepth 20000 in
theorem cx_D_set (d : Nat) (p1 : Int32) (p2 : Int32) (p3 : Int32) (c : (Nat → Nat → Int32)) (m : (Nat → Nat → Int32)) (f : (Nat → Int64)) (u : (Nat → Int64)) : ∀ a, fx_D_set p1 p2 p3 m = some a → kv_C kM_D_set (d + 1) [.ref 84, .int p1, .int p2, .int p3] (c, m, f, u) (some (.int a.1), (c, a.2, f, u)) := by
  refine kv_entryX (E := fun a : (Int32 × (Nat → Nat → Int32)) => (some (.int a.1), (c, a.2, f, u))) rfl (Nat.le_of_ble_eq_true rfl) (fun o => ?_)
  unfold fx_D_set
  show kv_X _ _ _ _ _ 0 [(0, .ref 84), (1, .int p1), (2, .int p2), (3, .int p3)] [] (c, m, f, u)
  refine kv_iload_n (pc := 0) 1 rfl rfl dk_D_set_0 ?_
  refine kv_swIn (pc := 1) (v := (0 : Int32)) (tgt := 32) dk_D_set_1 (by decide) (by decide) rfl (by decide) ?_ (fun n1 => ?_)
  · refine kv_iload_n (pc := 32) 2 rfl rfl dk_D_set_32 ?_
    refine kv_i2l (pc := 33) dk_D_set_33 ?_
    refine kv_lconst (pc := 34) (v := (0 : Int64)) dk_D_set_34 kkl_0 ?_
    refine kv_ldc2 (pc := 35) (v := (5 : Int64)) kw_1349 dk_D_set_35 ?_
    refine kv_cS_mZ (pc := 38) (as := [.long p2.toInt64, .long (0 : Int64), .long (5 : Int64)]) (st := []) ko_D_isIn rfl kw_1330 (Nat.le_of_ble_eq_true rfl) rfl dk_D_set_38 (cx_D_isIn d p2.toInt64 (0 : Int64) (5 : Int64) c m f u) (fun b2 => ?_)
    refine kv_zif_eq (pc := 41) (tgt := 68) dk_D_set_41 rfl ?_ ?_
    · refine kv_ldc (pc := 68) (v := (-1000000001 : Int32)) kw_1354 dk_D_set_68 ?_
      exact kv_iret (pc := 70) (fun h => h) rfl dk_D_set_70
    · refine kv_iload_n (pc := 44) 3 rfl rfl dk_D_set_44 ?_
      refine kv_i2l (pc := 45) dk_D_set_45 ?_
      refine kv_lconst (pc := 46) (v := (0 : Int64)) dk_D_set_46 kkl_0 ?_
      refine kv_ldc2 (pc := 47) (v := (9 : Int64)) kw_1334 dk_D_set_47 ?_
      refine kv_cS_mZ (pc := 50) (as := [.long p3.toInt64, .long (0 : Int64), .long (9 : Int64)]) (st := []) ko_D_isIn rfl kw_1330 (Nat.le_of_ble_eq_true rfl) rfl dk_D_set_50 (cx_D_isIn d p3.toInt64 (0 : Int64) (9 : Int64) c m f u) (fun b3 => ?_)
      refine kv_zif_eq (pc := 53) (tgt := 68) dk_D_set_53 rfl ?_ ?_
      · refine kv_ldc (pc := 68) (v := (-1000000001 : Int32)) kw_1354 dk_D_set_68 ?_
        exact kv_iret (pc := 70) (fun h => h) rfl dk_D_set_70
      · refine kv_aload_n (pc := 56) 0 rfl rfl dk_D_set_56 ?_
        refine kv_bipush (pc := 57) (v := (70 : Int32)) dk_D_set_57 kkb_70 ?_
        refine kv_iload_n (pc := 59) 2 rfl rfl dk_D_set_59 ?_
        refine kv_iadd (pc := 60) dk_D_set_60 ?_
        refine kv_iload_n (pc := 61) 3 rfl rfl dk_D_set_61 ?_
        refine kv_cV_mIm (pc := 62) (as := [.int ((70 : Int32) + p2), .int p3]) (st := []) ko_D_becomes kc_11 rfl rfl kr_84 kw_1350 (Nat.le_of_ble_eq_true rfl) rfl dk_D_set_62 (cx_D_becomes d ((70 : Int32) + p2) p3 c m f u) (fun v4 m5 => ?_)
        refine kv_goto (pc := 65) (tgt := 70) dk_D_set_65 rfl ?_
        exact kv_iret (pc := 70) (fun h => h) rfl dk_D_set_70
  refine kv_swIn (pc := 1) (v := (1 : Int32)) (tgt := 71) dk_D_set_1 (by decide) (by decide) rfl (by decide) ?_ (fun n6 => ?_)
  · refine kv_iload_n (pc := 71) 2 rfl rfl dk_D_set_71 ?_
    refine kv_i2l (pc := 72) dk_D_set_72 ?_
    refine kv_lconst (pc := 73) (v := (0 : Int64)) dk_D_set_73 kkl_0 ?_
    refine kv_ldc2 (pc := 74) (v := (3 : Int64)) kw_1355 dk_D_set_74 ?_
    refine kv_cS_mZ (pc := 77) (as := [.long p2.toInt64, .long (0 : Int64), .long (3 : Int64)]) (st := []) ko_D_isIn rfl kw_1330 (Nat.le_of_ble_eq_true rfl) rfl dk_D_set_77 (cx_D_isIn d p2.toInt64 (0 : Int64) (3 : Int64) c m f u) (fun b7 => ?_)
    refine kv_zif_eq (pc := 80) (tgt := 107) dk_D_set_80 rfl ?_ ?_
    · refine kv_ldc (pc := 107) (v := (-1000000001 : Int32)) kw_1354 dk_D_set_107 ?_
      exact kv_iret (pc := 109) (fun h => h) rfl dk_D_set_109
    · refine kv_iload_n (pc := 83) 3 rfl rfl dk_D_set_83 ?_
      refine kv_i2l (pc := 84) dk_D_set_84 ?_
      refine kv_lconst (pc := 85) (v := (0 : Int64)) dk_D_set_85 kkl_0 ?_
      refine kv_ldc2 (pc := 86) (v := (99 : Int64)) kw_1356 dk_D_set_86 ?_
      refine kv_cS_mZ (pc := 89) (as := [.long p3.toInt64, .long (0 : Int64), .long (99 : Int64)]) (st := []) ko_D_isIn rfl kw_1330 (Nat.le_of_ble_eq_true rfl) rfl dk_D_set_89 (cx_D_isIn d p3.toInt64 (0 : Int64) (99 : Int64) c m f u) (fun b8 => ?_)
      refine kv_zif_eq (pc := 92) (tgt := 107) dk_D_set_92 rfl ?_ ?_
      · refine kv_ldc (pc := 107) (v := (-1000000001 : Int32)) kw_1354 dk_D_set_107 ?_
        exact kv_iret (pc := 109) (fun h => h) rfl dk_D_set_109
      · refine kv_aload_n (pc := 95) 0 rfl rfl dk_D_set_95 ?_
        refine kv_bipush (pc := 96) (v := (76 : Int32)) dk_D_set_96 kkb_76 ?_
        refine kv_iload_n (pc := 98) 2 rfl rfl dk_D_set_98 ?_
        refine kv_iadd (pc := 99) dk_D_set_99 ?_
        refine kv_iload_n (pc := 100) 3 rfl rfl dk_D_set_100 ?_
        refine kv_cV_mIm (pc := 101) (as := [.int ((76 : Int32) + p2), .int p3]) (st := []) ko_D_becomes kc_11 rfl rfl kr_84 kw_1350 (Nat.le_of_ble_eq_true rfl) rfl dk_D_set_101 (cx_D_becomes d ((76 : Int32) + p2) p3 c m f u) (fun v9 m10 => ?_)
        refine kv_goto (pc := 104) (tgt := 109) dk_D_set_104 rfl ?_
        exact kv_iret (pc := 109) (fun h => h) rfl dk_D_set_109
  refine kv_swIn (pc := 1) (v := (2 : Int32)) (tgt := 110) dk_D_set_1 (by decide) (by decide) rfl (by decide) ?_ (fun n11 => ?_)
  · refine kv_iload_n (pc := 110) 2 rfl rfl dk_D_set_110 ?_
    refine kv_if_ne (pc := 111) (tgt := 142) dk_D_set_111 rfl ?_ ?_
    · refine kv_ldc (pc := 142) (v := (-1000000001 : Int32)) kw_1354 dk_D_set_142 ?_
      exact kv_iret (pc := 144) (fun h => h) rfl dk_D_set_144
    · refine kv_iload_n (pc := 114) 3 rfl rfl dk_D_set_114 ?_
      refine kv_i2l (pc := 115) dk_D_set_115 ?_
      refine kv_ldc2 (pc := 116) (v := (-99 : Int64)) kw_1357 dk_D_set_116 ?_
      refine kv_aload_n (pc := 119) 0 rfl rfl dk_D_set_119 ?_
      refine kv_getR (pc := 120) kf_D_9 kr_84 rfl kt_84_0 dk_D_set_120 ?_
      refine kv_bipush (pc := 123) (v := (6 : Int32)) dk_D_set_123 kkb_6 ?_
      refine kv_aldM (pc := 125) kr_85 kn_85 kl_85 kkg_6_444 (j := 6) kkx_6 dk_D_set_125 ?_
      refine kv_i2l (pc := 126) dk_D_set_126 ?_
      refine kv_cS_mZ (pc := 127) (as := [.long p3.toInt64, .long (-99 : Int64), .long (m 85 6).toInt64]) (st := []) ko_D_isIn rfl kw_1330 (Nat.le_of_ble_eq_true rfl) rfl dk_D_set_127 (cx_D_isIn d p3.toInt64 (-99 : Int64) (m 85 6).toInt64 c m f u) (fun b12 => ?_)
      refine kv_zif_eq (pc := 130) (tgt := 142) dk_D_set_130 rfl ?_ ?_
      · refine kv_ldc (pc := 142) (v := (-1000000001 : Int32)) kw_1354 dk_D_set_142 ?_
        exact kv_iret (pc := 144) (fun h => h) rfl dk_D_set_144
      · refine kv_aload_n (pc := 133) 0 rfl rfl dk_D_set_133 ?_
        refine kv_iconst (pc := 134) (v := (5 : Int32)) dk_D_set_134 kki_5 ?_
        refine kv_iload_n (pc := 135) 3 rfl rfl dk_D_set_135 ?_
        refine kv_cV_mIm (pc := 136) (as := [.int (5 : Int32), .int p3]) (st := []) ko_D_becomes kc_11 rfl rfl kr_84 kw_1350 (Nat.le_of_ble_eq_true rfl) rfl dk_D_set_136 (cx_D_becomes d (5 : Int32) p3 c m f u) (fun v13 m14 => ?_)
        refine kv_goto (pc := 139) (tgt := 144) dk_D_set_139 rfl ?_
        exact kv_iret (pc := 144) (fun h => h) rfl dk_D_set_144
  refine kv_swIn (pc := 1) (v := (3 : Int32)) (tgt := 145) dk_D_set_1 (by decide) (by decide) rfl (by decide) ?_ (fun n15 => ?_)
  · refine kv_iload_n (pc := 145) 2 rfl rfl dk_D_set_145 ?_
    refine kv_if_ne (pc := 146) (tgt := 177) dk_D_set_146 rfl ?_ ?_
    · refine kv_ldc (pc := 177) (v := (-1000000001 : Int32)) kw_1354 dk_D_set_177 ?_
      exact kv_iret (pc := 179) (fun h => h) rfl dk_D_set_179
    · refine kv_iload_n (pc := 149) 3 rfl rfl dk_D_set_149 ?_
      refine kv_i2l (pc := 150) dk_D_set_150 ?_
      refine kv_aload_n (pc := 151) 0 rfl rfl dk_D_set_151 ?_
      refine kv_getR (pc := 152) kf_D_9 kr_84 rfl kt_84_0 dk_D_set_152 ?_
      refine kv_iconst (pc := 155) (v := (5 : Int32)) dk_D_set_155 kki_5 ?_
      refine kv_aldM (pc := 156) kr_85 kn_85 kl_85 kkg_5_444 (j := 5) kkx_5 dk_D_set_156 ?_
      refine kv_i2l (pc := 157) dk_D_set_157 ?_
      refine kv_ldc2 (pc := 158) (v := (99 : Int64)) kw_1356 dk_D_set_158 ?_
      refine kv_cS_mZ (pc := 161) (as := [.long p3.toInt64, .long (m 85 5).toInt64, .long (99 : Int64)]) (st := []) ko_D_isIn rfl kw_1330 (Nat.le_of_ble_eq_true rfl) rfl dk_D_set_161 (cx_D_isIn d p3.toInt64 (m 85 5).toInt64 (99 : Int64) c m f u) (fun b16 => ?_)
      refine kv_zif_eq (pc := 164) (tgt := 177) dk_D_set_164 rfl ?_ ?_
      · refine kv_ldc (pc := 177) (v := (-1000000001 : Int32)) kw_1354 dk_D_set_177 ?_
        exact kv_iret (pc := 179) (fun h => h) rfl dk_D_set_179
      · refine kv_aload_n (pc := 167) 0 rfl rfl dk_D_set_167 ?_
        refine kv_bipush (pc := 168) (v := (6 : Int32)) dk_D_set_168 kkb_6 ?_
        refine kv_iload_n (pc := 170) 3 rfl rfl dk_D_set_170 ?_
        refine kv_cV_mIm (pc := 171) (as := [.int (6 : Int32), .int p3]) (st := []) ko_D_becomes kc_11 rfl rfl kr_84 kw_1350 (Nat.le_of_ble_eq_true rfl) rfl dk_D_set_171 (cx_D_becomes d (6 : Int32) p3 c m f u) (fun v17 m18 => ?_)
        refine kv_goto (pc := 174) (tgt := 179) dk_D_set_174 rfl ?_
        exact kv_iret (pc := 179) (fun h => h) rfl dk_D_set_179
  refine kv_swOut (pc := 1) (tgt := 180) dk_D_set_1 (by have qn1 := kv_ne (0 : Int32) (k := 0) rfl n1; have qn6 := kv_ne (1 : Int32) (k := 1) rfl n6; have qn11 := kv_ne (2 : Int32) (k := 2) rfl n11; have qn15 := kv_ne (3 : Int32) (k := 3) rfl n15; omega) (by decide) ?_
  refine kv_ldc (pc := 180) (v := (-1000000001 : Int32)) kw_1354 dk_D_set_180 ?_
  exact kv_iret (pc := 182) (fun h => h) rfl dk_D_set_182
theorem dk_Lumps_has_0 : decode prog_5_method_2_code 0 = .ok (.iload_n 1, 1) := by decide +kernel
theorem dk_Lumps_has_1 : decode prog_5_method_2_code 1 = .ok (.ifCond .lt 15, 3) := by decide +kernel
theorem dk_Lumps_has_4 : decode prog_5_method_2_code 4 = .ok (.iload_n 1, 1) := by decide +kernel
theorem dk_Lumps_has_5 : decode prog_5_method_2_code 5 = .ok (.aload_n 0, 1) := by decide +kernel
theorem dk_Lumps_has_6 : decode prog_5_method_2_code 6 = .ok (.getfield 33, 3) := by decide +kernel
theorem dk_Lumps_has_9 : decode prog_5_method_2_code 9 = .ok (.if_icmp .ge 7, 3) := by decide +kernel
theorem dk_Lumps_has_12 : decode prog_5_method_2_code 12 = .ok (.iconst 1, 1) := by decide +kernel
theorem dk_Lumps_has_13 : decode prog_5_method_2_code 13 = .ok (.goto 4, 3) := by decide +kernel
theorem dk_Lumps_has_16 : decode prog_5_method_2_code 16 = .ok (.iconst 0, 1) := by decide +kernel
theorem dk_Lumps_has_17 : decode prog_5_method_2_code 17 = .ok (.ireturn, 1) := by decide +kernel
noncomputable def fx_Lumps_has (p1 : Int32) (c : (Nat → Nat → Int32)) : Option Bool :=
  if p1 < 0 then
    some false
  else
    if (c 2 7) ≤ p1 then
      some false
    else
      some true
set_option maxRecDepth 20000 in
theorem cx_Lumps_has (d : Nat) (p1 : Int32) (c : (Nat → Nat → Int32)) (y : (Nat → Nat → Int32) × (Nat → Int64) × (Nat → Int64)) : ∀ a, fx_Lumps_has p1 c = some a → kv_C kM_Lumps_has (d + 0) [.ref 2, .int p1] (c, y) (some (.int (kv_b a)), (c, y)) := by
  refine kv_entryX (E := fun a : Bool => (some (.int (kv_b a)), (c, y))) rfl (Nat.le_of_ble_eq_true rfl) (fun o => ?_)
  unfold fx_Lumps_has
  show kv_X _ _ _ _ _ 0 [(0, .ref 2), (1, .int p1)] [] (c, y)
  refine kv_iload_n (pc := 0) 1 rfl rfl dk_Lumps_has_0 ?_
  refine kv_if_lt (pc := 1) (tgt := 16) dk_Lumps_has_1 rfl ?_ ?_
  · refine kv_iconst (pc := 16) (v := (0 : Int32)) dk_Lumps_has_16 kki_0 ?_
    exact kv_zret (pc := 17) (b := false) (fun h => h) rfl dk_Lumps_has_17
  · refine kv_iload_n (pc := 4) 1 rfl rfl dk_Lumps_has_4 ?_
    refine kv_aload_n (pc := 5) 0 rfl rfl dk_Lumps_has_5 ?_
    refine kv_getC (pc := 6) kf_Lumps_33 kr_2 kn_2 rfl dk_Lumps_has_6 ?_
    refine kv_icmp_ge (pc := 9) (tgt := 16) dk_Lumps_has_9 rfl ?_ ?_
    · refine kv_iconst (pc := 16) (v := (0 : Int32)) dk_Lumps_has_16 kki_0 ?_
      exact kv_zret (pc := 17) (b := false) (fun h => h) rfl dk_Lumps_has_17
    · refine kv_iconst (pc := 12) (v := (1 : Int32)) dk_Lumps_has_12 kki_1 ?_
      refine kv_goto (pc := 13) (tgt := 17) dk_Lumps_has_13 rfl ?_
      exact kv_zret (pc := 17) (b := true) (fun h => h) rfl dk_Lumps_has_17
theorem dk_K_of_0 : decode prog_1_method_4_code 0 = .ok (.aload_n 0, 1) := by decide +kernel
theorem dk_K_of_1 : decode prog_1_method_4_code 1 = .ok (.getfield 10, 3) := by decide +kernel
theorem dk_K_of_4 : decode prog_1_method_4_code 4 = .ok (.getfield 58, 3) := by decide +kernel
theorem dk_K_of_7 : decode prog_1_method_4_code 7 = .ok (.astore_n 3, 1) := by decide +kernel
theorem dk_K_of_8 : decode prog_1_method_4_code 8 = .ok (.aload_n 3, 1) := by decide +kernel
theorem dk_K_of_9 : decode prog_1_method_4_code 9 = .ok (.iload_n 1, 1) := by decide +kernel
theorem dk_K_of_10 : decode prog_1_method_4_code 10 = .ok (.invokevirtual 101, 3) := by decide +kernel
theorem dk_K_of_13 : decode prog_1_method_4_code 13 = .ok (.ifCond .ne 6, 3) := by decide +kernel
theorem dk_K_of_16 : decode prog_1_method_4_code 16 = .ok (.ldc 84, 2) := by decide +kernel
theorem dk_K_of_18 : decode prog_1_method_4_code 18 = .ok (.ireturn, 1) := by decide +kernel
theorem dk_K_of_19 : decode prog_1_method_4_code 19 = .ok (.iload_n 2, 1) := by decide +kernel
theorem dk_K_of_20 : decode prog_1_method_4_code 20 = .ok (.tableswitch 96 0 5 #[40, 47, 54, 61, 68, 89], 40) := by decide +kernel
theorem dk_K_of_60 : decode prog_1_method_4_code 60 = .ok (.aload_n 3, 1) := by decide +kernel
theorem dk_K_of_61 : decode prog_1_method_4_code 61 = .ok (.getfield 105, 3) := by decide +kernel
theorem dk_K_of_64 : decode prog_1_method_4_code 64 = .ok (.iload_n 1, 1) := by decide +kernel
theorem dk_K_of_65 : decode prog_1_method_4_code 65 = .ok (.iaload, 1) := by decide +kernel
theorem dk_K_of_66 : decode prog_1_method_4_code 66 = .ok (.ireturn, 1) := by decide +kernel
theorem dk_K_of_67 : decode prog_1_method_4_code 67 = .ok (.aload_n 3, 1) := by decide +kernel
theorem dk_K_of_68 : decode prog_1_method_4_code 68 = .ok (.getfield 108, 3) := by decide +kernel
theorem dk_K_of_71 : decode prog_1_method_4_code 71 = .ok (.iload_n 1, 1) := by decide +kernel
theorem dk_K_of_72 : decode prog_1_method_4_code 72 = .ok (.iaload, 1) := by decide +kernel
theorem dk_K_of_73 : decode prog_1_method_4_code 73 = .ok (.ireturn, 1) := by decide +kernel
theorem dk_K_of_74 : decode prog_1_method_4_code 74 = .ok (.aload_n 3, 1) := by decide +kernel
theorem dk_K_of_75 : decode prog_1_method_4_code 75 = .ok (.getfield 111, 3) := by decide +kernel
theorem dk_K_of_78 : decode prog_1_method_4_code 78 = .ok (.iload_n 1, 1) := by decide +kernel
theorem dk_K_of_79 : decode prog_1_method_4_code 79 = .ok (.iaload, 1) := by decide +kernel
theorem dk_K_of_80 : decode prog_1_method_4_code 80 = .ok (.ireturn, 1) := by decide +kernel
theorem dk_K_of_81 : decode prog_1_method_4_code 81 = .ok (.aload_n 3, 1) := by decide +kernel
theorem dk_K_of_82 : decode prog_1_method_4_code 82 = .ok (.getfield 114, 3) := by decide +kernel
theorem dk_K_of_85 : decode prog_1_method_4_code 85 = .ok (.iload_n 1, 1) := by decide +kernel
theorem dk_K_of_86 : decode prog_1_method_4_code 86 = .ok (.iaload, 1) := by decide +kernel
theorem dk_K_of_87 : decode prog_1_method_4_code 87 = .ok (.ireturn, 1) := by decide +kernel
theorem dk_K_of_88 : decode prog_1_method_4_code 88 = .ok (.aload_n 3, 1) := by decide +kernel
theorem dk_K_of_89 : decode prog_1_method_4_code 89 = .ok (.getfield 117, 3) := by decide +kernel
theorem dk_K_of_92 : decode prog_1_method_4_code 92 = .ok (.iload_n 1, 1) := by decide +kernel
theorem dk_K_of_93 : decode prog_1_method_4_code 93 = .ok (.iaload, 1) := by decide +kernel
theorem dk_K_of_94 : decode prog_1_method_4_code 94 = .ok (.ifCond .le 12, 3) := by decide +kernel
theorem dk_K_of_97 : decode prog_1_method_4_code 97 = .ok (.aload_n 3, 1) := by decide +kernel
theorem dk_K_of_98 : decode prog_1_method_4_code 98 = .ok (.getfield 120, 3) := by decide +kernel
theorem dk_K_of_101 : decode prog_1_method_4_code 101 = .ok (.iload_n 1, 1) := by decide +kernel
theorem dk_K_of_102 : decode prog_1_method_4_code 102 = .ok (.iaload, 1) := by decide +kernel
theorem dk_K_of_103 : decode prog_1_method_4_code 103 = .ok (.goto 5, 3) := by decide +kernel
theorem dk_K_of_106 : decode prog_1_method_4_code 106 = .ok (.ldc 123, 2) := by decide +kernel
theorem dk_K_of_108 : decode prog_1_method_4_code 108 = .ok (.ireturn, 1) := by decide +kernel
theorem dk_K_of_109 : decode prog_1_method_4_code 109 = .ok (.aload_n 3, 1) := by decide +kernel
theorem dk_K_of_110 : decode prog_1_method_4_code 110 = .ok (.getfield 117, 3) := by decide +kernel
theorem dk_K_of_113 : decode prog_1_method_4_code 113 = .ok (.iload_n 1, 1) := by decide +kernel
theorem dk_K_of_114 : decode prog_1_method_4_code 114 = .ok (.iaload, 1) := by decide +kernel
theorem dk_K_of_115 : decode prog_1_method_4_code 115 = .ok (.ireturn, 1) := by decide +kernel
theorem dk_K_of_116 : decode prog_1_method_4_code 116 = .ok (.ldc 84, 2) := by decide +kernel
theorem dk_K_of_118 : decode prog_1_method_4_code 118 = .ok (.ireturn, 1) := by decide +kernel
noncomputable def fx_K_of (p1 : Int32) (p2 : Int32) (c : (Nat → Nat → Int32)) : Option Int32 :=
  kv_bind1 (fx_Lumps_has p1 c) (fun b1 =>
  if b1 = true then
    if p2 = (0 : Int32) then
      kv_gd (kv_in p1 10) (
      some (c 3 p1.toNatClampNeg))
    else if p2 = (1 : Int32) then
      kv_gd (kv_in p1 10) (
      some (c 4 p1.toNatClampNeg))
    else if p2 = (2 : Int32) then
      kv_gd (kv_in p1 10) (
      some (c 5 p1.toNatClampNeg))
    else if p2 = (3 : Int32) then
      kv_gd (kv_in p1 10) (
      some (c 6 p1.toNatClampNeg))
    else if p2 = (4 : Int32) then
      kv_gd (kv_in p1 10) (
      if (c 8 p1.toNatClampNeg) ≤ 0 then
        some (-1000000004 : Int32)
      else
        some (c 7 p1.toNatClampNeg))
    else if p2 = (5 : Int32) then
      kv_gd (kv_in p1 10) (
      some (c 8 p1.toNatClampNeg))
    else 
    some (-1000000001 : Int32)
  else
    some (-1000000001 : Int32))
set_option maxRecDepth 20000 in
theorem cx_K_of (d : Nat) (p1 : Int32) (p2 : Int32) (c : (Nat → Nat → Int32)) (y : (Nat → Nat → Int32) × (Nat → Int64) × (Nat → Int64)) : ∀ a, fx_K_of p1 p2 c = some a → kv_C kM_K_of (d + 1) [.ref 0, .int p1, .int p2] (c, y) (some (.int a), (c, y)) := by
  refine kv_entryX (E := fun a : Int32 => (some (.int a), (c, y))) rfl (Nat.le_of_ble_eq_true rfl) (fun o => ?_)
  unfold fx_K_of
  show kv_X _ _ _ _ _ 0 [(0, .ref 0), (1, .int p1), (2, .int p2)] [] (c, y)
  refine kv_aload_n (pc := 0) 0 rfl rfl dk_K_of_0 ?_
  refine kv_getR (pc := 1) kf_K_10 kr_0 rfl kt_0_0 dk_K_of_1 ?_
  refine kv_getR (pc := 4) kf_K_58 kr_1 rfl kt_1_0 dk_K_of_4 ?_
  refine kv_astore_n (pc := 7) (lv' := [(3, .ref 2), (0, .ref 0), (1, .int p1), (2, .int p2)]) rfl (Nat.le_of_ble_eq_true rfl) rfl dk_K_of_7 ?_
  refine kv_aload_n (pc := 8) 0 rfl rfl dk_K_of_8 ?_
  refine kv_iload_n (pc := 9) 2 rfl rfl dk_K_of_9 ?_
  refine kv_cV_cZ (pc := 10) (as := [.int p1]) (st := []) ko_Lumps_has kc_3 rfl rfl kr_2 kw_543 (Nat.le_of_ble_eq_true rfl) rfl dk_K_of_10 (cx_Lumps_has d p1 c y) (fun b1 => ?_)
  refine kv_zif_ne (pc := 13) (tgt := 19) dk_K_of_13 rfl ?_ ?_
  · refine kv_iload_n (pc := 19) 3 rfl rfl dk_K_of_19 ?_
    refine kv_swIn (pc := 20) (v := (0 : Int32)) (tgt := 60) dk_K_of_20 (by decide) (by decide) rfl (by decide) ?_ (fun n2 => ?_)
    · refine kv_aload_n (pc := 60) 0 rfl rfl dk_K_of_60 ?_
      refine kv_getR (pc := 61) kf_K_105 kr_2 rfl kt_2_0 dk_K_of_61 ?_
      refine kv_iload_n (pc := 64) 2 rfl rfl dk_K_of_64 ?_
      refine kv_guard (fun g3 => ?_)
      refine kv_aldC (pc := 65) kr_3 kn_3 kl_3 g3 rfl dk_K_of_65 ?_
      exact kv_iret (pc := 66) (fun h => h) rfl dk_K_of_66
    refine kv_swIn (pc := 20) (v := (1 : Int32)) (tgt := 67) dk_K_of_20 (by decide) (by decide) rfl (by decide) ?_ (fun n4 => ?_)
    · refine kv_aload_n (pc := 67) 0 rfl rfl dk_K_of_67 ?_
      refine kv_getR (pc := 68) kf_K_108 kr_2 rfl kt_2_1 dk_K_of_68 ?_
      refine kv_iload_n (pc := 71) 2 rfl rfl dk_K_of_71 ?_
      refine kv_guard (fun g5 => ?_)
      refine kv_aldC (pc := 72) kr_4 kn_4 kl_4 g5 rfl dk_K_of_72 ?_
      exact kv_iret (pc := 73) (fun h => h) rfl dk_K_of_73
    refine kv_swIn (pc := 20) (v := (2 : Int32)) (tgt := 74) dk_K_of_20 (by decide) (by decide) rfl (by decide) ?_ (fun n6 => ?_)
    · refine kv_aload_n (pc := 74) 0 rfl rfl dk_K_of_74 ?_
      refine kv_getR (pc := 75) kf_K_111 kr_2 rfl kt_2_2 dk_K_of_75 ?_
      refine kv_iload_n (pc := 78) 2 rfl rfl dk_K_of_78 ?_
      refine kv_guard (fun g7 => ?_)
      refine kv_aldC (pc := 79) kr_5 kn_5 kl_5 g7 rfl dk_K_of_79 ?_
      exact kv_iret (pc := 80) (fun h => h) rfl dk_K_of_80
    refine kv_swIn (pc := 20) (v := (3 : Int32)) (tgt := 81) dk_K_of_20 (by decide) (by decide) rfl (by decide) ?_ (fun n8 => ?_)
    · refine kv_aload_n (pc := 81) 0 rfl rfl dk_K_of_81 ?_
      refine kv_getR (pc := 82) kf_K_114 kr_2 rfl kt_2_3 dk_K_of_82 ?_
      refine kv_iload_n (pc := 85) 2 rfl rfl dk_K_of_85 ?_
      refine kv_guard (fun g9 => ?_)
      refine kv_aldC (pc := 86) kr_6 kn_6 kl_6 g9 rfl dk_K_of_86 ?_
      exact kv_iret (pc := 87) (fun h => h) rfl dk_K_of_87
    refine kv_swIn (pc := 20) (v := (4 : Int32)) (tgt := 88) dk_K_of_20 (by decide) (by decide) rfl (by decide) ?_ (fun n10 => ?_)
    · refine kv_aload_n (pc := 88) 0 rfl rfl dk_K_of_88 ?_
      refine kv_getR (pc := 89) kf_K_117 kr_2 rfl kt_2_5 dk_K_of_89 ?_
      refine kv_iload_n (pc := 92) 2 rfl rfl dk_K_of_92 ?_
      refine kv_guard (fun g11 => ?_)
      refine kv_aldC (pc := 93) kr_8 kn_8 kl_8 g11 rfl dk_K_of_93 ?_
      refine kv_if_le (pc := 94) (tgt := 106) dk_K_of_94 rfl ?_ ?_
      · refine kv_ldc (pc := 106) (v := (-1000000004 : Int32)) kw_547 dk_K_of_106 ?_
        exact kv_iret (pc := 108) (fun h => h) rfl dk_K_of_108
      · refine kv_aload_n (pc := 97) 0 rfl rfl dk_K_of_97 ?_
        refine kv_getR (pc := 98) kf_K_120 kr_2 rfl kt_2_4 dk_K_of_98 ?_
        refine kv_iload_n (pc := 101) 2 rfl rfl dk_K_of_101 ?_
        refine kv_aldC (pc := 102) kr_7 kn_7 kl_7 g11 rfl dk_K_of_102 ?_
        refine kv_goto (pc := 103) (tgt := 108) dk_K_of_103 rfl ?_
        exact kv_iret (pc := 108) (fun h => h) rfl dk_K_of_108
    refine kv_swIn (pc := 20) (v := (5 : Int32)) (tgt := 109) dk_K_of_20 (by decide) (by decide) rfl (by decide) ?_ (fun n12 => ?_)
    · refine kv_aload_n (pc := 109) 0 rfl rfl dk_K_of_109 ?_
      refine kv_getR (pc := 110) kf_K_117 kr_2 rfl kt_2_5 dk_K_of_110 ?_
      refine kv_iload_n (pc := 113) 2 rfl rfl dk_K_of_113 ?_
      refine kv_guard (fun g13 => ?_)
      refine kv_aldC (pc := 114) kr_8 kn_8 kl_8 g13 rfl dk_K_of_114 ?_
      exact kv_iret (pc := 115) (fun h => h) rfl dk_K_of_115
    refine kv_swOut (pc := 20) (tgt := 116) dk_K_of_20 (by have qn2 := kv_ne (0 : Int32) (k := 0) rfl n2; have qn4 := kv_ne (1 : Int32) (k := 1) rfl n4; have qn6 := kv_ne (2 : Int32) (k := 2) rfl n6; have qn8 := kv_ne (3 : Int32) (k := 3) rfl n8; have qn10 := kv_ne (4 : Int32) (k := 4) rfl n10; have qn12 := kv_ne (5 : Int32) (k := 5) rfl n12; omega) (by decide) ?_
    refine kv_ldc (pc := 116) (v := (-1000000001 : Int32)) kw_530 dk_K_of_116 ?_
    exact kv_iret (pc := 118) (fun h => h) rfl dk_K_of_118
  · refine kv_ldc (pc := 16) (v := (-1000000001 : Int32)) kw_530 dk_K_of_16 ?_
    exact kv_iret (pc := 18) (fun h => h) rfl dk_K_of_18
theorem dk_D_isLump_0 : decode prog_13_method_4_code 0 = .ok (.iload_n 1, 1) := by decide +kernel
theorem dk_D_isLump_1 : decode prog_13_method_4_code 1 = .ok (.i2l, 1) := by decide +kernel
theorem dk_D_isLump_2 : decode prog_13_method_4_code 2 = .ok (.lconst 0, 1) := by decide +kernel
theorem dk_D_isLump_3 : decode prog_13_method_4_code 3 = .ok (.aload_n 0, 1) := by decide +kernel
theorem dk_D_isLump_4 : decode prog_13_method_4_code 4 = .ok (.getfield 9, 3) := by decide +kernel
theorem dk_D_isLump_7 : decode prog_13_method_4_code 7 = .ok (.iconst 1, 1) := by decide +kernel
theorem dk_D_isLump_8 : decode prog_13_method_4_code 8 = .ok (.iaload, 1) := by decide +kernel
theorem dk_D_isLump_9 : decode prog_13_method_4_code 9 = .ok (.iconst 1, 1) := by decide +kernel
theorem dk_D_isLump_10 : decode prog_13_method_4_code 10 = .ok (.isub, 1) := by decide +kernel
theorem dk_D_isLump_11 : decode prog_13_method_4_code 11 = .ok (.i2l, 1) := by decide +kernel
theorem dk_D_isLump_12 : decode prog_13_method_4_code 12 = .ok (.invokestatic 60, 3) := by decide +kernel
theorem dk_D_isLump_15 : decode prog_13_method_4_code 15 = .ok (.ireturn, 1) := by decide +kernel
noncomputable def fx_D_isLump (p1 : Int32) (m : (Nat → Nat → Int32)) : Option Bool :=
  kv_bind1 (fx_D_isIn p1.toInt64 (0 : Int64) ((m 85 1) - (1 : Int32)).toInt64) (fun b1 =>
  some b1)
set_option maxRecDepth 20000 in
theorem cx_D_isLump (d : Nat) (p1 : Int32) (c : (Nat → Nat → Int32)) (m : (Nat → Nat → Int32)) (f : (Nat → Int64)) (u : (Nat → Int64)) : ∀ a, fx_D_isLump p1 m = some a → kv_C kM_D_isLump (d + 1) [.ref 84, .int p1] (c, m, f, u) (some (.int (kv_b a)), (c, m, f, u)) := by
  refine kv_entryX (E := fun a : Bool => (some (.int (kv_b a)), (c, m, f, u))) rfl (Nat.le_of_ble_eq_true rfl) (fun o => ?_)
  unfold fx_D_isLump
  show kv_X _ _ _ _ _ 0 [(0, .ref 84), (1, .int p1)] [] (c, m, f, u)
  refine kv_iload_n (pc := 0) 1 rfl rfl dk_D_isLump_0 ?_
  refine kv_i2l (pc := 1) dk_D_isLump_1 ?_
  refine kv_lconst (pc := 2) (v := (0 : Int64)) dk_D_isLump_2 kkl_0 ?_
  refine kv_aload_n (pc := 3) 0 rfl rfl dk_D_isLump_3 ?_
  refine kv_getR (pc := 4) kf_D_9 kr_84 rfl kt_84_0 dk_D_isLump_4 ?_
  refine kv_iconst (pc := 7) (v := (1 : Int32)) dk_D_isLump_7 kki_1 ?_
  refine kv_aldM (pc := 8) kr_85 kn_85 kl_85 kkg_1_444 (j := 1) kkx_1 dk_D_isLump_8 ?_
  refine kv_iconst (pc := 9) (v := (1 : Int32)) dk_D_isLump_9 kki_1 ?_
  refine kv_isub (pc := 10) dk_D_isLump_10 ?_
  refine kv_i2l (pc := 11) dk_D_isLump_11 ?_
  refine kv_cS_mZ (pc := 12) (as := [.long p1.toInt64, .long (0 : Int64), .long ((m 85 1) - (1 : Int32)).toInt64]) (st := []) ko_D_isIn rfl kw_1330 (Nat.le_of_ble_eq_true rfl) rfl dk_D_isLump_12 (cx_D_isIn d p1.toInt64 (0 : Int64) ((m 85 1) - (1 : Int32)).toInt64 c m f u) (fun b1 => ?_)
  exact kv_zret (pc := 15) (b := b1) (fun h => h) rfl dk_D_isLump_15
theorem dk_D_of_0 : decode prog_13_method_12_code 0 = .ok (.aload_n 0, 1) := by decide +kernel
theorem dk_D_of_1 : decode prog_13_method_12_code 1 = .ok (.iload_n 1, 1) := by decide +kernel
theorem dk_D_of_2 : decode prog_13_method_12_code 2 = .ok (.invokevirtual 98, 3) := by decide +kernel
theorem dk_D_of_5 : decode prog_13_method_12_code 5 = .ok (.ifCond .eq 15, 3) := by decide +kernel
theorem dk_D_of_8 : decode prog_13_method_12_code 8 = .ok (.iload_n 2, 1) := by decide +kernel
theorem dk_D_of_9 : decode prog_13_method_12_code 9 = .ok (.i2l, 1) := by decide +kernel
theorem dk_D_of_10 : decode prog_13_method_12_code 10 = .ok (.lconst 0, 1) := by decide +kernel
theorem dk_D_of_11 : decode prog_13_method_12_code 11 = .ok (.ldc2_w 86, 3) := by decide +kernel
theorem dk_D_of_14 : decode prog_13_method_12_code 14 = .ok (.invokestatic 60, 3) := by decide +kernel
theorem dk_D_of_17 : decode prog_13_method_12_code 17 = .ok (.ifCond .ne 6, 3) := by decide +kernel
theorem dk_D_of_20 : decode prog_13_method_12_code 20 = .ok (.ldc 91, 2) := by decide +kernel
theorem dk_D_of_22 : decode prog_13_method_12_code 22 = .ok (.ireturn, 1) := by decide +kernel
theorem dk_D_of_23 : decode prog_13_method_12_code 23 = .ok (.iload_n 2, 1) := by decide +kernel
theorem dk_D_of_24 : decode prog_13_method_12_code 24 = .ok (.iconst 4, 1) := by decide +kernel
theorem dk_D_of_25 : decode prog_13_method_12_code 25 = .ok (.if_icmp .eq 12, 3) := by decide +kernel
theorem dk_D_of_28 : decode prog_13_method_12_code 28 = .ok (.aload_n 0, 1) := by decide +kernel
theorem dk_D_of_29 : decode prog_13_method_12_code 29 = .ok (.iload_n 1, 1) := by decide +kernel
theorem dk_D_of_30 : decode prog_13_method_12_code 30 = .ok (.iload_n 2, 1) := by decide +kernel
theorem dk_D_of_31 : decode prog_13_method_12_code 31 = .ok (.invokevirtual 68, 3) := by decide +kernel
theorem dk_D_of_34 : decode prog_13_method_12_code 34 = .ok (.goto 25, 3) := by decide +kernel
theorem dk_D_of_37 : decode prog_13_method_12_code 37 = .ok (.aload_n 0, 1) := by decide +kernel
theorem dk_D_of_38 : decode prog_13_method_12_code 38 = .ok (.iload_n 1, 1) := by decide +kernel
theorem dk_D_of_39 : decode prog_13_method_12_code 39 = .ok (.iconst 4, 1) := by decide +kernel
theorem dk_D_of_40 : decode prog_13_method_12_code 40 = .ok (.invokevirtual 68, 3) := by decide +kernel
theorem dk_D_of_43 : decode prog_13_method_12_code 43 = .ok (.ifCond .ne 8, 3) := by decide +kernel
theorem dk_D_of_46 : decode prog_13_method_12_code 46 = .ok (.ldc 102, 2) := by decide +kernel
theorem dk_D_of_48 : decode prog_13_method_12_code 48 = .ok (.goto 11, 3) := by decide +kernel
theorem dk_D_of_51 : decode prog_13_method_12_code 51 = .ok (.aload_n 0, 1) := by decide +kernel
theorem dk_D_of_52 : decode prog_13_method_12_code 52 = .ok (.iload_n 1, 1) := by decide +kernel
theorem dk_D_of_53 : decode prog_13_method_12_code 53 = .ok (.iconst 4, 1) := by decide +kernel
theorem dk_D_of_54 : decode prog_13_method_12_code 54 = .ok (.invokevirtual 68, 3) := by decide +kernel
theorem dk_D_of_57 : decode prog_13_method_12_code 57 = .ok (.iconst 1, 1) := by decide +kernel
theorem dk_D_of_58 : decode prog_13_method_12_code 58 = .ok (.isub, 1) := by decide +kernel
theorem dk_D_of_59 : decode prog_13_method_12_code 59 = .ok (.ireturn, 1) := by decide +kernel
noncomputable def fx_D_of (p1 : Int32) (p2 : Int32) (m : (Nat → Nat → Int32)) : Option Int32 :=
  kv_bind1 (fx_D_isLump p1 m) (fun b1 =>
  if b1 = true then
    kv_bind1 (fx_D_isIn p2.toInt64 (0 : Int64) (5 : Int64)) (fun b2 =>
    if b2 = true then
      if p2 = (4 : Int32) then
        kv_bind1 (fx_D_get p1 (4 : Int32) m) (fun v3 =>
        if v3 = 0 then
          some (-1000000004 : Int32)
        else
          kv_bind1 (fx_D_get p1 (4 : Int32) m) (fun v4 =>
          some (v4 - (1 : Int32))))
      else
        kv_bind1 (fx_D_get p1 p2 m) (fun v5 =>
        some v5)
    else
      some (-1000000001 : Int32))
  else
    some (-1000000001 : Int32))
set_option maxRecDepth 20000 in
theorem cx_D_of (d : Nat) (p1 : Int32) (p2 : Int32) (c : (Nat → Nat → Int32)) (m : (Nat → Nat → Int32)) (f : (Nat → Int64)) (u : (Nat → Int64)) : ∀ a, fx_D_of p1 p2 m = some a → kv_C kM_D_of (d + 2) [.ref 84, .int p1, .int p2] (c, m, f, u) (some (.int a), (c, m, f, u)) := by
  refine kv_entryX (E := fun a : Int32 => (some (.int a), (c, m, f, u))) rfl (Nat.le_of_ble_eq_true rfl) (fun o => ?_)
  unfold fx_D_of
  show kv_X _ _ _ _ _ 0 [(0, .ref 84), (1, .int p1), (2, .int p2)] [] (c, m, f, u)
  refine kv_aload_n (pc := 0) 0 rfl rfl dk_D_of_0 ?_
  refine kv_iload_n (pc := 1) 1 rfl rfl dk_D_of_1 ?_
  refine kv_cV_mZ (pc := 2) (as := [.int p1]) (st := []) ko_D_isLump kc_11 rfl rfl kr_84 kw_1362 (Nat.le_of_ble_eq_true rfl) rfl dk_D_of_2 (cx_D_isLump d p1 c m f u) (fun b1 => ?_)
  refine kv_zif_eq (pc := 5) (tgt := 20) dk_D_of_5 rfl ?_ ?_
  · refine kv_ldc (pc := 20) (v := (-1000000001 : Int32)) kw_1354 dk_D_of_20 ?_
    exact kv_iret (pc := 22) (fun h => h) rfl dk_D_of_22
  · refine kv_iload_n (pc := 8) 2 rfl rfl dk_D_of_8 ?_
    refine kv_i2l (pc := 9) dk_D_of_9 ?_
    refine kv_lconst (pc := 10) (v := (0 : Int64)) dk_D_of_10 kkl_0 ?_
    refine kv_ldc2 (pc := 11) (v := (5 : Int64)) kw_1349 dk_D_of_11 ?_
    refine kv_cS_mZ (pc := 14) (as := [.long p2.toInt64, .long (0 : Int64), .long (5 : Int64)]) (st := []) ko_D_isIn rfl kw_1330 (Nat.le_of_ble_eq_true rfl) rfl dk_D_of_14 (cx_D_isIn (d + 1) p2.toInt64 (0 : Int64) (5 : Int64) c m f u) (fun b2 => ?_)
    refine kv_zif_ne (pc := 17) (tgt := 23) dk_D_of_17 rfl ?_ ?_
    · refine kv_iload_n (pc := 23) 2 rfl rfl dk_D_of_23 ?_
      refine kv_iconst (pc := 24) (v := (4 : Int32)) dk_D_of_24 kki_4 ?_
      refine kv_icmp_eq (pc := 25) (tgt := 37) dk_D_of_25 rfl ?_ ?_
      · refine kv_aload_n (pc := 37) 0 rfl rfl dk_D_of_37 ?_
        refine kv_iload_n (pc := 38) 1 rfl rfl dk_D_of_38 ?_
        refine kv_iconst (pc := 39) (v := (4 : Int32)) dk_D_of_39 kki_4 ?_
        refine kv_cV_mI (pc := 40) (as := [.int p1, .int (4 : Int32)]) (st := []) ko_D_get kc_11 rfl rfl kr_84 kw_1341 (Nat.le_of_ble_eq_true rfl) rfl dk_D_of_40 (cx_D_get (d + 1) p1 (4 : Int32) c m f u) (fun v3 => ?_)
        refine kv_if_ne (pc := 43) (tgt := 51) dk_D_of_43 rfl ?_ ?_
        · refine kv_aload_n (pc := 51) 0 rfl rfl dk_D_of_51 ?_
          refine kv_iload_n (pc := 52) 1 rfl rfl dk_D_of_52 ?_
          refine kv_iconst (pc := 53) (v := (4 : Int32)) dk_D_of_53 kki_4 ?_
          refine kv_cV_mI (pc := 54) (as := [.int p1, .int (4 : Int32)]) (st := []) ko_D_get kc_11 rfl rfl kr_84 kw_1341 (Nat.le_of_ble_eq_true rfl) rfl dk_D_of_54 (cx_D_get (d + 1) p1 (4 : Int32) c m f u) (fun v4 => ?_)
          refine kv_iconst (pc := 57) (v := (1 : Int32)) dk_D_of_57 kki_1 ?_
          refine kv_isub (pc := 58) dk_D_of_58 ?_
          exact kv_iret (pc := 59) (fun h => h) rfl dk_D_of_59
        · refine kv_ldc (pc := 46) (v := (-1000000004 : Int32)) kw_1366 dk_D_of_46 ?_
          refine kv_goto (pc := 48) (tgt := 59) dk_D_of_48 rfl ?_
          exact kv_iret (pc := 59) (fun h => h) rfl dk_D_of_59
      · refine kv_aload_n (pc := 28) 0 rfl rfl dk_D_of_28 ?_
        refine kv_iload_n (pc := 29) 1 rfl rfl dk_D_of_29 ?_
        refine kv_iload_n (pc := 30) 2 rfl rfl dk_D_of_30 ?_
        refine kv_cV_mI (pc := 31) (as := [.int p1, .int p2]) (st := []) ko_D_get kc_11 rfl rfl kr_84 kw_1341 (Nat.le_of_ble_eq_true rfl) rfl dk_D_of_31 (cx_D_get (d + 1) p1 p2 c m f u) (fun v5 => ?_)
        refine kv_goto (pc := 34) (tgt := 59) dk_D_of_34 rfl ?_
        exact kv_iret (pc := 59) (fun h => h) rfl dk_D_of_59
    · refine kv_ldc (pc := 20) (v := (-1000000001 : Int32)) kw_1354 dk_D_of_20 ?_
      exact kv_iret (pc := 22) (fun h => h) rfl dk_D_of_22
theorem dk_Lumps_washOff_0 : decode prog_5_method_6_code 0 = .ok (.aload_n 0, 1) := by decide +kernel
theorem dk_Lumps_washOff_1 : decode prog_5_method_6_code 1 = .ok (.getfield 21, 3) := by decide +kernel
theorem dk_Lumps_washOff_4 : decode prog_5_method_6_code 4 = .ok (.iload_n 1, 1) := by decide +kernel
theorem dk_Lumps_washOff_5 : decode prog_5_method_6_code 5 = .ok (.dup2, 1) := by decide +kernel
theorem dk_Lumps_washOff_6 : decode prog_5_method_6_code 6 = .ok (.iaload, 1) := by decide +kernel
theorem dk_Lumps_washOff_7 : decode prog_5_method_6_code 7 = .ok (.iload_n 2, 1) := by decide +kernel
theorem dk_Lumps_washOff_8 : decode prog_5_method_6_code 8 = .ok (.isub, 1) := by decide +kernel
theorem dk_Lumps_washOff_9 : decode prog_5_method_6_code 9 = .ok (.iastore, 1) := by decide +kernel
theorem dk_Lumps_washOff_10 : decode prog_5_method_6_code 10 = .ok (.aload_n 0, 1) := by decide +kernel
theorem dk_Lumps_washOff_11 : decode prog_5_method_6_code 11 = .ok (.getfield 24, 3) := by decide +kernel
theorem dk_Lumps_washOff_14 : decode prog_5_method_6_code 14 = .ok (.iload_n 1, 1) := by decide +kernel
theorem dk_Lumps_washOff_15 : decode prog_5_method_6_code 15 = .ok (.iload_n 3, 1) := by decide +kernel
theorem dk_Lumps_washOff_16 : decode prog_5_method_6_code 16 = .ok (.iastore, 1) := by decide +kernel
theorem dk_Lumps_washOff_17 : decode prog_5_method_6_code 17 = .ok (.aload_n 0, 1) := by decide +kernel
theorem dk_Lumps_washOff_18 : decode prog_5_method_6_code 18 = .ok (.getfield 27, 3) := by decide +kernel
theorem dk_Lumps_washOff_21 : decode prog_5_method_6_code 21 = .ok (.iload_n 1, 1) := by decide +kernel
theorem dk_Lumps_washOff_22 : decode prog_5_method_6_code 22 = .ok (.dup2, 1) := by decide +kernel
theorem dk_Lumps_washOff_23 : decode prog_5_method_6_code 23 = .ok (.iaload, 1) := by decide +kernel
theorem dk_Lumps_washOff_24 : decode prog_5_method_6_code 24 = .ok (.iconst 1, 1) := by decide +kernel
theorem dk_Lumps_washOff_25 : decode prog_5_method_6_code 25 = .ok (.iadd, 1) := by decide +kernel
theorem dk_Lumps_washOff_26 : decode prog_5_method_6_code 26 = .ok (.iastore, 1) := by decide +kernel
theorem dk_Lumps_washOff_27 : decode prog_5_method_6_code 27 = .ok (.aload_n 0, 1) := by decide +kernel
theorem dk_Lumps_washOff_28 : decode prog_5_method_6_code 28 = .ok (.getfield 21, 3) := by decide +kernel
theorem dk_Lumps_washOff_31 : decode prog_5_method_6_code 31 = .ok (.iload_n 1, 1) := by decide +kernel
theorem dk_Lumps_washOff_32 : decode prog_5_method_6_code 32 = .ok (.iaload, 1) := by decide +kernel
theorem dk_Lumps_washOff_33 : decode prog_5_method_6_code 33 = .ok (.ireturn, 1) := by decide +kernel
noncomputable def fx_Lumps_washOff (p1 : Int32) (p2 : Int32) (p3 : Int32) (c : (Nat → Nat → Int32)) : Option (Int32 × (Nat → Nat → Int32)) :=
  kv_gd (kv_in p1 10) (
  kv_let (kv_st c 6 p1.toNatClampNeg ((c 6 p1.toNatClampNeg) - p2)) (fun c2 =>
  kv_let (kv_st c2 7 p1.toNatClampNeg p3) (fun c3 =>
  kv_let (kv_st c3 8 p1.toNatClampNeg ((c3 8 p1.toNatClampNeg) + (1 : Int32))) (fun c4 =>
  some ((c4 6 p1.toNatClampNeg), c4)))))
set_option maxRecDepth 20000 in
theorem cx_Lumps_washOff (d : Nat) (p1 : Int32) (p2 : Int32) (p3 : Int32) (c : (Nat → Nat → Int32)) (y : (Nat → Nat → Int32) × (Nat → Int64) × (Nat → Int64)) : ∀ a, fx_Lumps_washOff p1 p2 p3 c = some a → kv_C kM_Lumps_washOff (d + 0) [.ref 2, .int p1, .int p2, .int p3] (c, y) (some (.int a.1), (a.2, y)) := by
  refine kv_entryX (E := fun a : (Int32 × (Nat → Nat → Int32)) => (some (.int a.1), (a.2, y))) rfl (Nat.le_of_ble_eq_true rfl) (fun o => ?_)
  unfold fx_Lumps_washOff
  show kv_X _ _ _ _ _ 0 [(0, .ref 2), (1, .int p1), (2, .int p2), (3, .int p3)] [] (c, y)
  refine kv_aload_n (pc := 0) 0 rfl rfl dk_Lumps_washOff_0 ?_
  refine kv_getR (pc := 1) kf_Lumps_21 kr_2 rfl kt_2_3 dk_Lumps_washOff_1 ?_
  refine kv_iload_n (pc := 4) 1 rfl rfl dk_Lumps_washOff_4 ?_
  refine kv_dup2RI (pc := 5) dk_Lumps_washOff_5 ?_
  refine kv_guard (fun g1 => ?_)
  refine kv_aldC (pc := 6) kr_6 kn_6 kl_6 g1 rfl dk_Lumps_washOff_6 ?_
  refine kv_iload_n (pc := 7) 2 rfl rfl dk_Lumps_washOff_7 ?_
  refine kv_isub (pc := 8) dk_Lumps_washOff_8 ?_
  refine kv_astC (pc := 9) kr_6 kn_6 kl_6 g1 rfl dk_Lumps_washOff_9 (fun c2 => ?_)
  refine kv_aload_n (pc := 10) 0 rfl rfl dk_Lumps_washOff_10 ?_
  refine kv_getR (pc := 11) kf_Lumps_24 kr_2 rfl kt_2_4 dk_Lumps_washOff_11 ?_
  refine kv_iload_n (pc := 14) 1 rfl rfl dk_Lumps_washOff_14 ?_
  refine kv_iload_n (pc := 15) 3 rfl rfl dk_Lumps_washOff_15 ?_
  refine kv_astC (pc := 16) kr_7 kn_7 kl_7 g1 rfl dk_Lumps_washOff_16 (fun c3 => ?_)
  refine kv_aload_n (pc := 17) 0 rfl rfl dk_Lumps_washOff_17 ?_
  refine kv_getR (pc := 18) kf_Lumps_27 kr_2 rfl kt_2_5 dk_Lumps_washOff_18 ?_
  refine kv_iload_n (pc := 21) 1 rfl rfl dk_Lumps_washOff_21 ?_
  refine kv_dup2RI (pc := 22) dk_Lumps_washOff_22 ?_
  refine kv_aldC (pc := 23) kr_8 kn_8 kl_8 g1 rfl dk_Lumps_washOff_23 ?_
  refine kv_iconst (pc := 24) (v := (1 : Int32)) dk_Lumps_washOff_24 kki_1 ?_
  refine kv_iadd (pc := 25) dk_Lumps_washOff_25 ?_
  refine kv_astC (pc := 26) kr_8 kn_8 kl_8 g1 rfl dk_Lumps_washOff_26 (fun c4 => ?_)
  refine kv_aload_n (pc := 27) 0 rfl rfl dk_Lumps_washOff_27 ?_
  refine kv_getR (pc := 28) kf_Lumps_21 kr_2 rfl kt_2_3 dk_Lumps_washOff_28 ?_
  refine kv_iload_n (pc := 31) 1 rfl rfl dk_Lumps_washOff_31 ?_
  refine kv_aldC (pc := 32) kr_6 kn_6 kl_6 g1 rfl dk_Lumps_washOff_32 ?_
  exact kv_iret (pc := 33) (fun h => h) rfl dk_Lumps_washOff_33
theorem dk_K_wash_0 : decode prog_1_method_5_code 0 = .ok (.aload_n 0, 1) := by decide +kernel
theorem dk_K_wash_1 : decode prog_1_method_5_code 1 = .ok (.getfield 10, 3) := by decide +kernel
theorem dk_K_wash_4 : decode prog_1_method_5_code 4 = .ok (.getfield 58, 3) := by decide +kernel
theorem dk_K_wash_7 : decode prog_1_method_5_code 7 = .ok (.iload_n 1, 1) := by decide +kernel
theorem dk_K_wash_8 : decode prog_1_method_5_code 8 = .ok (.invokevirtual 101, 3) := by decide +kernel
theorem dk_K_wash_11 : decode prog_1_method_5_code 11 = .ok (.ifCond .eq 12, 3) := by decide +kernel
theorem dk_K_wash_14 : decode prog_1_method_5_code 14 = .ok (.iload_n 2, 1) := by decide +kernel
theorem dk_K_wash_15 : decode prog_1_method_5_code 15 = .ok (.iconst 0, 1) := by decide +kernel
theorem dk_K_wash_16 : decode prog_1_method_5_code 16 = .ok (.iconst 3, 1) := by decide +kernel
theorem dk_K_wash_17 : decode prog_1_method_5_code 17 = .ok (.invokestatic 54, 3) := by decide +kernel
theorem dk_K_wash_20 : decode prog_1_method_5_code 20 = .ok (.ifCond .ne 6, 3) := by decide +kernel
theorem dk_K_wash_23 : decode prog_1_method_5_code 23 = .ok (.ldc 84, 2) := by decide +kernel
theorem dk_K_wash_25 : decode prog_1_method_5_code 25 = .ok (.ireturn, 1) := by decide +kernel
theorem dk_K_wash_26 : decode prog_1_method_5_code 26 = .ok (.aload_n 0, 1) := by decide +kernel
theorem dk_K_wash_27 : decode prog_1_method_5_code 27 = .ok (.getfield 10, 3) := by decide +kernel
theorem dk_K_wash_30 : decode prog_1_method_5_code 30 = .ok (.getfield 58, 3) := by decide +kernel
theorem dk_K_wash_33 : decode prog_1_method_5_code 33 = .ok (.iload_n 1, 1) := by decide +kernel
theorem dk_K_wash_34 : decode prog_1_method_5_code 34 = .ok (.aload_n 0, 1) := by decide +kernel
theorem dk_K_wash_35 : decode prog_1_method_5_code 35 = .ok (.getfield 10, 3) := by decide +kernel
theorem dk_K_wash_38 : decode prog_1_method_5_code 38 = .ok (.getfield 85, 3) := by decide +kernel
theorem dk_K_wash_41 : decode prog_1_method_5_code 41 = .ok (.iload_n 2, 1) := by decide +kernel
theorem dk_K_wash_42 : decode prog_1_method_5_code 42 = .ok (.iaload, 1) := by decide +kernel
theorem dk_K_wash_43 : decode prog_1_method_5_code 43 = .ok (.aload_n 0, 1) := by decide +kernel
theorem dk_K_wash_44 : decode prog_1_method_5_code 44 = .ok (.getfield 10, 3) := by decide +kernel
theorem dk_K_wash_47 : decode prog_1_method_5_code 47 = .ok (.getfield 124, 3) := by decide +kernel
theorem dk_K_wash_50 : decode prog_1_method_5_code 50 = .ok (.invokevirtual 127, 3) := by decide +kernel
theorem dk_K_wash_53 : decode prog_1_method_5_code 53 = .ok (.ireturn, 1) := by decide +kernel
noncomputable def fx_K_wash (p1 : Int32) (p2 : Int32) (c : (Nat → Nat → Int32)) : Option (Int32 × (Nat → Nat → Int32)) :=
  kv_bind1 (fx_Lumps_has p1 c) (fun b1 =>
  if b1 = true then
    kv_bind1 (fx_K_isWithin p2 (0 : Int32) (3 : Int32)) (fun b2 =>
    if b2 = true then
      kv_gd (kv_in p2 4) (
      kv_bind2 (fx_Lumps_washOff p1 (c 25 p2.toNatClampNeg) (c 1 5) c) (fun v4 c5 =>
      some (v4, c5)))
    else
      some ((-1000000001 : Int32), c))
  else
    some ((-1000000001 : Int32), c))
set_option maxRecDepth 20000 in
theorem cx_K_wash (d : Nat) (p1 : Int32) (p2 : Int32) (c : (Nat → Nat → Int32)) (y : (Nat → Nat → Int32) × (Nat → Int64) × (Nat → Int64)) : ∀ a, fx_K_wash p1 p2 c = some a → kv_C kM_K_wash (d + 1) [.ref 0, .int p1, .int p2] (c, y) (some (.int a.1), (a.2, y)) := by
  refine kv_entryX (E := fun a : (Int32 × (Nat → Nat → Int32)) => (some (.int a.1), (a.2, y))) rfl (Nat.le_of_ble_eq_true rfl) (fun o => ?_)
  unfold fx_K_wash
  show kv_X _ _ _ _ _ 0 [(0, .ref 0), (1, .int p1), (2, .int p2)] [] (c, y)
  refine kv_aload_n (pc := 0) 0 rfl rfl dk_K_wash_0 ?_
  refine kv_getR (pc := 1) kf_K_10 kr_0 rfl kt_0_0 dk_K_wash_1 ?_
  refine kv_getR (pc := 4) kf_K_58 kr_1 rfl kt_1_0 dk_K_wash_4 ?_
  refine kv_iload_n (pc := 7) 1 rfl rfl dk_K_wash_7 ?_
  refine kv_cV_cZ (pc := 8) (as := [.int p1]) (st := []) ko_Lumps_has kc_3 rfl rfl kr_2 kw_543 (Nat.le_of_ble_eq_true rfl) rfl dk_K_wash_8 (cx_Lumps_has d p1 c y) (fun b1 => ?_)
  refine kv_zif_eq (pc := 11) (tgt := 23) dk_K_wash_11 rfl ?_ ?_
  · refine kv_ldc (pc := 23) (v := (-1000000001 : Int32)) kw_530 dk_K_wash_23 ?_
    exact kv_iret (pc := 25) (fun h => h) rfl dk_K_wash_25
  · refine kv_iload_n (pc := 14) 2 rfl rfl dk_K_wash_14 ?_
    refine kv_iconst (pc := 15) (v := (0 : Int32)) dk_K_wash_15 kki_0 ?_
    refine kv_iconst (pc := 16) (v := (3 : Int32)) dk_K_wash_16 kki_3 ?_
    refine kv_cS_cZ (pc := 17) (as := [.int p2, .int (0 : Int32), .int (3 : Int32)]) (st := []) ko_K_isWithin rfl kw_512 (Nat.le_of_ble_eq_true rfl) rfl dk_K_wash_17 (cx_K_isWithin d p2 (0 : Int32) (3 : Int32) c y) (fun b2 => ?_)
    refine kv_zif_ne (pc := 20) (tgt := 26) dk_K_wash_20 rfl ?_ ?_
    · refine kv_aload_n (pc := 26) 0 rfl rfl dk_K_wash_26 ?_
      refine kv_getR (pc := 27) kf_K_10 kr_0 rfl kt_0_0 dk_K_wash_27 ?_
      refine kv_getR (pc := 30) kf_K_58 kr_1 rfl kt_1_0 dk_K_wash_30 ?_
      refine kv_iload_n (pc := 33) 1 rfl rfl dk_K_wash_33 ?_
      refine kv_aload_n (pc := 34) 0 rfl rfl dk_K_wash_34 ?_
      refine kv_getR (pc := 35) kf_K_10 kr_0 rfl kt_0_0 dk_K_wash_35 ?_
      refine kv_getR (pc := 38) kf_K_85 kr_1 rfl kt_1_4 dk_K_wash_38 ?_
      refine kv_iload_n (pc := 41) 2 rfl rfl dk_K_wash_41 ?_
      refine kv_guard (fun g3 => ?_)
      refine kv_aldC (pc := 42) kr_25 kn_25 kl_25 g3 rfl dk_K_wash_42 ?_
      refine kv_aload_n (pc := 43) 0 rfl rfl dk_K_wash_43 ?_
      refine kv_getR (pc := 44) kf_K_10 kr_0 rfl kt_0_0 dk_K_wash_44 ?_
      refine kv_getC (pc := 47) kf_K_124 kr_1 kn_1 rfl dk_K_wash_47 ?_
      refine kv_cV_cIc (pc := 50) (as := [.int p1, .int (c 25 p2.toNatClampNeg), .int (c 1 5)]) (st := []) ko_Lumps_washOff kc_3 rfl rfl kr_2 kw_552 (Nat.le_of_ble_eq_true rfl) rfl dk_K_wash_50 (cx_Lumps_washOff d p1 (c 25 p2.toNatClampNeg) (c 1 5) c y) (fun v4 c5 => ?_)
      exact kv_iret (pc := 53) (fun h => h) rfl dk_K_wash_53
    · refine kv_ldc (pc := 23) (v := (-1000000001 : Int32)) kw_530 dk_K_wash_23 ?_
      exact kv_iret (pc := 25) (fun h => h) rfl dk_K_wash_25
theorem dk_D_wash_0 : decode prog_13_method_13_code 0 = .ok (.aload_n 0, 1) := by decide +kernel
theorem dk_D_wash_1 : decode prog_13_method_13_code 1 = .ok (.iload_n 1, 1) := by decide +kernel
theorem dk_D_wash_2 : decode prog_13_method_13_code 2 = .ok (.invokevirtual 98, 3) := by decide +kernel
theorem dk_D_wash_5 : decode prog_13_method_13_code 5 = .ok (.ifCond .eq 15, 3) := by decide +kernel
theorem dk_D_wash_8 : decode prog_13_method_13_code 8 = .ok (.iload_n 2, 1) := by decide +kernel
theorem dk_D_wash_9 : decode prog_13_method_13_code 9 = .ok (.i2l, 1) := by decide +kernel
theorem dk_D_wash_10 : decode prog_13_method_13_code 10 = .ok (.lconst 0, 1) := by decide +kernel
theorem dk_D_wash_11 : decode prog_13_method_13_code 11 = .ok (.ldc2_w 92, 3) := by decide +kernel
theorem dk_D_wash_14 : decode prog_13_method_13_code 14 = .ok (.invokestatic 60, 3) := by decide +kernel
theorem dk_D_wash_17 : decode prog_13_method_13_code 17 = .ok (.ifCond .ne 6, 3) := by decide +kernel
theorem dk_D_wash_20 : decode prog_13_method_13_code 20 = .ok (.ldc 91, 2) := by decide +kernel
theorem dk_D_wash_22 : decode prog_13_method_13_code 22 = .ok (.ireturn, 1) := by decide +kernel
theorem dk_D_wash_23 : decode prog_13_method_13_code 23 = .ok (.bipush 10, 2) := by decide +kernel
theorem dk_D_wash_25 : decode prog_13_method_13_code 25 = .ok (.bipush 6, 2) := by decide +kernel
theorem dk_D_wash_27 : decode prog_13_method_13_code 27 = .ok (.iload_n 1, 1) := by decide +kernel
theorem dk_D_wash_28 : decode prog_13_method_13_code 28 = .ok (.imul, 1) := by decide +kernel
theorem dk_D_wash_29 : decode prog_13_method_13_code 29 = .ok (.iadd, 1) := by decide +kernel
theorem dk_D_wash_30 : decode prog_13_method_13_code 30 = .ok (.istore_n 3, 1) := by decide +kernel
theorem dk_D_wash_31 : decode prog_13_method_13_code 31 = .ok (.aload_n 0, 1) := by decide +kernel
theorem dk_D_wash_32 : decode prog_13_method_13_code 32 = .ok (.getfield 9, 3) := by decide +kernel
theorem dk_D_wash_35 : decode prog_13_method_13_code 35 = .ok (.iload_n 3, 1) := by decide +kernel
theorem dk_D_wash_36 : decode prog_13_method_13_code 36 = .ok (.iconst 3, 1) := by decide +kernel
theorem dk_D_wash_37 : decode prog_13_method_13_code 37 = .ok (.iadd, 1) := by decide +kernel
theorem dk_D_wash_38 : decode prog_13_method_13_code 38 = .ok (.dup2, 1) := by decide +kernel
theorem dk_D_wash_39 : decode prog_13_method_13_code 39 = .ok (.iaload, 1) := by decide +kernel
theorem dk_D_wash_40 : decode prog_13_method_13_code 40 = .ok (.aload_n 0, 1) := by decide +kernel
theorem dk_D_wash_41 : decode prog_13_method_13_code 41 = .ok (.getfield 9, 3) := by decide +kernel
theorem dk_D_wash_44 : decode prog_13_method_13_code 44 = .ok (.bipush 76, 2) := by decide +kernel
theorem dk_D_wash_46 : decode prog_13_method_13_code 46 = .ok (.iload_n 2, 1) := by decide +kernel
theorem dk_D_wash_47 : decode prog_13_method_13_code 47 = .ok (.iadd, 1) := by decide +kernel
theorem dk_D_wash_48 : decode prog_13_method_13_code 48 = .ok (.iaload, 1) := by decide +kernel
theorem dk_D_wash_49 : decode prog_13_method_13_code 49 = .ok (.isub, 1) := by decide +kernel
theorem dk_D_wash_50 : decode prog_13_method_13_code 50 = .ok (.iastore, 1) := by decide +kernel
theorem dk_D_wash_51 : decode prog_13_method_13_code 51 = .ok (.aload_n 0, 1) := by decide +kernel
theorem dk_D_wash_52 : decode prog_13_method_13_code 52 = .ok (.getfield 9, 3) := by decide +kernel
theorem dk_D_wash_55 : decode prog_13_method_13_code 55 = .ok (.iload_n 3, 1) := by decide +kernel
theorem dk_D_wash_56 : decode prog_13_method_13_code 56 = .ok (.iconst 4, 1) := by decide +kernel
theorem dk_D_wash_57 : decode prog_13_method_13_code 57 = .ok (.iadd, 1) := by decide +kernel
theorem dk_D_wash_58 : decode prog_13_method_13_code 58 = .ok (.aload_n 0, 1) := by decide +kernel
theorem dk_D_wash_59 : decode prog_13_method_13_code 59 = .ok (.getfield 9, 3) := by decide +kernel
theorem dk_D_wash_62 : decode prog_13_method_13_code 62 = .ok (.iconst 0, 1) := by decide +kernel
theorem dk_D_wash_63 : decode prog_13_method_13_code 63 = .ok (.iaload, 1) := by decide +kernel
theorem dk_D_wash_64 : decode prog_13_method_13_code 64 = .ok (.iconst 1, 1) := by decide +kernel
theorem dk_D_wash_65 : decode prog_13_method_13_code 65 = .ok (.iadd, 1) := by decide +kernel
theorem dk_D_wash_66 : decode prog_13_method_13_code 66 = .ok (.iastore, 1) := by decide +kernel
theorem dk_D_wash_67 : decode prog_13_method_13_code 67 = .ok (.aload_n 0, 1) := by decide +kernel
theorem dk_D_wash_68 : decode prog_13_method_13_code 68 = .ok (.getfield 9, 3) := by decide +kernel
theorem dk_D_wash_71 : decode prog_13_method_13_code 71 = .ok (.iload_n 3, 1) := by decide +kernel
theorem dk_D_wash_72 : decode prog_13_method_13_code 72 = .ok (.iconst 5, 1) := by decide +kernel
theorem dk_D_wash_73 : decode prog_13_method_13_code 73 = .ok (.iadd, 1) := by decide +kernel
theorem dk_D_wash_74 : decode prog_13_method_13_code 74 = .ok (.dup2, 1) := by decide +kernel
theorem dk_D_wash_75 : decode prog_13_method_13_code 75 = .ok (.iaload, 1) := by decide +kernel
theorem dk_D_wash_76 : decode prog_13_method_13_code 76 = .ok (.iconst 1, 1) := by decide +kernel
theorem dk_D_wash_77 : decode prog_13_method_13_code 77 = .ok (.iadd, 1) := by decide +kernel
theorem dk_D_wash_78 : decode prog_13_method_13_code 78 = .ok (.iastore, 1) := by decide +kernel
theorem dk_D_wash_79 : decode prog_13_method_13_code 79 = .ok (.aload_n 0, 1) := by decide +kernel
theorem dk_D_wash_80 : decode prog_13_method_13_code 80 = .ok (.getfield 9, 3) := by decide +kernel
theorem dk_D_wash_83 : decode prog_13_method_13_code 83 = .ok (.iload_n 3, 1) := by decide +kernel
theorem dk_D_wash_84 : decode prog_13_method_13_code 84 = .ok (.iconst 3, 1) := by decide +kernel
theorem dk_D_wash_85 : decode prog_13_method_13_code 85 = .ok (.iadd, 1) := by decide +kernel
theorem dk_D_wash_86 : decode prog_13_method_13_code 86 = .ok (.iaload, 1) := by decide +kernel
theorem dk_D_wash_87 : decode prog_13_method_13_code 87 = .ok (.ireturn, 1) := by decide +kernel
noncomputable def fx_D_wash (p1 : Int32) (p2 : Int32) (m : (Nat → Nat → Int32)) : Option (Int32 × (Nat → Nat → Int32)) :=
  kv_bind1 (fx_D_isLump p1 m) (fun b1 =>
  if b1 = true then
    kv_bind1 (fx_D_isIn p2.toInt64 (0 : Int64) (3 : Int64)) (fun b2 =>
    if b2 = true then
      kv_let ((10 : Int32) + ((6 : Int32) * p1)) (fun v3 =>
      kv_gd (kv_in (v3 + (3 : Int32)) 444) (
      kv_gd (kv_in ((76 : Int32) + p2) 444) (
      kv_let (kv_st m 85 (v3 + (3 : Int32)).toNatClampNeg ((m 85 (v3 + (3 : Int32)).toNatClampNeg) - (m 85 ((76 : Int32) + p2).toNatClampNeg))) (fun m6 =>
      kv_gd (kv_in (v3 + (4 : Int32)) 444) (
      kv_let (kv_st m6 85 (v3 + (4 : Int32)).toNatClampNeg ((m6 85 0) + (1 : Int32))) (fun m8 =>
      kv_gd (kv_in (v3 + (5 : Int32)) 444) (
      kv_let (kv_st m8 85 (v3 + (5 : Int32)).toNatClampNeg ((m8 85 (v3 + (5 : Int32)).toNatClampNeg) + (1 : Int32))) (fun m10 =>
      some ((m10 85 (v3 + (3 : Int32)).toNatClampNeg), m10)))))))))
    else
      some ((-1000000001 : Int32), m))
  else
    some ((-1000000001 : Int32), m))
set_option maxRecDepth 20000 in
theorem cx_D_wash (d : Nat) (p1 : Int32) (p2 : Int32) (c : (Nat → Nat → Int32)) (m : (Nat → Nat → Int32)) (f : (Nat → Int64)) (u : (Nat → Int64)) : ∀ a, fx_D_wash p1 p2 m = some a → kv_C kM_D_wash (d + 2) [.ref 84, .int p1, .int p2] (c, m, f, u) (some (.int a.1), (c, a.2, f, u)) := by
  refine kv_entryX (E := fun a : (Int32 × (Nat → Nat → Int32)) => (some (.int a.1), (c, a.2, f, u))) rfl (Nat.le_of_ble_eq_true rfl) (fun o => ?_)
  unfold fx_D_wash
  show kv_X _ _ _ _ _ 0 [(0, .ref 84), (1, .int p1), (2, .int p2)] [] (c, m, f, u)
  refine kv_aload_n (pc := 0) 0 rfl rfl dk_D_wash_0 ?_
  refine kv_iload_n (pc := 1) 1 rfl rfl dk_D_wash_1 ?_
  refine kv_cV_mZ (pc := 2) (as := [.int p1]) (st := []) ko_D_isLump kc_11 rfl rfl kr_84 kw_1362 (Nat.le_of_ble_eq_true rfl) rfl dk_D_wash_2 (cx_D_isLump d p1 c m f u) (fun b1 => ?_)
  refine kv_zif_eq (pc := 5) (tgt := 20) dk_D_wash_5 rfl ?_ ?_
  · refine kv_ldc (pc := 20) (v := (-1000000001 : Int32)) kw_1354 dk_D_wash_20 ?_
    exact kv_iret (pc := 22) (fun h => h) rfl dk_D_wash_22
  · refine kv_iload_n (pc := 8) 2 rfl rfl dk_D_wash_8 ?_
    refine kv_i2l (pc := 9) dk_D_wash_9 ?_
    refine kv_lconst (pc := 10) (v := (0 : Int64)) dk_D_wash_10 kkl_0 ?_
    refine kv_ldc2 (pc := 11) (v := (3 : Int64)) kw_1355 dk_D_wash_11 ?_
    refine kv_cS_mZ (pc := 14) (as := [.long p2.toInt64, .long (0 : Int64), .long (3 : Int64)]) (st := []) ko_D_isIn rfl kw_1330 (Nat.le_of_ble_eq_true rfl) rfl dk_D_wash_14 (cx_D_isIn (d + 1) p2.toInt64 (0 : Int64) (3 : Int64) c m f u) (fun b2 => ?_)
    refine kv_zif_ne (pc := 17) (tgt := 23) dk_D_wash_17 rfl ?_ ?_
    · refine kv_bipush (pc := 23) (v := (10 : Int32)) dk_D_wash_23 kkb_10 ?_
      refine kv_bipush (pc := 25) (v := (6 : Int32)) dk_D_wash_25 kkb_6 ?_
      refine kv_iload_n (pc := 27) 1 rfl rfl dk_D_wash_27 ?_
      refine kv_imul (pc := 28) dk_D_wash_28 ?_
      refine kv_iadd (pc := 29) dk_D_wash_29 ?_
      refine kv_letI (fun v3 => ?_)
      refine kv_istore_n (pc := 30) (lv' := [(3, .int v3), (0, .ref 84), (1, .int p1), (2, .int p2)]) rfl (Nat.le_of_ble_eq_true rfl) rfl dk_D_wash_30 ?_
      refine kv_aload_n (pc := 31) 1 rfl rfl dk_D_wash_31 ?_
      refine kv_getR (pc := 32) kf_D_9 kr_84 rfl kt_84_0 dk_D_wash_32 ?_
      refine kv_iload_n (pc := 35) 0 rfl rfl dk_D_wash_35 ?_
      refine kv_iconst (pc := 36) (v := (3 : Int32)) dk_D_wash_36 kki_3 ?_
      refine kv_iadd (pc := 37) dk_D_wash_37 ?_
      refine kv_dup2RI (pc := 38) dk_D_wash_38 ?_
      refine kv_guard (fun g4 => ?_)
      refine kv_aldM (pc := 39) kr_85 kn_85 kl_85 g4 rfl dk_D_wash_39 ?_
      refine kv_aload_n (pc := 40) 1 rfl rfl dk_D_wash_40 ?_
      refine kv_getR (pc := 41) kf_D_9 kr_84 rfl kt_84_0 dk_D_wash_41 ?_
      refine kv_bipush (pc := 44) (v := (76 : Int32)) dk_D_wash_44 kkb_76 ?_
      refine kv_iload_n (pc := 46) 3 rfl rfl dk_D_wash_46 ?_
      refine kv_iadd (pc := 47) dk_D_wash_47 ?_
      refine kv_guard (fun g5 => ?_)
      refine kv_aldM (pc := 48) kr_85 kn_85 kl_85 g5 rfl dk_D_wash_48 ?_
      refine kv_isub (pc := 49) dk_D_wash_49 ?_
      refine kv_astM (pc := 50) kr_85 kn_85 kl_85 g4 rfl dk_D_wash_50 (fun m6 => ?_)
      refine kv_aload_n (pc := 51) 1 rfl rfl dk_D_wash_51 ?_
      refine kv_getR (pc := 52) kf_D_9 kr_84 rfl kt_84_0 dk_D_wash_52 ?_
      refine kv_iload_n (pc := 55) 0 rfl rfl dk_D_wash_55 ?_
      refine kv_iconst (pc := 56) (v := (4 : Int32)) dk_D_wash_56 kki_4 ?_
      refine kv_iadd (pc := 57) dk_D_wash_57 ?_
      refine kv_aload_n (pc := 58) 1 rfl rfl dk_D_wash_58 ?_
      refine kv_getR (pc := 59) kf_D_9 kr_84 rfl kt_84_0 dk_D_wash_59 ?_
      refine kv_iconst (pc := 62) (v := (0 : Int32)) dk_D_wash_62 kki_0 ?_
      refine kv_aldM (pc := 63) kr_85 kn_85 kl_85 kkg_0_444 (j := 0) kkx_0 dk_D_wash_63 ?_
      refine kv_iconst (pc := 64) (v := (1 : Int32)) dk_D_wash_64 kki_1 ?_
      refine kv_iadd (pc := 65) dk_D_wash_65 ?_
      refine kv_guard (fun g7 => ?_)
      refine kv_astM (pc := 66) kr_85 kn_85 kl_85 g7 rfl dk_D_wash_66 (fun m8 => ?_)
      refine kv_aload_n (pc := 67) 1 rfl rfl dk_D_wash_67 ?_
      refine kv_getR (pc := 68) kf_D_9 kr_84 rfl kt_84_0 dk_D_wash_68 ?_
      refine kv_iload_n (pc := 71) 0 rfl rfl dk_D_wash_71 ?_
      refine kv_iconst (pc := 72) (v := (5 : Int32)) dk_D_wash_72 kki_5 ?_
      refine kv_iadd (pc := 73) dk_D_wash_73 ?_
      refine kv_dup2RI (pc := 74) dk_D_wash_74 ?_
      refine kv_guard (fun g9 => ?_)
      refine kv_aldM (pc := 75) kr_85 kn_85 kl_85 g9 rfl dk_D_wash_75 ?_
      refine kv_iconst (pc := 76) (v := (1 : Int32)) dk_D_wash_76 kki_1 ?_
      refine kv_iadd (pc := 77) dk_D_wash_77 ?_
      refine kv_astM (pc := 78) kr_85 kn_85 kl_85 g9 rfl dk_D_wash_78 (fun m10 => ?_)
      refine kv_aload_n (pc := 79) 1 rfl rfl dk_D_wash_79 ?_
      refine kv_getR (pc := 80) kf_D_9 kr_84 rfl kt_84_0 dk_D_wash_80 ?_
      refine kv_iload_n (pc := 83) 0 rfl rfl dk_D_wash_83 ?_
      refine kv_iconst (pc := 84) (v := (3 : Int32)) dk_D_wash_84 kki_3 ?_
      refine kv_iadd (pc := 85) dk_D_wash_85 ?_
      refine kv_aldM (pc := 86) kr_85 kn_85 kl_85 g4 rfl dk_D_wash_86 ?_
      exact kv_iret (pc := 87) (fun h => h) rfl dk_D_wash_87
    · refine kv_ldc (pc := 20) (v := (-1000000001 : Int32)) kw_1354 dk_D_wash_20 ?_
      exact kv_iret (pc := 22) (fun h => h) rfl dk_D_wash_22
theorem dk_Lumps_isFreshlyWashed_0 : decode prog_5_method_9_code 0 = .ok (.aload_n 0, 1) := by decide +kernel
theorem dk_Lumps_isFreshlyWashed_1 : decode prog_5_method_9_code 1 = .ok (.getfield 27, 3) := by decide +kernel
theorem dk_Lumps_isFreshlyWashed_4 : decode prog_5_method_9_code 4 = .ok (.iload_n 1, 1) := by decide +kernel
theorem dk_Lumps_isFreshlyWashed_5 : decode prog_5_method_9_code 5 = .ok (.iaload, 1) := by decide +kernel
theorem dk_Lumps_isFreshlyWashed_6 : decode prog_5_method_9_code 6 = .ok (.ifCond .le 23, 3) := by decide +kernel
theorem dk_Lumps_isFreshlyWashed_9 : decode prog_5_method_9_code 9 = .ok (.iload_n 2, 1) := by decide +kernel
theorem dk_Lumps_isFreshlyWashed_10 : decode prog_5_method_9_code 10 = .ok (.aload_n 0, 1) := by decide +kernel
theorem dk_Lumps_isFreshlyWashed_11 : decode prog_5_method_9_code 11 = .ok (.getfield 24, 3) := by decide +kernel
theorem dk_Lumps_isFreshlyWashed_14 : decode prog_5_method_9_code 14 = .ok (.iload_n 1, 1) := by decide +kernel
theorem dk_Lumps_isFreshlyWashed_15 : decode prog_5_method_9_code 15 = .ok (.iaload, 1) := by decide +kernel
theorem dk_Lumps_isFreshlyWashed_16 : decode prog_5_method_9_code 16 = .ok (.isub, 1) := by decide +kernel
theorem dk_Lumps_isFreshlyWashed_17 : decode prog_5_method_9_code 17 = .ok (.iconst 0, 1) := by decide +kernel
theorem dk_Lumps_isFreshlyWashed_18 : decode prog_5_method_9_code 18 = .ok (.iconst 2, 1) := by decide +kernel
theorem dk_Lumps_isFreshlyWashed_19 : decode prog_5_method_9_code 19 = .ok (.invokestatic 49, 3) := by decide +kernel
theorem dk_Lumps_isFreshlyWashed_22 : decode prog_5_method_9_code 22 = .ok (.ifCond .eq 7, 3) := by decide +kernel
theorem dk_Lumps_isFreshlyWashed_25 : decode prog_5_method_9_code 25 = .ok (.iconst 1, 1) := by decide +kernel
theorem dk_Lumps_isFreshlyWashed_26 : decode prog_5_method_9_code 26 = .ok (.goto 4, 3) := by decide +kernel
theorem dk_Lumps_isFreshlyWashed_29 : decode prog_5_method_9_code 29 = .ok (.iconst 0, 1) := by decide +kernel
theorem dk_Lumps_isFreshlyWashed_30 : decode prog_5_method_9_code 30 = .ok (.ireturn, 1) := by decide +kernel
noncomputable def fx_Lumps_isFreshlyWashed (p1 : Int32) (p2 : Int32) (c : (Nat → Nat → Int32)) : Option Bool :=
  kv_gd (kv_in p1 10) (
  if (c 8 p1.toNatClampNeg) ≤ 0 then
    some false
  else
    kv_bind1 (fx_K_isWithin (p2 - (c 7 p1.toNatClampNeg)) (0 : Int32) (2 : Int32)) (fun b2 =>
    if b2 = true then
      some true
    else
      some false))
set_option maxRecDepth 20000 in
theorem cx_Lumps_isFreshlyWashed (d : Nat) (p1 : Int32) (p2 : Int32) (c : (Nat → Nat → Int32)) (y : (Nat → Nat → Int32) × (Nat → Int64) × (Nat → Int64)) : ∀ a, fx_Lumps_isFreshlyWashed p1 p2 c = some a → kv_C kM_Lumps_isFreshlyWashed (d + 1) [.ref 2, .int p1, .int p2] (c, y) (some (.int (kv_b a)), (c, y)) := by
  refine kv_entryX (E := fun a : Bool => (some (.int (kv_b a)), (c, y))) rfl (Nat.le_of_ble_eq_true rfl) (fun o => ?_)
  unfold fx_Lumps_isFreshlyWashed
  show kv_X _ _ _ _ _ 0 [(0, .ref 2), (1, .int p1), (2, .int p2)] [] (c, y)
  refine kv_aload_n (pc := 0) 0 rfl rfl dk_Lumps_isFreshlyWashed_0 ?_
  refine kv_getR (pc := 1) kf_Lumps_27 kr_2 rfl kt_2_5 dk_Lumps_isFreshlyWashed_1 ?_
  refine kv_iload_n (pc := 4) 1 rfl rfl dk_Lumps_isFreshlyWashed_4 ?_
  refine kv_guard (fun g1 => ?_)
  refine kv_aldC (pc := 5) kr_8 kn_8 kl_8 g1 rfl dk_Lumps_isFreshlyWashed_5 ?_
  refine kv_if_le (pc := 6) (tgt := 29) dk_Lumps_isFreshlyWashed_6 rfl ?_ ?_
  · refine kv_iconst (pc := 29) (v := (0 : Int32)) dk_Lumps_isFreshlyWashed_29 kki_0 ?_
    exact kv_zret (pc := 30) (b := false) (fun h => h) rfl dk_Lumps_isFreshlyWashed_30
  · refine kv_iload_n (pc := 9) 2 rfl rfl dk_Lumps_isFreshlyWashed_9 ?_
    refine kv_aload_n (pc := 10) 0 rfl rfl dk_Lumps_isFreshlyWashed_10 ?_
    refine kv_getR (pc := 11) kf_Lumps_24 kr_2 rfl kt_2_4 dk_Lumps_isFreshlyWashed_11 ?_
    refine kv_iload_n (pc := 14) 1 rfl rfl dk_Lumps_isFreshlyWashed_14 ?_
    refine kv_aldC (pc := 15) kr_7 kn_7 kl_7 g1 rfl dk_Lumps_isFreshlyWashed_15 ?_
    refine kv_isub (pc := 16) dk_Lumps_isFreshlyWashed_16 ?_
    refine kv_iconst (pc := 17) (v := (0 : Int32)) dk_Lumps_isFreshlyWashed_17 kki_0 ?_
    refine kv_iconst (pc := 18) (v := (2 : Int32)) dk_Lumps_isFreshlyWashed_18 kki_2 ?_
    refine kv_cN_cZ (pc := 19) (as := [.int (p2 - (c 7 p1.toNatClampNeg)), .int (0 : Int32), .int (2 : Int32)]) (st := []) ko_K_isWithin rfl kw_572 (Nat.le_of_ble_eq_true rfl) rfl dk_Lumps_isFreshlyWashed_19 (cx_K_isWithin d (p2 - (c 7 p1.toNatClampNeg)) (0 : Int32) (2 : Int32) c y) (fun b2 => ?_)
    refine kv_zif_eq (pc := 22) (tgt := 29) dk_Lumps_isFreshlyWashed_22 rfl ?_ ?_
    · refine kv_iconst (pc := 29) (v := (0 : Int32)) dk_Lumps_isFreshlyWashed_29 kki_0 ?_
      exact kv_zret (pc := 30) (b := false) (fun h => h) rfl dk_Lumps_isFreshlyWashed_30
    · refine kv_iconst (pc := 25) (v := (1 : Int32)) dk_Lumps_isFreshlyWashed_25 kki_1 ?_
      refine kv_goto (pc := 26) (tgt := 30) dk_Lumps_isFreshlyWashed_26 rfl ?_
      exact kv_zret (pc := 30) (b := true) (fun h => h) rfl dk_Lumps_isFreshlyWashed_30
theorem dk_Lumps_growth_0 : decode prog_5_method_8_code 0 = .ok (.aload_n 0, 1) := by decide +kernel
theorem dk_Lumps_growth_1 : decode prog_5_method_8_code 1 = .ok (.getfield 9, 3) := by decide +kernel
theorem dk_Lumps_growth_4 : decode prog_5_method_8_code 4 = .ok (.iload_n 1, 1) := by decide +kernel
theorem dk_Lumps_growth_5 : decode prog_5_method_8_code 5 = .ok (.iaload, 1) := by decide +kernel
theorem dk_Lumps_growth_6 : decode prog_5_method_8_code 6 = .ok (.tableswitch 159 2 7 #[38, 62, 81, 102, 129, 157], 38) := by decide +kernel
theorem dk_Lumps_growth_44 : decode prog_5_method_8_code 44 = .ok (.iload_n 2, 1) := by decide +kernel
theorem dk_Lumps_growth_45 : decode prog_5_method_8_code 45 = .ok (.iconst 4, 1) := by decide +kernel
theorem dk_Lumps_growth_46 : decode prog_5_method_8_code 46 = .ok (.irem, 1) := by decide +kernel
theorem dk_Lumps_growth_47 : decode prog_5_method_8_code 47 = .ok (.ifCond .ne 14, 3) := by decide +kernel
theorem dk_Lumps_growth_50 : decode prog_5_method_8_code 50 = .ok (.aload_n 0, 1) := by decide +kernel
theorem dk_Lumps_growth_51 : decode prog_5_method_8_code 51 = .ok (.getfield 18, 3) := by decide +kernel
theorem dk_Lumps_growth_54 : decode prog_5_method_8_code 54 = .ok (.iload_n 1, 1) := by decide +kernel
theorem dk_Lumps_growth_55 : decode prog_5_method_8_code 55 = .ok (.iaload, 1) := by decide +kernel
theorem dk_Lumps_growth_56 : decode prog_5_method_8_code 56 = .ok (.iconst 1, 1) := by decide +kernel
theorem dk_Lumps_growth_57 : decode prog_5_method_8_code 57 = .ok (.iadd, 1) := by decide +kernel
theorem dk_Lumps_growth_58 : decode prog_5_method_8_code 58 = .ok (.goto 9, 3) := by decide +kernel
theorem dk_Lumps_growth_61 : decode prog_5_method_8_code 61 = .ok (.aload_n 0, 1) := by decide +kernel
theorem dk_Lumps_growth_62 : decode prog_5_method_8_code 62 = .ok (.getfield 18, 3) := by decide +kernel
theorem dk_Lumps_growth_65 : decode prog_5_method_8_code 65 = .ok (.iload_n 1, 1) := by decide +kernel
theorem dk_Lumps_growth_66 : decode prog_5_method_8_code 66 = .ok (.iaload, 1) := by decide +kernel
theorem dk_Lumps_growth_67 : decode prog_5_method_8_code 67 = .ok (.ireturn, 1) := by decide +kernel
theorem dk_Lumps_growth_68 : decode prog_5_method_8_code 68 = .ok (.aload_n 0, 1) := by decide +kernel
theorem dk_Lumps_growth_69 : decode prog_5_method_8_code 69 = .ok (.getfield 18, 3) := by decide +kernel
theorem dk_Lumps_growth_72 : decode prog_5_method_8_code 72 = .ok (.iload_n 1, 1) := by decide +kernel
theorem dk_Lumps_growth_73 : decode prog_5_method_8_code 73 = .ok (.iaload, 1) := by decide +kernel
theorem dk_Lumps_growth_74 : decode prog_5_method_8_code 74 = .ok (.aload_n 0, 1) := by decide +kernel
theorem dk_Lumps_growth_75 : decode prog_5_method_8_code 75 = .ok (.getfield 30, 3) := by decide +kernel
theorem dk_Lumps_growth_78 : decode prog_5_method_8_code 78 = .ok (.aload_n 0, 1) := by decide +kernel
theorem dk_Lumps_growth_79 : decode prog_5_method_8_code 79 = .ok (.getfield 15, 3) := by decide +kernel
theorem dk_Lumps_growth_82 : decode prog_5_method_8_code 82 = .ok (.iload_n 1, 1) := by decide +kernel
theorem dk_Lumps_growth_83 : decode prog_5_method_8_code 83 = .ok (.iaload, 1) := by decide +kernel
theorem dk_Lumps_growth_84 : decode prog_5_method_8_code 84 = .ok (.iaload, 1) := by decide +kernel
theorem dk_Lumps_growth_85 : decode prog_5_method_8_code 85 = .ok (.iadd, 1) := by decide +kernel
theorem dk_Lumps_growth_86 : decode prog_5_method_8_code 86 = .ok (.ireturn, 1) := by decide +kernel
theorem dk_Lumps_growth_87 : decode prog_5_method_8_code 87 = .ok (.aload_n 0, 1) := by decide +kernel
theorem dk_Lumps_growth_88 : decode prog_5_method_8_code 88 = .ok (.getfield 18, 3) := by decide +kernel
theorem dk_Lumps_growth_91 : decode prog_5_method_8_code 91 = .ok (.iload_n 1, 1) := by decide +kernel
theorem dk_Lumps_growth_92 : decode prog_5_method_8_code 92 = .ok (.iaload, 1) := by decide +kernel
theorem dk_Lumps_growth_93 : decode prog_5_method_8_code 93 = .ok (.aload_n 0, 1) := by decide +kernel
theorem dk_Lumps_growth_94 : decode prog_5_method_8_code 94 = .ok (.getfield 30, 3) := by decide +kernel
theorem dk_Lumps_growth_97 : decode prog_5_method_8_code 97 = .ok (.aload_n 0, 1) := by decide +kernel
theorem dk_Lumps_growth_98 : decode prog_5_method_8_code 98 = .ok (.getfield 15, 3) := by decide +kernel
theorem dk_Lumps_growth_101 : decode prog_5_method_8_code 101 = .ok (.iload_n 1, 1) := by decide +kernel
theorem dk_Lumps_growth_102 : decode prog_5_method_8_code 102 = .ok (.iaload, 1) := by decide +kernel
theorem dk_Lumps_growth_103 : decode prog_5_method_8_code 103 = .ok (.iaload, 1) := by decide +kernel
theorem dk_Lumps_growth_104 : decode prog_5_method_8_code 104 = .ok (.iadd, 1) := by decide +kernel
theorem dk_Lumps_growth_105 : decode prog_5_method_8_code 105 = .ok (.iconst 2, 1) := by decide +kernel
theorem dk_Lumps_growth_106 : decode prog_5_method_8_code 106 = .ok (.isub, 1) := by decide +kernel
theorem dk_Lumps_growth_107 : decode prog_5_method_8_code 107 = .ok (.ireturn, 1) := by decide +kernel
theorem dk_Lumps_growth_108 : decode prog_5_method_8_code 108 = .ok (.aload_n 0, 1) := by decide +kernel
theorem dk_Lumps_growth_109 : decode prog_5_method_8_code 109 = .ok (.iload_n 1, 1) := by decide +kernel
theorem dk_Lumps_growth_110 : decode prog_5_method_8_code 110 = .ok (.iload_n 2, 1) := by decide +kernel
theorem dk_Lumps_growth_111 : decode prog_5_method_8_code 111 = .ok (.invokevirtual 45, 3) := by decide +kernel
theorem dk_Lumps_growth_114 : decode prog_5_method_8_code 114 = .ok (.ifCond .eq 14, 3) := by decide +kernel
theorem dk_Lumps_growth_117 : decode prog_5_method_8_code 117 = .ok (.iconst 2, 1) := by decide +kernel
theorem dk_Lumps_growth_118 : decode prog_5_method_8_code 118 = .ok (.aload_n 0, 1) := by decide +kernel
theorem dk_Lumps_growth_119 : decode prog_5_method_8_code 119 = .ok (.getfield 18, 3) := by decide +kernel
theorem dk_Lumps_growth_122 : decode prog_5_method_8_code 122 = .ok (.iload_n 1, 1) := by decide +kernel
theorem dk_Lumps_growth_123 : decode prog_5_method_8_code 123 = .ok (.iaload, 1) := by decide +kernel
theorem dk_Lumps_growth_124 : decode prog_5_method_8_code 124 = .ok (.imul, 1) := by decide +kernel
theorem dk_Lumps_growth_125 : decode prog_5_method_8_code 125 = .ok (.goto 9, 3) := by decide +kernel
theorem dk_Lumps_growth_128 : decode prog_5_method_8_code 128 = .ok (.aload_n 0, 1) := by decide +kernel
theorem dk_Lumps_growth_129 : decode prog_5_method_8_code 129 = .ok (.getfield 18, 3) := by decide +kernel
theorem dk_Lumps_growth_132 : decode prog_5_method_8_code 132 = .ok (.iload_n 1, 1) := by decide +kernel
theorem dk_Lumps_growth_133 : decode prog_5_method_8_code 133 = .ok (.iaload, 1) := by decide +kernel
theorem dk_Lumps_growth_134 : decode prog_5_method_8_code 134 = .ok (.ireturn, 1) := by decide +kernel
theorem dk_Lumps_growth_135 : decode prog_5_method_8_code 135 = .ok (.iload_n 2, 1) := by decide +kernel
theorem dk_Lumps_growth_136 : decode prog_5_method_8_code 136 = .ok (.bipush 40, 2) := by decide +kernel
theorem dk_Lumps_growth_138 : decode prog_5_method_8_code 138 = .ok (.irem, 1) := by decide +kernel
theorem dk_Lumps_growth_139 : decode prog_5_method_8_code 139 = .ok (.bipush 13, 2) := by decide +kernel
theorem dk_Lumps_growth_141 : decode prog_5_method_8_code 141 = .ok (.if_icmp .ne 15, 3) := by decide +kernel
theorem dk_Lumps_growth_144 : decode prog_5_method_8_code 144 = .ok (.aload_n 0, 1) := by decide +kernel
theorem dk_Lumps_growth_145 : decode prog_5_method_8_code 145 = .ok (.getfield 18, 3) := by decide +kernel
theorem dk_Lumps_growth_148 : decode prog_5_method_8_code 148 = .ok (.iload_n 1, 1) := by decide +kernel
theorem dk_Lumps_growth_149 : decode prog_5_method_8_code 149 = .ok (.iaload, 1) := by decide +kernel
theorem dk_Lumps_growth_150 : decode prog_5_method_8_code 150 = .ok (.bipush 50, 2) := by decide +kernel
theorem dk_Lumps_growth_152 : decode prog_5_method_8_code 152 = .ok (.isub, 1) := by decide +kernel
theorem dk_Lumps_growth_153 : decode prog_5_method_8_code 153 = .ok (.goto 9, 3) := by decide +kernel
theorem dk_Lumps_growth_156 : decode prog_5_method_8_code 156 = .ok (.aload_n 0, 1) := by decide +kernel
theorem dk_Lumps_growth_157 : decode prog_5_method_8_code 157 = .ok (.getfield 18, 3) := by decide +kernel
theorem dk_Lumps_growth_160 : decode prog_5_method_8_code 160 = .ok (.iload_n 1, 1) := by decide +kernel
theorem dk_Lumps_growth_161 : decode prog_5_method_8_code 161 = .ok (.iaload, 1) := by decide +kernel
theorem dk_Lumps_growth_162 : decode prog_5_method_8_code 162 = .ok (.ireturn, 1) := by decide +kernel
theorem dk_Lumps_growth_163 : decode prog_5_method_8_code 163 = .ok (.iconst 0, 1) := by decide +kernel
theorem dk_Lumps_growth_164 : decode prog_5_method_8_code 164 = .ok (.ireturn, 1) := by decide +kernel
theorem dk_Lumps_growth_165 : decode prog_5_method_8_code 165 = .ok (.aload_n 0, 1) := by decide +kernel
theorem dk_Lumps_growth_166 : decode prog_5_method_8_code 166 = .ok (.getfield 18, 3) := by decide +kernel
theorem dk_Lumps_growth_169 : decode prog_5_method_8_code 169 = .ok (.iload_n 1, 1) := by decide +kernel
theorem dk_Lumps_growth_170 : decode prog_5_method_8_code 170 = .ok (.iaload, 1) := by decide +kernel
theorem dk_Lumps_growth_171 : decode prog_5_method_8_code 171 = .ok (.ireturn, 1) := by decide +kernel
noncomputable def fx_Lumps_growth (p1 : Int32) (p2 : Int32) (c : (Nat → Nat → Int32)) : Option Int32 :=
  kv_gd (kv_in p1 10) (
  if (c 3 p1.toNatClampNeg) = (2 : Int32) then
    if (p2 - p2 / (4 : Int32) * (4 : Int32)) = 0 then
      some ((c 5 p1.toNatClampNeg) + (1 : Int32))
    else
      some (c 5 p1.toNatClampNeg)
  else if (c 3 p1.toNatClampNeg) = (3 : Int32) then
    kv_gd (kv_in (c 4 p1.toNatClampNeg) 6) (
    some ((c 5 p1.toNatClampNeg) + (c 9 (c 4 p1.toNatClampNeg).toNatClampNeg)))
  else if (c 3 p1.toNatClampNeg) = (4 : Int32) then
    kv_gd (kv_in (c 4 p1.toNatClampNeg) 6) (
    some (((c 5 p1.toNatClampNeg) + (c 9 (c 4 p1.toNatClampNeg).toNatClampNeg)) - (2 : Int32)))
  else if (c 3 p1.toNatClampNeg) = (5 : Int32) then
    kv_bind1 (fx_Lumps_isFreshlyWashed p1 p2 c) (fun b8 =>
    if b8 = true then
      some ((2 : Int32) * (c 5 p1.toNatClampNeg))
    else
      some (c 5 p1.toNatClampNeg))
  else if (c 3 p1.toNatClampNeg) = (6 : Int32) then
    if (p2 - p2 / (40 : Int32) * (40 : Int32)) = (13 : Int32) then
      some ((c 5 p1.toNatClampNeg) - (50 : Int32))
    else
      some (c 5 p1.toNatClampNeg)
  else if (c 3 p1.toNatClampNeg) = (7 : Int32) then
    some (0 : Int32)
  else 
  some (c 5 p1.toNatClampNeg))
set_option maxRecDepth 20000 in
theorem cx_Lumps_growth (d : Nat) (p1 : Int32) (p2 : Int32) (c : (Nat → Nat → Int32)) (y : (Nat → Nat → Int32) × (Nat → Int64) × (Nat → Int64)) : ∀ a, fx_Lumps_growth p1 p2 c = some a → kv_C kM_Lumps_growth (d + 2) [.ref 2, .int p1, .int p2] (c, y) (some (.int a), (c, y)) := by
  refine kv_entryX (E := fun a : Int32 => (some (.int a), (c, y))) rfl (Nat.le_of_ble_eq_true rfl) (fun o => ?_)
  unfold fx_Lumps_growth
  show kv_X _ _ _ _ _ 0 [(0, .ref 2), (1, .int p1), (2, .int p2)] [] (c, y)
  refine kv_aload_n (pc := 0) 0 rfl rfl dk_Lumps_growth_0 ?_
  refine kv_getR (pc := 1) kf_Lumps_9 kr_2 rfl kt_2_0 dk_Lumps_growth_1 ?_
  refine kv_iload_n (pc := 4) 1 rfl rfl dk_Lumps_growth_4 ?_
  refine kv_guard (fun g1 => ?_)
  refine kv_aldC (pc := 5) kr_3 kn_3 kl_3 g1 rfl dk_Lumps_growth_5 ?_
  refine kv_swIn (pc := 6) (v := (2 : Int32)) (tgt := 44) dk_Lumps_growth_6 (by decide) (by decide) rfl (by decide) ?_ (fun n2 => ?_)
  · refine kv_iload_n (pc := 44) 2 rfl rfl dk_Lumps_growth_44 ?_
    refine kv_iconst (pc := 45) (v := (4 : Int32)) dk_Lumps_growth_45 kki_4 ?_
    refine kv_irem (pc := 46) dk_Lumps_growth_46 kkn_4 ?_
    refine kv_if_ne (pc := 47) (tgt := 61) dk_Lumps_growth_47 rfl ?_ ?_
    · refine kv_aload_n (pc := 61) 0 rfl rfl dk_Lumps_growth_61 ?_
      refine kv_getR (pc := 62) kf_Lumps_18 kr_2 rfl kt_2_2 dk_Lumps_growth_62 ?_
      refine kv_iload_n (pc := 65) 1 rfl rfl dk_Lumps_growth_65 ?_
      refine kv_aldC (pc := 66) kr_5 kn_5 kl_5 g1 rfl dk_Lumps_growth_66 ?_
      exact kv_iret (pc := 67) (fun h => h) rfl dk_Lumps_growth_67
    · refine kv_aload_n (pc := 50) 0 rfl rfl dk_Lumps_growth_50 ?_
      refine kv_getR (pc := 51) kf_Lumps_18 kr_2 rfl kt_2_2 dk_Lumps_growth_51 ?_
      refine kv_iload_n (pc := 54) 1 rfl rfl dk_Lumps_growth_54 ?_
      refine kv_aldC (pc := 55) kr_5 kn_5 kl_5 g1 rfl dk_Lumps_growth_55 ?_
      refine kv_iconst (pc := 56) (v := (1 : Int32)) dk_Lumps_growth_56 kki_1 ?_
      refine kv_iadd (pc := 57) dk_Lumps_growth_57 ?_
      refine kv_goto (pc := 58) (tgt := 67) dk_Lumps_growth_58 rfl ?_
      exact kv_iret (pc := 67) (fun h => h) rfl dk_Lumps_growth_67
  refine kv_swIn (pc := 6) (v := (3 : Int32)) (tgt := 68) dk_Lumps_growth_6 (by decide) (by decide) rfl (by decide) ?_ (fun n3 => ?_)
  · refine kv_aload_n (pc := 68) 0 rfl rfl dk_Lumps_growth_68 ?_
    refine kv_getR (pc := 69) kf_Lumps_18 kr_2 rfl kt_2_2 dk_Lumps_growth_69 ?_
    refine kv_iload_n (pc := 72) 1 rfl rfl dk_Lumps_growth_72 ?_
    refine kv_aldC (pc := 73) kr_5 kn_5 kl_5 g1 rfl dk_Lumps_growth_73 ?_
    refine kv_aload_n (pc := 74) 0 rfl rfl dk_Lumps_growth_74 ?_
    refine kv_getR (pc := 75) kf_Lumps_30 kr_2 rfl kt_2_6 dk_Lumps_growth_75 ?_
    refine kv_aload_n (pc := 78) 0 rfl rfl dk_Lumps_growth_78 ?_
    refine kv_getR (pc := 79) kf_Lumps_15 kr_2 rfl kt_2_1 dk_Lumps_growth_79 ?_
    refine kv_iload_n (pc := 82) 1 rfl rfl dk_Lumps_growth_82 ?_
    refine kv_aldC (pc := 83) kr_4 kn_4 kl_4 g1 rfl dk_Lumps_growth_83 ?_
    refine kv_guard (fun g4 => ?_)
    refine kv_aldC (pc := 84) kr_9 kn_9 kl_9 g4 rfl dk_Lumps_growth_84 ?_
    refine kv_iadd (pc := 85) dk_Lumps_growth_85 ?_
    exact kv_iret (pc := 86) (fun h => h) rfl dk_Lumps_growth_86
  refine kv_swIn (pc := 6) (v := (4 : Int32)) (tgt := 87) dk_Lumps_growth_6 (by decide) (by decide) rfl (by decide) ?_ (fun n5 => ?_)
  · refine kv_aload_n (pc := 87) 0 rfl rfl dk_Lumps_growth_87 ?_
    refine kv_getR (pc := 88) kf_Lumps_18 kr_2 rfl kt_2_2 dk_Lumps_growth_88 ?_
    refine kv_iload_n (pc := 91) 1 rfl rfl dk_Lumps_growth_91 ?_
    refine kv_aldC (pc := 92) kr_5 kn_5 kl_5 g1 rfl dk_Lumps_growth_92 ?_
    refine kv_aload_n (pc := 93) 0 rfl rfl dk_Lumps_growth_93 ?_
    refine kv_getR (pc := 94) kf_Lumps_30 kr_2 rfl kt_2_6 dk_Lumps_growth_94 ?_
    refine kv_aload_n (pc := 97) 0 rfl rfl dk_Lumps_growth_97 ?_
    refine kv_getR (pc := 98) kf_Lumps_15 kr_2 rfl kt_2_1 dk_Lumps_growth_98 ?_
    refine kv_iload_n (pc := 101) 1 rfl rfl dk_Lumps_growth_101 ?_
    refine kv_aldC (pc := 102) kr_4 kn_4 kl_4 g1 rfl dk_Lumps_growth_102 ?_
    refine kv_guard (fun g6 => ?_)
    refine kv_aldC (pc := 103) kr_9 kn_9 kl_9 g6 rfl dk_Lumps_growth_103 ?_
    refine kv_iadd (pc := 104) dk_Lumps_growth_104 ?_
    refine kv_iconst (pc := 105) (v := (2 : Int32)) dk_Lumps_growth_105 kki_2 ?_
    refine kv_isub (pc := 106) dk_Lumps_growth_106 ?_
    exact kv_iret (pc := 107) (fun h => h) rfl dk_Lumps_growth_107
  refine kv_swIn (pc := 6) (v := (5 : Int32)) (tgt := 108) dk_Lumps_growth_6 (by decide) (by decide) rfl (by decide) ?_ (fun n7 => ?_)
  · refine kv_aload_n (pc := 108) 0 rfl rfl dk_Lumps_growth_108 ?_
    refine kv_iload_n (pc := 109) 1 rfl rfl dk_Lumps_growth_109 ?_
    refine kv_iload_n (pc := 110) 2 rfl rfl dk_Lumps_growth_110 ?_
    refine kv_cV_cZ (pc := 111) (as := [.int p1, .int p2]) (st := []) ko_Lumps_isFreshlyWashed kc_3 rfl rfl kr_2 kw_568 (Nat.le_of_ble_eq_true rfl) rfl dk_Lumps_growth_111 (cx_Lumps_isFreshlyWashed d p1 p2 c y) (fun b8 => ?_)
    refine kv_zif_eq (pc := 114) (tgt := 128) dk_Lumps_growth_114 rfl ?_ ?_
    · refine kv_aload_n (pc := 128) 0 rfl rfl dk_Lumps_growth_128 ?_
      refine kv_getR (pc := 129) kf_Lumps_18 kr_2 rfl kt_2_2 dk_Lumps_growth_129 ?_
      refine kv_iload_n (pc := 132) 1 rfl rfl dk_Lumps_growth_132 ?_
      refine kv_aldC (pc := 133) kr_5 kn_5 kl_5 g1 rfl dk_Lumps_growth_133 ?_
      exact kv_iret (pc := 134) (fun h => h) rfl dk_Lumps_growth_134
    · refine kv_iconst (pc := 117) (v := (2 : Int32)) dk_Lumps_growth_117 kki_2 ?_
      refine kv_aload_n (pc := 118) 0 rfl rfl dk_Lumps_growth_118 ?_
      refine kv_getR (pc := 119) kf_Lumps_18 kr_2 rfl kt_2_2 dk_Lumps_growth_119 ?_
      refine kv_iload_n (pc := 122) 1 rfl rfl dk_Lumps_growth_122 ?_
      refine kv_aldC (pc := 123) kr_5 kn_5 kl_5 g1 rfl dk_Lumps_growth_123 ?_
      refine kv_imul (pc := 124) dk_Lumps_growth_124 ?_
      refine kv_goto (pc := 125) (tgt := 134) dk_Lumps_growth_125 rfl ?_
      exact kv_iret (pc := 134) (fun h => h) rfl dk_Lumps_growth_134
  refine kv_swIn (pc := 6) (v := (6 : Int32)) (tgt := 135) dk_Lumps_growth_6 (by decide) (by decide) rfl (by decide) ?_ (fun n9 => ?_)
  · refine kv_iload_n (pc := 135) 2 rfl rfl dk_Lumps_growth_135 ?_
    refine kv_bipush (pc := 136) (v := (40 : Int32)) dk_Lumps_growth_136 kkb_40 ?_
    refine kv_irem (pc := 138) dk_Lumps_growth_138 kkn_40 ?_
    refine kv_bipush (pc := 139) (v := (13 : Int32)) dk_Lumps_growth_139 kkb_13 ?_
    refine kv_icmp_ne (pc := 141) (tgt := 156) dk_Lumps_growth_141 rfl ?_ ?_
    · refine kv_aload_n (pc := 156) 0 rfl rfl dk_Lumps_growth_156 ?_
      refine kv_getR (pc := 157) kf_Lumps_18 kr_2 rfl kt_2_2 dk_Lumps_growth_157 ?_
      refine kv_iload_n (pc := 160) 1 rfl rfl dk_Lumps_growth_160 ?_
      refine kv_aldC (pc := 161) kr_5 kn_5 kl_5 g1 rfl dk_Lumps_growth_161 ?_
      exact kv_iret (pc := 162) (fun h => h) rfl dk_Lumps_growth_162
    · refine kv_aload_n (pc := 144) 0 rfl rfl dk_Lumps_growth_144 ?_
      refine kv_getR (pc := 145) kf_Lumps_18 kr_2 rfl kt_2_2 dk_Lumps_growth_145 ?_
      refine kv_iload_n (pc := 148) 1 rfl rfl dk_Lumps_growth_148 ?_
      refine kv_aldC (pc := 149) kr_5 kn_5 kl_5 g1 rfl dk_Lumps_growth_149 ?_
      refine kv_bipush (pc := 150) (v := (50 : Int32)) dk_Lumps_growth_150 kkb_50 ?_
      refine kv_isub (pc := 152) dk_Lumps_growth_152 ?_
      refine kv_goto (pc := 153) (tgt := 162) dk_Lumps_growth_153 rfl ?_
      exact kv_iret (pc := 162) (fun h => h) rfl dk_Lumps_growth_162
  refine kv_swIn (pc := 6) (v := (7 : Int32)) (tgt := 163) dk_Lumps_growth_6 (by decide) (by decide) rfl (by decide) ?_ (fun n10 => ?_)
  · refine kv_iconst (pc := 163) (v := (0 : Int32)) dk_Lumps_growth_163 kki_0 ?_
    exact kv_iret (pc := 164) (fun h => h) rfl dk_Lumps_growth_164
  refine kv_swOut (pc := 6) (tgt := 165) dk_Lumps_growth_6 (by have qn2 := kv_ne (2 : Int32) (k := 2) rfl n2; have qn3 := kv_ne (3 : Int32) (k := 3) rfl n3; have qn5 := kv_ne (4 : Int32) (k := 4) rfl n5; have qn7 := kv_ne (5 : Int32) (k := 5) rfl n7; have qn9 := kv_ne (6 : Int32) (k := 6) rfl n9; have qn10 := kv_ne (7 : Int32) (k := 7) rfl n10; omega) (by decide) ?_
  refine kv_aload_n (pc := 165) 0 rfl rfl dk_Lumps_growth_165 ?_
  refine kv_getR (pc := 166) kf_Lumps_18 kr_2 rfl kt_2_2 dk_Lumps_growth_166 ?_
  refine kv_iload_n (pc := 169) 1 rfl rfl dk_Lumps_growth_169 ?_
  refine kv_aldC (pc := 170) kr_5 kn_5 kl_5 g1 rfl dk_Lumps_growth_170 ?_
  exact kv_iret (pc := 171) (fun h => h) rfl dk_Lumps_growth_171
